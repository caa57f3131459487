set_option maxRecDepth 100000 in
theorem eX7_type_0 {call : Nat → List MV → Mem → Option Res} {S : Mem} {kc ks : Nat}  : mm_E call pX7_type 1 0 [some (.inr 0)] [] S kc ks = mm_bd (call 17 [.inr 1] S) kc ks (fun S1 c1 t1 a1 => (if a1 < 8 then mm_bd (call 27 [.inr 1] S1) c1 t1 (fun S2 c2 t2 a2 => some (S2, c2, t2, 0, a2)) else some (S1, c1 + 1, t1 + 6, 1, 0))) := by
  refine mm_E_eq [0] 9 ?_
  generalize mm_E call pX7_type 1 = k
  rfl
set_option maxRecDepth 100000 in
theorem eX7_maker_0 {call : Nat → List MV → Mem → Option Res} {S : Mem} {kc ks : Nat} {x1 : Int32} {x2 : Int32} {x3 : Int32} {x4 : Int32} : mm_E call pX7_maker 1 0 [some (.inr 0), some (.inl x1), some (.inl x2), some (.inl x3), some (.inl x4), none] [] S kc ks = mm_bd (call 105 [.inr 0, .inl x2, .inl x3, .inl x4] S) kc ks (fun S1 c1 t1 a1 => mm_bd (call 19 [.inr 1, .inl x1] S1) c1 t1 (fun S2 c2 t2 a2 => (if a2 = 0 then some (S2, c2 + 1, t2 + 6, 3, 0) else (if a1 = ((-1)) then some (S2, c2 + 1, t2 + 6, 3, 0) else mm_bd (call 21 [.inr 1, .inl x1] S2) c2 t2 (fun S3 c3 t3 a3 => (if a3 = 0 then some (S3, c3 + 1, t3 + 6, 1, 0) else mm_bd (call 106 [.inr 0, .inl 0, .inl ((-1)), .inl ((-1)), .inl ((-1))] S3) c3 t3 (fun S4 c4 t4 a4 => mm_bd (call 28 [.inr 1, .inl x1, .inl a1, .inl x2, .inl x3, .inl x4] S4) c4 t4 (fun S5 c5 t5 a5 => some (S5, c5, t5, 0, a5))))))))) := by
  refine mm_E_eq [0] 34 ?_
  generalize mm_E call pX7_maker 1 = k
  rfl
set_option maxRecDepth 100000 in
theorem eX7_isEmpty_0 {call : Nat → List MV → Mem → Option Res} {S : Mem} {kc ks : Nat} {x1 : Int32} : mm_E call pX7_isEmpty 2 0 [some (.inr 0), some (.inl x1)] [] S kc ks = mm_bd (call 19 [.inr 1, .inl x1] S) kc ks (fun S1 c1 t1 a1 => (if a1 = 0 then some (S1, c1 + 1, t1 + 6, 3, 0) else mm_bd (call 22 [.inr 1, .inl x1] S1) c1 t1 (fun S2 c2 t2 a2 => (if a2 = 0 then some (S2, c2, t2, 0, 1) else some (S2, c2, t2, 0, 0))))) := by
  refine mm_E_eq [0] 13 ?_
  generalize mm_E call pX7_isEmpty 2 = k
  rfl
set_option maxRecDepth 100000 in
theorem eX7_match_0 {call : Nat → List MV → Mem → Option Res} {S : Mem} {kc ks : Nat} {x1 : Int32} {x2 : Int32} {x3 : Int32} : mm_E call pX7_match 0 0 [some (.inr 0), some (.inl x1), some (.inl x2), some (.inl x3), none] [] S kc ks = mm_bd (call 105 [.inr 0, .inl x1, .inl x2, .inl x3] S) kc ks (fun S1 c1 t1 a1 => (if a1 = ((-1)) then some (S1, c1 + 1, t1 + 6, 3, 0) else (if a1 = 0 then some (S1, c1 + 1, t1 + 6, 3, 0) else mm_bd (call 106 [.inr 0, .inl a1, .inl x1, .inl x2, .inl x3] S1) c1 t1 (fun S2 c2 t2 a2 => some (S2, c2, t2, 0, 0))))) := by
  refine mm_E_eq [0] 18 ?_
  generalize mm_E call pX7_match 0 = k
  rfl
set_option maxRecDepth 100000 in
theorem eX7_sign_0 {call : Nat → List MV → Mem → Option Res} {S : Mem} {kc ks : Nat} {x1 : Int32} : mm_E call pX7_sign 1 0 [some (.inr 0), some (.inl x1), none] [] S kc ks = mm_bd (call 107 [.inr 0] S) kc ks (fun S1 c1 t1 a1 => mm_bd (call 8 [.inr 11] S1) c1 t1 (fun S2 c2 t2 a2 => (if a2 = 0 then mm_bd (call 10 [.inr 11, .inl x1] S2) c2 t2 (fun S3 c3 t3 a3 => (if a3 = 0 then mm_bd (call 9 [.inr 11] S3) c3 t3 (fun S4 c4 t4 a4 => (if a4 = 0 then some (S4, c4 + 1, t4 + 6, 2, 0) else (if x1 = ((-1)) then mm_bd (call 11 [.inr 11, .inl x1] S4) c4 t4 (fun S5 c5 t5 a5 => some (S5, c5, t5, 0, a5)) else (if x1 = ((-2)) then mm_bd (call 11 [.inr 11, .inl x1] S4) c4 t4 (fun S6 c6 t6 a6 => some (S6, c6, t6, 0, a6)) else some (S4, c4 + 1, t4 + 6, 2, 0))))) else mm_bd (call 11 [.inr 11, .inl x1] S3) c3 t3 (fun S7 c7 t7 a7 => some (S7, c7, t7, 0, a7)))) else some (S2, c2 + 1, t2 + 6, 1, 0)))) := by
  refine mm_E_eq [0] 31 ?_
  generalize mm_E call pX7_sign 1 = k
  rfl
set_option maxRecDepth 100000 in
theorem eX7_row_0 {call : Nat → List MV → Mem → Option Res} {S : Mem} {kc ks : Nat}  : mm_E call pX7_row 1 0 [some (.inr 0), none] [] S kc ks = mm_bd (call 107 [.inr 0] S) kc ks (fun S1 c1 t1 a1 => mm_bd (call 31 [.inr 8] S1) c1 t1 (fun S2 c2 t2 a2 => (if a2 < 12 then mm_bd (call 9 [.inr 11] S2) c2 t2 (fun S3 c3 t3 a3 => (if a3 = 0 then mm_bd (call 68 [.inr 19] S3) c3 t3 (fun S4 c4 t4 a4 => mm_bd (call 32 [.inr 8, .inr 11] S4) c4 t4 (fun S5 c5 t5 a5 => mm_bd (call 6 [.inr 11, .inr 7, .inl (S5 0 2)] S5) c5 t5 (fun S6 c6 t6 a6 => some (S6, c6, t6, 0, a5)))) else mm_bd (call 6 [.inr 11, .inr 7, .inl (S3 0 2)] S3) c3 t3 (fun S7 c7 t7 a7 => some (S7, c7 + 1, t7 + 6, 2, 0)))) else some (S2, c2 + 1, t2 + 6, 1, 0)))) := by
  refine mm_E_eq [0] 29 ?_
  generalize mm_E call pX7_row 1 = k
  rfl
set_option maxRecDepth 100000 in
theorem eX7_compile_0 {call : Nat → List MV → Mem → Option Res} {S : Mem} {kc ks : Nat}  : mm_E call pX7_compile 1 0 [some (.inr 0), none] [] S kc ks = mm_bd (call 107 [.inr 0] S) kc ks (fun S1 c1 t1 a1 => mm_bd (call 0 [.inr 23] S1) c1 t1 (fun S2 c2 t2 a2 => mm_bd (call 112 [.inr 0] S2) c2 t2 (fun S3 c3 t3 a3 => (if a3 = 0 then mm_bd (call 68 [.inr 19] S3) c3 t3 (fun S4 c4 t4 a4 => some (S4, c4 + 1, t4 + 6, 4, 0)) else mm_bd (call 69 [.inr 19] S3) c3 t3 (fun S5 c5 t5 a5 => mm_bd (call 71 [.inr 19] S5) c5 t5 (fun S6 c6 t6 a6 => some (S6, c6, t6, 0, a6))))))) := by
  refine mm_E_eq [0] 17 ?_
  generalize mm_E call pX7_compile 1 = k
  rfl
set_option maxRecDepth 100000 in
theorem eX7_node_0 {call : Nat → List MV → Mem → Option Res} {S : Mem} {kc ks : Nat} {x1 : Int32} {x2 : Int32} : mm_E call pX7_node 1 0 [some (.inr 0), some (.inl x1), some (.inl x2)] [] S kc ks = mm_bd (call 70 [.inr 19] S) kc ks (fun S1 c1 t1 a1 => (if a1 = 0 then some (S1, c1 + 1, t1 + 6, 5, 0) else (if x1 < 0 then some (S1, c1 + 1, t1 + 6, 5, 0) else mm_bd (call 71 [.inr 19] S1) c1 t1 (fun S2 c2 t2 a2 => (if x1 < a2 then mm_bd (call 80 [.inr 19, .inl x1, .inl x2] S2) c2 t2 (fun S3 c3 t3 a3 => some (S3, c3, t3, 0, a3)) else some (S2, c2 + 1, t2 + 6, 5, 0)))))) := by
  refine mm_E_eq [0] 17 ?_
  generalize mm_E call pX7_node 1 = k
  rfl
set_option maxRecDepth 100000 in
theorem eX7_missing_0 {call : Nat → List MV → Mem → Option Res} {S : Mem} {kc ks : Nat}  : mm_E call pX7_missing 1 0 [some (.inr 0)] [] S kc ks = mm_bd (call 70 [.inr 19] S) kc ks (fun S1 c1 t1 a1 => (if a1 = 0 then some (S1, c1, t1, 0, (-1)) else mm_bd (call 72 [.inr 19] S1) c1 t1 (fun S2 c2 t2 a2 => some (S2, c2, t2, 0, a2)))) := by
  refine mm_E_eq [0] 9 ?_
  generalize mm_E call pX7_missing 1 = k
  rfl
set_option maxRecDepth 100000 in
theorem eX7_missingSign_0 {call : Nat → List MV → Mem → Option Res} {S : Mem} {kc ks : Nat} {x1 : Int32} {x2 : Int32} : mm_E call pX7_missingSign 1 0 [some (.inr 0), some (.inl x1), some (.inl x2)] [] S kc ks = mm_bd (call 70 [.inr 19] S) kc ks (fun S1 c1 t1 a1 => (if a1 = 0 then some (S1, c1 + 1, t1 + 6, 5, 0) else (if x1 < 0 then some (S1, c1 + 1, t1 + 6, 5, 0) else mm_bd (call 72 [.inr 19] S1) c1 t1 (fun S2 c2 t2 a2 => (if x1 < a2 then mm_bd (call 1 [.inr 23] S2) c2 t2 (fun S3 c3 t3 a3 => (if a3 = x1 then mm_bd (call 3 [.inr 23, .inl x2] S3) c3 t3 (fun S4 c4 t4 a4 => some (S4, c4, t4, 0, a4)) else mm_bd (call 2 [.inr 23, .inl x1, .inl (S3 0 2)] S3) c3 t3 (fun S5 c5 t5 a5 => mm_bd (call 3 [.inr 23, .inl x2] S5) c5 t5 (fun S6 c6 t6 a6 => some (S6, c6, t6, 0, a6))))) else some (S2, c2 + 1, t2 + 6, 5, 0)))))) := by
  refine mm_E_eq [0] 27 ?_
  generalize mm_E call pX7_missingSign 1 = k
  rfl
set_option maxRecDepth 100000 in
theorem eX7_isIdle_0 {call : Nat → List MV → Mem → Option Res} {S : Mem} {kc ks : Nat} {x1 : Int32} : mm_E call pX7_isIdle 2 0 [some (.inr 0), some (.inl x1)] [] S kc ks = mm_bd (call 70 [.inr 19] S) kc ks (fun S1 c1 t1 a1 => (if a1 = 0 then some (S1, c1 + 1, t1 + 6, 5, 0) else (if x1 < 0 then some (S1, c1 + 1, t1 + 6, 5, 0) else mm_bd (call 31 [.inr 8] S1) c1 t1 (fun S2 c2 t2 a2 => (if x1 < a2 then mm_bd (call 84 [.inr 19, .inl x1] S2) c2 t2 (fun S3 c3 t3 a3 => (if a3 = 0 then some (S3, c3, t3, 0, 1) else some (S3, c3, t3, 0, 0))) else some (S2, c2 + 1, t2 + 6, 5, 0)))))) := by
  refine mm_E_eq [0] 19 ?_
  generalize mm_E call pX7_isIdle 2 = k
  rfl
set_option maxRecDepth 100000 in
theorem eX7_give_0 {call : Nat → List MV → Mem → Option Res} {S : Mem} {kc ks : Nat} {x1 : Int32} : mm_E call pX7_give 1 0 [some (.inr 0), some (.inl x1)] [] S kc ks = mm_bd (call 107 [.inr 0] S) kc ks (fun S1 c1 t1 a1 => mm_bd (call 8 [.inr 15] S1) c1 t1 (fun S2 c2 t2 a2 => (if a2 = 0 then mm_bd (call 10 [.inr 15, .inl x1] S2) c2 t2 (fun S3 c3 t3 a3 => (if a3 = 0 then some (S3, c3 + 1, t3 + 6, 2, 0) else mm_bd (call 11 [.inr 15, .inl x1] S3) c3 t3 (fun S4 c4 t4 a4 => some (S4, c4, t4, 0, a4)))) else some (S2, c2 + 1, t2 + 6, 1, 0)))) := by
  refine mm_E_eq [0] 16 ?_
  generalize mm_E call pX7_give 1 = k
  rfl
set_option maxRecDepth 100000 in
theorem eX7_answer_0 {call : Nat → List MV → Mem → Option Res} {S : Mem} {kc ks : Nat}  : mm_E call pX7_answer 1 0 [some (.inr 0), none] [] S kc ks = mm_bd (call 108 [.inr 0] S) kc ks (fun S1 c1 t1 a1 => mm_bd (call 14 [.inr 15] S1) c1 t1 (fun S2 c2 t2 a2 => mm_E call pX7_answer 1 7 [some (.inr 0), some (.inl 0)] [] S2 c2 t2)) := by
  refine mm_E_eq [0, 7] 7 ?_
  generalize mm_E call pX7_answer 1 = k
  rfl
set_option maxRecDepth 100000 in
theorem eX7_answer_7 {call : Nat → List MV → Mem → Option Res} {S : Mem} {kc ks : Nat} {x1 : Int32} : mm_E call pX7_answer 1 7 [some (.inr 0), some (.inl x1)] [] S kc ks = mm_bd (call 31 [.inr 8] S) kc ks (fun S1 c1 t1 a1 => (if a1 ≤ x1 then some (S1, c1, t1, 0, (-1)) else mm_bd (call 109 [.inr 0, .inl x1] S1) c1 t1 (fun S2 c2 t2 a2 => (if a2 = 0 then mm_E call pX7_answer 1 7 [some (.inr 0), some (.inl (x1 + 1))] [] S2 c2 t2 else some (S2, c2, t2, 0, x1))))) := by
  refine mm_E_eq [0, 7] 11 ?_
  generalize mm_E call pX7_answer 1 = k
  rfl
set_option maxRecDepth 100000 in
theorem eX7_tests_0 {call : Nat → List MV → Mem → Option Res} {S : Mem} {kc ks : Nat}  : mm_E call pX7_tests 1 0 [some (.inr 0)] [] S kc ks = mm_bd (call 108 [.inr 0] S) kc ks (fun S1 c1 t1 a1 => mm_bd (call 70 [.inr 19] S1) c1 t1 (fun S2 c2 t2 a2 => (if a2 = 0 then some (S2, c2 + 1, t2 + 6, 5, 0) else mm_bd (call 14 [.inr 15] S2) c2 t2 (fun S3 c3 t3 a3 => mm_bd (call 111 [.inr 0] S3) c3 t3 (fun S4 c4 t4 a4 => some (S4, c4, t4, 0, a4)))))) := by
  refine mm_E_eq [0] 12 ?_
  generalize mm_E call pX7_tests 1 = k
  rfl
set_option maxRecDepth 100000 in
theorem eX7_empty_0 {call : Nat → List MV → Mem → Option Res} {S : Mem} {kc ks : Nat}  : mm_E call pX7_empty 0 0 [some (.inr 0)] [] S kc ks = mm_bd (call 6 [.inr 15, .inr 7, .inl (S 0 2)] S) kc ks (fun S1 c1 t1 a1 => some (S1, c1, t1, 0, 0)) := by
  refine mm_E_eq [0] 8 ?_
  generalize mm_E call pX7_empty 0 = k
  rfl
set_option maxRecDepth 100000 in
theorem eX7_countTypes_0 {call : Nat → List MV → Mem → Option Res} {S : Mem} {kc ks : Nat} {x1 : Int32} {x2 : Int32} {x3 : Int32} : mm_E call pX7_countTypes 1 0 [some (.inr 0), some (.inl x1), some (.inl x2), some (.inl x3)] [] S kc ks = (if x1 = ((-1)) then some (S, kc, ks, 0, 0) else mm_bd (call 19 [.inr 1, .inl x1] S) kc ks (fun S1 c1 t1 a1 => (if a1 = 0 then some (S1, c1, t1, 0, (-1)) else (if x2 = ((-1)) then some (S1, c1, t1, 0, 1) else mm_bd (call 19 [.inr 1, .inl x2] S1) c1 t1 (fun S2 c2 t2 a2 => (if a2 = 0 then some (S2, c2, t2, 0, (-1)) else (if x3 = ((-1)) then some (S2, c2, t2, 0, 2) else mm_bd (call 19 [.inr 1, .inl x3] S2) c2 t2 (fun S3 c3 t3 a3 => (if a3 = 0 then some (S3, c3, t3, 0, (-1)) else some (S3, c3, t3, 0, 3)))))))))) := by
  refine mm_E_eq [0] 27 ?_
  generalize mm_E call pX7_countTypes 1 = k
  rfl
set_option maxRecDepth 100000 in
theorem eX7_beginMatch_0 {call : Nat → List MV → Mem → Option Res} {S : Mem} {kc ks : Nat} {x1 : Int32} {x2 : Int32} {x3 : Int32} {x4 : Int32} : mm_E call pX7_beginMatch 0 0 [some (.inr 0), some (.inl x1), some (.inl x2), some (.inl x3), some (.inl x4)] [] S kc ks = mm_arr (mm_put S 0 2 x1) 1 7 0 (fun q1 => mm_arr (mm_put (mm_put S 0 2 x1) 7 q1 x2) 1 7 1 (fun q2 => mm_arr (mm_put (mm_put (mm_put S 0 2 x1) 7 q1 x2) 7 q2 x3) 1 7 2 (fun q3 => mm_bd (call 30 [.inr 8] (mm_put (mm_put (mm_put (mm_put S 0 2 x1) 7 q1 x2) 7 q2 x3) 7 q3 x4)) kc ks (fun S4 c4 t4 a4 => mm_bd (call 68 [.inr 19] S4) c4 t4 (fun S5 c5 t5 a5 => mm_bd (call 6 [.inr 11, .inr 7, .inl (S5 0 2)] S5) c5 t5 (fun S6 c6 t6 a6 => mm_bd (call 6 [.inr 15, .inr 7, .inl (S6 0 2)] S6) c6 t6 (fun S7 c7 t7 a7 => some (S7, c7, t7, 0, 0)))))))) := by
  refine mm_E_eq [0] 39 ?_
  generalize mm_E call pX7_beginMatch 0 = k
  rfl
set_option maxRecDepth 100000 in
theorem eX7_refuseWithoutMatch_0 {call : Nat → List MV → Mem → Option Res} {S : Mem} {kc ks : Nat}  : mm_E call pX7_refuseWithoutMatch 0 0 [some (.inr 0)] [] S kc ks = (if (S 0 2) = 0 then some (S, kc + 1, ks + 6, 1, 0) else some (S, kc, ks, 0, 0)) := by
  refine mm_E_eq [0] 4 ?_
  generalize mm_E call pX7_refuseWithoutMatch 0 = k
  rfl
set_option maxRecDepth 100000 in
theorem eX7_refuseWithoutWholeValues_0 {call : Nat → List MV → Mem → Option Res} {S : Mem} {kc ks : Nat}  : mm_E call pX7_refuseWithoutWholeValues 0 0 [some (.inr 0)] [] S kc ks = mm_bd (call 107 [.inr 0] S) kc ks (fun S1 c1 t1 a1 => mm_bd (call 9 [.inr 15] S1) c1 t1 (fun S2 c2 t2 a2 => (if a2 = 0 then some (S2, c2, t2, 0, 0) else some (S2, c2 + 1, t2 + 6, 2, 0)))) := by
  refine mm_E_eq [0] 7 ?_
  generalize mm_E call pX7_refuseWithoutWholeValues 0 = k
  rfl
set_option maxRecDepth 100000 in
theorem eX7_rowTakesValues_0 {call : Nat → List MV → Mem → Option Res} {S : Mem} {kc ks : Nat} {x1 : Int32} : mm_E call pX7_rowTakesValues 2 0 [some (.inr 0), some (.inl x1), none, none, none] [] S kc ks = mm_bd (call 33 [.inr 8, .inl x1] S) kc ks (fun S1 c1 t1 a1 => mm_E call pX7_rowTakesValues 2 9 [some (.inr 0), some (.inl x1), some (.inl a1), some (.inl 0), some (.inl 0)] [] S1 c1 t1) := by
  refine mm_E_eq [0, 9] 9 ?_
  generalize mm_E call pX7_rowTakesValues 2 = k
  rfl
set_option maxRecDepth 100000 in
theorem eX7_rowTakesValues_9 {call : Nat → List MV → Mem → Option Res} {S : Mem} {kc ks : Nat} {o1 : Option MV} {x2 : Int32} {x3 : Int32} {x4 : Int32} : mm_E call pX7_rowTakesValues 2 9 [some (.inr 0), o1, some (.inl x2), some (.inl x3), some (.inl x4)] [] S kc ks = (if (S 0 2) ≤ x4 then some (S, kc, ks, 0, 1) else mm_bd (call 110 [.inr 0, .inl x2, .inl x3, .inl 0] S) kc ks (fun S1 c1 t1 a1 => (if a1 = 0 then some (S1, c1, t1, 0, 0) else mm_bd (call 35 [.inr 8, .inl x2] S1) c1 t1 (fun S2 c2 t2 a2 => mm_bd (call 13 [.inr 15, .inl x3] S2) c2 t2 (fun S3 c3 t3 a3 => mm_E call pX7_rowTakesValues 2 9 [some (.inr 0), o1, some (.inl a2), some (.inl a3), some (.inl (x4 + 1))] [] S3 c3 t3))))) := by
  refine mm_E_eq [0, 9] 22 ?_
  generalize mm_E call pX7_rowTakesValues 2 = k
  rfl
set_option maxRecDepth 100000 in
theorem eX7_takes_0 {call : Nat → List MV → Mem → Option Res} {S : Mem} {kc ks : Nat} {x1 : Int32} {x2 : Int32} {x3 : Int32} : mm_E call pX7_takes 2 0 [some (.inr 0), some (.inl x1), some (.inl x2), some (.inl x3), none, none, none, none, none] [] S kc ks = mm_bd (call 34 [.inr 8, .inl x1] S) kc ks (fun S1 c1 t1 a1 => (if a1 = ((-1)) then some (S1, c1, t1, 0, 1) else (if x3 < 40 then (if a1 = ((-2)) then mm_bd (call 110 [.inr 0, .inl (x1 + 1), .inl x2, .inl (x3 + 1)] S1) c1 t1 (fun S2 c2 t2 a2 => (if a2 = 0 then mm_bd (call 35 [.inr 8, .inl (x1 + 1)] S2) c2 t2 (fun S3 c3 t3 a3 => mm_bd (call 110 [.inr 0, .inl a3, .inl x2, .inl (x3 + 1)] S3) c3 t3 (fun S4 c4 t4 a4 => (if a4 = 0 then some (S4, c4, t4, 0, 0) else some (S4, c4, t4, 0, 1)))) else some (S2, c2, t2, 0, 1))) else mm_bd (call 12 [.inr 15, .inl x2] S1) c1 t1 (fun S5 c5 t5 a5 => (if a1 = a5 then mm_bd (call 24 [.inr 1, .inl a1] S5) c5 t5 (fun S6 c6 t6 a6 => mm_E call pX7_takes 2 64 [some (.inr 0), some (.inl x1), some (.inl x2), some (.inl x3), some (.inl a1), some (.inl (x1 + 1)), some (.inl (x2 + 1)), some (.inl a6), some (.inl 0)] [] S6 c6 t6) else some (S5, c5, t5, 0, 0)))) else some (S1, c1, t1, 0, 0)))) := by
  refine mm_E_eq [0, 64] 40 ?_
  generalize mm_E call pX7_takes 2 = k
  rfl
set_option maxRecDepth 100000 in
theorem eX7_takes_64 {call : Nat → List MV → Mem → Option Res} {S : Mem} {kc ks : Nat} {o1 : Option MV} {o2 : Option MV} {x3 : Int32} {o4 : Option MV} {x5 : Int32} {x6 : Int32} {x7 : Int32} {x8 : Int32} : mm_E call pX7_takes 2 64 [some (.inr 0), o1, o2, some (.inl x3), o4, some (.inl x5), some (.inl x6), some (.inl x7), some (.inl x8)] [] S kc ks = (if x7 ≤ x8 then some (S, kc, ks, 0, 1) else mm_bd (call 110 [.inr 0, .inl x5, .inl x6, .inl (x3 + 1)] S) kc ks (fun S1 c1 t1 a1 => (if a1 = 0 then some (S1, c1, t1, 0, 0) else mm_bd (call 35 [.inr 8, .inl x5] S1) c1 t1 (fun S2 c2 t2 a2 => mm_bd (call 13 [.inr 15, .inl x6] S2) c2 t2 (fun S3 c3 t3 a3 => mm_E call pX7_takes 2 64 [some (.inr 0), o1, o2, some (.inl x3), o4, some (.inl a2), some (.inl a3), some (.inl x7), some (.inl (x8 + 1))] [] S3 c3 t3))))) := by
  refine mm_E_eq [0, 64] 23 ?_
  generalize mm_E call pX7_takes 2 = k
  rfl
set_option maxRecDepth 100000 in
theorem eX7_countTests_0 {call : Nat → List MV → Mem → Option Res} {S : Mem} {kc ks : Nat}  : mm_E call pX7_countTests 1 0 [some (.inr 0), none, none, none, none] [] S kc ks = mm_bd (call 36 [.inr 25, .inl (S 0 2)] S) kc ks (fun S1 c1 t1 a1 => mm_E call pX7_countTests 1 9 [some (.inr 0), some (.inl 0), some (.inl 0), none, none] [] S1 c1 t1) := by
  refine mm_E_eq [0, 9] 9 ?_
  generalize mm_E call pX7_countTests 1 = k
  rfl
set_option maxRecDepth 100000 in
theorem eX7_countTests_9 {call : Nat → List MV → Mem → Option Res} {S : Mem} {kc ks : Nat} {x1 : Int32} {x2 : Int32} {o3 : Option MV} {o4 : Option MV} : mm_E call pX7_countTests 1 9 [some (.inr 0), some (.inl x1), some (.inl x2), o3, o4] [] S kc ks = (if 300 ≤ x2 then some (S, kc, ks, 0, x2) else mm_bd (call 77 [.inr 19, .inl x1] S) kc ks (fun S1 c1 t1 a1 => (if a1 = 2 then mm_bd (call 78 [.inr 19, .inl x1] S1) c1 t1 (fun S2 c2 t2 a2 => mm_bd (call 37 [.inr 25, .inl a2] S2) c2 t2 (fun S3 c3 t3 a3 => mm_bd (call 81 [.inr 19, .inl x1, .inl a3] S3) c3 t3 (fun S4 c4 t4 a4 => mm_bd (call 38 [.inr 25, .inl a2, .inl a3] S4) c4 t4 (fun S5 c5 t5 a5 => mm_E call pX7_countTests 1 9 [some (.inr 0), some (.inl a4), some (.inl (x2 + 1)), some (.inl a2), some (.inl a3)] [] S5 c5 t5)))) else some (S1, c1, t1, 0, x2)))) := by
  refine mm_E_eq [0, 9] 32 ?_
  generalize mm_E call pX7_countTests 1 = k
  rfl
set_option maxRecDepth 100000 in
theorem eX7_growTree_0 {call : Nat → List MV → Mem → Option Res} {S : Mem} {kc ks : Nat}  : mm_E call pX7_growTree 2 0 [some (.inr 0), none, none, none, none] [] S kc ks = mm_bd (call 68 [.inr 19] S) kc ks (fun S1 c1 t1 a1 => mm_bd (call 41 [.inr 21, .inr 7, .inl (S1 0 2)] S1) c1 t1 (fun S2 c2 t2 a2 => mm_bd (call 113 [.inr 0, .inl ((-1)), .inl ((-1))] S2) c2 t2 (fun S3 c3 t3 a3 => mm_E call pX7_growTree 2 17 [some (.inr 0), some (.inl a3), some (.inl 0), none, none] [] S3 c3 t3))) := by
  refine mm_E_eq [0, 17] 17 ?_
  generalize mm_E call pX7_growTree 2 = k
  rfl
set_option maxRecDepth 100000 in
theorem eX7_growTree_17 {call : Nat → List MV → Mem → Option Res} {S : Mem} {kc ks : Nat} {x1 : Int32} {x2 : Int32} {o3 : Option MV} {o4 : Option MV} : mm_E call pX7_growTree 2 17 [some (.inr 0), some (.inl x1), some (.inl x2), o3, o4] [] S kc ks = (if 600 < x2 then (if x1 = 0 ∨ x1 = 1 then some (S, kc, ks, 0, x1) else none) else (if x1 = 0 then (if x1 = 0 ∨ x1 = 1 then some (S, kc, ks, 0, x1) else none) else mm_bd (call 42 [.inr 21] S) kc ks (fun S1 c1 t1 a1 => (if a1 = 0 then (if x1 = 0 ∨ x1 = 1 then some (S1, c1, t1, 0, x1) else none) else mm_bd (call 52 [.inr 21] S1) c1 t1 (fun S2 c2 t2 a2 => (if a2 = ((-1)) then mm_bd (call 43 [.inr 21] S2) c2 t2 (fun S3 c3 t3 a3 => mm_E call pX7_growTree 2 17 [some (.inr 0), some (.inl x1), some (.inl (x2 + 1)), some (.inl a2), o4] [] S3 c3 t3) else mm_bd (call 46 [.inr 21] S2) c2 t2 (fun S4 c4 t4 a4 => mm_bd (call 78 [.inr 19, .inl a4] S4) c4 t4 (fun S5 c5 t5 a5 => mm_bd (call 53 [.inr 21, .inl a2, .inl a5] S5) c5 t5 (fun S6 c6 t6 a6 => (if a6 = 0 then mm_E call pX7_growTree 2 17 [some (.inr 0), some (.inl 0), some (.inl (x2 + 1)), some (.inl a2), some (.inl a4)] [] S6 c6 t6 else mm_bd (call 113 [.inr 0, .inl a4, .inl a2] S6) c6 t6 (fun S7 c7 t7 a7 => (if a7 = 0 then mm_E call pX7_growTree 2 17 [some (.inr 0), some (.inl 0), some (.inl (x2 + 1)), some (.inl a2), some (.inl a4)] [] S7 c7 t7 else mm_E call pX7_growTree 2 17 [some (.inr 0), some (.inl 1), some (.inl (x2 + 1)), some (.inl a2), some (.inl a4)] [] S7 c7 t7)))))))))))) := by
  refine mm_E_eq [0, 17] 39 ?_
  generalize mm_E call pX7_growTree 2 = k
  rfl
set_option maxRecDepth 100000 in
theorem eX7_addNode_0 {call : Nat → List MV → Mem → Option Res} {S : Mem} {kc ks : Nat} {x1 : Int32} {x2 : Int32} : mm_E call pX7_addNode 2 0 [some (.inr 0), some (.inl x1), some (.inl x2), none, none, none] [] S kc ks = mm_bd (call 71 [.inr 19] S) kc ks (fun S1 c1 t1 a1 => (if 300 ≤ a1 then some (S1, c1, t1, 0, 0) else mm_bd (call 49 [.inr 21] S1) c1 t1 (fun S2 c2 t2 a2 => (if a2 = 0 then some (S2, c2, t2, 0, 0) else mm_bd (call 73 [.inr 19, .inl x1, .inl x2] S2) c2 t2 (fun S3 c3 t3 a3 => mm_bd (call 45 [.inr 21] S3) c3 t3 (fun S4 c4 t4 a4 => (if a4 = 0 then mm_bd (call 74 [.inr 19, .inl a3] S4) c4 t4 (fun S5 c5 t5 a5 => mm_bd (call 43 [.inr 21] S5) c5 t5 (fun S6 c6 t6 a6 => some (S6, c6, t6, 0, 1))) else mm_bd (call 50 [.inr 21] S4) c4 t4 (fun S7 c7 t7 a7 => (if a7 = ((-1)) then mm_bd (call 48 [.inr 21] S7) c7 t7 (fun S8 c8 t8 a8 => mm_bd (call 75 [.inr 19, .inl a3, .inl a8] S8) c8 t8 (fun S9 c9 t9 a9 => mm_bd (call 43 [.inr 21] S9) c9 t9 (fun S10 c10 t10 a10 => some (S10, c10, t10, 0, 1)))) else mm_bd (call 47 [.inr 21, .inl a7] S7) c7 t7 (fun S11 c11 t11 a11 => mm_bd (call 44 [.inr 21] S11) c11 t11 (fun S12 c12 t12 a12 => mm_bd (call 76 [.inr 19, .inl a3, .inl a11, .inl a12, .inl a7] S12) c12 t12 (fun S13 c13 t13 a13 => mm_bd (call 51 [.inr 21, .inl a3, .inl a11] S13) c13 t13 (fun S14 c14 t14 a14 => some (S14, c14, t14, 0, 1)))))))))))))) := by
  refine mm_E_eq [0] 47 ?_
  generalize mm_E call pX7_addNode 2 = k
  rfl
