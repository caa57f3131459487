set_option maxRecDepth 100000 in
theorem eX2_typeCount_0 {call : Nat → List MV → Mem → Option Res} {S : Mem} {kc ks : Nat}  : mm_E call pX2_typeCount 1 0 [some (.inr 1)] [] S kc ks = some (S, kc, ks, 0, S 1 0) := by
  refine mm_E_eq [0] 3 ?_
  generalize mm_E call pX2_typeCount 1 = k
  rfl
set_option maxRecDepth 100000 in
theorem eX2_makerCount_0 {call : Nat → List MV → Mem → Option Res} {S : Mem} {kc ks : Nat}  : mm_E call pX2_makerCount 1 0 [some (.inr 1)] [] S kc ks = some (S, kc, ks, 0, S 1 1) := by
  refine mm_E_eq [0] 3 ?_
  generalize mm_E call pX2_makerCount 1 = k
  rfl
set_option maxRecDepth 100000 in
theorem eX2_hasType_0 {call : Nat → List MV → Mem → Option Res} {S : Mem} {kc ks : Nat} {x1 : Int32} : mm_E call pX2_hasType 2 0 [some (.inr 1), some (.inl x1)] [] S kc ks = (if x1 < 0 then some (S, kc, ks, 0, 0) else (if (S 1 0) ≤ x1 then some (S, kc, ks, 0, 0) else (if 8 ≤ x1 then some (S, kc, ks, 0, 0) else some (S, kc, ks, 0, 1)))) := by
  refine mm_E_eq [0] 12 ?_
  generalize mm_E call pX2_hasType 2 = k
  rfl
set_option maxRecDepth 100000 in
theorem eX2_hasMaker_0 {call : Nat → List MV → Mem → Option Res} {S : Mem} {kc ks : Nat} {x1 : Int32} : mm_E call pX2_hasMaker 2 0 [some (.inr 1), some (.inl x1)] [] S kc ks = (if x1 < 0 then some (S, kc, ks, 0, 0) else (if (S 1 1) ≤ x1 then some (S, kc, ks, 0, 0) else (if 40 ≤ x1 then some (S, kc, ks, 0, 0) else some (S, kc, ks, 0, 1)))) := by
  refine mm_E_eq [0] 12 ?_
  generalize mm_E call pX2_hasMaker 2 = k
  rfl
set_option maxRecDepth 100000 in
theorem eX2_hasRoomForMaker_0 {call : Nat → List MV → Mem → Option Res} {S : Mem} {kc ks : Nat} {x1 : Int32} : mm_E call pX2_hasRoomForMaker 2 0 [some (.inr 1), some (.inl x1)] [] S kc ks = mm_bd (call 19 [.inr 1, .inl x1] S) kc ks (fun S1 c1 t1 a1 => (if a1 = 0 then some (S1, c1, t1, 0, 0) else mm_arr S1 1 2 x1 (fun q2 => (if 8 ≤ (S1 2 q2) then some (S1, c1, t1, 0, 0) else (if 40 ≤ (S1 1 1) then some (S1, c1, t1, 0, 0) else some (S1, c1, t1, 0, 1)))))) := by
  refine mm_E_eq [0] 17 ?_
  generalize mm_E call pX2_hasRoomForMaker 2 = k
  rfl
set_option maxRecDepth 100000 in
theorem eX2_hasValue_0 {call : Nat → List MV → Mem → Option Res} {S : Mem} {kc ks : Nat} {x1 : Int32} : mm_E call pX2_hasValue 2 0 [some (.inr 1), some (.inl x1)] [] S kc ks = mm_bd (call 19 [.inr 1, .inl x1] S) kc ks (fun S1 c1 t1 a1 => (if a1 = 0 then some (S1, c1, t1, 0, 0) else mm_arr S1 2 3 x1 (fun q2 => (if (S1 3 q2) = 0 then some (S1, c1, t1, 0, 0) else some (S1, c1, t1, 0, 1))))) := by
  refine mm_E_eq [0] 12 ?_
  generalize mm_E call pX2_hasValue 2 = k
  rfl
set_option maxRecDepth 100000 in
theorem eX2_typeOf_0 {call : Nat → List MV → Mem → Option Res} {S : Mem} {kc ks : Nat} {x1 : Int32} : mm_E call pX2_typeOf 1 0 [some (.inr 1), some (.inl x1)] [] S kc ks = mm_bd (call 20 [.inr 1, .inl x1] S) kc ks (fun S1 c1 t1 a1 => (if a1 = 0 then some (S1, c1, t1, 0, (-1)) else mm_arr S1 1 4 x1 (fun q2 => some (S1, c1, t1, 0, S1 4 q2)))) := by
  refine mm_E_eq [0] 10 ?_
  generalize mm_E call pX2_typeOf 1 = k
  rfl
set_option maxRecDepth 100000 in
theorem eX2_fieldCount_0 {call : Nat → List MV → Mem → Option Res} {S : Mem} {kc ks : Nat} {x1 : Int32} : mm_E call pX2_fieldCount 1 0 [some (.inr 1), some (.inl x1)] [] S kc ks = mm_bd (call 20 [.inr 1, .inl x1] S) kc ks (fun S1 c1 t1 a1 => (if a1 = 0 then some (S1, c1, t1, 0, 0) else mm_arr S1 1 5 x1 (fun q2 => some (S1, c1, t1, 0, S1 5 q2)))) := by
  refine mm_E_eq [0] 10 ?_
  generalize mm_E call pX2_fieldCount 1 = k
  rfl
set_option maxRecDepth 100000 in
theorem eX2_fieldType_0 {call : Nat → List MV → Mem → Option Res} {S : Mem} {kc ks : Nat} {x1 : Int32} {x2 : Int32} : mm_E call pX2_fieldType 1 0 [some (.inr 1), some (.inl x1), some (.inl x2), none] [] S kc ks = (if x2 < 0 then some (S, kc, ks, 0, (-1)) else (if 3 ≤ x2 then some (S, kc, ks, 0, (-1)) else mm_bd (call 24 [.inr 1, .inl x1] S) kc ks (fun S1 c1 t1 a1 => (if a1 ≤ x2 then some (S1, c1, t1, 0, (-1)) else mm_arr S1 1 6 ((x1 * 3) + x2) (fun q2 => some (S1, c1, t1, 0, S1 6 q2)))))) := by
  refine mm_E_eq [0] 25 ?_
  generalize mm_E call pX2_fieldType 1 = k
  rfl
set_option maxRecDepth 100000 in
theorem eX2_isDead_0 {call : Nat → List MV → Mem → Option Res} {S : Mem} {kc ks : Nat} {x1 : Int32} : mm_E call pX2_isDead 2 0 [some (.inr 1), some (.inl x1), none] [] S kc ks = mm_E call pX2_isDead 2 2 [some (.inr 1), some (.inl x1), some (.inl 0)] [] S kc ks := by
  refine mm_E_eq [0, 2] 2 ?_
  generalize mm_E call pX2_isDead 2 = k
  rfl
set_option maxRecDepth 100000 in
theorem eX2_isDead_2 {call : Nat → List MV → Mem → Option Res} {S : Mem} {kc ks : Nat} {x1 : Int32} {x2 : Int32} : mm_E call pX2_isDead 2 2 [some (.inr 1), some (.inl x1), some (.inl x2)] [] S kc ks = mm_bd (call 24 [.inr 1, .inl x1] S) kc ks (fun S1 c1 t1 a1 => (if a1 ≤ x2 then some (S1, c1, t1, 0, 0) else mm_bd (call 25 [.inr 1, .inl x1, .inl x2] S1) c1 t1 (fun S2 c2 t2 a2 => mm_bd (call 22 [.inr 1, .inl a2] S2) c2 t2 (fun S3 c3 t3 a3 => (if a3 = 0 then some (S3, c3, t3, 0, 1) else mm_E call pX2_isDead 2 2 [some (.inr 1), some (.inl x1), some (.inl (x2 + 1))] [] S3 c3 t3))))) := by
  refine mm_E_eq [0, 2] 14 ?_
  generalize mm_E call pX2_isDead 2 = k
  rfl
set_option maxRecDepth 100000 in
theorem eX2_addType_0 {call : Nat → List MV → Mem → Option Res} {S : Mem} {kc ks : Nat}  : mm_E call pX2_addType 1 0 [some (.inr 1), none] [] S kc ks = (if 8 ≤ (S 1 0) then some (S, kc, ks, 0, S 1 0) else some (mm_put S 1 0 ((S 1 0) + 1), kc, ks, 0, S 1 0)) := by
  refine mm_E_eq [0] 14 ?_
  generalize mm_E call pX2_addType 1 = k
  rfl
set_option maxRecDepth 100000 in
theorem eX2_addMaker_0 {call : Nat → List MV → Mem → Option Res} {S : Mem} {kc ks : Nat} {x1 : Int32} {x2 : Int32} {x3 : Int32} {x4 : Int32} {x5 : Int32} : mm_E call pX2_addMaker 1 0 [some (.inr 1), some (.inl x1), some (.inl x2), some (.inl x3), some (.inl x4), some (.inl x5), none] [] S kc ks = mm_bd (call 21 [.inr 1, .inl x1] S) kc ks (fun S1 c1 t1 a1 => (if a1 = 0 then some (S1, c1, t1, 0, (-1)) else mm_arr (mm_put S1 1 1 ((S1 1 1) + 1)) 1 2 x1 (fun q2 => mm_arr (mm_put S1 1 1 ((S1 1 1) + 1)) 1 2 x1 (fun q3 => mm_arr (mm_put (mm_put S1 1 1 ((S1 1 1) + 1)) 2 q3 (((mm_put S1 1 1 ((S1 1 1) + 1)) 2 q2) + 1)) 1 4 (S 1 1) (fun q4 => mm_arr (mm_put (mm_put (mm_put S1 1 1 ((S1 1 1) + 1)) 2 q3 (((mm_put S1 1 1 ((S1 1 1) + 1)) 2 q2) + 1)) 4 q4 x1) 1 5 (S 1 1) (fun q5 => mm_arr (mm_put (mm_put (mm_put (mm_put S1 1 1 ((S1 1 1) + 1)) 2 q3 (((mm_put S1 1 1 ((S1 1 1) + 1)) 2 q2) + 1)) 4 q4 x1) 5 q5 x2) 1 6 ((S 1 1) * 3) (fun q6 => mm_arr (mm_put (mm_put (mm_put (mm_put (mm_put S1 1 1 ((S1 1 1) + 1)) 2 q3 (((mm_put S1 1 1 ((S1 1 1) + 1)) 2 q2) + 1)) 4 q4 x1) 5 q5 x2) 6 q6 x3) 1 6 (((S 1 1) * 3) + 1) (fun q7 => mm_arr (mm_put (mm_put (mm_put (mm_put (mm_put (mm_put S1 1 1 ((S1 1 1) + 1)) 2 q3 (((mm_put S1 1 1 ((S1 1 1) + 1)) 2 q2) + 1)) 4 q4 x1) 5 q5 x2) 6 q6 x3) 6 q7 x4) 1 6 (((S 1 1) * 3) + 2) (fun q8 => mm_bd (call 29 [.inr 1] (mm_put (mm_put (mm_put (mm_put (mm_put (mm_put (mm_put S1 1 1 ((S1 1 1) + 1)) 2 q3 (((mm_put S1 1 1 ((S1 1 1) + 1)) 2 q2) + 1)) 4 q4 x1) 5 q5 x2) 6 q6 x3) 6 q7 x4) 6 q8 x5)) c1 t1 (fun S9 c9 t9 a9 => some (S9, c9, t9, 0, S 1 1))))))))))) := by
  refine mm_E_eq [0] 60 ?_
  generalize mm_E call pX2_addMaker 1 = k
  rfl
set_option maxRecDepth 100000 in
theorem eX2_findValued_0 {call : Nat → List MV → Mem → Option Res} {S : Mem} {kc ks : Nat}  : mm_E call pX2_findValued 0 0 [some (.inr 1), none, none, none, none] [] S kc ks = mm_E call pX2_findValued 0 4 [some (.inr 1), some (.inl 1), some (.inl 0), none, none] [] S kc ks := by
  refine mm_E_eq [0, 4, 13] 4 ?_
  generalize mm_E call pX2_findValued 0 = k
  rfl
set_option maxRecDepth 100000 in
theorem eX2_findValued_4 {call : Nat → List MV → Mem → Option Res} {S : Mem} {kc ks : Nat} {x1 : Int32} {x2 : Int32} {o3 : Option MV} {o4 : Option MV} : mm_E call pX2_findValued 0 4 [some (.inr 1), some (.inl x1), some (.inl x2), o3, o4] [] S kc ks = (if 8 < x2 then some (S, kc, ks, 0, 0) else (if x1 = 0 then some (S, kc, ks, 0, 0) else mm_E call pX2_findValued 0 13 [some (.inr 1), some (.inl 0), some (.inl x2), some (.inl 0), o4] [] S kc ks)) := by
  refine mm_E_eq [0, 4, 13] 9 ?_
  generalize mm_E call pX2_findValued 0 = k
  rfl
set_option maxRecDepth 100000 in
theorem eX2_findValued_13 {call : Nat → List MV → Mem → Option Res} {S : Mem} {kc ks : Nat} {x1 : Int32} {x2 : Int32} {x3 : Int32} {o4 : Option MV} : mm_E call pX2_findValued 0 13 [some (.inr 1), some (.inl x1), some (.inl x2), some (.inl x3), o4] [] S kc ks = (if (S 1 1) ≤ x3 then mm_E call pX2_findValued 0 4 [some (.inr 1), some (.inl x1), some (.inl (x2 + 1)), some (.inl x3), o4] [] S kc ks else mm_bd (call 23 [.inr 1, .inl x3] S) kc ks (fun S1 c1 t1 a1 => mm_bd (call 19 [.inr 1, .inl a1] S1) c1 t1 (fun S2 c2 t2 a2 => (if a2 = 0 then mm_E call pX2_findValued 0 13 [some (.inr 1), some (.inl x1), some (.inl x2), some (.inl (x3 + 1)), some (.inl a1)] [] S2 c2 t2 else mm_arr S2 2 3 a1 (fun q3 => (if (S2 3 q3) = 0 then mm_bd (call 26 [.inr 1, .inl x3] S2) c2 t2 (fun S4 c4 t4 a4 => (if a4 = 0 then mm_arr S4 2 3 a1 (fun q5 => mm_E call pX2_findValued 0 13 [some (.inr 1), some (.inl 1), some (.inl x2), some (.inl (x3 + 1)), some (.inl a1)] [] (mm_put S4 3 q5 (vp_nar .boolean 1)) c4 t4) else mm_E call pX2_findValued 0 13 [some (.inr 1), some (.inl x1), some (.inl x2), some (.inl (x3 + 1)), some (.inl a1)] [] S4 c4 t4)) else mm_E call pX2_findValued 0 13 [some (.inr 1), some (.inl x1), some (.inl x2), some (.inl (x3 + 1)), some (.inl a1)] [] S2 c2 t2)))))) := by
  refine mm_E_eq [0, 4, 13] 30 ?_
  generalize mm_E call pX2_findValued 0 = k
  rfl
