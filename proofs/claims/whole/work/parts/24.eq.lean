set_option maxRecDepth 100000 in
theorem eX4_begin_0 {call : Nat → List MV → Mem → Option Res} {S : Mem} {kc ks : Nat} {x1 : Int32} : mm_E call pX4_begin 0 0 [some (.inr 25), some (.inl x1), none, none] [] S kc ks = mm_E call pX4_begin 0 11 [some (.inr 25), some (.inl x1), some (.inl 0), some (.inl 0)] [] (mm_put S 25 3 (if 40 < x1 then 40 else x1)) kc ks := by
  refine mm_E_eq [0, 11] 11 ?_
  generalize mm_E call pX4_begin 0 = k
  rfl
set_option maxRecDepth 100000 in
theorem eX4_begin_11 {call : Nat → List MV → Mem → Option Res} {S : Mem} {kc ks : Nat} {o1 : Option MV} {x2 : Int32} {x3 : Int32} : mm_E call pX4_begin 0 11 [some (.inr 25), o1, some (.inl x2), some (.inl x3)] [] S kc ks = (if (S 25 3) ≤ x3 then some (S, kc, ks, 0, 0) else mm_arr S 1 26 x3 (fun q1 => mm_bd (call 13 [.inr 15, .inl x2] (mm_put S 26 q1 x2)) kc ks (fun S2 c2 t2 a2 => mm_E call pX4_begin 0 11 [some (.inr 25), o1, some (.inl a2), some (.inl (x3 + 1))] [] S2 c2 t2))) := by
  refine mm_E_eq [0, 11] 16 ?_
  generalize mm_E call pX4_begin 0 = k
  rfl
set_option maxRecDepth 100000 in
theorem eX4_makerAt_0 {call : Nat → List MV → Mem → Option Res} {S : Mem} {kc ks : Nat} {x1 : Int32} : mm_E call pX4_makerAt 1 0 [some (.inr 25), some (.inl x1)] [] S kc ks = mm_bd (call 40 [.inr 25, .inl x1] S) kc ks (fun S1 c1 t1 a1 => (if a1 = 0 then some (S1, c1, t1, 0, (-1)) else mm_arr S1 1 26 x1 (fun q2 => mm_bd (call 12 [.inr 15, .inl (S1 26 q2)] S1) c1 t1 (fun S3 c3 t3 a3 => some (S3, c3, t3, 0, a3))))) := by
  refine mm_E_eq [0] 13 ?_
  generalize mm_E call pX4_makerAt 1 = k
  rfl
set_option maxRecDepth 100000 in
theorem eX4_openUp_0 {call : Nat → List MV → Mem → Option Res} {S : Mem} {kc ks : Nat} {x1 : Int32} {x2 : Int32} : mm_E call pX4_openUp 0 0 [some (.inr 25), some (.inl x1), some (.inl x2), none, none, none] [] S kc ks = mm_bd (call 24 [.inr 1, .inl x2] S) kc ks (fun S1 c1 t1 a1 => mm_bd (call 40 [.inr 25, .inl x1] S1) c1 t1 (fun S2 c2 t2 a2 => (if a2 = 0 then some (S2, c2, t2, 0, 0) else (if (((S2 25 3) - 1) + a1) ≤ 40 then mm_arr S2 1 26 x1 (fun q3 => mm_bd (call 39 [.inr 25, .inl x1, .inl a1] S2) c2 t2 (fun S4 c4 t4 a4 => mm_E call pX4_openUp 0 33 [some (.inr 25), some (.inl x1), some (.inl x2), some (.inl a1), some (.inl ((S2 26 q3) + 1)), some (.inl x1)] [] S4 c4 t4)) else some (S2, c2, t2, 0, 0))))) := by
  refine mm_E_eq [0, 33] 32 ?_
  generalize mm_E call pX4_openUp 0 = k
  rfl
set_option maxRecDepth 100000 in
theorem eX4_openUp_33 {call : Nat → List MV → Mem → Option Res} {S : Mem} {kc ks : Nat} {x1 : Int32} {o2 : Option MV} {x3 : Int32} {x4 : Int32} {x5 : Int32} : mm_E call pX4_openUp 0 33 [some (.inr 25), some (.inl x1), o2, some (.inl x3), some (.inl x4), some (.inl x5)] [] S kc ks = (if (x1 + x3) ≤ x5 then some (S, kc, ks, 0, 0) else (if 40 ≤ x5 then some (S, kc, ks, 0, 0) else mm_arr S 1 26 x5 (fun q1 => mm_bd (call 13 [.inr 15, .inl x4] (mm_put S 26 q1 x4)) kc ks (fun S2 c2 t2 a2 => mm_E call pX4_openUp 0 33 [some (.inr 25), some (.inl x1), o2, some (.inl x3), some (.inl a2), some (.inl (x5 + 1))] [] S2 c2 t2)))) := by
  refine mm_E_eq [0, 33] 22 ?_
  generalize mm_E call pX4_openUp 0 = k
  rfl
set_option maxRecDepth 100000 in
theorem eX4_makeGap_0 {call : Nat → List MV → Mem → Option Res} {S : Mem} {kc ks : Nat} {x1 : Int32} {x2 : Int32} : mm_E call pX4_makeGap 0 0 [some (.inr 25), some (.inl x1), some (.inl x2), none, none] [] S kc ks = (if 0 ≤ (x2 - 1) then mm_E call pX4_makeGap 0 32 [some (.inr 25), some (.inl x1), some (.inl x2), some (.inl (x2 - 1)), some (.inl ((S 25 3) - 1))] [] S kc ks else mm_E call pX4_makeGap 0 10 [some (.inr 25), some (.inl x1), some (.inl x2), some (.inl (x2 - 1)), some (.inl (x1 + 1))] [] S kc ks) := by
  refine mm_E_eq [0, 10, 32] 11 ?_
  generalize mm_E call pX4_makeGap 0 = k
  rfl
set_option maxRecDepth 100000 in
theorem eX4_makeGap_10 {call : Nat → List MV → Mem → Option Res} {S : Mem} {kc ks : Nat} {o1 : Option MV} {o2 : Option MV} {x3 : Int32} {x4 : Int32} : mm_E call pX4_makeGap 0 10 [some (.inr 25), o1, o2, some (.inl x3), some (.inl x4)] [] S kc ks = (if (S 25 3) ≤ x4 then some (mm_put S 25 3 ((S 25 3) + x3), kc, ks, 0, 0) else mm_arr S 1 26 x4 (fun q1 => mm_arr S 1 26 (x4 - 1) (fun q2 => mm_E call pX4_makeGap 0 10 [some (.inr 25), o1, o2, some (.inl x3), some (.inl (x4 + 1))] [] (mm_put S 26 q2 (S 26 q1)) kc ks))) := by
  refine mm_E_eq [0, 10, 32] 16 ?_
  generalize mm_E call pX4_makeGap 0 = k
  rfl
set_option maxRecDepth 100000 in
theorem eX4_makeGap_32 {call : Nat → List MV → Mem → Option Res} {S : Mem} {kc ks : Nat} {x1 : Int32} {o2 : Option MV} {x3 : Int32} {x4 : Int32} : mm_E call pX4_makeGap 0 32 [some (.inr 25), some (.inl x1), o2, some (.inl x3), some (.inl x4)] [] S kc ks = (if x4 ≤ x1 then some (mm_put S 25 3 ((S 25 3) + x3), kc, ks, 0, 0) else mm_arr S 1 26 x4 (fun q1 => mm_arr S 1 26 (x4 + x3) (fun q2 => mm_E call pX4_makeGap 0 32 [some (.inr 25), some (.inl x1), o2, some (.inl x3), some (.inl (x4 + (-1)))] [] (mm_put S 26 q2 (S 26 q1)) kc ks))) := by
  refine mm_E_eq [0, 10, 32] 15 ?_
  generalize mm_E call pX4_makeGap 0 = k
  rfl
set_option maxRecDepth 100000 in
theorem eX4_isSeat_0 {call : Nat → List MV → Mem → Option Res} {S : Mem} {kc ks : Nat} {x1 : Int32} : mm_E call pX4_isSeat 2 0 [some (.inr 25), some (.inl x1)] [] S kc ks = (if x1 < 0 then some (S, kc, ks, 0, 0) else (if (S 25 3) ≤ x1 then some (S, kc, ks, 0, 0) else (if 40 ≤ x1 then some (S, kc, ks, 0, 0) else some (S, kc, ks, 0, 1)))) := by
  refine mm_E_eq [0] 14 ?_
  generalize mm_E call pX4_isSeat 2 = k
  rfl
