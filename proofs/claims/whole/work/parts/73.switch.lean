/-! PURE: node and about: their switches -/
set_option maxRecDepth 100000 in
theorem eX8_node_0 {call : Nat → List MV → Mem → Option Res} {S : Mem} {kc ks : Nat} {x1 x2 : Int32} : mm_E call pX8_node 1 0 [some (.inr 27), some (.inl x1), some (.inl x2), none] [] S kc ks = mm_bd (call 146 [.inr 27, .inl x1] S) kc ks (fun S1 c1 t1 a1 => (if a1 = 0 then some (S1, c1, t1, 0, 0) else mm_arr S1 1 42 x1 (fun q2 => (if (S1 42 q2) = 2 then mm_E call pX8_node 1 16 [some (.inr 27), some (.inl x1), some (.inl x2), some (.inl 1)] [] S1 c1 t1 else mm_E call pX8_node 1 16 [some (.inr 27), some (.inl x1), some (.inl x2), some (.inl 0)] [] S1 c1 t1)))) := by
  refine mm_E_eq [0, 16] 20 ?_
  generalize mm_E call pX8_node 1 = k
  rfl
set_option maxRecDepth 100000 in
theorem eX8_node_16 {call : Nat → List MV → Mem → Option Res} {S : Mem} {kc ks : Nat} {x2 : Int32} {o1 o3 : Option MV} : mm_E call pX8_node 1 16 [some (.inr 27), o1, some (.inl x2), o3] [] S kc ks = mm_E call pX8_node 1 (mm_lk [(0, 65), (1, 72), (2, 92), (3, 107), (4, 122), (100, 137), (101, 144)] [18, 23, 35, 44, 53, 62, 67] 72 x2.toInt) [some (.inr 27), o1, some (.inl x2), o3] [] S kc ks := by
  refine mm_E_eq [] 2 ?_
  generalize mm_E call pX8_node 1 = k
  rfl
set_option maxRecDepth 100000 in
theorem eX8_node_18 {call : Nat → List MV → Mem → Option Res} {S : Mem} {kc ks : Nat} {x1 : Int32} {o2 o3 : Option MV} : mm_E call pX8_node 1 18 [some (.inr 27), some (.inl x1), o2, o3] [] S kc ks = mm_arr S 1 42 x1 (fun q => some (S, kc, ks, 0, S 42 q)) := by
  refine mm_E_eq [] 8 ?_
  generalize mm_E call pX8_node 1 = k
  rfl
set_option maxRecDepth 100000 in
theorem eX8_node_23 {call : Nat → List MV → Mem → Option Res} {S : Mem} {kc ks : Nat} {x1 x3 : Int32} {o2 : Option MV} : mm_E call pX8_node 1 23 [some (.inr 27), some (.inl x1), o2, some (.inl x3)] [] S kc ks = (if x3 = 0 then mm_arr S 1 46 x1 (fun q => some (S, kc, ks, 0, S 46 q)) else mm_arr S 1 44 x1 (fun q => some (S, kc, ks, 0, S 44 q))) := by
  refine mm_E_eq [] 12 ?_
  generalize mm_E call pX8_node 1 = k
  rfl
set_option maxRecDepth 100000 in
theorem eX8_node_35 {call : Nat → List MV → Mem → Option Res} {S : Mem} {kc ks : Nat} {x1 x3 : Int32} {o2 : Option MV} : mm_E call pX8_node 1 35 [some (.inr 27), some (.inl x1), o2, some (.inl x3)] [] S kc ks = (if x3 = 0 then some (S, kc, ks, 0, -1) else mm_arr S 1 45 x1 (fun q => some (S, kc, ks, 0, S 45 q))) := by
  refine mm_E_eq [] 12 ?_
  generalize mm_E call pX8_node 1 = k
  rfl
set_option maxRecDepth 100000 in
theorem eX8_node_44 {call : Nat → List MV → Mem → Option Res} {S : Mem} {kc ks : Nat} {x1 x3 : Int32} {o2 : Option MV} : mm_E call pX8_node 1 44 [some (.inr 27), some (.inl x1), o2, some (.inl x3)] [] S kc ks = (if x3 = 0 then some (S, kc, ks, 0, -1) else mm_arr S 1 43 x1 (fun q => some (S, kc, ks, 0, S 43 q))) := by
  refine mm_E_eq [] 12 ?_
  generalize mm_E call pX8_node 1 = k
  rfl
set_option maxRecDepth 100000 in
theorem eX8_node_53 {call : Nat → List MV → Mem → Option Res} {S : Mem} {kc ks : Nat} {x1 x3 : Int32} {o2 : Option MV} : mm_E call pX8_node 1 53 [some (.inr 27), some (.inl x1), o2, some (.inl x3)] [] S kc ks = (if x3 = 0 then some (S, kc, ks, 0, -1) else mm_arr S 1 49 x1 (fun q => some (S, kc, ks, 0, S 49 q))) := by
  refine mm_E_eq [] 12 ?_
  generalize mm_E call pX8_node 1 = k
  rfl
set_option maxRecDepth 100000 in
theorem eX8_node_62 {call : Nat → List MV → Mem → Option Res} {S : Mem} {kc ks : Nat} {x1 : Int32} {o2 o3 : Option MV} : mm_E call pX8_node 1 62 [some (.inr 27), some (.inl x1), o2, o3] [] S kc ks = mm_arr S 1 47 x1 (fun q => some (S, kc, ks, 0, S 47 q)) := by
  refine mm_E_eq [] 8 ?_
  generalize mm_E call pX8_node 1 = k
  rfl
set_option maxRecDepth 100000 in
theorem eX8_node_67 {call : Nat → List MV → Mem → Option Res} {S : Mem} {kc ks : Nat} {x1 : Int32} {o2 o3 : Option MV} : mm_E call pX8_node 1 67 [some (.inr 27), some (.inl x1), o2, o3] [] S kc ks = mm_arr S 1 48 x1 (fun q => some (S, kc, ks, 0, S 48 q)) := by
  refine mm_E_eq [] 8 ?_
  generalize mm_E call pX8_node 1 = k
  rfl
set_option maxRecDepth 100000 in
theorem eX8_node_72 {call : Nat → List MV → Mem → Option Res} {S : Mem} {kc ks : Nat} {x1 x2 x3 : Int32} : mm_E call pX8_node 1 72 [some (.inr 27), some (.inl x1), some (.inl x2), some (.inl x3)] [] S kc ks = (if x2 < 5 then some (S, kc, ks, 0, -1) else (if 12 < x2 then some (S, kc, ks, 0, -1) else (if x3 = 0 then some (S, kc, ks, 0, -1) else mm_bd (call 147 [.inr 27, .inl x1, .inl (x2 - 5)] S) kc ks (fun S1 c1 t1 a1 => some (S1, c1, t1, 0, a1))))) := by
  refine mm_E_eq [] 20 ?_
  generalize mm_E call pX8_node 1 = k
  rfl
set_option maxRecDepth 100000 in
theorem eX7_about_0 {call : Nat → List MV → Mem → Option Res} {S : Mem} {kc ks : Nat} {x1 : Int32} : mm_E call pX7_about 1 0 [some (.inr 0), some (.inl x1)] [] S kc ks = (if x1.toInt < 0 ∨ 6 < x1.toInt then mm_E call pX7_about 1 35 [some (.inr 0), some (.inl x1)] [] S kc ks else match [2, 6, 10, 13, 17, 21, 25][(x1.toInt - 0).toNat]? with
    | some t => mm_E call pX7_about 1 t [some (.inr 0), some (.inl x1)] [] S kc ks
    | none => none) := by
  refine mm_E_eq [] 2 ?_
  generalize mm_E call pX7_about 1 = k
  rfl
set_option maxRecDepth 100000 in
theorem eX7_about_2 {call : Nat → List MV → Mem → Option Res} {S : Mem} {kc ks : Nat} {o1 : Option MV} : mm_E call pX7_about 1 2 [some (.inr 0), o1] [] S kc ks = mm_bd (call 17 [.inr 1] S) kc ks (fun S1 c1 t1 a1 => some (S1, c1, t1, 0, a1)) := by
  refine mm_E_eq [] 8 ?_
  generalize mm_E call pX7_about 1 = k
  rfl
set_option maxRecDepth 100000 in
theorem eX7_about_6 {call : Nat → List MV → Mem → Option Res} {S : Mem} {kc ks : Nat} {o1 : Option MV} : mm_E call pX7_about 1 6 [some (.inr 0), o1] [] S kc ks = mm_bd (call 18 [.inr 1] S) kc ks (fun S1 c1 t1 a1 => some (S1, c1, t1, 0, a1)) := by
  refine mm_E_eq [] 8 ?_
  generalize mm_E call pX7_about 1 = k
  rfl
set_option maxRecDepth 100000 in
theorem eX7_about_10 {call : Nat → List MV → Mem → Option Res} {S : Mem} {kc ks : Nat} {o1 : Option MV} : mm_E call pX7_about 1 10 [some (.inr 0), o1] [] S kc ks = some (S, kc, ks, 0, S 0 2) := by
  refine mm_E_eq [] 8 ?_
  generalize mm_E call pX7_about 1 = k
  rfl
set_option maxRecDepth 100000 in
theorem eX7_about_13 {call : Nat → List MV → Mem → Option Res} {S : Mem} {kc ks : Nat} {o1 : Option MV} : mm_E call pX7_about 1 13 [some (.inr 0), o1] [] S kc ks = mm_bd (call 31 [.inr 8] S) kc ks (fun S1 c1 t1 a1 => some (S1, c1, t1, 0, a1)) := by
  refine mm_E_eq [] 8 ?_
  generalize mm_E call pX7_about 1 = k
  rfl
set_option maxRecDepth 100000 in
theorem eX7_about_17 {call : Nat → List MV → Mem → Option Res} {S : Mem} {kc ks : Nat} {o1 : Option MV} : mm_E call pX7_about 1 17 [some (.inr 0), o1] [] S kc ks = mm_bd (call 7 [.inr 11] S) kc ks (fun S1 c1 t1 a1 => some (S1, c1, t1, 0, a1)) := by
  refine mm_E_eq [] 8 ?_
  generalize mm_E call pX7_about 1 = k
  rfl
set_option maxRecDepth 100000 in
theorem eX7_about_21 {call : Nat → List MV → Mem → Option Res} {S : Mem} {kc ks : Nat} {o1 : Option MV} : mm_E call pX7_about 1 21 [some (.inr 0), o1] [] S kc ks = mm_bd (call 7 [.inr 15] S) kc ks (fun S1 c1 t1 a1 => some (S1, c1, t1, 0, a1)) := by
  refine mm_E_eq [] 8 ?_
  generalize mm_E call pX7_about 1 = k
  rfl
set_option maxRecDepth 100000 in
theorem eX7_about_25 {call : Nat → List MV → Mem → Option Res} {S : Mem} {kc ks : Nat} {o1 : Option MV} : mm_E call pX7_about 1 25 [some (.inr 0), o1] [] S kc ks = mm_bd (call 70 [.inr 19] S) kc ks (fun S1 c1 t1 a1 => (if a1 = 0 then some (S1, c1, t1, 0, -1) else mm_bd (call 71 [.inr 19] S1) c1 t1 (fun S2 c2 t2 a2 => some (S2, c2, t2, 0, a2)))) := by
  refine mm_E_eq [] 16 ?_
  generalize mm_E call pX7_about 1 = k
  rfl
set_option maxRecDepth 100000 in
theorem eX7_about_35 {call : Nat → List MV → Mem → Option Res} {S : Mem} {kc ks : Nat} {o1 : Option MV} : mm_E call pX7_about 1 35 [some (.inr 0), o1] [] S kc ks = some (S, kc, ks, 0, -1) := by
  refine mm_E_eq [] 4 ?_
  generalize mm_E call pX7_about 1 = k
  rfl
set_option maxRecDepth 100000 in
theorem eX8_about_0 {call : Nat → List MV → Mem → Option Res} {S : Mem} {kc ks : Nat} {x1 : Int32} : mm_E call pX8_about 1 0 [some (.inr 27), some (.inl x1)] [] S kc ks = (if x1.toInt < 0 ∨ 6 < x1.toInt then mm_E call pX8_about 1 26 [some (.inr 27), some (.inl x1)] [] (mm_put S 27 0 0) kc ks else match [5, 8, 11, 14, 17, 20, 23][(x1.toInt - 0).toNat]? with
    | some t => mm_E call pX8_about 1 t [some (.inr 27), some (.inl x1)] [] (mm_put S 27 0 0) kc ks
    | none => none) := by
  refine mm_E_eq [] 5 ?_
  generalize mm_E call pX8_about 1 = k
  rfl
set_option maxRecDepth 100000 in
theorem eX8_about_x {call : Nat → List MV → Mem → Option Res} {S : Mem} {kc ks : Nat} {o1 : Option MV} : (mm_E call pX8_about 1 5 [some (.inr 27), o1] [] S kc ks = some (S, kc, ks, 0, S 27 1)) ∧ (mm_E call pX8_about 1 8 [some (.inr 27), o1] [] S kc ks = some (S, kc, ks, 0, S 27 2)) ∧ (mm_E call pX8_about 1 11 [some (.inr 27), o1] [] S kc ks = some (S, kc, ks, 0, S 27 6)) ∧ (mm_E call pX8_about 1 14 [some (.inr 27), o1] [] S kc ks = some (S, kc, ks, 0, S 27 7)) ∧ (mm_E call pX8_about 1 17 [some (.inr 27), o1] [] S kc ks = some (S, kc, ks, 0, S 27 8)) ∧ (mm_E call pX8_about 1 20 [some (.inr 27), o1] [] S kc ks = some (S, kc, ks, 0, S 27 9)) ∧ (mm_E call pX8_about 1 23 [some (.inr 27), o1] [] S kc ks = some (S, kc, ks, 0, S 27 24)) ∧ (mm_E call pX8_about 1 26 [some (.inr 27), o1] [] S kc ks = some (S, kc, ks, 0, -1)) := by
  refine ⟨mm_E_eq [] 5 ?_, mm_E_eq [] 5 ?_, mm_E_eq [] 5 ?_, mm_E_eq [] 5 ?_, mm_E_eq [] 5 ?_, mm_E_eq [] 5 ?_, mm_E_eq [] 5 ?_, mm_E_eq [] 5 ?_⟩ <;> (generalize mm_E call pX8_about 1 = k; rfl)
