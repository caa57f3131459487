/-! THE LAW'S LOOP -/
theorem ll_thrown (S : Mem) : mm_runD 60 114 [.inr 27] S = some (S, 0, 0, 0, S 27 0) := by rw [dX8_thrown, eX8_thrown_0]
theorem ll_cmp2 {x y : Int64} (h : x = y) : lg_cmp x y = 0 := by
  subst h
  unfold lg_cmp
  simp [Int64.lt_irrefl]
theorem ll_nd {ex : List Nat} (h : ex.Nodup) {i j e : Nat} (hi : ex[i]? = some e) (hj : ex[j]? = some e) : i = j := by
  exact (List.getElem?_inj (List.getElem?_eq_some_iff.mp hi).1 h).mp (hi.trans hj.symm)
theorem ll_same {ex : List Nat} {kd e : Nat} {ov ov' : Int64} {a b tv kv : Int32} (hx : ex.Nodup ∧ 0 ∉ ex ∧ ex.length ≤ 3) (h1 : (e = 0 ∧ tv = 0 ∧ a = b) ∨ ∃ i, ex[i]? = some e ∧ tv = nI (i + 1)) (h2 : (e = 0 ∧ kv = 0 ∧ ov' = ml_o kd ov a) ∨ ∃ i, ex[i]? = some e ∧ kv = nI (i + 1) ∧ ov' = ov) : tv = kv ∧ (kv = 0 → a = b ∧ ov' = ml_o kd ov a) := by
  rcases h1 with ⟨z, t0, ab⟩ | ⟨i, hi, ti⟩
  · rcases h2 with ⟨_, k0, ho⟩ | ⟨j, hj, _, _⟩
    · exact ⟨t0.trans k0.symm, fun _ => ⟨ab, ho⟩⟩
    · rw [z] at hj
      exact absurd (List.mem_of_getElem? hj) hx.2.1
  · rcases h2 with ⟨z, _, _⟩ | ⟨j, hj, kj, _⟩
    · rw [z] at hi
      exact absurd (List.mem_of_getElem? hi) hx.2.1
    · have hij := ll_nd hx.1 hi hj
      subst hij
      refine ⟨ti.trans kj.symm, fun h0 => ?_⟩
      have h3 := (List.getElem?_eq_some_iff.mp hi).1
      exact absurd (kj.symm.trans h0) (nI_ne0 (by omega) (by omega))
theorem ll_and (v : Int32) : ∃ k : Nat, k < 16 ∧ v &&& 15 = nI k := by
  have h1 : (v &&& 15).toBitVec.toNat < 16 := by
    have e : (v &&& 15).toBitVec = v.toBitVec &&& (15 : Int32).toBitVec := rfl
    rw [e, BitVec.toNat_and]
    have h2 : (15 : Int32).toBitVec.toNat = 15 := rfl
    rw [h2]
    exact Nat.lt_of_le_of_lt Nat.and_le_right (by decide)
  refine ⟨(v &&& 15).toBitVec.toNat, h1, ?_⟩
  apply Int32.toBitVec_inj.mp
  show (v &&& 15).toBitVec = (Int32.ofNat _).toBitVec
  rw [show (Int32.ofNat ((v &&& 15).toBitVec.toNat)).toBitVec = BitVec.ofNat 32 ((v &&& 15).toBitVec.toNat) from rfl, BitVec.ofNat_toNat]
  simp
def ll_in (i : Int32) (L : Nat) : Prop := vp_in i L ∧ vp_in (i + 1) L ∧ vp_in (i + 2) L ∧ vp_in (i + 3) L ∧ vp_in (i + 4) L
theorem ll_in1 {k j L : Nat} (h : k + j < L) (hL : L ≤ 2560) : vp_in (nI k + nI j) L := by
  rw [nI_add]
  exact nI_in h (by omega)
theorem ll_in_of {k L : Nat} (h : k + 5 ≤ L) (hL : L ≤ 2560) : ll_in (nI k) L :=
  ⟨nI_in (by omega) (by omega), ll_in1 (j := 1) (by omega) hL, ll_in1 (j := 2) (by omega) hL, ll_in1 (j := 3) (by omega) hL, ll_in1 (j := 4) (by omega) hL⟩
theorem ll_sub {L : Nat} (hL : L ≤ 2560) : (Int32.ofNat L - 5).toInt = (L : Int) - 5 := by
  have h1 : (Int32.ofNat L).toInt = (L : Int) := nI_toInt (n := L) (by omega)
  have h2 : (5 : Int32).toInt = 5 := rfl
  rw [Int32.toInt_sub, h1, h2]
  rw [Int.bmod_def]
  omega
theorem ll_gt {k L : Nat} (hL : L ≤ 2560) (h : 5 * k + 5 ≤ L) : ¬ (Int32.ofNat L - 5 < nI (5 * k)) := by
  rw [Int32.lt_iff_toInt_lt, ll_sub hL, nI_toInt (by omega)]
  omega
theorem ll_gt2 {k L : Nat} (hL : L ≤ 2560) (h : L < 5 * k + 5) (hk : k ≤ 512) : Int32.ofNat L - 5 < nI (5 * k) := by
  rw [Int32.lt_iff_toInt_lt, ll_sub hL, nI_toInt (by omega)]
  omega
theorem ll_good {ix mL : Nat} {y : MethodName} {cc : ByteArray} {hh : List (Nat × Nat × Nat × Nat)} (h : ∀ w ∈ ([.methodLink RL ix y, .static y, .initialized y.cls, .codeWith y cc mL (some .int) hh] : List Cond), w ∈ lw_tbl ∧ goodWord w = true) : GoodIn mm_ut (va_wsS RL ix y (.codeWith y cc mL (some .int) hh :: mm_ut)) := by
  have h4 : ∀ w ∈ ([.methodLink RL ix y, .static y, .initialized y.cls, .codeWith y cc mL (some .int) hh] : List Cond), w ∈ mm_ut ∧ ((w.onTables && w.keeps) = true ∨ ∃ ty, w = .arrayClass ty) := fun w hw => ⟨mm_in_ut (h w hw).1 (h w hw).2, good_of_word (h w hw).2⟩
  intro w hw
  unfold va_wsS at hw
  rcases List.mem_append.mp hw with hw | hw
  · exact h4 w (by
      simp only [List.mem_cons, List.not_mem_nil, or_false] at hw ⊢
      rcases hw with h | h | h
      · exact Or.inl h
      · exact Or.inr (Or.inl h)
      · exact Or.inr (Or.inr (Or.inl h)))
  · rcases List.mem_cons.mp hw with rfl | hw
    · exact h4 _ (by simp)
    · exact ⟨hw, good_of_word (List.mem_filter.mp hw).2⟩
/-- what stands fast in the law's body -/
def ll_Cx (p : Program) (l : Launch) (s : State) (m : MethodId) (meth : Method) (c : Code) (D : va_G) (cy : ClassId × ClassId × ClassId) (b L : Nat) (xs : Nat → Int32) : Prop :=
  p.tables.exec = Jvm.exec ∧ c.code = cL_law ∧ c.maxLocals = 7 ∧ s.vm.findClass RL = some m.cls ∧ (∀ w ∈ mm_ut, w.before #[Value.ref b] s = true) ∧ va_K D vwCl (mm_ty cy) s ∧ mm_EX (fun q : Nat => s.heap.size ≤ q) s ∧ (∀ q ∈ ml_nc, va_Nc q.1 q.2 s) ∧ va_X b L xs s s.heap ∧ b < s.heap.size ∧ L ≤ 2560 ∧ l.stackTraces = false ∧ meth.sig.returnType = ret ∧ meth.locks = false
/-- the walk from a row of the law on, for every heap that holds a memory that keeps the invariant -/
def ll_G (p : Program) (l : Launch) (e : Env) (s : State) (m : MethodId) (below : List Frame) (meth : Method) (c : Code) (b : Nat) (D : va_G) (cy : ClassId × ClassId × ClassId) (pc k : Nat) (i : Int32) : Prop :=
  ∀ (ad : Nat → Nat) (H : Heap) (locs : List Loc) (ls : Array Slot) (ov : Int64) (S : Mem) (n kc ks : Nat), va_P D vwCl (mm_W cy ad ov S) H → va_D (fun q : Nat => s.heap.size ≤ q) (mm_W cy ad ov S) → va_S (fun q : Nat => s.heap.size ≤ q) s.heap H locs → Inv S → rm S n → kc * 512 + 512 ≤ (55 + k) * 512 + n → ks + 1024 ≤ 46200 + 6 * k + 2 * n →
    lv_has ls 7 [(0, .ref b), (1, .ref (ad 0)), (2, .ref (ad 27)), (3, .ref (ad 54)), (4, .int i)] → W p l e room_1 s m #[Value.ref b] below meth c H locs kc ks (lw_Z below #[Value.ref b] s) (F0 m pc ls [])
section LLH
variable {p : Program} {l : Launch} {e : Env} {s : State} {m : MethodId} {below : List Frame} {meth : Method} {c : Code} {b L : Nat} {xs : Nat → Int32} {D : va_G} {cy : ClassId × ClassId × ClassId} {Q : State → Prop}
set_option maxHeartbeats 4000000 in
set_option maxRecDepth 100000 in
/-- a call of a helper -/
theorem ll_help {y : MethodName} {cc : ByteArray} {mL n : Nat} {hh : List (Nat × Nat × Nat × Nat)} {ad : Nat → Nat} {ov : Int64} {S : Mem} {H : Heap} {locs : List Loc} {ls : Array Slot} {av : List Value} {ex : List Nat} {kd ix pc kc ks : Nat} {r : Res}
    (C : ll_Cx p l s m meth c D cy b L xs) (hP : va_P D vwCl (mm_W cy ad ov S) H) (hD : va_D (fun q : Nat => s.heap.size ≤ q) (mm_W cy ad ov S)) (hS : va_S (fun q : Nat => s.heap.size ≤ q) s.heap H locs) (hsz : ls.size = 7) (hM : ml_H l y cc mL hh D cy ad ov H.size S av ex kd r) (hg : GoodIn mm_ut (va_wsS RL ix y (.codeWith y cc mL (some .int) hh :: mm_ut)))
    (hd : y.cls ≠ "java/lang/invoke/MethodHandle" ∧ y.cls ≠ "java/lang/invoke/VarHandle" ∧ (parseMethodDescriptor y.desc).map (fun d => d.parameters.length) = some n) (hn : av.length = n) (hdg : decode cL_law pc = .ok (.invokestatic ix, 3)) (hroom : kc + r.2.1 ≤ 601024 ∧ ks + r.2.2.1 ≤ 7293034) (hmL : mL ≤ 20)
    (kk : ∀ (kv : Int32) (ov' : Int64) (ad' : Nat → Nat) (H1 : Heap) (locs1 : List Loc), (∀ z, z ≠ mm_RM → ad' z = ad z) → va_P D vwCl (mm_W cy ad' ov' r.1) H1 → va_D (fun q : Nat => s.heap.size ≤ q) (mm_W cy ad' ov' r.1) → va_S (fun q : Nat => s.heap.size ≤ q) s.heap H1 locs1 → ml_post ex kd ov r kv (r.1, ov') → W p l e room_1 s m #[Value.ref b] below meth c H1 locs1 (kc + r.2.1) (ks + r.2.2.1) Q (F0 m (pc + 3) ls [.int kv])) :
    W p l e room_1 s m #[Value.ref b] below meth c H locs kc ks Q (F0 m pc ls av.reverse) := by
  obtain ⟨hx, hb, hml, hown, hts, hK, hEX, hNC, hX, hbl, hL, hst, hr, hlocks⟩ := id C
  have hFc : ∀ z, va_A (mm_W cy ad ov S) H.size z → s.heap.size ≤ z := by
    intro z hz
    rcases hz with ⟨k, e0, hk⟩ | hz
    · exact hD.2 k _ hk
    · exact Nat.le_trans hS.1 hz
  refine vx_calli (rest := []) (vx_runSX (As := av) (rest := []) (n := n) (hh := hh) ⟨hx, hb, hml, hown, hts⟩ hM (vx_cwSW n hts hg rfl rfl rfl hd ⟨?_, ?_⟩) ⟨?_, ?_⟩ rfl hn hsz (by simp [F0]) (lv_room (Nat.zero_le _)) hdg hroom) hS (fun z _ hz => hFc z hz) hFc (fun z _ hz => absurd hz (fun h => h)) ?_ ?_
  · show 70 + 1 ≤ 2048; omega
  · show 8 + (mL + 11) + 2800 ≤ 84000; omega
  · intro a U g mk qq
    obtain ⟨q0, q1, qP, qK, qD, qE, qN⟩ := qq
    exact ⟨q0, q1, qP, va_K.moved (u := U) (U := U.calling g mk a) (Vm.Alike.refl U.vm) qK, qD, mm_EX_call qE, fun z hz => va_Nc.moved (u := U) (U := U.calling g mk a) (Vm.Alike.refl U.vm) (qN z hz)⟩
  · intro U hU hW
    exact ⟨rfl, by rw [hU], by rw [hU]; exact hP, va_K.moved hW.alike hK, hD.weaken (fun _ _ _ _ => trivial), mm_EX_at hEX hS hFc hU hW, fun z hz => va_Nc.moved hW.alike (hNC z hz)⟩
  · intro E ce q9 u t H1 locs1 _ _ hpx
    exact absurd hpx (fun h => h)
  · intro kv u t H1 locs1 ht hal hpost hB _ _ hS1
    obtain ⟨u1, ov'⟩ := u
    have e1 : u1 = r.1 := hpost.1
    subst e1
    obtain ⟨ad', had', hP1, -, hD1⟩ := hB
    rw [ht] at hP1
    exact kk kv ov' ad' H1 locs1 had' hP1 (hD1.weaken (fun _ z _ hz => hFc _ hz)) hS1 hpost
end LLH

def ll_vw : List Cond := [.methodLink RL 73 yX8_type, .methodLink RL 74 yX8_thrown, .methodLink RL 80 yX8_maker, .methodLink RL 84 yX8_isEmpty, .methodLink RL 88 yX8_match, .methodLink RL 91 yX8_sign, .methodLink RL 94 yX8_row, .methodLink RL 97 yX8_compile, .methodLink RL 101 yX8_node, .methodLink RL 102 yX7_missing, .methodLink RL 105 yX8_missing, .methodLink RL 108 yX8_missingSign, .methodLink RL 111 yX8_isIdle, .methodLink RL 114 yX8_give, .methodLink RL 117 yX8_answer, .methodLink RL 120 yX8_tests, .methodLink RL 121 yX7_empty, .methodLink RL 124 yX8_empty, .methodLink RL 125 yX7_about, .methodLink RL 128 yX8_about]
theorem ll_vw_ok : ∀ w ∈ ll_vw, w ∈ lw_tbl ∧ goodWord w = true := by decide +kernel
def ll_w_type : List Cond := [.methodLink RL 68 yL_type, .static yL_type, .initialized yL_type.cls, .codeWith yL_type cL_type 3 (some .int) [(0, 8, 11, 13)]]
theorem ll_w_type_ok : ∀ w ∈ ll_w_type, w ∈ lw_tbl ∧ goodWord w = true := by decide +kernel
def ll_w_maker : List Cond := [.methodLink RL 77 yL_maker, .static yL_maker, .initialized yL_maker.cls, .codeWith yL_maker cL_maker 7 (some .int) [(0, 14, 17, 19), (0, 14, 21, 13)]]
theorem ll_w_maker_ok : ∀ w ∈ ll_w_maker, w ∈ lw_tbl ∧ goodWord w = true := by decide +kernel
def ll_w_isEmpty : List Cond := [.methodLink RL 81 yL_isEmpty, .static yL_isEmpty, .initialized yL_isEmpty.cls, .codeWith yL_isEmpty cL_isEmpty 4 (some .int) [(0, 16, 19, 19)]]
theorem ll_w_isEmpty_ok : ∀ w ∈ ll_w_isEmpty, w ∈ lw_tbl ∧ goodWord w = true := by decide +kernel
def ll_w_match : List Cond := [.methodLink RL 85 yL_match, .static yL_match, .initialized yL_match.cls, .codeWith yL_match cL_match 5 (some .int) [(0, 7, 10, 19)]]
theorem ll_w_match_ok : ∀ w ∈ ll_w_match, w ∈ lw_tbl ∧ goodWord w = true := by decide +kernel
def ll_w_sign : List Cond := [.methodLink RL 89 yL_sign, .static yL_sign, .initialized yL_sign.cls, .codeWith yL_sign cL_sign 4 (some .int) [(0, 9, 12, 13), (0, 9, 15, 33)]]
theorem ll_w_sign_ok : ∀ w ∈ ll_w_sign, w ∈ lw_tbl ∧ goodWord w = true := by decide +kernel
def ll_w_row : List Cond := [.methodLink RL 92 yL_row, .static yL_row, .initialized yL_row.cls, .codeWith yL_row cL_row 3 (some .int) [(0, 8, 11, 13), (0, 8, 14, 33)]]
theorem ll_w_row_ok : ∀ w ∈ ll_w_row, w ∈ lw_tbl ∧ goodWord w = true := by decide +kernel
def ll_w_compile : List Cond := [.methodLink RL 95 yL_compile, .static yL_compile, .initialized yL_compile.cls, .codeWith yL_compile cL_compile 3 (some .int) [(0, 8, 11, 13), (0, 8, 14, 41)]]
theorem ll_w_compile_ok : ∀ w ∈ ll_w_compile, w ∈ lw_tbl ∧ goodWord w = true := by decide +kernel
def ll_w_node : List Cond := [.methodLink RL 98 yL_node, .static yL_node, .initialized yL_node.cls, .codeWith yL_node cL_node 5 (some .int) [(0, 10, 13, 47)]]
theorem ll_w_node_ok : ∀ w ∈ ll_w_node, w ∈ lw_tbl ∧ goodWord w = true := by decide +kernel
def ll_w_missingSign : List Cond := [.methodLink RL 106 yL_missingSign, .static yL_missingSign, .initialized yL_missingSign.cls, .codeWith yL_missingSign cL_missingSign 5 (some .int) [(0, 10, 13, 47)]]
theorem ll_w_missingSign_ok : ∀ w ∈ ll_w_missingSign, w ∈ lw_tbl ∧ goodWord w = true := by decide +kernel
def ll_w_isIdle : List Cond := [.methodLink RL 109 yL_isIdle, .static yL_isIdle, .initialized yL_isIdle.cls, .codeWith yL_isIdle cL_isIdle 4 (some .int) [(0, 16, 19, 47)]]
theorem ll_w_isIdle_ok : ∀ w ∈ ll_w_isIdle, w ∈ lw_tbl ∧ goodWord w = true := by decide +kernel
def ll_w_give : List Cond := [.methodLink RL 112 yL_give, .static yL_give, .initialized yL_give.cls, .codeWith yL_give cL_give 4 (some .int) [(0, 9, 12, 13), (0, 9, 15, 33)]]
theorem ll_w_give_ok : ∀ w ∈ ll_w_give, w ∈ lw_tbl ∧ goodWord w = true := by decide +kernel
def ll_w_answer : List Cond := [.methodLink RL 115 yL_answer, .static yL_answer, .initialized yL_answer.cls, .codeWith yL_answer cL_answer 3 (some .int) [(0, 8, 11, 13), (0, 8, 14, 33)]]
theorem ll_w_answer_ok : ∀ w ∈ ll_w_answer, w ∈ lw_tbl ∧ goodWord w = true := by decide +kernel
def ll_w_tests : List Cond := [.methodLink RL 118 yL_tests, .static yL_tests, .initialized yL_tests.cls, .codeWith yL_tests cL_tests 3 (some .int) [(0, 8, 11, 13), (0, 8, 14, 33), (0, 8, 17, 47)]]
theorem ll_w_tests_ok : ∀ w ∈ ll_w_tests, w ∈ lw_tbl ∧ goodWord w = true := by decide +kernel
section LLC
variable {p : Program} {l : Launch} {e : Env} {s : State} {m : MethodId} {below : List Frame} {meth : Method} {c : Code} {b L : Nat} {xs : Nat → Int32} {D : va_G} {cy : ClassId × ClassId × ClassId}
set_option maxHeartbeats 4000000 in
set_option maxRecDepth 100000 in
theorem lc_type (C : ll_Cx p l s m meth c D cy b L xs) {k : Nat} {i : Int32} (hk : k < 512) (hin : ll_in i L) (kk : ll_G p l e s m below meth c b D cy 911 (k + 1) i) : ll_G p l e s m below meth c b D cy 116 k i := by
  intro ad H locs ls ov S n kc ks hP hD hS hI hn hkc hks hl
  obtain ⟨hx, hb, hml, hown, hts, hK, hEX, hNC, hX, hbl, hL, hst, hr, hlocks⟩ := id C
  have hA : ∀ q : Nat, s.heap.size ≤ q → (fun q : Nat => s.heap.size ≤ q) q := fun _ h => h
  have hbA : ¬ (fun q : Nat => s.heap.size ≤ q) b := Nat.not_le.mpr hbl
  obtain ⟨S1, c1, s1, e1, a1, S2, b1, hr1, hr2, hI2, hpo, hd⟩ := ag_type hI
  obtain ⟨n', hn', hc1, hs1⟩ := hpo n hn
  have hn9 := hn'.2.2
  have hro : kc + c1 ≤ 601024 ∧ ks + s1 ≤ 7293034 := by omega
  have hxr : e1 = 0 ∨ ∃ j : Nat, ([1] : List Nat)[j]? = some e1 := hd.imp (fun h => h.1) (fun ⟨j, h, _⟩ => ⟨j, h⟩)
  refine lv_aload_n hx hb dL_law_116 rfl (lv_at hl 1 rfl) ?_
  refine lv_aload_n hx hb dL_law_117 rfl (lv_at hl 3 rfl) ?_
  refine ll_help (av := [.ref (ad 0), .ref (ad 54)]) (ex := [1]) (kd := 1) (r := (S1, c1, s1, e1, a1)) C hP hD hS hl.1 (mh_type l hst D cy ad ov H.size S (S1, c1, s1, e1, a1) hr1 hxr) (ll_good ll_w_type_ok) (n := 2) (by decide +kernel) rfl dL_law_118 hro (Nat.le_of_ble_eq_true rfl) (fun kv ov1 ad1 H locs had hP hD hS hpost => ?_)
  rw [← had 0 (by decide), ← had 27 (by decide), ← had 54 (by decide)] at hl
  have hsm := ll_same (ex := [1]) (by decide) hd hpost.2
  have hP : va_P D vwCl (mm_W cy ad1 ov1 S1) H := by have h9 := hP; exact h9
  refine lv_istore (lv' := [(5, .int kv), (0, .ref b), (1, .ref (ad1 0)), (2, .ref (ad1 27)), (3, .ref (ad1 54)), (4, .int i)]) hx hb dL_law_121 hl (by decide) rfl (fun ls hl => ?_)
  refine lv_aload_n hx hb dL_law_123 rfl (lv_at hl 3 rfl) ?_
  refine ml_call (as' := []) (b9 := 27) (rest := []) (y := 118) (d := 60) hx hb hml hown hts hK hEX hA (ml_con hst hr2 rfl) rfl (mm_in_ut (ll_vw_ok _ (List.mem_of_getElem? (i := 0) rfl)).1 (ll_vw_ok _ (List.mem_of_getElem? (i := 0) rfl)).2) rfl rfl hP hD hS hl.1 (Nat.le_of_ble_eq_true rfl) dL_law_124 hro ⟨(Nat.le_of_ble_eq_true rfl), (Nat.le_of_ble_eq_true rfl)⟩ (fun h0 ad2 H locs had hP hD hS => ?_) (fun h0 => absurd rfl h0)
  rw [← had 0 (by decide), ← had 27 (by decide), ← had 54 (by decide)] at hl
  refine W.widen (k := kc + c1) (n := ks + s1) (Nat.le_refl (kc + c1)) (Nat.le_refl (ks + s1)) ?_
  refine W.eq (g2 := F0 m 127 ls [.int b1]) rfl ?_
  refine lv_istore (lv' := [(6, .int b1), (5, .int kv), (0, .ref b), (1, .ref (ad2 0)), (2, .ref (ad2 27)), (3, .ref (ad2 54)), (4, .int i)]) hx hb dL_law_127 hl (by decide) rfl (fun ls hl => ?_)
  refine lv_aload_n hx hb dL_law_129 rfl (lv_at hl 4 rfl) ?_
  refine ml_call (as' := []) (b9 := 27) (rest := []) (y := 114) (d := 60) hx hb hml hown hts hK hEX hA (ml_con hst (ll_thrown S2) rfl) rfl (mm_in_ut (ll_vw_ok _ (List.mem_of_getElem? (i := 1) rfl)).1 (ll_vw_ok _ (List.mem_of_getElem? (i := 1) rfl)).2) rfl rfl hP hD hS hl.1 (Nat.le_of_ble_eq_true rfl) dL_law_130 hro ⟨(Nat.le_of_ble_eq_true rfl), (Nat.le_of_ble_eq_true rfl)⟩ (fun h0 ad3 H locs had hP hD hS => ?_) (fun h0 => absurd rfl h0)
  rw [← had 0 (by decide), ← had 27 (by decide), ← had 54 (by decide)] at hl
  refine W.widen (k := kc + c1) (n := ks + s1) (Nat.le_refl (kc + c1)) (Nat.le_refl (ks + s1)) ?_
  refine W.eq (g2 := F0 m 133 ls [.int (S2 27 0)]) rfl ?_
  have hP : va_P D vwCl (mm_W cy ad3 ov1 S2) H := hP
  refine lv_iload hx hb dL_law_133 (lv_at hl 1 rfl) ?_
  refine lv_icmp_eq (tgt := 140) hx hb dL_law_135 (by decide) (fun _ => ?_) (fun z => absurd hsm.1 z)
  refine lv_iload hx hb dL_law_140 (lv_at hl 1 rfl) ?_
  refine lv_if_ne (tgt := 157) hx hb dL_law_142 (by decide) (fun _ => ?_) (fun z => ?_)
  · refine lv_goto (tgt := 911) hx hb dL_law_157 (by decide) ?_
    exact kk _ _ _ _ _ _ n' _ _ hP hD hS hI2 hn' (by omega) (by omega) (lv_sub hl [2, 3, 4, 5, 6] rfl)
  · obtain ⟨hab, hov⟩ := hsm.2 z
    refine lv_aload_n hx hb dL_law_145 rfl (lv_at hl 5 rfl) ?_
    refine lv_iconst (v := 0) hx hb dL_law_146 (by decide) ?_
    refine va_lald hx hb hK hP 54 2 ml_e54 rfl (show vp_in 0 1 by unfold vp_in; decide) dL_law_147 ?_
    refine lv_iload hx hb dL_law_148 (lv_at hl 0 rfl) ?_
    refine lv_i2l (v := b1.toInt64) hx hb dL_law_150 rfl ?_
    refine W.lcmp hx hb dL_law_151 ?_
    refine lv_if_eq (tgt := 157) hx hb dL_law_152 (by decide) (fun _ => ?_) (fun z9 => absurd (ll_cmp2 (hov.trans (by rw [hab]; rfl))) z9)
    refine lv_goto (tgt := 911) hx hb dL_law_157 (by decide) ?_
    exact kk _ _ _ _ _ _ n' _ _ hP hD hS hI2 hn' (by omega) (by omega) (lv_sub hl [2, 3, 4, 5, 6] rfl)
set_option maxHeartbeats 4000000 in
set_option maxRecDepth 100000 in
theorem lc_maker (C : ll_Cx p l s m meth c D cy b L xs) {k : Nat} {i : Int32} (hk : k < 512) (hin : ll_in i L) (kk : ll_G p l e s m below meth c b D cy 911 (k + 1) i) : ll_G p l e s m below meth c b D cy 160 k i := by
  intro ad H locs ls ov S n kc ks hP hD hS hI hn hkc hks hl
  obtain ⟨hx, hb, hml, hown, hts, hK, hEX, hNC, hX, hbl, hL, hst, hr, hlocks⟩ := id C
  have hA : ∀ q : Nat, s.heap.size ≤ q → (fun q : Nat => s.heap.size ≤ q) q := fun _ h => h
  have hbA : ¬ (fun q : Nat => s.heap.size ≤ q) b := Nat.not_le.mpr hbl
  obtain ⟨S1, c1, s1, e1, a1, S2, b1, hr1, hr2, hI2, hpo, hd⟩ := ag_maker (xs (i + 1).toNatClampNeg) (xs (i + 2).toNatClampNeg) (xs (i + 3).toNatClampNeg) (xs (i + 4).toNatClampNeg) hI
  obtain ⟨n', hn', hc1, hs1⟩ := hpo n hn
  have hn9 := hn'.2.2
  have hro : kc + c1 ≤ 601024 ∧ ks + s1 ≤ 7293034 := by omega
  have hxr : e1 = 0 ∨ ∃ j : Nat, ([3, 1] : List Nat)[j]? = some e1 := hd.imp (fun h => h.1) (fun ⟨j, h, _⟩ => ⟨j, h⟩)
  refine lv_aload_n hx hb dL_law_160 rfl (lv_at hl 1 rfl) ?_
  refine lv_aload_n hx hb dL_law_161 rfl (lv_at hl 0 rfl) ?_
  refine lv_iload hx hb dL_law_162 (lv_at hl 4 rfl) ?_
  refine lv_iconst (v := 1) hx hb dL_law_164 (by decide) ?_
  refine lv_iadd hx hb dL_law_165 ?_
  refine va_sld hx hb hX hbl hbA hS hin.2.1 dL_law_166 ?_
  refine lv_aload_n hx hb dL_law_167 rfl (lv_at hl 0 rfl) ?_
  refine lv_iload hx hb dL_law_168 (lv_at hl 4 rfl) ?_
  refine lv_iconst (v := 2) hx hb dL_law_170 (by decide) ?_
  refine lv_iadd hx hb dL_law_171 ?_
  refine va_sld hx hb hX hbl hbA hS hin.2.2.1 dL_law_172 ?_
  refine lv_aload_n hx hb dL_law_173 rfl (lv_at hl 0 rfl) ?_
  refine lv_iload hx hb dL_law_174 (lv_at hl 4 rfl) ?_
  refine lv_iconst (v := 3) hx hb dL_law_176 (by decide) ?_
  refine lv_iadd hx hb dL_law_177 ?_
  refine va_sld hx hb hX hbl hbA hS hin.2.2.2.1 dL_law_178 ?_
  refine lv_aload_n hx hb dL_law_179 rfl (lv_at hl 0 rfl) ?_
  refine lv_iload hx hb dL_law_180 (lv_at hl 4 rfl) ?_
  refine lv_iconst (v := 4) hx hb dL_law_182 (by decide) ?_
  refine lv_iadd hx hb dL_law_183 ?_
  refine va_sld hx hb hX hbl hbA hS hin.2.2.2.2 dL_law_184 ?_
  refine lv_aload_n hx hb dL_law_185 rfl (lv_at hl 3 rfl) ?_
  refine ll_help (av := [.ref (ad 0), .int (xs (i + 1).toNatClampNeg), .int (xs (i + 2).toNatClampNeg), .int (xs (i + 3).toNatClampNeg), .int (xs (i + 4).toNatClampNeg), .ref (ad 54)]) (ex := [3, 1]) (kd := 1) (r := (S1, c1, s1, e1, a1)) C hP hD hS hl.1 (mh_maker l hst D cy ad ov H.size S (xs (i + 1).toNatClampNeg) (xs (i + 2).toNatClampNeg) (xs (i + 3).toNatClampNeg) (xs (i + 4).toNatClampNeg) (S1, c1, s1, e1, a1) hr1 hxr) (ll_good ll_w_maker_ok) (n := 6) (by decide +kernel) rfl dL_law_186 hro (Nat.le_of_ble_eq_true rfl) (fun kv ov1 ad1 H locs had hP hD hS hpost => ?_)
  rw [← had 0 (by decide), ← had 27 (by decide), ← had 54 (by decide)] at hl
  have hsm := ll_same (ex := [3, 1]) (by decide) hd hpost.2
  have hP : va_P D vwCl (mm_W cy ad1 ov1 S1) H := by have h9 := hP; exact h9
  refine lv_istore (lv' := [(5, .int kv), (0, .ref b), (1, .ref (ad1 0)), (2, .ref (ad1 27)), (3, .ref (ad1 54)), (4, .int i)]) hx hb dL_law_189 hl (by decide) rfl (fun ls hl => ?_)
  refine lv_aload_n hx hb dL_law_191 rfl (lv_at hl 3 rfl) ?_
  refine lv_aload_n hx hb dL_law_192 rfl (lv_at hl 1 rfl) ?_
  refine lv_iload hx hb dL_law_193 (lv_at hl 5 rfl) ?_
  refine lv_iconst (v := 1) hx hb dL_law_195 (by decide) ?_
  refine lv_iadd hx hb dL_law_196 ?_
  refine va_sld hx hb hX hbl hbA hS hin.2.1 dL_law_197 ?_
  refine lv_aload_n hx hb dL_law_198 rfl (lv_at hl 1 rfl) ?_
  refine lv_iload hx hb dL_law_199 (lv_at hl 5 rfl) ?_
  refine lv_iconst (v := 2) hx hb dL_law_201 (by decide) ?_
  refine lv_iadd hx hb dL_law_202 ?_
  refine va_sld hx hb hX hbl hbA hS hin.2.2.1 dL_law_203 ?_
  refine lv_aload_n hx hb dL_law_204 rfl (lv_at hl 1 rfl) ?_
  refine lv_iload hx hb dL_law_205 (lv_at hl 5 rfl) ?_
  refine lv_iconst (v := 3) hx hb dL_law_207 (by decide) ?_
  refine lv_iadd hx hb dL_law_208 ?_
  refine va_sld hx hb hX hbl hbA hS hin.2.2.2.1 dL_law_209 ?_
  refine lv_aload_n hx hb dL_law_210 rfl (lv_at hl 1 rfl) ?_
  refine lv_iload hx hb dL_law_211 (lv_at hl 5 rfl) ?_
  refine lv_iconst (v := 4) hx hb dL_law_213 (by decide) ?_
  refine lv_iadd hx hb dL_law_214 ?_
  refine va_sld hx hb hX hbl hbA hS hin.2.2.2.2 dL_law_215 ?_
  refine ml_call (as' := [.inl (xs (i + 1).toNatClampNeg), .inl (xs (i + 2).toNatClampNeg), .inl (xs (i + 3).toNatClampNeg), .inl (xs (i + 4).toNatClampNeg)]) (b9 := 27) (rest := []) (y := 120) (d := 60) hx hb hml hown hts hK hEX hA (ml_con hst hr2 rfl) rfl (mm_in_ut (ll_vw_ok _ (List.mem_of_getElem? (i := 2) rfl)).1 (ll_vw_ok _ (List.mem_of_getElem? (i := 2) rfl)).2) rfl rfl hP hD hS hl.1 (Nat.le_of_ble_eq_true rfl) dL_law_216 hro ⟨(Nat.le_of_ble_eq_true rfl), (Nat.le_of_ble_eq_true rfl)⟩ (fun h0 ad2 H locs had hP hD hS => ?_) (fun h0 => absurd rfl h0)
  rw [← had 0 (by decide), ← had 27 (by decide), ← had 54 (by decide)] at hl
  refine W.widen (k := kc + c1) (n := ks + s1) (Nat.le_refl (kc + c1)) (Nat.le_refl (ks + s1)) ?_
  refine W.eq (g2 := F0 m 219 ls [.int b1]) rfl ?_
  refine lv_istore (lv' := [(6, .int b1), (5, .int kv), (0, .ref b), (1, .ref (ad2 0)), (2, .ref (ad2 27)), (3, .ref (ad2 54)), (4, .int i)]) hx hb dL_law_219 hl (by decide) rfl (fun ls hl => ?_)
  refine lv_aload_n hx hb dL_law_221 rfl (lv_at hl 4 rfl) ?_
  refine ml_call (as' := []) (b9 := 27) (rest := []) (y := 114) (d := 60) hx hb hml hown hts hK hEX hA (ml_con hst (ll_thrown S2) rfl) rfl (mm_in_ut (ll_vw_ok _ (List.mem_of_getElem? (i := 1) rfl)).1 (ll_vw_ok _ (List.mem_of_getElem? (i := 1) rfl)).2) rfl rfl hP hD hS hl.1 (Nat.le_of_ble_eq_true rfl) dL_law_222 hro ⟨(Nat.le_of_ble_eq_true rfl), (Nat.le_of_ble_eq_true rfl)⟩ (fun h0 ad3 H locs had hP hD hS => ?_) (fun h0 => absurd rfl h0)
  rw [← had 0 (by decide), ← had 27 (by decide), ← had 54 (by decide)] at hl
  refine W.widen (k := kc + c1) (n := ks + s1) (Nat.le_refl (kc + c1)) (Nat.le_refl (ks + s1)) ?_
  refine W.eq (g2 := F0 m 225 ls [.int (S2 27 0)]) rfl ?_
  have hP : va_P D vwCl (mm_W cy ad3 ov1 S2) H := hP
  refine lv_iload hx hb dL_law_225 (lv_at hl 1 rfl) ?_
  refine lv_icmp_eq (tgt := 232) hx hb dL_law_227 (by decide) (fun _ => ?_) (fun z => absurd hsm.1 z)
  refine lv_iload hx hb dL_law_232 (lv_at hl 1 rfl) ?_
  refine lv_if_ne (tgt := 249) hx hb dL_law_234 (by decide) (fun _ => ?_) (fun z => ?_)
  · refine lv_goto (tgt := 911) hx hb dL_law_249 (by decide) ?_
    exact kk _ _ _ _ _ _ n' _ _ hP hD hS hI2 hn' (by omega) (by omega) (lv_sub hl [2, 3, 4, 5, 6] rfl)
  · obtain ⟨hab, hov⟩ := hsm.2 z
    refine lv_aload_n hx hb dL_law_237 rfl (lv_at hl 5 rfl) ?_
    refine lv_iconst (v := 0) hx hb dL_law_238 (by decide) ?_
    refine va_lald hx hb hK hP 54 2 ml_e54 rfl (show vp_in 0 1 by unfold vp_in; decide) dL_law_239 ?_
    refine lv_iload hx hb dL_law_240 (lv_at hl 0 rfl) ?_
    refine lv_i2l (v := b1.toInt64) hx hb dL_law_242 rfl ?_
    refine W.lcmp hx hb dL_law_243 ?_
    refine lv_if_eq (tgt := 249) hx hb dL_law_244 (by decide) (fun _ => ?_) (fun z9 => absurd (ll_cmp2 (hov.trans (by rw [hab]; rfl))) z9)
    refine lv_goto (tgt := 911) hx hb dL_law_249 (by decide) ?_
    exact kk _ _ _ _ _ _ n' _ _ hP hD hS hI2 hn' (by omega) (by omega) (lv_sub hl [2, 3, 4, 5, 6] rfl)
set_option maxHeartbeats 4000000 in
set_option maxRecDepth 100000 in
theorem lc_isEmpty (C : ll_Cx p l s m meth c D cy b L xs) {k : Nat} {i : Int32} (hk : k < 512) (hin : ll_in i L) (kk : ll_G p l e s m below meth c b D cy 911 (k + 1) i) : ll_G p l e s m below meth c b D cy 252 k i := by
  intro ad H locs ls ov S n kc ks hP hD hS hI hn hkc hks hl
  obtain ⟨hx, hb, hml, hown, hts, hK, hEX, hNC, hX, hbl, hL, hst, hr, hlocks⟩ := id C
  have hA : ∀ q : Nat, s.heap.size ≤ q → (fun q : Nat => s.heap.size ≤ q) q := fun _ h => h
  have hbA : ¬ (fun q : Nat => s.heap.size ≤ q) b := Nat.not_le.mpr hbl
  obtain ⟨S1, c1, s1, e1, a1, S2, b1, hr1, hr2, hI2, hpo, hd⟩ := ag_isEmpty (xs (i + 1).toNatClampNeg) hI
  obtain ⟨n', hn', hc1, hs1⟩ := hpo n hn
  have hn9 := hn'.2.2
  have hro : kc + c1 ≤ 601024 ∧ ks + s1 ≤ 7293034 := by omega
  have hxr : e1 = 0 ∨ ∃ j : Nat, ([3] : List Nat)[j]? = some e1 := hd.imp (fun h => h.1) (fun ⟨j, h, _⟩ => ⟨j, h⟩)
  refine lv_aload_n hx hb dL_law_252 rfl (lv_at hl 1 rfl) ?_
  refine lv_aload_n hx hb dL_law_253 rfl (lv_at hl 0 rfl) ?_
  refine lv_iload hx hb dL_law_254 (lv_at hl 4 rfl) ?_
  refine lv_iconst (v := 1) hx hb dL_law_256 (by decide) ?_
  refine lv_iadd hx hb dL_law_257 ?_
  refine va_sld hx hb hX hbl hbA hS hin.2.1 dL_law_258 ?_
  refine lv_aload_n hx hb dL_law_259 rfl (lv_at hl 3 rfl) ?_
  refine ll_help (av := [.ref (ad 0), .int (xs (i + 1).toNatClampNeg), .ref (ad 54)]) (ex := [3]) (kd := 2) (r := (S1, c1, s1, e1, a1)) C hP hD hS hl.1 (mh_isEmpty l hst D cy ad ov H.size S (xs (i + 1).toNatClampNeg) (S1, c1, s1, e1, a1) hr1 hxr) (ll_good ll_w_isEmpty_ok) (n := 3) (by decide +kernel) rfl dL_law_260 hro (Nat.le_of_ble_eq_true rfl) (fun kv ov1 ad1 H locs had hP hD hS hpost => ?_)
  rw [← had 0 (by decide), ← had 27 (by decide), ← had 54 (by decide)] at hl
  have hsm := ll_same (ex := [3]) (by decide) hd hpost.2
  have hP : va_P D vwCl (mm_W cy ad1 ov1 S1) H := by have h9 := hP; exact h9
  refine lv_istore (lv' := [(5, .int kv), (0, .ref b), (1, .ref (ad1 0)), (2, .ref (ad1 27)), (3, .ref (ad1 54)), (4, .int i)]) hx hb dL_law_263 hl (by decide) rfl (fun ls hl => ?_)
  refine lv_aload_n hx hb dL_law_265 rfl (lv_at hl 3 rfl) ?_
  refine lv_aload_n hx hb dL_law_266 rfl (lv_at hl 1 rfl) ?_
  refine lv_iload hx hb dL_law_267 (lv_at hl 5 rfl) ?_
  refine lv_iconst (v := 1) hx hb dL_law_269 (by decide) ?_
  refine lv_iadd hx hb dL_law_270 ?_
  refine va_sld hx hb hX hbl hbA hS hin.2.1 dL_law_271 ?_
  refine ml_call (as' := [.inl (xs (i + 1).toNatClampNeg)]) (b9 := 27) (rest := []) (y := 123) (d := 60) hx hb hml hown hts hK hEX hA (ml_con hst hr2 rfl) rfl (mm_in_ut (ll_vw_ok _ (List.mem_of_getElem? (i := 3) rfl)).1 (ll_vw_ok _ (List.mem_of_getElem? (i := 3) rfl)).2) rfl rfl hP hD hS hl.1 (Nat.le_of_ble_eq_true rfl) dL_law_272 hro ⟨(Nat.le_of_ble_eq_true rfl), (Nat.le_of_ble_eq_true rfl)⟩ (fun h0 ad2 H locs had hP hD hS => ?_) (fun h0 => absurd rfl h0)
  rw [← had 0 (by decide), ← had 27 (by decide), ← had 54 (by decide)] at hl
  refine W.widen (k := kc + c1) (n := ks + s1) (Nat.le_refl (kc + c1)) (Nat.le_refl (ks + s1)) ?_
  refine W.eq (g2 := F0 m 275 ls [.int b1]) rfl ?_
  refine lv_istore (lv' := [(6, .int b1), (5, .int kv), (0, .ref b), (1, .ref (ad2 0)), (2, .ref (ad2 27)), (3, .ref (ad2 54)), (4, .int i)]) hx hb dL_law_275 hl (by decide) rfl (fun ls hl => ?_)
  refine lv_aload_n hx hb dL_law_277 rfl (lv_at hl 4 rfl) ?_
  refine ml_call (as' := []) (b9 := 27) (rest := []) (y := 114) (d := 60) hx hb hml hown hts hK hEX hA (ml_con hst (ll_thrown S2) rfl) rfl (mm_in_ut (ll_vw_ok _ (List.mem_of_getElem? (i := 1) rfl)).1 (ll_vw_ok _ (List.mem_of_getElem? (i := 1) rfl)).2) rfl rfl hP hD hS hl.1 (Nat.le_of_ble_eq_true rfl) dL_law_278 hro ⟨(Nat.le_of_ble_eq_true rfl), (Nat.le_of_ble_eq_true rfl)⟩ (fun h0 ad3 H locs had hP hD hS => ?_) (fun h0 => absurd rfl h0)
  rw [← had 0 (by decide), ← had 27 (by decide), ← had 54 (by decide)] at hl
  refine W.widen (k := kc + c1) (n := ks + s1) (Nat.le_refl (kc + c1)) (Nat.le_refl (ks + s1)) ?_
  refine W.eq (g2 := F0 m 281 ls [.int (S2 27 0)]) rfl ?_
  have hP : va_P D vwCl (mm_W cy ad3 ov1 S2) H := hP
  refine lv_iload hx hb dL_law_281 (lv_at hl 1 rfl) ?_
  refine lv_icmp_eq (tgt := 288) hx hb dL_law_283 (by decide) (fun _ => ?_) (fun z => absurd hsm.1 z)
  refine lv_iload hx hb dL_law_288 (lv_at hl 1 rfl) ?_
  refine lv_if_ne (tgt := 312) hx hb dL_law_290 (by decide) (fun _ => ?_) (fun z => ?_)
  · refine lv_goto (tgt := 911) hx hb dL_law_312 (by decide) ?_
    exact kk _ _ _ _ _ _ n' _ _ hP hD hS hI2 hn' (by omega) (by omega) (lv_sub hl [2, 3, 4, 5, 6] rfl)
  · obtain ⟨hab, hov⟩ := hsm.2 z
    refine lv_aload_n hx hb dL_law_293 rfl (lv_at hl 5 rfl) ?_
    refine lv_iconst (v := 0) hx hb dL_law_294 (by decide) ?_
    refine va_lald hx hb hK hP 54 2 ml_e54 rfl (show vp_in 0 1 by unfold vp_in; decide) dL_law_295 ?_
    refine lv_iload hx hb dL_law_296 (lv_at hl 0 rfl) ?_
    refine lv_if_eq (tgt := 305) hx hb dL_law_298 (by decide) (fun z0 => ?_) (fun z0 => ?_)
    · refine lv_lconst (v := 0) hx hb dL_law_305 (by decide) ?_
      refine W.lcmp hx hb dL_law_306 ?_
      refine lv_if_eq (tgt := 312) hx hb dL_law_307 (by decide) (fun _ => ?_) (fun z9 => absurd (ll_cmp2 (hov.trans (by unfold ml_o; rw [if_neg (by decide), if_pos rfl, hab, if_pos z0]))) z9)
      refine lv_goto (tgt := 911) hx hb dL_law_312 (by decide) ?_
      exact kk _ _ _ _ _ _ n' _ _ hP hD hS hI2 hn' (by omega) (by omega) (lv_sub hl [2, 3, 4, 5, 6] rfl)
    · refine lv_lconst (v := 1) hx hb dL_law_301 (by decide) ?_
      refine lv_goto (tgt := 306) hx hb dL_law_302 (by decide) ?_
      refine W.lcmp hx hb dL_law_306 ?_
      refine lv_if_eq (tgt := 312) hx hb dL_law_307 (by decide) (fun _ => ?_) (fun z9 => absurd (ll_cmp2 (hov.trans (by unfold ml_o; rw [if_neg (by decide), if_pos rfl, hab, if_neg z0]))) z9)
      refine lv_goto (tgt := 911) hx hb dL_law_312 (by decide) ?_
      exact kk _ _ _ _ _ _ n' _ _ hP hD hS hI2 hn' (by omega) (by omega) (lv_sub hl [2, 3, 4, 5, 6] rfl)
set_option maxHeartbeats 4000000 in
set_option maxRecDepth 100000 in
theorem lc_match (C : ll_Cx p l s m meth c D cy b L xs) {k : Nat} {i : Int32} (hk : k < 512) (hin : ll_in i L) (kk : ll_G p l e s m below meth c b D cy 911 (k + 1) i) : ll_G p l e s m below meth c b D cy 315 k i := by
  intro ad H locs ls ov S n kc ks hP hD hS hI hn hkc hks hl
  obtain ⟨hx, hb, hml, hown, hts, hK, hEX, hNC, hX, hbl, hL, hst, hr, hlocks⟩ := id C
  have hA : ∀ q : Nat, s.heap.size ≤ q → (fun q : Nat => s.heap.size ≤ q) q := fun _ h => h
  have hbA : ¬ (fun q : Nat => s.heap.size ≤ q) b := Nat.not_le.mpr hbl
  obtain ⟨S1, c1, s1, e1, a1, S2, b1, hr1, hr2, hI2, hpo, hd⟩ := ag_match (xs (i + 1).toNatClampNeg) (xs (i + 2).toNatClampNeg) (xs (i + 3).toNatClampNeg) hI
  obtain ⟨n', hn', hc1, hs1⟩ := hpo n hn
  have hn9 := hn'.2.2
  have hro : kc + c1 ≤ 601024 ∧ ks + s1 ≤ 7293034 := by omega
  have hxr : e1 = 0 ∨ ∃ j : Nat, ([3] : List Nat)[j]? = some e1 := hd.imp (fun h => h.1) (fun ⟨j, h, _⟩ => ⟨j, h⟩)
  refine lv_aload_n hx hb dL_law_315 rfl (lv_at hl 1 rfl) ?_
  refine lv_aload_n hx hb dL_law_316 rfl (lv_at hl 0 rfl) ?_
  refine lv_iload hx hb dL_law_317 (lv_at hl 4 rfl) ?_
  refine lv_iconst (v := 1) hx hb dL_law_319 (by decide) ?_
  refine lv_iadd hx hb dL_law_320 ?_
  refine va_sld hx hb hX hbl hbA hS hin.2.1 dL_law_321 ?_
  refine lv_aload_n hx hb dL_law_322 rfl (lv_at hl 0 rfl) ?_
  refine lv_iload hx hb dL_law_323 (lv_at hl 4 rfl) ?_
  refine lv_iconst (v := 2) hx hb dL_law_325 (by decide) ?_
  refine lv_iadd hx hb dL_law_326 ?_
  refine va_sld hx hb hX hbl hbA hS hin.2.2.1 dL_law_327 ?_
  refine lv_aload_n hx hb dL_law_328 rfl (lv_at hl 0 rfl) ?_
  refine lv_iload hx hb dL_law_329 (lv_at hl 4 rfl) ?_
  refine lv_iconst (v := 3) hx hb dL_law_331 (by decide) ?_
  refine lv_iadd hx hb dL_law_332 ?_
  refine va_sld hx hb hX hbl hbA hS hin.2.2.2.1 dL_law_333 ?_
  refine ll_help (av := [.ref (ad 0), .int (xs (i + 1).toNatClampNeg), .int (xs (i + 2).toNatClampNeg), .int (xs (i + 3).toNatClampNeg)]) (ex := [3]) (kd := 0) (r := (S1, c1, s1, e1, a1)) C hP hD hS hl.1 (mh_match l hst D cy ad ov H.size S (xs (i + 1).toNatClampNeg) (xs (i + 2).toNatClampNeg) (xs (i + 3).toNatClampNeg) (S1, c1, s1, e1, a1) hr1 hxr) (ll_good ll_w_match_ok) (n := 4) (by decide +kernel) rfl dL_law_334 hro (Nat.le_of_ble_eq_true rfl) (fun kv ov1 ad1 H locs had hP hD hS hpost => ?_)
  rw [← had 0 (by decide), ← had 27 (by decide), ← had 54 (by decide)] at hl
  have hsm := ll_same (ex := [3]) (by decide) hd hpost.2
  have hP : va_P D vwCl (mm_W cy ad1 ov1 S1) H := by have h9 := hP; exact h9
  refine lv_istore (lv' := [(5, .int kv), (0, .ref b), (1, .ref (ad1 0)), (2, .ref (ad1 27)), (3, .ref (ad1 54)), (4, .int i)]) hx hb dL_law_337 hl (by decide) rfl (fun ls hl => ?_)
  refine lv_aload_n hx hb dL_law_339 rfl (lv_at hl 3 rfl) ?_
  refine lv_aload_n hx hb dL_law_340 rfl (lv_at hl 1 rfl) ?_
  refine lv_iload hx hb dL_law_341 (lv_at hl 5 rfl) ?_
  refine lv_iconst (v := 1) hx hb dL_law_343 (by decide) ?_
  refine lv_iadd hx hb dL_law_344 ?_
  refine va_sld hx hb hX hbl hbA hS hin.2.1 dL_law_345 ?_
  refine lv_aload_n hx hb dL_law_346 rfl (lv_at hl 1 rfl) ?_
  refine lv_iload hx hb dL_law_347 (lv_at hl 5 rfl) ?_
  refine lv_iconst (v := 2) hx hb dL_law_349 (by decide) ?_
  refine lv_iadd hx hb dL_law_350 ?_
  refine va_sld hx hb hX hbl hbA hS hin.2.2.1 dL_law_351 ?_
  refine lv_aload_n hx hb dL_law_352 rfl (lv_at hl 1 rfl) ?_
  refine lv_iload hx hb dL_law_353 (lv_at hl 5 rfl) ?_
  refine lv_iconst (v := 3) hx hb dL_law_355 (by decide) ?_
  refine lv_iadd hx hb dL_law_356 ?_
  refine va_sld hx hb hX hbl hbA hS hin.2.2.2.1 dL_law_357 ?_
  refine ml_call (as' := [.inl (xs (i + 1).toNatClampNeg), .inl (xs (i + 2).toNatClampNeg), .inl (xs (i + 3).toNatClampNeg)]) (b9 := 27) (rest := []) (y := 125) (d := 60) hx hb hml hown hts hK hEX hA (ml_con hst hr2 rfl) rfl (mm_in_ut (ll_vw_ok _ (List.mem_of_getElem? (i := 4) rfl)).1 (ll_vw_ok _ (List.mem_of_getElem? (i := 4) rfl)).2) rfl rfl hP hD hS hl.1 (Nat.le_of_ble_eq_true rfl) dL_law_358 hro ⟨(Nat.le_of_ble_eq_true rfl), (Nat.le_of_ble_eq_true rfl)⟩ (fun h0 ad2 H locs had hP hD hS => ?_) (fun h0 => absurd rfl h0)
  rw [← had 0 (by decide), ← had 27 (by decide), ← had 54 (by decide)] at hl
  refine W.widen (k := kc + c1) (n := ks + s1) (Nat.le_refl (kc + c1)) (Nat.le_refl (ks + s1)) ?_
  refine W.eq (g2 := F0 m 361 ls []) rfl ?_
  refine lv_aload_n hx hb dL_law_361 rfl (lv_at hl 3 rfl) ?_
  refine ml_call (as' := []) (b9 := 27) (rest := []) (y := 114) (d := 60) hx hb hml hown hts hK hEX hA (ml_con hst (ll_thrown S2) rfl) rfl (mm_in_ut (ll_vw_ok _ (List.mem_of_getElem? (i := 1) rfl)).1 (ll_vw_ok _ (List.mem_of_getElem? (i := 1) rfl)).2) rfl rfl hP hD hS hl.1 (Nat.le_of_ble_eq_true rfl) dL_law_362 hro ⟨(Nat.le_of_ble_eq_true rfl), (Nat.le_of_ble_eq_true rfl)⟩ (fun h0 ad3 H locs had hP hD hS => ?_) (fun h0 => absurd rfl h0)
  rw [← had 0 (by decide), ← had 27 (by decide), ← had 54 (by decide)] at hl
  refine W.widen (k := kc + c1) (n := ks + s1) (Nat.le_refl (kc + c1)) (Nat.le_refl (ks + s1)) ?_
  refine W.eq (g2 := F0 m 365 ls [.int (S2 27 0)]) rfl ?_
  have hP : va_P D vwCl (mm_W cy ad3 ov1 S2) H := hP
  refine lv_iload hx hb dL_law_365 (lv_at hl 0 rfl) ?_
  refine lv_icmp_eq (tgt := 372) hx hb dL_law_367 (by decide) (fun _ => ?_) (fun z => absurd hsm.1 z)
  refine lv_goto (tgt := 911) hx hb dL_law_372 (by decide) ?_
  exact kk _ _ _ _ _ _ n' _ _ hP hD hS hI2 hn' (by omega) (by omega) (lv_sub hl [1, 2, 3, 4, 5] rfl)
set_option maxHeartbeats 4000000 in
set_option maxRecDepth 100000 in
theorem lc_sign (C : ll_Cx p l s m meth c D cy b L xs) {k : Nat} {i : Int32} (hk : k < 512) (hin : ll_in i L) (kk : ll_G p l e s m below meth c b D cy 911 (k + 1) i) : ll_G p l e s m below meth c b D cy 375 k i := by
  intro ad H locs ls ov S n kc ks hP hD hS hI hn hkc hks hl
  obtain ⟨hx, hb, hml, hown, hts, hK, hEX, hNC, hX, hbl, hL, hst, hr, hlocks⟩ := id C
  have hA : ∀ q : Nat, s.heap.size ≤ q → (fun q : Nat => s.heap.size ≤ q) q := fun _ h => h
  have hbA : ¬ (fun q : Nat => s.heap.size ≤ q) b := Nat.not_le.mpr hbl
  obtain ⟨S1, c1, s1, e1, a1, S2, b1, hr1, hr2, hI2, hpo, hd⟩ := ag_sign (xs (i + 1).toNatClampNeg) hI
  obtain ⟨n', hn', hc1, hs1⟩ := hpo n hn
  have hn9 := hn'.2.2
  have hro : kc + c1 ≤ 601024 ∧ ks + s1 ≤ 7293034 := by omega
  have hxr : e1 = 0 ∨ ∃ j : Nat, ([1, 2] : List Nat)[j]? = some e1 := hd.imp (fun h => h.1) (fun ⟨j, h, _⟩ => ⟨j, h⟩)
  refine lv_aload_n hx hb dL_law_375 rfl (lv_at hl 1 rfl) ?_
  refine lv_aload_n hx hb dL_law_376 rfl (lv_at hl 0 rfl) ?_
  refine lv_iload hx hb dL_law_377 (lv_at hl 4 rfl) ?_
  refine lv_iconst (v := 1) hx hb dL_law_379 (by decide) ?_
  refine lv_iadd hx hb dL_law_380 ?_
  refine va_sld hx hb hX hbl hbA hS hin.2.1 dL_law_381 ?_
  refine lv_aload_n hx hb dL_law_382 rfl (lv_at hl 3 rfl) ?_
  refine ll_help (av := [.ref (ad 0), .int (xs (i + 1).toNatClampNeg), .ref (ad 54)]) (ex := [1, 2]) (kd := 1) (r := (S1, c1, s1, e1, a1)) C hP hD hS hl.1 (mh_sign l hst D cy ad ov H.size S (xs (i + 1).toNatClampNeg) (S1, c1, s1, e1, a1) hr1 hxr) (ll_good ll_w_sign_ok) (n := 3) (by decide +kernel) rfl dL_law_383 hro (Nat.le_of_ble_eq_true rfl) (fun kv ov1 ad1 H locs had hP hD hS hpost => ?_)
  rw [← had 0 (by decide), ← had 27 (by decide), ← had 54 (by decide)] at hl
  have hsm := ll_same (ex := [1, 2]) (by decide) hd hpost.2
  have hP : va_P D vwCl (mm_W cy ad1 ov1 S1) H := by have h9 := hP; exact h9
  refine lv_istore (lv' := [(5, .int kv), (0, .ref b), (1, .ref (ad1 0)), (2, .ref (ad1 27)), (3, .ref (ad1 54)), (4, .int i)]) hx hb dL_law_386 hl (by decide) rfl (fun ls hl => ?_)
  refine lv_aload_n hx hb dL_law_388 rfl (lv_at hl 3 rfl) ?_
  refine lv_aload_n hx hb dL_law_389 rfl (lv_at hl 1 rfl) ?_
  refine lv_iload hx hb dL_law_390 (lv_at hl 5 rfl) ?_
  refine lv_iconst (v := 1) hx hb dL_law_392 (by decide) ?_
  refine lv_iadd hx hb dL_law_393 ?_
  refine va_sld hx hb hX hbl hbA hS hin.2.1 dL_law_394 ?_
  refine ml_call (as' := [.inl (xs (i + 1).toNatClampNeg)]) (b9 := 27) (rest := []) (y := 128) (d := 60) hx hb hml hown hts hK hEX hA (ml_con hst hr2 rfl) rfl (mm_in_ut (ll_vw_ok _ (List.mem_of_getElem? (i := 5) rfl)).1 (ll_vw_ok _ (List.mem_of_getElem? (i := 5) rfl)).2) rfl rfl hP hD hS hl.1 (Nat.le_of_ble_eq_true rfl) dL_law_395 hro ⟨(Nat.le_of_ble_eq_true rfl), (Nat.le_of_ble_eq_true rfl)⟩ (fun h0 ad2 H locs had hP hD hS => ?_) (fun h0 => absurd rfl h0)
  rw [← had 0 (by decide), ← had 27 (by decide), ← had 54 (by decide)] at hl
  refine W.widen (k := kc + c1) (n := ks + s1) (Nat.le_refl (kc + c1)) (Nat.le_refl (ks + s1)) ?_
  refine W.eq (g2 := F0 m 398 ls [.int b1]) rfl ?_
  refine lv_istore (lv' := [(6, .int b1), (5, .int kv), (0, .ref b), (1, .ref (ad2 0)), (2, .ref (ad2 27)), (3, .ref (ad2 54)), (4, .int i)]) hx hb dL_law_398 hl (by decide) rfl (fun ls hl => ?_)
  refine lv_aload_n hx hb dL_law_400 rfl (lv_at hl 4 rfl) ?_
  refine ml_call (as' := []) (b9 := 27) (rest := []) (y := 114) (d := 60) hx hb hml hown hts hK hEX hA (ml_con hst (ll_thrown S2) rfl) rfl (mm_in_ut (ll_vw_ok _ (List.mem_of_getElem? (i := 1) rfl)).1 (ll_vw_ok _ (List.mem_of_getElem? (i := 1) rfl)).2) rfl rfl hP hD hS hl.1 (Nat.le_of_ble_eq_true rfl) dL_law_401 hro ⟨(Nat.le_of_ble_eq_true rfl), (Nat.le_of_ble_eq_true rfl)⟩ (fun h0 ad3 H locs had hP hD hS => ?_) (fun h0 => absurd rfl h0)
  rw [← had 0 (by decide), ← had 27 (by decide), ← had 54 (by decide)] at hl
  refine W.widen (k := kc + c1) (n := ks + s1) (Nat.le_refl (kc + c1)) (Nat.le_refl (ks + s1)) ?_
  refine W.eq (g2 := F0 m 404 ls [.int (S2 27 0)]) rfl ?_
  have hP : va_P D vwCl (mm_W cy ad3 ov1 S2) H := hP
  refine lv_iload hx hb dL_law_404 (lv_at hl 1 rfl) ?_
  refine lv_icmp_eq (tgt := 411) hx hb dL_law_406 (by decide) (fun _ => ?_) (fun z => absurd hsm.1 z)
  refine lv_iload hx hb dL_law_411 (lv_at hl 1 rfl) ?_
  refine lv_if_ne (tgt := 428) hx hb dL_law_413 (by decide) (fun _ => ?_) (fun z => ?_)
  · refine lv_goto (tgt := 911) hx hb dL_law_428 (by decide) ?_
    exact kk _ _ _ _ _ _ n' _ _ hP hD hS hI2 hn' (by omega) (by omega) (lv_sub hl [2, 3, 4, 5, 6] rfl)
  · obtain ⟨hab, hov⟩ := hsm.2 z
    refine lv_aload_n hx hb dL_law_416 rfl (lv_at hl 5 rfl) ?_
    refine lv_iconst (v := 0) hx hb dL_law_417 (by decide) ?_
    refine va_lald hx hb hK hP 54 2 ml_e54 rfl (show vp_in 0 1 by unfold vp_in; decide) dL_law_418 ?_
    refine lv_iload hx hb dL_law_419 (lv_at hl 0 rfl) ?_
    refine lv_i2l (v := b1.toInt64) hx hb dL_law_421 rfl ?_
    refine W.lcmp hx hb dL_law_422 ?_
    refine lv_if_eq (tgt := 428) hx hb dL_law_423 (by decide) (fun _ => ?_) (fun z9 => absurd (ll_cmp2 (hov.trans (by rw [hab]; rfl))) z9)
    refine lv_goto (tgt := 911) hx hb dL_law_428 (by decide) ?_
    exact kk _ _ _ _ _ _ n' _ _ hP hD hS hI2 hn' (by omega) (by omega) (lv_sub hl [2, 3, 4, 5, 6] rfl)
set_option maxHeartbeats 4000000 in
set_option maxRecDepth 100000 in
theorem lc_row (C : ll_Cx p l s m meth c D cy b L xs) {k : Nat} {i : Int32} (hk : k < 512) (hin : ll_in i L) (kk : ll_G p l e s m below meth c b D cy 911 (k + 1) i) : ll_G p l e s m below meth c b D cy 431 k i := by
  intro ad H locs ls ov S n kc ks hP hD hS hI hn hkc hks hl
  obtain ⟨hx, hb, hml, hown, hts, hK, hEX, hNC, hX, hbl, hL, hst, hr, hlocks⟩ := id C
  have hA : ∀ q : Nat, s.heap.size ≤ q → (fun q : Nat => s.heap.size ≤ q) q := fun _ h => h
  have hbA : ¬ (fun q : Nat => s.heap.size ≤ q) b := Nat.not_le.mpr hbl
  obtain ⟨S1, c1, s1, e1, a1, S2, b1, hr1, hr2, hI2, hpo, hd⟩ := ag_row hI
  obtain ⟨n', hn', hc1, hs1⟩ := hpo n hn
  have hn9 := hn'.2.2
  have hro : kc + c1 ≤ 601024 ∧ ks + s1 ≤ 7293034 := by omega
  have hxr : e1 = 0 ∨ ∃ j : Nat, ([1, 2] : List Nat)[j]? = some e1 := hd.imp (fun h => h.1) (fun ⟨j, h, _⟩ => ⟨j, h⟩)
  refine lv_aload_n hx hb dL_law_431 rfl (lv_at hl 1 rfl) ?_
  refine lv_aload_n hx hb dL_law_432 rfl (lv_at hl 3 rfl) ?_
  refine ll_help (av := [.ref (ad 0), .ref (ad 54)]) (ex := [1, 2]) (kd := 1) (r := (S1, c1, s1, e1, a1)) C hP hD hS hl.1 (mh_row l hst D cy ad ov H.size S (S1, c1, s1, e1, a1) hr1 hxr) (ll_good ll_w_row_ok) (n := 2) (by decide +kernel) rfl dL_law_433 hro (Nat.le_of_ble_eq_true rfl) (fun kv ov1 ad1 H locs had hP hD hS hpost => ?_)
  rw [← had 0 (by decide), ← had 27 (by decide), ← had 54 (by decide)] at hl
  have hsm := ll_same (ex := [1, 2]) (by decide) hd hpost.2
  have hP : va_P D vwCl (mm_W cy ad1 ov1 S1) H := by have h9 := hP; exact h9
  refine lv_istore (lv' := [(5, .int kv), (0, .ref b), (1, .ref (ad1 0)), (2, .ref (ad1 27)), (3, .ref (ad1 54)), (4, .int i)]) hx hb dL_law_436 hl (by decide) rfl (fun ls hl => ?_)
  refine lv_aload_n hx hb dL_law_438 rfl (lv_at hl 3 rfl) ?_
  refine ml_call (as' := []) (b9 := 27) (rest := []) (y := 129) (d := 60) hx hb hml hown hts hK hEX hA (ml_con hst hr2 rfl) rfl (mm_in_ut (ll_vw_ok _ (List.mem_of_getElem? (i := 6) rfl)).1 (ll_vw_ok _ (List.mem_of_getElem? (i := 6) rfl)).2) rfl rfl hP hD hS hl.1 (Nat.le_of_ble_eq_true rfl) dL_law_439 hro ⟨(Nat.le_of_ble_eq_true rfl), (Nat.le_of_ble_eq_true rfl)⟩ (fun h0 ad2 H locs had hP hD hS => ?_) (fun h0 => absurd rfl h0)
  rw [← had 0 (by decide), ← had 27 (by decide), ← had 54 (by decide)] at hl
  refine W.widen (k := kc + c1) (n := ks + s1) (Nat.le_refl (kc + c1)) (Nat.le_refl (ks + s1)) ?_
  refine W.eq (g2 := F0 m 442 ls [.int b1]) rfl ?_
  refine lv_istore (lv' := [(6, .int b1), (5, .int kv), (0, .ref b), (1, .ref (ad2 0)), (2, .ref (ad2 27)), (3, .ref (ad2 54)), (4, .int i)]) hx hb dL_law_442 hl (by decide) rfl (fun ls hl => ?_)
  refine lv_aload_n hx hb dL_law_444 rfl (lv_at hl 4 rfl) ?_
  refine ml_call (as' := []) (b9 := 27) (rest := []) (y := 114) (d := 60) hx hb hml hown hts hK hEX hA (ml_con hst (ll_thrown S2) rfl) rfl (mm_in_ut (ll_vw_ok _ (List.mem_of_getElem? (i := 1) rfl)).1 (ll_vw_ok _ (List.mem_of_getElem? (i := 1) rfl)).2) rfl rfl hP hD hS hl.1 (Nat.le_of_ble_eq_true rfl) dL_law_445 hro ⟨(Nat.le_of_ble_eq_true rfl), (Nat.le_of_ble_eq_true rfl)⟩ (fun h0 ad3 H locs had hP hD hS => ?_) (fun h0 => absurd rfl h0)
  rw [← had 0 (by decide), ← had 27 (by decide), ← had 54 (by decide)] at hl
  refine W.widen (k := kc + c1) (n := ks + s1) (Nat.le_refl (kc + c1)) (Nat.le_refl (ks + s1)) ?_
  refine W.eq (g2 := F0 m 448 ls [.int (S2 27 0)]) rfl ?_
  have hP : va_P D vwCl (mm_W cy ad3 ov1 S2) H := hP
  refine lv_iload hx hb dL_law_448 (lv_at hl 1 rfl) ?_
  refine lv_icmp_eq (tgt := 455) hx hb dL_law_450 (by decide) (fun _ => ?_) (fun z => absurd hsm.1 z)
  refine lv_iload hx hb dL_law_455 (lv_at hl 1 rfl) ?_
  refine lv_if_ne (tgt := 472) hx hb dL_law_457 (by decide) (fun _ => ?_) (fun z => ?_)
  · refine lv_goto (tgt := 911) hx hb dL_law_472 (by decide) ?_
    exact kk _ _ _ _ _ _ n' _ _ hP hD hS hI2 hn' (by omega) (by omega) (lv_sub hl [2, 3, 4, 5, 6] rfl)
  · obtain ⟨hab, hov⟩ := hsm.2 z
    refine lv_aload_n hx hb dL_law_460 rfl (lv_at hl 5 rfl) ?_
    refine lv_iconst (v := 0) hx hb dL_law_461 (by decide) ?_
    refine va_lald hx hb hK hP 54 2 ml_e54 rfl (show vp_in 0 1 by unfold vp_in; decide) dL_law_462 ?_
    refine lv_iload hx hb dL_law_463 (lv_at hl 0 rfl) ?_
    refine lv_i2l (v := b1.toInt64) hx hb dL_law_465 rfl ?_
    refine W.lcmp hx hb dL_law_466 ?_
    refine lv_if_eq (tgt := 472) hx hb dL_law_467 (by decide) (fun _ => ?_) (fun z9 => absurd (ll_cmp2 (hov.trans (by rw [hab]; rfl))) z9)
    refine lv_goto (tgt := 911) hx hb dL_law_472 (by decide) ?_
    exact kk _ _ _ _ _ _ n' _ _ hP hD hS hI2 hn' (by omega) (by omega) (lv_sub hl [2, 3, 4, 5, 6] rfl)
set_option maxHeartbeats 4000000 in
set_option maxRecDepth 100000 in
theorem lc_compile (C : ll_Cx p l s m meth c D cy b L xs) {k : Nat} {i : Int32} (hk : k < 512) (hin : ll_in i L) (kk : ll_G p l e s m below meth c b D cy 911 (k + 1) i) : ll_G p l e s m below meth c b D cy 475 k i := by
  intro ad H locs ls ov S n kc ks hP hD hS hI hn hkc hks hl
  obtain ⟨hx, hb, hml, hown, hts, hK, hEX, hNC, hX, hbl, hL, hst, hr, hlocks⟩ := id C
  have hA : ∀ q : Nat, s.heap.size ≤ q → (fun q : Nat => s.heap.size ≤ q) q := fun _ h => h
  have hbA : ¬ (fun q : Nat => s.heap.size ≤ q) b := Nat.not_le.mpr hbl
  obtain ⟨S1, c1, s1, e1, a1, S2, b1, hr1, hr2, hI2, hpo, hd⟩ := ag_compile hn hI
  obtain ⟨n', hn', hc1, hs1⟩ := hpo n hn
  have hn9 := hn'.2.2
  have hro : kc + c1 ≤ 601024 ∧ ks + s1 ≤ 7293034 := by omega
  have hxr : e1 = 0 ∨ ∃ j : Nat, ([1, 4] : List Nat)[j]? = some e1 := hd.imp (fun h => h.1) (fun ⟨j, h, _⟩ => ⟨j, h⟩)
  refine lv_aload_n hx hb dL_law_475 rfl (lv_at hl 1 rfl) ?_
  refine lv_aload_n hx hb dL_law_476 rfl (lv_at hl 3 rfl) ?_
  refine ll_help (av := [.ref (ad 0), .ref (ad 54)]) (ex := [1, 4]) (kd := 1) (r := (S1, c1, s1, e1, a1)) C hP hD hS hl.1 (mh_compile l hst D cy ad ov H.size S (S1, c1, s1, e1, a1) hr1 hxr) (ll_good ll_w_compile_ok) (n := 2) (by decide +kernel) rfl dL_law_477 hro (Nat.le_of_ble_eq_true rfl) (fun kv ov1 ad1 H locs had hP hD hS hpost => ?_)
  rw [← had 0 (by decide), ← had 27 (by decide), ← had 54 (by decide)] at hl
  have hsm := ll_same (ex := [1, 4]) (by decide) hd hpost.2
  have hP : va_P D vwCl (mm_W cy ad1 ov1 S1) H := by have h9 := hP; exact h9
  refine lv_istore (lv' := [(5, .int kv), (0, .ref b), (1, .ref (ad1 0)), (2, .ref (ad1 27)), (3, .ref (ad1 54)), (4, .int i)]) hx hb dL_law_480 hl (by decide) rfl (fun ls hl => ?_)
  refine lv_aload_n hx hb dL_law_482 rfl (lv_at hl 3 rfl) ?_
  refine ml_call (as' := []) (b9 := 27) (rest := []) (y := 145) (d := 60) hx hb hml hown hts hK hEX hA (ml_con hst hr2 rfl) rfl (mm_in_ut (ll_vw_ok _ (List.mem_of_getElem? (i := 7) rfl)).1 (ll_vw_ok _ (List.mem_of_getElem? (i := 7) rfl)).2) rfl rfl hP hD hS hl.1 (Nat.le_of_ble_eq_true rfl) dL_law_483 hro ⟨(Nat.le_of_ble_eq_true rfl), (Nat.le_of_ble_eq_true rfl)⟩ (fun h0 ad2 H locs had hP hD hS => ?_) (fun h0 => absurd rfl h0)
  rw [← had 0 (by decide), ← had 27 (by decide), ← had 54 (by decide)] at hl
  refine W.widen (k := kc + c1) (n := ks + s1) (Nat.le_refl (kc + c1)) (Nat.le_refl (ks + s1)) ?_
  refine W.eq (g2 := F0 m 486 ls [.int b1]) rfl ?_
  refine lv_istore (lv' := [(6, .int b1), (5, .int kv), (0, .ref b), (1, .ref (ad2 0)), (2, .ref (ad2 27)), (3, .ref (ad2 54)), (4, .int i)]) hx hb dL_law_486 hl (by decide) rfl (fun ls hl => ?_)
  refine lv_aload_n hx hb dL_law_488 rfl (lv_at hl 4 rfl) ?_
  refine ml_call (as' := []) (b9 := 27) (rest := []) (y := 114) (d := 60) hx hb hml hown hts hK hEX hA (ml_con hst (ll_thrown S2) rfl) rfl (mm_in_ut (ll_vw_ok _ (List.mem_of_getElem? (i := 1) rfl)).1 (ll_vw_ok _ (List.mem_of_getElem? (i := 1) rfl)).2) rfl rfl hP hD hS hl.1 (Nat.le_of_ble_eq_true rfl) dL_law_489 hro ⟨(Nat.le_of_ble_eq_true rfl), (Nat.le_of_ble_eq_true rfl)⟩ (fun h0 ad3 H locs had hP hD hS => ?_) (fun h0 => absurd rfl h0)
  rw [← had 0 (by decide), ← had 27 (by decide), ← had 54 (by decide)] at hl
  refine W.widen (k := kc + c1) (n := ks + s1) (Nat.le_refl (kc + c1)) (Nat.le_refl (ks + s1)) ?_
  refine W.eq (g2 := F0 m 492 ls [.int (S2 27 0)]) rfl ?_
  have hP : va_P D vwCl (mm_W cy ad3 ov1 S2) H := hP
  refine lv_iload hx hb dL_law_492 (lv_at hl 1 rfl) ?_
  refine lv_icmp_eq (tgt := 499) hx hb dL_law_494 (by decide) (fun _ => ?_) (fun z => absurd hsm.1 z)
  refine lv_iload hx hb dL_law_499 (lv_at hl 1 rfl) ?_
  refine lv_if_ne (tgt := 516) hx hb dL_law_501 (by decide) (fun _ => ?_) (fun z => ?_)
  · refine lv_goto (tgt := 911) hx hb dL_law_516 (by decide) ?_
    exact kk _ _ _ _ _ _ n' _ _ hP hD hS hI2 hn' (by omega) (by omega) (lv_sub hl [2, 3, 4, 5, 6] rfl)
  · obtain ⟨hab, hov⟩ := hsm.2 z
    refine lv_aload_n hx hb dL_law_504 rfl (lv_at hl 5 rfl) ?_
    refine lv_iconst (v := 0) hx hb dL_law_505 (by decide) ?_
    refine va_lald hx hb hK hP 54 2 ml_e54 rfl (show vp_in 0 1 by unfold vp_in; decide) dL_law_506 ?_
    refine lv_iload hx hb dL_law_507 (lv_at hl 0 rfl) ?_
    refine lv_i2l (v := b1.toInt64) hx hb dL_law_509 rfl ?_
    refine W.lcmp hx hb dL_law_510 ?_
    refine lv_if_eq (tgt := 516) hx hb dL_law_511 (by decide) (fun _ => ?_) (fun z9 => absurd (ll_cmp2 (hov.trans (by rw [hab]; rfl))) z9)
    refine lv_goto (tgt := 911) hx hb dL_law_516 (by decide) ?_
    exact kk _ _ _ _ _ _ n' _ _ hP hD hS hI2 hn' (by omega) (by omega) (lv_sub hl [2, 3, 4, 5, 6] rfl)
set_option maxHeartbeats 4000000 in
set_option maxRecDepth 100000 in
theorem lc_node (C : ll_Cx p l s m meth c D cy b L xs) {k : Nat} {i : Int32} (hk : k < 512) (hin : ll_in i L) (kk : ll_G p l e s m below meth c b D cy 911 (k + 1) i) : ll_G p l e s m below meth c b D cy 519 k i := by
  intro ad H locs ls ov S n kc ks hP hD hS hI hn hkc hks hl
  obtain ⟨hx, hb, hml, hown, hts, hK, hEX, hNC, hX, hbl, hL, hst, hr, hlocks⟩ := id C
  have hA : ∀ q : Nat, s.heap.size ≤ q → (fun q : Nat => s.heap.size ≤ q) q := fun _ h => h
  have hbA : ¬ (fun q : Nat => s.heap.size ≤ q) b := Nat.not_le.mpr hbl
  obtain ⟨S1, c1, s1, e1, a1, S2, b1, hr1, hr2, hI2, hpo, hd⟩ := ag_node (xs (i + 1).toNatClampNeg) (xs (i + 2).toNatClampNeg) hI
  obtain ⟨n', hn', hc1, hs1⟩ := hpo n hn
  have hn9 := hn'.2.2
  have hro : kc + c1 ≤ 601024 ∧ ks + s1 ≤ 7293034 := by omega
  have hxr : e1 = 0 ∨ ∃ j : Nat, ([5] : List Nat)[j]? = some e1 := hd.imp (fun h => h.1) (fun ⟨j, h, _⟩ => ⟨j, h⟩)
  refine lv_aload_n hx hb dL_law_519 rfl (lv_at hl 1 rfl) ?_
  refine lv_aload_n hx hb dL_law_520 rfl (lv_at hl 0 rfl) ?_
  refine lv_iload hx hb dL_law_521 (lv_at hl 4 rfl) ?_
  refine lv_iconst (v := 1) hx hb dL_law_523 (by decide) ?_
  refine lv_iadd hx hb dL_law_524 ?_
  refine va_sld hx hb hX hbl hbA hS hin.2.1 dL_law_525 ?_
  refine lv_aload_n hx hb dL_law_526 rfl (lv_at hl 0 rfl) ?_
  refine lv_iload hx hb dL_law_527 (lv_at hl 4 rfl) ?_
  refine lv_iconst (v := 2) hx hb dL_law_529 (by decide) ?_
  refine lv_iadd hx hb dL_law_530 ?_
  refine va_sld hx hb hX hbl hbA hS hin.2.2.1 dL_law_531 ?_
  refine lv_aload_n hx hb dL_law_532 rfl (lv_at hl 3 rfl) ?_
  refine ll_help (av := [.ref (ad 0), .int (xs (i + 1).toNatClampNeg), .int (xs (i + 2).toNatClampNeg), .ref (ad 54)]) (ex := [5]) (kd := 1) (r := (S1, c1, s1, e1, a1)) C hP hD hS hl.1 (mh_node l hst D cy ad ov H.size S (xs (i + 1).toNatClampNeg) (xs (i + 2).toNatClampNeg) (S1, c1, s1, e1, a1) hr1 hxr) (ll_good ll_w_node_ok) (n := 4) (by decide +kernel) rfl dL_law_533 hro (Nat.le_of_ble_eq_true rfl) (fun kv ov1 ad1 H locs had hP hD hS hpost => ?_)
  rw [← had 0 (by decide), ← had 27 (by decide), ← had 54 (by decide)] at hl
  have hsm := ll_same (ex := [5]) (by decide) hd hpost.2
  have hP : va_P D vwCl (mm_W cy ad1 ov1 S1) H := by have h9 := hP; exact h9
  refine lv_istore (lv' := [(5, .int kv), (0, .ref b), (1, .ref (ad1 0)), (2, .ref (ad1 27)), (3, .ref (ad1 54)), (4, .int i)]) hx hb dL_law_536 hl (by decide) rfl (fun ls hl => ?_)
  refine lv_aload_n hx hb dL_law_538 rfl (lv_at hl 3 rfl) ?_
  refine lv_aload_n hx hb dL_law_539 rfl (lv_at hl 1 rfl) ?_
  refine lv_iload hx hb dL_law_540 (lv_at hl 5 rfl) ?_
  refine lv_iconst (v := 1) hx hb dL_law_542 (by decide) ?_
  refine lv_iadd hx hb dL_law_543 ?_
  refine va_sld hx hb hX hbl hbA hS hin.2.1 dL_law_544 ?_
  refine lv_aload_n hx hb dL_law_545 rfl (lv_at hl 1 rfl) ?_
  refine lv_iload hx hb dL_law_546 (lv_at hl 5 rfl) ?_
  refine lv_iconst (v := 2) hx hb dL_law_548 (by decide) ?_
  refine lv_iadd hx hb dL_law_549 ?_
  refine va_sld hx hb hX hbl hbA hS hin.2.2.1 dL_law_550 ?_
  refine ml_call (as' := [.inl (xs (i + 1).toNatClampNeg), .inl (xs (i + 2).toNatClampNeg)]) (b9 := 27) (rest := []) (y := 148) (d := 60) hx hb hml hown hts hK hEX hA (ml_con hst hr2 rfl) rfl (mm_in_ut (ll_vw_ok _ (List.mem_of_getElem? (i := 8) rfl)).1 (ll_vw_ok _ (List.mem_of_getElem? (i := 8) rfl)).2) rfl rfl hP hD hS hl.1 (Nat.le_of_ble_eq_true rfl) dL_law_551 hro ⟨(Nat.le_of_ble_eq_true rfl), (Nat.le_of_ble_eq_true rfl)⟩ (fun h0 ad2 H locs had hP hD hS => ?_) (fun h0 => absurd rfl h0)
  rw [← had 0 (by decide), ← had 27 (by decide), ← had 54 (by decide)] at hl
  refine W.widen (k := kc + c1) (n := ks + s1) (Nat.le_refl (kc + c1)) (Nat.le_refl (ks + s1)) ?_
  refine W.eq (g2 := F0 m 554 ls [.int b1]) rfl ?_
  refine lv_istore (lv' := [(6, .int b1), (5, .int kv), (0, .ref b), (1, .ref (ad2 0)), (2, .ref (ad2 27)), (3, .ref (ad2 54)), (4, .int i)]) hx hb dL_law_554 hl (by decide) rfl (fun ls hl => ?_)
  refine lv_aload_n hx hb dL_law_556 rfl (lv_at hl 4 rfl) ?_
  refine ml_call (as' := []) (b9 := 27) (rest := []) (y := 114) (d := 60) hx hb hml hown hts hK hEX hA (ml_con hst (ll_thrown S2) rfl) rfl (mm_in_ut (ll_vw_ok _ (List.mem_of_getElem? (i := 1) rfl)).1 (ll_vw_ok _ (List.mem_of_getElem? (i := 1) rfl)).2) rfl rfl hP hD hS hl.1 (Nat.le_of_ble_eq_true rfl) dL_law_557 hro ⟨(Nat.le_of_ble_eq_true rfl), (Nat.le_of_ble_eq_true rfl)⟩ (fun h0 ad3 H locs had hP hD hS => ?_) (fun h0 => absurd rfl h0)
  rw [← had 0 (by decide), ← had 27 (by decide), ← had 54 (by decide)] at hl
  refine W.widen (k := kc + c1) (n := ks + s1) (Nat.le_refl (kc + c1)) (Nat.le_refl (ks + s1)) ?_
  refine W.eq (g2 := F0 m 560 ls [.int (S2 27 0)]) rfl ?_
  have hP : va_P D vwCl (mm_W cy ad3 ov1 S2) H := hP
  refine lv_iload hx hb dL_law_560 (lv_at hl 1 rfl) ?_
  refine lv_icmp_eq (tgt := 567) hx hb dL_law_562 (by decide) (fun _ => ?_) (fun z => absurd hsm.1 z)
  refine lv_iload hx hb dL_law_567 (lv_at hl 1 rfl) ?_
  refine lv_if_ne (tgt := 584) hx hb dL_law_569 (by decide) (fun _ => ?_) (fun z => ?_)
  · refine lv_goto (tgt := 911) hx hb dL_law_584 (by decide) ?_
    exact kk _ _ _ _ _ _ n' _ _ hP hD hS hI2 hn' (by omega) (by omega) (lv_sub hl [2, 3, 4, 5, 6] rfl)
  · obtain ⟨hab, hov⟩ := hsm.2 z
    refine lv_aload_n hx hb dL_law_572 rfl (lv_at hl 5 rfl) ?_
    refine lv_iconst (v := 0) hx hb dL_law_573 (by decide) ?_
    refine va_lald hx hb hK hP 54 2 ml_e54 rfl (show vp_in 0 1 by unfold vp_in; decide) dL_law_574 ?_
    refine lv_iload hx hb dL_law_575 (lv_at hl 0 rfl) ?_
    refine lv_i2l (v := b1.toInt64) hx hb dL_law_577 rfl ?_
    refine W.lcmp hx hb dL_law_578 ?_
    refine lv_if_eq (tgt := 584) hx hb dL_law_579 (by decide) (fun _ => ?_) (fun z9 => absurd (ll_cmp2 (hov.trans (by rw [hab]; rfl))) z9)
    refine lv_goto (tgt := 911) hx hb dL_law_584 (by decide) ?_
    exact kk _ _ _ _ _ _ n' _ _ hP hD hS hI2 hn' (by omega) (by omega) (lv_sub hl [2, 3, 4, 5, 6] rfl)
set_option maxHeartbeats 4000000 in
set_option maxRecDepth 100000 in
theorem lc_missing (C : ll_Cx p l s m meth c D cy b L xs) {k : Nat} {i : Int32} (hk : k < 512) (hin : ll_in i L) (kk : ll_G p l e s m below meth c b D cy 911 (k + 1) i) : ll_G p l e s m below meth c b D cy 587 k i := by
  intro ad H locs ls ov S n kc ks hP hD hS hI hn hkc hks hl
  obtain ⟨hx, hb, hml, hown, hts, hK, hEX, hNC, hX, hbl, hL, hst, hr, hlocks⟩ := id C
  have hA : ∀ q : Nat, s.heap.size ≤ q → (fun q : Nat => s.heap.size ≤ q) q := fun _ h => h
  have hbA : ¬ (fun q : Nat => s.heap.size ≤ q) b := Nat.not_le.mpr hbl
  obtain ⟨S1, c1, s1, e1, a1, S2, b1, hr1, hr2, hI2, hpo, hd⟩ := ag_missing hI
  obtain ⟨n', hn', hc1, hs1⟩ := hpo n hn
  have hn9 := hn'.2.2
  have hro : kc + c1 ≤ 601024 ∧ ks + s1 ≤ 7293034 := by omega
  have he : e1 = 0 ∧ a1 = b1 := by
    rcases hd with ⟨h1, _, h2⟩ | ⟨j, h1, _⟩
    · exact ⟨h1, h2⟩
    · simp at h1
  obtain ⟨rfl, rfl⟩ := he
  refine lv_aload_n hx hb dL_law_587 rfl (lv_at hl 1 rfl) ?_
  refine ml_call (as' := []) (b9 := 0) (rest := []) (y := 97) (d := 60) hx hb hml hown hts hK hEX hA (ml_con hst hr1 rfl) rfl (mm_in_ut (ll_vw_ok _ (List.mem_of_getElem? (i := 9) rfl)).1 (ll_vw_ok _ (List.mem_of_getElem? (i := 9) rfl)).2) rfl rfl hP hD hS hl.1 (Nat.le_of_ble_eq_true rfl) dL_law_588 hro ⟨(Nat.le_of_ble_eq_true rfl), (Nat.le_of_ble_eq_true rfl)⟩ (fun h0 ad1 H locs had hP hD hS => ?_) (fun h0 => absurd rfl h0)
  rw [← had 0 (by decide), ← had 27 (by decide), ← had 54 (by decide)] at hl
  refine W.eq (g2 := F0 m 591 ls [.int a1]) rfl ?_
  refine lv_aload_n hx hb dL_law_591 rfl (lv_at hl 2 rfl) ?_
  refine ml_call (as' := []) (b9 := 27) (rest := [.int a1]) (y := 149) (d := 60) hx hb hml hown hts hK hEX hA (ml_con hst hr2 rfl) rfl (mm_in_ut (ll_vw_ok _ (List.mem_of_getElem? (i := 10) rfl)).1 (ll_vw_ok _ (List.mem_of_getElem? (i := 10) rfl)).2) rfl rfl hP hD hS hl.1 (Nat.le_of_ble_eq_true rfl) dL_law_592 hro ⟨(Nat.le_of_ble_eq_true rfl), (Nat.le_of_ble_eq_true rfl)⟩ (fun h0 ad2 H locs had hP hD hS => ?_) (fun h0 => absurd rfl h0)
  rw [← had 0 (by decide), ← had 27 (by decide), ← had 54 (by decide)] at hl
  refine W.widen (k := kc + c1) (n := ks + s1) (Nat.le_refl (kc + c1)) (Nat.le_refl (ks + s1)) ?_
  refine W.eq (g2 := F0 m 595 ls [.int a1, .int a1]) rfl ?_
  refine lv_icmp_eq (tgt := 911) hx hb dL_law_595 (by decide) (fun _ => ?_) (fun z => absurd rfl z)
  exact kk _ _ _ _ _ _ n' _ _ hP hD hS hI2 hn' (by omega) (by omega) (lv_sub hl [0, 1, 2, 3, 4] rfl)
set_option maxHeartbeats 4000000 in
set_option maxRecDepth 100000 in
theorem lc_missingSign (C : ll_Cx p l s m meth c D cy b L xs) {k : Nat} {i : Int32} (hk : k < 512) (hin : ll_in i L) (kk : ll_G p l e s m below meth c b D cy 911 (k + 1) i) : ll_G p l e s m below meth c b D cy 600 k i := by
  intro ad H locs ls ov S n kc ks hP hD hS hI hn hkc hks hl
  obtain ⟨hx, hb, hml, hown, hts, hK, hEX, hNC, hX, hbl, hL, hst, hr, hlocks⟩ := id C
  have hA : ∀ q : Nat, s.heap.size ≤ q → (fun q : Nat => s.heap.size ≤ q) q := fun _ h => h
  have hbA : ¬ (fun q : Nat => s.heap.size ≤ q) b := Nat.not_le.mpr hbl
  obtain ⟨S1, c1, s1, e1, a1, S2, b1, hr1, hr2, hI2, hpo, hd⟩ := ag_missingSign (xs (i + 1).toNatClampNeg) (xs (i + 2).toNatClampNeg) hI
  obtain ⟨n', hn', hc1, hs1⟩ := hpo n hn
  have hn9 := hn'.2.2
  have hro : kc + c1 ≤ 601024 ∧ ks + s1 ≤ 7293034 := by omega
  have hxr : e1 = 0 ∨ ∃ j : Nat, ([5] : List Nat)[j]? = some e1 := hd.imp (fun h => h.1) (fun ⟨j, h, _⟩ => ⟨j, h⟩)
  refine lv_aload_n hx hb dL_law_600 rfl (lv_at hl 1 rfl) ?_
  refine lv_aload_n hx hb dL_law_601 rfl (lv_at hl 0 rfl) ?_
  refine lv_iload hx hb dL_law_602 (lv_at hl 4 rfl) ?_
  refine lv_iconst (v := 1) hx hb dL_law_604 (by decide) ?_
  refine lv_iadd hx hb dL_law_605 ?_
  refine va_sld hx hb hX hbl hbA hS hin.2.1 dL_law_606 ?_
  refine lv_aload_n hx hb dL_law_607 rfl (lv_at hl 0 rfl) ?_
  refine lv_iload hx hb dL_law_608 (lv_at hl 4 rfl) ?_
  refine lv_iconst (v := 2) hx hb dL_law_610 (by decide) ?_
  refine lv_iadd hx hb dL_law_611 ?_
  refine va_sld hx hb hX hbl hbA hS hin.2.2.1 dL_law_612 ?_
  refine lv_aload_n hx hb dL_law_613 rfl (lv_at hl 3 rfl) ?_
  refine ll_help (av := [.ref (ad 0), .int (xs (i + 1).toNatClampNeg), .int (xs (i + 2).toNatClampNeg), .ref (ad 54)]) (ex := [5]) (kd := 1) (r := (S1, c1, s1, e1, a1)) C hP hD hS hl.1 (mh_missingSign l hst D cy ad ov H.size S (xs (i + 1).toNatClampNeg) (xs (i + 2).toNatClampNeg) (S1, c1, s1, e1, a1) hr1 hxr) (ll_good ll_w_missingSign_ok) (n := 4) (by decide +kernel) rfl dL_law_614 hro (Nat.le_of_ble_eq_true rfl) (fun kv ov1 ad1 H locs had hP hD hS hpost => ?_)
  rw [← had 0 (by decide), ← had 27 (by decide), ← had 54 (by decide)] at hl
  have hsm := ll_same (ex := [5]) (by decide) hd hpost.2
  have hP : va_P D vwCl (mm_W cy ad1 ov1 S1) H := by have h9 := hP; exact h9
  refine lv_istore (lv' := [(5, .int kv), (0, .ref b), (1, .ref (ad1 0)), (2, .ref (ad1 27)), (3, .ref (ad1 54)), (4, .int i)]) hx hb dL_law_617 hl (by decide) rfl (fun ls hl => ?_)
  refine lv_aload_n hx hb dL_law_619 rfl (lv_at hl 3 rfl) ?_
  refine lv_aload_n hx hb dL_law_620 rfl (lv_at hl 1 rfl) ?_
  refine lv_iload hx hb dL_law_621 (lv_at hl 5 rfl) ?_
  refine lv_iconst (v := 1) hx hb dL_law_623 (by decide) ?_
  refine lv_iadd hx hb dL_law_624 ?_
  refine va_sld hx hb hX hbl hbA hS hin.2.1 dL_law_625 ?_
  refine lv_aload_n hx hb dL_law_626 rfl (lv_at hl 1 rfl) ?_
  refine lv_iload hx hb dL_law_627 (lv_at hl 5 rfl) ?_
  refine lv_iconst (v := 2) hx hb dL_law_629 (by decide) ?_
  refine lv_iadd hx hb dL_law_630 ?_
  refine va_sld hx hb hX hbl hbA hS hin.2.2.1 dL_law_631 ?_
  refine ml_call (as' := [.inl (xs (i + 1).toNatClampNeg), .inl (xs (i + 2).toNatClampNeg)]) (b9 := 27) (rest := []) (y := 150) (d := 60) hx hb hml hown hts hK hEX hA (ml_con hst hr2 rfl) rfl (mm_in_ut (ll_vw_ok _ (List.mem_of_getElem? (i := 11) rfl)).1 (ll_vw_ok _ (List.mem_of_getElem? (i := 11) rfl)).2) rfl rfl hP hD hS hl.1 (Nat.le_of_ble_eq_true rfl) dL_law_632 hro ⟨(Nat.le_of_ble_eq_true rfl), (Nat.le_of_ble_eq_true rfl)⟩ (fun h0 ad2 H locs had hP hD hS => ?_) (fun h0 => absurd rfl h0)
  rw [← had 0 (by decide), ← had 27 (by decide), ← had 54 (by decide)] at hl
  refine W.widen (k := kc + c1) (n := ks + s1) (Nat.le_refl (kc + c1)) (Nat.le_refl (ks + s1)) ?_
  refine W.eq (g2 := F0 m 635 ls [.int b1]) rfl ?_
  refine lv_istore (lv' := [(6, .int b1), (5, .int kv), (0, .ref b), (1, .ref (ad2 0)), (2, .ref (ad2 27)), (3, .ref (ad2 54)), (4, .int i)]) hx hb dL_law_635 hl (by decide) rfl (fun ls hl => ?_)
  refine lv_aload_n hx hb dL_law_637 rfl (lv_at hl 4 rfl) ?_
  refine ml_call (as' := []) (b9 := 27) (rest := []) (y := 114) (d := 60) hx hb hml hown hts hK hEX hA (ml_con hst (ll_thrown S2) rfl) rfl (mm_in_ut (ll_vw_ok _ (List.mem_of_getElem? (i := 1) rfl)).1 (ll_vw_ok _ (List.mem_of_getElem? (i := 1) rfl)).2) rfl rfl hP hD hS hl.1 (Nat.le_of_ble_eq_true rfl) dL_law_638 hro ⟨(Nat.le_of_ble_eq_true rfl), (Nat.le_of_ble_eq_true rfl)⟩ (fun h0 ad3 H locs had hP hD hS => ?_) (fun h0 => absurd rfl h0)
  rw [← had 0 (by decide), ← had 27 (by decide), ← had 54 (by decide)] at hl
  refine W.widen (k := kc + c1) (n := ks + s1) (Nat.le_refl (kc + c1)) (Nat.le_refl (ks + s1)) ?_
  refine W.eq (g2 := F0 m 641 ls [.int (S2 27 0)]) rfl ?_
  have hP : va_P D vwCl (mm_W cy ad3 ov1 S2) H := hP
  refine lv_iload hx hb dL_law_641 (lv_at hl 1 rfl) ?_
  refine lv_icmp_eq (tgt := 648) hx hb dL_law_643 (by decide) (fun _ => ?_) (fun z => absurd hsm.1 z)
  refine lv_iload hx hb dL_law_648 (lv_at hl 1 rfl) ?_
  refine lv_if_ne (tgt := 665) hx hb dL_law_650 (by decide) (fun _ => ?_) (fun z => ?_)
  · refine lv_goto (tgt := 911) hx hb dL_law_665 (by decide) ?_
    exact kk _ _ _ _ _ _ n' _ _ hP hD hS hI2 hn' (by omega) (by omega) (lv_sub hl [2, 3, 4, 5, 6] rfl)
  · obtain ⟨hab, hov⟩ := hsm.2 z
    refine lv_aload_n hx hb dL_law_653 rfl (lv_at hl 5 rfl) ?_
    refine lv_iconst (v := 0) hx hb dL_law_654 (by decide) ?_
    refine va_lald hx hb hK hP 54 2 ml_e54 rfl (show vp_in 0 1 by unfold vp_in; decide) dL_law_655 ?_
    refine lv_iload hx hb dL_law_656 (lv_at hl 0 rfl) ?_
    refine lv_i2l (v := b1.toInt64) hx hb dL_law_658 rfl ?_
    refine W.lcmp hx hb dL_law_659 ?_
    refine lv_if_eq (tgt := 665) hx hb dL_law_660 (by decide) (fun _ => ?_) (fun z9 => absurd (ll_cmp2 (hov.trans (by rw [hab]; rfl))) z9)
    refine lv_goto (tgt := 911) hx hb dL_law_665 (by decide) ?_
    exact kk _ _ _ _ _ _ n' _ _ hP hD hS hI2 hn' (by omega) (by omega) (lv_sub hl [2, 3, 4, 5, 6] rfl)
set_option maxHeartbeats 4000000 in
set_option maxRecDepth 100000 in
theorem lc_isIdle (C : ll_Cx p l s m meth c D cy b L xs) {k : Nat} {i : Int32} (hk : k < 512) (hin : ll_in i L) (kk : ll_G p l e s m below meth c b D cy 911 (k + 1) i) : ll_G p l e s m below meth c b D cy 668 k i := by
  intro ad H locs ls ov S n kc ks hP hD hS hI hn hkc hks hl
  obtain ⟨hx, hb, hml, hown, hts, hK, hEX, hNC, hX, hbl, hL, hst, hr, hlocks⟩ := id C
  have hA : ∀ q : Nat, s.heap.size ≤ q → (fun q : Nat => s.heap.size ≤ q) q := fun _ h => h
  have hbA : ¬ (fun q : Nat => s.heap.size ≤ q) b := Nat.not_le.mpr hbl
  obtain ⟨S1, c1, s1, e1, a1, S2, b1, hr1, hr2, hI2, hpo, hd⟩ := ag_isIdle (xs (i + 1).toNatClampNeg) hI
  obtain ⟨n', hn', hc1, hs1⟩ := hpo n hn
  have hn9 := hn'.2.2
  have hro : kc + c1 ≤ 601024 ∧ ks + s1 ≤ 7293034 := by omega
  have hxr : e1 = 0 ∨ ∃ j : Nat, ([5] : List Nat)[j]? = some e1 := hd.imp (fun h => h.1) (fun ⟨j, h, _⟩ => ⟨j, h⟩)
  refine lv_aload_n hx hb dL_law_668 rfl (lv_at hl 1 rfl) ?_
  refine lv_aload_n hx hb dL_law_669 rfl (lv_at hl 0 rfl) ?_
  refine lv_iload hx hb dL_law_670 (lv_at hl 4 rfl) ?_
  refine lv_iconst (v := 1) hx hb dL_law_672 (by decide) ?_
  refine lv_iadd hx hb dL_law_673 ?_
  refine va_sld hx hb hX hbl hbA hS hin.2.1 dL_law_674 ?_
  refine lv_aload_n hx hb dL_law_675 rfl (lv_at hl 3 rfl) ?_
  refine ll_help (av := [.ref (ad 0), .int (xs (i + 1).toNatClampNeg), .ref (ad 54)]) (ex := [5]) (kd := 2) (r := (S1, c1, s1, e1, a1)) C hP hD hS hl.1 (mh_isIdle l hst D cy ad ov H.size S (xs (i + 1).toNatClampNeg) (S1, c1, s1, e1, a1) hr1 hxr) (ll_good ll_w_isIdle_ok) (n := 3) (by decide +kernel) rfl dL_law_676 hro (Nat.le_of_ble_eq_true rfl) (fun kv ov1 ad1 H locs had hP hD hS hpost => ?_)
  rw [← had 0 (by decide), ← had 27 (by decide), ← had 54 (by decide)] at hl
  have hsm := ll_same (ex := [5]) (by decide) hd hpost.2
  have hP : va_P D vwCl (mm_W cy ad1 ov1 S1) H := by have h9 := hP; exact h9
  refine lv_istore (lv' := [(5, .int kv), (0, .ref b), (1, .ref (ad1 0)), (2, .ref (ad1 27)), (3, .ref (ad1 54)), (4, .int i)]) hx hb dL_law_679 hl (by decide) rfl (fun ls hl => ?_)
  refine lv_aload_n hx hb dL_law_681 rfl (lv_at hl 3 rfl) ?_
  refine lv_aload_n hx hb dL_law_682 rfl (lv_at hl 1 rfl) ?_
  refine lv_iload hx hb dL_law_683 (lv_at hl 5 rfl) ?_
  refine lv_iconst (v := 1) hx hb dL_law_685 (by decide) ?_
  refine lv_iadd hx hb dL_law_686 ?_
  refine va_sld hx hb hX hbl hbA hS hin.2.1 dL_law_687 ?_
  refine ml_call (as' := [.inl (xs (i + 1).toNatClampNeg)]) (b9 := 27) (rest := []) (y := 152) (d := 60) hx hb hml hown hts hK hEX hA (ml_con hst hr2 rfl) rfl (mm_in_ut (ll_vw_ok _ (List.mem_of_getElem? (i := 12) rfl)).1 (ll_vw_ok _ (List.mem_of_getElem? (i := 12) rfl)).2) rfl rfl hP hD hS hl.1 (Nat.le_of_ble_eq_true rfl) dL_law_688 hro ⟨(Nat.le_of_ble_eq_true rfl), (Nat.le_of_ble_eq_true rfl)⟩ (fun h0 ad2 H locs had hP hD hS => ?_) (fun h0 => absurd rfl h0)
  rw [← had 0 (by decide), ← had 27 (by decide), ← had 54 (by decide)] at hl
  refine W.widen (k := kc + c1) (n := ks + s1) (Nat.le_refl (kc + c1)) (Nat.le_refl (ks + s1)) ?_
  refine W.eq (g2 := F0 m 691 ls [.int b1]) rfl ?_
  refine lv_istore (lv' := [(6, .int b1), (5, .int kv), (0, .ref b), (1, .ref (ad2 0)), (2, .ref (ad2 27)), (3, .ref (ad2 54)), (4, .int i)]) hx hb dL_law_691 hl (by decide) rfl (fun ls hl => ?_)
  refine lv_aload_n hx hb dL_law_693 rfl (lv_at hl 4 rfl) ?_
  refine ml_call (as' := []) (b9 := 27) (rest := []) (y := 114) (d := 60) hx hb hml hown hts hK hEX hA (ml_con hst (ll_thrown S2) rfl) rfl (mm_in_ut (ll_vw_ok _ (List.mem_of_getElem? (i := 1) rfl)).1 (ll_vw_ok _ (List.mem_of_getElem? (i := 1) rfl)).2) rfl rfl hP hD hS hl.1 (Nat.le_of_ble_eq_true rfl) dL_law_694 hro ⟨(Nat.le_of_ble_eq_true rfl), (Nat.le_of_ble_eq_true rfl)⟩ (fun h0 ad3 H locs had hP hD hS => ?_) (fun h0 => absurd rfl h0)
  rw [← had 0 (by decide), ← had 27 (by decide), ← had 54 (by decide)] at hl
  refine W.widen (k := kc + c1) (n := ks + s1) (Nat.le_refl (kc + c1)) (Nat.le_refl (ks + s1)) ?_
  refine W.eq (g2 := F0 m 697 ls [.int (S2 27 0)]) rfl ?_
  have hP : va_P D vwCl (mm_W cy ad3 ov1 S2) H := hP
  refine lv_iload hx hb dL_law_697 (lv_at hl 1 rfl) ?_
  refine lv_icmp_eq (tgt := 704) hx hb dL_law_699 (by decide) (fun _ => ?_) (fun z => absurd hsm.1 z)
  refine lv_iload hx hb dL_law_704 (lv_at hl 1 rfl) ?_
  refine lv_if_ne (tgt := 728) hx hb dL_law_706 (by decide) (fun _ => ?_) (fun z => ?_)
  · refine lv_goto (tgt := 911) hx hb dL_law_728 (by decide) ?_
    exact kk _ _ _ _ _ _ n' _ _ hP hD hS hI2 hn' (by omega) (by omega) (lv_sub hl [2, 3, 4, 5, 6] rfl)
  · obtain ⟨hab, hov⟩ := hsm.2 z
    refine lv_aload_n hx hb dL_law_709 rfl (lv_at hl 5 rfl) ?_
    refine lv_iconst (v := 0) hx hb dL_law_710 (by decide) ?_
    refine va_lald hx hb hK hP 54 2 ml_e54 rfl (show vp_in 0 1 by unfold vp_in; decide) dL_law_711 ?_
    refine lv_iload hx hb dL_law_712 (lv_at hl 0 rfl) ?_
    refine lv_if_eq (tgt := 721) hx hb dL_law_714 (by decide) (fun z0 => ?_) (fun z0 => ?_)
    · refine lv_lconst (v := 0) hx hb dL_law_721 (by decide) ?_
      refine W.lcmp hx hb dL_law_722 ?_
      refine lv_if_eq (tgt := 728) hx hb dL_law_723 (by decide) (fun _ => ?_) (fun z9 => absurd (ll_cmp2 (hov.trans (by unfold ml_o; rw [if_neg (by decide), if_pos rfl, hab, if_pos z0]))) z9)
      refine lv_goto (tgt := 911) hx hb dL_law_728 (by decide) ?_
      exact kk _ _ _ _ _ _ n' _ _ hP hD hS hI2 hn' (by omega) (by omega) (lv_sub hl [2, 3, 4, 5, 6] rfl)
    · refine lv_lconst (v := 1) hx hb dL_law_717 (by decide) ?_
      refine lv_goto (tgt := 722) hx hb dL_law_718 (by decide) ?_
      refine W.lcmp hx hb dL_law_722 ?_
      refine lv_if_eq (tgt := 728) hx hb dL_law_723 (by decide) (fun _ => ?_) (fun z9 => absurd (ll_cmp2 (hov.trans (by unfold ml_o; rw [if_neg (by decide), if_pos rfl, hab, if_neg z0]))) z9)
      refine lv_goto (tgt := 911) hx hb dL_law_728 (by decide) ?_
      exact kk _ _ _ _ _ _ n' _ _ hP hD hS hI2 hn' (by omega) (by omega) (lv_sub hl [2, 3, 4, 5, 6] rfl)
set_option maxHeartbeats 4000000 in
set_option maxRecDepth 100000 in
theorem lc_give (C : ll_Cx p l s m meth c D cy b L xs) {k : Nat} {i : Int32} (hk : k < 512) (hin : ll_in i L) (kk : ll_G p l e s m below meth c b D cy 911 (k + 1) i) : ll_G p l e s m below meth c b D cy 731 k i := by
  intro ad H locs ls ov S n kc ks hP hD hS hI hn hkc hks hl
  obtain ⟨hx, hb, hml, hown, hts, hK, hEX, hNC, hX, hbl, hL, hst, hr, hlocks⟩ := id C
  have hA : ∀ q : Nat, s.heap.size ≤ q → (fun q : Nat => s.heap.size ≤ q) q := fun _ h => h
  have hbA : ¬ (fun q : Nat => s.heap.size ≤ q) b := Nat.not_le.mpr hbl
  obtain ⟨S1, c1, s1, e1, a1, S2, b1, hr1, hr2, hI2, hpo, hd⟩ := ag_give (xs (i + 1).toNatClampNeg) hI
  obtain ⟨n', hn', hc1, hs1⟩ := hpo n hn
  have hn9 := hn'.2.2
  have hro : kc + c1 ≤ 601024 ∧ ks + s1 ≤ 7293034 := by omega
  have hxr : e1 = 0 ∨ ∃ j : Nat, ([1, 2] : List Nat)[j]? = some e1 := hd.imp (fun h => h.1) (fun ⟨j, h, _⟩ => ⟨j, h⟩)
  refine lv_aload_n hx hb dL_law_731 rfl (lv_at hl 1 rfl) ?_
  refine lv_aload_n hx hb dL_law_732 rfl (lv_at hl 0 rfl) ?_
  refine lv_iload hx hb dL_law_733 (lv_at hl 4 rfl) ?_
  refine lv_iconst (v := 1) hx hb dL_law_735 (by decide) ?_
  refine lv_iadd hx hb dL_law_736 ?_
  refine va_sld hx hb hX hbl hbA hS hin.2.1 dL_law_737 ?_
  refine lv_aload_n hx hb dL_law_738 rfl (lv_at hl 3 rfl) ?_
  refine ll_help (av := [.ref (ad 0), .int (xs (i + 1).toNatClampNeg), .ref (ad 54)]) (ex := [1, 2]) (kd := 1) (r := (S1, c1, s1, e1, a1)) C hP hD hS hl.1 (mh_give l hst D cy ad ov H.size S (xs (i + 1).toNatClampNeg) (S1, c1, s1, e1, a1) hr1 hxr) (ll_good ll_w_give_ok) (n := 3) (by decide +kernel) rfl dL_law_739 hro (Nat.le_of_ble_eq_true rfl) (fun kv ov1 ad1 H locs had hP hD hS hpost => ?_)
  rw [← had 0 (by decide), ← had 27 (by decide), ← had 54 (by decide)] at hl
  have hsm := ll_same (ex := [1, 2]) (by decide) hd hpost.2
  have hP : va_P D vwCl (mm_W cy ad1 ov1 S1) H := by have h9 := hP; exact h9
  refine lv_istore (lv' := [(5, .int kv), (0, .ref b), (1, .ref (ad1 0)), (2, .ref (ad1 27)), (3, .ref (ad1 54)), (4, .int i)]) hx hb dL_law_742 hl (by decide) rfl (fun ls hl => ?_)
  refine lv_aload_n hx hb dL_law_744 rfl (lv_at hl 3 rfl) ?_
  refine lv_aload_n hx hb dL_law_745 rfl (lv_at hl 1 rfl) ?_
  refine lv_iload hx hb dL_law_746 (lv_at hl 5 rfl) ?_
  refine lv_iconst (v := 1) hx hb dL_law_748 (by decide) ?_
  refine lv_iadd hx hb dL_law_749 ?_
  refine va_sld hx hb hX hbl hbA hS hin.2.1 dL_law_750 ?_
  refine ml_call (as' := [.inl (xs (i + 1).toNatClampNeg)]) (b9 := 27) (rest := []) (y := 130) (d := 60) hx hb hml hown hts hK hEX hA (ml_con hst hr2 rfl) rfl (mm_in_ut (ll_vw_ok _ (List.mem_of_getElem? (i := 13) rfl)).1 (ll_vw_ok _ (List.mem_of_getElem? (i := 13) rfl)).2) rfl rfl hP hD hS hl.1 (Nat.le_of_ble_eq_true rfl) dL_law_751 hro ⟨(Nat.le_of_ble_eq_true rfl), (Nat.le_of_ble_eq_true rfl)⟩ (fun h0 ad2 H locs had hP hD hS => ?_) (fun h0 => absurd rfl h0)
  rw [← had 0 (by decide), ← had 27 (by decide), ← had 54 (by decide)] at hl
  refine W.widen (k := kc + c1) (n := ks + s1) (Nat.le_refl (kc + c1)) (Nat.le_refl (ks + s1)) ?_
  refine W.eq (g2 := F0 m 754 ls [.int b1]) rfl ?_
  refine lv_istore (lv' := [(6, .int b1), (5, .int kv), (0, .ref b), (1, .ref (ad2 0)), (2, .ref (ad2 27)), (3, .ref (ad2 54)), (4, .int i)]) hx hb dL_law_754 hl (by decide) rfl (fun ls hl => ?_)
  refine lv_aload_n hx hb dL_law_756 rfl (lv_at hl 4 rfl) ?_
  refine ml_call (as' := []) (b9 := 27) (rest := []) (y := 114) (d := 60) hx hb hml hown hts hK hEX hA (ml_con hst (ll_thrown S2) rfl) rfl (mm_in_ut (ll_vw_ok _ (List.mem_of_getElem? (i := 1) rfl)).1 (ll_vw_ok _ (List.mem_of_getElem? (i := 1) rfl)).2) rfl rfl hP hD hS hl.1 (Nat.le_of_ble_eq_true rfl) dL_law_757 hro ⟨(Nat.le_of_ble_eq_true rfl), (Nat.le_of_ble_eq_true rfl)⟩ (fun h0 ad3 H locs had hP hD hS => ?_) (fun h0 => absurd rfl h0)
  rw [← had 0 (by decide), ← had 27 (by decide), ← had 54 (by decide)] at hl
  refine W.widen (k := kc + c1) (n := ks + s1) (Nat.le_refl (kc + c1)) (Nat.le_refl (ks + s1)) ?_
  refine W.eq (g2 := F0 m 760 ls [.int (S2 27 0)]) rfl ?_
  have hP : va_P D vwCl (mm_W cy ad3 ov1 S2) H := hP
  refine lv_iload hx hb dL_law_760 (lv_at hl 1 rfl) ?_
  refine lv_icmp_eq (tgt := 767) hx hb dL_law_762 (by decide) (fun _ => ?_) (fun z => absurd hsm.1 z)
  refine lv_iload hx hb dL_law_767 (lv_at hl 1 rfl) ?_
  refine lv_if_ne (tgt := 784) hx hb dL_law_769 (by decide) (fun _ => ?_) (fun z => ?_)
  · refine lv_goto (tgt := 911) hx hb dL_law_784 (by decide) ?_
    exact kk _ _ _ _ _ _ n' _ _ hP hD hS hI2 hn' (by omega) (by omega) (lv_sub hl [2, 3, 4, 5, 6] rfl)
  · obtain ⟨hab, hov⟩ := hsm.2 z
    refine lv_aload_n hx hb dL_law_772 rfl (lv_at hl 5 rfl) ?_
    refine lv_iconst (v := 0) hx hb dL_law_773 (by decide) ?_
    refine va_lald hx hb hK hP 54 2 ml_e54 rfl (show vp_in 0 1 by unfold vp_in; decide) dL_law_774 ?_
    refine lv_iload hx hb dL_law_775 (lv_at hl 0 rfl) ?_
    refine lv_i2l (v := b1.toInt64) hx hb dL_law_777 rfl ?_
    refine W.lcmp hx hb dL_law_778 ?_
    refine lv_if_eq (tgt := 784) hx hb dL_law_779 (by decide) (fun _ => ?_) (fun z9 => absurd (ll_cmp2 (hov.trans (by rw [hab]; rfl))) z9)
    refine lv_goto (tgt := 911) hx hb dL_law_784 (by decide) ?_
    exact kk _ _ _ _ _ _ n' _ _ hP hD hS hI2 hn' (by omega) (by omega) (lv_sub hl [2, 3, 4, 5, 6] rfl)
set_option maxHeartbeats 4000000 in
set_option maxRecDepth 100000 in
theorem lc_answer (C : ll_Cx p l s m meth c D cy b L xs) {k : Nat} {i : Int32} (hk : k < 512) (hin : ll_in i L) (kk : ll_G p l e s m below meth c b D cy 911 (k + 1) i) : ll_G p l e s m below meth c b D cy 787 k i := by
  intro ad H locs ls ov S n kc ks hP hD hS hI hn hkc hks hl
  obtain ⟨hx, hb, hml, hown, hts, hK, hEX, hNC, hX, hbl, hL, hst, hr, hlocks⟩ := id C
  have hA : ∀ q : Nat, s.heap.size ≤ q → (fun q : Nat => s.heap.size ≤ q) q := fun _ h => h
  have hbA : ¬ (fun q : Nat => s.heap.size ≤ q) b := Nat.not_le.mpr hbl
  obtain ⟨S1, c1, s1, e1, a1, S2, b1, hr1, hr2, hI2, hpo, hd⟩ := ag_answer hI
  obtain ⟨n', hn', hc1, hs1⟩ := hpo n hn
  have hn9 := hn'.2.2
  have hro : kc + c1 ≤ 601024 ∧ ks + s1 ≤ 7293034 := by omega
  have hxr : e1 = 0 ∨ ∃ j : Nat, ([1, 2] : List Nat)[j]? = some e1 := hd.imp (fun h => h.1) (fun ⟨j, h, _⟩ => ⟨j, h⟩)
  refine lv_aload_n hx hb dL_law_787 rfl (lv_at hl 1 rfl) ?_
  refine lv_aload_n hx hb dL_law_788 rfl (lv_at hl 3 rfl) ?_
  refine ll_help (av := [.ref (ad 0), .ref (ad 54)]) (ex := [1, 2]) (kd := 1) (r := (S1, c1, s1, e1, a1)) C hP hD hS hl.1 (mh_answer l hst D cy ad ov H.size S (S1, c1, s1, e1, a1) hr1 hxr) (ll_good ll_w_answer_ok) (n := 2) (by decide +kernel) rfl dL_law_789 hro (Nat.le_of_ble_eq_true rfl) (fun kv ov1 ad1 H locs had hP hD hS hpost => ?_)
  rw [← had 0 (by decide), ← had 27 (by decide), ← had 54 (by decide)] at hl
  have hsm := ll_same (ex := [1, 2]) (by decide) hd hpost.2
  have hP : va_P D vwCl (mm_W cy ad1 ov1 S1) H := by have h9 := hP; exact h9
  refine lv_istore (lv' := [(5, .int kv), (0, .ref b), (1, .ref (ad1 0)), (2, .ref (ad1 27)), (3, .ref (ad1 54)), (4, .int i)]) hx hb dL_law_792 hl (by decide) rfl (fun ls hl => ?_)
  refine lv_aload_n hx hb dL_law_794 rfl (lv_at hl 3 rfl) ?_
  refine ml_call (as' := []) (b9 := 27) (rest := []) (y := 136) (d := 60) hx hb hml hown hts hK hEX hA (ml_con hst hr2 rfl) rfl (mm_in_ut (ll_vw_ok _ (List.mem_of_getElem? (i := 14) rfl)).1 (ll_vw_ok _ (List.mem_of_getElem? (i := 14) rfl)).2) rfl rfl hP hD hS hl.1 (Nat.le_of_ble_eq_true rfl) dL_law_795 hro ⟨(Nat.le_of_ble_eq_true rfl), (Nat.le_of_ble_eq_true rfl)⟩ (fun h0 ad2 H locs had hP hD hS => ?_) (fun h0 => absurd rfl h0)
  rw [← had 0 (by decide), ← had 27 (by decide), ← had 54 (by decide)] at hl
  refine W.widen (k := kc + c1) (n := ks + s1) (Nat.le_refl (kc + c1)) (Nat.le_refl (ks + s1)) ?_
  refine W.eq (g2 := F0 m 798 ls [.int b1]) rfl ?_
  refine lv_istore (lv' := [(6, .int b1), (5, .int kv), (0, .ref b), (1, .ref (ad2 0)), (2, .ref (ad2 27)), (3, .ref (ad2 54)), (4, .int i)]) hx hb dL_law_798 hl (by decide) rfl (fun ls hl => ?_)
  refine lv_aload_n hx hb dL_law_800 rfl (lv_at hl 4 rfl) ?_
  refine ml_call (as' := []) (b9 := 27) (rest := []) (y := 114) (d := 60) hx hb hml hown hts hK hEX hA (ml_con hst (ll_thrown S2) rfl) rfl (mm_in_ut (ll_vw_ok _ (List.mem_of_getElem? (i := 1) rfl)).1 (ll_vw_ok _ (List.mem_of_getElem? (i := 1) rfl)).2) rfl rfl hP hD hS hl.1 (Nat.le_of_ble_eq_true rfl) dL_law_801 hro ⟨(Nat.le_of_ble_eq_true rfl), (Nat.le_of_ble_eq_true rfl)⟩ (fun h0 ad3 H locs had hP hD hS => ?_) (fun h0 => absurd rfl h0)
  rw [← had 0 (by decide), ← had 27 (by decide), ← had 54 (by decide)] at hl
  refine W.widen (k := kc + c1) (n := ks + s1) (Nat.le_refl (kc + c1)) (Nat.le_refl (ks + s1)) ?_
  refine W.eq (g2 := F0 m 804 ls [.int (S2 27 0)]) rfl ?_
  have hP : va_P D vwCl (mm_W cy ad3 ov1 S2) H := hP
  refine lv_iload hx hb dL_law_804 (lv_at hl 1 rfl) ?_
  refine lv_icmp_eq (tgt := 811) hx hb dL_law_806 (by decide) (fun _ => ?_) (fun z => absurd hsm.1 z)
  refine lv_iload hx hb dL_law_811 (lv_at hl 1 rfl) ?_
  refine lv_if_ne (tgt := 828) hx hb dL_law_813 (by decide) (fun _ => ?_) (fun z => ?_)
  · refine lv_goto (tgt := 911) hx hb dL_law_828 (by decide) ?_
    exact kk _ _ _ _ _ _ n' _ _ hP hD hS hI2 hn' (by omega) (by omega) (lv_sub hl [2, 3, 4, 5, 6] rfl)
  · obtain ⟨hab, hov⟩ := hsm.2 z
    refine lv_aload_n hx hb dL_law_816 rfl (lv_at hl 5 rfl) ?_
    refine lv_iconst (v := 0) hx hb dL_law_817 (by decide) ?_
    refine va_lald hx hb hK hP 54 2 ml_e54 rfl (show vp_in 0 1 by unfold vp_in; decide) dL_law_818 ?_
    refine lv_iload hx hb dL_law_819 (lv_at hl 0 rfl) ?_
    refine lv_i2l (v := b1.toInt64) hx hb dL_law_821 rfl ?_
    refine W.lcmp hx hb dL_law_822 ?_
    refine lv_if_eq (tgt := 828) hx hb dL_law_823 (by decide) (fun _ => ?_) (fun z9 => absurd (ll_cmp2 (hov.trans (by rw [hab]; rfl))) z9)
    refine lv_goto (tgt := 911) hx hb dL_law_828 (by decide) ?_
    exact kk _ _ _ _ _ _ n' _ _ hP hD hS hI2 hn' (by omega) (by omega) (lv_sub hl [2, 3, 4, 5, 6] rfl)
set_option maxHeartbeats 4000000 in
set_option maxRecDepth 100000 in
theorem lc_tests (C : ll_Cx p l s m meth c D cy b L xs) {k : Nat} {i : Int32} (hk : k < 512) (hin : ll_in i L) (kk : ll_G p l e s m below meth c b D cy 911 (k + 1) i) : ll_G p l e s m below meth c b D cy 831 k i := by
  intro ad H locs ls ov S n kc ks hP hD hS hI hn hkc hks hl
  obtain ⟨hx, hb, hml, hown, hts, hK, hEX, hNC, hX, hbl, hL, hst, hr, hlocks⟩ := id C
  have hA : ∀ q : Nat, s.heap.size ≤ q → (fun q : Nat => s.heap.size ≤ q) q := fun _ h => h
  have hbA : ¬ (fun q : Nat => s.heap.size ≤ q) b := Nat.not_le.mpr hbl
  obtain ⟨S1, c1, s1, e1, a1, S2, b1, hr1, hr2, hI2, hpo, hd⟩ := ag_tests hI
  obtain ⟨n', hn', hc1, hs1⟩ := hpo n hn
  have hn9 := hn'.2.2
  have hro : kc + c1 ≤ 601024 ∧ ks + s1 ≤ 7293034 := by omega
  have hxr : e1 = 0 ∨ ∃ j : Nat, ([1, 2, 5] : List Nat)[j]? = some e1 := hd.imp (fun h => h.1) (fun ⟨j, h, _⟩ => ⟨j, h⟩)
  refine lv_aload_n hx hb dL_law_831 rfl (lv_at hl 1 rfl) ?_
  refine lv_aload_n hx hb dL_law_832 rfl (lv_at hl 3 rfl) ?_
  refine ll_help (av := [.ref (ad 0), .ref (ad 54)]) (ex := [1, 2, 5]) (kd := 1) (r := (S1, c1, s1, e1, a1)) C hP hD hS hl.1 (mh_tests l hst D cy ad ov H.size S (S1, c1, s1, e1, a1) hr1 hxr) (ll_good ll_w_tests_ok) (n := 2) (by decide +kernel) rfl dL_law_833 hro (Nat.le_of_ble_eq_true rfl) (fun kv ov1 ad1 H locs had hP hD hS hpost => ?_)
  rw [← had 0 (by decide), ← had 27 (by decide), ← had 54 (by decide)] at hl
  have hsm := ll_same (ex := [1, 2, 5]) (by decide) hd hpost.2
  have hP : va_P D vwCl (mm_W cy ad1 ov1 S1) H := by have h9 := hP; exact h9
  refine lv_istore (lv' := [(5, .int kv), (0, .ref b), (1, .ref (ad1 0)), (2, .ref (ad1 27)), (3, .ref (ad1 54)), (4, .int i)]) hx hb dL_law_836 hl (by decide) rfl (fun ls hl => ?_)
  refine lv_aload_n hx hb dL_law_838 rfl (lv_at hl 3 rfl) ?_
  refine ml_call (as' := []) (b9 := 27) (rest := []) (y := 153) (d := 60) hx hb hml hown hts hK hEX hA (ml_con hst hr2 rfl) rfl (mm_in_ut (ll_vw_ok _ (List.mem_of_getElem? (i := 15) rfl)).1 (ll_vw_ok _ (List.mem_of_getElem? (i := 15) rfl)).2) rfl rfl hP hD hS hl.1 (Nat.le_of_ble_eq_true rfl) dL_law_839 hro ⟨(Nat.le_of_ble_eq_true rfl), (Nat.le_of_ble_eq_true rfl)⟩ (fun h0 ad2 H locs had hP hD hS => ?_) (fun h0 => absurd rfl h0)
  rw [← had 0 (by decide), ← had 27 (by decide), ← had 54 (by decide)] at hl
  refine W.widen (k := kc + c1) (n := ks + s1) (Nat.le_refl (kc + c1)) (Nat.le_refl (ks + s1)) ?_
  refine W.eq (g2 := F0 m 842 ls [.int b1]) rfl ?_
  refine lv_istore (lv' := [(6, .int b1), (5, .int kv), (0, .ref b), (1, .ref (ad2 0)), (2, .ref (ad2 27)), (3, .ref (ad2 54)), (4, .int i)]) hx hb dL_law_842 hl (by decide) rfl (fun ls hl => ?_)
  refine lv_aload_n hx hb dL_law_844 rfl (lv_at hl 4 rfl) ?_
  refine ml_call (as' := []) (b9 := 27) (rest := []) (y := 114) (d := 60) hx hb hml hown hts hK hEX hA (ml_con hst (ll_thrown S2) rfl) rfl (mm_in_ut (ll_vw_ok _ (List.mem_of_getElem? (i := 1) rfl)).1 (ll_vw_ok _ (List.mem_of_getElem? (i := 1) rfl)).2) rfl rfl hP hD hS hl.1 (Nat.le_of_ble_eq_true rfl) dL_law_845 hro ⟨(Nat.le_of_ble_eq_true rfl), (Nat.le_of_ble_eq_true rfl)⟩ (fun h0 ad3 H locs had hP hD hS => ?_) (fun h0 => absurd rfl h0)
  rw [← had 0 (by decide), ← had 27 (by decide), ← had 54 (by decide)] at hl
  refine W.widen (k := kc + c1) (n := ks + s1) (Nat.le_refl (kc + c1)) (Nat.le_refl (ks + s1)) ?_
  refine W.eq (g2 := F0 m 848 ls [.int (S2 27 0)]) rfl ?_
  have hP : va_P D vwCl (mm_W cy ad3 ov1 S2) H := hP
  refine lv_iload hx hb dL_law_848 (lv_at hl 1 rfl) ?_
  refine lv_icmp_eq (tgt := 855) hx hb dL_law_850 (by decide) (fun _ => ?_) (fun z => absurd hsm.1 z)
  refine lv_iload hx hb dL_law_855 (lv_at hl 1 rfl) ?_
  refine lv_if_ne (tgt := 872) hx hb dL_law_857 (by decide) (fun _ => ?_) (fun z => ?_)
  · refine lv_goto (tgt := 911) hx hb dL_law_872 (by decide) ?_
    exact kk _ _ _ _ _ _ n' _ _ hP hD hS hI2 hn' (by omega) (by omega) (lv_sub hl [2, 3, 4, 5, 6] rfl)
  · obtain ⟨hab, hov⟩ := hsm.2 z
    refine lv_aload_n hx hb dL_law_860 rfl (lv_at hl 5 rfl) ?_
    refine lv_iconst (v := 0) hx hb dL_law_861 (by decide) ?_
    refine va_lald hx hb hK hP 54 2 ml_e54 rfl (show vp_in 0 1 by unfold vp_in; decide) dL_law_862 ?_
    refine lv_iload hx hb dL_law_863 (lv_at hl 0 rfl) ?_
    refine lv_i2l (v := b1.toInt64) hx hb dL_law_865 rfl ?_
    refine W.lcmp hx hb dL_law_866 ?_
    refine lv_if_eq (tgt := 872) hx hb dL_law_867 (by decide) (fun _ => ?_) (fun z9 => absurd (ll_cmp2 (hov.trans (by rw [hab]; rfl))) z9)
    refine lv_goto (tgt := 911) hx hb dL_law_872 (by decide) ?_
    exact kk _ _ _ _ _ _ n' _ _ hP hD hS hI2 hn' (by omega) (by omega) (lv_sub hl [2, 3, 4, 5, 6] rfl)
set_option maxHeartbeats 4000000 in
set_option maxRecDepth 100000 in
theorem lc_empty (C : ll_Cx p l s m meth c D cy b L xs) {k : Nat} {i : Int32} (hk : k < 512) (hin : ll_in i L) (kk : ll_G p l e s m below meth c b D cy 911 (k + 1) i) : ll_G p l e s m below meth c b D cy 875 k i := by
  intro ad H locs ls ov S n kc ks hP hD hS hI hn hkc hks hl
  obtain ⟨hx, hb, hml, hown, hts, hK, hEX, hNC, hX, hbl, hL, hst, hr, hlocks⟩ := id C
  have hA : ∀ q : Nat, s.heap.size ≤ q → (fun q : Nat => s.heap.size ≤ q) q := fun _ h => h
  have hbA : ¬ (fun q : Nat => s.heap.size ≤ q) b := Nat.not_le.mpr hbl
  obtain ⟨S1, c1, s1, e1, a1, S2, b1, hr1, hr2, hI2, hpo, hd⟩ := ag_empty hI
  obtain ⟨n', hn', hc1, hs1⟩ := hpo n hn
  have hn9 := hn'.2.2
  have hro : kc + c1 ≤ 601024 ∧ ks + s1 ≤ 7293034 := by omega
  have he : e1 = 0 ∧ a1 = b1 := by
    rcases hd with ⟨h1, _, h2⟩ | ⟨j, h1, _⟩
    · exact ⟨h1, h2⟩
    · simp at h1
  obtain ⟨rfl, rfl⟩ := he
  refine lv_aload_n hx hb dL_law_875 rfl (lv_at hl 1 rfl) ?_
  refine ml_call (as' := []) (b9 := 0) (rest := []) (y := 103) (d := 60) hx hb hml hown hts hK hEX hA (ml_con hst hr1 rfl) rfl (mm_in_ut (ll_vw_ok _ (List.mem_of_getElem? (i := 16) rfl)).1 (ll_vw_ok _ (List.mem_of_getElem? (i := 16) rfl)).2) rfl rfl hP hD hS hl.1 (Nat.le_of_ble_eq_true rfl) dL_law_876 hro ⟨(Nat.le_of_ble_eq_true rfl), (Nat.le_of_ble_eq_true rfl)⟩ (fun h0 ad1 H locs had hP hD hS => ?_) (fun h0 => absurd rfl h0)
  rw [← had 0 (by decide), ← had 27 (by decide), ← had 54 (by decide)] at hl
  refine W.eq (g2 := F0 m 879 ls []) rfl ?_
  refine lv_aload_n hx hb dL_law_879 rfl (lv_at hl 2 rfl) ?_
  refine ml_call (as' := []) (b9 := 27) (rest := []) (y := 131) (d := 60) hx hb hml hown hts hK hEX hA (ml_con hst hr2 rfl) rfl (mm_in_ut (ll_vw_ok _ (List.mem_of_getElem? (i := 17) rfl)).1 (ll_vw_ok _ (List.mem_of_getElem? (i := 17) rfl)).2) rfl rfl hP hD hS hl.1 (Nat.le_of_ble_eq_true rfl) dL_law_880 hro ⟨(Nat.le_of_ble_eq_true rfl), (Nat.le_of_ble_eq_true rfl)⟩ (fun h0 ad2 H locs had hP hD hS => ?_) (fun h0 => absurd rfl h0)
  rw [← had 0 (by decide), ← had 27 (by decide), ← had 54 (by decide)] at hl
  refine W.widen (k := kc + c1) (n := ks + s1) (Nat.le_refl (kc + c1)) (Nat.le_refl (ks + s1)) ?_
  refine W.eq (g2 := F0 m 883 ls []) rfl ?_
  refine lv_goto (tgt := 911) hx hb dL_law_883 (by decide) ?_
  exact kk _ _ _ _ _ _ n' _ _ hP hD hS hI2 hn' (by omega) (by omega) (lv_sub hl [0, 1, 2, 3, 4] rfl)
set_option maxHeartbeats 4000000 in
set_option maxRecDepth 100000 in
theorem lc_about (C : ll_Cx p l s m meth c D cy b L xs) {k : Nat} {i : Int32} (hk : k < 512) (hin : ll_in i L) (kk : ll_G p l e s m below meth c b D cy 911 (k + 1) i) : ll_G p l e s m below meth c b D cy 886 k i := by
  intro ad H locs ls ov S n kc ks hP hD hS hI hn hkc hks hl
  obtain ⟨hx, hb, hml, hown, hts, hK, hEX, hNC, hX, hbl, hL, hst, hr, hlocks⟩ := id C
  have hA : ∀ q : Nat, s.heap.size ≤ q → (fun q : Nat => s.heap.size ≤ q) q := fun _ h => h
  have hbA : ¬ (fun q : Nat => s.heap.size ≤ q) b := Nat.not_le.mpr hbl
  obtain ⟨S1, c1, s1, e1, a1, S2, b1, hr1, hr2, hI2, hpo, hd⟩ := ag_about (xs (i + 1).toNatClampNeg) hI
  obtain ⟨n', hn', hc1, hs1⟩ := hpo n hn
  have hn9 := hn'.2.2
  have hro : kc + c1 ≤ 601024 ∧ ks + s1 ≤ 7293034 := by omega
  have he : e1 = 0 ∧ a1 = b1 := by
    rcases hd with ⟨h1, _, h2⟩ | ⟨j, h1, _⟩
    · exact ⟨h1, h2⟩
    · simp at h1
  obtain ⟨rfl, rfl⟩ := he
  refine lv_aload_n hx hb dL_law_886 rfl (lv_at hl 1 rfl) ?_
  refine lv_aload_n hx hb dL_law_887 rfl (lv_at hl 0 rfl) ?_
  refine lv_iload hx hb dL_law_888 (lv_at hl 4 rfl) ?_
  refine lv_iconst (v := 1) hx hb dL_law_890 (by decide) ?_
  refine lv_iadd hx hb dL_law_891 ?_
  refine va_sld hx hb hX hbl hbA hS hin.2.1 dL_law_892 ?_
  refine ml_call (as' := [.inl (xs (i + 1).toNatClampNeg)]) (b9 := 0) (rest := []) (y := 104) (d := 60) hx hb hml hown hts hK hEX hA (ml_con hst hr1 rfl) rfl (mm_in_ut (ll_vw_ok _ (List.mem_of_getElem? (i := 18) rfl)).1 (ll_vw_ok _ (List.mem_of_getElem? (i := 18) rfl)).2) rfl rfl hP hD hS hl.1 (Nat.le_of_ble_eq_true rfl) dL_law_893 hro ⟨(Nat.le_of_ble_eq_true rfl), (Nat.le_of_ble_eq_true rfl)⟩ (fun h0 ad1 H locs had hP hD hS => ?_) (fun h0 => absurd rfl h0)
  rw [← had 0 (by decide), ← had 27 (by decide), ← had 54 (by decide)] at hl
  refine W.eq (g2 := F0 m 896 ls [.int a1]) rfl ?_
  refine lv_aload_n hx hb dL_law_896 rfl (lv_at hl 2 rfl) ?_
  refine lv_aload_n hx hb dL_law_897 rfl (lv_at hl 0 rfl) ?_
  refine lv_iload hx hb dL_law_898 (lv_at hl 4 rfl) ?_
  refine lv_iconst (v := 1) hx hb dL_law_900 (by decide) ?_
  refine lv_iadd hx hb dL_law_901 ?_
  refine va_sld hx hb hX hbl hbA hS hin.2.1 dL_law_902 ?_
  refine ml_call (as' := [.inl (xs (i + 1).toNatClampNeg)]) (b9 := 27) (rest := [.int a1]) (y := 154) (d := 60) hx hb hml hown hts hK hEX hA (ml_con hst hr2 rfl) rfl (mm_in_ut (ll_vw_ok _ (List.mem_of_getElem? (i := 19) rfl)).1 (ll_vw_ok _ (List.mem_of_getElem? (i := 19) rfl)).2) rfl rfl hP hD hS hl.1 (Nat.le_of_ble_eq_true rfl) dL_law_903 hro ⟨(Nat.le_of_ble_eq_true rfl), (Nat.le_of_ble_eq_true rfl)⟩ (fun h0 ad2 H locs had hP hD hS => ?_) (fun h0 => absurd rfl h0)
  rw [← had 0 (by decide), ← had 27 (by decide), ← had 54 (by decide)] at hl
  refine W.widen (k := kc + c1) (n := ks + s1) (Nat.le_refl (kc + c1)) (Nat.le_refl (ks + s1)) ?_
  refine W.eq (g2 := F0 m 906 ls [.int a1, .int a1]) rfl ?_
  refine lv_icmp_eq (tgt := 911) hx hb dL_law_906 (by decide) (fun _ => ?_) (fun z => absurd rfl z)
  exact kk _ _ _ _ _ _ n' _ _ hP hD hS hI2 hn' (by omega) (by omega) (lv_sub hl [0, 1, 2, 3, 4] rfl)
set_option maxHeartbeats 4000000 in
set_option maxRecDepth 100000 in
theorem ll_next (C : ll_Cx p l s m meth c D cy b L xs) {k : Nat} {i : Int32} (kk : ll_G p l e s m below meth c b D cy 23 k (i + 5)) : ll_G p l e s m below meth c b D cy 911 k i := by
  intro ad H locs ls ov S n kc ks hP hD hS hI hn hkc hks hl
  obtain ⟨hx, hb, hml, hown, hts, hK, hEX, hNC, hX, hbl, hL, hst, hr, hlocks⟩ := id C
  refine lv_iinc (v := i + 5) (lv' := [(4, .int (i + 5)), (0, .ref b), (1, .ref (ad 0)), (2, .ref (ad 27)), (3, .ref (ad 54))]) hx hb dL_law_911 hl (k := 4) rfl rfl (by decide) rfl (fun ls hl => ?_)
  refine lv_goto (tgt := 23) hx hb dL_law_914 (by decide) ?_
  exact kk ad H locs ls ov S n kc ks hP hD hS hI hn hkc hks (lv_sub hl [1, 2, 3, 4, 0] rfl)
set_option maxHeartbeats 4000000 in
set_option maxRecDepth 100000 in
theorem ll_end (C : ll_Cx p l s m meth c D cy b L xs) {k : Nat} (hf : L < 5 * k + 5) (hk5 : k ≤ 512) : ll_G p l e s m below meth c b D cy 23 k (nI (5 * k)) := by
  intro ad H locs ls ov S n kc ks hP hD hS hI hn hkc hks hl
  obtain ⟨hx, hb, hml, hown, hts, hK, hEX, hNC, hX, hbl, hL, hst, hr, hlocks⟩ := id C
  have hbA : ¬ (fun q : Nat => s.heap.size ≤ q) b := Nat.not_le.mpr hbl
  have hn9 := hn.2.2
  refine lv_iload hx hb dL_law_23 (lv_at hl 4 rfl) ?_
  refine lv_aload_n hx hb dL_law_25 rfl (lv_at hl 0 rfl) ?_
  refine va_slen hx hb hX hbl hbA hS dL_law_26 ?_
  refine lv_iconst (v := 5) hx hb dL_law_27 (by decide) ?_
  refine lv_isub hx hb dL_law_28 ?_
  refine lv_icmp_gt (tgt := 917) hx hb dL_law_29 (by decide) (fun _ => ?_) (fun z => absurd (ll_gt2 (by omega) hf hk5) z)
  refine lv_iconst (v := 1) hx hb dL_law_917 (by decide) ?_
  refine va_forget (fun q hq => hS.2.2 q hq) ?_
  refine W.widen (k := 601024) (n := 7293034) (by omega) (by omega) ?_
  exact lw_ret hx hb hr hlocks dL_law_918
set_option maxHeartbeats 4000000 in
set_option maxRecDepth 100000 in
theorem ll_loop (C : ll_Cx p l s m meth c D cy b L xs) : ∀ (f k : Nat), L + 5 ≤ 5 * k + f → k ≤ 512 → ll_G p l e s m below meth c b D cy 23 k (nI (5 * k)) := by
  intro f
  induction f with
  | zero =>
    intro k hf hk5
    exact ll_end C (by omega) hk5
  | succ f ih =>
    intro k hf hk5
    by_cases hfin : L < 5 * k + 5
    · exact ll_end C hfin hk5
    intro ad H locs ls ov S n kc ks hP hD hS hI hn hkc hks hl
    obtain ⟨hx, hb, hml, hown, hts, hK, hEX, hNC, hX, hbl, hL, hst, hr, hlocks⟩ := id C
    have hbA : ¬ (fun q : Nat => s.heap.size ≤ q) b := Nat.not_le.mpr hbl
    have hin : ll_in (nI (5 * k)) L := ll_in_of (by omega) (by omega)
    have hk : k < 512 := by omega
    have hnx : ll_G p l e s m below meth c b D cy 911 (k + 1) (nI (5 * k)) := ll_next C (by have h9 := ih (k + 1) (by omega) (by omega); rw [show 5 * (k + 1) = 5 * k + 5 by omega, ← nI_add] at h9; exact h9)
    refine lv_iload hx hb dL_law_23 (lv_at hl 4 rfl) ?_
    refine lv_aload_n hx hb dL_law_25 rfl (lv_at hl 0 rfl) ?_
    refine va_slen hx hb hX hbl hbA hS dL_law_26 ?_
    refine lv_iconst (v := 5) hx hb dL_law_27 (by decide) ?_
    refine lv_isub hx hb dL_law_28 ?_
    refine lv_icmp_gt (tgt := 917) hx hb dL_law_29 (by decide) (fun z => absurd z (ll_gt (by omega) (by omega))) (fun _ => ?_)
    refine lv_aload_n hx hb dL_law_32 rfl (lv_at hl 0 rfl) ?_
    refine lv_iload hx hb dL_law_33 (lv_at hl 4 rfl) ?_
    refine va_sld hx hb hX hbl hbA hS hin.1 dL_law_35 ?_
    refine lv_bipush (v := 15) hx hb dL_law_36 (by decide) ?_
    refine lv_iand hx hb dL_law_38 ?_
    obtain ⟨t, ht, et⟩ := ll_and (xs (nI (5 * k)).toNatClampNeg)
    rw [et]
    match t, ht with
    | 0, _ =>
      refine lv_tableIn (off := 77) (tgt := 116) hx hb dL_law_39 (by decide) (by decide) (by decide +kernel) (by decide) ?_
      exact lc_type C hk hin hnx ad H locs ls ov S n kc ks hP hD hS hI hn hkc hks hl
    | 1, _ =>
      refine lv_tableIn (off := 121) (tgt := 160) hx hb dL_law_39 (by decide) (by decide) (by decide +kernel) (by decide) ?_
      exact lc_maker C hk hin hnx ad H locs ls ov S n kc ks hP hD hS hI hn hkc hks hl
    | 2, _ =>
      refine lv_tableIn (off := 213) (tgt := 252) hx hb dL_law_39 (by decide) (by decide) (by decide +kernel) (by decide) ?_
      exact lc_isEmpty C hk hin hnx ad H locs ls ov S n kc ks hP hD hS hI hn hkc hks hl
    | 3, _ =>
      refine lv_tableIn (off := 276) (tgt := 315) hx hb dL_law_39 (by decide) (by decide) (by decide +kernel) (by decide) ?_
      exact lc_match C hk hin hnx ad H locs ls ov S n kc ks hP hD hS hI hn hkc hks hl
    | 4, _ =>
      refine lv_tableIn (off := 336) (tgt := 375) hx hb dL_law_39 (by decide) (by decide) (by decide +kernel) (by decide) ?_
      exact lc_sign C hk hin hnx ad H locs ls ov S n kc ks hP hD hS hI hn hkc hks hl
    | 5, _ =>
      refine lv_tableIn (off := 392) (tgt := 431) hx hb dL_law_39 (by decide) (by decide) (by decide +kernel) (by decide) ?_
      exact lc_row C hk hin hnx ad H locs ls ov S n kc ks hP hD hS hI hn hkc hks hl
    | 6, _ =>
      refine lv_tableIn (off := 436) (tgt := 475) hx hb dL_law_39 (by decide) (by decide) (by decide +kernel) (by decide) ?_
      exact lc_compile C hk hin hnx ad H locs ls ov S n kc ks hP hD hS hI hn hkc hks hl
    | 7, _ =>
      refine lv_tableIn (off := 480) (tgt := 519) hx hb dL_law_39 (by decide) (by decide) (by decide +kernel) (by decide) ?_
      exact lc_node C hk hin hnx ad H locs ls ov S n kc ks hP hD hS hI hn hkc hks hl
    | 8, _ =>
      refine lv_tableIn (off := 548) (tgt := 587) hx hb dL_law_39 (by decide) (by decide) (by decide +kernel) (by decide) ?_
      exact lc_missing C hk hin hnx ad H locs ls ov S n kc ks hP hD hS hI hn hkc hks hl
    | 9, _ =>
      refine lv_tableIn (off := 561) (tgt := 600) hx hb dL_law_39 (by decide) (by decide) (by decide +kernel) (by decide) ?_
      exact lc_missingSign C hk hin hnx ad H locs ls ov S n kc ks hP hD hS hI hn hkc hks hl
    | 10, _ =>
      refine lv_tableIn (off := 629) (tgt := 668) hx hb dL_law_39 (by decide) (by decide) (by decide +kernel) (by decide) ?_
      exact lc_isIdle C hk hin hnx ad H locs ls ov S n kc ks hP hD hS hI hn hkc hks hl
    | 11, _ =>
      refine lv_tableIn (off := 692) (tgt := 731) hx hb dL_law_39 (by decide) (by decide) (by decide +kernel) (by decide) ?_
      exact lc_give C hk hin hnx ad H locs ls ov S n kc ks hP hD hS hI hn hkc hks hl
    | 12, _ =>
      refine lv_tableIn (off := 748) (tgt := 787) hx hb dL_law_39 (by decide) (by decide) (by decide +kernel) (by decide) ?_
      exact lc_answer C hk hin hnx ad H locs ls ov S n kc ks hP hD hS hI hn hkc hks hl
    | 13, _ =>
      refine lv_tableIn (off := 792) (tgt := 831) hx hb dL_law_39 (by decide) (by decide) (by decide +kernel) (by decide) ?_
      exact lc_tests C hk hin hnx ad H locs ls ov S n kc ks hP hD hS hI hn hkc hks hl
    | 14, _ =>
      refine lv_tableIn (off := 836) (tgt := 875) hx hb dL_law_39 (by decide) (by decide) (by decide +kernel) (by decide) ?_
      exact lc_empty C hk hin hnx ad H locs ls ov S n kc ks hP hD hS hI hn hkc hks hl
    | 15, _ =>
      refine lv_tableIn (off := 847) (tgt := 886) hx hb dL_law_39 (by decide) (by decide) (by decide +kernel) (by decide) ?_
      exact lc_about C hk hin hnx ad H locs ls ov S n kc ks hP hD hS hI hn hkc hks hl
    | t + 16, h => exact absurd h (by omega)
end LLC
