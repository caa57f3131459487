/-! THE HELPERS OF THE LAW -/
def mh_w : List Cond := [.methodLink RL 7 yX7_type, .methodLink RL 15 yX7_maker, .methodLink RL 21 yX7_isEmpty, .methodLink RL 25 yX7_match, .methodLink RL 29 yX7_sign, .methodLink RL 35 yX7_row, .methodLink RL 38 yX7_compile, .methodLink RL 43 yX7_node, .methodLink RL 49 yX7_missingSign, .methodLink RL 52 yX7_isIdle, .methodLink RL 55 yX7_give, .methodLink RL 58 yX7_answer, .methodLink RL 61 yX7_tests]
theorem mh_w_ok : ∀ w ∈ mh_w, w ∈ lw_tbl ∧ goodWord w = true := by decide +kernel
set_option maxHeartbeats 4000000 in
set_option maxRecDepth 100000 in
theorem mh_type (l : Launch) (hst : l.stackTraces = false) (D : va_G) (cy : ClassId × ClassId × ClassId) (ad : Nat → Nat) (ov : Int64) (sz : Nat) (S : Mem) (r : Res) (hr0 : mm_runD 60 89 [.inr 0] S = some r) (hxr : r.2.2.2.1 = 0 ∨ ∃ i : Nat, ([1] : List Nat)[i]? = some r.2.2.2.1) : ml_H l yL_type cL_type 3 [(0, 8, 11, 13)] D cy ad ov sz S [.ref (ad 0), .ref (ad 54)] [1] 1 r := by
  refine vx_ofWH (cc := cL_type) (maxL := 3) (ret := some .int) (hh := [(0, 8, 11, 13)]) (by decide) rfl ?_
  intro p e s m args below meth c s₁ B hml hv
  obtain ⟨rfl, hsz, hP, hK, hD0, hEX, hNC⟩ := hv
  have hx := B.exec
  have hb := B.bytes
  have hr := B.returns
  have hts0 := atoms_spec (ws := .codeWith yL_type cL_type 3 (some .int) [(0, 8, 11, 13)] :: mm_ut) B.pre
  have hts : ∀ w ∈ mm_ut, w.before _ s = true := fun w hw => hts0 w (List.mem_cons_of_mem _ hw)
  have htab : c.exceptionTable.toList = tableOf [(0, 8, 11, 13)] := vx_table (x := yL_type) B (hts0 _ List.mem_cons_self)
  have hcw : ∀ w ∈ ml_cw, w.before _ s = true := fun w hw => hts w (mm_in_ut (ml_cw_ok w hw).1 (ml_cw_ok w hw).2)
  have hown : s.vm.findClass RL = some m.cls := findClass_of_methodNamed B.named
  have hlocks := B.notSynchronized
  subst hsz
  have hD := hD0.self (sz := s.heap.size)
  generalize hAe : va_A (mm_W cy ad ov S) s.heap.size = A at hD hEX ⊢
  have hA : ∀ q : Nat, s.heap.size ≤ q → A q := fun q h => by rw [← hAe]; exact Or.inr h
  have hS : va_S A s.heap s.heap [] := va_S.rf
  have hl := lv_entry ([.ref (ad 0), .ref (ad 54)]) (n := 3) (Nat.le_of_ble_eq_true rfl)
  rw [lg_entry_eq]
  generalize (lg_sl ([.ref (ad 0), .ref (ad 54)]) ++ List.replicate (3 - (lg_sl ([.ref (ad 0), .ref (ad 54)])).length) Slot.unset).toArray = ls at hl ⊢
  have hl : lv_has ls 3 [(0, .ref (ad 0)), (1, .ref (ad 54))] := hl
  refine lv_aload_n hx hb dL_type_0 rfl (lv_at hl 1 rfl) ?_
  refine lv_iconst (v := 0) hx hb dL_type_1 (by decide) ?_
  refine lv_aload_n hx hb dL_type_2 rfl (lv_at hl 0 rfl) ?_
  refine ml_call (as' := []) (b9 := 0) (rest := [.int 0, .ref (ad 54)]) (y := 89) hx hb hml hown hts hK hEX hA (ml_con hst hr0 rfl) rfl (mm_in_ut (mh_w_ok _ (List.mem_of_getElem? (i := 0) rfl)).1 (mh_w_ok _ (List.mem_of_getElem? (i := 0) rfl)).2) rfl rfl hP hD hS hl.1 (Nat.le_of_ble_eq_true rfl) dL_type_3 ⟨by show 0 + r.2.1 ≤ r.2.1; omega, by show 0 + r.2.2.1 ≤ r.2.2.1; omega⟩ ⟨(Nat.le_of_ble_eq_true rfl), (Nat.le_of_ble_eq_true rfl)⟩ (fun h0 ad' H1 locs1 had hP hD hS => ?_) (fun h0 ad' H1 locs1 q9 ce had hP hD hS hce hcv hcE => ?_)
  · refine W.widen (k := r.2.1) (n := r.2.2.1) (by omega) (by omega) ?_
    have e54 : ad' 54 = ad 54 := had 54 (by decide)
    refine W.eq (g2 := F0 m 6 ls [.int r.2.2.2.2, .int 0, .ref (ad' 54)]) (by rw [e54]; rfl) ?_
    have hDk := hD
    refine lv_i2l (v := r.2.2.2.2.toInt64) hx hb dL_type_6 rfl ?_
    refine va_last (D := D) (x := r.2.2.2.2.toInt64) hx hb hK hP hD hS 54 2 ml_e54 rfl (show vp_in 0 1 by unfold vp_in; decide) dL_type_7 (fun H2 locs2 hP hD hS => ?_)
    have hP := ml_P54 rfl hP
    have hD := hDk
    refine lv_goto (tgt := 14) hx hb dL_type_8 (by decide) ?_
    refine lv_iconst (v := 0) hx hb dL_type_14 (by decide) ?_
    exact vx_ret (W.iret (v := 0) hx hb hr (fun t ht hW => ⟨⟨0, (r.1, r.2.2.2.2.toInt64), rfl, ⟨rfl, Or.inl ⟨h0, rfl, rfl⟩⟩, ad', had, by rw [ht]; exact hP, va_K.moved hW.alike hK, ml_D hD⟩, hS.F ht⟩) hS.2.2 dL_type_15)
  · refine vx_widen (k := r.2.1) (n := r.2.2.1) (by omega) (by omega) ?_
    rcases hxr with hz | ⟨i, hi⟩
    · exact absurd hz h0
    · match i, hi with
      | 0, hi =>
        have he : r.2.2.2.1 = 1 := (Option.some.inj hi).symm
        rw [he] at hcE
        refine vx_catch (own := RL) (E := mm_exn 1) (name := mm_exn 1) hown [] ⟨0, 8, 11, 13⟩ [] (by rw [htab]; rfl) (fun z hz => by cases hz) (by decide) (by decide) (hcw _ (List.mem_of_getElem? (i := 0) rfl)) (mm_cd_at rfl (State.WarmedH.refl s) (hEX.2.2.1 _ (ml_ca_ok _ (List.mem_of_getElem? (i := 0) rfl)))) hce hcv hcE ?_
        refine lv_astore_n (lv' := [(2, .ref q9), (0, .ref (ad 0)), (1, .ref (ad 54))]) hx hb dL_type_11 rfl hl (by decide) rfl (fun ls hl => ?_)
        refine lv_iconst (v := 1) hx hb dL_type_12 (by decide) ?_
        exact vx_ret (W.iret (v := 1) hx hb hr (fun t ht hW => ⟨⟨1, (r.1, ov), rfl, ⟨rfl, Or.inr ⟨0, by rw [he]; rfl, rfl, rfl⟩⟩, ad', had, by rw [ht]; exact hP, va_K.moved hW.alike hK, hD⟩, hS.F ht⟩) hS.2.2 dL_type_13)
      | i + 1, hi => exact absurd hi (by simp)
set_option maxHeartbeats 4000000 in
set_option maxRecDepth 100000 in
theorem mh_maker (l : Launch) (hst : l.stackTraces = false) (D : va_G) (cy : ClassId × ClassId × ClassId) (ad : Nat → Nat) (ov : Int64) (sz : Nat) (S : Mem) (x1 : Int32) (x2 : Int32) (x3 : Int32) (x4 : Int32) (r : Res) (hr0 : mm_runD 60 90 [.inr 0, .inl x1, .inl x2, .inl x3, .inl x4] S = some r) (hxr : r.2.2.2.1 = 0 ∨ ∃ i : Nat, ([3, 1] : List Nat)[i]? = some r.2.2.2.1) : ml_H l yL_maker cL_maker 7 [(0, 14, 17, 19), (0, 14, 21, 13)] D cy ad ov sz S [.ref (ad 0), .int x1, .int x2, .int x3, .int x4, .ref (ad 54)] [3, 1] 1 r := by
  refine vx_ofWH (cc := cL_maker) (maxL := 7) (ret := some .int) (hh := [(0, 14, 17, 19), (0, 14, 21, 13)]) (by decide) rfl ?_
  intro p e s m args below meth c s₁ B hml hv
  obtain ⟨rfl, hsz, hP, hK, hD0, hEX, hNC⟩ := hv
  have hx := B.exec
  have hb := B.bytes
  have hr := B.returns
  have hts0 := atoms_spec (ws := .codeWith yL_maker cL_maker 7 (some .int) [(0, 14, 17, 19), (0, 14, 21, 13)] :: mm_ut) B.pre
  have hts : ∀ w ∈ mm_ut, w.before _ s = true := fun w hw => hts0 w (List.mem_cons_of_mem _ hw)
  have htab : c.exceptionTable.toList = tableOf [(0, 14, 17, 19), (0, 14, 21, 13)] := vx_table (x := yL_maker) B (hts0 _ List.mem_cons_self)
  have hcw : ∀ w ∈ ml_cw, w.before _ s = true := fun w hw => hts w (mm_in_ut (ml_cw_ok w hw).1 (ml_cw_ok w hw).2)
  have hown : s.vm.findClass RL = some m.cls := findClass_of_methodNamed B.named
  have hlocks := B.notSynchronized
  subst hsz
  have hD := hD0.self (sz := s.heap.size)
  generalize hAe : va_A (mm_W cy ad ov S) s.heap.size = A at hD hEX ⊢
  have hA : ∀ q : Nat, s.heap.size ≤ q → A q := fun q h => by rw [← hAe]; exact Or.inr h
  have hS : va_S A s.heap s.heap [] := va_S.rf
  have hl := lv_entry ([.ref (ad 0), .int x1, .int x2, .int x3, .int x4, .ref (ad 54)]) (n := 7) (Nat.le_of_ble_eq_true rfl)
  rw [lg_entry_eq]
  generalize (lg_sl ([.ref (ad 0), .int x1, .int x2, .int x3, .int x4, .ref (ad 54)]) ++ List.replicate (7 - (lg_sl ([.ref (ad 0), .int x1, .int x2, .int x3, .int x4, .ref (ad 54)])).length) Slot.unset).toArray = ls at hl ⊢
  have hl : lv_has ls 7 [(0, .ref (ad 0)), (1, .int x1), (2, .int x2), (3, .int x3), (4, .int x4), (5, .ref (ad 54))] := hl
  refine lv_aload hx hb dL_maker_0 (lv_at hl 5 rfl) ?_
  refine lv_iconst (v := 0) hx hb dL_maker_2 (by decide) ?_
  refine lv_aload_n hx hb dL_maker_3 rfl (lv_at hl 0 rfl) ?_
  refine lv_iload_n hx hb dL_maker_4 rfl (lv_at hl 1 rfl) ?_
  refine lv_iload_n hx hb dL_maker_5 rfl (lv_at hl 2 rfl) ?_
  refine lv_iload_n hx hb dL_maker_6 rfl (lv_at hl 3 rfl) ?_
  refine lv_iload hx hb dL_maker_7 (lv_at hl 4 rfl) ?_
  refine ml_call (as' := [.inl x1, .inl x2, .inl x3, .inl x4]) (b9 := 0) (rest := [.int 0, .ref (ad 54)]) (y := 90) hx hb hml hown hts hK hEX hA (ml_con hst hr0 rfl) rfl (mm_in_ut (mh_w_ok _ (List.mem_of_getElem? (i := 1) rfl)).1 (mh_w_ok _ (List.mem_of_getElem? (i := 1) rfl)).2) rfl rfl hP hD hS hl.1 (Nat.le_of_ble_eq_true rfl) dL_maker_9 ⟨by show 0 + r.2.1 ≤ r.2.1; omega, by show 0 + r.2.2.1 ≤ r.2.2.1; omega⟩ ⟨(Nat.le_of_ble_eq_true rfl), (Nat.le_of_ble_eq_true rfl)⟩ (fun h0 ad' H1 locs1 had hP hD hS => ?_) (fun h0 ad' H1 locs1 q9 ce had hP hD hS hce hcv hcE => ?_)
  · refine W.widen (k := r.2.1) (n := r.2.2.1) (by omega) (by omega) ?_
    have e54 : ad' 54 = ad 54 := had 54 (by decide)
    refine W.eq (g2 := F0 m 12 ls [.int r.2.2.2.2, .int 0, .ref (ad' 54)]) (by rw [e54]; rfl) ?_
    have hDk := hD
    refine lv_i2l (v := r.2.2.2.2.toInt64) hx hb dL_maker_12 rfl ?_
    refine va_last (D := D) (x := r.2.2.2.2.toInt64) hx hb hK hP hD hS 54 2 ml_e54 rfl (show vp_in 0 1 by unfold vp_in; decide) dL_maker_13 (fun H2 locs2 hP hD hS => ?_)
    have hP := ml_P54 rfl hP
    have hD := hDk
    refine lv_goto (tgt := 25) hx hb dL_maker_14 (by decide) ?_
    refine lv_iconst (v := 0) hx hb dL_maker_25 (by decide) ?_
    exact vx_ret (W.iret (v := 0) hx hb hr (fun t ht hW => ⟨⟨0, (r.1, r.2.2.2.2.toInt64), rfl, ⟨rfl, Or.inl ⟨h0, rfl, rfl⟩⟩, ad', had, by rw [ht]; exact hP, va_K.moved hW.alike hK, ml_D hD⟩, hS.F ht⟩) hS.2.2 dL_maker_26)
  · refine vx_widen (k := r.2.1) (n := r.2.2.1) (by omega) (by omega) ?_
    rcases hxr with hz | ⟨i, hi⟩
    · exact absurd hz h0
    · match i, hi with
      | 0, hi =>
        have he : r.2.2.2.1 = 3 := (Option.some.inj hi).symm
        rw [he] at hcE
        refine vx_catch (own := RL) (E := mm_exn 3) (name := mm_exn 3) hown [] ⟨0, 14, 17, 19⟩ [⟨0, 14, 21, 13⟩] (by rw [htab]; rfl) (fun z hz => by cases hz) (by decide) (by decide) (hcw _ (List.mem_of_getElem? (i := 1) rfl)) (mm_cd_at rfl (State.WarmedH.refl s) (hEX.2.2.1 _ (ml_ca_ok _ (List.mem_of_getElem? (i := 2) rfl)))) hce hcv hcE ?_
        refine lv_astore (lv' := [(6, .ref q9), (0, .ref (ad 0)), (1, .int x1), (2, .int x2), (3, .int x3), (4, .int x4), (5, .ref (ad 54))]) hx hb dL_maker_17 hl (by decide) rfl (fun ls hl => ?_)
        refine lv_iconst (v := 1) hx hb dL_maker_19 (by decide) ?_
        exact vx_ret (W.iret (v := 1) hx hb hr (fun t ht hW => ⟨⟨1, (r.1, ov), rfl, ⟨rfl, Or.inr ⟨0, by rw [he]; rfl, rfl, rfl⟩⟩, ad', had, by rw [ht]; exact hP, va_K.moved hW.alike hK, hD⟩, hS.F ht⟩) hS.2.2 dL_maker_20)
      | 1, hi =>
        have he : r.2.2.2.1 = 1 := (Option.some.inj hi).symm
        rw [he] at hcE
        refine vx_catch (own := RL) (E := mm_exn 1) (name := mm_exn 1) hown [⟨0, 14, 17, 19⟩] ⟨0, 14, 21, 13⟩ [] (by rw [htab]; rfl) (fun z hz => by
          simp only [List.mem_cons, List.not_mem_nil, or_false] at hz
          rcases hz with rfl
          · exact Or.inr ⟨by decide, _, hcw _ (List.mem_of_getElem? (i := 1) rfl), hNC (mm_exn 1, mm_exn 3) (by decide)⟩
          ) (by decide) (by decide) (hcw _ (List.mem_of_getElem? (i := 0) rfl)) (mm_cd_at rfl (State.WarmedH.refl s) (hEX.2.2.1 _ (ml_ca_ok _ (List.mem_of_getElem? (i := 0) rfl)))) hce hcv hcE ?_
        refine lv_astore (lv' := [(6, .ref q9), (0, .ref (ad 0)), (1, .int x1), (2, .int x2), (3, .int x3), (4, .int x4), (5, .ref (ad 54))]) hx hb dL_maker_21 hl (by decide) rfl (fun ls hl => ?_)
        refine lv_iconst (v := 2) hx hb dL_maker_23 (by decide) ?_
        exact vx_ret (W.iret (v := 2) hx hb hr (fun t ht hW => ⟨⟨2, (r.1, ov), rfl, ⟨rfl, Or.inr ⟨1, by rw [he]; rfl, rfl, rfl⟩⟩, ad', had, by rw [ht]; exact hP, va_K.moved hW.alike hK, hD⟩, hS.F ht⟩) hS.2.2 dL_maker_24)
      | i + 2, hi => exact absurd hi (by simp)
set_option maxHeartbeats 4000000 in
set_option maxRecDepth 100000 in
theorem mh_isEmpty (l : Launch) (hst : l.stackTraces = false) (D : va_G) (cy : ClassId × ClassId × ClassId) (ad : Nat → Nat) (ov : Int64) (sz : Nat) (S : Mem) (x1 : Int32) (r : Res) (hr0 : mm_runD 60 91 [.inr 0, .inl x1] S = some r) (hxr : r.2.2.2.1 = 0 ∨ ∃ i : Nat, ([3] : List Nat)[i]? = some r.2.2.2.1) : ml_H l yL_isEmpty cL_isEmpty 4 [(0, 16, 19, 19)] D cy ad ov sz S [.ref (ad 0), .int x1, .ref (ad 54)] [3] 2 r := by
  refine vx_ofWH (cc := cL_isEmpty) (maxL := 4) (ret := some .int) (hh := [(0, 16, 19, 19)]) (by decide) rfl ?_
  intro p e s m args below meth c s₁ B hml hv
  obtain ⟨rfl, hsz, hP, hK, hD0, hEX, hNC⟩ := hv
  have hx := B.exec
  have hb := B.bytes
  have hr := B.returns
  have hts0 := atoms_spec (ws := .codeWith yL_isEmpty cL_isEmpty 4 (some .int) [(0, 16, 19, 19)] :: mm_ut) B.pre
  have hts : ∀ w ∈ mm_ut, w.before _ s = true := fun w hw => hts0 w (List.mem_cons_of_mem _ hw)
  have htab : c.exceptionTable.toList = tableOf [(0, 16, 19, 19)] := vx_table (x := yL_isEmpty) B (hts0 _ List.mem_cons_self)
  have hcw : ∀ w ∈ ml_cw, w.before _ s = true := fun w hw => hts w (mm_in_ut (ml_cw_ok w hw).1 (ml_cw_ok w hw).2)
  have hown : s.vm.findClass RL = some m.cls := findClass_of_methodNamed B.named
  have hlocks := B.notSynchronized
  subst hsz
  have hD := hD0.self (sz := s.heap.size)
  generalize hAe : va_A (mm_W cy ad ov S) s.heap.size = A at hD hEX ⊢
  have hA : ∀ q : Nat, s.heap.size ≤ q → A q := fun q h => by rw [← hAe]; exact Or.inr h
  have hS : va_S A s.heap s.heap [] := va_S.rf
  have hl := lv_entry ([.ref (ad 0), .int x1, .ref (ad 54)]) (n := 4) (Nat.le_of_ble_eq_true rfl)
  rw [lg_entry_eq]
  generalize (lg_sl ([.ref (ad 0), .int x1, .ref (ad 54)]) ++ List.replicate (4 - (lg_sl ([.ref (ad 0), .int x1, .ref (ad 54)])).length) Slot.unset).toArray = ls at hl ⊢
  have hl : lv_has ls 4 [(0, .ref (ad 0)), (1, .int x1), (2, .ref (ad 54))] := hl
  refine lv_aload_n hx hb dL_isEmpty_0 rfl (lv_at hl 2 rfl) ?_
  refine lv_iconst (v := 0) hx hb dL_isEmpty_1 (by decide) ?_
  refine lv_aload_n hx hb dL_isEmpty_2 rfl (lv_at hl 0 rfl) ?_
  refine lv_iload_n hx hb dL_isEmpty_3 rfl (lv_at hl 1 rfl) ?_
  refine ml_call (as' := [.inl x1]) (b9 := 0) (rest := [.int 0, .ref (ad 54)]) (y := 91) hx hb hml hown hts hK hEX hA (ml_con hst hr0 rfl) rfl (mm_in_ut (mh_w_ok _ (List.mem_of_getElem? (i := 2) rfl)).1 (mh_w_ok _ (List.mem_of_getElem? (i := 2) rfl)).2) rfl rfl hP hD hS hl.1 (Nat.le_of_ble_eq_true rfl) dL_isEmpty_4 ⟨by show 0 + r.2.1 ≤ r.2.1; omega, by show 0 + r.2.2.1 ≤ r.2.2.1; omega⟩ ⟨(Nat.le_of_ble_eq_true rfl), (Nat.le_of_ble_eq_true rfl)⟩ (fun h0 ad' H1 locs1 had hP hD hS => ?_) (fun h0 ad' H1 locs1 q9 ce had hP hD hS hce hcv hcE => ?_)
  · refine W.widen (k := r.2.1) (n := r.2.2.1) (by omega) (by omega) ?_
    have e54 : ad' 54 = ad 54 := had 54 (by decide)
    refine W.eq (g2 := F0 m 7 ls [.int r.2.2.2.2, .int 0, .ref (ad' 54)]) (by rw [e54]; rfl) ?_
    have hDk := hD
    refine lv_if_eq (tgt := 14) hx hb dL_isEmpty_7 (by decide) (fun z0 => ?_) (fun z0 => ?_)
    · refine lv_lconst (v := 0) hx hb dL_isEmpty_14 (by decide) ?_
      refine va_last (D := D) (x := 0) hx hb hK hP hD hS 54 2 ml_e54 rfl (show vp_in 0 1 by unfold vp_in; decide) dL_isEmpty_15 (fun H2 locs2 hP hD hS => ?_)
      have hP := ml_P54 rfl hP
      have hD := hDk
      refine lv_goto (tgt := 22) hx hb dL_isEmpty_16 (by decide) ?_
      refine lv_iconst (v := 0) hx hb dL_isEmpty_22 (by decide) ?_
      exact vx_ret (W.iret (v := 0) hx hb hr (fun t ht hW => ⟨⟨0, (r.1, 0), rfl, ⟨rfl, Or.inl ⟨h0, rfl, (show (0 : Int64) = ml_o 2 ov r.2.2.2.2 by unfold ml_o; rw [if_neg (by decide), if_pos rfl, if_pos z0])⟩⟩, ad', had, by rw [ht]; exact hP, va_K.moved hW.alike hK, ml_D hD⟩, hS.F ht⟩) hS.2.2 dL_isEmpty_23)
    · refine lv_lconst (v := 1) hx hb dL_isEmpty_10 (by decide) ?_
      refine lv_goto (tgt := 15) hx hb dL_isEmpty_11 (by decide) ?_
      refine va_last (D := D) (x := 1) hx hb hK hP hD hS 54 2 ml_e54 rfl (show vp_in 0 1 by unfold vp_in; decide) dL_isEmpty_15 (fun H2 locs2 hP hD hS => ?_)
      have hP := ml_P54 rfl hP
      have hD := hDk
      refine lv_goto (tgt := 22) hx hb dL_isEmpty_16 (by decide) ?_
      refine lv_iconst (v := 0) hx hb dL_isEmpty_22 (by decide) ?_
      exact vx_ret (W.iret (v := 0) hx hb hr (fun t ht hW => ⟨⟨0, (r.1, 1), rfl, ⟨rfl, Or.inl ⟨h0, rfl, (show (1 : Int64) = ml_o 2 ov r.2.2.2.2 by unfold ml_o; rw [if_neg (by decide), if_pos rfl, if_neg z0])⟩⟩, ad', had, by rw [ht]; exact hP, va_K.moved hW.alike hK, ml_D hD⟩, hS.F ht⟩) hS.2.2 dL_isEmpty_23)
  · refine vx_widen (k := r.2.1) (n := r.2.2.1) (by omega) (by omega) ?_
    rcases hxr with hz | ⟨i, hi⟩
    · exact absurd hz h0
    · match i, hi with
      | 0, hi =>
        have he : r.2.2.2.1 = 3 := (Option.some.inj hi).symm
        rw [he] at hcE
        refine vx_catch (own := RL) (E := mm_exn 3) (name := mm_exn 3) hown [] ⟨0, 16, 19, 19⟩ [] (by rw [htab]; rfl) (fun z hz => by cases hz) (by decide) (by decide) (hcw _ (List.mem_of_getElem? (i := 1) rfl)) (mm_cd_at rfl (State.WarmedH.refl s) (hEX.2.2.1 _ (ml_ca_ok _ (List.mem_of_getElem? (i := 2) rfl)))) hce hcv hcE ?_
        refine lv_astore_n (lv' := [(3, .ref q9), (0, .ref (ad 0)), (1, .int x1), (2, .ref (ad 54))]) hx hb dL_isEmpty_19 rfl hl (by decide) rfl (fun ls hl => ?_)
        refine lv_iconst (v := 1) hx hb dL_isEmpty_20 (by decide) ?_
        exact vx_ret (W.iret (v := 1) hx hb hr (fun t ht hW => ⟨⟨1, (r.1, ov), rfl, ⟨rfl, Or.inr ⟨0, by rw [he]; rfl, rfl, rfl⟩⟩, ad', had, by rw [ht]; exact hP, va_K.moved hW.alike hK, hD⟩, hS.F ht⟩) hS.2.2 dL_isEmpty_21)
      | i + 1, hi => exact absurd hi (by simp)
set_option maxHeartbeats 4000000 in
set_option maxRecDepth 100000 in
theorem mh_match (l : Launch) (hst : l.stackTraces = false) (D : va_G) (cy : ClassId × ClassId × ClassId) (ad : Nat → Nat) (ov : Int64) (sz : Nat) (S : Mem) (x1 : Int32) (x2 : Int32) (x3 : Int32) (r : Res) (hr0 : mm_runD 60 92 [.inr 0, .inl x1, .inl x2, .inl x3] S = some r) (hxr : r.2.2.2.1 = 0 ∨ ∃ i : Nat, ([3] : List Nat)[i]? = some r.2.2.2.1) : ml_H l yL_match cL_match 5 [(0, 7, 10, 19)] D cy ad ov sz S [.ref (ad 0), .int x1, .int x2, .int x3] [3] 0 r := by
  refine vx_ofWH (cc := cL_match) (maxL := 5) (ret := some .int) (hh := [(0, 7, 10, 19)]) (by decide) rfl ?_
  intro p e s m args below meth c s₁ B hml hv
  obtain ⟨rfl, hsz, hP, hK, hD0, hEX, hNC⟩ := hv
  have hx := B.exec
  have hb := B.bytes
  have hr := B.returns
  have hts0 := atoms_spec (ws := .codeWith yL_match cL_match 5 (some .int) [(0, 7, 10, 19)] :: mm_ut) B.pre
  have hts : ∀ w ∈ mm_ut, w.before _ s = true := fun w hw => hts0 w (List.mem_cons_of_mem _ hw)
  have htab : c.exceptionTable.toList = tableOf [(0, 7, 10, 19)] := vx_table (x := yL_match) B (hts0 _ List.mem_cons_self)
  have hcw : ∀ w ∈ ml_cw, w.before _ s = true := fun w hw => hts w (mm_in_ut (ml_cw_ok w hw).1 (ml_cw_ok w hw).2)
  have hown : s.vm.findClass RL = some m.cls := findClass_of_methodNamed B.named
  have hlocks := B.notSynchronized
  subst hsz
  have hD := hD0.self (sz := s.heap.size)
  generalize hAe : va_A (mm_W cy ad ov S) s.heap.size = A at hD hEX ⊢
  have hA : ∀ q : Nat, s.heap.size ≤ q → A q := fun q h => by rw [← hAe]; exact Or.inr h
  have hS : va_S A s.heap s.heap [] := va_S.rf
  have hl := lv_entry ([.ref (ad 0), .int x1, .int x2, .int x3]) (n := 5) (Nat.le_of_ble_eq_true rfl)
  rw [lg_entry_eq]
  generalize (lg_sl ([.ref (ad 0), .int x1, .int x2, .int x3]) ++ List.replicate (5 - (lg_sl ([.ref (ad 0), .int x1, .int x2, .int x3])).length) Slot.unset).toArray = ls at hl ⊢
  have hl : lv_has ls 5 [(0, .ref (ad 0)), (1, .int x1), (2, .int x2), (3, .int x3)] := hl
  refine lv_aload_n hx hb dL_match_0 rfl (lv_at hl 0 rfl) ?_
  refine lv_iload_n hx hb dL_match_1 rfl (lv_at hl 1 rfl) ?_
  refine lv_iload_n hx hb dL_match_2 rfl (lv_at hl 2 rfl) ?_
  refine lv_iload_n hx hb dL_match_3 rfl (lv_at hl 3 rfl) ?_
  refine ml_call (as' := [.inl x1, .inl x2, .inl x3]) (b9 := 0) (rest := []) (y := 92) hx hb hml hown hts hK hEX hA (ml_con hst hr0 rfl) rfl (mm_in_ut (mh_w_ok _ (List.mem_of_getElem? (i := 3) rfl)).1 (mh_w_ok _ (List.mem_of_getElem? (i := 3) rfl)).2) rfl rfl hP hD hS hl.1 (Nat.le_of_ble_eq_true rfl) dL_match_4 ⟨by show 0 + r.2.1 ≤ r.2.1; omega, by show 0 + r.2.2.1 ≤ r.2.2.1; omega⟩ ⟨(Nat.le_of_ble_eq_true rfl), (Nat.le_of_ble_eq_true rfl)⟩ (fun h0 ad' H1 locs1 had hP hD hS => ?_) (fun h0 ad' H1 locs1 q9 ce had hP hD hS hce hcv hcE => ?_)
  · refine W.widen (k := r.2.1) (n := r.2.2.1) (by omega) (by omega) ?_
    refine W.eq (g2 := F0 m 7 ls []) rfl ?_
    refine lv_goto (tgt := 14) hx hb dL_match_7 (by decide) ?_
    refine lv_iconst (v := 0) hx hb dL_match_14 (by decide) ?_
    exact vx_ret (W.iret (v := 0) hx hb hr (fun t ht hW => ⟨⟨0, (r.1, ov), rfl, ⟨rfl, Or.inl ⟨h0, rfl, rfl⟩⟩, ad', had, by rw [ht]; exact hP, va_K.moved hW.alike hK, ml_D hD⟩, hS.F ht⟩) hS.2.2 dL_match_15)
  · refine vx_widen (k := r.2.1) (n := r.2.2.1) (by omega) (by omega) ?_
    rcases hxr with hz | ⟨i, hi⟩
    · exact absurd hz h0
    · match i, hi with
      | 0, hi =>
        have he : r.2.2.2.1 = 3 := (Option.some.inj hi).symm
        rw [he] at hcE
        refine vx_catch (own := RL) (E := mm_exn 3) (name := mm_exn 3) hown [] ⟨0, 7, 10, 19⟩ [] (by rw [htab]; rfl) (fun z hz => by cases hz) (by decide) (by decide) (hcw _ (List.mem_of_getElem? (i := 1) rfl)) (mm_cd_at rfl (State.WarmedH.refl s) (hEX.2.2.1 _ (ml_ca_ok _ (List.mem_of_getElem? (i := 2) rfl)))) hce hcv hcE ?_
        refine lv_astore (lv' := [(4, .ref q9), (0, .ref (ad 0)), (1, .int x1), (2, .int x2), (3, .int x3)]) hx hb dL_match_10 hl (by decide) rfl (fun ls hl => ?_)
        refine lv_iconst (v := 1) hx hb dL_match_12 (by decide) ?_
        exact vx_ret (W.iret (v := 1) hx hb hr (fun t ht hW => ⟨⟨1, (r.1, ov), rfl, ⟨rfl, Or.inr ⟨0, by rw [he]; rfl, rfl, rfl⟩⟩, ad', had, by rw [ht]; exact hP, va_K.moved hW.alike hK, hD⟩, hS.F ht⟩) hS.2.2 dL_match_13)
      | i + 1, hi => exact absurd hi (by simp)
set_option maxHeartbeats 4000000 in
set_option maxRecDepth 100000 in
theorem mh_sign (l : Launch) (hst : l.stackTraces = false) (D : va_G) (cy : ClassId × ClassId × ClassId) (ad : Nat → Nat) (ov : Int64) (sz : Nat) (S : Mem) (x1 : Int32) (r : Res) (hr0 : mm_runD 60 93 [.inr 0, .inl x1] S = some r) (hxr : r.2.2.2.1 = 0 ∨ ∃ i : Nat, ([1, 2] : List Nat)[i]? = some r.2.2.2.1) : ml_H l yL_sign cL_sign 4 [(0, 9, 12, 13), (0, 9, 15, 33)] D cy ad ov sz S [.ref (ad 0), .int x1, .ref (ad 54)] [1, 2] 1 r := by
  refine vx_ofWH (cc := cL_sign) (maxL := 4) (ret := some .int) (hh := [(0, 9, 12, 13), (0, 9, 15, 33)]) (by decide) rfl ?_
  intro p e s m args below meth c s₁ B hml hv
  obtain ⟨rfl, hsz, hP, hK, hD0, hEX, hNC⟩ := hv
  have hx := B.exec
  have hb := B.bytes
  have hr := B.returns
  have hts0 := atoms_spec (ws := .codeWith yL_sign cL_sign 4 (some .int) [(0, 9, 12, 13), (0, 9, 15, 33)] :: mm_ut) B.pre
  have hts : ∀ w ∈ mm_ut, w.before _ s = true := fun w hw => hts0 w (List.mem_cons_of_mem _ hw)
  have htab : c.exceptionTable.toList = tableOf [(0, 9, 12, 13), (0, 9, 15, 33)] := vx_table (x := yL_sign) B (hts0 _ List.mem_cons_self)
  have hcw : ∀ w ∈ ml_cw, w.before _ s = true := fun w hw => hts w (mm_in_ut (ml_cw_ok w hw).1 (ml_cw_ok w hw).2)
  have hown : s.vm.findClass RL = some m.cls := findClass_of_methodNamed B.named
  have hlocks := B.notSynchronized
  subst hsz
  have hD := hD0.self (sz := s.heap.size)
  generalize hAe : va_A (mm_W cy ad ov S) s.heap.size = A at hD hEX ⊢
  have hA : ∀ q : Nat, s.heap.size ≤ q → A q := fun q h => by rw [← hAe]; exact Or.inr h
  have hS : va_S A s.heap s.heap [] := va_S.rf
  have hl := lv_entry ([.ref (ad 0), .int x1, .ref (ad 54)]) (n := 4) (Nat.le_of_ble_eq_true rfl)
  rw [lg_entry_eq]
  generalize (lg_sl ([.ref (ad 0), .int x1, .ref (ad 54)]) ++ List.replicate (4 - (lg_sl ([.ref (ad 0), .int x1, .ref (ad 54)])).length) Slot.unset).toArray = ls at hl ⊢
  have hl : lv_has ls 4 [(0, .ref (ad 0)), (1, .int x1), (2, .ref (ad 54))] := hl
  refine lv_aload_n hx hb dL_sign_0 rfl (lv_at hl 2 rfl) ?_
  refine lv_iconst (v := 0) hx hb dL_sign_1 (by decide) ?_
  refine lv_aload_n hx hb dL_sign_2 rfl (lv_at hl 0 rfl) ?_
  refine lv_iload_n hx hb dL_sign_3 rfl (lv_at hl 1 rfl) ?_
  refine ml_call (as' := [.inl x1]) (b9 := 0) (rest := [.int 0, .ref (ad 54)]) (y := 93) hx hb hml hown hts hK hEX hA (ml_con hst hr0 rfl) rfl (mm_in_ut (mh_w_ok _ (List.mem_of_getElem? (i := 4) rfl)).1 (mh_w_ok _ (List.mem_of_getElem? (i := 4) rfl)).2) rfl rfl hP hD hS hl.1 (Nat.le_of_ble_eq_true rfl) dL_sign_4 ⟨by show 0 + r.2.1 ≤ r.2.1; omega, by show 0 + r.2.2.1 ≤ r.2.2.1; omega⟩ ⟨(Nat.le_of_ble_eq_true rfl), (Nat.le_of_ble_eq_true rfl)⟩ (fun h0 ad' H1 locs1 had hP hD hS => ?_) (fun h0 ad' H1 locs1 q9 ce had hP hD hS hce hcv hcE => ?_)
  · refine W.widen (k := r.2.1) (n := r.2.2.1) (by omega) (by omega) ?_
    have e54 : ad' 54 = ad 54 := had 54 (by decide)
    refine W.eq (g2 := F0 m 7 ls [.int r.2.2.2.2, .int 0, .ref (ad' 54)]) (by rw [e54]; rfl) ?_
    have hDk := hD
    refine lv_i2l (v := r.2.2.2.2.toInt64) hx hb dL_sign_7 rfl ?_
    refine va_last (D := D) (x := r.2.2.2.2.toInt64) hx hb hK hP hD hS 54 2 ml_e54 rfl (show vp_in 0 1 by unfold vp_in; decide) dL_sign_8 (fun H2 locs2 hP hD hS => ?_)
    have hP := ml_P54 rfl hP
    have hD := hDk
    refine lv_goto (tgt := 18) hx hb dL_sign_9 (by decide) ?_
    refine lv_iconst (v := 0) hx hb dL_sign_18 (by decide) ?_
    exact vx_ret (W.iret (v := 0) hx hb hr (fun t ht hW => ⟨⟨0, (r.1, r.2.2.2.2.toInt64), rfl, ⟨rfl, Or.inl ⟨h0, rfl, rfl⟩⟩, ad', had, by rw [ht]; exact hP, va_K.moved hW.alike hK, ml_D hD⟩, hS.F ht⟩) hS.2.2 dL_sign_19)
  · refine vx_widen (k := r.2.1) (n := r.2.2.1) (by omega) (by omega) ?_
    rcases hxr with hz | ⟨i, hi⟩
    · exact absurd hz h0
    · match i, hi with
      | 0, hi =>
        have he : r.2.2.2.1 = 1 := (Option.some.inj hi).symm
        rw [he] at hcE
        refine vx_catch (own := RL) (E := mm_exn 1) (name := mm_exn 1) hown [] ⟨0, 9, 12, 13⟩ [⟨0, 9, 15, 33⟩] (by rw [htab]; rfl) (fun z hz => by cases hz) (by decide) (by decide) (hcw _ (List.mem_of_getElem? (i := 0) rfl)) (mm_cd_at rfl (State.WarmedH.refl s) (hEX.2.2.1 _ (ml_ca_ok _ (List.mem_of_getElem? (i := 0) rfl)))) hce hcv hcE ?_
        refine lv_astore_n (lv' := [(3, .ref q9), (0, .ref (ad 0)), (1, .int x1), (2, .ref (ad 54))]) hx hb dL_sign_12 rfl hl (by decide) rfl (fun ls hl => ?_)
        refine lv_iconst (v := 1) hx hb dL_sign_13 (by decide) ?_
        exact vx_ret (W.iret (v := 1) hx hb hr (fun t ht hW => ⟨⟨1, (r.1, ov), rfl, ⟨rfl, Or.inr ⟨0, by rw [he]; rfl, rfl, rfl⟩⟩, ad', had, by rw [ht]; exact hP, va_K.moved hW.alike hK, hD⟩, hS.F ht⟩) hS.2.2 dL_sign_14)
      | 1, hi =>
        have he : r.2.2.2.1 = 2 := (Option.some.inj hi).symm
        rw [he] at hcE
        refine vx_catch (own := RL) (E := mm_exn 2) (name := mm_exn 2) hown [⟨0, 9, 12, 13⟩] ⟨0, 9, 15, 33⟩ [] (by rw [htab]; rfl) (fun z hz => by
          simp only [List.mem_cons, List.not_mem_nil, or_false] at hz
          rcases hz with rfl
          · exact Or.inr ⟨by decide, _, hcw _ (List.mem_of_getElem? (i := 0) rfl), hNC (mm_exn 2, mm_exn 1) (by decide)⟩
          ) (by decide) (by decide) (hcw _ (List.mem_of_getElem? (i := 2) rfl)) (mm_cd_at rfl (State.WarmedH.refl s) (hEX.2.2.1 _ (ml_ca_ok _ (List.mem_of_getElem? (i := 1) rfl)))) hce hcv hcE ?_
        refine lv_astore_n (lv' := [(3, .ref q9), (0, .ref (ad 0)), (1, .int x1), (2, .ref (ad 54))]) hx hb dL_sign_15 rfl hl (by decide) rfl (fun ls hl => ?_)
        refine lv_iconst (v := 2) hx hb dL_sign_16 (by decide) ?_
        exact vx_ret (W.iret (v := 2) hx hb hr (fun t ht hW => ⟨⟨2, (r.1, ov), rfl, ⟨rfl, Or.inr ⟨1, by rw [he]; rfl, rfl, rfl⟩⟩, ad', had, by rw [ht]; exact hP, va_K.moved hW.alike hK, hD⟩, hS.F ht⟩) hS.2.2 dL_sign_17)
      | i + 2, hi => exact absurd hi (by simp)
set_option maxHeartbeats 4000000 in
set_option maxRecDepth 100000 in
theorem mh_row (l : Launch) (hst : l.stackTraces = false) (D : va_G) (cy : ClassId × ClassId × ClassId) (ad : Nat → Nat) (ov : Int64) (sz : Nat) (S : Mem) (r : Res) (hr0 : mm_runD 60 94 [.inr 0] S = some r) (hxr : r.2.2.2.1 = 0 ∨ ∃ i : Nat, ([1, 2] : List Nat)[i]? = some r.2.2.2.1) : ml_H l yL_row cL_row 3 [(0, 8, 11, 13), (0, 8, 14, 33)] D cy ad ov sz S [.ref (ad 0), .ref (ad 54)] [1, 2] 1 r := by
  refine vx_ofWH (cc := cL_row) (maxL := 3) (ret := some .int) (hh := [(0, 8, 11, 13), (0, 8, 14, 33)]) (by decide) rfl ?_
  intro p e s m args below meth c s₁ B hml hv
  obtain ⟨rfl, hsz, hP, hK, hD0, hEX, hNC⟩ := hv
  have hx := B.exec
  have hb := B.bytes
  have hr := B.returns
  have hts0 := atoms_spec (ws := .codeWith yL_row cL_row 3 (some .int) [(0, 8, 11, 13), (0, 8, 14, 33)] :: mm_ut) B.pre
  have hts : ∀ w ∈ mm_ut, w.before _ s = true := fun w hw => hts0 w (List.mem_cons_of_mem _ hw)
  have htab : c.exceptionTable.toList = tableOf [(0, 8, 11, 13), (0, 8, 14, 33)] := vx_table (x := yL_row) B (hts0 _ List.mem_cons_self)
  have hcw : ∀ w ∈ ml_cw, w.before _ s = true := fun w hw => hts w (mm_in_ut (ml_cw_ok w hw).1 (ml_cw_ok w hw).2)
  have hown : s.vm.findClass RL = some m.cls := findClass_of_methodNamed B.named
  have hlocks := B.notSynchronized
  subst hsz
  have hD := hD0.self (sz := s.heap.size)
  generalize hAe : va_A (mm_W cy ad ov S) s.heap.size = A at hD hEX ⊢
  have hA : ∀ q : Nat, s.heap.size ≤ q → A q := fun q h => by rw [← hAe]; exact Or.inr h
  have hS : va_S A s.heap s.heap [] := va_S.rf
  have hl := lv_entry ([.ref (ad 0), .ref (ad 54)]) (n := 3) (Nat.le_of_ble_eq_true rfl)
  rw [lg_entry_eq]
  generalize (lg_sl ([.ref (ad 0), .ref (ad 54)]) ++ List.replicate (3 - (lg_sl ([.ref (ad 0), .ref (ad 54)])).length) Slot.unset).toArray = ls at hl ⊢
  have hl : lv_has ls 3 [(0, .ref (ad 0)), (1, .ref (ad 54))] := hl
  refine lv_aload_n hx hb dL_row_0 rfl (lv_at hl 1 rfl) ?_
  refine lv_iconst (v := 0) hx hb dL_row_1 (by decide) ?_
  refine lv_aload_n hx hb dL_row_2 rfl (lv_at hl 0 rfl) ?_
  refine ml_call (as' := []) (b9 := 0) (rest := [.int 0, .ref (ad 54)]) (y := 94) hx hb hml hown hts hK hEX hA (ml_con hst hr0 rfl) rfl (mm_in_ut (mh_w_ok _ (List.mem_of_getElem? (i := 5) rfl)).1 (mh_w_ok _ (List.mem_of_getElem? (i := 5) rfl)).2) rfl rfl hP hD hS hl.1 (Nat.le_of_ble_eq_true rfl) dL_row_3 ⟨by show 0 + r.2.1 ≤ r.2.1; omega, by show 0 + r.2.2.1 ≤ r.2.2.1; omega⟩ ⟨(Nat.le_of_ble_eq_true rfl), (Nat.le_of_ble_eq_true rfl)⟩ (fun h0 ad' H1 locs1 had hP hD hS => ?_) (fun h0 ad' H1 locs1 q9 ce had hP hD hS hce hcv hcE => ?_)
  · refine W.widen (k := r.2.1) (n := r.2.2.1) (by omega) (by omega) ?_
    have e54 : ad' 54 = ad 54 := had 54 (by decide)
    refine W.eq (g2 := F0 m 6 ls [.int r.2.2.2.2, .int 0, .ref (ad' 54)]) (by rw [e54]; rfl) ?_
    have hDk := hD
    refine lv_i2l (v := r.2.2.2.2.toInt64) hx hb dL_row_6 rfl ?_
    refine va_last (D := D) (x := r.2.2.2.2.toInt64) hx hb hK hP hD hS 54 2 ml_e54 rfl (show vp_in 0 1 by unfold vp_in; decide) dL_row_7 (fun H2 locs2 hP hD hS => ?_)
    have hP := ml_P54 rfl hP
    have hD := hDk
    refine lv_goto (tgt := 17) hx hb dL_row_8 (by decide) ?_
    refine lv_iconst (v := 0) hx hb dL_row_17 (by decide) ?_
    exact vx_ret (W.iret (v := 0) hx hb hr (fun t ht hW => ⟨⟨0, (r.1, r.2.2.2.2.toInt64), rfl, ⟨rfl, Or.inl ⟨h0, rfl, rfl⟩⟩, ad', had, by rw [ht]; exact hP, va_K.moved hW.alike hK, ml_D hD⟩, hS.F ht⟩) hS.2.2 dL_row_18)
  · refine vx_widen (k := r.2.1) (n := r.2.2.1) (by omega) (by omega) ?_
    rcases hxr with hz | ⟨i, hi⟩
    · exact absurd hz h0
    · match i, hi with
      | 0, hi =>
        have he : r.2.2.2.1 = 1 := (Option.some.inj hi).symm
        rw [he] at hcE
        refine vx_catch (own := RL) (E := mm_exn 1) (name := mm_exn 1) hown [] ⟨0, 8, 11, 13⟩ [⟨0, 8, 14, 33⟩] (by rw [htab]; rfl) (fun z hz => by cases hz) (by decide) (by decide) (hcw _ (List.mem_of_getElem? (i := 0) rfl)) (mm_cd_at rfl (State.WarmedH.refl s) (hEX.2.2.1 _ (ml_ca_ok _ (List.mem_of_getElem? (i := 0) rfl)))) hce hcv hcE ?_
        refine lv_astore_n (lv' := [(2, .ref q9), (0, .ref (ad 0)), (1, .ref (ad 54))]) hx hb dL_row_11 rfl hl (by decide) rfl (fun ls hl => ?_)
        refine lv_iconst (v := 1) hx hb dL_row_12 (by decide) ?_
        exact vx_ret (W.iret (v := 1) hx hb hr (fun t ht hW => ⟨⟨1, (r.1, ov), rfl, ⟨rfl, Or.inr ⟨0, by rw [he]; rfl, rfl, rfl⟩⟩, ad', had, by rw [ht]; exact hP, va_K.moved hW.alike hK, hD⟩, hS.F ht⟩) hS.2.2 dL_row_13)
      | 1, hi =>
        have he : r.2.2.2.1 = 2 := (Option.some.inj hi).symm
        rw [he] at hcE
        refine vx_catch (own := RL) (E := mm_exn 2) (name := mm_exn 2) hown [⟨0, 8, 11, 13⟩] ⟨0, 8, 14, 33⟩ [] (by rw [htab]; rfl) (fun z hz => by
          simp only [List.mem_cons, List.not_mem_nil, or_false] at hz
          rcases hz with rfl
          · exact Or.inr ⟨by decide, _, hcw _ (List.mem_of_getElem? (i := 0) rfl), hNC (mm_exn 2, mm_exn 1) (by decide)⟩
          ) (by decide) (by decide) (hcw _ (List.mem_of_getElem? (i := 2) rfl)) (mm_cd_at rfl (State.WarmedH.refl s) (hEX.2.2.1 _ (ml_ca_ok _ (List.mem_of_getElem? (i := 1) rfl)))) hce hcv hcE ?_
        refine lv_astore_n (lv' := [(2, .ref q9), (0, .ref (ad 0)), (1, .ref (ad 54))]) hx hb dL_row_14 rfl hl (by decide) rfl (fun ls hl => ?_)
        refine lv_iconst (v := 2) hx hb dL_row_15 (by decide) ?_
        exact vx_ret (W.iret (v := 2) hx hb hr (fun t ht hW => ⟨⟨2, (r.1, ov), rfl, ⟨rfl, Or.inr ⟨1, by rw [he]; rfl, rfl, rfl⟩⟩, ad', had, by rw [ht]; exact hP, va_K.moved hW.alike hK, hD⟩, hS.F ht⟩) hS.2.2 dL_row_16)
      | i + 2, hi => exact absurd hi (by simp)
set_option maxHeartbeats 4000000 in
set_option maxRecDepth 100000 in
theorem mh_compile (l : Launch) (hst : l.stackTraces = false) (D : va_G) (cy : ClassId × ClassId × ClassId) (ad : Nat → Nat) (ov : Int64) (sz : Nat) (S : Mem) (r : Res) (hr0 : mm_runD 60 95 [.inr 0] S = some r) (hxr : r.2.2.2.1 = 0 ∨ ∃ i : Nat, ([1, 4] : List Nat)[i]? = some r.2.2.2.1) : ml_H l yL_compile cL_compile 3 [(0, 8, 11, 13), (0, 8, 14, 41)] D cy ad ov sz S [.ref (ad 0), .ref (ad 54)] [1, 4] 1 r := by
  refine vx_ofWH (cc := cL_compile) (maxL := 3) (ret := some .int) (hh := [(0, 8, 11, 13), (0, 8, 14, 41)]) (by decide) rfl ?_
  intro p e s m args below meth c s₁ B hml hv
  obtain ⟨rfl, hsz, hP, hK, hD0, hEX, hNC⟩ := hv
  have hx := B.exec
  have hb := B.bytes
  have hr := B.returns
  have hts0 := atoms_spec (ws := .codeWith yL_compile cL_compile 3 (some .int) [(0, 8, 11, 13), (0, 8, 14, 41)] :: mm_ut) B.pre
  have hts : ∀ w ∈ mm_ut, w.before _ s = true := fun w hw => hts0 w (List.mem_cons_of_mem _ hw)
  have htab : c.exceptionTable.toList = tableOf [(0, 8, 11, 13), (0, 8, 14, 41)] := vx_table (x := yL_compile) B (hts0 _ List.mem_cons_self)
  have hcw : ∀ w ∈ ml_cw, w.before _ s = true := fun w hw => hts w (mm_in_ut (ml_cw_ok w hw).1 (ml_cw_ok w hw).2)
  have hown : s.vm.findClass RL = some m.cls := findClass_of_methodNamed B.named
  have hlocks := B.notSynchronized
  subst hsz
  have hD := hD0.self (sz := s.heap.size)
  generalize hAe : va_A (mm_W cy ad ov S) s.heap.size = A at hD hEX ⊢
  have hA : ∀ q : Nat, s.heap.size ≤ q → A q := fun q h => by rw [← hAe]; exact Or.inr h
  have hS : va_S A s.heap s.heap [] := va_S.rf
  have hl := lv_entry ([.ref (ad 0), .ref (ad 54)]) (n := 3) (Nat.le_of_ble_eq_true rfl)
  rw [lg_entry_eq]
  generalize (lg_sl ([.ref (ad 0), .ref (ad 54)]) ++ List.replicate (3 - (lg_sl ([.ref (ad 0), .ref (ad 54)])).length) Slot.unset).toArray = ls at hl ⊢
  have hl : lv_has ls 3 [(0, .ref (ad 0)), (1, .ref (ad 54))] := hl
  refine lv_aload_n hx hb dL_compile_0 rfl (lv_at hl 1 rfl) ?_
  refine lv_iconst (v := 0) hx hb dL_compile_1 (by decide) ?_
  refine lv_aload_n hx hb dL_compile_2 rfl (lv_at hl 0 rfl) ?_
  refine ml_call (as' := []) (b9 := 0) (rest := [.int 0, .ref (ad 54)]) (y := 95) hx hb hml hown hts hK hEX hA (ml_con hst hr0 rfl) rfl (mm_in_ut (mh_w_ok _ (List.mem_of_getElem? (i := 6) rfl)).1 (mh_w_ok _ (List.mem_of_getElem? (i := 6) rfl)).2) rfl rfl hP hD hS hl.1 (Nat.le_of_ble_eq_true rfl) dL_compile_3 ⟨by show 0 + r.2.1 ≤ r.2.1; omega, by show 0 + r.2.2.1 ≤ r.2.2.1; omega⟩ ⟨(Nat.le_of_ble_eq_true rfl), (Nat.le_of_ble_eq_true rfl)⟩ (fun h0 ad' H1 locs1 had hP hD hS => ?_) (fun h0 ad' H1 locs1 q9 ce had hP hD hS hce hcv hcE => ?_)
  · refine W.widen (k := r.2.1) (n := r.2.2.1) (by omega) (by omega) ?_
    have e54 : ad' 54 = ad 54 := had 54 (by decide)
    refine W.eq (g2 := F0 m 6 ls [.int r.2.2.2.2, .int 0, .ref (ad' 54)]) (by rw [e54]; rfl) ?_
    have hDk := hD
    refine lv_i2l (v := r.2.2.2.2.toInt64) hx hb dL_compile_6 rfl ?_
    refine va_last (D := D) (x := r.2.2.2.2.toInt64) hx hb hK hP hD hS 54 2 ml_e54 rfl (show vp_in 0 1 by unfold vp_in; decide) dL_compile_7 (fun H2 locs2 hP hD hS => ?_)
    have hP := ml_P54 rfl hP
    have hD := hDk
    refine lv_goto (tgt := 17) hx hb dL_compile_8 (by decide) ?_
    refine lv_iconst (v := 0) hx hb dL_compile_17 (by decide) ?_
    exact vx_ret (W.iret (v := 0) hx hb hr (fun t ht hW => ⟨⟨0, (r.1, r.2.2.2.2.toInt64), rfl, ⟨rfl, Or.inl ⟨h0, rfl, rfl⟩⟩, ad', had, by rw [ht]; exact hP, va_K.moved hW.alike hK, ml_D hD⟩, hS.F ht⟩) hS.2.2 dL_compile_18)
  · refine vx_widen (k := r.2.1) (n := r.2.2.1) (by omega) (by omega) ?_
    rcases hxr with hz | ⟨i, hi⟩
    · exact absurd hz h0
    · match i, hi with
      | 0, hi =>
        have he : r.2.2.2.1 = 1 := (Option.some.inj hi).symm
        rw [he] at hcE
        refine vx_catch (own := RL) (E := mm_exn 1) (name := mm_exn 1) hown [] ⟨0, 8, 11, 13⟩ [⟨0, 8, 14, 41⟩] (by rw [htab]; rfl) (fun z hz => by cases hz) (by decide) (by decide) (hcw _ (List.mem_of_getElem? (i := 0) rfl)) (mm_cd_at rfl (State.WarmedH.refl s) (hEX.2.2.1 _ (ml_ca_ok _ (List.mem_of_getElem? (i := 0) rfl)))) hce hcv hcE ?_
        refine lv_astore_n (lv' := [(2, .ref q9), (0, .ref (ad 0)), (1, .ref (ad 54))]) hx hb dL_compile_11 rfl hl (by decide) rfl (fun ls hl => ?_)
        refine lv_iconst (v := 1) hx hb dL_compile_12 (by decide) ?_
        exact vx_ret (W.iret (v := 1) hx hb hr (fun t ht hW => ⟨⟨1, (r.1, ov), rfl, ⟨rfl, Or.inr ⟨0, by rw [he]; rfl, rfl, rfl⟩⟩, ad', had, by rw [ht]; exact hP, va_K.moved hW.alike hK, hD⟩, hS.F ht⟩) hS.2.2 dL_compile_13)
      | 1, hi =>
        have he : r.2.2.2.1 = 4 := (Option.some.inj hi).symm
        rw [he] at hcE
        refine vx_catch (own := RL) (E := mm_exn 4) (name := mm_exn 4) hown [⟨0, 8, 11, 13⟩] ⟨0, 8, 14, 41⟩ [] (by rw [htab]; rfl) (fun z hz => by
          simp only [List.mem_cons, List.not_mem_nil, or_false] at hz
          rcases hz with rfl
          · exact Or.inr ⟨by decide, _, hcw _ (List.mem_of_getElem? (i := 0) rfl), hNC (mm_exn 4, mm_exn 1) (by decide)⟩
          ) (by decide) (by decide) (hcw _ (List.mem_of_getElem? (i := 3) rfl)) (mm_cd_at rfl (State.WarmedH.refl s) (hEX.2.2.1 _ (ml_ca_ok _ (List.mem_of_getElem? (i := 3) rfl)))) hce hcv hcE ?_
        refine lv_astore_n (lv' := [(2, .ref q9), (0, .ref (ad 0)), (1, .ref (ad 54))]) hx hb dL_compile_14 rfl hl (by decide) rfl (fun ls hl => ?_)
        refine lv_iconst (v := 2) hx hb dL_compile_15 (by decide) ?_
        exact vx_ret (W.iret (v := 2) hx hb hr (fun t ht hW => ⟨⟨2, (r.1, ov), rfl, ⟨rfl, Or.inr ⟨1, by rw [he]; rfl, rfl, rfl⟩⟩, ad', had, by rw [ht]; exact hP, va_K.moved hW.alike hK, hD⟩, hS.F ht⟩) hS.2.2 dL_compile_16)
      | i + 2, hi => exact absurd hi (by simp)
set_option maxHeartbeats 4000000 in
set_option maxRecDepth 100000 in
theorem mh_node (l : Launch) (hst : l.stackTraces = false) (D : va_G) (cy : ClassId × ClassId × ClassId) (ad : Nat → Nat) (ov : Int64) (sz : Nat) (S : Mem) (x1 : Int32) (x2 : Int32) (r : Res) (hr0 : mm_runD 60 96 [.inr 0, .inl x1, .inl x2] S = some r) (hxr : r.2.2.2.1 = 0 ∨ ∃ i : Nat, ([5] : List Nat)[i]? = some r.2.2.2.1) : ml_H l yL_node cL_node 5 [(0, 10, 13, 47)] D cy ad ov sz S [.ref (ad 0), .int x1, .int x2, .ref (ad 54)] [5] 1 r := by
  refine vx_ofWH (cc := cL_node) (maxL := 5) (ret := some .int) (hh := [(0, 10, 13, 47)]) (by decide) rfl ?_
  intro p e s m args below meth c s₁ B hml hv
  obtain ⟨rfl, hsz, hP, hK, hD0, hEX, hNC⟩ := hv
  have hx := B.exec
  have hb := B.bytes
  have hr := B.returns
  have hts0 := atoms_spec (ws := .codeWith yL_node cL_node 5 (some .int) [(0, 10, 13, 47)] :: mm_ut) B.pre
  have hts : ∀ w ∈ mm_ut, w.before _ s = true := fun w hw => hts0 w (List.mem_cons_of_mem _ hw)
  have htab : c.exceptionTable.toList = tableOf [(0, 10, 13, 47)] := vx_table (x := yL_node) B (hts0 _ List.mem_cons_self)
  have hcw : ∀ w ∈ ml_cw, w.before _ s = true := fun w hw => hts w (mm_in_ut (ml_cw_ok w hw).1 (ml_cw_ok w hw).2)
  have hown : s.vm.findClass RL = some m.cls := findClass_of_methodNamed B.named
  have hlocks := B.notSynchronized
  subst hsz
  have hD := hD0.self (sz := s.heap.size)
  generalize hAe : va_A (mm_W cy ad ov S) s.heap.size = A at hD hEX ⊢
  have hA : ∀ q : Nat, s.heap.size ≤ q → A q := fun q h => by rw [← hAe]; exact Or.inr h
  have hS : va_S A s.heap s.heap [] := va_S.rf
  have hl := lv_entry ([.ref (ad 0), .int x1, .int x2, .ref (ad 54)]) (n := 5) (Nat.le_of_ble_eq_true rfl)
  rw [lg_entry_eq]
  generalize (lg_sl ([.ref (ad 0), .int x1, .int x2, .ref (ad 54)]) ++ List.replicate (5 - (lg_sl ([.ref (ad 0), .int x1, .int x2, .ref (ad 54)])).length) Slot.unset).toArray = ls at hl ⊢
  have hl : lv_has ls 5 [(0, .ref (ad 0)), (1, .int x1), (2, .int x2), (3, .ref (ad 54))] := hl
  refine lv_aload_n hx hb dL_node_0 rfl (lv_at hl 3 rfl) ?_
  refine lv_iconst (v := 0) hx hb dL_node_1 (by decide) ?_
  refine lv_aload_n hx hb dL_node_2 rfl (lv_at hl 0 rfl) ?_
  refine lv_iload_n hx hb dL_node_3 rfl (lv_at hl 1 rfl) ?_
  refine lv_iload_n hx hb dL_node_4 rfl (lv_at hl 2 rfl) ?_
  refine ml_call (as' := [.inl x1, .inl x2]) (b9 := 0) (rest := [.int 0, .ref (ad 54)]) (y := 96) hx hb hml hown hts hK hEX hA (ml_con hst hr0 rfl) rfl (mm_in_ut (mh_w_ok _ (List.mem_of_getElem? (i := 7) rfl)).1 (mh_w_ok _ (List.mem_of_getElem? (i := 7) rfl)).2) rfl rfl hP hD hS hl.1 (Nat.le_of_ble_eq_true rfl) dL_node_5 ⟨by show 0 + r.2.1 ≤ r.2.1; omega, by show 0 + r.2.2.1 ≤ r.2.2.1; omega⟩ ⟨(Nat.le_of_ble_eq_true rfl), (Nat.le_of_ble_eq_true rfl)⟩ (fun h0 ad' H1 locs1 had hP hD hS => ?_) (fun h0 ad' H1 locs1 q9 ce had hP hD hS hce hcv hcE => ?_)
  · refine W.widen (k := r.2.1) (n := r.2.2.1) (by omega) (by omega) ?_
    have e54 : ad' 54 = ad 54 := had 54 (by decide)
    refine W.eq (g2 := F0 m 8 ls [.int r.2.2.2.2, .int 0, .ref (ad' 54)]) (by rw [e54]; rfl) ?_
    have hDk := hD
    refine lv_i2l (v := r.2.2.2.2.toInt64) hx hb dL_node_8 rfl ?_
    refine va_last (D := D) (x := r.2.2.2.2.toInt64) hx hb hK hP hD hS 54 2 ml_e54 rfl (show vp_in 0 1 by unfold vp_in; decide) dL_node_9 (fun H2 locs2 hP hD hS => ?_)
    have hP := ml_P54 rfl hP
    have hD := hDk
    refine lv_goto (tgt := 17) hx hb dL_node_10 (by decide) ?_
    refine lv_iconst (v := 0) hx hb dL_node_17 (by decide) ?_
    exact vx_ret (W.iret (v := 0) hx hb hr (fun t ht hW => ⟨⟨0, (r.1, r.2.2.2.2.toInt64), rfl, ⟨rfl, Or.inl ⟨h0, rfl, rfl⟩⟩, ad', had, by rw [ht]; exact hP, va_K.moved hW.alike hK, ml_D hD⟩, hS.F ht⟩) hS.2.2 dL_node_18)
  · refine vx_widen (k := r.2.1) (n := r.2.2.1) (by omega) (by omega) ?_
    rcases hxr with hz | ⟨i, hi⟩
    · exact absurd hz h0
    · match i, hi with
      | 0, hi =>
        have he : r.2.2.2.1 = 5 := (Option.some.inj hi).symm
        rw [he] at hcE
        refine vx_catch (own := RL) (E := mm_exn 5) (name := mm_exn 5) hown [] ⟨0, 10, 13, 47⟩ [] (by rw [htab]; rfl) (fun z hz => by cases hz) (by decide) (by decide) (hcw _ (List.mem_of_getElem? (i := 4) rfl)) (mm_cd_at rfl (State.WarmedH.refl s) (hEX.2.2.1 _ (ml_ca_ok _ (List.mem_of_getElem? (i := 4) rfl)))) hce hcv hcE ?_
        refine lv_astore (lv' := [(4, .ref q9), (0, .ref (ad 0)), (1, .int x1), (2, .int x2), (3, .ref (ad 54))]) hx hb dL_node_13 hl (by decide) rfl (fun ls hl => ?_)
        refine lv_iconst (v := 1) hx hb dL_node_15 (by decide) ?_
        exact vx_ret (W.iret (v := 1) hx hb hr (fun t ht hW => ⟨⟨1, (r.1, ov), rfl, ⟨rfl, Or.inr ⟨0, by rw [he]; rfl, rfl, rfl⟩⟩, ad', had, by rw [ht]; exact hP, va_K.moved hW.alike hK, hD⟩, hS.F ht⟩) hS.2.2 dL_node_16)
      | i + 1, hi => exact absurd hi (by simp)
set_option maxHeartbeats 4000000 in
set_option maxRecDepth 100000 in
theorem mh_missingSign (l : Launch) (hst : l.stackTraces = false) (D : va_G) (cy : ClassId × ClassId × ClassId) (ad : Nat → Nat) (ov : Int64) (sz : Nat) (S : Mem) (x1 : Int32) (x2 : Int32) (r : Res) (hr0 : mm_runD 60 98 [.inr 0, .inl x1, .inl x2] S = some r) (hxr : r.2.2.2.1 = 0 ∨ ∃ i : Nat, ([5] : List Nat)[i]? = some r.2.2.2.1) : ml_H l yL_missingSign cL_missingSign 5 [(0, 10, 13, 47)] D cy ad ov sz S [.ref (ad 0), .int x1, .int x2, .ref (ad 54)] [5] 1 r := by
  refine vx_ofWH (cc := cL_missingSign) (maxL := 5) (ret := some .int) (hh := [(0, 10, 13, 47)]) (by decide) rfl ?_
  intro p e s m args below meth c s₁ B hml hv
  obtain ⟨rfl, hsz, hP, hK, hD0, hEX, hNC⟩ := hv
  have hx := B.exec
  have hb := B.bytes
  have hr := B.returns
  have hts0 := atoms_spec (ws := .codeWith yL_missingSign cL_missingSign 5 (some .int) [(0, 10, 13, 47)] :: mm_ut) B.pre
  have hts : ∀ w ∈ mm_ut, w.before _ s = true := fun w hw => hts0 w (List.mem_cons_of_mem _ hw)
  have htab : c.exceptionTable.toList = tableOf [(0, 10, 13, 47)] := vx_table (x := yL_missingSign) B (hts0 _ List.mem_cons_self)
  have hcw : ∀ w ∈ ml_cw, w.before _ s = true := fun w hw => hts w (mm_in_ut (ml_cw_ok w hw).1 (ml_cw_ok w hw).2)
  have hown : s.vm.findClass RL = some m.cls := findClass_of_methodNamed B.named
  have hlocks := B.notSynchronized
  subst hsz
  have hD := hD0.self (sz := s.heap.size)
  generalize hAe : va_A (mm_W cy ad ov S) s.heap.size = A at hD hEX ⊢
  have hA : ∀ q : Nat, s.heap.size ≤ q → A q := fun q h => by rw [← hAe]; exact Or.inr h
  have hS : va_S A s.heap s.heap [] := va_S.rf
  have hl := lv_entry ([.ref (ad 0), .int x1, .int x2, .ref (ad 54)]) (n := 5) (Nat.le_of_ble_eq_true rfl)
  rw [lg_entry_eq]
  generalize (lg_sl ([.ref (ad 0), .int x1, .int x2, .ref (ad 54)]) ++ List.replicate (5 - (lg_sl ([.ref (ad 0), .int x1, .int x2, .ref (ad 54)])).length) Slot.unset).toArray = ls at hl ⊢
  have hl : lv_has ls 5 [(0, .ref (ad 0)), (1, .int x1), (2, .int x2), (3, .ref (ad 54))] := hl
  refine lv_aload_n hx hb dL_missingSign_0 rfl (lv_at hl 3 rfl) ?_
  refine lv_iconst (v := 0) hx hb dL_missingSign_1 (by decide) ?_
  refine lv_aload_n hx hb dL_missingSign_2 rfl (lv_at hl 0 rfl) ?_
  refine lv_iload_n hx hb dL_missingSign_3 rfl (lv_at hl 1 rfl) ?_
  refine lv_iload_n hx hb dL_missingSign_4 rfl (lv_at hl 2 rfl) ?_
  refine ml_call (as' := [.inl x1, .inl x2]) (b9 := 0) (rest := [.int 0, .ref (ad 54)]) (y := 98) hx hb hml hown hts hK hEX hA (ml_con hst hr0 rfl) rfl (mm_in_ut (mh_w_ok _ (List.mem_of_getElem? (i := 8) rfl)).1 (mh_w_ok _ (List.mem_of_getElem? (i := 8) rfl)).2) rfl rfl hP hD hS hl.1 (Nat.le_of_ble_eq_true rfl) dL_missingSign_5 ⟨by show 0 + r.2.1 ≤ r.2.1; omega, by show 0 + r.2.2.1 ≤ r.2.2.1; omega⟩ ⟨(Nat.le_of_ble_eq_true rfl), (Nat.le_of_ble_eq_true rfl)⟩ (fun h0 ad' H1 locs1 had hP hD hS => ?_) (fun h0 ad' H1 locs1 q9 ce had hP hD hS hce hcv hcE => ?_)
  · refine W.widen (k := r.2.1) (n := r.2.2.1) (by omega) (by omega) ?_
    have e54 : ad' 54 = ad 54 := had 54 (by decide)
    refine W.eq (g2 := F0 m 8 ls [.int r.2.2.2.2, .int 0, .ref (ad' 54)]) (by rw [e54]; rfl) ?_
    have hDk := hD
    refine lv_i2l (v := r.2.2.2.2.toInt64) hx hb dL_missingSign_8 rfl ?_
    refine va_last (D := D) (x := r.2.2.2.2.toInt64) hx hb hK hP hD hS 54 2 ml_e54 rfl (show vp_in 0 1 by unfold vp_in; decide) dL_missingSign_9 (fun H2 locs2 hP hD hS => ?_)
    have hP := ml_P54 rfl hP
    have hD := hDk
    refine lv_goto (tgt := 17) hx hb dL_missingSign_10 (by decide) ?_
    refine lv_iconst (v := 0) hx hb dL_missingSign_17 (by decide) ?_
    exact vx_ret (W.iret (v := 0) hx hb hr (fun t ht hW => ⟨⟨0, (r.1, r.2.2.2.2.toInt64), rfl, ⟨rfl, Or.inl ⟨h0, rfl, rfl⟩⟩, ad', had, by rw [ht]; exact hP, va_K.moved hW.alike hK, ml_D hD⟩, hS.F ht⟩) hS.2.2 dL_missingSign_18)
  · refine vx_widen (k := r.2.1) (n := r.2.2.1) (by omega) (by omega) ?_
    rcases hxr with hz | ⟨i, hi⟩
    · exact absurd hz h0
    · match i, hi with
      | 0, hi =>
        have he : r.2.2.2.1 = 5 := (Option.some.inj hi).symm
        rw [he] at hcE
        refine vx_catch (own := RL) (E := mm_exn 5) (name := mm_exn 5) hown [] ⟨0, 10, 13, 47⟩ [] (by rw [htab]; rfl) (fun z hz => by cases hz) (by decide) (by decide) (hcw _ (List.mem_of_getElem? (i := 4) rfl)) (mm_cd_at rfl (State.WarmedH.refl s) (hEX.2.2.1 _ (ml_ca_ok _ (List.mem_of_getElem? (i := 4) rfl)))) hce hcv hcE ?_
        refine lv_astore (lv' := [(4, .ref q9), (0, .ref (ad 0)), (1, .int x1), (2, .int x2), (3, .ref (ad 54))]) hx hb dL_missingSign_13 hl (by decide) rfl (fun ls hl => ?_)
        refine lv_iconst (v := 1) hx hb dL_missingSign_15 (by decide) ?_
        exact vx_ret (W.iret (v := 1) hx hb hr (fun t ht hW => ⟨⟨1, (r.1, ov), rfl, ⟨rfl, Or.inr ⟨0, by rw [he]; rfl, rfl, rfl⟩⟩, ad', had, by rw [ht]; exact hP, va_K.moved hW.alike hK, hD⟩, hS.F ht⟩) hS.2.2 dL_missingSign_16)
      | i + 1, hi => exact absurd hi (by simp)
set_option maxHeartbeats 4000000 in
set_option maxRecDepth 100000 in
theorem mh_isIdle (l : Launch) (hst : l.stackTraces = false) (D : va_G) (cy : ClassId × ClassId × ClassId) (ad : Nat → Nat) (ov : Int64) (sz : Nat) (S : Mem) (x1 : Int32) (r : Res) (hr0 : mm_runD 60 99 [.inr 0, .inl x1] S = some r) (hxr : r.2.2.2.1 = 0 ∨ ∃ i : Nat, ([5] : List Nat)[i]? = some r.2.2.2.1) : ml_H l yL_isIdle cL_isIdle 4 [(0, 16, 19, 47)] D cy ad ov sz S [.ref (ad 0), .int x1, .ref (ad 54)] [5] 2 r := by
  refine vx_ofWH (cc := cL_isIdle) (maxL := 4) (ret := some .int) (hh := [(0, 16, 19, 47)]) (by decide) rfl ?_
  intro p e s m args below meth c s₁ B hml hv
  obtain ⟨rfl, hsz, hP, hK, hD0, hEX, hNC⟩ := hv
  have hx := B.exec
  have hb := B.bytes
  have hr := B.returns
  have hts0 := atoms_spec (ws := .codeWith yL_isIdle cL_isIdle 4 (some .int) [(0, 16, 19, 47)] :: mm_ut) B.pre
  have hts : ∀ w ∈ mm_ut, w.before _ s = true := fun w hw => hts0 w (List.mem_cons_of_mem _ hw)
  have htab : c.exceptionTable.toList = tableOf [(0, 16, 19, 47)] := vx_table (x := yL_isIdle) B (hts0 _ List.mem_cons_self)
  have hcw : ∀ w ∈ ml_cw, w.before _ s = true := fun w hw => hts w (mm_in_ut (ml_cw_ok w hw).1 (ml_cw_ok w hw).2)
  have hown : s.vm.findClass RL = some m.cls := findClass_of_methodNamed B.named
  have hlocks := B.notSynchronized
  subst hsz
  have hD := hD0.self (sz := s.heap.size)
  generalize hAe : va_A (mm_W cy ad ov S) s.heap.size = A at hD hEX ⊢
  have hA : ∀ q : Nat, s.heap.size ≤ q → A q := fun q h => by rw [← hAe]; exact Or.inr h
  have hS : va_S A s.heap s.heap [] := va_S.rf
  have hl := lv_entry ([.ref (ad 0), .int x1, .ref (ad 54)]) (n := 4) (Nat.le_of_ble_eq_true rfl)
  rw [lg_entry_eq]
  generalize (lg_sl ([.ref (ad 0), .int x1, .ref (ad 54)]) ++ List.replicate (4 - (lg_sl ([.ref (ad 0), .int x1, .ref (ad 54)])).length) Slot.unset).toArray = ls at hl ⊢
  have hl : lv_has ls 4 [(0, .ref (ad 0)), (1, .int x1), (2, .ref (ad 54))] := hl
  refine lv_aload_n hx hb dL_isIdle_0 rfl (lv_at hl 2 rfl) ?_
  refine lv_iconst (v := 0) hx hb dL_isIdle_1 (by decide) ?_
  refine lv_aload_n hx hb dL_isIdle_2 rfl (lv_at hl 0 rfl) ?_
  refine lv_iload_n hx hb dL_isIdle_3 rfl (lv_at hl 1 rfl) ?_
  refine ml_call (as' := [.inl x1]) (b9 := 0) (rest := [.int 0, .ref (ad 54)]) (y := 99) hx hb hml hown hts hK hEX hA (ml_con hst hr0 rfl) rfl (mm_in_ut (mh_w_ok _ (List.mem_of_getElem? (i := 9) rfl)).1 (mh_w_ok _ (List.mem_of_getElem? (i := 9) rfl)).2) rfl rfl hP hD hS hl.1 (Nat.le_of_ble_eq_true rfl) dL_isIdle_4 ⟨by show 0 + r.2.1 ≤ r.2.1; omega, by show 0 + r.2.2.1 ≤ r.2.2.1; omega⟩ ⟨(Nat.le_of_ble_eq_true rfl), (Nat.le_of_ble_eq_true rfl)⟩ (fun h0 ad' H1 locs1 had hP hD hS => ?_) (fun h0 ad' H1 locs1 q9 ce had hP hD hS hce hcv hcE => ?_)
  · refine W.widen (k := r.2.1) (n := r.2.2.1) (by omega) (by omega) ?_
    have e54 : ad' 54 = ad 54 := had 54 (by decide)
    refine W.eq (g2 := F0 m 7 ls [.int r.2.2.2.2, .int 0, .ref (ad' 54)]) (by rw [e54]; rfl) ?_
    have hDk := hD
    refine lv_if_eq (tgt := 14) hx hb dL_isIdle_7 (by decide) (fun z0 => ?_) (fun z0 => ?_)
    · refine lv_lconst (v := 0) hx hb dL_isIdle_14 (by decide) ?_
      refine va_last (D := D) (x := 0) hx hb hK hP hD hS 54 2 ml_e54 rfl (show vp_in 0 1 by unfold vp_in; decide) dL_isIdle_15 (fun H2 locs2 hP hD hS => ?_)
      have hP := ml_P54 rfl hP
      have hD := hDk
      refine lv_goto (tgt := 22) hx hb dL_isIdle_16 (by decide) ?_
      refine lv_iconst (v := 0) hx hb dL_isIdle_22 (by decide) ?_
      exact vx_ret (W.iret (v := 0) hx hb hr (fun t ht hW => ⟨⟨0, (r.1, 0), rfl, ⟨rfl, Or.inl ⟨h0, rfl, (show (0 : Int64) = ml_o 2 ov r.2.2.2.2 by unfold ml_o; rw [if_neg (by decide), if_pos rfl, if_pos z0])⟩⟩, ad', had, by rw [ht]; exact hP, va_K.moved hW.alike hK, ml_D hD⟩, hS.F ht⟩) hS.2.2 dL_isIdle_23)
    · refine lv_lconst (v := 1) hx hb dL_isIdle_10 (by decide) ?_
      refine lv_goto (tgt := 15) hx hb dL_isIdle_11 (by decide) ?_
      refine va_last (D := D) (x := 1) hx hb hK hP hD hS 54 2 ml_e54 rfl (show vp_in 0 1 by unfold vp_in; decide) dL_isIdle_15 (fun H2 locs2 hP hD hS => ?_)
      have hP := ml_P54 rfl hP
      have hD := hDk
      refine lv_goto (tgt := 22) hx hb dL_isIdle_16 (by decide) ?_
      refine lv_iconst (v := 0) hx hb dL_isIdle_22 (by decide) ?_
      exact vx_ret (W.iret (v := 0) hx hb hr (fun t ht hW => ⟨⟨0, (r.1, 1), rfl, ⟨rfl, Or.inl ⟨h0, rfl, (show (1 : Int64) = ml_o 2 ov r.2.2.2.2 by unfold ml_o; rw [if_neg (by decide), if_pos rfl, if_neg z0])⟩⟩, ad', had, by rw [ht]; exact hP, va_K.moved hW.alike hK, ml_D hD⟩, hS.F ht⟩) hS.2.2 dL_isIdle_23)
  · refine vx_widen (k := r.2.1) (n := r.2.2.1) (by omega) (by omega) ?_
    rcases hxr with hz | ⟨i, hi⟩
    · exact absurd hz h0
    · match i, hi with
      | 0, hi =>
        have he : r.2.2.2.1 = 5 := (Option.some.inj hi).symm
        rw [he] at hcE
        refine vx_catch (own := RL) (E := mm_exn 5) (name := mm_exn 5) hown [] ⟨0, 16, 19, 47⟩ [] (by rw [htab]; rfl) (fun z hz => by cases hz) (by decide) (by decide) (hcw _ (List.mem_of_getElem? (i := 4) rfl)) (mm_cd_at rfl (State.WarmedH.refl s) (hEX.2.2.1 _ (ml_ca_ok _ (List.mem_of_getElem? (i := 4) rfl)))) hce hcv hcE ?_
        refine lv_astore_n (lv' := [(3, .ref q9), (0, .ref (ad 0)), (1, .int x1), (2, .ref (ad 54))]) hx hb dL_isIdle_19 rfl hl (by decide) rfl (fun ls hl => ?_)
        refine lv_iconst (v := 1) hx hb dL_isIdle_20 (by decide) ?_
        exact vx_ret (W.iret (v := 1) hx hb hr (fun t ht hW => ⟨⟨1, (r.1, ov), rfl, ⟨rfl, Or.inr ⟨0, by rw [he]; rfl, rfl, rfl⟩⟩, ad', had, by rw [ht]; exact hP, va_K.moved hW.alike hK, hD⟩, hS.F ht⟩) hS.2.2 dL_isIdle_21)
      | i + 1, hi => exact absurd hi (by simp)
set_option maxHeartbeats 4000000 in
set_option maxRecDepth 100000 in
theorem mh_give (l : Launch) (hst : l.stackTraces = false) (D : va_G) (cy : ClassId × ClassId × ClassId) (ad : Nat → Nat) (ov : Int64) (sz : Nat) (S : Mem) (x1 : Int32) (r : Res) (hr0 : mm_runD 60 100 [.inr 0, .inl x1] S = some r) (hxr : r.2.2.2.1 = 0 ∨ ∃ i : Nat, ([1, 2] : List Nat)[i]? = some r.2.2.2.1) : ml_H l yL_give cL_give 4 [(0, 9, 12, 13), (0, 9, 15, 33)] D cy ad ov sz S [.ref (ad 0), .int x1, .ref (ad 54)] [1, 2] 1 r := by
  refine vx_ofWH (cc := cL_give) (maxL := 4) (ret := some .int) (hh := [(0, 9, 12, 13), (0, 9, 15, 33)]) (by decide) rfl ?_
  intro p e s m args below meth c s₁ B hml hv
  obtain ⟨rfl, hsz, hP, hK, hD0, hEX, hNC⟩ := hv
  have hx := B.exec
  have hb := B.bytes
  have hr := B.returns
  have hts0 := atoms_spec (ws := .codeWith yL_give cL_give 4 (some .int) [(0, 9, 12, 13), (0, 9, 15, 33)] :: mm_ut) B.pre
  have hts : ∀ w ∈ mm_ut, w.before _ s = true := fun w hw => hts0 w (List.mem_cons_of_mem _ hw)
  have htab : c.exceptionTable.toList = tableOf [(0, 9, 12, 13), (0, 9, 15, 33)] := vx_table (x := yL_give) B (hts0 _ List.mem_cons_self)
  have hcw : ∀ w ∈ ml_cw, w.before _ s = true := fun w hw => hts w (mm_in_ut (ml_cw_ok w hw).1 (ml_cw_ok w hw).2)
  have hown : s.vm.findClass RL = some m.cls := findClass_of_methodNamed B.named
  have hlocks := B.notSynchronized
  subst hsz
  have hD := hD0.self (sz := s.heap.size)
  generalize hAe : va_A (mm_W cy ad ov S) s.heap.size = A at hD hEX ⊢
  have hA : ∀ q : Nat, s.heap.size ≤ q → A q := fun q h => by rw [← hAe]; exact Or.inr h
  have hS : va_S A s.heap s.heap [] := va_S.rf
  have hl := lv_entry ([.ref (ad 0), .int x1, .ref (ad 54)]) (n := 4) (Nat.le_of_ble_eq_true rfl)
  rw [lg_entry_eq]
  generalize (lg_sl ([.ref (ad 0), .int x1, .ref (ad 54)]) ++ List.replicate (4 - (lg_sl ([.ref (ad 0), .int x1, .ref (ad 54)])).length) Slot.unset).toArray = ls at hl ⊢
  have hl : lv_has ls 4 [(0, .ref (ad 0)), (1, .int x1), (2, .ref (ad 54))] := hl
  refine lv_aload_n hx hb dL_give_0 rfl (lv_at hl 2 rfl) ?_
  refine lv_iconst (v := 0) hx hb dL_give_1 (by decide) ?_
  refine lv_aload_n hx hb dL_give_2 rfl (lv_at hl 0 rfl) ?_
  refine lv_iload_n hx hb dL_give_3 rfl (lv_at hl 1 rfl) ?_
  refine ml_call (as' := [.inl x1]) (b9 := 0) (rest := [.int 0, .ref (ad 54)]) (y := 100) hx hb hml hown hts hK hEX hA (ml_con hst hr0 rfl) rfl (mm_in_ut (mh_w_ok _ (List.mem_of_getElem? (i := 10) rfl)).1 (mh_w_ok _ (List.mem_of_getElem? (i := 10) rfl)).2) rfl rfl hP hD hS hl.1 (Nat.le_of_ble_eq_true rfl) dL_give_4 ⟨by show 0 + r.2.1 ≤ r.2.1; omega, by show 0 + r.2.2.1 ≤ r.2.2.1; omega⟩ ⟨(Nat.le_of_ble_eq_true rfl), (Nat.le_of_ble_eq_true rfl)⟩ (fun h0 ad' H1 locs1 had hP hD hS => ?_) (fun h0 ad' H1 locs1 q9 ce had hP hD hS hce hcv hcE => ?_)
  · refine W.widen (k := r.2.1) (n := r.2.2.1) (by omega) (by omega) ?_
    have e54 : ad' 54 = ad 54 := had 54 (by decide)
    refine W.eq (g2 := F0 m 7 ls [.int r.2.2.2.2, .int 0, .ref (ad' 54)]) (by rw [e54]; rfl) ?_
    have hDk := hD
    refine lv_i2l (v := r.2.2.2.2.toInt64) hx hb dL_give_7 rfl ?_
    refine va_last (D := D) (x := r.2.2.2.2.toInt64) hx hb hK hP hD hS 54 2 ml_e54 rfl (show vp_in 0 1 by unfold vp_in; decide) dL_give_8 (fun H2 locs2 hP hD hS => ?_)
    have hP := ml_P54 rfl hP
    have hD := hDk
    refine lv_goto (tgt := 18) hx hb dL_give_9 (by decide) ?_
    refine lv_iconst (v := 0) hx hb dL_give_18 (by decide) ?_
    exact vx_ret (W.iret (v := 0) hx hb hr (fun t ht hW => ⟨⟨0, (r.1, r.2.2.2.2.toInt64), rfl, ⟨rfl, Or.inl ⟨h0, rfl, rfl⟩⟩, ad', had, by rw [ht]; exact hP, va_K.moved hW.alike hK, ml_D hD⟩, hS.F ht⟩) hS.2.2 dL_give_19)
  · refine vx_widen (k := r.2.1) (n := r.2.2.1) (by omega) (by omega) ?_
    rcases hxr with hz | ⟨i, hi⟩
    · exact absurd hz h0
    · match i, hi with
      | 0, hi =>
        have he : r.2.2.2.1 = 1 := (Option.some.inj hi).symm
        rw [he] at hcE
        refine vx_catch (own := RL) (E := mm_exn 1) (name := mm_exn 1) hown [] ⟨0, 9, 12, 13⟩ [⟨0, 9, 15, 33⟩] (by rw [htab]; rfl) (fun z hz => by cases hz) (by decide) (by decide) (hcw _ (List.mem_of_getElem? (i := 0) rfl)) (mm_cd_at rfl (State.WarmedH.refl s) (hEX.2.2.1 _ (ml_ca_ok _ (List.mem_of_getElem? (i := 0) rfl)))) hce hcv hcE ?_
        refine lv_astore_n (lv' := [(3, .ref q9), (0, .ref (ad 0)), (1, .int x1), (2, .ref (ad 54))]) hx hb dL_give_12 rfl hl (by decide) rfl (fun ls hl => ?_)
        refine lv_iconst (v := 1) hx hb dL_give_13 (by decide) ?_
        exact vx_ret (W.iret (v := 1) hx hb hr (fun t ht hW => ⟨⟨1, (r.1, ov), rfl, ⟨rfl, Or.inr ⟨0, by rw [he]; rfl, rfl, rfl⟩⟩, ad', had, by rw [ht]; exact hP, va_K.moved hW.alike hK, hD⟩, hS.F ht⟩) hS.2.2 dL_give_14)
      | 1, hi =>
        have he : r.2.2.2.1 = 2 := (Option.some.inj hi).symm
        rw [he] at hcE
        refine vx_catch (own := RL) (E := mm_exn 2) (name := mm_exn 2) hown [⟨0, 9, 12, 13⟩] ⟨0, 9, 15, 33⟩ [] (by rw [htab]; rfl) (fun z hz => by
          simp only [List.mem_cons, List.not_mem_nil, or_false] at hz
          rcases hz with rfl
          · exact Or.inr ⟨by decide, _, hcw _ (List.mem_of_getElem? (i := 0) rfl), hNC (mm_exn 2, mm_exn 1) (by decide)⟩
          ) (by decide) (by decide) (hcw _ (List.mem_of_getElem? (i := 2) rfl)) (mm_cd_at rfl (State.WarmedH.refl s) (hEX.2.2.1 _ (ml_ca_ok _ (List.mem_of_getElem? (i := 1) rfl)))) hce hcv hcE ?_
        refine lv_astore_n (lv' := [(3, .ref q9), (0, .ref (ad 0)), (1, .int x1), (2, .ref (ad 54))]) hx hb dL_give_15 rfl hl (by decide) rfl (fun ls hl => ?_)
        refine lv_iconst (v := 2) hx hb dL_give_16 (by decide) ?_
        exact vx_ret (W.iret (v := 2) hx hb hr (fun t ht hW => ⟨⟨2, (r.1, ov), rfl, ⟨rfl, Or.inr ⟨1, by rw [he]; rfl, rfl, rfl⟩⟩, ad', had, by rw [ht]; exact hP, va_K.moved hW.alike hK, hD⟩, hS.F ht⟩) hS.2.2 dL_give_17)
      | i + 2, hi => exact absurd hi (by simp)
set_option maxHeartbeats 4000000 in
set_option maxRecDepth 100000 in
theorem mh_answer (l : Launch) (hst : l.stackTraces = false) (D : va_G) (cy : ClassId × ClassId × ClassId) (ad : Nat → Nat) (ov : Int64) (sz : Nat) (S : Mem) (r : Res) (hr0 : mm_runD 60 101 [.inr 0] S = some r) (hxr : r.2.2.2.1 = 0 ∨ ∃ i : Nat, ([1, 2] : List Nat)[i]? = some r.2.2.2.1) : ml_H l yL_answer cL_answer 3 [(0, 8, 11, 13), (0, 8, 14, 33)] D cy ad ov sz S [.ref (ad 0), .ref (ad 54)] [1, 2] 1 r := by
  refine vx_ofWH (cc := cL_answer) (maxL := 3) (ret := some .int) (hh := [(0, 8, 11, 13), (0, 8, 14, 33)]) (by decide) rfl ?_
  intro p e s m args below meth c s₁ B hml hv
  obtain ⟨rfl, hsz, hP, hK, hD0, hEX, hNC⟩ := hv
  have hx := B.exec
  have hb := B.bytes
  have hr := B.returns
  have hts0 := atoms_spec (ws := .codeWith yL_answer cL_answer 3 (some .int) [(0, 8, 11, 13), (0, 8, 14, 33)] :: mm_ut) B.pre
  have hts : ∀ w ∈ mm_ut, w.before _ s = true := fun w hw => hts0 w (List.mem_cons_of_mem _ hw)
  have htab : c.exceptionTable.toList = tableOf [(0, 8, 11, 13), (0, 8, 14, 33)] := vx_table (x := yL_answer) B (hts0 _ List.mem_cons_self)
  have hcw : ∀ w ∈ ml_cw, w.before _ s = true := fun w hw => hts w (mm_in_ut (ml_cw_ok w hw).1 (ml_cw_ok w hw).2)
  have hown : s.vm.findClass RL = some m.cls := findClass_of_methodNamed B.named
  have hlocks := B.notSynchronized
  subst hsz
  have hD := hD0.self (sz := s.heap.size)
  generalize hAe : va_A (mm_W cy ad ov S) s.heap.size = A at hD hEX ⊢
  have hA : ∀ q : Nat, s.heap.size ≤ q → A q := fun q h => by rw [← hAe]; exact Or.inr h
  have hS : va_S A s.heap s.heap [] := va_S.rf
  have hl := lv_entry ([.ref (ad 0), .ref (ad 54)]) (n := 3) (Nat.le_of_ble_eq_true rfl)
  rw [lg_entry_eq]
  generalize (lg_sl ([.ref (ad 0), .ref (ad 54)]) ++ List.replicate (3 - (lg_sl ([.ref (ad 0), .ref (ad 54)])).length) Slot.unset).toArray = ls at hl ⊢
  have hl : lv_has ls 3 [(0, .ref (ad 0)), (1, .ref (ad 54))] := hl
  refine lv_aload_n hx hb dL_answer_0 rfl (lv_at hl 1 rfl) ?_
  refine lv_iconst (v := 0) hx hb dL_answer_1 (by decide) ?_
  refine lv_aload_n hx hb dL_answer_2 rfl (lv_at hl 0 rfl) ?_
  refine ml_call (as' := []) (b9 := 0) (rest := [.int 0, .ref (ad 54)]) (y := 101) hx hb hml hown hts hK hEX hA (ml_con hst hr0 rfl) rfl (mm_in_ut (mh_w_ok _ (List.mem_of_getElem? (i := 11) rfl)).1 (mh_w_ok _ (List.mem_of_getElem? (i := 11) rfl)).2) rfl rfl hP hD hS hl.1 (Nat.le_of_ble_eq_true rfl) dL_answer_3 ⟨by show 0 + r.2.1 ≤ r.2.1; omega, by show 0 + r.2.2.1 ≤ r.2.2.1; omega⟩ ⟨(Nat.le_of_ble_eq_true rfl), (Nat.le_of_ble_eq_true rfl)⟩ (fun h0 ad' H1 locs1 had hP hD hS => ?_) (fun h0 ad' H1 locs1 q9 ce had hP hD hS hce hcv hcE => ?_)
  · refine W.widen (k := r.2.1) (n := r.2.2.1) (by omega) (by omega) ?_
    have e54 : ad' 54 = ad 54 := had 54 (by decide)
    refine W.eq (g2 := F0 m 6 ls [.int r.2.2.2.2, .int 0, .ref (ad' 54)]) (by rw [e54]; rfl) ?_
    have hDk := hD
    refine lv_i2l (v := r.2.2.2.2.toInt64) hx hb dL_answer_6 rfl ?_
    refine va_last (D := D) (x := r.2.2.2.2.toInt64) hx hb hK hP hD hS 54 2 ml_e54 rfl (show vp_in 0 1 by unfold vp_in; decide) dL_answer_7 (fun H2 locs2 hP hD hS => ?_)
    have hP := ml_P54 rfl hP
    have hD := hDk
    refine lv_goto (tgt := 17) hx hb dL_answer_8 (by decide) ?_
    refine lv_iconst (v := 0) hx hb dL_answer_17 (by decide) ?_
    exact vx_ret (W.iret (v := 0) hx hb hr (fun t ht hW => ⟨⟨0, (r.1, r.2.2.2.2.toInt64), rfl, ⟨rfl, Or.inl ⟨h0, rfl, rfl⟩⟩, ad', had, by rw [ht]; exact hP, va_K.moved hW.alike hK, ml_D hD⟩, hS.F ht⟩) hS.2.2 dL_answer_18)
  · refine vx_widen (k := r.2.1) (n := r.2.2.1) (by omega) (by omega) ?_
    rcases hxr with hz | ⟨i, hi⟩
    · exact absurd hz h0
    · match i, hi with
      | 0, hi =>
        have he : r.2.2.2.1 = 1 := (Option.some.inj hi).symm
        rw [he] at hcE
        refine vx_catch (own := RL) (E := mm_exn 1) (name := mm_exn 1) hown [] ⟨0, 8, 11, 13⟩ [⟨0, 8, 14, 33⟩] (by rw [htab]; rfl) (fun z hz => by cases hz) (by decide) (by decide) (hcw _ (List.mem_of_getElem? (i := 0) rfl)) (mm_cd_at rfl (State.WarmedH.refl s) (hEX.2.2.1 _ (ml_ca_ok _ (List.mem_of_getElem? (i := 0) rfl)))) hce hcv hcE ?_
        refine lv_astore_n (lv' := [(2, .ref q9), (0, .ref (ad 0)), (1, .ref (ad 54))]) hx hb dL_answer_11 rfl hl (by decide) rfl (fun ls hl => ?_)
        refine lv_iconst (v := 1) hx hb dL_answer_12 (by decide) ?_
        exact vx_ret (W.iret (v := 1) hx hb hr (fun t ht hW => ⟨⟨1, (r.1, ov), rfl, ⟨rfl, Or.inr ⟨0, by rw [he]; rfl, rfl, rfl⟩⟩, ad', had, by rw [ht]; exact hP, va_K.moved hW.alike hK, hD⟩, hS.F ht⟩) hS.2.2 dL_answer_13)
      | 1, hi =>
        have he : r.2.2.2.1 = 2 := (Option.some.inj hi).symm
        rw [he] at hcE
        refine vx_catch (own := RL) (E := mm_exn 2) (name := mm_exn 2) hown [⟨0, 8, 11, 13⟩] ⟨0, 8, 14, 33⟩ [] (by rw [htab]; rfl) (fun z hz => by
          simp only [List.mem_cons, List.not_mem_nil, or_false] at hz
          rcases hz with rfl
          · exact Or.inr ⟨by decide, _, hcw _ (List.mem_of_getElem? (i := 0) rfl), hNC (mm_exn 2, mm_exn 1) (by decide)⟩
          ) (by decide) (by decide) (hcw _ (List.mem_of_getElem? (i := 2) rfl)) (mm_cd_at rfl (State.WarmedH.refl s) (hEX.2.2.1 _ (ml_ca_ok _ (List.mem_of_getElem? (i := 1) rfl)))) hce hcv hcE ?_
        refine lv_astore_n (lv' := [(2, .ref q9), (0, .ref (ad 0)), (1, .ref (ad 54))]) hx hb dL_answer_14 rfl hl (by decide) rfl (fun ls hl => ?_)
        refine lv_iconst (v := 2) hx hb dL_answer_15 (by decide) ?_
        exact vx_ret (W.iret (v := 2) hx hb hr (fun t ht hW => ⟨⟨2, (r.1, ov), rfl, ⟨rfl, Or.inr ⟨1, by rw [he]; rfl, rfl, rfl⟩⟩, ad', had, by rw [ht]; exact hP, va_K.moved hW.alike hK, hD⟩, hS.F ht⟩) hS.2.2 dL_answer_16)
      | i + 2, hi => exact absurd hi (by simp)
set_option maxHeartbeats 4000000 in
set_option maxRecDepth 100000 in
theorem mh_tests (l : Launch) (hst : l.stackTraces = false) (D : va_G) (cy : ClassId × ClassId × ClassId) (ad : Nat → Nat) (ov : Int64) (sz : Nat) (S : Mem) (r : Res) (hr0 : mm_runD 60 102 [.inr 0] S = some r) (hxr : r.2.2.2.1 = 0 ∨ ∃ i : Nat, ([1, 2, 5] : List Nat)[i]? = some r.2.2.2.1) : ml_H l yL_tests cL_tests 3 [(0, 8, 11, 13), (0, 8, 14, 33), (0, 8, 17, 47)] D cy ad ov sz S [.ref (ad 0), .ref (ad 54)] [1, 2, 5] 1 r := by
  refine vx_ofWH (cc := cL_tests) (maxL := 3) (ret := some .int) (hh := [(0, 8, 11, 13), (0, 8, 14, 33), (0, 8, 17, 47)]) (by decide) rfl ?_
  intro p e s m args below meth c s₁ B hml hv
  obtain ⟨rfl, hsz, hP, hK, hD0, hEX, hNC⟩ := hv
  have hx := B.exec
  have hb := B.bytes
  have hr := B.returns
  have hts0 := atoms_spec (ws := .codeWith yL_tests cL_tests 3 (some .int) [(0, 8, 11, 13), (0, 8, 14, 33), (0, 8, 17, 47)] :: mm_ut) B.pre
  have hts : ∀ w ∈ mm_ut, w.before _ s = true := fun w hw => hts0 w (List.mem_cons_of_mem _ hw)
  have htab : c.exceptionTable.toList = tableOf [(0, 8, 11, 13), (0, 8, 14, 33), (0, 8, 17, 47)] := vx_table (x := yL_tests) B (hts0 _ List.mem_cons_self)
  have hcw : ∀ w ∈ ml_cw, w.before _ s = true := fun w hw => hts w (mm_in_ut (ml_cw_ok w hw).1 (ml_cw_ok w hw).2)
  have hown : s.vm.findClass RL = some m.cls := findClass_of_methodNamed B.named
  have hlocks := B.notSynchronized
  subst hsz
  have hD := hD0.self (sz := s.heap.size)
  generalize hAe : va_A (mm_W cy ad ov S) s.heap.size = A at hD hEX ⊢
  have hA : ∀ q : Nat, s.heap.size ≤ q → A q := fun q h => by rw [← hAe]; exact Or.inr h
  have hS : va_S A s.heap s.heap [] := va_S.rf
  have hl := lv_entry ([.ref (ad 0), .ref (ad 54)]) (n := 3) (Nat.le_of_ble_eq_true rfl)
  rw [lg_entry_eq]
  generalize (lg_sl ([.ref (ad 0), .ref (ad 54)]) ++ List.replicate (3 - (lg_sl ([.ref (ad 0), .ref (ad 54)])).length) Slot.unset).toArray = ls at hl ⊢
  have hl : lv_has ls 3 [(0, .ref (ad 0)), (1, .ref (ad 54))] := hl
  refine lv_aload_n hx hb dL_tests_0 rfl (lv_at hl 1 rfl) ?_
  refine lv_iconst (v := 0) hx hb dL_tests_1 (by decide) ?_
  refine lv_aload_n hx hb dL_tests_2 rfl (lv_at hl 0 rfl) ?_
  refine ml_call (as' := []) (b9 := 0) (rest := [.int 0, .ref (ad 54)]) (y := 102) hx hb hml hown hts hK hEX hA (ml_con hst hr0 rfl) rfl (mm_in_ut (mh_w_ok _ (List.mem_of_getElem? (i := 12) rfl)).1 (mh_w_ok _ (List.mem_of_getElem? (i := 12) rfl)).2) rfl rfl hP hD hS hl.1 (Nat.le_of_ble_eq_true rfl) dL_tests_3 ⟨by show 0 + r.2.1 ≤ r.2.1; omega, by show 0 + r.2.2.1 ≤ r.2.2.1; omega⟩ ⟨(Nat.le_of_ble_eq_true rfl), (Nat.le_of_ble_eq_true rfl)⟩ (fun h0 ad' H1 locs1 had hP hD hS => ?_) (fun h0 ad' H1 locs1 q9 ce had hP hD hS hce hcv hcE => ?_)
  · refine W.widen (k := r.2.1) (n := r.2.2.1) (by omega) (by omega) ?_
    have e54 : ad' 54 = ad 54 := had 54 (by decide)
    refine W.eq (g2 := F0 m 6 ls [.int r.2.2.2.2, .int 0, .ref (ad' 54)]) (by rw [e54]; rfl) ?_
    have hDk := hD
    refine lv_i2l (v := r.2.2.2.2.toInt64) hx hb dL_tests_6 rfl ?_
    refine va_last (D := D) (x := r.2.2.2.2.toInt64) hx hb hK hP hD hS 54 2 ml_e54 rfl (show vp_in 0 1 by unfold vp_in; decide) dL_tests_7 (fun H2 locs2 hP hD hS => ?_)
    have hP := ml_P54 rfl hP
    have hD := hDk
    refine lv_goto (tgt := 20) hx hb dL_tests_8 (by decide) ?_
    refine lv_iconst (v := 0) hx hb dL_tests_20 (by decide) ?_
    exact vx_ret (W.iret (v := 0) hx hb hr (fun t ht hW => ⟨⟨0, (r.1, r.2.2.2.2.toInt64), rfl, ⟨rfl, Or.inl ⟨h0, rfl, rfl⟩⟩, ad', had, by rw [ht]; exact hP, va_K.moved hW.alike hK, ml_D hD⟩, hS.F ht⟩) hS.2.2 dL_tests_21)
  · refine vx_widen (k := r.2.1) (n := r.2.2.1) (by omega) (by omega) ?_
    rcases hxr with hz | ⟨i, hi⟩
    · exact absurd hz h0
    · match i, hi with
      | 0, hi =>
        have he : r.2.2.2.1 = 1 := (Option.some.inj hi).symm
        rw [he] at hcE
        refine vx_catch (own := RL) (E := mm_exn 1) (name := mm_exn 1) hown [] ⟨0, 8, 11, 13⟩ [⟨0, 8, 14, 33⟩, ⟨0, 8, 17, 47⟩] (by rw [htab]; rfl) (fun z hz => by cases hz) (by decide) (by decide) (hcw _ (List.mem_of_getElem? (i := 0) rfl)) (mm_cd_at rfl (State.WarmedH.refl s) (hEX.2.2.1 _ (ml_ca_ok _ (List.mem_of_getElem? (i := 0) rfl)))) hce hcv hcE ?_
        refine lv_astore_n (lv' := [(2, .ref q9), (0, .ref (ad 0)), (1, .ref (ad 54))]) hx hb dL_tests_11 rfl hl (by decide) rfl (fun ls hl => ?_)
        refine lv_iconst (v := 1) hx hb dL_tests_12 (by decide) ?_
        exact vx_ret (W.iret (v := 1) hx hb hr (fun t ht hW => ⟨⟨1, (r.1, ov), rfl, ⟨rfl, Or.inr ⟨0, by rw [he]; rfl, rfl, rfl⟩⟩, ad', had, by rw [ht]; exact hP, va_K.moved hW.alike hK, hD⟩, hS.F ht⟩) hS.2.2 dL_tests_13)
      | 1, hi =>
        have he : r.2.2.2.1 = 2 := (Option.some.inj hi).symm
        rw [he] at hcE
        refine vx_catch (own := RL) (E := mm_exn 2) (name := mm_exn 2) hown [⟨0, 8, 11, 13⟩] ⟨0, 8, 14, 33⟩ [⟨0, 8, 17, 47⟩] (by rw [htab]; rfl) (fun z hz => by
          simp only [List.mem_cons, List.not_mem_nil, or_false] at hz
          rcases hz with rfl
          · exact Or.inr ⟨by decide, _, hcw _ (List.mem_of_getElem? (i := 0) rfl), hNC (mm_exn 2, mm_exn 1) (by decide)⟩
          ) (by decide) (by decide) (hcw _ (List.mem_of_getElem? (i := 2) rfl)) (mm_cd_at rfl (State.WarmedH.refl s) (hEX.2.2.1 _ (ml_ca_ok _ (List.mem_of_getElem? (i := 1) rfl)))) hce hcv hcE ?_
        refine lv_astore_n (lv' := [(2, .ref q9), (0, .ref (ad 0)), (1, .ref (ad 54))]) hx hb dL_tests_14 rfl hl (by decide) rfl (fun ls hl => ?_)
        refine lv_iconst (v := 2) hx hb dL_tests_15 (by decide) ?_
        exact vx_ret (W.iret (v := 2) hx hb hr (fun t ht hW => ⟨⟨2, (r.1, ov), rfl, ⟨rfl, Or.inr ⟨1, by rw [he]; rfl, rfl, rfl⟩⟩, ad', had, by rw [ht]; exact hP, va_K.moved hW.alike hK, hD⟩, hS.F ht⟩) hS.2.2 dL_tests_16)
      | 2, hi =>
        have he : r.2.2.2.1 = 5 := (Option.some.inj hi).symm
        rw [he] at hcE
        refine vx_catch (own := RL) (E := mm_exn 5) (name := mm_exn 5) hown [⟨0, 8, 11, 13⟩, ⟨0, 8, 14, 33⟩] ⟨0, 8, 17, 47⟩ [] (by rw [htab]; rfl) (fun z hz => by
          simp only [List.mem_cons, List.not_mem_nil, or_false] at hz
          rcases hz with rfl | rfl
          · exact Or.inr ⟨by decide, _, hcw _ (List.mem_of_getElem? (i := 0) rfl), hNC (mm_exn 5, mm_exn 1) (by decide)⟩
          · exact Or.inr ⟨by decide, _, hcw _ (List.mem_of_getElem? (i := 2) rfl), hNC (mm_exn 5, mm_exn 2) (by decide)⟩
          ) (by decide) (by decide) (hcw _ (List.mem_of_getElem? (i := 4) rfl)) (mm_cd_at rfl (State.WarmedH.refl s) (hEX.2.2.1 _ (ml_ca_ok _ (List.mem_of_getElem? (i := 4) rfl)))) hce hcv hcE ?_
        refine lv_astore_n (lv' := [(2, .ref q9), (0, .ref (ad 0)), (1, .ref (ad 54))]) hx hb dL_tests_17 rfl hl (by decide) rfl (fun ls hl => ?_)
        refine lv_iconst (v := 3) hx hb dL_tests_18 (by decide) ?_
        exact vx_ret (W.iret (v := 3) hx hb hr (fun t ht hW => ⟨⟨3, (r.1, ov), rfl, ⟨rfl, Or.inr ⟨2, by rw [he]; rfl, rfl, rfl⟩⟩, ad', had, by rw [ht]; exact hP, va_K.moved hW.alike hK, hD⟩, hS.F ht⟩) hS.2.2 dL_tests_19)
      | i + 3, hi => exact absurd hi (by simp)
