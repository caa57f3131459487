/-! Tables.reserve's contract (hypothesis hres of mm_sound); copyOf by mm_copy (13.copy) -/
/-- the world seen cell by cell -/
theorem mm_P_all {D : va_G} {cy : ClassId × ClassId × ClassId} {ad : Nat → Nat} {ov : Int64} {S : Mem} {H : Heap} : va_P D vwCl (mm_W cy ad ov S) H ↔ ∀ k, k < 55 → va_at D vwCl (ad k, mm_ent cy ad ov S k) H := by
  constructor
  · intro h k hk
    exact h k _ (mm_W_at hk)
  · intro h k q hq
    have hk : k < 55 := by
      have := (List.getElem?_eq_some_iff.mp hq).1
      simpa [mm_W] using this
    rw [mm_W_at hk] at hq
    cases hq
    exact h k hk
theorem mm_rf22 : ∀ k, k < 55 → k ≠ 21 → ∀ j, j < 38 → mm_rf k j ≠ some 22 := by decide +kernel
theorem mm_NF38 : ∀ ci, ci < 9 → mm_NF[ci]?.getD 0 ≤ 38 := by decide
theorem mm_ent_move {cy : ClassId × ClassId × ClassId} {ad : Nat → Nat} {ov : Int64} {S S' : Mem} {k ra : Nat} (hk : k < 55) (h1 : k ≠ 21) (h2 : k ≠ 22) (hS : S' k = S k) : mm_ent cy (fun z => if z = 22 then ra else ad z) ov S' k = mm_ent cy ad ov S k := by
  have hlen : ∀ n, mm_len S' k n = mm_len S k n := by
    intro n
    unfold mm_len
    have : Nat.beq k mm_RM = false := by
      cases hb : Nat.beq k mm_RM with
      | false => rfl
      | true => exact absurd (Nat.eq_of_beq_eq_true hb) h2
    rw [this]
  unfold mm_ent
  split
  · rename_i ci hkd
    refine congrArg (fun z => Sum.inr (ci, z)) (List.map_congr_left fun j hj => ?_)
    have hj38 : j < 38 := by
      have h9 := List.mem_range.mp hj
      have h8 : mm_NF[ci]?.getD 0 ≤ 38 := by
        rcases Nat.lt_or_ge ci 9 with z | z
        · exact mm_NF38 ci z
        · rw [List.getElem?_eq_none (by show 9 ≤ ci; exact z)]; decide
      omega
    have h7 := mm_rf22 k hk h1 j hj38
    unfold mm_fv
    cases hr : mm_rf k j with
    | none => rw [hS]; rfl
    | some t =>
      have ht : t ≠ 22 := fun q => h7 (by rw [hr, q])
      show Value.ref (if t = 22 then ra else ad t) = Value.ref (ad t)
      rw [if_neg ht]
  · rw [hlen, hS]
  · rw [hlen, hS]
  · rfl
  · rfl
set_option maxHeartbeats 4000000 in
set_option maxRecDepth 100000 in
theorem mm_res_con {l : Launch} {D : va_G} {cy : ClassId × ClassId × ClassId} : ∀ d as S r q, mm_MT[mm_yRes]? = some q → mm_resv as S = some r → mm_Con l D cy (d + 1) q as S r := by
  intro d as S r q hq h
  have eq9 : q = (5, yX5_reserve, cX5_reserve, 2, 0, 1, [], [0]) := Option.some.inj (hq.symm.trans rfl)
  subst eq9
  unfold mm_resv at h
  split at h
  · rename_i en
    intro ad ov sz
    refine vx_ofW (cc := cX5_reserve) (maxL := 2) (ret := none) (by decide) rfl ?_
    intro p e s m args below meth c s₁ B hml hex hv
    obtain ⟨rfl, hsz, hP, hK, hD0, hEX⟩ := hv
    have hx := B.exec
    have hb := B.bytes
    have hr := B.returns
    have hts0 := atoms_spec (ws := mm_ws (5, yX5_reserve, cX5_reserve, 2, 0, 1, [], [0])) B.pre
    have hts : ∀ w ∈ mm_ut, w.before _ s = true := fun w hw => hts0 w (List.mem_cons_of_mem _ hw)
    have hown : s.vm.findClass RX5 = some m.cls := findClass_of_methodNamed B.named
    have hlocks := B.notSynchronized
    subst hsz
    have hD := hD0.self (sz := s.heap.size)
    generalize hAe : va_A (mm_W cy ad ov S) s.heap.size = A at hD ⊢
    have hA : ∀ z : Nat, s.heap.size ≤ z → A z := fun z hz => by rw [← hAe]; exact Or.inr hz
    have hS : va_S A s.heap s.heap [] := va_S.rf
    have hl := lv_entry (List.map (mm_rv ad) [.inr 21, .inl en]) (n := 2) (Nat.le_of_ble_eq_true rfl)
    rw [lg_entry_eq]
    generalize (lg_sl (List.map (mm_rv ad) [Sum.inr 21, Sum.inl en]) ++ List.replicate (2 - (lg_sl (List.map (mm_rv ad) [Sum.inr 21, Sum.inl en])).length) Slot.unset).toArray = ls at hl ⊢
    have hl : lv_has ls 2 [(0, .ref (ad 21)), (1, .int en)] := hl
    have hn0 : (S 55 0).toNatClampNeg < 2 ^ 31 := by
      have h1 := Int32.toInt_lt (S 55 0)
      have h2 : (S 55 0).toNatClampNeg = (S 55 0).toInt.toNat := rfl
      omega
    obtain ⟨n0, hn⟩ : ∃ n0, (S 55 0).toNatClampNeg = n0 := ⟨_, rfl⟩
    have hlen : mm_len S 22 0 = n0 := hn
    rw [hn] at hn0 h
    obtain ⟨hin9, hNF9, ⟨ty9, hty9⟩, hnm9⟩ := mm_CL_ok 5 (RX5, TX5, 6) rfl
    have hfl : Cond.fieldLink RX5 19 (TX5 2).1 (TX5 2).2.1 (TX5 2).2.2.1 ∈ mm_ut := (mm_FT_spec (ci := 5) (ix := 19) (x := 2) (by decide) rfl).2
    have he21 : (mm_W cy ad ov S)[21]? = some (ad 21, .inr (5, (List.range (mm_NF[5]?.getD 0)).map (fun k => mm_rv ad (mm_fv S 21 k)))) := by rw [mm_W_at (by decide), mm_ent_obj (ci := 5) rfl]
    have he22 : (mm_W cy ad ov S)[22]? = some (ad 22, .inl (cy.1, n0, .inl (S 22))) := by rw [mm_W_at (by decide), mm_ent_int (n := 0) rfl, hlen]
    refine lv_iload_n hx hb dX5_reserve_0 rfl (lv_at hl 1 rfl) ?_
    refine lv_aload_n hx hb dX5_reserve_1 rfl (lv_at hl 0 rfl) ?_
    refine va_get (D := D) (ci := 5) (v := .ref (ad 22)) (C := RX5) (T := TX5) (N := 6) hx hb hts hin9 hown hK hP 21 he21 rfl 2 (by decide) (hts _ hfl) (fun _ h9 => h9) rfl dX5_reserve_2 ?_
    refine va_alen (D := D) (x := (n0, .inl (S 22))) (ty := .int) hx hb hK hP 22 0 he22 rfl rfl dX5_reserve_5 ?_
    refine lv_icmp_le (tgt := 31) hx hb dX5_reserve_6 (by decide) (fun c9 => ?_) (fun c9 => ?_)
    · rw [if_pos c9] at h
      have e8 := (Option.some.inj h).symm
      subst e8
      refine vx_ret ?_
      refine W.vret hx hb hr (fun t ht hW => ?_) hS.2.2 dX5_reserve_31
      unfold mm_Qc
      rw [if_pos rfl]
      exact ⟨⟨S, rfl, ⟨rfl, rfl⟩, ad, fun _ _ => rfl, by rw [ht]; exact hP, va_K.moved hW.alike hK, hD⟩, hS.F ht⟩
    · rw [if_neg c9] at h
      obtain ⟨nn, hnn⟩ : ∃ z, z = (if en < 2 * Int32.ofNat n0 then 2 * Int32.ofNat n0 else en) := ⟨_, rfl⟩
      rw [← hnn] at h
      split at h
      · cases h
      · rename_i hz
        have e8 := (Option.some.inj h).symm
        have hmx : Cond.methodLink RX5 65 Lib.Math.max.name ∈ mm_ut := mm_ST_spec (ci := 5) (ix := 65) (x := 1) (by decide) rfl
        refine lv_aload_n hx hb dX5_reserve_9 rfl (lv_at hl 0 rfl) ?_
        refine lv_aload_n hx hb dX5_reserve_10 rfl (lv_at hl 0 rfl) ?_
        refine va_get (D := D) (ci := 5) (v := .ref (ad 22)) (C := RX5) (T := TX5) (N := 6) hx hb hts hin9 hown hK hP 21 he21 rfl 2 (by decide) (hts _ hfl) (fun _ h9 => h9) rfl dX5_reserve_11 ?_
        refine lv_iload_n hx hb dX5_reserve_14 rfl (lv_at hl 1 rfl) ?_
        refine lv_iconst (v := 2) hx hb dX5_reserve_15 (by decide) ?_
        refine lv_aload_n hx hb dX5_reserve_16 rfl (lv_at hl 0 rfl) ?_
        refine va_get (D := D) (ci := 5) (v := .ref (ad 22)) (C := RX5) (T := TX5) (N := 6) hx hb hts hin9 hown hK hP 21 he21 rfl 2 (by decide) (hts _ hfl) (fun _ h9 => h9) rfl dX5_reserve_17 ?_
        refine va_alen (D := D) (x := (n0, .inl (S 22))) (ty := .int) hx hb hK hP 22 0 he22 rfl rfl dX5_reserve_20 ?_
        refine lv_imul hx hb dX5_reserve_21 ?_
        refine va_mmax hx hb (by rw [hml]; exact hl.1.symm) hown (hts _ hmx) (hts _ (mm_jw_in (List.mem_of_getElem? (i := 3) rfl))) (hts _ (mm_jw_in (List.mem_of_getElem? (i := 1) rfl))) (hts _ (mm_jw_in (List.mem_of_getElem? (i := 4) rfl))) (by show 1 ≤ d + 1 + 8; omega) (by show 2 + 13 ≤ 40 * (d + 1) + 200; omega) (Nat.zero_le _) (Nat.zero_le _) dX5_reserve_22 ?_
        have hlt0 : Int32.ofNat n0 < nn := by
          have h1 : Int32.ofNat n0 < en := Int32.not_le.mp c9
          rw [hnn]
          split
          · rename_i h2; exact Int32.lt_trans h1 h2
          · exact h1
        rw [← hnn]
        obtain ⟨N, hN⟩ : ∃ N, nn.toNatClampNeg = N := ⟨_, rfl⟩
        rw [hN] at e8
        have hne : ¬ nn = Int32.ofNat n0 := fun q9 => by rw [q9] at hlt0; exact Int32.lt_irrefl hlt0
        have hPc := hP.sub (ws' := [(ad 22, .inl (cy.1, n0, .inl (S 22)))]) [22] (by simp [he22])
        have hDc := hD.sub (ws' := [(ad 22, .inl (cy.1, n0, .inl (S 22)))]) [22] (by decide) (by simp [he22])
        have hKc := hK.sub (tys' := [(cy.1, .int)]) [0] rfl
        have hFc := va_free (wc := [(ad 22, .inl (cy.1, n0, .inl (S 22)))]) hD hS hA [22] (by simp [he22])
        have hgood : GoodIn mm_ut (va_wsS RX5 129 yJ7_copyOf_59c91 (.code yJ7_copyOf_59c91 cJ7_copyOf_59c91 3 (some (.array .int)) :: mm_ut)) := by
          intro w hw
          have hm : w ∈ mm_ut := by
            simp only [va_wsS, List.cons_append, List.nil_append, List.mem_cons] at hw
            rcases hw with rfl | rfl | rfl | rfl | hw
            · exact mm_in_ut (mm_cJ_ok _ (List.mem_of_getElem? (i := 6) rfl)).1 rfl
            · exact mm_in_ut (mm_cJ_ok _ (List.mem_of_getElem? (i := 4) rfl)).1 rfl
            · exact mm_in_ut (mm_cJ_ok _ (List.mem_of_getElem? (i := 5) rfl)).1 rfl
            · exact mm_in_ut (mm_cJ_ok _ (List.mem_of_getElem? (i := 0) rfl)).1 rfl
            · exact hw
          exact ⟨hm, good_of_word (mm_ut_good hm)⟩
        refine va_callr (va_runS (As := [.ref (ad 22), .int nn]) (rest := [.ref (ad 21)]) ⟨hx, hb, hml, hown, hts⟩ (mm_copy l D cy.1 (ad 22) s.heap.size n0 (S 22) nn hN (fun q9 => hz (Or.inl q9)) (fun q9 => hz (Or.inr q9)) hn0 hne (Int32.le_of_lt hlt0)) (va_cwS 2 hts hgood rfl rfl rfl (by decide +kernel) ⟨by show 2 + 1 ≤ d + 1 + 8; omega, by show 8 + (3 + 11) + 120 ≤ 40 * (d + 1) + 200; omega⟩) ⟨fun a U g mk qq => by obtain ⟨q0, q1, qP, qK, qD⟩ := qq; exact ⟨q0, q1, qP, va_K.moved (u := U) (U := U.calling g mk a) (Vm.Alike.refl U.vm) qK, qD⟩, fun U hU hW => ⟨rfl, by rw [hU], by rw [hU]; exact hPc, va_K.moved hW.alike hKc, hDc.weaken (fun _ _ _ _ => trivial)⟩⟩ rfl rfl hl.1 rfl (lv_room (Nat.le_of_ble_eq_true rfl)) dX5_reserve_25 ⟨by rw [e8]; exact Nat.le_refl _, by rw [e8]; exact Nat.le_of_eq (Nat.zero_add _)⟩) hS (fun z _ hz9 => hFc z hz9) hFc (fun u ra t H1 locs1 ht hal hpost hB hz1 hk1 hS1 => ?_)
        obtain ⟨hP1, -, hD1⟩ := hB
        rw [ht] at hP1
        have hra : s.heap.size ≤ ra := by
          rcases hD1.2 1 _ rfl with ⟨k, e9, hk⟩ | h9
          · match k, hk with
            | 0, hk =>
              have h7 : ra = ad 22 := (congrArg Prod.fst (Option.some.inj hk)).symm
              exact absurd (hD1.1 1 0 _ _ rfl rfl h7) (by decide)
            | k + 1, hk => simp at hk
          · exact h9
        have hPo : va_P D vwCl (mm_W cy ad ov S) H1 := by
          rw [mm_P_all]
          intro k hk
          by_cases h22 : k = 22
          · subst h22
            rw [mm_ent_int (n := 0) rfl, hlen]
            exact hP1 0 _ rfl
          · have h9 := hP k _ (mm_W_at hk)
            refine h9.kept (hk1 _ h9.lt (fun h8 => ?_))
            rcases h8 with ⟨k8, e9, h7⟩ | h7
            · match k8, h7 with
              | 0, h7 =>
                have h6 : ad k = ad 22 := (congrArg Prod.fst (Option.some.inj h7)).symm
                exact h22 (hD.1 k 22 _ _ (mm_W_at hk) he22 h6)
              | k8 + 1, h7 => simp at h7
            · exact absurd h9.lt (Nat.not_lt.mpr h7)
        have hP2 := hPo.app (hP1.sub (ws' := [(ra, .inl (cy.1, N, .inl (va_cpy (S 22) (fun _ => 0) 0 0 n0)))]) [1] rfl)
        have hD2 := va_D.app hD ((hD1.sub (ws' := [(ra, .inl (cy.1, N, .inl (va_cpy (S 22) (fun _ => 0) 0 0 n0)))]) [1] (by decide) rfl).weaken (fun _ z _ hz9 => hFc _ hz9)) (fun i j x y hi hj hxy => by
          have h9 : x.1 < s.heap.size := (hP i x hi).lt
          match j, hj with
          | 0, hj => cases hj; exact absurd h9 (by rw [hxy]; exact Nat.not_lt.mpr hra)
          | j + 1, hj => simp at hj)
        have he21b : (mm_W cy ad ov S ++ [(ra, .inl (cy.1, N, .inl (va_cpy (S 22) (fun _ => 0) 0 0 n0)))])[21]? = some (ad 21, .inr (5, (List.range (mm_NF[5]?.getD 0)).map (fun k => mm_rv ad (mm_fv S 21 k)))) := by
          rw [List.getElem?_append_left (by simp [mm_W])]; exact he21
        refine va_put (D := D) (ci := 5) (v := .ref ra) (ty := .array .int) (C := RX5) (T := TX5) (N := 6) hx hb hts hin9 ty9 hty9 hnm9 hown hK hP2 hD2 hS1 21 he21b rfl 2 (by decide) (hts _ hfl) (fun _ h9 => h9) rfl (by decide +kernel) rfl rfl (by rw [List.length_map, List.length_range]; decide) dX5_reserve_28 (fun H2 locs2 hP3 hD3 hS3 => ?_)
        refine W.widen (k := 1) (n := N) (by omega) (by omega) ?_
        subst e8
        refine vx_ret ?_
        refine W.vret hx hb hr (fun t2 ht2 hW2 => ?_) hS3.2.2 dX5_reserve_31
        unfold mm_Qc
        rw [if_pos rfl]
        have key : ∀ k, k < 55 → ((mm_W cy ad ov S ++ ([(ra, .inl (cy.1, N, .inl (va_cpy (S 22) (fun _ => 0) 0 0 n0)))] : va_W)).set 21 (ad 21, .inr (5, ((List.range (mm_NF[5]?.getD 0)).map (fun k => mm_rv ad (mm_fv S 21 k))).set 2 (.ref ra))))[if k = 22 then 55 else k]? = some ((fun z => if z = 22 then ra else ad z) k, mm_ent cy (fun z => if z = 22 then ra else ad z) ov (mm_put (mm_stc S 22 (va_cpy (S 22) (fun _ => 0) 0 0 n0)) 55 0 nn) k) := by
          intro k hk
          by_cases h22 : k = 22
          · subst h22
            rw [if_pos rfl, List.getElem?_set_ne (by decide), List.getElem?_append_right (by simp [mm_W]), mm_ent_int (n := 0) rfl]
            have e1 : mm_len (mm_put (mm_stc S 22 (va_cpy (S 22) (fun _ => 0) 0 0 n0)) 55 0 nn) 22 0 = N := by
              show (mm_put _ 55 0 nn 55 0).toNatClampNeg = N
              unfold mm_put
              rw [mm_stc_at, pk_us, hN]
            rw [e1]
            have e2 : (mm_W cy ad ov S).length = 55 := by simp [mm_W]
            rw [e2]
            rfl
          · rw [if_neg h22]
            by_cases h21 : k = 21
            · subst h21
              rw [List.getElem?_set_self (by simp [mm_W])]
              rfl
            · rw [List.getElem?_set_ne (fun q9 => h21 q9.symm), List.getElem?_append_left (by simp [mm_W]; exact hk), mm_W_at hk]
              rw [mm_ent_move hk h21 h22 (S := S) (by unfold mm_put; rw [mm_stc_ne _ _ (by omega), mm_stc_ne _ _ h22])]
              simp only [if_neg h22]
        refine ⟨⟨_, rfl, ⟨rfl, rfl⟩, fun k => if k = 22 then ra else ad k, fun z hz9 => if_neg hz9, ?_, va_K.moved hW2.alike hK, ?_⟩, hS3.F ht2⟩
        · rw [mm_P_all, ht2]
          intro k hk
          exact hP3 _ _ (key k hk)
        · refine ⟨fun i j x y hi hj hxy => ?_, fun k x hx => ?_⟩
          · have hi9 : i < 55 := by have := (List.getElem?_eq_some_iff.mp hi).1; simpa [mm_W] using this
            have hj9 : j < 55 := by have := (List.getElem?_eq_some_iff.mp hj).1; simpa [mm_W] using this
            rw [mm_W_at hi9] at hi
            rw [mm_W_at hj9] at hj
            have h9 := hD3.1 _ _ _ _ (key i hi9) (key j hj9) (by rw [← Option.some.inj hi, ← Option.some.inj hj] at hxy; exact hxy)
            split at h9 <;> split at h9 <;> omega
          · have hk9 : k < 55 := by have := (List.getElem?_eq_some_iff.mp hx).1; simpa [mm_W] using this
            rw [mm_W_at hk9] at hx
            have h9 := hD3.2 _ _ (key k hk9)
            rw [← Option.some.inj hx]
            exact h9
  · cases h
