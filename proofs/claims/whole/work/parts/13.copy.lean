/-! java.util.Arrays.copyOf(int[], int), to another length -/
abbrev mm_cJ : List Cond := [.code yJ7_copyOf_59c91 cJ7_copyOf_59c91 3 (some (.array .int)), .methodLink RJ7 304 Lib.Math.min.name, .methodLink RJ7 150 arraycopyName, .arrayClass .int, .static yJ7_copyOf_59c91, .initialized RJ7, .methodLink RX5 129 yJ7_copyOf_59c91]
theorem mm_bytes {n : Int32} (hn2 : ¬ 134217728 < n) : n.toNatClampNeg * 4 ≤ 536870912 := by
  have h1 : n ≤ 134217728 := Int32.not_lt.mp hn2
  have h2 := Int32.le_iff_toInt_le.mp h1
  have h3 : (134217728 : Int32).toInt = 134217728 := by decide +kernel
  rw [h3] at h2
  have h4 : n.toNatClampNeg = n.toInt.toNat := rfl
  rw [h4]
  omega
theorem mm_cJ_ok : ∀ w ∈ mm_cJ, w ∈ lw_tbl ∧ goodWord w = true := by decide +kernel
set_option maxHeartbeats 400000 in
set_option maxRecDepth 100000 in
theorem mm_copy (l : Launch) (D : va_G) (cI : ClassId) (a sz n0 : Nat) (f : Nat → Int32) (n : Int32) {N : Nat} (hN : n.toNatClampNeg = N) (hn : ¬ n < 0) (hn2 : ¬ 134217728 < n) (hn0 : n0 < 2 ^ 31) (hne : ¬ n = Int32.ofNat n0) (hle : Int32.ofNat n0 ≤ n) :
    Met l yJ7_copyOf_59c91 (.code yJ7_copyOf_59c91 cJ7_copyOf_59c91 3 (some (.array .int)) :: mm_ut) { frames := 2, cells := 1, slots := N, locals := 120 } (va_Pc [.ref a, .int n] (fun U => U.heap.size = sz ∧ va_P D vwCl [(a, .inl (cI, n0, .inl f))] U.heap ∧ va_K D vwCl [(cI, .int)] U ∧ va_D (fun _ => True) [(a, .inl (cI, n0, .inl f))]))
      (va_Qr (fun _ : Unit => True) (fun _ q t => va_P D vwCl [(a, .inl (cI, n0, .inl f)), (q, .inl (cI, N, .inl (va_cpy f (fun _ => 0) 0 0 n0)))] t.heap ∧ va_K D vwCl [(cI, .int)] t ∧ va_D (va_A [(a, .inl (cI, n0, .inl f))] sz) [(a, .inl (cI, n0, .inl f)), (q, .inl (cI, N, .inl (va_cpy f (fun _ => 0) 0 0 n0)))]) (va_A [(a, .inl (cI, n0, .inl f))] sz)) 1 N (va_A [(a, .inl (cI, n0, .inl f))] sz) := by
  refine Met.ofW (cc := cJ7_copyOf_59c91) (maxL := 3) (ret := some (.array .int)) (by decide) rfl ?_
  intro p e s m args below meth c s₁ B hml hv
  obtain ⟨rfl, hsz, hP, hK, hD0⟩ := hv
  have hx := B.exec
  have hb := B.bytes
  have hr := B.returns
  have hts := atoms_spec (ws := .code yJ7_copyOf_59c91 cJ7_copyOf_59c91 3 (some (.array .int)) :: mm_ut) B.pre
  have hcj : ∀ w ∈ mm_cJ, w.before _ s = true := fun w hw => hts w (List.mem_cons_of_mem _ (mm_in_ut (mm_cJ_ok w hw).1 (mm_cJ_ok w hw).2))
  have hjw : ∀ w ∈ mm_jw, w.before _ s = true := fun w hw => hts w (List.mem_cons_of_mem _ (mm_jw_in hw))
  have hown : s.vm.findClass RJ7 = some m.cls := findClass_of_methodNamed B.named
  have hlocks := B.notSynchronized
  subst hsz
  have hD := hD0.self (sz := s.heap.size)
  generalize hAe : va_A [(a, .inl (cI, n0, .inl f))] s.heap.size = A at hD ⊢
  have hA : ∀ q : Nat, s.heap.size ≤ q → A q := fun q h => by rw [← hAe]; exact Or.inr h
  have hS : va_S A s.heap s.heap [] := va_S.rf
  have hl := lv_entry ([.ref a, .int n]) (n := 3) (Nat.le_of_ble_eq_true rfl)
  rw [lg_entry_eq]
  generalize (lg_sl ([.ref a, .int n]) ++ List.replicate (3 - (lg_sl ([.ref a, .int n])).length) Slot.unset).toArray = ls at hl ⊢
  have hl : lv_has ls 3 [(0, .ref a), (1, .int n)] := hl
  have hcl : (Int32.ofNat n0).toNatClampNeg = n0 := nI_clamp hn0
  refine lv_iload_n hx hb dJ7_copyOf_59c91_0 rfl (lv_at hl 1 rfl) ?_
  refine lv_aload_n hx hb dJ7_copyOf_59c91_1 rfl (lv_at hl 0 rfl) ?_
  refine va_alen (D := D) (x := (n0, .inl f)) (ty := .int) hx hb hK hP 0 0 rfl rfl rfl dJ7_copyOf_59c91_2 ?_
  refine lv_icmp_ne (tgt := 14) hx hb dJ7_copyOf_59c91_3 (by decide) (fun _ => ?_) (fun c9 => absurd c9 hne)
  refine lv_iload_n hx hb dJ7_copyOf_59c91_14 rfl (lv_at hl 1 rfl) ?_
  have hbytes : N * componentBytes .int ≤ 536870912 := hN ▸ mm_bytes hn2
  refine va_newa (D := D) (atype := .int) (ty := .int) (N' := N) (a0 := (N, .inl (fun _ => 0))) hx hb (hcj (.arrayClass .int) (List.mem_of_getElem? (i := 3) rfl)) rfl hK hP hD hS hA (fun _ => rfl) hn hN hbytes (by show 0 + 1 ≤ 1; omega) (by show 0 + _ ≤ N; omega) dJ7_copyOf_59c91_15 (fun q cA H hK2 hP2 hD2 hS2 => ?_)
  have ecA : cA = cI := by
    have h1 := (hK2.2 0 _ rfl).2
    have h2 := (hK2.2 1 _ rfl).2
    exact Option.some.inj (h2.symm.trans h1)
  subst ecA
  have hP2 : va_P D vwCl [(a, .inl (cA, n0, .inl f)), (q, .inl (cA, N, .inl (fun _ => 0)))] H := hP2
  have hD2 : va_D A [(a, .inl (cA, n0, .inl f)), (q, .inl (cA, N, .inl (fun _ => 0)))] := hD2
  refine lv_astore_n (lv' := [(2, .ref q), (0, .ref a), (1, .int n)]) hx hb dJ7_copyOf_59c91_17 rfl hl (by decide) rfl (fun ls hl => ?_)
  refine lv_aload_n hx hb dJ7_copyOf_59c91_18 rfl (lv_at hl 1 rfl) ?_
  refine lv_iconst (v := 0) hx hb dJ7_copyOf_59c91_19 (by decide) ?_
  refine lv_aload_n hx hb dJ7_copyOf_59c91_20 rfl (lv_at hl 0 rfl) ?_
  refine lv_iconst (v := 0) hx hb dJ7_copyOf_59c91_21 (by decide) ?_
  refine lv_aload_n hx hb dJ7_copyOf_59c91_22 rfl (lv_at hl 1 rfl) ?_
  refine va_alen (D := D) (x := (n0, .inl f)) (ty := .int) hx hb hK2 hP2 0 0 rfl rfl rfl dJ7_copyOf_59c91_23 ?_
  refine lv_iload_n hx hb dJ7_copyOf_59c91_24 rfl (lv_at hl 2 rfl) ?_
  refine va_mmin hx hb (by rw [hml]; exact hl.1.symm) hown (hcj (.methodLink RJ7 304 Lib.Math.min.name) (List.mem_of_getElem? (i := 1) rfl)) (hjw _ (List.mem_of_getElem? (i := 0) rfl)) (hjw _ (List.mem_of_getElem? (i := 1) rfl)) (hjw _ (List.mem_of_getElem? (i := 2) rfl)) (by show 1 ≤ 2; omega) (by show 4 + 13 ≤ 120; omega) (by show 0 + 1 ≤ 1; omega) (by show 0 + _ ≤ N; omega) dJ7_copyOf_59c91_25 ?_
  rw [if_neg (Int32.not_lt.mpr hle)]
  have hle2 : n0 ≤ N := by
    have h2 := Int32.le_iff_toInt_le.mp hle
    have h3 : (Int32.ofNat n0).toInt = n0 := nI_toInt hn0
    have h4 : n.toNatClampNeg = n.toInt.toNat := rfl
    rw [hN] at h4
    omega
  refine va_copyi (D := D) (ty := .int) hx hb (by rw [hml]; exact hl.1.symm) hown (hcj (.methodLink RJ7 150 arraycopyName) (List.mem_of_getElem? (i := 2) rfl)) (hjw _ (List.mem_of_getElem? (i := 7) rfl)) (hjw _ (List.mem_of_getElem? (i := 5) rfl)) (hjw _ (List.mem_of_getElem? (i := 6) rfl)) hK2 hP2 hD2 hS2 0 1 0 0 rfl rfl rfl rfl rfl (by decide) (by decide) (nI_pos hn0) ?_ ?_ (fun _ _ => rfl) (by show 1 ≤ 2; omega) ?_ dJ7_copyOf_59c91_28 (fun H1 locs1 hP1 hD1 hS1 => ?_)
  · rw [hcl]; show 0 + n0 ≤ n0; omega
  · rw [hcl]; show 0 + n0 ≤ _; omega
  · have e7 : nativeFrameWords "java/lang/System" "arraycopy" 5 + 11 ≤ 100 := by decide
    show 0 + (nativeFrameWords "java/lang/System" "arraycopy" 5 + 11) ≤ 120
    omega
  rw [hcl] at hP1 hD1
  refine lv_aload_n hx hb dJ7_copyOf_59c91_31 rfl (lv_at hl 0 rfl) ?_
  refine W.widen (k := 1) (n := N) (by omega) (by omega) ?_
  rw [sb_cl0] at hP1 hD1
  have hP9 : va_P D vwCl [(a, .inl (cA, n0, .inl f)), (q, .inl (cA, N, .inl (va_cpy f (fun _ => 0) 0 0 n0)))] H1 := hP1
  have hD9 : va_D A [(a, .inl (cA, n0, .inl f)), (q, .inl (cA, N, .inl (va_cpy f (fun _ => 0) 0 0 n0)))] := hD1
  exact W.aret (v := .ref q) hx hb hr (Or.inr ⟨_, rfl⟩) (Or.inr ⟨_, rfl⟩) (fun t ht hW => ⟨⟨(), q, rfl, trivial, by rw [ht]; exact hP9, va_K.moved hW.alike hK, hD9⟩, hS1.F ht⟩) hS1.2.2 dJ7_copyOf_59c91_32
