section MMS
variable {p : Program} {l : Launch} {e : Env} {R : Room} {s : State} {m : MethodId} {args : Array Value} {below : List Frame} {meth : Method} {c : Code}
set_option maxHeartbeats 4000000 in
set_option maxRecDepth 100000 in
theorem mm_sound_a {D : va_G} {cy : ClassId × ClassId × ClassId} {A : Nat → Prop} {ad0 : Nat → Nat} {ov : Int64} {q : MI} {own : String} {r : Res} {call : Nat → List MV → Mem → Option Res} {k : Kt} {j : Nat} {L : List (Option MV)} {S : Mem} {kc ks : Nat} {i : Instr} {x : Nat} {v : Int32} {ts : List Nat} {st : List MV}
    {d : Nat} (C0 : mm_Cx p l e s m args below meth c D cy A q own) (hR : R.cells = r.2.1 ∧ R.slots = r.2.2.1 ∧ d + 9 ≤ R.frames ∧ 40 * d + 240 ≤ R.locals)
    (hcall : ∀ y as S r' mi, call y as S = some r' → mm_MT[y]? = some mi → mm_Con l D cy d mi as S r') (hkm : ∀ j L st S kc ks, k j L st S kc ks = some r → kc ≤ r.2.1 ∧ ks ≤ r.2.2.1)
    (hk : ∀ j L st S kc ks, k j L st S kc ks = some r → mm_G p l e R s m args below meth c D cy A ad0 ov q r j L st S kc ks)
    (hok : mm_okR q.cc q.ci q.pcs j (i, x, v, ts) = true)
    (h : mm_step call q.rt k j L S kc ks i x v ts st = some r) : mm_G p l e R s m args below meth c D cy A ad0 ov q r j L st S kc ks := by
  have C0' := C0
  obtain ⟨hx, hb, hml, hown, hts, hK, hex, hlocks, hret, hA, hEX, hst, hcl⟩ := C0
  have hmono := mm_mono_step hkm h
  intro ad H locs ls pc had hpc hP hD hS hl
  have hFc : ∀ z, va_A (mm_W cy ad ov S) H.size z → A z := by
    rintro z (⟨k9, e9, hk9⟩ | hz)
    · exact hD.2 k9 _ hk9
    · exact hA z (Nat.le_trans hS.1 hz)
  unfold mm_okR at hok
  rw [hpc] at hok
  unfold mm_step at h
  split at h
  all_goals simp only [Bool.and_eq_true] at hok
  · exact lv_iconst hx hb (mm_dec_spec hok.1.1) (of_decide_eq_true hok.2) (hk _ _ _ _ _ _ h ad H locs ls _ had (mm_nx_spec hok.1.2) hP hD hS hl)
  · exact lv_bipush hx hb (mm_dec_spec hok.1.1) (of_decide_eq_true hok.2) (hk _ _ _ _ _ _ h ad H locs ls _ had (mm_nx_spec hok.1.2) hP hD hS hl)
  · exact lv_sipush hx hb (mm_dec_spec hok.1.1) (of_decide_eq_true hok.2) (hk _ _ _ _ _ _ h ad H locs ls _ had (mm_nx_spec hok.1.2) hP hD hS hl)
  · split at h
    · rename_i y hy
      exact lv_iload_n hx hb (mm_dec_spec hok.1.1) (of_decide_eq_true hok.2) (hl.2.2.2.1 _ _ hy) (hk _ _ _ _ _ _ h ad H locs ls _ had (mm_nx_spec hok.1.2) hP hD hS hl)
    · cases h
  · split at h
    · rename_i y hy
      have e9 := of_decide_eq_true hok.2
      subst e9
      exact lv_iload hx hb (mm_dec_spec hok.1.1) (hl.2.2.2.1 _ _ hy) (hk _ _ _ _ _ _ h ad H locs ls _ had (mm_nx_spec hok.1.2) hP hD hS hl)
    · cases h
  · split at h
    · rename_i y hy
      exact lv_aload_n hx hb (mm_dec_spec hok.1.1) (of_decide_eq_true hok.2) (hl.2.2.2.1 _ _ hy) (hk _ _ _ _ _ _ h ad H locs ls _ had (mm_nx_spec hok.1.2) hP hD hS hl)
    · cases h
  · rename_i y r9
    split at h
    · rename_i hx9
      exact lv_istore_n (lv := mm_lv ad L) hx hb (mm_dec_spec hok.1.1) (of_decide_eq_true hok.2) hl.has (by rw [← hl.2.2.1]; exact Nat.le_of_ble_eq_true hx9) rfl (fun ls' h' => hk _ _ _ _ _ _ h ad H locs ls' _ had (mm_nx_spec hok.1.2) hP hD hS (hl.stored (y := y) h'))
    · cases h
  · rename_i y r9
    split at h
    · rename_i hx9
      have e9 := of_decide_eq_true hok.2
      subst e9
      exact lv_istore (lv := mm_lv ad L) hx hb (mm_dec_spec hok.1.1) hl.has (by rw [← hl.2.2.1]; exact Nat.le_of_ble_eq_true hx9) rfl (fun ls' h' => hk _ _ _ _ _ _ h ad H locs ls' _ had (mm_nx_spec hok.1.2) hP hD hS (hl.stored (y := y) h'))
    · cases h
  · split at h
    · rename_i y hy
      have e9 := of_decide_eq_true hok.1.2
      subst e9
      obtain ⟨k9, hk9⟩ := List.getElem?_of_mem (mm_lv_mem.mpr ⟨_, _, hy, rfl⟩ : (_, mm_rv ad (.inl y)) ∈ mm_lv ad L)
      exact lv_iinc (lv := mm_lv ad L) hx hb (mm_dec_spec hok.1.1.1) hl.has hk9 rfl (by rw [← hl.2.2.1]; exact (List.getElem?_eq_some_iff.mp hy).1) rfl (fun ls' h' => by
        rw [of_decide_eq_true hok.2] at h'
        exact hk _ _ _ _ _ _ h ad H locs ls' _ had (mm_nx_spec hok.1.1.2) hP hD hS (hl.stored (y := y + v) h'))
    · cases h
  · exact lv_iadd hx hb (mm_dec_spec hok.1) (hk _ _ _ _ _ _ h ad H locs ls _ had (mm_nx_spec hok.2) hP hD hS hl)
  · exact lv_isub hx hb (mm_dec_spec hok.1) (hk _ _ _ _ _ _ h ad H locs ls _ had (mm_nx_spec hok.2) hP hD hS hl)
  · exact lv_imul hx hb (mm_dec_spec hok.1) (hk _ _ _ _ _ _ h ad H locs ls _ had (mm_nx_spec hok.2) hP hD hS hl)
  · exact lv_dup hx hb (mm_dec_spec hok.1) (mm_rv_cat ad _) (hk _ _ _ _ _ _ h ad H locs ls _ had (mm_nx_spec hok.2) hP hD hS hl)
  · exact lv_dup2_11 hx hb (mm_dec_spec hok.1) (mm_rv_cat ad _) (mm_rv_cat ad _) (hk _ _ _ _ _ _ h ad H locs ls _ had (mm_nx_spec hok.2) hP hD hS hl)
  · obtain ⟨t9, ht9, e9⟩ := mm_jmp_spec hok.2
    exact lv_goto hx hb (mm_dec_spec hok.1) e9 (hk _ _ _ _ _ _ h ad H locs ls _ had ht9 hP hD hS hl)
  · obtain ⟨t9, ht9, e9⟩ := mm_jmp_spec hok.2
    exact lv_if_eq hx hb (mm_dec_spec hok.1.1) e9 (fun c9 => by rw [if_pos c9] at h; exact hk _ _ _ _ _ _ h ad H locs ls _ had ht9 hP hD hS hl) (fun c9 => by rw [if_neg c9] at h; exact hk _ _ _ _ _ _ h ad H locs ls _ had (mm_nx_spec hok.1.2) hP hD hS hl)
  · obtain ⟨t9, ht9, e9⟩ := mm_jmp_spec hok.2
    exact lv_if_ne hx hb (mm_dec_spec hok.1.1) e9 (fun c9 => by rw [if_neg c9] at h; exact hk _ _ _ _ _ _ h ad H locs ls _ had ht9 hP hD hS hl) (fun c9 => by rw [if_pos c9] at h; exact hk _ _ _ _ _ _ h ad H locs ls _ had (mm_nx_spec hok.1.2) hP hD hS hl)
  · obtain ⟨t9, ht9, e9⟩ := mm_jmp_spec hok.2
    exact lv_if_lt hx hb (mm_dec_spec hok.1.1) e9 (fun c9 => by rw [if_pos c9] at h; exact hk _ _ _ _ _ _ h ad H locs ls _ had ht9 hP hD hS hl) (fun c9 => by rw [if_neg c9] at h; exact hk _ _ _ _ _ _ h ad H locs ls _ had (mm_nx_spec hok.1.2) hP hD hS hl)
  · obtain ⟨t9, ht9, e9⟩ := mm_jmp_spec hok.2
    exact lv_if_ge hx hb (mm_dec_spec hok.1.1) e9 (fun c9 => by rw [if_pos c9] at h; exact hk _ _ _ _ _ _ h ad H locs ls _ had ht9 hP hD hS hl) (fun c9 => by rw [if_neg c9] at h; exact hk _ _ _ _ _ _ h ad H locs ls _ had (mm_nx_spec hok.1.2) hP hD hS hl)
  · obtain ⟨t9, ht9, e9⟩ := mm_jmp_spec hok.2
    exact lv_if_gt hx hb (mm_dec_spec hok.1.1) e9 (fun c9 => by rw [if_pos c9] at h; exact hk _ _ _ _ _ _ h ad H locs ls _ had ht9 hP hD hS hl) (fun c9 => by rw [if_neg c9] at h; exact hk _ _ _ _ _ _ h ad H locs ls _ had (mm_nx_spec hok.1.2) hP hD hS hl)
  · obtain ⟨t9, ht9, e9⟩ := mm_jmp_spec hok.2
    exact lv_if_le hx hb (mm_dec_spec hok.1.1) e9 (fun c9 => by rw [if_pos c9] at h; exact hk _ _ _ _ _ _ h ad H locs ls _ had ht9 hP hD hS hl) (fun c9 => by rw [if_neg c9] at h; exact hk _ _ _ _ _ _ h ad H locs ls _ had (mm_nx_spec hok.1.2) hP hD hS hl)
  · obtain ⟨t9, ht9, e9⟩ := mm_jmp_spec hok.2
    exact lv_icmp_eq hx hb (mm_dec_spec hok.1.1) e9 (fun c9 => by rw [if_pos c9] at h; exact hk _ _ _ _ _ _ h ad H locs ls _ had ht9 hP hD hS hl) (fun c9 => by rw [if_neg c9] at h; exact hk _ _ _ _ _ _ h ad H locs ls _ had (mm_nx_spec hok.1.2) hP hD hS hl)
  · obtain ⟨t9, ht9, e9⟩ := mm_jmp_spec hok.2
    exact lv_icmp_ne hx hb (mm_dec_spec hok.1.1) e9 (fun c9 => by rw [if_neg c9] at h; exact hk _ _ _ _ _ _ h ad H locs ls _ had ht9 hP hD hS hl) (fun c9 => by rw [if_pos c9] at h; exact hk _ _ _ _ _ _ h ad H locs ls _ had (mm_nx_spec hok.1.2) hP hD hS hl)
  · obtain ⟨t9, ht9, e9⟩ := mm_jmp_spec hok.2
    exact lv_icmp_lt hx hb (mm_dec_spec hok.1.1) e9 (fun c9 => by rw [if_pos c9] at h; exact hk _ _ _ _ _ _ h ad H locs ls _ had ht9 hP hD hS hl) (fun c9 => by rw [if_neg c9] at h; exact hk _ _ _ _ _ _ h ad H locs ls _ had (mm_nx_spec hok.1.2) hP hD hS hl)
  · obtain ⟨t9, ht9, e9⟩ := mm_jmp_spec hok.2
    exact lv_icmp_ge hx hb (mm_dec_spec hok.1.1) e9 (fun c9 => by rw [if_pos c9] at h; exact hk _ _ _ _ _ _ h ad H locs ls _ had ht9 hP hD hS hl) (fun c9 => by rw [if_neg c9] at h; exact hk _ _ _ _ _ _ h ad H locs ls _ had (mm_nx_spec hok.1.2) hP hD hS hl)
  · obtain ⟨t9, ht9, e9⟩ := mm_jmp_spec hok.2
    exact lv_icmp_gt hx hb (mm_dec_spec hok.1.1) e9 (fun c9 => by rw [if_pos c9] at h; exact hk _ _ _ _ _ _ h ad H locs ls _ had ht9 hP hD hS hl) (fun c9 => by rw [if_neg c9] at h; exact hk _ _ _ _ _ _ h ad H locs ls _ had (mm_nx_spec hok.1.2) hP hD hS hl)
  · obtain ⟨t9, ht9, e9⟩ := mm_jmp_spec hok.2
    exact lv_icmp_le hx hb (mm_dec_spec hok.1.1) e9 (fun c9 => by rw [if_pos c9] at h; exact hk _ _ _ _ _ _ h ad H locs ls _ had ht9 hP hD hS hl) (fun c9 => by rw [if_neg c9] at h; exact hk _ _ _ _ _ _ h ad H locs ls _ had (mm_nx_spec hok.1.2) hP hD hS hl)
  · rename_i c9 r9
    split at h
    · rename_i hc9
      obtain ⟨T9, N9, hcl9⟩ := hcl
      have e9 := of_decide_eq_true hok.2
      subst e9
      have hkd := mm_cls_spec hc9
      obtain ⟨hin9, hNF9, -, -⟩ := mm_CL_ok _ _ hcl9
      obtain ⟨hx9, hf9⟩ := mm_FT_spec (of_decide_eq_true hok.1.2) hcl9
      have hkd2 : mm_KD[c9]? = some (0, q.ci) := hkd
      refine va_get (D := D) (ci := q.ci) (v := mm_rv ad (mm_fv S c9 x)) (C := own) (T := T9) (N := N9) hx hb hts hin9 hown hK hP c9 (by rw [mm_W_at (mm_KD_lt hkd2), mm_ent_obj hkd2]) hcl9 x hx9 (hts _ hf9) (fun _ h9 => h9) ?_ (mm_dec_spec hok.1.1.1) (hk _ _ _ _ _ _ h ad H locs ls _ had (mm_nx_spec hok.1.1.2) hP hD hS hl)
      rw [hNF9]
      simp only [Option.getD_some]
      rw [List.getElem?_map, List.getElem?_range hx9]
      rfl
    · cases h
  · rename_i a9 c9 r9
    obtain ⟨T9, N9, hcl9⟩ := hcl
    rw [hcl9] at hok
    obtain ⟨⟨⟨hd1, hd2⟩, hd3⟩, hd4⟩ := hok
    have hd4 := of_decide_eq_true hd4
    obtain ⟨hin9, hNF9, ⟨ty9, hty9⟩, hnm9⟩ := mm_CL_ok _ _ hcl9
    obtain ⟨hx9, hf9⟩ := mm_FT_spec (of_decide_eq_true hd3) hcl9
    have key : ∀ (ty : FieldType), parseFieldDescriptor (T9 x).2.2.1 = some ty → narrow ty (.int a9) = .int a9 → fits ty (.int a9) = true → mm_KD[c9]? = some (0, q.ci) → mm_rf c9 x = none → k (j + 1) L r9 (mm_put S c9 x a9) kc ks = some r → W p l e R s m args below meth c H locs kc ks (vx_MQ below (mm_Qc D cy A ad0 ov q.rt r) (mm_XC D cy A ad0 ov r) args s r.2.1 r.2.2.1 A) (F0 m pc ls ((Sum.inl a9 :: Sum.inr c9 :: r9 : List MV).map (mm_rv ad))) := by
      intro ty hp hn hf hkd hrf h
      refine va_put (D := D) (ci := q.ci) (v := .int a9) (ty := ty) (C := own) (T := T9) (N := N9) hx hb hts hin9 ty9 hty9 hnm9 hown hK hP hD hS c9 (by rw [mm_W_at (mm_KD_lt hkd), mm_ent_obj hkd]) hcl9 x hx9 (hts _ hf9) (fun _ h9 => h9) hd4.1 hp hn hf ?_ (mm_dec_spec hd1) (fun H1 locs1 hP1 hD1 hS1 => ?_)
      · rw [hNF9]; simpa using hx9
      · rw [mm_W_obj hkd hrf] at hP1 hD1
        exact hk _ _ _ _ _ _ h ad H1 locs1 ls _ had (mm_nx_spec hd2) hP1 hD1 hS1 hl
    rcases hd4.2 with ⟨hp, e9⟩ | ⟨hp, e9⟩
    · subst e9
      split at h
      · rename_i hc9 hr9
        exact key .int hp rfl rfl (mm_cls_spec hc9) hr9 h
      · cases h
    · subst e9
      split at h
      · rename_i hc9 hr9
        split at h
        · rename_i e8; cases e8
        · split at h
          · rename_i hz
            exact key .boolean hp (mm_nar_bool hz) (mm_fit_bool hz) (mm_cls_spec hc9) hr9 h
          · cases h
      · cases h
  · rename_i i9 c9 r9
    unfold mm_arr at h
    split at h
    · rename_i t8 n8 hkd
      split at h
      · rename_i e8; subst e8
        split at h
        · cases h
        · rename_i hin
          exact va_iald (D := D) hx hb hK hP c9 0 (by rw [mm_W_at (mm_KD_lt hkd), mm_ent_int hkd]) rfl hin (mm_dec_spec hok.1) (hk _ _ _ _ _ _ h ad H locs ls _ had (mm_nx_spec hok.2) hP hD hS hl)
      · cases h
    · cases h
  · rename_i i9 c9 r9
    unfold mm_arr at h
    split at h
    · rename_i t8 n8 hkd
      split at h
      · rename_i e8; subst e8
        split at h
        · cases h
        · rename_i hin
          exact va_zald (D := D) hx hb hK hP c9 1 (by rw [mm_W_at (mm_KD_lt hkd), mm_ent_boo hkd]) rfl hin (mm_dec_spec hok.1) (hk _ _ _ _ _ _ h ad H locs ls _ had (mm_nx_spec hok.2) hP hD hS hl)
      · cases h
    · cases h
  · rename_i a9 i9 c9 r9
    unfold mm_arr at h
    split at h
    · rename_i t8 n8 hkd
      split at h
      · rename_i e8; subst e8
        split at h
        · cases h
        · rename_i hin
          refine va_iast (D := D) hx hb hK hP hD hS c9 0 (by rw [mm_W_at (mm_KD_lt hkd), mm_ent_int hkd]) rfl hin (mm_dec_spec hok.1) (fun H1 locs1 hP1 hD1 hS1 => ?_)
          rw [mm_W_arr hkd] at hP1 hD1
          exact hk _ _ _ _ _ _ h ad H1 locs1 ls _ had (mm_nx_spec hok.2) hP1 hD1 hS1 hl
      · cases h
    · cases h
  · rename_i a9 i9 c9 r9
    unfold mm_arr at h
    split at h
    · rename_i t8 n8 hkd
      split at h
      · rename_i e8; subst e8
        split at h
        · cases h
        · rename_i hin
          refine va_zast (D := D) hx hb hK hP hD hS c9 1 (by rw [mm_W_at (mm_KD_lt hkd), mm_ent_boo hkd]) rfl hin (mm_dec_spec hok.1) (fun H1 locs1 hP1 hD1 hS1 => ?_)
          rw [mm_W_boo hkd] at hP1 hD1
          exact hk _ _ _ _ _ _ h ad H1 locs1 ls _ had (mm_nx_spec hok.2) hP1 hD1 hS1 hl
      · cases h
    · cases h
  · rename_i c9 r9
    split at h
    · rename_i n8 hkd
      exact va_alen (D := D) (x := (mm_len S c9 n8, .inl (S c9))) hx hb hK hP c9 0 (by rw [mm_W_at (mm_KD_lt hkd), mm_ent_int hkd]) (ty := .int) rfl rfl (mm_dec_spec hok.1) (hk _ _ _ _ _ _ h ad H locs ls _ had (mm_nx_spec hok.2) hP hD hS hl)
    · cases h
  · rename_i a9
    have fin : ∀ (hr0 : q.rt ≠ 0) (hr : r = (S, kc, ks, 0, a9)) (t : State), t.heap = H → s.WarmedH t.vm → mm_Qc D cy A ad0 ov q.rt r args s (.returned (some (.int a9))) t := by
      intro hr0 hr t ht hW
      unfold mm_Qc
      rw [if_neg hr0]
      exact ⟨⟨a9, S, rfl, ⟨by rw [hr], by rw [hr], by rw [hr]⟩, ad, had, by rw [ht]; exact hP, va_K.moved hW.alike hK, hD⟩, hS.F ht⟩
    split at h
    · rename_i hr1
      have e8 := (Option.some.inj h).symm
      refine vx_ret ?_
      have e7 : r.2.1 = kc ∧ r.2.2.1 = ks := by rw [e8]; exact ⟨rfl, rfl⟩
      rw [e7.1, e7.2]
      exact W.iret hx hb (by rw [hret, hr1]; rfl) (fin (by omega) e8) hS.2.2 (mm_dec_spec hok)
    · rename_i hr2
      split at h
      · rename_i hz
        have e8 := (Option.some.inj h).symm
        refine vx_ret ?_
        have e7 : r.2.1 = kc ∧ r.2.2.1 = ks := by rw [e8]; exact ⟨rfl, rfl⟩
        rw [e7.1, e7.2]
        exact W.zret (ty := .boolean) hx hb (by rw [hret, hr2]; rfl) (mm_nar_bool hz) (fin (by omega) e8) hS.2.2 (mm_dec_spec hok)
      · cases h
    · cases h
  · split at h
    · rename_i hr0
      have e8 := (Option.some.inj h).symm
      refine vx_ret ?_
      have e7 : r.2.1 = kc ∧ r.2.2.1 = ks := by rw [e8]; exact ⟨rfl, rfl⟩
      rw [e7.1, e7.2]
      refine W.vret hx hb (by rw [hret, hr0]; rfl) (fun t ht hW => ?_) hS.2.2 (mm_dec_spec hok)
      unfold mm_Qc
      rw [if_pos hr0]
      exact ⟨⟨S, rfl, ⟨by rw [e8], by rw [e8]⟩, ad, had, by rw [ht]; exact hP, va_K.moved hW.alike hK, hD⟩, hS.F ht⟩
    · cases h
  · -- tableswitch
    obtain ⟨⟨⟨hd1, hd2⟩, hd3⟩, hd4⟩ := hok
    obtain ⟨n9, hd1⟩ := mm_decs_spec hd1
    split at h
    · rename_i hz
      obtain ⟨t9, ht9, e9⟩ := mm_jmp_spec hd2
      exact lv_tableOut hx hb hd1 hz e9 (hk _ _ _ _ _ _ h ad H locs ls _ had ht9 hP hD hS hl)
    · rename_i hz
      split at h
      · rename_i t8 ht8
        have hlt := (List.getElem?_eq_some_iff.mp ht8).1
        rw [← of_decide_eq_true hd3] at hlt
        have ho := Array.getElem?_eq_getElem hlt
        have h8 := List.all_eq_true.mp hd4 _ (List.mem_of_getElem? (List.getElem?_zip_eq_some.mpr ⟨(by rw [Array.getElem?_toList]; exact ho), ht8⟩ : (_ : List (Int × Nat))[_]? = some (_, t8)))
        obtain ⟨t9, ht9, e9⟩ := mm_jmp_spec h8
        exact lv_tableIn hx hb hd1 (fun z => hz (Or.inl z)) (fun z => hz (Or.inr z)) ho e9 (hk _ _ _ _ _ _ h ad H locs ls _ had ht9 hP hD hS hl)
      · cases h
  · -- lookupswitch
    obtain ⟨⟨⟨⟨hd1, hd2⟩, hd3⟩, hd4⟩, hd5⟩ := hok
    obtain ⟨n9, hd1⟩ := mm_decs_spec hd1
    obtain ⟨t9, ht9, e9⟩ := mm_jmp_spec (mm_lk_spec hd2 _ _ (of_decide_eq_true hd3) hd4)
    exact lv_lookup hx hb hd1 hd5 rfl e9 (hk _ _ _ _ _ _ h ad H locs ls _ had ht9 hP hD hS hl)
  · -- invokevirtual
    obtain ⟨⟨⟨hd1, hd2⟩, hd3⟩, hd4⟩ := hok
    obtain ⟨T9, N9, hcl9⟩ := hcl
    split at hd4
    · rename_i mi hmi
      have e9 := of_decide_eq_true hd4
      subst e9
      dsimp only at h
      split at h
      · rename_i b9 r9 hdrop
        split at h
        · rename_i hc9
          rw [Bool.and_eq_true, Bool.and_eq_true] at hc9
          obtain ⟨⟨hc1, hc2⟩, hc4⟩ := hc9
          exact mm_sound_call C0' hR hcall hkm hk (mm_dec_spec hd1) (mm_nx_spec hd2) (mm_CT_spec (of_decide_eq_true hd3) hcl9 hmi) hmi hdrop (mm_cls_spec hc1) hc2 (Nat.le_of_ble_eq_true hc4) h had hP hD hS hl hFc
        · cases h
      · cases h
    · cases hd4
  · -- invokestatic
    obtain ⟨⟨hd1, hd2⟩, hd3⟩ := hok
    obtain ⟨T9, N9, hcl9⟩ := hcl
    have hlk := hts _ (mm_ST_spec (of_decide_eq_true hd3) hcl9)
    have hls : c.maxLocals = ls.size := by rw [hml, hl.1]
    split at h
    · rename_i b9 a9 r9
      split at h
      · rename_i hz
        have hz := Nat.le_of_ble_eq_true hz
        exact va_mmin hx hb hls hown hlk (hts _ (mm_jw_in (by decide))) (hts _ (mm_jw_in (by decide))) (hts _ (mm_jw_in (List.mem_of_getElem? (i := 2) rfl))) (by omega) (by rw [mm_cats]; omega) (by omega) (by omega) (mm_dec_spec hd1) (hk _ _ _ _ _ _ h ad H locs ls _ had (mm_nx_spec hd2) hP hD hS hl)
      · cases h
    · rename_i b9 a9 r9
      split at h
      · rename_i hz
        have hz := Nat.le_of_ble_eq_true hz
        exact va_mmax hx hb hls hown hlk (hts _ (mm_jw_in (List.mem_of_getElem? (i := 3) rfl))) (hts _ (mm_jw_in (List.mem_of_getElem? (i := 1) rfl))) (hts _ (mm_jw_in (List.mem_of_getElem? (i := 4) rfl))) (by omega) (by rw [mm_cats]; omega) (by omega) (by omega) (mm_dec_spec hd1) (hk _ _ _ _ _ _ h ad H locs ls _ had (mm_nx_spec hd2) hP hD hS hl)
      · cases h
    · rename_i n9 dp9 c19 sp9 c09 r9
      split at h
      · rename_i n0 n1 hk0 hk1
        split at h
        · rename_i hz
          obtain ⟨hz0, hz1, hz2, hz3, hz4, hz5⟩ := hz
          refine va_copyi (D := D) (ty := .int) hx hb hls hown hlk (hts _ (mm_jw_in (List.mem_of_getElem? (i := 7) rfl))) (hts _ (mm_jw_in (List.mem_of_getElem? (i := 5) rfl))) (hts _ (mm_jw_in (List.mem_of_getElem? (i := 6) rfl))) hK hP hD hS c09 c19 0 0 (by rw [mm_W_at (mm_KD_lt hk0), mm_ent_int hk0]) (by rw [mm_W_at (mm_KD_lt hk1), mm_ent_int hk1]) rfl rfl rfl hz1 hz2 hz3 hz4 hz5 (fun _ _ => rfl) (by omega) ?_ (mm_dec_spec hd1) (fun H1 locs1 hP1 hD1 hS1 => ?_)
          · rw [mm_cats]
            have e7 : nativeFrameWords "java/lang/System" "arraycopy" 5 + 11 ≤ 200 := by decide
            omega
          · rw [mm_W_arr hk1] at hP1 hD1
            exact hk _ _ _ _ _ _ h ad H1 locs1 ls _ had (mm_nx_spec hd2) hP1 hD1 hS1 hl
        · cases h
      · cases h
    · cases h
  · -- throw new
    rename_i ix9 r9
    obtain ⟨⟨⟨⟨⟨⟨⟨hd1, hd2⟩, hd3⟩, hd4⟩, hd5⟩, hd6⟩, hd7⟩, hd8⟩ := hok
    split at h
    · cases h
    · rename_i x' hz
      have hz := Nat.le_of_ble_eq_true hz
      have hx0 : Nat.succ x' ≠ 0 := Nat.succ_ne_zero _
      have h : some (S, kc + 1, ks + 6, Nat.succ x', (0 : Int32)) = some r := h
      generalize Nat.succ x' = x at hd7 h hx0
      · have e8 := (Option.some.inj h).symm
        have e7 : r.2.1 = kc + 1 ∧ r.2.2.1 = ks + 6 := by rw [e8]; exact ⟨rfl, rfl⟩
        obtain ⟨T9, N9, hcl9⟩ := hcl
        have hci := of_decide_eq_true hd6
        rw [hci] at hcl9
        have hown7 : own = RX7 := by
          have h9 := Option.some.inj hcl9
          exact (congrArg Prod.fst h9).symm
        subst hown7
        have hxt := of_decide_eq_true hd7
        have h9a := List.all_eq_true.mp mm_XT_a _ hxt
        have h93 := List.all_eq_true.mp mm_XT_b _ hxt
        have h9e := List.all_eq_true.mp mm_XT_e _ hxt
        have h9f := List.all_eq_true.mp mm_XT_f _ hxt
        simp only [Bool.and_eq_true, decide_eq_true_eq] at h9a h9f
        obtain ⟨h91, h92⟩ := h9a
        obtain ⟨h96, h97⟩ := h9f
        obtain ⟨hE1, hE2, hE3, hE4⟩ := hEX
        obtain ⟨tx9, htx9, etx9⟩ := List.mem_map.mp (of_decide_eq_true hd8)
        obtain ⟨sa, hstr⟩ := hE4 tx9 htx9
        rw [etx9] at hstr
        have hXC : ∀ t : State, s.vm.Alike t.vm → H.size ≤ t.heap.size → (∀ z : Nat, z < H.size → t.heap[z]? = H[z]?) → mm_XC D cy A ad0 ov r (mm_exn x) s t := by
          intro t hal hsz hkeep
          refine ⟨S, ⟨by rw [e8], by rw [e8]; exact hx0⟩, ⟨by rw [e8], ad, had, hP.kept (fun k9 q9 hq9 => hkeep _ (hP k9 q9 hq9).lt), va_K.moved hal hK, hD⟩, Nat.le_trans hS.1 hsz, fun z hz1 hz2 => ?_⟩
          rw [hkeep z (Nat.lt_of_lt_of_le hz1 hS.1)]
          exact hS.2.1 z hz1 hz2
        by_cases hx5 : x = 5
        · subst hx5
          have hic : ts.getD 1 0 = 186 := by
            simp only [mm_XT, List.mem_cons, List.not_mem_nil, or_false, Prod.mk.injEq] at hxt
            omega
          rw [hic] at hd4
          exact mm_throw5 hx hb hst hown (hts _ h91) hts hE3 hstr hE1 hE2 hS (by rw [hl.1, hml]) (mm_dec_spec hd1) (mm_dec_spec hd2) (mm_dec_spec hd3) (mm_dec_spec hd4) (mm_dec_spec hd5) (fun z hz9 => absurd hz9 (hex z)) (by omega) (by rw [mm_cats]; omega) (by rw [hR.1, e7.1]; exact Nat.le_refl _) (by rw [hR.2.1, e7.2]; exact Nat.le_refl _) hlocks hXC hS.2.2 (by rw [e7.1]; exact Nat.le_refl _) (by rw [e7.2]; exact Nat.le_refl _)
        have hat : ∀ w ∈ vx_atS RX7 (ts.getD 1 0) (mm_exn x) mm_en, w.before args s = true ∧ vx_ot w = true := by
          intro w hw
          have h8 := List.all_eq_true.mp h9e w hw
          have h7 := mm_XT_at hxt hx5 w hw
          simp only [Bool.and_eq_true, Bool.or_eq_true] at h8
          refine ⟨?_, h8.1⟩
          rcases h8.2 with hg | hg
          · exact hts w (mm_in_ut h7 hg)
          · exact mm_cd_at hg (State.WarmedH.refl s) (hE3 w (List.mem_filter.mpr ⟨h7, hg⟩))
        refine vx_throwS (cls := mm_exn x) (names := mm_en) (A := A) hx hb hst hown h93 mm_fit_en (hts _ h91) (hts _ h92) hstr (fun w hw => (hat w hw).1) ?_ hE1 hE2 hS (by rw [hl.1, hml]) (mm_dec_spec hd1) (mm_dec_spec hd2) (mm_dec_spec hd3) (mm_dec_spec hd4) (mm_dec_spec hd5) (fun z hz9 => absurd hz9 (hex z)) (by show 2 + 3 < _; omega) ?_ (by rw [hR.1, e7.1]; exact Nat.le_refl _) (by rw [hR.2.1, e7.2]; exact Nat.le_refl _) hlocks ?_ hS.2.2 (by rw [e7.1]; exact Nat.le_refl _) (by rw [e7.2]; exact Nat.le_refl _)
        · intro w hw
          rcases List.mem_cons.mp hw with rfl | hw
          · exact h96
          · rcases List.mem_cons.mp hw with rfl | hw
            · exact h97
            · exact (hat w hw).2
        · rw [mm_cats]
          show _ + (13 * (2 + 1) + 43) ≤ _
          omega
        · exact hXC
    · cases h
  · cases h
end MMS
