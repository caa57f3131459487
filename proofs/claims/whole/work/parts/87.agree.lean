/-! PURE: row, compile, node, missing, missingSign, isIdle, answer, tests, about agree -/
section
variable {S S' : Mem} {k : KK} {C : Nat} {col : Nat → Nat} {n nv R : Nat} {sz : Nat → Nat} {cs : List Nat}
theorem mends_ext {g h : Nat → Nat} {f f' : Nat → Int32} {i n : Nat} (hg : ∀ j, i ≤ j → j < n → g j = h j) (hf : ∀ j, i ≤ j → j < n → f' j = f j) (H : mends g f i n) : mends h f' i n := by
  intro j a b
  obtain ⟨l, l1, l2, l3⟩ := H j a b
  exact ⟨l, sq_ext (fun m p q => hg m (by omega) (by omega)) l1, l2, by rw [hf j a b]; exact l3⟩
theorem ag_row (h : Inv S) : agr 60 94 129 [] [1, 2] S := by
  obtain ⟨k, C, col, n, nv, R, sz, hI⟩ := h
  have hI' := hI
  obtain ⟨⟨hW, a2, a3, a4, a5, a6⟩, hc, hh, hv, hr, ht⟩ := hI
  have n40 := hh.2.1.2.1
  have R12 := hr.1
  by_cases y0 : C = 0
  · subst y0
    exact ⟨S, 1, 6, 1, 0, mm_put S 27 0 1, 0, mq_row0 (d := 58) hc.1, mr_row1 (d := 59) hc.2.1 (by omega) hr.2.2.1 R12 (Or.inl rfl), ⟨k, 0, col, n, nv, R, sz, Iv_27 hI' 1⟩, mpo_1 rfl, Or.inr ⟨0, rfl, rfl⟩⟩
  by_cases y4 : R = 12
  · exact ⟨S, 1, 6, 1, 0, mm_put S 27 0 1, 0, mq_row_full (d := 58) hc.1 (by omega) hc.2.2.1 (by rw [← y4]; exact hr.2.1), mr_row1 (d := 59) hc.2.1 hc.2.2.1 hr.2.2.1 R12 (Or.inr y4), ⟨k, C, col, n, nv, R, sz, Iv_27 hI' 1⟩, mpo_1 rfl, Or.inr ⟨0, rfl, rfl⟩⟩
  have T := hW.1
  have hL : ∀ t, t ∈ stk k C col (S 34) n → t < 8 := fun t q => by
    have := stk_lt hW (fun c hc' => (hc.2.2.2 c hc').1) n hh.2.2.1 t q
    omega
  by_cases ys : stk k C col (S 34) n = []
  · have hH := hh.2.1
    rw [ys] at hH
    obtain ⟨S1, b1, b2, b3, b4, b5, b6, b7, b8⟩ := mq_row_ok (d := 55) (x := S 34) (col := col) a2 hW hc.1 (by omega) hc.2.2.1 hr.2.1 (by omega) (fun c q => (hc.2.2.2 c q).2.1) hH (hnd_whole hh.2.2.1 ys) (fun i hi => hnd_sgn hh.2.2.1 hi) hh.2.2.2
    have r5 : mr_K S1 k := by
      unfold mr_K
      rw [b2 27 (by decide), b2 28 (by decide), b2 29 (by decide)]
      exact a5
    obtain ⟨f, _, d1⟩ := mr_row2 (d := 57) (S := S1) (y := S 34) (R := R) r5 hW (by rw [b2 27 (by decide)]; exact hc.2.1) hc.2.2.1 (by omega) (by rw [b2 31 (by decide)]; exact fun c q => (hc.2.2.2 c q).2.2) (by rw [b2 27 (by decide)]; exact hh.1) n40 (by rw [b2 27 (by decide)]; exact hr.2.2.1) (by omega) (by rw [b2 34 (by decide)]; exact fun i _ => rfl) hh.2.2.1 hL
    obtain ⟨g, d2, d3, d4⟩ := d1 ys
    obtain ⟨S2, eS⟩ : ∃ S2, S2 = mm_put (mm_put (mm_put (mm_stc (mm_put (mm_put (mm_stc (mm_put S1 27 0 0) 36 f) 27 0 0) 27 8 0) 32 g) 33 R (nI n)) 27 7 (nI (R + 1))) 27 24 N1 := ⟨_, rfl⟩
    have F1 : mfr [27, 32, 33, 36] S1 S2 := by
      subst eS
      exact mfr_p (mfr_p (mfr_p (mfr_s (mfr_p (mfr_p (mfr_s (mfr_p mfr_rf (by decide)) (by decide)) (by decide)) (by decide)) (by decide)) (by decide)) (by decide)) (by decide)
    have F : mfr [8, 9, 10, 11, 13, 14, 19, 27, 32, 33, 36] S S2 := mfr_tr (mfr_up b2 (by decide)) (mfr_up F1 (by decide))
    have e32 : S2 32 = g := by subst eS; rfl
    have e33 : S2 33 = upd (S 33) R (nI n) := by
      rw [← b2 33 (by decide)]
      subst eS; rfl
    have e27 : ∀ j, j ∈ [1, 2, 6, 9] → S2 27 j = S 27 j := fun j hj => by
      rw [← b2 27 (by decide)]
      subst eS
      rcases (by simpa using hj : j = 1 ∨ j = 2 ∨ j = 6 ∨ j = 9) with e | e | e | e <;> subst e <;> rfl
    have z : S2 27 0 = 0 := by subst eS; rfl
    obtain ⟨sz', ez⟩ : ∃ sz' : Nat → Nat, sz' = fun r => if r = R then n else sz r := ⟨_, rfl⟩
    rw [← eS] at d2
    refine ⟨S1, 0, 0, 0, nI R, S2, nI R, b1, d2, ⟨k, C, col, 0, nv, R + 1, sz', ?_⟩, mpo_0 (F 55 (by decide)), Or.inl ⟨rfl, z, rfl⟩⟩
    refine ⟨iK_fr hI'.1 F rfl (by rw [F 30 (by decide)]; exact a6) (e27 1 (by decide)) (e27 2 (by decide)), iC_fr hc F rfl (e27 6 (by decide)), iH_0 (by subst eS; rfl) ?_, iV_fr hv F rfl (e27 9 (by decide)), ⟨by omega, by rw [F1 8 (by decide)]; exact b4, by subst eS; rfl, fun r hr' => ?_⟩, Or.inl ⟨by rw [F1 19 (by decide)]; exact b5, by subst eS; rfl⟩⟩
    · unfold mq_Hr
      rw [F1 11 (by decide), F1 14 (by decide)]
      exact b3
    · have e32' := b2 32 (by decide)
      rw [e32, e33, F1 9 (by decide), F1 10 (by decide)]
      by_cases yr : r = R
      · subst yr
        rw [show sz' r = n by rw [ez]; exact if_pos rfl]
        have gk' : ∀ j, j < n → g (40 * r + j) = S 34 j := d4
        have s9 : ∀ p, 40 * r ≤ p → p < 40 * r + n → S1 9 p = g p := fun p p1 p2 => by
          have u := b7 (p - 40 * r) (by omega)
          have w := d4 (p - 40 * r) (by omega)
          rw [show 40 * r + (p - 40 * r) = p by omega] at u w
          rw [u, w]
        refine ⟨n40, pk_us, ?_, fun p p1 p2 => ⟨s9 p p1 p2, ?_⟩, mends_ext (fun j p q => by show kar k (S1 9 j) = kar k (g j); rw [s9 j p q]) (fun j _ _ => rfl) b8⟩
        · have := sq_shift (h := fun j => kar k (g j)) (o := 40 * r) (fun j p q => by show kar k (S 34 j) = kar k (g (40 * r + j)); rw [d4 j (by omega)]) (hnd_whole hh.2.2.1 ys)
          exact this
        · have w := d4 (p - 40 * r) (by omega)
          rw [show 40 * r + (p - 40 * r) = p by omega] at w
          rw [w]
          exact hnd_sgn hh.2.2.1 (by omega)
      · rw [show sz' r = sz r by rw [ez]; exact if_neg yr]
        obtain ⟨q1, q2, q3, q4, q5⟩ := hr.2.2.2 r (by omega)
        have gs : ∀ j, 40 * r ≤ j → j < 40 * r + sz r → g j = S 32 j := fun j p q => by rw [d3 j (by omega), e32']
        refine ⟨q1, by rw [pk_un yr]; exact q2, sq_ext (fun j p q => by show kar k (S 32 j) = kar k (g j); rw [gs j p q]) q3, fun p p1 p2 => ?_, mends_ext (fun j p q => by show kar k (S 32 j) = kar k (g j); rw [gs j p q]) (fun j p q => (b6 j (by omega)).2) q5⟩
        rw [(b6 p (by omega)).1, gs p p1 p2]
        exact q4 p p1 p2
  · obtain ⟨S1, b1, b2, b3⟩ := mq_row_bad (d := 57) (col := col) hc.1 (by omega) hc.2.2.1 hr.2.1 (by omega) (fun c q => (hc.2.2.2 c q).2.1) hh.2.1 ys
    have r5 : mr_K S1 k := by
      unfold mr_K
      rw [b2 27 (by decide), b2 28 (by decide), b2 29 (by decide)]
      exact a5
    obtain ⟨f, d1, _⟩ := mr_row2 (d := 57) (S := S1) (y := S 34) (R := R) r5 hW (by rw [b2 27 (by decide)]; exact hc.2.1) hc.2.2.1 (by omega) (by rw [b2 31 (by decide)]; exact fun c q => (hc.2.2.2 c q).2.2) (by rw [b2 27 (by decide)]; exact hh.1) n40 (by rw [b2 27 (by decide)]; exact hr.2.2.1) (by omega) (by rw [b2 34 (by decide)]; exact fun i _ => rfl) hh.2.2.1 hL
    obtain ⟨S2, eS⟩ : ∃ S2, S2 = mm_put (mm_put (mm_stc (mm_put S1 27 0 0) 36 f) 27 0 2) 27 8 0 := ⟨_, rfl⟩
    have F1 : mfr [27, 36] S1 S2 := by
      subst eS
      exact mfr_p (mfr_p (mfr_s (mfr_p mfr_rf (by decide)) (by decide)) (by decide)) (by decide)
    have F : mfr [11, 14, 27, 36] S S2 := mfr_tr (mfr_up b2 (by decide)) (mfr_up F1 (by decide))
    have e27 : ∀ j, j ≠ 0 → j ≠ 8 → S2 27 j = S 27 j := fun j h0 h8 => by
      rw [← b2 27 (by decide)]
      subst eS
      rw [mp_pk _ _ _ h8, mp_pk _ _ _ h0, mm_stc_ne _ _ (by decide), mp_pk _ _ _ h0]
    refine ⟨S1, 1, 6, 2, 0, S2, 0, b1, by rw [eS]; exact d1 ys, ⟨k, C, col, 0, nv, R, sz, ?_⟩, mpo_1 (F 55 (by decide)), Or.inr ⟨1, rfl, by subst eS; rfl⟩⟩
    refine ⟨iK_fr hI'.1 F rfl (by rw [F 30 (by decide)]; exact a6) (e27 1 (by decide) (by decide)) (e27 2 (by decide) (by decide)), iC_fr hc F rfl (e27 6 (by decide) (by decide)), iH_0 (by subst eS; rfl) ?_, iV_fr hv F rfl (e27 9 (by decide) (by decide)), iR_fr hr F rfl (e27 7 (by decide) (by decide)), iT_fr ht F rfl (e27 24 (by decide) (by decide))⟩
    unfold mq_Hr
    rw [F1 11 (by decide), F1 14 (by decide)]
    exact b3
theorem ag_compile {N : Nat} (hN : rm S N) (h : Inv S) : agr 60 95 145 [] [1, 4] S := by
  obtain ⟨k, C, col, n, nv, R, sz, hI⟩ := h
  have hI' := hI
  obtain ⟨⟨hW, a2, a3, a4, a5, a6⟩, hc, hh, hv, hr, ht⟩ := hI
  by_cases y0 : C = 0
  · subst y0
    exact ⟨S, 1, 6, 1, 0, mm_put S 27 0 1, 0, mq_compile0 (d := 58) hc.1, mr_compile0 (d := 59) hc.2.1, ⟨k, 0, col, n, nv, R, sz, Iv_27 hI' 1⟩, mpo_1 rfl, Or.inr ⟨0, rfl, rfl⟩⟩
  have h8 := iK_8 hI'.1
  obtain ⟨S1, c, s, b1, b2, b3, b4, b5⟩ := mq_compile (d := 52) (k := k) (C := C) (R := R) (sz := sz) (col := col) hW hc.2.2.1 (by omega) (fun c q => (hc.2.2.2 c q).1) h8 a2 a3 hr hN hc.1 (fun c q => (hc.2.2.2 c q).2.1)
  have r5 : mr_K S1 k := by
    unfold mr_K
    rw [b2 27 (by decide), b2 28 (by decide), b2 29 (by decide)]
    exact a5
  have hr1 : rws S1 k C R sz := iR_fr hr b2 rfl (by rw [b2 27 (by decide)])
  obtain ⟨S2, v, d1, d2, d3, d4, d5, d6⟩ := mr_compile (d := 52) (S := S1) (k := k) (C := C) (R := R) (sz := sz) (col := col) hW hc.2.2.1 (by omega) (fun c q => (hc.2.2.2 c q).1) h8 r5 hr1 (by rw [b2 30 (by decide)]; exact a6) (by rw [b2 27 (by decide)]; exact hc.2.1) (by rw [b2 31 (by decide)]; exact fun c q => (hc.2.2.2 c q).2.2)
  have e32 : S1 32 = S 32 := b2 32 (by decide)
  have eg : gk S1 k = gk S k := by unfold gk; rw [e32]
  rw [e32, eg] at d5 d6
  have F : mfr [19, 20, 21, 22, 23, 27, 30, 38, 39, 40, 41, 42, 43, 44, 45, 46, 47, 48, 49, 50, 51, 52, 55] S S2 := mfr_tr (mfr_up b2 (by decide)) (mfr_up d2 (by decide))
  have e27 : ∀ j, j < 10 → j ≠ 0 → S2 27 j = S 27 j := fun j p q => by rw [d3 j p q, b2 27 (by decide)]
  have k2 := iK_fr hI'.1 F rfl (fun t q => kV_8 hW d4 q) (e27 1 (by decide) (by decide)) (e27 2 (by decide) (by decide))
  have c2 := iC_fr hc F rfl (e27 6 (by decide) (by decide))
  have h2 := iH_fr hh F rfl (e27 8 (by decide) (by decide))
  have v2 := iV_fr hv F rfl (e27 9 (by decide) (by decide))
  have r2 := iR_fr hr F rfl (e27 7 (by decide) (by decide))
  have e55 : S2 55 = S1 55 := d2 55 (by decide)
  have e322 : S2 32 = S 32 := F 32 (by decide)
  cases hg : gal (S 32) (gk S k) k C R col with
  | none =>
    obtain ⟨w1, w2⟩ := b4 hg
    obtain ⟨w3, w4, w5⟩ := d6 hg
    exact ⟨S1, c + 1, s + 6, 4, 0, S2, v, w1, d1, ⟨k, C, col, n, nv, R, sz, k2, c2, h2, v2, r2, Or.inl ⟨by rw [d2 19 (by decide)]; exact w2, w4⟩⟩, mpo_t b1 e55, Or.inr ⟨1, rfl, w5⟩⟩
  | some σ =>
    obtain ⟨w1, w2, w3⟩ := b5 σ hg
    obtain ⟨w4, w5, w6, w7⟩ := d5 σ hg
    refine ⟨S1, c, s, 0, nI (gN σ), S2, v, w1, d1, ⟨k, C, col, n, nv, R, sz, k2, c2, h2, v2, r2, Or.inr ⟨by rw [d2 19 (by decide)]; exact w3, by omega, σ, ?_, ?_, ?_, Or.inl (by rw [d2 23 (by decide)]; exact b3)⟩⟩, mpo_p b1 e55, Or.inl ⟨rfl, w6, w4.symm⟩⟩
    · unfold gk
      rw [e322]
      exact w7
    · rw [e322]
      exact cnd_fr w2 d2 rfl
    · rw [e322]
      exact w5
theorem ag_node (x1 x2 : Int32) (h : Inv S) : agr 60 96 148 [.inl x1, .inl x2] [5] S := by
  obtain ⟨k, C, col, n, nv, R, sz, hI⟩ := h
  have h8 := iK_8 hI.1
  rcases hI.2.2.2.2.2 with ⟨q1, q2⟩ | ⟨q1, q0, σ, q2, q3, q4, q5⟩
  · exact ⟨S, 1, 6, 5, 0, mm_put S 27 0 1, 0, mq_node_bad (d := 56) (N := 0) (Or.inl q1), mr_node_bad (d := 58) (Or.inl q2), ⟨k, C, col, n, nv, R, sz, Iv_27 hI 1⟩, mpo_1 rfl, Or.inr ⟨0, rfl, rfl⟩⟩
  · have hN := q2.1.2.1
    by_cases y : mi x1 (gN σ)
    · obtain ⟨i, i1, i2⟩ := y
      subst i2
      exact ⟨S, 0, 0, 0, _, mm_put S 27 0 0, _, mq_node_ok (d := 56) q2 h8 q3 q1 i1 x2, mr_node_ok (d := 58) q2 h8 q4 i1 x2, ⟨k, C, col, n, nv, R, sz, Iv_27 hI 0⟩, mpo_0 rfl, Or.inl ⟨rfl, rfl, rfl⟩⟩
    · exact ⟨S, 1, 6, 5, 0, mm_put S 27 0 1, 0, mq_node_bad (d := 56) (Or.inr ⟨q1, q3.1, hN, y⟩), mr_node_bad (d := 58) (Or.inr ⟨gN σ, hN, q4.1, y⟩), ⟨k, C, col, n, nv, R, sz, Iv_27 hI 1⟩, mpo_1 rfl, Or.inr ⟨0, rfl, rfl⟩⟩
theorem ag_missing (h : Inv S) : agr 60 97 149 [] [] S := by
  obtain ⟨k, C, col, n, nv, R, sz, hI⟩ := h
  rcases hI.2.2.2.2.2 with ⟨q1, q2⟩ | ⟨q1, q0, σ, q2, q3, q4, q5⟩
  · exact ⟨S, 0, 0, 0, N1, mm_put S 27 0 0, N1, mq_missing0 (d := 58) q1, mr_missing0 (d := 59) q2, ⟨k, C, col, n, nv, R, sz, Iv_27 hI 0⟩, mpo_0 rfl, Or.inl ⟨rfl, rfl, rfl⟩⟩
  · exact ⟨S, 0, 0, 0, _, mm_put S 27 0 0, _, mq_missing1 (d := 58) q3 q1, mr_missing1 (d := 59) q4 q2.1.2.1, ⟨k, C, col, n, nv, R, sz, Iv_27 hI 0⟩, mpo_0 rfl, Or.inl ⟨rfl, rfl, rfl⟩⟩
theorem ag_missingSign (x1 x2 : Int32) (h : Inv S) : agr 60 98 150 [.inl x1, .inl x2] [5] S := by
  obtain ⟨k, C, col, n, nv, R, sz, hI⟩ := h
  have h8 := iK_8 hI.1
  have hI' := hI
  obtain ⟨⟨hW, a2, a3, a4, a5, a6⟩, hc, hh, hv, hr, ht⟩ := hI
  have two : ∀ {Z : Option Res}, Z = some (mm_put S 27 0 1, 0, 0, 0, 0) ∨ Z = some (mm_put (mm_put S 27 0 0) 27 0 1, 0, 0, 0, 0) → ∃ S2, Z = some (S2, 0, 0, 0, 0) ∧ Iv S2 k C col n nv R sz ∧ S2 27 0 = 1 ∧ S2 55 = S 55 := by
    intro Z hz
    rcases hz with e | e
    · exact ⟨_, e, Iv_27 hI' 1, rfl, rfl⟩
    · exact ⟨_, e, Iv_27 (Iv_27 hI' 0) 1, rfl, rfl⟩
  rcases ht with ⟨q1, q2⟩ | ⟨q1, q0, σ, q2, q3, q4, q5⟩
  · obtain ⟨S2, e1, e2, e3, e4⟩ := two (mr_ms_bad0 (d := 58) (x1 := x1) (x2 := x2) q2)
    exact ⟨S, 1, 6, 5, 0, S2, 0, mq_ms_bad (d := 58) (F := 0) (Or.inl q1), e1, ⟨k, C, col, n, nv, R, sz, e2⟩, mpo_1 e4, Or.inr ⟨0, rfl, e3⟩⟩
  · have hN := q2.1.2.1
    have hF := nfl_le (G := S 32) (τ := gT σ) (gN σ)
    by_cases y : mi x1 (nfl (S 32) (gT σ) (gN σ))
    · obtain ⟨q, p1, p2⟩ := y
      subst p2
      obtain ⟨x, hx⟩ := fln_ex p1
      obtain ⟨S1, b1, b2, b3⟩ := mq_ms_ok (d := 55) a2 hW hr hc.2.2.1 hc.1 q2 h8 q3 q1 q5 hx x2
      have r5 : mr_K S1 k := by
        unfold mr_K
        rw [b2 27 (by decide), b2 28 (by decide), b2 29 (by decide)]
        exact a5
      have e32 : S1 32 = S 32 := b2 32 (by decide)
      have eg : gk S1 k = gk S k := by unfold gk; rw [e32]
      have rn1 := rnd_fr q4 b2 rfl (by rw [b2 27 (by decide)])
      obtain ⟨w, f, d1⟩ := mr_ms_ok (d := 57) (S := S1) r5 hW (iR_fr hr b2 rfl (by rw [b2 27 (by decide)])) hc.2.2.1 (by rw [b2 27 (by decide)]; exact hc.2.1) (by rw [e32, eg]; exact q2.1) (by rw [e32]; exact rn1) (by rw [e32]; exact hx) x2
      obtain ⟨S2, eS⟩ : ∃ S2, S2 = mm_stc (mm_stc (mm_put (mm_put S1 27 0 0) 27 0 0) 52 w) 53 f := ⟨_, rfl⟩
      have F1 : mfr [27, 52, 53] S1 S2 := by
        subst eS
        exact mfr_s (mfr_s (mfr_p (mfr_p mfr_rf (by decide)) (by decide)) (by decide)) (by decide)
      have F : mfr [23, 24, 27, 52, 53] S S2 := mfr_tr (mfr_up b2 (by decide)) (mfr_up F1 (by decide))
      have e27 : ∀ j, j ≠ 0 → S2 27 j = S 27 j := fun j h0 => by
        rw [← b2 27 (by decide)]
        subst eS
        rw [mm_stc_ne _ _ (by decide), mm_stc_ne _ _ (by decide), mp_pk _ _ _ h0, mp_pk _ _ _ h0]
      rw [e32] at d1
      refine ⟨S1, 0, 0, 0, _, S2, _, b1, by rw [eS]; exact d1, ⟨k, C, col, n, nv, R, sz, ?_⟩, mpo_0 (F 55 (by decide)), Or.inl ⟨rfl, by subst eS; rfl, rfl⟩⟩
      refine ⟨iK_fr hI'.1 F rfl (by rw [F 30 (by decide)]; exact a6) (e27 1 (by decide)) (e27 2 (by decide)), iC_fr hc F rfl (e27 6 (by decide)), iH_fr hh F rfl (e27 8 (by decide)), iV_fr hv F rfl (e27 9 (by decide)), iR_fr hr F rfl (e27 7 (by decide)), Or.inr ⟨by rw [F 19 (by decide)]; exact q1, q0, σ, ?_, ?_, ?_, iX_fr b3 F1 rfl⟩⟩
      · unfold gk
        rw [F 32 (by decide)]
        exact q2
      · rw [F 32 (by decide)]
        exact cnd_fr q3 F rfl
      · rw [F 32 (by decide)]
        exact rnd_fr q4 F rfl (e27 24 (by decide))
    · obtain ⟨S2, e1, e2, e3, e4⟩ := two (mr_ms_bad1 (d := 58) (x1 := x1) (x2 := x2) q4 hN y)
      exact ⟨S, 1, 6, 5, 0, S2, 0, mq_ms_bad (d := 58) (Or.inr ⟨q1, q3.2.1, by omega, y⟩), e1, ⟨k, C, col, n, nv, R, sz, e2⟩, mpo_1 e4, Or.inr ⟨0, rfl, e3⟩⟩
theorem ag_isIdle (x : Int32) (h : Inv S) : agr 60 99 152 [.inl x] [5] S := by
  obtain ⟨k, C, col, n, nv, R, sz, hI⟩ := h
  have hr := hI.2.2.2.2.1
  have bad : (S 19 3 = 0 ∨ (S 19 3 = 1 ∧ ¬ mi x R)) → (S 27 24 = N1 ∨ ¬ mi x R) → agr 60 99 152 [.inl x] [5] S := fun e1 e2 =>
    ⟨S, 1, 6, 5, 0, mm_put S 27 0 1, 0, mq_isIdle_bad (d := 56) hr.2.1 e1 hr.1, mr_isIdle_bad (d := 59) hr.2.2.1 hr.1 e2, ⟨k, C, col, n, nv, R, sz, Iv_27 hI 1⟩, mpo_1 rfl, Or.inr ⟨0, rfl, rfl⟩⟩
  rcases hI.2.2.2.2.2 with ⟨q1, q2⟩ | ⟨q1, q0, σ, q2, q3, q4, q5⟩
  · exact bad (Or.inl q1) (Or.inl q2)
  · by_cases y : mi x R
    · obtain ⟨r, r1, r2⟩ := y
      subst r2
      exact ⟨S, 0, 0, 0, _, mm_put S 27 0 0, _, mq_isIdle_ok (d := 56) q3 q2.1.2.1 q1 hr.2.1 hr.1 r1, mr_isIdle_ok (d := 59) q4 q2.1.2.1 hr.2.2.1 hr.1 r1, ⟨k, C, col, n, nv, R, sz, Iv_27 hI 0⟩, mpo_0 rfl, Or.inl ⟨rfl, rfl, rfl⟩⟩
    · exact bad (Or.inr ⟨q1, y⟩) (Or.inr y)
theorem ag_about (x : Int32) (h : Inv S) : agr 60 104 154 [.inl x] [] S := by
  obtain ⟨k, C, col, n, nv, R, sz, hI⟩ := h
  have hI' := hI
  obtain ⟨⟨hW, a2, a3, a4, a5, a6⟩, hc, hh, hv, hr, ht⟩ := hI
  obtain ⟨v, ev⟩ : ∃ v : Nat → Int32, v = fun i => if i = 0 then S 27 1 else if i = 1 then S 27 2 else if i = 2 then S 27 6 else if i = 3 then S 27 7 else if i = 4 then S 27 8 else if i = 5 then S 27 9 else S 27 24 := ⟨_, rfl⟩
  refine ⟨S, 0, 0, 0, _, mm_put S 27 0 0, _, mq_about (d := 58) (v := v) ?_ ?_ ?_ ?_ ?_ ?_ ?_ x, mr_about (d := 59) (v := v) ?_ ?_ ?_ ?_ ?_ ?_ ?_ x, ⟨k, C, col, n, nv, R, sz, Iv_27 hI' 0⟩, mpo_0 rfl, Or.inl ⟨rfl, rfl, rfl⟩⟩
  · subst ev; exact a2.1.trans a5.1.symm
  · subst ev; exact a2.2.1.trans a5.2.1.symm
  · subst ev; exact hc.1.trans hc.2.1.symm
  · subst ev; exact hr.2.1.trans hr.2.2.1.symm
  · subst ev; exact hh.2.1.1.trans hh.1.symm
  · subst ev; exact hv.2.1.1.trans hv.1.symm
  · subst ev
    rcases ht with ⟨q1, q2⟩ | ⟨q1, q0, σ, q2, q3, q4, q5⟩
    · exact Or.inl ⟨q1, q2⟩
    · exact Or.inr ⟨q1, q3.1.trans q4.1.symm⟩
  all_goals (subst ev; rfl)
theorem ag_answer (h : Inv S) : agr 60 101 136 [] [1, 2] S := by
  obtain ⟨k, C, col, n, nv, R, sz, hI⟩ := h
  have hI' := hI
  obtain ⟨⟨hW, a2, a3, a4, a5, a6⟩, hc, hh, hv, hr, ht⟩ := hI
  have n60 := hv.2.1.2.1
  by_cases y0 : C = 0
  · subst y0
    refine ⟨S, 1, 6, 1, 0, mm_put S 27 0 1, 0, ?_, ?_, ⟨k, 0, col, n, nv, R, sz, Iv_27 hI' 1⟩, mpo_1 rfl, Or.inr ⟨0, rfl, rfl⟩⟩
    · show mm_runD (59 + 1) 101 [.inr 0] S = _
      rw [dX7_answer, eX7_answer_0, mq_whole0 (d := 57) hc.1, mm_bd_thr]
    · show mm_runD (59 + 1) 136 [.inr 27] S = _
      rw [dX8_answer, eX8_answer_0, mr_can0 (d := 58) hc.2.1, mm_bd_ret, if_pos rfl]
  have T := hW.1
  have hL : ∀ t, t ∈ stk k C col (S 35) nv → t < 8 := fun t q => by
    have := stk_lt hW (fun c hc' => (hc.2.2.2 c hc').1) nv (hnv_hnd hv.2.2.1) t q
    omega
  by_cases ys : stk k C col (S 35) nv = []
  · have hH := hv.2.1
    rw [ys] at hH
    have hvq := hnd_whole (hnv_hnd hv.2.2.1) ys
    obtain ⟨S1, b1, b2⟩ := mq_answer (d := 14) (X := S 35) a2 hW hc.1 (by omega) hc.2.2.1 hH hv.2.2.2 (fun i hi => hnd_sgn (hnv_hnd hv.2.2.1) hi) hvq hr
    have r5 : mr_K S1 k := by
      unfold mr_K
      rw [b2 27 (by decide), b2 28 (by decide), b2 29 (by decide)]
      exact a5
    have r27 : S1 27 = S 27 := b2 27 (by decide)
    obtain ⟨f, _, d1⟩ := mr_can (d := 56) (S := S1) (y := S 35) (col := col) r5 hW (by rw [r27]; exact hc.2.1) hc.2.2.1 (by omega) (by rw [b2 31 (by decide)]; exact fun c q => (hc.2.2.2 c q).2.2) (by rw [r27]; exact hv.1) n60 (by rw [b2 35 (by decide)]; exact fun i _ => rfl) (hnv_hnd hv.2.2.1) hL
    obtain ⟨Z, eZ⟩ : ∃ Z, Z = mm_put (mm_stc S1 36 f) 27 0 0 := ⟨_, rfl⟩
    have FZ : mfr [17, 27, 36] S Z := by
      subst eZ
      exact mfr_p (mfr_s (mfr_up b2 (by decide)) (by decide)) (by decide)
    have z27 : ∀ j, j ≠ 0 → Z 27 j = S 27 j := fun j h0 => by
      rw [← r27]
      subst eZ
      rw [mp_pk _ _ _ h0, mm_stc_ne _ _ (by decide)]
    have zK : mr_K Z k := by
      unfold mr_K
      rw [FZ 28 (by decide), FZ 29 (by decide), z27 1 (by decide), z27 2 (by decide)]
      exact a5
    obtain ⟨f', d2⟩ := mr_answer_loop (d := 55) (S := Z) (nv := nv) (C := C) (R := R) (sz := sz) zK hW (by rw [z27 6 (by decide)]; exact hc.2.1) hc.2.2.1 (by rw [z27 9 (by decide)]; exact hv.1) n60 (by
        rw [FZ 35 (by decide)]
        intro i hi
        obtain ⟨t, r, _, m, m1, m2, _⟩ := hv.2.2.1 i hi
        exact ⟨m, m1, m2⟩) (by rw [FZ 35 (by decide)]; exact hvq) (iR_fr hr FZ rfl (z27 7 (by decide))) R 0 (Z 37) rfl (by omega)
    rw [mm_stc_self, nI_0, FZ 32 (by decide), FZ 35 (by decide)] at d2
    refine ⟨S1, 0, 0, 0, _, mm_stc Z 37 f', _, b1, ?_, ⟨k, C, col, n, nv, R, sz, ?_⟩, mpo_0 (FZ 55 (by decide)), Or.inl ⟨rfl, by subst eZ; rfl, rfl⟩⟩
    · show mm_runD (59 + 1) 136 [.inr 27] S1 = _
      rw [dX8_answer, eX8_answer_0, d1 ys, mm_bd_ret, if_neg (by decide), ← eZ]
      exact d2
    · refine Iv_fr hI' (mfr_s (mfr_up FZ (by decide)) (by decide)) (fun j hj => ?_)
      rw [mm_stc_ne _ _ (by decide)]
      exact z27 j (l27 j hj)
  · obtain ⟨f, d1, _⟩ := mr_can (d := 56) (S := S) (y := S 35) (col := col) a5 hW hc.2.1 hc.2.2.1 (by omega) (fun c q => (hc.2.2.2 c q).2.2) hv.1 n60 (fun i _ => rfl) (hnv_hnd hv.2.2.1) hL
    refine ⟨S, 1, 6, 2, 0, mm_put (mm_stc S 36 f) 27 0 2, 0, ?_, ?_, ⟨k, C, col, n, nv, R, sz, Iv_fr hI' (mfr_p (mfr_s mfr_rf (by decide)) (by decide)) (fun j hj => by rw [mp_pk _ _ _ (l27 j hj), mm_stc_ne _ _ (by decide)])⟩, mpo_1 rfl, Or.inr ⟨1, rfl, rfl⟩⟩
    · show mm_runD (59 + 1) 101 [.inr 0] S = _
      rw [dX7_answer, eX7_answer_0, mq_whole1 (d := 57) hc.1 (by omega) hc.2.2.1 hv.2.1 ys, mm_bd_thr]
    · show mm_runD (59 + 1) 136 [.inr 27] S = _
      rw [dX8_answer, eX8_answer_0, d1 ys, mm_bd_ret, if_pos rfl]
theorem ag_tests (h : Inv S) : agr 60 102 153 [] [1, 2, 5] S := by
  obtain ⟨k, C, col, n, nv, R, sz, hI⟩ := h
  have h8 := iK_8 hI.1
  have hI' := hI
  obtain ⟨⟨hW, a2, a3, a4, a5, a6⟩, hc, hh, hv, hr, ht⟩ := hI
  have n60 := hv.2.1.2.1
  by_cases y0 : C = 0
  · subst y0
    exact ⟨S, 1, 6, 1, 0, mm_put S 27 0 1, 0, mq_tests0 (d := 57) hc.1, mr_tests0 (d := 58) hc.2.1, ⟨k, 0, col, n, nv, R, sz, Iv_27 hI' 1⟩, mpo_1 rfl, Or.inr ⟨0, rfl, rfl⟩⟩
  have T := hW.1
  have hL : ∀ t, t ∈ stk k C col (S 35) nv → t < 8 := fun t q => by
    have := stk_lt hW (fun c hc' => (hc.2.2.2 c hc').1) nv (hnv_hnd hv.2.2.1) t q
    omega
  obtain ⟨f, d1, d2⟩ := mr_tests1 (d := 56) (S := S) (y := S 35) (col := col) a5 hW hc.2.1 hc.2.2.1 (by omega) (fun c q => (hc.2.2.2 c q).2.2) hv.1 n60 (fun i _ => rfl) (hnv_hnd hv.2.2.1) hL
  by_cases ys : stk k C col (S 35) nv = []
  · have hH := hv.2.1
    rw [ys] at hH
    rcases ht with ⟨q1, q2⟩ | ⟨q1, q0, σ, q2, q3, q4, q5⟩
    · exact ⟨S, 1, 6, 5, 0, _, 0, mq_tests2 (d := 57) hc.1 (by omega) hc.2.2.1 hH q1, d2 ys q2, ⟨k, C, col, n, nv, R, sz, Iv_fr hI' (mfr_p (mfr_p (mfr_s mfr_rf (by decide)) (by decide)) (by decide)) (fun j hj => by rw [mp_pk _ _ _ (l27 j hj), mp_pk _ _ _ (l27 j hj), mm_stc_ne _ _ (by decide)])⟩, mpo_1 rfl, Or.inr ⟨2, rfl, rfl⟩⟩
    · have hN := q2.1.2.1
      obtain ⟨t1, t2⟩ := sit_0 hW hr hc.2.2.1 q2.1 hv.2.2.1 ys
      obtain ⟨m, m1, m2⟩ := WK_some (X := S 35) (nv := nv) hW hr q2 300 0 (nth (fun j => kar k (S 35 j)) 0) (by have := q2.1.1; omega) (by omega) t2
      obtain ⟨S1, b1, b2⟩ := mq_tests_ok (d := 55) (X := S 35) a2 hW h8 hr hc.1 (by omega) hc.2.2.1 q2 q3 q1 hH hv.2.2.2 hv.2.2.1 ys m1 (by omega)
      have r27 : S1 27 = S 27 := b2 27 (by decide)
      have r5 : mr_K S1 k := by
        unfold mr_K
        rw [r27, b2 28 (by decide), b2 29 (by decide)]
        exact a5
      have e32 : S1 32 = S 32 := b2 32 (by decide)
      have e35 : S1 35 = S 35 := b2 35 (by decide)
      have eg : gk S1 k = gk S k := by unfold gk; rw [e32]
      obtain ⟨S2, f2, c1, c2⟩ := mr_tests_ok (d := 56) (S := S1) (col := col) (σ := σ) (n := m) r5 hW (iR_fr hr b2 rfl (by rw [r27])) (by rw [r27]; exact hc.2.1) (by omega) hc.2.2.1 (by rw [b2 31 (by decide)]; exact fun c q => (hc.2.2.2 c q).2.2) (by rw [e32, eg]; exact q2) (by rw [e32]; exact rnd_fr q4 b2 rfl (by rw [r27])) (by rw [r27]; exact hv.1) n60 (by rw [e35]; exact hv.2.2.1) (by rw [e35]; exact ys) (by rw [e32, e35]; exact m1)
      have F : mfr scr S S2 := mfr_tr (mfr_p (mfr_s (mfr_up b2 (by decide)) (by decide)) (by decide)) (mfr_up c2 (by decide))
      refine ⟨S1, 0, 0, 0, _, S2, _, b1, c1, ⟨k, C, col, n, nv, R, sz, Iv_fr hI' F (fun j hj => ?_)⟩, mpo_0 ?_, Or.inl ⟨rfl, ?_, rfl⟩⟩
      · rw [c2 27 (by decide), mp_pk _ _ _ (l27 j hj), mm_stc_ne _ _ (by decide), r27]
      · rw [c2 55 (by decide), mp_pn _ _ _ (by decide), mm_stc_ne _ _ (by decide), b2 55 (by decide)]
      · rw [c2 27 (by decide), mp_pp]
  · exact ⟨S, 1, 6, 2, 0, _, 0, mq_tests1 (d := 57) hc.1 (by omega) hc.2.2.1 hv.2.1 ys, d1 ys, ⟨k, C, col, n, nv, R, sz, Iv_fr hI' (mfr_p (mfr_s mfr_rf (by decide)) (by decide)) (fun j hj => by rw [mp_pk _ _ _ (l27 j hj), mm_stc_ne _ _ (by decide)])⟩, mpo_1 rfl, Or.inr ⟨1, rfl, rfl⟩⟩
end
