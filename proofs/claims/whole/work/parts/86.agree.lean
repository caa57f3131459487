/-! PURE: sign, row, give, empty agree -/
section
variable {S S' : Mem} {k : KK} {C : Nat} {col : Nat → Nat} {n nv R : Nat} {sz : Nat → Nat} {cs : List Nat}
theorem okS_is {t : Nat} {r : List Nat} {x : Int32} (h : okS k (t :: r) x) : x = N1 ∨ x = N2 ∨ ∃ m, m < kM k ∧ x = nI m ∧ kTy k m = t := by
  rcases h with ⟨_, h | h⟩ | ⟨t', r', m, h1, h2, h3, h4⟩
  · exact Or.inl h
  · exact Or.inr (Or.inl h)
  · cases h1
    exact Or.inr (Or.inr ⟨m, h2, h3, h4⟩)
theorem ag_sign (x : Int32) (h : Inv S) : agr 60 93 128 [.inl x] [1, 2] S := by
  obtain ⟨k, C, col, n, nv, R, sz, hI⟩ := h
  have hI' := hI
  obtain ⟨⟨hW, a2, a3, a4, a5, a6⟩, hc, hh, hv, hr, ht⟩ := hI
  have n40 := hh.2.1.2.1
  by_cases y0 : C = 0
  · subst y0
    exact ⟨S, 1, 6, 1, 0, mm_put S 27 0 1, 0, mq_sign0 (d := 58) hc.1 x, mr_sign1 (d := 59) hc.2.1 (by omega) hh.1 n40 (Or.inl rfl) x, ⟨k, 0, col, n, nv, R, sz, Iv_27 hI' 1⟩, mpo_1 rfl, Or.inr ⟨0, rfl, rfl⟩⟩
  by_cases y4 : n = 40
  · exact ⟨S, 1, 6, 1, 0, mm_put S 27 0 1, 0, mq_sign_full (d := 58) hc.1 (by omega) hc.2.2.1 hh.2.1 y4 x, mr_sign1 (d := 59) hc.2.1 hc.2.2.1 hh.1 n40 (Or.inr y4) x, ⟨k, C, col, n, nv, R, sz, Iv_27 hI' 1⟩, mpo_1 rfl, Or.inr ⟨0, rfl, rfl⟩⟩
  have T := hW.1
  have hL : ∀ t, t ∈ stk k C col (S 34) n → t < 8 := fun t q => by
    have := stk_lt hW (fun c hc' => (hc.2.2.2 c hc').1) n hh.2.2.1 t q
    omega
  by_cases yo : okS k (stk k C col (S 34) n) x
  · cases hs : stk k C col (S 34) n with
    | nil =>
      rw [hs] at yo
      rcases yo with ⟨q, _⟩ | ⟨t, r, m, q, _⟩
      · exact absurd rfl q
      · cases q
    | cons t r =>
      have hlen := stk_len hW hc.2.2.1 (col := col) (x := S 34) n
      rw [hs, List.length_cons] at hlen
      have yo' := yo
      rw [hs] at yo' hL
      obtain ⟨S1, b1, b2, b3, b4⟩ := mq_sign_ok (d := 55) a2 hW hc.1 (by omega) hc.2.2.1 (by rw [← hs]; exact hh.2.1) hL y4 (by omega) yo'
      have r5 : mr_K S1 k := by
        unfold mr_K
        rw [b2 27 (by decide), b2 28 (by decide), b2 29 (by decide)]
        exact a5
      obtain ⟨f, _, d1⟩ := mr_sign2 (d := 57) (S := S1) (y := S 34) r5 hW (by rw [b2 27 (by decide)]; exact hc.2.1) hc.2.2.1 (by omega) (by rw [b2 31 (by decide)]; exact fun c q => (hc.2.2.2 c q).2.2) (by rw [b2 27 (by decide)]; exact hh.1) (by omega) (by rw [b2 34 (by decide)]; exact fun i _ => rfl) hh.2.2.1 (by rw [hs]; exact hL) x
      obtain ⟨S2, eS⟩ : ∃ S2, S2 = mm_put (mm_put (mm_put (mm_stc (mm_put S1 27 0 0) 36 f) 27 0 0) 34 n x) 27 8 (nI (n + 1)) := ⟨_, rfl⟩
      have F : mfr [11, 12, 14, 27, 34, 36] S S2 := by
        subst eS
        exact mfr_p (mfr_p (mfr_p (mfr_s (mfr_p (mfr_up b2 (by decide)) (by decide)) (by decide)) (by decide)) (by decide)) (by decide)
      have F1 : mfr [27, 34, 36] S1 S2 := by
        subst eS
        exact mfr_p (mfr_p (mfr_p (mfr_s (mfr_p mfr_rf (by decide)) (by decide)) (by decide)) (by decide)) (by decide)
      have e34 : S2 34 = upd (S 34) n x := by
        subst eS
        rw [← b2 34 (by decide)]
        rfl
      have e27 : ∀ j, j ≠ 0 → j ≠ 8 → S2 27 j = S 27 j := fun j h0 h8 => by
        subst eS
        rw [← b2 27 (by decide), mp_pk _ _ _ h8, mp_pn _ _ _ (by decide), mp_pk _ _ _ h0, mm_stc_ne _ _ (by decide), mp_pk _ _ _ h0]
      refine ⟨S1, 0, 0, 0, nI (n + 1), S2, nI (n + 1), b1, by rw [eS]; exact d1 yo, ⟨k, C, col, n + 1, nv, R, sz, ?_⟩, mpo_0 (F 55 (by decide)), Or.inl ⟨rfl, by subst eS; rfl, rfl⟩⟩
      refine ⟨iK_fr hI'.1 F rfl (by rw [F 30 (by decide)]; exact a6) (e27 1 (by decide) (by decide)) (e27 2 (by decide) (by decide)), iC_fr hc F rfl (e27 6 (by decide) (by decide)), ⟨by subst eS; rfl, ?_, ?_, ?_⟩, iV_fr hv F rfl (e27 9 (by decide) (by decide)), iR_fr hr F rfl (e27 7 (by decide) (by decide)), iT_fr ht F rfl (e27 24 (by decide) (by decide))⟩
      · rw [e34, stk_put hs]
        unfold mq_Hr
        rw [F1 11 (by decide), F1 14 (by decide)]
        exact b4
      · rw [e34]
        exact hnd_put hh.2.2.1 hs (okS_is yo')
      · rw [e34, F1 12 (by decide), b3]
        intro i hi
        unfold upd
        by_cases q : i = n
        · rw [if_pos q, if_pos q]
        · rw [if_neg q, if_neg q]; exact hh.2.2.2 i (by omega)
  · obtain ⟨f, d1, _⟩ := mr_sign2 (d := 57) (S := S) (y := S 34) a5 hW hc.2.1 hc.2.2.1 (by omega) (fun c q => (hc.2.2.2 c q).2.2) hh.1 (by omega) (fun i _ => rfl) hh.2.2.1 hL x
    refine ⟨S, 1, 6, 2, 0, _, 0, mq_sign_bad (d := 56) a2 hW hc.1 (by omega) hc.2.2.1 hh.2.1 hL y4 yo, d1 yo, ⟨k, C, col, n, nv, R, sz, ?_⟩, mpo_1 rfl, Or.inr ⟨1, rfl, rfl⟩⟩
    exact Iv_fr hI' (mfr_p (mfr_s (mfr_p mfr_rf (by decide)) (by decide)) (by decide)) (fun j hj => by rw [mp_pk _ _ _ (l27 j hj), mm_stc_ne _ _ (by decide), mp_pk _ _ _ (l27 j hj)])
theorem ag_give (x : Int32) (h : Inv S) : agr 60 100 130 [.inl x] [1, 2] S := by
  obtain ⟨k, C, col, n, nv, R, sz, hI⟩ := h
  have hI' := hI
  obtain ⟨⟨hW, a2, a3, a4, a5, a6⟩, hc, hh, hv, hr, ht⟩ := hI
  have n40 := hv.2.1.2.1
  by_cases y0 : C = 0
  · subst y0
    exact ⟨S, 1, 6, 1, 0, mm_put S 27 0 1, 0, mq_give0 (d := 58) hc.1 x, mr_give1 (d := 59) hc.2.1 (by omega) hv.1 n40 (Or.inl rfl) x, ⟨k, 0, col, n, nv, R, sz, Iv_27 hI' 1⟩, mpo_1 rfl, Or.inr ⟨0, rfl, rfl⟩⟩
  by_cases y4 : nv = 60
  · exact ⟨S, 1, 6, 1, 0, mm_put S 27 0 1, 0, mq_give_full (d := 58) hc.1 (by omega) hc.2.2.1 hv.2.1 y4 x, mr_give1 (d := 59) hc.2.1 hc.2.2.1 hv.1 n40 (Or.inr y4) x, ⟨k, C, col, n, nv, R, sz, Iv_27 hI' 1⟩, mpo_1 rfl, Or.inr ⟨0, rfl, rfl⟩⟩
  have T := hW.1
  have hL : ∀ t, t ∈ stk k C col (S 35) nv → t < 8 := fun t q => by
    have := stk_lt hW (fun c hc' => (hc.2.2.2 c hc').1) nv (hnv_hnd hv.2.2.1) t q
    omega
  by_cases yo : okV k (stk k C col (S 35) nv) x
  · have yo' := yo
    obtain ⟨t, r, m, hs, m1, m2, m3⟩ := yo'
    have hlen := stk_len hW hc.2.2.1 (col := col) (x := S 35) nv
    rw [hs, List.length_cons] at hlen
    have yo' := yo
    rw [hs] at yo' hL
    obtain ⟨S1, b1, b2, b3, b4⟩ := mq_give_ok (d := 55) a2 hW hc.1 (by omega) hc.2.2.1 (by rw [← hs]; exact hv.2.1) hL y4 (by omega) yo'
    have r5 : mr_K S1 k := by
      unfold mr_K
      rw [b2 27 (by decide), b2 28 (by decide), b2 29 (by decide)]
      exact a5
    obtain ⟨f, _, d1⟩ := mr_give2 (d := 57) (S := S1) (y := S 35) r5 hW (by rw [b2 27 (by decide)]; exact hc.2.1) hc.2.2.1 (by omega) (by rw [b2 31 (by decide)]; exact fun c q => (hc.2.2.2 c q).2.2) (by rw [b2 27 (by decide)]; exact hv.1) (by omega) (by rw [b2 35 (by decide)]; exact fun i _ => rfl) (hnv_hnd hv.2.2.1) (by rw [hs]; exact hL) x
    obtain ⟨S2, eS⟩ : ∃ S2, S2 = mm_put (mm_put (mm_put (mm_stc (mm_put S1 27 0 0) 36 f) 27 0 0) 35 nv x) 27 9 (nI (nv + 1)) := ⟨_, rfl⟩
    have F : mfr [15, 16, 18, 27, 35, 36] S S2 := by
      subst eS
      exact mfr_p (mfr_p (mfr_p (mfr_s (mfr_p (mfr_up b2 (by decide)) (by decide)) (by decide)) (by decide)) (by decide)) (by decide)
    have F1 : mfr [27, 35, 36] S1 S2 := by
      subst eS
      exact mfr_p (mfr_p (mfr_p (mfr_s (mfr_p mfr_rf (by decide)) (by decide)) (by decide)) (by decide)) (by decide)
    have e35 : S2 35 = upd (S 35) nv x := by
      subst eS
      rw [← b2 35 (by decide)]
      rfl
    have e27 : ∀ j, j ≠ 0 → j ≠ 9 → S2 27 j = S 27 j := fun j h0 h8 => by
      subst eS
      rw [← b2 27 (by decide), mp_pk _ _ _ h8, mp_pn _ _ _ (by decide), mp_pk _ _ _ h0, mm_stc_ne _ _ (by decide), mp_pk _ _ _ h0]
    refine ⟨S1, 0, 0, 0, nI (nv + 1), S2, nI (nv + 1), b1, by rw [eS]; exact d1 yo, ⟨k, C, col, n, nv + 1, R, sz, ?_⟩, mpo_0 (F 55 (by decide)), Or.inl ⟨rfl, by subst eS; rfl, rfl⟩⟩
    refine ⟨iK_fr hI'.1 F rfl (by rw [F 30 (by decide)]; exact a6) (e27 1 (by decide) (by decide)) (e27 2 (by decide) (by decide)), iC_fr hc F rfl (e27 6 (by decide) (by decide)), iH_fr hh F rfl (e27 8 (by decide) (by decide)), ⟨by subst eS; rfl, ?_, ?_, ?_⟩, iR_fr hr F rfl (e27 7 (by decide) (by decide)), iT_fr ht F rfl (e27 24 (by decide) (by decide))⟩
    · rw [e35, stk_put hs]
      unfold mq_Hv
      rw [F1 15 (by decide), F1 18 (by decide)]
      exact b4
    · rw [e35, m2]
      exact hnv_put hv.2.2.1 hs m1 m3
    · rw [e35, F1 16 (by decide), b3]
      intro i hi
      unfold upd
      by_cases q : i = nv
      · rw [if_pos q, if_pos q]
      · rw [if_neg q, if_neg q]; exact hv.2.2.2 i (by omega)
  · obtain ⟨f, d1, _⟩ := mr_give2 (d := 57) (S := S) (y := S 35) a5 hW hc.2.1 hc.2.2.1 (by omega) (fun c q => (hc.2.2.2 c q).2.2) hv.1 (by omega) (fun i _ => rfl) (hnv_hnd hv.2.2.1) hL x
    refine ⟨S, 1, 6, 2, 0, _, 0, mq_give_bad (d := 56) a2 hW hc.1 (by omega) hc.2.2.1 hv.2.1 hL y4 yo, d1 yo, ⟨k, C, col, n, nv, R, sz, ?_⟩, mpo_1 rfl, Or.inr ⟨1, rfl, rfl⟩⟩
    exact Iv_fr hI' (mfr_p (mfr_s (mfr_p mfr_rf (by decide)) (by decide)) (by decide)) (fun j hj => by rw [mp_pk _ _ _ (l27 j hj), mm_stc_ne _ _ (by decide), mp_pk _ _ _ (l27 j hj)])
theorem ag_empty (h : Inv S) : agr 60 103 131 [] [] S := by
  obtain ⟨k, C, col, n, nv, R, sz, hI⟩ := h
  have hI' := hI
  obtain ⟨⟨hW, a2, a3, a4, a5, a6⟩, hc, hh, hv, hr, ht⟩ := hI
  obtain ⟨S1, b1, b2, b3⟩ := mq_empty (d := 57) hc.1 hc.2.2.1 (fun c q => (hc.2.2.2 c q).2.1)
  have F : mfr [15, 18, 27] S (mm_put (mm_put S1 27 0 0) 27 9 0) := mfr_p (mfr_p (mfr_up b2 (by decide)) (by decide)) (by decide)
  have e27 : ∀ j, j ≠ 0 → j ≠ 9 → (mm_put (mm_put S1 27 0 0) 27 9 0) 27 j = S 27 j := fun j h0 h9 => by
    rw [← b2 27 (by decide), mp_pk _ _ _ h9, mp_pk _ _ _ h0]
  refine ⟨S1, 0, 0, 0, 0, _, 0, b1, mr_empty (d := 59), ⟨k, C, col, n, 0, R, sz, ?_⟩, mpo_0 (F 55 (by decide)), Or.inl ⟨rfl, rfl, rfl⟩⟩
  exact ⟨iK_fr hI'.1 F rfl (by rw [F 30 (by decide)]; exact a6) (e27 1 (by decide) (by decide)) (e27 2 (by decide) (by decide)), iC_fr hc F rfl (e27 6 (by decide) (by decide)), iH_fr hh F rfl (e27 8 (by decide) (by decide)), iV_0 rfl b3, iR_fr hr F rfl (e27 7 (by decide) (by decide)), iT_fr ht F rfl (e27 24 (by decide) (by decide))⟩
end
