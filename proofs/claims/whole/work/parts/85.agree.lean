/-! PURE: type, maker, isEmpty, match agree -/
section
variable {S S' : Mem} {k : KK} {C : Nat} {col : Nat → Nat} {n nv R : Nat} {sz : Nat → Nat} {cs : List Nat}
theorem l27 : ∀ j, j ∈ [1, 2, 6, 7, 8, 9, 24] → j ≠ 0 := by decide
theorem kCnt_T (t : Nat) : ∀ m, kCnt (kTyp k) t m = kCnt k t m := by
  intro m
  induction m with
  | zero => rfl
  | succ m ih => rw [kCnt_s, kCnt_s, ih]; rfl
theorem stk_T {x : Nat → Int32} : ∀ i, stk (kTyp k) C col x i = stk k C col x i := by
  intro i
  induction i with
  | zero => rfl
  | succ i ih =>
    unfold stk
    rw [ih]
    rfl
theorem lvl_T (t : Nat) : ∀ m i, lvl (kTyp k) t m i = lvl k t m i := by
  intro m
  induction m with
  | zero => intro i; rfl
  | succ m ih =>
    intro i
    by_cases y : kTy k i = t ∧ kLive k i
    · rw [lvl_t y, lvl_t (k := kTyp k) y, ih]
    · rw [lvl_f y, lvl_f (k := kTyp k) y, ih]
theorem tlL_T {G : Nat → Int32} {σ : SG} : ∀ l, tlL G (kTyp k) C σ l = tlL G k C σ l := by
  intro l
  induction l with
  | nil => rfl
  | cons c r ih => unfold tlL; rw [ih]; rfl
theorem gin_T {G : Nat → Int32} {g : Nat → Nat} {σ : SG} (h : gin G g k C R sz col σ []) : gin G g (kTyp k) C R sz col σ [] := by
  obtain ⟨h1, h2, h3, h4, h5, h6⟩ := h
  refine ⟨h1, (fun e he => by cases he), h3, h4, (fun p a b c => ?_), h6⟩
  unfold cmpW
  rw [lvl_T]
  exact h5 p a b c
theorem rnd_T {G : Nat → Int32} {σ : SG} (h : rnd S G k σ) : rnd S G (kTyp k) σ := by
  unfold rnd rn1
  simp only [lvl_T]
  exact h
theorem iX_T {σ : SG} (h : iX S k C σ) : iX S (kTyp k) C σ := by
  unfold iX tld
  simp only [tlL_T]
  exact h
theorem Iv_27 (h : Iv S k C col n nv R sz) (v : Int32) : Iv (mm_put S 27 0 v) k C col n nv R sz := Iv_fr h (mfr_put (by decide)) (fun j hj => mp_pk _ _ _ (l27 j hj))
theorem ag_type (h : Inv S) : agr 60 89 118 [] [1] S := by
  obtain ⟨k, C, col, n, nv, R, sz, hI⟩ := h
  have hI' := hI
  obtain ⟨⟨hW, a2, a3, a4, a5, a6⟩, hc, hh, hv, hr, ht⟩ := hI
  by_cases y : kT k = 8
  · exact ⟨S, 1, 6, 1, 0, mm_put S 27 0 1, 0, mp_type_full (d := 58) (by rw [a2.1, y]), mr_type_full (d := 59) (by rw [a5.1, y]), ⟨k, C, col, n, nv, R, sz, Iv_27 hI' 1⟩, mpo_1 rfl, Or.inr ⟨0, rfl, rfl⟩⟩
  · have hT := hW.1
    refine ⟨mm_put S 1 0 (nI (kT k + 1)), 0, 0, 0, nI (kT k), mm_put (mm_put (mm_put S 1 0 (nI (kT k + 1))) 27 0 0) 27 1 (nI (kT k + 1)), nI (kT k), mp_type_ok (d := 58) a2.1 (by omega), mr_type_ok (d := 59) a5.1 (by omega), ⟨kTyp k, C, col, n, nv, R, sz, ?_⟩, mpo_0 rfl, Or.inl ⟨rfl, rfl, rfl⟩⟩
    refine ⟨⟨kTyp_W hW (by omega), ⟨rfl, a2.2⟩, a3, ?_, ⟨rfl, a5.2⟩, a6⟩, ⟨hc.1, hc.2.1, hc.2.2.1, fun c q => ⟨Nat.lt_succ_of_lt (hc.2.2.2 c q).1, (hc.2.2.2 c q).2⟩⟩, ?_, ?_, hr, ?_⟩
    · intro t q
      rw [show kM (kTyp k) = kM k from rfl, kCnt_T]
      exact a4 t q
    · unfold iH hnd
      simp only [stk_T]
      exact hh
    · unfold iV hnv
      simp only [stk_T]
      exact hv
    · rcases ht with q | ⟨q1, q0, σ, q2, q3, q4, q5⟩
      · exact Or.inl q
      · exact Or.inr ⟨q1, q0, σ, gin_T q2, q3, rnd_T q4, iX_T q5⟩
theorem ag_isEmpty (x : Int32) (h : Inv S) : agr 60 91 123 [.inl x] [3] S := by
  obtain ⟨k, C, col, n, nv, R, sz, hI⟩ := h
  have hI' := hI
  obtain ⟨⟨hW, a2, a3, a4, a5, a6⟩, hc, hh, hv, hr, ht⟩ := hI
  by_cases y : mi x (kT k)
  · obtain ⟨t, t1, t2⟩ := y
    subst t2
    obtain ⟨f, b1, b2⟩ := mr_isEmpty_in (d := 56) a5 hW a6 t1
    have F : mfr [27, 30] S (mm_stc (mm_put S 27 0 0) 30 f) := mfr_s (mfr_put (by decide)) (by decide)
    refine ⟨S, 0, 0, 0, _, _, _, mq_isEmpty_in (d := 57) a2 hW a3 t1, b1, ⟨k, C, col, n, nv, R, sz, ?_⟩, mpo_0 rfl, Or.inl ⟨rfl, rfl, rfl⟩⟩
    exact ⟨iK_fr hI'.1 F rfl (fun t q => kV_8 hW b2 q) rfl rfl, iC_fr hc F rfl rfl, iH_fr hh F rfl rfl, iV_fr hv F rfl rfl, iR_fr hr F rfl rfl, iT_fr ht F rfl rfl⟩
  · exact ⟨S, 1, 6, 3, 0, mm_put S 27 0 1, 0, mq_isEmpty_out (d := 57) a2 hW y, mr_isEmpty_out (d := 56) a5 hW y, ⟨k, C, col, n, nv, R, sz, Iv_27 hI' 1⟩, mpo_1 rfl, Or.inr ⟨0, rfl, rfl⟩⟩
/-- nothing in the hands -/
theorem iH_0 (h8 : S 27 8 = nI 0) (hH : mq_Hr S 0 (seg col 0 C)) : iH S k C col 0 := ⟨h8, hH, fun i hi => absurd hi (by omega), fun i hi => absurd hi (by omega)⟩
theorem iV_0 (h9 : S 27 9 = nI 0) (hH : mq_Hv S 0 (seg col 0 C)) : iV S k C col 0 := ⟨h9, hH, fun i hi => absurd hi (by omega), fun i hi => absurd hi (by omega)⟩
theorem rws_0 (h8 : S 8 2 = nI 0) (h7 : S 27 7 = nI 0) : rws S k C 0 sz := ⟨by omega, h8, h7, fun r hr => absurd hr (by omega)⟩
theorem ag_match (a b c : Int32) (h : Inv S) : agr 60 92 125 [.inl a, .inl b, .inl c] [3] S := by
  obtain ⟨k, C, col, n, nv, R, sz, hI⟩ := h
  have hI' := hI
  obtain ⟨⟨hW, a2, a3, a4, a5, a6⟩, hc, hh, hv, hr, ht⟩ := hI
  by_cases y : a = N1 ∨ ¬ at3 (kT k) a b c
  · exact ⟨S, 1, 6, 3, 0, mm_put S 27 0 1, 0, mq_match_bad (d := 56) a2 hW y, mr_match_bad (d := 57) a5 hW y, ⟨k, C, col, n, nv, R, sz, Iv_27 hI' 1⟩, mpo_1 rfl, Or.inr ⟨0, rfl, rfl⟩⟩
  · have y1 : a ≠ N1 := fun q => y (Or.inl q)
    have y2 : at3 (kT k) a b c := Classical.byContradiction (fun q => y (Or.inr q))
    obtain ⟨S1, b1, b2, b3, b4, b5, b6, b7, b8⟩ := mq_match_ok (d := 56) a2 hW y1 y2
    have r5 : mr_K S1 k := by
      unfold mr_K
      rw [b2 27 (by decide), b2 28 (by decide), b2 29 (by decide)]
      exact a5
    have F2 : mfr [0, 7, 8, 11, 14, 15, 18, 19, 27, 31] S (mm_put (mm_put (mm_put (mm_put (mm_put (mm_put (mm_put (mm_put (mm_put S1 27 0 0) 31 0 a) 31 1 b) 31 2 c) 27 6 (nI (ct3 a b c))) 27 7 0) 27 8 0) 27 9 0) 27 24 N1) := by
      repeat refine mfr_p ?_ (by decide)
      exact mfr_up b2 (by decide)
    refine ⟨S1, 0, 0, 0, 0, _, 0, b1, mr_match_ok (d := 57) r5 hW y1 y2, ⟨k, ct3 a b c, tg3 a b c, 0, 0, 0, sz, ?_⟩, mpo_0 (F2 55 (by decide)), Or.inl ⟨rfl, rfl, rfl⟩⟩
    have T := hW.1
    have cols : ∀ j, j < ct3 a b c → tg3 a b c j < kT k ∧ (if j = 0 then a else if j = 1 then b else c) = nI (tg3 a b c j) := by
      intro j hj
      unfold ct3 at hj
      rw [if_neg y1] at hj
      rcases y2 with q | ⟨⟨t, t1, t2⟩, q⟩
      · exact absurd q y1
      · subst t2
        unfold tg3
        by_cases j0 : j = 0
        · rw [if_pos j0, if_pos j0, nI_clamp (by omega)]; exact ⟨t1, rfl⟩
        · rw [if_neg j0, if_neg j0]
          rcases q with q | ⟨⟨u, u1, u2⟩, q⟩
          · rw [if_pos q] at hj; omega
          · subst u2
            rw [if_neg (show ¬ nI u = N1 from fun w => (nn_a1 (a := u) (by omega)).mp w)] at hj
            by_cases j1 : j = 1
            · rw [if_pos j1, if_pos j1, nI_clamp (by omega)]; exact ⟨u1, rfl⟩
            · rw [if_neg j1, if_neg j1]
              rcases q with q | ⟨v, v1, v2⟩
              · rw [if_pos q] at hj; omega
              · subst v2
                rw [nI_clamp (by omega)]; exact ⟨v1, rfl⟩
    have c3 : ct3 a b c ≤ 3 := by unfold ct3; split <;> (try split) <;> (try split) <;> omega
    refine ⟨iK_fr hI'.1 F2 rfl (by rw [F2 30 (by decide)]; exact a6) (by show S1 27 1 = S 27 1; rw [b2 27 (by decide)]) (by show S1 27 2 = S 27 2; rw [b2 27 (by decide)]), ⟨b3, rfl, c3, fun j hj => ⟨(cols j hj).1, b4 j hj, ?_⟩⟩, iH_0 rfl b7, iV_0 rfl b8, rws_0 b5 rfl, Or.inl ⟨b6, rfl⟩⟩
    rw [← (cols j hj).2]
    show (mm_put (mm_put (mm_put S1 31 0 a) 31 1 b) 31 2 c) 31 j = _
    have j3 : j < 3 := by omega
    rcases (by omega : j = 0 ∨ j = 1 ∨ j = 2) with e | e | e <;> subst e <;> rfl
theorem ag_maker (x a b c : Int32) (h : Inv S) : agr 60 90 120 [.inl x, .inl a, .inl b, .inl c] [3, 1] S := by
  obtain ⟨k, C, col, n, nv, R, sz, hI⟩ := h
  have hI' := hI
  obtain ⟨⟨hW, a2, a3, a4, a5, a6⟩, hc, hh, hv, hr, ht⟩ := hI
  by_cases y : mi x (kT k) ∧ at3 (kT k) a b c
  · obtain ⟨⟨t, t1, t2⟩, y2⟩ := y
    subst t2
    by_cases z : kCnt k t (kM k) < 8 ∧ kM k < 40
    · obtain ⟨S1, b1, b2, b3, b4, b5, b6, b7, b8, b9, b10⟩ := mq_maker_ok (d := 53) a2 hW a3 a4 t1 y2 z
      have r5 : mr_K S1 k := by
        unfold mr_K
        rw [b2 27 (by decide), b2 28 (by decide), b2 29 (by decide)]
        exact a5
      obtain ⟨b', c', d1, d2, d3⟩ := mr_maker_ok (d := 57) r5 hW t1 y2 z
      have T := hW.1
      have c3 : ct3 a b c ≤ 3 := by unfold ct3; split <;> (try split) <;> (try split) <;> omega
      have tg : ∀ j, j < ct3 a b c → tg3 a b c j < kT k := by
        intro j hj
        unfold ct3 at hj
        rcases y2 with q | ⟨⟨t, t1, t2⟩, q⟩
        · rw [if_pos q] at hj; omega
        · subst t2
          rw [if_neg (show ¬ nI t = N1 from fun w => (nn_a1 (a := t) (by omega)).mp w)] at hj
          unfold tg3
          by_cases j0 : j = 0
          · rw [if_pos j0, nI_clamp (by omega)]; exact t1
          · rw [if_neg j0]
            rcases q with q | ⟨⟨u, u1, u2⟩, q⟩
            · rw [if_pos q] at hj; omega
            · subst u2
              rw [if_neg (show ¬ nI u = N1 from fun w => (nn_a1 (a := u) (by omega)).mp w)] at hj
              by_cases j1 : j = 1
              · rw [if_pos j1, nI_clamp (by omega)]; exact u1
              · rw [if_neg j1]
                rcases q with q | ⟨v, v1, v2⟩
                · rw [if_pos q] at hj; omega
                · subst v2
                  rw [nI_clamp (by omega)]; exact v1
      have K2 := mr_mk_K r5 hW (t := t) y2 d2 d3
      have F2 : mfr [27, 28, 29] S1 (mr_mk S1 (kM k) t a b' c') := by
        unfold mr_mk
        repeat refine mfr_p ?_ (by decide)
        exact mfr_rf
      refine ⟨S1, 0, 0, 0, _, _, _, b1, d1, ⟨kAdd k t (ct3 a b c) (tg3 a b c), 0, col, 0, 0, 0, sz, ?_⟩, mpo_0 ((F2 55 (by decide)).trans (b2 55 (by decide))), Or.inl ⟨rfl, rfl, rfl⟩⟩
      refine ⟨⟨kAdd_W hW z.2 t1 c3 tg, mq_K_fr b3 F2 rfl, by rw [F2 3 (by decide)]; exact b4, ?_, K2, by rw [F2 30 (by decide), b2 30 (by decide)]; exact a6⟩, ⟨b6, rfl, by omega, fun j hj => absurd hj (by omega)⟩, iH_0 rfl ?_, iV_0 rfl ?_, rws_0 b7 rfl, Or.inl ⟨b8, rfl⟩⟩
      · unfold mq_C
        rw [F2 2 (by decide)]
        exact b5
      · exact b9
      · exact b10
    · have c8 : kCnt k t (kM k) ≤ 8 := (a4 t (by have := hW.1; omega)).2
      exact ⟨S, 1, 6, 1, 0, mm_put S 27 0 2, 0, mq_maker_full (d := 56) a2 hW a4 t1 y2 z, mr_maker_full (d := 57) a5 hW t1 y2 c8 z, ⟨k, C, col, n, nv, R, sz, Iv_27 hI' 2⟩, mpo_1 rfl, Or.inr ⟨1, rfl, rfl⟩⟩
  · exact ⟨S, 1, 6, 3, 0, mm_put S 27 0 1, 0, mq_maker_bad (d := 56) a2 hW y, mr_maker_bad (d := 57) a5 hW y, ⟨k, C, col, n, nv, R, sz, Iv_27 hI' 1⟩, mpo_1 rfl, Or.inr ⟨0, rfl, rfl⟩⟩
end
