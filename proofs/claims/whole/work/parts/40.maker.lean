/-! PURE: promises 2 to 5: type, maker, isEmpty, match -/
section
variable {d : Nat} {S : Mem} {k : KK}
theorem mq_hasRoom (hK : mq_K S k) (hW : kW k) (hC : mq_C S k) {t : Nat} (ht : t < kT k) : mm_runD (d + 2) 21 [.inr 1, .inl (nI t)] S = some (S, 0, 0, 0, mb (kCnt k t (kM k) < 8 ∧ kM k < 40)) := by
  have hT := hW.1
  have hM := hW.2.1
  obtain ⟨h1, h2⟩ := hC t (by omega)
  rw [dX2_hasRoomForMaker, eX2_hasRoomForMaker_0, mq_hasType hK hW, mm_bd_ret, mb_t (mi_in ht), if_neg (by decide), ar_2 (by omega), h1, hK.2.1]
  by_cases q : kCnt k t (kM k) < 8
  · rw [if_neg (show ¬ (8 : Int32) ≤ nI _ from nI_ge (b := 8) q (by decide))]
    by_cases z : kM k < 40
    · rw [if_neg (show ¬ (40 : Int32) ≤ nI _ from nI_ge (b := 40) z (by decide)), mb_t ⟨q, z⟩] <;> rfl
    · rw [if_pos (show (40 : Int32) ≤ nI _ from nI_le (a := 40) (by omega) (by omega)), mb_f (fun w => z w.2)] <;> rfl
  · rw [if_pos (show (8 : Int32) ≤ nI _ from nI_le (a := 8) (by omega) (by omega)), mb_f (fun w => q w.1)] <;> rfl
theorem mq_addMaker (hK : mq_K S k) (hW : kW k) (hV : kV (S 3) k) (hC : mq_C S k) {t f : Nat} {g : Nat → Nat} {x y z : Int32} (ht : t < kT k) (hr : kCnt k t (kM k) < 8) (hM4 : kM k < 40) (hf : f ≤ 3) (hg : ∀ j, j < f → g j < kT k) (hx : 0 < f → x = nI (g 0)) (hy : 1 < f → y = nI (g 1)) (hz : 2 < f → z = nI (g 2)) :
    ∃ S', mm_runD (d + 6) 28 [.inr 1, .inl (nI t), .inl (nI f), .inl x, .inl y, .inl z] S = some (S', 0, 0, 0, nI (kM k)) ∧ mfr [1, 2, 3, 4, 5, 6] S S' ∧ mq_K S' (kAdd k t f g) ∧ kV (S' 3) (kAdd k t f g) ∧ mq_C S' (kAdd k t f g) := by
  have hT := hW.1
  have hW' := kAdd_W (k := k) hW hM4 ht hf hg
  have eS : ∃ S1, S1 = mm_put (mm_put (mm_put (mm_put (mm_put (mm_put (mm_put S 1 1 (nI (kM k + 1))) 2 t (nI (kCnt k t (kM k) + 1))) 4 (kM k) (nI t)) 5 (kM k) (nI f)) 6 (kM k * 3) x) 6 (kM k * 3 + 1) y) 6 (kM k * 3 + 2) z := ⟨_, rfl⟩
  obtain ⟨S1, eS⟩ := eS
  have hK1 : mq_K S1 (kAdd k t f g) := by
    subst eS
    refine ⟨?_, ?_, fun m hm => ?_⟩
    · exact hK.1
    · exact rfl
    · rw [kAdd_M] at hm
      rcases Nat.lt_or_ge m (kM k) with q | q
      · obtain ⟨h1, h2, h3⟩ := kAdd_old (t := t) (f := f) (g := g) q
        obtain ⟨h4, h5, h6⟩ := hK.2.2 m q
        rw [h1, h2, h3]
        refine ⟨?_, ?_, fun j hj => ?_⟩
        · simp (disch := omega) only [mp_pn, mp_pk]; exact h4
        · simp (disch := omega) only [mp_pn, mp_pk]; exact h5
        · have := (hW.2.2 m q).2.1
          simp (disch := omega) only [mp_pn, mp_pk]; exact h6 j hj
      · have e : m = kM k := by omega
        subst e
        obtain ⟨h1, h2, h3⟩ := kAdd_new (k := k) (t := t) (f := f) (g := g)
        rw [h1, h2, h3]
        refine ⟨?_, ?_, fun j hj => ?_⟩
        · simp (disch := omega) only [mp_pn, mp_pp]
        · simp (disch := omega) only [mp_pn, mp_pp]
        · rcases (show j = 0 ∨ j = 1 ∨ j = 2 by omega) with rfl | rfl | rfl
          · rw [show 3 * kM k + 0 = kM k * 3 by omega]; simp (disch := omega) only [mp_pk, mp_pp]; exact hx hj
          · rw [show 3 * kM k + 1 = kM k * 3 + 1 by omega]; simp (disch := omega) only [mp_pk, mp_pp]; exact hy hj
          · rw [show 3 * kM k + 2 = kM k * 3 + 2 by omega]; simp (disch := omega) only [mp_pp]; exact hz hj
  have hC1 : mq_C S1 (kAdd k t f g) := by
    subst eS
    intro u hu
    obtain ⟨h1, h2⟩ := hC u hu
    rw [kAdd_M, kCnt_add]
    by_cases e : t = u
    · subst e
      rw [if_pos rfl]
      refine ⟨?_, by omega⟩
      simp (disch := omega) only [mp_pn, mp_pp]
    · rw [if_neg e]
      refine ⟨?_, by omega⟩
      simp (disch := omega) only [mp_pn, mp_pk]
      exact h1
  have hF1 : mfr [1, 2, 3, 4, 5, 6] S S1 := by
    subst eS
    exact mfr_tr (mfr_tr (mfr_tr (mfr_tr (mfr_tr (mfr_tr (mfr_put (by simp)) (mfr_put (by simp))) (mfr_put (by simp))) (mfr_put (by simp))) (mfr_put (by simp))) (mfr_put (by simp))) (mfr_put (by simp))
  have h3 : S1 3 = S 3 := by subst eS; rfl
  obtain ⟨f', h5, h6⟩ := mq_findValued (d := d) hK1 hW' (by rw [h3]; exact fun u => ⟨(hV u).1, fun q => kAdd_Val ((hV u).2.mp q)⟩)
  refine ⟨mm_stc S1 3 f', ?_, mfr_tr hF1 (mfr_stc (by simp)), hK1, by rw [mm_stc_at]; exact h6, hC1⟩
  obtain ⟨h1, h2⟩ := hC t (by omega)
  rw [dX2_addMaker, eX2_addMaker_0, mq_hasRoom hK hW hC ht, mm_bd_ret, mb_t ⟨hr, hM4⟩, if_neg (by decide), hK.2.1, nI_1, ar_2 (by omega), ar_2 (by omega), mp_pn _ _ _ (by decide), h1, nI_1, ar_4 (by omega), ar_5 (by omega), li_3, nn_mul, ar_6 (by omega), nI_1, ar_6 (by omega), li_2, nI_add, ar_6 (by omega), ← eS, h5, mm_bd_ret]
end
