/-! PURE: the class's two hands -/
def mq_Hr (S : Mem) (n : Nat) (L : List Nat) : Prop := S 11 4 = nI n ∧ n ≤ 40 ∧ S 11 5 = nI L.length ∧ L.length ≤ 83 ∧ mstk (S 14) L
section
variable {d : Nat} {S : Mem} {k : KK} {n : Nat} {L : List Nat}
theorem mq_asksr (h : mq_Hr S n L) : mm_runD (d + 1) 9 [.inr 11] S = some (S, 0, 0, 0, mb (L ≠ [])) := by
  obtain ⟨h1, h2, h3, h4, h5⟩ := h
  rw [dX1_asks_11, eX1_asks_11_0, h3]
  cases L with
  | nil => rw [mb_f (fun q => q rfl), if_pos (by decide)] <;> rfl
  | cons t r => rw [mb_t (by simp), if_neg (nI_nle (by simp) (by omega))] <;> rfl
theorem mq_isFullr (h : mq_Hr S n L) : mm_runD (d + 1) 8 [.inr 11] S = some (S, 0, 0, 0, mb (n = 40)) := by
  obtain ⟨h1, h2, h3, h4, h5⟩ := h
  rw [dX1_isFull_11, eX1_isFull_11_0, h1]
  rcases Nat.lt_or_ge n 40 with q | q
  · rw [mb_f (by omega), if_pos (show nI n < 40 from nI_lt (b := 40) q (by decide))] <;> rfl
  · rw [mb_t (by omega), if_neg (show ¬ nI n < 40 from nI_nlt (b := 40) q (by omega))] <;> rfl
theorem mq_countr (h : mq_Hr S n L) : mm_runD (d + 1) 7 [.inr 11] S = some (S, 0, 0, 0, nI n) := by
  rw [dX1_count_11, eX1_count_11_0, h.1]
theorem mq_nextAskedr {t : Nat} (h : mq_Hr S n (t :: L)) : mm_runD (d + 1) 15 [.inr 11] S = some (S, 0, 0, 0, nI t) := by
  obtain ⟨h1, h2, h3, h4, h5⟩ := h
  rw [List.length_cons] at h3 h4
  rw [dX1_nextAsked_11, eX1_nextAsked_11_0, h3, if_neg (nI_nle (by omega) (by omega)), if_neg (show ¬ (83 : Int32) < nI _ from nI_nlt (a := 83) h4 (by decide)), nI_pred, ar_14 (by omega), h5.1]
theorem mq_askr {t : Nat} (h : mq_Hr S n L) (hL : L.length < 83) : ∃ S', mm_runD (d + 1) 16 [.inr 11, .inl (nI t)] S = some (S', 0, 0, 0, 0) ∧ mfr [11, 14] S S' ∧ mq_Hr S' n (t :: L) := by
  obtain ⟨h1, h2, h3, h4, h5⟩ := h
  refine ⟨mm_put (mm_put S 14 L.length (nI t)) 11 5 (nI (L.length + 1)), ?_, mfr_tr (mfr_put (by simp)) (mfr_put (by simp)), ?_⟩
  · rw [dX1_ask_11, eX1_ask_11_0, h3, if_neg (nI_pos (by omega)), if_neg (show ¬ (83 : Int32) ≤ nI _ from nI_ge (b := 83) hL (by decide)), ar_14 hL, mp_pn _ _ _ (by decide), h3, nI_1]
  · refine ⟨?_, h2, ?_, by rw [List.length_cons]; omega, ?_⟩
    · rw [mp_pk _ _ _ (by decide), mp_pn _ _ _ (by decide)]; exact h1
    · rw [mp_pp, List.length_cons]
    · rw [mp_pn _ _ _ (by decide)]
      have : mm_put S 14 L.length (nI t) 14 = upd (S 14) L.length (nI t) := mm_stc_at _ _ _
      rw [this]
      exact mstk_push rfl h5
theorem mq_begin_loopr {o : Option MV} {C : Nat} {col : Nat → Nat} : ∀ (i : Nat) (S : Mem), i ≤ C → C ≤ 3 → (∀ c, c < C → S 7 c = nI (col c)) → mq_Hr S 0 (seg col i (C - i)) → ∃ S', mm_E (mm_runD (d + 1)) pX1_begin 0 13 [some (.inr 11), some (.inr 7), o, some (.inl (nI i - 1))] [] S 0 0 = some (S', 0, 0, 0, 0) ∧ mfr [11, 14] S S' ∧ mq_Hr S' 0 (seg col 0 C) := by
  intro i
  induction i with
  | zero =>
    intro S hi hC hc h
    refine ⟨S, ?_, mfr_rf, h⟩
    rw [eX1_begin_11_13, if_pos (by decide)]
  | succ i ih =>
    intro S hi hC hc h
    obtain ⟨S1, h1, h2, h3⟩ := mq_askr (d := d) (t := col i) h (by rw [seg_len]; omega)
    have e : col i :: seg col (i + 1) (C - (i + 1)) = seg col i (C - i) := by
      rw [show C - i = (C - (i + 1)) + 1 by omega] <;> rfl
    rw [e] at h3
    obtain ⟨S2, h4, h5, h6⟩ := ih S1 (by omega) hC (fun c hcc => by rw [h2 7 (by decide)]; exact hc c hcc) h3
    refine ⟨S2, ?_, mfr_tr h2 h5, h6⟩
    rw [eX1_begin_11_13, nI_pred, if_neg (nI_pos (by omega)), ar_7 (by omega), hc i (by omega), h1, mm_bd_ret, nn_sm]
    exact h4
theorem mq_beginr {C : Nat} {col : Nat → Nat} (hC : C ≤ 3) (hc : ∀ c, c < C → S 7 c = nI (col c)) : ∃ S', mm_runD (d + 2) 6 [.inr 11, .inr 7, .inl (nI C)] S = some (S', 0, 0, 0, 0) ∧ mfr [11, 14] S S' ∧ mq_Hr S' 0 (seg col 0 C) := by
  have hh : mq_Hr (mm_put (mm_put S 11 4 0) 11 5 0) 0 (seg col C (C - C)) := by
    rw [Nat.sub_self]
    refine ⟨?_, by omega, ?_, by simp [seg], trivial⟩
    · rw [mp_pk _ _ _ (by decide), mp_pp] <;> rfl
    · rw [mp_pp] <;> rfl
  obtain ⟨S', h1, h2, h3⟩ := mq_begin_loopr (d := d) (o := some (.inl (nI C))) C (mm_put (mm_put S 11 4 0) 11 5 0) (Nat.le_refl _) hC (fun c hcc => by rw [mp_pn _ _ _ (by decide), mp_pn _ _ _ (by decide)]; exact hc c hcc) hh
  refine ⟨S', ?_, mfr_tr (mfr_tr (mfr_put (by simp)) (mfr_put (by simp))) h2, h3⟩
  rw [dX1_begin_11, eX1_begin_11_0, if_neg (show ¬ (3 : Int32) < nI C from nI_nlt (a := 3) (by omega) (by decide))]
  exact h1
theorem mq_takesr (hK : mq_K S k) (hW : kW k) (h : mq_Hr S n L) (hL : ∀ t, t ∈ L → t < 8) (x : Int32) : mm_runD (d + 3) 10 [.inr 11, .inl x] S = some (S, 0, 0, 0, mb (∃ t r m, L = t :: r ∧ m < kM k ∧ x = nI m ∧ kTy k m = t)) := by
  have hT := hW.1
  have hM := hW.2.1
  rw [dX1_takesMaker_11, eX1_takesMaker_11_0, mq_asksr h, mm_bd_ret]
  cases L with
  | nil => rw [mb_f (fun q => q rfl), if_pos rfl, mb_f (by rintro ⟨t, r, m, h1, _⟩; cases h1)] <;> rfl
  | cons t r =>
    rw [mb_t (by simp), if_neg (by decide), mq_hasMaker hK hW, mm_bd_ret]
    by_cases q : mi x (kM k)
    · obtain ⟨m, hm, rfl⟩ := q
      have b := (hW.2.2 m hm).1
      rw [mb_t (mi_in hm), if_neg (by decide), mq_typeOf hK hW hm, mm_bd_ret, mq_nextAskedr h, mm_bd_ret]
      have ht8 := hL t (by simp)
      by_cases z : nI (kTy k m) = nI t
      · rw [if_pos z, mb_t ⟨t, r, m, rfl, hm, rfl, (nI_eq (by omega) (by omega)).mp z⟩] <;> rfl
      · rw [if_neg z, mb_f]
        rintro ⟨t', r', m', h1, h2, h3, h4⟩
        cases h1
        have := (nI_eq (by omega) (by omega)).mp h3
        subst this
        exact z (by rw [h4])
    · rw [mb_f q, if_pos rfl, mb_f (by rintro ⟨t', r', m', h1, h2, h3, h4⟩; exact q ⟨m', h2, h3⟩)] <;> rfl
theorem mq_fields_loopr (hW : kW k) {m : Nat} (hm : m < kM k) {o : Option MV} {r : List Nat} : ∀ (i : Nat) (S : Mem), i ≤ kFc k m → mq_K S k → r.length + 3 ≤ 83 → mq_Hr S n (seg (kFt k m) i (kFc k m - i) ++ r) → ∃ S', mm_E (mm_runD (d + 3)) pX1_put 1 46 [some (.inr 11), some (.inl (nI m)), o, some (.inl (nI i - 1))] [] S 0 0 = some (S', 0, 0, 0, nI n) ∧ mfr [11, 14] S S' ∧ mq_Hr S' n (seg (kFt k m) 0 (kFc k m) ++ r) := by
  intro i
  have h3 := (hW.2.2 m hm).2.1
  induction i with
  | zero =>
    intro S hi hK hr h
    refine ⟨S, ?_, mfr_rf, h⟩
    rw [eX1_put_11_46, if_pos (by decide), h.1]
  | succ i ih =>
    intro S hi hK hr h
    obtain ⟨S1, h1, h2, h3⟩ := mq_askr (d := d + 2) (t := kFt k m i) h (by rw [List.length_append, seg_len]; omega)
    have e : kFt k m i :: (seg (kFt k m) (i + 1) (kFc k m - (i + 1)) ++ r) = seg (kFt k m) i (kFc k m - i) ++ r := by
      rw [show kFc k m - i = (kFc k m - (i + 1)) + 1 by omega] <;> rfl
    rw [e] at h3
    obtain ⟨S2, h4, h5, h6⟩ := ih S1 (by omega) (mq_K_fr hK h2 rfl) hr h3
    refine ⟨S2, ?_, mfr_tr h2 h5, h6⟩
    rw [eX1_put_11_46, nI_pred, if_neg (nI_pos (by omega)), mq_fieldType hK hW hm (by omega), mm_bd_ret, h1, mm_bd_ret, nn_sm]
    exact h4
/-- a sign is put where a type is asked for -/
theorem mq_putr (hK : mq_K S k) (hW : kW k) {t : Nat} {r : List Nat} (h : mq_Hr S n (t :: r)) (hn : n < 40) (hr : r.length + 3 ≤ 83) {x : Int32} (hx : sgn k x) :
    ∃ S', mm_runD (d + 4) 11 [.inr 11, .inl x] S = some (S', 0, 0, 0, nI (n + 1)) ∧ mfr [11, 12, 14] S S' ∧ S' 12 = upd (S 12) n x ∧ mq_Hr S' (n + 1) (stp k t x ++ r) := by
  have hM := hW.2.1
  obtain ⟨h1, h2, h3, h4, h5⟩ := h
  have hS3 : mq_Hr (mm_put (mm_put (mm_put S 11 5 (nI r.length)) 12 n x) 11 4 (nI (n + 1))) (n + 1) r := by
    refine ⟨?_, by omega, ?_, by omega, ?_⟩
    · rw [mp_pp]
    · rw [mp_pk _ _ _ (by decide), mp_pn _ _ _ (by decide), mp_pp]
    · rw [mp_pn _ _ _ (by decide), mp_pn _ _ _ (by decide), mp_pn _ _ _ (by decide)]
      exact h5.2
  have hF3 : mfr [11, 12, 14] S (mm_put (mm_put (mm_put S 11 5 (nI r.length)) 12 n x) 11 4 (nI (n + 1))) := mfr_tr (mfr_tr (mfr_put (by simp)) (mfr_put (by simp))) (mfr_put (by simp))
  have hs3 : (mm_put (mm_put (mm_put S 11 5 (nI r.length)) 12 n x) 11 4 (nI (n + 1))) 12 = upd (S 12) n x := by
    rw [mp_pn _ _ _ (by decide)]
    exact (mm_stc_at _ _ _).trans (by rw [mp_pn _ _ _ (by decide)])
  generalize hg : mm_put (mm_put (mm_put S 11 5 (nI r.length)) 12 n x) 11 4 (nI (n + 1)) = S3 at hS3 hF3 hs3
  have hK3 := mq_K_fr hK hF3 rfl
  have hh : mq_Hr S n (t :: r) := ⟨h1, h2, h3, h4, h5⟩
  have e1 : S 11 5 - 1 = nI r.length := by rw [h3, List.length_cons, nI_pred]
  have start : mm_runD (d + 4) 11 [.inr 11, .inl x] S = (if x = -2 then mm_bd (mm_runD (d + 3) 16 [.inr 11, .inl (nI t)] S3) 0 0 (fun S5 c5 t5 a5 => mm_bd (mm_runD (d + 3) 16 [.inr 11, .inl (nI t)] S5) c5 t5 (fun S6 c6 t6 a6 => mm_bd (mm_runD (d + 3) 24 [.inr 1, .inl x] S6) c6 t6 (fun S7 c7 t7 a7 => mm_E (mm_runD (d + 3)) pX1_put 1 46 [some (.inr 11), some (.inl x), some (.inl (nI t)), some (.inl (a7 - 1))] [] S7 c7 t7))) else mm_bd (mm_runD (d + 3) 24 [.inr 1, .inl x] S3) 0 0 (fun S7 c7 t7 a7 => mm_E (mm_runD (d + 3)) pX1_put 1 46 [some (.inr 11), some (.inl x), some (.inl (nI t)), some (.inl (a7 - 1))] [] S7 c7 t7)) := by
    rw [dX1_put_11, eX1_put_11_0, mq_isFullr hh, mm_bd_ret, mb_f (by omega), if_pos rfl, mq_asksr hh, mm_bd_ret, mb_t (by simp), if_neg (by decide), mq_nextAskedr hh, mm_bd_ret, e1, mp_pk _ _ _ (by decide), h1, ar_12 hn, mp_pn _ _ _ (by decide), mp_pk _ _ _ (by decide), h1, nI_1, hg]
  rcases hx with rfl | rfl | ⟨m, hm, rfl⟩
  · refine ⟨S3, ?_, hF3, hs3, by rw [stp_A hW]; exact hS3⟩
    rw [start, if_neg (by decide), mq_fieldCount hK3 hW, mm_bd_ret, kfc_N1 hW, eX1_put_11_46, if_pos (by decide), hS3.1]
  · obtain ⟨S4, a1, a2, a3⟩ := mq_askr (d := d + 2) (t := t) hS3 (by omega)
    obtain ⟨S5, b1, b2, b3⟩ := mq_askr (d := d + 2) (t := t) a3 (by rw [List.length_cons]; omega)
    have hK5 := mq_K_fr (mq_K_fr hK3 a2 rfl) b2 rfl
    refine ⟨S5, ?_, mfr_tr hF3 (mfr_up (mfr_tr a2 b2) (by simp)), by rw [b2 _ (by decide), a2 _ (by decide)]; exact hs3, by rw [stp_E]; exact b3⟩
    rw [start, if_pos rfl, a1, mm_bd_ret, b1, mm_bd_ret, mq_fieldCount hK5 hW, mm_bd_ret, kfc_N2 hW, eX1_put_11_46, if_pos (by decide), b3.1]
  · have hm3 := (hW.2.2 m hm).2.1
    obtain ⟨S4, a1, a2, a3⟩ := mq_fields_loopr (d := d) (n := n + 1) hW hm (o := some (.inl (nI t))) (r := r) (kFc k m) S3 (Nat.le_refl _) hK3 hr (by rw [Nat.sub_self]; exact hS3)
    refine ⟨S4, ?_, mfr_tr hF3 (mfr_up a2 (by simp)), by rw [a2 _ (by decide)]; exact hs3, by rw [stp_M hW hm]; exact a3⟩
    rw [start, if_neg (fun q => (nn_a2 (a := m) (by omega)).mp q), mq_fieldCount hK3 hW, mm_bd_ret, kfc_in hW hm]
    exact a1
end
def mq_Hv (S : Mem) (n : Nat) (L : List Nat) : Prop := S 15 4 = nI n ∧ n ≤ 60 ∧ S 15 5 = nI L.length ∧ L.length ≤ 123 ∧ mstk (S 18) L
section
variable {d : Nat} {S : Mem} {k : KK} {n : Nat} {L : List Nat}
theorem mq_asksv (h : mq_Hv S n L) : mm_runD (d + 1) 9 [.inr 15] S = some (S, 0, 0, 0, mb (L ≠ [])) := by
  obtain ⟨h1, h2, h3, h4, h5⟩ := h
  rw [dX1_asks_15, eX1_asks_15_0, h3]
  cases L with
  | nil => rw [mb_f (fun q => q rfl), if_pos (by decide)] <;> rfl
  | cons t r => rw [mb_t (by simp), if_neg (nI_nle (by simp) (by omega))] <;> rfl
theorem mq_isFullv (h : mq_Hv S n L) : mm_runD (d + 1) 8 [.inr 15] S = some (S, 0, 0, 0, mb (n = 60)) := by
  obtain ⟨h1, h2, h3, h4, h5⟩ := h
  rw [dX1_isFull_15, eX1_isFull_15_0, h1]
  rcases Nat.lt_or_ge n 60 with q | q
  · rw [mb_f (by omega), if_pos (show nI n < 60 from nI_lt (b := 60) q (by decide))] <;> rfl
  · rw [mb_t (by omega), if_neg (show ¬ nI n < 60 from nI_nlt (b := 60) q (by omega))] <;> rfl
theorem mq_countv (h : mq_Hv S n L) : mm_runD (d + 1) 7 [.inr 15] S = some (S, 0, 0, 0, nI n) := by
  rw [dX1_count_15, eX1_count_15_0, h.1]
theorem mq_nextAskedv {t : Nat} (h : mq_Hv S n (t :: L)) : mm_runD (d + 1) 15 [.inr 15] S = some (S, 0, 0, 0, nI t) := by
  obtain ⟨h1, h2, h3, h4, h5⟩ := h
  rw [List.length_cons] at h3 h4
  rw [dX1_nextAsked_15, eX1_nextAsked_15_0, h3, if_neg (nI_nle (by omega) (by omega)), if_neg (show ¬ (123 : Int32) < nI _ from nI_nlt (a := 123) h4 (by decide)), nI_pred, ar_18 (by omega), h5.1]
theorem mq_askv {t : Nat} (h : mq_Hv S n L) (hL : L.length < 123) : ∃ S', mm_runD (d + 1) 16 [.inr 15, .inl (nI t)] S = some (S', 0, 0, 0, 0) ∧ mfr [15, 18] S S' ∧ mq_Hv S' n (t :: L) := by
  obtain ⟨h1, h2, h3, h4, h5⟩ := h
  refine ⟨mm_put (mm_put S 18 L.length (nI t)) 15 5 (nI (L.length + 1)), ?_, mfr_tr (mfr_put (by simp)) (mfr_put (by simp)), ?_⟩
  · rw [dX1_ask_15, eX1_ask_15_0, h3, if_neg (nI_pos (by omega)), if_neg (show ¬ (123 : Int32) ≤ nI _ from nI_ge (b := 123) hL (by decide)), ar_18 hL, mp_pn _ _ _ (by decide), h3, nI_1]
  · refine ⟨?_, h2, ?_, by rw [List.length_cons]; omega, ?_⟩
    · rw [mp_pk _ _ _ (by decide), mp_pn _ _ _ (by decide)]; exact h1
    · rw [mp_pp, List.length_cons]
    · rw [mp_pn _ _ _ (by decide)]
      have : mm_put S 18 L.length (nI t) 18 = upd (S 18) L.length (nI t) := mm_stc_at _ _ _
      rw [this]
      exact mstk_push rfl h5
theorem mq_begin_loopv {o : Option MV} {C : Nat} {col : Nat → Nat} : ∀ (i : Nat) (S : Mem), i ≤ C → C ≤ 3 → (∀ c, c < C → S 7 c = nI (col c)) → mq_Hv S 0 (seg col i (C - i)) → ∃ S', mm_E (mm_runD (d + 1)) pX1_begin 0 13 [some (.inr 15), some (.inr 7), o, some (.inl (nI i - 1))] [] S 0 0 = some (S', 0, 0, 0, 0) ∧ mfr [15, 18] S S' ∧ mq_Hv S' 0 (seg col 0 C) := by
  intro i
  induction i with
  | zero =>
    intro S hi hC hc h
    refine ⟨S, ?_, mfr_rf, h⟩
    rw [eX1_begin_15_13, if_pos (by decide)]
  | succ i ih =>
    intro S hi hC hc h
    obtain ⟨S1, h1, h2, h3⟩ := mq_askv (d := d) (t := col i) h (by rw [seg_len]; omega)
    have e : col i :: seg col (i + 1) (C - (i + 1)) = seg col i (C - i) := by
      rw [show C - i = (C - (i + 1)) + 1 by omega] <;> rfl
    rw [e] at h3
    obtain ⟨S2, h4, h5, h6⟩ := ih S1 (by omega) hC (fun c hcc => by rw [h2 7 (by decide)]; exact hc c hcc) h3
    refine ⟨S2, ?_, mfr_tr h2 h5, h6⟩
    rw [eX1_begin_15_13, nI_pred, if_neg (nI_pos (by omega)), ar_7 (by omega), hc i (by omega), h1, mm_bd_ret, nn_sm]
    exact h4
theorem mq_beginv {C : Nat} {col : Nat → Nat} (hC : C ≤ 3) (hc : ∀ c, c < C → S 7 c = nI (col c)) : ∃ S', mm_runD (d + 2) 6 [.inr 15, .inr 7, .inl (nI C)] S = some (S', 0, 0, 0, 0) ∧ mfr [15, 18] S S' ∧ mq_Hv S' 0 (seg col 0 C) := by
  have hh : mq_Hv (mm_put (mm_put S 15 4 0) 15 5 0) 0 (seg col C (C - C)) := by
    rw [Nat.sub_self]
    refine ⟨?_, by omega, ?_, by simp [seg], trivial⟩
    · rw [mp_pk _ _ _ (by decide), mp_pp] <;> rfl
    · rw [mp_pp] <;> rfl
  obtain ⟨S', h1, h2, h3⟩ := mq_begin_loopv (d := d) (o := some (.inl (nI C))) C (mm_put (mm_put S 15 4 0) 15 5 0) (Nat.le_refl _) hC (fun c hcc => by rw [mp_pn _ _ _ (by decide), mp_pn _ _ _ (by decide)]; exact hc c hcc) hh
  refine ⟨S', ?_, mfr_tr (mfr_tr (mfr_put (by simp)) (mfr_put (by simp))) h2, h3⟩
  rw [dX1_begin_15, eX1_begin_15_0, if_neg (show ¬ (3 : Int32) < nI C from nI_nlt (a := 3) (by omega) (by decide))]
  exact h1
theorem mq_takesv (hK : mq_K S k) (hW : kW k) (h : mq_Hv S n L) (hL : ∀ t, t ∈ L → t < 8) (x : Int32) : mm_runD (d + 3) 10 [.inr 15, .inl x] S = some (S, 0, 0, 0, mb (∃ t r m, L = t :: r ∧ m < kM k ∧ x = nI m ∧ kTy k m = t)) := by
  have hT := hW.1
  have hM := hW.2.1
  rw [dX1_takesMaker_15, eX1_takesMaker_15_0, mq_asksv h, mm_bd_ret]
  cases L with
  | nil => rw [mb_f (fun q => q rfl), if_pos rfl, mb_f (by rintro ⟨t, r, m, h1, _⟩; cases h1)] <;> rfl
  | cons t r =>
    rw [mb_t (by simp), if_neg (by decide), mq_hasMaker hK hW, mm_bd_ret]
    by_cases q : mi x (kM k)
    · obtain ⟨m, hm, rfl⟩ := q
      have b := (hW.2.2 m hm).1
      rw [mb_t (mi_in hm), if_neg (by decide), mq_typeOf hK hW hm, mm_bd_ret, mq_nextAskedv h, mm_bd_ret]
      have ht8 := hL t (by simp)
      by_cases z : nI (kTy k m) = nI t
      · rw [if_pos z, mb_t ⟨t, r, m, rfl, hm, rfl, (nI_eq (by omega) (by omega)).mp z⟩] <;> rfl
      · rw [if_neg z, mb_f]
        rintro ⟨t', r', m', h1, h2, h3, h4⟩
        cases h1
        have := (nI_eq (by omega) (by omega)).mp h3
        subst this
        exact z (by rw [h4])
    · rw [mb_f q, if_pos rfl, mb_f (by rintro ⟨t', r', m', h1, h2, h3, h4⟩; exact q ⟨m', h2, h3⟩)] <;> rfl
theorem mq_fields_loopv (hW : kW k) {m : Nat} (hm : m < kM k) {o : Option MV} {r : List Nat} : ∀ (i : Nat) (S : Mem), i ≤ kFc k m → mq_K S k → r.length + 3 ≤ 123 → mq_Hv S n (seg (kFt k m) i (kFc k m - i) ++ r) → ∃ S', mm_E (mm_runD (d + 3)) pX1_put 1 46 [some (.inr 15), some (.inl (nI m)), o, some (.inl (nI i - 1))] [] S 0 0 = some (S', 0, 0, 0, nI n) ∧ mfr [15, 18] S S' ∧ mq_Hv S' n (seg (kFt k m) 0 (kFc k m) ++ r) := by
  intro i
  have h3 := (hW.2.2 m hm).2.1
  induction i with
  | zero =>
    intro S hi hK hr h
    refine ⟨S, ?_, mfr_rf, h⟩
    rw [eX1_put_15_46, if_pos (by decide), h.1]
  | succ i ih =>
    intro S hi hK hr h
    obtain ⟨S1, h1, h2, h3⟩ := mq_askv (d := d + 2) (t := kFt k m i) h (by rw [List.length_append, seg_len]; omega)
    have e : kFt k m i :: (seg (kFt k m) (i + 1) (kFc k m - (i + 1)) ++ r) = seg (kFt k m) i (kFc k m - i) ++ r := by
      rw [show kFc k m - i = (kFc k m - (i + 1)) + 1 by omega] <;> rfl
    rw [e] at h3
    obtain ⟨S2, h4, h5, h6⟩ := ih S1 (by omega) (mq_K_fr hK h2 rfl) hr h3
    refine ⟨S2, ?_, mfr_tr h2 h5, h6⟩
    rw [eX1_put_15_46, nI_pred, if_neg (nI_pos (by omega)), mq_fieldType hK hW hm (by omega), mm_bd_ret, h1, mm_bd_ret, nn_sm]
    exact h4
/-- a sign is put where a type is asked for -/
theorem mq_putv (hK : mq_K S k) (hW : kW k) {t : Nat} {r : List Nat} (h : mq_Hv S n (t :: r)) (hn : n < 60) (hr : r.length + 3 ≤ 123) {x : Int32} (hx : sgn k x) :
    ∃ S', mm_runD (d + 4) 11 [.inr 15, .inl x] S = some (S', 0, 0, 0, nI (n + 1)) ∧ mfr [15, 16, 18] S S' ∧ S' 16 = upd (S 16) n x ∧ mq_Hv S' (n + 1) (stp k t x ++ r) := by
  have hM := hW.2.1
  obtain ⟨h1, h2, h3, h4, h5⟩ := h
  have hS3 : mq_Hv (mm_put (mm_put (mm_put S 15 5 (nI r.length)) 16 n x) 15 4 (nI (n + 1))) (n + 1) r := by
    refine ⟨?_, by omega, ?_, by omega, ?_⟩
    · rw [mp_pp]
    · rw [mp_pk _ _ _ (by decide), mp_pn _ _ _ (by decide), mp_pp]
    · rw [mp_pn _ _ _ (by decide), mp_pn _ _ _ (by decide), mp_pn _ _ _ (by decide)]
      exact h5.2
  have hF3 : mfr [15, 16, 18] S (mm_put (mm_put (mm_put S 15 5 (nI r.length)) 16 n x) 15 4 (nI (n + 1))) := mfr_tr (mfr_tr (mfr_put (by simp)) (mfr_put (by simp))) (mfr_put (by simp))
  have hs3 : (mm_put (mm_put (mm_put S 15 5 (nI r.length)) 16 n x) 15 4 (nI (n + 1))) 16 = upd (S 16) n x := by
    rw [mp_pn _ _ _ (by decide)]
    exact (mm_stc_at _ _ _).trans (by rw [mp_pn _ _ _ (by decide)])
  generalize hg : mm_put (mm_put (mm_put S 15 5 (nI r.length)) 16 n x) 15 4 (nI (n + 1)) = S3 at hS3 hF3 hs3
  have hK3 := mq_K_fr hK hF3 rfl
  have hh : mq_Hv S n (t :: r) := ⟨h1, h2, h3, h4, h5⟩
  have e1 : S 15 5 - 1 = nI r.length := by rw [h3, List.length_cons, nI_pred]
  have start : mm_runD (d + 4) 11 [.inr 15, .inl x] S = (if x = -2 then mm_bd (mm_runD (d + 3) 16 [.inr 15, .inl (nI t)] S3) 0 0 (fun S5 c5 t5 a5 => mm_bd (mm_runD (d + 3) 16 [.inr 15, .inl (nI t)] S5) c5 t5 (fun S6 c6 t6 a6 => mm_bd (mm_runD (d + 3) 24 [.inr 1, .inl x] S6) c6 t6 (fun S7 c7 t7 a7 => mm_E (mm_runD (d + 3)) pX1_put 1 46 [some (.inr 15), some (.inl x), some (.inl (nI t)), some (.inl (a7 - 1))] [] S7 c7 t7))) else mm_bd (mm_runD (d + 3) 24 [.inr 1, .inl x] S3) 0 0 (fun S7 c7 t7 a7 => mm_E (mm_runD (d + 3)) pX1_put 1 46 [some (.inr 15), some (.inl x), some (.inl (nI t)), some (.inl (a7 - 1))] [] S7 c7 t7)) := by
    rw [dX1_put_15, eX1_put_15_0, mq_isFullv hh, mm_bd_ret, mb_f (by omega), if_pos rfl, mq_asksv hh, mm_bd_ret, mb_t (by simp), if_neg (by decide), mq_nextAskedv hh, mm_bd_ret, e1, mp_pk _ _ _ (by decide), h1, ar_16 hn, mp_pn _ _ _ (by decide), mp_pk _ _ _ (by decide), h1, nI_1, hg]
  rcases hx with rfl | rfl | ⟨m, hm, rfl⟩
  · refine ⟨S3, ?_, hF3, hs3, by rw [stp_A hW]; exact hS3⟩
    rw [start, if_neg (by decide), mq_fieldCount hK3 hW, mm_bd_ret, kfc_N1 hW, eX1_put_15_46, if_pos (by decide), hS3.1]
  · obtain ⟨S4, a1, a2, a3⟩ := mq_askv (d := d + 2) (t := t) hS3 (by omega)
    obtain ⟨S5, b1, b2, b3⟩ := mq_askv (d := d + 2) (t := t) a3 (by rw [List.length_cons]; omega)
    have hK5 := mq_K_fr (mq_K_fr hK3 a2 rfl) b2 rfl
    refine ⟨S5, ?_, mfr_tr hF3 (mfr_up (mfr_tr a2 b2) (by simp)), by rw [b2 _ (by decide), a2 _ (by decide)]; exact hs3, by rw [stp_E]; exact b3⟩
    rw [start, if_pos rfl, a1, mm_bd_ret, b1, mm_bd_ret, mq_fieldCount hK5 hW, mm_bd_ret, kfc_N2 hW, eX1_put_15_46, if_pos (by decide), b3.1]
  · have hm3 := (hW.2.2 m hm).2.1
    obtain ⟨S4, a1, a2, a3⟩ := mq_fields_loopv (d := d) (n := n + 1) hW hm (o := some (.inl (nI t))) (r := r) (kFc k m) S3 (Nat.le_refl _) hK3 hr (by rw [Nat.sub_self]; exact hS3)
    refine ⟨S4, ?_, mfr_tr hF3 (mfr_up a2 (by simp)), by rw [a2 _ (by decide)]; exact hs3, by rw [stp_M hW hm]; exact a3⟩
    rw [start, if_neg (fun q => (nn_a2 (a := m) (by omega)).mp q), mq_fieldCount hK3 hW, mm_bd_ret, kfc_in hW hm]
    exact a1
end
