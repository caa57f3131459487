/-! PURE: a row is laid by -/
section
variable {d : Nat} {S : Mem} {k : KK}
theorem mq_rSign {p : Nat} (hp : p < 480) : mm_runD (d + 1) 34 [.inr 8, .inl (nI p)] S = some (S, 0, 0, 0, S 9 p) := by
  rw [dX3_signAt, eX3_signAt_0, if_neg (nI_pos (by omega)), if_neg (show ¬ (480 : Int32) ≤ nI p from nI_ge (b := 480) hp (by decide)), ar_9 hp]
theorem mq_rEnd {p : Nat} (hp : p < 480) : mm_runD (d + 1) 35 [.inr 8, .inl (nI p)] S = some (S, 0, 0, 0, S 10 p) := by
  rw [dX3_endAt, eX3_endAt_0, if_neg (nI_pos (by omega)), if_neg (show ¬ (480 : Int32) ≤ nI p from nI_ge (b := 480) hp (by decide)), ar_10 hp]
theorem mq_startOf {r : Nat} : mm_runD (d + 1) 33 [.inr 8, .inl (nI r)] S = some (S, 0, 0, 0, nI (40 * r)) := by
  rw [dX3_startOf, eX3_startOf_0, li_40, nn_mul, Nat.mul_comm]
theorem mq_add_loop {n R : Nat} {x e : Nat → Int32} (hn : n ≤ 40) (hR : R < 12) : ∀ (z i : Nat) (S : Mem), n - i = z → i ≤ n → S 11 4 = nI n → (∀ j, j < n → S 12 j = x j) → (∀ j, j < n → S 13 j = e j) → S 8 2 = nI R →
    ∃ S', mm_E (mm_runD (d + 1)) pX3_add 1 18 [some (.inr 8), some (.inr 11), some (.inl (nI R)), some (.inl (nI (40 * R))), some (.inl (nI i))] [] S 0 0 = some (S', 0, 0, 0, nI R) ∧ mfr [8, 9, 10] S S' ∧ S' 8 2 = nI (R + 1) ∧ (∀ j, j < 40 * R + i → S' 9 j = S 9 j ∧ S' 10 j = S 10 j) ∧ ∀ j, i ≤ j → j < n → S' 9 (40 * R + j) = x j ∧ S' 10 (40 * R + j) = nI (40 * R) + e j := by
  intro z
  induction z with
  | zero =>
    intro i S hz hi h4 hx he h8
    have ei : i = n := by omega
    subst ei
    refine ⟨mm_put S 8 2 (nI (R + 1)), ?_, mfr_put (by simp), mp_pp _ _ _ _, fun j hj => ⟨rfl, rfl⟩, fun j a b => absurd a (by omega)⟩
    rw [eX3_add_18, dX1_count_11, eX1_count_11_0, mm_bd_ret, h4, if_pos (nI_le (Nat.le_refl _) (by omega)), h8, nI_1]
  | succ z ih =>
    intro i S hz hi h4 hx he h8
    obtain ⟨S', h1, h2, h3, h5, h6⟩ := ih (i + 1) (mm_put (mm_put S 9 (40 * R + i) (x i)) 10 (40 * R + i) (nI (40 * R) + e i)) (by omega) (by omega) h4 hx he h8
    refine ⟨S', ?_, mfr_tr (mfr_tr (mfr_put (by simp)) (mfr_put (by simp))) h2, h3, fun j hj => ?_, fun j a b => ?_⟩
    · have h4' : (mm_put S 9 (40 * R + i) (x i)) 11 4 = nI n := h4
      have he' : (mm_put S 9 (40 * R + i) (x i)) 13 i = e i := he i (by omega)
      rw [eX3_add_18, dX1_count_11, eX1_count_11_0, mm_bd_ret, h4, if_neg (nI_ge (by omega) (by omega)), if_neg (show ¬ (40 : Int32) ≤ nI i from nI_ge (b := 40) (by omega) (by decide)), mq_signAtr h4 hn (by omega), mm_bd_ret, hx i (by omega), nI_add, ar_9 (by omega), mq_endAtr h4' hn (by omega), mm_bd_ret, he', ar_10 (by omega), nI_1]
      exact h1
    · obtain ⟨a, b⟩ := h5 j (by omega)
      rw [a, b]
      simp (disch := omega) only [mp_pn, mp_pk]
      exact ⟨trivial, trivial⟩
    · rcases Nat.lt_or_ge i j with q | q
      · exact h6 j q b
      · have : j = i := by omega
        subst this
        obtain ⟨a, b⟩ := h5 (40 * R + j) (by omega)
        rw [a, b]
        simp (disch := omega) only [mp_pn, mp_pp]
        exact ⟨trivial, trivial⟩
theorem mq_add (hK : mq_K S k) (hW : kW k) {n R C : Nat} {x : Nat → Int32} (hn : n ≤ 40) (hR : R < 12) (hs : sq (fun j => kar k (x j)) n C 0) (hx : ∀ i, i < n → sgn k (x i)) (h4 : S 11 4 = nI n) (hS : ∀ i, i < n → S 12 i = x i) (h8 : S 8 2 = nI R) :
    ∃ S', mm_runD (d + 4) 32 [.inr 8, .inr 11] S = some (S', 0, 0, 0, nI R) ∧ mfr [8, 9, 10, 13] S S' ∧ S' 8 2 = nI (R + 1) ∧ (∀ j, j < 40 * R → S' 9 j = S 9 j ∧ S' 10 j = S 10 j) ∧ (∀ j, j < n → S' 9 (40 * R + j) = x j) ∧ mends (fun j => kar k (S' 9 j)) (S' 10) (40 * R) (40 * R + n) := by
  obtain ⟨S1, a1, a2, a3⟩ := mq_findEndsr (d := d) hK hW hn hs hx h4 hS
  have g4 : S1 11 4 = nI n := by rw [a2 11 (by decide)]; exact h4
  have gS : ∀ i, i < n → S1 12 i = x i := by rw [a2 12 (by decide)]; exact hS
  have g8 : S1 8 2 = nI R := by rw [a2 8 (by decide)]; exact h8
  obtain ⟨S2, b1, b2, b3, b4, b5⟩ := mq_add_loop (d := d + 2) (e := S1 13) hn hR (n - 0) 0 S1 rfl (by omega) g4 gS (fun _ _ => rfl) g8
  have hx' : ∀ j, j < n → S2 9 (40 * R + j) = x j := fun j hj => (b5 j (by omega) hj).1
  refine ⟨S2, ?_, mfr_tr (mfr_up a2 (by simp)) (mfr_up b2 (by simp)), b3, fun j hj => ?_, hx', ?_⟩
  · rw [dX3_add, eX3_add_0, h8, if_neg (nI_pos (by omega)), if_pos (show nI R < 12 from nI_lt (b := 12) hR (by decide)), a1, mm_bd_ret, mq_startOf, mm_bd_ret]
    exact b1
  · obtain ⟨p, q⟩ := b4 j (by omega)
    rw [p, q, a2 9 (by decide), a2 10 (by decide)]
    exact ⟨rfl, rfl⟩
  · intro j a b
    obtain ⟨i, rfl⟩ : ∃ i, j = 40 * R + i := ⟨j - 40 * R, by omega⟩
    obtain ⟨l, h1, h2, h3⟩ := a3 i (by omega) (by omega)
    refine ⟨l, sq_shift (o := 40 * R) (p := i) (g := fun j => kar k (x j)) (fun q u v => ?_) h1, by omega, ?_⟩
    · show kar k (x q) = kar k (S2 9 (40 * R + q))
      rw [hx' q (by omega)]
    · rw [(b5 i (by omega) (by omega)).2, h3, nI_add, Nat.add_assoc]
/-- the reference lays the row by -/
theorem mr_row_loop {n R : Nat} {x : Nat → Int32} (hn : n ≤ 40) (hR : R < 12) : ∀ (z i : Nat) (f : Nat → Int32) (S : Mem), n - i = z → i ≤ n → S 27 7 = nI R → (∀ j, j < n → S 34 j = x j) →
    ∃ f', mm_E (mm_runD d) pX8_row 1 42 [some (.inr 27), some (.inl (nI n)), some (.inl (nI i))] [] (mm_stc S 32 f) 0 0 = some (mm_put (mm_put (mm_put (mm_stc S 32 f') 33 R (nI n)) 27 7 (nI (R + 1))) 27 24 N1, 0, 0, 0, nI R) ∧ (∀ j, j < 40 * R + i → f' j = f j) ∧ ∀ j, i ≤ j → j < n → f' (40 * R + j) = x j := by
  intro z
  induction z with
  | zero =>
    intro i f S hz hi h7 hx
    have ei : i = n := by omega
    subst ei
    refine ⟨f, ?_, fun _ _ => rfl, fun j a b => absurd a (by omega)⟩
    have h7' : (mm_stc S 32 f) 27 7 = nI R := h7
    have h7'' : (mm_put (mm_stc S 32 f) 33 R (nI i)) 27 7 = nI R := h7
    rw [eX8_row_42, if_pos (nI_le (Nat.le_refl _) (by omega)), h7', ar_33 hR, h7'', nI_1, mp_pk _ _ _ (by decide), mp_pp, nI_pred] <;> rfl
  | succ z ih =>
    intro i f S hz hi h7 hx
    obtain ⟨f', h1, h2, h3⟩ := ih (i + 1) (upd f (40 * R + i) (x i)) S (by omega) (by omega) h7 hx
    refine ⟨f', ?_, fun j hj => by rw [h2 j (by omega)]; exact pk_un (by omega), fun j a b => ?_⟩
    · have h7' : (mm_stc S 32 f) 27 7 = nI R := h7
      have hx' : (mm_stc S 32 f) 34 i = x i := hx i (by omega)
      rw [eX8_row_42, if_neg (nI_ge (by omega) (by omega)), ar_34 (by omega), h7', li_40, nn_mul, nI_add, ar_32 (by omega), hx', mm_put_stc, nI_1]
      exact h1
    · rcases Nat.lt_or_ge i j with q | q
      · exact h3 j q b
      · have : j = i := by omega
        subst this
        rw [h2 _ (by omega)]
        exact pk_us
end
