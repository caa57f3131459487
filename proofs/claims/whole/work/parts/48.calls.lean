/-! PURE: row, answer, empty -/
section
variable {d : Nat} {S : Mem} {k : KK}
theorem mq_rcount {R : Nat} (h : S 8 2 = nI R) : mm_runD (d + 1) 31 [.inr 8] S = some (S, 0, 0, 0, nI R) := by
  rw [dX3_count, eX3_count_0, h]
theorem mq_row0 (h : S 0 2 = nI 0) : mm_runD (d + 2) 94 [.inr 0] S = some (S, 1, 6, 1, 0) := by
  rw [dX7_row, eX7_row_0, mq_refuse0 h, mm_bd_thr]
theorem mq_row_full {C : Nat} (h : S 0 2 = nI C) (h0 : 0 < C) (h3 : C ≤ 3) (h8 : S 8 2 = nI 12) : mm_runD (d + 2) 94 [.inr 0] S = some (S, 1, 6, 1, 0) := by
  rw [dX7_row, eX7_row_0, mq_refuse1 h h0 h3, mm_bd_ret, mq_rcount h8, mm_bd_ret, if_neg (by decide)]
theorem mq_row_bad {C R n : Nat} {col : Nat → Nat} {L : List Nat} (h : S 0 2 = nI C) (h0 : 0 < C) (h3 : C ≤ 3) (h8 : S 8 2 = nI R) (hR : R < 12) (hc : ∀ c, c < C → S 7 c = nI (col c)) (hH : mq_Hr S n L) (hL : L ≠ []) :
    ∃ S', mm_runD (d + 3) 94 [.inr 0] S = some (S', 1, 6, 2, 0) ∧ mfr [11, 14] S S' ∧ mq_Hr S' 0 (seg col 0 C) := by
  obtain ⟨S', a1, a2, a3⟩ := mq_beginr (d := d) (S := S) h3 hc
  refine ⟨S', ?_, a2, a3⟩
  rw [dX7_row, eX7_row_0, mq_refuse1 h h0 h3, mm_bd_ret, mq_rcount h8, mm_bd_ret, if_pos (show nI R < 12 from nI_lt (b := 12) hR (by decide)), mq_asksr hH, mm_bd_ret, mb_t hL, if_neg (by decide), h, a1, mm_bd_ret]
theorem mq_row_ok (hK : mq_K S k) (hW : kW k) {C R n : Nat} {col : Nat → Nat} {x : Nat → Int32} (h : S 0 2 = nI C) (h0 : 0 < C) (h3 : C ≤ 3) (h8 : S 8 2 = nI R) (hR : R < 12) (hc : ∀ c, c < C → S 7 c = nI (col c)) (hH : mq_Hr S n []) (hs : sq (fun j => kar k (x j)) n C 0) (hx : ∀ i, i < n → sgn k (x i)) (hS : ∀ i, i < n → S 12 i = x i) :
    ∃ S', mm_runD (d + 5) 94 [.inr 0] S = some (S', 0, 0, 0, nI R) ∧ mfr [8, 9, 10, 11, 13, 14, 19] S S' ∧ mq_Hr S' 0 (seg col 0 C) ∧ S' 8 2 = nI (R + 1) ∧ S' 19 3 = 0 ∧ (∀ j, j < 40 * R → S' 9 j = S 9 j ∧ S' 10 j = S 10 j) ∧ (∀ j, j < n → S' 9 (40 * R + j) = x j) ∧ mends (fun j => kar k (S' 9 j)) (S' 10) (40 * R) (40 * R + n) := by
  obtain ⟨S1, eS⟩ : ∃ S1, S1 = mm_put (mm_put (mm_put S 19 1 0) 19 2 0) 19 3 0 := ⟨_, rfl⟩
  have F1 : mfr [19] S S1 := by subst eS; exact mfr_tr (mfr_tr (mfr_put (by simp)) (mfr_put (by simp))) (mfr_put (by simp))
  have z1 : S1 19 3 = 0 := by subst eS; rfl
  have hK1 := mq_K_fr hK F1 rfl
  obtain ⟨S2, a1, a2, a3, a4, a5, a6⟩ := mq_add (d := d) (S := S1) (R := R) hK1 hW hH.2.1 hR hs hx (by rw [F1 11 (by decide)]; exact hH.1) (by rw [F1 12 (by decide)]; exact hS) (by rw [F1 8 (by decide)]; exact h8)
  obtain ⟨S3, b1, b2, b3⟩ := mq_beginr (d := d + 2) (S := S2) (C := C) (col := col) h3 (by rw [a2 7 (by decide), F1 7 (by decide)]; exact hc)
  have c0 : S2 0 2 = nI C := by rw [a2 0 (by decide), F1 0 (by decide)]; exact h
  refine ⟨S3, ?_, mfr_tr (mfr_tr (mfr_up F1 (by simp)) (mfr_up a2 (by simp))) (mfr_up b2 (by simp)), b3, by rw [b2 8 (by decide)]; exact a3, by rw [b2 19 (by decide), a2 19 (by decide)]; exact z1, ?_, ?_, ?_⟩
  · rw [dX7_row, eX7_row_0, mq_refuse1 h h0 h3, mm_bd_ret, mq_rcount h8, mm_bd_ret, if_pos (show nI R < 12 from nI_lt (b := 12) hR (by decide)), mq_asksr hH, mm_bd_ret, mb_f (fun q => q rfl), if_pos rfl, mq_fell, mm_bd_ret, ← eS, a1, mm_bd_ret, c0, b1, mm_bd_ret]
  · rw [b2 9 (by decide), b2 10 (by decide)]
    intro j hj
    obtain ⟨p, q⟩ := a4 j hj
    rw [p, q, F1 9 (by decide), F1 10 (by decide)]
    exact ⟨rfl, rfl⟩
  · rw [b2 9 (by decide)]; exact a5
  · rw [b2 9 (by decide), b2 10 (by decide)]; exact a6
theorem mr_row1 {C R : Nat} (h6 : S 27 6 = nI C) (hC : C ≤ 3) (h7 : S 27 7 = nI R) (hR : R ≤ 12) (h : C = 0 ∨ R = 12) : mm_runD (d + 1) 129 [.inr 27] S = some (mm_put S 27 0 1, 0, 0, 0, 0) := by
  rw [dX8_row, eX8_row_0, h6, h7]
  by_cases q : C = 0
  · rw [if_pos (by rw [q]; rfl), mp_pp, if_neg (by decide)]
  · rw [if_neg (nI_ne0 (by omega) (by omega)), if_pos (by rw [show R = 12 by omega]; rfl), mp_pp, if_neg (by decide)]
theorem mr_row2 (hK : mr_K S k) (hW : kW k) {C n R : Nat} {col : Nat → Nat} {y : Nat → Int32} (h6 : S 27 6 = nI C) (hC : C ≤ 3) (h0 : 0 < C) (hc : ∀ c, c < C → S 31 c = nI (col c)) (h8 : S 27 8 = nI n) (hn : n ≤ 40) (h7 : S 27 7 = nI R) (hR : R < 12) (hy : ∀ i, i < n → S 34 i = y i) (hh : hnd k C col y n) (hL : ∀ t, t ∈ stk k C col y n → t < 8) :
    ∃ f, (stk k C col y n ≠ [] → mm_runD (d + 3) 129 [.inr 27] S = some (mm_put (mm_put (mm_stc (mm_put S 27 0 0) 36 f) 27 0 2) 27 8 0, 0, 0, 0, 0)) ∧
      (stk k C col y n = [] → ∃ g, mm_runD (d + 3) 129 [.inr 27] S = some (mm_put (mm_put (mm_put (mm_stc (mm_put (mm_put (mm_stc (mm_put S 27 0 0) 36 f) 27 0 0) 27 8 0) 32 g) 33 R (nI n)) 27 7 (nI (R + 1))) 27 24 N1, 0, 0, 0, nI R) ∧ (∀ j, j < 40 * R → g j = S 32 j) ∧ ∀ j, j < n → g (40 * R + j) = y j) := by
  obtain ⟨f, h1⟩ := mr_nextr (d := d) (S := mm_put S 27 0 0) (n := n) hK hW hC h6 hc hy hn hh
  refine ⟨f, ?_⟩
  have h8' : (mm_put S 27 0 0) 27 8 = nI n := h8
  obtain ⟨g, b1, b2, b3⟩ := mr_row_loop (d := d + 2) (R := R) (n := n) (x := y) hn hR (n - 0) 0 (S 32) (mm_put (mm_put (mm_stc (mm_put S 27 0 0) 36 f) 27 0 0) 27 8 0) rfl (by omega) h7 hy
  have start : ∀ Z, mm_runD (d + 3) 129 [.inr 27] S = Z ↔ mm_E (mm_runD (d + 2)) pX8_row 1 0 [some (.inr 27), none, none] [] S 0 0 = Z := fun Z => by rw [dX8_row]
  constructor
  · intro hs
    cases hs' : stk k C col y n with
    | nil => exact absurd hs' hs
    | cons t r =>
      rw [hs'] at h1 hL
      have ht8 := hL t (by simp)
      rw [start, eX8_row_0, h6, if_neg (nI_ne0 h0 (by omega)), h7, if_neg (show ¬ nI R = 12 from fun z => absurd ((nI_eq (b := 12) (by omega) (by omega)).mp z) (by omega)), mp_pp, if_pos (show (0 : Int32) ≤ 0 by decide), h8', h1, mm_bd_ret, if_neg (show ¬ hdv (t :: r) = -1 from fun q => (nn_a1 (a := t) (by omega)).mp q), mp_pk _ _ _ (by decide), mp_pp, if_neg (by decide)]
  · intro hs
    rw [hs] at h1
    refine ⟨g, ?_, fun j hj => b2 j (by omega), fun j hj => b3 j (by omega) hj⟩
    have e : mm_stc (mm_put (mm_put (mm_stc (mm_put S 27 0 0) 36 f) 27 0 0) 27 8 0) 32 (S 32) = mm_put (mm_put (mm_stc (mm_put S 27 0 0) 36 f) 27 0 0) 27 8 0 := mm_stc_self (mm_put (mm_put (mm_stc (mm_put S 27 0 0) 36 f) 27 0 0) 27 8 0) 32
    rw [e, nI_0] at b1
    rw [start, eX8_row_0, h6, if_neg (nI_ne0 h0 (by omega)), h7, if_neg (show ¬ nI R = 12 from fun z => absurd ((nI_eq (b := 12) (by omega) (by omega)).mp z) (by omega)), mp_pp, if_pos (show (0 : Int32) ≤ 0 by decide), h8', h1, mm_bd_ret, if_pos (show hdv [] = -1 from rfl), mp_pk _ _ _ (by decide), mp_pp, if_pos (show (0 : Int32) ≤ 0 by decide)]
    exact b1
/-! answer -/
theorem mr_can0 (h6 : S 27 6 = nI 0) : mm_runD (d + 1) 135 [.inr 27] S = some (mm_put S 27 0 1, 0, 0, 0, 0) := by
  rw [dX8_canAnswer, eX8_canAnswer_0, h6, if_pos nI_0, mp_pp, if_neg (by decide)]
theorem mr_can (hK : mr_K S k) (hW : kW k) {C n : Nat} {col : Nat → Nat} {y : Nat → Int32} (h6 : S 27 6 = nI C) (hC : C ≤ 3) (h0 : 0 < C) (hc : ∀ c, c < C → S 31 c = nI (col c)) (h8 : S 27 9 = nI n) (hn : n ≤ 60) (hy : ∀ i, i < n → S 35 i = y i) (hh : hnd k C col y n) (hL : ∀ t, t ∈ stk k C col y n → t < 8) :
    ∃ f, (stk k C col y n ≠ [] → mm_runD (d + 3) 135 [.inr 27] S = some (mm_put (mm_stc S 36 f) 27 0 2, 0, 0, 0, 0)) ∧ (stk k C col y n = [] → mm_runD (d + 3) 135 [.inr 27] S = some (mm_put (mm_stc S 36 f) 27 0 0, 0, 0, 0, 1)) := by
  obtain ⟨f, h1⟩ := mr_nextv (d := d) (S := S) (n := n) hK hW hC h6 hc hy hn hh
  refine ⟨f, ?_⟩
  have start : ∀ Z, mm_runD (d + 3) 135 [.inr 27] S = Z ↔ mm_E (mm_runD (d + 2)) pX8_canAnswer 2 0 [some (.inr 27)] [] S 0 0 = Z := fun Z => by rw [dX8_canAnswer]
  rw [start, start, eX8_canAnswer_0, h6, if_neg (nI_ne0 h0 (by omega)), h8, h1, mm_bd_ret]
  cases hs : stk k C col y n with
  | nil =>
    rw [if_pos (show hdv [] = -1 from rfl), mp_pp, if_pos rfl]
    exact ⟨fun q => absurd rfl q, fun _ => rfl⟩
  | cons t r =>
    rw [hs] at hL
    have ht8 := hL t (by simp)
    rw [if_neg (show ¬ hdv (t :: r) = -1 from fun q => (nn_a1 (a := t) (by omega)).mp q), mp_pp, if_neg (by decide)]
    exact ⟨fun _ => rfl, fun q => by cases q⟩
theorem mq_whole0 (h : S 0 2 = nI 0) : mm_runD (d + 2) 108 [.inr 0] S = some (S, 1, 6, 1, 0) := by
  rw [dX7_refuseWithoutWholeValues, eX7_refuseWithoutWholeValues_0, mq_refuse0 h, mm_bd_thr]
theorem mq_whole1 {C n : Nat} {L : List Nat} (h : S 0 2 = nI C) (h0 : 0 < C) (h3 : C ≤ 3) (hH : mq_Hv S n L) (hL : L ≠ []) : mm_runD (d + 2) 108 [.inr 0] S = some (S, 1, 6, 2, 0) := by
  rw [dX7_refuseWithoutWholeValues, eX7_refuseWithoutWholeValues_0, mq_refuse1 h h0 h3, mm_bd_ret, mq_asksv hH, mm_bd_ret, mb_t hL, if_neg (by decide)]
theorem mq_whole2 {C n : Nat} (h : S 0 2 = nI C) (h0 : 0 < C) (h3 : C ≤ 3) (hH : mq_Hv S n []) : mm_runD (d + 2) 108 [.inr 0] S = some (S, 0, 0, 0, 0) := by
  rw [dX7_refuseWithoutWholeValues, eX7_refuseWithoutWholeValues_0, mq_refuse1 h h0 h3, mm_bd_ret, mq_asksv hH, mm_bd_ret, mb_f (fun q => q rfl), if_pos rfl]
/-- what both sides know of the rows; G: the signs -/
def rws (S : Mem) (k : KK) (C R : Nat) (sz : Nat → Nat) : Prop := R ≤ 12 ∧ S 8 2 = nI R ∧ S 27 7 = nI R ∧ ∀ r, r < R → sz r ≤ 40 ∧ S 33 r = nI (sz r) ∧ sq (fun j => kar k (S 32 j)) (sz r) C (40 * r) ∧ (∀ p, 40 * r ≤ p → p < 40 * r + sz r → S 9 p = S 32 p ∧ sgn k (S 32 p)) ∧ mends (fun j => kar k (S 32 j)) (S 10) (40 * r) (40 * r + sz r)
theorem mq_answer_loop (hK : mq_K S k) (hW : kW k) {nv C R : Nat} {sz : Nat → Nat} {X : Nat → Int32} (h0 : S 0 2 = nI C) (hC : C ≤ 3) (h15 : S 15 4 = nI nv) (hnv : nv ≤ 60) (hX : ∀ v, v < nv → S 16 v = X v) (hv : mends (fun j => kar k (X j)) (S 17) 0 nv) (hvq : sq (fun j => kar k (X j)) nv C 0) (hr : rws S k C R sz) :
    ∀ (n i : Nat), R - i = n → i ≤ R → mm_E (mm_runD (d + 45)) pX7_answer 1 7 [some (.inr 0), some (.inl (nI i))] [] S 0 0 = some (S, 0, 0, 0, ff (rTk k C (S 32) X) n i) := by
  intro n
  obtain ⟨r1, r2, r3, r4⟩ := hr
  induction n with
  | zero =>
    intro i hn hi
    rw [eX7_answer_7, mq_rcount r2, mm_bd_ret, if_pos (nI_le (by omega) (by omega))] <;> rfl
  | succ n ih =>
    intro i hn hi
    obtain ⟨q1, q2, q3, q4, q5⟩ := r4 i (by omega)
    have T := mq_rowTakes (d := d) (S := S) hK hW h0 hC h15 hnv (by omega) q1 (fun p a b => (q4 p a b).1) hX (fun p a b => (q4 p a b).2) q5 hv q3 hvq
    rw [eX7_answer_7, mq_rcount r2, mm_bd_ret, if_neg (nI_ge (by omega) (by omega)), T, mm_bd_ret]
    by_cases q : rTk k C (S 32) X i
    · rw [mb_t q, if_neg (by decide), ff_t q]
    · rw [mb_f q, if_pos rfl, ff_f q, nI_1]
      exact ih (i + 1) (by omega) (by omega)
theorem mq_answer (hK : mq_K S k) (hW : kW k) {nv C R : Nat} {sz : Nat → Nat} {X : Nat → Int32} (h0 : S 0 2 = nI C) (hC0 : 0 < C) (hC : C ≤ 3) (hH : mq_Hv S nv []) (hX : ∀ v, v < nv → S 16 v = X v) (hx : ∀ v, v < nv → sgn k (X v)) (hvq : sq (fun j => kar k (X j)) nv C 0) (hr : rws S k C R sz) :
    ∃ S', mm_runD (d + 46) 101 [.inr 0] S = some (S', 0, 0, 0, ff (rTk k C (S 32) X) R 0) ∧ mfr [17] S S' := by
  obtain ⟨S1, a1, a2, a3⟩ := mq_findEndsv (d := d + 42) hK hW hH.2.1 hvq hx hH.1 hX
  have hr1 : rws S1 k C R sz := by
    unfold rws
    rw [a2 8 (by decide), a2 27 (by decide), a2 33 (by decide), a2 32 (by decide), a2 9 (by decide), a2 10 (by decide)]
    exact hr
  have L := mq_answer_loop (d := d) (S := S1) (mq_K_fr hK a2 rfl) hW (by rw [a2 0 (by decide)]; exact h0) hC (by rw [a2 15 (by decide)]; exact hH.1) hH.2.1 (by rw [a2 16 (by decide)]; exact hX) a3 hvq hr1 (R - 0) 0 rfl (by omega)
  rw [a2 32 (by decide), nI_0] at L
  exact ⟨S1, by rw [dX7_answer, eX7_answer_0, mq_whole2 h0 hC0 hC hH, mm_bd_ret, a1, mm_bd_ret]; exact L, a2⟩
theorem mr_answer_loop (hK : mr_K S k) (hW : kW k) {nv C R : Nat} {sz : Nat → Nat} (h6 : S 27 6 = nI C) (hC : C ≤ 3) (h9 : S 27 9 = nI nv) (hnv : nv ≤ 60) (hx : ∀ v, v < nv → ∃ m, m < kM k ∧ S 35 v = nI m) (hvq : sq (fun j => kar k (S 35 j)) nv C 0) (hr : rws S k C R sz) :
    ∀ (n i : Nat) (f : Nat → Int32), R - i = n → i ≤ R → ∃ f', mm_E (mm_runD (d + 4)) pX8_answer 1 7 [some (.inr 27), some (.inl (nI i))] [] (mm_stc S 37 f) 0 0 = some (mm_stc S 37 f', 0, 0, 0, ff (rTk k C (S 32) (S 35)) n i) := by
  intro n
  obtain ⟨r1, r2, r3, r4⟩ := hr
  induction n with
  | zero =>
    intro i f hn hi
    have r3' : (mm_stc S 37 f) 27 7 = nI R := r3
    exact ⟨f, by rw [eX8_answer_7, r3', if_pos (nI_le (by omega) (by omega))] <;> rfl⟩
  | succ n ih =>
    intro i f hn hi
    obtain ⟨q1, q2, q3, q4, q5⟩ := r4 i (by omega)
    have r3' : (mm_stc S 37 f) 27 7 = nI R := r3
    obtain ⟨f1, T⟩ := mr_rowTakes (d := d) (S := mm_stc S 37 f) hK hW h6 hC h9 hnv (by omega) q1 q2 (fun p a b => (q4 p a b).2) hx q3 hvq
    have e : mm_stc (mm_stc S 37 f) 37 f1 = mm_stc S 37 f1 := by
      funext x
      by_cases e : x = 37
      · subst e; rw [mm_stc_at, mm_stc_at]
      · rw [mm_stc_ne _ _ e, mm_stc_ne _ _ e, mm_stc_ne _ _ e]
    rw [e] at T
    by_cases q : rTk k C (S 32) (S 35) i
    · refine ⟨f1, ?_⟩
      rw [mb_t (show rTk k C ((mm_stc S 37 f) 32) ((mm_stc S 37 f) 35) i from q)] at T
      rw [eX8_answer_7, r3', if_neg (nI_ge (by omega) (by omega)), T, mm_bd_ret, if_neg (by decide), ff_t q]
    · obtain ⟨f2, h2⟩ := ih (i + 1) f1 (by omega) (by omega)
      refine ⟨f2, ?_⟩
      rw [mb_f (show ¬ rTk k C ((mm_stc S 37 f) 32) ((mm_stc S 37 f) 35) i from q)] at T
      rw [eX8_answer_7, r3', if_neg (nI_ge (by omega) (by omega)), T, mm_bd_ret, if_pos rfl, ff_f q, nI_1]
      exact h2
theorem mq_empty {C : Nat} {col : Nat → Nat} (h : S 0 2 = nI C) (h3 : C ≤ 3) (hc : ∀ c, c < C → S 7 c = nI (col c)) : ∃ S', mm_runD (d + 3) 103 [.inr 0] S = some (S', 0, 0, 0, 0) ∧ mfr [15, 18] S S' ∧ mq_Hv S' 0 (seg col 0 C) := by
  obtain ⟨S', a1, a2, a3⟩ := mq_beginv (d := d) (S := S) h3 hc
  exact ⟨S', by rw [dX7_empty, eX7_empty_0, h, a1, mm_bd_ret], a2, a3⟩
theorem mr_empty : mm_runD (d + 1) 131 [.inr 27] S = some (mm_put (mm_put S 27 0 0) 27 9 0, 0, 0, 0, 0) := by
  rw [dX8_empty, eX8_empty_0]
end
