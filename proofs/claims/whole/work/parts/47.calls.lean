/-! PURE: sign, row, give, answer, empty -/
section
variable {d : Nat} {S : Mem} {k : KK}
theorem mr_mk_K (hK : mr_K S k) (hW : kW k) {t : Nat} {a b c b' c' : Int32} (h3 : at3 (kT k) a b c) (h0 : a = N1 → ct3 a b c = 0) (h1 : a ≠ N1 → b' = b ∧ (b = N1 → ct3 a b c = 1) ∧ (b ≠ N1 → c' = c ∧ (c = N1 → ct3 a b c = 2) ∧ (c ≠ N1 → ct3 a b c = 3))) :
    mr_K (mr_mk S (kM k) t a b' c') (kAdd k t (ct3 a b c) (tg3 a b c)) := by
  obtain ⟨g0, g1, g2, g3⟩ := at3_g hW.1 h3
  refine ⟨hK.1, rfl, fun m hm => ?_⟩
  rw [kAdd_M] at hm
  rcases Nat.lt_or_ge m (kM k) with q | q
  · obtain ⟨e1, e2, e3⟩ := kAdd_old (t := t) (f := ct3 a b c) (g := tg3 a b c) q
    obtain ⟨h4, h5, h6⟩ := hK.2.2 m q
    have hf := (hW.2.2 m q).2.1
    rw [e1, e2, e3]
    unfold mr_mk
    refine ⟨?_, fun j hj => ?_, fun hj => ?_⟩
    · simp (disch := omega) only [mp_pn, mp_pk]; exact h4
    · simp (disch := omega) only [mp_pn, mp_pk]; exact h5 j hj
    · simp (disch := omega) only [mp_pn, mp_pk]; exact h6 hj
  · have e : m = kM k := by omega
    subst e
    obtain ⟨e1, e2, e3⟩ := kAdd_new (k := k) (t := t) (f := ct3 a b c) (g := tg3 a b c)
    rw [e1, e2, e3]
    unfold mr_mk
    have r0 : (mm_put (mm_put (mm_put (mm_put (mm_put (mm_put (mm_put (mm_put (mm_put (mm_put (mm_put S 27 0 0) 28 (kM k) (nI t)) 29 (3 * kM k) a) 29 (3 * kM k + 1) b') 29 (3 * kM k + 2) c') 27 2 (nI (kM k + 1))) 27 6 0) 27 7 0) 27 8 0) 27 9 0) 27 24 N1) 29 (3 * kM k + 0) = a := by simp (disch := omega) only [mp_pn, mp_pk, mp_pp, Nat.add_zero]
    have r1 : (mm_put (mm_put (mm_put (mm_put (mm_put (mm_put (mm_put (mm_put (mm_put (mm_put (mm_put S 27 0 0) 28 (kM k) (nI t)) 29 (3 * kM k) a) 29 (3 * kM k + 1) b') 29 (3 * kM k + 2) c') 27 2 (nI (kM k + 1))) 27 6 0) 27 7 0) 27 8 0) 27 9 0) 27 24 N1) 29 (3 * kM k + 1) = b' := by simp (disch := omega) only [mp_pn, mp_pk, mp_pp]
    have r2 : (mm_put (mm_put (mm_put (mm_put (mm_put (mm_put (mm_put (mm_put (mm_put (mm_put (mm_put S 27 0 0) 28 (kM k) (nI t)) 29 (3 * kM k) a) 29 (3 * kM k + 1) b') 29 (3 * kM k + 2) c') 27 2 (nI (kM k + 1))) 27 6 0) 27 7 0) 27 8 0) 27 9 0) 27 24 N1) 29 (3 * kM k + 2) = c' := by simp (disch := omega) only [mp_pn, mp_pk, mp_pp]
    refine ⟨by simp (disch := omega) only [mp_pn, mp_pk, mp_pp], ?_⟩
    generalize mm_put (mm_put (mm_put (mm_put (mm_put (mm_put (mm_put (mm_put (mm_put (mm_put (mm_put S 27 0 0) 28 (kM k) (nI t)) 29 (3 * kM k) a) 29 (3 * kM k + 1) b') 29 (3 * kM k + 2) c') 27 2 (nI (kM k + 1))) 27 6 0) 27 7 0) 27 8 0) 27 9 0) 27 24 N1 = Z at r0 r1 r2
    by_cases qa : a = N1
    · have e := h0 qa
      rw [e]
      exact ⟨fun j hj => by omega, fun _ => by rw [r0]; exact qa⟩
    · obtain ⟨eb, hb1, hb2⟩ := h1 qa
      by_cases qb : b = N1
      · have e := hb1 qb
        rw [e] at g1 ⊢
        refine ⟨fun j hj => ?_, fun _ => by rw [r1, eb]; exact qb⟩
        have : j = 0 := by omega
        subst this
        rw [r0]; exact g1 (by omega)
      · obtain ⟨ec, hc1, hc2⟩ := hb2 qb
        by_cases qc : c = N1
        · have e := hc1 qc
          rw [e] at g1 g2 ⊢
          refine ⟨fun j hj => ?_, fun _ => by rw [r2, ec]; exact qc⟩
          rcases (show j = 0 ∨ j = 1 by omega) with rfl | rfl
          · rw [r0]; exact g1 (by omega)
          · rw [r1, eb]; exact g2 (by omega)
        · have e := hc2 qc
          rw [e] at g1 g2 g3 ⊢
          refine ⟨fun j hj => ?_, fun q => by omega⟩
          rcases (show j = 0 ∨ j = 1 ∨ j = 2 by omega) with rfl | rfl | rfl
          · rw [r0]; exact g1 (by omega)
          · rw [r1, eb]; exact g2 (by omega)
          · rw [r2, ec]; exact g3 (by omega)
theorem mr_isMakerOf (hK : mr_K S k) (hW : kW k) {L : List Nat} (hL : ∀ t, t ∈ L → t < 8) (x : Int32) : mm_runD (d + 1) 127 [.inr 27, .inl x, .inl (hdv L)] S = some (S, 0, 0, 0, mb (∃ t r m, L = t :: r ∧ m < kM k ∧ x = nI m ∧ kTy k m = t)) := by
  have hT := hW.1
  have hM := hW.2.1
  rw [dX8_isMakerOf, eX8_isMakerOf_0]
  cases L with
  | nil => rw [if_pos (show hdv [] = -1 from rfl), mb_f (by rintro ⟨t, r, m, h1, _⟩; cases h1)]
  | cons t r =>
    have ht8 := hL t (by simp)
    rw [show hdv (t :: r) = nI t from rfl, if_neg (show ¬ nI t = -1 from fun q => (nn_a1 (a := t) (by omega)).mp q)]
    by_cases q : mi x (kM k)
    · obtain ⟨m, hm, rfl⟩ := q
      have b := (hW.2.2 m hm).1
      rw [if_neg (nI_pos (by omega)), hK.2.1, if_neg (nI_ge hm (by omega)), ar_28 (by omega), (hK.2.2 m hm).1]
      by_cases z : nI (kTy k m) = nI t
      · rw [if_pos z, mb_t ⟨t, r, m, rfl, hm, rfl, (nI_eq (by omega) (by omega)).mp z⟩]
      · rw [if_neg z, mb_f]
        rintro ⟨t', r', m', h1, h2, h3, h4⟩
        cases h1
        have := (nI_eq (by omega) (by omega)).mp h3
        subst this
        exact z (by rw [h4])
    · rw [mb_f (by rintro ⟨t', r', m', h1, h2, h3, h4⟩; exact q ⟨m', h2, h3⟩)]
      rcases mi_out (by omega) q with z | z
      · rw [if_pos z]
      · by_cases w : x < 0
        · rw [if_pos w]
        · rw [if_neg w, hK.2.1, if_pos z]
/-- a sign may stand -/
def okS (k : KK) (L : List Nat) (x : Int32) : Prop := L ≠ [] ∧ (x = N1 ∨ x = N2) ∨ ∃ t r m, L = t :: r ∧ m < kM k ∧ x = nI m ∧ kTy k m = t
abbrev okV (k : KK) (L : List Nat) (x : Int32) : Prop := ∃ t r m, L = t :: r ∧ m < kM k ∧ x = nI m ∧ kTy k m = t
theorem mq_refuse0 (h : S 0 2 = nI 0) : mm_runD (d + 1) 107 [.inr 0] S = some (S, 1, 6, 1, 0) := by
  rw [dX7_refuseWithoutMatch, eX7_refuseWithoutMatch_0, h, if_pos nI_0]
theorem mq_refuse1 {C : Nat} (h : S 0 2 = nI C) (h0 : 0 < C) (h3 : C ≤ 3) : mm_runD (d + 1) 107 [.inr 0] S = some (S, 0, 0, 0, 0) := by
  rw [dX7_refuseWithoutMatch, eX7_refuseWithoutMatch_0, h, if_neg (nI_ne0 h0 (by omega))]
theorem mq_sign0 (h : S 0 2 = nI 0) (x : Int32) : mm_runD (d + 2) 93 [.inr 0, .inl x] S = some (S, 1, 6, 1, 0) := by
  rw [dX7_sign, eX7_sign_0, mq_refuse0 h, mm_bd_thr]
theorem mq_sign_full {C n : Nat} {L : List Nat} (h : S 0 2 = nI C) (h0 : 0 < C) (h3 : C ≤ 3) (hH : mq_Hr S n L) (hn : n = 40) (x : Int32) : mm_runD (d + 2) 93 [.inr 0, .inl x] S = some (S, 1, 6, 1, 0) := by
  rw [dX7_sign, eX7_sign_0, mq_refuse1 h h0 h3, mm_bd_ret, mq_isFullr hH, mm_bd_ret, mb_t hn, if_neg (by decide)]
theorem mq_sign_bad (hK : mq_K S k) (hW : kW k) {C n : Nat} {L : List Nat} (h : S 0 2 = nI C) (h0 : 0 < C) (h3 : C ≤ 3) (hH : mq_Hr S n L) (hL : ∀ t, t ∈ L → t < 8) (hn : n ≠ 40) {x : Int32} (hx : ¬ okS k L x) : mm_runD (d + 4) 93 [.inr 0, .inl x] S = some (S, 1, 6, 2, 0) := by
  rw [dX7_sign, eX7_sign_0, mq_refuse1 h h0 h3, mm_bd_ret, mq_isFullr hH, mm_bd_ret, mb_f hn, if_pos rfl, mq_takesr hK hW hH hL, mm_bd_ret, mb_f (fun q => hx (Or.inr q)), if_pos rfl, mq_asksr hH, mm_bd_ret]
  by_cases q : L ≠ []
  · rw [mb_t q, if_neg (by decide), if_neg (show ¬ x = -1 from fun z => hx (Or.inl ⟨q, Or.inl z⟩)), if_neg (show ¬ x = -2 from fun z => hx (Or.inl ⟨q, Or.inr z⟩))]
  · rw [mb_f q, if_pos rfl]
theorem mq_sign_ok (hK : mq_K S k) (hW : kW k) {C n : Nat} {t : Nat} {r : List Nat} (h : S 0 2 = nI C) (h0 : 0 < C) (h3 : C ≤ 3) (hH : mq_Hr S n (t :: r)) (hL : ∀ u, u ∈ t :: r → u < 8) (hn : n ≠ 40) (hr : r.length + 3 ≤ 83) {x : Int32} (hx : okS k (t :: r) x) :
    ∃ S', mm_runD (d + 5) 93 [.inr 0, .inl x] S = some (S', 0, 0, 0, nI (n + 1)) ∧ mfr [11, 12, 14] S S' ∧ S' 12 = upd (S 12) n x ∧ mq_Hr S' (n + 1) (stp k t x ++ r) := by
  have hs : sgn k x := by
    rcases hx with ⟨_, q | q⟩ | ⟨t', r', m, _, h5, h6, _⟩
    · exact Or.inl q
    · exact Or.inr (Or.inl q)
    · exact Or.inr (Or.inr ⟨m, h5, h6⟩)
  obtain ⟨S', a1, a2, a3, a4⟩ := mq_putr (d := d) hK hW hH (by have := hH.2.1; omega) hr hs
  refine ⟨S', ?_, a2, a3, a4⟩
  rw [dX7_sign, eX7_sign_0, mq_refuse1 h h0 h3, mm_bd_ret, mq_isFullr hH, mm_bd_ret, mb_f hn, if_pos rfl, mq_takesr hK hW hH hL, mm_bd_ret]
  by_cases q : ∃ t' r' m, t :: r = t' :: r' ∧ m < kM k ∧ x = nI m ∧ kTy k m = t'
  · rw [mb_t q, if_neg (by decide), a1, mm_bd_ret]
  · rw [mb_f q, if_pos rfl, mq_asksr hH, mm_bd_ret, mb_t (by simp), if_neg (by decide)]
    rcases hx with ⟨_, w | w⟩ | w
    · rw [if_pos (show x = -1 from w), a1, mm_bd_ret]
    · rw [if_neg (show ¬ x = -1 by rw [w]; decide), if_pos (show x = -2 from w), a1, mm_bd_ret]
    · exact absurd w q
theorem mq_give0 (h : S 0 2 = nI 0) (x : Int32) : mm_runD (d + 2) 100 [.inr 0, .inl x] S = some (S, 1, 6, 1, 0) := by
  rw [dX7_give, eX7_give_0, mq_refuse0 h, mm_bd_thr]
theorem mq_give_full {C n : Nat} {L : List Nat} (h : S 0 2 = nI C) (h0 : 0 < C) (h3 : C ≤ 3) (hH : mq_Hv S n L) (hn : n = 60) (x : Int32) : mm_runD (d + 2) 100 [.inr 0, .inl x] S = some (S, 1, 6, 1, 0) := by
  rw [dX7_give, eX7_give_0, mq_refuse1 h h0 h3, mm_bd_ret, mq_isFullv hH, mm_bd_ret, mb_t hn, if_neg (by decide)]
theorem mq_give_bad (hK : mq_K S k) (hW : kW k) {C n : Nat} {L : List Nat} (h : S 0 2 = nI C) (h0 : 0 < C) (h3 : C ≤ 3) (hH : mq_Hv S n L) (hL : ∀ t, t ∈ L → t < 8) (hn : n ≠ 60) {x : Int32} (hx : ¬ okV k L x) : mm_runD (d + 4) 100 [.inr 0, .inl x] S = some (S, 1, 6, 2, 0) := by
  rw [dX7_give, eX7_give_0, mq_refuse1 h h0 h3, mm_bd_ret, mq_isFullv hH, mm_bd_ret, mb_f hn, if_pos rfl, mq_takesv hK hW hH hL, mm_bd_ret, mb_f hx, if_pos rfl]
theorem mq_give_ok (hK : mq_K S k) (hW : kW k) {C n : Nat} {t : Nat} {r : List Nat} (h : S 0 2 = nI C) (h0 : 0 < C) (h3 : C ≤ 3) (hH : mq_Hv S n (t :: r)) (hL : ∀ u, u ∈ t :: r → u < 8) (hn : n ≠ 60) (hr : r.length + 3 ≤ 123) {x : Int32} (hx : okV k (t :: r) x) :
    ∃ S', mm_runD (d + 5) 100 [.inr 0, .inl x] S = some (S', 0, 0, 0, nI (n + 1)) ∧ mfr [15, 16, 18] S S' ∧ S' 16 = upd (S 16) n x ∧ mq_Hv S' (n + 1) (stp k t x ++ r) := by
  have hs : sgn k x := by
    obtain ⟨t', r', m, _, h5, h6, _⟩ := hx
    exact Or.inr (Or.inr ⟨m, h5, h6⟩)
  obtain ⟨S', a1, a2, a3, a4⟩ := mq_putv (d := d) hK hW hH (by have := hH.2.1; omega) hr hs
  refine ⟨S', ?_, a2, a3, a4⟩
  rw [dX7_give, eX7_give_0, mq_refuse1 h h0 h3, mm_bd_ret, mq_isFullv hH, mm_bd_ret, mb_f hn, if_pos rfl, mq_takesv hK hW hH hL, mm_bd_ret, mb_t hx, if_neg (by decide), a1, mm_bd_ret]
/-! the reference's sign, give -/
theorem mr_sign1 {C n : Nat} (h6 : S 27 6 = nI C) (hC : C ≤ 3) (h8 : S 27 8 = nI n) (hn : n ≤ 40) (h : C = 0 ∨ n = 40) (x : Int32) : mm_runD (d + 1) 128 [.inr 27, .inl x] S = some (mm_put S 27 0 1, 0, 0, 0, 0) := by
  rw [dX8_sign, eX8_sign_0, h6, h8]
  by_cases q : C = 0
  · rw [if_pos (by rw [q]; rfl), eX8_sign_8, mp_pp, if_neg (by decide)]
  · rw [if_neg (nI_ne0 (by omega) (by omega)), if_pos (by rw [show n = 40 by omega]; rfl), eX8_sign_8, mp_pp, if_neg (by decide)]
theorem mr_sign2 (hK : mr_K S k) (hW : kW k) {C n : Nat} {col : Nat → Nat} {y : Nat → Int32} (h6 : S 27 6 = nI C) (hC : C ≤ 3) (h0 : 0 < C) (hc : ∀ c, c < C → S 31 c = nI (col c)) (h8 : S 27 8 = nI n) (hn : n < 40) (hy : ∀ i, i < n → S 34 i = y i) (hh : hnd k C col y n) (hL : ∀ t, t ∈ stk k C col y n → t < 8) (x : Int32) :
    ∃ f, (¬ okS k (stk k C col y n) x → mm_runD (d + 3) 128 [.inr 27, .inl x] S = some (mm_put (mm_stc (mm_put S 27 0 0) 36 f) 27 0 2, 0, 0, 0, 0)) ∧
      (okS k (stk k C col y n) x → mm_runD (d + 3) 128 [.inr 27, .inl x] S = some (mm_put (mm_put (mm_put (mm_stc (mm_put S 27 0 0) 36 f) 27 0 0) 34 n x) 27 8 (nI (n + 1)), 0, 0, 0, nI (n + 1))) := by
  obtain ⟨f, h1⟩ := mr_nextr (d := d) (S := mm_put S 27 0 0) (n := n) hK hW hC h6 hc hy (by omega) hh
  refine ⟨f, ?_⟩
  have hK1 : mr_K (mm_stc (mm_put S 27 0 0) 36 f) k := hK
  have h8' : (mm_put S 27 0 0) 27 8 = nI n := h8
  have e1 : (mm_put (mm_stc (mm_put S 27 0 0) 36 f) 27 0 0) 27 8 = nI n := h8
  have e2 : (mm_put (mm_put (mm_stc (mm_put S 27 0 0) 36 f) 27 0 0) 34 n x) 27 8 = nI n := h8
  have IM := mr_isMakerOf (d := d + 1) hK1 hW hL x
  have start : ∀ Z, mm_runD (d + 3) 128 [.inr 27, .inl x] S = Z ↔ mm_E (mm_runD (d + 2)) pX8_sign 1 0 [some (.inr 27), some (.inl x), none] [] S 0 0 = Z := fun Z => by rw [dX8_sign]
  rw [start, start, eX8_sign_0, h6, if_neg (nI_ne0 h0 (by omega)), h8, if_neg (show ¬ nI n = 40 from fun z => absurd ((nI_eq (b := 40) (by omega) (by omega)).mp z) (by omega)), mp_pp, if_pos (show (0 : Int32) ≤ 0 by decide), h8', h1, mm_bd_ret]
  cases hs : stk k C col y n with
  | nil =>
    rw [hs] at IM
    rw [if_pos (show hdv [] = -1 from rfl), IM, mm_bd_ret, mb_f (by rintro ⟨t, r, m, h1, _⟩; cases h1), if_pos rfl, mp_pp, if_neg (by decide)]
    refine ⟨fun _ => rfl, fun q => ?_⟩
    rcases q with ⟨q, _⟩ | ⟨t, r, m, q, _⟩
    · exact absurd rfl q
    · cases q
  | cons t r =>
    rw [hs] at IM hL
    have ht8 := hL t (by simp)
    rw [if_neg (show ¬ hdv (t :: r) = -1 from fun q => (nn_a1 (a := t) (by omega)).mp q), IM]
    by_cases x1 : x = -1
    · rw [if_pos x1, mp_pp, if_pos (show (0 : Int32) ≤ 0 by decide), e1, ar_34 hn, e2, nI_1, mp_pp]
      exact ⟨fun q => absurd (Or.inl ⟨by simp, Or.inl x1⟩) q, fun _ => rfl⟩
    · by_cases x2 : x = -2
      · rw [if_neg x1, if_pos x2, mp_pp, if_pos (show (0 : Int32) ≤ 0 by decide), e1, ar_34 hn, e2, nI_1, mp_pp]
        exact ⟨fun q => absurd (Or.inl ⟨by simp, Or.inr x2⟩) q, fun _ => rfl⟩
      · rw [if_neg x1, if_neg x2, mm_bd_ret]
        by_cases q : ∃ t' r' m, t :: r = t' :: r' ∧ m < kM k ∧ x = nI m ∧ kTy k m = t'
        · rw [mb_t q, if_neg (by decide), mp_pp, if_pos (show (0 : Int32) ≤ 0 by decide), e1, ar_34 hn, e2, nI_1, mp_pp]
          exact ⟨fun z => absurd (Or.inr q) z, fun _ => rfl⟩
        · rw [mb_f q, if_pos rfl, mp_pp, if_neg (by decide)]
          refine ⟨fun _ => rfl, fun z => ?_⟩
          rcases z with ⟨_, z | z⟩ | z
          · exact absurd z x1
          · exact absurd z x2
          · exact absurd z q
theorem mr_give1 {C n : Nat} (h6 : S 27 6 = nI C) (hC : C ≤ 3) (h8 : S 27 9 = nI n) (hn : n ≤ 60) (h : C = 0 ∨ n = 60) (x : Int32) : mm_runD (d + 1) 130 [.inr 27, .inl x] S = some (mm_put S 27 0 1, 0, 0, 0, 0) := by
  rw [dX8_give, eX8_give_0, h6, h8]
  by_cases q : C = 0
  · rw [if_pos (by rw [q]; rfl), mp_pp, if_neg (by decide)]
  · rw [if_neg (nI_ne0 (by omega) (by omega)), if_pos (by rw [show n = 60 by omega]; rfl), mp_pp, if_neg (by decide)]
theorem mr_give2 (hK : mr_K S k) (hW : kW k) {C n : Nat} {col : Nat → Nat} {y : Nat → Int32} (h6 : S 27 6 = nI C) (hC : C ≤ 3) (h0 : 0 < C) (hc : ∀ c, c < C → S 31 c = nI (col c)) (h8 : S 27 9 = nI n) (hn : n < 60) (hy : ∀ i, i < n → S 35 i = y i) (hh : hnd k C col y n) (hL : ∀ t, t ∈ stk k C col y n → t < 8) (x : Int32) :
    ∃ f, (¬ okV k (stk k C col y n) x → mm_runD (d + 3) 130 [.inr 27, .inl x] S = some (mm_put (mm_stc (mm_put S 27 0 0) 36 f) 27 0 2, 0, 0, 0, 0)) ∧
      (okV k (stk k C col y n) x → mm_runD (d + 3) 130 [.inr 27, .inl x] S = some (mm_put (mm_put (mm_put (mm_stc (mm_put S 27 0 0) 36 f) 27 0 0) 35 n x) 27 9 (nI (n + 1)), 0, 0, 0, nI (n + 1))) := by
  obtain ⟨f, h1⟩ := mr_nextv (d := d) (S := mm_put S 27 0 0) (n := n) hK hW hC h6 hc hy (by omega) hh
  refine ⟨f, ?_⟩
  have hK1 : mr_K (mm_stc (mm_put S 27 0 0) 36 f) k := hK
  have h8' : (mm_put S 27 0 0) 27 9 = nI n := h8
  have e1 : (mm_put (mm_stc (mm_put S 27 0 0) 36 f) 27 0 0) 27 9 = nI n := h8
  have e2 : (mm_put (mm_put (mm_stc (mm_put S 27 0 0) 36 f) 27 0 0) 35 n x) 27 9 = nI n := h8
  have IM := mr_isMakerOf (d := d + 1) hK1 hW hL x
  have start : ∀ Z, mm_runD (d + 3) 130 [.inr 27, .inl x] S = Z ↔ mm_E (mm_runD (d + 2)) pX8_give 1 0 [some (.inr 27), some (.inl x)] [] S 0 0 = Z := fun Z => by rw [dX8_give]
  rw [start, start, eX8_give_0, h6, if_neg (nI_ne0 h0 (by omega)), h8, if_neg (show ¬ nI n = 60 from fun z => absurd ((nI_eq (b := 60) (by omega) (by omega)).mp z) (by omega)), mp_pp, if_pos (show (0 : Int32) ≤ 0 by decide), h8', h1, mm_bd_ret, IM, mm_bd_ret]
  by_cases q : okV k (stk k C col y n) x
  · rw [mb_t q, if_neg (by decide), mp_pp, if_pos (show (0 : Int32) ≤ 0 by decide), e1, ar_35 hn, e2, nI_1, mp_pp]
    exact ⟨fun z => absurd q z, fun _ => rfl⟩
  · rw [mb_f q, if_pos rfl, mp_pp, if_neg (by decide)]
    exact ⟨fun _ => rfl, fun z => absurd z q⟩
end
