/-! PURE: tests, the reference's side -/
section
variable {d : Nat} {S : Mem} {k : KK} {C R nv : Nat} {sz : Nat → Nat} {col : Nat → Nat} {σ : SG}
/-- what stands while the values go down -/
def wsr (S : Mem) (k : KK) (C R : Nat) (sz : Nat → Nat) (col : Nat → Nat) (σ : SG) (nv : Nat) : Prop := mr_K S k ∧ rws S k C R sz ∧ gin (S 32) (gk S k) k C R sz col σ [] ∧ rnd S (S 32) k σ ∧ (∀ v, v < nv → sgn k (S 35 v)) ∧ nv ≤ 60
theorem wsr_fr {S' : Mem} (h : wsr S k C R sz col σ nv) (hf : mfr [41] S S') : wsr S' k C R sz col σ nv := by
  obtain ⟨a1, a2, a3, a4, a5, a6⟩ := h
  refine ⟨?_, ?_, ?_, ?_, by rw [hf 35 (by decide)]; exact a5, a6⟩
  · unfold mr_K
    rw [hf 27 (by decide), hf 28 (by decide), hf 29 (by decide)]
    exact a1
  · unfold rws
    rw [hf 8 (by decide), hf 27 (by decide), hf 33 (by decide), hf 32 (by decide), hf 9 (by decide), hf 10 (by decide)]
    exact a2
  · unfold gk
    rw [hf 32 (by decide)]
    exact a3
  · unfold rnd rn1
    rw [hf 27 (by decide), hf 32 (by decide), hf 42 (by decide), hf 43 (by decide), hf 44 (by decide), hf 45 (by decide), hf 46 (by decide), hf 47 (by decide), hf 48 (by decide), hf 49 (by decide)]
    exact a4
theorem mr_bhw (hW : kW k) (h : wsr S k C R sz col σ nv) {t p : Nat} (hv : wv k (S 35) nv t p) : mm_runD (d + 2) 132 [.inr 27, .inr 35, .inl (nI p)] S = some (S, 0, 0, 0, nI (bhd (fun j => kar k (S 35 j)) p)) := by
  obtain ⟨a1, a2, a3, a4, a5, a6⟩ := h
  obtain ⟨l, h1, h2⟩ := wv_bh hW hv
  rw [bhd_eq h1]
  exact mr_behindv a1 hW h1 (by omega) (fun j a b => a5 j (by omega))
theorem mr_t72 {o4 o6 o10 : Option MV} {y md P ts m at' f : Nat} (hP : P ≤ 40) (h4 : P - 1 + f ≤ 40) (hf : 2 ≤ f) : ∀ (z i : Nat) (S : Mem), i - ts = z → ts ≤ i → i < P → ∃ S', mm_E (mm_runD d) pX8_tests 1 72 [some (.inr 27), some (.inl (nI y)), some (.inl (nI md)), some (.inl (nI P)), o4, some (.inl (nI ts)), some (.inl (nI at')), some (.inl (nI m)), some (.inl (nI f)), some (.inl (nI i)), o10] [] S 0 0 = mm_E (mm_runD d) pX8_tests 1 94 [some (.inr 27), some (.inl (nI y)), some (.inl (nI md)), some (.inl (nI P)), o4, some (.inl (nI ts)), some (.inl (nI at')), some (.inl (nI m)), some (.inl (nI f)), some (.inl (nI ts)), o10] [] S' 0 0 ∧ mfr [41] S S' ∧ (∀ j, j < ts + f → S' 41 j = S 41 j) ∧ (∀ j, ts + f ≤ j → j ≤ i + f - 1 → S' 41 j = S 41 (j + 1 - f)) ∧ ∀ j, i + f - 1 < j → S' 41 j = S 41 j := by
  intro z
  induction z with
  | zero =>
    intro i S hz h1 h2
    refine ⟨S, ?_, mfr_rf, fun j _ => rfl, fun j a b => by omega, fun j _ => rfl⟩
    rw [eX8_tests_72, if_neg (show ¬ nI f ≤ 1 from nI_ge (b := f) (a := 1) (by omega) (by omega)), if_pos (nI_le (by omega) (by omega))]
  | succ z ih =>
    intro i S hz h1 h2
    obtain ⟨S', a1, a2, a3, a4, a5⟩ := ih (i - 1) (mm_put S 41 (i + f - 1) (S 41 i)) (by omega) (by omega) (by omega)
    refine ⟨S', ?_, mfr_tr (mfr_put (by simp)) a2, fun j hj => ?_, fun j a b => ?_, fun j hj => ?_⟩
    · rw [eX8_tests_72, if_neg (show ¬ nI f ≤ 1 from nI_ge (b := f) (a := 1) (by omega) (by omega)), if_neg (nI_ge (by omega) (by omega)), ar_41 (by omega), nI_add, show nI (i + f) - 1 = nI (i + f - 1) from nn_sub (b := 1) (by omega), ar_41 (by omega), show nI i + -1 = nI (i - 1) from nn_dec (by omega)]
      exact a1
    · rw [a3 j hj, mp_pk _ _ _ (by omega)]
    · by_cases e : j = i + f - 1
      · rw [a5 j (by omega), e, mp_pp, show i + f - 1 + 1 - f = i by omega]
      · rw [a4 j a (by omega), mp_pk _ _ _ (by omega)]
    · rw [a5 j (by omega), mp_pk _ _ _ (by omega)]
theorem mr_t94 {o4 o10 : Option MV} {y md P ts m at' : Nat} (hP : P ≤ 40) : ∀ (z i : Nat) (S : Mem), P - 1 - i = z → ts ≤ i → i < P → ∃ S', mm_E (mm_runD d) pX8_tests 1 94 [some (.inr 27), some (.inl (nI y)), some (.inl (nI md)), some (.inl (nI P)), o4, some (.inl (nI ts)), some (.inl (nI at')), some (.inl (nI m)), some (.inl (nI 0)), some (.inl (nI i)), o10] [] S 0 0 = mm_E (mm_runD d) pX8_tests 1 119 [some (.inr 27), some (.inl (nI y)), some (.inl (nI md)), some (.inl (nI P)), o4, some (.inl (nI ts)), some (.inl (nI at')), some (.inl (nI m)), some (.inl (nI 0)), some (.inl (nI (at' + 1))), some (.inl 0)] [] S' 0 0 ∧ mfr [41] S S' ∧ (∀ j, j < i → S' 41 j = S 41 j) ∧ ∀ j, i ≤ j → j + 1 < P → S' 41 j = S 41 (j + 1) := by
  intro z
  induction z with
  | zero =>
    intro i S hz h1 h2
    refine ⟨S, ?_, mfr_rf, fun j _ => rfl, fun j a b => by omega⟩
    rw [eX8_tests_94, if_pos nI_0, nI_1, nI_1, if_pos (nI_le (by omega) (by omega))]
  | succ z ih =>
    intro i S hz h1 h2
    obtain ⟨S', a1, a2, a3, a4⟩ := ih (i + 1) (mm_put S 41 i (S 41 (i + 1))) (by omega) (by omega) (by omega)
    refine ⟨S', ?_, mfr_tr (mfr_put (by simp)) a2, fun j hj => ?_, fun j a b => ?_⟩
    · rw [eX8_tests_94, if_pos nI_0, nI_1, nI_1, if_neg (nI_ge (by omega) (by omega)), ar_41 (by omega), ar_41 (by omega)]
      exact a1
    · rw [a3 j (by omega), mp_pk _ _ _ (by omega)]
    · by_cases e : j = i
      · rw [a3 j (by omega), e, mp_pp]
      · rw [a4 j (by omega) b, mp_pk _ _ _ (by omega)]
theorem mr_gap {o4 o10 : Option MV} {y md P ts m at' f : Nat} (hP : P ≤ 40) (hts : ts < P) (hf : f ≤ 3) (h4 : P - 1 + f ≤ 40) : ∃ S', mm_E (mm_runD d) pX8_tests 1 72 [some (.inr 27), some (.inl (nI y)), some (.inl (nI md)), some (.inl (nI P)), o4, some (.inl (nI ts)), some (.inl (nI at')), some (.inl (nI m)), some (.inl (nI f)), some (.inl (nI (P - 1))), o10] [] S 0 0 = mm_E (mm_runD d) pX8_tests 1 119 [some (.inr 27), some (.inl (nI y)), some (.inl (nI md)), some (.inl (nI P)), o4, some (.inl (nI ts)), some (.inl (nI at')), some (.inl (nI m)), some (.inl (nI f)), some (.inl (nI (at' + 1))), some (.inl 0)] [] S' 0 0 ∧ mfr [41] S S' ∧ (∀ j, j < ts → S' 41 j = S 41 j) ∧ ∀ j, ts + f ≤ j → j < P - 1 + f → S' 41 j = S 41 (j + 1 - f) := by
  by_cases y2 : 2 ≤ f
  · obtain ⟨S', a1, a2, a3, a4, a5⟩ := mr_t72 (d := d) (o4 := o4) (o6 := none) (o10 := o10) (y := y) (md := md) (P := P) (ts := ts) (m := m) (at' := at') (f := f) hP h4 y2 (P - 1 - ts) (P - 1) S rfl (by omega) (by omega)
    refine ⟨S', ?_, a2, fun j hj => a3 j (by omega), fun j a b => a4 j a (by omega)⟩
    rw [a1, eX8_tests_94, if_neg (nI_ne0 (by omega) (by omega)), nI_1]
  · have h1 : nI f ≤ 1 := nI_le (b := 1) (by omega) (by omega)
    by_cases y0 : f = 0
    · subst y0
      obtain ⟨S', a1, a2, a3, a4⟩ := mr_t94 (d := d) (o4 := o4) (o10 := o10) (y := y) (md := md) (P := P) (ts := ts) (m := m) (at' := at') hP (P - 1 - ts) ts S rfl (by omega) (by omega)
      refine ⟨S', ?_, a2, a3, fun j a b => a4 j (by omega) (by omega)⟩
      rw [eX8_tests_72, if_pos h1]
      exact a1
    · have e : f = 1 := by omega
      subst e
      refine ⟨S, ?_, mfr_rf, fun j _ => rfl, fun j _ _ => by rw [show j + 1 - 1 = j by omega]⟩
      rw [eX8_tests_72, if_pos h1, eX8_tests_94, if_neg (nI_ne0 (by omega) (by omega)), nI_1]
theorem mr_t119 (hW : kW k) {o4 o6 : Option MV} {y md P ts m f a : Nat} {ty : Nat → Nat} (hf : ts + f ≤ 40) (hP : 1 ≤ P) {g : Nat → Nat} : ∀ (z i : Nat) (S : Mem), f - i = z → i ≤ f → wsr S k C R sz col σ nv → g = (fun j => kar k (S 35 j)) → (∀ j, j < f → wv k (S 35) nv (ty j) (nth g a j)) → ∃ S' o9, mm_E (mm_runD (d + 2)) pX8_tests 1 119 [some (.inr 27), some (.inl (nI y)), some (.inl (nI md)), some (.inl (nI P)), o4, some (.inl (nI ts)), o6, some (.inl (nI m)), some (.inl (nI f)), some (.inl (nI (nth g a i))), some (.inl (nI i))] [] S 0 0 = mm_E (mm_runD (d + 2)) pX8_tests 1 147 [some (.inr 27), some (.inl (nI y)), some (.inl (nI md)), some (.inl (nI (P - 1 + f))), o4, some (.inl (nI ts)), o6, some (.inl (nI m)), some (.inl (nI f)), o9, some (.inl (nI (y + 1)))] [] S' 0 0 ∧ mfr [41] S S' ∧ (∀ j, j < ts + i ∨ ts + f ≤ j → S' 41 j = S 41 j) ∧ ∀ j, i ≤ j → j < f → S' 41 (ts + j) = nI (nth g a j) := by
  intro z
  induction z with
  | zero =>
    intro i S hz hi hw hg hv
    refine ⟨S, some (.inl (nI (nth g a i))), ?_, mfr_rf, fun j _ => rfl, fun j a b => by omega⟩
    have e : nI P + (nI f - 1) = nI (P - 1 + f) := by
      by_cases y0 : f = 0
      · subst y0; exact nn_dec (a := P) (by omega)
      · rw [show nI f - 1 = nI (f - 1) from nn_sub (b := 1) (by omega), nI_add, show P + (f - 1) = P - 1 + f by omega]
    rw [eX8_tests_119, if_pos (nI_le (by omega) (by omega)), e, nI_1]
  | succ z ih =>
    intro i S hz hi hw hg hv
    have F : mfr [41] S (mm_put S 41 (ts + i) (nI (nth g a i))) := mfr_put (by simp)
    obtain ⟨S', o9, a1, a2, a3, a4⟩ := ih (i + 1) (mm_put S 41 (ts + i) (nI (nth g a i))) (by omega) (by omega) (wsr_fr hw F) hg hv
    have bh := mr_bhw (d := d) (S := mm_put S 41 (ts + i) (nI (nth g a i))) hW (wsr_fr hw F) (hv i (by omega))
    refine ⟨S', o9, ?_, mfr_tr F a2, fun j hj => ?_, fun j p q => ?_⟩
    · rw [eX8_tests_119, if_neg (nI_ge (by omega) (by omega)), nI_add, ar_41 (by omega), bh, mm_bd_ret, nI_1, show bhd (fun j => kar k ((mm_put S 41 (ts + i) (nI (nth g a i))) 35 j)) (nth g a i) = nth g a (i + 1) by rw [hg]; rfl]
      exact a1
    · rw [a3 j (by omega), mp_pk _ _ _ (by omega)]
    · by_cases e : j = i
      · rw [e, a3 (ts + i) (by omega), mp_pp]
      · exact a4 j (by omega) q
theorem mr_t147 (hg : sgW (S 32) (gk S k) k C R sz col σ) (hW : kW k) (hn : rnd S (S 32) k σ) {o4 o5 o6 o8 o9 : Option MV} {md : Int32} {x3 : Int32} {y c : Nat} (hyc : y < c) (hcN : c < gN σ) (hp : gP σ c = y) : ∀ (z i : Nat), c - i = z → y < i → i ≤ c → mm_E (mm_runD d) pX8_tests 1 147 [some (.inr 27), some (.inl (nI y)), some (.inl md), some (.inl x3), o4, o5, o6, some (.inl (nI (gM σ c))), o8, o9, some (.inl (nI i))] [] S 0 0 = mm_E (mm_runD d) pX8_tests 1 42 [some (.inr 27), some (.inl (nI c)), some (.inl md), some (.inl x3), o4, o5, o6, some (.inl (nI (gM σ c))), o8, o9, some (.inl (nI c))] [] S 0 0 := by
  have hN := hg.2.1
  have hM := hW.2.1
  obtain ⟨p1, p2, p3, p4, p5, p6⟩ := hg.2.2.2.2.1 c (by omega) hcN
  intro z
  induction z with
  | zero =>
    intro i hz h1 h2
    have e : i = c := by omega
    subst e
    obtain ⟨q1, q2, q3, q4⟩ := hn.2 i hcN
    rw [eX8_tests_147, ar_47 (by omega), q2, if_neg (show ¬ i = 0 by omega), hp, if_pos rfl, ar_48 (by omega), q3, if_neg (show ¬ i = 0 by omega), if_pos rfl]
  | succ z ih =>
    intro i hz h1 h2
    obtain ⟨q1, q2, q3, q4⟩ := hn.2 i (by omega)
    obtain ⟨r1, r2, r3, r4, r5, r6⟩ := hg.2.2.2.2.1 i (by omega) (by omega)
    rw [eX8_tests_147, ar_47 (by omega), q2, if_neg (show ¬ i = 0 by omega)]
    by_cases e : gP σ i = y
    · have em : gM σ i ≠ gM σ c := fun w => by
        obtain ⟨j, j1, j2, j3⟩ := chd_one hg hyc hcN hp
        obtain ⟨l, l1, l2, l3⟩ := chd_one hg (y := y) (c := i) h1 (by omega) e
        have := j3 l l1 (by rw [l2]; exact w)
        rw [this, j2] at l2
        omega
      rw [if_pos (by rw [e]), ar_48 (by omega), q3, if_neg (show ¬ i = 0 by omega), if_neg (fun w => em ((nI_eq (by omega) (by omega)).mp w)), nI_1]
      exact ih (i + 1) (by omega) (by omega) (by omega)
    · rw [if_neg (fun w => e ((nI_eq (by omega) (by omega)).mp w)), nI_1]
      exact ih (i + 1) (by omega) (by omega) (by omega)
theorem mr_walk (hW : kW k) : ∀ (z y n made : Nat) (s : Nat → Nat) (S : Mem) (o4 o5 o6 o7 o8 o9 o10 : Option MV), wsr S k C R sz col σ nv → WK (S 32) k (S 35) σ z y s n → y < gN σ → sit k (S 35) nv (gT σ y) s → (∀ j, j < tP (gT σ y) → S 41 j = nI (s j)) → ∃ S', mm_E (mm_runD (d + 2)) pX8_tests 1 42 [some (.inr 27), some (.inl (nI y)), some (.inl (nI made)), some (.inl (nI (tP (gT σ y)))), o4, o5, o6, o7, o8, o9, o10] [] S 0 0 = some (S', 0, 0, 0, nI (made + n)) ∧ mfr [41] S S' := by
  intro z
  induction z with
  | zero => intro y n made s S o4 o5 o6 o7 o8 o9 o10 _ h; exact absurd h (fun q => q)
  | succ z ih =>
    intro y n made s S o4 o5 o6 o7 o8 o9 o10 hw hwk hy hs h41
    obtain ⟨hK, hr, hg, hn, hx, hnv⟩ := hw
    have hN := hg.1.2.1
    have hM := hW.2.1
    have wP := (hg.1.2.2.2.1 _ hy).1
    obtain ⟨n1, n2, n3, n4, n5, n6⟩ := hn.2 y hy
    have kd4 : kdT (S 32) (gT σ y) ≤ 2 := by unfold kdT; split <;> (try split) <;> omega
    rcases hwk with ⟨q, q0⟩ | ⟨q, m, c, n', m1, m2, m3, m4, m5, m6, m7, m8⟩
    · subst q0
      refine ⟨S, ?_, mfr_rf⟩
      rw [eX8_tests_42, ar_42 (by omega), n1, if_neg (show ¬ nI (kdT (S 32) (gT σ y)) = 2 from fun w => q ((nI_eq (b := 2) (by omega) (by omega)).mp w)), show made + 0 = made from rfl] <;> rfl
    · have hk2 := kdT_2 q
      obtain ⟨t, et⟩ : ∃ t, t = tsT (S 32) (gT σ y) := ⟨_, rfl⟩
      rw [← et] at hk2 m2 m8
      obtain ⟨v1, m', v2, v3, v4, v5, v6⟩ := wv_is hW (hs t hk2.2)
      have em : m' = m := (nI_eq (by omega) (by omega)).mp (v3.symm.trans m2)
      subst em
      have hf3 := (hW.2.2 m' v2).2.1
      obtain ⟨p1, p2, p3, p4, p5, p6⟩ := hg.1.2.2.2.2.1 c (by omega) m4
      rw [m5, ← et, m6] at p6
      obtain ⟨r1, r2, r3, r4⟩ := brS_is hW hr (hg.1.2.2.2.1 _ hy) hk2.2 v2 p6
      obtain ⟨S1, a1, a2, a3, a4⟩ := mr_gap (d := d + 2) (S := S) (o4 := o4) (o10 := o10) (y := y) (md := made + 1) (P := tP (gT σ y)) (ts := t) (m := m') (at' := s t) (f := kFc k m') wP hk2.2 hf3 r1
      have hw1 : wsr S1 k C R sz col σ nv := wsr_fr ⟨hK, hr, hg, hn, hx, hnv⟩ a2
      have e35 : S1 35 = S 35 := a2 35 (by decide)
      obtain ⟨S2, o9', b1, b2, b3, b4⟩ := mr_t119 (d := d) (k := k) (C := C) (R := R) (sz := sz) (col := col) (σ := σ) (nv := nv) hW (o4 := o4) (o6 := some (.inl (nI (s t)))) (y := y) (md := made + 1) (P := tP (gT σ y)) (ts := t) (m := m') (f := kFc k m') (a := s t + 1) (ty := kFt k m') (by omega) (by omega) (kFc k m' - 0) 0 S1 rfl (by omega) hw1 rfl (by rw [e35]; exact v6)
      rw [e35] at b1 b4
      have F2 := mfr_tr a2 b2
      have hw2 : wsr S2 k C R sz col σ nv := wsr_fr hw1 b2
      have D := mr_t147 (d := d + 2) (S := S2) hw2.2.2.1.1 hW hw2.2.2.2.1 (o4 := o4) (o5 := some (.inl (nI t))) (o6 := some (.inl (nI (s t)))) (o8 := some (.inl (nI (kFc k m')))) (o9 := o9') (md := nI (made + 1)) (x3 := nI (tP (gT σ y) - 1 + kFc k m')) m3 m4 m5 (c - (y + 1)) (y + 1) rfl (by omega) (by omega)
      rw [m6] at D
      have ss := sit_s (X := S 35) (nv := nv) hW hr hg.1 (c := c) (m := m') (s := s) (by omega) m4 (by rw [m5]; exact hs) m6 (by rw [m5, ← et]; exact m2)
      rw [m5, ← et] at ss
      obtain ⟨S3, c1, c2⟩ := ih c n' (made + 1) (stS (fun j => kar k (S 35 j)) s t (kFc k m')) S2 o4 (some (.inl (nI t))) (some (.inl (nI (s t)))) (some (.inl (nI m'))) (some (.inl (nI (kFc k m')))) o9' (some (.inl (nI c))) hw2 (by rw [F2 32 (by decide), F2 35 (by decide)]; exact m8) m4 (by rw [F2 35 (by decide)]; exact ss) (fun j hj => by
        rw [r3] at hj
        unfold stS
        by_cases y1 : j < t
        · rw [if_pos y1, b3 j (by omega), a3 j y1, h41 j (by omega)]
        · rw [if_neg y1]
          by_cases y2 : j < t + kFc k m'
          · rw [if_pos y2]
            have := b4 (j - t) (by omega) (by omega)
            rw [show t + (j - t) = j by omega] at this
            exact this
          · rw [if_neg y2, b3 j (by omega), a4 j (by omega) hj, h41 _ (by omega)])
      refine ⟨S3, ?_, mfr_tr F2 c2⟩
      obtain ⟨u1, u2, u3⟩ := n6 q
      rw [r3] at c1
      rw [nI_0] at b1
      have b1' : mm_E (mm_runD (d + 2)) pX8_tests 1 119 [some (.inr 27), some (.inl (nI y)), some (.inl (nI (made + 1))), some (.inl (nI (tP (gT σ y)))), o4, some (.inl (nI t)), some (.inl (nI (s t))), some (.inl (nI m')), some (.inl (nI (kFc k m'))), some (.inl (nI (s t + 1))), some (.inl 0)] [] S1 0 0 = _ := b1
      rw [eX8_tests_42, ar_42 (by omega), n1, if_pos (show nI (kdT (S 32) (gT σ y)) = 2 by rw [q]; rfl), ar_43 (by omega), u1, ← et, ar_41 (by omega), h41 t hk2.2, ar_35 (by omega), m2, mr_fields (d := d + 1) hK hW v2, mm_bd_ret, nI_1, show nI (tP (gT σ y)) - 1 = nI (tP (gT σ y) - 1) from nn_sub (b := 1) (by omega), m7, show made + (n' + 1) = made + 1 + n' by omega]
      exact a1.trans (b1'.trans (D.trans c1))
theorem mr_t25 (hW : kW k) (hC : C ≤ 3) {o6 o7 o8 o9 o10 : Option MV} {x1 x2 x3 : Int32} {ty : Nat → Nat} {g : Nat → Nat} : ∀ (z i : Nat) (S : Mem), C - i = z → i ≤ C → S 27 6 = nI C → wsr S k C R sz col σ nv → g = (fun j => kar k (S 35 j)) → (∀ j, j < C → wv k (S 35) nv (ty j) (nth g 0 j)) → ∃ S' o4 o5, mm_E (mm_runD (d + 2)) pX8_tests 1 25 [some (.inr 27), some (.inl x1), some (.inl x2), some (.inl x3), some (.inl (nI (nth g 0 i))), some (.inl (nI i)), o6, o7, o8, o9, o10] [] S 0 0 = mm_E (mm_runD (d + 2)) pX8_tests 1 42 [some (.inr 27), some (.inl x1), some (.inl x2), some (.inl x3), o4, o5, o6, o7, o8, o9, o10] [] S' 0 0 ∧ mfr [41] S S' ∧ (∀ j, j < i → S' 41 j = S 41 j) ∧ ∀ j, i ≤ j → j < C → S' 41 j = nI (nth g 0 j) := by
  intro z
  induction z with
  | zero =>
    intro i S hz hi h6 hw hg hv
    refine ⟨S, some (.inl (nI (nth g 0 i))), some (.inl (nI i)), ?_, mfr_rf, fun j _ => rfl, fun j a b => by omega⟩
    rw [eX8_tests_25, h6, if_pos (nI_le (by omega) (by omega))]
  | succ z ih =>
    intro i S hz hi h6 hw hg hv
    have F : mfr [41] S (mm_put S 41 i (nI (nth g 0 i))) := mfr_put (by simp)
    obtain ⟨S', o4, o5, a1, a2, a3, a4⟩ := ih (i + 1) (mm_put S 41 i (nI (nth g 0 i))) (by omega) (by omega) h6 (wsr_fr hw F) hg hv
    have bh := mr_bhw (d := d) (S := mm_put S 41 i (nI (nth g 0 i))) hW (wsr_fr hw F) (hv i (by omega))
    refine ⟨S', o4, o5, ?_, mfr_tr F a2, fun j hj => ?_, fun j p q => ?_⟩
    · rw [eX8_tests_25, h6, if_neg (nI_ge (by omega) (by omega)), ar_41 (by omega), bh, mm_bd_ret, nI_1, show bhd (fun j => kar k ((mm_put S 41 i (nI (nth g 0 i))) 35 j)) (nth g 0 i) = nth g 0 (i + 1) by rw [hg]; rfl]
      exact a1
    · rw [a3 j (by omega), mp_pk _ _ _ (by omega)]
    · by_cases e : j = i
      · rw [e, a3 i (by omega), mp_pp]
      · exact a4 j (by omega) q
theorem mr_tests_ok (hK : mr_K S k) (hW : kW k) (hr : rws S k C R sz) (h6 : S 27 6 = nI C) (hC0 : 0 < C) (hC : C ≤ 3) (hcol : ∀ c, c < C → S 31 c = nI (col c)) (hg : gin (S 32) (gk S k) k C R sz col σ []) (hn : rnd S (S 32) k σ) (h9 : S 27 9 = nI nv) (hn60 : nv ≤ 60) (hv : hnv k C col (S 35) nv) (h0 : stk k C col (S 35) nv = []) {n : Nat} (hwk : WK (S 32) k (S 35) σ 300 0 (nth (fun j => kar k (S 35 j)) 0) n) : ∃ S' f, mm_runD (d + 4) 153 [.inr 27] S = some (S', 0, 0, 0, nI n) ∧ mfr [41] (mm_put (mm_stc S 36 f) 27 0 0) S' := by
  have hN := hg.1.2.1
  obtain ⟨f, _, a1⟩ := mr_can (d := d) hK hW h6 hC hC0 hcol h9 hn60 (fun i hi => rfl) (hnv_hnd hv) (by rw [h0]; intro t ht; cases ht)
  obtain ⟨t1, t2⟩ := sit_0 hW hr hC hg.1 hv h0
  obtain ⟨Z, eZ⟩ : ∃ Z, Z = mm_put (mm_stc S 36 f) 27 0 0 := ⟨_, rfl⟩
  have e35 : Z 35 = S 35 := by subst eZ; rfl
  have e32 : Z 32 = S 32 := by subst eZ; rfl
  have hw : wsr Z k C R sz col σ nv := by
    subst eZ
    exact ⟨hK, hr, hg, hn, fun v hv' => hnd_sgn (hnv_hnd hv) hv', hn60⟩
  obtain ⟨S1, o4, o5, b1, b2, b3, b4⟩ := mr_t25 (d := d + 1) (k := k) (C := C) (R := R) (sz := sz) (col := col) (σ := σ) (nv := nv) hW hC (o6 := none) (o7 := none) (o8 := none) (o9 := none) (o10 := none) (x1 := 0) (x2 := 0) (x3 := nI C) (ty := tT (gT σ 0)) (g := fun j => kar k (Z 35 j)) (C - 0) 0 Z rfl (by omega) (by subst eZ; exact h6) hw rfl (by rw [e35]; intro j hj; exact t2 j (by omega))
  have e35' : S1 35 = S 35 := by rw [b2 35 (by decide)]; exact e35
  obtain ⟨S2, c1, c2⟩ := mr_walk (d := d + 1) (k := k) (C := C) (R := R) (sz := sz) (col := col) (σ := σ) (nv := nv) hW 300 0 n 0 (nth (fun j => kar k (S 35 j)) 0) S1 o4 o5 none none none none none (wsr_fr hw b2) (by rw [b2 32 (by decide), e32, e35']; exact hwk) (by have := hg.1.1; omega) (by rw [e35']; exact t2) (fun j hj => by rw [b4 j (by omega) (by omega), e35])
  refine ⟨S2, f, ?_, by rw [← eZ]; exact mfr_tr b2 c2⟩
  rw [Nat.zero_add, nI_0, t1] at c1
  rw [nI_0] at b1
  have b1' : mm_E (mm_runD (d + 3)) pX8_tests 1 25 [some (.inr 27), some (.inl 0), some (.inl 0), some (.inl (nI C)), some (.inl 0), some (.inl 0), none, none, none, none, none] [] Z 0 0 = _ := b1
  rw [dX8_tests, eX8_tests_0, a1 h0, mm_bd_ret, if_neg (by decide), ← eZ, show Z 27 24 = nI (gN σ) by subst eZ; exact hn.1, if_neg (show ¬ nI (gN σ) = -1 from fun q => (nn_a1 (a := gN σ) (by omega)).mp q), show Z 27 6 = nI C by subst eZ; exact h6]
  exact b1'.trans c1
theorem mr_tests0 (h6 : S 27 6 = nI 0) : mm_runD (d + 2) 153 [.inr 27] S = some (mm_put S 27 0 1, 0, 0, 0, 0) := by
  rw [dX8_tests, eX8_tests_0, mr_can0 h6, mm_bd_ret, if_pos rfl]
theorem mr_tests1 (hK : mr_K S k) (hW : kW k) {n : Nat} {y : Nat → Int32} (h6 : S 27 6 = nI C) (hC : C ≤ 3) (h0 : 0 < C) (hc : ∀ c, c < C → S 31 c = nI (col c)) (h8 : S 27 9 = nI n) (hn : n ≤ 60) (hy : ∀ i, i < n → S 35 i = y i) (hh : hnd k C col y n) (hL : ∀ t, t ∈ stk k C col y n → t < 8) :
    ∃ f, (stk k C col y n ≠ [] → mm_runD (d + 4) 153 [.inr 27] S = some (mm_put (mm_stc S 36 f) 27 0 2, 0, 0, 0, 0)) ∧ (stk k C col y n = [] → S 27 24 = N1 → mm_runD (d + 4) 153 [.inr 27] S = some (mm_put (mm_put (mm_stc S 36 f) 27 0 0) 27 0 3, 0, 0, 0, 0)) := by
  obtain ⟨f, a1, a2⟩ := mr_can (d := d) hK hW h6 hC h0 hc h8 hn hy hh hL
  refine ⟨f, fun q => ?_, fun q w => ?_⟩
  · rw [dX8_tests, eX8_tests_0, a1 q, mm_bd_ret, if_pos rfl]
  · rw [dX8_tests, eX8_tests_0, a2 q, mm_bd_ret, if_neg (by decide), show (mm_put (mm_stc S 36 f) 27 0 0) 27 24 = N1 from w, if_pos rfl]
end
