/-! PURE: tests, the class's side -/
section
variable {d : Nat} {S : Mem} {k : KK} {C R nv : Nat} {sz : Nat → Nat} {col : Nat → Nat} {σ : SG} {X : Nat → Int32}
theorem mq_isSeat {P c : Nat} (h : S 25 3 = nI P) (hP : P ≤ 40) (hc : c < P) : mm_runD (d + 1) 40 [.inr 25, .inl (nI c)] S = some (S, 0, 0, 0, 1) := by
  rw [dX4_isSeat, eX4_isSeat_0, if_neg (show ¬ nI c < 0 from nI_nlt (b := 0) (Nat.zero_le _) (by omega)), h, if_neg (nI_ge (by omega) (by omega)), if_neg (show ¬ (40 : Int32) ≤ nI c from nI_ge (b := 40) (by omega) (by decide))]
theorem mg_10 {o1 o2 : Option MV} {P P' c : Nat} {x3 : Int32} (hP : P ≤ 40) (hx : nI P + x3 = nI P') : ∀ (z i : Nat) (S : Mem), P - i = z → c + 1 ≤ i → i ≤ P → S 25 3 = nI P → ∃ S', mm_E (mm_runD d) pX4_makeGap 0 10 [some (.inr 25), o1, o2, some (.inl x3), some (.inl (nI i))] [] S 0 0 = some (S', 0, 0, 0, 0) ∧ mfr [25, 26] S S' ∧ S' 25 3 = nI P' ∧ (∀ j, j + 1 < i → S' 26 j = S 26 j) ∧ ∀ j, i ≤ j + 1 → j + 1 < P → S' 26 j = S 26 (j + 1) := by
  intro z
  induction z with
  | zero =>
    intro i S hz h1 h2 h3
    refine ⟨mm_put S 25 3 (nI P'), ?_, mfr_put (by simp), mp_pp _ _ _ _, fun j hj => rfl, fun j a b => by omega⟩
    rw [eX4_makeGap_10, h3, if_pos (nI_le (by omega) (by omega)), hx]
  | succ z ih =>
    intro i S hz h1 h2 h3
    obtain ⟨S', a1, a2, a3, a4, a5⟩ := ih (i + 1) (mm_put S 26 (i - 1) (S 26 i)) (by omega) (by omega) (by omega) h3
    refine ⟨S', ?_, mfr_tr (mfr_put (by simp)) a2, a3, fun j hj => ?_, fun j a b => ?_⟩
    · rw [eX4_makeGap_10, h3, if_neg (nI_ge (by omega) (by omega)), ar_26 (by omega), show nI i - 1 = nI (i - 1) from nn_sub (b := 1) (by omega), ar_26 (by omega), nI_1]
      exact a1
    · rw [a4 j (by omega), mp_pk _ _ _ (by omega)]
    · by_cases y : j + 1 = i
      · rw [a4 j (by omega), show j = i - 1 by omega, mp_pp, show i - 1 + 1 = i by omega]
      · rw [a5 j (by omega) b, mp_pk _ _ _ (by omega)]
theorem mg_32 {o2 : Option MV} {P P' c s : Nat} (hP : P ≤ 40) (hP' : P + s ≤ 40) (hx : nI P + nI s = nI P') : ∀ (z i : Nat) (S : Mem), i - c = z → c ≤ i → i < P → S 25 3 = nI P → ∃ S', mm_E (mm_runD d) pX4_makeGap 0 32 [some (.inr 25), some (.inl (nI c)), o2, some (.inl (nI s)), some (.inl (nI i))] [] S 0 0 = some (S', 0, 0, 0, 0) ∧ mfr [25, 26] S S' ∧ S' 25 3 = nI P' ∧ (∀ j, j ≤ c + s → S' 26 j = S 26 j) ∧ (∀ j, c + s < j → j ≤ i + s → S' 26 j = S 26 (j - s)) ∧ ∀ j, i + s < j → S' 26 j = S 26 j := by
  intro z
  induction z with
  | zero =>
    intro i S hz h1 h2 h3
    refine ⟨mm_put S 25 3 (nI P'), ?_, mfr_put (by simp), mp_pp _ _ _ _, fun j hj => rfl, fun j a b => by omega, fun j hj => rfl⟩
    rw [eX4_makeGap_32, if_pos (nI_le (by omega) (by omega)), h3, hx]
  | succ z ih =>
    intro i S hz h1 h2 h3
    obtain ⟨S', a1, a2, a3, a4, a5, a6⟩ := ih (i - 1) (mm_put S 26 (i + s) (S 26 i)) (by omega) (by omega) (by omega) h3
    refine ⟨S', ?_, mfr_tr (mfr_put (by simp)) a2, a3, fun j hj => ?_, fun j a b => ?_, fun j hj => ?_⟩
    · rw [eX4_makeGap_32, if_neg (nI_ge (by omega) (by omega)), ar_26 (by omega), nI_add, ar_26 (by omega), show nI i + -1 = nI (i - 1) from nn_dec (by omega)]
      exact a1
    · rw [a4 j hj, mp_pk _ _ _ (by omega)]
    · by_cases y : j = i + s
      · rw [a6 j (by omega), y, mp_pp, show i + s - s = i by omega]
      · rw [a5 j a (by omega), mp_pk _ _ _ (by omega)]
    · rw [a6 j (by omega), mp_pk _ _ _ (by omega)]
theorem mq_makeGap {P c f : Nat} (hP : P ≤ 40) (hc : c < P) (hf : f ≤ 3) (h4 : P - 1 + f ≤ 40) (h3 : S 25 3 = nI P) : ∃ S', mm_runD (d + 1) 39 [.inr 25, .inl (nI c), .inl (nI f)] S = some (S', 0, 0, 0, 0) ∧ mfr [25, 26] S S' ∧ S' 25 3 = nI (P - 1 + f) ∧ (∀ j, j < c → S' 26 j = S 26 j) ∧ ∀ j, c + f ≤ j → j < P - 1 + f → S' 26 j = S 26 (j + 1 - f) := by
  by_cases y : f = 0
  · subst y
    obtain ⟨S', a1, a2, a3, a4, a5⟩ := mg_10 (d := d) (o1 := some (.inl (nI c))) (o2 := some (.inl (nI 0))) (P := P) (P' := P - 1) (c := c) (x3 := N1) hP (nn_dec (by omega)) (P - (c + 1)) (c + 1) S rfl (by omega) (by omega) h3
    refine ⟨S', ?_, a2, a3, fun j hj => a4 j (by omega), fun j a b => a5 j (by omega) (by omega)⟩
    rw [dX4_makeGap, eX4_makeGap_0, if_neg (show ¬ (0 : Int32) ≤ nI 0 - 1 by decide), nI_1]
    exact a1
  · obtain ⟨S', a1, a2, a3, a4, a5, a6⟩ := mg_32 (d := d) (o2 := some (.inl (nI f))) (P := P) (P' := P - 1 + f) (c := c) (s := f - 1) hP (by omega) (by rw [nI_add]; congr 1; omega) (P - 1 - c) (P - 1) S rfl (by omega) (by omega) h3
    refine ⟨S', ?_, a2, a3, fun j hj => a4 j (by omega), fun j a b => ?_⟩
    · rw [dX4_makeGap, eX4_makeGap_0, h3, show nI f - 1 = nI (f - 1) from nn_sub (b := 1) (by omega), if_pos (show (0 : Int32) ≤ nI (f - 1) from nI_le (a := 0) (Nat.zero_le _) (by omega)), show nI P - 1 = nI (P - 1) from nn_sub (b := 1) (by omega)]
      exact a1
    · rw [a5 j (by omega) (by omega), show j - (f - 1) = j + 1 - f by omega]
theorem mends_bhd {g : Nat → Nat} {F : Nat → Int32} {n p : Nat} (h : mends g F 0 n) (hp : p < n) : F p = nI (bhd g p) ∧ bhd g p ≤ n := by
  obtain ⟨l, h1, h2, h3⟩ := h p (Nat.zero_le _) hp
  rw [bhd_eq h1]
  exact ⟨h3, h2⟩
theorem mq_open_l {g : Nat → Nat} {c f a P : Nat} {o2 : Option MV} (hnv : nv ≤ 60) (hf : c + f ≤ 40) (hn : ∀ j, j < f → nth g a j < nv) : ∀ (z i : Nat) (S : Mem), f - i = z → i ≤ f → S 15 4 = nI nv → mends g (S 17) 0 nv → S 25 3 = nI P → ∃ S', mm_E (mm_runD (d + 1)) pX4_openUp 0 33 [some (.inr 25), some (.inl (nI c)), o2, some (.inl (nI f)), some (.inl (nI (nth g a i))), some (.inl (nI (c + i)))] [] S 0 0 = some (S', 0, 0, 0, 0) ∧ mfr [26] S S' ∧ (∀ j, j < c + i ∨ c + f ≤ j → S' 26 j = S 26 j) ∧ ∀ j, i ≤ j → j < f → S' 26 (c + j) = nI (nth g a j) := by
  intro z
  induction z with
  | zero =>
    intro i S hz hi h1 h2 h3
    refine ⟨S, ?_, mfr_rf, fun j _ => rfl, fun j a b => by omega⟩
    rw [eX4_openUp_33, nI_add, if_pos (nI_le (by omega) (by omega))]
  | succ z ih =>
    intro i S hz hi h1 h2 h3
    obtain ⟨S', a1, a2, a3, a4⟩ := ih (i + 1) (mm_put S 26 (c + i) (nI (nth g a i))) (by omega) (by omega) h1 h2 h3
    have hb := hn i (by omega)
    have eb := (mends_bhd h2 hb).1
    refine ⟨S', ?_, mfr_tr (mfr_put (by simp)) a2, fun j hj => ?_, fun j p q => ?_⟩
    · rw [eX4_openUp_33, nI_add, if_neg (nI_ge (by omega) (by omega)), if_neg (show ¬ (40 : Int32) ≤ nI (c + i) from nI_ge (b := 40) (by omega) (by decide)), ar_26 (by omega), mq_endAtv (d := d) (S := mm_put S 26 (c + i) (nI (nth g a i))) (n := nv) h1 hnv hb, mm_bd_ret, show (mm_put S 26 (c + i) (nI (nth g a i))) 17 (nth g a i) = nI (bhd g (nth g a i)) from eb, nI_1]
      exact a1
    · rw [a3 j (by omega), mp_pk _ _ _ (by omega)]
    · by_cases y : j = i
      · rw [y, a3 (c + i) (by omega), mp_pp]
      · exact a4 j (by omega) q
theorem mq_openUp (hK : mq_K S k) (hW : kW k) {P c m : Nat} {s : Nat → Nat} (hP : P ≤ 40) (hc : c < P) (hm : m < kM k) (h4 : P - 1 + kFc k m ≤ 40) (h3 : S 25 3 = nI P) (h15 : S 15 4 = nI nv) (hnv : nv ≤ 60) {g : Nat → Nat} (hE : mends g (S 17) 0 nv) (hs : ∀ j, j < P → S 26 j = nI (s j)) (hn : ∀ j, j < kFc k m → nth g (s c + 1) j < nv) : ∃ S', mm_runD (d + 3) 38 [.inr 25, .inl (nI c), .inl (nI m)] S = some (S', 0, 0, 0, 0) ∧ mfr [25, 26] S S' ∧ S' 25 3 = nI (P - 1 + kFc k m) ∧ ∀ j, j < P - 1 + kFc k m → S' 26 j = nI (stS g s c (kFc k m) j) := by
  have hf := (hW.2.2 m hm).2.1
  have hM := hW.2.1
  obtain ⟨S1, a1, a2, a3, a4, a5⟩ := mq_makeGap (d := d + 1) (S := S) (f := kFc k m) hP hc hf h4 h3
  obtain ⟨S2, b1, b2, b3, b4⟩ := mq_open_l (d := d + 1) (nv := nv) (g := g) (c := c) (f := kFc k m) (a := s c + 1) (P := P - 1 + kFc k m) (o2 := some (.inl (nI m))) hnv (by omega) hn (kFc k m - 0) 0 S1 rfl (by omega) (by rw [a2 15 (by decide)]; exact h15) (by rw [a2 17 (by decide)]; exact hE) a3
  refine ⟨S2, ?_, mfr_tr a2 (mfr_up b2 (by simp)), by rw [b2 25 (by decide)]; exact a3, fun j hj => ?_⟩
  · have e1 : mm_runD (d + 2) 24 [.inr 1, .inl (nI m)] S = some (S, 0, 0, 0, nI (kFc k m)) := by rw [mq_fieldCount hK hW, kfc_in hW hm]
    rw [dX4_openUp, eX4_openUp_0, e1, mm_bd_ret, mq_isSeat (d := d + 1) h3 hP hc, mm_bd_ret, if_neg (by decide), h3, show nI P - 1 = nI (P - 1) from nn_sub (b := 1) (by omega), nI_add, if_pos (show nI (P - 1 + kFc k m) ≤ 40 from nI_le (b := 40) h4 (by decide)), ar_26 (by omega), a1, mm_bd_ret, hs c hc, nI_1]
    exact b1
  · unfold stS
    by_cases y1 : j < c
    · rw [if_pos y1, b3 j (by omega), a4 j y1, hs j (by omega)]
    · rw [if_neg y1]
      by_cases y2 : j < c + kFc k m
      · rw [if_pos y2]
        have := b4 (j - c) (by omega) (by omega)
        rw [show c + (j - c) = j by omega] at this
        exact this
      · rw [if_neg y2, b3 j (by omega), a5 j (by omega) hj, hs _ (by omega)]
theorem mq_branchOf {G : Nat → Int32} {g : Nat → Nat} (hg : gin G g k C R sz col σ []) (hW : kW k) (h8 : ∀ t, kCnt k t (kM k) ≤ 8) (hc : cnd S G σ) {y c : Nat} (hyc : y < c) (hcN : c < gN σ) (hp : gP σ c = y) (hm : gM σ c < kM k) (hone : ∃ j, j < gC σ y ∧ gH σ y j = c ∧ ∀ j', j' < gC σ y → gM σ (gH σ y j') = gM σ c → j' = j) : mm_runD (d + 2) 81 [.inr 19, .inl (nI y), .inl (nI (gM σ c))] S = some (S, 0, 0, 0, nI c) := by
  have hN := hg.1.2.1
  have hM := hW.2.1
  have hy : y < gN σ := by omega
  have gC8 := gin_8 hg h8 hy
  obtain ⟨j0, j1, j2, j3⟩ := hone
  have H6 := hg.1.2.2.2.2.2.1
  have g5 := mq_tget (d := d) (f := 5) hc.1 hN hy (by omega)
  rw [hc.2.2.2.1 y hy (by omega)] at g5
  have nxt : ∀ j, j < gC σ y → mm_runD (d + 1) 87 [.inr 19, .inl (nI (gH σ y j)), .inl (nI 6)] S = some (S, 0, 0, 0, if j + 1 < gC σ y then nI (gH σ y (j + 1)) else N1) := fun j hj => by
    rw [mq_tget (d := d) (f := 6) hc.1 hN (H6 y j hy hj).2.1 (by omega), hc.2.2.2.2.2 y j hy hj]
  have mkr : ∀ j, j < gC σ y → mm_runD (d + 1) 87 [.inr 19, .inl (nI (gH σ y j)), .inl (nI 8)] S = some (S, 0, 0, 0, nI (gM σ (gH σ y j))) := fun j hj => by
    obtain ⟨b0, bN, _⟩ := H6 y j hy hj
    rw [mq_tget (d := d) (f := 8) hc.1 hN bN (by omega), (hc.2.2.1 _ bN).2.2.2.2.2.2, if_neg (by omega)]
  have loop : ∀ (z j : Nat) (o1 : Option MV), j0 - j = z → j ≤ j0 → mm_E (mm_runD (d + 1)) pX6_branchOf 1 7 [some (.inr 19), o1, some (.inl (nI (gM σ c))), some (.inl (nI (gH σ y j))), some (.inl (nI j))] [] S 0 0 = some (S, 0, 0, 0, nI c) := by
    intro z
    induction z with
    | zero =>
      intro j o1 hz hj
      have e : j = j0 := by omega
      subst e
      have hb := (H6 y j hy j1).2.1
      rw [eX6_branchOf_7, if_neg (show ¬ (8 : Int32) ≤ nI j from nI_ge (b := 8) (by omega) (by decide)), if_neg (show ¬ nI (gH σ y j) = -1 from fun q => (nn_a1 (a := gH σ y j) (by omega)).mp q)]
      show mm_bd (mm_runD (d + 1) 87 [.inr 19, .inl (nI (gH σ y j)), .inl (nI 8)] S) _ _ _ = _
      rw [mkr j j1, mm_bd_ret, j2, if_pos rfl]
    | succ z ih =>
      intro j o1 hz hj
      obtain ⟨b0, hb, bp⟩ := H6 y j hy (by omega)
      have mb := (hg.1.2.2.2.2.1 _ b0 hb).2.2.1
      rw [eX6_branchOf_7, if_neg (show ¬ (8 : Int32) ≤ nI j from nI_ge (b := 8) (by omega) (by decide)), if_neg (show ¬ nI (gH σ y j) = -1 from fun q => (nn_a1 (a := gH σ y j) (by omega)).mp q)]
      show mm_bd (mm_runD (d + 1) 87 [.inr 19, .inl (nI (gH σ y j)), .inl (nI 8)] S) _ _ _ = _
      rw [mkr j (by omega), mm_bd_ret, if_neg (fun q => by have := j3 j (by omega) ((nI_eq (by omega) (by omega)).mp q); omega)]
      show mm_bd (mm_runD (d + 1) 87 [.inr 19, .inl (nI (gH σ y j)), .inl (nI 6)] S) _ _ _ = _
      rw [nxt j (by omega), mm_bd_ret, nI_1, if_pos (by omega)]
      exact ih (j + 1) o1 (by omega) (by omega)
  rw [dX6_branchOf, eX6_branchOf_0]
  show mm_bd (mm_runD (d + 1) 87 [.inr 19, .inl (nI y), .inl (nI 5)] S) _ _ _ = _
  have L := loop (j0 - 0) 0 (some (.inl (nI y))) rfl (by omega)
  rw [nI_0] at L
  rw [g5, mm_bd_ret]
  exact L
/-- what stands while the values go down -/
def wst (S : Mem) (k : KK) (C R : Nat) (sz : Nat → Nat) (col : Nat → Nat) (σ : SG) (X : Nat → Int32) (nv : Nat) : Prop := mq_K S k ∧ rws S k C R sz ∧ gin (S 32) (gk S k) k C R sz col σ [] ∧ cnd S (S 32) σ ∧ S 15 4 = nI nv ∧ (∀ v, v < nv → S 16 v = X v) ∧ mends (fun j => kar k (X j)) (S 17) 0 nv
theorem wst_fr {S' : Mem} (h : wst S k C R sz col σ X nv) (hf : mfr [25, 26] S S') : wst S' k C R sz col σ X nv := by
  obtain ⟨a1, a2, a3, a4, a5, a6, a7⟩ := h
  refine ⟨mq_K_fr a1 hf rfl, ?_, ?_, ?_, by rw [hf 15 (by decide)]; exact a5, by rw [hf 16 (by decide)]; exact a6, by rw [hf 17 (by decide)]; exact a7⟩
  · unfold rws
    rw [hf 8 (by decide), hf 27 (by decide), hf 33 (by decide), hf 32 (by decide), hf 9 (by decide), hf 10 (by decide)]
    exact a2
  · unfold gk
    rw [hf 32 (by decide)]
    exact a3
  · unfold cnd
    rw [hf 19 (by decide), hf 20 (by decide), hf 32 (by decide)]
    exact a4
theorem mq_count_l (hW : kW k) (h8 : ∀ t, kCnt k t (kM k) ≤ 8) (hnv : nv ≤ 60) : ∀ (z y n made : Nat) (s : Nat → Nat) (S : Mem) (o3 o4 : Option MV), wst S k C R sz col σ X nv → WK (S 32) k X σ z y s n → y < gN σ → sit k X nv (gT σ y) s → S 25 3 = nI (tP (gT σ y)) → (∀ j, j < tP (gT σ y) → S 26 j = nI (s j)) → made + n < 300 → ∃ S', mm_E (mm_runD (d + 3)) pX7_countTests 1 9 [some (.inr 0), some (.inl (nI y)), some (.inl (nI made)), o3, o4] [] S 0 0 = some (S', 0, 0, 0, nI (made + n)) ∧ mfr [25, 26] S S' := by
  intro z
  induction z with
  | zero => intro y n made s S o3 o4 _ h; exact absurd h (fun q => q)
  | succ z ih =>
    intro y n made s S o3 o4 hw hwk hy hs h25 h26 hmd
    obtain ⟨hK, hr, hg, hc, h15, h16, h17⟩ := hw
    have hN := hg.1.2.1
    have hM := hW.2.1
    have wP := (hg.1.2.2.2.1 _ hy).1
    have kd : mm_runD (d + 3) 77 [.inr 19, .inl (nI y)] S = some (S, 0, 0, 0, nI (kdT (S 32) (gT σ y))) := by
      have g := mq_tget (d := d + 1) (S := S) (N := gN σ) (f := 0) hc.1 hN hy (by omega)
      rw [show S 20 (9 * y + 0) = nI (kdT (S 32) (gT σ y)) from (hc.2.2.1 _ hy).1] at g
      rw [dX6_kindOf, eX6_kindOf_0]
      show mm_bd (mm_runD (d + 2) 87 [.inr 19, .inl (nI y), .inl (nI 0)] S) _ _ _ = _
      rw [g, mm_bd_ret]
    have kd4 : kdT (S 32) (gT σ y) ≤ 2 := by unfold kdT; split <;> (try split) <;> omega
    rcases hwk with ⟨q, q0⟩ | ⟨q, m, c, n', m1, m2, m3, m4, m5, m6, m7, m8⟩
    · subst q0
      refine ⟨S, ?_, mfr_rf⟩
      rw [eX7_countTests_9, if_neg (show ¬ (300 : Int32) ≤ nI made from nI_ge (b := 300) (by omega) (by decide)), kd, mm_bd_ret, if_neg (show ¬ nI (kdT (S 32) (gT σ y)) = 2 from fun w => q ((nI_eq (b := 2) (by omega) (by omega)).mp w)), show made + 0 = made from rfl] <;> rfl
    · have hk2 := kdT_2 q
      obtain ⟨t, et⟩ : ∃ t, t = tsT (S 32) (gT σ y) := ⟨_, rfl⟩
      rw [← et] at hk2 m2 m8
      have tp : mm_runD (d + 3) 78 [.inr 19, .inl (nI y)] S = some (S, 0, 0, 0, nI t) := by
        have g := mq_tget (d := d + 1) (S := S) (N := gN σ) (f := 3) hc.1 hN hy (by omega)
        rw [(hc.2.2.1 _ hy).2.2.2.1, if_pos q, ← et] at g
        rw [dX6_testedPlace, eX6_testedPlace_0]
        show mm_bd (mm_runD (d + 2) 87 [.inr 19, .inl (nI y), .inl (nI 3)] S) _ _ _ = _
        rw [g, mm_bd_ret]
      obtain ⟨v1, m', v2, v3, v4, v5, v6⟩ := wv_is hW (hs t hk2.2)
      have em : m' = m := (nI_eq (by omega) (by omega)).mp (v3.symm.trans m2)
      subst em
      have mk : mm_runD (d + 3) 37 [.inr 25, .inl (nI t)] S = some (S, 0, 0, 0, nI m') := by
        rw [dX4_makerAt, eX4_makerAt_0, mq_isSeat (d := d + 1) h25 wP hk2.2, mm_bd_ret, if_neg (by decide), ar_26 (by omega), h26 t hk2.2, mq_signAtv (d := d + 1) h15 hnv v1, mm_bd_ret, h16 _ v1, v3]
      obtain ⟨p1, p2, p3, p4, p5, p6⟩ := hg.1.2.2.2.2.1 c (by omega) m4
      rw [m5, ← et, m6] at p6
      obtain ⟨r1, r2, r3, r4⟩ := brS_is hW hr (hg.1.2.2.2.1 _ hy) hk2.2 v2 p6
      have br := mq_branchOf (d := d + 1) hg hW h8 hc m3 m4 m5 (by omega) (chd_one hg.1 m3 m4 m5)
      rw [m6] at br
      obtain ⟨S1, a1, a2, a3, a4⟩ := mq_openUp (d := d) (S := S) (nv := nv) (g := fun j => kar k (X j)) hK hW wP hk2.2 v2 r1 h25 h15 hnv h17 h26 (fun j hj => (wv_is hW (v6 j hj)).1)
      have hw1 : wst S1 k C R sz col σ X nv := wst_fr ⟨hK, hr, hg, hc, h15, h16, h17⟩ a2
      have ss := sit_s (X := X) (nv := nv) hW hr hg.1 (c := c) (m := m') (s := s) (by omega) m4 (by rw [m5]; exact hs) m6 (by rw [m5, ← et]; exact m2)
      rw [m5, ← et] at ss
      rw [← r3] at a3 a4
      obtain ⟨S2, b1, b2⟩ := ih c n' (made + 1) _ S1 (some (.inl (nI t))) (some (.inl (nI m'))) hw1 (by rw [a2 32 (by decide)]; exact m8) m4 ss a3 a4 (by omega)
      refine ⟨S2, ?_, mfr_tr a2 b2⟩
      rw [eX7_countTests_9, if_neg (show ¬ (300 : Int32) ≤ nI made from nI_ge (b := 300) (by omega) (by decide)), kd, mm_bd_ret, if_pos (show nI (kdT (S 32) (gT σ y)) = 2 by rw [q]; rfl), tp, mm_bd_ret, mk, mm_bd_ret, br, mm_bd_ret, a1, mm_bd_ret, nI_1, m7, show made + (n' + 1) = made + 1 + n' by omega]
      exact b1
theorem mq_seats_l {g : Nat → Nat} {o1 : Option MV} (hnv : nv ≤ 60) (hC : C ≤ 3) (hn : ∀ j, j < C → nth g 0 j < nv) : ∀ (z i : Nat) (S : Mem), C - i = z → i ≤ C → S 15 4 = nI nv → mends g (S 17) 0 nv → S 25 3 = nI C → ∃ S', mm_E (mm_runD (d + 1)) pX4_begin 0 11 [some (.inr 25), o1, some (.inl (nI (nth g 0 i))), some (.inl (nI i))] [] S 0 0 = some (S', 0, 0, 0, 0) ∧ mfr [26] S S' ∧ (∀ j, j < i → S' 26 j = S 26 j) ∧ ∀ j, i ≤ j → j < C → S' 26 j = nI (nth g 0 j) := by
  intro z
  induction z with
  | zero =>
    intro i S hz hi h1 h2 h3
    refine ⟨S, ?_, mfr_rf, fun j _ => rfl, fun j a b => by omega⟩
    rw [eX4_begin_11, h3, if_pos (nI_le (by omega) (by omega))]
  | succ z ih =>
    intro i S hz hi h1 h2 h3
    obtain ⟨S', a1, a2, a3, a4⟩ := ih (i + 1) (mm_put S 26 i (nI (nth g 0 i))) (by omega) (by omega) h1 h2 h3
    have hb := hn i (by omega)
    have eb := (mends_bhd h2 hb).1
    refine ⟨S', ?_, mfr_tr (mfr_put (by simp)) a2, fun j hj => ?_, fun j p q => ?_⟩
    · rw [eX4_begin_11, h3, if_neg (nI_ge (by omega) (by omega)), ar_26 (by omega), mq_endAtv (d := d) (S := mm_put S 26 i (nI (nth g 0 i))) (n := nv) h1 hnv hb, mm_bd_ret, show (mm_put S 26 i (nI (nth g 0 i))) 17 (nth g 0 i) = nI (bhd g (nth g 0 i)) from eb, nI_1]
      exact a1
    · rw [a3 j (by omega), mp_pk _ _ _ (by omega)]
    · by_cases y : j = i
      · rw [y, a3 i (by omega), mp_pp]
      · exact a4 j (by omega) q
/-- values in the columns -/
theorem sit_0 (hW : kW k) (hr : rws S k C R sz) (hC : C ≤ 3) (hg : sgW (S 32) (gk S k) k C R sz col σ) (hv : hnv k C col X nv) (h0 : stk k C col X nv = []) : tP (gT σ 0) = C ∧ sit k X nv (gT σ 0) (nth (fun j => kar k (X j)) 0) := by
  obtain ⟨f1, f2, f3⟩ := fsS_is hr hC hg.2.2.1
  refine ⟨f2, fun j hj => ?_⟩
  rw [f2] at hj
  rw [f3]
  have t := hnv_tq hW hv h0 (nv - 0) 0 rfl (by omega)
  have := tq_seg hW (nv := nv) C 0 _ 0 t (by omega) j hj
  rw [Nat.zero_add] at this
  exact this
theorem mq_tests_ok (hK : mq_K S k) (hW : kW k) (h8 : ∀ t, kCnt k t (kM k) ≤ 8) (hr : rws S k C R sz) (h2 : S 0 2 = nI C) (hC0 : 0 < C) (hC : C ≤ 3) (hg : gin (S 32) (gk S k) k C R sz col σ []) (hc : cnd S (S 32) σ) (h3 : S 19 3 = 1) (hH : mq_Hv S nv []) (h16 : ∀ v, v < nv → S 16 v = X v) (hv : hnv k C col X nv) (h0 : stk k C col X nv = []) {n : Nat} (hwk : WK (S 32) k X σ 300 0 (nth (fun j => kar k (X j)) 0) n) (hn : n < 300) : ∃ S', mm_runD (d + 5) 102 [.inr 0] S = some (S', 0, 0, 0, nI n) ∧ mfr [17, 25, 26] S S' := by
  have hnv := hH.2.1
  obtain ⟨t1, t2⟩ := sit_0 hW hr hC hg.1 hv h0
  obtain ⟨S1, a1, a2, a3⟩ := mq_findEndsv (d := d + 1) hK hW hnv (hnd_whole (hnv_hnd hv) h0) (fun i hi => hnd_sgn (hnv_hnd hv) hi) hH.1 h16
  obtain ⟨Z, eZ⟩ : ∃ Z, Z = mm_put S1 25 3 (nI C) := ⟨_, rfl⟩
  have FZ : mfr [17, 25, 26] S Z := mfr_tr (mfr_up a2 (by simp)) (by subst eZ; exact mfr_put (by simp))
  obtain ⟨S2, b1, b2, b3, b4⟩ := mq_seats_l (d := d + 1) (nv := nv) (C := C) (g := fun j => kar k (X j)) (o1 := some (.inl (nI C))) hnv hC (fun j hj => (wv_is hW (t2 j (by omega))).1) (C - 0) 0 Z rfl (by omega) (by rw [FZ 15 (by decide)]; exact hH.1) (by subst eZ; exact a3) (by subst eZ; exact mp_pp _ _ _ _)
  have F2 : mfr [17, 25, 26] S S2 := mfr_tr FZ (mfr_up b2 (by simp))
  have hw : wst S2 k C R sz col σ X nv := by
    refine ⟨mq_K_fr hK F2 rfl, ?_, ?_, ?_, by rw [F2 15 (by decide)]; exact hH.1, by rw [F2 16 (by decide)]; exact h16, by rw [b2 17 (by decide)]; subst eZ; exact a3⟩
    · unfold rws
      rw [F2 8 (by decide), F2 27 (by decide), F2 33 (by decide), F2 32 (by decide), F2 9 (by decide), F2 10 (by decide)]
      exact hr
    · unfold gk
      rw [F2 32 (by decide)]
      exact hg
    · unfold cnd
      rw [F2 19 (by decide), F2 20 (by decide), F2 32 (by decide)]
      exact hc
  obtain ⟨S3, c1, c2⟩ := mq_count_l (d := d) (σ := σ) (X := X) hW h8 hnv 300 0 n 0 _ S2 none none hw (by rw [F2 32 (by decide)]; exact hwk) (by have := hg.1.1; omega) t2 (by rw [b2 25 (by decide), t1]; subst eZ; exact mp_pp _ _ _ _) (fun j hj => b4 j (by omega) (by omega)) (by omega)
  refine ⟨S3, ?_, mfr_tr F2 (mfr_up c2 (by simp))⟩
  rw [nI_0, Nat.zero_add] at c1
  have e2 : S1 0 2 = nI C := by rw [a2 0 (by decide)]; exact h2
  rw [show nth (fun j => kar k (X j)) 0 0 = 0 from rfl, nI_0, eZ] at b1
  have cnt : mm_runD (d + 4) 111 [.inr 0] S1 = some (S3, 0, 0, 0, nI n) := by
    rw [dX7_countTests, eX7_countTests_0, e2, dX4_begin, eX4_begin_0, if_neg (show ¬ (40 : Int32) < nI C from nI_nlt (a := 40) (by omega) (by decide)), b1, mm_bd_ret]
    exact c1
  rw [dX7_tests, eX7_tests_0, mq_whole2 (d := d + 2) h2 hC0 hC hH, mm_bd_ret, mq_stands1 (d := d + 3) h3, mm_bd_ret, if_neg (by decide), a1, mm_bd_ret, cnt, mm_bd_ret]
theorem mq_tests0 (h : S 0 2 = nI 0) : mm_runD (d + 3) 102 [.inr 0] S = some (S, 1, 6, 1, 0) := by
  rw [dX7_tests, eX7_tests_0, mq_whole0 h, mm_bd_thr]
theorem mq_tests1 {n : Nat} {L : List Nat} (h : S 0 2 = nI C) (h0 : 0 < C) (h3 : C ≤ 3) (hH : mq_Hv S n L) (hL : L ≠ []) : mm_runD (d + 3) 102 [.inr 0] S = some (S, 1, 6, 2, 0) := by
  rw [dX7_tests, eX7_tests_0, mq_whole1 h h0 h3 hH hL, mm_bd_thr]
theorem mq_tests2 {n : Nat} (h : S 0 2 = nI C) (h0 : 0 < C) (h3 : C ≤ 3) (hH : mq_Hv S n []) (hs : S 19 3 = 0) : mm_runD (d + 3) 102 [.inr 0] S = some (S, 1, 6, 5, 0) := by
  rw [dX7_tests, eX7_tests_0, mq_whole2 h h0 h3 hH, mm_bd_ret, mq_stands0 (d := d + 1) hs, mm_bd_ret, if_pos rfl]
end
