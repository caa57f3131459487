/-! PURE: openBranch and the first table, the class's side -/
section
variable {d : Nat} {k : KK} {C R : Nat} {sz : Nat → Nat}
theorem mq_br_types (hW : kW k) {m c u : Nat} (hm : m < kM k) {x5 x6 x7 : Int32} {o4 o9 o10 : Option MV} {S : Mem} {n : Nat} (hn : rm S n) (hK : mq_K S k) (s3 : S 21 3 = nI u) (hu : u + 6 + c + kFc k m ≤ n) : ∀ (z i : Nat) (g : Nat → Int32) (kc ks : Nat), kFc k m - i = z → i ≤ kFc k m →
    ∃ g', mm_E (mm_runD (d + 3)) pX5_openBranch 2 54 [some (.inr 21), some (.inl (nI m)), some (.inl (nI c)), some (.inl (nI (kFc k m))), o4, some (.inl x5), some (.inl x6), some (.inl x7), some (.inl (nI i)), o9, o10] [] (mm_stc S 22 g) kc ks = mm_E (mm_runD (d + 3)) pX5_openBranch 2 76 [some (.inr 21), some (.inl (nI m)), some (.inl (nI c)), some (.inl (nI (kFc k m))), o4, some (.inl x5), some (.inl x6), some (.inl x7), some (.inl (nI 0)), o9, o10] [] (mm_stc S 22 g') kc ks ∧ ∀ j, g' j = if u + 6 + c + i ≤ j ∧ j < u + 6 + c + kFc k m then nI (kFt k m (j - (u + 6 + c))) else g j := by
  have hn3 := hn.2.2
  have hf3 := (hW.2.2 m hm).2.1
  intro z
  induction z with
  | zero =>
    intro i g kc ks hz hi
    refine ⟨g, ?_, fun j => by rw [if_neg (by omega)]⟩
    rw [eX5_openBranch_54, if_pos (nI_le (by omega) (by omega)), nI_0]
  | succ z ih =>
    intro i g kc ks hz hi
    obtain ⟨g', a1, a2⟩ := ih (i + 1) (upd g (u + 6 + c + i) (nI (kFt k m i))) kc ks (by omega) (by omega)
    have hK' : mq_K (mm_stc S 22 g) k := hK
    have s3' : (mm_stc S 22 g) 21 3 = nI u := s3
    have st := mq_set (d := d + 2) (S := mm_stc S 22 g) (rm_stc hn (by decide)) (j := u + 6 + c + i) (v := nI (kFt k m i)) (by omega)
    refine ⟨g', ?_, fun j => ?_⟩
    · rw [eX5_openBranch_54, if_neg (nI_ge (by omega) (by omega)), mq_fieldType hK' hW hm (by omega), mm_bd_ret, s3', li_6, nI_add, nI_add, nI_add, st, mm_bd_ret, mm_put_stc, nI_1]
      exact a1
    · rw [a2]
      by_cases e : j = u + 6 + c + i
      · subst e
        rw [if_neg (by omega), if_pos (by omega), show u + 6 + c + i - (u + 6 + c) = i by omega]; exact pk_us
      · by_cases w : u + 6 + c + (i + 1) ≤ j ∧ j < u + 6 + c + kFc k m
        · rw [if_pos w, if_pos (by omega)]
        · rw [if_neg w, if_neg (by omega)]; exact pk_un e
theorem mq_openBranch_no {S : Mem} {T : TB} {t n : Nat} (hK : mq_K S k) (hW : kW k) (h : cst S k C R sz t T n) {c m : Nat} (hc : c < tP T) (hm : m < kM k) (h4 : ¬ tP T - 1 + kFc k m ≤ 40) : mm_runD (d + 4) 53 [.inr 21, .inl (nI m), .inl (nI c)] S = some (S, 0, 0, 0, 0) := by
  obtain ⟨hr, ⟨s3, s4, s5, hM⟩, hw, hn, he, ht⟩ := h
  have w1 := hw.1
  have hf3 := (hW.2.2 m hm).2.1
  rw [dX5_openBranch, eX5_openBranch_0, mq_fieldCount hK hW, mm_bd_ret, kfc_in hW hm, s4, show nI (tP T) - 1 = nI (tP T - 1) from nn_sub (b := 1) (by omega), nI_add, if_neg (show ¬ nI (tP T - 1 + kFc k m) ≤ 40 from nI_ge (a := 40) (by omega) (by omega))]
theorem mq_openBranch {S : Mem} {T : TB} {t n : Nat} (hK : mq_K S k) (hW : kW k) (h : cst S k C R sz t T n) {c m : Nat} (hc : c < tP T) (hm : m < kM k) (h4 : tP T - 1 + kFc k m ≤ 40) (hu7 : tEn t T ≤ 790000) :
    ∃ S' c' s' n', mm_runD (d + 4) 53 [.inr 21, .inl (nI m), .inl (nI c)] S = some (S', c', s', 0, 1) ∧ mpot S S' c' s' ∧ mfr [21, 22, 55] S S' ∧ (∀ j, j < tEn t T → S' 22 j = S 22 j) ∧ cst S' k C R sz (tEn t T) (brT (S 32) (gk S k) k T c m) n' ∧ S' 22 (tEn t T) = nI t := by
  obtain ⟨hr, ⟨s3, s4, s5, hM⟩, hw, hn, he, ht⟩ := h
  have w1 := hw.1
  have w2 := hw.2.1
  have hf3 := (hW.2.2 m hm).2.1
  have hn3 := hn.2.2
  have hE := tEn_le (t := t) hw
  obtain ⟨u, hu⟩ : ∃ u, u = tEn t T := ⟨_, rfl⟩
  rw [← hu] at he hu7 hE ⊢
  obtain ⟨S1, c1, s1, n1, a1, a2, a3, a4, a5, a6, a7, a8, a9, a10, a11⟩ := mq_pile (d := d + 1) hn (t := u) (P := tP T - 1 + kFc k m) (by omega) he h4
  obtain ⟨g2, b1, b2⟩ := mq_copyAround (d := d + 1) a3 (a := t + 6) (b := u + 6) (c := c) (P := tP T) (f := kFc k m) hc (by omega) (by omega)
  have hK2 : mq_K S1 k := mq_K_fr hK a2 rfl
  obtain ⟨g3, d1, d2⟩ := mq_br_types (d := d) hW (c := c) (u := u) hm (x5 := nI (tP T)) (x6 := nI (tL T)) (x7 := nI (t + 6 + tP T)) (o4 := some (.inl (nI (t + 6)))) (o9 := none) (o10 := none) (S := S1) a3 hK2 a7 (by omega) (kFc k m - 0) 0 g2 c1 s1 rfl (by omega)
  have F3 : mfr [21, 22, 55] S (mm_stc S1 22 g3) := mfr_tr a2 (mfr_stc (by simp))
  have low : ∀ j, j < u → g3 j = S 22 j := by
    intro j hj
    rw [d2, if_neg (by omega), b2, if_neg (by omega), if_neg (by omega)]
    exact a11 j (by omega) (by omega)
  have at_u : g3 u = nI t := by
    rw [d2, if_neg (by omega), b2, if_neg (by omega), if_neg (by omega), a10]
    exact s3
  have tys : ∀ j, j < tP T - 1 + kFc k m → g3 (u + 6 + j) = nI (brTy k m (tT T) c j) := by
    intro j hj
    rw [d2]
    unfold brTy
    by_cases q1 : j < c
    · rw [if_neg (by omega), b2, if_pos (by omega), if_pos q1, show t + 6 + (u + 6 + j - (u + 6)) = t + 6 + j by omega, a11 _ (by omega) (by omega)]
      exact hM.1 j (by omega)
    · rw [if_neg q1]
      by_cases q2 : j < c + kFc k m
      · rw [if_pos (by omega), if_pos q2, show u + 6 + j - (u + 6 + c) = j - c by omega]
      · rw [if_neg (by omega), b2, if_neg (by omega), if_pos (by omega), if_neg q2, show t + 6 + (u + 6 + j + 1 - (u + 6 + kFc k m)) = t + 6 + (j + 1 - kFc k m) by omega, a11 _ (by omega) (by omega)]
        exact hM.1 (j + 1 - kFc k m) (by omega)
  have e32 : (mm_stc S1 22 g3) 32 = S 32 := F3 32 (by decide)
  have eg : gk (mm_stc S1 22 g3) k = gk S k := by unfold gk; rw [e32]
  have L := mq_br_lines (d := d) (C := C) (R := R) (sz := sz) hW (G := S 32) (g := gk S k) (c := c) (m := m) (t := t) (u := u) hw hc hm h4 hu hu7 (o4 := some (.inl (nI (t + 6)))) (tL T - 0) 0 (mm_stc S1 22 g3) n1 c1 s1 none none rfl (by omega) e32 eg (mq_K_fr hK F3 rfl) (rws_fr hr F3) (rm_stc a3 (by decide)) (by rw [show (brL (S 32) (gk S k) T c m (kFc k m) 0).1 = 0 from rfl, la_0]; exact a5) (tbM_ext hM (fun j _ hj => low j (by rw [hu]; exact hj))) a7 a8 a9 (fun i hi => absurd hi (Nat.not_lt_zero _)) (fun i j hi => absurd hi (Nat.not_lt_zero _))
  obtain ⟨S', c', s', n', i1, i2, i3, i4, i5, i6, i7, i8, i9, i10, i11, i12⟩ := L
  have F' : mfr [21, 22, 55] S S' := mfr_tr F3 i3
  refine ⟨S', c1 + c', s1 + s', n', ?_, ?_, F', fun j hj => by rw [i4 j (by omega)]; exact low j hj, ⟨rws_fr hr F', ⟨i8, i9, i10, ?_⟩, wfT_br hW hr hw hc hm h4, i5, i7, hu7⟩, by rw [i4 u (by omega)]; exact at_u⟩
  · have l0 : la (t + 6 + tP T) (tP T + 1) 0 = t + 6 + tP T := la_0 _ _
    have eu : la (t + 6 + tP T) (tP T + 1) (tL T) = u := hu.symm
    rw [l0, nI_0] at i1
    rw [nI_0] at d1
    rw [dX5_openBranch, eX5_openBranch_0, mq_fieldCount hK hW, mm_bd_ret, kfc_in hW hm, s4, show nI (tP T) - 1 = nI (tP T - 1) from nn_sub (b := 1) (by omega), nI_add, if_pos (show nI (tP T - 1 + kFc k m) ≤ 40 from nI_le (b := 40) h4 (by decide)), show (.inl 0 : MV) = .inl (nI 0) from rfl, mq_lineAt s3 s4, mm_bd_ret, l0, s5, mq_lineAt s3 s4, mm_bd_ret, eu, s4, show nI (tP T) - 1 = nI (tP T - 1) from nn_sub (b := 1) (by omega), nI_add, a1, mm_bd_ret, a7, s3, li_6, nI_add, nI_add, b1, mm_bd_ret]
    refine Eq.trans ?_ (i1.trans ?_)
    · refine Eq.trans ?_ d1
      simp only [Nat.zero_add, Nat.add_zero]
      rfl
    · rfl
  · have := mpot_tr (mpot_tr a6 (mpot_55 (S := S1) (S' := mm_stc S1 22 g3) rfl)) i2
    rw [Nat.add_zero, Nat.add_zero] at this
    exact this
  · rw [F' 32 (by decide)]
    exact ⟨fun j hj => by rw [show tP (brT (S 32) (gk S k) k T c m) = tP T - 1 + kFc k m from rfl] at hj; rw [i4 _ (by omega)]; exact tys j hj, i11, i12⟩
/-! the table of the match -/
theorem mq_bg_types {col : Nat → Nat} {S : Mem} {n : Nat} {o2 o4 o5 o6 : Option MV} (hn : rm S n) (hC : C ≤ 3) (s3 : S 21 3 = nI 0) (s4 : S 21 4 = nI C) (hu : 6 + C ≤ n) (hc : ∀ c, c < C → S 7 c = nI (col c)) : ∀ (z i : Nat) (g : Nat → Int32) (kc ks : Nat), C - i = z → i ≤ C →
    ∃ g', mm_E (mm_runD (d + 1)) pX5_begin 0 12 [some (.inr 21), some (.inr 7), o2, some (.inl (nI i)), o4, o5, o6] [] (mm_stc S 22 g) kc ks = mm_E (mm_runD (d + 1)) pX5_begin 0 35 [some (.inr 21), some (.inr 7), o2, some (.inl (nI 0)), o4, o5, o6] [] (mm_stc S 22 g') kc ks ∧ ∀ j, g' j = if 6 + i ≤ j ∧ j < 6 + C then nI (col (j - 6)) else g j := by
  have hn3 := hn.2.2
  intro z
  induction z with
  | zero =>
    intro i g kc ks hz hi
    have s4' : (mm_stc S 22 g) 21 4 = nI C := s4
    refine ⟨g, ?_, fun j => by rw [if_neg (by omega)]⟩
    rw [eX5_begin_12, s4', if_pos (nI_le (by omega) (by omega)), nI_0]
  | succ z ih =>
    intro i g kc ks hz hi
    have s4' : (mm_stc S 22 g) 21 4 = nI C := s4
    have s3' : (mm_stc S 22 g) 21 3 = nI 0 := s3
    have hc' : (mm_stc S 22 g) 7 i = nI (col i) := hc i (by omega)
    obtain ⟨g', a1, a2⟩ := ih (i + 1) (upd g (6 + i) (nI (col i))) kc ks (by omega) (by omega)
    have st := mq_set (d := d) (S := mm_stc S 22 g) (rm_stc hn (by decide)) (j := 6 + i) (v := nI (col i)) (by omega)
    refine ⟨g', ?_, fun j => ?_⟩
    · rw [eX5_begin_12, s4', if_neg (nI_ge (by omega) (by omega)), if_neg (show ¬ (3 : Int32) ≤ nI i from nI_ge (b := 3) (by omega) (by decide)), ar_7 (by omega), s3', li_6, nI_add, nI_add, Nat.zero_add, hc', st, mm_bd_ret, mm_put_stc, nI_1]
      exact a1
    · rw [a2]
      by_cases e : j = 6 + i
      · subst e
        rw [if_neg (by omega), if_pos (by omega), show 6 + i - 6 = i by omega]; exact pk_us
      · by_cases w : 6 + (i + 1) ≤ j ∧ j < 6 + C
        · rw [if_pos w, if_pos (by omega)]
        · rw [if_neg w, if_neg (by omega)]; exact pk_un e
theorem mq_bg_cells {S : Mem} {n r q : Nat} {o2 : Option MV} {x4 : Int32} (hn : rm S n) (hC : C ≤ 3) (hr : rws S k C R sz) (s4 : S 21 4 = nI C) (hr0 : r < R) (hx4 : x4 = nI q) (hq : q + 1 + C ≤ n) : ∀ (z i : Nat) (g : Nat → Int32) (kc ks : Nat), C - i = z → i ≤ C →
    ∃ g' p5 p6, mm_E (mm_runD (d + 2)) pX5_begin 0 51 [some (.inr 21), some (.inr 7), o2, some (.inl (nI r)), some (.inl x4), some (.inl (nI (nth (gk S k) (40 * r) i))), some (.inl (nI i))] [] (mm_stc S 22 g) kc ks = mm_E (mm_runD (d + 2)) pX5_begin 0 35 [some (.inr 21), some (.inr 7), o2, some (.inl (nI (r + 1))), some (.inl x4), p5, p6] [] (mm_stc S 22 g') kc ks ∧ ∀ j, g' j = if q + 1 + i ≤ j ∧ j < q + 1 + C then nrm (S 32) (nI (nth (gk S k) (40 * r) (j - (q + 1)))) else g j := by
  have hn3 := hn.2.2
  subst hx4
  intro z
  induction z with
  | zero =>
    intro i g kc ks hz hi
    have s4' : (mm_stc S 22 g) 21 4 = nI C := s4
    refine ⟨g, some (.inl (nI (nth (gk S k) (40 * r) i))), some (.inl (nI i)), ?_, fun j => by rw [if_neg (by omega)]⟩
    rw [eX5_begin_51, s4', if_pos (nI_le (by omega) (by omega)), nI_1]
  | succ z ih =>
    intro i g kc ks hz hi
    have s4' : (mm_stc S 22 g) 21 4 = nI C := s4
    have hr' : rws (mm_stc S 22 g) k C R sz := hr
    have ok := okp_col hr hr0 (show i < C by omega)
    have hlt := okp_lt hr ok
    have co := mq_cellOf (d := d) hr' ok
    obtain ⟨g', p5, p6, a1, a2⟩ := ih (i + 1) (upd g (q + 1 + i) (nrm (S 32) (nI (nth (gk S k) (40 * r) i)))) kc ks (by omega) (by omega)
    have st := mq_set (d := d + 1) (S := mm_stc S 22 g) (rm_stc hn (by decide)) (j := q + 1 + i) (v := nrm (S 32) (nI (nth (gk S k) (40 * r) i))) (by omega)
    have en := mq_rEnd (d := d + 1) (S := mm_stc S 22 (upd g (q + 1 + i) (nrm (S 32) (nI (nth (gk S k) (40 * r) i))))) hlt
    have e10 : (mm_stc S 22 (upd g (q + 1 + i) (nrm (S 32) (nI (nth (gk S k) (40 * r) i))))) 10 (nth (gk S k) (40 * r) i) = nI (nth (gk S k) (40 * r) (i + 1)) := okp_10 hr ok
    rw [e10] at en
    refine ⟨g', p5, p6, ?_, fun j => ?_⟩
    · rw [eX5_begin_51, s4', if_neg (nI_ge (by omega) (by omega)), co, mm_bd_ret, nI_1, nI_add]
      rw [show (mm_stc S 22 g) 32 = S 32 from rfl, st, mm_bd_ret, mm_put_stc, en, mm_bd_ret, nI_1]
      exact a1
    · rw [a2]
      by_cases e : j = q + 1 + i
      · subst e
        rw [if_neg (by omega), if_pos (by omega), show q + 1 + i - (q + 1) = i by omega]; exact pk_us
      · by_cases w : q + 1 + (i + 1) ≤ j ∧ j < q + 1 + C
        · rw [if_pos w, if_pos (by omega)]
        · rw [if_neg w, if_neg (by omega)]; exact pk_un e
theorem mq_bg_rows {o2 : Option MV} (hC : C ≤ 3) : ∀ (z r : Nat) (S : Mem) (n kc ks : Nat) (o4 o5 o6 : Option MV), R - r = z → r ≤ R → rws S k C R sz → rm S n → la (6 + C) (C + 1) r ≤ n → S 21 3 = nI 0 → S 21 4 = nI C → S 21 5 = nI r →
    (∀ i, i < r → S 22 (la (6 + C) (C + 1) i) = nI i) → (∀ i j, i < r → j < C → S 22 (la (6 + C) (C + 1) i + 1 + j) = nrm (S 32) (nI (nth (gk S k) (40 * i) j))) →
    ∃ S' c' s' n', mm_E (mm_runD (d + 2)) pX5_begin 0 35 [some (.inr 21), some (.inr 7), o2, some (.inl (nI r)), o4, o5, o6] [] S kc ks = some (S', kc + c', ks + s', 0, 0) ∧ mpot S S' c' s' ∧ mfr [21, 22, 55] S S' ∧ (∀ j, j < 6 + C → S' 22 j = S 22 j) ∧ rm S' n' ∧ la (6 + C) (C + 1) R ≤ n' ∧ S' 21 3 = nI 0 ∧ S' 21 4 = nI C ∧ S' 21 5 = nI R ∧ (∀ i, i < R → S' 22 (la (6 + C) (C + 1) i) = nI i) ∧ (∀ i j, i < R → j < C → S' 22 (la (6 + C) (C + 1) i + 1 + j) = nrm (S 32) (nI (nth (gk S k) (40 * i) j))) := by
  intro z
  induction z with
  | zero =>
    intro r S n kc ks o4 o5 o6 hz hr0 hr hn hla s3 s4 s5 g1 g2
    have e : r = R := by omega
    subst e
    refine ⟨S, 0, 0, n, ?_, mpot_rf S, mfr_rf, fun _ _ => rfl, hn, hla, s3, s4, s5, g1, g2⟩
    have := hr.1
    rw [eX5_begin_35, mq_rcount hr.2.1, mm_bd_ret, if_pos (nI_le (Nat.le_refl _) (by omega))]
  | succ z ih =>
    intro r S n kc ks o4 o5 o6 hz hr0 hr hn hla s3 s4 s5 g1 g2
    have hR := hr.1
    obtain ⟨S1, c1, s1, n1, a1, a2, a3, a4, a5, a6, a7, a8, a9, a10, a11⟩ := mq_addLine (d := d) hn s3 s4 s5 (by omega) (by omega) (by omega) (nI r)
    rw [show 0 + 6 + C = 6 + C by omega] at a1 a5 a10 a11
    have y0 := la_b (6 + C) (C + 1) r
    have y1 := la_s (6 + C) (C + 1) r
    have hr1 := rws_fr hr a2
    have e32 : S1 32 = S 32 := a2 32 (by decide)
    have eg : gk S1 k = gk S k := by unfold gk; rw [e32]
    obtain ⟨g', p5, p6, b1, b2⟩ := mq_bg_cells (d := d) (k := k) (C := C) (R := R) (sz := sz) (S := S1) (r := r) (q := la (6 + C) (C + 1) r) (o2 := o2) (x4 := nI (la (6 + C) (C + 1) r)) a3 hC hr1 a8 (by omega) rfl (by omega) (C - 0) 0 (S1 22) (kc + c1) (ks + s1) rfl (by omega)
    rw [mm_stc_self, eg] at b1
    rw [e32, eg] at b2
    have F2 : mfr [21, 22, 55] S (mm_stc S1 22 g') := mfr_tr a2 (mfr_stc (by simp))
    have low : ∀ j, j < la (6 + C) (C + 1) r → g' j = S 22 j := by
      intro j hj
      rw [b2, if_neg (by omega)]
      exact a11 j (by omega) (by omega)
    obtain ⟨S', c', s', n', i1, i2, i3, i4, i5, i6, i7, i8, i9, i10, i11⟩ := ih (r + 1) (mm_stc S1 22 g') n1 (kc + c1) (ks + s1) (some (.inl (nI (la (6 + C) (C + 1) r)))) p5 p6 (by omega) (by omega) (rws_fr hr F2) (rm_stc a3 (by decide)) a5 a7 a8 a9 (fun i hi => by
        show g' _ = _
        by_cases e : i = r
        · subst e
          rw [b2, if_neg (by omega)]; exact a10
        · have := la_lt (b := 6 + C) (w := C + 1) (show i < r by omega)
          rw [low _ (by omega)]; exact g1 i (by omega)) (fun i j hi hj => by
        show g' _ = _
        rw [F2 32 (by decide), show gk (mm_stc S1 22 g') k = gk S k from eg]
        by_cases e : i = r
        · subst e
          rw [b2, if_pos (by omega), show la (6 + C) (C + 1) i + 1 + j - (la (6 + C) (C + 1) i + 1) = j by omega]
        · have := la_lt (b := 6 + C) (w := C + 1) (show i < r by omega)
          rw [low _ (by omega)]; exact g2 i j (by omega) hj)
    rw [F2 32 (by decide), show gk (mm_stc S1 22 g') k = gk S k from eg] at i11
    refine ⟨S', c1 + c', s1 + s', n', ?_, ?_, mfr_tr F2 i3, fun j hj => by rw [i4 j hj]; exact low j (by omega), i5, i6, i7, i8, i9, i10, i11⟩
    · rw [nI_0] at b1
      rw [eX5_begin_35, mq_rcount hr.2.1, mm_bd_ret, if_neg (nI_ge (by omega) (by omega)), a1, mm_bd_ret, mq_startOf, mm_bd_ret, ← Nat.add_assoc, ← Nat.add_assoc, ← i1]
      exact b1
    · have := mpot_tr (mpot_tr a6 (mpot_55 (S := S1) (S' := mm_stc S1 22 g') rfl)) i2
      rw [Nat.add_zero, Nat.add_zero] at this
      exact this
theorem mq_begin5 {col : Nat → Nat} {S : Mem} {n : Nat} (hr : rws S k C R sz) (hn : rm S n) (hC : C ≤ 3) (hc : ∀ c, c < C → S 7 c = nI (col c)) :
    ∃ S' c' s' n', mm_runD (d + 4) 41 [.inr 21, .inr 7, .inl (nI C)] S = some (S', c', s', 0, 0) ∧ mpot S S' c' s' ∧ mfr [21, 22, 55] S S' ∧ cst S' k C R sz 0 (fsT (gk S k) C R col) n' ∧ S' 22 0 = N1 := by
  obtain ⟨S1, c1, s1, n1, a1, a2, a3, a4, a5, a6, a7, a8, a9, a10, a11⟩ := mq_pile (d := d + 1) (S := mm_put S 21 3 (-1)) (rm_put hn (by decide)) (t := 0) (P := C) (by omega) (by omega) (by omega)
  have hc1 : ∀ c, c < C → S1 7 c = nI (col c) := by rw [a2 7 (by decide)]; exact hc
  obtain ⟨g', b1, b2⟩ := mq_bg_types (d := d + 2) (col := col) (S := S1) (o2 := some (.inl (nI C))) (o4 := none) (o5 := none) (o6 := none) a3 hC a7 a8 (by omega) hc1 (C - 0) 0 (S1 22) c1 s1 rfl (by omega)
  rw [mm_stc_self] at b1
  have F2 : mfr [21, 22, 55] S (mm_stc S1 22 g') := mfr_tr (mfr_tr (mfr_put (by simp)) a2) (mfr_stc (by simp))
  have e32 : (mm_stc S1 22 g') 32 = S 32 := F2 32 (by decide)
  have eg : gk (mm_stc S1 22 g') k = gk S k := by unfold gk; rw [e32]
  obtain ⟨S', c', s', n', i1, i2, i3, i4, i5, i6, i7, i8, i9, i10, i11⟩ := mq_bg_rows (d := d + 1) (k := k) (C := C) (R := R) (sz := sz) (o2 := some (.inl (nI C))) hC (R - 0) 0 (mm_stc S1 22 g') n1 c1 s1 none none none rfl (by omega) (rws_fr hr F2) (rm_stc a3 (by decide)) (by rw [la_0]; omega) a7 a8 a9 (fun i hi => absurd hi (Nat.not_lt_zero _)) (fun i j hi => absurd hi (Nat.not_lt_zero _))
  rw [e32, eg] at i11
  have F' : mfr [21, 22, 55] S S' := mfr_tr F2 i3
  refine ⟨S', c1 + c', s1 + s', n', ?_, ?_, F', ⟨rws_fr hr F', ⟨i7, i8, i9, ?_⟩, wfT_fs hr hC col, i5, ?_, by omega⟩, ?_⟩
  · rw [nI_0] at b1 i1 a1
    rw [dX5_begin, eX5_begin_0, if_neg (show ¬ (3 : Int32) < nI C from nI_nlt (a := 3) hC (by decide)), a1, mm_bd_ret, Nat.zero_add, Nat.zero_add, b1, i1]
  · have := mpot_tr (mpot_tr (mpot_tr (mpot_55 (S := S) (S' := mm_put S 21 3 (-1)) rfl) a6) (mpot_55 (S := S1) (S' := mm_stc S1 22 g') rfl)) i2
    rw [Nat.zero_add, Nat.zero_add, Nat.add_zero, Nat.add_zero] at this
    exact this
  · rw [F' 32 (by decide)]
    have e6 : 0 + 6 + tP (fsT (gk S k) C R col) = 6 + C := by show 0 + 6 + C = 6 + C; omega
    refine ⟨fun j hj => ?_, fun l hl => ?_, fun l c hl hc' => ?_⟩
    · have hj' : j < C := hj
      rw [i4 _ (by omega)]
      show g' (0 + 6 + j) = nI (col j)
      rw [b2, if_pos (by omega), show 0 + 6 + j - 6 = j by omega]
    · rw [e6]; exact i10 l hl
    · rw [e6]; exact i11 l c hl hc'
  · unfold tEn
    rw [show 0 + 6 + tP (fsT (gk S k) C R col) = 6 + C by show 0 + 6 + C = 6 + C; omega]
    exact i6
  · rw [i4 0 (by omega)]
    show g' 0 = N1
    rw [b2, if_neg (by omega), a10]
    rfl
end
