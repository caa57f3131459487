/-! PURE: the reference's widen and branch -/
section
variable {S : Mem} {k : KK} {C R : Nat} {sz : Nat → Nat}
/-- a kept line's cell that is a maker -/
theorem kpl_p (hW : kW k) (hr : rws S k C R sz) {T : TB} (hw : wfT R sz T) {l c m : Nat} (hl : l < tL T) (hc : c < tP T) (hm : m < kM k) (h : sgc (S 32) (tC T l c) = nI m) : ∃ p, okp R sz p ∧ tC T l c = nI p ∧ S 32 p = nI m ∧ (tC T l c).toNatClampNeg = p ∧ kar k (S 32 p) = kFc k m := by
  have hM := hW.2.1
  rcases hw.2.2 l c hl hc with q | ⟨p, hp, q⟩
  · rw [q, sgc_N] at h; exact absurd h.symm (fun z => (nn_a1 (a := m) (by omega)).mp z)
  · have h4 := okp_lt hr hp
    rw [q, sgc_p h4] at h
    exact ⟨p, hp, q, h, by rw [q, nI_clamp (by omega)], by rw [h]; exact kar_m hW hm⟩
theorem wdn_wf (hW : kW k) (hr : rws S k C R sz) {T : TB} (hw : wfT R sz T) {l c m : Nat} (hl : l < tL T) (hc : c < tP T) (hm : m < kM k) (h : kpl (S 32) T c m l) {j : Nat} (hj : j < tP T - 1 + kFc k m) : wdn (S 32) (gk S k) T c (kFc k m) l j = N1 ∨ ∃ p, okp R sz p ∧ wdn (S 32) (gk S k) T c (kFc k m) l j = nI p := by
  unfold wdn
  by_cases q1 : j < c
  · rw [if_pos q1]; exact hw.2.2 l j hl (by omega)
  · rw [if_neg q1]
    by_cases q2 : j < c + kFc k m
    · rw [if_pos q2]
      by_cases q3 : sgc (S 32) (tC T l c) = N1
      · rw [if_pos q3]; exact Or.inl rfl
      · rw [if_neg q3]
        rcases h with h | h
        · exact absurd h q3
        · obtain ⟨p, e1, e2, e3, e4, e5⟩ := kpl_p hW hr hw hl hc hm h
          rw [e4]
          exact Or.inr ⟨_, okp_part hr e1 (i := j - c) (by omega), rfl⟩
    · rw [if_neg q2]; exact hw.2.2 l (j + 1 - kFc k m) hl (by omega)
theorem brL_wf (hW : kW k) (hr : rws S k C R sz) {T : TB} (hw : wfT R sz T) {c m : Nat} (hc : c < tP T) (hm : m < kM k) : ∀ l, l ≤ tL T → ∀ i j, i < (brL (S 32) (gk S k) T c m (kFc k m) l).1 → j < tP T - 1 + kFc k m → (brL (S 32) (gk S k) T c m (kFc k m) l).2.2 i j = N1 ∨ ∃ p, okp R sz p ∧ (brL (S 32) (gk S k) T c m (kFc k m) l).2.2 i j = nI p := by
  intro l
  induction l with
  | zero => intro _ i j hi; exact absurd hi (Nat.not_lt_zero _)
  | succ l ih =>
    intro hl i j hi hj
    by_cases h : kpl (S 32) T c m l
    · rw [brL_t h] at hi ⊢
      show (if i = (brL (S 32) (gk S k) T c m (kFc k m) l).1 then wdn (S 32) (gk S k) T c (kFc k m) l else (brL (S 32) (gk S k) T c m (kFc k m) l).2.2 i) j = N1 ∨ ∃ p, okp R sz p ∧ (if i = (brL (S 32) (gk S k) T c m (kFc k m) l).1 then wdn (S 32) (gk S k) T c (kFc k m) l else (brL (S 32) (gk S k) T c m (kFc k m) l).2.2 i) j = nI p
      have hi' : i < (brL (S 32) (gk S k) T c m (kFc k m) l).1 + 1 := hi
      by_cases e : i = (brL (S 32) (gk S k) T c m (kFc k m) l).1
      · rw [if_pos e]
        exact wdn_wf hW hr hw (by omega) hc hm h hj
      · rw [if_neg e]
        exact ih (by omega) i j (by omega) hj
    · rw [brL_f h] at hi ⊢
      exact ih (by omega) i j hi hj
theorem wfT_br (hW : kW k) (hr : rws S k C R sz) {T : TB} (hw : wfT R sz T) {c m : Nat} (hc : c < tP T) (hm : m < kM k) (h4 : tP T - 1 + kFc k m ≤ 40) : wfT R sz (brT (S 32) (gk S k) k T c m) :=
  ⟨h4, Nat.le_trans (brL_le _) hw.2.1, fun l c' hl hc' => brL_wf hW hr hw hc hm (tL T) (Nat.le_refl _) l c' hl hc'⟩
end
section
variable {d : Nat} {S : Mem} {k : KK} {C R : Nat} {sz : Nat → Nat}
theorem mr_wd1 {l P : Nat} {x2 x3 x4 x5 : Int32} {o7 : Option MV} (h17 : S 27 17 = nI P) (hP : P ≤ 40) (hl : l < 62) : ∀ (n i : Nat) (w : Nat → Int32), P - i = n → i ≤ P →
    ∃ w', mm_E (mm_runD d) pX8_widen 0 2 [some (.inr 27), some (.inl (nI l)), some (.inl x2), some (.inl x3), some (.inl x4), some (.inl x5), some (.inl (nI i)), o7] [] (mm_stc S 41 w) 0 0 = mm_E (mm_runD d) pX8_widen 0 22 [some (.inr 27), some (.inl (nI l)), some (.inl x2), some (.inl x3), some (.inl x4), some (.inl x5), some (.inl (nI 0)), o7] [] (mm_stc S 41 w') 0 0 ∧ ∀ j, w' j = if i ≤ j ∧ j < P then S 40 (44 * l + j) else w j := by
  intro n
  induction n with
  | zero =>
    intro i w hn hi
    have h17' : (mm_stc S 41 w) 27 17 = nI P := h17
    refine ⟨w, ?_, fun j => by rw [if_neg (by omega)]⟩
    rw [eX8_widen_2, h17', if_pos (nI_le (by omega) (by omega)), nI_0]
  | succ n ih =>
    intro i w hn hi
    have h17' : (mm_stc S 41 w) 27 17 = nI P := h17
    obtain ⟨w', h1, h2⟩ := ih (i + 1) (upd w i (S 40 (44 * l + i))) (by omega) (by omega)
    refine ⟨w', ?_, fun j => ?_⟩
    · have e : (mm_stc S 41 w) 40 (44 * l + i) = S 40 (44 * l + i) := rfl
      rw [eX8_widen_2, h17', if_neg (nI_ge (by omega) (by omega)), li_44, nn_mul, nI_add, ar_40 (by omega), ar_41 (by omega), e, mm_put_stc, nI_1, h1]
    · rw [h2]
      by_cases e : j = i
      · subst e
        rw [if_neg (by omega), if_pos (by omega)]; exact pk_us
      · by_cases q : i + 1 ≤ j ∧ j < P
        · rw [if_pos q, if_pos (by omega)]
        · rw [if_neg q, if_neg (by omega)]; exact pk_un e
theorem mr_wd2 {n0 c : Nat} {o1 o7 : Option MV} {x4 x5 : Int32} (hn0 : n0 < 62) (hc : c ≤ 40) : ∀ (n i : Nat) (v : Nat → Int32), c - i = n → i ≤ c →
    ∃ v', mm_E (mm_runD d) pX8_widen 0 22 [some (.inr 27), o1, some (.inl (nI n0)), some (.inl (nI c)), some (.inl x4), some (.inl x5), some (.inl (nI i)), o7] [] (mm_stc S 40 v) 0 0 = mm_E (mm_runD d) pX8_widen 0 22 [some (.inr 27), o1, some (.inl (nI n0)), some (.inl (nI c)), some (.inl x4), some (.inl x5), some (.inl (nI c)), o7] [] (mm_stc S 40 v') 0 0 ∧ ∀ j, v' j = if 44 * n0 + i ≤ j ∧ j < 44 * n0 + c then S 41 (j - 44 * n0) else v j := by
  intro n
  induction n with
  | zero =>
    intro i v hn hi
    have e : i = c := by omega
    subst e
    exact ⟨v, rfl, fun j => by rw [if_neg (by omega)]⟩
  | succ n ih =>
    intro i v hn hi
    obtain ⟨v', h1, h2⟩ := ih (i + 1) (upd v (44 * n0 + i) (S 41 i)) (by omega) (by omega)
    refine ⟨v', ?_, fun j => ?_⟩
    · have e : (mm_stc S 40 v) 41 i = S 41 i := rfl
      conv => lhs; rw [eX8_widen_22]
      rw [if_neg (nI_ge (by omega) (by omega)), ar_41 (by omega), li_44, nn_mul, nI_add, ar_40 (by omega), e, mm_put_stc, nI_1, h1]
    · rw [h2]
      by_cases e : j = 44 * n0 + i
      · subst e
        rw [if_neg (by omega), if_pos (by omega), show 44 * n0 + i - 44 * n0 = i by omega]; exact pk_us
      · by_cases q : 44 * n0 + (i + 1) ≤ j ∧ j < 44 * n0 + c
        · rw [if_pos q, if_pos (by omega)]
        · rw [if_neg q, if_neg (by omega)]; exact pk_un e
/-- the parts in a cell's stead: none of them a pattern, or one behind another -/
theorem mr_wd3 (hK : mr_K S k) (hW : kW k) (hr : rws S k C R sz) {n0 c f : Nat} {o1 o5 : Option MV} {pt : Nat → Int32} (hn0 : n0 < 62) (hc : c + f ≤ 43) (hpt : (∀ i, pt i = N1) ∨ ∃ s, ∀ i, i < f → okp R sz (nth (gk S k) s i) ∧ pt i = nI (nth (gk S k) s i)) : ∀ (n i : Nat) (v : Nat → Int32), f - i = n → i ≤ f → ∀ x6, ((∀ j, pt j = N1) → x6 = N1) → ((¬ ∀ j, pt j = N1) → ∃ s, (∀ i, i < f → okp R sz (nth (gk S k) s i) ∧ pt i = nI (nth (gk S k) s i)) ∧ x6 = nI (nth (gk S k) s i)) →
    ∃ v' x6', mm_E (mm_runD (d + 2)) pX8_widen 0 50 [some (.inr 27), o1, some (.inl (nI n0)), some (.inl (nI c)), some (.inl (nI f)), o5, some (.inl x6), some (.inl (nI i))] [] (mm_stc S 40 v) 0 0 = mm_E (mm_runD (d + 2)) pX8_widen 0 81 [some (.inr 27), o1, some (.inl (nI n0)), some (.inl (nI c)), some (.inl (nI f)), o5, some (.inl x6'), some (.inl (nI (c + 1)))] [] (mm_stc S 40 v') 0 0 ∧ ∀ j, v' j = if 44 * n0 + c + i ≤ j ∧ j < 44 * n0 + c + f then pt (j - (44 * n0 + c)) else v j := by
  intro n
  induction n with
  | zero =>
    intro i v hn hi x6 _ _
    refine ⟨v, x6, ?_, fun j => by rw [if_neg (by omega)]⟩
    rw [eX8_widen_50, if_pos (nI_le (by omega) (by omega)), nI_1]
  | succ n ih =>
    intro i v hn hi x6 hx1 hx2
    have fin : ∀ v' : Nat → Int32, (∀ j, v' j = if 44 * n0 + c + (i + 1) ≤ j ∧ j < 44 * n0 + c + f then pt (j - (44 * n0 + c)) else upd v (44 * n0 + c + i) (pt i) j) → ∀ j, v' j = if 44 * n0 + c + i ≤ j ∧ j < 44 * n0 + c + f then pt (j - (44 * n0 + c)) else v j := by
      intro v' h2 j
      rw [h2]
      by_cases e : j = 44 * n0 + c + i
      · subst e
        rw [if_neg (by omega), if_pos (by omega), show 44 * n0 + c + i - (44 * n0 + c) = i by omega]; exact pk_us
      · by_cases q : 44 * n0 + c + (i + 1) ≤ j ∧ j < 44 * n0 + c + f
        · rw [if_pos q, if_pos (by omega)]
        · rw [if_neg q, if_neg (by omega)]; exact pk_un e
    by_cases q : ∀ j, pt j = N1
    · have e6 := hx1 q
      subst e6
      obtain ⟨v', x6', h1, h2⟩ := ih (i + 1) (upd v (44 * n0 + c + i) (pt i)) (by omega) (by omega) N1 (fun _ => rfl) (fun z => absurd q z)
      refine ⟨v', x6', ?_, fin v' h2⟩
      rw [eX8_widen_50, if_neg (nI_ge (by omega) (by omega)), li_44, nn_mul, nI_add, nI_add, ar_40 (by omega), if_pos rfl, mm_put_stc, nI_1, ← h1, q i]
    · obtain ⟨s, hs, e6⟩ := hx2 q
      subst e6
      obtain ⟨v', x6', h1, h2⟩ := ih (i + 1) (upd v (44 * n0 + c + i) (pt i)) (by omega) (by omega) (nI (nth (gk S k) s (i + 1))) (fun z => absurd z q) (fun _ => ⟨s, hs, rfl⟩)
      refine ⟨v', x6', ?_, fin v' h2⟩
      obtain ⟨o1', e1⟩ := hs i (by omega)
      have hlt := okp_lt hr o1'
      have B := mr_bh (d := d) (S := mm_stc S 40 (upd v (44 * n0 + c + i) (pt i))) hK hW hr o1'
      rw [eX8_widen_50, if_neg (nI_ge (by omega) (by omega)), li_44, nn_mul, nI_add, nI_add, ar_40 (by omega), if_neg (show ¬ nI (nth (gk S k) s i) = -1 from fun q => (nn_a1 (a := nth (gk S k) s i) (by omega)).mp q), mm_put_stc, ← e1, e1, ← e1]
      rw [e1] at B ⊢
      rw [B, mm_bd_ret, nI_1]
      rw [e1] at h1
      exact h1
theorem mr_wd4 {n0 f P : Nat} {o1 o3 o5 o6 : Option MV} (h17 : S 27 17 = nI P) (hn0 : n0 < 62) (hP : P + f ≤ 43) : ∀ (n i : Nat) (v : Nat → Int32), P - i = n → 0 < i → i ≤ P →
    ∃ v', mm_E (mm_runD d) pX8_widen 0 81 [some (.inr 27), o1, some (.inl (nI n0)), o3, some (.inl (nI f)), o5, o6, some (.inl (nI i))] [] (mm_stc S 40 v) 0 0 = some (mm_stc S 40 v', 0, 0, 0, 0) ∧ ∀ j, v' j = if 44 * n0 + i + f - 1 ≤ j ∧ j < 44 * n0 + P + f - 1 then S 41 (j + 1 - (44 * n0 + f)) else v j := by
  intro n
  induction n with
  | zero =>
    intro i v hn h0 hi
    have h17' : (mm_stc S 40 v) 27 17 = nI P := h17
    refine ⟨v, ?_, fun j => by rw [if_neg (by omega)]⟩
    rw [eX8_widen_81, h17', if_pos (nI_le (by omega) (by omega))]
  | succ n ih =>
    intro i v hn h0 hi
    have h17' : (mm_stc S 40 v) 27 17 = nI P := h17
    obtain ⟨v', h1, h2⟩ := ih (i + 1) (upd v (44 * n0 + i + f - 1) (S 41 i)) (by omega) (by omega) (by omega)
    refine ⟨v', ?_, fun j => ?_⟩
    · have e : (mm_stc S 40 v) 41 i = S 41 i := rfl
      rw [eX8_widen_81, h17', if_neg (nI_ge (by omega) (by omega)), ar_41 (by omega), li_44, nn_mul, nI_add, nI_add, show nI (44 * n0 + i + f) - 1 = nI (44 * n0 + i + f - 1) from nn_sub (b := 1) (by omega), ar_40 (by omega), e, mm_put_stc, nI_1, h1]
    · rw [h2]
      by_cases e : j = 44 * n0 + i + f - 1
      · subst e
        rw [if_neg (by omega), if_pos (by omega), show 44 * n0 + i + f - 1 + 1 - (44 * n0 + f) = i by omega]; exact pk_us
      · by_cases q : 44 * n0 + (i + 1) + f - 1 ≤ j ∧ j < 44 * n0 + P + f - 1
        · rw [if_pos q, if_pos (by omega)]
        · rw [if_neg q, if_neg (by omega)]; exact pk_un e
theorem mr_widen (hK : mr_K S k) (hW : kW k) (hr : rws S k C R sz) {l n0 c f P : Nat} {y : Int32} {pt : Nat → Int32} (h17 : S 27 17 = nI P) (hP : P ≤ 40) (hc : c < P) (hf : f ≤ 3) (hl : l < 62) (hn0 : n0 < 62)
    (hy : (y = N1 ∧ ∀ i, pt i = N1) ∨ ∃ p, p < 480 ∧ y = nI p ∧ ∀ i, i < f → okp R sz (nth (gk S k) (p + 1) i) ∧ pt i = nI (nth (gk S k) (p + 1) i)) :
    ∃ w v, mm_runD (d + 3) 142 [.inr 27, .inl (nI l), .inl (nI n0), .inl (nI c), .inl (nI f), .inl y] S = some (mm_stc (mm_stc S 41 w) 40 v, 0, 0, 0, 0) ∧ (∀ j, j < P - 1 + f → v (44 * n0 + j) = if j < c then S 40 (44 * l + j) else if j < c + f then pt (j - c) else S 40 (44 * l + (j + 1 - f))) ∧ ∀ l' j, l' ≠ n0 → j < 44 → v (44 * l' + j) = S 40 (44 * l' + j) := by
  obtain ⟨w, a1, a2⟩ := mr_wd1 (d := d + 2) (S := S) (x2 := nI n0) (x3 := nI c) (x4 := nI f) (x5 := y) (o7 := none) h17 hP hl (P - 0) 0 (S 41) rfl (by omega)
  obtain ⟨v1, b1, b2⟩ := mr_wd2 (d := d + 2) (S := mm_stc S 41 w) (n0 := n0) (c := c) (o1 := some (.inl (nI l))) (o7 := none) (x4 := nI f) (x5 := y) hn0 (by omega) (c - 0) 0 (S 40) rfl (by omega)
  have hpt : (∀ i, pt i = N1) ∨ ∃ s, ∀ i, i < f → okp R sz (nth (gk S k) s i) ∧ pt i = nI (nth (gk S k) s i) := by
    rcases hy with ⟨_, q⟩ | ⟨p, _, _, q⟩
    · exact Or.inl q
    · exact Or.inr ⟨p + 1, q⟩
  have e0 : mm_stc (mm_stc S 41 w) 40 (S 40) = mm_stc S 41 w := mm_stc_self (mm_stc S 41 w) 40
  rw [e0] at b1
  rw [mm_stc_self] at a1
  have a1' := a1
  rw [nI_0] at a1 b1
  -- the parts' first
  have third : ∃ v2 x6', mm_E (mm_runD (d + 2)) pX8_widen 0 22 [some (.inr 27), some (.inl (nI l)), some (.inl (nI n0)), some (.inl (nI c)), some (.inl (nI f)), some (.inl y), some (.inl (nI c)), none] [] (mm_stc (mm_stc S 41 w) 40 v1) 0 0 = mm_E (mm_runD (d + 2)) pX8_widen 0 81 [some (.inr 27), some (.inl (nI l)), some (.inl (nI n0)), some (.inl (nI c)), some (.inl (nI f)), some (.inl y), some (.inl x6'), some (.inl (nI (c + 1)))] [] (mm_stc (mm_stc S 41 w) 40 v2) 0 0 ∧ ∀ j, v2 j = if 44 * n0 + c + 0 ≤ j ∧ j < 44 * n0 + c + f then pt (j - (44 * n0 + c)) else v1 j := by
    rcases hy with ⟨rfl, q⟩ | ⟨p, hp4, rfl, q⟩
    · obtain ⟨v2, x6', c1, c2⟩ := mr_wd3 (d := d) (S := mm_stc S 41 w) (k := k) hK hW hr (n0 := n0) (c := c) (f := f) (o1 := some (.inl (nI l))) (o5 := some (.inl N1)) (pt := pt) hn0 (by omega) hpt (f - 0) 0 v1 rfl (by omega) N1 (fun _ => rfl) (fun z => absurd q z)
      refine ⟨v2, x6', ?_, c2⟩
      rw [nI_0] at c1
      rw [eX8_widen_22, if_pos (nI_le (Nat.le_refl _) (by omega)), if_pos rfl]
      exact c1
    · by_cases z : ∀ j, pt j = N1
      · -- then there are no parts
        have hf0 : f = 0 := by
          apply Classical.byContradiction
          intro hn
          obtain ⟨o1, e1⟩ := q 0 (by omega)
          have := okp_lt hr o1
          rw [z 0] at e1
          exact (nn_a3 (a := nth (gk S k) (p + 1) 0) (by omega)).mp e1
        subst hf0
        refine ⟨v1, nI (p + 1), ?_, fun j => by rw [if_neg (by omega)]⟩
        rw [eX8_widen_22, if_pos (nI_le (Nat.le_refl _) (by omega)), if_neg (show ¬ nI p = -1 from fun q => (nn_a1 (a := p) (by omega)).mp q), eX8_widen_50, if_pos (by decide), nI_1, nI_1]
      · obtain ⟨v2, x6', c1, c2⟩ := mr_wd3 (d := d) (S := mm_stc S 41 w) (k := k) hK hW hr (n0 := n0) (c := c) (f := f) (o1 := some (.inl (nI l))) (o5 := some (.inl (nI p))) (pt := pt) hn0 (by omega) hpt (f - 0) 0 v1 rfl (by omega) (nI (p + 1)) (fun y => absurd y z) (fun _ => ⟨p + 1, q, rfl⟩)
        refine ⟨v2, x6', ?_, c2⟩
        rw [nI_0] at c1
        rw [eX8_widen_22, if_pos (nI_le (Nat.le_refl _) (by omega)), if_neg (show ¬ nI p = -1 from fun q => (nn_a1 (a := p) (by omega)).mp q), nI_1]
        exact c1
  obtain ⟨v2, x6', c1, c2⟩ := third
  obtain ⟨v3, d1, d2⟩ := mr_wd4 (d := d + 2) (S := mm_stc S 41 w) (n0 := n0) (f := f) (P := P) (o1 := some (.inl (nI l))) (o3 := some (.inl (nI c))) (o5 := some (.inl y)) (o6 := some (.inl x6')) h17 hn0 (by omega) (P - (c + 1)) (c + 1) v2 rfl (by omega) (by omega)
  refine ⟨w, v3, ?_, fun j hj => ?_, fun l' j hl' hj => ?_⟩
  · rw [dX8_widen, eX8_widen_0, a1, b1, c1, d1]
  · rw [d2, c2, b2]
    have w41 : ∀ j, j < P → (mm_stc S 41 w) 41 j = S 40 (44 * l + j) := fun j hj => by rw [mm_stc_at, a2, if_pos (by omega)]
    by_cases q1 : j < c
    · rw [if_neg (by omega), if_neg (by omega), if_pos (by omega), if_pos q1, show 44 * n0 + j - 44 * n0 = j by omega, w41 j (by omega)]
    · rw [if_neg q1]
      by_cases q2 : j < c + f
      · rw [if_neg (by omega), if_pos (by omega), if_pos q2, show 44 * n0 + j - (44 * n0 + c) = j - c by omega]
      · rw [if_pos (by omega), if_neg q2, show 44 * n0 + j + 1 - (44 * n0 + f) = j + 1 - f by omega, w41 _ (by omega)]
  · rw [d2, if_neg (by omega), c2, if_neg (by omega), b2, if_neg (by omega)]
end
