/-! PURE: splitAt, splitEithers -/
section
variable {d : Nat} {k : KK} {C R : Nat} {sz : Nat → Nat} {t : Nat}
theorem mq_splitAt_l {l c : Nat} {P : Nat} : ∀ (f : Nat) (T : TB) (r : Option TB) (S : Mem) (n x5 kc ks : Nat) (o2 o6 : Option MV), cst S k C R sz t T n → tP T = P → l < tL T → c < tP T → x5 + 1 ≤ tL T → spl (S 32) (gk S k) f T l c = some r →
    ∃ S' c' s', mpot S S' c' s' ∧ cfr t S S' ∧
      ((∃ T1 n' f', mm_E (mm_runD (d + 3)) pX5_splitAt 2 14 [some (.inr 21), some (.inl (nI l)), o2, some (.inl (nI (la (t + 6 + P) (P + 1) l + 1 + c))), some (.inl (nrm (S 32) (tC T l c))), some (.inl (nI x5)), o6] [] S kc ks = some (S', kc + c', ks + s', 0, 1) ∧ cst S' k C R sz t T1 n' ∧ f' < f ∧ spl (S 32) (gk S k) f' T1 l (c + 1) = some r ∧ l < tL T1 ∧ tP T1 = P) ∨
        (mm_E (mm_runD (d + 3)) pX5_splitAt 2 14 [some (.inr 21), some (.inl (nI l)), o2, some (.inl (nI (la (t + 6 + P) (P + 1) l + 1 + c))), some (.inl (nrm (S 32) (tC T l c))), some (.inl (nI x5)), o6] [] S kc ks = some (S', kc + c', ks + s', 0, 0) ∧ r = none)) := by
  intro f
  induction f with
  | zero => intro T r S n x5 kc ks o2 o6 _ _ _ _ _ h; cases h
  | succ f ih =>
    intro T r S n x5 kc ks o2 o6 h hP hl hc hx hs
    obtain ⟨hr, ⟨h3, h4, h5, hM⟩, hw, hn, he, ht⟩ := h
    have h : cst S k C R sz t T n := ⟨hr, ⟨h3, h4, h5, hM⟩, hw, hn, he, ht⟩
    have w2 := hw.2.1
    unfold spl at hs
    rw [if_neg (by omega), if_neg (by omega)] at hs
    have isE := mq_isEither (d := d + 1) hr (hw.2.2 l c hl hc)
    have b60 : ¬ (60 : Int32) ≤ nI x5 := nI_ge (b := 60) (by omega) (by decide)
    by_cases q : sgc (S 32) (tC T l c) = N2
    · rw [if_pos q] at hs
      by_cases q6 : tL T = 60
      · rw [if_pos q6] at hs
        cases hs
        refine ⟨S, 0, 0, mpot_rf S, cfr_rf, Or.inr ⟨?_, rfl⟩⟩
        rw [eX5_splitAt_14, if_neg b60, isE, mm_bd_ret, mb_t q, if_neg (by decide), h5, if_neg (show ¬ nI (tL T) < 60 from nI_nlt (b := 60) (by omega) (by omega))]
      · rw [if_neg q6] at hs
        obtain ⟨S1, c1, s1, n1, a1, a2, a3, a4, a5⟩ := mq_dbl (d := d) h hl hc (by omega) q (K := fun S8 c8 t8 a8 => mm_E (mm_runD (d + 3)) pX5_splitAt 2 14 [some (.inr 21), some (.inl (nI l)), o2, some (.inl (nI (la (t + 6 + P) (P + 1) l + 1 + c))), some (.inl a8), some (.inl (nI (x5 + 1))), some (.inl (nrm (S 32) (tC T l c) + 1))] [] S8 c8 t8) (kc := kc) (ks := ks)
        have eg : gk S1 k = gk S k := by unfold gk; rw [a5]
        obtain ⟨S', c', s', b1, b2, b3⟩ := ih (dbT (gk S k) T l c) r S1 n1 (x5 + 1) (kc + c1) (ks + s1) o2 (some (.inl (nrm (S 32) (tC T l c) + 1))) a2 hP (show l < tL T + 1 by omega) hc (show x5 + 1 + 1 ≤ tL T + 1 by omega) (by rw [a5, eg]; exact hs)
        have start : mm_E (mm_runD (d + 3)) pX5_splitAt 2 14 [some (.inr 21), some (.inl (nI l)), o2, some (.inl (nI (la (t + 6 + P) (P + 1) l + 1 + c))), some (.inl (nrm (S 32) (tC T l c))), some (.inl (nI x5)), o6] [] S kc ks = mm_E (mm_runD (d + 3)) pX5_splitAt 2 14 [some (.inr 21), some (.inl (nI l)), o2, some (.inl (nI (la (t + 6 + P) (P + 1) l + 1 + c))), some (.inl (nrm (S1 32) (tC (dbT (gk S k) T l c) l c))), some (.inl (nI (x5 + 1))), some (.inl (nrm (S 32) (tC T l c) + 1))] [] S1 (kc + c1) (ks + s1) := by
          rw [a5, ← a1]
          rw [eX5_splitAt_14, if_neg b60, isE, mm_bd_ret, mb_t q, if_neg (by decide), h5, if_pos (show nI (tL T) < 60 from nI_lt (b := 60) (by omega) (by omega)), nI_1, hP]
          rfl
        rw [start]
        refine ⟨S', c1 + c', s1 + s', mpot_tr a4 b1, cfr_tr a3 b2, ?_⟩
        rw [← Nat.add_assoc, ← Nat.add_assoc]
        rcases b3 with ⟨T1, n', f', g1, g2, g3, g4, g5, g6⟩ | ⟨g1, g2⟩
        · rw [a5, eg] at g4
          exact Or.inl ⟨T1, n', f', g1, g2, by omega, g4, g5, g6⟩
        · exact Or.inr ⟨g1, g2⟩
    · rw [if_neg q] at hs
      refine ⟨S, 0, 0, mpot_rf S, cfr_rf, Or.inl ⟨T, n, f, ?_, h, by omega, hs, hl, hP⟩⟩
      rw [eX5_splitAt_14, if_neg b60, isE, mm_bd_ret, mb_f q, if_pos rfl]
theorem mq_splitAt {l c : Nat} {f : Nat} {T : TB} {r : Option TB} {S : Mem} {n : Nat} (h : cst S k C R sz t T n) (hl : l < tL T) (hc : c < tP T) (hs : spl (S 32) (gk S k) f T l c = some r) :
    ∃ S' c' s', mpot S S' c' s' ∧ cfr t S S' ∧
      ((∃ T1 n' f', mm_runD (d + 4) 56 [.inr 21, .inl (nI l), .inl (nI c)] S = some (S', c', s', 0, 1) ∧ cst S' k C R sz t T1 n' ∧ f' < f ∧ spl (S 32) (gk S k) f' T1 l (c + 1) = some r ∧ l < tL T1 ∧ tP T1 = tP T) ∨
        (mm_runD (d + 4) 56 [.inr 21, .inl (nI l), .inl (nI c)] S = some (S', c', s', 0, 0) ∧ r = none)) := by
  obtain ⟨hr, ⟨h3, h4, h5, hM⟩, hw, hn, he, ht⟩ := h
  have h : cst S k C R sz t T n := ⟨hr, ⟨h3, h4, h5, hM⟩, hw, hn, he, ht⟩
  have x0 := la_lt (b := t + 6 + tP T) (w := tP T + 1) hl
  unfold tEn at he
  obtain ⟨S', c', s', a1, a2, a3⟩ := mq_splitAt_l (d := d) (l := l) (c := c) (P := tP T) f T r S n 0 0 0 (some (.inl (nI c))) none h rfl hl hc (by omega) hs
  have start : mm_runD (d + 4) 56 [.inr 21, .inl (nI l), .inl (nI c)] S = mm_E (mm_runD (d + 3)) pX5_splitAt 2 14 [some (.inr 21), some (.inl (nI l)), some (.inl (nI c)), some (.inl (nI (la (t + 6 + tP T) (tP T + 1) l + 1 + c))), some (.inl (nrm (S 32) (tC T l c))), some (.inl (nI 0)), none] [] S 0 0 := by
    rw [dX5_splitAt, eX5_splitAt_0, mq_lineAt h3 h4, mm_bd_ret, nI_1, nI_add, mq_get hn (by omega), mm_bd_ret, hM.2.2 l c hl hc, nI_0]
  rw [start]
  refine ⟨S', c', s', a1, a2, ?_⟩
  rw [Nat.zero_add, Nat.zero_add] at a3
  exact a3
theorem mq_split_l : ∀ (f : Nat) (T : TB) (l c : Nat) (r : Option TB) (S : Mem) (n kc ks : Nat), cst S k C R sz t T n → c ≤ tP T → l ≤ tL T → spl (S 32) (gk S k) f T l c = some r →
    ∃ S' c' s', mpot S S' c' s' ∧ cfr t S S' ∧ (∀ (o2 : Option MV), mm_E (mm_runD (d + 4)) pX5_splitEithers 2 (if l < tL T then 18 else 12) (if l < tL T then [some (.inr 21), some (.inl (nI l)), some (.inl (nI c))] else [some (.inr 21), some (.inl (nI l)), o2]) [] S kc ks = some (S', kc + c', ks + s', 0, mb (r ≠ none))) ∧ ∀ T', r = some T' → ∃ n', cst S' k C R sz t T' n' := by
  intro f
  induction f using Nat.strongRecOn with
  | ind f ih =>
    intro T l c r S n kc ks h hc hl hs
    obtain ⟨hr, ⟨h3, h4, h5, hM⟩, hw, hn, he, ht⟩ := h
    have h : cst S k C R sz t T n := ⟨hr, ⟨h3, h4, h5, hM⟩, hw, hn, he, ht⟩
    have w1 := hw.1
    have w2 := hw.2.1
    cases f with
    | zero => cases hs
    | succ f =>
      by_cases q1 : tL T ≤ l
      · have hs' := hs
        unfold spl at hs'
        rw [if_pos q1] at hs'
        cases hs'
        refine ⟨S, 0, 0, mpot_rf S, cfr_rf, fun o2 => ?_, fun T' e => by cases e; exact ⟨n, h⟩⟩
        rw [if_neg (by omega), if_neg (by omega), eX5_splitEithers_12, h5, if_pos (nI_le q1 (by omega)), mb_t (Option.some_ne_none T)] <;> rfl
      · have hlt : l < tL T := by omega
        by_cases q2 : tP T ≤ c
        · have hs' := hs
          unfold spl at hs'
          rw [if_neg q1, if_pos q2] at hs'
          obtain ⟨S', c', s', a1, a2, a3, a4⟩ := ih f (by omega) T (l + 1) 0 r S n kc ks h (by omega) (by omega) hs'
          refine ⟨S', c', s', a1, a2, fun o2 => ?_, a4⟩
          rw [if_pos hlt, if_pos hlt, eX5_splitEithers_18, h4, if_pos (nI_le q2 (by omega)), nI_1]
          have := a3 (some (.inl (nI c)))
          by_cases q3 : l + 1 < tL T
          · rw [if_pos q3, if_pos q3, nI_0] at this
            rw [eX5_splitEithers_12, h5, if_neg (nI_ge q3 (by omega))]
            exact this
          · rw [if_neg q3, if_neg q3] at this
            exact this
        · obtain ⟨S1, c1, s1, a1, a2, a3⟩ := mq_splitAt (d := d) (l := l) (c := c) h hlt (by omega) hs
          have e32 : S1 32 = S 32 := a2.1 32 (by decide)
          have eg : gk S1 k = gk S k := by unfold gk; rw [e32]
          rcases a3 with ⟨T1, n1, f1, g1, g2, g3, g4, g5, g6⟩ | ⟨g1, g2⟩
          · obtain ⟨S', c', s', b1, b2, b3, b4⟩ := ih f1 g3 T1 l (c + 1) r S1 n1 (kc + c1) (ks + s1) g2 (by omega) (by omega) (by rw [e32, eg]; exact g4)
            refine ⟨S', c1 + c', s1 + s', mpot_tr a1 b1, cfr_tr a2 b2, fun o2 => ?_, b4⟩
            have := b3 o2
            rw [if_pos g5, if_pos g5] at this
            rw [if_pos hlt, if_pos hlt, eX5_splitEithers_18, h4, if_neg (nI_ge (by omega) (by omega)), g1, mm_bd_ret, if_neg (by decide), nI_1, this, Nat.add_assoc, Nat.add_assoc]
          · refine ⟨S1, c1, s1, a1, a2, fun o2 => ?_, fun T' e => by rw [g2] at e; cases e⟩
            rw [if_pos hlt, if_pos hlt, eX5_splitEithers_18, h4, if_neg (nI_ge (by omega) (by omega)), g1, mm_bd_ret, if_pos rfl, mb_f (fun q => q g2)]
theorem mq_split {S : Mem} {T : TB} {n : Nat} (h : cst S k C R sz t T n) : ∃ S' c' s', mpot S S' c' s' ∧ cfr t S S' ∧ mm_runD (d + 5) 49 [.inr 21] S = some (S', c', s', 0, mb (spT (S 32) (gk S k) T ≠ none)) ∧ ∀ T', spT (S 32) (gk S k) T = some T' → ∃ n', cst S' k C R sz t T' n' := by
  obtain ⟨hr, ⟨h3, h4, h5, hM⟩, hw, hn, he, ht⟩ := h
  have h : cst S k C R sz t T n := ⟨hr, ⟨h3, h4, h5, hM⟩, hw, hn, he, ht⟩
  obtain ⟨f, hf⟩ := spT_is (G := S 32) (g := gk S k) (T := T) hw.2.1
  obtain ⟨S', c', s', a1, a2, a3, a4⟩ := mq_split_l (d := d) (t := t) f T 0 0 _ S n 0 0 h (by omega) (by omega) hf
  refine ⟨S', c', s', a1, a2, ?_, a4⟩
  have w1 := hw.1
  have w2 := hw.2.1
  rw [dX5_splitEithers, eX5_splitEithers_0, h4, if_neg (show ¬ (40 : Int32) < nI (tP T) from nI_nlt (a := 40) w1 (by decide)), h5, if_pos (show nI (tL T) ≤ 60 from nI_le (b := 60) w2 (by decide))]
  have := a3 none
  rw [Nat.zero_add, Nat.zero_add] at this
  by_cases q : 0 < tL T
  · rw [if_pos q, if_pos q, nI_0] at this
    rw [eX5_splitEithers_12, h5, if_neg (nI_nle q (by omega))]
    exact this
  · rw [if_neg q, if_neg q, nI_0] at this
    exact this
end
