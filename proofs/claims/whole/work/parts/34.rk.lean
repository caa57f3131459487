/-! PURE: the reference's kinds (cells 27 to 30) -/
def mr_K (S : Mem) (k : KK) : Prop := S 27 1 = nI (kT k) ∧ S 27 2 = nI (kM k) ∧ ∀ m, m < kM k → S 28 m = nI (kTy k m) ∧ (∀ j, j < kFc k m → S 29 (3 * m + j) = nI (kFt k m j)) ∧ (kFc k m < 3 → S 29 (3 * m + kFc k m) = N1)
section
variable {d : Nat} {S : Mem} {k : KK}
theorem mr_isType (hK : mr_K S k) (hW : kW k) (x : Int32) : mm_runD (d + 1) 115 [.inr 27, .inl x] S = some (S, 0, 0, 0, mb (mi x (kT k))) := by
  by_cases h : mi x (kT k)
  · rw [mb_t h]
    obtain ⟨j, hj, rfl⟩ := h
    exact mr_isType_in hK.1 hW.1 hj
  · rw [mb_f h]
    exact mr_isType_out hK.1 (mi_out (by have := hW.1; omega) h)
theorem mr_fields (hK : mr_K S k) (hW : kW k) {m : Nat} (hm : m < kM k) : mm_runD (d + 1) 117 [.inr 27, .inl (nI m)] S = some (S, 0, 0, 0, nI (kFc k m)) := by
  obtain ⟨_, h1, h2⟩ := hK.2.2 m hm
  obtain ⟨_, h3, h4⟩ := hW.2.2 m hm
  have hM := hW.2.1
  have hT := hW.1
  rw [dX8_fields, eX8_fields_0, li_3, nn_mul, ar_29 (by omega)]
  rcases Nat.lt_or_ge 0 (kFc k m) with q | q
  · have e := h1 0 q
    have b := h4 0 q
    rw [Nat.add_zero] at e
    rw [e, if_neg (show ¬ nI _ = N1 from (nn_a1 (by omega)).mp), nI_1, ar_29 (by omega)]
    rcases Nat.lt_or_ge 1 (kFc k m) with q | q
    · have e := h1 1 q
      have b := h4 1 q
      rw [e, if_neg (show ¬ nI _ = N1 from (nn_a1 (by omega)).mp), li_2, nI_add, ar_29 (by omega)]
      rcases Nat.lt_or_ge 2 (kFc k m) with q | q
      · have e := h1 2 q
        have b := h4 2 q
        rw [e, if_neg (show ¬ nI _ = N1 from (nn_a1 (by omega)).mp), show kFc k m = 3 by omega] <;> rfl
      · have c : kFc k m = 2 := by omega
        have e := h2 (by omega)
        rw [c] at e ⊢
        rw [e, if_pos rfl]
    · have c : kFc k m = 1 := by omega
      have e := h2 (by omega)
      rw [c] at e ⊢
      rw [e, if_pos rfl] <;> rfl
  · have c : kFc k m = 0 := by omega
    have e := h2 (by omega)
    rw [c] at e ⊢
    rw [Nat.add_zero] at e
    rw [e, if_pos rfl] <;> rfl
theorem mr_makersOf_loop (hK : mr_K S k) (hW : kW k) (t : Nat) (ht : t < 2 ^ 31) : ∀ (n i : Nat), kM k - i = n → i ≤ kM k → mm_E (mm_runD d) pX8_makersOf 1 4 [some (.inr 27), some (.inl (nI t)), some (.inl (nI (kCnt k t i))), some (.inl (nI i))] [] S 0 0 = some (S, 0, 0, 0, nI (kCnt k t (kM k))) := by
  intro n
  have hM := hW.2.1
  have hT := hW.1
  induction n with
  | zero =>
    intro i hn hi
    have e : i = kM k := by omega
    subst e
    rw [eX8_makersOf_4, hK.2.1, if_pos (nI_le (Nat.le_refl _) (by omega))]
  | succ n ih =>
    intro i hn hi
    have hlt : i < kM k := by omega
    have := ih (i + 1) (by omega) (by omega)
    rw [kCnt_s k t i] at this
    rw [eX8_makersOf_4, hK.2.1, if_neg (nI_ge hlt (by omega)), ar_28 (by omega), (hK.2.2 i hlt).1]
    have hty := (hW.2.2 i hlt).1
    by_cases q : kTy k i = t
    · rw [if_pos q] at this
      rw [if_pos (by rw [q]), nI_1, nI_1]
      exact this
    · rw [if_neg q, Nat.add_zero] at this
      rw [if_neg (fun z => q ((nI_eq (by omega) ht).mp z)), nI_1, li_0, nI_add, Nat.add_zero]
      exact this
theorem mr_makersOf (hK : mr_K S k) (hW : kW k) (t : Nat) (ht : t < 2 ^ 31) : mm_runD (d + 1) 116 [.inr 27, .inl (nI t)] S = some (S, 0, 0, 0, nI (kCnt k t (kM k))) := by
  rw [dX8_makersOf, eX8_makersOf_0]
  exact mr_makersOf_loop hK hW t ht (kM k - 0) 0 rfl (by omega)
theorem mr_isDead_loop (hK : mr_K S k) (hW : kW k) {m : Nat} (hm : m < kM k) (hz : ∀ t, S 30 t = 0 ∨ S 30 t = 1) : ∀ (n i : Nat), kFc k m - i = n → i ≤ kFc k m → mm_E (mm_runD (d + 1)) pX8_isDead 2 4 [some (.inr 27), some (.inl (nI m)), some (.inl (mb (∃ j, j < i ∧ S 30 (kFt k m j) = 0))), some (.inl (nI i))] [] S 0 0 = some (S, 0, 0, 0, mb (kDd (S 30) k m)) := by
  intro n
  have hM := hW.2.1
  have hT := hW.1
  obtain ⟨_, h3, h4⟩ := hW.2.2 m hm
  induction n with
  | zero =>
    intro i hn hi
    have e : i = kFc k m := by omega
    subst e
    rw [eX8_isDead_4, mr_fields hK hW hm, mm_bd_ret, if_pos (nI_le (Nat.le_refl _) (by omega)), if_pos (mb_01 _)] <;> rfl
  | succ n ih =>
    intro i hn hi
    have hlt : i < kFc k m := by omega
    have e0 := (hK.2.2 m hm).2.1 i hlt
    have b0 := h4 i hlt
    have := ih (i + 1) (by omega) (by omega)
    rw [eX8_isDead_4, mr_fields hK hW hm, mm_bd_ret, if_neg (nI_ge hlt (by omega)), nI_1]
    by_cases q : ∃ j, j < i ∧ S 30 (kFt k m j) = 0
    · rw [mb_t (show ∃ j, j < i + 1 ∧ S 30 (kFt k m j) = 0 from q.elim fun j h => ⟨j, by omega, h.2⟩)] at this
      rw [mb_t q, if_neg (by decide)]
      exact this
    · rw [mb_f q, if_pos rfl, li_3, nn_mul, nI_add, ar_29 (by omega), e0, ar_30 (by omega)]
      by_cases z : S 30 (kFt k m i) = 0
      · rw [mb_t (show ∃ j, j < i + 1 ∧ S 30 (kFt k m j) = 0 from ⟨i, by omega, z⟩)] at this
        rw [if_pos z]
        exact this
      · rw [mb_f (show ¬ ∃ j, j < i + 1 ∧ S 30 (kFt k m j) = 0 from fun ⟨j, h1, h2⟩ => by
          rcases Nat.lt_or_ge j i with w | w
          · exact q ⟨j, w, h2⟩
          · have : j = i := by omega
            subst this; exact z h2)] at this
        rw [if_neg z]
        exact this
theorem mr_isDead (hK : mr_K S k) (hW : kW k) {m : Nat} (hm : m < kM k) (hz : ∀ t, S 30 t = 0 ∨ S 30 t = 1) : mm_runD (d + 2) 122 [.inr 27, .inl (nI m)] S = some (S, 0, 0, 0, mb (kDd (S 30) k m)) := by
  have := mr_isDead_loop (d := d) hK hW hm hz (kFc k m - 0) 0 rfl (by omega)
  rw [mb_f (fun ⟨j, h, _⟩ => by omega)] at this
  rw [dX8_isDead, eX8_isDead_0]
  exact this
theorem mr_find_clear : ∀ (n i : Nat) (f : Nat → Int32), 8 - i = n → i ≤ 8 → (∀ t, t < i ∨ 8 ≤ t → f t = 0) → mm_E (mm_runD d) pX8_find 0 2 [some (.inr 27), some (.inl (nI i)), none] [] (mm_stc S 30 f) 0 0 = mm_E (mm_runD d) pX8_find 0 14 [some (.inr 27), some (.inl 0), none] [] (mm_stc S 30 (fun _ => 0)) 0 0 := by
  intro n
  induction n with
  | zero =>
    intro i f hn hi hf
    have e : i = 8 := by omega
    subst e
    have : f = fun _ => 0 := by funext t; exact hf t (by omega)
    rw [eX8_find_2, if_pos (by decide), this] <;> rfl
  | succ n ih =>
    intro i f hn hi hf
    have := ih (i + 1) (upd f i 0) (by omega) (by omega) (fun t ht => by
      by_cases e : t = i
      · rw [e]; exact pk_us
      · rw [show upd f i 0 t = f t from pk_un e]; exact hf t (by omega))
    rw [eX8_find_2, if_neg (show ¬ (8 : Int32) ≤ nI i from nI_ge (b := 8) (by omega) (by decide)), ar_30 (by omega), mm_put_stc, show vp_nar .boolean 0 = 0 from nn_nar0, nI_1]
    exact this
theorem mr_find_in (hK : mr_K S k) (hW : kW k) : ∀ (n i : Nat) (f : Nat → Int32) (r : Nat), kM k - i = n → i ≤ kM k → kGood f k →
    ∃ f', mm_E (mm_runD (d + 2)) pX8_find 0 20 [some (.inr 27), some (.inl (nI r)), some (.inl (nI i))] [] (mm_stc S 30 f) 0 0 = mm_E (mm_runD (d + 2)) pX8_find 0 14 [some (.inr 27), some (.inl (nI (r + 1))), some (.inl (nI (kM k)))] [] (mm_stc S 30 f') 0 0 ∧ kGood f' k ∧
      ((f' = f ∧ ∀ m, i ≤ m → m < kM k → f (kTy k m) ≠ 0 ∨ kDd f k m) ∨ cz f' (kT k) < cz f (kT k)) := by
  intro n
  have hM := hW.2.1
  have hT := hW.1
  induction n with
  | zero =>
    intro i f r hn hi hg
    have e : i = kM k := by omega
    subst e
    refine ⟨f, ?_, hg, Or.inl ⟨rfl, fun m h1 h2 => absurd h1 (by omega)⟩⟩
    have hK' : mr_K (mm_stc S 30 f) k := hK
    rw [eX8_find_20, hK'.2.1, if_pos (nI_le (Nat.le_refl _) (by omega)), nI_1]
  | succ n ih =>
    intro i f r hn hi hg
    have hK' : mr_K (mm_stc S 30 f) k := hK
    have hlt : i < kM k := by omega
    obtain ⟨hty, _⟩ := hW.2.2 i hlt
    have e1 : (mm_stc S 30 f) 28 i = nI (kTy k i) := (hK'.2.2 i hlt).1
    rw [eX8_find_20, hK'.2.1, if_neg (nI_ge hlt (by omega)), ar_28 (by omega), ar_28 (by omega), e1, ar_30 (by omega), mm_stc_at, nI_1]
    by_cases h0 : f (kTy k i) = 0
    · rw [if_pos h0, mr_isDead hK' hW hlt (fun t => (hg t).1), mm_bd_ret]
      by_cases hd : kDd f k i
      · rw [show kDd ((mm_stc S 30 f) 30) k i = kDd f k i from rfl, mb_t hd, if_neg (by decide), ar_30 (by omega), mm_put_stc, show vp_nar .boolean 0 = 0 from nn_nar0, upd_self h0]
        obtain ⟨f', h1, h2, h3⟩ := ih (i + 1) f r (by omega) (by omega) hg
        refine ⟨f', h1, h2, ?_⟩
        rcases h3 with ⟨h4, h6⟩ | h3
        · refine Or.inl ⟨h4, fun m a b => ?_⟩
          rcases Nat.lt_or_ge i m with q | q
          · exact h6 m q b
          · have : m = i := by omega
            subst this; exact Or.inr hd
        · exact Or.inr h3
      · rw [show kDd ((mm_stc S 30 f) 30) k i = kDd f k i from rfl, mb_f hd, if_pos rfl, ar_30 (by omega), mm_put_stc, show vp_nar .boolean 1 = 1 from nn_nar1]
        obtain ⟨f', h1, h2, h3⟩ := ih (i + 1) (upd f (kTy k i) 1) r (by omega) (by omega) (kGood_upd hg hlt hd)
        refine ⟨f', h1, h2, Or.inr ?_⟩
        have hc := cz_upd (f := f) (t := kTy k i) h0 (kT k) hty
        rcases h3 with ⟨h4, h6⟩ | h3
        · rw [h4]; omega
        · omega
    · have e2 : f (kTy k i) = 1 := by
        rcases (hg (kTy k i)).1 with q | q
        · exact absurd q h0
        · exact q
      rw [if_neg h0, ar_30 (by omega), mm_put_stc, show vp_nar .boolean 1 = 1 from nn_nar1, upd_self e2]
      obtain ⟨f', h1, h2, h3⟩ := ih (i + 1) f r (by omega) (by omega) hg
      refine ⟨f', h1, h2, ?_⟩
      rcases h3 with ⟨h4, h6⟩ | h3
      · refine Or.inl ⟨h4, fun m a b => ?_⟩
        rcases Nat.lt_or_ge i m with q | q
        · exact h6 m q b
        · have : m = i := by omega
          subst this; exact Or.inl h0
      · exact Or.inr h3
theorem mr_find_out (hK : mr_K S k) (hW : kW k) : ∀ (n r : Nat) (f : Nat → Int32) (o : Option MV), kT k - r = n → r ≤ kT k → kGood f k → (kClosed f k ∨ cz f (kT k) + r ≤ kT k) →
    ∃ f', mm_E (mm_runD (d + 2)) pX8_find 0 14 [some (.inr 27), some (.inl (nI r)), o] [] (mm_stc S 30 f) 0 0 = some (mm_stc S 30 f', 0, 0, 0, 0) ∧ kV f' k := by
  intro n
  have hM := hW.2.1
  have hT := hW.1
  induction n with
  | zero =>
    intro r f o hn hr hg hc
    have e : r = kT k := by omega
    subst e
    have hK' : mr_K (mm_stc S 30 f) k := hK
    refine ⟨f, by rw [eX8_find_14, hK'.1, if_pos (nI_le (Nat.le_refl _) (by omega))], kV_of hg ?_⟩
    rcases hc with hc | hc
    · exact hc
    · intro m hm
      exact Or.inl (cz_zero (kT k) (by omega) _ (hW.2.2 m hm).1)
  | succ n ih =>
    intro r f o hn hr hg hc
    have hK' : mr_K (mm_stc S 30 f) k := hK
    obtain ⟨f', h1, h2, h3⟩ := mr_find_in (d := d) hK hW (kM k - 0) 0 f r rfl (by omega) hg
    rw [eX8_find_14, hK'.1, if_neg (nI_ge (by omega) (by omega)), li_0, h1]
    refine ih (r + 1) f' _ (by omega) (by omega) h2 ?_
    rcases h3 with ⟨h4, h6⟩ | h3
    · rw [h4]; exact Or.inl (fun m hm => h6 m (by omega) hm)
    · rcases hc with hc | hc
      · -- a closed round notes nothing new
        refine Or.inl ?_
        apply Classical.byContradiction
        intro _
        have h8 := kV_of hg hc
        have : cz f' (kT k) = cz f (kT k) ∨ cz f (kT k) ≤ cz f' (kT k) := by
          right
          exact cz_mono (fun t => by
            intro q
            have := (h2 t).2
            by_cases z : f' t = 0
            · exact z
            · exact absurd q ((h8 t).2.mpr (this z))) _
        omega
      · exact Or.inr (by omega)
theorem mr_find (hK : mr_K S k) (hW : kW k) (h30 : ∀ t, 8 ≤ t → S 30 t = 0) : ∃ f, mm_runD (d + 3) 121 [.inr 27] S = some (mm_stc S 30 f, 0, 0, 0, 0) ∧ kV f k := by
  obtain ⟨f, h1, h2⟩ := mr_find_out (d := d) hK hW (kT k - 0) 0 (fun _ => 0) none rfl (by omega) (fun t => ⟨Or.inl rfl, fun h => absurd rfl h⟩) (Or.inr (by have := cz_le (fun _ => 0) (kT k); omega))
  refine ⟨f, ?_, h2⟩
  have := mr_find_clear (d := d + 2) (S := S) (8 - 0) 0 (S 30) rfl (by omega) (fun t ht => h30 t (by omega))
  rw [mm_stc_self] at this
  rw [nI_0] at h1 this
  rw [dX8_find, eX8_find_0, this, h1]
end
