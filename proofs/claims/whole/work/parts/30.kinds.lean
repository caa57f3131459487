/-! PURE: the class's Kinds -/
/-- the numbers of types T and makers M, and what a maker is made of -/
def mp_K (S : Mem) (T M : Nat) (ty fc : Nat → Nat) (ft : Nat → Nat → Nat) : Prop :=
  S 1 0 = nI T ∧ T ≤ 8 ∧ S 1 1 = nI M ∧ M ≤ 40 ∧ ∀ m, m < M → (S 4 m = nI (ty m) ∧ ty m < T ∧ S 5 m = nI (fc m) ∧ fc m ≤ 3 ∧ ∀ k, k < fc m → S 6 (3 * m + k) = nI (ft m k) ∧ ft m k < T)
theorem mp_nge (x : Int32) (n : Nat) {j : Nat} (hx : x = nI n) (h : j < n) (hn : n < 2 ^ 31) : ¬ x ≤ nI j := by rw [hx]; exact nI_ge h hn
theorem mp_hasType_in {d : Nat} {S : Mem} {T j : Nat} (hT : S 1 0 = nI T) (h8 : T ≤ 8) (hj : j < T) : mm_runD (d + 1) 19 [.inr 1, .inl (nI j)] S = some (S, 0, 0, 0, 1) := by
  rw [dX2_hasType, eX2_hasType_0, if_neg (nI_pos (by omega)), hT, if_neg (nI_ge hj (by omega)), if_neg (mp_nge 8 8 rfl (by omega) (by decide))]
theorem mp_hasType_out {d : Nat} {S : Mem} {T : Nat} {t : Int32} (hT : S 1 0 = nI T) (h : t < 0 ∨ nI T ≤ t) : mm_runD (d + 1) 19 [.inr 1, .inl t] S = some (S, 0, 0, 0, 0) := by
  rw [dX2_hasType, eX2_hasType_0]
  by_cases h0 : t < 0
  · rw [if_pos h0]
  · rcases h with h | h
    · exact absurd h h0
    · rw [if_neg h0, hT, if_pos h]
theorem mp_hasMaker_in {d : Nat} {S : Mem} {M j : Nat} (hM : S 1 1 = nI M) (h8 : M ≤ 40) (hj : j < M) : mm_runD (d + 1) 20 [.inr 1, .inl (nI j)] S = some (S, 0, 0, 0, 1) := by
  rw [dX2_hasMaker, eX2_hasMaker_0, if_neg (nI_pos (by omega)), hM, if_neg (nI_ge hj (by omega)), if_neg (mp_nge 40 40 rfl (by omega) (by decide))]
theorem mp_hasMaker_out {d : Nat} {S : Mem} {M : Nat} {t : Int32} (hM : S 1 1 = nI M) (h : t < 0 ∨ nI M ≤ t) : mm_runD (d + 1) 20 [.inr 1, .inl t] S = some (S, 0, 0, 0, 0) := by
  rw [dX2_hasMaker, eX2_hasMaker_0]
  by_cases h0 : t < 0
  · rw [if_pos h0]
  · rcases h with h | h
    · exact absurd h h0
    · rw [if_neg h0, hM, if_pos h]
theorem mp_ix {S : Mem} {c n j : Nat} (h22 : Nat.beq c mm_RM = false) (h : j < n) (hn : n < 2 ^ 31) : ¬ (nI j < 0 ∨ mm_len S c n ≤ (nI j).toNatClampNeg) := by
  have : mm_len S c n = n := by unfold mm_len; rw [h22]
  rw [this]
  exact nI_in h hn
theorem mp_typeOf_in {d : Nat} {S : Mem} {M j : Nat} (hM : S 1 1 = nI M) (h8 : M ≤ 40) (hj : j < M) : mm_runD (d + 2) 23 [.inr 1, .inl (nI j)] S = some (S, 0, 0, 0, S 4 j) := by
  rw [dX2_typeOf, eX2_typeOf_0, mp_hasMaker_in hM h8 hj, mm_bd_ret, if_neg (by decide), mm_arr_in (n := 40) rfl (mp_ix rfl (by omega) (by decide)), nI_clamp (by omega)]
theorem mp_typeOf_out {d : Nat} {S : Mem} {M : Nat} {t : Int32} (hM : S 1 1 = nI M) (h : t < 0 ∨ nI M ≤ t) : mm_runD (d + 2) 23 [.inr 1, .inl t] S = some (S, 0, 0, 0, -1) := by
  rw [dX2_typeOf, eX2_typeOf_0, mp_hasMaker_out hM h, mm_bd_ret, if_pos rfl]
theorem mp_fieldCount_in {d : Nat} {S : Mem} {M j : Nat} (hM : S 1 1 = nI M) (h8 : M ≤ 40) (hj : j < M) : mm_runD (d + 2) 24 [.inr 1, .inl (nI j)] S = some (S, 0, 0, 0, S 5 j) := by
  rw [dX2_fieldCount, eX2_fieldCount_0, mp_hasMaker_in hM h8 hj, mm_bd_ret, if_neg (by decide), mm_arr_in (n := 40) rfl (mp_ix rfl (by omega) (by decide)), nI_clamp (by omega)]
theorem mp_fieldCount_out {d : Nat} {S : Mem} {M : Nat} {t : Int32} (hM : S 1 1 = nI M) (h : t < 0 ∨ nI M ≤ t) : mm_runD (d + 2) 24 [.inr 1, .inl t] S = some (S, 0, 0, 0, 0) := by
  rw [dX2_fieldCount, eX2_fieldCount_0, mp_hasMaker_out hM h, mm_bd_ret, if_pos rfl]
theorem mp_hasValue_in {d : Nat} {S : Mem} {T j : Nat} (hT : S 1 0 = nI T) (h8 : T ≤ 8) (hj : j < T) : mm_runD (d + 2) 22 [.inr 1, .inl (nI j)] S = some (S, 0, 0, 0, if S 3 j = 0 then 0 else 1) := by
  rw [dX2_hasValue, eX2_hasValue_0, mp_hasType_in hT h8 hj, mm_bd_ret, if_neg (by decide), mm_arr_in (n := 8) rfl (mp_ix rfl (by omega) (by decide)), nI_clamp (by omega)]
  split <;> rfl
theorem mp_fieldType_in {d : Nat} {S : Mem} {M j k f : Nat} (hM : S 1 1 = nI M) (h8 : M ≤ 40) (hj : j < M) (hf : S 5 j = nI f) (hf3 : f ≤ 3) (hk : k < f) : mm_runD (d + 3) 25 [.inr 1, .inl (nI j), .inl (nI k)] S = some (S, 0, 0, 0, S 6 (3 * j + k)) := by
  have e : nI j * 3 + nI k = nI (3 * j + k) := by
    rw [show (3 : Int32) = nI 3 from rfl, pk_mul, nI_add, Nat.mul_comm]
  rw [dX2_fieldType, eX2_fieldType_0, if_neg (nI_pos (by omega)), if_neg (mp_nge 3 3 rfl (by omega) (by decide)), mp_fieldCount_in hM h8 hj, mm_bd_ret, hf, if_neg (nI_ge hk (by omega)), e, mm_arr_in (n := 120) rfl (mp_ix rfl (by omega) (by decide)), nI_clamp (by omega)]
theorem mp_isDead_loop {d : Nat} {S : Mem} {T M m f : Nat} {ft : Nat → Nat} (hT : S 1 0 = nI T) (hT8 : T ≤ 8) (hM : S 1 1 = nI M) (hM40 : M ≤ 40) (hm : m < M) (hf : S 5 m = nI f) (hf3 : f ≤ 3) (hft : ∀ k, k < f → S 6 (3 * m + k) = nI (ft k) ∧ ft k < T) :
    ∀ (n i : Nat), f - i = n → i ≤ f → ((∀ k, i ≤ k → k < f → S 3 (ft k) ≠ 0) → mm_E (mm_runD (d + 3)) pX2_isDead 2 2 [some (.inr 1), some (.inl (nI m)), some (.inl (nI i))] [] S 0 0 = some (S, 0, 0, 0, 0)) ∧ ((∃ k, i ≤ k ∧ k < f ∧ S 3 (ft k) = 0) → mm_E (mm_runD (d + 3)) pX2_isDead 2 2 [some (.inr 1), some (.inl (nI m)), some (.inl (nI i))] [] S 0 0 = some (S, 0, 0, 0, 1)) := by
  intro n
  induction n with
  | zero =>
    intro i hn hi
    have e : i = f := by omega
    subst e
    refine ⟨fun _ => ?_, fun ⟨k, h1, h2, _⟩ => absurd h1 (by omega)⟩
    rw [eX2_isDead_2, mp_fieldCount_in hM hM40 hm, mm_bd_ret, hf, if_pos (nI_le (Nat.le_refl _) (by omega))]
  | succ n ih =>
    intro i hn hi
    have hlt : i < f := by omega
    obtain ⟨h1, h2⟩ := hft i hlt
    have step : mm_E (mm_runD (d + 3)) pX2_isDead 2 2 [some (.inr 1), some (.inl (nI m)), some (.inl (nI i))] [] S 0 0 = if S 3 (ft i) = 0 then some (S, 0, 0, 0, 1) else mm_E (mm_runD (d + 3)) pX2_isDead 2 2 [some (.inr 1), some (.inl (nI m)), some (.inl (nI (i + 1)))] [] S 0 0 := by
      rw [eX2_isDead_2, mp_fieldCount_in hM hM40 hm, mm_bd_ret, hf, if_neg (nI_ge hlt (by omega)), mp_fieldType_in hM hM40 hm hf hf3 hlt, mm_bd_ret, h1, mp_hasValue_in hT hT8 h2, mm_bd_ret, nI_1]
      by_cases hz : S 3 (ft i) = 0
      · rw [if_pos hz, if_pos hz, if_pos rfl]
      · rw [if_neg hz, if_neg hz, if_neg (by decide)]
    obtain ⟨ih1, ih2⟩ := ih (i + 1) (by omega) (by omega)
    refine ⟨fun h => ?_, fun ⟨k, k1, k2, k3⟩ => ?_⟩
    · rw [step, if_neg (h i (Nat.le_refl _) hlt)]
      exact ih1 (fun k a b => h k (by omega) b)
    · rw [step]
      by_cases hz : S 3 (ft i) = 0
      · rw [if_pos hz]
      · rw [if_neg hz]
        refine ih2 ⟨k, ?_, k2, k3⟩
        rcases Nat.lt_or_ge i k with z | z
        · exact z
        · have : k = i := by omega
          subst this; exact absurd k3 hz
/-- a maker is dead: a field's type has no value noted -/
def mp_dead (S : Mem) (f : Nat) (ft : Nat → Nat) : Prop := ∃ k, k < f ∧ S 3 (ft k) = 0
theorem mp_isDead {d : Nat} {S : Mem} {T M m f : Nat} {ft : Nat → Nat} (hT : S 1 0 = nI T) (hT8 : T ≤ 8) (hM : S 1 1 = nI M) (hM40 : M ≤ 40) (hm : m < M) (hf : S 5 m = nI f) (hf3 : f ≤ 3) (hft : ∀ k, k < f → S 6 (3 * m + k) = nI (ft k) ∧ ft k < T) :
    (¬ mp_dead S f ft → mm_runD (d + 4) 26 [.inr 1, .inl (nI m)] S = some (S, 0, 0, 0, 0)) ∧ (mp_dead S f ft → mm_runD (d + 4) 26 [.inr 1, .inl (nI m)] S = some (S, 0, 0, 0, 1)) := by
  obtain ⟨h1, h2⟩ := mp_isDead_loop (d := d) hT hT8 hM hM40 hm hf hf3 hft (f - 0) 0 rfl (Nat.zero_le _)
  refine ⟨fun h => ?_, fun ⟨k, k1, k2⟩ => ?_⟩
  · rw [dX2_isDead, eX2_isDead_0]
    exact h1 (fun k _ b q => h ⟨k, b, q⟩)
  · rw [dX2_isDead, eX2_isDead_0]
    exact h2 ⟨k, Nat.zero_le _, k1, k2⟩
