/-! PURE: the reference's behind, over the rows' signs and over the values -/
section
variable {d : Nat} {S : Mem} {k : KK}
theorem mr_behindr_l (hK : mr_K S k) (hW : kW k) {o2 : Option MV} : ∀ (l n p : Nat) (o5 : Option MV), sq (fun j => kar k (S 32 j)) l n p → p + l ≤ 480 → (∀ j, p ≤ j → j < p + l → sgn k (S 32 j)) → mm_E (mm_runD (d + 1)) pX8_behind 1 4 [some (.inr 27), some (.inr 32), o2, some (.inl (nI p)), some (.inl (nI n)), o5] [] S 0 0 = some (S, 0, 0, 0, nI (p + l)) := by
  intro l
  have hM := hW.2.1
  induction l with
  | zero =>
    intro n p o5 hs hl hx
    have e : n = 0 := hs
    subst e
    rw [eX8_behind_32_4, if_pos (by decide)] <;> rfl
  | succ l ih =>
    intro n p o5 hs hl hx
    have hle := sq_le hs
    obtain ⟨n', h1, h2⟩ := hs
    subst h1
    have hrec : ∀ o5, mm_E (mm_runD (d + 1)) pX8_behind 1 4 [some (.inr 27), some (.inr 32), o2, some (.inl (nI (p + 1))), some (.inl (nI (n' + kar k (S 32 p)))), o5] [] S 0 0 = some (S, 0, 0, 0, nI (p + (l + 1))) := by
      intro o5
      rw [ih (n' + kar k (S 32 p)) (p + 1) o5 h2 (by omega) (fun j a b => hx j (by omega) (by omega)), show p + 1 + l = p + (l + 1) by omega]
    rw [eX8_behind_32_4, if_neg (nI_nle (by omega) (by omega)), ar_32 (by omega), nI_1]
    rcases hx p (Nat.le_refl _) (by omega) with h0 | h0 | ⟨m, hm, h0⟩
    · rw [h0] at hrec ⊢
      rw [if_neg (by decide), if_pos rfl, nn_sm, nI_pred]
      rw [kar_N1 hW] at hrec
      exact hrec _
    · rw [h0] at hrec ⊢
      rw [if_pos rfl, nI_1]
      rw [kar_N2] at hrec
      exact hrec _
    · rw [h0] at hrec ⊢
      rw [kar_m hW hm] at hrec
      rw [if_neg (fun q => (nn_a2 (a := m) (by omega)).mp q), if_neg (fun q => (nn_a1 (a := m) (by omega)).mp q), mr_fields hK hW hm, mm_bd_ret]
      have e : nI (n' + 1) + (nI (kFc k m) - 1) = nI (n' + kFc k m) := by
        rw [← nI_1, Int32.sub_eq_add_neg, Int32.add_comm (nI (kFc k m)), ← Int32.add_assoc, Int32.add_assoc (nI n'), show (1 : Int32) + -1 = 0 from rfl, Int32.add_zero, nI_add]
      rw [e]
      exact hrec _
theorem mr_behindr (hK : mr_K S k) (hW : kW k) {l p : Nat} (hs : sq (fun j => kar k (S 32 j)) l 1 p) (hl : p + l ≤ 480) (hx : ∀ j, p ≤ j → j < p + l → sgn k (S 32 j)) : mm_runD (d + 2) 132 [.inr 27, .inr 32, .inl (nI p)] S = some (S, 0, 0, 0, nI (p + l)) := by
  rw [dX8_behind_32, eX8_behind_32_0]
  exact mr_behindr_l hK hW l 1 p none hs hl hx
end
section
variable {d : Nat} {S : Mem} {k : KK}
theorem mr_behindv_l (hK : mr_K S k) (hW : kW k) {o2 : Option MV} : ∀ (l n p : Nat) (o5 : Option MV), sq (fun j => kar k (S 35 j)) l n p → p + l ≤ 60 → (∀ j, p ≤ j → j < p + l → sgn k (S 35 j)) → mm_E (mm_runD (d + 1)) pX8_behind 1 4 [some (.inr 27), some (.inr 35), o2, some (.inl (nI p)), some (.inl (nI n)), o5] [] S 0 0 = some (S, 0, 0, 0, nI (p + l)) := by
  intro l
  have hM := hW.2.1
  induction l with
  | zero =>
    intro n p o5 hs hl hx
    have e : n = 0 := hs
    subst e
    rw [eX8_behind_35_4, if_pos (by decide)] <;> rfl
  | succ l ih =>
    intro n p o5 hs hl hx
    have hle := sq_le hs
    obtain ⟨n', h1, h2⟩ := hs
    subst h1
    have hrec : ∀ o5, mm_E (mm_runD (d + 1)) pX8_behind 1 4 [some (.inr 27), some (.inr 35), o2, some (.inl (nI (p + 1))), some (.inl (nI (n' + kar k (S 35 p)))), o5] [] S 0 0 = some (S, 0, 0, 0, nI (p + (l + 1))) := by
      intro o5
      rw [ih (n' + kar k (S 35 p)) (p + 1) o5 h2 (by omega) (fun j a b => hx j (by omega) (by omega)), show p + 1 + l = p + (l + 1) by omega]
    rw [eX8_behind_35_4, if_neg (nI_nle (by omega) (by omega)), ar_35 (by omega), nI_1]
    rcases hx p (Nat.le_refl _) (by omega) with h0 | h0 | ⟨m, hm, h0⟩
    · rw [h0] at hrec ⊢
      rw [if_neg (by decide), if_pos rfl, nn_sm, nI_pred]
      rw [kar_N1 hW] at hrec
      exact hrec _
    · rw [h0] at hrec ⊢
      rw [if_pos rfl, nI_1]
      rw [kar_N2] at hrec
      exact hrec _
    · rw [h0] at hrec ⊢
      rw [kar_m hW hm] at hrec
      rw [if_neg (fun q => (nn_a2 (a := m) (by omega)).mp q), if_neg (fun q => (nn_a1 (a := m) (by omega)).mp q), mr_fields hK hW hm, mm_bd_ret]
      have e : nI (n' + 1) + (nI (kFc k m) - 1) = nI (n' + kFc k m) := by
        rw [← nI_1, Int32.sub_eq_add_neg, Int32.add_comm (nI (kFc k m)), ← Int32.add_assoc, Int32.add_assoc (nI n'), show (1 : Int32) + -1 = 0 from rfl, Int32.add_zero, nI_add]
      rw [e]
      exact hrec _
theorem mr_behindv (hK : mr_K S k) (hW : kW k) {l p : Nat} (hs : sq (fun j => kar k (S 35 j)) l 1 p) (hl : p + l ≤ 60) (hx : ∀ j, p ≤ j → j < p + l → sgn k (S 35 j)) : mm_runD (d + 2) 132 [.inr 27, .inr 35, .inl (nI p)] S = some (S, 0, 0, 0, nI (p + l)) := by
  rw [dX8_behind_35, eX8_behind_35_0]
  exact mr_behindv_l hK hW l 1 p none hs hl hx
end
