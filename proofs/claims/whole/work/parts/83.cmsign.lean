/-! PURE: missingSign, the class's side -/
section
variable {d : Nat} {S : Mem} {k : KK} {C R : Nat} {sz : Nat → Nat} {col : Nat → Nat} {σ : SG}
theorem mq_ms_bad {x1 x2 : Int32} {F : Nat} (h : S 19 3 = 0 ∨ (S 19 3 = 1 ∧ S 19 2 = nI F ∧ F ≤ 300 ∧ ¬ mi x1 F)) : mm_runD (d + 2) 98 [.inr 0, .inl x1, .inl x2] S = some (S, 1, 6, 5, 0) := by
  rcases h with h | ⟨h, h2, h3, h4⟩
  · rw [dX7_missingSign, eX7_missingSign_0, mq_stands0 h, mm_bd_ret, if_pos rfl]
  · rw [dX7_missingSign, eX7_missingSign_0, mq_stands1 h, mm_bd_ret, if_neg (by decide)]
    rcases mi_out (by omega) h4 with y | y
    · rw [if_pos y]
    · by_cases z : x1 < 0
      · rw [if_pos z]
      · rw [if_neg z, dX6_failCount, eX6_failCount_0, mm_bd_ret, h2, if_neg (Int32.not_lt.mpr y)]
/-- what the shown case says -/
def iX (S : Mem) (k : KK) (C : Nat) (σ : SG) : Prop := S 23 4 = N1 ∨ ∃ q x, fln (S 32) σ q x ∧ S 23 4 = nI q ∧ S 23 3 = nI (tld (S 32) k C σ x).1 ∧ ∀ j, j < (tld (S 32) k C σ x).1 → S 24 j = (tld (S 32) k C σ x).2 j
theorem fln_one {G : Nat → Int32} {q x x' : Nat} (h : fln G σ q x) (h' : fln G σ q x') : x = x' := by
  obtain ⟨a1, a2, a3⟩ := h
  obtain ⟨b1, b2, b3⟩ := h'
  rcases Nat.lt_trichotomy x x' with y | y | y
  · have := nfl_mono (G := G) (τ := gT σ) (n := x + 1) (m := x') (by omega)
    rw [nfl_s, if_pos a2] at this
    omega
  · exact y
  · have := nfl_mono (G := G) (τ := gT σ) (n := x' + 1) (m := x) (by omega)
    rw [nfl_s, if_pos b2] at this
    omega
theorem mq_ms_ok (hK : mq_K S k) (hW : kW k) (hr : rws S k C R sz) (hC : C ≤ 3) (h2 : S 0 2 = nI C) (hg : gin (S 32) (gk S k) k C R sz col σ []) (h8 : ∀ t, kCnt k t (kM k) ≤ 8) (hc : cnd S (S 32) σ) (h3 : S 19 3 = 1) (hx : iX S k C σ) {q x : Nat} (hq : fln (S 32) σ q x) (x2 : Int32) : ∃ S', mm_runD (d + 5) 98 [.inr 0, .inl (nI q), .inl x2] S = some (S', 0, 0, 0, msA (tld (S 32) k C σ x) x2) ∧ mfr [23, 24] S S' ∧ iX S' k C σ := by
  have hN := hg.1.2.1
  have hqF : q < nfl (S 32) (gT σ) (gN σ) := by
    have := nfl_mono (G := S 32) (τ := gT σ) (n := x + 1) (m := gN σ) hq.1
    rw [nfl_s, if_pos hq.2.1, hq.2.2] at this
    omega
  have hF := nfl_le (G := S 32) (τ := gT σ) (gN σ)
  have hlen : (tld (S 32) k C σ x).1 ≤ 340 := by
    obtain ⟨t1, t2, t3⟩ := tld_is hW hr hC hg.1 x hq.1
    have := (hg.1.2.2.2.1 _ hq.1).1
    have := hq.1
    omega
  have start : ∀ Z, (mm_bd (mm_runD (d + 4) 1 [.inr 23] S) 0 0 (fun S3 c3 t3 a3 => (if a3 = nI q then mm_bd (mm_runD (d + 4) 3 [.inr 23, .inl x2] S3) c3 t3 (fun S4 c4 t4 a4 => some (S4, c4, t4, 0, a4)) else mm_bd (mm_runD (d + 4) 2 [.inr 23, .inl (nI q), .inl (S3 0 2)] S3) c3 t3 (fun S5 c5 t5 a5 => mm_bd (mm_runD (d + 4) 3 [.inr 23, .inl x2] S5) c5 t5 (fun S6 c6 t6 a6 => some (S6, c6, t6, 0, a6))))) = Z) → mm_runD (d + 5) 98 [.inr 0, .inl (nI q), .inl x2] S = Z := by
    intro Z h
    rw [dX7_missingSign, eX7_missingSign_0, mq_stands1 (d := d + 3) h3, mm_bd_ret, if_neg (by decide), if_neg (show ¬ nI q < 0 from nI_nlt (b := 0) (Nat.zero_le _) (by omega)), dX6_failCount, eX6_failCount_0, mm_bd_ret, hc.2.1, if_pos (nI_lt hqF (by omega))]
    exact h
  by_cases y : S 23 4 = nI q
  · rcases hx with z | ⟨q', x', z1, z2, z3, z4⟩
    · rw [z] at y
      exact ((nn_a3 (a := q) (by omega)).mp y).elim
    · have hq' : q' ≤ 300 := by have := z1.2.2; have := nfl_le (G := S 32) (τ := gT σ) x'; have := z1.1; omega
      have eq : q' = q := (nI_eq (by omega) (by omega)).mp (z2.symm.trans y)
      subst eq
      have ex := fln_one z1 hq
      subst ex
      refine ⟨S, start _ ?_, mfr_rf, Or.inr ⟨q', x', z1, z2, z3, z4⟩⟩
      rw [dX0_shown, eX0_shown_0, mm_bd_ret, if_pos y, mq_cSign (d := d + 3) z3 hlen z4, mm_bd_ret]
  · obtain ⟨f, a1, a2⟩ := mq_show (d := d) hK hW hr hC hg h8 hc hq
    obtain ⟨Z, eZ⟩ : ∃ Z, Z = mm_put (mm_stc (mm_put S 23 4 (nI q)) 24 f) 23 3 (nI (tld (S 32) k C σ x).1) := ⟨_, rfl⟩
    rw [← eZ] at a1
    have z3 : Z 23 3 = nI (tld (S 32) k C σ x).1 := by subst eZ; exact mp_pp _ _ _ _
    have z4 : ∀ j, j < (tld (S 32) k C σ x).1 → Z 24 j = (tld (S 32) k C σ x).2 j := by subst eZ; exact a2
    have e32 : Z 32 = S 32 := by subst eZ; rfl
    refine ⟨Z, start _ ?_, ?_, Or.inr ⟨q, x, by rw [e32]; exact hq, by subst eZ; rfl, by rw [e32]; exact z3, by rw [e32]; exact z4⟩⟩
    · rw [dX0_shown, eX0_shown_0, mm_bd_ret, if_neg y, h2, a1, mm_bd_ret, mq_cSign (d := d + 3) z3 hlen z4, mm_bd_ret]
    · subst eZ
      exact mfr_tr (mfr_tr (mfr_put (by simp)) (mfr_stc (by simp))) (mfr_put (by simp))
end
