/-! PURE: promise 11 (missingSign) -/
/-- a sign of a missing case -/
noncomputable def msA (t : Nat × (Nat → Int32)) (x : Int32) : Int32 := @ite Int32 (mi x t.1) (Classical.propDecidable _) (t.2 x.toNatClampNeg) (-3)
section
variable {d : Nat} {S : Mem} {k : KK} {C R : Nat} {sz : Nat → Nat} {col : Nat → Nat} {σ : SG}
theorem mr_ms_bad0 {x1 x2 : Int32} (h24 : S 27 24 = N1) : mm_runD (d + 2) 150 [.inr 27, .inl x1, .inl x2] S = some (mm_put S 27 0 1, 0, 0, 0, 0) ∨ mm_runD (d + 2) 150 [.inr 27, .inl x1, .inl x2] S = some (mm_put (mm_put S 27 0 0) 27 0 1, 0, 0, 0, 0) := by
  rw [dX8_missingSign, eX8_missingSign_0]
  by_cases q : x1 < 0
  · exact Or.inl (by rw [if_pos q, mp_pp, if_neg (by decide)])
  · refine Or.inr ?_
    obtain ⟨a, ha, rfl⟩ := nI_of q
    rw [if_neg q, mr_missing0 h24, mm_bd_ret, if_pos (Int32.le_of_lt ((nn_a7 ha).mpr trivial)), mp_pp, if_neg (by decide)]
theorem mr_ms_bad1 {x1 x2 : Int32} (hn : rnd S (S 32) k σ) (hN : gN σ ≤ 300) (hx : ¬ mi x1 (nfl (S 32) (gT σ) (gN σ))) : mm_runD (d + 2) 150 [.inr 27, .inl x1, .inl x2] S = some (mm_put S 27 0 1, 0, 0, 0, 0) ∨ mm_runD (d + 2) 150 [.inr 27, .inl x1, .inl x2] S = some (mm_put (mm_put S 27 0 0) 27 0 1, 0, 0, 0, 0) := by
  have hl := nfl_le (G := S 32) (τ := gT σ) (gN σ)
  rw [dX8_missingSign, eX8_missingSign_0]
  by_cases q : x1 < 0
  · exact Or.inl (by rw [if_pos q, mp_pp, if_neg (by decide)])
  · refine Or.inr ?_
    rw [if_neg q, mr_missing1 hn hN, mm_bd_ret, if_pos ((mi_out (by omega) hx).resolve_left q), mp_pp, if_neg (by decide)]
theorem mr_ms_find {o1 : Option MV} {x2 : Int32} (hN : gN σ ≤ 300) {G : Nat → Int32} (hn : rnd S G k σ) {q x : Nat} (hx : fln G σ q x) : ∀ (z i : Nat) (o5 : Option MV), x - i = z → i ≤ x → mm_E (mm_runD (d + 2)) pX8_missingSign 1 20 [some (.inr 27), o1, some (.inl x2), some (.inl (nI i)), some (.inl (nI (q - nfl G (gT σ) i))), o5] [] S 0 0 = mm_bd (mm_runD (d + 2) 151 [.inr 27, .inl (nI x)] S) 0 0 (fun S2 c2 t2 a2 => (if x2 < 0 then some (S2, c2, t2, 0, (-3)) else (if a2 ≤ x2 then some (S2, c2, t2, 0, (-3)) else mm_arr S2 1 53 x2 (fun q3 => some (S2, c2, t2, 0, S2 53 q3))))) := by
  obtain ⟨x1, x2', x3⟩ := hx
  intro z
  induction z with
  | zero =>
    intro i o5 hz hi
    have e : i = x := by omega
    subst e
    have h42 := (hn.2 i x1).1
    rw [eX8_missingSign_20, ar_42 (by omega), h42, if_pos (by rw [x2']; rfl), show q - nfl G (gT σ) i = 0 by omega, if_pos (by decide)]
  | succ z ih =>
    intro i o5 hz hi
    have h42 := (hn.2 i (by omega)).1
    have hk := kdT_lt G (gT σ i)
    have hm := nfl_mono (G := G) (τ := gT σ) (show i + 1 ≤ x by omega)
    have hl := nfl_le (G := G) (τ := gT σ) x
    have IH := ih (i + 1) o5 (by omega) (by omega)
    rw [nfl_s] at hm IH
    rw [eX8_missingSign_20, ar_42 (by omega), h42]
    by_cases y : kdT G (gT σ i) = 0
    · rw [if_pos y] at hm IH
      rw [if_pos (show nI (kdT G (gT σ i)) = 0 by rw [y]; rfl), if_neg (nI_nle (by omega) (by omega)), ar_42 (by omega), h42, if_pos (show nI (kdT G (gT σ i)) = 0 by rw [y]; rfl), show nI (q - nfl G (gT σ) i) - 1 = nI (q - nfl G (gT σ) i - 1) from nn_sub (b := 1) (by omega), nI_1, show q - nfl G (gT σ) i - 1 = q - (nfl G (gT σ) i + 1) by omega]
      exact IH
    · rw [if_neg y] at IH
      have h0 : ¬ nI (kdT G (gT σ i)) = 0 := nI_ne0 (by omega) (by omega)
      rw [if_neg h0, ar_42 (by omega), h42, if_neg h0, show nI (q - nfl G (gT σ) i) - 0 = nI (q - nfl G (gT σ) i) from nn_sub (b := 0) (by omega), nI_1]
      exact IH
theorem mr_ms_ok (hK : mr_K S k) (hW : kW k) (hr : rws S k C R sz) (hC : C ≤ 3) (h6 : S 27 6 = nI C) (hg : sgW (S 32) (gk S k) k C R sz col σ) (hn : rnd S (S 32) k σ) {q x : Nat} (hx : fln (S 32) σ q x) (x2 : Int32) : ∃ w f, mm_runD (d + 3) 150 [.inr 27, .inl (nI q), .inl x2] S = some (mm_stc (mm_stc (mm_put (mm_put S 27 0 0) 27 0 0) 52 w) 53 f, 0, 0, 0, msA (tld (S 32) k C σ x) x2) := by
  have hN := hg.2.1
  have hM := hW.2.1
  obtain ⟨S1, eS⟩ : ∃ S1, S1 = mm_put (mm_put S 27 0 0) 27 0 0 := ⟨_, rfl⟩
  have hl := nfl_le (G := S 32) (τ := gT σ) x
  have hql : q < nfl (S 32) (gT σ) (gN σ) := by
    have := nfl_mono (G := S 32) (τ := gT σ) (show x + 1 ≤ gN σ from hx.1)
    rw [nfl_s, if_pos hx.2.1, hx.2.2] at this
    omega
  have hl2 := nfl_le (G := S 32) (τ := gT σ) (gN σ)
  obtain ⟨w, f, a1, a2⟩ := mr_tell (d := d) (S := S1) (k := k) (C := C) (R := R) (sz := sz) (col := col) (σ := σ) (by subst eS; exact hK) hW (by subst eS; exact hr) hC (by subst eS; exact h6) (by subst eS; exact hg) (by subst eS; exact hn) hx.1
  have e32 : S1 32 = S 32 := by subst eS; rfl
  rw [e32] at a1 a2
  obtain ⟨t1, t2, t3⟩ := tld_is hW hr hC hg x hx.1
  have wP := (hg.2.2.2.1 x hx.1).1
  have hx1 : x < gN σ := hx.1
  refine ⟨w, f, ?_⟩
  have fn := mr_ms_find (d := d) (S := S1) (o1 := some (.inl (nI q))) (x2 := x2) hN (G := S 32) (k := k) (by subst eS; exact hn) hx (x - 0) 0 none rfl (by omega)
  rw [show q - nfl (S 32) (gT σ) 0 = q from rfl, nI_0] at fn
  rw [dX8_missingSign, eX8_missingSign_0, if_neg (nI_pos (by omega)), mr_missing1 hn hN, mm_bd_ret, if_neg (nI_ge hql (by omega)), mp_pp, if_pos (show (0 : Int32) ≤ 0 by decide), ← eS]
  refine Eq.trans fn ?_
  rw [a1, mm_bd_ret]
  unfold msA
  by_cases y : mi x2 (tld (S 32) k C σ x).1
  · obtain ⟨j, hj, rfl⟩ := y
    rw [if_neg (nI_pos (by omega)), if_neg (nI_ge hj (by omega)), ar_53 (by omega), mm_stc_at, a2 j hj, if_pos (mi_in hj), nI_clamp (by omega)]
  · rw [if_neg y]
    by_cases z : x2 < 0
    · rw [if_pos z]
    · rw [if_neg z, if_pos ((mi_out (by omega) y).resolve_left z)]
/-! the class -/
theorem mq_failNode {G : Nat → Int32} (hc : cnd S G σ) (hN : gN σ ≤ 300) {q x : Nat} (hx : fln G σ q x) : mm_runD (d + 3) 83 [.inr 19, .inl (nI q)] S = some (S, 0, 0, 0, nI x) := by
  obtain ⟨x1, x2, x3⟩ := hx
  have hl := nfl_le (G := G) (τ := gT σ) x
  have loop : ∀ (z i : Nat) (o1 : Option MV), x - i = z → i ≤ x → mm_E (mm_runD (d + 2)) pX6_failNode 1 4 [some (.inr 19), o1, some (.inl (nI (q - nfl G (gT σ) i))), some (.inl (nI i))] [] S 0 0 = some (S, 0, 0, 0, nI x) := by
    intro z
    induction z with
    | zero =>
      intro i o1 hz hi
      have e : i = x := by omega
      subst e
      rw [eX6_failNode_4, hc.1, if_neg (nI_ge x1 (by omega)), mq_kindOf hc hN x1, mm_bd_ret, if_pos (by rw [x2]; rfl), show q - nfl G (gT σ) i = 0 by omega, if_pos nI_0]
    | succ z ih =>
      intro i o1 hz hi
      have hk := kdT_lt G (gT σ i)
      have hm := nfl_mono (G := G) (τ := gT σ) (show i + 1 ≤ x by omega)
      have IH := ih (i + 1) o1 (by omega) (by omega)
      rw [nfl_s] at hm IH
      rw [eX6_failNode_4, hc.1, if_neg (nI_ge (by omega) (by omega)), mq_kindOf hc hN (by omega), mm_bd_ret]
      by_cases y : kdT G (gT σ i) = 0
      · rw [if_pos y] at hm IH
        rw [if_pos (show nI (kdT G (gT σ i)) = 0 by rw [y]; rfl), if_neg (nI_ne0 (by omega) (by omega)), nn_sm, show nI (q - nfl G (gT σ) i) - 1 = nI (q - nfl G (gT σ) i - 1) from nn_sub (b := 1) (by omega), nI_1, show q - nfl G (gT σ) i - 1 = q - (nfl G (gT σ) i + 1) by omega]
        exact IH
      · rw [if_neg y] at IH
        rw [if_neg (nI_ne0 (by omega) (by omega)), nI_1]
        exact IH
  rw [dX6_failNode, eX6_failNode_0]
  have := loop (x - 0) 0 (some (.inl (nI q))) rfl (by omega)
  rw [nI_0] at this
  exact this
/-- the branch on the way to a node -/
theorem mq_branchTowards {G : Nat → Int32} {g : Nat → Nat} (hg : gin G g k C R sz col σ []) (h8 : ∀ t, kCnt k t (kM k) ≤ 8) (hc : cnd S G σ) {x n : Nat} (hx : x < gN σ) (h0 : 0 < itr (gP σ) n x) (hlt : itr (gP σ) n x < gN σ) (hle : itr (gP σ) n x ≤ x) : mm_runD (d + 2) 82 [.inr 19, .inl (nI (gP σ (itr (gP σ) n x))), .inl (nI x)] S = some (S, 0, 0, 0, nI (itr (gP σ) n x)) := by
  have hN := hg.1.2.1
  obtain ⟨c, ec⟩ : ∃ c, c = itr (gP σ) n x := ⟨_, rfl⟩
  have pre := hg.2.2.2.1 x hx n h0
  rw [← ec] at h0 hlt hle pre ⊢
  obtain ⟨p, ep⟩ : ∃ p, p = gP σ c := ⟨_, rfl⟩
  have hp : p < gN σ := by have := (hg.1.2.2.2.2.1 c h0 hlt).1; omega
  have gC8 := gin_8 hg h8 hp
  obtain ⟨j0, j1, j2⟩ := hg.1.2.2.2.2.2.2.1 c h0 hlt
  rw [← ep] at j1 j2 pre ⊢
  have H6 := hg.1.2.2.2.2.2.1
  have H8 := hg.1.2.2.2.2.2.2.2
  have g5 := mq_tget (d := d) (f := 5) hc.1 hN hp (by omega)
  rw [hc.2.2.2.1 p hp (by omega)] at g5
  have nxt : ∀ j, j < gC σ p → mm_runD (d + 1) 87 [.inr 19, .inl (nI (gH σ p j)), .inl (nI 6)] S = some (S, 0, 0, 0, if j + 1 < gC σ p then nI (gH σ p (j + 1)) else N1) := fun j hj => by
    rw [mq_tget (d := d) (f := 6) hc.1 hN (H6 p j hp hj).2.1 (by omega), hc.2.2.2.2.2 p j hp hj]
  have loop : ∀ (z j : Nat) (x3 : Int32) (o1 : Option MV), j0 - j = z → j ≤ j0 → mm_E (mm_runD (d + 1)) pX6_branchTowards 1 9 [some (.inr 19), o1, some (.inl (nI x)), some (.inl x3), some (.inl (nI (gH σ p j))), some (.inl (nI j))] [] S 0 0 = some (S, 0, 0, 0, nI c) := by
    intro z
    induction z with
    | zero =>
      intro j x3 o1 hz hj
      have e : j = j0 := by omega
      subst e
      have hb := (H6 p j hp j1).2.1
      rw [eX6_branchTowards_9, if_neg (show ¬ (8 : Int32) ≤ nI j from nI_ge (b := 8) (by omega) (by decide)), if_neg (show ¬ nI (gH σ p j) = -1 from fun q => (nn_a1 (a := gH σ p j) (by omega)).mp q), if_neg (nI_nlt (by omega) (by omega))]
      show mm_bd (mm_runD (d + 1) 87 [.inr 19, .inl (nI (gH σ p j)), .inl (nI 6)] S) _ _ _ = _
      rw [nxt j j1, mm_bd_ret, nI_1, eX6_branchTowards_9]
      by_cases y8 : (8 : Int32) ≤ nI (j + 1)
      · rw [if_pos y8, j2]
      · rw [if_neg y8]
        by_cases y : j + 1 < gC σ p
        · have hb2 := (H6 p (j + 1) hp y).2.1
          have := pre j y j2
          rw [if_pos y, if_neg (show ¬ nI (gH σ p (j + 1)) = -1 from fun q => (nn_a1 (a := gH σ p (j + 1)) (by omega)).mp q), if_pos (nI_lt this (by omega)), j2]
        · rw [if_neg y, if_pos rfl, j2]
    | succ z ih =>
      intro j x3 o1 hz hj
      have hb := (H6 p j hp (by omega)).2.1
      have hlt2 := (H8 p j j0 hp (by omega) j1).1
      rw [eX6_branchTowards_9, if_neg (show ¬ (8 : Int32) ≤ nI j from nI_ge (b := 8) (by omega) (by decide)), if_neg (show ¬ nI (gH σ p j) = -1 from fun q => (nn_a1 (a := gH σ p j) (by omega)).mp q), if_neg (nI_nlt (by omega) (by omega))]
      show mm_bd (mm_runD (d + 1) 87 [.inr 19, .inl (nI (gH σ p j)), .inl (nI 6)] S) _ _ _ = _
      rw [nxt j (by omega), mm_bd_ret, nI_1, if_pos (by omega)]
      exact ih (j + 1) _ o1 (by omega) (by omega)
  rw [dX6_branchTowards, eX6_branchTowards_0]
  show mm_bd (mm_runD (d + 1) 87 [.inr 19, .inl (nI p), .inl (nI 5)] S) _ _ _ = _
  rw [g5, mm_bd_ret]
  have := loop (j0 - 0) 0 (-1) (some (.inl (nI p))) rfl (by omega)
  rw [nI_0] at this
  exact this
end
