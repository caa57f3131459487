/-! PURE: missing, isIdle, node -/
section
variable {d : Nat} {S : Mem} {k : KK} {G : Nat → Int32} {σ : SG}
theorem nfl_s (G : Nat → Int32) (τ : Nat → TB) (n : Nat) : nfl G τ (n + 1) = nfl G τ n + (if kdT G (τ n) = 0 then 1 else 0) := rfl
theorem kdT_lt (G : Nat → Int32) (T : TB) : kdT G T < 3 := by
  unfold kdT
  repeat' split
  all_goals omega
theorem mq_kindOf (hc : cnd S G σ) (hN : gN σ ≤ 300) {i : Nat} (hi : i < gN σ) : mm_runD (d + 2) 77 [.inr 19, .inl (nI i)] S = some (S, 0, 0, 0, nI (kdT G (gT σ i))) := by
  have g := mq_tget (d := d) (f := 0) hc.1 hN hi (by omega)
  rw [show 9 * i + 0 = 9 * i from rfl, (hc.2.2.1 i hi).1] at g
  rw [dX6_kindOf, eX6_kindOf_0]
  show mm_bd (mm_runD (d + 1) 87 [.inr 19, .inl (nI i), .inl (nI 0)] S) _ _ _ = _
  rw [g, mm_bd_ret]
theorem mq_stands1 (h : S 19 3 = 1) : mm_runD (d + 1) 70 [.inr 19] S = some (S, 0, 0, 0, 1) := by
  rw [dX6_stands, eX6_stands_0, h, if_pos (Or.inr rfl)]
theorem mq_stands0 (h : S 19 3 = 0) : mm_runD (d + 1) 70 [.inr 19] S = some (S, 0, 0, 0, 0) := by
  rw [dX6_stands, eX6_stands_0, h, if_pos (Or.inl rfl)]
theorem mq_missing1 (hc : cnd S G σ) (h : S 19 3 = 1) : mm_runD (d + 2) 97 [.inr 0] S = some (S, 0, 0, 0, nI (nfl G (gT σ) (gN σ))) := by
  rw [dX7_missing, eX7_missing_0, mq_stands1 h, mm_bd_ret, if_neg (by decide), dX6_failCount, eX6_failCount_0, mm_bd_ret, hc.2.1]
theorem mq_missing0 (h : S 19 3 = 0) : mm_runD (d + 2) 97 [.inr 0] S = some (S, 0, 0, 0, N1) := by
  rw [dX7_missing, eX7_missing_0, mq_stands0 h, mm_bd_ret, if_pos rfl]
theorem mr_missing1 (hr : rnd S G k σ) (hN : gN σ ≤ 300) : mm_runD (d + 1) 149 [.inr 27] S = some (mm_put S 27 0 0, 0, 0, 0, nI (nfl G (gT σ) (gN σ))) := by
  have loop : ∀ (z i : Nat), gN σ - i = z → i ≤ gN σ → mm_E (mm_runD d) pX8_missing 1 7 [some (.inr 27), some (.inl (nI (nfl G (gT σ) i))), some (.inl (nI i))] [] (mm_put S 27 0 0) 0 0 = some (mm_put S 27 0 0, 0, 0, 0, nI (nfl G (gT σ) (gN σ))) := by
    have h24 : (mm_put S 27 0 0) 27 24 = nI (gN σ) := hr.1
    intro z
    induction z with
    | zero =>
      intro i hz hi
      have e : i = gN σ := by omega
      subst e
      rw [eX8_missing_7, h24, if_pos (nI_le (Nat.le_refl _) (by omega)), if_neg (show ¬ nI (gN σ) = -1 from fun q => (nn_a1 (a := gN σ) (by omega)).mp q)]
    | succ z ih =>
      intro i hz hi
      have h42 : (mm_put S 27 0 0) 42 i = nI (kdT G (gT σ i)) := (hr.2 i (by omega)).1
      have hk := kdT_lt G (gT σ i)
      have := ih (i + 1) (by omega) (by omega)
      rw [nfl_s G (gT σ) i] at this
      rw [eX8_missing_7, h24, if_neg (nI_ge (by omega) (by omega)), ar_42 (by omega), h42]
      by_cases q : kdT G (gT σ i) = 0
      · rw [if_pos q] at this
        rw [if_pos (by rw [q]; rfl), nI_1, nI_1]
        exact this
      · rw [if_neg q] at this
        rw [if_neg (nI_ne0 (by omega) (by omega)), nI_1, show nI (nfl G (gT σ) i) + 0 = nI (nfl G (gT σ) i + 0) from nI_add _ 0]
        exact this
  rw [dX8_missing, eX8_missing_0]
  exact loop (gN σ - 0) 0 rfl (by omega)
theorem mr_missing0 (h24 : S 27 24 = N1) : mm_runD (d + 1) 149 [.inr 27] S = some (mm_put S 27 0 0, 0, 0, 0, N1) := by
  have h : (mm_put S 27 0 0) 27 24 = N1 := h24
  rw [dX8_missing, eX8_missing_0, eX8_missing_7, h, if_pos (by decide), if_pos rfl]
/-- a row has a leaf -/
def hlf (G : Nat → Int32) (σ : SG) (x : Int32) (i : Nat) : Prop := ∃ j, i ≤ j ∧ j < gN σ ∧ kdT G (gT σ j) = 1 ∧ nI (tR (gT σ j) 0) = x
theorem hlf_s {G : Nat → Int32} {σ : SG} {x : Int32} {i : Nat} (hi : i < gN σ) : hlf G σ x i ↔ (kdT G (gT σ i) = 1 ∧ nI (tR (gT σ i) 0) = x) ∨ hlf G σ x (i + 1) := by
  constructor
  · rintro ⟨j, h1, h2, h3⟩
    by_cases e : j = i
    · subst e; exact Or.inl h3
    · exact Or.inr ⟨j, by omega, h2, h3⟩
  · rintro (h | ⟨j, h1, h2, h3⟩)
    · exact ⟨i, Nat.le_refl _, hi, h⟩
    · exact ⟨j, by omega, h2, h3⟩
theorem mq_hasLeafOf (hc : cnd S G σ) (hN : gN σ ≤ 300) (x : Int32) : mm_runD (d + 3) 84 [.inr 19, .inl x] S = some (S, 0, 0, 0, mb (hlf G σ x 0)) := by
  have loop : ∀ (z i : Nat), gN σ - i = z → i ≤ gN σ → mm_E (mm_runD (d + 2)) pX6_hasLeafOf 2 2 [some (.inr 19), some (.inl x), some (.inl (nI i))] [] S 0 0 = some (S, 0, 0, 0, mb (hlf G σ x i)) := by
    intro z
    induction z with
    | zero =>
      intro i hz hi
      rw [eX6_hasLeafOf_2, hc.1, if_pos (nI_le (by omega) (by omega)), mb_f (fun ⟨j, h1, h2, _⟩ => by omega)]
    | succ z ih =>
      intro i hz hi
      have hlt : i < gN σ := by omega
      have hk := kdT_lt G (gT σ i)
      rw [eX6_hasLeafOf_2, hc.1, if_neg (nI_ge hlt (by omega)), mq_kindOf hc hN hlt, mm_bd_ret, mb_iff (hlf_s hlt)]
      by_cases q : kdT G (gT σ i) = 1
      · have g := mq_tget (d := d + 1) (f := 1) hc.1 hN hlt (by omega)
        rw [(hc.2.2.1 i hlt).2.1, if_neg (by omega), if_pos q] at g
        rw [if_pos (by rw [q]; rfl)]
        show mm_bd (mm_runD (d + 2) 87 [.inr 19, .inl (nI i), .inl (nI 1)] S) _ _ _ = _
        rw [g, mm_bd_ret]
        by_cases q2 : nI (tR (gT σ i) 0) = x
        · rw [if_pos q2, mb_t (Or.inl ⟨q, q2⟩)]
        · rw [if_neg q2, nI_1, mb_iff (show ((kdT G (gT σ i) = 1 ∧ nI (tR (gT σ i) 0) = x) ∨ hlf G σ x (i + 1)) ↔ hlf G σ x (i + 1) from ⟨fun z => z.elim (fun y => absurd y.2 q2) (fun y => y), Or.inr⟩)]
          exact ih (i + 1) (by omega) (by omega)
      · rw [if_neg (show ¬ nI (kdT G (gT σ i)) = 1 from fun z => q ((nI_eq (b := 1) (by omega) (by omega)).mp z)), nI_1, mb_iff (show ((kdT G (gT σ i) = 1 ∧ nI (tR (gT σ i) 0) = x) ∨ hlf G σ x (i + 1)) ↔ hlf G σ x (i + 1) from ⟨fun z => z.elim (fun y => absurd y.1 q) (fun y => y), Or.inr⟩)]
        exact ih (i + 1) (by omega) (by omega)
  rw [dX6_hasLeafOf, eX6_hasLeafOf_0]
  exact loop (gN σ - 0) 0 rfl (by omega)
theorem mq_isIdle_bad {R : Nat} {x : Int32} (h8 : S 8 2 = nI R) (h : S 19 3 = 0 ∨ (S 19 3 = 1 ∧ ¬ mi x R)) (hR : R ≤ 12) : mm_runD (d + 4) 99 [.inr 0, .inl x] S = some (S, 1, 6, 5, 0) := by
  rw [dX7_isIdle, eX7_isIdle_0]
  rcases h with h | ⟨h, hx⟩
  · rw [mq_stands0 h, mm_bd_ret, if_pos rfl]
  · rw [mq_stands1 h, mm_bd_ret, if_neg (by decide)]
    by_cases q : x < 0
    · rw [if_pos q]
    · have := (mi_out (by omega) hx).resolve_left q
      rw [if_neg q, mq_rcount h8, mm_bd_ret, if_neg (Int32.not_lt.mpr this)]
theorem mq_isIdle_ok (hc : cnd S G σ) (hN : gN σ ≤ 300) (h : S 19 3 = 1) {R r : Nat} (h8 : S 8 2 = nI R) (hR : R ≤ 12) (hr : r < R) : mm_runD (d + 4) 99 [.inr 0, .inl (nI r)] S = some (S, 0, 0, 0, mb (¬ hlf G σ (nI r) 0)) := by
  rw [dX7_isIdle, eX7_isIdle_0, mq_stands1 h, mm_bd_ret, if_neg (by decide), if_neg (nI_pos (by omega)), mq_rcount h8, mm_bd_ret, if_pos (nI_lt hr (by omega)), mq_hasLeafOf hc hN, mm_bd_ret]
  by_cases q : hlf G σ (nI r) 0
  · rw [mb_t q, if_neg (by decide), mb_f (fun z => z q)]
  · rw [mb_f q, if_pos rfl, mb_t q]
theorem mr_isIdle_bad {R : Nat} {x : Int32} (h7 : S 27 7 = nI R) (hR : R ≤ 12) (h : S 27 24 = N1 ∨ ¬ mi x R) : mm_runD (d + 1) 152 [.inr 27, .inl x] S = some (mm_put S 27 0 1, 0, 0, 0, 0) := by
  rw [dX8_isIdle, eX8_isIdle_0]
  by_cases q : x < 0
  · rw [if_pos q, mp_pp, if_neg (by decide)]
  · rw [if_neg q, h7]
    by_cases q2 : nI R ≤ x
    · rw [if_pos q2, mp_pp, if_neg (by decide)]
    · rcases h with h | h
      · rw [if_neg q2, h, if_pos rfl, mp_pp, if_neg (by decide)]
      · exact absurd ((mi_out (by omega) h).resolve_left q) q2
theorem mr_isIdle_ok (hr : rnd S G k σ) (hN : gN σ ≤ 300) {R r : Nat} (h7 : S 27 7 = nI R) (hR : R ≤ 12) (hrR : r < R) : mm_runD (d + 1) 152 [.inr 27, .inl (nI r)] S = some (mm_put S 27 0 0, 0, 0, 0, mb (¬ hlf G σ (nI r) 0)) := by
  have h24 : (mm_put S 27 0 0) 27 24 = nI (gN σ) := hr.1
  have lf : ∀ (z i : Nat), gN σ - i = z → i ≤ gN σ → mm_E (mm_runD d) pX8_isIdle 2 24 [some (.inr 27), some (.inl (nI r)), some (.inl 0), some (.inl (nI i))] [] (mm_put S 27 0 0) 0 0 = some (mm_put S 27 0 0, 0, 0, 0, 0) := by
    intro z
    induction z with
    | zero => intro i hz hi; rw [eX8_isIdle_24, h24, if_pos (nI_le (by omega) (by omega)), if_pos (Or.inl rfl)]
    | succ z ih =>
      intro i hz hi
      rw [eX8_isIdle_24, h24, if_neg (nI_ge (by omega) (by omega)), if_pos rfl, nI_1]
      exact ih (i + 1) (by omega) (by omega)
  have loop : ∀ (z i : Nat), gN σ - i = z → i ≤ gN σ → mm_E (mm_runD d) pX8_isIdle 2 24 [some (.inr 27), some (.inl (nI r)), some (.inl 1), some (.inl (nI i))] [] (mm_put S 27 0 0) 0 0 = some (mm_put S 27 0 0, 0, 0, 0, mb (¬ hlf G σ (nI r) i)) := by
    intro z
    induction z with
    | zero =>
      intro i hz hi
      rw [eX8_isIdle_24, h24, if_pos (nI_le (by omega) (by omega)), if_pos (Or.inr rfl), mb_t (fun ⟨j, h1, h2, _⟩ => by omega)]
    | succ z ih =>
      intro i hz hi
      have hlt : i < gN σ := by omega
      have hk := kdT_lt G (gT σ i)
      obtain ⟨n1, n2, n3, n4, n5, n6⟩ := hr.2 i hlt
      have h42 : (mm_put S 27 0 0) 42 i = nI (kdT G (gT σ i)) := n1
      have h46 : (mm_put S 27 0 0) 46 i = (if kdT G (gT σ i) = 1 then nI (tR (gT σ i) 0) else N1) := n5
      rw [eX8_isIdle_24, h24, if_neg (nI_ge hlt (by omega)), if_neg (by decide), ar_42 (by omega), h42, nI_1, mb_iff (not_congr (hlf_s hlt))]
      by_cases q : kdT G (gT σ i) = 1
      · rw [if_pos (by rw [q]; rfl), ar_46 (by omega), h46, if_pos q]
        by_cases q2 : nI (tR (gT σ i) 0) = nI r
        · rw [if_pos q2, mb_f (fun z => z (Or.inl ⟨q, q2⟩))]
          exact lf _ (i + 1) rfl (by omega)
        · rw [if_neg q2, mb_iff (not_congr (show ((kdT G (gT σ i) = 1 ∧ nI (tR (gT σ i) 0) = nI r) ∨ hlf G σ (nI r) (i + 1)) ↔ hlf G σ (nI r) (i + 1) from ⟨fun z => z.elim (fun y => absurd y.2 q2) (fun y => y), Or.inr⟩))]
          exact ih (i + 1) (by omega) (by omega)
      · rw [if_neg (show ¬ nI (kdT G (gT σ i)) = 1 from fun z => q ((nI_eq (b := 1) (by omega) (by omega)).mp z)), mb_iff (not_congr (show ((kdT G (gT σ i) = 1 ∧ nI (tR (gT σ i) 0) = nI r) ∨ hlf G σ (nI r) (i + 1)) ↔ hlf G σ (nI r) (i + 1) from ⟨fun z => z.elim (fun y => absurd y.1 q) (fun y => y), Or.inr⟩))]
        exact ih (i + 1) (by omega) (by omega)
  have L := loop (gN σ - 0) 0 rfl (by omega)
  rw [nI_0] at L
  rw [dX8_isIdle, eX8_isIdle_0, if_neg (nI_pos (by omega)), h7, if_neg (nI_ge hrR (by omega)), hr.1, if_neg (show ¬ nI (gN σ) = -1 from fun q => (nn_a1 (a := gN σ) (by omega)).mp q), mp_pp, if_pos (show (0 : Int32) ≤ 0 by decide)]
  exact L
/-- the reference's branch of a number -/
theorem mr_branchOf (hr : rnd S G k σ) (hN : gN σ ≤ 300) {p : Nat} (hp : p < gN σ) (hW : (∀ i, 0 < i → i < gN σ → gP σ i < i) ∧ (∀ q j, q < gN σ → j < gC σ q → 0 < gH σ q j ∧ gH σ q j < gN σ ∧ gP σ (gH σ q j) = q) ∧ (∀ i, 0 < i → i < gN σ → ∃ j, j < gC σ (gP σ i) ∧ gH σ (gP σ i) j = i) ∧ (∀ q j j', q < gN σ → j < j' → j' < gC σ q → gH σ q j < gH σ q j')) {m : Nat} (hm : m < 100) (hc : gC σ p ≤ 300) : mm_runD (d + 1) 147 [.inr 27, .inl (nI p), .inl (nI m)] S = some (S, 0, 0, 0, if m < gC σ p then nI (gH σ p m) else N1) := by
  obtain ⟨w1, w2, w3, w4⟩ := hW
  -- c: how many branches have been passed, i: the node in hand
  have loop : ∀ (z i c : Nat), gN σ - i = z → p < i → i ≤ gN σ → c ≤ m → c ≤ gC σ p → (∀ j, j < c → gH σ p j < i) → (∀ j, c ≤ j → j < gC σ p → i ≤ gH σ p j) → mm_E (mm_runD d) pX8_branchOf 1 6 [some (.inr 27), some (.inl (nI p)), some (.inl (nI m)), some (.inl (nI c)), some (.inl (nI i))] [] S 0 0 = some (S, 0, 0, 0, if m < gC σ p then nI (gH σ p m) else N1) := by
    intro z
    induction z with
    | zero =>
      intro i c hz hpi hi hcm hcC h1 h2
      rw [eX8_branchOf_6, hr.1, if_pos (nI_le (by omega) (by omega)), if_neg (fun q => by have := h2 m hcm q; have := (w2 p m hp q).2.1; omega)]
    | succ z ih =>
      intro i c hz hpi hi hcm hcC h1 h2
      have hlt : i < gN σ := by omega
      have h47 := (hr.2 i hlt).2.1
      rw [if_neg (by omega)] at h47
      have hpl := w1 i (by omega) hlt
      rw [eX8_branchOf_6, hr.1, if_neg (nI_ge hlt (by omega)), ar_47 (by omega), h47]
      by_cases q : gP σ i = p
      · obtain ⟨j, j1, j2⟩ := w3 i (by omega) hlt
        rw [q] at j1 j2
        have ej : j = c := by
          rcases Nat.lt_trichotomy j c with y | y | y
          · have := h1 j y; omega
          · exact y
          · have := h2 c (Nat.le_refl _) (by omega)
            have := w4 p c j hp y j1
            omega
        subst ej
        rw [if_pos (by rw [q])]
        by_cases q2 : j = m
        · subst q2
          rw [if_pos rfl, if_pos j1, j2]
        · rw [if_neg (fun y => q2 ((nI_eq (by omega) (by omega)).mp y)), nI_1, nI_1]
          exact ih (i + 1) (j + 1) (by omega) (by omega) (by omega) (by omega) (by omega) (fun u hu => by
            by_cases e : u = j
            · subst e; omega
            · have := h1 u (by omega); omega) (fun u a b => by have := w4 p j u hp (by omega) b; omega)
      · rw [if_neg (fun y => q ((nI_eq (by omega) (by omega)).mp y)), nI_1]
        exact ih (i + 1) c (by omega) (by omega) (by omega) hcm hcC (fun u hu => by have := h1 u hu; omega) (fun u a b => by
          have := h2 u a b
          rcases Nat.lt_or_ge i (gH σ p u) with y | y
          · omega
          · have e : gH σ p u = i := by omega
            have := (w2 p u hp b).2.2
            rw [e] at this
            exact absurd this q)
  have L := loop (gN σ - (p + 1)) (p + 1) 0 rfl (by omega) (by omega) (by omega) (by omega) (fun j hj => by omega) (fun j _ b => by
    obtain ⟨x1, x2, x3⟩ := w2 p j hp b
    have := w1 _ x1 x2
    omega)
  rw [nI_0] at L
  rw [dX8_branchOf, eX8_branchOf_0, nI_1]
  exact L
end
