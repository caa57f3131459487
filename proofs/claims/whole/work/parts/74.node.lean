/-! PURE: promises 9 (node) and 17 (about) -/
/-- what a node tells -/
noncomputable def ndA (G : Nat → Int32) (σ : SG) (i a : Nat) : Int32 := if a = 100 then (if i = 0 then N1 else nI (gP σ i)) else if a = 101 then (if i = 0 then N1 else nI (gM σ i)) else if a = 0 then nI (kdT G (gT σ i)) else if a = 1 then (if kdT G (gT σ i) = 0 then N1 else if kdT G (gT σ i) = 1 then nI (tR (gT σ i) 0) else nI (tyT G (gT σ i))) else if kdT G (gT σ i) = 2 then (if a = 2 then nI (tP (gT σ i)) else if a = 3 then nI (tsT G (gT σ i)) else if a = 4 then nI (gC σ i) else if a - 5 < gC σ i then nI (gH σ i (a - 5)) else N1) else N1
theorem ndA_100 (G : Nat → Int32) (σ : SG) (i : Nat) : ndA G σ i 100 = (if i = 0 then N1 else nI (gP σ i)) := rfl
theorem ndA_101 (G : Nat → Int32) (σ : SG) (i : Nat) : ndA G σ i 101 = (if i = 0 then N1 else nI (gM σ i)) := rfl
theorem ndA_0 (G : Nat → Int32) (σ : SG) (i : Nat) : ndA G σ i 0 = nI (kdT G (gT σ i)) := rfl
theorem ndA_1 (G : Nat → Int32) (σ : SG) (i : Nat) : ndA G σ i 1 = (if kdT G (gT σ i) = 0 then N1 else if kdT G (gT σ i) = 1 then nI (tR (gT σ i) 0) else nI (tyT G (gT σ i))) := rfl
theorem ndA_2 (G : Nat → Int32) (σ : SG) (i : Nat) : ndA G σ i 2 = (if kdT G (gT σ i) = 2 then nI (tP (gT σ i)) else N1) := rfl
theorem ndA_3 (G : Nat → Int32) (σ : SG) (i : Nat) : ndA G σ i 3 = (if kdT G (gT σ i) = 2 then nI (tsT G (gT σ i)) else N1) := rfl
theorem ndA_4 (G : Nat → Int32) (σ : SG) (i : Nat) : ndA G σ i 4 = (if kdT G (gT σ i) = 2 then nI (gC σ i) else N1) := rfl
theorem ndA_5 (G : Nat → Int32) (σ : SG) (i : Nat) {a : Nat} (h : 5 ≤ a) (h1 : a ≠ 100) (h2 : a ≠ 101) : ndA G σ i a = (if kdT G (gT σ i) = 2 then (if a - 5 < gC σ i then nI (gH σ i (a - 5)) else N1) else N1) := by
  unfold ndA
  rw [if_neg h1, if_neg h2, if_neg (by omega), if_neg (by omega)]
  by_cases q : kdT G (gT σ i) = 2
  · rw [if_pos q, if_pos q, if_neg (by omega), if_neg (by omega), if_neg (by omega)]
  · rw [if_neg q, if_neg q]
section
variable {d : Nat} {S : Mem} {k : KK} {G : Nat → Int32} {g : Nat → Nat} {C R : Nat} {sz : Nat → Nat} {col : Nat → Nat} {σ : SG}
theorem gin_8 (hg : gin G g k C R sz col σ []) (h8 : ∀ t, kCnt k t (kM k) ≤ 8) {i : Nat} (hi : i < gN σ) : gC σ i ≤ 8 := by
  obtain ⟨g1, g2, g3, g4, g5, g6, g7, g8⟩ := hg
  by_cases q : kdT G (gT σ i) = 2
  · have := (g5 i hi q (fun e he => by cases he)).2
    have l8 := lvl_cnt (k := k) (t := tyT G (gT σ i)) (kM k) 0
    rw [Nat.zero_add] at l8
    have := h8 (tyT G (gT σ i))
    omega
  · rw [g6 i hi q]; omega
theorem mq_tell (hg : gin G g k C R sz col σ []) (h8 : ∀ t, kCnt k t (kM k) ≤ 8) (hc : cnd S G σ) {i : Nat} (hi : i < gN σ) (x : Int32) : mm_runD (d + 3) 80 [.inr 19, .inl (nI i), .inl x] S = some (S, 0, 0, 0, @ite Int32 (x < 0) (Classical.propDecidable _) N1 (ndA G σ i x.toNatClampNeg)) := by
  have hN := hg.1.2.1
  have gC8 := gin_8 hg h8 hi
  obtain ⟨k1, k2, k3, k4, k5, k6, k7⟩ := hc.2.2.1 i hi
  have hkd := kdT_lt G (gT σ i)
  have gt : ∀ f, f < 9 → mm_runD (d + 2) 87 [.inr 19, .inl (nI i), .inl (nI f)] S = some (S, 0, 0, 0, S 20 (9 * i + f)) := fun f hf => mq_tget (d := d + 1) (f := f) hc.1 hN hi hf
  rw [dX6_tell, eX6_tell_0]
  by_cases q : x < 0
  · have q1 : ¬ x = 100 := fun e => by rw [e] at q; exact absurd q (by decide)
    have q2 : ¬ x = 101 := fun e => by rw [e] at q; exact absurd q (by decide)
    have q3 : ¬ (4 : Int32) < x := fun e => by
      have := Int32.lt_trans e q
      exact absurd this (by decide)
    rw [if_neg q1, if_neg q2, if_neg q3, if_pos q, dX6_get, eX6_get_0, if_neg (nI_pos (by omega)), hc.1, if_neg (nI_ge hi (by omega)), if_pos q, mm_bd_ret]
  · obtain ⟨a, ha, rfl⟩ := nI_of q
    rw [if_neg q, nI_clamp ha]
    by_cases a100 : a = 100
    · subst a100
      rw [if_pos (show nI 100 = 100 from rfl), ndA_100]
      show mm_bd (mm_runD (d + 2) 87 [.inr 19, .inl (nI i), .inl (nI 7)] S) _ _ _ = _
      rw [gt 7 (by omega), mm_bd_ret, k6]
    · rw [if_neg (show ¬ nI a = 100 from fun z => a100 ((nI_eq (b := 100) ha (by omega)).mp z))]
      by_cases a101 : a = 101
      · subst a101
        rw [if_pos (show nI 101 = 101 from rfl), ndA_101]
        show mm_bd (mm_runD (d + 2) 87 [.inr 19, .inl (nI i), .inl (nI 8)] S) _ _ _ = _
        rw [gt 8 (by omega), mm_bd_ret, k7]
      · rw [if_neg (show ¬ nI a = 101 from fun z => a101 ((nI_eq (b := 101) ha (by omega)).mp z))]
        by_cases a4 : a ≤ 4
        · rw [if_neg (show ¬ (4 : Int32) < nI a from nI_nlt (a := 4) a4 (by decide)), gt a (by omega), mm_bd_ret]
          rcases (show a = 0 ∨ a = 1 ∨ a = 2 ∨ a = 3 ∨ a = 4 by omega) with rfl | rfl | rfl | rfl | rfl
          · rw [ndA_0, show 9 * i + 0 = 9 * i from rfl, k1]
          · rw [ndA_1, k2]
          · rw [ndA_2, k3]
          · rw [ndA_3, k4]
          · rw [ndA_4, k5]
        · have e5 : nI a - 5 = nI (a - 5) := nn_sub (b := 5) (by omega)
          rw [if_pos (show (4 : Int32) < nI a from nI_lt (a := 4) (by omega) ha), e5, ndA_5 G σ i (by omega) a100 a101]
          have g4' := mq_tget (d := d) (f := 4) hc.1 hN hi (by omega)
          rw [k5] at g4'
          by_cases q2 : kdT G (gT σ i) = 2
          · rw [if_pos q2] at k5 g4'
            rw [if_pos q2]
            by_cases q3 : a - 5 < gC σ i
            · have b := mq_branchAt (d := d) (H := gH σ i) hc.1 hN hi k5 (by omega) (fun z => hc.2.2.2.1 i hi z) (fun j hj => (hg.1.2.2.2.2.2.1 i j hi hj).2.1) (fun j hj => by rw [hc.2.2.2.2.2 i j hi (by omega), if_pos hj]) q3
              rw [if_pos q3, b, mm_bd_ret]
            · rw [if_neg q3, dX6_branchAt, eX6_branchAt_0]
              show mm_bd (mm_bd (mm_runD (d + 1) 87 [.inr 19, .inl (nI i), .inl (nI 4)] S) _ _ _) _ _ _ = _
              rw [g4', mm_bd_ret, if_neg (nI_nlt (by omega) (by omega)), mm_bd_ret]
          · rw [if_neg q2] at k5 g4'
            rw [if_neg q2, dX6_branchAt, eX6_branchAt_0]
            show mm_bd (mm_bd (mm_runD (d + 1) 87 [.inr 19, .inl (nI i), .inl (nI 4)] S) _ _ _) _ _ _ = _
            rw [g4', mm_bd_ret, if_neg (show ¬ nI (a - 5) < N1 from fun z => Int32.lt_irrefl (Int32.lt_trans z ((nn_a7 (a := a - 5) (by omega)).mpr trivial))), mm_bd_ret]
theorem mq_node_bad {x1 x2 : Int32} {N : Nat} (h : S 19 3 = 0 ∨ (S 19 3 = 1 ∧ S 19 1 = nI N ∧ N ≤ 300 ∧ ¬ mi x1 N)) : mm_runD (d + 4) 96 [.inr 0, .inl x1, .inl x2] S = some (S, 1, 6, 5, 0) := by
  rw [dX7_node, eX7_node_0]
  rcases h with h | ⟨h, h1, hN, hx⟩
  · rw [mq_stands0 h, mm_bd_ret, if_pos rfl]
  · rw [mq_stands1 h, mm_bd_ret, if_neg (by decide)]
    by_cases q : x1 < 0
    · rw [if_pos q]
    · have := (mi_out (by omega) hx).resolve_left q
      rw [if_neg q, dX6_count, eX6_count_0, mm_bd_ret, h1, if_neg (Int32.not_lt.mpr this)]
theorem mq_node_ok (hg : gin G g k C R sz col σ []) (h8 : ∀ t, kCnt k t (kM k) ≤ 8) (hc : cnd S G σ) (h : S 19 3 = 1) {i : Nat} (hi : i < gN σ) (x : Int32) : mm_runD (d + 4) 96 [.inr 0, .inl (nI i), .inl x] S = some (S, 0, 0, 0, @ite Int32 (x < 0) (Classical.propDecidable _) N1 (ndA G σ i x.toNatClampNeg)) := by
  have hN := hg.1.2.1
  rw [dX7_node, eX7_node_0, mq_stands1 h, mm_bd_ret, if_neg (by decide), if_neg (nI_pos (by omega)), dX6_count, eX6_count_0, mm_bd_ret, hc.1, if_pos (nI_lt hi (by omega)), mq_tell hg h8 hc hi, mm_bd_ret]
theorem mr_isNode_bad {x : Int32} (h : S 27 24 = N1 ∨ ∃ N, N ≤ 300 ∧ S 27 24 = nI N ∧ ¬ mi x N) : mm_runD (d + 1) 146 [.inr 27, .inl x] S = some (mm_put S 27 0 1, 0, 0, 0, 0) := by
  rw [dX8_isNode, eX8_isNode_0]
  by_cases q : x < 0
  · rw [if_pos q, mp_pp, if_neg (by decide)]
  · rw [if_neg q]
    have : S 27 24 ≤ x := by
      rcases h with h | ⟨N, hN, h, hx⟩
      · obtain ⟨a, ha, rfl⟩ := nI_of q
        rw [h]
        exact Int32.le_of_lt ((nn_a7 ha).mpr trivial)
      · rw [h]; exact (mi_out (by omega) hx).resolve_left q
    rw [if_pos this, mp_pp, if_neg (by decide)]
theorem mr_isNode_ok {N i : Nat} (hN : N ≤ 300) (h : S 27 24 = nI N) (hi : i < N) : mm_runD (d + 1) 146 [.inr 27, .inl (nI i)] S = some (mm_put S 27 0 0, 0, 0, 0, 1) := by
  rw [dX8_isNode, eX8_isNode_0, if_neg (nI_pos (by omega)), h, if_neg (nI_ge hi (by omega)), mp_pp, if_pos rfl]
theorem mr_node_bad {x1 x2 : Int32} (h : S 27 24 = N1 ∨ ∃ N, N ≤ 300 ∧ S 27 24 = nI N ∧ ¬ mi x1 N) : mm_runD (d + 2) 148 [.inr 27, .inl x1, .inl x2] S = some (mm_put S 27 0 1, 0, 0, 0, 0) := by
  rw [dX8_node, eX8_node_0, mr_isNode_bad h, mm_bd_ret, if_pos rfl]
theorem mr_node_ok (hg : gin G g k C R sz col σ []) (h8 : ∀ t, kCnt k t (kM k) ≤ 8) (hr : rnd S G k σ) {i : Nat} (hi : i < gN σ) (x : Int32) : mm_runD (d + 2) 148 [.inr 27, .inl (nI i), .inl x] S = some (mm_put S 27 0 0, 0, 0, 0, @ite Int32 (x < 0) (Classical.propDecidable _) N1 (ndA G σ i x.toNatClampNeg)) := by
  have hN := hg.1.2.1
  have hi1 : i < 301 := by omega
  have gC8 := gin_8 hg h8 hi
  obtain ⟨n1, n2, n3, n4, n5, n6⟩ := hr.2 i hi
  have hkd := kdT_lt G (gT σ i)
  obtain ⟨g1, g2, g3, g4, g5, g6, g7, g8⟩ := hg
  obtain ⟨S1, eS⟩ : ∃ S1, S1 = mm_put S 27 0 0 := ⟨_, rfl⟩
  have hr1 : rnd S1 G k σ := by subst eS; exact hr
  have m42 : S1 42 i = nI (kdT G (gT σ i)) := by subst eS; exact n1
  obtain ⟨b, eb⟩ : ∃ b : Int32, b = if kdT G (gT σ i) = 2 then 1 else 0 := ⟨_, rfl⟩
  have start : mm_runD (d + 2) 148 [.inr 27, .inl (nI i), .inl x] S = mm_E (mm_runD (d + 1)) pX8_node 1 16 [some (.inr 27), some (.inl (nI i)), some (.inl x), some (.inl b)] [] S1 0 0 := by
    rw [dX8_node, eX8_node_0, mr_isNode_ok hN hr.1 hi, mm_bd_ret, if_neg (by decide), ar_42 hi1, ← eS, m42, eb]
    by_cases q : kdT G (gT σ i) = 2
    · rw [if_pos (by rw [q]; rfl), if_pos q]
    · rw [if_neg (show ¬ nI (kdT G (gT σ i)) = 2 from fun z => q ((nI_eq (b := 2) (by omega) (by omega)).mp z)), if_neg q]
  rw [start, ← eS, eX8_node_16]
  have b0 : kdT G (gT σ i) ≠ 2 → b = 0 := fun q => by rw [eb, if_neg q]
  have b1 : kdT G (gT σ i) = 2 → ¬ b = 0 := fun q => by rw [eb, if_pos q]; decide
  have e46 : S1 46 i = (if kdT G (gT σ i) = 1 then nI (tR (gT σ i) 0) else N1) := by subst eS; exact n5
  have e45 : S1 45 i = nI (tP (gT σ i)) := by subst eS; exact n4
  have e47 : S1 47 i = (if i = 0 then N1 else nI (gP σ i)) := by subst eS; exact n2
  have e48 : S1 48 i = (if i = 0 then N1 else nI (gM σ i)) := by subst eS; exact n3
  have e2 : kdT G (gT σ i) = 2 → S1 43 i = nI (tsT G (gT σ i)) ∧ S1 44 i = nI (tyT G (gT σ i)) ∧ S1 49 i = nI (gC σ i) := fun q => by
    obtain ⟨y1, y2, y3⟩ := n6 q
    rw [← (g5 i hi q (fun e he => by cases he)).2] at y3
    subst eS
    exact ⟨y1, y2, y3⟩
  by_cases q : x < 0
  · have hx : x.toInt < 0 := by rw [Int32.lt_iff_toInt_lt] at q; exact q
    have lk : mm_lk [(0, 65), (1, 72), (2, 92), (3, 107), (4, 122), (100, 137), (101, 144)] [18, 23, 35, 44, 53, 62, 67] 72 x.toInt = 72 := by
      unfold mm_lk
      rw [if_neg (by omega)]; unfold mm_lk
      rw [if_neg (by omega)]; unfold mm_lk
      rw [if_neg (by omega)]; unfold mm_lk
      rw [if_neg (by omega)]; unfold mm_lk
      rw [if_neg (by omega)]; unfold mm_lk
      rw [if_neg (by omega)]; unfold mm_lk
      rw [if_neg (by omega)]; rfl
    rw [lk, if_pos q, eX8_node_72, if_pos (Int32.lt_trans q (by decide))]
  · obtain ⟨a, ha, rfl⟩ := nI_of q
    rw [if_neg q, nI_clamp ha, nI_toInt ha]
    by_cases c0 : a = 0
    · subst c0
      show mm_E (mm_runD (d + 1)) pX8_node 1 18 _ [] S1 0 0 = _
      rw [eX8_node_18, ar_42 hi1, m42, ndA_0]
    · by_cases c1 : a = 1
      · subst c1
        show mm_E (mm_runD (d + 1)) pX8_node 1 23 _ [] S1 0 0 = _
        rw [eX8_node_23, ndA_1]
        by_cases q2 : kdT G (gT σ i) = 2
        · rw [if_neg (b1 q2), ar_44 hi1, (e2 q2).2.1, if_neg (by omega), if_neg (by omega)]
        · rw [if_pos (b0 q2), ar_46 hi1, e46]
          by_cases q3 : kdT G (gT σ i) = 1
          · rw [if_pos q3, if_neg (by omega), if_pos q3]
          · rw [if_neg q3, if_pos (by omega)]
      · by_cases c2 : a = 2
        · subst c2
          show mm_E (mm_runD (d + 1)) pX8_node 1 35 _ [] S1 0 0 = _
          rw [eX8_node_35, ndA_2]
          by_cases q2 : kdT G (gT σ i) = 2
          · rw [if_neg (b1 q2), ar_45 hi1, e45, if_pos q2]
          · rw [if_pos (b0 q2), if_neg q2]
        · by_cases c3 : a = 3
          · subst c3
            show mm_E (mm_runD (d + 1)) pX8_node 1 44 _ [] S1 0 0 = _
            rw [eX8_node_44, ndA_3]
            by_cases q2 : kdT G (gT σ i) = 2
            · rw [if_neg (b1 q2), ar_43 hi1, (e2 q2).1, if_pos q2]
            · rw [if_pos (b0 q2), if_neg q2]
          · by_cases c4 : a = 4
            · subst c4
              show mm_E (mm_runD (d + 1)) pX8_node 1 53 _ [] S1 0 0 = _
              rw [eX8_node_53, ndA_4]
              by_cases q2 : kdT G (gT σ i) = 2
              · rw [if_neg (b1 q2), ar_49 hi1, (e2 q2).2.2, if_pos q2]
              · rw [if_pos (b0 q2), if_neg q2]
            · by_cases c100 : a = 100
              · subst c100
                show mm_E (mm_runD (d + 1)) pX8_node 1 62 _ [] S1 0 0 = _
                rw [eX8_node_62, ar_47 hi1, e47, ndA_100]
              · by_cases c101 : a = 101
                · subst c101
                  show mm_E (mm_runD (d + 1)) pX8_node 1 67 _ [] S1 0 0 = _
                  rw [eX8_node_67, ar_48 hi1, e48, ndA_101]
                · have lk : mm_lk [(0, 65), (1, 72), (2, 92), (3, 107), (4, 122), (100, 137), (101, 144)] [18, 23, 35, 44, 53, 62, 67] 72 (a : Int) = 72 := by
                    unfold mm_lk
                    rw [if_neg (by omega)]; unfold mm_lk
                    rw [if_neg (by omega)]; unfold mm_lk
                    rw [if_neg (by omega)]; unfold mm_lk
                    rw [if_neg (by omega)]; unfold mm_lk
                    rw [if_neg (by omega)]; unfold mm_lk
                    rw [if_neg (by omega)]; unfold mm_lk
                    rw [if_neg (by omega)]; rfl
                  rw [lk, eX8_node_72, ndA_5 G σ i (by omega) c100 c101, if_neg (show ¬ nI a < 5 from nI_nlt (b := 5) (by omega) ha)]
                  by_cases q2 : kdT G (gT σ i) = 2
                  · rw [if_pos q2]
                    by_cases c12 : a ≤ 12
                    · have br := mr_branchOf (d := d) (m := a - 5) hr1 hN hi ⟨fun i x y => (g1.2.2.2.2.1 i x y).1, g1.2.2.2.2.2.1, g1.2.2.2.2.2.2.1, fun q j j' x y z => (g1.2.2.2.2.2.2.2 q j j' x y z).1⟩ (by omega) (by omega)
                      rw [if_neg (show ¬ (12 : Int32) < nI a from nI_nlt (a := 12) c12 (by decide)), if_neg (b1 q2), show nI a - 5 = nI (a - 5) from nn_sub (b := 5) (by omega), br, mm_bd_ret]
                    · rw [if_pos (show (12 : Int32) < nI a from nI_lt (a := 12) (by omega) ha), if_neg (by omega)]
                  · rw [if_neg q2, if_pos (b0 q2), ite_self]
end
