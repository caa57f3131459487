/-! PURE: the class's tree grows -/
def nfl (G : Nat → Int32) (τ : Nat → TB) : Nat → Nat
  | 0 => 0
  | n + 1 => nfl G τ n + (if kdT G (τ n) = 0 then 1 else 0)
theorem nfl_ext {G : Nat → Int32} {τ τ' : Nat → TB} : ∀ n, (∀ i, i < n → τ' i = τ i) → nfl G τ' n = nfl G τ n := by
  intro n
  induction n with
  | zero => intro _; rfl
  | succ n ih => intro h; unfold nfl; rw [ih (fun i hi => h i (by omega)), h n (by omega)]
theorem nfl_le {G : Nat → Int32} {τ : Nat → TB} : ∀ n, nfl G τ n ≤ n := by
  intro n
  induction n with
  | zero => exact Nat.le_refl _
  | succ n ih => unfold nfl; split <;> omega
/-- the nodes as the class notes them -/
def cnd (S : Mem) (G : Nat → Int32) (σ : SG) : Prop := S 19 1 = nI (gN σ) ∧ S 19 2 = nI (nfl G (gT σ) (gN σ)) ∧ (∀ i, i < gN σ → cn1 (S 20) G (gT σ i) i (gC σ i) (if i = 0 then N1 else nI (gP σ i)) (if i = 0 then N1 else nI (gM σ i))) ∧
  (∀ i, i < gN σ → 0 < gC σ i → S 20 (9 * i + 5) = nI (gH σ i 0)) ∧ (∀ i, i < gN σ → gC σ i = 0 → S 20 (9 * i + 5) = N1) ∧ (∀ i j, i < gN σ → j < gC σ i → S 20 (9 * gH σ i j + 6) = if j + 1 < gC σ i then nI (gH σ i (j + 1)) else N1)
def cgs (S : Mem) (k : KK) (C R : Nat) (sz : Nat → Nat) (σ : SG) (O : List (Nat × List Nat)) (n : Nat) : Prop := mq_K S k ∧ kV (S 3) k ∧ rws S k C R sz ∧ rm S n ∧ cnd S (S 32) σ ∧ pl (S 32) k σ (S 22) O ∧ S 21 3 = blw σ O ∧ (∀ a O', O = a :: O' → S 21 4 = nI (tP (gT σ a.1)) ∧ S 21 5 = nI (tL (gT σ a.1))) ∧ pend σ O ≤ n
def ccs : List Nat := [19, 20, 21, 22, 55]
section
variable {d : Nat} {k : KK} {C R : Nat} {sz : Nat → Nat} {col : Nat → Nat}
/-- the pile and the notes behind a new node -/
theorem cgs_new {S S' : Mem} {σ σ' : SG} {N : Nat} {T : TB} {O : List (Nat × List Nat)} {n : Nat} (hK : mq_K S k) (hV : kV (S 3) k) (h : cst S k C R sz (pend σ O) T n) (hb : S 22 (pend σ O) = blw σ O) (hp : pl (S 32) k σ (S 22) O) (hw : ∀ e, e ∈ O → wfT R sz (gT σ e.1)) (hF : mfr [19, 20, 21, 22] S S') (hc : cnd S' (S 32) σ') (hpe : pend σ' O = pend σ O) (hbl : blw σ' O = blw σ O) (hpl : ∀ f, pl (S 32) k σ f O → pl (S 32) k σ' f O) (hgt : ∀ e, e ∈ O → gT σ' e.1 = gT σ e.1) (hT : gT σ' N = T)
    (h0 : kdT (S 32) T ≠ 2 → S' 22 = S 22 ∧ S' 21 3 = blw σ O ∧ ∀ a O', O = a :: O' → S' 21 4 = nI (tP (gT σ a.1)) ∧ S' 21 5 = nI (tL (gT σ a.1)))
    (h2 : kdT (S 32) T = 2 → S' 21 = S 21 ∧ S' 22 (pend σ O + 1) = nI (tP T) ∧ S' 22 (pend σ O + 2) = nI (tL T) ∧ S' 22 (pend σ O + 3) = nI N ∧ S' 22 (pend σ O + 4) = nI (tyT (S 32) T) ∧ S' 22 (pend σ O + 5) = N1 ∧ ∀ j, j ≤ pend σ O ∨ pend σ O + 6 ≤ j → S' 22 j = S 22 j) : cgs S' k C R sz σ' (opn (S 32) k N T ++ O) n := by
  obtain ⟨hr, ⟨h3, h4, h5, hM⟩, hwT, hn, he, ht⟩ := h
  have hE := tEn_le (t := pend σ O) hwT
  have hr' : rws S' k C R sz := by
    unfold rws
    rw [hF 27 (by decide), hF 8 (by decide), hF 33 (by decide), hF 32 (by decide), hF 9 (by decide), hF 10 (by decide)]
    exact hr
  have hK' : mq_K S' k := mq_K_fr hK hF rfl
  have hV' : kV (S' 3) k := by rw [hF 3 (by decide)]; exact hV
  have hn' : rm S' n := rm_fr hn (hF 55 (by decide))
  have e32 : S' 32 = S 32 := hF 32 (by decide)
  refine ⟨hK', hV', hr', hn', by rw [e32]; exact hc, ?_⟩
  unfold opn
  by_cases q : kdT (S 32) T = 2
  · obtain ⟨a1, a2, a3, a4, a5, a6, a7⟩ := h2 q
    rw [if_pos q, e32]
    refine ⟨⟨?_, ?_, ?_, ?_, ?_, ?_, ⟨0, ?_, Nat.zero_le _, ?_⟩, ?_⟩, ?_, ?_, ?_⟩
    · show tbM (S 32) (S' 22) (pend σ' O) (gT σ' N)
      rw [hpe, hT]
      exact tbM_ext hM (fun j hj _ => a7 j (Or.inr hj))
    · show S' 22 (pend σ' O) = blw σ' O
      rw [hpe, hbl, a7 _ (Or.inl (Nat.le_refl _))]; exact hb
    · show S' 22 (pend σ' O + 1) = nI (tP (gT σ' N))
      rw [hpe, hT]; exact a2
    · show S' 22 (pend σ' O + 2) = nI (tL (gT σ' N))
      rw [hpe, hT]; exact a3
    · show S' 22 (pend σ' O + 3) = nI N
      rw [hpe]; exact a4
    · show S' 22 (pend σ' O + 4) = nI (tyT (S 32) (gT σ' N))
      rw [hpe, hT]; exact a5
    · show S' 22 (pend σ' O + 5) + 1 = nI 0
      rw [hpe, a6]; rfl
    · show lvl k (tyT (S 32) T) (kM k) 0 = lvl k (tyT (S 32) (gT σ' N)) (kM k - 0) 0
      rw [hT]; rfl
    · exact hpl _ (pl_ext hw (fun j hj => a7 j (Or.inl (by omega))) hp)
    · show S' 21 3 = nI (pend σ' O)
      rw [a1, hpe]; exact h3
    · intro a O' e
      have e1 : (N, lvl k (tyT (S 32) T) (kM k) 0) :: O = a :: O' := e
      cases e1
      show S' 21 4 = nI (tP (gT σ' N)) ∧ S' 21 5 = nI (tL (gT σ' N))
      rw [a1, hT]; exact ⟨h4, h5⟩
    · show tEn (pend σ' O) (gT σ' N) ≤ n
      rw [hpe, hT]; exact he
  · obtain ⟨a1, a2, a3⟩ := h0 q
    rw [if_neg q, e32, List.nil_append]
    refine ⟨hpl _ (by rw [a1]; exact hp), by rw [hbl]; exact a2, fun a O' e => ?_, by rw [hpe]; omega⟩
    have ha : a ∈ O := by rw [e]; exact List.mem_cons_self
    rw [hgt a ha]
    exact a3 a O' e
/-- one more node, or too great -/
theorem mq_addNode {S : Mem} {σ : SG} {p m : Nat} {T0 : TB} {O : List (Nat × List Nat)} {n : Nat} (hK : mq_K S k) (hV : kV (S 3) k) (hg : sgW (S 32) (gk S k) k C R sz col σ) (hc : cnd S (S 32) σ) (h : cst S k C R sz (pend σ O) T0 n) (hb : S 22 (pend σ O) = blw σ O) (hp : pl (S 32) k σ (S 22) O) (hO : ∀ e, e ∈ O → e.1 < gN σ) (hpN : p < gN σ) (hk : kdT (S 32) (gT σ p) = 2) (hm : m < 40) (hc3 : gC σ p < 300) :
    ∃ S' c s v, mm_runD (d + 6) 113 [.inr 0, .inl (nI p), .inl (nI m)] S = some (S', c, s, 0, v) ∧ mpot S S' c s ∧ mfr ccs S S' ∧ ((gN σ = 300 ∨ spT (S 32) (gk S k) T0 = none) → v = 0) ∧ (∀ T, spT (S 32) (gk S k) T0 = some T → gN σ ≠ 300 → v = 1 ∧ ∃ n', cgs S' k C R sz (addS σ p m T) (opn (S 32) k (gN σ) T ++ O) n') := by
  obtain ⟨g1, g2, g3, g4, g5, g6, g7, g8⟩ := hg
  obtain ⟨c1, c2, c3, c4, c5, c6⟩ := hc
  have hwO : ∀ e, e ∈ O → wfT R sz (gT σ e.1) := fun e he => g4 _ (hO e he)
  by_cases q3 : gN σ = 300
  · refine ⟨S, 0, 0, 0, ?_, mpot_rf S, mfr_rf, fun _ => rfl, fun T _ z => absurd q3 z⟩
    rw [dX7_addNode, eX7_addNode_0, dX6_count, eX6_count_0, mm_bd_ret, c1, if_pos (by rw [q3]; decide)]
  · obtain ⟨S1, u1, v1, s1, s2, s3, s4⟩ := mq_split (d := d) h
    have n3 : ¬ (300 : Int32) ≤ nI (gN σ) := nI_ge (b := 300) (by omega) (by decide)
    cases hs : spT (S 32) (gk S k) T0 with
    | none =>
      rw [hs, mb_f (fun z => z rfl)] at s3
      refine ⟨S1, u1, v1, 0, ?_, s1, mfr_up s2.1 (by decide), fun _ => rfl, fun T e => by cases e⟩
      rw [dX7_addNode, eX7_addNode_0, dX6_count, eX6_count_0, mm_bd_ret, c1, if_neg n3, s3, mm_bd_ret, if_pos rfl]
      simp only [Nat.zero_add, Nat.add_zero]
    | some T =>
      rw [hs, mb_t (Option.some_ne_none T)] at s3
      obtain ⟨n', hc1⟩ := s4 T hs
      have e32 : S1 32 = S 32 := s2.1 32 (by decide)
      have e20 : S1 20 = S 20 := s2.1 20 (by decide)
      have e19 : S1 19 = S 19 := s2.1 19 (by decide)
      have hwT : wfT R sz T := hc1.2.2.1
      have cp := c3 p hpN
      have x4 : S1 20 (9 * p + 4) = nI (gC σ p) := by rw [e20, cp.2.2.2.2.1, if_pos hk]
      obtain ⟨f, t1, t2, t3, t4, t5⟩ := mq_tadd (d := d + 1) (S := S1) (H := gH σ p) (c := gC σ p) (m := m) (N := gN σ) (by omega) (by rw [e19]; exact c1) hpN hm x4 hc3 (fun z => by rw [e20]; exact c4 p hpN z) (fun j hj => (g6 p j hpN hj).2.1) (fun j hj => by rw [e20, c6 p j hpN (by omega), if_pos hj])
      obtain ⟨S2, eS2⟩ : ∃ S2, S2 = mm_stc (mm_put S1 19 1 (nI (gN σ + 1))) 20 f := ⟨_, rfl⟩
      have F2 : mfr [19, 20] S1 S2 := by subst eS2; exact mfr_tr (mfr_put (by simp)) (mfr_stc (by simp))
      have y32 : S2 32 = S 32 := (F2 32 (by decide)).trans e32
      have y20 : S2 20 = f := by subst eS2; exact mm_stc_at _ _ _
      have y22 : S2 22 = S1 22 := F2 22 (by decide)
      have y192 : S2 19 2 = S 19 2 := by subst eS2; rw [mm_stc_ne _ _ (by decide), mp_pk _ _ _ (by decide), e19]
      have hb2 : S2 22 (pend σ O) = blw σ O := by rw [y22, s2.2 _ (by omega)]; exact hb
      have hp2 : pl (S2 32) k σ (S2 22) O := by rw [y32, y22]; exact pl_ext hwO (fun j hj => s2.2 j (by omega)) hp
      have hc2 := cst_fr hc1 F2
      obtain ⟨S', m1, m2, m3, m4, m5, m6, m7, m8, m9, m10⟩ := mq_mkNode (d := d) (S := S2) (k := k) (C := C) (R := R) (sz := sz) (n := n') (N := gN σ) (σ := σ) (O := O) (T := T) (by omega) (by subst eS2; rfl) hc2 hb2 hp2 hwO (fun j hj => by rw [y20]; exact t2 j hj) (kc := u1) (ks := v1)
      rw [y20] at m6 m5
      rw [y32] at m4 m6 m9 m10
      rw [y192] at m4
      have eTo : ∀ i, i < gN σ → gT (addS σ p m T) i = gT σ i := fun i hi => (addS_old hi).2.2
      have lowf : ∀ j, j < 9 * gN σ → S' 20 j = if j = 9 * p + 4 then nI (gC σ p + 1) else if gC σ p = 0 ∧ j = 9 * p + 5 then nI (gN σ) else if 0 < gC σ p ∧ j = 9 * gH σ p (gC σ p - 1) + 6 then nI (gN σ) else S 20 j := by
        intro j hj
        rw [m5 j hj, t5 j hj, e20]
      have keep : ∀ i f', i < gN σ → f' < 9 → f' ≠ 4 → f' ≠ 5 → f' ≠ 6 → S' 20 (9 * i + f') = S 20 (9 * i + f') := by
        intro i f' hi hf h4 h5 h6
        rw [lowf _ (by omega), if_neg (by omega), if_neg (by omega), if_neg (by omega)]
      have hcn : cnd S' (S 32) (addS σ p m T) := by
        refine ⟨m3, ?_, fun i hi => ?_, fun i hi hcc => ?_, fun i hi hcc => ?_, fun i j hi hj => ?_⟩
        · rw [m4, c2]
          show _ = nI (nfl (S 32) (gT (addS σ p m T)) (gN σ) + (if kdT (S 32) (gT (addS σ p m T) (gN σ)) = 0 then 1 else 0))
          rw [nfl_ext _ eTo, addS_new.2.2.1]
          by_cases q : kdT (S 32) T = 0
          · rw [if_pos q, if_pos q, nI_1]
          · rw [if_neg q, if_neg q]; rfl
        · rw [addS_N] at hi
          by_cases e : i = gN σ
          · subst e
            rw [addS_new.2.2.1, addS_new.2.2.2, addS_new.1, addS_new.2.1, if_neg (by omega), if_neg (by omega)]
            rw [t3, t4] at m6
            exact m6
          · have hi' : i < gN σ := by omega
            obtain ⟨o1, o2, o3⟩ := addS_old (p := p) (m := m) (T := T) hi'
            obtain ⟨k1, k2, k3, k4, k5, k6, k7⟩ := c3 i hi'
            rw [o1, o2, o3]
            refine ⟨?_, ?_, ?_, ?_, ?_, ?_, ?_⟩
            · have := keep i 0 hi' (by omega) (by omega) (by omega) (by omega)
              rw [show 9 * i + 0 = 9 * i from rfl] at this
              rw [this]; exact k1
            · rw [keep i 1 hi' (by omega) (by omega) (by omega) (by omega)]; exact k2
            · rw [keep i 2 hi' (by omega) (by omega) (by omega) (by omega)]; exact k3
            · rw [keep i 3 hi' (by omega) (by omega) (by omega) (by omega)]; exact k4
            · rw [lowf _ (by omega), addS_C hi']
              by_cases e2 : i = p
              · rw [if_pos (by omega), if_pos e2, e2, if_pos hk]
              · rw [if_neg (by omega), if_neg (by omega), if_neg (by omega), if_neg e2]; exact k5
            · rw [keep i 7 hi' (by omega) (by omega) (by omega) (by omega)]; exact k6
            · rw [keep i 8 hi' (by omega) (by omega) (by omega) (by omega)]; exact k7
        · rw [addS_N] at hi
          by_cases e : i = gN σ
          · rw [e, addS_new.2.2.2] at hcc; omega
          · have hi' : i < gN σ := by omega
            rw [addS_C hi'] at hcc
            rw [lowf _ (by omega), if_neg (by omega), addS_H]
            by_cases e2 : i = p
            · subst e2
              by_cases z : gC σ i = 0
              · rw [if_pos ⟨z, rfl⟩, if_pos ⟨rfl, z.symm⟩]
              · rw [if_neg (fun y => z y.1), if_neg (fun y => by omega), if_neg (fun y => z y.2.symm)]; exact c4 i hi' (by omega)
            · rw [if_neg e2] at hcc
              rw [if_neg (by omega), if_neg (by omega), if_neg (fun y => e2 y.1)]; exact c4 i hi' hcc
        · rw [addS_N] at hi
          by_cases e : i = gN σ
          · rw [e]; exact m7
          · have hi' : i < gN σ := by omega
            rw [addS_C hi'] at hcc
            have e2 : i ≠ p := fun z => by rw [if_pos z] at hcc; omega
            rw [if_neg e2] at hcc
            rw [lowf _ (by omega), if_neg (by omega), if_neg (by omega), if_neg (by omega)]; exact c5 i hi' hcc
        · rw [addS_N] at hi
          by_cases e : i = gN σ
          · rw [e, addS_new.2.2.2] at hj; omega
          · have hi' : i < gN σ := by omega
            rw [addS_C hi'] at hj ⊢
            rw [addS_H, addS_H]
            by_cases e2 : i = p
            · subst e2
              rw [if_pos rfl] at hj ⊢
              by_cases ej : j = gC σ i
              · rw [if_pos ⟨rfl, ej⟩, if_neg (by omega)]; exact m8
              · have hj' : j < gC σ i := by omega
                have hlt := (g6 i j hi' hj').2.1
                rw [if_neg (fun y => ej y.2), if_pos (by omega), lowf _ (by omega), if_neg (by omega), if_neg (by omega)]
                by_cases el : j = gC σ i - 1
                · rw [if_pos ⟨by omega, by rw [el]⟩, if_pos ⟨rfl, by omega⟩]
                · have := (g8 i j (gC σ i - 1) hi' (by omega) (by omega)).1
                  rw [if_neg (by omega), if_neg (fun y => by omega), c6 i j hi' hj', if_pos (by omega)]
            · rw [if_neg e2] at hj ⊢
              have hlt := g6 i j hi' hj
              rw [if_neg (show ¬ (i = p ∧ j = gC σ p) from fun y => e2 y.1), if_neg (show ¬ (i = p ∧ j + 1 = gC σ p) from fun y => e2 y.1), lowf _ (by omega), if_neg (by omega), if_neg (by omega)]
              have ne : ¬ (0 < gC σ p ∧ 9 * gH σ i j + 6 = 9 * gH σ p (gC σ p - 1) + 6) := by
                rintro ⟨y1, y2⟩
                have h9 := (g6 p (gC σ p - 1) hpN (by omega)).2.2
                rw [show gH σ p (gC σ p - 1) = gH σ i j by omega, hlt.2.2] at h9
                exact e2 h9
              rw [if_neg ne]; exact c6 i j hi' hj
      have hO' : ∀ e, e ∈ O → e.1 < gN σ := hO
      have fin := cgs_new (S := S2) (S' := S') (σ := σ) (σ' := addS σ p m T) (N := gN σ) (T := T) (O := O) (n := n') (k := k) (C := C) (R := R) (sz := sz) (mq_K_fr (mq_K_fr hK s2.1 rfl) F2 rfl) (by rw [F2 3 (by decide), s2.1 3 (by decide)]; exact hV) hc2 hb2 hp2 hwO m2 (by rw [y32]; exact hcn) (pend_add hO) (blw_add hO) (fun f hf => pl_add hO hf) (fun e he => eTo _ (hO e he)) addS_new.2.2.1 (by rw [y32]; exact m9) (by rw [y32]; exact m10)
      rw [y32] at fin
      refine ⟨S', u1, v1, 1, ?_, ?_, ?_, fun z => ?_, fun T' e _ => ?_⟩
      · rw [dX7_addNode, eX7_addNode_0, dX6_count, eX6_count_0, mm_bd_ret, c1, if_neg n3, s3, mm_bd_ret, if_neg (by decide), t1, mm_bd_ret, ← eS2]
        simp only [Nat.zero_add, Nat.add_zero]
        exact m1
      · have := mpot_tr s1 (mpot_55 (S := S1) (S' := S') (by rw [m2 55 (by decide), F2 55 (by decide)]))
        rw [Nat.add_zero, Nat.add_zero] at this
        exact this
      · exact mfr_tr (mfr_up s2.1 (by decide)) (mfr_tr (mfr_up F2 (by decide)) (mfr_up m2 (by decide)))
      · rcases z with z | z
        · exact absurd z q3
        · cases z
      · cases e
        exact ⟨rfl, n', fin⟩
end
