/-! PURE: the class's compile -/
section
variable {d : Nat} {k : KK} {C R : Nat} {sz : Nat → Nat} {col : Nat → Nat}
theorem mq_addNode0 {S : Mem} {T0 : TB} {n : Nat} (hK : mq_K S k) (hV : kV (S 3) k) (h1 : S 19 1 = nI 0) (h2 : S 19 2 = nI 0) (h : cst S k C R sz 0 T0 n) (hb : S 22 0 = N1) :
    ∃ S' c s v, mm_runD (d + 6) 113 [.inr 0, .inl (-1), .inl (-1)] S = some (S', c, s, 0, v) ∧ mpot S S' c s ∧ mfr ccs S S' ∧ (spT (S 32) (gk S k) T0 = none → v = 0) ∧ (∀ T, spT (S 32) (gk S k) T0 = some T → v = 1 ∧ ∃ n', cgs S' k C R sz (rootS T) (opn (S 32) k 0 T) n') := by
  obtain ⟨S1, u1, v1, s1, s2, s3, s4⟩ := mq_split (d := d) h
  have n3 : ¬ (300 : Int32) ≤ nI 0 := by decide
  cases hs : spT (S 32) (gk S k) T0 with
  | none =>
    rw [hs, mb_f (fun z => z rfl)] at s3
    refine ⟨S1, u1, v1, 0, ?_, s1, mfr_up s2.1 (by decide), fun _ => rfl, fun T e => by cases e⟩
    rw [dX7_addNode, eX7_addNode_0, dX6_count, eX6_count_0, mm_bd_ret, h1, if_neg n3, s3, mm_bd_ret, if_pos rfl]
    simp only [Nat.zero_add, Nat.add_zero]
  | some T =>
    rw [hs, mb_t (Option.some_ne_none T)] at s3
    obtain ⟨n', hc1⟩ := s4 T hs
    have e32 : S1 32 = S 32 := s2.1 32 (by decide)
    have e19 : S1 19 = S 19 := s2.1 19 (by decide)
    obtain ⟨f, t1, t2⟩ := mq_tadd0 (d := d + 3) (S := S1) (by rw [e19]; exact h1)
    obtain ⟨S2, eS2⟩ : ∃ S2, S2 = mm_stc (mm_put S1 19 1 (nI 1)) 20 f := ⟨_, rfl⟩
    have F2 : mfr [19, 20] S1 S2 := by subst eS2; exact mfr_tr (mfr_put (by simp)) (mfr_stc (by simp))
    have y32 : S2 32 = S 32 := (F2 32 (by decide)).trans e32
    have y20 : S2 20 = f := by subst eS2; exact mm_stc_at _ _ _
    have y22 : S2 22 = S1 22 := F2 22 (by decide)
    have y192 : S2 19 2 = S 19 2 := by subst eS2; rw [mm_stc_ne _ _ (by decide), mp_pk _ _ _ (by decide), e19]
    have hb2 : S2 22 0 = N1 := by rw [y22, s2.2 _ (by omega)]; exact hb
    have hc2 := cst_fr hc1 F2
    obtain ⟨S', m1, m2, m3, m4, m5, m6, m7, m8, m9, m10⟩ := mq_mkNode (d := d) (S := S2) (k := k) (C := C) (R := R) (sz := sz) (n := n') (N := 0) (σ := rootS T) (O := []) (T := T) (by omega) (by subst eS2; rfl) hc2 hb2 trivial (fun e he => by cases he) (fun j hj => by rw [y20]; exact t2 _ (by omega)) (kc := u1) (ks := v1)
    rw [y20] at m6
    rw [y32] at m4 m6 m9 m10
    rw [y192, h2] at m4
    have hcn : cnd S' (S 32) (rootS T) := by
      refine ⟨m3, ?_, fun i hi => ?_, fun i hi hcc => absurd hcc (Nat.lt_irrefl 0), fun i hi hcc => ?_, fun i j hi hj => absurd hj (Nat.not_lt_zero _)⟩
      · rw [m4]
        show _ = nI (0 + (if kdT (S 32) T = 0 then 1 else 0))
        by_cases q : kdT (S 32) T = 0
        · rw [if_pos q, if_pos q, nI_1]
        · rw [if_neg q, if_neg q]
      · have e0 : i = 0 := by have : i < 1 := hi; omega
        subst e0
        rw [if_pos rfl, if_pos rfl]
        rw [t2 (9 * 0 + 7) (by omega), t2 (9 * 0 + 8) (by omega)] at m6
        exact m6
      · have e0 : i = 0 := by have : i < 1 := hi; omega
        subst e0
        exact m7
    have fin := cgs_new (S := S2) (S' := S') (σ := rootS T) (σ' := rootS T) (N := 0) (T := T) (O := []) (n := n') (k := k) (C := C) (R := R) (sz := sz) (mq_K_fr (mq_K_fr hK s2.1 rfl) F2 rfl) (by rw [F2 3 (by decide), s2.1 3 (by decide)]; exact hV) hc2 hb2 trivial (fun e he => by cases he) m2 (by rw [y32]; exact hcn) rfl rfl (fun _ h => h) (fun e he => by cases he) rfl (by rw [y32]; exact m9) (by rw [y32]; exact m10)
    rw [y32, List.append_nil] at fin
    refine ⟨S', u1, v1, 1, ?_, ?_, ?_, (fun z => by cases z), fun T' e => ?_⟩
    · rw [dX7_addNode, eX7_addNode_0, dX6_count, eX6_count_0, mm_bd_ret, h1, if_neg n3, s3, mm_bd_ret, if_neg (by decide), t1, mm_bd_ret, ← eS2]
      simp only [Nat.zero_add, Nat.add_zero]
      exact m1
    · have := mpot_tr s1 (mpot_55 (S := S1) (S' := S') (by rw [m2 55 (by decide), F2 55 (by decide)]))
      rw [Nat.add_zero, Nat.add_zero] at this
      exact this
    · exact mfr_tr (mfr_up s2.1 (by decide)) (mfr_tr (mfr_up F2 (by decide)) (mfr_up m2 (by decide)))
    · cases e
      exact ⟨rfl, n', fin⟩
theorem mq_grow_end {S : Mem} {x2 : Int32} {o3 o4 : Option MV} {kc ks : Nat} : mm_E (mm_runD d) pX7_growTree 2 17 [some (.inr 0), some (.inl 0), some (.inl x2), o3, o4] [] S kc ks = some (S, kc, ks, 0, 0) := by
  rw [eX7_growTree_17, if_pos (Or.inl rfl), if_pos rfl, ite_self]
theorem mq_grow (hW : kW k) (hC : C ≤ 3) (hcol : ∀ c, c < C → col c < kT k) (h8 : ∀ t, kCnt k t (kM k) ≤ 8) : ∀ (f : Nat) (σ : SG) (O : List (Nat × List Nat)) (r : Option SG) (S : Mem) (n x2 kc ks : Nat) (o3 o4 : Option MV), gin (S 32) (gk S k) k C R sz col σ O → cgs S k C R sz σ O n → x2 + (2 * (300 - gN σ) + O.length) ≤ 600 → grw (S 32) (gk S k) k f σ O = some r →
    ∃ S' c s, mm_E (mm_runD (d + 6)) pX7_growTree 2 17 [some (.inr 0), some (.inl 1), some (.inl (nI x2)), o3, o4] [] S kc ks = some (S', kc + c, ks + s, 0, mb (r ≠ none)) ∧ mpot S S' c s ∧ mfr ccs S S' ∧ ∀ σ', r = some σ' → cnd S' (S 32) σ' := by
  have hM := hW.2.1
  have hT := hW.1
  intro f
  induction f with
  | zero => intro σ O r S n x2 kc ks o3 o4 _ _ _ h; cases h
  | succ f ih =>
    intro σ O r S n x2 kc ks o3 o4 hg hs hx hgr
    obtain ⟨s1, s2, s3, s4, s5, s6, s7, s8, s9⟩ := hs
    obtain ⟨g1, g2, g3, g4, g5, g6, g7, g8⟩ := hg
    have hg : gin (S 32) (gk S k) k C R sz col σ O := ⟨g1, g2, g3, g4, g5, g6, g7, g8⟩
    have b600 : ¬ (600 : Int32) < nI x2 := nI_nlt (a := 600) (by omega) (by decide)
    have hwO : ∀ e, e ∈ O → wfT R sz (gT σ e.1) := fun e he => g1.2.2.2.1 _ (g2 e he).1
    have hN3 := g1.2.1
    match O, hg, g2, g3, g7, hwO, s6, s7, s8, s9, hx, hgr with
    | [], hg, g2, g3, g7, hwO, s6, s7, s8, s9, hx, hgr =>
      have e : r = some σ := by unfold grw at hgr; cases hgr; rfl
      subst e
      refine ⟨S, 0, 0, ?_, mpot_rf S, mfr_rf, fun σ' e => by cases e; exact s5⟩
      have ho : mm_runD (d + 6) 42 [.inr 21] S = some (S, 0, 0, 0, 0) := by
        rw [dX5_hasOpen, eX5_hasOpen_0, s7, show blw σ [] = -1 from rfl, if_pos (show (-1 : Int32) < 0 by decide)]
      rw [eX7_growTree_17, if_neg b600, if_neg (by decide), ho, mm_bd_ret, if_pos rfl, if_pos (Or.inr rfl), mb_t (Option.some_ne_none σ)] <;> rfl
    | (p, l) :: O, hg, g2, g3, g7, hwO, s6, s7, s8, s9, hx, hgr =>
      obtain ⟨p1, p2, p3, p4, p5, p6, ⟨i, p7, p8, p9⟩, p10⟩ := s6
      have hwp := hwO (p, l) List.mem_cons_self
      have hwp' : wfT R sz (gT σ p) := hwp
      have hps := pend_s (σ := σ) (O := O) (a := (p, l)) hwp
      have hwOt : ∀ e, e ∈ O → wfT R sz (gT σ e.1) := fun e he => hwO e (List.mem_cons_of_mem _ he)
      have hpu := pend_up (σ := σ) hwO
      have hpu' := pend_up (σ := σ) hwOt
      rw [List.length_cons] at g7 hpu hx
      have s7' : S 21 3 = nI (pend σ O) := s7
      have hn9 := s4.2.2
      obtain ⟨q4, q5⟩ := s8 (p, l) O rfl
      obtain ⟨e1, e2, _⟩ := g2 (p, l) List.mem_cons_self
      have e1' : p < gN σ := e1
      have e2' : kdT (S 32) (gT σ p) = 2 := e2
      have hk2 := kdT_2 e2'
      have ht8 : tyT (S 32) (gT σ p) < 8 := by
        have := sgW_ty hW s3 hC hcol g1 p e1' (tsT (S 32) (gT σ p)) hk2.2
        show tT (gT σ p) (tsT (S 32) (gT σ p)) < 8
        omega
      have ho : mm_runD (d + 6) 42 [.inr 21] S = some (S, 0, 0, 0, 1) := by
        rw [dX5_hasOpen, eX5_hasOpen_0, s7', if_neg (nI_pos (by omega))]
      have nb := mq_nextBranch (d := d + 1) (S := S) (n := n) (t := pend σ O) (ty := tyT (S 32) (gT σ p)) (i := i) s1 hW s2 s4 s7' (by omega) (by omega) p6 p7 p8
      have p9' : l = lvl k (tyT (S 32) (gT σ p)) (kM k - i) i := p9
      rw [← p9'] at nb
      cases l with
      | nil =>
        have nb' : mm_runD (d + 6) 52 [.inr 21] S = some (S, 0, 0, 0, N1) := nb
        have hgr' : grw (S 32) (gk S k) k f σ O = some r := by unfold grw at hgr; exact hgr
        obtain ⟨S1, a1, a2, a3, a4⟩ := mq_drop (d := d + 3) (S := S) (n := n) (G := S 32) (k := k) (R := R) (sz := sz) (σ := σ) (O := O) (t := pend σ O) s4 s7' (by omega) p2 p10 (by omega) hwOt
        have e32 : S1 32 = S 32 := a2 32 (by decide)
        have eg : gk S1 k = gk S k := by unfold gk; rw [e32]
        have cg : cgs S1 k C R sz σ O n := by
          refine ⟨mq_K_fr s1 a2 rfl, by rw [a2 3 (by decide)]; exact s2, ?_, rm_fr s4 (a2 55 (by decide)), ?_, by rw [e32, a2 22 (by decide)]; exact p10, a3, a4, by omega⟩
          · unfold rws
            rw [a2 27 (by decide), a2 8 (by decide), a2 33 (by decide), e32, a2 9 (by decide), a2 10 (by decide)]
            exact s3
          · unfold cnd
            rw [e32, a2 19 (by decide), a2 20 (by decide)]
            exact s5
        obtain ⟨S', c, s, i1, i2, i3, i4⟩ := ih σ O r S1 n (x2 + 1) kc ks (some (.inl N1)) o4 (by rw [e32, eg]; exact gin_pop hg) cg (by omega) (by rw [e32, eg]; exact hgr')
        rw [e32] at i4
        refine ⟨S', c, s, ?_, ?_, mfr_tr (mfr_up a2 (by decide)) i3, i4⟩
        · rw [eX7_growTree_17, if_neg b600, if_neg (by decide), ho, mm_bd_ret, if_neg (by decide), nb', mm_bd_ret, if_pos rfl, a1, mm_bd_ret, nI_1]
          exact i1
        · have := mpot_tr (mpot_55 (S := S) (S' := S1) (a2 55 (by decide))) i2
          rw [Nat.zero_add, Nat.zero_add] at this
          exact this
      | cons m l =>
        have nb' : mm_runD (d + 6) 52 [.inr 21] S = some (mm_put S 22 (pend σ O + 5) (nI m), 0, 0, 0, nI m) := nb
        obtain ⟨S1, eS1⟩ : ∃ S1, S1 = mm_put S 22 (pend σ O + 5) (nI m) := ⟨_, rfl⟩
        rw [← eS1] at nb'
        have F1 : mfr [21, 22, 55] S S1 := by subst eS1; exact mfr_put (by simp)
        have x22 : ∀ j, j ≠ pend σ O + 5 → S1 22 j = S 22 j := fun j hj => by subst eS1; exact mp_pk _ _ _ hj
        have x225 : S1 22 (pend σ O + 5) = nI m := by subst eS1; exact mp_pp _ _ _ _
        have x21 : S1 21 = S 21 := by subst eS1; rfl
        have x55 : S1 55 = S 55 := by subst eS1; rfl
        have e32 : S1 32 = S 32 := by subst eS1; rfl
        have eg : gk S1 k = gk S k := by subst eS1; rfl
        have hn1 : rm S1 n := rm_fr s4 x55
        have hmem : m ∈ lvl k (tyT (S 32) (gT σ p)) (kM k - i) i := by rw [← p9']; exact List.mem_cons_self
        have hmM : m < kM k := by have := (lvl_mem _ _ _ hmem).2.1; omega
        have hlr := lvl_cons _ _ _ _ p9'.symm
        have cs1 : cst S1 k C R sz (pend σ O) (gT σ p) n := ⟨rws_fr s3 F1, ⟨by rw [x21]; exact s7', by rw [x21]; exact q4, by rw [x21]; exact q5, by rw [e32]; exact tbM_ext p1 (fun j hj _ => x22 j (by omega))⟩, hwp', hn1, s9, by omega⟩
        have on := mq_openNode (d := d + 3) (S := S1) (t := pend σ O) (p := p) hn1 (by rw [x21]; exact s7') (by omega) (by rw [x22 _ (by omega)]; exact p5)
        have tp : mm_runD (d + 6) 78 [.inr 19, .inl (nI p)] S1 = some (S1, 0, 0, 0, nI (tsT (S 32) (gT σ p))) := by
          have g := mq_tget (d := d + 4) (S := S1) (N := gN σ) (i := p) (f := 3) (by rw [F1 19 (by decide)]; exact s5.1) hN3 e1' (by omega)
          rw [F1 20 (by decide), (s5.2.2.1 p e1').2.2.2.1, if_pos e2'] at g
          rw [dX6_testedPlace, eX6_testedPlace_0]
          show mm_bd (mm_runD (d + 5) 87 [.inr 19, .inl (nI p), .inl (nI 3)] S1) _ _ _ = _
          rw [g, mm_bd_ret]
        have head : mm_E (mm_runD (d + 6)) pX7_growTree 2 17 [some (.inr 0), some (.inl 1), some (.inl (nI x2)), o3, o4] [] S kc ks = mm_bd (mm_runD (d + 6) 53 [.inr 21, .inl (nI m), .inl (nI (tsT (S 32) (gT σ p)))] S1) kc ks (fun S6 c6 t6 a6 => (if a6 = 0 then mm_E (mm_runD (d + 6)) pX7_growTree 2 17 [some (.inr 0), some (.inl 0), some (.inl (nI (x2 + 1))), some (.inl (nI m)), some (.inl (nI p))] [] S6 c6 t6 else mm_bd (mm_runD (d + 6) 113 [.inr 0, .inl (nI p), .inl (nI m)] S6) c6 t6 (fun S7 c7 t7 a7 => (if a7 = 0 then mm_E (mm_runD (d + 6)) pX7_growTree 2 17 [some (.inr 0), some (.inl 0), some (.inl (nI (x2 + 1))), some (.inl (nI m)), some (.inl (nI p))] [] S7 c7 t7 else mm_E (mm_runD (d + 6)) pX7_growTree 2 17 [some (.inr 0), some (.inl 1), some (.inl (nI (x2 + 1))), some (.inl (nI m)), some (.inl (nI p))] [] S7 c7 t7)))) := by
          rw [eX7_growTree_17, if_neg b600, if_neg (by decide), ho, mm_bd_ret, if_neg (by decide), nb', mm_bd_ret, if_neg (show ¬ nI m = -1 from fun q => (nn_a1 (a := m) (by omega)).mp q), on, mm_bd_ret, tp, mm_bd_ret, nI_1]
          rfl
        rw [head]
        have gr : ((brS (S 32) (gk S k) k (gT σ p) (tsT (S 32) (gT σ p)) m = none ∨ gN σ = 300) ∧ r = none) ∨ (∃ T, brS (S 32) (gk S k) k (gT σ p) (tsT (S 32) (gT σ p)) m = some T ∧ gN σ ≠ 300 ∧ grw (S 32) (gk S k) k f (addS σ p m T) (opn (S 32) k (gN σ) T ++ (p, l) :: O) = some r) := by
          unfold grw at hgr
          cases hb : brS (S 32) (gk S k) k (gT σ p) (tsT (S 32) (gT σ p)) m with
          | none => rw [hb] at hgr; cases hgr; exact Or.inl ⟨Or.inl rfl, rfl⟩
          | some T =>
            rw [hb] at hgr
            have hgr' : (if gN σ = 300 then some none else grw (S 32) (gk S k) k f (addS σ p m T) (opn (S 32) k (gN σ) T ++ (p, l) :: O)) = some r := hgr
            by_cases q3 : gN σ = 300
            · rw [if_pos q3] at hgr'; cases hgr'; exact Or.inl ⟨Or.inr q3, rfl⟩
            · rw [if_neg q3] at hgr'; exact Or.inr ⟨T, rfl, q3, hgr'⟩
        have grn : (brS (S 32) (gk S k) k (gT σ p) (tsT (S 32) (gT σ p)) m = none ∨ gN σ = 300) → r = none := by
          intro hz
          rcases gr with ⟨_, hr⟩ | ⟨T, t1, t2, _⟩
          · exact hr
          · rcases hz with hz | hz
            · rw [hz] at t1; cases t1
            · exact absurd hz t2
        by_cases q40 : tP (gT σ p) - 1 + kFc k m ≤ 40
        · obtain ⟨S2, c2, v2, n2, a1, a2, a3, a4, a5, a6⟩ := mq_openBranch (d := d + 2) (S := S1) (T := gT σ p) (t := pend σ O) (n := n) (mq_K_fr s1 F1 rfl) hW cs1 (c := tsT (S 32) (gT σ p)) (m := m) hk2.2 hmM q40 (by have : tEn (pend σ O) (gT σ p) = pend σ ((p, m :: l) :: O) := rfl; omega)
          rw [e32, eg] at a5
          have F2 : mfr [21, 22, 55] S S2 := mfr_tr F1 a3
          have y32 : S2 32 = S 32 := F2 32 (by decide)
          have yg : gk S2 k = gk S k := by unfold gk; rw [y32]
          have epe : tEn (pend σ O) (gT σ p) = pend σ ((p, l) :: O) := rfl
          rw [epe] at a4 a5 a6
          have y22 : ∀ j, j < pend σ ((p, l) :: O) → j ≠ pend σ O + 5 → S2 22 j = S 22 j := fun j hj hj' => by rw [a4 j hj, x22 j hj']
          have pe6 : pend σ O + 6 ≤ pend σ ((p, l) :: O) := hps.1
          have pl2 : pl (S2 32) k σ (S2 22) ((p, l) :: O) := by
            rw [y32]
            refine ⟨tbM_ext p1 (fun j hj hj' => y22 j hj' (by omega)), ?_, ?_, ?_, ?_, ?_, ⟨m + 1, ?_, by omega, ?_⟩, pl_ext hwOt (fun j hj => y22 j (by omega) (by omega)) p10⟩
            · rw [y22 _ (by omega) (by omega)]; exact p2
            · rw [y22 _ (by omega) (by omega)]; exact p3
            · rw [y22 _ (by omega) (by omega)]; exact p4
            · rw [y22 _ (by omega) (by omega)]; exact p5
            · rw [y22 _ (by omega) (by omega)]; exact p6
            · rw [a4 _ (by omega), x225, nI_1]
            · show l = _
              rw [hlr, show i + (kM k - i) - (m + 1) = kM k - (m + 1) by omega]
          have cnd2 : cnd S2 (S2 32) σ := by
            rw [y32]
            unfold cnd
            rw [F2 19 (by decide), F2 20 (by decide)]
            exact s5
          have ent : gC σ p < 300 := by
            obtain ⟨_, _, _, _, _, _, _, c7⟩ := g2 (p, m :: l) List.mem_cons_self
            have l8 : (lvl k (tyT (S 32) (gT σ p)) (kM k) 0).length ≤ 8 := by
              have := lvl_cnt (k := k) (t := tyT (S 32) (gT σ p)) (kM k) 0
              rw [Nat.zero_add] at this
              have := h8 (tyT (S 32) (gT σ p))
              omega
            have c7' : gC σ p + (m :: l).length = (lvl k (tyT (S 32) (gT σ p)) (kM k) 0).length := c7
            omega
          obtain ⟨S3, c3, v3, v, b1, b2, b3, b4, b5⟩ := mq_addNode (d := d) (S := S2) (σ := σ) (p := p) (m := m) (col := col) (O := (p, l) :: O) (mq_K_fr s1 F2 rfl) (by rw [F2 3 (by decide)]; exact s2) (by rw [y32, yg]; exact g1) cnd2 a5 a6 pl2 (fun e he => by
            rcases List.mem_cons.mp he with rfl | he
            · exact e1'
            · exact (g2 e (List.mem_cons_of_mem _ he)).1) e1' (by rw [y32]; exact e2') (by omega) ent
          rw [y32, yg] at b4 b5
          have ebr : brS (S 32) (gk S k) k (gT σ p) (tsT (S 32) (gT σ p)) m = spT (S 32) (gk S k) (brT (S 32) (gk S k) k (gT σ p) (tsT (S 32) (gT σ p)) m) := by unfold brS; rw [if_pos q40]
          have F3 : mfr ccs S S3 := mfr_tr (mfr_up F2 (by decide)) b3
          rw [a1, mm_bd_ret, if_neg (by decide), b1, mm_bd_ret]
          have mp1 : mpot S S3 (c2 + c3) (v2 + v3) := by
            have := mpot_tr (mpot_tr (mpot_55 (S := S) (S' := S1) x55) a2) b2
            rw [Nat.zero_add, Nat.zero_add] at this
            exact this
          rcases gr with ⟨hz, hr⟩ | ⟨T, t1, t2, t3⟩
          · have hv := b4 (by rw [← ebr]; exact hz.symm)
            subst hv
            refine ⟨S3, c2 + c3, v2 + v3, ?_, mp1, F3, fun σ' e => by rw [hr] at e; cases e⟩
            rw [if_pos rfl, mq_grow_end, mb_f (fun q => q hr)]
            simp only [Nat.add_assoc]
          · obtain ⟨hv, n3, cg⟩ := b5 T (by rw [← ebr]; exact t1) t2
            subst hv
            have ga := gin_add (G := S 32) (g := gk S k) (fun T c m' hw hc hm' T' hbb => (brS_is hW s3 hw hc hm' hbb).2.1) hg t2 t1
            have z32 : S3 32 = S 32 := F3 32 (by decide)
            have zg : gk S3 k = gk S k := by unfold gk; rw [z32]
            have ol := opn_len (S 32) k (gN σ) T
            obtain ⟨S', c, s, i1, i2, i3, i4⟩ := ih (addS σ p m T) (opn (S 32) k (gN σ) T ++ (p, l) :: O) r S3 n3 (x2 + 1) (kc + c2 + c3) (ks + v2 + v3) (some (.inl (nI m))) (some (.inl (nI p))) (by rw [z32, zg]; exact ga) cg (by
              rw [addS_N, List.length_append, List.length_cons]
              omega) (by rw [z32, zg]; exact t3)
            rw [z32] at i4
            refine ⟨S', c2 + c3 + c, v2 + v3 + s, ?_, mpot_tr mp1 i2, mfr_tr F3 i3, i4⟩
            rw [if_neg (by decide), i1]
            simp only [Nat.add_assoc]
        · have hb : brS (S 32) (gk S k) k (gT σ p) (tsT (S 32) (gT σ p)) m = none := by unfold brS; rw [if_neg q40]
          have hr := grn (Or.inl hb)
          have no := mq_openBranch_no (d := d + 2) (S := S1) (mq_K_fr s1 F1 rfl) hW cs1 (c := tsT (S 32) (gT σ p)) hk2.2 hmM q40
          refine ⟨S1, 0, 0, ?_, mpot_55 x55, mfr_up F1 (by decide), fun σ' e => by rw [hr] at e; cases e⟩
          rw [no, mm_bd_ret, if_pos rfl, mq_grow_end, mb_f (fun q => q hr)]
theorem mq_growTree (hW : kW k) (hC : C ≤ 3) (hcol : ∀ c, c < C → col c < kT k) (h8 : ∀ t, kCnt k t (kM k) ≤ 8) {S : Mem} {n : Nat} (hK : mq_K S k) (hV : kV (S 3) k) (hr : rws S k C R sz) (hn : rm S n) (h0 : S 0 2 = nI C) (hc : ∀ c, c < C → S 7 c = nI (col c)) :
    ∃ S' c s, mm_runD (d + 7) 112 [.inr 0] S = some (S', c, s, 0, mb (gal (S 32) (gk S k) k C R col ≠ none)) ∧ mpot S S' c s ∧ mfr ccs S S' ∧ ∀ σ, gal (S 32) (gk S k) k C R col = some σ → cnd S' (S 32) σ := by
  obtain ⟨S1, eS⟩ : ∃ S1, S1 = mm_put (mm_put (mm_put S 19 1 0) 19 2 0) 19 3 0 := ⟨_, rfl⟩
  have F1 : mfr [19] S S1 := by subst eS; exact mfr_tr (mfr_tr (mfr_put (by simp)) (mfr_put (by simp))) (mfr_put (by simp))
  have hr1 : rws S1 k C R sz := by subst eS; exact hr
  obtain ⟨S2, c2, v2, n2, a1, a2, a3, a4, a5⟩ := mq_begin5 (d := d + 2) (col := col) (S := S1) hr1 (rm_fr hn (F1 55 (by decide))) hC (by rw [F1 7 (by decide)]; exact hc)
  have e32 : S2 32 = S 32 := (a3 32 (by decide)).trans (F1 32 (by decide))
  have eg : gk S2 k = gk S k := by unfold gk; rw [e32]
  have eg1 : gk S1 k = gk S k := by subst eS; rfl
  rw [eg1] at a4
  have K2 : mq_K S2 k := mq_K_fr (mq_K_fr hK F1 rfl) a3 rfl
  have V2 : kV (S2 3) k := by rw [a3 3 (by decide), F1 3 (by decide)]; exact hV
  obtain ⟨S3, c3, v3, v, b1, b2, b3, b4, b5⟩ := mq_addNode0 (d := d) (S := S2) K2 V2 (by rw [a3 19 (by decide)]; subst eS; rfl) (by rw [a3 19 (by decide)]; subst eS; rfl) a4 a5
  rw [e32, eg] at b4 b5
  have F3 : mfr ccs S S3 := mfr_tr (mfr_tr (mfr_up F1 (by decide)) (mfr_up a3 (by decide))) b3
  have mp1 : mpot S S3 (c2 + c3) (v2 + v3) := by
    have := mpot_tr (mpot_tr (mpot_55 (S := S) (S' := S1) (F1 55 (by decide))) a2) b2
    rw [Nat.zero_add, Nat.zero_add] at this
    exact this
  have start : ∀ Z, mm_E (mm_runD (d + 6)) pX7_growTree 2 17 [some (.inr 0), some (.inl v), some (.inl 0), none, none] [] S3 (c2 + c3) (v2 + v3) = Z → mm_runD (d + 7) 112 [.inr 0] S = Z := by
    intro Z hZ
    have x0 : S1 0 2 = nI C := by rw [F1 0 (by decide)]; exact h0
    rw [dX7_growTree, eX7_growTree_0, mq_fell, mm_bd_ret, ← eS, x0, a1, mm_bd_ret, b1, mm_bd_ret]
    simp only [Nat.zero_add, Nat.add_zero]
    exact hZ
  cases hb : spT (S 32) (gk S k) (fsT (gk S k) C R col) with
  | none =>
    have eg0 : gal (S 32) (gk S k) k C R col = none := by unfold gal; rw [hb]
    have hv := b4 hb
    subst hv
    rw [eg0]
    refine ⟨S3, c2 + c3, v2 + v3, start _ ?_, mp1, F3, fun σ e => by cases e⟩
    rw [mq_grow_end, mb_f (fun q => q rfl)]
  | some T =>
    obtain ⟨hv, n3, cg⟩ := b5 T hb
    subst hv
    have gi := rootS_gin (k := k) (sz := sz) hb (fsS_is hr hC hb).1
    have z32 : S3 32 = S 32 := F3 32 (by decide)
    have zg : gk S3 k = gk S k := by unfold gk; rw [z32]
    have ol := opn_len (S 32) k 0 T
    obtain ⟨S', c, s, i1, i2, i3, i4⟩ := mq_grow (d := d) (C := C) (R := R) (sz := sz) (col := col) hW hC hcol h8 700 (rootS T) (opn (S 32) k 0 T) _ S3 n3 0 (c2 + c3) (v2 + v3) none none (by rw [z32, zg]; exact gi) cg (by show 0 + (2 * (300 - 1) + _) ≤ 600; omega) (by rw [z32, zg]; exact gal_is hb)
    rw [z32] at i4
    rw [nI_0] at i1
    exact ⟨S', c2 + c3 + c, v2 + v3 + s, start _ i1, mpot_tr mp1 i2, mfr_tr F3 i3, i4⟩
theorem mq_compile0 {S : Mem} (h : S 0 2 = nI 0) : mm_runD (d + 2) 95 [.inr 0] S = some (S, 1, 6, 1, 0) := by
  rw [dX7_compile, eX7_compile_0, mq_refuse0 h, mm_bd_thr]
/-- the class's compile -/
theorem mq_compile (hW : kW k) (hC : C ≤ 3) (hC0 : 0 < C) (hcol : ∀ c, c < C → col c < kT k) (h8 : ∀ t, kCnt k t (kM k) ≤ 8) {S : Mem} {n : Nat} (hK : mq_K S k) (hV : kV (S 3) k) (hr : rws S k C R sz) (hn : rm S n) (h0 : S 0 2 = nI C) (hc : ∀ c, c < C → S 7 c = nI (col c)) :
    ∃ S' c s, mpot S S' c s ∧ mfr (23 :: ccs) S S' ∧ S' 23 4 = N1 ∧ (gal (S 32) (gk S k) k C R col = none → mm_runD (d + 8) 95 [.inr 0] S = some (S', c + 1, s + 6, 4, 0) ∧ S' 19 3 = 0) ∧ ∀ σ, gal (S 32) (gk S k) k C R col = some σ → mm_runD (d + 8) 95 [.inr 0] S = some (S', c, s, 0, nI (gN σ)) ∧ cnd S' (S 32) σ ∧ S' 19 3 = 1 := by
  obtain ⟨S1, c1, v1, a1, a2, a3, a4⟩ := mq_growTree (d := d) (C := C) (R := R) (sz := sz) (col := col) hW hC hcol h8 (S := mm_put S 23 4 (-1)) (n := n) hK hV hr (rm_put hn (by decide)) h0 hc
  have e32 : (mm_put S 23 4 (-1)) 32 = S 32 := rfl
  have eg : gk (mm_put S 23 4 (-1)) k = gk S k := rfl
  rw [e32, eg] at a1 a4
  have mp1 : mpot S S1 c1 v1 := by
    have := mpot_tr (mpot_55 (S := S) (S' := mm_put S 23 4 (-1)) rfl) a2
    rw [Nat.zero_add, Nat.zero_add] at this
    exact this
  have F1 : mfr (23 :: ccs) S S1 := mfr_tr (mfr_put (by decide)) (mfr_up a3 (by decide))
  have x23 : S1 23 4 = N1 := by rw [a3 23 (by decide)]; exact mp_pp _ _ _ _
  have start : mm_runD (d + 8) 95 [.inr 0] S = mm_bd (some (S1, c1, v1, 0, mb (gal (S 32) (gk S k) k C R col ≠ none))) 0 0 (fun S3 c3 t3 a3 => (if a3 = 0 then mm_bd (mm_runD (d + 7) 68 [.inr 19] S3) c3 t3 (fun S4 c4 t4 a4 => some (S4, c4 + 1, t4 + 6, 4, 0)) else mm_bd (mm_runD (d + 7) 69 [.inr 19] S3) c3 t3 (fun S5 c5 t5 a5 => mm_bd (mm_runD (d + 7) 71 [.inr 19] S5) c5 t5 (fun S6 c6 t6 a6 => some (S6, c6, t6, 0, a6))))) := by
    rw [dX7_compile, eX7_compile_0, mq_refuse1 h0 hC0 hC, mm_bd_ret, dX0_forget, eX0_forget_0, mm_bd_ret, a1]
  cases hg : gal (S 32) (gk S k) k C R col with
  | none =>
    rw [hg, mb_f (fun q => q rfl)] at start
    refine ⟨mm_put (mm_put (mm_put S1 19 1 0) 19 2 0) 19 3 0, c1, v1, ?_, mfr_tr (mfr_tr (mfr_tr F1 (mfr_put (by decide))) (mfr_put (by decide))) (mfr_put (by decide)), x23, fun _ => ⟨?_, rfl⟩, fun σ e => by cases e⟩
    · have := mpot_tr mp1 (mpot_55 (S := S1) (S' := mm_put (mm_put (mm_put S1 19 1 0) 19 2 0) 19 3 0) rfl)
      rw [Nat.add_zero, Nat.add_zero] at this
      exact this
    · rw [start, mm_bd_ret, if_pos rfl, mq_fell, mm_bd_ret]
      simp only [Nat.zero_add, Nat.add_zero]
  | some σ =>
    rw [hg, mb_t (Option.some_ne_none σ)] at start
    have cn := a4 σ hg
    refine ⟨mm_put S1 19 3 1, c1, v1, ?_, mfr_tr F1 (mfr_put (by decide)), x23, (fun e => by cases e), fun σ' e => ?_⟩
    · have := mpot_tr mp1 (mpot_55 (S := S1) (S' := mm_put S1 19 3 1) rfl)
      rw [Nat.add_zero, Nat.add_zero] at this
      exact this
    · cases e
      refine ⟨?_, cn, rfl⟩
      have y : (mm_put S1 19 3 1) 19 1 = nI (gN σ) := cn.1
      rw [start, mm_bd_ret, if_neg (by decide), dX6_stand, eX6_stand_0, mm_bd_ret, dX6_count, eX6_count_0, mm_bd_ret, y]
      simp only [Nat.zero_add, Nat.add_zero]
end
