/-! PURE: the reference's compile -/
noncomputable def gal (G : Nat → Int32) (g : Nat → Nat) (k : KK) (C R : Nat) (col : Nat → Nat) : Option SG := match spT G g (fsT g C R col) with
  | none => none
  | some T => (grw G g k 700 (rootS T) (opn G k 0 T)).getD none
theorem opn_len (G : Nat → Int32) (k : KK) (n : Nat) (T : TB) : (opn G k n T).length ≤ 1 := by
  unfold opn
  split
  · exact Nat.le_refl _
  · exact Nat.zero_le _
theorem gal_is {G : Nat → Int32} {g : Nat → Nat} {k : KK} {C R : Nat} {col : Nat → Nat} {T : TB} (h : spT G g (fsT g C R col) = some T) : grw G g k 700 (rootS T) (opn G k 0 T) = some (gal G g k C R col) := by
  obtain ⟨r, hr⟩ := grw_some (G := G) (g := g) (k := k) 700 (rootS T) (opn G k 0 T) (show 1 ≤ 300 by decide) (by have := opn_len G k 0 T; show 2 * (300 - 1) + _ < 700; omega)
  have e : gal G g k C R col = (grw G g k 700 (rootS T) (opn G k 0 T)).getD none := by unfold gal; rw [h]
  rw [e, hr]
  rfl
theorem rootS_gin {G : Nat → Int32} {g : Nat → Nat} {k : KK} {C R : Nat} {sz : Nat → Nat} {col : Nat → Nat} {T : TB} (h : spT G g (fsT g C R col) = some T) (hw : wfT R sz T) : gin G g k C R sz col (rootS T) (opn G k 0 T) := by
  refine ⟨rootS_W h hw, fun e he => ?_, ?_, ?_, fun p a b c => ?_, fun p _ _ => rfl, by have := opn_len G k 0 T; exact this, rfl⟩
  · unfold opn at he
    by_cases q : kdT G T = 2
    · rw [if_pos q, List.mem_singleton] at he
      subst he
      exact ⟨show 0 < 1 by decide, q, 0, Nat.zero_le _, rfl, fun j hj => absurd hj (Nat.not_lt_zero _), fun m x => absurd x (Nat.not_lt_zero _), Nat.zero_add _⟩
    · rw [if_neg q] at he; cases he
  · unfold opn
    by_cases q : kdT G T = 2
    · rw [if_pos q]; exact ⟨rfl, trivial⟩
    · rw [if_neg q]; trivial
  · intro x hx n hn j hj
    exact absurd hj (Nat.not_lt_zero _)
  · have e : p = 0 := by have : p < 1 := a; omega
    subst e
    exfalso
    refine c (0, lvl k (tyT G T) (kM k) 0) ?_ rfl
    unfold opn
    rw [if_pos (show kdT G T = 2 from b)]
    exact List.mem_singleton.mpr rfl
section
variable {d : Nat} {k : KK} {C R : Nat} {sz : Nat → Nat} {col : Nat → Nat}
theorem mr_begin0 (hW : kW k) (hC : C ≤ 3) (hcol : ∀ c, c < C → col c < kT k) {S : Mem} (hs : rst S k C R sz col) (h24 : S 27 24 = 0) (h25 : S 27 25 = 0) :
    ∃ S', mm_runD (d + 7) 144 [.inr 27, .inl (-1), .inl (-1)] S = some (S', 0, 0, 0, 0) ∧ mfr rcs S S' ∧ (∀ j, j < 10 → S' 27 j = S 27 j) ∧ (spT (S 32) (gk S k) (fsT (gk S k) C R col) = none → S' 27 22 = 1 ∧ S' 27 25 = 0) ∧
      (∀ T, spT (S 32) (gk S k) (fsT (gk S k) C R col) = some T → S' 27 22 = 0 ∧ rnd S' (S 32) k (rootS T) ∧ S' 27 25 = nI (wlO (opn (S 32) k 0 T)).length ∧ mst2 (S' 50) (S' 51) (wlO (opn (S 32) k 0 T))) := by
  obtain ⟨s1, s2, s3, s4, s5⟩ := hs
  have hT := hW.1
  obtain ⟨S1, t1, t2, t3, t4, t5⟩ := mr_tableOf (d := d) (S := S) s1 hW s2 hC s4 s5 (τ := fun _ => (0, 0, fun _ => 0, fun _ => 0, fun _ _ => 0)) (tst := fun _ => 0) (mk := fun _ => 0) (n := 0) (m := 0) (wl := fun _ => 0) (by omega) (fun i hi => by omega) (fun i hi => by omega) (x2 := -1) (fun h => by omega) (fun h => by omega) (fun i hi => by omega) (fun j hj => by omega) (fun j hj => by omega) (fun j hj => by omega) (fun h => by omega)
  rw [if_neg (by omega)] at t1
  have ew : wyT (S 32) (gk S k) k C R col (fun _ => (0, 0, fun _ => 0, fun _ => 0, fun _ _ => 0)) (fun _ => 0) 0 (fun _ => 0) 0 = spT (S 32) (gk S k) (fsT (gk S k) C R col) := if_pos rfl
  rw [ew] at t4 t5
  have F1 : mfr rcs S S1 := mfr_up t2 (by decide)
  have e32 : S1 32 = S 32 := t2 32 (by decide)
  have q27 : ∀ j, j < 10 → S1 27 j = S 27 j := fun j hj => t3 j (by omega) (by omega) (by omega)
  cases hb : spT (S 32) (gk S k) (fsT (gk S k) C R col) with
  | none =>
    have z22 := t5 hb
    refine ⟨mm_put S1 27 22 1, ?_, mfr_tr F1 (mfr_put (by decide)), fun j hj => by rw [mp_pk _ _ _ (by omega)]; exact q27 j hj, fun _ => ⟨mp_pp _ _ _ _, by rw [mp_pk _ _ _ (by decide), t3 25 (by decide) (by decide) (by decide)]; exact h25⟩, fun T e => by cases e⟩
    rw [dX8_begin, eX8_begin_0, t1, mm_bd_ret, z22, if_neg (by decide)]
  | some T =>
    obtain ⟨tb, z22⟩ := t4 T hb
    obtain ⟨b2, b3, b4⟩ := fsS_is s2 hC hb
    have hst1 : rst S1 k C R sz col := rst_fr ⟨s1, s2, s3, s4, s5⟩ F1 (fun j hj _ => q27 j hj)
    obtain ⟨S', n1, n2, n3, n4, n5, n6, n7, n8⟩ := mr_node (d := d + 4) (S := S1) (k := k) (C := C) (R := R) (sz := sz) hst1.1 hW hst1.2.1 hst1.2.2.1 tb b2 (fun j hj => by rw [b4]; rw [b3] at hj; have := hcol j hj; omega) z22 (N := 0) (by omega) (by rw [t3 24 (by decide) (by decide) (by decide)]; exact h24) (x1 := -1) (x2 := -1) (W := []) (by rw [t3 25 (by decide) (by decide) (by decide)]; exact h25) (by decide) trivial t1
    rw [e32, List.append_nil] at n7 n8
    rw [e32] at n6
    have ewl : (if kdT (S 32) T = 2 then (lvl k (tyT (S 32) T) (kM k) 0).map (fun m => (0, m)) else []) = wlO (opn (S 32) k 0 T) := by
      unfold opn wlO
      by_cases q : kdT (S 32) T = 2
      · rw [if_pos q, if_pos q, List.flatMap_singleton]
      · rw [if_neg q, if_neg q]; rfl
    rw [ewl] at n7 n8
    refine ⟨S', n1, mfr_tr F1 (mfr_up n2 (by decide)), fun j hj => by rw [n3 j (by omega) (by omega)]; exact q27 j hj, (fun z => by cases z), fun T' e => ?_⟩
    cases e
    refine ⟨by rw [n3 22 (by decide) (by decide)]; exact z22, ⟨n4, fun i hi => ?_⟩, n7, n8⟩
    have e0 : i = 0 := by have : i < 1 := hi; omega
    subst e0
    rw [if_pos rfl, if_pos rfl]
    exact n6
theorem mr_grow (hW : kW k) (hC : C ≤ 3) (hcol : ∀ c, c < C → col c < kT k) (h8 : ∀ t, kCnt k t (kM k) ≤ 8) : ∀ (f : Nat) (σ : SG) (O : List (Nat × List Nat)) (r : Option SG) (S : Mem), gin (S 32) (gk S k) k C R sz col σ O → rst S k C R sz col → rnd S (S 32) k σ → S 27 22 = 0 → S 27 25 = nI (wlO O).length → mst2 (S 50) (S 51) (wlO O) → grw (S 32) (gk S k) k f σ O = some r →
    ∃ S' v, mm_E (mm_runD (d + 7)) pX8_compile 1 28 [some (.inr 27)] [] S 0 0 = some (S', 0, 0, 0, v) ∧ mfr rcs S S' ∧ (∀ j, j < 10 → j ≠ 0 → S' 27 j = S 27 j) ∧ (∀ σ', r = some σ' → v = nI (gN σ') ∧ rnd S' (S 32) k σ' ∧ S' 27 0 = S 27 0 ∧ gin (S 32) (gk S k) k C R sz col σ' []) ∧ (r = none → v = 0 ∧ S' 27 24 = N1 ∧ S' 27 0 = 2) := by
  intro f
  induction f with
  | zero => intro σ O r S _ _ _ _ _ _ h; cases h
  | succ f ih =>
    intro σ O r S hg hs hn h22 h25 hm hgr
    match O, hg, h25, hm, hgr with
    | [], hg, h25, hm, hgr =>
      have e : r = some σ := by unfold grw at hgr; cases hgr; rfl
      subst e
      refine ⟨S, nI (gN σ), ?_, mfr_rf, fun _ _ _ => rfl, fun σ' e => by cases e; exact ⟨rfl, hn, rfl, hg⟩, fun e => by cases e⟩
      rw [eX8_compile_28, h25, if_pos (show nI (wlO []).length ≤ 0 by decide), h22, if_pos rfl, hn.1]
    | (p, []) :: O, hg, h25, hm, hgr =>
      have hgr' : grw (S 32) (gk S k) k f σ O = some r := by unfold grw at hgr; exact hgr
      have ew : wlO ((p, []) :: O) = wlO O := rfl
      rw [ew] at h25 hm
      exact ih σ O r S (gin_pop hg) hs hn h22 h25 hm hgr'
    | (p, m :: l) :: O, hg, h25, hm, hgr =>
      have ew : wlO ((p, m :: l) :: O) = (p, m) :: wlO ((p, l) :: O) := rfl
      rw [ew] at h25 hm
      rw [List.length_cons] at h25
      obtain ⟨m1, m2, m3⟩ := hm
      have l8 : ∀ t, (lvl k t (kM k) 0).length ≤ 8 := fun t => by
        have := lvl_cnt (k := k) (t := t) (kM k) 0
        rw [Nat.zero_add] at this
        have := h8 t
        omega
      have lw : (wlO ((p, l) :: O)).length ≤ 2400 := by
        have := wlO_len (O := (p, l) :: O) (by
          intro e he
          rcases List.mem_cons.mp he with rfl | he
          · obtain ⟨_, _, _, _, _, _, _, c7⟩ := hg.2.1 (p, m :: l) List.mem_cons_self
            have := l8 (tyT (S 32) (gT σ p))
            rw [List.length_cons] at c7
            have c7' : gC σ p + (l.length + 1) = (lvl k (tyT (S 32) (gT σ p)) (kM k) 0).length := c7
            show l.length ≤ 8
            omega
          · obtain ⟨_, _, _, _, _, _, _, c7⟩ := hg.2.1 e (List.mem_cons_of_mem _ he)
            have := l8 (tyT (S 32) (gT σ e.1))
            omega)
        have g7 := hg.2.2.2.2.2.2.1
        have g2 := hg.1.2.1
        rw [List.length_cons] at this g7
        omega
      obtain ⟨S1, eS⟩ : ∃ S1, S1 = mm_put S 27 25 (nI (wlO ((p, l) :: O)).length) := ⟨_, rfl⟩
      have e32 : S1 32 = S 32 := by subst eS; rfl
      have eg : gk S1 k = gk S k := by subst eS; rfl
      have F1 : mfr rcs S S1 := by subst eS; exact mfr_put (by decide)
      have q27 : ∀ j, j < 10 → S1 27 j = S 27 j := by intro j hj; subst eS; exact mp_pk _ _ _ (by omega)
      have hs1 : rst S1 k C R sz col := rst_fr hs F1 (fun j hj _ => q27 j hj)
      obtain ⟨S2, b1, b2, b3, b4, b5⟩ := mr_begin (d := d) (S := S1) hW hC hcol h8 (σ := σ) (p := p) (m := m) (r := l) (O := O) (by rw [e32, eg]; exact hg) hs1 (by rw [e32]; subst eS; exact hn) (by subst eS; exact mp_pp _ _ _ _) (by subst eS; exact m3)
      rw [e32, eg] at b4 b5
      have x32 : S2 32 = S 32 := (b2 32 (by decide)).trans e32
      have xg : gk S2 k = gk S k := by unfold gk; rw [x32]
      have start : mm_E (mm_runD (d + 7)) pX8_compile 1 28 [some (.inr 27)] [] S 0 0 = mm_E (mm_runD (d + 7)) pX8_compile 1 28 [some (.inr 27)] [] S2 0 0 := by
        have y50 : S1 50 (wlO ((p, l) :: O)).length = nI p := by subst eS; exact m1
        have y51 : S1 51 (wlO ((p, l) :: O)).length = nI m := by subst eS; exact m2
        have y25 : S1 27 25 = nI (wlO ((p, l) :: O)).length := by subst eS; exact mp_pp _ _ _ _
        conv => lhs; rw [eX8_compile_28]
        rw [h25, if_neg (nI_nle (by omega) (by omega)), h22, if_pos rfl, nI_pred, ← eS, y25, ar_50 (by omega), ar_51 (by omega), y50, y51, b1, mm_bd_ret]
      have fail : S2 27 22 = 1 → r = none → ∃ S' v, mm_E (mm_runD (d + 7)) pX8_compile 1 28 [some (.inr 27)] [] S 0 0 = some (S', 0, 0, 0, v) ∧ mfr rcs S S' ∧ (∀ j, j < 10 → j ≠ 0 → S' 27 j = S 27 j) ∧ (∀ σ', r = some σ' → v = nI (gN σ') ∧ rnd S' (S 32) k σ' ∧ S' 27 0 = S 27 0 ∧ gin (S 32) (gk S k) k C R sz col σ' []) ∧ (r = none → v = 0 ∧ S' 27 24 = N1 ∧ S' 27 0 = 2) := by
        intro z22 hr
        refine ⟨mm_put (mm_put S2 27 24 (-1)) 27 0 2, 0, ?_, mfr_tr (mfr_tr (mfr_tr F1 b2) (mfr_put (by decide))) (mfr_put (by decide)), fun j hj h0 => ?_, (fun σ' e => by rw [hr] at e; cases e), fun _ => ⟨rfl, rfl, mp_pp _ _ _ _⟩⟩
        · rw [start, eX8_compile_28, z22, if_neg (show ¬ (1 : Int32) = 0 by decide), if_neg (show ¬ (1 : Int32) = 0 by decide), ite_self]
        · rw [mp_pk _ _ _ h0, mp_pk _ _ _ (by omega), b3 j hj, q27 j hj]
      unfold grw at hgr
      cases hb : brS (S 32) (gk S k) k (gT σ p) (tsT (S 32) (gT σ p)) m with
      | none =>
        rw [hb] at hgr
        cases hgr
        exact fail (b4 (Or.inl hb)) rfl
      | some T =>
        rw [hb] at hgr
        by_cases q3 : gN σ = 300
        · have hgr' : (if gN σ = 300 then some none else grw (S 32) (gk S k) k f (addS σ p m T) (opn (S 32) k (gN σ) T ++ (p, l) :: O)) = some r := hgr
          rw [if_pos q3] at hgr'
          cases hgr'
          exact fail (b4 (Or.inr q3)) rfl
        · have hgr' : (if gN σ = 300 then some none else grw (S 32) (gk S k) k f (addS σ p m T) (opn (S 32) k (gN σ) T ++ (p, l) :: O)) = some r := hgr
          rw [if_neg q3] at hgr'
          obtain ⟨c1, c2, c3, c4⟩ := b5 T hb q3
          have ga := gin_add (G := S 32) (g := gk S k) (fun T c m' hw hc hm' T' hbb => (brS_is hW hs.2.1 hw hc hm' hbb).2.1) hg q3 hb
          have hs2 : rst S2 k C R sz col := rst_fr hs1 b2 (fun j hj _ => b3 j hj)
          obtain ⟨S', v, i1, i2, i3, i4, i5⟩ := ih (addS σ p m T) (opn (S 32) k (gN σ) T ++ (p, l) :: O) r S2 (by rw [x32, xg]; exact ga) hs2 (by rw [x32]; exact c2) c1 c3 c4 (by rw [x32, xg]; exact hgr')
          rw [x32, xg] at i4
          refine ⟨S', v, by rw [start]; exact i1, mfr_tr (mfr_tr F1 b2) i2, fun j hj h0 => by rw [i3 j hj h0, b3 j hj, q27 j hj], fun σ' e => ?_, i5⟩
          obtain ⟨u1, u2, u3, u4⟩ := i4 σ' e
          exact ⟨u1, u2, by rw [u3, b3 0 (by decide), q27 0 (by decide)], u4⟩
theorem mr_compile0 {S : Mem} (h6 : S 27 6 = nI 0) : mm_runD (d + 1) 145 [.inr 27] S = some (mm_put S 27 0 1, 0, 0, 0, 0) := by
  rw [dX8_compile, eX8_compile_0, h6, if_pos nI_0, mp_pp, if_neg (by decide)]
theorem mr_compile (hW : kW k) (hC : C ≤ 3) (hC0 : 0 < C) (hcol : ∀ c, c < C → col c < kT k) (h8 : ∀ t, kCnt k t (kM k) ≤ 8) {S : Mem} (hK : mr_K S k) (hr : rws S k C R sz) (h30 : ∀ t, 8 ≤ t → S 30 t = 0) (h6 : S 27 6 = nI C) (hc : ∀ c, c < C → S 31 c = nI (col c)) :
    ∃ S' v, mm_runD (d + 8) 145 [.inr 27] S = some (S', 0, 0, 0, v) ∧ mfr (30 :: rcs) S S' ∧ (∀ j, j < 10 → j ≠ 0 → S' 27 j = S 27 j) ∧ kV (S' 30) k ∧ (∀ σ, gal (S 32) (gk S k) k C R col = some σ → v = nI (gN σ) ∧ rnd S' (S 32) k σ ∧ S' 27 0 = 0 ∧ gin (S 32) (gk S k) k C R sz col σ []) ∧ (gal (S 32) (gk S k) k C R col = none → v = 0 ∧ S' 27 24 = N1 ∧ S' 27 0 = 2) := by
  obtain ⟨f30, f1, f2⟩ := mr_find (d := d + 4) (S := mm_put S 27 0 0) (k := k) hK hW h30
  obtain ⟨S1, eS⟩ : ∃ S1, S1 = mm_put (mm_put (mm_put (mm_stc (mm_put S 27 0 0) 30 f30) 27 24 0) 27 25 0) 27 22 0 := ⟨_, rfl⟩
  have hs1 : rst S1 k C R sz col := by subst eS; exact ⟨hK, hr, f2, h6, hc⟩
  have e32 : S1 32 = S 32 := by subst eS; rfl
  have eg : gk S1 k = gk S k := by subst eS; rfl
  have F1 : mfr (30 :: rcs) S S1 := by subst eS; exact mfr_tr (mfr_tr (mfr_tr (mfr_tr (mfr_put (by decide)) (mfr_stc (by decide))) (mfr_put (by decide))) (mfr_put (by decide))) (mfr_put (by decide))
  have q27 : ∀ j, j < 10 → j ≠ 0 → S1 27 j = S 27 j := by
    intro j hj h0
    subst eS
    rw [mp_pk _ _ _ (by omega), mp_pk _ _ _ (by omega), mp_pk _ _ _ (by omega), mm_stc_ne _ _ (by decide), mp_pk _ _ _ h0]
  have z0 : S1 27 0 = 0 := by subst eS; rfl
  have x30 : S1 30 = f30 := by subst eS; rfl
  obtain ⟨S2, b1, b2, b3, b4, b5⟩ := mr_begin0 (d := d) (S := S1) hW hC hcol hs1 (by subst eS; rfl) (by subst eS; rfl)
  rw [e32, eg] at b4 b5
  have x32 : S2 32 = S 32 := (b2 32 (by decide)).trans e32
  have xg : gk S2 k = gk S k := by unfold gk; rw [x32]
  have start : ∀ Z, mm_E (mm_runD (d + 7)) pX8_compile 1 28 [some (.inr 27)] [] S2 0 0 = Z → mm_runD (d + 8) 145 [.inr 27] S = Z := by
    intro Z hZ
    rw [dX8_compile, eX8_compile_0, h6, if_neg (nI_ne0 hC0 (by omega)), mp_pp, if_pos (show (0 : Int32) ≤ 0 by decide), f1, mm_bd_ret, ← eS, b1, mm_bd_ret]
    exact hZ
  have up : ∀ c, c ∈ rcs → c ∈ 30 :: rcs := fun c h => List.mem_cons_of_mem _ h
  cases hb : spT (S 32) (gk S k) (fsT (gk S k) C R col) with
  | none =>
    obtain ⟨z22, z25⟩ := b4 hb
    have eg0 : gal (S 32) (gk S k) k C R col = none := by unfold gal; rw [hb]
    rw [eg0]
    refine ⟨mm_put (mm_put S2 27 24 (-1)) 27 0 2, 0, start _ ?_, mfr_tr (mfr_tr (mfr_tr F1 (mfr_up b2 up)) (mfr_put (by decide))) (mfr_put (by decide)), fun j hj h0 => by rw [mp_pk _ _ _ h0, mp_pk _ _ _ (by omega), b3 j hj, q27 j hj h0], ?_, (fun σ e => by cases e), fun _ => ⟨rfl, rfl, mp_pp _ _ _ _⟩⟩
    · rw [eX8_compile_28, z25, if_pos (by decide), z22, if_neg (by decide)]
    · rw [mp_pn _ _ _ (by decide), mp_pn _ _ _ (by decide), b2 30 (by decide), x30]; exact f2
  | some T =>
    obtain ⟨c1, c2, c3, c4⟩ := b5 T hb
    have gi := rootS_gin (k := k) (sz := sz) hb (fsS_is hr hC hb).1
    have hs2 : rst S2 k C R sz col := rst_fr hs1 b2 (fun j hj _ => b3 j hj)
    obtain ⟨S', v, i1, i2, i3, i4, i5⟩ := mr_grow (d := d) (C := C) (R := R) (sz := sz) (col := col) hW hC hcol h8 700 (rootS T) (opn (S 32) k 0 T) _ S2 (by rw [x32, xg]; exact gi) hs2 (by rw [x32]; exact c2) c1 c3 c4 (by rw [x32, xg]; exact gal_is hb)
    rw [x32, xg] at i4
    refine ⟨S', v, start _ i1, mfr_tr (mfr_tr F1 (mfr_up b2 up)) (mfr_up i2 up), fun j hj h0 => by rw [i3 j hj h0, b3 j hj, q27 j hj h0], by rw [i2 30 (by decide), b2 30 (by decide), x30]; exact f2, fun σ e => ?_, i5⟩
    obtain ⟨u1, u2, u3, u4⟩ := i4 σ e
    exact ⟨u1, u2, by rw [u3, b3 0 (by decide)]; exact z0, u4⟩
end
