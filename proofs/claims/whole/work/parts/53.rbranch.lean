/-! PURE: the reference's branch, first table, table of a way -/
section
variable {d : Nat} {S : Mem} {k : KK} {C R : Nat} {sz : Nat → Nat}
theorem mr_br_lines (hW : kW k) {T : TB} {c m : Nat} (hw : wfT R sz T) (hc : c < tP T) (hm : m < kM k) (h4 : tP T - 1 + kFc k m ≤ 40) : ∀ (n l : Nat) (S : Mem) (o6 o7 : Option MV), tL T - l = n → l ≤ tL T → mr_K S k → rws S k C R sz → S 27 17 = nI (tP T) → S 27 18 = nI (tL T) →
    (∀ i, i < (brL (S 32) (gk S k) T c m (kFc k m) l).1 → S 39 i = nI ((brL (S 32) (gk S k) T c m (kFc k m) l).2.1 i)) → (∀ i j, i < (brL (S 32) (gk S k) T c m (kFc k m) l).1 → j < tP T - 1 + kFc k m → S 40 (44 * i + j) = (brL (S 32) (gk S k) T c m (kFc k m) l).2.2 i j) →
    (∀ i, l ≤ i → i < tL T → S 39 i = nI (tR T i)) → (∀ i j, l ≤ i → i < tL T → j < tP T → S 40 (44 * i + j) = tC T i j) →
    ∃ S' o6' o7', mm_E (mm_runD (d + 3)) pX8_branch 0 28 [some (.inr 27), some (.inl (nI c)), some (.inl (nI m)), some (.inl (nI (kFc k m))), some (.inl (nI (brL (S 32) (gk S k) T c m (kFc k m) l).1)), some (.inl (nI l)), o6, o7] [] S 0 0 = mm_E (mm_runD (d + 3)) pX8_branch 0 28 [some (.inr 27), some (.inl (nI c)), some (.inl (nI m)), some (.inl (nI (kFc k m))), some (.inl (nI (brL (S 32) (gk S k) T c m (kFc k m) (tL T)).1)), some (.inl (nI (tL T))), o6', o7'] [] S' 0 0 ∧ mfr [39, 40, 41] S S' ∧
      (∀ i, i < (brL (S 32) (gk S k) T c m (kFc k m) (tL T)).1 → S' 39 i = nI ((brL (S 32) (gk S k) T c m (kFc k m) (tL T)).2.1 i)) ∧ (∀ i j, i < (brL (S 32) (gk S k) T c m (kFc k m) (tL T)).1 → j < tP T - 1 + kFc k m → S' 40 (44 * i + j) = (brL (S 32) (gk S k) T c m (kFc k m) (tL T)).2.2 i j) := by
  have hM := hW.2.1
  have hf3 := (hW.2.2 m hm).2.1
  obtain ⟨w1, w2, w3⟩ := hw
  intro n
  induction n with
  | zero =>
    intro l S o6 o7 hn hl hK hr h17 h18 g1 g2 g3 g4
    have e : l = tL T := by omega
    subst e
    exact ⟨S, o6, o7, rfl, mfr_rf, g1, g2⟩
  | succ n ih =>
    intro l S o6 o7 hn hl hK hr h17 h18 g1 g2 g3 g4
    have hlt : l < tL T := by omega
    have hle := brL_le (G := S 32) (g := gk S k) (T := T) (c := c) (m := m) (f := kFc k m) l
    have hsg := mr_signOf (d := d + 2) hr (w3 l c hlt hc)
    have hcell := g4 l c (Nat.le_refl _) hlt hc
    by_cases hk : kpl (S 32) T c m l
    · -- kept
      obtain ⟨S1, eS⟩ : ∃ S1, S1 = mm_put S 39 (brL (S 32) (gk S k) T c m (kFc k m) l).1 (nI (tR T l)) := ⟨_, rfl⟩
      have F1 : mfr [39, 40, 41] S S1 := by subst eS; exact mfr_put (by simp)
      have e32 : S1 32 = S 32 := F1 32 (by decide)
      have eg : gk S1 k = gk S k := by unfold gk; rw [e32]
      have hK1 : mr_K S1 k := by subst eS; exact hK
      have hr1 : rws S1 k C R sz := by subst eS; exact hr
      have key : ∀ y : Int32, ((y = N1 ∧ sgc (S 32) (tC T l c) = N1) ∨ (y = tC T l c ∧ sgc (S 32) (tC T l c) = nI m)) → ∃ w v, mm_runD (d + 3) 142 [.inr 27, .inl (nI l), .inl (nI (brL (S 32) (gk S k) T c m (kFc k m) l).1), .inl (nI c), .inl (nI (kFc k m)), .inl y] S1 = some (mm_stc (mm_stc S1 41 w) 40 v, 0, 0, 0, 0) ∧ (∀ j, j < tP T - 1 + kFc k m → v (44 * (brL (S 32) (gk S k) T c m (kFc k m) l).1 + j) = wdn (S 32) (gk S k) T c (kFc k m) l j) ∧ ∀ l' j, l' ≠ (brL (S 32) (gk S k) T c m (kFc k m) l).1 → j < 44 → v (44 * l' + j) = S 40 (44 * l' + j) := by
        intro y hy
        have e40 : S1 40 = S 40 := by subst eS; rfl
        obtain ⟨w, v, a1, a2, a3⟩ := mr_widen (d := d) (S := S1) hK1 hW hr1 (l := l) (n0 := (brL (S 32) (gk S k) T c m (kFc k m) l).1) (c := c) (f := kFc k m) (P := tP T) (y := y) (pt := fun j => if sgc (S 32) (tC T l c) = N1 then N1 else nI (nth (gk S k) ((tC T l c).toNatClampNeg + 1) j)) (by subst eS; exact h17) w1 hc hf3 (by omega) (by omega) (by
          rcases hy with ⟨y1, y2⟩ | ⟨y1, y2⟩
          · exact Or.inl ⟨y1, fun i => if_pos y2⟩
          · obtain ⟨p, e1, e2, e3, e4, e5⟩ := kpl_p hW hr ⟨w1, w2, w3⟩ hlt hc hm y2
            refine Or.inr ⟨p, okp_lt hr e1, y1.trans e2, fun i hi => ?_⟩
            rw [eg, e4, if_neg (show ¬ sgc (S 32) (tC T l c) = N1 by rw [y2]; exact fun q => (nn_a1 (a := m) (by omega)).mp q)]
            exact ⟨okp_part hr e1 (by omega), rfl⟩)
        rw [e40] at a2 a3
        refine ⟨w, v, a1, fun j hj => ?_, a3⟩
        rw [a2 j hj]
        unfold wdn
        by_cases q1 : j < c
        · rw [if_pos q1, if_pos q1]; exact g4 l j (Nat.le_refl _) hlt (by omega)
        · rw [if_neg q1, if_neg q1]
          by_cases q2 : j < c + kFc k m
          · rw [if_pos q2, if_pos q2]
          · rw [if_neg q2, if_neg q2]; exact g4 l (j + 1 - kFc k m) (Nat.le_refl _) hlt (by omega)
      have fin : ∀ (w v : Nat → Int32) (p6 p7 : Option MV), (∀ j, j < tP T - 1 + kFc k m → v (44 * (brL (S 32) (gk S k) T c m (kFc k m) l).1 + j) = wdn (S 32) (gk S k) T c (kFc k m) l j) → (∀ l' j, l' ≠ (brL (S 32) (gk S k) T c m (kFc k m) l).1 → j < 44 → v (44 * l' + j) = S 40 (44 * l' + j)) →
          ∃ S' o6' o7', mm_E (mm_runD (d + 3)) pX8_branch 0 28 [some (.inr 27), some (.inl (nI c)), some (.inl (nI m)), some (.inl (nI (kFc k m))), some (.inl (nI ((brL (S 32) (gk S k) T c m (kFc k m) l).1 + 1))), some (.inl (nI (l + 1))), p6, p7] [] (mm_stc (mm_stc S1 41 w) 40 v) 0 0 = mm_E (mm_runD (d + 3)) pX8_branch 0 28 [some (.inr 27), some (.inl (nI c)), some (.inl (nI m)), some (.inl (nI (kFc k m))), some (.inl (nI (brL (S 32) (gk S k) T c m (kFc k m) (tL T)).1)), some (.inl (nI (tL T))), o6', o7'] [] S' 0 0 ∧ mfr [39, 40, 41] S S' ∧
            (∀ i, i < (brL (S 32) (gk S k) T c m (kFc k m) (tL T)).1 → S' 39 i = nI ((brL (S 32) (gk S k) T c m (kFc k m) (tL T)).2.1 i)) ∧ (∀ i j, i < (brL (S 32) (gk S k) T c m (kFc k m) (tL T)).1 → j < tP T - 1 + kFc k m → S' 40 (44 * i + j) = (brL (S 32) (gk S k) T c m (kFc k m) (tL T)).2.2 i j) := by
        intro w v p6 p7 hv1 hv2
        have x32 : (mm_stc (mm_stc S1 41 w) 40 v) 32 = S 32 := e32
        have xg : gk (mm_stc (mm_stc S1 41 w) 40 v) k = gk S k := eg
        have x39 : ∀ i, (mm_stc (mm_stc S1 41 w) 40 v) 39 i = if i = (brL (S 32) (gk S k) T c m (kFc k m) l).1 then nI (tR T l) else S 39 i := by
          intro i
          subst eS
          by_cases e : i = (brL (S 32) (gk S k) T c m (kFc k m) l).1
          · rw [if_pos e, e, mm_stc_ne _ _ (by decide), mm_stc_ne _ _ (by decide), mp_pp]
          · rw [if_neg e, mm_stc_ne _ _ (by decide), mm_stc_ne _ _ (by decide), mp_pk _ _ _ e]
        have IH := ih (l + 1) (mm_stc (mm_stc S1 41 w) 40 v) p6 p7 (by omega) (by omega) hK1 hr1 (by subst eS; exact h17) (by subst eS; exact h18)
        rw [x32, xg, brL_t hk] at IH
        obtain ⟨S', o6', o7', b1, b2, b3, b4⟩ := IH (fun i hi => by
          have hi' : i < (brL (S 32) (gk S k) T c m (kFc k m) l).1 + 1 := hi
          rw [x39]
          show _ = nI (if i = (brL (S 32) (gk S k) T c m (kFc k m) l).1 then tR T l else (brL (S 32) (gk S k) T c m (kFc k m) l).2.1 i)
          by_cases e : i = (brL (S 32) (gk S k) T c m (kFc k m) l).1
          · rw [if_pos e, if_pos e]
          · rw [if_neg e, if_neg e]; exact g1 i (by omega)) (fun i j hi hj => by
          have hi' : i < (brL (S 32) (gk S k) T c m (kFc k m) l).1 + 1 := hi
          show v (44 * i + j) = (if i = (brL (S 32) (gk S k) T c m (kFc k m) l).1 then wdn (S 32) (gk S k) T c (kFc k m) l else (brL (S 32) (gk S k) T c m (kFc k m) l).2.2 i) j
          by_cases e : i = (brL (S 32) (gk S k) T c m (kFc k m) l).1
          · rw [if_pos e, e]; exact hv1 j hj
          · rw [if_neg e, hv2 i j e (by omega)]; exact g2 i j (by omega) hj) (fun i a b => by
          rw [x39, if_neg (by omega)]; exact g3 i (by omega) b) (fun i j a b c' => by
          show v (44 * i + j) = tC T i j
          rw [hv2 i j (by omega) (by omega)]; exact g4 i j (by omega) b c')
        exact ⟨S', o6', o7', b1, mfr_tr (mfr_tr F1 (mfr_tr (mfr_stc (by simp)) (mfr_stc (by simp)))) b2, b3, b4⟩
      have n39 : (brL (S 32) (gk S k) T c m (kFc k m) l).1 < 62 := by omega
      have h39 := g3 l (Nat.le_refl _) hlt
      by_cases hs : sgc (S 32) (tC T l c) = N1
      · obtain ⟨w, v, a1, a2, a3⟩ := key N1 (Or.inl ⟨rfl, hs⟩)
        obtain ⟨S', o6', o7', b1, b2, b3, b4⟩ := fin w v (some (.inl (tC T l c))) (some (.inl N1)) a2 a3
        refine ⟨S', o6', o7', ?_, b2, b3, b4⟩
        conv => lhs; rw [eX8_branch_28]
        rw [h18, if_neg (nI_ge hlt (by omega)), li_44, nn_mul, nI_add, ar_40 (by omega), hcell, hsg, mm_bd_ret, hs, if_pos rfl, ar_39 (by omega), ar_39 n39, if_pos rfl, h39, ← eS, a1, mm_bd_ret, nI_1, nI_1]
        exact b1
      · have hs' : sgc (S 32) (tC T l c) = nI m := hk.elim (fun q => absurd q hs) (fun q => q)
        obtain ⟨w, v, a1, a2, a3⟩ := key (tC T l c) (Or.inr ⟨rfl, hs'⟩)
        obtain ⟨S', o6', o7', b1, b2, b3, b4⟩ := fin w v (some (.inl (tC T l c))) (some (.inl (nI m))) a2 a3
        refine ⟨S', o6', o7', ?_, b2, b3, b4⟩
        have hm1 : ¬ nI m = -1 := fun q => (nn_a1 (a := m) (by omega)).mp q
        conv => lhs; rw [eX8_branch_28]
        rw [h18, if_neg (nI_ge hlt (by omega)), li_44, nn_mul, nI_add, ar_40 (by omega), hcell, hsg, mm_bd_ret, hs', if_neg hm1, if_pos rfl, ar_39 (by omega), ar_39 n39, if_neg hm1, h39, ← eS, a1, mm_bd_ret, nI_1, nI_1]
        exact b1
    · have hn1 : ¬ sgc (S 32) (tC T l c) = N1 := fun q => hk (Or.inl q)
      have hn2 : ¬ sgc (S 32) (tC T l c) = nI m := fun q => hk (Or.inr q)
      have IH := ih (l + 1) S (some (.inl (tC T l c))) (some (.inl (sgc (S 32) (tC T l c)))) (by omega) (by omega) hK hr h17 h18
      rw [brL_f hk] at IH
      obtain ⟨S', o6', o7', b1, b2, b3, b4⟩ := IH g1 g2 (fun i a b => g3 i (by omega) b) (fun i j a b c' => g4 i j (by omega) b c')
      refine ⟨S', o6', o7', ?_, b2, b3, b4⟩
      conv => lhs; rw [eX8_branch_28]
      rw [h18, if_neg (nI_ge hlt (by omega)), li_44, nn_mul, nI_add, ar_40 (by omega), hcell, hsg, mm_bd_ret, if_neg hn1, if_neg hn2, nI_1]
      exact b1
/-- the types move to the right -/
theorem mr_br_t1 {c f : Nat} {x2 : Int32} {o4 o6 o7 : Option MV} (hf : 0 < f) (hf3 : f ≤ 3) : ∀ (n i : Nat) (u : Nat → Int32), i - c = n → c ≤ i → i ≤ 40 →
    ∃ u', mm_E (mm_runD d) pX8_branch 0 87 [some (.inr 27), some (.inl (nI c)), some (.inl x2), some (.inl (nI f)), o4, some (.inl (nI i)), o6, o7] [] (mm_stc S 38 u) 0 0 = mm_E (mm_runD d) pX8_branch 0 106 [some (.inr 27), some (.inl (nI c)), some (.inl x2), some (.inl (nI f)), o4, some (.inl (nI c)), o6, o7] [] (mm_stc S 38 u') 0 0 ∧ ∀ j, u' j = if c + f ≤ j ∧ j < i + f then u (j + 1 - f) else u j := by
  intro n
  induction n with
  | zero =>
    intro i u hn hc hi
    refine ⟨u, ?_, fun j => by rw [if_neg (by omega)]⟩
    rw [eX8_branch_87, if_pos (nI_le (by omega) (by omega))]
  | succ n ih =>
    intro i u hn hc hi
    obtain ⟨u', h1, h2⟩ := ih (i - 1) (upd u (i + f - 1) (u i)) (by omega) (by omega) (by omega)
    refine ⟨u', ?_, fun j => ?_⟩
    · rw [eX8_branch_87, if_neg (nI_ge (by omega) (by omega)), ar_38 (by omega), nI_add, show nI (i + f) - 1 = nI (i + f - 1) from nn_sub (b := 1) (by omega), ar_38 (by omega), mm_stc_at, mm_put_stc, nn_sm, show nI i - 1 = nI (i - 1) from nn_sub (b := 1) (by omega), h1]
    · rw [h2]
      by_cases e : j = i + f - 1
      · subst e
        rw [if_neg (by omega), if_pos (by omega), show i + f - 1 + 1 - f = i by omega]; exact pk_us
      · by_cases q : c + f ≤ j ∧ j < i - 1 + f
        · rw [if_pos q, if_pos (by omega)]; exact pk_un (by omega)
        · rw [if_neg q, if_neg (by omega)]; exact pk_un e
/-- or to the left -/
theorem mr_br_t2 {c P : Nat} {x2 : Int32} {o4 o6 o7 : Option MV} (h17 : S 27 17 = nI P) (hP : P ≤ 40) : ∀ (n i : Nat) (u : Nat → Int32), P - i = n → i < P →
    ∃ u', mm_E (mm_runD d) pX8_branch 0 106 [some (.inr 27), some (.inl (nI c)), some (.inl x2), some (.inl (nI 0)), o4, some (.inl (nI i)), o6, o7] [] (mm_stc S 38 u) 0 0 = mm_E (mm_runD d) pX8_branch 0 128 [some (.inr 27), some (.inl (nI c)), some (.inl x2), some (.inl (nI 0)), o4, some (.inl (nI 0)), o6, o7] [] (mm_stc S 38 u') 0 0 ∧ ∀ j, u' j = if i ≤ j ∧ j + 1 < P then u (j + 1) else u j := by
  intro n
  induction n with
  | zero => intro i u hn hi; omega
  | succ n ih =>
    intro i u hn hi
    have h17' : (mm_stc S 38 u) 27 17 = nI P := h17
    by_cases q : P ≤ i + 1
    · refine ⟨u, ?_, fun j => by rw [if_neg (by omega)]⟩
      rw [eX8_branch_106, if_pos nI_0, h17', nI_1, if_pos (nI_le q (by omega)), nI_0]
    · obtain ⟨u', h1, h2⟩ := ih (i + 1) (upd u i (u (i + 1))) (by omega) (by omega)
      refine ⟨u', ?_, fun j => ?_⟩
      · rw [eX8_branch_106, if_pos nI_0, h17', nI_1, if_neg (nI_ge (by omega) (by omega)), ar_38 (by omega), ar_38 (by omega), mm_stc_at, mm_put_stc, h1]
      · rw [h2]
        by_cases e : j = i
        · subst e
          rw [if_neg (by omega), if_pos (by omega)]; exact pk_us
        · by_cases z : i + 1 ≤ j ∧ j + 1 < P
          · rw [if_pos z, if_pos (by omega)]; exact pk_un (by omega)
          · rw [if_neg z, if_neg (by omega)]; exact pk_un e
theorem mr_br_t3 (hK : mr_K S k) (hW : kW k) {c m : Nat} {o4 o6 o7 : Option MV} (hm : m < kM k) (hc : c ≤ 40) : ∀ (n i : Nat) (u : Nat → Int32), kFc k m - i = n → i ≤ kFc k m →
    ∃ u', mm_E (mm_runD d) pX8_branch 0 128 [some (.inr 27), some (.inl (nI c)), some (.inl (nI m)), some (.inl (nI (kFc k m))), o4, some (.inl (nI i)), o6, o7] [] (mm_stc S 38 u) 0 0 = mm_E (mm_runD d) pX8_branch 0 128 [some (.inr 27), some (.inl (nI c)), some (.inl (nI m)), some (.inl (nI (kFc k m))), o4, some (.inl (nI (kFc k m))), o6, o7] [] (mm_stc S 38 u') 0 0 ∧ ∀ j, u' j = if c + i ≤ j ∧ j < c + kFc k m then nI (kFt k m (j - c)) else u j := by
  have hM := hW.2.1
  have hf3 := (hW.2.2 m hm).2.1
  intro n
  induction n with
  | zero =>
    intro i u hn hi
    have e : i = kFc k m := by omega
    subst e
    exact ⟨u, rfl, fun j => by rw [if_neg (by omega)]⟩
  | succ n ih =>
    intro i u hn hi
    have hK' : mr_K (mm_stc S 38 u) k := hK
    obtain ⟨u', h1, h2⟩ := ih (i + 1) (upd u (c + i) (nI (kFt k m i))) (by omega) (by omega)
    refine ⟨u', ?_, fun j => ?_⟩
    · conv => lhs; rw [eX8_branch_128]
      rw [if_neg (nI_ge (by omega) (by omega)), li_3, nn_mul, nI_add, ar_29 (by omega), nI_add, ar_38 (by omega), (hK'.2.2 m hm).2.1 i (by omega), mm_put_stc, nI_1, h1]
    · rw [h2]
      by_cases e : j = c + i
      · subst e
        rw [if_neg (by omega), if_pos (by omega), show c + i - c = i by omega]; exact pk_us
      · by_cases z : c + (i + 1) ≤ j ∧ j < c + kFc k m
        · rw [if_pos z, if_pos (by omega)]
        · rw [if_neg z, if_neg (by omega)]; exact pk_un e
/-- a branch's table without EITHERs; none: too great -/
noncomputable def brS (G : Nat → Int32) (g : Nat → Nat) (k : KK) (T : TB) (c m : Nat) : Option TB := if tP T - 1 + kFc k m ≤ 40 then spT G g (brT G g k T c m) else none
theorem mr_branch (hK : mr_K S k) (hW : kW k) (hr : rws S k C R sz) {T : TB} (hT : tbR S T) (hw : wfT R sz T) (h22 : S 27 22 = 0) {c m : Nat} (hc : c < tP T) (hm : m < kM k) :
    ∃ S', mm_runD (d + 5) 141 [.inr 27, .inl (nI c), .inl (nI m)] S = some (S', 0, 0, 0, 0) ∧ mfr [27, 38, 39, 40, 41] S S' ∧ (∀ j, j ≠ 17 → j ≠ 18 → j ≠ 22 → S' 27 j = S 27 j) ∧ (∀ T', brS (S 32) (gk S k) k T c m = some T' → tbR S' T' ∧ S' 27 22 = 0) ∧ (brS (S 32) (gk S k) k T c m = none → S' 27 22 = 1) := by
  have hM := hW.2.1
  have hf3 := (hW.2.2 m hm).2.1
  obtain ⟨h1, h2, h3, h4, h5⟩ := hT
  have w1 := hw.1
  have w2 := hw.2.1
  unfold brS
  have eP : nI (tP T) + nI (kFc k m) - 1 = nI (tP T - 1 + kFc k m) := by
    rw [nI_add, show nI (tP T + kFc k m) - 1 = nI (tP T + kFc k m - 1) from nn_sub (b := 1) (by omega), show tP T + kFc k m - 1 = tP T - 1 + kFc k m by omega]
  by_cases q : tP T - 1 + kFc k m ≤ 40
  · rw [if_pos q]
    have h22' : mm_put S 27 22 0 = S := by
      unfold mm_put
      rw [upd_self h22, mm_stc_self]
    have L := mr_br_lines (d := d + 1) (C := C) hW hw hc hm q (tL T - 0) 0 S none none rfl (by omega) hK hr h1 h2 (fun i hi => absurd hi (Nat.not_lt_zero _)) (fun i j hi => absurd hi (Nat.not_lt_zero _)) (fun i _ b => h4 i b) (fun i j _ b c' => h5 i j b c')
    obtain ⟨S1, o6, o7, a1, a2, a3, a4⟩ := L
    have bl := brL_le (G := S 32) (g := gk S k) (T := T) (c := c) (m := m) (f := kFc k m) (tL T)
    obtain ⟨n, en⟩ : ∃ n, n = (brL (S 32) (gk S k) T c m (kFc k m) (tL T)).1 := ⟨_, rfl⟩
    obtain ⟨S2, eS⟩ : ∃ S2, S2 = mm_put S1 27 18 (nI n) := ⟨_, rfl⟩
    have F2 : mfr [27, 39, 40, 41] S S2 := by subst eS; exact mfr_tr (mfr_up a2 (by simp)) (mfr_put (by simp))
    have s27 : ∀ j, j ≠ 18 → S2 27 j = S 27 j := by intro j hj; subst eS; rw [mp_pk _ _ _ hj, a2 27 (by decide)]
    have hK2 : mr_K S2 k := by
      unfold mr_K
      rw [s27 1 (by decide), s27 2 (by decide), F2 28 (by decide), F2 29 (by decide)]
      exact hK
    have h172 : S2 27 17 = nI (tP T) := by rw [s27 17 (by decide)]; exact h1
    -- the types
    have types : ∃ u o4 o5, mm_E (mm_runD (d + 4)) pX8_branch 0 28 [some (.inr 27), some (.inl (nI c)), some (.inl (nI m)), some (.inl (nI (kFc k m))), some (.inl (nI n)), some (.inl (nI (tL T))), o6, o7] [] S1 0 0 = mm_E (mm_runD (d + 4)) pX8_branch 0 128 [some (.inr 27), some (.inl (nI c)), some (.inl (nI m)), some (.inl (nI (kFc k m))), o4, some (.inl (nI (kFc k m))), o6, o5] [] (mm_stc S2 38 u) 0 0 ∧ ∀ j, j < tP T - 1 + kFc k m → u j = nI (brTy k m (tT T) c j) := by
      have h181 : S1 27 18 = nI (tL T) := by rw [a2 27 (by decide)]; exact h2
      have e171 : (mm_put S1 27 18 (nI n)) 27 17 = nI (tP T) := by rw [← eS]; exact h172
      rcases Nat.eq_zero_or_pos (kFc k m) with f0 | fp
      · obtain ⟨u1, b1, b2⟩ := mr_br_t2 (d := d + 4) (S := S2) (c := c) (x2 := nI m) (o4 := some (.inl (nI n))) (o6 := o6) (o7 := o7) h172 w1 (tP T - c) c (S2 38) rfl hc
        rw [mm_stc_self] at b1
        refine ⟨u1, some (.inl (nI n)), o7, ?_, fun j hj => ?_⟩
        · rw [f0]
          conv => lhs; rw [eX8_branch_28]
          rw [h181, if_pos (nI_le (Nat.le_refl _) (by omega)), if_pos (show nI 0 ≤ 0 by decide), ← eS, eX8_branch_87, if_pos (show (-1 : Int32) ≤ nI c from Int32.le_of_lt ((nn_a7 (a := c) (by omega)).mpr trivial)), b1]
        · rw [b2]
          unfold brTy
          rw [f0, F2 38 (by decide)]
          by_cases z : j < c
          · rw [if_neg (by omega), if_pos z]; exact h3 j (by omega)
          · rw [if_pos (by omega), if_neg z, if_neg (by omega)]; exact h3 (j + 1) (by omega)
      · obtain ⟨u1, b1, b2⟩ := mr_br_t1 (d := d + 4) (S := S2) (c := c) (f := kFc k m) (x2 := nI m) (o4 := some (.inl (nI n))) (o6 := o6) (o7 := o7) fp hf3 (tP T - 1 - c) (tP T - 1) (S2 38) rfl (by omega) (by omega)
        obtain ⟨u2, c1, c2⟩ := mr_br_t3 (d := d + 4) (S := S2) hK2 hW (c := c) (o4 := some (.inl (nI n))) (o6 := o6) (o7 := o7) hm (by omega) (kFc k m - 0) 0 u1 rfl (by omega)
        rw [mm_stc_self] at b1
        refine ⟨u2, some (.inl (nI n)), o7, ?_, fun j hj => ?_⟩
        · rw [← c1, eX8_branch_28, h181, if_pos (nI_le (Nat.le_refl _) (by omega)), if_neg (nI_nle fp (by omega)), e171, ← eS, show nI (tP T) - 1 = nI (tP T - 1) from nn_sub (b := 1) (by omega), b1, eX8_branch_106, if_neg (nI_ne0 fp (by omega)), nI_0]
        · rw [c2, b2]
          unfold brTy
          rw [F2 38 (by decide)]
          by_cases z : j < c
          · rw [if_neg (by omega), if_neg (by omega), if_pos z]; exact h3 j (by omega)
          · rw [if_neg z]
            by_cases z2 : j < c + kFc k m
            · rw [if_pos (by omega), if_pos z2]
            · rw [if_neg (by omega), if_pos (by omega), if_neg z2]; exact h3 (j + 1 - kFc k m) (by omega)
    obtain ⟨u, o4, o5, t1, t2⟩ := types
    obtain ⟨S3, eS3⟩ : ∃ S3, S3 = mm_put (mm_stc S2 38 u) 27 17 (nI (tP T - 1 + kFc k m)) := ⟨_, rfl⟩
    have F3 : mfr [27, 38, 39, 40, 41] S S3 := by subst eS3; exact mfr_tr (mfr_tr (mfr_up F2 (by simp)) (mfr_stc (by simp))) (mfr_put (by simp))
    have z27 : ∀ j, j ≠ 17 → j ≠ 18 → S3 27 j = S 27 j := by
      intro j x y
      subst eS3
      rw [mp_pk _ _ _ x]
      exact s27 j y
    have x32 : S3 32 = S 32 := F3 32 (by decide)
    have xg : gk S3 k = gk S k := by unfold gk; rw [x32]
    have hK3 : mr_K S3 k := by
      unfold mr_K
      rw [z27 1 (by decide) (by decide), z27 2 (by decide) (by decide), F3 28 (by decide), F3 29 (by decide)]
      exact hK
    have hr3 : rws S3 k C R sz := by
      unfold rws
      rw [z27 7 (by decide) (by decide), F3 8 (by decide), F3 33 (by decide), x32, F3 9 (by decide), F3 10 (by decide)]
      exact hr
    have hw3 := wfT_br hW hr hw hc hm q
    have hT3 : tbR S3 (brT (S 32) (gk S k) k T c m) := by
      refine ⟨?_, ?_, fun j hj => ?_, fun i hi => ?_, fun i j hi hj => ?_⟩
      · subst eS3; exact mp_pp _ _ _ _
      · subst eS3; rw [mp_pk _ _ _ (by decide)]; subst eS; subst en; rw [mm_stc_ne _ _ (by decide), mp_pp] <;> rfl
      · subst eS3; exact t2 j hj
      · have e39 : S3 39 = S1 39 := by subst eS3; subst eS; rfl
        rw [e39]; exact a3 i hi
      · have e40 : S3 40 = S1 40 := by subst eS3; subst eS; rfl
        rw [e40]; exact a4 i j hi hj
    obtain ⟨S', p1, p2, p3, p4, p5⟩ := mr_part (d := d) (S := S3) hK3 hW hr3 hT3 hw3 (by rw [z27 22 (by decide) (by decide)]; exact h22)
    rw [x32, xg] at p4 p5
    refine ⟨S', ?_, mfr_tr F3 (mfr_up p2 (by simp)), fun j x y z => by rw [p3 j y z, z27 j x y], p4, p5⟩
    have e17 : (mm_stc S2 38 u) 27 17 = nI (tP T) := h172
    have eP2 : nI (tP T) + (nI (kFc k m) - 1) = nI (tP T - 1 + kFc k m) := by
      rw [← eP, Int32.sub_eq_add_neg, Int32.sub_eq_add_neg, Int32.add_assoc]
    rw [show (brL (S 32) (gk S k) T c m (kFc k m) 0).1 = 0 from rfl, nI_0, ← en] at a1
    rw [dX8_branch, eX8_branch_0, mr_fields hK hW hm, mm_bd_ret, h22, if_pos rfl, h1, eP, if_pos (show nI (tP T - 1 + kFc k m) ≤ 40 from nI_le (b := 40) q (by decide)), mp_pp, if_pos rfl, h22', a1, t1, eX8_branch_128, if_pos (nI_le (Nat.le_refl _) (by omega)), e17, eP2, ← eS3, p1, mm_bd_ret]
  · rw [if_neg q]
    refine ⟨mm_put S 27 22 1, ?_, mfr_put (by simp), fun j _ _ hj => mp_pk _ _ _ hj, (fun T' e => by cases e), fun _ => mp_pp _ _ _ _⟩
    rw [dX8_branch, eX8_branch_0, mr_fields hK hW hm, mm_bd_ret, h22, if_pos rfl, h1, eP, if_neg (show ¬ nI (tP T - 1 + kFc k m) ≤ 40 from nI_ge (a := 40) (by omega) (by omega)), mp_pp, if_neg (by decide)]
end
