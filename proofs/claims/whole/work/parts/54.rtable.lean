/-! PURE: the reference's first table, and the table at the end of a way -/
section
variable {S : Mem} {k : KK} {C R : Nat} {sz : Nat → Nat}
theorem wfT_fs (hr : rws S k C R sz) (hC : C ≤ 3) (col : Nat → Nat) : wfT R sz (fsT (gk S k) C R col) := by
  have := hr.1
  exact ⟨show C ≤ 40 by omega, show R ≤ 60 by omega, fun l c hl hc => Or.inr ⟨_, okp_col hr hl hc, rfl⟩⟩
end
section
variable {d : Nat} {S : Mem} {k : KK} {C R : Nat} {sz : Nat → Nat}
theorem mr_ft_in (hK : mr_K S k) (hW : kW k) (hr : rws S k C R sz) (hC : C ≤ 3) (h6 : S 27 6 = nI C) {r : Nat} (hr0 : r < R) : ∀ (n c : Nat) (v : Nat → Int32), C - c = n → c ≤ C →
    ∃ v' x2', mm_E (mm_runD (d + 2)) pX8_firstTable 0 44 [some (.inr 27), some (.inl (nI r)), some (.inl (nI (nth (gk S k) (40 * r) c))), some (.inl (nI c))] [] (mm_stc S 40 v) 0 0 = mm_E (mm_runD (d + 2)) pX8_firstTable 0 29 [some (.inr 27), some (.inl (nI (r + 1))), x2', some (.inl (nI C))] [] (mm_stc S 40 v') 0 0 ∧ ∀ j, v' j = if 44 * r + c ≤ j ∧ j < 44 * r + C then nI (nth (gk S k) (40 * r) (j - 44 * r)) else v j := by
  have hR := hr.1
  intro n
  induction n with
  | zero =>
    intro c v hn hc
    have h6' : (mm_stc S 40 v) 27 6 = nI C := h6
    have e : c = C := by omega
    subst e
    refine ⟨v, some (.inl (nI (nth (gk S k) (40 * r) c))), ?_, fun j => by rw [if_neg (by omega)]⟩
    rw [eX8_firstTable_44, h6', if_pos (nI_le (Nat.le_refl _) (by omega)), nI_1]
  | succ n ih =>
    intro c v hn hc
    have h6' : (mm_stc S 40 v) 27 6 = nI C := h6
    obtain ⟨v', x2', h1, h2⟩ := ih (c + 1) (upd v (44 * r + c) (nI (nth (gk S k) (40 * r) c))) (by omega) (by omega)
    refine ⟨v', x2', ?_, fun j => ?_⟩
    · have B := mr_bh (d := d) (S := mm_stc S 40 (upd v (44 * r + c) (nI (nth (gk S k) (40 * r) c)))) hK hW hr (okp_col hr hr0 (show c < C by omega))
      rw [eX8_firstTable_44, h6', if_neg (nI_ge (by omega) (by omega)), li_44, nn_mul, nI_add, ar_40 (by omega), mm_put_stc, B, mm_bd_ret, nI_1]
      exact h1
    · rw [h2]
      by_cases e : j = 44 * r + c
      · subst e
        rw [if_neg (by omega), if_pos (by omega), show 44 * r + c - 44 * r = c by omega]; exact pk_us
      · by_cases z : 44 * r + (c + 1) ≤ j ∧ j < 44 * r + C
        · rw [if_pos z, if_pos (by omega)]
        · rw [if_neg z, if_neg (by omega)]; exact pk_un e
theorem mr_ft_rows (hK : mr_K S k) (hW : kW k) (hr : rws S k C R sz) (hC : C ≤ 3) (h6 : S 27 6 = nI C) : ∀ (n r : Nat) (u v : Nat → Int32) (o2 o3 : Option MV), R - r = n → r ≤ R →
    ∃ u' v' o2' o3', mm_E (mm_runD (d + 2)) pX8_firstTable 0 29 [some (.inr 27), some (.inl (nI r)), o2, o3] [] (mm_stc (mm_stc S 39 u) 40 v) 0 0 = mm_E (mm_runD (d + 2)) pX8_firstTable 0 29 [some (.inr 27), some (.inl (nI R)), o2', o3'] [] (mm_stc (mm_stc S 39 u') 40 v') 0 0 ∧ (∀ j, u' j = if r ≤ j ∧ j < R then nI j else u j) ∧ ∀ i j, j < C → v' (44 * i + j) = if r ≤ i ∧ i < R then nI (nth (gk S k) (40 * i) j) else v (44 * i + j) := by
  have hR := hr.1
  intro n
  induction n with
  | zero =>
    intro r u v o2 o3 hn hr0
    have e : r = R := by omega
    subst e
    exact ⟨u, v, o2, o3, rfl, fun j => by rw [if_neg (by omega)], fun i j _ => by rw [if_neg (by omega)]⟩
  | succ n ih =>
    intro r u v o2 o3 hn hr0
    have h7 : (mm_stc (mm_stc S 39 u) 40 v) 27 7 = nI R := hr.2.2.1
    have e2 : ∀ x, mm_put (mm_stc (mm_stc S 39 u) 40 v) 39 r x = mm_stc (mm_stc S 39 (upd u r x)) 40 v := by
      intro x
      funext y
      unfold mm_put
      by_cases q : y = 39
      · subst q; rw [mm_stc_at]; rfl
      · rw [mm_stc_ne _ _ q]
        by_cases w : y = 40
        · subst w; rw [mm_stc_at, mm_stc_at]
        · rw [mm_stc_ne _ _ w, mm_stc_ne _ _ w, mm_stc_ne _ _ q, mm_stc_ne _ _ q]
    obtain ⟨v1, x2, a1, a2⟩ := mr_ft_in (d := d) (S := mm_stc S 39 (upd u r (nI r))) hK hW hr hC h6 (r := r) (by omega) (C - 0) 0 v rfl (by omega)
    obtain ⟨u', v', o2', o3', b1, b2, b3⟩ := ih (r + 1) (upd u r (nI r)) v1 x2 (some (.inl (nI C))) (by omega) (by omega)
    refine ⟨u', v', o2', o3', ?_, fun j => ?_, fun i j hj => ?_⟩
    · rw [← b1]
      rw [nI_0] at a1
      conv => lhs; rw [eX8_firstTable_29]
      rw [h7, if_neg (nI_ge (by omega) (by omega)), ar_39 (by omega), e2, li_40, nn_mul]
      exact a1
    · rw [b2]
      by_cases e : j = r
      · subst e
        rw [if_neg (by omega), if_pos (by omega)]; exact pk_us
      · by_cases z : r + 1 ≤ j ∧ j < R
        · rw [if_pos z, if_pos (by omega)]
        · rw [if_neg z, if_neg (by omega)]; exact pk_un e
    · rw [b3 i j hj, a2]
      have eg : gk (mm_stc S 39 (upd u r (nI r))) k = gk S k := rfl
      rw [eg]
      by_cases e : i = r
      · subst e
        rw [if_neg (by omega), if_pos (by omega), if_pos (by omega), show 44 * i + j - 44 * i = j by omega]
      · by_cases z : r + 1 ≤ i ∧ i < R
        · rw [if_pos z, if_pos (by omega)]
        · rw [if_neg z, if_neg (by omega), if_neg (by omega)]
theorem mr_ft_cols {col : Nat → Nat} {o2 o3 : Option MV} (hC : C ≤ 3) (h6 : S 27 6 = nI C) (hc : ∀ c, c < C → S 31 c = nI (col c)) : ∀ (n c : Nat) (u : Nat → Int32), C - c = n → c ≤ C →
    ∃ u', mm_E (mm_runD d) pX8_firstTable 0 13 [some (.inr 27), some (.inl (nI c)), o2, o3] [] (mm_stc S 38 u) 0 0 = mm_E (mm_runD d) pX8_firstTable 0 29 [some (.inr 27), some (.inl (nI 0)), o2, o3] [] (mm_stc S 38 u') 0 0 ∧ ∀ j, u' j = if c ≤ j ∧ j < C then nI (col j) else u j := by
  intro n
  induction n with
  | zero =>
    intro c u hn hc0
    have h6' : (mm_stc S 38 u) 27 6 = nI C := h6
    refine ⟨u, ?_, fun j => by rw [if_neg (by omega)]⟩
    rw [eX8_firstTable_13, h6', if_pos (nI_le (by omega) (by omega)), nI_0]
  | succ n ih =>
    intro c u hn hc0
    have h6' : (mm_stc S 38 u) 27 6 = nI C := h6
    have hc' : (mm_stc S 38 u) 31 c = nI (col c) := hc c (by omega)
    obtain ⟨u', h1, h2⟩ := ih (c + 1) (upd u c (nI (col c))) (by omega) (by omega)
    refine ⟨u', ?_, fun j => ?_⟩
    · rw [eX8_firstTable_13, h6', if_neg (nI_ge (by omega) (by omega)), ar_31 (by omega), ar_38 (by omega), hc', mm_put_stc, nI_1, h1]
    · rw [h2]
      by_cases e : j = c
      · subst e
        rw [if_neg (by omega), if_pos (by omega)]; exact pk_us
      · by_cases z : c + 1 ≤ j ∧ j < C
        · rw [if_pos z, if_pos (by omega)]
        · rw [if_neg z, if_neg (by omega)]; exact pk_un e
theorem mr_firstTable (hK : mr_K S k) (hW : kW k) (hr : rws S k C R sz) {col : Nat → Nat} (hC : C ≤ 3) (h6 : S 27 6 = nI C) (hc : ∀ c, c < C → S 31 c = nI (col c)) :
    ∃ S', mm_runD (d + 5) 138 [.inr 27] S = some (S', 0, 0, 0, 0) ∧ mfr [27, 38, 39, 40] S S' ∧ (∀ j, j ≠ 17 → j ≠ 18 → j ≠ 22 → S' 27 j = S 27 j) ∧ (∀ T', spT (S 32) (gk S k) (fsT (gk S k) C R col) = some T' → tbR S' T' ∧ S' 27 22 = 0) ∧ (spT (S 32) (gk S k) (fsT (gk S k) C R col) = none → S' 27 22 = 1) := by
  have h7 := hr.2.2.1
  have hR := hr.1
  obtain ⟨S1, eS⟩ : ∃ S1, S1 = mm_put (mm_put (mm_put S 27 17 (nI C)) 27 18 (nI R)) 27 22 0 := ⟨_, rfl⟩
  have F1 : mfr [27, 38, 39, 40] S S1 := by subst eS; exact mfr_tr (mfr_tr (mfr_put (by simp)) (mfr_put (by simp))) (mfr_put (by simp))
  have s27 : ∀ j, j ≠ 17 → j ≠ 18 → j ≠ 22 → S1 27 j = S 27 j := by
    intro j x y z
    subst eS
    rw [mp_pk _ _ _ z, mp_pk _ _ _ y, mp_pk _ _ _ x]
  have x17 : S1 27 17 = nI C := by subst eS; rfl
  have x18 : S1 27 18 = nI R := by subst eS; rfl
  have x22 : S1 27 22 = 0 := by subst eS; rfl
  have hK1 : mr_K S1 k := by subst eS; exact hK
  have hr1 : rws S1 k C R sz := by subst eS; exact hr
  have g6 : S1 27 6 = nI C := by subst eS; exact h6
  have gc : ∀ c, c < C → S1 31 c = nI (col c) := by subst eS; exact hc
  have eg1 : gk S1 k = gk S k := by subst eS; rfl
  have e321 : S1 32 = S 32 := by subst eS; rfl
  obtain ⟨u, a1, a2⟩ := mr_ft_cols (d := d + 4) (S := S1) (o2 := none) (o3 := none) hC g6 gc (C - 0) 0 (S1 38) rfl (by omega)
  obtain ⟨u', v', o2', o3', b1, b2, b3⟩ := mr_ft_rows (d := d + 2) (S := mm_stc S1 38 u) hK1 hW hr1 hC g6 (R - 0) 0 (S1 39) (S1 40) none none rfl (by omega)
  have e0 : mm_stc (mm_stc (mm_stc S1 38 u) 39 (S1 39)) 40 (S1 40) = mm_stc S1 38 u := by
    have e1 : mm_stc (mm_stc S1 38 u) 39 (S1 39) = mm_stc S1 38 u := mm_stc_self (mm_stc S1 38 u) 39
    rw [e1]
    exact mm_stc_self (mm_stc S1 38 u) 40
  rw [e0] at b1
  rw [mm_stc_self] at a1
  have hT : tbR (mm_stc (mm_stc (mm_stc S1 38 u) 39 u') 40 v') (fsT (gk S k) C R col) := by
    refine ⟨x17, x18, fun c hc' => ?_, fun l hl => ?_, fun l c hl hc' => ?_⟩
    · show u c = nI (col c)
      rw [a2, if_pos ⟨by omega, hc'⟩]
    · show u' l = nI l
      rw [b2, if_pos ⟨by omega, hl⟩]
    · show v' (44 * l + c) = nI (nth (gk S k) (40 * l) c)
      rw [b3 l c hc', if_pos ⟨by omega, hl⟩, show gk (mm_stc S1 38 u) k = gk S1 k from rfl, eg1]
  obtain ⟨S', p1, p2, p3, p4, p5⟩ := mr_part (d := d) (S := mm_stc (mm_stc (mm_stc S1 38 u) 39 u') 40 v') hK1 hW hr1 hT (wfT_fs hr hC col) x22
  have q32 : (mm_stc (mm_stc (mm_stc S1 38 u) 39 u') 40 v') 32 = S 32 := e321
  have qg : gk (mm_stc (mm_stc (mm_stc S1 38 u) 39 u') 40 v') k = gk S k := eg1
  rw [q32, qg] at p4 p5
  refine ⟨S', ?_, mfr_tr (mfr_tr F1 (mfr_tr (mfr_tr (mfr_stc (by simp)) (mfr_stc (by simp))) (mfr_stc (by simp)))) (mfr_up p2 (by simp)), fun j x y z => by rw [p3 j y z]; exact s27 j x y z, p4, p5⟩
  have m7 : (mm_put S 27 17 (nI C)) 27 7 = nI R := h7
  have m7' : (mm_stc (mm_stc (mm_stc S1 38 u) 39 u') 40 v') 27 7 = nI R := by subst eS; exact h7
  rw [nI_0] at a1 b1
  rw [dX8_firstTable, eX8_firstTable_0, h6, m7, ← eS, a1, b1, eX8_firstTable_29, m7', if_pos (nI_le (Nat.le_refl _) (by omega)), p1, mm_bd_ret]
/-- the way up is noted: wl 0, wl 1 .. wl (n - 1) -/
theorem mr_to_up {par : Nat → Int32} {x2 : Int32} {n : Nat} {wl : Nat → Nat} (hn : n ≤ 301) (hlt : ∀ i, i < n → wl i < 301) (hpar : ∀ i, i < n → S 47 (wl i) = if i + 1 < n then nI (wl (i + 1)) else N1) : ∀ (z i : Nat) (o1 : Option MV) (f : Nat → Int32), n - i = z → i ≤ n →
    ∃ f', mm_E (mm_runD d) pX8_tableOf 0 4 [some (.inr 27), o1, some (.inl x2), some (.inl (nI i)), some (.inl (if i < n then nI (wl i) else N1))] [] (mm_stc S 52 f) 0 0 = mm_E (mm_runD d) pX8_tableOf 0 4 [some (.inr 27), o1, some (.inl x2), some (.inl (nI n)), some (.inl N1)] [] (mm_stc S 52 f') 0 0 ∧ (∀ j, j < i → f' j = f j) ∧ ∀ j, i ≤ j → j < n → f' j = nI (wl j) := by
  intro z
  induction z with
  | zero =>
    intro i o1 f hz hi
    have e : i = n := by omega
    subst e
    rw [if_neg (Nat.lt_irrefl _)]
    exact ⟨f, rfl, fun _ _ => rfl, fun j a b => absurd a (by omega)⟩
  | succ z ih =>
    intro i o1 f hz hi
    obtain ⟨f', h1, h2, h3⟩ := ih (i + 1) o1 (upd f i (nI (wl i))) (by omega) (by omega)
    have hw := hlt i (by omega)
    refine ⟨f', ?_, fun j hj => by rw [h2 j (by omega)]; exact pk_un (by omega), fun j a b => ?_⟩
    · have hp : (mm_stc S 52 (upd f i (nI (wl i)))) 47 (wl i) = if i + 1 < n then nI (wl (i + 1)) else N1 := hpar i (by omega)
      rw [if_pos (show i < n by omega)]
      conv => lhs; rw [eX8_tableOf_4]
      rw [if_neg (show ¬ nI (wl i) = -1 from fun q => (nn_a1 (a := wl i) (by omega)).mp q), ar_52 (by omega), mm_put_stc, ar_47 hw, hp, nI_1, h1]
    · rcases Nat.lt_or_ge i j with q | q
      · exact h3 j q b
      · have : j = i := by omega
        subst this
        rw [h2 _ (by omega)]; exact pk_us
/-- the table at the end of a way -/
noncomputable def wyT (G : Nat → Int32) (g : Nat → Nat) (k : KK) (C R : Nat) (col : Nat → Nat) (τ : Nat → TB) (tst : Nat → Nat) (n : Nat) (wl : Nat → Nat) (m : Nat) : Option TB := if n = 0 then spT G g (fsT g C R col) else brS G g k (τ (wl 0)) (tst (wl 0)) m
theorem mr_to_down (hW : kW k) {τ : Nat → TB} {tst : Nat → Nat} {mk : Nat → Nat} {n m : Nat} {wl : Nat → Nat} {o1 o3 : Option MV} (hn : n ≤ 301) (hlt : ∀ i, i < n → wl i < 301) (hm : 0 < n → m < kM k) (hwf : ∀ i, i < n → wfT R sz (τ (wl i)) ∧ tst (wl i) < tP (τ (wl i))) : ∀ (i : Nat) (S : Mem), i < n → mr_K S k → rws S k C R sz → tbR S (τ (wl i)) → S 27 22 = 0 → (∀ j, j < n → S 52 j = nI (wl j)) → (∀ j, j < n → S 43 (wl j) = nI (tst (wl j))) → (∀ j, j + 1 < n → S 48 (wl j) = nI (mk (wl j)) ∧ mk (wl j) < kM k) →
      (∀ j, j + 1 < n → brS (S 32) (gk S k) k (τ (wl (j + 1))) (tst (wl (j + 1))) (mk (wl j)) = some (τ (wl j))) →
    ∃ S', mm_E (mm_runD (d + 5)) pX8_tableOf 0 25 [some (.inr 27), o1, some (.inl (nI m)), o3, some (.inl (nI i))] [] S 0 0 = some (S', 0, 0, 0, 0) ∧ mfr [27, 38, 39, 40, 41] S S' ∧ (∀ j, j ≠ 17 → j ≠ 18 → j ≠ 22 → S' 27 j = S 27 j) ∧ (∀ T', brS (S 32) (gk S k) k (τ (wl 0)) (tst (wl 0)) m = some T' → tbR S' T' ∧ S' 27 22 = 0) ∧ (brS (S 32) (gk S k) k (τ (wl 0)) (tst (wl 0)) m = none → S' 27 22 = 1) := by
  have hM := hW.2.1
  intro i
  induction i with
  | zero =>
    intro S hi hK hr hT h22 h52 h43 h48 hch
    obtain ⟨w, t⟩ := hwf 0 hi
    have hw := hlt 0 hi
    obtain ⟨S', p1, p2, p3, p4, p5⟩ := mr_branch (d := d) (S := S) hK hW hr hT w h22 t (hm hi)
    refine ⟨S', ?_, p2, p3, p4, p5⟩
    rw [eX8_tableOf_25, if_neg (nI_pos (by omega)), h22, if_pos rfl, ar_52 (by omega), h52 0 hi, ar_43 hw, h43 0 hi, if_pos (show nI 0 ≤ 0 by decide), p1, mm_bd_ret, eX8_tableOf_25, if_pos (by decide)]
  | succ i ih =>
    intro S hi hK hr hT h22 h52 h43 h48 hch
    obtain ⟨w, t⟩ := hwf (i + 1) hi
    have hw := hlt (i + 1) hi
    have hw' := hlt i (by omega)
    obtain ⟨c1, c2⟩ := h48 i hi
    obtain ⟨S1, p1, p2, p3, p4, p5⟩ := mr_branch (d := d) (S := S) hK hW hr hT w h22 t c2
    obtain ⟨t1, z22⟩ := p4 _ (hch i hi)
    have e32 : S1 32 = S 32 := p2 32 (by decide)
    have eg : gk S1 k = gk S k := by unfold gk; rw [e32]
    have hK1 : mr_K S1 k := by
      unfold mr_K
      rw [p3 1 (by decide) (by decide) (by decide), p3 2 (by decide) (by decide) (by decide), p2 28 (by decide), p2 29 (by decide)]
      exact hK
    have hr1 : rws S1 k C R sz := by
      unfold rws
      rw [p3 7 (by decide) (by decide) (by decide), p2 8 (by decide), p2 33 (by decide), e32, p2 9 (by decide), p2 10 (by decide)]
      exact hr
    obtain ⟨S', q1, q2, q3, q4, q5⟩ := ih S1 (by omega) hK1 hr1 t1 z22 (by rw [p2 52 (by decide)]; exact h52) (by rw [p2 43 (by decide)]; exact h43) (by rw [p2 48 (by decide)]; exact h48) (by rw [e32, eg]; exact hch)
    rw [e32, eg] at q4 q5
    refine ⟨S', ?_, mfr_tr p2 q2, fun j x y z => by rw [q3 j x y z, p3 j x y z], q4, q5⟩
    rw [eX8_tableOf_25, if_neg (nI_pos (by omega)), h22, if_pos rfl, ar_52 (by omega), h52 (i + 1) hi, ar_43 hw, h43 (i + 1) hi, if_neg (nI_nle (by omega) (by omega)), nI_pred, ar_52 (by omega), h52 i (by omega), ar_48 hw', c1, p1, mm_bd_ret, nn_sm, nI_pred]
    exact q1
theorem mr_tableOf (hK : mr_K S k) (hW : kW k) (hr : rws S k C R sz) {col : Nat → Nat} (hC : C ≤ 3) (h6 : S 27 6 = nI C) (hc : ∀ c, c < C → S 31 c = nI (col c)) {τ : Nat → TB} {tst : Nat → Nat} {mk : Nat → Nat} {n m : Nat} {wl : Nat → Nat} (hn : n ≤ 301) (hlt : ∀ i, i < n → wl i < 301) (hpar : ∀ i, i < n → S 47 (wl i) = if i + 1 < n then nI (wl (i + 1)) else N1) {x2 : Int32} (hx2 : 0 < n → x2 = nI m) (hm : 0 < n → m < kM k) (hwf : ∀ i, i < n → wfT R sz (τ (wl i)) ∧ tst (wl i) < tP (τ (wl i)))
    (h43 : ∀ j, j < n → S 43 (wl j) = nI (tst (wl j))) (h48 : ∀ j, j + 1 < n → S 48 (wl j) = nI (mk (wl j)) ∧ mk (wl j) < kM k) (hch : ∀ j, j + 1 < n → brS (S 32) (gk S k) k (τ (wl (j + 1))) (tst (wl (j + 1))) (mk (wl j)) = some (τ (wl j))) (hroot : 0 < n → spT (S 32) (gk S k) (fsT (gk S k) C R col) = some (τ (wl (n - 1)))) :
    ∃ S', mm_runD (d + 6) 143 [.inr 27, .inl (if 0 < n then nI (wl 0) else N1), .inl x2] S = some (S', 0, 0, 0, 0) ∧ mfr [27, 38, 39, 40, 41, 52] S S' ∧ (∀ j, j ≠ 17 → j ≠ 18 → j ≠ 22 → S' 27 j = S 27 j) ∧ (∀ T', wyT (S 32) (gk S k) k C R col τ tst n wl m = some T' → tbR S' T' ∧ S' 27 22 = 0) ∧ (wyT (S 32) (gk S k) k C R col τ tst n wl m = none → S' 27 22 = 1) := by
  obtain ⟨f, a1, a2, a3⟩ := mr_to_up (d := d + 5) (S := S) (par := fun _ => 0) (x2 := x2) hn hlt hpar (n - 0) 0 (some (.inl (if 0 < n then nI (wl 0) else N1))) (S 52) rfl (by omega)
  rw [mm_stc_self, nI_0] at a1
  obtain ⟨S1, p1, p2, p3, p4, p5⟩ := mr_firstTable (d := d) (S := mm_stc S 52 f) (k := k) hK hW hr hC h6 hc
  have e32 : S1 32 = S 32 := p2 32 (by decide)
  have eg : gk S1 k = gk S k := by unfold gk; rw [e32]
  have start : ∀ Z, mm_E (mm_runD (d + 5)) pX8_tableOf 0 25 [some (.inr 27), some (.inl (if 0 < n then nI (wl 0) else N1)), some (.inl x2), some (.inl (nI n)), some (.inl (nI n - 1))] [] S1 0 0 = Z → mm_runD (d + 6) 143 [.inr 27, .inl (if 0 < n then nI (wl 0) else N1), .inl x2] S = Z := by
    intro Z hZ
    rw [dX8_tableOf, eX8_tableOf_0, a1, eX8_tableOf_4, if_pos rfl, p1, mm_bd_ret]
    exact hZ
  unfold wyT
  by_cases h0 : n = 0
  · rw [if_pos h0]
    refine ⟨S1, start _ ?_, mfr_tr (mfr_stc (by simp)) (mfr_up p2 (by simp)), p3, p4, p5⟩
    rw [h0, eX8_tableOf_25, if_pos (by decide)]
  · rw [if_neg h0]
    have hp : 0 < n := by omega
    obtain ⟨t1, z22⟩ := p4 _ (hroot hp)
    have hK1 : mr_K S1 k := by
      unfold mr_K
      rw [p3 1 (by decide) (by decide) (by decide), p3 2 (by decide) (by decide) (by decide), p2 28 (by decide), p2 29 (by decide)]
      exact hK
    have hr1 : rws S1 k C R sz := by
      unfold rws
      rw [p3 7 (by decide) (by decide) (by decide), p2 8 (by decide), p2 33 (by decide), e32, p2 9 (by decide), p2 10 (by decide)]
      exact hr
    have e := hx2 hp
    subst e
    obtain ⟨S', q1, q2, q3, q4, q5⟩ := mr_to_down (d := d) (C := C) hW (o1 := some (.inl (if 0 < n then nI (wl 0) else N1))) (o3 := some (.inl (nI n))) (mk := mk) hn hlt hm hwf (n - 1) S1 (by omega) hK1 hr1 t1 z22 (by rw [p2 52 (by decide)]; intro j hj; exact a3 j (by omega) hj) (by rw [p2 43 (by decide)]; exact h43) (by rw [p2 48 (by decide)]; exact h48) (by rw [e32, eg]; exact hch)
    rw [e32, eg] at q4 q5
    refine ⟨S', start _ ?_, mfr_tr (mfr_stc (by simp)) (mfr_tr (mfr_up p2 (by simp)) (mfr_up q2 (by simp))), fun j x y z => by rw [q3 j x y z, p3 j x y z] <;> rfl, q4, q5⟩
    rw [show nI n - 1 = nI (n - 1) from nn_sub (b := 1) hp]
    exact q1
end
