/-! PURE: the class shows a missing case -/
section
variable {d : Nat} {S : Mem} {k : KK} {C R : Nat} {sz : Nat → Nat} {col : Nat → Nat} {σ : SG}
theorem mq_anyOf {f : Nat → Int32} {h p n : Nat} {o1 : Option MV} (h3 : S 23 3 = nI n) (hn : n ≤ 340) (hp : isA f h p) (hpn : p < n) : ∀ (z i : Nat), p - i = z → i ≤ p → mm_E (mm_runD d) pX0_anyOf 1 4 [some (.inr 23), o1, some (.inl (nI (h - ca f i))), some (.inl (nI i))] [] (mm_stc S 24 f) 0 0 = some (mm_stc S 24 f, 0, 0, 0, nI p) := by
  have h3' : (mm_stc S 24 f) 23 3 = nI n := h3
  have cap := ca_le f p
  have hp2 := hp.2
  intro z
  induction z with
  | zero =>
    intro i hz hi
    have e : i = p := by omega
    subst e
    rw [eX0_anyOf_4, h3', if_neg (nI_ge hpn (by omega)), if_neg (show ¬ (340 : Int32) ≤ nI i from nI_ge (b := 340) (by omega) (by decide)), ar_24 (by omega), mm_stc_at, if_pos (show f i = -1 from hp.1), show h - ca f i = 0 by omega, if_pos nI_0]
  | succ z ih =>
    intro i hz hi
    have hm := ca_mono f (show i + 1 ≤ p by omega)
    rw [ca_s] at hm
    have IH := ih (i + 1) (by omega) (by omega)
    rw [ca_s] at IH
    rw [eX0_anyOf_4, h3', if_neg (nI_ge (by omega) (by omega)), if_neg (show ¬ (340 : Int32) ≤ nI i from nI_ge (b := 340) (by omega) (by decide)), ar_24 (by omega), mm_stc_at]
    by_cases q : f i = N1
    · rw [if_pos q] at hm IH
      rw [if_pos (show f i = -1 from q), if_neg (nI_ne0 (by omega) (by omega)), nn_sm, show nI (h - ca f i) - 1 = nI (h - ca f i - 1) from nn_sub (b := 1) (by omega), nI_1, show h - ca f i - 1 = h - (ca f i + 1) by omega]
      exact IH
    · rw [if_neg q] at IH
      rw [if_neg (show ¬ f i = -1 from q), nI_1]
      exact IH
theorem mq_pf_shift {o1 : Option MV} {x2 : Int32} {p c : Nat} (hc : c ≤ 3) : ∀ (z i : Nat) (f : Nat → Int32), i - p = z → p ≤ i → i + c < 340 →
    ∃ f', mm_E (mm_runD d) pX0_putFound 0 26 [some (.inr 23), o1, some (.inl x2), some (.inl (nI p)), some (.inl (nI c)), some (.inl (nI i))] [] (mm_stc S 24 f) 0 0 = mm_E (mm_runD d) pX0_putFound 0 48 [some (.inr 23), o1, some (.inl x2), some (.inl (nI p)), some (.inl (nI c)), some (.inl (nI 1))] [] (mm_stc S 24 f') 0 0 ∧ ∀ j, f' j = if j = p then x2 else if p + c < j ∧ j ≤ i + c then f (j - c) else f j := by
  intro z
  induction z with
  | zero =>
    intro i f hz hi hi3
    refine ⟨upd f p x2, ?_, fun j => ?_⟩
    · rw [eX0_putFound_26, if_pos (nI_le (by omega) (by omega)), ar_24 (by omega), mm_put_stc]
      rfl
    · by_cases e : j = p
      · rw [if_pos e, e]; exact pk_us
      · rw [if_neg e, if_neg (by omega)]; exact pk_un e
  | succ z ih =>
    intro i f hz hi hi3
    obtain ⟨f', a1, a2⟩ := ih (i - 1) (upd f (i + c) (f i)) (by omega) (by omega) (by omega)
    refine ⟨f', ?_, fun j => ?_⟩
    · rw [eX0_putFound_26, if_neg (nI_ge (by omega) (by omega)), ar_24 (by omega), nI_add, ar_24 (by omega), mm_stc_at, mm_put_stc, nn_sm, show nI i - 1 = nI (i - 1) from nn_sub (b := 1) (by omega), a1]
    · rw [a2]
      by_cases e : j = p
      · rw [if_pos e, if_pos e]
      · rw [if_neg e, if_neg e]
        by_cases w : p + c < j ∧ j ≤ i - 1 + c
        · rw [if_pos w, if_pos (by omega)]; exact pk_un (by omega)
        · rw [if_neg w]
          by_cases y : j = i + c
          · subst y
            rw [if_pos (by omega), show i + c - c = i by omega]; exact pk_us
          · rw [if_neg (by omega)]; exact pk_un y
theorem mq_pf_fill {o1 o2 : Option MV} {p c n : Nat} (hc : c ≤ 3) (hp : p + c < 340) (h3 : S 23 3 = nI n) : ∀ (z i : Nat) (f : Nat → Int32), c + 1 - i = z → i ≤ c + 1 →
    ∃ f', mm_E (mm_runD d) pX0_putFound 0 48 [some (.inr 23), o1, o2, some (.inl (nI p)), some (.inl (nI c)), some (.inl (nI i))] [] (mm_stc S 24 f) 0 0 = some (mm_put (mm_stc S 24 f') 23 3 (nI (n + c)), 0, 0, 0, 0) ∧ ∀ j, f' j = if p + i ≤ j ∧ j ≤ p + c then N1 else f j := by
  intro z
  induction z with
  | zero =>
    intro i f hz hi
    have h3' : (mm_stc S 24 f) 23 3 = nI n := h3
    refine ⟨f, ?_, fun j => by rw [if_neg (by omega)]⟩
    rw [eX0_putFound_48, if_pos (nI_lt (by omega) (by omega)), h3', nI_add]
  | succ z ih =>
    intro i f hz hi
    obtain ⟨f', a1, a2⟩ := ih (i + 1) (upd f (p + i) N1) (by omega) (by omega)
    refine ⟨f', ?_, fun j => ?_⟩
    · rw [eX0_putFound_48, if_neg (nI_nlt (by omega) (by omega)), nI_add, ar_24 (by omega), mm_put_stc, nI_1, a1]
    · rw [a2]
      by_cases e : j = p + i
      · subst e
        rw [if_neg (by omega), if_pos (by omega)]; exact pk_us
      · by_cases w : p + (i + 1) ≤ j ∧ j ≤ p + c
        · rw [if_pos w, if_pos (by omega)]
        · rw [if_neg w, if_neg (by omega)]; exact pk_un e
theorem mq_putFound (hK : mq_K S k) (hW : kW k) {f : Nat → Int32} {h p n m : Nat} (h3 : S 23 3 = nI n) (hp : isA f h p) (hpn : p < n) (hm : m < kM k) (hnc : n + kFc k m ≤ 340) (hh : h < 340) : ∃ f', mm_runD (d + 3) 4 [.inr 23, .inl (nI h), .inl (nI m)] (mm_stc S 24 f) = some (mm_put (mm_stc S 24 f') 23 3 (nI (n + kFc k m)), 0, 0, 0, 0) ∧ ∀ j, j < n + kFc k m → f' j = insF f p m (kFc k m) j := by
  have hf3 := (hW.2.2 m hm).2.1
  have hM := hW.2.1
  have hK' : mq_K (mm_stc S 24 f) k := hK
  have h3' : (mm_stc S 24 f) 23 3 = nI n := h3
  have an := mq_anyOf (d := d + 1) (S := S) (f := f) (h := h) (o1 := some (.inl (nI h))) h3 (by omega) hp hpn (p - 0) 0 rfl (by omega)
  rw [show h - ca f 0 = h from rfl, nI_0] at an
  obtain ⟨f1, s2, s3⟩ := mq_pf_shift (d := d + 2) (S := S) (o1 := some (.inl (nI h))) (x2 := nI m) (p := p) (c := kFc k m) hf3 _ (n - 1) f rfl (by omega) (by omega)
  obtain ⟨f2, s4, s5⟩ := mq_pf_fill (d := d + 2) (S := S) (o1 := some (.inl (nI h))) (o2 := some (.inl (nI m))) (p := p) (c := kFc k m) (n := n) hf3 (by omega) h3 _ 1 f1 rfl (by omega)
  refine ⟨f2, ?_, fun j hj => ?_⟩
  · have ao : mm_runD (d + 2) 5 [.inr 23, .inl (nI h)] (mm_stc S 24 f) = some (mm_stc S 24 f, 0, 0, 0, nI p) := by
      rw [dX0_anyOf, eX0_anyOf_0]
      exact an
    rw [dX0_putFound, eX0_putFound_0, ao, mm_bd_ret, mq_fieldCount hK' hW, mm_bd_ret, kfc_in hW hm, if_neg (show ¬ nI p = -1 from fun q => (nn_a1 (a := p) (by omega)).mp q), h3', nI_add, if_pos (show nI (n + kFc k m) ≤ 340 from nI_le (b := 340) hnc (by decide)), show nI n - 1 = nI (n - 1) from nn_sub (b := 1) (by omega), s2, s4]
  · rw [s5, s3]
    unfold insF
    by_cases y1 : j < p
    · rw [if_neg (by omega), if_neg (by omega), if_neg (by omega), if_pos y1]
    · rw [if_neg y1]
      by_cases y2 : j = p
      · rw [if_neg (by omega), if_pos y2, if_pos y2]
      · by_cases y3 : j ≤ p + kFc k m
        · rw [if_pos (show p + 1 ≤ j ∧ j ≤ p + kFc k m by omega), if_neg y2, if_pos y3]
        · rw [if_neg (show ¬ (p + 1 ≤ j ∧ j ≤ p + kFc k m) by omega), if_neg y2, if_pos (by omega), if_neg y2, if_neg y3]
theorem mq_show_any {x1 : Int32} {o2 o4 o5 o6 : Option MV} (hC : C ≤ 3) (h3 : S 23 3 = nI C) : ∀ (z c : Nat) (f : Nat → Int32), C - c = z → c ≤ C →
    ∃ f', mm_E (mm_runD d) pX0_show 0 12 [some (.inr 23), some (.inl x1), o2, some (.inl (nI c)), o4, o5, o6] [] (mm_stc S 24 f) 0 0 = mm_bd (mm_runD d 83 [.inr 19, .inl x1] (mm_stc S 24 f')) 0 0 (fun S1 c1 t1 a1 => mm_E (mm_runD d) pX0_show 0 32 [some (.inr 23), some (.inl x1), o2, some (.inl a1), some (.inl 0), some (.inl 0), o6] [] S1 c1 t1) ∧ ∀ j, f' j = if c ≤ j ∧ j < C then N1 else f j := by
  intro z
  induction z with
  | zero =>
    intro c f hz hc
    have h3' : (mm_stc S 24 f) 23 3 = nI C := h3
    refine ⟨f, ?_, fun j => by rw [if_neg (by omega)]⟩
    rw [eX0_show_12, h3', if_pos (nI_le (by omega) (by omega))]
  | succ z ih =>
    intro c f hz hc
    have h3' : (mm_stc S 24 f) 23 3 = nI C := h3
    obtain ⟨f', a1, a2⟩ := ih (c + 1) (upd f c N1) (by omega) (by omega)
    refine ⟨f', ?_, fun j => ?_⟩
    · rw [eX0_show_12, h3', if_neg (nI_ge (by omega) (by omega)), ar_24 (by omega), mm_put_stc, nI_1, a1]
    · rw [a2]
      by_cases e : j = c
      · subst e
        rw [if_neg (by omega), if_pos (by omega)]; exact pk_us
      · by_cases w : c + 1 ≤ j ∧ j < C
        · rw [if_pos w, if_pos (by omega)]
        · rw [if_neg w, if_neg (by omega)]; exact pk_un e
/-- the case of the number q is shown -/
theorem mq_show (hK : mq_K S k) (hW : kW k) (hr : rws S k C R sz) (hC : C ≤ 3) (hg : gin (S 32) (gk S k) k C R sz col σ []) (h8 : ∀ t, kCnt k t (kM k) ≤ 8) (hc : cnd S (S 32) σ) {q x : Nat} (hx : fln (S 32) σ q x) : ∃ f, mm_runD (d + 4) 2 [.inr 23, .inl (nI q), .inl (nI C)] S = some (mm_put (mm_stc (mm_put S 23 4 (nI q)) 24 f) 23 3 (nI (tld (S 32) k C σ x).1), 0, 0, 0, 0) ∧ ∀ j, j < (tld (S 32) k C σ x).1 → f j = (tld (S 32) k C σ x).2 j := by
  have hM := hW.2.1
  have hN := hg.1.2.1
  have hgW := hg.1
  have hx1 : x < gN σ := hx.1
  have hPl : ∀ i, 0 < i → i < gN σ → gP σ i < i := fun i a b => (hg.1.2.2.2.2.1 i a b).1
  obtain ⟨u1, u2⟩ := itr_up hPl x hx1
  obtain ⟨t1, t2, t3⟩ := tld_is hW hr hC hgW x hx1
  obtain ⟨D, eD⟩ : ∃ D, D = (upx σ x).length := ⟨_, rfl⟩
  rw [← eD] at u1 u2 t1 t3
  have hile : ∀ n, itr (gP σ) n x ≤ x := by
    intro n
    induction n with
    | zero => exact Nat.le_refl _
    | succ n ih =>
      rw [itr_out]
      rcases Nat.eq_zero_or_pos (itr (gP σ) n x) with z | z
      · rw [z, hg.2.2.2.2.2.2.2]; omega
      · have := hPl _ z (by omega); omega
  obtain ⟨S1, eS⟩ : ∃ S1, S1 = mm_put (mm_put S 23 4 (nI q)) 23 3 (nI C) := ⟨_, rfl⟩
  -- Z n f: the memory when n signs are there
  have down : ∀ (i : Nat) (f : Nat → Int32) (stp : Nat) (o1 o2 o6 : Option MV), i ≤ D → stp + i = D → (∀ j, j < (tld (S 32) k C σ (itr (gP σ) i x)).1 → f j = (tld (S 32) k C σ (itr (gP σ) i x)).2 j) → ∃ f', mm_E (mm_runD (d + 3)) pX0_show 0 32 [some (.inr 23), o1, o2, some (.inl (nI x)), some (.inl (nI (itr (gP σ) i x))), some (.inl (nI stp)), o6] [] (mm_stc (mm_put (mm_put S 23 4 (nI q)) 23 3 (nI (tld (S 32) k C σ (itr (gP σ) i x)).1)) 24 f) 0 0 = some (mm_stc (mm_put (mm_put S 23 4 (nI q)) 23 3 (nI (tld (S 32) k C σ x).1)) 24 f', 0, 0, 0, 0) ∧ ∀ j, j < (tld (S 32) k C σ x).1 → f' j = (tld (S 32) k C σ x).2 j := by
    intro i
    induction i with
    | zero =>
      intro f stp o1 o2 o6 hi hs hf
      refine ⟨f, ?_, hf⟩
      rw [eX0_show_32, if_neg (show ¬ (300 : Int32) ≤ nI stp from nI_ge (b := 300) (by omega) (by decide)), if_pos (show nI (itr (gP σ) 0 x) = nI x from rfl)]
      rfl
    | succ i ih =>
      intro f stp o1 o2 o6 hi hs hf
      obtain ⟨c0, cN⟩ := u2 i (by omega)
      have ep : itr (gP σ) (i + 1) x = gP σ (itr (gP σ) i x) := itr_out _ _ _
      obtain ⟨q1, q2, q3, q4, q5, q6⟩ := hgW.2.2.2.2.1 _ c0 cN
      have pN : gP σ (itr (gP σ) i x) < gN σ := by omega
      rw [ep] at hf ⊢
      obtain ⟨p, p1, p2, p3⟩ := tld_at hW hr hC hgW c0 cN
      obtain ⟨l1, l2, l3⟩ := tld_is hW hr hC hgW (gP σ (itr (gP σ) i x)) pN
      obtain ⟨l4, l5, l6⟩ := tld_is hW hr hC hgW (itr (gP σ) i x) cN
      have wP := (hgW.2.2.2.1 _ pN).1
      have wC := (hgW.2.2.2.1 _ cN).1
      have hk2 := kdT_2 q2
      have hf3 := (hW.2.2 _ q3).2.1
      have hlex := hile i
      obtain ⟨Z, eZ⟩ : ∃ Z, Z = mm_stc (mm_put (mm_put S 23 4 (nI q)) 23 3 (nI (tld (S 32) k C σ (gP σ (itr (gP σ) i x))).1)) 24 f := ⟨_, rfl⟩
      have cZ : cnd Z (S 32) σ := by subst eZ; exact hc
      have bt := mq_branchTowards (d := d + 1) (S := Z) hg h8 cZ hx1 c0 cN hlex
      have tp : mm_runD (d + 3) 78 [.inr 19, .inl (nI (gP σ (itr (gP σ) i x)))] Z = some (Z, 0, 0, 0, nI (tsT (S 32) (gT σ (gP σ (itr (gP σ) i x))))) := by
        have g := mq_tget (d := d + 1) (S := Z) (N := gN σ) (f := 3) cZ.1 hN pN (by omega)
        rw [(cZ.2.2.1 _ pN).2.2.2.1, if_pos q2] at g
        rw [dX6_testedPlace, eX6_testedPlace_0]
        show mm_bd (mm_runD (d + 2) 87 [.inr 19, .inl (nI (gP σ (itr (gP σ) i x))), .inl (nI 3)] Z) _ _ _ = _
        rw [g, mm_bd_ret]
      have mo : mm_runD (d + 3) 79 [.inr 19, .inl (nI (itr (gP σ) i x))] Z = some (Z, 0, 0, 0, nI (gM σ (itr (gP σ) i x))) := by
        have g := mq_tget (d := d + 1) (S := Z) (N := gN σ) (f := 8) cZ.1 hN cN (by omega)
        rw [(cZ.2.2.1 _ cN).2.2.2.2.2.2, if_neg (by omega)] at g
        rw [dX6_makerOf, eX6_makerOf_0]
        show mm_bd (mm_runD (d + 2) 87 [.inr 19, .inl (nI (itr (gP σ) i x)), .inl (nI 8)] Z) _ _ _ = _
        rw [g, mm_bd_ret]
      have fA : isA f (tsT (S 32) (gT σ (gP σ (itr (gP σ) i x)))) p := ⟨by rw [hf p p1]; exact p2.1, by rw [ca_ext (fun j hj => hf j (by omega))]; exact p2.2⟩
      have e1 : (tld (S 32) k C σ (itr (gP σ) i x)).1 = (tld (S 32) k C σ (gP σ (itr (gP σ) i x))).1 + kFc k (gM σ (itr (gP σ) i x)) := by rw [p3]
      have e2 : (tld (S 32) k C σ (itr (gP σ) i x)).2 = insF (tld (S 32) k C σ (gP σ (itr (gP σ) i x))).2 p (gM σ (itr (gP σ) i x)) (kFc k (gM σ (itr (gP σ) i x))) := by rw [p3]
      obtain ⟨f2, s1, s2⟩ := mq_putFound (d := d) (S := mm_put (mm_put S 23 4 (nI q)) 23 3 (nI (tld (S 32) k C σ (gP σ (itr (gP σ) i x))).1)) (k := k) (mq_K_fr hK (mfr_tr (mfr_put (cs := [23]) (by simp)) (mfr_put (by simp))) rfl) hW (f := f) (m := gM σ (itr (gP σ) i x)) (mp_pp _ _ _ _) fA p1 q3 (by omega) (by omega)
      rw [← eZ] at s1
      have em : mm_put (mm_stc (mm_put (mm_put S 23 4 (nI q)) 23 3 (nI (tld (S 32) k C σ (gP σ (itr (gP σ) i x))).1)) 24 f2) 23 3 (nI ((tld (S 32) k C σ (gP σ (itr (gP σ) i x))).1 + kFc k (gM σ (itr (gP σ) i x)))) = mm_stc (mm_put (mm_put S 23 4 (nI q)) 23 3 (nI (tld (S 32) k C σ (itr (gP σ) i x)).1)) 24 f2 := by
        rw [e1]
        funext a b
        by_cases y : a = 23
        · subst y
          by_cases z : b = 3
          · subst z; rw [mp_pp]; rfl
          · rw [mp_pk _ _ _ z, mm_stc_ne _ _ (by decide), mm_stc_ne _ _ (by decide), mp_pk _ _ _ z, mp_pk _ _ _ z]
        · rw [mp_pn _ _ _ y]
          by_cases z : a = 24
          · subst z; rw [mm_stc_at, mm_stc_at]
          · rw [mm_stc_ne _ _ z, mm_stc_ne _ _ z]
            simp only [mp_pn _ _ _ y]
      rw [em] at s1
      obtain ⟨f', r1, r2⟩ := ih f2 (stp + 1) o1 o2 (some (.inl (nI (itr (gP σ) i x)))) (by omega) (by omega) (fun j hj => by
        rw [e1] at hj
        rw [s2 j hj, e2]
        unfold insF
        by_cases y1 : j < p
        · rw [if_pos y1, if_pos y1]; exact hf j (by omega)
        · rw [if_neg y1, if_neg y1]
          by_cases y2 : j = p
          · rw [if_pos y2, if_pos y2]
          · rw [if_neg y2, if_neg y2]
            by_cases y3 : j ≤ p + kFc k (gM σ (itr (gP σ) i x))
            · rw [if_pos y3, if_pos y3]
            · rw [if_neg y3, if_neg y3]; exact hf _ (by omega))
      refine ⟨f', ?_, r2⟩
      rw [← eZ, eX0_show_32, if_neg (show ¬ (300 : Int32) ≤ nI stp from nI_ge (b := 300) (by omega) (by decide)), if_neg (fun y => by have := (nI_eq (by omega) (by omega)).mp y; omega), if_neg (show ¬ nI (gP σ (itr (gP σ) i x)) = -1 from fun q => (nn_a1 (a := gP σ (itr (gP σ) i x)) (by omega)).mp q), bt, mm_bd_ret, tp, mm_bd_ret, mo, mm_bd_ret, s1, mm_bd_ret, nI_1]
      exact r1
  obtain ⟨f0, b1, b2⟩ := mq_show_any (d := d + 3) (S := S1) (C := C) (x1 := nI q) (o2 := some (.inl (nI C))) (o4 := none) (o5 := none) (o6 := none) hC (by subst eS; exact mp_pp _ _ _ _) (C - 0) 0 (S1 24) rfl (by omega)
  rw [mm_stc_self, nI_0] at b1
  have fnode := mq_failNode (d := d) (S := mm_stc S1 24 f0) (G := S 32) (σ := σ) (by subst eS; exact hc) hN hx
  have h0 : (tld (S 32) k C σ (itr (gP σ) D x)) = (C, fun _ => N1) := by rw [u1]; rfl
  obtain ⟨f', r1, r2⟩ := down D f0 0 (some (.inl (nI q))) (some (.inl (nI C))) none (Nat.le_refl _) (by omega) (by rw [h0]; intro j hj; have hj' : j < C := hj; rw [b2, if_pos ⟨by omega, hj'⟩])
  rw [h0, u1, nI_0] at r1
  have r1' : mm_E (mm_runD (d + 3)) pX0_show 0 32 [some (.inr 23), some (.inl (nI q)), some (.inl (nI C)), some (.inl (nI x)), some (.inl 0), some (.inl 0), none] [] (mm_stc S1 24 f0) 0 0 = some (mm_stc (mm_put (mm_put S 23 4 (nI q)) 23 3 (nI (tld (S 32) k C σ x).1)) 24 f', 0, 0, 0, 0) := by rw [eS]; exact r1
  have em : mm_stc (mm_put (mm_put S 23 4 (nI q)) 23 3 (nI (tld (S 32) k C σ x).1)) 24 f' = mm_put (mm_stc (mm_put S 23 4 (nI q)) 24 f') 23 3 (nI (tld (S 32) k C σ x).1) := by
    funext a b
    by_cases y : a = 23
    · subst y
      by_cases z : b = 3
      · subst z; rw [mp_pp]; rfl
      · rw [mp_pk _ _ _ z, mm_stc_ne _ _ (by decide), mm_stc_ne _ _ (by decide), mp_pk _ _ _ z]
    · rw [mp_pn _ _ _ y]
      by_cases z : a = 24
      · subst z; rw [mm_stc_at, mm_stc_at]
      · rw [mm_stc_ne _ _ z, mm_stc_ne _ _ z, mp_pn _ _ _ y]
  refine ⟨f', ?_, r2⟩
  rw [dX0_show, eX0_show_0, if_neg (show ¬ (340 : Int32) < nI C from nI_nlt (a := 340) (by omega) (by decide)), ← eS, ← em]
  refine Eq.trans b1 ?_
  rw [fnode, mm_bd_ret]
  exact r1'
theorem mq_cSign {t : Nat × (Nat → Int32)} (h3 : S 23 3 = nI t.1) (hn : t.1 ≤ 340) (h24 : ∀ j, j < t.1 → S 24 j = t.2 j) (x : Int32) : mm_runD (d + 1) 3 [.inr 23, .inl x] S = some (S, 0, 0, 0, msA t x) := by
  rw [dX0_signAt, eX0_signAt_0, h3]
  unfold msA
  by_cases y : mi x t.1
  · obtain ⟨j, hj, rfl⟩ := y
    rw [if_neg (nI_pos (by omega)), if_neg (nI_ge hj (by omega)), if_neg (show ¬ (340 : Int32) ≤ nI j from nI_ge (b := 340) (by omega) (by decide)), ar_24 (by omega), h24 j hj, if_pos (mi_in hj), nI_clamp (by omega)]
  · rw [if_neg y]
    by_cases z : x < 0
    · rw [if_pos z]
    · rw [if_neg z, if_pos ((mi_out (by omega) y).resolve_left z)]
end
