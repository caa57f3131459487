/-! PURE: the reference tells a missing case -/
theorem itr_out (P : Nat → Nat) : ∀ n x, itr P (n + 1) x = P (itr P n x) := by
  intro n
  induction n with
  | zero => intro x; rfl
  | succ n ih => intro x; show itr P (n + 1) (P x) = _; rw [ih (P x)]; rfl
theorem itr_up {σ : SG} (hP : ∀ i, 0 < i → i < gN σ → gP σ i < i) : ∀ x, x < gN σ → itr (gP σ) (upx σ x).length x = 0 ∧ ∀ n, n < (upx σ x).length → 0 < itr (gP σ) n x ∧ itr (gP σ) n x < gN σ := by
  intro x
  induction x using Nat.strongRecOn with
  | ind x ih =>
    intro hx
    by_cases e : x = 0
    · subst e; exact ⟨rfl, fun n hn => absurd hn (Nat.not_lt_zero _)⟩
    · have h0 : 0 < x := by omega
      have hp := hP x h0 hx
      obtain ⟨i1, i2⟩ := ih (gP σ x) hp (by omega)
      rw [upx_s (fun i a b => hP i a (by omega)) h0, List.length_cons]
      refine ⟨i1, fun n hn => ?_⟩
      cases n with
      | zero => exact ⟨h0, hx⟩
      | succ n => exact i2 n (by omega)
section
variable {d : Nat} {S : Mem} {k : KK} {C R : Nat} {sz : Nat → Nat} {col : Nat → Nat} {σ : SG}
theorem mr_tl_up {x D : Nat} {o1 o4 o5 o6 o7 o8 o9 : Option MV} (hD : D ≤ 300) (hlt : ∀ i, i ≤ D → itr (gP σ) i x < 301) (h47 : ∀ i, i ≤ D → S 47 (itr (gP σ) i x) = if i < D then nI (itr (gP σ) (i + 1) x) else N1) : ∀ (z i : Nat) (w : Nat → Int32), D - i = z → i ≤ D →
    ∃ w', mm_E (mm_runD d) pX8_tell 1 4 [some (.inr 27), o1, some (.inl (nI i)), some (.inl (nI (itr (gP σ) i x))), o4, o5, o6, o7, o8, o9] [] (mm_stc S 52 w) 0 0 = mm_E (mm_runD d) pX8_tell 1 27 [some (.inr 27), o1, some (.inl (nI D)), some (.inl (S 27 6)), some (.inl 0), o5, o6, o7, o8, o9] [] (mm_stc S 52 w') 0 0 ∧ (∀ j, j < i → w' j = w j) ∧ ∀ j, i ≤ j → j < D → w' j = nI (itr (gP σ) j x) := by
  intro z
  induction z with
  | zero =>
    intro i w hz hi
    have e : i = D := by omega
    subst e
    have h := h47 i (Nat.le_refl _)
    rw [if_neg (Nat.lt_irrefl _)] at h
    have h' : (mm_stc S 52 w) 47 (itr (gP σ) i x) = N1 := h
    refine ⟨w, ?_, fun _ _ => rfl, fun j a b => absurd a (by omega)⟩
    rw [eX8_tell_4, ar_47 (hlt i hi), h', if_pos rfl]
    rfl
  | succ z ih =>
    intro i w hz hi
    have hl := hlt i hi
    have hl1 := hlt (i + 1) (by omega)
    have h := h47 i hi
    rw [if_pos (by omega)] at h
    have h' : (mm_stc S 52 w) 47 (itr (gP σ) i x) = nI (itr (gP σ) (i + 1) x) := h
    have h'' : (mm_stc S 52 (upd w i (nI (itr (gP σ) i x)))) 47 (itr (gP σ) i x) = nI (itr (gP σ) (i + 1) x) := h
    obtain ⟨w', a1, a2, a3⟩ := ih (i + 1) (upd w i (nI (itr (gP σ) i x))) (by omega) (by omega)
    refine ⟨w', ?_, fun j hj => by rw [a2 j (by omega)]; exact pk_un (by omega), fun j a b => ?_⟩
    · rw [eX8_tell_4, ar_47 hl, h', if_neg (show ¬ nI (itr (gP σ) (i + 1) x) = -1 from fun q => (nn_a1 (a := itr (gP σ) (i + 1) x) (by omega)).mp q), ar_52 (by omega), mm_put_stc, ar_47 hl, h'', nI_1, a1]
    · by_cases e : j = i
      · subst e; rw [a2 j (by omega)]; exact pk_us
      · exact a3 j (by omega) b
theorem mr_tl_any {o1 o5 o6 o7 o8 o9 : Option MV} {D : Nat} {x3 : Int32} (hC : C ≤ 3) (h6 : S 27 6 = nI C) : ∀ (z c : Nat) (f : Nat → Int32), C - c = z → c ≤ C →
    ∃ f', mm_E (mm_runD d) pX8_tell 1 27 [some (.inr 27), o1, some (.inl (nI D)), some (.inl x3), some (.inl (nI c)), o5, o6, o7, o8, o9] [] (mm_stc S 53 f) 0 0 = mm_E (mm_runD d) pX8_tell 1 42 [some (.inr 27), o1, some (.inl (nI D)), some (.inl x3), some (.inl (nI D - 1)), o5, o6, o7, o8, o9] [] (mm_stc S 53 f') 0 0 ∧ ∀ j, f' j = if c ≤ j ∧ j < C then N1 else f j := by
  intro z
  induction z with
  | zero =>
    intro c f hz hc
    have h6' : (mm_stc S 53 f) 27 6 = nI C := h6
    refine ⟨f, ?_, fun j => by rw [if_neg (by omega)]⟩
    rw [eX8_tell_27, h6', if_pos (nI_le (by omega) (by omega))]
  | succ z ih =>
    intro c f hz hc
    have h6' : (mm_stc S 53 f) 27 6 = nI C := h6
    obtain ⟨f', a1, a2⟩ := ih (c + 1) (upd f c N1) (by omega) (by omega)
    refine ⟨f', ?_, fun j => ?_⟩
    · rw [eX8_tell_27, h6', if_neg (nI_ge (by omega) (by omega)), ar_53 (by omega), mm_put_stc, nI_1, a1]
    · rw [a2]
      by_cases e : j = c
      · subst e
        rw [if_neg (by omega), if_pos (by omega)]; exact pk_us
      · by_cases w : c + 1 ≤ j ∧ j < C
        · rw [if_pos w, if_pos (by omega)]
        · rw [if_neg w, if_neg (by omega)]; exact pk_un e
theorem mr_tl_shift {o1 o2 o5 : Option MV} {x3 x4 x7 : Int32} {p c : Nat} (hc : c ≤ 3) : ∀ (z i : Nat) (f : Nat → Int32), i - p = z → p ≤ i → i < 390 →
    ∃ f', mm_E (mm_runD d) pX8_tell 1 95 [some (.inr 27), o1, o2, some (.inl x3), some (.inl x4), o5, some (.inl (nI p)), some (.inl x7), some (.inl (nI c)), some (.inl (nI i))] [] (mm_stc S 53 f) 0 0 = mm_E (mm_runD d) pX8_tell 1 117 [some (.inr 27), o1, o2, some (.inl x3), some (.inl x4), o5, some (.inl (nI p)), some (.inl x7), some (.inl (nI c)), some (.inl (nI 1))] [] (mm_stc S 53 f') 0 0 ∧ ∀ j, f' j = if j = p then x7 else if p + c < j ∧ j ≤ i + c then f (j - c) else f j := by
  intro z
  induction z with
  | zero =>
    intro i f hz hi hi3
    refine ⟨upd f p x7, ?_, fun j => ?_⟩
    · rw [eX8_tell_95, if_pos (nI_le (by omega) (by omega)), ar_53 (by omega), mm_put_stc]
      rfl
    · by_cases e : j = p
      · rw [if_pos e, e]; exact pk_us
      · rw [if_neg e, if_neg (by omega)]; exact pk_un e
  | succ z ih =>
    intro i f hz hi hi3
    obtain ⟨f', a1, a2⟩ := ih (i - 1) (upd f (i + c) (f i)) (by omega) (by omega) (by omega)
    refine ⟨f', ?_, fun j => ?_⟩
    · rw [eX8_tell_95, if_neg (nI_ge (by omega) (by omega)), ar_53 (by omega), nI_add, ar_53 (by omega), mm_stc_at, mm_put_stc, nn_sm, show nI i - 1 = nI (i - 1) from nn_sub (b := 1) (by omega), a1]
    · rw [a2]
      by_cases e : j = p
      · rw [if_pos e, if_pos e]
      · rw [if_neg e, if_neg e]
        by_cases w : p + c < j ∧ j ≤ i - 1 + c
        · rw [if_pos w, if_pos (by omega)]; exact pk_un (by omega)
        · rw [if_neg w]
          by_cases y : j = i + c
          · subst y
            rw [if_pos (by omega), show i + c - c = i by omega]; exact pk_us
          · rw [if_neg (by omega)]; exact pk_un y
theorem mr_tl_fill {o1 o2 o5 o7 : Option MV} {x3 x4 : Int32} {p c : Nat} (hc : c ≤ 3) (hp : p < 390) : ∀ (z i : Nat) (f : Nat → Int32), c + 1 - i = z → i ≤ c + 1 →
    ∃ f' o9, mm_E (mm_runD d) pX8_tell 1 117 [some (.inr 27), o1, o2, some (.inl x3), some (.inl x4), o5, some (.inl (nI p)), o7, some (.inl (nI c)), some (.inl (nI i))] [] (mm_stc S 53 f) 0 0 = mm_E (mm_runD d) pX8_tell 1 42 [some (.inr 27), o1, o2, some (.inl (x3 + nI c)), some (.inl (x4 - 1)), o5, some (.inl (nI p)), o7, some (.inl (nI c)), o9] [] (mm_stc S 53 f') 0 0 ∧ ∀ j, f' j = if p + i ≤ j ∧ j ≤ p + c then N1 else f j := by
  intro z
  induction z with
  | zero =>
    intro i f hz hi
    refine ⟨f, some (.inl (nI i)), ?_, fun j => by rw [if_neg (by omega)]⟩
    rw [eX8_tell_117, if_pos (nI_lt (by omega) (by omega)), nn_sm]
  | succ z ih =>
    intro i f hz hi
    obtain ⟨f', o9, a1, a2⟩ := ih (i + 1) (upd f (p + i) N1) (by omega) (by omega)
    refine ⟨f', o9, ?_, fun j => ?_⟩
    · rw [eX8_tell_117, if_neg (nI_nlt (by omega) (by omega)), nI_add, ar_53 (by omega), mm_put_stc, nI_1, a1]
    · rw [a2]
      by_cases e : j = p + i
      · subst e
        rw [if_neg (by omega), if_pos (by omega)]; exact pk_us
      · by_cases w : p + (i + 1) ≤ j ∧ j ≤ p + c
        · rw [if_pos w, if_pos (by omega)]
        · rw [if_neg w, if_neg (by omega)]; exact pk_un e
/-- the tested ANY is found -/
theorem mr_tl_find (hK : mr_K S k) (hW : kW k) {o1 o2 : Option MV} {x3 : Int32} {n kk h p c m : Nat} {f : Nat → Int32} (hkk : kk < 301) (hc : c < 301) (h52 : S 52 kk = nI c) (h48 : S 48 c = nI m) (hm : m < kM k) (hp : isA f h p) (hpn : p < n) (hn : n < 390) (hx3 : x3 = nI n) : ∀ (z i : Nat) (o7 o8 o9 : Option MV), p - i = z → i ≤ p →
    ∃ x5, mm_E (mm_runD (d + 1)) pX8_tell 1 57 [some (.inr 27), o1, o2, some (.inl x3), some (.inl (nI kk)), some (.inl (nI (h - ca f i))), some (.inl (nI i)), o7, o8, o9] [] (mm_stc S 53 f) 0 0 = mm_E (mm_runD (d + 1)) pX8_tell 1 95 [some (.inr 27), o1, o2, some (.inl x3), some (.inl (nI kk)), x5, some (.inl (nI p)), some (.inl (nI m)), some (.inl (nI (kFc k m))), some (.inl (nI (n - 1)))] [] (mm_stc S 53 f) 0 0 := by
  have hK' : mr_K (mm_stc S 53 f) k := hK
  intro z
  induction z with
  | zero =>
    intro i o7 o8 o9 hz hi
    have e : i = p := by omega
    subst e
    have e52 : (mm_stc S 53 f) 52 kk = nI c := h52
    have e48 : (mm_stc S 53 f) 48 c = nI m := h48
    have z0 : h - ca f i = 0 := by have := hp.2; omega
    refine ⟨some (.inl (nI (h - ca f i))), ?_⟩
    rw [eX8_tell_57, ar_53 (by omega), mm_stc_at, if_pos (show f i = -1 from hp.1), z0, if_pos (by decide), ar_52 hkk, e52, ar_48 hc, e48, mr_fields hK' hW hm, mm_bd_ret, hx3, show nI n - 1 = nI (n - 1) from nn_sub (b := 1) (by omega)]
  | succ z ih =>
    intro i o7 o8 o9 hz hi
    have hmono := ca_mono f (show i + 1 ≤ p by omega)
    rw [ca_s] at hmono
    have hp2 := hp.2
    have cap := ca_le f p
    by_cases q : f i = N1
    · rw [if_pos q] at hmono
      obtain ⟨x5, a1⟩ := ih (i + 1) o7 o8 o9 (by omega) (by omega)
      refine ⟨x5, ?_⟩
      rw [ca_s, if_pos q] at a1
      rw [eX8_tell_57, ar_53 (by omega), mm_stc_at, if_pos (show f i = -1 from q), if_neg (nI_nle (by omega) (by omega)), ar_53 (by omega), if_pos (show f i = -1 from q), show nI (h - ca f i) - 1 = nI (h - ca f i - 1) from nn_sub (b := 1) (by omega), nI_1, show h - ca f i - 1 = h - (ca f i + 1) by omega, a1]
    · rw [if_neg q] at hmono
      obtain ⟨x5, a1⟩ := ih (i + 1) o7 o8 o9 (by omega) (by omega)
      refine ⟨x5, ?_⟩
      rw [ca_s, if_neg q] at a1
      rw [eX8_tell_57, ar_53 (by omega), mm_stc_at, if_neg (show ¬ f i = -1 from q), ar_53 (by omega), if_neg (show ¬ f i = -1 from q), show nI (h - ca f i) - 0 = nI (h - ca f i) from nn_sub (b := 0) (by omega), nI_1]
      exact a1
/-- what is told of a node -/
theorem mr_tell (hK : mr_K S k) (hW : kW k) (hr : rws S k C R sz) (hC : C ≤ 3) (h6 : S 27 6 = nI C) (hg : sgW (S 32) (gk S k) k C R sz col σ) (hn : rnd S (S 32) k σ) {x : Nat} (hx : x < gN σ) : ∃ w f, mm_runD (d + 2) 151 [.inr 27, .inl (nI x)] S = some (mm_stc (mm_stc S 52 w) 53 f, 0, 0, 0, nI (tld (S 32) k C σ x).1) ∧ ∀ j, j < (tld (S 32) k C σ x).1 → f j = (tld (S 32) k C σ x).2 j := by
  have hM := hW.2.1
  have hN := hg.2.1
  have hPl : ∀ i, 0 < i → i < gN σ → gP σ i < i := fun i a b => (hg.2.2.2.2.1 i a b).1
  obtain ⟨u1, u2⟩ := itr_up hPl x hx
  obtain ⟨t1, t2, t3⟩ := tld_is hW hr hC hg x hx
  obtain ⟨D, eD⟩ : ∃ D, D = (upx σ x).length := ⟨_, rfl⟩
  rw [← eD] at u1 u2 t1 t3
  have hin : ∀ i, i ≤ D → itr (gP σ) i x < gN σ := fun i hi => by
    by_cases e : i = D
    · rw [e, u1]; exact hg.1
    · exact (u2 i (by omega)).2
  have h47 : ∀ i, i ≤ D → S 47 (itr (gP σ) i x) = if i < D then nI (itr (gP σ) (i + 1) x) else N1 := by
    intro i hi
    rw [(hn.2 _ (hin i hi)).2.1]
    by_cases e : i < D
    · rw [if_neg (by have := (u2 i e).1; omega), if_pos e, itr_out]
    · have e2 : i = D := by omega
      rw [e2, u1, if_pos rfl, if_neg (Nat.lt_irrefl _)]
  obtain ⟨w, a1, _, a3⟩ := mr_tl_up (d := d + 1) (S := S) (σ := σ) (x := x) (D := D) (o1 := some (.inl (nI x))) (o4 := none) (o5 := none) (o6 := none) (o7 := none) (o8 := none) (o9 := none) (by omega) (fun i hi => by have := hin i hi; omega) h47 (D - 0) 0 (S 52) rfl (by omega)
  rw [mm_stc_self, nI_0, h6] at a1
  obtain ⟨f0, b1, b2⟩ := mr_tl_any (d := d + 1) (S := mm_stc S 52 w) (C := C) (D := D) (o1 := some (.inl (nI x))) (o5 := none) (o6 := none) (o7 := none) (o8 := none) (o9 := none) (x3 := nI C) hC h6 (C - 0) 0 (S 53) rfl (by omega)
  have e53 : mm_stc (mm_stc S 52 w) 53 (S 53) = mm_stc S 52 w := mm_stc_self (mm_stc S 52 w) 53
  rw [e53, nI_0] at b1
  have down : ∀ (i : Nat) (f : Nat → Int32) (o5 o6 o7 o8 o9 : Option MV), i ≤ D → (∀ j, j < (tld (S 32) k C σ (itr (gP σ) i x)).1 → f j = (tld (S 32) k C σ (itr (gP σ) i x)).2 j) → ∃ f', mm_E (mm_runD (d + 1)) pX8_tell 1 42 [some (.inr 27), some (.inl (nI x)), some (.inl (nI D)), some (.inl (nI (tld (S 32) k C σ (itr (gP σ) i x)).1)), some (.inl (nI i - 1)), o5, o6, o7, o8, o9] [] (mm_stc (mm_stc S 52 w) 53 f) 0 0 = some (mm_stc (mm_stc S 52 w) 53 f', 0, 0, 0, nI (tld (S 32) k C σ x).1) ∧ ∀ j, j < (tld (S 32) k C σ x).1 → f' j = (tld (S 32) k C σ x).2 j := by
    intro i
    induction i with
    | zero =>
      intro f o5 o6 o7 o8 o9 hi hf
      refine ⟨f, ?_, hf⟩
      rw [eX8_tell_42, if_pos (by decide)]
      rfl
    | succ i ih =>
      intro f o5 o6 o7 o8 o9 hi hf
      obtain ⟨c0, cN⟩ := u2 i (by omega)
      have ep : itr (gP σ) (i + 1) x = gP σ (itr (gP σ) i x) := itr_out _ _ _
      have pN := hin (i + 1) hi
      rw [ep] at hf pN ⊢
      obtain ⟨q1, q2, q3, q4, q5, q6⟩ := hg.2.2.2.2.1 _ c0 cN
      obtain ⟨p, p1, p2, p3⟩ := tld_at hW hr hC hg c0 cN
      obtain ⟨l1, l2, l3⟩ := tld_is hW hr hC hg (gP σ (itr (gP σ) i x)) pN
      have wP := (hg.2.2.2.1 _ pN).1
      have hk2 := kdT_2 q2
      have hf3 := (hW.2.2 _ q3).2.1
      have nb : (tld (S 32) k C σ (gP σ (itr (gP σ) i x))).1 < 350 := by omega
      have m52 : (mm_stc (mm_stc S 52 w) 53 f) 52 i = nI (itr (gP σ) i x) := a3 i (by omega) (by omega)
      have m47 : (mm_stc (mm_stc S 52 w) 53 f) 47 (itr (gP σ) i x) = nI (gP σ (itr (gP σ) i x)) := by
        have := h47 i (by omega)
        rw [if_pos (by omega), ep] at this
        exact this
      have m43 : (mm_stc (mm_stc S 52 w) 53 f) 43 (gP σ (itr (gP σ) i x)) = nI (tsT (S 32) (gT σ (gP σ (itr (gP σ) i x)))) := ((hn.2 _ pN).2.2.2.2.2 q2).1
      have m48 : (mm_stc S 52 w) 48 (itr (gP σ) i x) = nI (gM σ (itr (gP σ) i x)) := by
        have := (hn.2 _ cN).2.2.1
        rw [if_neg (by omega)] at this
        exact this
      have fA : isA f (tsT (S 32) (gT σ (gP σ (itr (gP σ) i x)))) p := ⟨by rw [hf p p1]; exact p2.1, by rw [ca_ext (fun j hj => hf j (by omega))]; exact p2.2⟩
      obtain ⟨x5, s1⟩ := mr_tl_find (d := d) (S := mm_stc S 52 w) (k := k) hK hW (o1 := some (.inl (nI x))) (o2 := some (.inl (nI D))) (x3 := nI (tld (S 32) k C σ (gP σ (itr (gP σ) i x))).1) (n := (tld (S 32) k C σ (gP σ (itr (gP σ) i x))).1) (kk := i) (c := itr (gP σ) i x) (f := f) (by omega) (by omega) (a3 i (by omega) (by omega)) m48 q3 fA p1 (by omega) rfl (p - 0) 0 o7 o8 o9 rfl (by omega)
      obtain ⟨f1, s2, s3⟩ := mr_tl_shift (d := d + 1) (S := mm_stc S 52 w) (o1 := some (.inl (nI x))) (o2 := some (.inl (nI D))) (o5 := x5) (x3 := nI (tld (S 32) k C σ (gP σ (itr (gP σ) i x))).1) (x4 := nI i) (x7 := nI (gM σ (itr (gP σ) i x))) (p := p) (c := kFc k (gM σ (itr (gP σ) i x))) hf3 _ ((tld (S 32) k C σ (gP σ (itr (gP σ) i x))).1 - 1) f rfl (by omega) (by omega)
      obtain ⟨f2, o9', s4, s5⟩ := mr_tl_fill (d := d + 1) (S := mm_stc S 52 w) (o1 := some (.inl (nI x))) (o2 := some (.inl (nI D))) (o5 := x5) (o7 := some (.inl (nI (gM σ (itr (gP σ) i x))))) (x3 := nI (tld (S 32) k C σ (gP σ (itr (gP σ) i x))).1) (x4 := nI i) (p := p) (c := kFc k (gM σ (itr (gP σ) i x))) hf3 (by omega) _ 1 f1 rfl (by omega)
      have e1 : (tld (S 32) k C σ (itr (gP σ) i x)).1 = (tld (S 32) k C σ (gP σ (itr (gP σ) i x))).1 + kFc k (gM σ (itr (gP σ) i x)) := by rw [p3]
      have e2 : (tld (S 32) k C σ (itr (gP σ) i x)).2 = insF (tld (S 32) k C σ (gP σ (itr (gP σ) i x))).2 p (gM σ (itr (gP σ) i x)) (kFc k (gM σ (itr (gP σ) i x))) := by rw [p3]
      obtain ⟨f', r1, r2⟩ := ih f2 x5 (some (.inl (nI p))) (some (.inl (nI (gM σ (itr (gP σ) i x))))) (some (.inl (nI (kFc k (gM σ (itr (gP σ) i x)))))) o9' (by omega) (fun j hj => by
        rw [e1] at hj
        rw [e2, s5, s3]
        unfold insF
        by_cases y1 : j < p
        · rw [if_neg (by omega), if_neg (by omega), if_neg (by omega), if_pos y1]; exact hf j (by omega)
        · rw [if_neg y1]
          by_cases y2 : j = p
          · rw [if_neg (by omega), if_pos y2, if_pos y2]
          · by_cases y3 : j ≤ p + kFc k (gM σ (itr (gP σ) i x))
            · rw [if_pos (show p + 1 ≤ j ∧ j ≤ p + kFc k (gM σ (itr (gP σ) i x)) by omega), if_neg y2, if_pos y3]
            · rw [if_neg (show ¬ (p + 1 ≤ j ∧ j ≤ p + kFc k (gM σ (itr (gP σ) i x))) by omega), if_neg y2, if_pos (by omega), if_neg y2, if_neg y3]; exact hf _ (by omega))
      refine ⟨f', ?_, r2⟩
      have hz : ca f 0 = 0 := rfl
      rw [hz, Nat.sub_zero, nI_0] at s1
      rw [eX8_tell_42, nI_pred, if_neg (nI_pos (by omega)), ar_52 (by omega), m52, ar_47 (by omega), m47, ar_43 (by omega), m43, s1, s2, s4, nI_add, ← e1, r1]
  have h0 : (tld (S 32) k C σ (itr (gP σ) D x)) = (C, fun _ => N1) := by rw [u1]; rfl
  obtain ⟨f', r1, r2⟩ := down D f0 none none none none none (Nat.le_refl _) (by rw [h0]; intro j hj; have hj' : j < C := hj; rw [b2, if_pos ⟨by omega, hj'⟩])
  rw [h0] at r1
  refine ⟨w, f', ?_, r2⟩
  rw [dX8_tell, eX8_tell_0]
  show mm_E (mm_runD (d + 1)) pX8_tell 1 4 [some (.inr 27), some (.inl (nI x)), some (.inl 0), some (.inl (nI x)), none, none, none, none, none, none] [] S 0 0 = _
  exact a1.trans (b1.trans r1)
end
