/-! PURE: signs that make whole patterns: sq g l n p: the l signs from p on make just n patterns (g: how many parts the sign at a place has) -/
def sq (g : Nat → Nat) : Nat → Nat → Nat → Prop
  | 0, n, _ => n = 0
  | l + 1, n, p => ∃ n', n = n' + 1 ∧ sq g l (n' + g p) (p + 1)
theorem sq_0 {g : Nat → Nat} {l p : Nat} (h : sq g l 0 p) : l = 0 := by
  cases l with
  | zero => rfl
  | succ l => obtain ⟨n', h1, _⟩ := h; omega
theorem sq_add {g : Nat → Nat} : ∀ {l1 n1 p l2 n2 : Nat}, sq g l1 n1 p → sq g l2 n2 (p + l1) → sq g (l1 + l2) (n1 + n2) p := by
  intro l1
  induction l1 with
  | zero =>
    intro n1 p l2 n2 h1 h2
    have e : n1 = 0 := h1
    subst e
    rw [Nat.zero_add, Nat.zero_add]
    exact h2
  | succ l1 ih =>
    intro n1 p l2 n2 h1 h2
    obtain ⟨n', h3, h4⟩ := h1
    have := ih h4 (l2 := l2) (n2 := n2) (by rw [show p + 1 + l1 = p + (l1 + 1) by omega]; exact h2)
    rw [show l1 + 1 + l2 = (l1 + l2) + 1 by omega]
    exact ⟨n' + n2, by omega, by rw [show n' + n2 + g p = n' + g p + n2 by omega]; exact this⟩
theorem sq_split {g : Nat → Nat} : ∀ {l n1 n2 p : Nat}, sq g l (n1 + n2) p → ∃ l1 l2, l = l1 + l2 ∧ sq g l1 n1 p ∧ sq g l2 n2 (p + l1) := by
  intro l
  induction l with
  | zero =>
    intro n1 n2 p h
    have e : n1 + n2 = 0 := h
    exact ⟨0, 0, rfl, show n1 = 0 by omega, show n2 = 0 by omega⟩
  | succ l ih =>
    intro n1 n2 p h
    cases n1 with
    | zero => exact ⟨0, l + 1, by omega, rfl, by rw [Nat.zero_add] at h; exact h⟩
    | succ n1 =>
      obtain ⟨n', h1, h2⟩ := h
      have e : n' + g p = (n1 + g p) + n2 := by omega
      rw [e] at h2
      obtain ⟨l1, l2, h3, h4, h5⟩ := ih h2
      exact ⟨l1 + 1, l2, by omega, ⟨n1, rfl, h4⟩, by rw [show p + (l1 + 1) = p + 1 + l1 by omega]; exact h5⟩
theorem sq_det {g : Nat → Nat} : ∀ {l l' n p : Nat}, sq g l n p → sq g l' n p → l = l' := by
  intro l
  induction l with
  | zero =>
    intro l' n p h1 h2
    have e : n = 0 := h1
    subst e
    exact (sq_0 h2).symm
  | succ l ih =>
    intro l' n p h1 h2
    cases l' with
    | zero =>
      have e : n = 0 := h2
      subst e
      exact sq_0 h1
    | succ l' =>
      obtain ⟨a, h3, h4⟩ := h1
      obtain ⟨b, h5, h6⟩ := h2
      have e : a = b := by omega
      subst e
      rw [ih h4 h6]
theorem sq_ext {g h : Nat → Nat} : ∀ {l n p : Nat}, (∀ j, p ≤ j → j < p + l → g j = h j) → sq g l n p → sq h l n p := by
  intro l
  induction l with
  | zero => intro n p _ q; exact q
  | succ l ih =>
    intro n p hj q
    obtain ⟨n', h1, h2⟩ := q
    refine ⟨n', h1, ?_⟩
    rw [← hj p (Nat.le_refl _) (by omega)]
    exact ih (fun j a b => hj j (by omega) (by omega)) h2
theorem sq_shift {g h : Nat → Nat} {o : Nat} : ∀ {l n p : Nat}, (∀ j, p ≤ j → j < p + l → g j = h (o + j)) → sq g l n p → sq h l n (o + p) := by
  intro l
  induction l with
  | zero => intro n p _ q; exact q
  | succ l ih =>
    intro n p hj q
    obtain ⟨n', h1, h2⟩ := q
    refine ⟨n', h1, ?_⟩
    rw [← hj p (Nat.le_refl _) (by omega)]
    exact ih (p := p + 1) (fun j a b => hj j (by omega) (by omega)) h2
/-- at each place a whole pattern begins -/
theorem sq_at {g : Nat → Nat} : ∀ {l n p i : Nat}, sq g l n p → i < l → ∃ l', sq g l' 1 (p + i) ∧ i + l' ≤ l := by
  intro l
  induction l with
  | zero => intro n p i _ hi; omega
  | succ l ih =>
    intro n p i h hi
    obtain ⟨n', h1, h2⟩ := h
    cases i with
    | zero =>
      have h0 : sq g (l + 1) (1 + n') p := ⟨n', by omega, h2⟩
      obtain ⟨l1, l2, h3, h4, h5⟩ := sq_split h0
      exact ⟨l1, h4, by omega⟩
    | succ i =>
      obtain ⟨l', h3, h4⟩ := ih h2 (show i < l by omega)
      exact ⟨l', by rw [show p + (i + 1) = p + 1 + i by omega]; exact h3, by omega⟩
theorem sq_pos {g : Nat → Nat} {l n p : Nat} (h : sq g l (n + 1) p) : 0 < l := by
  cases l with
  | zero => exact absurd (show n + 1 = 0 from h) (by omega)
  | succ l => omega
theorem sq_le {g : Nat → Nat} : ∀ {l n p : Nat}, sq g l n p → n ≤ l := by
  intro l
  induction l with
  | zero => intro n p h; exact Nat.le_of_eq h
  | succ l ih =>
    intro n p h
    obtain ⟨n', h1, h2⟩ := h
    have := ih h2
    omega
/-- how many parts a sign has -/
noncomputable def kar (k : KK) (x : Int32) : Nat := if x = N2 then 2 else kfc k x
theorem stp_kar (k : KK) (t : Nat) (x : Int32) : (stp k t x).length = kar k x := by
  unfold stp kar
  split
  · rfl
  · rw [seg_len]
theorem kar_N1 {k : KK} (hW : kW k) : kar k N1 = 0 := by unfold kar; rw [if_neg (by decide), kfc_N1 hW]
theorem kar_N2 {k : KK} : kar k N2 = 2 := if_pos rfl
theorem kar_m {k : KK} (hW : kW k) {m : Nat} (hm : m < kM k) : kar k (nI m) = kFc k m := by
  have := hW.2.1
  unfold kar
  rw [if_neg (fun q => (nn_a2 (a := m) (by omega)).mp q), kfc_in hW hm]
theorem hnd_sq {k : KK} {C : Nat} {col : Nat → Nat} {x : Nat → Int32} {n : Nat} (h : hnd k C col x n) (h0 : stk k C col x n = []) : ∀ (z i : Nat), n - i = z → i ≤ n → sq (fun j => kar k (x j)) z (stk k C col x i).length i := by
  intro z
  induction z with
  | zero =>
    intro i hz hi
    have e : i = n := by omega
    subst e
    rw [h0]
    exact rfl
  | succ z ih =>
    intro i hz hi
    obtain ⟨t, r, h1, _⟩ := h i (by omega)
    have := ih (i + 1) (by omega) (by omega)
    rw [stk_s h1, List.length_append, stp_kar] at this
    rw [h1]
    exact ⟨r.length, rfl, by rw [Nat.add_comm]; exact this⟩
theorem hnd_whole {k : KK} {C : Nat} {col : Nat → Nat} {x : Nat → Int32} {n : Nat} (h : hnd k C col x n) (h0 : stk k C col x n = []) : sq (fun j => kar k (x j)) n C 0 := by
  have := hnd_sq h h0 (n - 0) 0 rfl (by omega)
  rw [show (stk k C col x 0).length = C from seg_len col C 0] at this
  exact this
/-- notes of the ends, from i up to n -/
def mends (g : Nat → Nat) (f : Nat → Int32) (i n : Nat) : Prop := ∀ j, i ≤ j → j < n → ∃ l, sq g l 1 j ∧ j + l ≤ n ∧ f j = nI (j + l)
section
variable {d : Nat} {S : Mem} {k : KK} {n : Nat}
theorem mq_signAtr (h4 : S 11 4 = nI n) (hn : n ≤ 40) {i : Nat} (hi : i < n) : mm_runD (d + 1) 12 [.inr 11, .inl (nI i)] S = some (S, 0, 0, 0, S 12 i) := by
  rw [dX1_signAt_11, eX1_signAt_11_0, if_neg (nI_pos (by omega)), h4, if_neg (nI_ge hi (by omega)), if_neg (show ¬ (40 : Int32) ≤ nI i from nI_ge (b := 40) (by omega) (by decide)), ar_12 (by omega)]
theorem mq_endAtr (h4 : S 11 4 = nI n) (hn : n ≤ 40) {i : Nat} (hi : i < n) : mm_runD (d + 1) 13 [.inr 11, .inl (nI i)] S = some (S, 0, 0, 0, S 13 i) := by
  rw [dX1_endAt_11, eX1_endAt_11_0, if_neg (nI_pos (by omega)), h4, if_neg (nI_ge hi (by omega)), if_neg (show ¬ (40 : Int32) ≤ nI i from nI_ge (b := 40) (by omega) (by decide)), ar_13 (by omega)]
theorem mq_ends_inr {g : Nat → Nat} {at0 : Nat} {o2 : Option MV} {P : Nat} (h4 : S 11 4 = nI n) (hn : n ≤ 40) (ha : at0 < n) (hP : P < 100) (hE : mends g (S 13) (at0 + 1) n) : ∀ (q e l : Nat), q ≤ P → sq g l q e → at0 < e → e + l ≤ n →
    ∃ o5 o4, mm_E (mm_runD (d + 2)) pX1_findEnds 0 31 [some (.inr 11), some (.inl (nI at0)), o2, some (.inl (nI P)), some (.inl (nI e)), some (.inl (nI (P - q)))] [] S 0 0 = mm_E (mm_runD (d + 2)) pX1_findEnds 0 9 [some (.inr 11), some (.inl (nI at0 - 1)), o2, some (.inl (nI P)), o4, o5] [] (mm_put S 13 at0 (nI (e + l))) 0 0 := by
  intro q
  induction q with
  | zero =>
    intro e l hq hs he hl
    have z := sq_0 hs
    subst z
    refine ⟨some (.inl (nI (P - 0))), some (.inl (nI e)), ?_⟩
    rw [eX1_findEnds_11_31, if_pos (nI_le (by omega) (by omega)), ar_13 (by omega), nn_sm] <;> rfl
  | succ q ih =>
    intro e l hq hs he hl
    have hs' : sq g l (1 + q) e := by rw [Nat.add_comm]; exact hs
    obtain ⟨l1, l2, h1, h2, h3⟩ := sq_split hs'
    have hp := sq_pos (n := 0) h2
    obtain ⟨l', h5, h6, h7⟩ := hE e (by omega) (by omega)
    have el := sq_det h2 h5
    subst el
    obtain ⟨o5, o4, h8⟩ := ih (e + l1) l2 (by omega) h3 (by omega) (by omega)
    refine ⟨o5, o4, ?_⟩
    rw [eX1_findEnds_11_31, if_neg (nI_ge (by omega) (by omega)), mq_endAtr h4 hn (by omega), mm_bd_ret, h7, nI_1, show P - (q + 1) + 1 = P - q by omega, h8, h1, Nat.add_assoc]
theorem mq_ends_lr (hW : kW k) {x : Nat → Int32} (hn : n ≤ 40) {C : Nat} (hs : sq (fun j => kar k (x j)) n C 0) (hx : ∀ i, i < n → sgn k (x i)) : ∀ (i : Nat) (S : Mem) (o2 o3 o4 o5 : Option MV), i ≤ n → mq_K S k → S 11 4 = nI n → (∀ i, i < n → S 12 i = x i) → mends (fun j => kar k (x j)) (S 13) i n →
    ∃ S', mm_E (mm_runD (d + 2)) pX1_findEnds 0 9 [some (.inr 11), some (.inl (nI i - 1)), o2, o3, o4, o5] [] S 0 0 = some (S', 0, 0, 0, 0) ∧ mfr [13] S S' ∧ mends (fun j => kar k (x j)) (S' 13) 0 n := by
  intro i
  have hM := hW.2.1
  induction i with
  | zero =>
    intro S o2 o3 o4 o5 hi hK h4 hS hE
    refine ⟨S, ?_, mfr_rf, hE⟩
    rw [eX1_findEnds_11_9, if_pos (by decide)]
  | succ i ih =>
    intro S o2 o3 o4 o5 hi hK h4 hS hE
    obtain ⟨l0, h1, h2⟩ := sq_at (i := i) hs (by omega)
    rw [Nat.zero_add] at h1
    have h1' := h1
    cases l0 with
    | zero => exact absurd (show 1 = 0 from h1) (by omega)
    | succ l0 =>
      obtain ⟨n', h5, h6⟩ := h1
      have e0 : n' = 0 := by omega
      subst e0
      have hP : (kar k (x i)) < 100 := by
        have := stp_len hW 0 (x i)
        rw [stp_kar] at this
        omega
      have key : ∀ o2, ∃ S', mm_E (mm_runD (d + 2)) pX1_findEnds 0 31 [some (.inr 11), some (.inl (nI i)), o2, some (.inl (nI (kar k (x i)))), some (.inl (nI i + 1)), some (.inl 0)] [] S 0 0 = some (S', 0, 0, 0, 0) ∧ mfr [13] S S' ∧ mends (fun j => kar k (x j)) (S' 13) 0 n := by
        intro o2
        obtain ⟨o5', o4', h7⟩ := mq_ends_inr (d := d) (S := S) (o2 := o2) h4 hn (at0 := i) (by omega) hP hE (kar k (x i)) (i + 1) l0 (Nat.le_refl _) (by rw [Nat.zero_add] at h6; exact h6) (by omega) (by omega)
        obtain ⟨S', h8, h9, h10⟩ := ih (mm_put S 13 i (nI (i + 1 + l0))) o2 (some (.inl (nI (kar k (x i))))) o4' o5' (by omega) (mq_K_fr hK (mfr_put (cs := [13]) (by simp)) rfl) (by rw [mp_pn _ _ _ (by decide)]; exact h4) (fun j hj => by rw [mp_pn _ _ _ (by decide)]; exact hS j hj) (by
          intro j a b
          rcases Nat.lt_or_ge i j with z | z
          · rw [mp_pk _ _ _ (by omega)]
            exact hE j (by omega) b
          · have : j = i := by omega
            subst this
            rw [mp_pp]
            exact ⟨l0 + 1, h1', by omega, by rw [show j + 1 + l0 = j + (l0 + 1) by omega]⟩)
        refine ⟨S', ?_, mfr_tr (mfr_put (by simp)) h9, h10⟩
        rw [Nat.sub_self] at h7
        rw [nI_0] at h7
        rw [nI_1, h7, h8]
      have e1 : mm_E (mm_runD (d + 2)) pX1_findEnds 0 9 [some (.inr 11), some (.inl (nI (i + 1) - 1)), o2, o3, o4, o5] [] S 0 0 = mm_E (mm_runD (d + 2)) pX1_findEnds 0 31 [some (.inr 11), some (.inl (nI i)), some (.inl (x i)), some (.inl (nI (kar k (x i)))), some (.inl (nI i + 1)), some (.inl 0)] [] S 0 0 := by
        rw [nI_pred, eX1_findEnds_11_9, if_neg (nI_pos (by omega)), mq_signAtr h4 hn (by omega), mm_bd_ret, hS i (by omega)]
        by_cases z : x i = -2
        · rw [if_pos z, show kar k (x i) = 2 from if_pos z] <;> rfl
        · rw [if_neg z, mq_fieldCount hK hW, mm_bd_ret, show kar k (x i) = kfc k (x i) from if_neg z]
      rw [e1]
      exact key _
theorem mq_findEndsr (hK : mq_K S k) (hW : kW k) {x : Nat → Int32} (hn : n ≤ 40) {C : Nat} (hs : sq (fun j => kar k (x j)) n C 0) (hx : ∀ i, i < n → sgn k (x i)) (h4 : S 11 4 = nI n) (hS : ∀ i, i < n → S 12 i = x i) :
    ∃ S', mm_runD (d + 3) 14 [.inr 11] S = some (S', 0, 0, 0, 0) ∧ mfr [13] S S' ∧ mends (fun j => kar k (x j)) (S' 13) 0 n := by
  obtain ⟨S', h1, h2, h3⟩ := mq_ends_lr (d := d) hW hn hs hx n S none none none none (Nat.le_refl _) hK h4 hS (fun j a b => absurd a (by omega))
  refine ⟨S', ?_, h2, h3⟩
  rw [dX1_findEnds_11, eX1_findEnds_11_0, h4, if_neg (show ¬ (40 : Int32) < nI n from nI_nlt (a := 40) (by omega) (by decide))]
  exact h1
end
section
variable {d : Nat} {S : Mem} {k : KK} {n : Nat}
theorem mq_signAtv (h4 : S 15 4 = nI n) (hn : n ≤ 60) {i : Nat} (hi : i < n) : mm_runD (d + 1) 12 [.inr 15, .inl (nI i)] S = some (S, 0, 0, 0, S 16 i) := by
  rw [dX1_signAt_15, eX1_signAt_15_0, if_neg (nI_pos (by omega)), h4, if_neg (nI_ge hi (by omega)), if_neg (show ¬ (60 : Int32) ≤ nI i from nI_ge (b := 60) (by omega) (by decide)), ar_16 (by omega)]
theorem mq_endAtv (h4 : S 15 4 = nI n) (hn : n ≤ 60) {i : Nat} (hi : i < n) : mm_runD (d + 1) 13 [.inr 15, .inl (nI i)] S = some (S, 0, 0, 0, S 17 i) := by
  rw [dX1_endAt_15, eX1_endAt_15_0, if_neg (nI_pos (by omega)), h4, if_neg (nI_ge hi (by omega)), if_neg (show ¬ (60 : Int32) ≤ nI i from nI_ge (b := 60) (by omega) (by decide)), ar_17 (by omega)]
theorem mq_ends_inv {g : Nat → Nat} {at0 : Nat} {o2 : Option MV} {P : Nat} (h4 : S 15 4 = nI n) (hn : n ≤ 60) (ha : at0 < n) (hP : P < 100) (hE : mends g (S 17) (at0 + 1) n) : ∀ (q e l : Nat), q ≤ P → sq g l q e → at0 < e → e + l ≤ n →
    ∃ o5 o4, mm_E (mm_runD (d + 2)) pX1_findEnds 0 31 [some (.inr 15), some (.inl (nI at0)), o2, some (.inl (nI P)), some (.inl (nI e)), some (.inl (nI (P - q)))] [] S 0 0 = mm_E (mm_runD (d + 2)) pX1_findEnds 0 9 [some (.inr 15), some (.inl (nI at0 - 1)), o2, some (.inl (nI P)), o4, o5] [] (mm_put S 17 at0 (nI (e + l))) 0 0 := by
  intro q
  induction q with
  | zero =>
    intro e l hq hs he hl
    have z := sq_0 hs
    subst z
    refine ⟨some (.inl (nI (P - 0))), some (.inl (nI e)), ?_⟩
    rw [eX1_findEnds_15_31, if_pos (nI_le (by omega) (by omega)), ar_17 (by omega), nn_sm] <;> rfl
  | succ q ih =>
    intro e l hq hs he hl
    have hs' : sq g l (1 + q) e := by rw [Nat.add_comm]; exact hs
    obtain ⟨l1, l2, h1, h2, h3⟩ := sq_split hs'
    have hp := sq_pos (n := 0) h2
    obtain ⟨l', h5, h6, h7⟩ := hE e (by omega) (by omega)
    have el := sq_det h2 h5
    subst el
    obtain ⟨o5, o4, h8⟩ := ih (e + l1) l2 (by omega) h3 (by omega) (by omega)
    refine ⟨o5, o4, ?_⟩
    rw [eX1_findEnds_15_31, if_neg (nI_ge (by omega) (by omega)), mq_endAtv h4 hn (by omega), mm_bd_ret, h7, nI_1, show P - (q + 1) + 1 = P - q by omega, h8, h1, Nat.add_assoc]
theorem mq_ends_lv (hW : kW k) {x : Nat → Int32} (hn : n ≤ 60) {C : Nat} (hs : sq (fun j => kar k (x j)) n C 0) (hx : ∀ i, i < n → sgn k (x i)) : ∀ (i : Nat) (S : Mem) (o2 o3 o4 o5 : Option MV), i ≤ n → mq_K S k → S 15 4 = nI n → (∀ i, i < n → S 16 i = x i) → mends (fun j => kar k (x j)) (S 17) i n →
    ∃ S', mm_E (mm_runD (d + 2)) pX1_findEnds 0 9 [some (.inr 15), some (.inl (nI i - 1)), o2, o3, o4, o5] [] S 0 0 = some (S', 0, 0, 0, 0) ∧ mfr [17] S S' ∧ mends (fun j => kar k (x j)) (S' 17) 0 n := by
  intro i
  have hM := hW.2.1
  induction i with
  | zero =>
    intro S o2 o3 o4 o5 hi hK h4 hS hE
    refine ⟨S, ?_, mfr_rf, hE⟩
    rw [eX1_findEnds_15_9, if_pos (by decide)]
  | succ i ih =>
    intro S o2 o3 o4 o5 hi hK h4 hS hE
    obtain ⟨l0, h1, h2⟩ := sq_at (i := i) hs (by omega)
    rw [Nat.zero_add] at h1
    have h1' := h1
    cases l0 with
    | zero => exact absurd (show 1 = 0 from h1) (by omega)
    | succ l0 =>
      obtain ⟨n', h5, h6⟩ := h1
      have e0 : n' = 0 := by omega
      subst e0
      have hP : (kar k (x i)) < 100 := by
        have := stp_len hW 0 (x i)
        rw [stp_kar] at this
        omega
      have key : ∀ o2, ∃ S', mm_E (mm_runD (d + 2)) pX1_findEnds 0 31 [some (.inr 15), some (.inl (nI i)), o2, some (.inl (nI (kar k (x i)))), some (.inl (nI i + 1)), some (.inl 0)] [] S 0 0 = some (S', 0, 0, 0, 0) ∧ mfr [17] S S' ∧ mends (fun j => kar k (x j)) (S' 17) 0 n := by
        intro o2
        obtain ⟨o5', o4', h7⟩ := mq_ends_inv (d := d) (S := S) (o2 := o2) h4 hn (at0 := i) (by omega) hP hE (kar k (x i)) (i + 1) l0 (Nat.le_refl _) (by rw [Nat.zero_add] at h6; exact h6) (by omega) (by omega)
        obtain ⟨S', h8, h9, h10⟩ := ih (mm_put S 17 i (nI (i + 1 + l0))) o2 (some (.inl (nI (kar k (x i))))) o4' o5' (by omega) (mq_K_fr hK (mfr_put (cs := [17]) (by simp)) rfl) (by rw [mp_pn _ _ _ (by decide)]; exact h4) (fun j hj => by rw [mp_pn _ _ _ (by decide)]; exact hS j hj) (by
          intro j a b
          rcases Nat.lt_or_ge i j with z | z
          · rw [mp_pk _ _ _ (by omega)]
            exact hE j (by omega) b
          · have : j = i := by omega
            subst this
            rw [mp_pp]
            exact ⟨l0 + 1, h1', by omega, by rw [show j + 1 + l0 = j + (l0 + 1) by omega]⟩)
        refine ⟨S', ?_, mfr_tr (mfr_put (by simp)) h9, h10⟩
        rw [Nat.sub_self] at h7
        rw [nI_0] at h7
        rw [nI_1, h7, h8]
      have e1 : mm_E (mm_runD (d + 2)) pX1_findEnds 0 9 [some (.inr 15), some (.inl (nI (i + 1) - 1)), o2, o3, o4, o5] [] S 0 0 = mm_E (mm_runD (d + 2)) pX1_findEnds 0 31 [some (.inr 15), some (.inl (nI i)), some (.inl (x i)), some (.inl (nI (kar k (x i)))), some (.inl (nI i + 1)), some (.inl 0)] [] S 0 0 := by
        rw [nI_pred, eX1_findEnds_15_9, if_neg (nI_pos (by omega)), mq_signAtv h4 hn (by omega), mm_bd_ret, hS i (by omega)]
        by_cases z : x i = -2
        · rw [if_pos z, show kar k (x i) = 2 from if_pos z] <;> rfl
        · rw [if_neg z, mq_fieldCount hK hW, mm_bd_ret, show kar k (x i) = kfc k (x i) from if_neg z]
      rw [e1]
      exact key _
theorem mq_findEndsv (hK : mq_K S k) (hW : kW k) {x : Nat → Int32} (hn : n ≤ 60) {C : Nat} (hs : sq (fun j => kar k (x j)) n C 0) (hx : ∀ i, i < n → sgn k (x i)) (h4 : S 15 4 = nI n) (hS : ∀ i, i < n → S 16 i = x i) :
    ∃ S', mm_runD (d + 3) 14 [.inr 15] S = some (S', 0, 0, 0, 0) ∧ mfr [17] S S' ∧ mends (fun j => kar k (x j)) (S' 17) 0 n := by
  obtain ⟨S', h1, h2, h3⟩ := mq_ends_lv (d := d) hW hn hs hx n S none none none none (Nat.le_refl _) hK h4 hS (fun j a b => absurd a (by omega))
  refine ⟨S', ?_, h2, h3⟩
  rw [dX1_findEnds_15, eX1_findEnds_15_0, h4, if_neg (show ¬ (60 : Int32) < nI n from nI_nlt (a := 60) (by omega) (by decide))]
  exact h1
end
