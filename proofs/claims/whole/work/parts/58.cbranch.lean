/-! PURE: pile, addLine, copyAround, putFields -/
section
variable {d : Nat} {S : Mem} {n : Nat}
theorem mq_pile (h : rm S n) {t P : Nat} (ht : t ≤ 790000) (htn : t ≤ n) (hP : P ≤ 40) : ∃ S' c s n', mm_runD (d + 2) 54 [.inr 21, .inl (nI t), .inl (nI P)] S = some (S', c, s, 0, 0) ∧ mfr [21, 22, 55] S S' ∧ rm S' n' ∧ n ≤ n' ∧ t + 6 + P ≤ n' ∧ mpot S S' c s ∧ S' 21 3 = nI t ∧ S' 21 4 = nI P ∧ S' 21 5 = nI 0 ∧ S' 22 t = S 21 3 ∧ ∀ j, j < n → j ≠ t → S' 22 j = S 22 j := by
  obtain ⟨S1, c, s, n', r1, r2, r3, r4, r5, r6, r7⟩ := mq_reserve (d := d) h (e := t + 6 + P) (by omega)
  have st := mq_set (d := d) r3 (j := t) (v := S1 21 3) (by omega)
  refine ⟨mm_put (mm_put (mm_put (mm_put S1 22 t (S1 21 3)) 21 3 (nI t)) 21 4 (nI P)) 21 5 (nI 0), c, s, n', ?_, ?_, ?_, r4, r5, ?_, rfl, rfl, rfl, ?_, ?_⟩
  · rw [dX5_pile, eX5_pile_0, li_6, nI_add, nI_add, r1, mm_bd_ret, show nI t + 0 = nI t by rw [li_0, nI_add, Nat.add_zero], st, mm_bd_ret, nI_0]
    simp only [Nat.zero_add, Nat.add_zero]
  · exact mfr_tr (mfr_tr (mfr_tr (mfr_tr (mfr_up r2 (by simp)) (mfr_put (by simp))) (mfr_put (by simp))) (mfr_put (by simp))) (mfr_put (by simp))
  · exact rm_put (rm_put (rm_put (rm_put r3 (by decide)) (by decide)) (by decide)) (by decide)
  · have := mpot_tr r7 (mpot_55 (S := S1) (S' := mm_put (mm_put (mm_put (mm_put S1 22 t (S1 21 3)) 21 3 (nI t)) 21 4 (nI P)) 21 5 (nI 0)) rfl)
    rw [Nat.add_zero, Nat.add_zero] at this
    exact this
  · rw [mp_pn _ _ _ (by decide), mp_pn _ _ _ (by decide), mp_pn _ _ _ (by decide), mp_pp, r2 21 (by decide)]
  · intro j hj hne
    rw [mp_pn _ _ _ (by decide), mp_pn _ _ _ (by decide), mp_pn _ _ _ (by decide), mp_pk _ _ _ hne]
    exact r6 j hj
theorem mq_addLine (h : rm S n) {t P L : Nat} (h3 : S 21 3 = nI t) (h4 : S 21 4 = nI P) (h5 : S 21 5 = nI L) (ht : t ≤ 795000) (hP : P ≤ 40) (hL : L < 60) (v : Int32) : ∃ S' c s n', mm_runD (d + 2) 55 [.inr 21, .inl v] S = some (S', c, s, 0, nI (la (t + 6 + P) (P + 1) L)) ∧ mfr [21, 22, 55] S S' ∧ rm S' n' ∧ n ≤ n' ∧ la (t + 6 + P) (P + 1) (L + 1) ≤ n' ∧ mpot S S' c s ∧ S' 21 3 = nI t ∧ S' 21 4 = nI P ∧ S' 21 5 = nI (L + 1) ∧ S' 22 (la (t + 6 + P) (P + 1) L) = v ∧ ∀ j, j < n → j ≠ la (t + 6 + P) (P + 1) L → S' 22 j = S 22 j := by
  have up := la_up (b := t + 6 + P) (w := P + 1) (l := L + 1) (P := 0) (by omega) (by omega)
  have a1 := la_s (t + 6 + P) (P + 1) L
  obtain ⟨S1, c, s, n', r1, r2, r3, r4, r5, r6, r7⟩ := mq_reserve (d := d) (S := mm_put S 21 5 (nI (L + 1))) (rm_put h (by decide)) (e := la (t + 6 + P) (P + 1) (L + 1)) (by omega)
  have st := mq_set (d := d) r3 (j := la (t + 6 + P) (P + 1) L) (v := v) (by omega)
  have p3 : (mm_put S 21 5 (nI (L + 1))) 21 3 = nI t := h3
  have p4 : (mm_put S 21 5 (nI (L + 1))) 21 4 = nI P := h4
  refine ⟨mm_put S1 22 (la (t + 6 + P) (P + 1) L) v, c, s, n', ?_, ?_, rm_put r3 (by decide), r4, r5, ?_, ?_, ?_, ?_, mp_pp _ _ _ _, ?_⟩
  · rw [dX5_addLine, eX5_addLine_0, h5, mq_lineAt h3 h4, mm_bd_ret, h5, nI_1, mp_pp, mq_lineAt p3 p4, mm_bd_ret, r1, mm_bd_ret, st, mm_bd_ret]
    simp only [Nat.zero_add, Nat.add_zero]
  · exact mfr_tr (mfr_tr (mfr_put (by simp)) (mfr_up r2 (by simp))) (mfr_put (by simp))
  · have := mpot_tr (mpot_tr (mpot_55 (S := S) (S' := mm_put S 21 5 (nI (L + 1))) rfl) r7) (mpot_55 (S := S1) (S' := mm_put S1 22 (la (t + 6 + P) (P + 1) L) v) rfl)
    rw [Nat.zero_add, Nat.zero_add] at this
    exact this
  · rw [mp_pn _ _ _ (by decide), r2 21 (by decide)]; exact h3
  · rw [mp_pn _ _ _ (by decide), r2 21 (by decide)]; exact h4
  · rw [mp_pn _ _ _ (by decide), r2 21 (by decide)]; exact mp_pp _ _ _ _
  · intro j hj hne
    rw [mp_pk _ _ _ hne, r6 j hj]
    rfl
theorem mq_copyAround (h : rm S n) {a b c P f : Nat} (hc : c < P) (hab : a + P ≤ b) (hb : b + P - 1 + f ≤ n) : ∃ g, mm_runD (d + 2) 59 [.inr 21, .inl (nI a), .inl (nI b), .inl (nI c), .inl (nI P), .inl (nI f)] S = some (mm_stc S 22 g, 0, 0, 0, 0) ∧ ∀ j, g j = if b ≤ j ∧ j < b + c then S 22 (a + (j - b)) else if b + c + f ≤ j ∧ j < b + P - 1 + f then S 22 (a + (j + 1 - (b + f))) else S 22 j := by
  have c1 := mq_copy (d := d) h (a := a) (b := b) (m := c) (by omega) (by omega)
  have h1 : rm (mm_stc S 22 (va_cpy (S 22) (S 22) a b c)) n := rm_stc h (by decide)
  have c2 := mq_copy (d := d) h1 (a := a + c + 1) (b := b + c + f) (m := P - c - 1) (by omega) (by omega)
  have e : mm_stc (mm_stc S 22 (va_cpy (S 22) (S 22) a b c)) 22 (va_cpy ((mm_stc S 22 (va_cpy (S 22) (S 22) a b c)) 22) ((mm_stc S 22 (va_cpy (S 22) (S 22) a b c)) 22) (a + c + 1) (b + c + f) (P - c - 1)) = mm_stc S 22 (va_cpy (va_cpy (S 22) (S 22) a b c) (va_cpy (S 22) (S 22) a b c) (a + c + 1) (b + c + f) (P - c - 1)) := by
    funext x
    by_cases q : x = 22
    · subst q; rw [mm_stc_at, mm_stc_at, mm_stc_at]
    · rw [mm_stc_ne _ _ q, mm_stc_ne _ _ q, mm_stc_ne _ _ q]
  rw [e] at c2
  refine ⟨va_cpy (va_cpy (S 22) (S 22) a b c) (va_cpy (S 22) (S 22) a b c) (a + c + 1) (b + c + f) (P - c - 1), ?_, ?_⟩
  · rw [dX5_copyAround, eX5_copyAround_0, c1, mm_bd_ret, nI_add, nI_1, nI_add, nI_add, nn_sub (by omega), show nI (P - c) - 1 = nI (P - c - 1) from nn_sub (b := 1) (by omega), c2, mm_bd_ret]
  · intro j
    unfold va_cpy
    by_cases q1 : b ≤ j ∧ j < b + c
    · rw [if_neg (by omega), if_pos q1, if_pos q1]
    · rw [if_neg q1, if_neg q1]
      by_cases q2 : b + c + f ≤ j ∧ j < b + P - 1 + f
      · rw [if_pos (by omega), if_neg (by omega), if_pos q2, show a + c + 1 + (j - (b + c + f)) = a + (j + 1 - (b + f)) by omega]
      · rw [if_neg (by omega), if_neg q2]
end
section
variable {d : Nat} {S : Mem} {k : KK} {C R : Nat} {sz : Nat → Nat} {n : Nat}
theorem mq_putFields_any (h : rm S n) {a f : Nat} (ha : a + f ≤ n) : ∀ (z i : Nat) (g : Nat → Int32) (x4 : Int32), f - i = z → i ≤ f → ∃ g', mm_E (mm_runD (d + 1)) pX5_putFields 0 6 [some (.inr 21), some (.inl (nI a)), some (.inl N1), some (.inl (nI f)), some (.inl x4), some (.inl (nI i))] [] (mm_stc S 22 g) 0 0 = some (mm_stc S 22 g', 0, 0, 0, 0) ∧ ∀ j, g' j = if a + i ≤ j ∧ j < a + f then N1 else g j := by
  have h3 := h.2.2
  intro z
  induction z with
  | zero =>
    intro i g x4 hz hi
    exact ⟨g, by rw [eX5_putFields_6, if_pos (nI_le (by omega) (by omega))], fun j => by rw [if_neg (by omega)]⟩
  | succ z ih =>
    intro i g x4 hz hi
    obtain ⟨g', a1, a2⟩ := ih (i + 1) (upd g (a + i) N1) x4 (by omega) (by omega)
    have st := mq_set (d := d) (S := mm_stc S 22 g) (rm_stc h (by decide)) (j := a + i) (v := N1) (by omega)
    refine ⟨g', ?_, fun j => ?_⟩
    · rw [eX5_putFields_6, if_neg (nI_ge (by omega) (by omega)), if_pos rfl, nI_add, st, mm_bd_ret, mm_put_stc, nI_1]
      exact a1
    · rw [a2]
      by_cases e : j = a + i
      · subst e
        rw [if_neg (by omega), if_pos (by omega)]; exact pk_us
      · by_cases w : a + (i + 1) ≤ j ∧ j < a + f
        · rw [if_pos w, if_pos (by omega)]
        · rw [if_neg w, if_neg (by omega)]; exact pk_un e
theorem mq_putFields_pat (h : rm S n) (hr : rws S k C R sz) {a f p : Nat} (ha : a + f ≤ n) (hp : p < 480) (hparts : ∀ i, i < f → okp R sz (nth (gk S k) (p + 1) i)) : ∀ (z i : Nat) (g : Nat → Int32), f - i = z → i ≤ f → ∃ g', mm_E (mm_runD (d + 2)) pX5_putFields 0 6 [some (.inr 21), some (.inl (nI a)), some (.inl (nI p)), some (.inl (nI f)), some (.inl (nI (nth (gk S k) (p + 1) i))), some (.inl (nI i))] [] (mm_stc S 22 g) 0 0 = some (mm_stc S 22 g', 0, 0, 0, 0) ∧ ∀ j, g' j = if a + i ≤ j ∧ j < a + f then nrm (S 32) (nI (nth (gk S k) (p + 1) (j - a))) else g j := by
  have h3 := h.2.2
  intro z
  induction z with
  | zero =>
    intro i g hz hi
    exact ⟨g, by rw [eX5_putFields_6, if_pos (nI_le (by omega) (by omega))], fun j => by rw [if_neg (by omega)]⟩
  | succ z ih =>
    intro i g hz hi
    obtain ⟨g', a1, a2⟩ := ih (i + 1) (upd g (a + i) (nrm (S 32) (nI (nth (gk S k) (p + 1) i)))) (by omega) (by omega)
    have ok := hparts i (by omega)
    have hlt := okp_lt hr ok
    have hr1 : rws (mm_stc S 22 g) k C R sz := hr
    have co := mq_cellOf (d := d) hr1 ok
    have st := mq_set (d := d + 1) (S := mm_stc S 22 g) (rm_stc h (by decide)) (j := a + i) (v := nrm (S 32) (nI (nth (gk S k) (p + 1) i))) (by omega)
    have en := mq_rEnd (d := d + 1) (S := mm_stc S 22 (upd g (a + i) (nrm (S 32) (nI (nth (gk S k) (p + 1) i))))) hlt
    have e10 : (mm_stc S 22 (upd g (a + i) (nrm (S 32) (nI (nth (gk S k) (p + 1) i))))) 10 (nth (gk S k) (p + 1) i) = nI (nth (gk S k) (p + 1) (i + 1)) := okp_10 hr ok
    rw [e10] at en
    refine ⟨g', ?_, fun j => ?_⟩
    · rw [eX5_putFields_6, if_neg (nI_ge (by omega) (by omega)), if_neg (show ¬ nI p = -1 from fun q => (nn_a1 (a := p) (by omega)).mp q), co, mm_bd_ret, nI_add]
      rw [show (mm_stc S 22 g) 32 = S 32 from rfl, st, mm_bd_ret, mm_put_stc, en, mm_bd_ret, nI_1]
      exact a1
    · rw [a2]
      by_cases e : j = a + i
      · subst e
        rw [if_neg (by omega), if_pos (by omega), show a + i - a = i by omega]; exact pk_us
      · by_cases w : a + (i + 1) ≤ j ∧ j < a + f
        · rw [if_pos w, if_pos (by omega)]
        · rw [if_neg w, if_neg (by omega)]; exact pk_un e
/-- the fields in a cell's stead -/
theorem mq_putFields (h : rm S n) (hW : kW k) (hr : rws S k C R sz) {T : TB} (hw : wfT R sz T) {l c m a : Nat} (hl : l < tL T) (hc : c < tP T) (hm : m < kM k) (hk : kpl (S 32) T c m l) (ha : a + kFc k m ≤ n) :
    ∃ g', mm_runD (d + 3) 60 [.inr 21, .inl (nI a), .inl (nrm (S 32) (tC T l c)), .inl (nI (kFc k m))] S = some (mm_stc S 22 g', 0, 0, 0, 0) ∧ ∀ j, g' j = if a ≤ j ∧ j < a + kFc k m then nrm (S 32) (if sgc (S 32) (tC T l c) = N1 then N1 else nI (nth (gk S k) ((tC T l c).toNatClampNeg + 1) (j - a))) else S 22 j := by
  have hM := hW.2.1
  by_cases q : sgc (S 32) (tC T l c) = N1
  · have e1 : nrm (S 32) (tC T l c) = N1 := if_pos q
    obtain ⟨g', a1, a2⟩ := mq_putFields_any (d := d + 1) h (a := a) (f := kFc k m) ha (kFc k m - 0) 0 (S 22) (N1 + 1) rfl (by omega)
    rw [mm_stc_self, nI_0] at a1
    refine ⟨g', by rw [dX5_putFields, eX5_putFields_0, e1]; exact a1, fun j => ?_⟩
    rw [a2, if_pos q]
    rfl
  · have hs : sgc (S 32) (tC T l c) = nI m := hk.elim (fun z => absurd z q) (fun z => z)
    obtain ⟨p, e1, e2, e3, e4, e5⟩ := kpl_p hW hr hw hl hc hm hs
    have hp := okp_lt hr e1
    have en : nrm (S 32) (tC T l c) = nI p := by unfold nrm; rw [if_neg q, e2]
    obtain ⟨g', a1, a2⟩ := mq_putFields_pat (d := d) h hr (a := a) (f := kFc k m) (p := p) ha hp (fun i hi => okp_part hr e1 (by omega)) (kFc k m - 0) 0 (S 22) rfl (by omega)
    rw [mm_stc_self, nI_0] at a1
    refine ⟨g', by rw [dX5_putFields, eX5_putFields_0, en, nI_1]; exact a1, fun j => ?_⟩
    rw [a2, if_neg q, e4]
    rfl
end
