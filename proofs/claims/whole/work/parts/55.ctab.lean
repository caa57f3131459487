/-! PURE: the class's pile of tables: its room -/
def la (b w l : Nat) : Nat := b + l * w
theorem la_0 (b w : Nat) : la b w 0 = b := by unfold la; omega
theorem la_s (b w l : Nat) : la b w (l + 1) = la b w l + w := by unfold la; rw [Nat.succ_mul]; omega
theorem la_le {b w l l' : Nat} (h : l ≤ l') : la b w l ≤ la b w l' := by unfold la; exact Nat.add_le_add_left (Nat.mul_le_mul_right _ h) _
theorem la_lt {b w l l' : Nat} (h : l < l') : la b w l + w ≤ la b w l' := by rw [← la_s]; exact la_le h
theorem la_b (b w l : Nat) : b ≤ la b w l := Nat.le_add_right _ _
theorem la_up {b w l P : Nat} (hw : w ≤ 41) (hl : l ≤ 61) : la b w l ≤ b + 2501 := by
  unfold la
  have := Nat.mul_le_mul hl hw
  omega
def rm (S : Mem) (n : Nat) : Prop := S 55 0 = nI n ∧ 512 ≤ n ∧ n ≤ 1600000
/-- what a walk may make -/
def mpot (S S' : Mem) (c s : Nat) : Prop := ∀ n, rm S n → ∃ n', rm S' n' ∧ n + c * 512 ≤ n' ∧ s + 2 * n ≤ 2 * n'
theorem mpot_rf (S : Mem) : mpot S S 0 0 := fun n h => ⟨n, h, by omega, by omega⟩
theorem mpot_tr {S S' S'' : Mem} {c s c' s' : Nat} (h : mpot S S' c s) (h' : mpot S' S'' c' s') : mpot S S'' (c + c') (s + s') := by
  intro n hn
  obtain ⟨n1, a1, a2, a3⟩ := h n hn
  obtain ⟨n2, b1, b2, b3⟩ := h' n1 a1
  have e := Nat.add_mul c c' 512
  refine ⟨n2, b1, ?_, ?_⟩
  · rw [e, ← Nat.add_assoc]; exact Nat.le_trans (Nat.add_le_add_right a2 _) b2
  · omega
theorem mpot_55 {S S' : Mem} (h : S' 55 = S 55) : mpot S S' 0 0 := fun n hn => ⟨n, by unfold rm; rw [h]; exact hn, by omega, by omega⟩
section
variable {d : Nat} {S : Mem} {n : Nat}
theorem ar_22 (h : rm S n) {j : Nat} {k : Nat → Option Res} (hj : j < n) : mm_arr S 1 22 (nI j) k = k j := by
  obtain ⟨h1, h2, h3⟩ := h
  have e : mm_len S 22 0 = n := by
    show (S 55 0).toNatClampNeg = n
    rw [h1, nI_clamp (by omega)]
  rw [mm_arr_in (n := 0) rfl (by rw [e]; exact nI_in hj (by omega)), nI_clamp (by omega)]
theorem mq_len (h : rm S n) : Int32.ofNat (S 55 0).toNatClampNeg = nI n := by
  obtain ⟨h1, h2, h3⟩ := h
  rw [h1, nI_clamp (by omega)]
  rfl
theorem mq_get (h : rm S n) {j : Nat} (hj : j < n) : mm_runD (d + 1) 64 [.inr 21, .inl (nI j)] S = some (S, 0, 0, 0, S 22 j) := by
  have h3 := h.2.2
  rw [dX5_get, eX5_get_0, if_neg (nI_pos (by omega)), mq_len h, if_neg (nI_ge hj (by omega)), ar_22 h hj]
theorem mq_set (h : rm S n) {j : Nat} {v : Int32} (hj : j < n) : mm_runD (d + 1) 65 [.inr 21, .inl (nI j), .inl v] S = some (mm_put S 22 j v, 0, 0, 0, 0) := by
  have h3 := h.2.2
  rw [dX5_set, eX5_set_0, if_neg (nI_pos (by omega)), mq_len h, if_neg (nI_ge hj (by omega)), ar_22 h hj]
theorem rm_put (h : rm S n) {c k : Nat} {v : Int32} (hc : c ≠ 55) : rm (mm_put S c k v) n := by
  unfold rm
  rw [mp_pn _ _ _ (fun q => hc q.symm)]
  exact h
theorem rm_stc (h : rm S n) {c : Nat} {f : Nat → Int32} (hc : c ≠ 55) : rm (mm_stc S c f) n := by
  unfold rm
  rw [mm_stc_ne _ _ (fun q => hc q.symm)]
  exact h
theorem rm_fr (h : rm S n) {S' : Mem} (e : S' 55 = S 55) : rm S' n := by
  unfold rm
  rw [e]
  exact h
theorem mq_copy (h : rm S n) {a b m : Nat} (ha : a + m ≤ n) (hb : b + m ≤ n) : mm_runD (d + 1) 66 [.inr 21, .inl (nI a), .inl (nI b), .inl (nI m)] S = some (mm_stc S 22 (va_cpy (S 22) (S 22) a b m), 0, 0, 0, 0) := by
  have h3 := h.2.2
  have e : mm_len S 22 0 = n := by
    show (S 55 0).toNatClampNeg = n
    rw [h.1, nI_clamp (by omega)]
  rcases Nat.eq_zero_or_pos m with q | q
  · subst q
    have e2 : va_cpy (S 22) (S 22) a b 0 = S 22 := by
      funext j
      unfold va_cpy
      rw [if_neg (by omega)]
    rw [dX5_copy, eX5_copy_0, if_pos (by decide), e2, mm_stc_self]
  · rw [dX5_copy, eX5_copy_0, if_neg (nI_nle q (by omega)), if_neg (nI_pos (by omega)), mq_len h, nn_sub (by omega), if_neg (nI_nlt (by omega) (by omega)), if_neg (nI_pos (by omega)), if_neg (nI_nlt (by omega) (by omega)), e, nI_clamp (by omega), nI_clamp (by omega), nI_clamp (by omega), if_pos ⟨by omega, nI_pos (by omega), nI_pos (by omega), nI_pos (by omega), ha, hb⟩]
/-- there is room up to e -/
theorem mq_reserve (h : rm S n) {e : Nat} (he : e ≤ 800000) : ∃ S' c s n', mm_runD (d + 1) 67 [.inr 21, .inl (nI e)] S = some (S', c, s, 0, 0) ∧ mfr [22, 55] S S' ∧ rm S' n' ∧ n ≤ n' ∧ e ≤ n' ∧ (∀ j, j < n → S' 22 j = S 22 j) ∧ mpot S S' c s := by
  have hl := mq_len h
  obtain ⟨h1, h2, h3⟩ := h
  have ec : (S 55 0).toNatClampNeg = n := by rw [h1, nI_clamp (by omega)]
  have run : mm_runD (d + 1) 67 [.inr 21, .inl (nI e)] S = mm_resv [.inr 21, .inl (nI e)] S := by
    conv => lhs; unfold mm_runD
    exact if_pos rfl
  unfold mm_resv at run
  simp only [ec, show Int32.ofNat n = nI n from rfl] at run
  by_cases q : e ≤ n
  · rw [if_pos (nI_le q (by omega))] at run
    exact ⟨S, 0, 0, n, run, mfr_rf, ⟨h1, h2, h3⟩, Nat.le_refl _, q, fun _ _ => rfl, mpot_rf S⟩
  · have e2 : (2 : Int32) * nI n = nI (2 * n) := by rw [li_2, nn_mul]
    rw [if_neg (nI_ge (by omega) (by omega)), e2] at run
    obtain ⟨n', en⟩ : ∃ n', n' = if e < 2 * n then 2 * n else e := ⟨_, rfl⟩
    have e3 : (if nI e < nI (2 * n) then nI (2 * n) else nI e) = nI n' := by
      rw [en]
      by_cases z : e < 2 * n
      · rw [if_pos z, if_pos (nI_lt z (by omega))]
      · rw [if_neg z, if_neg (nI_nlt (by omega) (by omega))]
    have b : 2 * n ≤ n' ∧ e ≤ n' ∧ n' ≤ 1600000 := by
      rw [en]
      split <;> omega
    rw [e3, if_neg (show ¬ (nI n' < 0 ∨ (134217728 : Int32) < nI n') from fun z => by
      rcases z with z | z
      · exact nI_pos (by omega) z
      · exact nI_nlt (a := 134217728) (by omega) (by decide) z), nI_clamp (by omega)] at run
    refine ⟨_, _, _, n', run, mfr_tr (mfr_stc (by simp)) (mfr_put (by simp)), ⟨mp_pp _ _ _ _, by omega, b.2.2⟩, by omega, b.2.1, fun j hj => ?_, fun m hm => ?_⟩
    · rw [mp_pn _ _ _ (by decide), mm_stc_at]
      unfold va_cpy
      rw [if_pos (by omega), show 0 + (j - 0) = j by omega]
    · have em : m = n := by
        have := hm.1
        rw [h1] at this
        have h9 := hm.2.2
        exact ((nI_eq (by omega) (by omega)).mp this).symm
      subst em
      exact ⟨n', ⟨mp_pp _ _ _ _, by omega, b.2.2⟩, by omega, by omega⟩
end
/-- a table in the room, from its head on -/
def tbM (G : Nat → Int32) (f : Nat → Int32) (t : Nat) (T : TB) : Prop := (∀ j, j < tP T → f (t + 6 + j) = nI (tT T j)) ∧ (∀ l, l < tL T → f (la (t + 6 + tP T) (tP T + 1) l) = nI (tR T l)) ∧ ∀ l c, l < tL T → c < tP T → f (la (t + 6 + tP T) (tP T + 1) l + 1 + c) = nrm G (tC T l c)
/-- where it ends -/
def tEn (t : Nat) (T : TB) : Nat := la (t + 6 + tP T) (tP T + 1) (tL T)
theorem tEn_le {R : Nat} {sz : Nat → Nat} {t : Nat} {T : TB} (h : wfT R sz T) : tEn t T ≤ t + 2547 ∧ t + 6 + tP T ≤ tEn t T := by
  unfold tEn
  have h1 := h.1
  have := la_up (b := t + 6 + tP T) (w := tP T + 1) (l := tL T) (P := 0) (by omega) (by have := h.2.1; omega)
  have := la_b (t + 6 + tP T) (tP T + 1) (tL T)
  omega
theorem tbM_ext {G f f' : Nat → Int32} {t : Nat} {T : TB} (h : tbM G f t T) (e : ∀ j, t + 6 ≤ j → j < tEn t T → f' j = f j) : tbM G f' t T := by
  obtain ⟨h1, h2, h3⟩ := h
  have hb := la_b (t + 6 + tP T) (tP T + 1) (tL T)
  refine ⟨fun j hj => ?_, fun l hl => ?_, fun l c hl hc => ?_⟩
  · rw [e _ (by omega) (by unfold tEn; omega)]; exact h1 j hj
  · have := la_lt (b := t + 6 + tP T) (w := tP T + 1) hl
    have := la_b (t + 6 + tP T) (tP T + 1) l
    rw [e _ (by omega) (by unfold tEn; omega)]; exact h2 l hl
  · have := la_lt (b := t + 6 + tP T) (w := tP T + 1) hl
    have := la_b (t + 6 + tP T) (tP T + 1) l
    rw [e _ (by omega) (by unfold tEn; omega)]; exact h3 l c hl hc
/-- the table on top -/
def tbC (S : Mem) (G : Nat → Int32) (t : Nat) (T : TB) : Prop := S 21 3 = nI t ∧ S 21 4 = nI (tP T) ∧ S 21 5 = nI (tL T) ∧ tbM G (S 22) t T
section
variable {d : Nat} {S : Mem} {n : Nat}
theorem mq_lineAt {t P : Nat} (h3 : S 21 3 = nI t) (h4 : S 21 4 = nI P) (l : Nat) : mm_runD (d + 1) 62 [.inr 21, .inl (nI l)] S = some (S, 0, 0, 0, nI (la (t + 6 + P) (P + 1) l)) := by
  rw [dX5_lineAt, eX5_lineAt_0, h3, h4, li_6, nI_add, nI_add, nI_1, nn_mul, nI_add]
  rfl
theorem mq_cellOf {k : KK} {C R : Nat} {sz : Nat → Nat} (hr : rws S k C R sz) {p : Nat} (hp : okp R sz p) : mm_runD (d + 2) 61 [.inr 21, .inl (nI p)] S = some (S, 0, 0, 0, nrm (S 32) (nI p)) := by
  have h4 := okp_lt hr hp
  rw [dX5_cellOf, eX5_cellOf_0, mq_rSign h4, mm_bd_ret, okp_9 hr hp]
  unfold nrm
  rw [sgc_p h4]
  by_cases q : S 32 p = N1
  · rw [if_pos q, if_pos q]
  · rw [if_neg (show ¬ S 32 p = -1 from q), if_neg q]
theorem mq_isEither {k : KK} {C R : Nat} {sz : Nat → Nat} (hr : rws S k C R sz) {y : Int32} (hy : y = N1 ∨ ∃ p, okp R sz p ∧ y = nI p) : mm_runD (d + 2) 57 [.inr 21, .inl (nrm (S 32) y)] S = some (S, 0, 0, 0, mb (sgc (S 32) y = N2)) := by
  rw [dX5_isEither, eX5_isEither_0]
  unfold nrm
  by_cases q : sgc (S 32) y = N1
  · rw [if_pos q, if_pos rfl, q, mb_f (by decide)]
  · rw [if_neg q]
    rcases hy with rfl | ⟨p, hp, rfl⟩
    · exact absurd (sgc_N _) q
    · have h4 := okp_lt hr hp
      rw [if_neg (show ¬ nI p = -1 from fun z => (nn_a1 (a := p) (by omega)).mp z), mq_rSign h4, mm_bd_ret, okp_9 hr hp, sgc_p h4]
      by_cases z : S 32 p = N2
      · rw [if_pos z, mb_t z]
      · rw [if_neg (show ¬ S 32 p = -2 from z), mb_f z]
/-- a line twice -/
theorem mq_doubleLine {G : Nat → Int32} {R : Nat} {sz : Nat → Nat} {t : Nat} {T : TB} (h : tbC S G t T) (hw : wfT R sz T) (hn : rm S n) (ht : t ≤ 790000) (he : tEn t T ≤ n) {l : Nat} (hl : l < tL T) :
    ∃ S' c s n', mm_runD (d + 2) 58 [.inr 21, .inl (nI l)] S = some (S', c, s, 0, 0) ∧ mfr [21, 22, 55] S S' ∧ rm S' n' ∧ n ≤ n' ∧ la (t + 6 + tP T) (tP T + 1) (tL T + 1) ≤ n' ∧ mpot S S' c s ∧ S' 21 3 = nI t ∧ S' 21 4 = nI (tP T) ∧ S' 21 5 = nI (tL T + 1) ∧
      ∀ j, S' 22 j = if la (t + 6 + tP T) (tP T + 1) (l + 1) ≤ j ∧ j < la (t + 6 + tP T) (tP T + 1) (tL T + 1) then S 22 (j - (tP T + 1)) else if j < n then S 22 j else S' 22 j := by
  obtain ⟨h3, h4, h5, h6⟩ := h
  have w1 := hw.1
  have w2 := hw.2.1
  have up := la_up (b := t + 6 + tP T) (w := tP T + 1) (l := tL T + 1) (P := 0) (by omega) (by omega)
  have a0 := la_lt (b := t + 6 + tP T) (w := tP T + 1) hl
  have a1 := la_s (t + 6 + tP T) (tP T + 1) l
  have a2 := la_s (t + 6 + tP T) (tP T + 1) (tL T)
  have hn3 := hn.2.2
  obtain ⟨S1, c, s, n', r1, r2, r3, r4, r5, r6, r7⟩ := mq_reserve (d := d) (S := mm_put S 21 5 (nI (tL T + 1))) (rm_put hn (by decide)) (e := la (t + 6 + tP T) (tP T + 1) (tL T + 1)) (by omega)
  have s3 : S1 21 3 = nI t := by rw [r2 21 (by decide)]; exact h3
  have s4 : S1 21 4 = nI (tP T) := by rw [r2 21 (by decide)]; exact h4
  have s5 : S1 21 5 = nI (tL T + 1) := by rw [r2 21 (by decide)]; exact mp_pp _ _ _ _
  have cp := mq_copy (d := d) (S := S1) r3 (a := la (t + 6 + tP T) (tP T + 1) l) (b := la (t + 6 + tP T) (tP T + 1) (l + 1)) (m := la (t + 6 + tP T) (tP T + 1) (tL T) - la (t + 6 + tP T) (tP T + 1) l) (by omega) (by omega)
  have p3 : (mm_put S 21 5 (nI (tL T + 1))) 21 3 = nI t := h3
  have p4 : (mm_put S 21 5 (nI (tL T + 1))) 21 4 = nI (tP T) := h4
  refine ⟨mm_stc S1 22 (va_cpy (S1 22) (S1 22) (la (t + 6 + tP T) (tP T + 1) l) (la (t + 6 + tP T) (tP T + 1) (l + 1)) (la (t + 6 + tP T) (tP T + 1) (tL T) - la (t + 6 + tP T) (tP T + 1) l)), c, s, n', ?_, mfr_tr (mfr_tr (mfr_put (by simp)) (mfr_up r2 (by simp))) (mfr_stc (by simp)), rm_stc r3 (by decide), r4, r5, ?_, s3, s4, s5, fun j => ?_⟩
  · rw [dX5_doubleLine, eX5_doubleLine_0, mq_lineAt h3 h4, mm_bd_ret, h5, mq_lineAt h3 h4, mm_bd_ret, h5, nI_1, mp_pp, mq_lineAt p3 p4, mm_bd_ret, r1, mm_bd_ret, nI_1, mq_lineAt s3 s4, mm_bd_ret, nn_sub (by omega), cp, mm_bd_ret]
    simp only [Nat.zero_add, Nat.add_zero]
  · have := mpot_tr (mpot_tr (mpot_55 (S := S) (S' := mm_put S 21 5 (nI (tL T + 1))) rfl) r7) (mpot_55 (S := S1) (S' := mm_stc S1 22 (va_cpy (S1 22) (S1 22) (la (t + 6 + tP T) (tP T + 1) l) (la (t + 6 + tP T) (tP T + 1) (l + 1)) (la (t + 6 + tP T) (tP T + 1) (tL T) - la (t + 6 + tP T) (tP T + 1) l))) rfl)
    rw [Nat.zero_add, Nat.zero_add] at this
    exact this
  · rw [mm_stc_at]
    unfold va_cpy
    by_cases q : la (t + 6 + tP T) (tP T + 1) (l + 1) ≤ j ∧ j < la (t + 6 + tP T) (tP T + 1) (tL T + 1)
    · unfold tEn at he
      rw [if_pos (by omega), if_pos q, r6 _ (by omega), show la (t + 6 + tP T) (tP T + 1) l + (j - la (t + 6 + tP T) (tP T + 1) (l + 1)) = j - (tP T + 1) by omega]
      rfl
    · rw [if_neg (by omega), if_neg q]
      by_cases z : j < n
      · rw [if_pos z, r6 j z]; rfl
      · rw [if_neg z]
end
