/-! PURE: the reference's table of what takes what -/
section
variable {d : Nat} {S : Mem} {k : KK}
theorem mr_fieldsTake (hK : mr_K S k) (hW : kW k) {E0 nv s0 p0 v0 m : Nat} (hnv : nv ≤ 60) (hE0 : E0 ≤ 480) (hs0 : s0 ≤ p0) (hv0 : v0 < nv)
    (hg : ∀ p, s0 ≤ p → p < E0 → sgn k (S 32 p)) (hx : ∀ v, v < nv → sgn k (S 35 v)) (hm : m < kM k) (hX : S 35 v0 = nI m) {l1 l2 : Nat} (hp : sq (fun j => kar k (S 32 j)) l1 (kFc k m) (p0 + 1)) (hp' : p0 + 1 + l1 ≤ E0) (hv : sq (fun j => kar k (S 35 j)) l2 (kFc k m) (v0 + 1)) (hv' : v0 + 1 + l2 ≤ nv)
    (ht : ∀ p v, p0 < p → p < E0 → v < nv → S 37 (60 * p + v) = mb (TK k (S 32) (S 35) p v)) : mm_runD (d + 3) 134 [.inr 27, .inl (nI p0), .inl (nI v0)] S = some (S, 0, 0, 0, mb (tkS k (S 32) (S 35) (TK k (S 32) (S 35)) (kFc k m) (p0 + 1) (v0 + 1))) := by
  have hM := hW.2.1
  have h3 := (hW.2.2 m hm).2.1
  have loop : ∀ (n i p v lp lv : Nat) (A : Prop), kFc k m - i = n → i ≤ kFc k m → sq (fun j => kar k (S 32 j)) lp n p → sq (fun j => kar k (S 35 j)) lv n v → p0 < p → p + lp ≤ E0 → v + lv ≤ nv → ∀ o1 : Option MV,
      mm_E (mm_runD (d + 2)) pX8_fieldsTake 2 12 [some (.inr 27), o1, some (.inl (nI v0)), some (.inl (nI p)), some (.inl (nI v)), some (.inl (mb A)), some (.inl (nI i))] [] S 0 0 = some (S, 0, 0, 0, mb (A ∧ tkS k (S 32) (S 35) (TK k (S 32) (S 35)) n p v)) := by
    intro n
    induction n with
    | zero =>
      intro i p v lp lv A hn hi h1 h2 b1 b2 b3 o1
      rw [eX8_fieldsTake_12, ar_35 (by omega), hX, mr_fields hK hW hm, mm_bd_ret, if_pos (nI_le (by omega) (by omega)), if_pos (mb_01 _), mb_iff (show (A ∧ tkS k (S 32) (S 35) (TK k (S 32) (S 35)) 0 p v) ↔ A from ⟨fun q => q.1, fun q => ⟨q, trivial⟩⟩)]
    | succ n ih =>
      intro i p v lp lv A hn hi h1 h2 b1 b2 b3 o1
      rw [Nat.add_comm] at h1 h2
      obtain ⟨la, lb, e1, e2, e3⟩ := sq_split h1
      obtain ⟨ma, mb', f1, f2, f3⟩ := sq_split h2
      have pa := sq_pos (n := 0) e2
      have pm := sq_pos (n := 0) f2
      have B1 := mr_behindr (d := d) hK hW e2 (by omega) (fun j a b => hg j (by omega) (by omega))
      have B2 := mr_behindv (d := d) hK hW f2 (by omega) (fun j a b => hx j (by omega))
      have I := fun A => ih (i + 1) (p + la) (v + ma) lb mb' A (by omega) (by omega) e3 f3 (by omega) (by omega) (by omega) o1
      rw [eX8_fieldsTake_12, ar_35 (by omega), hX, mr_fields hK hW hm, mm_bd_ret, if_neg (nI_ge (by omega) (by omega))]
      simp only [B1, mm_bd_ret, B2]
      rw [nI_1, li_60, nn_mul, nI_add, ar_37 (by omega), ht p v b1 (by omega) (by omega), mb_iff (and_congr_right_iff.mpr (fun _ => tkS_s e2 f2))]
      by_cases qA : A
      · rw [mb_t qA, if_neg (by decide)]
        by_cases qt : TK k (S 32) (S 35) p v
        · rw [mb_t qt, if_neg (by decide)]
          have := I True
          rw [mb_t trivial] at this
          rw [mb_iff (show (A ∧ TK k (S 32) (S 35) p v ∧ tkS k (S 32) (S 35) (TK k (S 32) (S 35)) n (p + la) (v + ma)) ↔ (True ∧ tkS k (S 32) (S 35) (TK k (S 32) (S 35)) n (p + la) (v + ma)) from ⟨fun q => ⟨trivial, q.2.2⟩, fun q => ⟨qA, qt, q.2⟩⟩)]
          exact this
        · rw [mb_f qt, if_pos rfl]
          have := I False
          rw [mb_f (fun q => q)] at this
          rw [mb_iff (show (A ∧ TK k (S 32) (S 35) p v ∧ tkS k (S 32) (S 35) (TK k (S 32) (S 35)) n (p + la) (v + ma)) ↔ (False ∧ tkS k (S 32) (S 35) (TK k (S 32) (S 35)) n (p + la) (v + ma)) from ⟨fun q => absurd q.2.1 qt, fun q => q.1.elim⟩)]
          exact this
      · rw [mb_f qA, if_pos rfl]
        have := I False
        rw [mb_f (fun q => q)] at this
        rw [mb_iff (show (A ∧ TK k (S 32) (S 35) p v ∧ tkS k (S 32) (S 35) (TK k (S 32) (S 35)) n (p + la) (v + ma)) ↔ (False ∧ tkS k (S 32) (S 35) (TK k (S 32) (S 35)) n (p + la) (v + ma)) from ⟨fun q => absurd q.1 qA, fun q => q.1.elim⟩)]
        exact this
  have L := loop (kFc k m) 0 (p0 + 1) (v0 + 1) l1 l2 True rfl (by omega) hp hv (by omega) (by omega) (by omega) (some (.inl (nI p0)))
  rw [mb_t trivial, true_and] at L
  rw [dX8_fieldsTake, eX8_fieldsTake_0, nI_1, nI_1]
  exact L
/-- one place of the row against all values -/
theorem mr_rt_in (hK : mr_K S k) (hW : kW k) {E0 nv s0 p r : Nat} (h9 : S 27 9 = nI nv) (hnv : nv ≤ 60) (hE0 : E0 ≤ 480) (hs0 : s0 ≤ p) (hp : p < E0)
    (hg : ∀ p, s0 ≤ p → p < E0 → sgn k (S 32 p)) (hx : ∀ v, v < nv → ∃ m, m < kM k ∧ S 35 v = nI m) {lp : Nat} (hq : sq (fun j => kar k (S 32 j)) lp 1 p) (hqE : p + lp ≤ E0) (hv : ∀ v, v < nv → ∃ l, sq (fun j => kar k (S 35 j)) l 1 v ∧ v + l ≤ nv) {o5 : Option MV} :
    ∀ (n v : Nat) (f : Nat → Int32), nv - v = n → v ≤ nv → (∀ q w, (p < q ∧ q < E0 ∧ w < nv) ∨ (q = p ∧ w < v) → f (60 * q + w) = mb (TK k (S 32) (S 35) q w)) →
      ∃ f' x3 x4, mm_E (mm_runD (d + 3)) pX8_rowTakes 2 23 [some (.inr 27), some (.inl (nI r)), some (.inl (nI p)), some (.inl (S 32 p)), some (.inl (nI v)), o5] [] (mm_stc S 37 f) 0 0 = mm_E (mm_runD (d + 3)) pX8_rowTakes 2 11 [some (.inr 27), some (.inl (nI r)), some (.inl (nI p - 1)), x3, x4, o5] [] (mm_stc S 37 f') 0 0 ∧ ∀ q w, p ≤ q → q < E0 → w < nv → f' (60 * q + w) = mb (TK k (S 32) (S 35) q w) := by
  intro n
  have hM := hW.2.1
  induction n with
  | zero =>
    intro v f hn hv0 hf
    have e : v = nv := by omega
    subst e
    have h9' : (mm_stc S 37 f) 27 9 = nI v := h9
    refine ⟨f, some (.inl (S 32 p)), some (.inl (nI v)), ?_, fun q w a b c => ?_⟩
    · rw [eX8_rowTakes_23, h9', if_pos (nI_le (Nat.le_refl _) (by omega)), nn_sm]
    · rcases Nat.lt_or_ge p q with z | z
      · exact hf q w (Or.inl ⟨z, b, c⟩)
      · exact hf q w (Or.inr ⟨by omega, c⟩)
  | succ n ih =>
    intro v f hn hv0 hf
    have hlt : v < nv := by omega
    have h9' : (mm_stc S 37 f) 27 9 = nI nv := h9
    have hK' : mr_K (mm_stc S 37 f) k := hK
    obtain ⟨lv, hv1, hv2⟩ := hv v hlt
    have fin : ∃ f' x3 x4, mm_E (mm_runD (d + 3)) pX8_rowTakes 2 23 [some (.inr 27), some (.inl (nI r)), some (.inl (nI p)), some (.inl (S 32 p)), some (.inl (nI (v + 1))), o5] [] (mm_stc S 37 (upd f (60 * p + v) (mb (TK k (S 32) (S 35) p v)))) 0 0 = mm_E (mm_runD (d + 3)) pX8_rowTakes 2 11 [some (.inr 27), some (.inl (nI r)), some (.inl (nI p - 1)), x3, x4, o5] [] (mm_stc S 37 f') 0 0 ∧ ∀ q w, p ≤ q → q < E0 → w < nv → f' (60 * q + w) = mb (TK k (S 32) (S 35) q w) := by
      refine ih (v + 1) _ (by omega) (by omega) (fun q w h => ?_)
      by_cases e : q = p ∧ w = v
      · obtain ⟨rfl, rfl⟩ := e
        exact pk_us
      · rw [show upd f (60 * p + v) (mb (TK k (S 32) (S 35) p v)) (60 * q + w) = f (60 * q + w) from pk_un (by omega)]
        exact hf q w (by omega)
    obtain ⟨f', x3, x4, g1, g2⟩ := fin
    refine ⟨f', x3, x4, ?_, g2⟩
    rw [← g1, eX8_rowTakes_23, h9', if_neg (nI_ge hlt (by omega)), nI_1]
    clear g1 g2 ih
    obtain ⟨l1, el, hq1⟩ := sq_one hq
    have c1 : ∀ b : Prop, (b ↔ TK k (S 32) (S 35) p v) → mm_put (mm_stc S 37 f) 37 (60 * p + v) (mb b) = mm_stc S 37 (upd f (60 * p + v) (mb (TK k (S 32) (S 35) p v))) := fun b hb => by rw [mm_put_stc, mb_iff hb]
    have c1t : TK k (S 32) (S 35) p v → mm_put (mm_stc S 37 f) 37 (60 * p + v) (vp_nar .boolean 1) = mm_stc S 37 (upd f (60 * p + v) (mb (TK k (S 32) (S 35) p v))) := fun hb => by rw [mm_put_stc, mb_t hb] <;> rfl
    have c1f : ¬ TK k (S 32) (S 35) p v → mm_put (mm_stc S 37 f) 37 (60 * p + v) (vp_nar .boolean 0) = mm_stc S 37 (upd f (60 * p + v) (mb (TK k (S 32) (S 35) p v))) := fun hb => by rw [mm_put_stc, mb_f hb] <;> rfl
    rcases hg p hs0 hp with h0 | h0 | ⟨m, hm, h0⟩
    · rw [if_pos (show S 32 p = -1 from h0), li_60, nn_mul, nI_add, ar_37 (by omega), c1t (TK_any h0)]
    · have hk : kar k (S 32 p) = 2 := by rw [h0]; exact kar_N2
      rw [hk] at hq1
      obtain ⟨la, lb, e1, e2, e3⟩ := sq_split (n1 := 1) (n2 := 1) hq1
      have pa := sq_pos (n := 0) e2
      have pb := sq_pos (n := 0) e3
      have B1 := mr_behindr (d := d + 1) (S := mm_stc S 37 f) hK' hW e2 (by omega) (fun j a b => hg j (by omega) (by omega))
      have t1 : (mm_stc S 37 f) 37 (60 * (p + 1) + v) = mb (TK k (S 32) (S 35) (p + 1) v) := hf (p + 1) v (Or.inl ⟨by omega, by omega, hlt⟩)
      have t2 : (mm_stc S 37 f) 37 (60 * (p + 1 + la) + v) = mb (TK k (S 32) (S 35) (p + 1 + la) v) := hf (p + 1 + la) v (Or.inl ⟨by omega, by omega, hlt⟩)
      rw [if_neg (show ¬ S 32 p = -1 by rw [h0]; decide), if_pos (show S 32 p = -2 from h0), li_60, nI_1, nn_mul, nI_add, ar_37 (by omega), t1, B1, mm_bd_ret, nn_mul, nI_add, ar_37 (by omega), t2, nn_mul, nI_add, ar_37 (by omega), ar_37 (by omega)]
      by_cases qa : TK k (S 32) (S 35) (p + 1) v
      · rw [mb_t qa, if_neg (by decide), c1t ((TK_either h0 e2 hM).mpr (Or.inl qa))]
      · rw [mb_f qa, if_pos rfl]
        by_cases qb : TK k (S 32) (S 35) (p + 1 + la) v
        · rw [mb_t qb, if_neg (by decide), c1t ((TK_either h0 e2 hM).mpr (Or.inr qb))]
        · rw [mb_f qb, if_pos rfl, c1f (fun z => ((TK_either h0 e2 hM).mp z).elim qa qb)]
    · obtain ⟨m', hm', hxm⟩ := hx v hlt
      have hxm' : (mm_stc S 37 f) 35 v = nI m' := hxm
      rw [if_neg (show ¬ S 32 p = -1 by rw [h0]; exact fun q => (nn_a1 (a := m) (by omega)).mp q), if_neg (show ¬ S 32 p = -2 by rw [h0]; exact fun q => (nn_a2 (a := m) (by omega)).mp q), ar_35 (by omega), hxm', h0]
      by_cases e : m = m'
      · subst e
        have hkp : kar k (S 32 p) = kFc k m := by rw [h0]; exact kar_m hW hm
        have hkv : kar k (S 35 v) = kFc k m := by rw [hxm]; exact kar_m hW hm
        obtain ⟨l1', el', hv3⟩ := sq_one hv1
        rw [hkp] at hq1
        rw [hkv] at hv3
        have FT := mr_fieldsTake (d := d) (S := mm_stc S 37 f) hK' hW hnv hE0 hs0 hlt hg (fun w hw => by obtain ⟨m', a, b⟩ := hx w hw; exact Or.inr (Or.inr ⟨m', a, b⟩)) hm hxm hq1 (by omega) hv3 (by omega) (fun q w a b c => hf q w (Or.inl ⟨a, b, c⟩))
        have hTK : TK k (S 32) (S 35) p v ↔ tkS k (S 32) (S 35) (TK k (S 32) (S 35)) (kFc k m) (p + 1) (v + 1) := (TK_mk hm hM h0).trans (and_iff_right hxm)
        rw [if_pos rfl, FT, mm_bd_ret, li_60, nn_mul, nI_add, ar_37 (by omega), ar_37 (by omega)]
        by_cases qa : tkS k (S 32) (S 35) (TK k (S 32) (S 35)) (kFc k m) (p + 1) (v + 1)
        · rw [show tkS k ((mm_stc S 37 f) 32) ((mm_stc S 37 f) 35) (TK k ((mm_stc S 37 f) 32) ((mm_stc S 37 f) 35)) (kFc k m) (p + 1) (v + 1) = tkS k (S 32) (S 35) (TK k (S 32) (S 35)) (kFc k m) (p + 1) (v + 1) from rfl, mb_t qa, if_neg (by decide), c1t (hTK.mpr qa)]
        · rw [show tkS k ((mm_stc S 37 f) 32) ((mm_stc S 37 f) 35) (TK k ((mm_stc S 37 f) 32) ((mm_stc S 37 f) 35)) (kFc k m) (p + 1) (v + 1) = tkS k (S 32) (S 35) (TK k (S 32) (S 35)) (kFc k m) (p + 1) (v + 1) from rfl, mb_f qa, if_pos rfl, c1f (fun z => qa (hTK.mp z))]
      · rw [if_neg (fun z => e ((nI_eq (by omega) (by omega)).mp z)), li_60, nn_mul, nI_add, ar_37 (by omega), c1f (fun z => e ((nI_eq (by omega) (by omega)).mp (((TK_mk hm hM h0).mp z).1.symm.trans hxm)))]
end
