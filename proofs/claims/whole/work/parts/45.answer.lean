/-! PURE: rows against the values; promise 14 (answer) -/
theorem nn_p1 {a : Nat} (h : a < 2 ^ 31) : nI a - 1 < nI a := by
  cases a with
  | zero => decide
  | succ a => rw [nI_pred]; exact nI_lt (by omega) h
/-- the first that has it -/
noncomputable def ff (P : Nat → Prop) : Nat → Nat → Int32
  | 0, _ => N1
  | n + 1, i => @ite Int32 (P i) (Classical.propDecidable _) (nI i) (ff P n (i + 1))
theorem ff_t {P : Nat → Prop} {n i : Nat} (h : P i) : ff P (n + 1) i = nI i := by unfold ff; rw [if_pos h]
theorem ff_f {P : Nat → Prop} {n i : Nat} (h : ¬ P i) : ff P (n + 1) i = ff P n (i + 1) := if_neg h
/-- a row takes the values -/
def rTk (k : KK) (C : Nat) (G X : Nat → Int32) (r : Nat) : Prop := tkS k G X (TK k G X) C (40 * r) 0
section
variable {d : Nat} {S : Mem} {k : KK}
theorem mr_rt_out (hK : mr_K S k) (hW : kW k) {nv r sz C : Nat} (h9 : S 27 9 = nI nv) (hnv : nv ≤ 60) (hr : r < 12) (hsz : sz ≤ 40)
    (hg : ∀ p, 40 * r ≤ p → p < 40 * r + sz → sgn k (S 32 p)) (hx : ∀ v, v < nv → ∃ m, m < kM k ∧ S 35 v = nI m) (hq : sq (fun j => kar k (S 32 j)) sz C (40 * r)) (hv : ∀ v, v < nv → ∃ l, sq (fun j => kar k (S 35 j)) l 1 v ∧ v + l ≤ nv) :
    ∀ (i : Nat) (f : Nat → Int32) (o3 o4 o5 : Option MV), i ≤ sz → (∀ q w, 40 * r + i ≤ q → q < 40 * r + sz → w < nv → f (60 * q + w) = mb (TK k (S 32) (S 35) q w)) →
      ∃ f', mm_E (mm_runD (d + 3)) pX8_rowTakes 2 11 [some (.inr 27), some (.inl (nI r)), some (.inl (nI (40 * r + i) - 1)), o3, o4, o5] [] (mm_stc S 37 f) 0 0 = mm_E (mm_runD (d + 3)) pX8_rowTakes 2 96 [some (.inr 27), some (.inl (nI r)), some (.inl (nI (40 * r))), some (.inl (nI 0)), some (.inl (nI 1)), some (.inl (nI 0))] [] (mm_stc S 37 f') 0 0 ∧ ∀ q w, 40 * r ≤ q → q < 40 * r + sz → w < nv → f' (60 * q + w) = mb (TK k (S 32) (S 35) q w) := by
  intro i
  have hM := hW.2.1
  induction i with
  | zero =>
    intro f o3 o4 o5 hi hf
    refine ⟨f, ?_, fun q w a b c => hf q w (by omega) b c⟩
    rw [eX8_rowTakes_11, li_40, nn_mul, Nat.add_zero, if_pos (nn_p1 (by omega))] <;> rfl
  | succ i ih =>
    intro f o3 o4 o5 hi hf
    obtain ⟨lp, a1, a2⟩ := sq_at (i := i) hq (by omega)
    obtain ⟨f1, x3, x4, b1, b2⟩ := mr_rt_in (d := d) (S := S) hK hW (E0 := 40 * r + sz) (s0 := 40 * r) (p := 40 * r + i) (r := r) h9 hnv (by omega) (by omega) (by omega) hg hx a1 (by omega) hv (o5 := o5) (nv - 0) 0 f rfl (by omega) (fun q w h => hf q w (by omega) (by omega) (by omega))
    obtain ⟨f2, c1, c2⟩ := ih f1 x3 x4 o5 (by omega) (fun q w a b c => b2 q w a b c)
    refine ⟨f2, ?_, c2⟩
    have e : nI (40 * r + (i + 1)) - 1 = nI (40 * r + i) := nI_pred _
    have e2 : (mm_stc S 37 f) 32 (40 * r + i) = S 32 (40 * r + i) := rfl
    rw [e, eX8_rowTakes_11, li_40, nn_mul, if_neg (nI_nlt (by omega) (by omega)), ar_32 (by omega), e2, li_0, b1, c1]
theorem mr_rt_cols (hK : mr_K S k) (hW : kW k) {nv E0 s0 C : Nat} (h6 : S 27 6 = nI C) (hC : C ≤ 3) (hnv : nv ≤ 60) (hE0 : E0 ≤ 480)
    (hg : ∀ p, s0 ≤ p → p < E0 → sgn k (S 32 p)) (hx : ∀ v, v < nv → sgn k (S 35 v)) (ht : ∀ p v, s0 ≤ p → p < E0 → v < nv → S 37 (60 * p + v) = mb (TK k (S 32) (S 35) p v)) :
    ∀ (n i p v lp lv : Nat) (A : Prop), C - i = n → i ≤ C → sq (fun j => kar k (S 32 j)) lp n p → sq (fun j => kar k (S 35 j)) lv n v → s0 ≤ p → p + lp ≤ E0 → v + lv ≤ nv → ∀ o1 : Option MV,
      mm_E (mm_runD (d + 2)) pX8_rowTakes 2 96 [some (.inr 27), o1, some (.inl (nI p)), some (.inl (nI v)), some (.inl (mb A)), some (.inl (nI i))] [] S 0 0 = some (S, 0, 0, 0, mb (A ∧ tkS k (S 32) (S 35) (TK k (S 32) (S 35)) n p v)) := by
  intro n
  induction n with
  | zero =>
    intro i p v lp lv A hn hi h1 h2 b1 b2 b3 o1
    rw [eX8_rowTakes_96, h6, if_pos (nI_le (by omega) (by omega)), if_pos (mb_01 _), mb_iff (show (A ∧ tkS k (S 32) (S 35) (TK k (S 32) (S 35)) 0 p v) ↔ A from ⟨fun q => q.1, fun q => ⟨q, trivial⟩⟩)]
  | succ n ih =>
    intro i p v lp lv A hn hi h1 h2 b1 b2 b3 o1
    rw [Nat.add_comm] at h1 h2
    obtain ⟨la, lb, e1, e2, e3⟩ := sq_split h1
    obtain ⟨ma, mb', f1, f2, f3⟩ := sq_split h2
    have pa := sq_pos (n := 0) e2
    have pm := sq_pos (n := 0) f2
    have B1 := mr_behindr (d := d) hK hW e2 (by omega) (fun j a b => hg j (by omega) (by omega))
    have B2 := mr_behindv (d := d) hK hW f2 (by omega) (fun j a b => hx j (by omega))
    have I := fun A => ih (i + 1) (p + la) (v + ma) lb mb' A (by omega) (by omega) e3 f3 (by omega) (by omega) (by omega) o1
    rw [eX8_rowTakes_96, h6, if_neg (nI_ge (by omega) (by omega))]
    simp only [B1, mm_bd_ret, B2]
    rw [nI_1, li_60, nn_mul, nI_add, ar_37 (by omega), ht p v b1 (by omega) (by omega), mb_iff (and_congr_right_iff.mpr (fun _ => tkS_s e2 f2))]
    by_cases qA : A
    · rw [mb_t qA, if_neg (by decide)]
      by_cases qt : TK k (S 32) (S 35) p v
      · rw [mb_t qt, if_neg (by decide)]
        have := I True
        rw [mb_t trivial] at this
        rw [mb_iff (show (A ∧ TK k (S 32) (S 35) p v ∧ tkS k (S 32) (S 35) (TK k (S 32) (S 35)) n (p + la) (v + ma)) ↔ (True ∧ tkS k (S 32) (S 35) (TK k (S 32) (S 35)) n (p + la) (v + ma)) from ⟨fun q => ⟨trivial, q.2.2⟩, fun q => ⟨qA, qt, q.2⟩⟩)]
        exact this
      · rw [mb_f qt, if_pos rfl]
        have := I False
        rw [mb_f (fun q => q)] at this
        rw [mb_iff (show (A ∧ TK k (S 32) (S 35) p v ∧ tkS k (S 32) (S 35) (TK k (S 32) (S 35)) n (p + la) (v + ma)) ↔ (False ∧ tkS k (S 32) (S 35) (TK k (S 32) (S 35)) n (p + la) (v + ma)) from ⟨fun q => absurd q.2.1 qt, fun q => q.1.elim⟩)]
        exact this
    · rw [mb_f qA, if_pos rfl]
      have := I False
      rw [mb_f (fun q => q)] at this
      rw [mb_iff (show (A ∧ TK k (S 32) (S 35) p v ∧ tkS k (S 32) (S 35) (TK k (S 32) (S 35)) n (p + la) (v + ma)) ↔ (False ∧ tkS k (S 32) (S 35) (TK k (S 32) (S 35)) n (p + la) (v + ma)) from ⟨fun q => absurd q.1 qA, fun q => q.1.elim⟩)]
      exact this
theorem mr_rowTakes (hK : mr_K S k) (hW : kW k) {nv r sz C : Nat} (h6 : S 27 6 = nI C) (hC : C ≤ 3) (h9 : S 27 9 = nI nv) (hnv : nv ≤ 60) (hr : r < 12) (hsz : sz ≤ 40) (h33 : S 33 r = nI sz)
    (hg : ∀ p, 40 * r ≤ p → p < 40 * r + sz → sgn k (S 32 p)) (hx : ∀ v, v < nv → ∃ m, m < kM k ∧ S 35 v = nI m) (hq : sq (fun j => kar k (S 32 j)) sz C (40 * r)) (hv : sq (fun j => kar k (S 35 j)) nv C 0) :
    ∃ f, mm_runD (d + 4) 133 [.inr 27, .inl (nI r)] S = some (mm_stc S 37 f, 0, 0, 0, mb (rTk k C (S 32) (S 35) r)) := by
  obtain ⟨f, a1, a2⟩ := mr_rt_out (d := d) (S := S) hK hW h9 hnv hr hsz hg hx hq (fun v hv' => by obtain ⟨l, x1, x2⟩ := sq_at (i := v) hv hv'; rw [Nat.zero_add] at x1; exact ⟨l, x1, x2⟩) sz (S 37) none none none (Nat.le_refl _) (fun q w a b c => absurd a (by omega))
  refine ⟨f, ?_⟩
  have L := mr_rt_cols (d := d + 1) (S := mm_stc S 37 f) hK hW (E0 := 40 * r + sz) (s0 := 40 * r) h6 hC hnv (by omega) hg (fun v hv' => by obtain ⟨m, a, b⟩ := hx v hv'; exact Or.inr (Or.inr ⟨m, a, b⟩)) (fun p v a b c => a2 p v a b c) C 0 (40 * r) 0 sz nv True rfl (by omega) hq hv (by omega) (by omega) (by omega) (some (.inl (nI r)))
  rw [mb_t trivial, true_and] at L
  rw [mm_stc_self] at a1
  rw [dX8_rowTakes, eX8_rowTakes_0, ar_33 hr, h33, li_40, nn_mul, nI_add, a1]
  exact L
/-- the class's row against the values -/
theorem mq_rowTakes (hK : mq_K S k) (hW : kW k) {nv r sz C : Nat} {G X : Nat → Int32} (h0 : S 0 2 = nI C) (hC : C ≤ 3) (h15 : S 15 4 = nI nv) (hnv : nv ≤ 60) (hr : r < 12) (hsz : sz ≤ 40)
    (hG : ∀ p, 40 * r ≤ p → p < 40 * r + sz → S 9 p = G p) (hX : ∀ v, v < nv → S 16 v = X v) (hg : ∀ p, 40 * r ≤ p → p < 40 * r + sz → sgn k (G p)) (he : mends (fun j => kar k (G j)) (S 10) (40 * r) (40 * r + sz)) (hv : mends (fun j => kar k (X j)) (S 17) 0 nv)
    (hq : sq (fun j => kar k (G j)) sz C (40 * r)) (hvq : sq (fun j => kar k (X j)) nv C 0) : mm_runD (d + 45) 109 [.inr 0, .inl (nI r)] S = some (S, 0, 0, 0, mb (rTk k C G X r)) := by
  have loop : ∀ (n i p v lp lv : Nat), C - i = n → i ≤ C → sq (fun j => kar k (G j)) lp n p → sq (fun j => kar k (X j)) lv n v → 40 * r ≤ p → p + lp ≤ 40 * r + sz → v + lv ≤ nv → ∀ o1 : Option MV,
      mm_E (mm_runD (d + 44)) pX7_rowTakesValues 2 9 [some (.inr 0), o1, some (.inl (nI p)), some (.inl (nI v)), some (.inl (nI i))] [] S 0 0 = some (S, 0, 0, 0, mb (tkS k G X (TK k G X) n p v)) := by
    intro n
    induction n with
    | zero =>
      intro i p v lp lv hn hi h1 h2 b1 b2 b3 o1
      rw [eX7_rowTakesValues_9, h0, if_pos (nI_le (by omega) (by omega)), mb_t (show tkS k G X (TK k G X) 0 p v from trivial)] <;> rfl
    | succ n ih =>
      intro i p v lp lv hn hi h1 h2 b1 b2 b3 o1
      rw [Nat.add_comm] at h1 h2
      obtain ⟨la, lb, e1, e2, e3⟩ := sq_split h1
      obtain ⟨ma, mb', f1, f2, f3⟩ := sq_split h2
      have pa := sq_pos (n := 0) e2
      have pm := sq_pos (n := 0) f2
      have A := mq_takes (S := S) hK hW h15 hnv (by omega) hG hX hg he hv la p v ma 0 (d + 44) e2 b1 (by omega) f2 (by omega) (by omega) (by omega)
      rw [nI_0] at A
      obtain ⟨l9, g1, g2, g3⟩ := he p b1 (by omega)
      obtain ⟨m9, k1, k2, k3⟩ := hv v (by omega) (by omega)
      rw [← sq_det e2 g1] at g3
      rw [← sq_det f2 k1] at k3
      have I := ih (i + 1) (p + la) (v + ma) lb mb' (by omega) (by omega) e3 f3 (by omega) (by omega) (by omega) o1
      rw [eX7_rowTakesValues_9, h0, if_neg (nI_ge (by omega) (by omega)), A, mm_bd_ret, mb_iff (tkS_s e2 f2)]
      by_cases qt : TK k G X p v
      · rw [mb_t qt, if_neg (by decide), mq_rEnd (by omega), mm_bd_ret, mq_endAtv h15 hnv (by omega), mm_bd_ret, g3, k3, nI_1, mb_iff (and_iff_right qt)]
        exact I
      · rw [mb_f qt, if_pos rfl, mb_f (fun z => qt z.1)]
  have L := loop C 0 (40 * r) 0 sz nv rfl (by omega) hq hvq (by omega) (by omega) (by omega) (some (.inl (nI r)))
  rw [dX7_rowTakesValues, eX7_rowTakesValues_0, mq_startOf, mm_bd_ret]
  exact L
end
