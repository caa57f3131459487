/-! PURE: kinds, apart from any memory -/
abbrev KK : Type := Nat × Nat × (Nat → Nat) × (Nat → Nat) × (Nat → Nat → Nat)
def kT (k : KK) : Nat := k.1
def kM (k : KK) : Nat := k.2.1
def kTy (k : KK) : Nat → Nat := k.2.2.1
def kFc (k : KK) : Nat → Nat := k.2.2.2.1
def kFt (k : KK) : Nat → Nat → Nat := k.2.2.2.2
def kW (k : KK) : Prop := kT k ≤ 8 ∧ kM k ≤ 40 ∧ ∀ m, m < kM k → kTy k m < kT k ∧ kFc k m ≤ 3 ∧ ∀ j, j < kFc k m → kFt k m j < kT k
/-- a type has a value -/
def kVal (k : KK) (t : Nat) : Prop := ∀ P : Nat → Prop, (∀ m, m < kM k → (∀ j, j < kFc k m → P (kFt k m j)) → P (kTy k m)) → P t
/-- a maker isn't dead -/
def kLive (k : KK) (m : Nat) : Prop := ∀ j, j < kFc k m → kVal k (kFt k m j)
theorem kVal_mk {k : KK} {m : Nat} (hm : m < kM k) (h : kLive k m) : kVal k (kTy k m) := fun P hP => hP m hm (fun j hj => h j hj P hP)
theorem kVal_lt {k : KK} (hW : kW k) {t : Nat} (h : kVal k t) : t < kT k := h (fun t => t < kT k) (fun m hm _ => (hW.2.2 m hm).1)
def kCnt (k : KK) (t : Nat) : Nat → Nat
  | 0 => 0
  | n + 1 => kCnt k t n + (if kTy k n = t then 1 else 0)
theorem kCnt_s (k : KK) (t n : Nat) : kCnt k t (n + 1) = kCnt k t n + (if kTy k n = t then 1 else 0) := rfl
/-- one more maker -/
def kAdd (k : KK) (t f : Nat) (g : Nat → Nat) : KK := (kT k, kM k + 1, fun m => if m = kM k then t else kTy k m, fun m => if m = kM k then f else kFc k m, fun m => if m = kM k then g else kFt k m)
theorem kAdd_M {k : KK} {t f : Nat} {g : Nat → Nat} : kM (kAdd k t f g) = kM k + 1 := rfl
theorem kAdd_T {k : KK} {t f : Nat} {g : Nat → Nat} : kT (kAdd k t f g) = kT k := rfl
theorem kAdd_new {k : KK} {t f : Nat} {g : Nat → Nat} : kTy (kAdd k t f g) (kM k) = t ∧ kFc (kAdd k t f g) (kM k) = f ∧ kFt (kAdd k t f g) (kM k) = g := ⟨if_pos rfl, if_pos rfl, if_pos rfl⟩
theorem kAdd_old {k : KK} {t f : Nat} {g : Nat → Nat} {m : Nat} (h : m < kM k) : kTy (kAdd k t f g) m = kTy k m ∧ kFc (kAdd k t f g) m = kFc k m ∧ kFt (kAdd k t f g) m = kFt k m := ⟨if_neg (by omega), if_neg (by omega), if_neg (by omega)⟩
theorem kAdd_W {k : KK} {t f : Nat} {g : Nat → Nat} (hW : kW k) (hM : kM k < 40) (ht : t < kT k) (hf : f ≤ 3) (hg : ∀ j, j < f → g j < kT k) : kW (kAdd k t f g) := by
  refine ⟨hW.1, by rw [kAdd_M]; omega, fun m hm => ?_⟩
  rw [kAdd_M] at hm
  rw [kAdd_T]
  rcases Nat.lt_or_ge m (kM k) with h | h
  · obtain ⟨h1, h2, h3⟩ := kAdd_old (t := t) (f := f) (g := g) h
    rw [h1, h2, h3]
    exact hW.2.2 m h
  · have e : m = kM k := by omega
    subst e
    obtain ⟨h1, h2, h3⟩ := kAdd_new (k := k) (t := t) (f := f) (g := g)
    rw [h1, h2, h3]
    exact ⟨ht, hf, hg⟩
theorem kAdd_Val {k : KK} {t f : Nat} {g : Nat → Nat} {u : Nat} (h : kVal k u) : kVal (kAdd k t f g) u := by
  intro P hP
  refine h P (fun m hm hj => ?_)
  obtain ⟨h1, h2, h3⟩ := kAdd_old (t := t) (f := f) (g := g) hm
  have := hP m (by rw [kAdd_M]; omega)
  rw [h1, h2, h3] at this
  exact this hj
theorem kCnt_old {k : KK} {t f : Nat} {g : Nat → Nat} {u : Nat} : ∀ n, n ≤ kM k → kCnt (kAdd k t f g) u n = kCnt k u n := by
  intro n
  induction n with
  | zero => intro _; rfl
  | succ n ih =>
    intro h
    unfold kCnt
    rw [ih (by omega), (kAdd_old (t := t) (f := f) (g := g) (by omega)).1]
theorem kCnt_add {k : KK} {t f : Nat} {g : Nat → Nat} {u : Nat} : kCnt (kAdd k t f g) u (kM k + 1) = kCnt k u (kM k) + (if t = u then 1 else 0) := by
  conv => lhs; unfold kCnt
  rw [kCnt_old _ (Nat.le_refl _), kAdd_new.1]
theorem kCnt_le (k : KK) (t : Nat) : ∀ n, kCnt k t n ≤ n := by
  intro n
  induction n with
  | zero => exact Nat.le_refl _
  | succ n ih => unfold kCnt; split <;> omega
/-- one more type -/
def kTyp (k : KK) : KK := (kT k + 1, k.2)
theorem kTyp_W {k : KK} (hW : kW k) (h : kT k < 8) : kW (kTyp k) := ⟨by show kT k + 1 ≤ 8; omega, hW.2.1, fun m hm => ⟨Nat.lt_succ_of_lt (hW.2.2 m hm).1, (hW.2.2 m hm).2.1, fun j hj => Nat.lt_succ_of_lt ((hW.2.2 m hm).2.2 j hj)⟩⟩
/-! which types have a value: notes f, 0 or 1 for each type -/
def cz (f : Nat → Int32) : Nat → Nat
  | 0 => 0
  | n + 1 => cz f n + (if f n = 0 then 1 else 0)
theorem cz_le (f : Nat → Int32) : ∀ n, cz f n ≤ n := by
  intro n
  induction n with
  | zero => exact Nat.le_refl _
  | succ n ih => unfold cz; split <;> omega
theorem cz_zero {f : Nat → Int32} : ∀ n, cz f n = 0 → ∀ j, j < n → f j ≠ 0 := by
  intro n
  induction n with
  | zero => intro _ j hj; omega
  | succ n ih =>
    intro h j hj e
    unfold cz at h
    by_cases hn : f n = 0
    · rw [if_pos hn] at h; omega
    · rw [if_neg hn] at h
      rcases Nat.lt_or_ge j n with q | q
      · exact ih (by omega) j q e
      · have : j = n := by omega
        subst this; exact hn e
theorem cz_same {f g : Nat → Int32} : ∀ n, (∀ j, j < n → f j = g j) → cz f n = cz g n := by
  intro n
  induction n with
  | zero => intro _; rfl
  | succ n ih =>
    intro h
    unfold cz
    rw [ih (fun j hj => h j (by omega)), h n (by omega)]
theorem cz_upd {f : Nat → Int32} {t : Nat} (h0 : f t = 0) : ∀ n, t < n → cz (upd f t 1) n + 1 = cz f n := by
  intro n
  induction n with
  | zero => intro h; omega
  | succ n ih =>
    intro h
    unfold cz
    rcases Nat.lt_or_ge t n with q | q
    · have e : upd f t 1 n = f n := pk_un (by omega)
      rw [e]
      have := ih q
      omega
    · have e : t = n := by omega
      subst e
      have e1 : upd f t 1 t = 1 := pk_us
      have e2 : cz (upd f t 1) t = cz f t := cz_same t (fun j hj => pk_un (by omega))
      rw [e1, e2, if_neg (by decide), if_pos h0]
theorem cz_mono {f g : Nat → Int32} (h : ∀ t, f t = 0 → g t = 0) : ∀ n, cz f n ≤ cz g n := by
  intro n
  induction n with
  | zero => exact Nat.le_refl _
  | succ n ih =>
    unfold cz
    by_cases q : f n = 0
    · rw [if_pos q, if_pos (h n q)]; omega
    · rw [if_neg q]; omega
/-- noted as dead -/
def kDd (f : Nat → Int32) (k : KK) (m : Nat) : Prop := ∃ j, j < kFc k m ∧ f (kFt k m j) = 0
def kGood (f : Nat → Int32) (k : KK) : Prop := ∀ t, (f t = 0 ∨ f t = 1) ∧ (f t ≠ 0 → kVal k t)
def kClosed (f : Nat → Int32) (k : KK) : Prop := ∀ m, m < kM k → f (kTy k m) ≠ 0 ∨ kDd f k m
/-- notes that are right -/
def kV (f : Nat → Int32) (k : KK) : Prop := ∀ t, (f t = 0 ∨ f t = 1) ∧ (f t ≠ 0 ↔ kVal k t)
theorem kV_of {f : Nat → Int32} {k : KK} (h : kGood f k) (hc : kClosed f k) : kV f k := by
  intro t
  refine ⟨(h t).1, (h t).2, fun hv => hv (fun t => f t ≠ 0) (fun m hm hj => ?_)⟩
  rcases hc m hm with q | ⟨j, hj1, hj2⟩
  · exact q
  · exact absurd hj2 (hj j hj1)
theorem kV_dd {f : Nat → Int32} {k : KK} (h : kV f k) (m : Nat) : kDd f k m ↔ ¬ kLive k m := by
  refine ⟨fun ⟨j, h1, h2⟩ q => absurd h2 ((h _).2.mpr (q j h1)), fun q => ?_⟩
  apply Classical.byContradiction
  intro hn
  refine q (fun j hj => (h _).2.mp (fun e => hn ⟨j, hj, e⟩))
theorem kGood_upd {f : Nat → Int32} {k : KK} {m : Nat} (h : kGood f k) (hm : m < kM k) (hd : ¬ kDd f k m) : kGood (upd f (kTy k m) 1) k := by
  intro t
  by_cases e : t = kTy k m
  · subst e
    rw [show upd f (kTy k m) 1 (kTy k m) = 1 from pk_us]
    refine ⟨Or.inr rfl, fun _ => kVal_mk hm (fun j hj => (h _).2 (fun q => hd ⟨j, hj, q⟩))⟩
  · rw [show upd f (kTy k m) 1 t = f t from pk_un e]
    exact h t
theorem upd_self {f : Nat → Int32} {t : Nat} {v : Int32} (h : f t = v) : upd f t v = f := by
  funext j
  by_cases e : j = t
  · subst e; rw [← h]; exact pk_us
  · exact pk_un e
theorem mm_stc_self (S : Mem) (c : Nat) : mm_stc S c (S c) = S := by
  funext x
  by_cases e : x = c
  · subst e; exact mm_stc_at _ _ _
  · exact mm_stc_ne _ _ e
theorem mm_put_stc (S : Mem) (c k : Nat) (f : Nat → Int32) (v : Int32) : mm_put (mm_stc S c f) c k v = mm_stc S c (upd f k v) := by
  funext x
  unfold mm_put
  by_cases e : x = c
  · subst e; rw [mm_stc_at, mm_stc_at, mm_stc_at]
  · rw [mm_stc_ne _ _ e, mm_stc_ne _ _ e, mm_stc_ne _ _ e]
/-! an int that counts as one of n things -/
def mi (x : Int32) (n : Nat) : Prop := ∃ j, j < n ∧ x = nI j
theorem mi_in {j n : Nat} (h : j < n) : mi (nI j) n := ⟨j, h, rfl⟩
theorem mi_out {x : Int32} {n : Nat} (hn : n < 2 ^ 31) (h : ¬ mi x n) : x < 0 ∨ nI n ≤ x := by
  by_cases h0 : x < 0
  · exact Or.inl h0
  · obtain ⟨j, hj, rfl⟩ := nI_of h0
    refine Or.inr (nI_le ?_ hj)
    apply Nat.le_of_not_lt
    intro q
    exact h ⟨j, q, rfl⟩
theorem mi_N1 {n : Nat} (hn : n < 2 ^ 31) : ¬ mi N1 n := fun ⟨j, hj, e⟩ => (nn_a3 (a := j) (by omega)).mp e
theorem mi_N2 {n : Nat} (hn : n < 2 ^ 31) : ¬ mi N2 n := fun ⟨j, hj, e⟩ => (nn_a4 (a := j) (by omega)).mp e
/-- fields of a sign (none of one that is no maker) -/
noncomputable def kfc (k : KK) (x : Int32) : Nat := @ite Nat (mi x (kM k)) (Classical.propDecidable _) (kFc k x.toNatClampNeg) 0
theorem kfc_in {k : KK} {j : Nat} (hW : kW k) (h : j < kM k) : kfc k (nI j) = kFc k j := by
  unfold kfc
  rw [if_pos (mi_in h), nI_clamp (by have := hW.2.1; omega)]
theorem kfc_out {k : KK} {x : Int32} (h : ¬ mi x (kM k)) : kfc k x = 0 := by
  unfold kfc
  rw [if_neg h]
/-! the class's Kinds (cells 1 to 6) -/
def mq_K (S : Mem) (k : KK) : Prop := S 1 0 = nI (kT k) ∧ S 1 1 = nI (kM k) ∧ ∀ m, m < kM k → S 4 m = nI (kTy k m) ∧ S 5 m = nI (kFc k m) ∧ ∀ j, j < kFc k m → S 6 (3 * m + j) = nI (kFt k m j)
def mq_C (S : Mem) (k : KK) : Prop := ∀ t, t < 8 → S 2 t = nI (kCnt k t (kM k)) ∧ kCnt k t (kM k) ≤ 8
section
variable {d : Nat} {S : Mem} {k : KK}
theorem mq_hasType (hK : mq_K S k) (hW : kW k) (x : Int32) : mm_runD (d + 1) 19 [.inr 1, .inl x] S = some (S, 0, 0, 0, mb (mi x (kT k))) := by
  by_cases h : mi x (kT k)
  · rw [mb_t h]
    obtain ⟨j, hj, rfl⟩ := h
    exact mp_hasType_in hK.1 hW.1 hj
  · rw [mb_f h]
    exact mp_hasType_out hK.1 (mi_out (by have := hW.1; omega) h)
theorem mq_hasMaker (hK : mq_K S k) (hW : kW k) (x : Int32) : mm_runD (d + 1) 20 [.inr 1, .inl x] S = some (S, 0, 0, 0, mb (mi x (kM k))) := by
  by_cases h : mi x (kM k)
  · rw [mb_t h]
    obtain ⟨j, hj, rfl⟩ := h
    exact mp_hasMaker_in hK.2.1 hW.2.1 hj
  · rw [mb_f h]
    exact mp_hasMaker_out hK.2.1 (mi_out (by have := hW.2.1; omega) h)
theorem mq_typeOf (hK : mq_K S k) (hW : kW k) {j : Nat} (hj : j < kM k) : mm_runD (d + 2) 23 [.inr 1, .inl (nI j)] S = some (S, 0, 0, 0, nI (kTy k j)) := by
  rw [mp_typeOf_in hK.2.1 hW.2.1 hj, (hK.2.2 j hj).1]
theorem mq_fieldCount (hK : mq_K S k) (hW : kW k) (x : Int32) : mm_runD (d + 2) 24 [.inr 1, .inl x] S = some (S, 0, 0, 0, nI (kfc k x)) := by
  by_cases h : mi x (kM k)
  · obtain ⟨j, hj, rfl⟩ := h
    rw [kfc_in hW hj, mp_fieldCount_in hK.2.1 hW.2.1 hj, (hK.2.2 j hj).2.1]
  · rw [kfc_out h]
    exact mp_fieldCount_out hK.2.1 (mi_out (by have := hW.2.1; omega) h)
theorem mq_fieldType (hK : mq_K S k) (hW : kW k) {j f : Nat} (hj : j < kM k) (hf : f < kFc k j) : mm_runD (d + 3) 25 [.inr 1, .inl (nI j), .inl (nI f)] S = some (S, 0, 0, 0, nI (kFt k j f)) := by
  rw [mp_fieldType_in hK.2.1 hW.2.1 hj (hK.2.2 j hj).2.1 (hW.2.2 j hj).2.1 hf, (hK.2.2 j hj).2.2 f hf]
theorem mq_isDead (hK : mq_K S k) (hW : kW k) {m : Nat} (hm : m < kM k) : mm_runD (d + 4) 26 [.inr 1, .inl (nI m)] S = some (S, 0, 0, 0, mb (kDd (S 3) k m)) := by
  obtain ⟨h1, h2⟩ := mp_isDead (d := d) hK.1 hW.1 hK.2.1 hW.2.1 hm (hK.2.2 m hm).2.1 (hW.2.2 m hm).2.1 (fun j hj => ⟨(hK.2.2 m hm).2.2 j hj, (hW.2.2 m hm).2.2 j hj⟩)
  by_cases h : kDd (S 3) k m
  · rw [mb_t h]; exact h2 h
  · rw [mb_f h]; exact h1 h
theorem mq_hasValue (hK : mq_K S k) (hW : kW k) (hV : kV (S 3) k) (x : Int32) : mm_runD (d + 2) 22 [.inr 1, .inl x] S = some (S, 0, 0, 0, mb (∃ t, t < kT k ∧ x = nI t ∧ kVal k t)) := by
  by_cases h : mi x (kT k)
  · obtain ⟨j, hj, rfl⟩ := h
    rw [mp_hasValue_in hK.1 hW.1 hj]
    by_cases h : S 3 j = 0
    · have hn : ¬ ∃ t, t < kT k ∧ nI j = nI t ∧ kVal k t := by
        rintro ⟨t, h1, h2, h3⟩
        have h8 := hW.1
        have e := (nI_eq (by omega) (by omega)).mp h2
        subst e
        exact (hV j).2.mpr h3 h
      rw [if_pos h, mb_f hn]
    · rw [if_neg h, mb_t ⟨j, hj, rfl, (hV j).2.mp h⟩] <;> rfl
  · rw [dX2_hasValue, eX2_hasValue_0, mq_hasType hK hW, mm_bd_ret, mb_f h, if_pos rfl, mb_f (fun ⟨t, h1, h2, _⟩ => h ⟨t, h1, h2⟩)] <;> rfl
/-- one round over the makers -/
theorem mq_fv_in (hK : mq_K S k) (hW : kW k) : ∀ (n i : Nat) (f : Nat → Int32) (x1 : Int32) (r : Nat) (o : Option MV), kM k - i = n → i ≤ kM k → kGood f k →
    ∃ f' x1' o', mm_E (mm_runD (d + 4)) pX2_findValued 0 13 [some (.inr 1), some (.inl x1), some (.inl (nI r)), some (.inl (nI i)), o] [] (mm_stc S 3 f) 0 0 = mm_E (mm_runD (d + 4)) pX2_findValued 0 4 [some (.inr 1), some (.inl x1'), some (.inl (nI (r + 1))), some (.inl (nI (kM k))), o'] [] (mm_stc S 3 f') 0 0 ∧ kGood f' k ∧
      ((f' = f ∧ x1' = x1 ∧ ∀ m, i ≤ m → m < kM k → f (kTy k m) ≠ 0 ∨ kDd f k m) ∨ (x1' = 1 ∧ cz f' (kT k) < cz f (kT k))) := by
  intro n
  have hM := hW.2.1
  have hT := hW.1
  induction n with
  | zero =>
    intro i f x1 r o hn hi hg
    have e : i = kM k := by omega
    subst e
    refine ⟨f, x1, o, ?_, hg, Or.inl ⟨rfl, rfl, fun m h1 h2 => absurd h1 (by omega)⟩⟩
    have hK' : mq_K (mm_stc S 3 f) k := hK
    rw [eX2_findValued_13, hK'.2.1, if_pos (nI_le (Nat.le_refl _) (by omega)), nI_1]
  | succ n ih =>
    intro i f x1 r o hn hi hg
    have hK' : mq_K (mm_stc S 3 f) k := hK
    have hlt : i < kM k := by omega
    obtain ⟨hty, _⟩ := hW.2.2 i hlt
    have step : mm_E (mm_runD (d + 4)) pX2_findValued 0 13 [some (.inr 1), some (.inl x1), some (.inl (nI r)), some (.inl (nI i)), o] [] (mm_stc S 3 f) 0 0 = (if f (kTy k i) = 0 then (if mb (kDd f k i) = 0 then mm_E (mm_runD (d + 4)) pX2_findValued 0 13 [some (.inr 1), some (.inl 1), some (.inl (nI r)), some (.inl (nI (i + 1))), some (.inl (nI (kTy k i)))] [] (mm_stc S 3 (upd f (kTy k i) 1)) 0 0 else mm_E (mm_runD (d + 4)) pX2_findValued 0 13 [some (.inr 1), some (.inl x1), some (.inl (nI r)), some (.inl (nI (i + 1))), some (.inl (nI (kTy k i)))] [] (mm_stc S 3 f) 0 0) else mm_E (mm_runD (d + 4)) pX2_findValued 0 13 [some (.inr 1), some (.inl x1), some (.inl (nI r)), some (.inl (nI (i + 1))), some (.inl (nI (kTy k i)))] [] (mm_stc S 3 f) 0 0) := by
      rw [eX2_findValued_13, hK'.2.1, if_neg (nI_ge hlt (by omega)), mq_typeOf hK' hW hlt, mm_bd_ret, mq_hasType hK' hW, mm_bd_ret, mb_t (mi_in hty), if_neg (by decide), ar_3 (by omega), mm_stc_at, mq_isDead hK' hW hlt, mm_bd_ret, ar_3 (by omega), mm_put_stc, mm_stc_at, show vp_nar .boolean 1 = 1 from nn_nar1, nI_1]
    rw [step]
    by_cases h0 : f (kTy k i) = 0
    · rw [if_pos h0]
      by_cases hd : kDd f k i
      · rw [mb_t hd, if_neg (by decide)]
        obtain ⟨f', x1', o', h1, h2, h3⟩ := ih (i + 1) f x1 r (some (.inl (nI (kTy k i)))) (by omega) (by omega) hg
        refine ⟨f', x1', o', h1, h2, ?_⟩
        rcases h3 with ⟨h4, h5, h6⟩ | h3
        · refine Or.inl ⟨h4, h5, fun m a b => ?_⟩
          rcases Nat.lt_or_ge i m with q | q
          · exact h6 m q b
          · have : m = i := by omega
            subst this; exact Or.inr hd
        · exact Or.inr h3
      · rw [mb_f hd, if_pos rfl]
        obtain ⟨f', x1', o', h1, h2, h3⟩ := ih (i + 1) (upd f (kTy k i) 1) 1 r (some (.inl (nI (kTy k i)))) (by omega) (by omega) (kGood_upd hg hlt hd)
        refine ⟨f', x1', o', h1, h2, Or.inr ?_⟩
        have hc := cz_upd (f := f) (t := kTy k i) h0 (kT k) hty
        rcases h3 with ⟨h4, h5, h6⟩ | h3
        · rw [h4]; exact ⟨h5, by omega⟩
        · exact ⟨h3.1, by omega⟩
    · rw [if_neg h0]
      obtain ⟨f', x1', o', h1, h2, h3⟩ := ih (i + 1) f x1 r (some (.inl (nI (kTy k i)))) (by omega) (by omega) hg
      refine ⟨f', x1', o', h1, h2, ?_⟩
      rcases h3 with ⟨h4, h5, h6⟩ | h3
      · refine Or.inl ⟨h4, h5, fun m a b => ?_⟩
        rcases Nat.lt_or_ge i m with q | q
        · exact h6 m q b
        · have : m = i := by omega
          subst this; exact Or.inl h0
      · exact Or.inr h3
theorem mq_fv_out (hK : mq_K S k) (hW : kW k) : ∀ (n r : Nat) (f : Nat → Int32) (o3 o4 : Option MV), cz f (kT k) = n → r + n ≤ kT k → kGood f k →
    ∃ f', mm_E (mm_runD (d + 4)) pX2_findValued 0 4 [some (.inr 1), some (.inl 1), some (.inl (nI r)), o3, o4] [] (mm_stc S 3 f) 0 0 = some (mm_stc S 3 f', 0, 0, 0, 0) ∧ kV f' k := by
  intro n
  have hM := hW.2.1
  have hT := hW.1
  induction n using Nat.strongRecOn with
  | ind n ih =>
    intro r f o3 o4 hn hr hg
    obtain ⟨f', x1', o', h1, h2, h3⟩ := mq_fv_in (d := d) hK hW (kM k - 0) 0 f 0 r o4 rfl (by omega) hg
    rw [nI_0] at h1
    rw [eX2_findValued_4, if_neg (show ¬ (8 : Int32) < nI r from nI_nlt (a := 8) (by omega) (by decide)), if_neg (by decide), h1]
    rcases h3 with ⟨h4, h5, h6⟩ | ⟨h5, h6⟩
    · refine ⟨f', ?_, kV_of h2 (fun m hm => by rw [h4]; exact h6 m (by omega) hm)⟩
      rw [eX2_findValued_4, h5]
      by_cases q : (8 : Int32) < nI (r + 1)
      · rw [if_pos q]
      · rw [if_neg q, if_pos rfl]
    · rw [h5]
      exact ih (cz f' (kT k)) (by omega) (r + 1) f' _ _ rfl (by omega) h2
theorem mq_findValued (hK : mq_K S k) (hW : kW k) (hg : kGood (S 3) k) : ∃ f, mm_runD (d + 5) 29 [.inr 1] S = some (mm_stc S 3 f, 0, 0, 0, 0) ∧ kV f k := by
  obtain ⟨f, h1, h2⟩ := mq_fv_out (d := d) hK hW (cz (S 3) (kT k)) 0 (S 3) none none rfl (by have := cz_le (S 3) (kT k); omega) hg
  refine ⟨f, ?_, h2⟩
  rw [dX2_findValued, eX2_findValued_0]
  rw [mm_stc_self] at h1
  exact h1
end
