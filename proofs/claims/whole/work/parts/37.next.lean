/-! PURE: the reference's next: what is asked for after n signs -/
def hdv : List Nat → Int32
  | [] => N1
  | t :: _ => nI t
section
variable {d : Nat} {S : Mem} {k : KK}
theorem mr_next_fr (hK : mr_K S k) (hW : kW k) {m : Nat} (hm : m < kM k) {a b : MV} {o : Option MV} {r : List Nat} {x2 x4 : Int32} (hr : r.length + 3 ≤ 300) : ∀ (i : Nat) (f : Nat → Int32), i ≤ kFc k m → mstk f (seg (kFt k m) i (kFc k m - i) ++ r) →
    ∃ f' x7, mm_E (mm_runD (d + 1)) pX8_next 1 61 [some (.inr 27), some (.inr 34), some (.inl x2), some (.inl (nI (kFc k m - i + r.length))), some (.inl x4), o, some (.inl (nI m)), some (.inl (nI i - 1))] [] (mm_stc S 36 f) 0 0 = mm_E (mm_runD (d + 1)) pX8_next 1 22 [some (.inr 27), some (.inr 34), some (.inl x2), some (.inl (nI (kFc k m + r.length))), some (.inl (x4 + 1)), o, some (.inl (nI m)), x7] [] (mm_stc S 36 f') 0 0 ∧ mstk f' (seg (kFt k m) 0 (kFc k m) ++ r) := by
  intro i
  obtain ⟨_, h3, h4⟩ := hW.2.2 m hm
  have hM := hW.2.1
  induction i with
  | zero =>
    intro f hi h
    refine ⟨f, some (.inl (nI 0 - 1)), ?_, h⟩
    rw [eX8_next_34_61, if_pos (by decide)] <;> rfl
  | succ i ih =>
    intro f hi h
    have e : kFt k m i :: (seg (kFt k m) (i + 1) (kFc k m - (i + 1)) ++ r) = seg (kFt k m) i (kFc k m - i) ++ r := by
      rw [show kFc k m - i = (kFc k m - (i + 1)) + 1 by omega] <;> rfl
    have hK' : mr_K (mm_stc S 36 f) k := hK
    have h1 := mstk_push (t := kFt k m i) (n := kFc k m - (i + 1) + r.length) (by rw [List.length_append, seg_len]) h
    rw [e] at h1
    obtain ⟨f', x7, h5, h6⟩ := ih _ (by omega) h1
    refine ⟨f', x7, ?_, h6⟩
    rw [eX8_next_34_61, nI_pred, if_neg (nI_pos (by omega)), li_3, nn_mul, nI_add, ar_29 (by omega), ar_36 (by omega), (hK'.2.2 m hm).2.1 i (by omega), mm_put_stc, nI_1, nn_sm, ← h5, show kFc k m - (i + 1) + r.length + 1 = kFc k m - i + r.length by omega]
/-- one sign -/
theorem mr_next_sr (hK : mr_K S k) (hW : kW k) {i t : Nat} {x2 : Int32} {n : Nat} (hx2 : x2 = nI n) (hn : n ≤ 40) (hi : i < n) {o5 o6 o7 : Option MV} {r : List Nat} (hr : r.length + 3 ≤ 300) {x : Int32} (hx : sgn k x) (hS : S 34 i = x) {f : Nat → Int32} (hf : mstk f (t :: r)) :
    ∃ f' p5 p6 p7, mm_E (mm_runD (d + 1)) pX8_next 1 22 [some (.inr 27), some (.inr 34), some (.inl x2), some (.inl (nI (r.length + 1))), some (.inl (nI i)), o5, o6, o7] [] (mm_stc S 36 f) 0 0 = mm_E (mm_runD (d + 1)) pX8_next 1 22 [some (.inr 27), some (.inr 34), some (.inl x2), some (.inl (nI (stp k t x ++ r).length)), some (.inl (nI (i + 1))), p5, p6, p7] [] (mm_stc S 36 f') 0 0 ∧ mstk f' (stp k t x ++ r) := by
  have hM := hW.2.1
  have hK' : mr_K (mm_stc S 36 f) k := hK
  have hS' : (mm_stc S 36 f) 34 i = x := hS
  have start : mm_E (mm_runD (d + 1)) pX8_next 1 22 [some (.inr 27), some (.inr 34), some (.inl x2), some (.inl (nI (r.length + 1))), some (.inl (nI i)), o5, o6, o7] [] (mm_stc S 36 f) 0 0 = mm_E (mm_runD (d + 1)) pX8_next 1 37 [some (.inr 27), some (.inr 34), some (.inl x2), some (.inl (nI r.length)), some (.inl (nI i)), some (.inl (nI t)), some (.inl x), some (.inl 0)] [] (mm_stc S 36 f) 0 0 := by
    rw [eX8_next_34_22, hx2, if_neg (nI_ge hi (by omega)), nn_sm, nI_pred, ar_36 (by omega), ar_34 (by omega), hS', mm_stc_at, hf.1]
  rcases hx with rfl | rfl | ⟨m, hm, rfl⟩
  · refine ⟨f, some (.inl (nI t)), some (.inl N1), some (.inl (-1)), ?_, by rw [stp_A hW]; exact hf.2⟩
    rw [start, eX8_next_34_37, if_neg (by decide), if_neg (by decide), eX8_next_34_61, if_pos (by decide), nI_1, stp_A hW] <;> rfl
  · have h1 := mstk_push (t := t) (n := r.length) rfl hf.2
    have h2 := mstk_push (t := t) (n := r.length + 1) (by simp) h1
    refine ⟨_, some (.inl (nI t)), some (.inl N2), some (.inl (-1)), ?_, by rw [stp_E]; exact h2⟩
    rw [start, eX8_next_34_37, if_pos rfl, if_neg (by decide), ar_36 (by omega), mm_put_stc, nI_1, eX8_next_34_37, if_pos rfl, if_neg (by decide), ar_36 (by omega), mm_put_stc, nI_1, eX8_next_34_37, if_pos rfl, if_pos (by decide), if_neg (by decide), eX8_next_34_61, if_pos (by decide), nI_1, stp_E] <;> rfl
  · have hm3 := (hW.2.2 m hm).2.1
    obtain ⟨f', x7, h5, h6⟩ := mr_next_fr (d := d) hK hW hm (a := .inl 0) (b := .inl 0) (o := some (.inl (nI t))) (x2 := x2) (x4 := nI i) hr (kFc k m) f (Nat.le_refl _) (by rw [Nat.sub_self]; exact hf.2)
    refine ⟨f', some (.inl (nI t)), some (.inl (nI m)), x7, ?_, by rw [stp_M hW hm]; exact h6⟩
    rw [start, eX8_next_34_37, if_neg (fun q => (nn_a2 (a := m) (by omega)).mp q), if_pos (nI_pos' (by omega)), mr_fields hK' hW hm, mm_bd_ret, stp_M hW hm, List.length_append, seg_len]
    rw [Nat.sub_self, Nat.zero_add, nI_1] at h5
    exact h5
theorem mr_next_lr (hK : mr_K S k) (hW : kW k) {C : Nat} {col : Nat → Nat} {x : Nat → Int32} {n : Nat} (hC : C ≤ 3) (hx : ∀ i, i < n → S 34 i = x i) (hn : n ≤ 40) (hh : hnd k C col x n) :
    ∀ (z i : Nat) (f : Nat → Int32) (o5 o6 o7 : Option MV), n - i = z → i ≤ n → mstk f (stk k C col x i) → ∃ f', mm_E (mm_runD (d + 1)) pX8_next 1 22 [some (.inr 27), some (.inr 34), some (.inl (nI n)), some (.inl (nI (stk k C col x i).length)), some (.inl (nI i)), o5, o6, o7] [] (mm_stc S 36 f) 0 0 = some (mm_stc S 36 f', 0, 0, 0, hdv (stk k C col x n)) := by
  intro z
  induction z with
  | zero =>
    intro i f o5 o6 o7 hz hi hf
    have e : i = n := by omega
    subst e
    refine ⟨f, ?_⟩
    have hl := stk_len hW hC (col := col) (x := x) i
    rw [eX8_next_34_22, if_pos (nI_le (Nat.le_refl _) (by omega))]
    cases hs : stk k C col x i with
    | nil => rw [if_pos (show nI ([] : List Nat).length = 0 from rfl)] <;> rfl
    | cons t r =>
      rw [hs] at hl hf
      rw [List.length_cons] at hl ⊢
      rw [if_neg (nI_ne0 (by omega) (by omega)), nI_pred, ar_36 (by omega), mm_stc_at, hf.1] <;> rfl
  | succ z ih =>
    intro i f o5 o6 o7 hz hi hf
    have hl := stk_len hW hC (col := col) (x := x) i
    obtain ⟨t, r, h1, _⟩ := hh i (by omega)
    rw [h1] at hf hl
    rw [List.length_cons] at hl
    obtain ⟨f', p5, p6, p7, h3, h4⟩ := mr_next_sr (d := d) hK hW (x2 := nI n) (n := n) rfl hn (i := i) (by omega) (o5 := o5) (o6 := o6) (o7 := o7) (by omega) (hnd_sgn hh (by omega)) (hx i (by omega)) hf
    rw [← stk_s h1] at h3 h4
    obtain ⟨f2, h5⟩ := ih (i + 1) f' p5 p6 p7 (by omega) (by omega) h4
    refine ⟨f2, ?_⟩
    rw [h1, List.length_cons, h3, h5]
theorem mr_next_cr {C : Nat} {col : Nat → Nat} {x2 : Int32} {o5 o6 o7 : Option MV} (hC : C ≤ 3) (hc : ∀ c, c < C → S 31 c = nI (col c)) : ∀ (i : Nat) (f : Nat → Int32), i ≤ C → mstk f (seg col i (C - i)) →
    ∃ f', mm_E (mm_runD (d + 1)) pX8_next 1 7 [some (.inr 27), some (.inr 34), some (.inl x2), some (.inl (nI (C - i))), some (.inl (nI i - 1)), o5, o6, o7] [] (mm_stc S 36 f) 0 0 = mm_E (mm_runD (d + 1)) pX8_next 1 22 [some (.inr 27), some (.inr 34), some (.inl x2), some (.inl (nI C)), some (.inl (nI 0)), o5, o6, o7] [] (mm_stc S 36 f') 0 0 ∧ mstk f' (seg col 0 C) := by
  intro i
  induction i with
  | zero =>
    intro f hi h
    refine ⟨f, ?_, h⟩
    rw [eX8_next_34_7, if_pos (by decide)] <;> rfl
  | succ i ih =>
    intro f hi h
    have e : col i :: seg col (i + 1) (C - (i + 1)) = seg col i (C - i) := by
      rw [show C - i = (C - (i + 1)) + 1 by omega] <;> rfl
    have h1 := mstk_push (t := col i) (n := C - (i + 1)) (by rw [seg_len]) h
    rw [e] at h1
    obtain ⟨f', h5, h6⟩ := ih _ (by omega) h1
    refine ⟨f', ?_, h6⟩
    have hc' : (mm_stc S 36 f) 31 i = nI (col i) := hc i (by omega)
    rw [eX8_next_34_7, nI_pred, if_neg (nI_pos (by omega)), ar_31 (by omega), ar_36 (by omega), hc', mm_put_stc, nI_1, nn_sm, ← h5, show C - (i + 1) + 1 = C - i by omega]
theorem mr_nextr (hK : mr_K S k) (hW : kW k) {C : Nat} {col : Nat → Nat} {x : Nat → Int32} {n : Nat} (hC : C ≤ 3) (hC6 : S 27 6 = nI C) (hc : ∀ c, c < C → S 31 c = nI (col c)) (hx : ∀ i, i < n → S 34 i = x i) (hn : n ≤ 40) (hh : hnd k C col x n) :
    ∃ f, mm_runD (d + 2) 126 [.inr 27, .inr 34, .inl (nI n)] S = some (mm_stc S 36 f, 0, 0, 0, hdv (stk k C col x n)) := by
  obtain ⟨f1, h1, h2⟩ := mr_next_cr (d := d) (S := S) (x2 := nI n) (o5 := none) (o6 := none) (o7 := none) hC hc C (S 36) (Nat.le_refl _) (by rw [Nat.sub_self]; trivial)
  obtain ⟨f2, h3⟩ := mr_next_lr (d := d) (S := S) hK hW hC hx hn hh (n - 0) 0 f1 none none none rfl (by omega) h2
  refine ⟨f2, ?_⟩
  rw [mm_stc_self, Nat.sub_self] at h1
  rw [dX8_next_34, eX8_next_34_0, hC6, li_0, h1]
  have e : (stk k C col x 0).length = C := seg_len col C 0
  rw [e] at h3
  exact h3
end
section
variable {d : Nat} {S : Mem} {k : KK}
theorem mr_next_fv (hK : mr_K S k) (hW : kW k) {m : Nat} (hm : m < kM k) {a b : MV} {o : Option MV} {r : List Nat} {x2 x4 : Int32} (hr : r.length + 3 ≤ 300) : ∀ (i : Nat) (f : Nat → Int32), i ≤ kFc k m → mstk f (seg (kFt k m) i (kFc k m - i) ++ r) →
    ∃ f' x7, mm_E (mm_runD (d + 1)) pX8_next 1 61 [some (.inr 27), some (.inr 35), some (.inl x2), some (.inl (nI (kFc k m - i + r.length))), some (.inl x4), o, some (.inl (nI m)), some (.inl (nI i - 1))] [] (mm_stc S 36 f) 0 0 = mm_E (mm_runD (d + 1)) pX8_next 1 22 [some (.inr 27), some (.inr 35), some (.inl x2), some (.inl (nI (kFc k m + r.length))), some (.inl (x4 + 1)), o, some (.inl (nI m)), x7] [] (mm_stc S 36 f') 0 0 ∧ mstk f' (seg (kFt k m) 0 (kFc k m) ++ r) := by
  intro i
  obtain ⟨_, h3, h4⟩ := hW.2.2 m hm
  have hM := hW.2.1
  induction i with
  | zero =>
    intro f hi h
    refine ⟨f, some (.inl (nI 0 - 1)), ?_, h⟩
    rw [eX8_next_35_61, if_pos (by decide)] <;> rfl
  | succ i ih =>
    intro f hi h
    have e : kFt k m i :: (seg (kFt k m) (i + 1) (kFc k m - (i + 1)) ++ r) = seg (kFt k m) i (kFc k m - i) ++ r := by
      rw [show kFc k m - i = (kFc k m - (i + 1)) + 1 by omega] <;> rfl
    have hK' : mr_K (mm_stc S 36 f) k := hK
    have h1 := mstk_push (t := kFt k m i) (n := kFc k m - (i + 1) + r.length) (by rw [List.length_append, seg_len]) h
    rw [e] at h1
    obtain ⟨f', x7, h5, h6⟩ := ih _ (by omega) h1
    refine ⟨f', x7, ?_, h6⟩
    rw [eX8_next_35_61, nI_pred, if_neg (nI_pos (by omega)), li_3, nn_mul, nI_add, ar_29 (by omega), ar_36 (by omega), (hK'.2.2 m hm).2.1 i (by omega), mm_put_stc, nI_1, nn_sm, ← h5, show kFc k m - (i + 1) + r.length + 1 = kFc k m - i + r.length by omega]
/-- one sign -/
theorem mr_next_sv (hK : mr_K S k) (hW : kW k) {i t : Nat} {x2 : Int32} {n : Nat} (hx2 : x2 = nI n) (hn : n ≤ 60) (hi : i < n) {o5 o6 o7 : Option MV} {r : List Nat} (hr : r.length + 3 ≤ 300) {x : Int32} (hx : sgn k x) (hS : S 35 i = x) {f : Nat → Int32} (hf : mstk f (t :: r)) :
    ∃ f' p5 p6 p7, mm_E (mm_runD (d + 1)) pX8_next 1 22 [some (.inr 27), some (.inr 35), some (.inl x2), some (.inl (nI (r.length + 1))), some (.inl (nI i)), o5, o6, o7] [] (mm_stc S 36 f) 0 0 = mm_E (mm_runD (d + 1)) pX8_next 1 22 [some (.inr 27), some (.inr 35), some (.inl x2), some (.inl (nI (stp k t x ++ r).length)), some (.inl (nI (i + 1))), p5, p6, p7] [] (mm_stc S 36 f') 0 0 ∧ mstk f' (stp k t x ++ r) := by
  have hM := hW.2.1
  have hK' : mr_K (mm_stc S 36 f) k := hK
  have hS' : (mm_stc S 36 f) 35 i = x := hS
  have start : mm_E (mm_runD (d + 1)) pX8_next 1 22 [some (.inr 27), some (.inr 35), some (.inl x2), some (.inl (nI (r.length + 1))), some (.inl (nI i)), o5, o6, o7] [] (mm_stc S 36 f) 0 0 = mm_E (mm_runD (d + 1)) pX8_next 1 37 [some (.inr 27), some (.inr 35), some (.inl x2), some (.inl (nI r.length)), some (.inl (nI i)), some (.inl (nI t)), some (.inl x), some (.inl 0)] [] (mm_stc S 36 f) 0 0 := by
    rw [eX8_next_35_22, hx2, if_neg (nI_ge hi (by omega)), nn_sm, nI_pred, ar_36 (by omega), ar_35 (by omega), hS', mm_stc_at, hf.1]
  rcases hx with rfl | rfl | ⟨m, hm, rfl⟩
  · refine ⟨f, some (.inl (nI t)), some (.inl N1), some (.inl (-1)), ?_, by rw [stp_A hW]; exact hf.2⟩
    rw [start, eX8_next_35_37, if_neg (by decide), if_neg (by decide), eX8_next_35_61, if_pos (by decide), nI_1, stp_A hW] <;> rfl
  · have h1 := mstk_push (t := t) (n := r.length) rfl hf.2
    have h2 := mstk_push (t := t) (n := r.length + 1) (by simp) h1
    refine ⟨_, some (.inl (nI t)), some (.inl N2), some (.inl (-1)), ?_, by rw [stp_E]; exact h2⟩
    rw [start, eX8_next_35_37, if_pos rfl, if_neg (by decide), ar_36 (by omega), mm_put_stc, nI_1, eX8_next_35_37, if_pos rfl, if_neg (by decide), ar_36 (by omega), mm_put_stc, nI_1, eX8_next_35_37, if_pos rfl, if_pos (by decide), if_neg (by decide), eX8_next_35_61, if_pos (by decide), nI_1, stp_E] <;> rfl
  · have hm3 := (hW.2.2 m hm).2.1
    obtain ⟨f', x7, h5, h6⟩ := mr_next_fv (d := d) hK hW hm (a := .inl 0) (b := .inl 0) (o := some (.inl (nI t))) (x2 := x2) (x4 := nI i) hr (kFc k m) f (Nat.le_refl _) (by rw [Nat.sub_self]; exact hf.2)
    refine ⟨f', some (.inl (nI t)), some (.inl (nI m)), x7, ?_, by rw [stp_M hW hm]; exact h6⟩
    rw [start, eX8_next_35_37, if_neg (fun q => (nn_a2 (a := m) (by omega)).mp q), if_pos (nI_pos' (by omega)), mr_fields hK' hW hm, mm_bd_ret, stp_M hW hm, List.length_append, seg_len]
    rw [Nat.sub_self, Nat.zero_add, nI_1] at h5
    exact h5
theorem mr_next_lv (hK : mr_K S k) (hW : kW k) {C : Nat} {col : Nat → Nat} {x : Nat → Int32} {n : Nat} (hC : C ≤ 3) (hx : ∀ i, i < n → S 35 i = x i) (hn : n ≤ 60) (hh : hnd k C col x n) :
    ∀ (z i : Nat) (f : Nat → Int32) (o5 o6 o7 : Option MV), n - i = z → i ≤ n → mstk f (stk k C col x i) → ∃ f', mm_E (mm_runD (d + 1)) pX8_next 1 22 [some (.inr 27), some (.inr 35), some (.inl (nI n)), some (.inl (nI (stk k C col x i).length)), some (.inl (nI i)), o5, o6, o7] [] (mm_stc S 36 f) 0 0 = some (mm_stc S 36 f', 0, 0, 0, hdv (stk k C col x n)) := by
  intro z
  induction z with
  | zero =>
    intro i f o5 o6 o7 hz hi hf
    have e : i = n := by omega
    subst e
    refine ⟨f, ?_⟩
    have hl := stk_len hW hC (col := col) (x := x) i
    rw [eX8_next_35_22, if_pos (nI_le (Nat.le_refl _) (by omega))]
    cases hs : stk k C col x i with
    | nil => rw [if_pos (show nI ([] : List Nat).length = 0 from rfl)] <;> rfl
    | cons t r =>
      rw [hs] at hl hf
      rw [List.length_cons] at hl ⊢
      rw [if_neg (nI_ne0 (by omega) (by omega)), nI_pred, ar_36 (by omega), mm_stc_at, hf.1] <;> rfl
  | succ z ih =>
    intro i f o5 o6 o7 hz hi hf
    have hl := stk_len hW hC (col := col) (x := x) i
    obtain ⟨t, r, h1, _⟩ := hh i (by omega)
    rw [h1] at hf hl
    rw [List.length_cons] at hl
    obtain ⟨f', p5, p6, p7, h3, h4⟩ := mr_next_sv (d := d) hK hW (x2 := nI n) (n := n) rfl hn (i := i) (by omega) (o5 := o5) (o6 := o6) (o7 := o7) (by omega) (hnd_sgn hh (by omega)) (hx i (by omega)) hf
    rw [← stk_s h1] at h3 h4
    obtain ⟨f2, h5⟩ := ih (i + 1) f' p5 p6 p7 (by omega) (by omega) h4
    refine ⟨f2, ?_⟩
    rw [h1, List.length_cons, h3, h5]
theorem mr_next_cv {C : Nat} {col : Nat → Nat} {x2 : Int32} {o5 o6 o7 : Option MV} (hC : C ≤ 3) (hc : ∀ c, c < C → S 31 c = nI (col c)) : ∀ (i : Nat) (f : Nat → Int32), i ≤ C → mstk f (seg col i (C - i)) →
    ∃ f', mm_E (mm_runD (d + 1)) pX8_next 1 7 [some (.inr 27), some (.inr 35), some (.inl x2), some (.inl (nI (C - i))), some (.inl (nI i - 1)), o5, o6, o7] [] (mm_stc S 36 f) 0 0 = mm_E (mm_runD (d + 1)) pX8_next 1 22 [some (.inr 27), some (.inr 35), some (.inl x2), some (.inl (nI C)), some (.inl (nI 0)), o5, o6, o7] [] (mm_stc S 36 f') 0 0 ∧ mstk f' (seg col 0 C) := by
  intro i
  induction i with
  | zero =>
    intro f hi h
    refine ⟨f, ?_, h⟩
    rw [eX8_next_35_7, if_pos (by decide)] <;> rfl
  | succ i ih =>
    intro f hi h
    have e : col i :: seg col (i + 1) (C - (i + 1)) = seg col i (C - i) := by
      rw [show C - i = (C - (i + 1)) + 1 by omega] <;> rfl
    have h1 := mstk_push (t := col i) (n := C - (i + 1)) (by rw [seg_len]) h
    rw [e] at h1
    obtain ⟨f', h5, h6⟩ := ih _ (by omega) h1
    refine ⟨f', ?_, h6⟩
    have hc' : (mm_stc S 36 f) 31 i = nI (col i) := hc i (by omega)
    rw [eX8_next_35_7, nI_pred, if_neg (nI_pos (by omega)), ar_31 (by omega), ar_36 (by omega), hc', mm_put_stc, nI_1, nn_sm, ← h5, show C - (i + 1) + 1 = C - i by omega]
theorem mr_nextv (hK : mr_K S k) (hW : kW k) {C : Nat} {col : Nat → Nat} {x : Nat → Int32} {n : Nat} (hC : C ≤ 3) (hC6 : S 27 6 = nI C) (hc : ∀ c, c < C → S 31 c = nI (col c)) (hx : ∀ i, i < n → S 35 i = x i) (hn : n ≤ 60) (hh : hnd k C col x n) :
    ∃ f, mm_runD (d + 2) 126 [.inr 27, .inr 35, .inl (nI n)] S = some (mm_stc S 36 f, 0, 0, 0, hdv (stk k C col x n)) := by
  obtain ⟨f1, h1, h2⟩ := mr_next_cv (d := d) (S := S) (x2 := nI n) (o5 := none) (o6 := none) (o7 := none) hC hc C (S 36) (Nat.le_refl _) (by rw [Nat.sub_self]; trivial)
  obtain ⟨f2, h3⟩ := mr_next_lv (d := d) (S := S) hK hW hC hx hn hh (n - 0) 0 f1 none none none rfl (by omega) h2
  refine ⟨f2, ?_⟩
  rw [mm_stc_self, Nat.sub_self] at h1
  rw [dX8_next_35, eX8_next_35_0, hC6, li_0, h1]
  have e : (stk k C col x 0).length = C := seg_len col C 0
  rw [e] at h3
  exact h3
end
