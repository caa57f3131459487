/-! PURE: what is asked for, after so many signs -/
def seg (g : Nat → Nat) (i : Nat) : Nat → List Nat
  | 0 => []
  | n + 1 => g i :: seg g (i + 1) n
theorem seg_len (g : Nat → Nat) : ∀ n i, (seg g i n).length = n := by
  intro n
  induction n with
  | zero => intro i; rfl
  | succ n ih => intro i; unfold seg; rw [List.length_cons, ih]
theorem seg_ext {g h : Nat → Nat} : ∀ n i, (∀ j, i ≤ j → j < i + n → g j = h j) → seg g i n = seg h i n := by
  intro n
  induction n with
  | zero => intro i _; rfl
  | succ n ih => intro i q; unfold seg; rw [q i (Nat.le_refl _) (by omega), ih (i + 1) (fun j a b => q j (by omega) (by omega))]
def mstk (f : Nat → Int32) : List Nat → Prop
  | [] => True
  | t :: r => f r.length = nI t ∧ mstk f r
theorem mstk_ext {f g : Nat → Int32} : ∀ {L : List Nat}, (∀ j, j < L.length → f j = g j) → mstk f L → mstk g L := by
  intro L
  induction L with
  | nil => intro _ _; trivial
  | cons t r ih =>
    intro h q
    refine ⟨by rw [← h r.length (by simp)]; exact q.1, ih (fun j hj => h j (by simp; omega)) q.2⟩
theorem mstk_push {f : Nat → Int32} {L : List Nat} {t n : Nat} (hn : n = L.length) (h : mstk f L) : mstk (upd f n (nI t)) (t :: L) := by
  subst hn
  exact ⟨pk_us, mstk_ext (fun j hj => (pk_un (by omega)).symm) h⟩
/-- what a sign asks for in a type's stead -/
noncomputable def stp (k : KK) (t : Nat) (x : Int32) : List Nat := if x = N2 then [t, t] else seg (kFt k x.toNatClampNeg) 0 (kfc k x)
noncomputable def stk (k : KK) (C : Nat) (col : Nat → Nat) (x : Nat → Int32) : Nat → List Nat
  | 0 => seg col 0 C
  | i + 1 => match stk k C col x i with
    | [] => []
    | t :: r => stp k t (x i) ++ r
theorem stk_s {k : KK} {C : Nat} {col : Nat → Nat} {x : Nat → Int32} {i t : Nat} {r : List Nat} (h : stk k C col x i = t :: r) : stk k C col x (i + 1) = stp k t (x i) ++ r := by
  conv => lhs; unfold stk
  rw [h]
theorem stk_ext {k : KK} {C : Nat} {col : Nat → Nat} {x y : Nat → Int32} : ∀ i, (∀ j, j < i → x j = y j) → stk k C col x i = stk k C col y i := by
  intro i
  induction i with
  | zero => intro _; rfl
  | succ i ih =>
    intro h
    unfold stk
    rw [ih (fun j hj => h j (by omega)), h i (by omega)]
/-- a sign that is a sign: ANY, EITHER or a maker -/
def sgn (k : KK) (x : Int32) : Prop := x = N1 ∨ x = N2 ∨ mi x (kM k)
theorem kfc_le {k : KK} (hW : kW k) (x : Int32) : kfc k x ≤ 3 := by
  by_cases h : mi x (kM k)
  · obtain ⟨j, hj, rfl⟩ := h
    rw [kfc_in hW hj]
    exact (hW.2.2 j hj).2.1
  · rw [kfc_out h]; omega
theorem kfc_N1 {k : KK} (hW : kW k) : kfc k N1 = 0 := kfc_out (mi_N1 (by have := hW.2.1; omega))
theorem kfc_N2 {k : KK} (hW : kW k) : kfc k N2 = 0 := kfc_out (mi_N2 (by have := hW.2.1; omega))
theorem stp_E {k : KK} {t : Nat} : stp k t N2 = [t, t] := if_pos rfl
theorem stp_A {k : KK} {t : Nat} (hW : kW k) : stp k t N1 = [] := by
  unfold stp
  rw [if_neg (by decide), kfc_N1 hW] <;> rfl
theorem stp_M {k : KK} {t m : Nat} (hW : kW k) (hm : m < kM k) : stp k t (nI m) = seg (kFt k m) 0 (kFc k m) := by
  have := hW.2.1
  unfold stp
  rw [if_neg (fun q => (nn_a2 (by omega)).mp q), nI_clamp (by omega), kfc_in hW hm]
theorem stp_len {k : KK} (hW : kW k) (t : Nat) (x : Int32) : (stp k t x).length ≤ 3 := by
  unfold stp
  split
  · simp
  · rw [seg_len]; exact kfc_le hW x
theorem stk_len {k : KK} (hW : kW k) {C : Nat} (hC : C ≤ 3) {col : Nat → Nat} {x : Nat → Int32} : ∀ i, (stk k C col x i).length ≤ 3 + 2 * i := by
  intro i
  induction i with
  | zero => unfold stk; rw [seg_len]; omega
  | succ i ih =>
    unfold stk
    cases h : stk k C col x i with
    | nil => simp
    | cons t r =>
      rw [h] at ih
      have := stp_len hW t (x i)
      simp only [List.length_cons, List.length_append] at ih ⊢
      omega
/-- signs that may stand: each where something is asked for, a maker where its type is -/
def hnd (k : KK) (C : Nat) (col : Nat → Nat) (x : Nat → Int32) (n : Nat) : Prop := ∀ i, i < n → ∃ t r, stk k C col x i = t :: r ∧ (x i = N1 ∨ x i = N2 ∨ ∃ m, m < kM k ∧ x i = nI m ∧ kTy k m = t)
/-- makers alone -/
def hnv (k : KK) (C : Nat) (col : Nat → Nat) (x : Nat → Int32) (n : Nat) : Prop := ∀ i, i < n → ∃ t r, stk k C col x i = t :: r ∧ ∃ m, m < kM k ∧ x i = nI m ∧ kTy k m = t
theorem hnv_hnd {k : KK} {C : Nat} {col : Nat → Nat} {x : Nat → Int32} {n : Nat} (h : hnv k C col x n) : hnd k C col x n := fun i hi => by
  obtain ⟨t, r, h1, h2⟩ := h i hi
  exact ⟨t, r, h1, Or.inr (Or.inr h2)⟩
theorem hnd_sgn {k : KK} {C : Nat} {col : Nat → Nat} {x : Nat → Int32} {n : Nat} (h : hnd k C col x n) {i : Nat} (hi : i < n) : sgn k (x i) := by
  obtain ⟨t, r, _, h2 | h2 | ⟨m, h3, h4, _⟩⟩ := h i hi
  · exact Or.inl h2
  · exact Or.inr (Or.inl h2)
  · exact Or.inr (Or.inr ⟨m, h3, h4⟩)
theorem hnd_put {k : KK} {C : Nat} {col : Nat → Nat} {x : Nat → Int32} {n t : Nat} {r : List Nat} {y : Int32} (h : hnd k C col x n) (hs : stk k C col x n = t :: r) (hy : y = N1 ∨ y = N2 ∨ ∃ m, m < kM k ∧ y = nI m ∧ kTy k m = t) : hnd k C col (upd x n y) (n + 1) := by
  intro i hi
  rcases Nat.lt_or_ge i n with q | q
  · rw [stk_ext (y := x) i (fun j hj => pk_un (by omega)), show upd x n y i = x i from pk_un (by omega)]
    exact h i q
  · have e : i = n := by omega
    subst e
    rw [stk_ext (y := x) i (fun j hj => pk_un (by omega)), show upd x i y i = y from pk_us]
    exact ⟨t, r, hs, hy⟩
theorem hnv_put {k : KK} {C : Nat} {col : Nat → Nat} {x : Nat → Int32} {n t : Nat} {r : List Nat} {m : Nat} (h : hnv k C col x n) (hs : stk k C col x n = t :: r) (hm : m < kM k) (ht : kTy k m = t) : hnv k C col (upd x n (nI m)) (n + 1) := by
  intro i hi
  rcases Nat.lt_or_ge i n with q | q
  · rw [stk_ext (y := x) i (fun j hj => pk_un (by omega)), show upd x n (nI m) i = x i from pk_un (by omega)]
    exact h i q
  · have e : i = n := by omega
    subst e
    rw [stk_ext (y := x) i (fun j hj => pk_un (by omega)), show upd x i (nI m) i = nI m from pk_us]
    exact ⟨t, r, hs, m, hm, rfl, ht⟩
theorem stk_put {k : KK} {C : Nat} {col : Nat → Nat} {x : Nat → Int32} {n t : Nat} {r : List Nat} {y : Int32} (hs : stk k C col x n = t :: r) : stk k C col (upd x n y) (n + 1) = stp k t y ++ r := by
  rw [stk_s (t := t) (r := r) (by rw [stk_ext (y := x) n (fun j hj => pk_un (by omega))]; exact hs), show upd x n y n = y from pk_us]
/-! frames -/
def mfr (cs : List Nat) (S S' : Mem) : Prop := ∀ c, c ∉ cs → S' c = S c
theorem mfr_rf {cs : List Nat} {S : Mem} : mfr cs S S := fun _ _ => rfl
theorem mfr_tr {cs : List Nat} {S S' S'' : Mem} (h1 : mfr cs S S') (h2 : mfr cs S' S'') : mfr cs S S'' := fun c hc => (h2 c hc).trans (h1 c hc)
theorem mfr_up {cs ds : List Nat} {S S' : Mem} (h : mfr cs S S') (hs : ∀ c, c ∈ cs → c ∈ ds) : mfr ds S S' := fun c hc => h c (fun q => hc (hs c q))
theorem mfr_put {cs : List Nat} {S : Mem} {c k : Nat} {v : Int32} (h : c ∈ cs) : mfr cs S (mm_put S c k v) := fun x hx => mp_pn S k v (fun e => hx (e ▸ h))
theorem mfr_stc {cs : List Nat} {S : Mem} {c : Nat} {f : Nat → Int32} (h : c ∈ cs) : mfr cs S (mm_stc S c f) := fun x hx => mm_stc_ne _ _ (fun e => hx (e ▸ h))
theorem mq_K_fr {S S' : Mem} {k : KK} (h : mq_K S k) {cs : List Nat} (hf : mfr cs S S') (hc : (cs.all fun c => 6 < c) = true) : mq_K S' k := by
  have hn : ∀ c, c ≤ 6 → S' c = S c := fun c h6 => hf c (fun q => by have := List.all_eq_true.mp hc c q; simp at this; omega)
  unfold mq_K
  rw [hn 1 (by omega), hn 4 (by omega), hn 5 (by omega), hn 6 (by omega)]
  exact h
