/-! PURE: the tree grows, apart from any memory -/
/-- the first place from c on where the first line has no ANY -/
def fst0 (G : Nat → Int32) (T : TB) : Nat → Nat → Nat
  | 0, c => c
  | n + 1, c => if sgc G (tC T 0 c) = N1 then fst0 G T n (c + 1) else c
def tsT (G : Nat → Int32) (T : TB) : Nat := fst0 G T (tP T) 0
theorem fst0_le (G : Nat → Int32) (T : TB) : ∀ n c, fst0 G T n c ≤ c + n := by
  intro n
  induction n with
  | zero => intro c; exact Nat.le_refl _
  | succ n ih =>
    intro c
    unfold fst0
    split
    · have := ih (c + 1); omega
    · omega
theorem tsT_le (G : Nat → Int32) (T : TB) : tsT G T ≤ tP T := by have := fst0_le G T (tP T) 0; unfold tsT; omega
/-- 0 FAIL, 1 LEAF, 2 TEST -/
def kdT (G : Nat → Int32) (T : TB) : Nat := if tL T = 0 then 0 else if tsT G T = tP T then 1 else 2
theorem kdT_2 {G : Nat → Int32} {T : TB} (h : kdT G T = 2) : tL T ≠ 0 ∧ tsT G T < tP T := by
  unfold kdT at h
  by_cases h1 : tL T = 0
  · rw [if_pos h1] at h; omega
  · rw [if_neg h1] at h
    by_cases h2 : tsT G T = tP T
    · rw [if_pos h2] at h; omega
    · have := tsT_le G T; exact ⟨h1, by omega⟩
/-- its type -/
def tyT (G : Nat → Int32) (T : TB) : Nat := tT T (tsT G T)
/-- a type's makers that aren't dead, from i on -/
noncomputable def lvl (k : KK) (t : Nat) : Nat → Nat → List Nat
  | 0, _ => []
  | n + 1, i => @ite _ (kTy k i = t ∧ kLive k i) (Classical.propDecidable _) (i :: lvl k t n (i + 1)) (lvl k t n (i + 1))
theorem lvl_t {k : KK} {t n i : Nat} (h : kTy k i = t ∧ kLive k i) : lvl k t (n + 1) i = i :: lvl k t n (i + 1) := if_pos h
theorem lvl_f {k : KK} {t n i : Nat} (h : ¬ (kTy k i = t ∧ kLive k i)) : lvl k t (n + 1) i = lvl k t n (i + 1) := if_neg h
theorem lvl_mem {k : KK} {t : Nat} : ∀ n i m, m ∈ lvl k t n i → i ≤ m ∧ m < i + n ∧ kTy k m = t ∧ kLive k m := by
  intro n
  induction n with
  | zero => intro i m h; cases h
  | succ n ih =>
    intro i m h
    by_cases q : kTy k i = t ∧ kLive k i
    · rw [lvl_t q] at h
      rcases List.mem_cons.mp h with rfl | h
      · exact ⟨by omega, by omega, q⟩
      · obtain ⟨a, b, c⟩ := ih (i + 1) m h; exact ⟨by omega, by omega, c⟩
    · rw [lvl_f q] at h
      obtain ⟨a, b, c⟩ := ih (i + 1) m h; exact ⟨by omega, by omega, c⟩
theorem lvl_in {k : KK} {t : Nat} : ∀ n i m, i ≤ m → m < i + n → kTy k m = t → kLive k m → m ∈ lvl k t n i := by
  intro n
  induction n with
  | zero => intro i m a b; omega
  | succ n ih =>
    intro i m a b c e
    by_cases q : kTy k i = t ∧ kLive k i
    · rw [lvl_t q]
      by_cases z : m = i
      · rw [z]; exact List.mem_cons_self
      · exact List.mem_cons_of_mem _ (ih (i + 1) m (by omega) (by omega) c e)
    · rw [lvl_f q]
      by_cases z : m = i
      · rw [z] at c e; exact absurd ⟨c, e⟩ q
      · exact ih (i + 1) m (by omega) (by omega) c e
/-- the first of them, and those behind it -/
theorem lvl_cons {k : KK} {t : Nat} : ∀ n i m r, lvl k t n i = m :: r → r = lvl k t (i + n - (m + 1)) (m + 1) := by
  intro n
  induction n with
  | zero => intro i m r h; cases h
  | succ n ih =>
    intro i m r h
    by_cases q : kTy k i = t ∧ kLive k i
    · rw [lvl_t q] at h
      cases h
      rw [show i + (n + 1) - (i + 1) = n by omega]
    · rw [lvl_f q] at h
      rw [ih (i + 1) m r h, show i + 1 + n - (m + 1) = i + (n + 1) - (m + 1) by omega]
theorem lvl_cnt {k : KK} {t : Nat} : ∀ n i, (lvl k t n i).length + kCnt k t i ≤ kCnt k t (i + n) := by
  intro n
  induction n with
  | zero => intro i; show 0 + kCnt k t i ≤ kCnt k t i; omega
  | succ n ih =>
    intro i
    have := ih (i + 1)
    rw [kCnt_s] at this
    rw [show i + (n + 1) = i + 1 + n by omega]
    by_cases q : kTy k i = t ∧ kLive k i
    · rw [lvl_t q, List.length_cons]
      rw [if_pos q.1] at this
      omega
    · rw [lvl_f q]
      split at this <;> omega
/-- nodes: how many, parents, makers, tables, how many branches so far, which -/
abbrev SG : Type := Nat × (Nat → Nat) × (Nat → Nat) × (Nat → TB) × (Nat → Nat) × (Nat → Nat → Nat)
def gN (σ : SG) : Nat := σ.1
def gP (σ : SG) : Nat → Nat := σ.2.1
def gM (σ : SG) : Nat → Nat := σ.2.2.1
def gT (σ : SG) : Nat → TB := σ.2.2.2.1
def gC (σ : SG) : Nat → Nat := σ.2.2.2.2.1
def gH (σ : SG) : Nat → Nat → Nat := σ.2.2.2.2.2
def addS (σ : SG) (p m : Nat) (T : TB) : SG := (gN σ + 1, (fun q => if q = gN σ then p else gP σ q), (fun q => if q = gN σ then m else gM σ q), (fun q => if q = gN σ then T else gT σ q), (fun q => if q = gN σ then 0 else if q = p then gC σ p + 1 else gC σ q), fun q j => if q = p ∧ j = gC σ p then gN σ else gH σ q j)
def rootS (T : TB) : SG := (1, (fun _ => 0), (fun _ => 0), (fun _ => T), (fun _ => 0), fun _ _ => 0)
noncomputable def opn (G : Nat → Int32) (k : KK) (n : Nat) (T : TB) : List (Nat × List Nat) := if kdT G T = 2 then [(n, lvl k (tyT G T) (kM k) 0)] else []
noncomputable def grw (G : Nat → Int32) (g : Nat → Nat) (k : KK) : Nat → SG → List (Nat × List Nat) → Option (Option SG)
  | 0, _, _ => none
  | _ + 1, σ, [] => some (some σ)
  | f + 1, σ, (_, []) :: O => grw G g k f σ O
  | f + 1, σ, (p, m :: r) :: O => match brS G g k (gT σ p) (tsT G (gT σ p)) m with
    | none => some none
    | some T => if gN σ = 300 then some none else grw G g k f (addS σ p m T) (opn G k (gN σ) T ++ (p, r) :: O)
theorem grw_some {G : Nat → Int32} {g : Nat → Nat} {k : KK} : ∀ (n : Nat) (σ : SG) (O : List (Nat × List Nat)), gN σ ≤ 300 → 2 * (300 - gN σ) + O.length < n → ∃ r, grw G g k n σ O = some r := by
  intro n
  induction n with
  | zero => intro σ O _ h; omega
  | succ n ih =>
    intro σ O h3 hn
    match O with
    | [] => exact ⟨_, rfl⟩
    | (p, []) :: O =>
      rw [List.length_cons] at hn
      exact ih σ O h3 (by omega)
    | (p, m :: r) :: O =>
      rw [List.length_cons] at hn
      unfold grw
      cases h : brS G g k (gT σ p) (tsT G (gT σ p)) m with
      | none => exact ⟨none, rfl⟩
      | some T =>
        by_cases q : gN σ = 300
        · exact ⟨none, if_pos q⟩
        · obtain ⟨r', hr'⟩ := ih (addS σ p m T) (opn G k (gN σ) T ++ (p, r) :: O) (show gN σ + 1 ≤ 300 by omega) (by
            show 2 * (300 - (gN σ + 1)) + _ < n
            rw [List.length_append, List.length_cons]
            unfold opn
            split
            · simp only [List.length_cons, List.length_nil]; omega
            · simp only [List.length_nil]; omega)
          refine ⟨r', ?_⟩
          show (if gN σ = 300 then some none else _) = _
          rw [if_neg q]
          exact hr'
/-! what is true of the nodes all along -/
def sgW (G : Nat → Int32) (g : Nat → Nat) (k : KK) (C R : Nat) (sz : Nat → Nat) (col : Nat → Nat) (σ : SG) : Prop :=
  0 < gN σ ∧ gN σ ≤ 300 ∧ spT G g (fsT g C R col) = some (gT σ 0) ∧ (∀ i, i < gN σ → wfT R sz (gT σ i)) ∧
  (∀ i, 0 < i → i < gN σ → gP σ i < i ∧ kdT G (gT σ (gP σ i)) = 2 ∧ gM σ i < kM k ∧ kTy k (gM σ i) = tyT G (gT σ (gP σ i)) ∧ kLive k (gM σ i) ∧ brS G g k (gT σ (gP σ i)) (tsT G (gT σ (gP σ i))) (gM σ i) = some (gT σ i)) ∧
  (∀ p j, p < gN σ → j < gC σ p → 0 < gH σ p j ∧ gH σ p j < gN σ ∧ gP σ (gH σ p j) = p) ∧
  (∀ i, 0 < i → i < gN σ → ∃ j, j < gC σ (gP σ i) ∧ gH σ (gP σ i) j = i) ∧
  (∀ p j j', p < gN σ → j < j' → j' < gC σ p → gH σ p j < gH σ p j' ∧ gM σ (gH σ p j) < gM σ (gH σ p j'))
theorem addS_old {σ : SG} {p m : Nat} {T : TB} {i : Nat} (h : i < gN σ) : gP (addS σ p m T) i = gP σ i ∧ gM (addS σ p m T) i = gM σ i ∧ gT (addS σ p m T) i = gT σ i := ⟨if_neg (by omega), if_neg (by omega), if_neg (by omega)⟩
theorem addS_new {σ : SG} {p m : Nat} {T : TB} : gP (addS σ p m T) (gN σ) = p ∧ gM (addS σ p m T) (gN σ) = m ∧ gT (addS σ p m T) (gN σ) = T ∧ gC (addS σ p m T) (gN σ) = 0 := ⟨if_pos rfl, if_pos rfl, if_pos rfl, if_pos rfl⟩
theorem addS_N {σ : SG} {p m : Nat} {T : TB} : gN (addS σ p m T) = gN σ + 1 := rfl
theorem addS_C {σ : SG} {p m : Nat} {T : TB} {q : Nat} (h : q < gN σ) : gC (addS σ p m T) q = if q = p then gC σ p + 1 else gC σ q := if_neg (by omega)
theorem addS_H {σ : SG} {p m : Nat} {T : TB} (q j : Nat) : gH (addS σ p m T) q j = if q = p ∧ j = gC σ p then gN σ else gH σ q j := rfl
theorem rootS_W {G : Nat → Int32} {g : Nat → Nat} {k : KK} {C R : Nat} {sz : Nat → Nat} {col : Nat → Nat} {T : TB} (h : spT G g (fsT g C R col) = some T) (hw : wfT R sz T) : sgW G g k C R sz col (rootS T) :=
  ⟨show 0 < 1 by decide, show 1 ≤ 300 by decide, h, fun _ _ => hw, fun i a b => absurd b (by show ¬ i < 1; omega), fun p j _ b => absurd b (Nat.not_lt_zero _), fun i a b => absurd b (by show ¬ i < 1; omega), fun p j j' _ _ b => absurd b (Nat.not_lt_zero _)⟩
theorem addS_W {G : Nat → Int32} {g : Nat → Nat} {k : KK} {C R : Nat} {sz : Nat → Nat} {col : Nat → Nat} {σ : SG} {p m : Nat} {T : TB} (h : sgW G g k C R sz col σ) (hN : gN σ ≠ 300) (hp : p < gN σ) (hk : kdT G (gT σ p) = 2) (hm : m < kM k) (hty : kTy k m = tyT G (gT σ p)) (hl : kLive k m) (hb : brS G g k (gT σ p) (tsT G (gT σ p)) m = some T) (hw : wfT R sz T) (hlast : ∀ j, j < gC σ p → gM σ (gH σ p j) < m) : sgW G g k C R sz col (addS σ p m T) := by
  obtain ⟨h1, h2, h3, h4, h5, h6, h7, h8⟩ := h
  refine ⟨by rw [addS_N]; omega, by rw [addS_N]; omega, ?_, fun i hi => ?_, fun i a b => ?_, fun q j a b => ?_, fun i a b => ?_, fun q j j' a b c => ?_⟩
  · rw [(addS_old h1).2.2]; exact h3
  · rw [addS_N] at hi
    by_cases e : i = gN σ
    · rw [e, addS_new.2.2.1]; exact hw
    · rw [(addS_old (by omega)).2.2]; exact h4 i (by omega)
  · rw [addS_N] at b
    by_cases e : i = gN σ
    · rw [e, addS_new.1, addS_new.2.1, addS_new.2.2.1, (addS_old hp).2.2]
      exact ⟨hp, hk, hm, hty, hl, hb⟩
    · obtain ⟨q1, q2⟩ := h5 i a (by omega)
      rw [(addS_old (show i < gN σ by omega)).1, (addS_old (show i < gN σ by omega)).2.1, (addS_old (show i < gN σ by omega)).2.2, (addS_old (show gP σ i < gN σ by omega)).2.2]
      exact ⟨q1, q2⟩
  · rw [addS_N] at a
    by_cases e : q = gN σ
    · rw [e, addS_new.2.2.2] at b; omega
    · rw [addS_C (by omega)] at b
      rw [addS_H, addS_N]
      by_cases e2 : q = p ∧ j = gC σ p
      · rw [if_pos e2, addS_new.1]
        exact ⟨h1, by omega, e2.1.symm⟩
      · rw [if_neg e2]
        have hj : j < gC σ q := by
          by_cases e3 : q = p
          · rw [if_pos e3] at b; subst e3; omega
          · rw [if_neg e3] at b; exact b
        obtain ⟨a1, a2, a3⟩ := h6 q j (by omega) hj
        rw [(addS_old a2).1]
        exact ⟨a1, by omega, a3⟩
  · rw [addS_N] at b
    by_cases e : i = gN σ
    · rw [e, addS_new.1]
      exact ⟨gC σ p, by rw [addS_C hp, if_pos rfl]; omega, by rw [addS_H, if_pos ⟨rfl, rfl⟩]⟩
    · obtain ⟨j, a1, a2⟩ := h7 i a (by omega)
      have hpi := (h5 i a (by omega)).1
      rw [(addS_old (show i < gN σ by omega)).1]
      refine ⟨j, ?_, ?_⟩
      · rw [addS_C (by omega)]
        by_cases e3 : gP σ i = p
        · rw [if_pos e3]; rw [e3] at a1; omega
        · rw [if_neg e3]; exact a1
      · rw [addS_H, if_neg (fun z => by rw [z.1] at a1; omega)]; exact a2
  · rw [addS_N] at a
    by_cases e : q = gN σ
    · rw [e, addS_new.2.2.2] at c; omega
    · rw [addS_C (by omega)] at c
      have hj : j < gC σ q := by
        by_cases e3 : q = p
        · rw [if_pos e3] at c; subst e3; omega
        · rw [if_neg e3] at c; omega
      obtain ⟨a1, a2, a3⟩ := h6 q j (by omega) hj
      rw [addS_H, addS_H, if_neg (fun z => by rw [z.1] at hj; omega), (addS_old a2).2.1]
      by_cases e2 : q = p ∧ j' = gC σ p
      · rw [if_pos e2, addS_new.2.1]
        refine ⟨a2, ?_⟩
        rw [e2.1] at hj ⊢
        exact hlast j hj
      · rw [if_neg e2]
        have hj' : j' < gC σ q := by
          by_cases e3 : q = p
          · rw [if_pos e3] at c; subst e3; omega
          · rw [if_neg e3] at c; exact c
        rw [(addS_old (h6 q j' (by omega) hj').2.1).2.1]
        exact h8 q j j' (by omega) b hj'
