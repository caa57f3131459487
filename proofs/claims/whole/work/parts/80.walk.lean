/-! PURE: values go down the tree, apart from any memory -/
def tq (k : KK) (X : Nat → Int32) : Nat → List Nat → Nat → Prop
  | 0, L, _ => L = []
  | l + 1, L, p => ∃ t r m, L = t :: r ∧ m < kM k ∧ X p = nI m ∧ kTy k m = t ∧ tq k X l (seg (kFt k m) 0 (kFc k m) ++ r) (p + 1)
section
variable {k : KK} {X : Nat → Int32}
theorem hnv_tq (hW : kW k) {C : Nat} {col : Nat → Nat} {n : Nat} (h : hnv k C col X n) (h0 : stk k C col X n = []) : ∀ (z i : Nat), n - i = z → i ≤ n → tq k X z (stk k C col X i) i := by
  intro z
  induction z with
  | zero =>
    intro i hz hi
    have e : i = n := by omega
    subst e
    exact h0
  | succ z ih =>
    intro i hz hi
    obtain ⟨t, r, h1, m, h2, h3, h4⟩ := h i (by omega)
    have := ih (i + 1) (by omega) (by omega)
    rw [stk_s h1, h3, stp_M hW h2] at this
    exact ⟨t, r, m, h1, h2, h3, h4, this⟩
theorem tq_split : ∀ {l : Nat} {A B : List Nat} {p : Nat}, tq k X l (A ++ B) p → ∃ la lb, l = la + lb ∧ tq k X la A p ∧ tq k X lb B (p + la) := by
  intro l
  induction l with
  | zero =>
    intro A B p h
    have h' : A ++ B = [] := h
    obtain ⟨e1, e2⟩ := List.append_eq_nil_iff.mp h'
    exact ⟨0, 0, rfl, e1, e2⟩
  | succ l ih =>
    intro A B p h
    cases A with
    | nil => exact ⟨0, l + 1, by omega, rfl, h⟩
    | cons a A =>
      obtain ⟨t, r, m, h1, h2, h3, h4, h5⟩ := h
      cases h1
      have h5' : tq k X l ((seg (kFt k m) 0 (kFc k m) ++ A) ++ B) (p + 1) := by rw [List.append_assoc]; exact h5
      obtain ⟨la, lb, e1, e2, e3⟩ := ih h5'
      exact ⟨la + 1, lb, by omega, ⟨_, _, m, rfl, h2, h3, h4, e2⟩, by rw [show p + (la + 1) = p + 1 + la by omega]; exact e3⟩
theorem tq_sq (hW : kW k) : ∀ {l : Nat} {L : List Nat} {p : Nat}, tq k X l L p → sq (fun j => kar k (X j)) l L.length p := by
  intro l
  induction l with
  | zero => intro L p h; have h' : L = [] := h; rw [h']; exact rfl
  | succ l ih =>
    intro L p h
    obtain ⟨t, r, m, h1, h2, h3, h4, h5⟩ := h
    have := ih h5
    rw [List.length_append, seg_len] at this
    refine ⟨r.length, by rw [h1]; rfl, ?_⟩
    show sq _ l (r.length + kar k (X p)) (p + 1)
    rw [h3, kar_m hW h2, Nat.add_comm]
    exact this
theorem tq_val : ∀ {l : Nat} {L : List Nat} {p : Nat}, tq k X l L p → ∀ t, t ∈ L → kVal k t := by
  intro l
  induction l using Nat.strongRecOn with
  | ind l ih =>
    intro L p h t ht
    cases l with
    | zero => have h' : L = [] := h; rw [h'] at ht; cases ht
    | succ l =>
      obtain ⟨t', r, m, h1, h2, h3, h4, h5⟩ := h
      have all := ih l (by omega) h5
      subst h1
      rcases List.mem_cons.mp ht with rfl | ht
      · rw [← h4]
        refine kVal_mk h2 (fun j hj => all _ (List.mem_append.mpr (Or.inl ?_)))
        have : ∀ (n i : Nat), j < i + n → i ≤ j → kFt k m j ∈ seg (kFt k m) i n := by
          intro n
          induction n with
          | zero => intro i a b; omega
          | succ n ihn =>
            intro i a b
            unfold seg
            by_cases e : j = i
            · rw [e]; exact List.mem_cons_self
            · exact List.mem_cons_of_mem _ (ihn (i + 1) (by omega) (by omega))
        exact this (kFc k m) 0 (by omega) (by omega)
      · exact all t (List.mem_append.mpr (Or.inr ht))
/-- a whole value of a type begins there -/
def wv (k : KK) (X : Nat → Int32) (nv t p : Nat) : Prop := ∃ l, tq k X l [t] p ∧ p + l ≤ nv
theorem nth_sh (g : Nat → Nat) (s : Nat) : ∀ j, nth g s (j + 1) = nth g (bhd g s) j := by
  intro j
  induction j with
  | zero => rfl
  | succ j ih => show bhd g (nth g s (j + 1)) = bhd g (nth g (bhd g s) j); rw [ih]
theorem tq_seg (hW : kW k) {f : Nat → Nat} {nv : Nat} : ∀ (n i l p : Nat), tq k X l (seg f i n) p → p + l ≤ nv → ∀ j, j < n → wv k X nv (f (i + j)) (nth (fun j => kar k (X j)) p j) := by
  intro n
  induction n with
  | zero => intro i l p _ _ j hj; omega
  | succ n ih =>
    intro i l p h hl j hj
    have h' : tq k X l ([f i] ++ seg f (i + 1) n) p := h
    obtain ⟨la, lb, e1, e2, e3⟩ := tq_split h'
    have s1 := tq_sq hW e2
    cases j with
    | zero => exact ⟨la, e2, by show p + la ≤ nv; omega⟩
    | succ j =>
      rw [nth_sh, bhd_eq (g := fun j => kar k (X j)) s1, show i + (j + 1) = i + 1 + j by omega]
      exact ih (i + 1) lb (p + la) e3 (by omega) j (by omega)
theorem wv_is (hW : kW k) {nv t p : Nat} (h : wv k X nv t p) : p < nv ∧ ∃ m, m < kM k ∧ X p = nI m ∧ kTy k m = t ∧ kLive k m ∧ (∀ j, j < kFc k m → wv k X nv (kFt k m j) (nth (fun j => kar k (X j)) (p + 1) j)) := by
  obtain ⟨l, h1, h2⟩ := h
  cases l with
  | zero => have h' : [t] = [] := h1; cases h'
  | succ l =>
    obtain ⟨t', r, m, e1, e2, e3, e4, e5⟩ := h1
    cases e1
    rw [List.append_nil] at e5
    have sg := tq_seg hW (nv := nv) (kFc k m) 0 l (p + 1) e5 (by omega)
    refine ⟨by omega, m, e2, e3, e4, fun j hj => ?_, fun j hj => ?_⟩
    · obtain ⟨l', a, _⟩ := sg j hj
      rw [Nat.zero_add] at a
      exact tq_val a _ List.mem_cons_self
    · have := sg j hj
      rw [Nat.zero_add] at this
      exact this
theorem wv_bh (hW : kW k) {nv t p : Nat} (h : wv k X nv t p) : ∃ l, sq (fun j => kar k (X j)) l 1 p ∧ p + l ≤ nv := by
  obtain ⟨l, h1, h2⟩ := h
  exact ⟨l, tq_sq hW h1, h2⟩
end
/-- the seats behind a branch -/
noncomputable def stS (g : Nat → Nat) (s : Nat → Nat) (c f : Nat) : Nat → Nat := fun j => if j < c then s j else if j < c + f then nth g (s c + 1) (j - c) else s (j + 1 - f)
/-- how many TESTs there are on the way -/
def WK (G : Nat → Int32) (k : KK) (X : Nat → Int32) (σ : SG) : Nat → Nat → (Nat → Nat) → Nat → Prop
  | 0, _, _, _ => False
  | z + 1, y, s, n => (kdT G (gT σ y) ≠ 2 ∧ n = 0) ∨ (kdT G (gT σ y) = 2 ∧ ∃ m c n', m < kM k ∧ X (s (tsT G (gT σ y))) = nI m ∧ y < c ∧ c < gN σ ∧ gP σ c = y ∧ gM σ c = m ∧ n = n' + 1 ∧ WK G k X σ z c (stS (fun j => kar k (X j)) s (tsT G (gT σ y)) (kFc k m)) n')
/-- values sit where their types are asked for -/
def sit (k : KK) (X : Nat → Int32) (nv : Nat) (T : TB) (s : Nat → Nat) : Prop := ∀ j, j < tP T → wv k X nv (tT T j) (s j)
section
variable {S : Mem} {k : KK} {C R : Nat} {sz : Nat → Nat} {col : Nat → Nat} {σ : SG} {X : Nat → Int32} {nv : Nat}
theorem sit_s (hW : kW k) (hr : rws S k C R sz) (hg : sgW (S 32) (gk S k) k C R sz col σ) {c m : Nat} {s : Nat → Nat} (h0 : 0 < c) (hc : c < gN σ) (hs : sit k X nv (gT σ (gP σ c)) s) (hm : gM σ c = m) (hX : X (s (tsT (S 32) (gT σ (gP σ c)))) = nI m) : sit k X nv (gT σ c) (stS (fun j => kar k (X j)) s (tsT (S 32) (gT σ (gP σ c))) (kFc k m)) := by
  have hM := hW.2.1
  obtain ⟨p1, p2, p3, p4, p5, p6⟩ := hg.2.2.2.2.1 c h0 hc
  have hk := kdT_2 p2
  obtain ⟨q1, q2, q3, q4⟩ := brS_is hW hr (hg.2.2.2.1 _ (by omega)) hk.2 p3 p6
  obtain ⟨_, m', m1, m2, m3, m4, m5⟩ := wv_is hW (hs _ hk.2)
  have em : m' = m := (nI_eq (by omega) (by rw [← hm]; omega)).mp (m2.symm.trans hX)
  subst em
  intro j hj
  rw [q3, hm] at hj
  rw [q4, hm]
  unfold brTy stS
  by_cases y1 : j < tsT (S 32) (gT σ (gP σ c))
  · rw [if_pos y1, if_pos y1]; exact hs j (by have := hk.2; omega)
  · rw [if_neg y1, if_neg y1]
    by_cases y2 : j < tsT (S 32) (gT σ (gP σ c)) + kFc k m'
    · rw [if_pos y2, if_pos y2]; exact m5 _ (by omega)
    · rw [if_neg y2, if_neg y2]; exact hs _ (by omega)
theorem WK_some (hW : kW k) (hr : rws S k C R sz) (hg : gin (S 32) (gk S k) k C R sz col σ []) : ∀ (z y : Nat) (s : Nat → Nat), y < gN σ → gN σ - y ≤ z → sit k X nv (gT σ y) s → ∃ n, WK (S 32) k X σ z y s n ∧ n + y < gN σ := by
  intro z
  induction z with
  | zero => intro y s hy hz _; omega
  | succ z ih =>
    intro y s hy hz hs
    by_cases q : kdT (S 32) (gT σ y) = 2
    · have hk := kdT_2 q
      obtain ⟨_, m, m1, m2, m3, m4, m5⟩ := wv_is hW (hs _ hk.2)
      obtain ⟨j, j1, j2⟩ := (hg.2.2.2.2.1 y hy q (fun e he => by cases he)).1 m m1 m3 m4
      obtain ⟨c1, c2, c3⟩ := hg.1.2.2.2.2.2.1 y j hy j1
      have hlt := (hg.1.2.2.2.2.1 _ c1 c2).1
      rw [c3] at hlt
      have ss := sit_s (X := X) (nv := nv) hW hr hg.1 (c := gH σ y j) (m := m) (s := s) c1 c2 (by rw [c3]; exact hs) j2 (by rw [c3]; exact m2)
      rw [c3] at ss
      obtain ⟨n', h1, h2⟩ := ih (gH σ y j) _ c2 (by omega) ss
      exact ⟨n' + 1, Or.inr ⟨q, m, gH σ y j, n', m1, m2, hlt, c2, c3, j2, rfl, h1⟩, by omega⟩
    · exact ⟨0, Or.inl ⟨q, rfl⟩, by omega⟩
/-- a branch is known by its maker -/
theorem chd_one (hg : sgW (S 32) (gk S k) k C R sz col σ) {y c : Nat} (hy : y < c) (hc : c < gN σ) (hp : gP σ c = y) : ∃ j, j < gC σ y ∧ gH σ y j = c ∧ ∀ j', j' < gC σ y → gM σ (gH σ y j') = gM σ c → j' = j := by
  obtain ⟨j, j1, j2⟩ := hg.2.2.2.2.2.2.1 c (by omega) hc
  rw [hp] at j1 j2
  refine ⟨j, j1, j2, fun j' a b => ?_⟩
  rcases Nat.lt_trichotomy j' j with q | q | q
  · have := (hg.2.2.2.2.2.2.2 y j' j (by omega) q j1).2
    rw [b, j2] at this; omega
  · exact q
  · have := (hg.2.2.2.2.2.2.2 y j j' (by omega) q a).2
    rw [b, j2] at this; omega
end
