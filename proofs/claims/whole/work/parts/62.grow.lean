/-! PURE: the nodes that still wait for branches -/
def itr (f : Nat → Nat) : Nat → Nat → Nat
  | 0, x => x
  | n + 1, x => itr f n (f x)
/-- a node that waits: which makers have had their branch -/
def entW (G : Nat → Int32) (k : KK) (σ : SG) (p : Nat) (r : List Nat) : Prop := p < gN σ ∧ kdT G (gT σ p) = 2 ∧ ∃ i, i ≤ kM k ∧ r = lvl k (tyT G (gT σ p)) (kM k - i) i ∧ (∀ j, j < gC σ p → gM σ (gH σ p j) < i) ∧ (∀ m, m < i → kTy k m = tyT G (gT σ p) → kLive k m → ∃ j, j < gC σ p ∧ gM σ (gH σ p j) = m) ∧ gC σ p + r.length = (lvl k (tyT G (gT σ p)) (kM k) 0).length
/-- a TEST that has all its branches -/
def cmpW (G : Nat → Int32) (k : KK) (σ : SG) (p : Nat) : Prop := (∀ m, m < kM k → kTy k m = tyT G (gT σ p) → kLive k m → ∃ j, j < gC σ p ∧ gM σ (gH σ p j) = m) ∧ gC σ p = (lvl k (tyT G (gT σ p)) (kM k) 0).length
/-- the nodes that wait are a way up to the root, each the last branch of the next -/
def pthW (σ : SG) : List (Nat × List Nat) → Prop
  | [] => True
  | (p, _) :: O => (match O with
    | [] => p = 0
    | (q, _) :: _ => 0 < p ∧ gP σ p = q ∧ 0 < gC σ q ∧ gH σ q (gC σ q - 1) = p ∧ q < p) ∧ pthW σ O
/-- what branches come behind a node's way has greater numbers -/
def preW (σ : SG) : Prop := ∀ x, x < gN σ → ∀ n, 0 < itr (gP σ) n x → ∀ j, j + 1 < gC σ (gP σ (itr (gP σ) n x)) → gH σ (gP σ (itr (gP σ) n x)) j = itr (gP σ) n x → x < gH σ (gP σ (itr (gP σ) n x)) (j + 1)
def gin (G : Nat → Int32) (g : Nat → Nat) (k : KK) (C R : Nat) (sz : Nat → Nat) (col : Nat → Nat) (σ : SG) (O : List (Nat × List Nat)) : Prop :=
  sgW G g k C R sz col σ ∧ (∀ e, e ∈ O → entW G k σ e.1 e.2) ∧ pthW σ O ∧ preW σ ∧ (∀ p, p < gN σ → kdT G (gT σ p) = 2 → (∀ e, e ∈ O → e.1 ≠ p) → cmpW G k σ p) ∧ (∀ p, p < gN σ → kdT G (gT σ p) ≠ 2 → gC σ p = 0) ∧ O.length ≤ gN σ ∧ gP σ 0 = 0
theorem pthW_lt {σ : SG} : ∀ {O : List (Nat × List Nat)} {p : Nat} {r : List Nat}, pthW σ ((p, r) :: O) → ∀ e, e ∈ O → e.1 < p := by
  intro O
  induction O with
  | nil => intro p r _ e h; cases h
  | cons a O ih =>
    intro p r h e he
    obtain ⟨q, s⟩ := a
    obtain ⟨⟨h1, h2, h3, h4, h5⟩, h6⟩ := h
    rcases List.mem_cons.mp he with rfl | he
    · exact h5
    · have := ih h6 e he; omega
/-- the ways up -/
theorem pthW_itr {σ : SG} (h0 : gP σ 0 = 0) : ∀ {O : List (Nat × List Nat)} {p : Nat} {r : List Nat}, pthW σ ((p, r) :: O) → ∀ n, 0 < itr (gP σ) n p → ∀ j, j + 1 < gC σ (gP σ (itr (gP σ) n p)) → gH σ (gP σ (itr (gP σ) n p)) j = itr (gP σ) n p → (∀ e, e ∈ O → ∀ j j', j < j' → j' < gC σ e.1 → gH σ e.1 j ≠ gH σ e.1 j') → False := by
  intro O
  induction O with
  | nil =>
    intro p r h n hn
    have e : p = 0 := h.1
    have z : ∀ n, itr (gP σ) n 0 = 0 := by
      intro n
      induction n with
      | zero => rfl
      | succ n ih => show itr (gP σ) n (gP σ 0) = 0; rw [h0]; exact ih
    rw [e, z] at hn
    omega
  | cons a O ih =>
    intro p r h n hn j hj hH hd
    obtain ⟨q, s⟩ := a
    obtain ⟨⟨h1, h2, h3, h4, h5⟩, h6⟩ := h
    cases n with
    | zero =>
      have e : itr (gP σ) 0 p = p := rfl
      rw [e] at hj hH
      rw [h2] at hj hH
      exact hd (q, s) List.mem_cons_self j (gC σ q - 1) (by omega) (show gC σ q - 1 < gC σ q by omega) (hH.trans h4.symm)
    | succ n =>
      have e : itr (gP σ) (n + 1) p = itr (gP σ) n q := by show itr (gP σ) n (gP σ p) = _; rw [h2]
      rw [e] at hn hj hH
      exact ih h6 n hn j hj hH (fun e he => hd e (List.mem_cons_of_mem _ he))
section
variable {G : Nat → Int32} {g : Nat → Nat} {k : KK} {C R : Nat} {sz : Nat → Nat} {col : Nat → Nat} {σ : SG}
theorem gin_pop {p : Nat} {O : List (Nat × List Nat)} (h : gin G g k C R sz col σ ((p, []) :: O)) : gin G g k C R sz col σ O := by
  obtain ⟨h1, h2, h3, h4, h5, h6, h7, h8⟩ := h
  refine ⟨h1, fun e he => h2 e (List.mem_cons_of_mem _ he), h3.2, h4, fun q a b c => ?_, h6, by rw [List.length_cons] at h7; omega, h8⟩
  by_cases e : q = p
  · subst e
    obtain ⟨a1, a2, i, a3, a4, a5, a6, a7⟩ := h2 (q, []) List.mem_cons_self
    refine ⟨fun m x y z => ?_, by rw [List.length_nil] at a7; omega⟩
    rcases Nat.lt_or_ge m i with w | w
    · exact a6 m w y z
    · have := lvl_in (k := k) (t := tyT G (gT σ q)) (kM k - i) i m w (by omega) y z
      rw [← a4] at this
      cases this
  · refine h5 q a b (fun z hz => ?_)
    rcases List.mem_cons.mp hz with rfl | hz
    · exact fun w => e w.symm
    · exact c z hz
theorem gin_add {p m : Nat} {r : List Nat} {O : List (Nat × List Nat)} {T : TB} (hr : ∀ T c m', wfT R sz T → c < tP T → m' < kM k → ∀ T', brS G g k T c m' = some T' → wfT R sz T') (h : gin G g k C R sz col σ ((p, m :: r) :: O)) (hN : gN σ ≠ 300) (hb : brS G g k (gT σ p) (tsT G (gT σ p)) m = some T) : gin G g k C R sz col (addS σ p m T) (opn G k (gN σ) T ++ (p, r) :: O) := by
  obtain ⟨h1, h2, h3, h4, h5, h6, h7, h8⟩ := h
  obtain ⟨a1, a2, i, a3, a4, a5, a6, a7⟩ := h2 (p, m :: r) List.mem_cons_self
  have a1' : p < gN σ := a1
  have hmem : m ∈ lvl k (tyT G (gT σ p)) (kM k - i) i := by rw [← a4]; exact List.mem_cons_self
  obtain ⟨m1, m2, m3, m4⟩ := lvl_mem _ _ _ hmem
  have hmM : m < kM k := by omega
  have hrest := lvl_cons _ _ _ _ a4.symm
  have hk2 := kdT_2 a2
  have hwT : wfT R sz T := hr _ _ m (h1.2.2.2.1 p a1) hk2.2 hmM T hb
  have W := addS_W h1 hN a1 a2 hmM m3 m4 hb hwT (fun j hj => by have := a5 j hj; omega)
  have hpO := pthW_lt h3
  have eP : gT (addS σ p m T) p = gT σ p := (addS_old a1').2.2
  have Hold : ∀ q j, q < gN σ → j < gC σ q → gH (addS σ p m T) q j = gH σ q j := by
    intro q j hq hj
    rw [addS_H, if_neg (fun z => by rw [z.1] at hj; omega)]
  have Mold : ∀ q j, q < gN σ → j < gC σ q → gM (addS σ p m T) (gH σ q j) = gM σ (gH σ q j) := fun q j hq hj => (addS_old (h1.2.2.2.2.2.1 q j hq hj).2.1).2.1
  have Cp : gC (addS σ p m T) p = gC σ p + 1 := by rw [addS_C a1', if_pos rfl]
  have Cq : ∀ q, q < gN σ → q ≠ p → gC (addS σ p m T) q = gC σ q := fun q hq hn => by rw [addS_C hq, if_neg hn]
  have ent_p : entW G k (addS σ p m T) p r := by
    refine ⟨show p < gN σ + 1 by omega, by rw [eP]; exact a2, m + 1, by omega, ?_, fun j hj => ?_, fun m' x y z => ?_, ?_⟩
    · rw [eP, hrest, show i + (kM k - i) - (m + 1) = kM k - (m + 1) by omega]
    · rw [Cp] at hj
      by_cases e : j = gC σ p
      · rw [addS_H, if_pos ⟨rfl, e⟩, addS_new.2.1]; omega
      · rw [Hold p j a1' (by omega), Mold p j a1' (by omega)]
        have := a5 j (by show j < gC σ p; omega)
        have : gM σ (gH σ p j) < i := this
        omega
    · rw [eP] at y
      rw [Cp]
      by_cases e : m' = m
      · exact ⟨gC σ p, by omega, by rw [addS_H, if_pos ⟨rfl, rfl⟩, addS_new.2.1]; exact e.symm⟩
      · have hlt : m' < i := by
          rcases Nat.lt_or_ge m' i with w | w
          · exact w
          · exfalso
            have hin := lvl_in (k := k) (t := tyT G (gT σ p)) (kM k - i) i m' w (by omega) y z
            rw [← a4] at hin
            rcases List.mem_cons.mp hin with hin | hin
            · exact e hin
            · rw [hrest] at hin
              have := (lvl_mem _ _ _ hin).1
              omega
        obtain ⟨j, b1, b2⟩ := a6 m' hlt y z
        have b1' : j < gC σ p := b1
        exact ⟨j, by omega, by rw [Hold p j a1' b1', Mold p j a1' b1']; exact b2⟩
    · rw [Cp, eP]
      rw [List.length_cons] at a7
      have a7' : gC σ p + (r.length + 1) = (lvl k (tyT G (gT σ p)) (kM k) 0).length := a7
      omega
  have ent_o : ∀ e, e ∈ O → entW G k (addS σ p m T) e.1 e.2 := by
    intro e he
    obtain ⟨b1, b2, i', b3, b4, b5, b6, b7⟩ := h2 e (List.mem_cons_of_mem _ he)
    have hlt := hpO e he
    have ne : e.1 ≠ p := by omega
    have eT : gT (addS σ p m T) e.1 = gT σ e.1 := (addS_old b1).2.2
    refine ⟨show e.1 < gN σ + 1 by omega, by rw [eT]; exact b2, i', b3, by rw [eT]; exact b4, fun j hj => ?_, fun m' x y z => ?_, by rw [Cq _ b1 ne, eT]; exact b7⟩
    · rw [Cq _ b1 ne] at hj
      rw [Hold _ j b1 hj, Mold _ j b1 hj]; exact b5 j hj
    · rw [eT] at y
      obtain ⟨j, c1, c2⟩ := b6 m' x y z
      exact ⟨j, by rw [Cq _ b1 ne]; exact c1, by rw [Hold _ j b1 c1, Mold _ j b1 c1]; exact c2⟩
  have path : pthW (addS σ p m T) ((p, r) :: O) := by
    have gen : ∀ (O : List (Nat × List Nat)) (q : Nat) (s s' : List Nat), q ≤ p → (∀ e, e ∈ O → e.1 < gN σ) → pthW σ ((q, s) :: O) → pthW (addS σ p m T) ((q, s') :: O) := by
      intro O
      induction O with
      | nil => intro q s s' _ _ hq; exact hq
      | cons a O ih =>
        intro q s s' hq hO hp
        obtain ⟨q2, s2⟩ := a
        obtain ⟨⟨x1, x2, x3, x4, x5⟩, x6⟩ := hp
        have hq2 : q2 < gN σ := hO (q2, s2) List.mem_cons_self
        refine ⟨⟨x1, ?_, ?_, ?_, x5⟩, ih q2 s2 s2 (by omega) (fun e he => hO e (List.mem_cons_of_mem _ he)) x6⟩
        · rw [(addS_old (show q < gN σ by omega)).1]; exact x2
        · rw [Cq q2 hq2 (by omega)]; exact x3
        · rw [Cq q2 hq2 (by omega), Hold q2 _ hq2 (by omega)]; exact x4
    exact gen O p (m :: r) r (Nat.le_refl _) (fun e he => (h2 e (List.mem_cons_of_mem _ he)).1) h3
  have itr_old : ∀ n x, x < gN σ → itr (gP (addS σ p m T)) n x = itr (gP σ) n x ∧ itr (gP σ) n x < gN σ := by
    intro n
    induction n with
    | zero => intro x hx; exact ⟨rfl, hx⟩
    | succ n ih =>
      intro x hx
      have hx' : gP σ x < gN σ := by
        rcases Nat.eq_zero_or_pos x with z | z
        · rw [z, h8]; omega
        · have := (h1.2.2.2.2.1 x z hx).1; omega
      obtain ⟨i1, i2⟩ := ih (gP σ x) hx'
      refine ⟨?_, i2⟩
      show itr (gP (addS σ p m T)) n (gP (addS σ p m T) x) = itr (gP σ) n (gP σ x)
      rw [(addS_old hx).1]; exact i1
  have lt_of : ∀ a, 0 < a → a < gN σ → gP σ a < gN σ := fun a x y => by have := (h1.2.2.2.2.1 a x y).1; omega
  refine ⟨W, ?_, ?_, ?_, ?_, ?_, ?_, by rw [(addS_old (by omega)).1]; exact h8⟩
  · intro e he
    rcases List.mem_append.mp he with he | he
    · unfold opn at he
      by_cases q : kdT G T = 2
      · rw [if_pos q] at he
        rw [List.mem_singleton] at he
        subst he
        refine ⟨show gN σ < gN σ + 1 by omega, by rw [addS_new.2.2.1]; exact q, 0, by omega, by rw [addS_new.2.2.1]; rfl, fun j hj => ?_, fun m' x => by omega, ?_⟩
        · have : j < gC (addS σ p m T) (gN σ) := hj
          rw [addS_new.2.2.2] at this; omega
        · show gC (addS σ p m T) (gN σ) + _ = (lvl k (tyT G (gT (addS σ p m T) (gN σ))) (kM k) 0).length
          rw [addS_new.2.2.2, addS_new.2.2.1]; exact Nat.zero_add _
      · rw [if_neg q] at he; cases he
    · rcases List.mem_cons.mp he with rfl | he
      · exact ent_p
      · exact ent_o e he
  · unfold opn
    by_cases q : kdT G T = 2
    · rw [if_pos q]
      refine ⟨⟨by omega, addS_new.1, by rw [Cp]; omega, ?_, a1'⟩, path⟩
      rw [Cp, addS_H, if_pos ⟨rfl, by omega⟩]
    · rw [if_neg q]; exact path
  · intro x hx n hn j hj hH
    rw [addS_N] at hx
    by_cases e : x = gN σ
    · -- the new node's way
      subst e
      cases n with
      | zero =>
        have e0 : itr (gP (addS σ p m T)) 0 (gN σ) = gN σ := rfl
        rw [e0, addS_new.1] at hj hH
        rw [Cp] at hj
        rw [addS_H] at hH
        by_cases z : p = p ∧ j = gC σ p
        · omega
        · rw [if_neg z] at hH
          have := (h1.2.2.2.2.2.1 p j a1' (by omega)).2.1
          omega
      | succ n =>
        have e0 : itr (gP (addS σ p m T)) (n + 1) (gN σ) = itr (gP (addS σ p m T)) n p := by show itr (gP (addS σ p m T)) n (gP (addS σ p m T) (gN σ)) = _; rw [addS_new.1]
        rw [e0] at hn hj hH
        exfalso
        refine pthW_itr (σ := addS σ p m T) (by rw [(addS_old (by omega)).1]; exact h8) path n hn j hj hH (fun e he u v huv hv => ?_)
        have he1 := (h2 e (List.mem_cons_of_mem _ he)).1
        exact Nat.ne_of_lt (W.2.2.2.2.2.2.2 e.1 u v (show e.1 < gN σ + 1 by omega) huv hv).1
    · have hx' : x < gN σ := by omega
      obtain ⟨i1, i2⟩ := itr_old n x hx'
      rw [i1] at hn hj hH ⊢
      have b := lt_of _ hn i2
      rw [(addS_old i2).1] at hj hH ⊢
      by_cases z : gP σ (itr (gP σ) n x) = p
      · rw [z] at hj hH ⊢
        rw [Cp] at hj
        have hj' : j < gC σ p := by omega
        rw [Hold p j a1' hj'] at hH
        by_cases y : j + 1 = gC σ p
        · rw [addS_H, if_pos ⟨rfl, y⟩]; exact hx'
        · rw [Hold p (j + 1) a1' (by omega)]
          have := h4 x hx' n hn j (by rw [z]; omega) (by rw [z]; exact hH)
          rw [z] at this
          exact this
      · rw [Cq _ b z] at hj
        rw [Hold _ j b (by omega)] at hH
        rw [Hold _ (j + 1) b hj]
        exact h4 x hx' n hn j hj hH
  · intro q a b c
    rw [addS_N] at a
    have cp : q ≠ p := fun e => c (p, r) (List.mem_append.mpr (Or.inr List.mem_cons_self)) e.symm
    by_cases e : q = gN σ
    · subst e
      rw [addS_new.2.2.1] at b
      exfalso
      refine c (gN σ, lvl k (tyT G T) (kM k) 0) (List.mem_append.mpr (Or.inl ?_)) rfl
      unfold opn
      rw [if_pos b]
      exact List.mem_singleton.mpr rfl
    · have hq : q < gN σ := by omega
      have eT := (addS_old (p := p) (m := m) (T := T) hq).2.2
      rw [eT] at b
      obtain ⟨x1, x2⟩ := h5 q hq b (fun z hz => by
        rcases List.mem_cons.mp hz with rfl | hz
        · exact fun w => cp w.symm
        · exact c z (List.mem_append.mpr (Or.inr (List.mem_cons_of_mem _ hz))))
      refine ⟨fun m' u v w => ?_, by rw [Cq q hq cp, eT]; exact x2⟩
      rw [eT] at v
      obtain ⟨j, y1, y2⟩ := x1 m' u v w
      exact ⟨j, by rw [Cq q hq cp]; exact y1, by rw [Hold q j hq y1, Mold q j hq y1]; exact y2⟩
  · intro q a b
    rw [addS_N] at a
    by_cases e : q = gN σ
    · rw [e]; exact addS_new.2.2.2
    · have hq : q < gN σ := by omega
      rw [(addS_old hq).2.2] at b
      have cp : q ≠ p := fun e => by subst e; exact b a2
      rw [Cq q hq cp]; exact h6 q hq b
  · rw [addS_N, List.length_append, List.length_cons]
    rw [List.length_cons] at h7
    unfold opn
    split
    · simp only [List.length_cons, List.length_nil]; omega
    · simp only [List.length_nil]; omega
end
