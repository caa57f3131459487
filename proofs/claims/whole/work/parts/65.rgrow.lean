/-! PURE: the reference's tree grows -/
section
variable {S : Mem} {k : KK} {C R : Nat} {sz : Nat → Nat} {col : Nat → Nat}
theorem brS_is (hW : kW k) (hr : rws S k C R sz) {T T' : TB} {c m : Nat} (hw : wfT R sz T) (hc : c < tP T) (hm : m < kM k) (h : brS (S 32) (gk S k) k T c m = some T') : tP T - 1 + kFc k m ≤ 40 ∧ wfT R sz T' ∧ tP T' = tP T - 1 + kFc k m ∧ tT T' = brTy k m (tT T) c := by
  unfold brS at h
  by_cases q : tP T - 1 + kFc k m ≤ 40
  · rw [if_pos q] at h
    have w := wfT_br hW hr hw hc hm q
    obtain ⟨f, hf⟩ := spT_is (G := S 32) (g := gk S k) (T := brT (S 32) (gk S k) k T c m) w.2.1
    rw [h] at hf
    obtain ⟨a, b, e⟩ := spl_wf hr f _ 0 0 w hf
    exact ⟨q, a, b, e⟩
  · rw [if_neg q] at h; cases h
theorem fsS_is (hr : rws S k C R sz) (hC : C ≤ 3) {T : TB} (h : spT (S 32) (gk S k) (fsT (gk S k) C R col) = some T) : wfT R sz T ∧ tP T = C ∧ tT T = col := by
  have w := wfT_fs hr hC col
  obtain ⟨f, hf⟩ := spT_is (G := S 32) (g := gk S k) (T := fsT (gk S k) C R col) w.2.1
  rw [h] at hf
  obtain ⟨a, b, e⟩ := spl_wf hr f _ 0 0 w hf
  exact ⟨a, b, e⟩
theorem sgW_ty (hW : kW k) (hr : rws S k C R sz) (hC : C ≤ 3) (hcol : ∀ c, c < C → col c < kT k) {σ : SG} (h : sgW (S 32) (gk S k) k C R sz col σ) : ∀ i, i < gN σ → ∀ j, j < tP (gT σ i) → tT (gT σ i) j < kT k := by
  obtain ⟨h1, h2, h3, h4, h5, _⟩ := h
  intro i
  induction i using Nat.strongRecOn with
  | ind i ih =>
    intro hi j hj
    rcases Nat.eq_zero_or_pos i with z | z
    · subst z
      obtain ⟨a, b, e⟩ := fsS_is hr hC h3
      rw [e]; rw [b] at hj
      exact hcol j hj
    · obtain ⟨p1, p2, p3, p4, p5, p6⟩ := h5 i z hi
      have hk := kdT_2 p2
      obtain ⟨q1, q2, q3, q4⟩ := brS_is hW hr (h4 _ (by omega)) hk.2 p3 p6
      have hf := hW.2.2 _ p3
      rw [q4]; rw [q3] at hj
      unfold brTy
      by_cases u : j < tsT (S 32) (gT σ (gP σ i))
      · rw [if_pos u]; exact ih _ p1 (by omega) j (by omega)
      · rw [if_neg u]
        by_cases v : j < tsT (S 32) (gT σ (gP σ i)) + kFc k (gM σ i)
        · rw [if_pos v]; exact hf.2.2 _ (by omega)
        · rw [if_neg v]; exact ih _ p1 (by omega) _ (by omega)
end
/-- what waits, the next first -/
def wlO (O : List (Nat × List Nat)) : List (Nat × Nat) := O.flatMap (fun e => e.2.map (fun m => (e.1, m)))
theorem wlO_len {O : List (Nat × List Nat)} (h : ∀ e, e ∈ O → e.2.length ≤ 8) : (wlO O).length ≤ 8 * O.length := by
  induction O with
  | nil => exact Nat.le_refl _
  | cons a O ih =>
    have := ih (fun e he => h e (List.mem_cons_of_mem _ he))
    have h1 := h a List.mem_cons_self
    unfold wlO at this ⊢
    rw [List.flatMap_cons, List.length_append, List.length_map, List.length_cons]
    omega
/-- the way up, as a row of nodes -/
def wlf : List (Nat × List Nat) → Nat → Nat
  | [], _ => 0
  | a :: _, 0 => a.1
  | _ :: O, i + 1 => wlf O i
theorem wlf_in : ∀ {O : List (Nat × List Nat)} {i : Nat}, i < O.length → ∃ e, e ∈ O ∧ e.1 = wlf O i := by
  intro O
  induction O with
  | nil => intro i h; exact absurd h (Nat.not_lt_zero _)
  | cons a O ih =>
    intro i h
    cases i with
    | zero => exact ⟨a, List.mem_cons_self, rfl⟩
    | succ i =>
      obtain ⟨e, h1, h2⟩ := ih (i := i) (by rw [List.length_cons] at h; omega)
      exact ⟨e, List.mem_cons_of_mem _ h1, h2⟩
theorem wlf_up {σ : SG} : ∀ {O : List (Nat × List Nat)}, pthW σ O → ∀ i, i < O.length → (i + 1 < O.length → 0 < wlf O i ∧ gP σ (wlf O i) = wlf O (i + 1)) ∧ (¬ i + 1 < O.length → wlf O i = 0) := by
  intro O
  induction O with
  | nil => intro _ i h; exact absurd h (Nat.not_lt_zero _)
  | cons a O ih =>
    intro hp i h
    obtain ⟨p, s⟩ := a
    cases O with
    | nil =>
      have e : p = 0 := hp.1
      rw [List.length_cons, List.length_nil] at h
      have ei : i = 0 := by omega
      subst ei
      exact ⟨fun q => by rw [List.length_cons, List.length_nil] at q; omega, fun _ => e⟩
    | cons b O =>
      obtain ⟨q, s2⟩ := b
      obtain ⟨⟨h1, h2, h3, h4, h5⟩, h6⟩ := hp
      cases i with
      | zero => exact ⟨fun _ => ⟨h1, h2⟩, fun z => by rw [List.length_cons, List.length_cons] at z; omega⟩
      | succ i =>
        have := ih h6 i (by rw [List.length_cons] at h; omega)
        rw [List.length_cons]
        exact ⟨fun z => this.1 (by omega), fun z => this.2 (by omega)⟩
/-- the nodes as the reference notes them -/
def rnd (S : Mem) (G : Nat → Int32) (k : KK) (σ : SG) : Prop := S 27 24 = nI (gN σ) ∧ ∀ i, i < gN σ → rn1 S G k (gT σ i) i (if i = 0 then N1 else nI (gP σ i)) (if i = 0 then N1 else nI (gM σ i))
def rst (S : Mem) (k : KK) (C R : Nat) (sz : Nat → Nat) (col : Nat → Nat) : Prop := mr_K S k ∧ rws S k C R sz ∧ kV (S 30) k ∧ S 27 6 = nI C ∧ ∀ c, c < C → S 31 c = nI (col c)
def rcs : List Nat := [27, 38, 39, 40, 41, 42, 43, 44, 45, 46, 47, 48, 49, 50, 51, 52]
theorem rst_fr {S S' : Mem} {k : KK} {C R : Nat} {sz : Nat → Nat} {col : Nat → Nat} (h : rst S k C R sz col) (hf : mfr rcs S S') (hs : ∀ j, j < 10 → j ≠ 0 → S' 27 j = S 27 j) : rst S' k C R sz col := by
  obtain ⟨h1, h2, h3, h4, h5⟩ := h
  refine ⟨?_, ?_, by rw [hf 30 (by decide)]; exact h3, by rw [hs 6 (by decide) (by decide)]; exact h4, by rw [hf 31 (by decide)]; exact h5⟩
  · unfold mr_K
    rw [hs 1 (by decide) (by decide), hs 2 (by decide) (by decide), hf 28 (by decide), hf 29 (by decide)]
    exact h1
  · unfold rws
    rw [hs 7 (by decide) (by decide), hf 8 (by decide), hf 33 (by decide), hf 32 (by decide), hf 9 (by decide), hf 10 (by decide)]
    exact h2
section
variable {d : Nat} {k : KK} {C R : Nat} {sz : Nat → Nat} {col : Nat → Nat}
theorem rn1_fr {S S' : Mem} {G : Nat → Int32} {T : TB} {i N : Nat} {x1 x2 : Int32} (h : rn1 S G k T i x1 x2) (hi : i ≠ N) (ho : ∀ a, a ∈ [42, 43, 44, 45, 46, 47, 48, 49] → ∀ j, j ≠ N → S' a j = S a j) : rn1 S' G k T i x1 x2 := by
  unfold rn1
  rw [ho 42 (by simp) i hi, ho 43 (by simp) i hi, ho 44 (by simp) i hi, ho 45 (by simp) i hi, ho 46 (by simp) i hi, ho 47 (by simp) i hi, ho 48 (by simp) i hi, ho 49 (by simp) i hi]
  exact h
/-- one more node, or too great -/
theorem mr_begin (hW : kW k) (hC : C ≤ 3) (hcol : ∀ c, c < C → col c < kT k) (h8 : ∀ t, kCnt k t (kM k) ≤ 8) {σ : SG} {p m : Nat} {r : List Nat} {O : List (Nat × List Nat)} {S : Mem} (hg : gin (S 32) (gk S k) k C R sz col σ ((p, m :: r) :: O)) (hs : rst S k C R sz col) (hn : rnd S (S 32) k σ) (h25 : S 27 25 = nI (wlO ((p, r) :: O)).length) (hm : mst2 (S 50) (S 51) (wlO ((p, r) :: O))) :
    ∃ S', mm_runD (d + 7) 144 [.inr 27, .inl (nI p), .inl (nI m)] S = some (S', 0, 0, 0, 0) ∧ mfr rcs S S' ∧ (∀ j, j < 10 → S' 27 j = S 27 j) ∧
      ((brS (S 32) (gk S k) k (gT σ p) (tsT (S 32) (gT σ p)) m = none ∨ gN σ = 300) → S' 27 22 = 1) ∧
      (∀ T, brS (S 32) (gk S k) k (gT σ p) (tsT (S 32) (gT σ p)) m = some T → gN σ ≠ 300 → S' 27 22 = 0 ∧ rnd S' (S 32) k (addS σ p m T) ∧ S' 27 25 = nI (wlO (opn (S 32) k (gN σ) T ++ (p, r) :: O)).length ∧ mst2 (S' 50) (S' 51) (wlO (opn (S 32) k (gN σ) T ++ (p, r) :: O))) := by
  obtain ⟨g1, g2, g3, g4, g5, g6, g7, g8⟩ := hg
  obtain ⟨s1, s2, s3, s4, s5⟩ := hs
  have hT := hW.1
  have hM := hW.2.1
  obtain ⟨n, en⟩ : ∃ n, n = ((p, m :: r) :: O).length := ⟨_, rfl⟩
  have hn3 := g1.2.1
  have wn : ∀ i, i < n → wlf ((p, m :: r) :: O) i < gN σ ∧ kdT (S 32) (gT σ (wlf ((p, m :: r) :: O) i)) = 2 := by
    intro i hi
    rw [en] at hi
    obtain ⟨e, h1, h2⟩ := wlf_in hi
    obtain ⟨a, b, _⟩ := g2 e h1
    rw [h2] at a b
    exact ⟨a, b⟩
  have up := wlf_up g3
  obtain ⟨e1, e2, i0, e3, e4, e5, e6, e7⟩ := g2 (p, m :: r) List.mem_cons_self
  have e1' : p < gN σ := e1
  have hmem : m ∈ lvl k (tyT (S 32) (gT σ p)) (kM k - i0) i0 := by rw [← e4]; exact List.mem_cons_self
  have hmM : m < kM k := by have := (lvl_mem _ _ _ hmem).2.1; omega
  have hnp : 0 < n := by rw [en, List.length_cons]; omega
  obtain ⟨S1, t1, t2, t3, t4, t5⟩ := mr_tableOf (d := d) (S := S) s1 hW s2 hC s4 s5 (τ := gT σ) (tst := fun i => tsT (S 32) (gT σ i)) (mk := gM σ) (n := n) (m := m) (wl := wlf ((p, m :: r) :: O)) (by omega) (fun i hi => by have := (wn i hi).1; omega) (fun i hi => by
      obtain ⟨u1, u2⟩ := up i (by omega)
      have := (hn.2 _ (wn i hi).1).2.1
      rw [this]
      by_cases z : i + 1 < n
      · obtain ⟨v1, v2⟩ := u1 (by omega)
        rw [if_neg (by omega), if_pos z, v2]
      · rw [if_pos (u2 (by omega)), if_neg z]) (x2 := nI m) (fun _ => rfl) (fun _ => hmM) (fun i hi => ⟨g1.2.2.2.1 _ (wn i hi).1, (kdT_2 (wn i hi).2).2⟩) (fun j hj => ((hn.2 _ (wn j hj).1).2.2.2.2.2 (wn j hj).2).1) (fun j hj => by
      obtain ⟨u1, _⟩ := up j (by omega)
      obtain ⟨v1, v2⟩ := u1 (by omega)
      have h9 := wn j (by omega)
      refine ⟨?_, (g1.2.2.2.2.1 _ v1 h9.1).2.2.1⟩
      rw [(hn.2 _ h9.1).2.2.1, if_neg (by omega)]) (fun j hj => by
      obtain ⟨u1, _⟩ := up j (by omega)
      obtain ⟨v1, v2⟩ := u1 (by omega)
      have h9 := wn j (by omega)
      have := (g1.2.2.2.2.1 _ v1 h9.1).2.2.2.2.2
      rw [v2] at this
      exact this) (fun _ => by
      obtain ⟨_, u2⟩ := up (n - 1) (by omega)
      rw [u2 (by omega)]
      exact g1.2.2.1)
  rw [if_pos hnp, show wlf ((p, m :: r) :: O) 0 = p from rfl] at t1
  have ew : wyT (S 32) (gk S k) k C R col (gT σ) (fun i => tsT (S 32) (gT σ i)) n (wlf ((p, m :: r) :: O)) m = brS (S 32) (gk S k) k (gT σ p) (tsT (S 32) (gT σ p)) m := by
    unfold wyT
    rw [if_neg (by omega)]
    rfl
  rw [ew] at t4 t5
  have F1 : mfr rcs S S1 := mfr_up t2 (by decide)
  have e32 : S1 32 = S 32 := t2 32 (by decide)
  have eg : gk S1 k = gk S k := by unfold gk; rw [e32]
  have q27 : ∀ j, j < 10 → S1 27 j = S 27 j := fun j hj => t3 j (by omega) (by omega) (by omega)
  cases hb : brS (S 32) (gk S k) k (gT σ p) (tsT (S 32) (gT σ p)) m with
  | none =>
    have z22 := t5 hb
    refine ⟨mm_put S1 27 22 1, ?_, mfr_tr F1 (mfr_put (by decide)), fun j hj => by rw [mp_pk _ _ _ (by omega)]; exact q27 j hj, fun _ => mp_pp _ _ _ _, fun T e => by cases e⟩
    rw [dX8_begin, eX8_begin_0, t1, mm_bd_ret, z22, if_neg (by decide)]
  | some T =>
    obtain ⟨tb, z22⟩ := t4 T hb
    have e2' : kdT (S 32) (gT σ p) = 2 := e2
    have hk2 := kdT_2 e2'
    obtain ⟨b1, b2, b3, b4⟩ := brS_is hW s2 (g1.2.2.2.1 p e1) hk2.2 hmM hb
    by_cases q3 : gN σ = 300
    · refine ⟨mm_put S1 27 22 1, ?_, mfr_tr F1 (mfr_put (by decide)), fun j hj => by rw [mp_pk _ _ _ (by omega)]; exact q27 j hj, fun _ => mp_pp _ _ _ _, fun T' _ hne => absurd q3 hne⟩
      rw [dX8_begin, eX8_begin_0, t1, mm_bd_ret, z22, if_pos rfl, t3 24 (by decide) (by decide) (by decide), hn.1, if_pos (by rw [q3]; rfl)]
    · have hst1 : rst S1 k C R sz col := rst_fr ⟨s1, s2, s3, s4, s5⟩ F1 (fun j hj _ => q27 j hj)
      have tyb := sgW_ty hW s2 hC hcol g1 p e1'
      have hf := hW.2.2 m hmM
      have hty : ∀ j, j < tP T → tT T j < 8 := by
        intro j hj
        rw [b3] at hj
        rw [b4]
        unfold brTy
        by_cases u : j < tsT (S 32) (gT σ p)
        · rw [if_pos u]; have := tyb j (by have := hk2.2; have : tsT (S 32) (gT σ p) < tP (gT σ p) := this; omega); omega
        · rw [if_neg u]
          by_cases v : j < tsT (S 32) (gT σ p) + kFc k m
          · rw [if_pos v]; have := hf.2.2 (j - tsT (S 32) (gT σ p)) (by omega); omega
          · rw [if_neg v]
            have h9 : tsT (S 32) (gT σ p) < tP (gT σ p) := hk2.2
            have := tyb (j + 1 - kFc k m) (by omega); omega
      have lw : (wlO ((p, r) :: O)).length + 40 ≤ 2500 := by
        have := wlO_len (O := (p, r) :: O) (by
          intro e he
          have l8 : ∀ t, (lvl k t (kM k) 0).length ≤ 8 := fun t => by
            have := lvl_cnt (k := k) (t := t) (kM k) 0
            rw [Nat.zero_add] at this
            have := h8 t
            omega
          rcases List.mem_cons.mp he with rfl | he
          · have := l8 (tyT (S 32) (gT σ p))
            rw [List.length_cons] at e7
            have e7' : gC σ p + (r.length + 1) = (lvl k (tyT (S 32) (gT σ p)) (kM k) 0).length := e7
            show r.length ≤ 8
            omega
          · obtain ⟨_, _, _, _, _, _, _, c7⟩ := g2 e (List.mem_cons_of_mem _ he)
            have := l8 (tyT (S 32) (gT σ e.1))
            omega)
        rw [List.length_cons] at this g7
        omega
      obtain ⟨S', n1, n2, n3, n4, n5, n6, n7, n8⟩ := mr_node (d := d + 4) (S := S1) (k := k) (C := C) (R := R) (sz := sz) hst1.1 hW hst1.2.1 hst1.2.2.1 tb b2 hty z22 (N := gN σ) (by omega) (by rw [t3 24 (by decide) (by decide) (by decide)]; exact hn.1) (x1 := nI p) (x2 := nI m) (W := wlO ((p, r) :: O)) (by rw [t3 25 (by decide) (by decide) (by decide)]; exact h25) lw (by rw [t2 50 (by decide), t2 51 (by decide)]; exact hm) t1
      rw [e32] at n6 n7 n8
      have ewl : (if kdT (S 32) T = 2 then (lvl k (tyT (S 32) T) (kM k) 0).map (fun m => (gN σ, m)) else []) ++ wlO ((p, r) :: O) = wlO (opn (S 32) k (gN σ) T ++ (p, r) :: O) := by
        unfold opn wlO
        by_cases q : kdT (S 32) T = 2
        · rw [if_pos q, if_pos q, List.flatMap_append, List.flatMap_singleton]
        · rw [if_neg q, if_neg q, List.nil_append, List.nil_append]
      rw [ewl] at n7 n8
      refine ⟨S', n1, mfr_tr F1 (mfr_up n2 (by decide)), fun j hj => by rw [n3 j (by omega) (by omega)]; exact q27 j hj, fun z => by rcases z with z | z; cases z; exact absurd z q3, fun T' e _ => ?_⟩
      cases e
      refine ⟨by rw [n3 22 (by decide) (by decide)]; exact z22, ⟨n4, fun i hi => ?_⟩, n7, n8⟩
      rw [addS_N] at hi
      by_cases e : i = gN σ
      · subst e
        rw [if_neg (by omega), if_neg (by omega), addS_new.1, addS_new.2.1, addS_new.2.2.1]
        exact n6
      · obtain ⟨o1, o2, o3⟩ := addS_old (p := p) (m := m) (T := T) (show i < gN σ by omega)
        rw [o1, o2, o3]
        have old : rn1 S1 (S 32) k (gT σ i) i (if i = 0 then N1 else nI (gP σ i)) (if i = 0 then N1 else nI (gM σ i)) := by
          unfold rn1
          rw [t2 42 (by decide), t2 43 (by decide), t2 44 (by decide), t2 45 (by decide), t2 46 (by decide), t2 47 (by decide), t2 48 (by decide), t2 49 (by decide)]
          exact hn.2 i (by omega)
        exact rn1_fr old e n5
end
