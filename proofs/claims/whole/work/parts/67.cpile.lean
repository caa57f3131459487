/-! PURE: the class's pile of tables that wait -/
def pend (σ : SG) : List (Nat × List Nat) → Nat
  | [] => 0
  | a :: O => tEn (pend σ O) (gT σ a.1)
def blw (σ : SG) : List (Nat × List Nat) → Int32
  | [] => N1
  | _ :: O => nI (pend σ O)
def pl (G : Nat → Int32) (k : KK) (σ : SG) (f : Nat → Int32) : List (Nat × List Nat) → Prop
  | [] => True
  | a :: O => tbM G f (pend σ O) (gT σ a.1) ∧ f (pend σ O) = blw σ O ∧ f (pend σ O + 1) = nI (tP (gT σ a.1)) ∧ f (pend σ O + 2) = nI (tL (gT σ a.1)) ∧ f (pend σ O + 3) = nI a.1 ∧ f (pend σ O + 4) = nI (tyT G (gT σ a.1)) ∧ (∃ i, f (pend σ O + 5) + 1 = nI i ∧ i ≤ kM k ∧ a.2 = lvl k (tyT G (gT σ a.1)) (kM k - i) i) ∧ pl G k σ f O
theorem pend_s {R : Nat} {sz : Nat → Nat} {σ : SG} {a : Nat × List Nat} {O : List (Nat × List Nat)} (h : wfT R sz (gT σ a.1)) : pend σ O + 6 ≤ pend σ (a :: O) ∧ pend σ (a :: O) ≤ pend σ O + 2547 := by
  have := tEn_le (t := pend σ O) h
  show pend σ O + 6 ≤ tEn (pend σ O) (gT σ a.1) ∧ tEn (pend σ O) (gT σ a.1) ≤ _
  omega
theorem pend_up {R : Nat} {sz : Nat → Nat} {σ : SG} : ∀ {O : List (Nat × List Nat)}, (∀ e, e ∈ O → wfT R sz (gT σ e.1)) → pend σ O ≤ 2547 * O.length := by
  intro O
  induction O with
  | nil => intro _; exact Nat.le_refl _
  | cons a O ih =>
    intro h
    have h1 := ih (fun e he => h e (List.mem_cons_of_mem _ he))
    have h2 := (pend_s (σ := σ) (O := O) (h a List.mem_cons_self)).2
    rw [List.length_cons]
    omega
theorem pl_ext {R : Nat} {sz : Nat → Nat} {G : Nat → Int32} {k : KK} {σ : SG} {f f' : Nat → Int32} : ∀ {O : List (Nat × List Nat)}, (∀ e, e ∈ O → wfT R sz (gT σ e.1)) → (∀ j, j < pend σ O → f' j = f j) → pl G k σ f O → pl G k σ f' O := by
  intro O
  induction O with
  | nil => intro _ _ _; trivial
  | cons a O ih =>
    intro h he hp
    obtain ⟨p1, p2, p3, p4, p5, p6, p7, p8⟩ := hp
    have hb := (pend_s (σ := σ) (O := O) (h a List.mem_cons_self)).1
    have e : ∀ i, i < 6 → f' (pend σ O + i) = f (pend σ O + i) := fun i hi => he _ (by omega)
    refine ⟨tbM_ext p1 (fun j _ hj => he j hj), ?_, ?_, ?_, ?_, ?_, ?_, ih (fun e he => h e (List.mem_cons_of_mem _ he)) (fun j hj => he j (by omega)) p8⟩
    · rw [show pend σ O = pend σ O + 0 from rfl, e 0 (by omega)]; exact p2
    · rw [e 1 (by omega)]; exact p3
    · rw [e 2 (by omega)]; exact p4
    · rw [e 3 (by omega)]; exact p5
    · rw [e 4 (by omega)]; exact p6
    · rw [e 5 (by omega)]; exact p7
theorem pend_add {σ : SG} {p m : Nat} {T : TB} : ∀ {O : List (Nat × List Nat)}, (∀ e, e ∈ O → e.1 < gN σ) → pend (addS σ p m T) O = pend σ O := by
  intro O
  induction O with
  | nil => intro _; rfl
  | cons a O ih =>
    intro h
    show tEn (pend (addS σ p m T) O) (gT (addS σ p m T) a.1) = tEn (pend σ O) (gT σ a.1)
    rw [ih (fun e he => h e (List.mem_cons_of_mem _ he)), (addS_old (h a List.mem_cons_self)).2.2]
theorem blw_add {σ : SG} {p m : Nat} {T : TB} {O : List (Nat × List Nat)} (h : ∀ e, e ∈ O → e.1 < gN σ) : blw (addS σ p m T) O = blw σ O := by
  cases O with
  | nil => rfl
  | cons a O =>
    show nI (pend (addS σ p m T) O) = nI (pend σ O)
    rw [pend_add (fun e he => h e (List.mem_cons_of_mem _ he))]
theorem pl_add {G : Nat → Int32} {k : KK} {σ : SG} {p m : Nat} {T : TB} {f : Nat → Int32} : ∀ {O : List (Nat × List Nat)}, (∀ e, e ∈ O → e.1 < gN σ) → pl G k σ f O → pl G k (addS σ p m T) f O := by
  intro O
  induction O with
  | nil => intro _ _; trivial
  | cons a O ih =>
    intro h hp
    have hO : ∀ e, e ∈ O → e.1 < gN σ := fun e he => h e (List.mem_cons_of_mem _ he)
    have eT := (addS_old (p := p) (m := m) (T := T) (h a List.mem_cons_self)).2.2
    obtain ⟨p1, p2, p3, p4, p5, p6, p7, p8⟩ := hp
    unfold pl
    rw [pend_add hO, blw_add hO, eT]
    exact ⟨p1, p2, p3, p4, p5, p6, p7, ih hO p8⟩
section
variable {d : Nat} {S : Mem} {n : Nat}
theorem mq_head {t f : Nat} (hn : rm S n) (h3 : S 21 3 = nI t) (ht : t + f < n) : mm_runD (d + 2) 63 [.inr 21, .inl (nI f)] S = some (S, 0, 0, 0, S 22 (t + f)) := by
  have h9 := hn.2.2
  rw [dX5_head, eX5_head_0, h3, if_neg (nI_pos (by omega)), nI_add, mq_get hn ht, mm_bd_ret]
theorem mq_head0 (h3 : S 21 3 = N1) (x : Int32) : mm_runD (d + 2) 63 [.inr 21, .inl x] S = some (S, 0, 0, 0, -1) := by
  rw [dX5_head, eX5_head_0, h3, if_pos (by decide)]
/-- the top goes -/
theorem mq_drop {G : Nat → Int32} {k : KK} {R : Nat} {sz : Nat → Nat} {σ : SG} {O : List (Nat × List Nat)} {t : Nat} (hn : rm S n) (h3 : S 21 3 = nI t) (ht : t + 6 ≤ n) (hb : S 22 t = blw σ O) (hp : pl G k σ (S 22) O) (hpn : pend σ O ≤ n) (hw : ∀ e, e ∈ O → wfT R sz (gT σ e.1)) :
    ∃ S', mm_runD (d + 3) 43 [.inr 21] S = some (S', 0, 0, 0, 0) ∧ mfr [21] S S' ∧ S' 21 3 = blw σ O ∧ (∀ a O', O = a :: O' → S' 21 4 = nI (tP (gT σ a.1)) ∧ S' 21 5 = nI (tL (gT σ a.1))) := by
  have h9 := hn.2.2
  have e0 : mm_runD (d + 2) 63 [.inr 21, .inl 0] S = some (S, 0, 0, 0, blw σ O) := by
    have := mq_head (d := d) (f := 0) hn h3 (by omega)
    rw [show t + 0 = t from rfl, hb] at this
    exact this
  cases O with
  | nil =>
    have k3 : (mm_put S 21 3 N1) 21 3 = N1 := mp_pp _ _ _ _
    have k3' : (mm_put (mm_put S 21 3 N1) 21 4 0) 21 3 = N1 := rfl
    refine ⟨mm_put (mm_put (mm_put S 21 3 N1) 21 4 0) 21 5 0, ?_, mfr_tr (mfr_tr (mfr_put (by simp)) (mfr_put (by simp))) (mfr_put (by simp)), rfl, fun a O' e => by cases e⟩
    rw [dX5_drop, eX5_drop_0, e0, mm_bd_ret]
    show mm_bd (mm_runD (d + 2) 63 [.inr 21, .inl 1] (mm_put S 21 3 N1)) _ _ _ = _
    rw [mq_head0 k3, mm_bd_ret, if_pos (show (-1 : Int32) < 0 by decide), mq_head0 k3', mm_bd_ret, if_pos (show (-1 : Int32) < 0 by decide)]
  | cons a O =>
    obtain ⟨p1, p2, p3, p4, p5, p6, p7, p8⟩ := hp
    have hwa := hw a List.mem_cons_self
    have hb1 := (pend_s (σ := σ) (O := O) hwa).1
    have w1 := hwa.1
    have w2 := hwa.2.1
    have k3 : (mm_put S 21 3 (nI (pend σ O))) 21 3 = nI (pend σ O) := mp_pp _ _ _ _
    have k3' : (mm_put (mm_put S 21 3 (nI (pend σ O))) 21 4 (nI (tP (gT σ a.1)))) 21 3 = nI (pend σ O) := rfl
    have q1 := mq_head (d := d) (S := mm_put S 21 3 (nI (pend σ O))) (f := 1) (rm_put hn (by decide)) k3 (by omega)
    have q2 := mq_head (d := d) (S := mm_put (mm_put S 21 3 (nI (pend σ O))) 21 4 (nI (tP (gT σ a.1)))) (f := 2) (rm_put (rm_put hn (by decide)) (by decide)) k3' (by omega)
    have r1 : (mm_put S 21 3 (nI (pend σ O))) 22 (pend σ O + 1) = nI (tP (gT σ a.1)) := p3
    have r2 : (mm_put (mm_put S 21 3 (nI (pend σ O))) 21 4 (nI (tP (gT σ a.1)))) 22 (pend σ O + 2) = nI (tL (gT σ a.1)) := p4
    rw [r1] at q1
    rw [r2] at q2
    refine ⟨mm_put (mm_put (mm_put S 21 3 (nI (pend σ O))) 21 4 (nI (tP (gT σ a.1)))) 21 5 (nI (tL (gT σ a.1))), ?_, mfr_tr (mfr_tr (mfr_put (by simp)) (mfr_put (by simp))) (mfr_put (by simp)), rfl, fun a' O' e => by cases e; exact ⟨rfl, rfl⟩⟩
    rw [dX5_drop, eX5_drop_0, e0, mm_bd_ret]
    show mm_bd (mm_runD (d + 2) 63 [.inr 21, .inl (nI 1)] (mm_put S 21 3 (nI (pend σ O)))) _ _ _ = _
    rw [q1, mm_bd_ret, if_neg (nI_pos (by omega))]
    show mm_bd (mm_runD (d + 2) 63 [.inr 21, .inl (nI 2)] (mm_put (mm_put S 21 3 (nI (pend σ O))) 21 4 (nI (tP (gT σ a.1))))) _ _ _ = _
    rw [q2, mm_bd_ret, if_neg (nI_pos (by omega))]
theorem mq_nextBranch_l {k : KK} {t ty : Nat} (hK : mq_K S k) (hW : kW k) (hV : kV (S 3) k) (hn : rm S n) (h3 : S 21 3 = nI t) (ht : t + 6 ≤ n) (hty : ty < 2 ^ 31) : ∀ (z i : Nat), kM k - i = z → i ≤ kM k → mm_E (mm_runD (d + 4)) pX5_nextBranch 1 10 [some (.inr 21), some (.inl (nI ty)), some (.inl (nI i))] [] S 0 0 = (match lvl k ty z i with
    | [] => some (S, 0, 0, 0, N1)
    | m :: _ => some (mm_put S 22 (t + 5) (nI m), 0, 0, 0, nI m)) := by
  have hM := hW.2.1
  have hT := hW.1
  have h9 := hn.2.2
  intro z
  induction z with
  | zero =>
    intro i hz hi
    rw [eX5_nextBranch_10, dX2_makerCount, eX2_makerCount_0, mm_bd_ret, hK.2.1, if_pos (nI_le (by omega) (by omega))]
    rfl
  | succ z ih =>
    intro i hz hi
    have hlt : i < kM k := by omega
    have b := (hW.2.2 i hlt).1
    rw [eX5_nextBranch_10, dX2_makerCount, eX2_makerCount_0, mm_bd_ret, hK.2.1, if_neg (nI_ge hlt (by omega)), mq_typeOf hK hW hlt, mm_bd_ret]
    by_cases q1 : kTy k i = ty
    · rw [if_pos (by rw [q1]), mq_isDead hK hW hlt, mm_bd_ret]
      by_cases q2 : kLive k i
      · rw [mb_f (fun y => (kV_dd hV i).mp y q2), if_pos rfl, lvl_t ⟨q1, q2⟩, h3, show (5 : Int32) = nI 5 from rfl, nI_add, mq_set hn (by omega), mm_bd_ret]
      · rw [mb_t ((kV_dd hV i).mpr q2), if_neg (by decide), lvl_f (fun y => q2 y.2), nI_1]
        exact ih (i + 1) (by omega) (by omega)
    · rw [if_neg (fun y => q1 ((nI_eq (by omega) hty).mp y)), lvl_f (fun y => q1 y.1), nI_1]
      exact ih (i + 1) (by omega) (by omega)
theorem mq_nextBranch {k : KK} {t ty i : Nat} (hK : mq_K S k) (hW : kW k) (hV : kV (S 3) k) (hn : rm S n) (h3 : S 21 3 = nI t) (ht : t + 6 ≤ n) (hty : ty < 2 ^ 31) (h4 : S 22 (t + 4) = nI ty) (h5 : S 22 (t + 5) + 1 = nI i) (hi : i ≤ kM k) : mm_runD (d + 5) 52 [.inr 21] S = (match lvl k ty (kM k - i) i with
    | [] => some (S, 0, 0, 0, N1)
    | m :: _ => some (mm_put S 22 (t + 5) (nI m), 0, 0, 0, nI m)) := by
  have q4 := mq_head (d := d + 2) (f := 4) hn h3 (by omega)
  have q5 := mq_head (d := d + 2) (f := 5) hn h3 (by omega)
  rw [h4] at q4
  rw [dX5_nextBranch, eX5_nextBranch_0]
  show mm_bd (mm_runD (d + 4) 63 [.inr 21, .inl (nI 4)] S) _ _ _ = _
  rw [q4, mm_bd_ret]
  show mm_bd (mm_runD (d + 4) 63 [.inr 21, .inl (nI 5)] S) _ _ _ = _
  rw [q5, mm_bd_ret, h5]
  exact mq_nextBranch_l hK hW hV hn h3 ht hty (kM k - i) i rfl hi
theorem mq_openNode {t p : Nat} (hn : rm S n) (h3 : S 21 3 = nI t) (ht : t + 6 ≤ n) (hp : S 22 (t + 3) = nI p) : mm_runD (d + 3) 46 [.inr 21] S = some (S, 0, 0, 0, nI p) := by
  have q := mq_head (d := d) (f := 3) hn h3 (by omega)
  rw [hp] at q
  rw [dX5_openNode, eX5_openNode_0]
  show mm_bd (mm_runD (d + 2) 63 [.inr 21, .inl (nI 3)] S) _ _ _ = _
  rw [q, mm_bd_ret]
theorem mq_firstTested_l {k : KK} {C R : Nat} {sz : Nat → Nat} {t : Nat} {T : TB} (h : cst S k C R sz t T n) (hL : tL T ≠ 0) : ∀ (z c : Nat), tP T - c = z → c ≤ tP T → mm_E (mm_runD (d + 1)) pX5_firstTested 1 2 [some (.inr 21), some (.inl (nI c))] [] S 0 0 = some (S, 0, 0, 0, if fst0 (S 32) T z c = tP T then N1 else nI (fst0 (S 32) T z c)) := by
  obtain ⟨hr, ⟨h3, h4, h5, hM⟩, hw, hn, he, ht⟩ := h
  have w1 := hw.1
  have w2 := hw.2.1
  have h9 := hn.2.2
  have l0 : la (t + 6 + tP T) (tP T + 1) 0 = t + 6 + tP T := la_0 _ _
  have l1 := la_lt (b := t + 6 + tP T) (w := tP T + 1) (show 0 < tL T by omega)
  unfold tEn at he
  intro z
  induction z with
  | zero =>
    intro c hz hc
    have e : c = tP T := by omega
    rw [eX5_firstTested_2, h4, if_pos (nI_le (by omega) (by omega)), show fst0 (S 32) T 0 c = c from rfl, if_pos e]
  | succ z ih =>
    intro c hz hc
    have cell := hM.2.2 0 c (by omega) (by omega)
    rw [l0] at cell
    rw [eX5_firstTested_2, h4, if_neg (nI_ge (by omega) (by omega))]
    show mm_bd (mm_runD (d + 1) 62 [.inr 21, .inl (nI 0)] S) _ _ _ = _
    rw [mq_lineAt h3 h4, mm_bd_ret, l0, nI_1, nI_add, mq_get hn (by omega), mm_bd_ret, cell]
    unfold fst0
    by_cases q : sgc (S 32) (tC T 0 c) = N1
    · rw [if_pos q, if_pos (show nrm (S 32) (tC T 0 c) = -1 from if_pos q), nI_1]
      exact ih (c + 1) (by omega) (by omega)
    · have q2 : ¬ nrm (S 32) (tC T 0 c) = -1 := by
        unfold nrm
        rw [if_neg q]
        intro y
        rw [y] at q
        exact q (sgc_N _)
      rw [if_neg q, if_neg q2, if_neg (by omega)]
theorem mq_firstTested {k : KK} {C R : Nat} {sz : Nat → Nat} {t : Nat} {T : TB} (h : cst S k C R sz t T n) (hL : tL T ≠ 0) : mm_runD (d + 2) 50 [.inr 21] S = some (S, 0, 0, 0, if tsT (S 32) T = tP T then N1 else nI (tsT (S 32) T)) := by
  rw [dX5_firstTested, eX5_firstTested_0]
  exact mq_firstTested_l h hL (tP T - 0) 0 rfl (by omega)
theorem mq_firstRow {k : KK} {C R : Nat} {sz : Nat → Nat} {t : Nat} {T : TB} (h : cst S k C R sz t T n) (hL : tL T ≠ 0) : mm_runD (d + 2) 48 [.inr 21] S = some (S, 0, 0, 0, nI (tR T 0)) := by
  obtain ⟨hr, ⟨h3, h4, h5, hM⟩, hw, hn, he, ht⟩ := h
  have h9 := hn.2.2
  have l1 := la_lt (b := t + 6 + tP T) (w := tP T + 1) (show 0 < tL T by omega)
  unfold tEn at he
  rw [dX5_firstRow, eX5_firstRow_0]
  show mm_bd (mm_runD (d + 1) 62 [.inr 21, .inl (nI 0)] S) _ _ _ = _
  rw [mq_lineAt h3 h4, mm_bd_ret, mq_get hn (by omega), mm_bd_ret, hM.2.1 0 (by omega)]
theorem mq_typeAt {k : KK} {C R : Nat} {sz : Nat → Nat} {t : Nat} {T : TB} (h : cst S k C R sz t T n) {c : Nat} (hc : c < tP T) : mm_runD (d + 2) 47 [.inr 21, .inl (nI c)] S = some (S, 0, 0, 0, nI (tT T c)) := by
  obtain ⟨hr, ⟨h3, h4, h5, hM⟩, hw, hn, he, ht⟩ := h
  have := tEn_le (t := t) hw
  rw [dX5_typeAt, eX5_typeAt_0, h3, show (6 : Int32) = nI 6 from rfl, nI_add, nI_add, mq_get hn (by omega), mm_bd_ret, hM.1 c hc]
theorem mq_keepFor {k : KK} {C R : Nat} {sz : Nat → Nat} {t : Nat} {T : TB} (h : cst S k C R sz t T n) (N ty : Nat) : ∃ f, mm_runD (d + 2) 51 [.inr 21, .inl (nI N), .inl (nI ty)] S = some (mm_stc S 22 f, 0, 0, 0, 0) ∧ f (t + 1) = nI (tP T) ∧ f (t + 2) = nI (tL T) ∧ f (t + 3) = nI N ∧ f (t + 4) = nI ty ∧ f (t + 5) = N1 ∧ ∀ j, j ≤ t ∨ t + 6 ≤ j → f j = S 22 j := by
  obtain ⟨hr, ⟨h3, h4, h5, hM⟩, hw, hn, he, ht⟩ := h
  have hE := tEn_le (t := t) hw
  obtain ⟨f, ef⟩ : ∃ f, f = upd (upd (upd (upd (upd (S 22) (t + 1) (nI (tP T))) (t + 2) (nI (tL T))) (t + 3) (nI N)) (t + 4) (nI ty)) (t + 5) N1 := ⟨_, rfl⟩
  have put : ∀ (S : Mem) (g : Nat → Int32) (j : Nat) (v : Int32), mm_put (mm_stc S 22 g) 22 j v = mm_stc S 22 (upd g j v) := fun S g j v => mm_put_stc S 22 j g v
  have st : ∀ (g : Nat → Int32) (j : Nat) (v : Int32), j < 6 → mm_runD (d + 1) 65 [.inr 21, .inl (nI (t + j)), .inl v] (mm_stc S 22 g) = some (mm_stc S 22 (upd g (t + j) v), 0, 0, 0, 0) := by
    intro g j v hj
    rw [mq_set (rm_stc hn (by decide)) (by omega), put]
  have S0 : S = mm_stc S 22 (S 22) := (mm_stc_self S 22).symm
  have g3 : ∀ g, (mm_stc S 22 g) 21 3 = nI t := fun _ => h3
  have g4 : ∀ g, (mm_stc S 22 g) 21 4 = nI (tP T) := fun _ => h4
  have g5 : ∀ g, (mm_stc S 22 g) 21 5 = nI (tL T) := fun _ => h5
  refine ⟨f, ?_, ?_, ?_, ?_, ?_, ?_, fun j hj => ?_⟩
  · rw [dX5_keepFor, eX5_keepFor_0, S0, g3, g4, nI_1, st _ 1 _ (by omega), mm_bd_ret, g3, g5, show nI t + 2 = nI (t + 2) from nI_add t 2, st _ 2 _ (by omega), mm_bd_ret, g3, show nI t + 3 = nI (t + 3) from nI_add t 3, st _ 3 _ (by omega), mm_bd_ret, g3, show nI t + 4 = nI (t + 4) from nI_add t 4, st _ 4 _ (by omega), mm_bd_ret, g3, show nI t + 5 = nI (t + 5) from nI_add t 5, st _ 5 _ (by omega), mm_bd_ret, ef, ← S0]
  · rw [ef]; simp (disch := omega) only [pk_un, pk_us]
  · rw [ef]; simp (disch := omega) only [pk_un, pk_us]
  · rw [ef]; simp (disch := omega) only [pk_un, pk_us]
  · rw [ef]; simp (disch := omega) only [pk_un, pk_us]
  · rw [ef]; simp (disch := omega) only [pk_us]
  · rw [ef]; simp (disch := omega) only [pk_un]
end
