/-! THE WORLD of the small machine: 55 cells -/
def mm_rv (ad : Nat → Nat) : MV → Value
  | .inl x => .int x
  | .inr c => .ref (ad c)
theorem mm_rv_cat (ad : Nat → Nat) (v : MV) : (mm_rv ad v).category = 1 := by cases v <;> rfl
def mm_ent (cy : ClassId × ClassId × ClassId) (ad : Nat → Nat) (ov : Int64) (S : Mem) (c : Nat) : va_E := match mm_KD[c]? with
  | some (0, ci) => .inr (ci, (List.range (mm_NF[ci]?.getD 0)).map (fun k => mm_rv ad (mm_fv S c k)))
  | some (1, n) => .inl (cy.1, mm_len S c n, .inl (S c))
  | some (2, n) => .inl (cy.2.1, mm_len S c n, .inl (S c))
  | some (_, n) => .inl (cy.2.2, n, .inr (.inl (fun _ => ov)))
  | none => .inr (0, [])
def mm_W (cy : ClassId × ClassId × ClassId) (ad : Nat → Nat) (ov : Int64) (S : Mem) : va_W := (List.range 55).map (fun c => (ad c, mm_ent cy ad ov S c))
abbrev mm_ty (cy : ClassId × ClassId × ClassId) : List (ClassId × FieldType) := [(cy.1, .int), (cy.2.1, .boolean), (cy.2.2, .long)]
theorem mm_KD_lt {c : Nat} {q : Nat × Nat} (h : mm_KD[c]? = some q) : c < 55 := (List.getElem?_eq_some_iff.mp h).1
theorem mm_W_at {cy : ClassId × ClassId × ClassId} {ad : Nat → Nat} {ov : Int64} {S : Mem} {c : Nat} (hc : c < 55) : (mm_W cy ad ov S)[c]? = some (ad c, mm_ent cy ad ov S c) := by
  simp [mm_W, hc]
theorem mm_W_set {cy : ClassId × ClassId × ClassId} {ad : Nat → Nat} {ov : Int64} {S S' : Mem} {c : Nat} {e : va_E} (hc : c < 55) (h1 : mm_ent cy ad ov S' c = e) (h2 : ∀ x, x ≠ c → x < 55 → mm_ent cy ad ov S' x = mm_ent cy ad ov S x) : (mm_W cy ad ov S).set c (ad c, e) = mm_W cy ad ov S' := by
  apply List.ext_getElem?
  intro i
  by_cases hi : i < 55
  · rw [List.getElem?_set, mm_W_at hi]
    by_cases hic : c = i
    · subst hic
      simp [mm_W, hc, h1]
    · rw [if_neg hic, mm_W_at hi, h2 i (fun q => hic q.symm) hi]
  · rw [List.getElem?_eq_none (by simp [mm_W]; omega), List.getElem?_eq_none (by simp [mm_W]; omega)]
theorem mm_ent_congr {cy : ClassId × ClassId × ClassId} {ad : Nat → Nat} {ov : Int64} {S S' : Mem} {x : Nat} (h : S' x = S x) (h5 : S' 55 = S 55) : mm_ent cy ad ov S' x = mm_ent cy ad ov S x := by
  unfold mm_ent mm_fv mm_len
  rw [h, h5]
theorem mm_stc_at (S : Mem) (c : Nat) (f : Nat → Int32) : mm_stc S c f c = f := if_pos rfl
theorem mm_stc_ne (S : Mem) {c x : Nat} (f : Nat → Int32) (h : x ≠ c) : mm_stc S c f x = S x := if_neg h
theorem mm_ent_obj {cy : ClassId × ClassId × ClassId} {ad : Nat → Nat} {ov : Int64} {S : Mem} {c ci : Nat} (h : mm_KD[c]? = some (0, ci)) : mm_ent cy ad ov S c = .inr (ci, (List.range (mm_NF[ci]?.getD 0)).map (fun k => mm_rv ad (mm_fv S c k))) := by
  unfold mm_ent; rw [h]; rfl
theorem mm_ent_int {cy : ClassId × ClassId × ClassId} {ad : Nat → Nat} {ov : Int64} {S : Mem} {c n : Nat} (h : mm_KD[c]? = some (1, n)) : mm_ent cy ad ov S c = .inl (cy.1, mm_len S c n, .inl (S c)) := by
  unfold mm_ent; rw [h]; rfl
theorem mm_ent_boo {cy : ClassId × ClassId × ClassId} {ad : Nat → Nat} {ov : Int64} {S : Mem} {c n : Nat} (h : mm_KD[c]? = some (2, n)) : mm_ent cy ad ov S c = .inl (cy.2.1, mm_len S c n, .inl (S c)) := by
  unfold mm_ent; rw [h]; rfl
theorem mm_len_put (S : Mem) {c x k n : Nat} {v : Int32} (h : c ≠ 55) : mm_len (mm_put S c k v) x n = mm_len S x n := by
  unfold mm_len mm_put
  rw [mm_stc_ne _ _ (fun q => h q.symm)]
theorem mm_len_stc (S : Mem) {c x n : Nat} {f : Nat → Int32} (h : c ≠ 55) : mm_len (mm_stc S c f) x n = mm_len S x n := by
  unfold mm_len
  rw [mm_stc_ne _ _ (fun q => h q.symm)]
/-- an int array's cell is written -/
theorem mm_W_arr {cy : ClassId × ClassId × ClassId} {ad : Nat → Nat} {ov : Int64} {S : Mem} {c n : Nat} {f : Nat → Int32} (h : mm_KD[c]? = some (1, n)) : (mm_W cy ad ov S).set c (ad c, .inl (cy.1, mm_len S c n, .inl f)) = mm_W cy ad ov (mm_stc S c f) := by
  have hc := mm_KD_lt h
  refine mm_W_set hc ?_ ?_
  · rw [mm_ent_int h, mm_stc_at, mm_len_stc S (by omega)]
  · intro x hx _
    exact mm_ent_congr (mm_stc_ne _ _ hx) (mm_stc_ne _ _ (by omega))
theorem mm_W_boo {cy : ClassId × ClassId × ClassId} {ad : Nat → Nat} {ov : Int64} {S : Mem} {c n : Nat} {f : Nat → Int32} (h : mm_KD[c]? = some (2, n)) : (mm_W cy ad ov S).set c (ad c, .inl (cy.2.1, mm_len S c n, .inl f)) = mm_W cy ad ov (mm_stc S c f) := by
  have hc := mm_KD_lt h
  refine mm_W_set hc ?_ ?_
  · rw [mm_ent_boo h, mm_stc_at, mm_len_stc S (by omega)]
  · intro x hx _
    exact mm_ent_congr (mm_stc_ne _ _ hx) (mm_stc_ne _ _ (by omega))
/-- an object's number field is written -/
theorem mm_W_obj {cy : ClassId × ClassId × ClassId} {ad : Nat → Nat} {ov : Int64} {S : Mem} {c ci k : Nat} {v : Int32} (h : mm_KD[c]? = some (0, ci)) (hr : mm_rf c k = none) : (mm_W cy ad ov S).set c (ad c, .inr (ci, ((List.range (mm_NF[ci]?.getD 0)).map (fun k => mm_rv ad (mm_fv S c k))).set k (.int v))) = mm_W cy ad ov (mm_put S c k v) := by
  have hc := mm_KD_lt h
  refine mm_W_set hc ?_ ?_
  · rw [mm_ent_obj h]
    refine congrArg (fun z => Sum.inr (ci, z)) ?_
    apply List.ext_getElem?
    intro i
    rw [List.getElem?_set]
    by_cases hik : k = i
    · subst hik
      by_cases hN : k < mm_NF[ci]?.getD 0
      · simp [hN, mm_fv, hr, mm_put, mm_stc_at, upd, mm_rv]
      · simp [hN]
    · rw [if_neg hik]
      by_cases hN : i < mm_NF[ci]?.getD 0
      · have : mm_fv (mm_put S c k v) c i = mm_fv S c i := by
          unfold mm_fv mm_put
          cases mm_rf c i with
          | some t => rfl
          | none =>
            simp [mm_stc_at, upd]
            exact fun q => absurd q.symm hik
        simp [hN, this]
      · simp [hN]
  · intro x hx _
    exact mm_ent_congr (mm_stc_ne _ _ hx) (mm_stc_ne _ _ (by omega))
/-- the locals -/
def mm_lh (ad : Nat → Nat) (ls : Array Slot) (nL : Nat) (L : List (Option MV)) : Prop := ls.size = nL ∧ lv_wf ls ∧ L.length = nL ∧ (∀ (i : Nat) (v : MV), L[i]? = some (some v) → ls[i]? = some (.val (mm_rv ad v))) ∧ mm_noRmL L = true
def mm_lv (ad : Nat → Nat) (L : List (Option MV)) : List (Nat × Value) := (List.range L.length).filterMap (fun i => match L[i]? with
  | some (some v) => some (i, mm_rv ad v)
  | _ => none)
theorem mm_lv_mem {ad : Nat → Nat} {L : List (Option MV)} {q : Nat × Value} : q ∈ mm_lv ad L ↔ ∃ (i : Nat) (v : MV), L[i]? = some (some v) ∧ q = (i, mm_rv ad v) := by
  unfold mm_lv
  rw [List.mem_filterMap]
  constructor
  · rintro ⟨i, -, h⟩
    split at h
    · rename_i v hv
      exact ⟨i, v, hv, (Option.some.inj h).symm⟩
    · cases h
  · rintro ⟨i, v, hv, rfl⟩
    refine ⟨i, List.mem_range.mpr (List.getElem?_eq_some_iff.mp hv).1, ?_⟩
    rw [hv]
theorem mm_lh.has {ad : Nat → Nat} {ls : Array Slot} {nL : Nat} {L : List (Option MV)} (h : mm_lh ad ls nL L) : lv_has ls nL (mm_lv ad L) := by
  refine ⟨h.1, h.2.1, fun q hq => ?_⟩
  obtain ⟨i, v, hv, rfl⟩ := mm_lv_mem.mp hq
  exact h.2.2.2.1 i v hv
theorem mm_noRmL_set {L : List (Option MV)} {i : Nat} {y : Int32} (h : mm_noRmL L = true) : mm_noRmL (L.set i (some (.inl y))) = true := by
  unfold mm_noRmL at h ⊢
  rw [List.all_eq_true] at h ⊢
  intro z hz
  rcases List.mem_or_eq_of_mem_set hz with hz | rfl
  · exact h z hz
  · rfl
theorem mm_lh.stored {ad : Nat → Nat} {ls ls' : Array Slot} {nL i : Nat} {L : List (Option MV)} {y : Int32} (h : mm_lh ad ls nL L) (h' : lv_has ls' nL ((i, mm_rv ad (.inl y)) :: (mm_lv ad L).filter (fun q => !(q.1 == i) && !(q.1 + 1 == i && q.2.category == 2)))) : mm_lh ad ls' nL (L.set i (some (.inl y))) := by
  refine ⟨h'.1, h'.2.1, by rw [List.length_set]; exact h.2.2.1, fun j w hw => ?_, mm_noRmL_set h.2.2.2.2⟩
  rw [List.getElem?_set] at hw
  by_cases hij : i = j
  · subst hij
    rw [if_pos rfl] at hw
    split at hw
    · cases Option.some.inj (Option.some.inj hw)
      exact h'.2.2 _ List.mem_cons_self
    · cases hw
  · rw [if_neg hij] at hw
    refine h'.2.2 (j, mm_rv ad w) (List.mem_cons_of_mem _ (List.mem_filter.mpr ⟨mm_lv_mem.mpr ⟨j, w, hw, rfl⟩, ?_⟩))
    simp [mm_rv_cat]
    exact fun q => hij q.symm
/-- other addresses for the cell that grows: nothing that is held names it -/
theorem mm_lh.move {ad ad' : Nat → Nat} {ls : Array Slot} {nL : Nat} {L : List (Option MV)} (h : mm_lh ad ls nL L) (ha : ∀ c, c ≠ mm_RM → ad' c = ad c) : mm_lh ad' ls nL L := by
  have hL := h.2.2.2.2
  refine ⟨h.1, h.2.1, h.2.2.1, fun i v hv => ?_, hL⟩
  rw [h.2.2.2.1 i v hv]
  have h1 := List.all_eq_true.mp hL _ (List.mem_of_getElem? hv)
  cases v with
  | inl x => rfl
  | inr c =>
    have : c ≠ mm_RM := by intro q; subst q; simp at h1
    simp [mm_rv, ha c this]
theorem mm_rv_move {ad ad' : Nat → Nat} {st : List MV} (hL : mm_noRm st = true) (ha : ∀ c, c ≠ mm_RM → ad' c = ad c) : st.map (mm_rv ad') = st.map (mm_rv ad) := by
  apply List.map_congr_left
  intro v hv
  have h1 := List.all_eq_true.mp hL _ hv
  cases v with
  | inl x => rfl
  | inr c =>
    have : c ≠ mm_RM := by intro q; subst q; simp at h1
    simp [mm_rv, ha c this]
