/-! PURE: memory reads; promise 2 (type), class and reference -/
theorem mp_pp (S : Mem) (c k : Nat) (v : Int32) : mm_put S c k v c k = v := by unfold mm_put; rw [mm_stc_at]; exact pk_us
theorem mp_pk (S : Mem) (c : Nat) {k j : Nat} (v : Int32) (h : j ≠ k) : mm_put S c k v c j = S c j := by unfold mm_put; rw [mm_stc_at]; exact pk_un h
theorem mp_pn (S : Mem) {c x : Nat} (k : Nat) (v : Int32) (h : x ≠ c) : mm_put S c k v x = S x := mm_stc_ne _ _ h
theorem mp_typeCount {d : Nat} {S : Mem} : mm_runD (d + 1) 17 [.inr 1] S = some (S, 0, 0, 0, S 1 0) := by
  rw [dX2_typeCount, eX2_typeCount_0]
theorem mp_type_full {d : Nat} {S : Mem} (h : S 1 0 = nI 8) : mm_runD (d + 2) 89 [.inr 0] S = some (S, 1, 6, 1, 0) := by
  rw [dX7_type, eX7_type_0, mp_typeCount, mm_bd_ret, h, if_neg (by decide)]
theorem mp_type_ok {d T : Nat} {S : Mem} (h : S 1 0 = nI T) (hT : T < 8) : mm_runD (d + 2) 89 [.inr 0] S = some (mm_put S 1 0 (nI (T + 1)), 0, 0, 0, nI T) := by
  rw [dX7_type, eX7_type_0, mp_typeCount, mm_bd_ret, h, if_pos (show nI T < 8 from nI_lt (b := 8) hT (by decide)), dX2_addType, eX2_addType_0, h, if_neg (mp_nge 8 8 rfl hT (by decide)), mm_bd_ret, nI_1]
theorem mr_type_full {d : Nat} {S : Mem} (h : S 27 1 = nI 8) : mm_runD (d + 1) 118 [.inr 27] S = some (mm_put S 27 0 1, 0, 0, 0, 0) := by
  rw [dX8_type, eX8_type_0, h, if_pos (show nI 8 = 8 from rfl), mp_pp, if_neg (by decide)]
theorem mr_type_ok {d T : Nat} {S : Mem} (h : S 27 1 = nI T) (hT : T < 8) : mm_runD (d + 1) 118 [.inr 27] S = some (mm_put (mm_put S 27 0 0) 27 1 (nI (T + 1)), 0, 0, 0, nI T) := by
  have e1 : ¬ S 27 1 = 8 := by
    rw [h]
    exact fun q => absurd ((nI_eq (by omega) (by decide)).mp (show nI T = nI 8 from q)) (by omega)
  rw [dX8_type, eX8_type_0, if_neg e1, mp_pp, if_pos (by decide), mp_pp, mp_pk _ _ _ (by decide), h, nI_1, nI_pred]
theorem mr_isType_in {d T j : Nat} {S : Mem} (h : S 27 1 = nI T) (hT : T ≤ 8) (hj : j < T) : mm_runD (d + 1) 115 [.inr 27, .inl (nI j)] S = some (S, 0, 0, 0, 1) := by
  rw [dX8_isType, eX8_isType_0, if_neg (nI_pos (by omega)), h, if_neg (nI_ge hj (by omega))]
theorem mr_isType_out {d T : Nat} {t : Int32} {S : Mem} (h : S 27 1 = nI T) (ht : t < 0 ∨ nI T ≤ t) : mm_runD (d + 1) 115 [.inr 27, .inl t] S = some (S, 0, 0, 0, 0) := by
  rw [dX8_isType, eX8_isType_0]
  by_cases h0 : t < 0
  · rw [if_pos h0]
  · rcases ht with ht | ht
    · exact absurd ht h0
    · rw [if_neg h0, h, if_pos ht]
