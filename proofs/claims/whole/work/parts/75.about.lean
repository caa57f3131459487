/-! PURE: promise 17 (about) -/
noncomputable def abV (v : Nat → Int32) (x : Int32) : Int32 := @ite Int32 (x.toInt < 0 ∨ 6 < x.toInt) (Classical.propDecidable _) N1 (v x.toNatClampNeg)
section
variable {d : Nat} {S : Mem}
theorem ab_cases {x : Int32} (h : ¬ (x.toInt < 0 ∨ 6 < x.toInt)) : ∃ a : Nat, a ≤ 6 ∧ x = nI a := by
  have h0 : ¬ x < 0 := fun q => by
    rw [Int32.lt_iff_toInt_lt] at q
    have e : (0 : Int32).toInt = 0 := rfl
    omega
  obtain ⟨a, ha, rfl⟩ := nI_of h0
  rw [nI_toInt ha] at h
  exact ⟨a, by omega, rfl⟩
theorem mq_about {v : Nat → Int32} (h0 : S 1 0 = v 0) (h1 : S 1 1 = v 1) (h2 : S 0 2 = v 2) (h3 : S 8 2 = v 3) (h4 : S 11 4 = v 4) (h5 : S 15 4 = v 5) (h6 : (S 19 3 = 0 ∧ v 6 = N1) ∨ (S 19 3 = 1 ∧ S 19 1 = v 6)) (x : Int32) : mm_runD (d + 2) 104 [.inr 0, .inl x] S = some (S, 0, 0, 0, abV v x) := by
  rw [dX7_about, eX7_about_0]
  unfold abV
  by_cases q : x.toInt < 0 ∨ 6 < x.toInt
  · rw [if_pos q, if_pos q, eX7_about_35]
  · obtain ⟨a, ha, rfl⟩ := ab_cases q
    rw [if_neg q, if_neg q, nI_clamp (by omega), nI_toInt (by omega)]
    rcases (show a = 0 ∨ a = 1 ∨ a = 2 ∨ a = 3 ∨ a = 4 ∨ a = 5 ∨ a = 6 by omega) with rfl | rfl | rfl | rfl | rfl | rfl | rfl
    · show mm_E (mm_runD (d + 1)) pX7_about 1 2 _ [] S 0 0 = _
      rw [eX7_about_2, mp_typeCount, mm_bd_ret, h0]
    · show mm_E (mm_runD (d + 1)) pX7_about 1 6 _ [] S 0 0 = _
      rw [eX7_about_6, dX2_makerCount, eX2_makerCount_0, mm_bd_ret, h1]
    · show mm_E (mm_runD (d + 1)) pX7_about 1 10 _ [] S 0 0 = _
      rw [eX7_about_10, h2]
    · show mm_E (mm_runD (d + 1)) pX7_about 1 13 _ [] S 0 0 = _
      rw [eX7_about_13, dX3_count, eX3_count_0, mm_bd_ret, h3]
    · show mm_E (mm_runD (d + 1)) pX7_about 1 17 _ [] S 0 0 = _
      rw [eX7_about_17, dX1_count_11, eX1_count_11_0, mm_bd_ret, h4]
    · show mm_E (mm_runD (d + 1)) pX7_about 1 21 _ [] S 0 0 = _
      rw [eX7_about_21, dX1_count_15, eX1_count_15_0, mm_bd_ret, h5]
    · show mm_E (mm_runD (d + 1)) pX7_about 1 25 _ [] S 0 0 = _
      rw [eX7_about_25]
      rcases h6 with ⟨h6, h7⟩ | ⟨h6, h7⟩
      · rw [mq_stands0 h6, mm_bd_ret, if_pos rfl, h7]
      · rw [mq_stands1 h6, mm_bd_ret, if_neg (by decide), dX6_count, eX6_count_0, mm_bd_ret, h7]
theorem mr_about {v : Nat → Int32} (h0 : S 27 1 = v 0) (h1 : S 27 2 = v 1) (h2 : S 27 6 = v 2) (h3 : S 27 7 = v 3) (h4 : S 27 8 = v 4) (h5 : S 27 9 = v 5) (h6 : S 27 24 = v 6) (x : Int32) : mm_runD (d + 1) 154 [.inr 27, .inl x] S = some (mm_put S 27 0 0, 0, 0, 0, abV v x) := by
  obtain ⟨e1, e2, e3, e4, e5, e6, e7, e8⟩ := eX8_about_x (call := mm_runD d) (S := mm_put S 27 0 0) (kc := 0) (ks := 0) (o1 := some (.inl x))
  rw [dX8_about, eX8_about_0]
  unfold abV
  by_cases q : x.toInt < 0 ∨ 6 < x.toInt
  · rw [if_pos q, if_pos q, e8]
  · obtain ⟨a, ha, rfl⟩ := ab_cases q
    rw [if_neg q, if_neg q, nI_clamp (by omega), nI_toInt (by omega)]
    rcases (show a = 0 ∨ a = 1 ∨ a = 2 ∨ a = 3 ∨ a = 4 ∨ a = 5 ∨ a = 6 by omega) with rfl | rfl | rfl | rfl | rfl | rfl | rfl
    · exact e1.trans (by rw [show (mm_put S 27 0 0) 27 1 = v 0 from h0])
    · exact e2.trans (by rw [show (mm_put S 27 0 0) 27 2 = v 1 from h1])
    · exact e3.trans (by rw [show (mm_put S 27 0 0) 27 6 = v 2 from h2])
    · exact e4.trans (by rw [show (mm_put S 27 0 0) 27 7 = v 3 from h3])
    · exact e5.trans (by rw [show (mm_put S 27 0 0) 27 8 = v 4 from h4])
    · exact e6.trans (by rw [show (mm_put S 27 0 0) 27 9 = v 5 from h5])
    · exact e7.trans (by rw [show (mm_put S 27 0 0) 27 24 = v 6 from h6])
end
