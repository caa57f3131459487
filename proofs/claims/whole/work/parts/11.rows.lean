theorem mm_all_cut {l : List MI} (n : Nat) (h1 : (l.take n).all mm_okM = true) (h2 : (l.drop n).all mm_okM = true) : l.all mm_okM = true := by
  rw [← List.take_append_drop n l, List.all_append, h1, h2]; rfl
theorem mm_ok0_0 : ((mm_MT0.drop 0).take 5).all mm_okM = true := by decide +kernel
theorem mm_ok0_1 : ((mm_MT0.drop 5).take 5).all mm_okM = true := by decide +kernel
theorem mm_ok0_2 : ((mm_MT0.drop 10).take 5).all mm_okM = true := by decide +kernel
theorem mm_ok0_3 : (mm_MT0.drop 15).all mm_okM = true := by decide +kernel
theorem mm_ok0 : mm_MT0.all mm_okM = true := mm_all_cut 5 mm_ok0_0 (mm_all_cut 5 mm_ok0_1 (mm_all_cut 5 (by rw [List.drop_drop]; exact mm_ok0_2) (by rw [List.drop_drop, List.drop_drop]; exact mm_ok0_3)))
theorem mm_ok1_0 : ((mm_MT1.drop 0).take 5).all mm_okM = true := by decide +kernel
theorem mm_ok1_1 : ((mm_MT1.drop 5).take 5).all mm_okM = true := by decide +kernel
theorem mm_ok1_2 : ((mm_MT1.drop 10).take 5).all mm_okM = true := by decide +kernel
theorem mm_ok1_3 : (mm_MT1.drop 15).all mm_okM = true := by decide +kernel
theorem mm_ok1 : mm_MT1.all mm_okM = true := mm_all_cut 5 mm_ok1_0 (mm_all_cut 5 mm_ok1_1 (mm_all_cut 5 (by rw [List.drop_drop]; exact mm_ok1_2) (by rw [List.drop_drop, List.drop_drop]; exact mm_ok1_3)))
theorem mm_ok2_0 : ((mm_MT2.drop 0).take 5).all mm_okM = true := by decide +kernel
theorem mm_ok2_1 : ((mm_MT2.drop 5).take 5).all mm_okM = true := by decide +kernel
theorem mm_ok2_2 : ((mm_MT2.drop 10).take 5).all mm_okM = true := by decide +kernel
theorem mm_ok2_3 : (mm_MT2.drop 15).all mm_okM = true := by decide +kernel
theorem mm_ok2 : mm_MT2.all mm_okM = true := mm_all_cut 5 mm_ok2_0 (mm_all_cut 5 mm_ok2_1 (mm_all_cut 5 (by rw [List.drop_drop]; exact mm_ok2_2) (by rw [List.drop_drop, List.drop_drop]; exact mm_ok2_3)))
theorem mm_ok3_0 : ((mm_MT3.drop 0).take 5).all mm_okM = true := by decide +kernel
theorem mm_ok3_1 : ((mm_MT3.drop 5).take 5).all mm_okM = true := by decide +kernel
theorem mm_ok3_2 : ((mm_MT3.drop 10).take 5).all mm_okM = true := by decide +kernel
theorem mm_ok3_3 : (mm_MT3.drop 15).all mm_okM = true := by decide +kernel
theorem mm_ok3 : mm_MT3.all mm_okM = true := mm_all_cut 5 mm_ok3_0 (mm_all_cut 5 mm_ok3_1 (mm_all_cut 5 (by rw [List.drop_drop]; exact mm_ok3_2) (by rw [List.drop_drop, List.drop_drop]; exact mm_ok3_3)))
theorem mm_ok4_0 : ((mm_MT4.drop 0).take 5).all mm_okM = true := by decide +kernel
theorem mm_ok4_1 : ((mm_MT4.drop 5).take 5).all mm_okM = true := by decide +kernel
theorem mm_ok4_2 : ((mm_MT4.drop 10).take 5).all mm_okM = true := by decide +kernel
theorem mm_ok4_3 : (mm_MT4.drop 15).all mm_okM = true := by decide +kernel
theorem mm_ok4 : mm_MT4.all mm_okM = true := mm_all_cut 5 mm_ok4_0 (mm_all_cut 5 mm_ok4_1 (mm_all_cut 5 (by rw [List.drop_drop]; exact mm_ok4_2) (by rw [List.drop_drop, List.drop_drop]; exact mm_ok4_3)))
theorem mm_ok5_0 : ((mm_MT5.drop 0).take 5).all mm_okM = true := by decide +kernel
theorem mm_ok5_1 : ((mm_MT5.drop 5).take 5).all mm_okM = true := by decide +kernel
theorem mm_ok5_2 : ((mm_MT5.drop 10).take 5).all mm_okM = true := by decide +kernel
theorem mm_ok5_3 : (mm_MT5.drop 15).all mm_okM = true := by decide +kernel
theorem mm_ok5 : mm_MT5.all mm_okM = true := mm_all_cut 5 mm_ok5_0 (mm_all_cut 5 mm_ok5_1 (mm_all_cut 5 (by rw [List.drop_drop]; exact mm_ok5_2) (by rw [List.drop_drop, List.drop_drop]; exact mm_ok5_3)))
theorem mm_ok6_0 : ((mm_MT6.drop 0).take 5).all mm_okM = true := by decide +kernel
theorem mm_ok6_1 : ((mm_MT6.drop 5).take 5).all mm_okM = true := by decide +kernel
theorem mm_ok6_2 : ((mm_MT6.drop 10).take 5).all mm_okM = true := by decide +kernel
theorem mm_ok6_3 : (mm_MT6.drop 15).all mm_okM = true := by decide +kernel
theorem mm_ok6 : mm_MT6.all mm_okM = true := mm_all_cut 5 mm_ok6_0 (mm_all_cut 5 mm_ok6_1 (mm_all_cut 5 (by rw [List.drop_drop]; exact mm_ok6_2) (by rw [List.drop_drop, List.drop_drop]; exact mm_ok6_3)))
theorem mm_ok7_0 : ((mm_MT7.drop 0).take 5).all mm_okM = true := by decide +kernel
theorem mm_ok7_1 : ((mm_MT7.drop 5).take 5).all mm_okM = true := by decide +kernel
theorem mm_ok7_2 : ((mm_MT7.drop 10).take 5).all mm_okM = true := by decide +kernel
theorem mm_ok7_3 : (mm_MT7.drop 15).all mm_okM = true := by decide +kernel
theorem mm_ok7 : mm_MT7.all mm_okM = true := mm_all_cut 5 mm_ok7_0 (mm_all_cut 5 mm_ok7_1 (mm_all_cut 5 (by rw [List.drop_drop]; exact mm_ok7_2) (by rw [List.drop_drop, List.drop_drop]; exact mm_ok7_3)))
theorem mm_okAll {y : Nat} {q : MI} (h : mm_MT[y]? = some q) : mm_okM q = true := by
  have hq := List.mem_of_getElem? h
  unfold mm_MT at hq
  simp only [List.mem_append] at hq
  rcases hq with h | h | h | h | h | h | h | h
  · exact List.all_eq_true.mp mm_ok0 _ h
  · exact List.all_eq_true.mp mm_ok1 _ h
  · exact List.all_eq_true.mp mm_ok2 _ h
  · exact List.all_eq_true.mp mm_ok3 _ h
  · exact List.all_eq_true.mp mm_ok4 _ h
  · exact List.all_eq_true.mp mm_ok5 _ h
  · exact List.all_eq_true.mp mm_ok6 _ h
  · exact List.all_eq_true.mp mm_ok7 _ h
