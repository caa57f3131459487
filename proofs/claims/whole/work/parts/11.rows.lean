theorem mm_ok0 : mm_MT0.all mm_okM = true := by decide +kernel
theorem mm_ok1 : mm_MT1.all mm_okM = true := by decide +kernel
theorem mm_ok2 : mm_MT2.all mm_okM = true := by decide +kernel
theorem mm_ok3 : mm_MT3.all mm_okM = true := by decide +kernel
theorem mm_ok4 : mm_MT4.all mm_okM = true := by decide +kernel
theorem mm_ok5 : mm_MT5.all mm_okM = true := by decide +kernel
theorem mm_ok6 : mm_MT6.all mm_okM = true := by decide +kernel
theorem mm_ok7 : mm_MT7.all mm_okM = true := by decide +kernel
theorem mm_okAll {y : Nat} {q : MI} (h : mm_MT[y]? = some q) : mm_okM q = true := by
  have hq := List.mem_of_getElem? h
  unfold mm_MT at hq
  simp only [List.mem_append] at hq
  rcases hq with h | h | h | h | h | h | h | h
  · exact List.all_eq_true.mp mm_ok0 _ h
  · exact List.all_eq_true.mp mm_ok1 _ h
  · exact List.all_eq_true.mp mm_ok2 _ h
  · exact List.all_eq_true.mp mm_ok3 _ h
  · exact List.all_eq_true.mp mm_ok4 _ h
  · exact List.all_eq_true.mp mm_ok5 _ h
  · exact List.all_eq_true.mp mm_ok6 _ h
  · exact List.all_eq_true.mp mm_ok7 _ h
