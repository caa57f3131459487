theorem mm_MT_ok : (mm_MT.zip mm_MW).all mm_okW = true := by decide +kernel
theorem mm_good_code (a : MethodName) (b : ByteArray) (n : Nat) (d : Option FieldType) : goodWord (Cond.code a b n d) = true := rfl
theorem mm_cw_mem {l : List MI} {ix : List Nat} (h : l.map (fun q => some (Cond.code q.nm q.cc q.mL (mm_rty q.rt))) = ix.map (fun i => lw_tbl[i]?)) {q : MI} (hq : q ∈ l) : Cond.code q.nm q.cc q.mL (mm_rty q.rt) ∈ mm_ut := by
  have h1 : some (Cond.code q.nm q.cc q.mL (mm_rty q.rt)) ∈ ix.map (fun i => lw_tbl[i]?) := by rw [← h]; exact List.mem_map.mpr ⟨q, hq, rfl⟩
  obtain ⟨i, -, hi⟩ := List.mem_map.mp h1
  exact mm_in_ut (List.mem_of_getElem? hi) (mm_good_code _ _ _ _)
set_option maxRecDepth 100000 in
set_option maxHeartbeats 4000000 in
theorem mm_cw0 : mm_MT0.map (fun q => some (Cond.code q.nm q.cc q.mL (mm_rty q.rt))) = [609, 853, 857, 888, 879, 883, 297, 324, 526, 535, 531, 562, 586, 590, 582, 541, 304, 312, 316, 426].map (fun i => lw_tbl[i]?) := rfl
set_option maxRecDepth 100000 in
set_option maxHeartbeats 4000000 in
theorem mm_cw1 : mm_MT1.map (fun q => some (Cond.code q.nm q.cc q.mL (mm_rty q.rt))) = [477, 446, 493, 473, 485, 489, 481, 410, 464, 469, 456, 320, 578, 594, 663, 667, 952, 959, 972, 977].map (fun i => lw_tbl[i]?) := rfl
set_option maxRecDepth 100000 in
set_option maxHeartbeats 4000000 in
theorem mm_cw2 : mm_MT2.map (fun q => some (Cond.code q.nm q.cc q.mL (mm_rty q.rt))) = [963, 617, 764, 728, 752, 720, 775, 748, 740, 675, 736, 760, 768, 783, 622, 650, 679, 687, 691, 788].map (fun i => lw_tbl[i]?) := rfl
set_option maxRecDepth 100000 in
set_option maxHeartbeats 4000000 in
theorem mm_cw3 : mm_MT3.map (fun q => some (Cond.code q.nm q.cc q.mL (mm_rty q.rt))) = [793, 659, 654, 732, 683, 645, 695, 626, 460, 813, 285, 328, 289, 700, 724, 744, 756, 866, 779, 875].map (fun i => lw_tbl[i]?) := rfl
set_option maxRecDepth 100000 in
set_option maxHeartbeats 4000000 in
theorem mm_cw4 : mm_MT4.map (fun q => some (Cond.code q.nm q.cc q.mL (mm_rty q.rt))) = [841, 968, 870, 862, 900, 716, 708, 712, 704, 336, 418, 500, 508, 517, 572, 605, 821, 281, 848, 895].map (fun i => lw_tbl[i]?) := rfl
set_option maxRecDepth 100000 in
set_option maxHeartbeats 4000000 in
theorem mm_cw5 : mm_MT5.map (fun q => some (Cond.code q.nm q.cc q.mL (mm_rty q.rt))) = [907, 916, 943, 293, 308, 422, 452, 521, 920, 926, 931, 948, 613, 671, 1102, 1114, 1122, 1142, 1106, 1118].map (fun i => lw_tbl[i]?) := rfl
set_option maxRecDepth 100000 in
set_option maxHeartbeats 4000000 in
theorem mm_cw6 : mm_MT6.map (fun q => some (Cond.code q.nm q.cc q.mL (mm_rty q.rt))) = [1110, 1134, 1138, 1130, 1126, 1146, 1154, 1158, 1150, 1162, 1166, 1170, 1186, 1182, 1190, 1178, 1174, 1214, 1206, 1210].map (fun i => lw_tbl[i]?) := rfl
set_option maxRecDepth 100000 in
set_option maxHeartbeats 4000000 in
theorem mm_cw7 : mm_MT7.map (fun q => some (Cond.code q.nm q.cc q.mL (mm_rty q.rt))) = [1218, 1222, 1226, 1202, 1198, 1194, 1234, 1238, 1230, 1242, 1246, 1251, 1255, 1259, 1263].map (fun i => lw_tbl[i]?) := rfl
theorem mm_code_in {q : MI} (hq : q ∈ mm_MT) : Cond.code q.nm q.cc q.mL (mm_rty q.rt) ∈ mm_ut := by
  unfold mm_MT at hq
  simp only [List.mem_append] at hq
  rcases hq with h | h | h | h | h | h | h | h
  · exact mm_cw_mem mm_cw0 h
  · exact mm_cw_mem mm_cw1 h
  · exact mm_cw_mem mm_cw2 h
  · exact mm_cw_mem mm_cw3 h
  · exact mm_cw_mem mm_cw4 h
  · exact mm_cw_mem mm_cw5 h
  · exact mm_cw_mem mm_cw6 h
  · exact mm_cw_mem mm_cw7 h
theorem mm_MT_spec {y : Nat} {q : MI} {w : vw_C} (h : mm_MT[y]? = some q) (hq : vwCl[q.ci]? = some w) : (∀ (own : String) (ix : Nat), Cond.methodLink own ix q.nm ∈ mm_ut → GoodIn mm_ut (wsV own ix w.1 q.nm (mm_ws q))) ∧ (q.nm.cls = w.1 ∧ q.nm.cls ≠ "java/lang/invoke/MethodHandle" ∧ q.nm.cls ≠ "java/lang/invoke/VarHandle" ∧ (parseMethodDescriptor q.nm.desc).map (fun d => d.parameters.length) = some q.na) ∧ plainName q.nm.cls = true ∧ q.mL ≤ 21 ∧ q.na + 1 ≤ q.mL := by
  obtain ⟨b, h1⟩ := mm_zip_at mm_MT_ok rfl (List.mem_of_getElem? h)
  unfold mm_okW at h1
  rw [hq] at h1
  simp only [Bool.and_eq_true, decide_eq_true_eq] at h1
  obtain ⟨⟨⟨⟨⟨⟨⟨⟨⟨h1, h2⟩, h3⟩, h5⟩, h6⟩, h7⟩, h8⟩, h9⟩, h10⟩, h11⟩ := h1
  refine ⟨fun own ix hl w9 hw => ?_, ⟨h5, h7, h8, h9⟩, h6, h10, h11⟩
  have hm : w9 ∈ mm_ut := by
    simp only [wsV, mm_ws, List.cons_append, List.nil_append, List.mem_cons] at hw
    rcases hw with rfl | rfl | rfl | rfl | rfl | hw
    · exact hl
    · exact mm_wi_spec h1
    · exact mm_wi_spec h2
    · exact mm_wi_spec h3
    · exact mm_code_in (List.mem_of_getElem? h)
    · exact hw
  exact ⟨hm, good_of_word (mm_ut_good hm)⟩
