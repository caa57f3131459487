theorem mm_XT_a : mm_XT.all (fun t => decide (Cond.classLink RX7 t.1 (mm_exn t.2.2) ∈ mm_ut) && decide (Cond.initialized (mm_exn t.2.2) ∈ mm_ut)) = true := by decide +kernel
theorem mm_XT_b : mm_XT.all (fun t => Bundle.fit (mm_exn t.2.2)) = true := by decide +kernel
theorem mm_XT_c : mm_XT.all (fun t => decide (t.2.2 ≠ 0)) = true := by decide +kernel
theorem mm_XT_e : mm_XT.all (fun t => (vx_atS RX7 t.2.1 (mm_exn t.2.2) mm_en).all (fun w => vx_ot w && (goodWord w || mm_cd w))) = true := by decide +kernel
theorem mm_XT_f : mm_XT.all (fun t => vx_ot (Cond.classLink RX7 t.1 (mm_exn t.2.2)) && vx_ot (Cond.initialized (mm_exn t.2.2))) = true := by decide +kernel
theorem mm_fit_en : ∀ n ∈ mm_en, Bundle.fit n = true := by decide +kernel
theorem mm_XT_d1 : ∀ w ∈ vx_atS RX7 85 (mm_exn 1) mm_en, w ∈ lw_tbl := by decide +kernel
theorem mm_XT_d3 : ∀ w ∈ vx_atS RX7 103 (mm_exn 3) mm_en, w ∈ lw_tbl := by decide +kernel
theorem mm_XT_d2 : ∀ w ∈ vx_atS RX7 141 (mm_exn 2) mm_en, w ∈ lw_tbl := by decide +kernel
theorem mm_XT_d4 : ∀ w ∈ vx_atS RX7 174 (mm_exn 4) mm_en, w ∈ lw_tbl := by decide +kernel
theorem mm_XT_at {ix ic x : Nat} (h : (ix, ic, x) ∈ mm_XT) (h5 : x ≠ 5) : ∀ w ∈ vx_atS RX7 ic (mm_exn x) mm_en, w ∈ lw_tbl := by
  simp only [mm_XT, List.mem_cons, List.not_mem_nil, or_false, Prod.mk.injEq] at h
  rcases h with ⟨-, rfl, rfl⟩ | ⟨-, rfl, rfl⟩ | ⟨-, rfl, rfl⟩ | ⟨-, rfl, rfl⟩ | ⟨-, rfl, rfl⟩
  · exact mm_XT_d1
  · exact mm_XT_d3
  · exact mm_XT_d2
  · exact mm_XT_d4
  · exact absurd rfl h5
