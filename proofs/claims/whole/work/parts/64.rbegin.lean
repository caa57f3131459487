/-! PURE: the reference makes a node of its table -/
section
variable {d : Nat} {S : Mem} {k : KK} {C R : Nat} {sz : Nat → Nat}
/-- what a node notes -/
def rn1 (S : Mem) (G : Nat → Int32) (k : KK) (T : TB) (i : Nat) (x1 x2 : Int32) : Prop := S 42 i = nI (kdT G T) ∧ S 47 i = x1 ∧ S 48 i = x2 ∧ S 45 i = nI (tP T) ∧ S 46 i = (if kdT G T = 1 then nI (tR T 0) else N1) ∧ (kdT G T = 2 → S 43 i = nI (tsT G T) ∧ S 44 i = nI (tyT G T) ∧ S 49 i = nI (lvl k (tyT G T) (kM k) 0).length)
theorem mr_node64 (hK : mr_K S k) (hW : kW k) (hr : rws S k C R sz) (hV : kV (S 30) k) {T : TB} (hT : tbR S T) (hw : wfT R sz T) (hty : ∀ j, j < tP T → tT T j < 8) {N c : Nat} (hN : N < 300) (hc : c = if tL T = 0 then 0 else tsT (S 32) T) {o1 o2 o5 : Option MV} {W : List (Nat × Nat)} (h25 : S 27 25 = nI W.length) (hw4 : W.length + 40 ≤ 2500) (h49 : S 49 N = nI 0) (hm : mst2 (S 50) (S 51) W) :
    ∃ S', mm_E (mm_runD (d + 2)) pX8_begin 0 64 [some (.inr 27), o1, o2, some (.inl (nI N)), some (.inl (nI c)), o5] [] S 0 0 = some (S', 0, 0, 0, 0) ∧ mfr [27, 42, 43, 44, 46, 49, 50, 51] S S' ∧ (∀ j, j ≠ 25 → S' 27 j = S 27 j) ∧ (∀ a, a ∈ [42, 43, 44, 46, 49] → ∀ j, j ≠ N → S' a j = S a j) ∧ S' 42 N = nI (kdT (S 32) T) ∧ S' 46 N = (if kdT (S 32) T = 1 then nI (tR T 0) else N1) ∧ (kdT (S 32) T = 2 → S' 43 N = nI (tsT (S 32) T) ∧ S' 44 N = nI (tyT (S 32) T) ∧ S' 49 N = nI (lvl k (tyT (S 32) T) (kM k) 0).length) ∧
      S' 27 25 = nI ((if kdT (S 32) T = 2 then (lvl k (tyT (S 32) T) (kM k) 0).map (fun m => (N, m)) else []) ++ W).length ∧ mst2 (S' 50) (S' 51) ((if kdT (S 32) T = 2 then (lvl k (tyT (S 32) T) (kM k) 0).map (fun m => (N, m)) else []) ++ W) := by
  have hM := hW.2.1
  have h1 := hT.1
  have h2 := hT.2.1
  have w1 := hw.1
  have w2 := hw.2.1
  have hN1 : N < 301 := by omega
  have a39 : ∀ (S : Mem) (kk : Nat → Option Res), mm_arr S 1 39 0 kk = kk 0 := fun _ _ => ar_39 (j := 0) (by omega)
  by_cases q0 : tL T = 0
  · have ek : kdT (S 32) T = 0 := if_pos q0
    rw [ek, if_neg (by decide), if_neg (by decide), List.nil_append]
    refine ⟨mm_put (mm_put S 42 N 0) 46 N (-1), ?_, mfr_tr (mfr_put (by simp)) (mfr_put (by simp)), fun _ _ => rfl, fun a ha j hj => ?_, ?_, mp_pp _ _ _ _, (fun z => by omega), h25, hm⟩
    · have e42 : (mm_put (mm_put S 42 N 0) 46 N (-1)) 42 N = 0 := by rw [mp_pn _ _ _ (by decide), mp_pp]
      rw [eX8_begin_64, h2, if_pos (by rw [q0]; rfl), ar_42 hN1, ar_42 hN1, mp_pp, if_neg (by decide), ar_46 hN1, ar_42 hN1, e42, if_neg (by decide)]
    · simp only [List.mem_cons, List.not_mem_nil, or_false] at ha
      rcases ha with rfl | rfl | rfl | rfl | rfl
      · rw [mp_pn _ _ _ (by decide), mp_pk _ _ _ hj]
      · rfl
      · rfl
      · rw [mp_pk _ _ _ hj]; rfl
      · rfl
    · rw [mp_pn _ _ _ (by decide), mp_pp] <;> rfl
  · rw [if_neg q0] at hc
    have hts := tsT_le (S 32) T
    have h18 : ¬ S 27 18 = 0 := by rw [h2]; exact nI_ne0 (by omega) (by omega)
    by_cases q1 : tsT (S 32) T = tP T
    · have ek : kdT (S 32) T = 1 := by unfold kdT; rw [if_neg q0, if_pos q1]
      rw [ek, if_pos rfl, if_neg (by decide), List.nil_append]
      refine ⟨mm_put (mm_put S 42 N 1) 46 N (nI (tR T 0)), ?_, mfr_tr (mfr_put (by simp)) (mfr_put (by simp)), fun _ _ => rfl, fun a ha j hj => ?_, ?_, mp_pp _ _ _ _, (fun z => by omega), h25, hm⟩
      · have e39 : (mm_put S 42 N 1) 39 0 = nI (tR T 0) := hT.2.2.2.1 0 (by omega)
        have e42 : (mm_put (mm_put S 42 N 1) 46 N (nI (tR T 0))) 42 N = 1 := by rw [mp_pn _ _ _ (by decide), mp_pp]
        rw [eX8_begin_64, if_neg h18, h1, if_pos (by rw [hc, q1]), ar_42 hN1, ar_42 hN1, mp_pp, if_pos rfl, a39, ar_46 hN1, e39, ar_42 hN1, e42, if_neg (by decide)]
      · simp only [List.mem_cons, List.not_mem_nil, or_false] at ha
        rcases ha with rfl | rfl | rfl | rfl | rfl
        · rw [mp_pn _ _ _ (by decide), mp_pk _ _ _ hj]
        · rfl
        · rfl
        · rw [mp_pk _ _ _ hj]; rfl
        · rfl
      · rw [mp_pn _ _ _ (by decide), mp_pp] <;> rfl
    · have ek : kdT (S 32) T = 2 := by unfold kdT; rw [if_neg q0, if_neg q1]
      have hlt : tsT (S 32) T < tP T := by omega
      have ht8 := hty (tsT (S 32) T) hlt
      rw [ek, if_neg (by decide), if_pos rfl]
      obtain ⟨S1, eS⟩ : ∃ S1, S1 = mm_put (mm_put (mm_put (mm_put S 42 N 2) 46 N (-1)) 43 N (nI c)) 44 N (nI (tyT (S 32) T)) := ⟨_, rfl⟩
      have F1 : mfr [27, 42, 43, 44, 46, 49, 50, 51] S S1 := by subst eS; exact mfr_tr (mfr_tr (mfr_tr (mfr_put (by simp)) (mfr_put (by simp))) (mfr_put (by simp))) (mfr_put (by simp))
      obtain ⟨S', a1, a2, a3, a4, a5, V, a6, a7, a8⟩ := mr_bg_push (d := d) hW (N := N) (t := tyT (S 32) T) hN1 (show tT T (tsT (S 32) T) < 2 ^ 31 by omega) (o1 := o1) (o2 := o2) (o4 := some (.inl (nI c))) (kM k) S1 W (Nat.le_refl _) (by subst eS; exact hK) (by subst eS; exact hV) (by subst eS; exact mp_pp _ _ _ _) (by subst eS; exact h25) (by omega) (by rw [Nat.sub_self]; subst eS; exact h49) (by subst eS; exact hm)
      rw [Nat.sub_self, show lvl k (tyT (S 32) T) 0 (kM k) = [] from rfl, List.map_nil, List.append_nil] at a6
      rw [← a6]
      have e42 : S1 42 N = 2 := by subst eS; rw [mp_pn _ _ _ (by decide), mp_pn _ _ _ (by decide), mp_pn _ _ _ (by decide), mp_pp]
      have e46 : S1 46 N = -1 := by subst eS; rw [mp_pn _ _ _ (by decide), mp_pn _ _ _ (by decide), mp_pp]
      have e43 : S1 43 N = nI c := by subst eS; rw [mp_pn _ _ _ (by decide), mp_pp]
      have e44 : S1 44 N = nI (tyT (S 32) T) := by subst eS; exact mp_pp _ _ _ _
      refine ⟨S', ?_, mfr_tr F1 (mfr_up a2 (by simp)), fun j hj => ?_, fun a ha j hj => ?_, ?_, ?_, fun _ => ⟨?_, ?_, a5⟩, a7, a8⟩
      · have x42 : (mm_put (mm_put S 42 N 2) 46 N (-1)) 42 N = 2 := by rw [mp_pn _ _ _ (by decide), mp_pp]
        have x38 : (mm_put (mm_put (mm_put S 42 N 2) 46 N (-1)) 43 N (nI c)) 38 c = nI (tyT (S 32) T) := by
          rw [hc]
          exact hT.2.2.1 (tsT (S 32) T) hlt
        have x2 : S1 27 2 = nI (kM k) := by subst eS; exact hK.2.1
        rw [eX8_begin_64, if_neg h18, h1, if_neg (show ¬ nI c = nI (tP T) from fun z => q1 (by rw [← hc]; exact (nI_eq (by omega) (by omega)).mp z)), ar_42 hN1, ar_42 hN1, mp_pp, if_neg (by decide), ar_46 hN1, ar_42 hN1, x42, if_pos rfl, ar_43 hN1, ar_38 (by omega), ar_44 hN1, x38, ← eS, x2]
        exact a1
      · rw [a3 j hj]; subst eS; rfl
      · simp only [List.mem_cons, List.not_mem_nil, or_false] at ha
        rcases ha with rfl | rfl | rfl | rfl | rfl
        · rw [a2 42 (by decide)]; subst eS; rw [mp_pn _ _ _ (by decide), mp_pn _ _ _ (by decide), mp_pn _ _ _ (by decide), mp_pk _ _ _ hj]
        · rw [a2 43 (by decide)]; subst eS; rw [mp_pn _ _ _ (by decide), mp_pk _ _ _ hj]; rfl
        · rw [a2 44 (by decide)]; subst eS; rw [mp_pk _ _ _ hj]; rfl
        · rw [a2 46 (by decide)]; subst eS; rw [mp_pn _ _ _ (by decide), mp_pn _ _ _ (by decide), mp_pk _ _ _ hj]; rfl
        · rw [a4 j hj]; subst eS; rfl
      · rw [a2 42 (by decide)]; exact e42
      · rw [a2 46 (by decide)]; exact e46
      · rw [a2 43 (by decide), e43, hc]
      · rw [a2 44 (by decide)]; exact e44
/-- begin, from the end of tableOf on -/
theorem mr_node (hK : mr_K S k) (hW : kW k) (hr : rws S k C R sz) (hV : kV (S 30) k) {T : TB} (hT : tbR S T) (hw : wfT R sz T) (hty : ∀ j, j < tP T → tT T j < 8) (h22 : S 27 22 = 0) {N : Nat} (hN : N < 300) (h24 : S 27 24 = nI N) {x1 x2 : Int32} {W : List (Nat × Nat)} (h25 : S 27 25 = nI W.length) (hw4 : W.length + 40 ≤ 2500) (hm : mst2 (S 50) (S 51) W) {S0 : Mem} (hS0 : mm_runD (d + 2) 143 [.inr 27, .inl x1, .inl x2] S0 = some (S, 0, 0, 0, 0)) :
    ∃ S', mm_runD (d + 3) 144 [.inr 27, .inl x1, .inl x2] S0 = some (S', 0, 0, 0, 0) ∧ mfr [27, 42, 43, 44, 45, 46, 47, 48, 49, 50, 51] S S' ∧ (∀ j, j ≠ 24 → j ≠ 25 → S' 27 j = S 27 j) ∧ S' 27 24 = nI (N + 1) ∧ (∀ a, a ∈ [42, 43, 44, 45, 46, 47, 48, 49] → ∀ j, j ≠ N → S' a j = S a j) ∧ rn1 S' (S 32) k T N x1 x2 ∧
      S' 27 25 = nI ((if kdT (S 32) T = 2 then (lvl k (tyT (S 32) T) (kM k) 0).map (fun m => (N, m)) else []) ++ W).length ∧ mst2 (S' 50) (S' 51) ((if kdT (S 32) T = 2 then (lvl k (tyT (S 32) T) (kM k) 0).map (fun m => (N, m)) else []) ++ W) := by
  have hN1 : N < 301 := by omega
  have h1 := hT.1
  have h2 := hT.2.1
  have w1 := hw.1
  have w2 := hw.2.1
  obtain ⟨S1, eS⟩ : ∃ S1, S1 = mm_put (mm_put (mm_put (mm_put (mm_put S 27 24 (nI (N + 1))) 47 N x1) 48 N x2) 49 N 0) 45 N (nI (tP T)) := ⟨_, rfl⟩
  have F1 : mfr [27, 42, 43, 44, 45, 46, 47, 48, 49, 50, 51] S S1 := by subst eS; exact mfr_tr (mfr_tr (mfr_tr (mfr_tr (mfr_put (by simp)) (mfr_put (by simp))) (mfr_put (by simp))) (mfr_put (by simp))) (mfr_put (by simp))
  have x49 : S1 49 N = nI 0 := by subst eS; rw [mp_pn _ _ _ (by decide), mp_pp] <;> rfl
  have e32 : S1 32 = S 32 := by subst eS; rfl
  obtain ⟨c, ec⟩ : ∃ c, c = if tL T = 0 then 0 else tsT (S 32) T := ⟨_, rfl⟩
  have hr1 : rws S1 k C R sz := by subst eS; exact hr
  have hT1 : tbR S1 T := by subst eS; exact hT
  obtain ⟨S', a1, a2, a3, a4, a5, a6, a7, a8, a9⟩ := mr_node64 (d := d) (S := S1) (k := k) (C := C) (R := R) (sz := sz) (by subst eS; exact hK) hW hr1 (by subst eS; exact hV) hT1 hw hty (N := N) (c := c) hN (by rw [e32]; exact ec) (o1 := some (.inl x1)) (o2 := some (.inl x2)) (o5 := none) (W := W) (by subst eS; exact h25) hw4 x49 (by subst eS; exact hm)
  rw [e32] at a5 a6 a7 a8 a9
  have x47 : S1 47 N = x1 := by subst eS; rw [mp_pn _ _ _ (by decide), mp_pn _ _ _ (by decide), mp_pn _ _ _ (by decide), mp_pp]
  have x48 : S1 48 N = x2 := by subst eS; rw [mp_pn _ _ _ (by decide), mp_pn _ _ _ (by decide), mp_pp]
  have x45 : S1 45 N = nI (tP T) := by subst eS; exact mp_pp _ _ _ _
  refine ⟨S', ?_, mfr_tr F1 (mfr_up a2 (by simp)), fun j u v => ?_, ?_, fun a ha j hj => ?_, ⟨a5, by rw [a2 47 (by decide)]; exact x47, by rw [a2 48 (by decide)]; exact x48, by rw [a2 45 (by decide)]; exact x45, a6, a7⟩, a8, a9⟩
  · have y17 : (mm_put (mm_put (mm_put (mm_put S 27 24 (nI (N + 1))) 47 N x1) 48 N x2) 49 N 0) 27 17 = nI (tP T) := h1
    have start : mm_runD (d + 3) 144 [.inr 27, .inl x1, .inl x2] S0 = mm_E (mm_runD (d + 2)) pX8_begin 0 47 [some (.inr 27), some (.inl x1), some (.inl x2), some (.inl (nI N)), some (.inl 0), none] [] S1 0 0 := by
      rw [dX8_begin, eX8_begin_0, hS0, mm_bd_ret, h22, if_pos rfl, h24, if_neg (show ¬ nI N = 300 from fun z => absurd ((nI_eq (b := 300) (by omega) (by omega)).mp z) (by omega)), nI_1, ar_47 hN1, ar_48 hN1, ar_49 hN1, ar_45 hN1, y17, ← eS]
    rw [start]
    by_cases q : tL T = 0
    · rw [if_pos q] at ec
      rw [ec, nI_0] at a1
      rw [eX8_begin_47, hT1.2.1, q, if_pos (by decide)]
      exact a1
    · rw [if_neg q] at ec
      have sc := mr_bg_scan (d := d + 1) (S := S1) hr1 hT1 hw q (o1 := some (.inl x1)) (o2 := some (.inl x2)) (o5 := none) (x3 := nI N) (tP T - 0) 0 rfl (by omega)
      rw [nI_0, e32] at sc
      rw [sc, show fst0 (S 32) T (tP T - 0) 0 = c from ec.symm]
      exact a1
  · rw [a3 j v]; subst eS; rw [mp_pn _ _ _ (by decide), mp_pn _ _ _ (by decide), mp_pn _ _ _ (by decide), mp_pn _ _ _ (by decide), mp_pk _ _ _ u]
  · rw [a3 24 (by decide)]; subst eS; rfl
  · simp only [List.mem_cons, List.not_mem_nil, or_false] at ha
    have old : S1 a j = S a j := by
      subst eS
      rcases ha with rfl | rfl | rfl | rfl | rfl | rfl | rfl | rfl
      · rfl
      · rfl
      · rfl
      · rw [mp_pk _ _ _ hj]; rfl
      · rfl
      · rw [mp_pn _ _ _ (by decide), mp_pn _ _ _ (by decide), mp_pn _ _ _ (by decide), mp_pk _ _ _ hj]; rfl
      · rw [mp_pn _ _ _ (by decide), mp_pn _ _ _ (by decide), mp_pk _ _ _ hj]; rfl
      · rw [mp_pn _ _ _ (by decide), mp_pk _ _ _ hj]; rfl
    rw [← old]
    rcases ha with rfl | rfl | rfl | rfl | rfl | rfl | rfl | rfl
    · exact a4 42 (by simp) j hj
    · exact a4 43 (by simp) j hj
    · exact a4 44 (by simp) j hj
    · rw [a2 45 (by decide)]
    · exact a4 46 (by simp) j hj
    · rw [a2 47 (by decide)]
    · rw [a2 48 (by decide)]
    · exact a4 49 (by simp) j hj
end
