/-! PURE: the class's tree: its notes -/
section
variable {d : Nat} {S : Mem} {N : Nat}
theorem mq_tget (h1 : S 19 1 = nI N) (hN : N ≤ 300) {i f : Nat} (hi : i < N) (hf : f < 9) : mm_runD (d + 1) 87 [.inr 19, .inl (nI i), .inl (nI f)] S = some (S, 0, 0, 0, S 20 (9 * i + f)) := by
  rw [dX6_get, eX6_get_0, if_neg (nI_pos (by omega)), h1, if_neg (nI_ge hi (by omega)), if_neg (nI_pos (by omega)), if_neg (show ¬ (9 : Int32) ≤ nI f from nI_ge (b := 9) hf (by decide)), li_9, nn_mul, nI_add, Nat.mul_comm i 9, ar_20 (by omega)]
theorem mq_tset (h1 : S 19 1 = nI N) (hN : N ≤ 300) {i f : Nat} {v : Int32} (hi : i < N) (hf : f < 9) : mm_runD (d + 1) 88 [.inr 19, .inl (nI i), .inl (nI f), .inl v] S = some (mm_put S 20 (9 * i + f) v, 0, 0, 0, 0) := by
  rw [dX6_set, eX6_set_0, if_neg (nI_pos (by omega)), h1, if_neg (nI_ge hi (by omega)), if_neg (nI_pos (by omega)), if_neg (show ¬ (9 : Int32) ≤ nI f from nI_ge (b := 9) hf (by decide)), li_9, nn_mul, nI_add, Nat.mul_comm i 9, ar_20 (by omega)]
/-- the branch of a number -/
theorem mq_branchAt {H : Nat → Nat} {p c : Nat} (h1 : S 19 1 = nI N) (hN : N ≤ 300) (hp : p < N) (h4 : S 20 (9 * p + 4) = nI c) (hc : c ≤ 300) (h5 : 0 < c → S 20 (9 * p + 5) = nI (H 0)) (hH : ∀ j, j < c → H j < N) (h6 : ∀ j, j + 1 < c → S 20 (9 * H j + 6) = nI (H (j + 1))) {j : Nat} (hj : j < c) : mm_runD (d + 2) 85 [.inr 19, .inl (nI p), .inl (nI j)] S = some (S, 0, 0, 0, nI (H j)) := by
  have loop : ∀ (z i : Nat), j - i = z → i ≤ j → mm_E (mm_runD (d + 1)) pX6_branchAt 1 15 [some (.inr 19), some (.inl (nI p)), some (.inl (nI j)), some (.inl (nI (H i))), some (.inl (nI i))] [] S 0 0 = some (S, 0, 0, 0, nI (H j)) := by
    intro z
    induction z with
    | zero =>
      intro i hz hi
      have e : i = j := by omega
      subst e
      rw [eX6_branchAt_15, if_pos (nI_le (Nat.le_refl _) (by omega))]
    | succ z ih =>
      intro i hz hi
      have g := mq_tget (d := d) (f := 6) h1 hN (hH i (by omega)) (by omega)
      rw [h6 i (by omega)] at g
      rw [eX6_branchAt_15, if_neg (nI_ge (by omega) (by omega))]
      show mm_bd (mm_runD (d + 1) 87 [.inr 19, .inl (nI (H i)), .inl (nI 6)] S) _ _ _ = _
      rw [g, mm_bd_ret, nI_1]
      exact ih (i + 1) (by omega) (by omega)
  have g4 := mq_tget (d := d) (f := 4) h1 hN hp (by omega)
  have g5 := mq_tget (d := d) (f := 5) h1 hN hp (by omega)
  rw [h4] at g4
  rw [h5 (by omega)] at g5
  rw [dX6_branchAt, eX6_branchAt_0]
  show mm_bd (mm_runD (d + 1) 87 [.inr 19, .inl (nI p), .inl (nI 4)] S) _ _ _ = _
  rw [g4, mm_bd_ret, if_pos (nI_lt hj (by omega))]
  show mm_bd (mm_runD (d + 1) 87 [.inr 19, .inl (nI p), .inl (nI 5)] S) _ _ _ = _
  rw [g5, mm_bd_ret]
  have := loop (j - 0) 0 rfl (by omega)
  rw [nI_0] at this
  exact this
/-- a branch is hung behind the last -/
theorem mq_hang {H : Nat → Nat} {p c b : Nat} (h1 : S 19 1 = nI N) (hN : N ≤ 300) (hp : p < N) (h4 : S 20 (9 * p + 4) = nI c) (hc : c < 300) (h5 : 0 < c → S 20 (9 * p + 5) = nI (H 0)) (hH : ∀ j, j < c → H j < N) (h6 : ∀ j, j + 1 < c → S 20 (9 * H j + 6) = nI (H (j + 1))) :
    ∃ f, mm_runD (d + 3) 86 [.inr 19, .inl (nI b), .inl (nI p)] S = some (mm_stc S 20 f, 0, 0, 0, 0) ∧ ∀ j, f j = if j = 9 * p + 4 then nI (c + 1) else if c = 0 ∧ j = 9 * p + 5 then nI b else if 0 < c ∧ j = 9 * H (c - 1) + 6 then nI b else S 20 j := by
  have g4 := mq_tget (d := d + 1) (f := 4) h1 hN hp (by omega)
  rw [h4] at g4
  have S0 : mm_stc S 20 (S 20) = S := mm_stc_self S 20
  rcases Nat.eq_zero_or_pos c with z | z
  · subst z
    refine ⟨upd (upd (S 20) (9 * p + 5) (nI b)) (9 * p + 4) (nI 1), ?_, fun j => ?_⟩
    · have s1 := mq_tset (d := d + 1) (f := 5) (v := nI b) h1 hN hp (by omega)
      have s2 := mq_tset (d := d + 1) (S := mm_put S 20 (9 * p + 5) (nI b)) (f := 4) (v := nI 1) h1 hN hp (by omega)
      have e : mm_put (mm_put S 20 (9 * p + 5) (nI b)) 20 (9 * p + 4) (nI 1) = mm_stc S 20 (upd (upd (S 20) (9 * p + 5) (nI b)) (9 * p + 4) (nI 1)) := by
        conv => lhs; rw [← S0]
        rw [mm_put_stc, mm_put_stc]
      rw [e] at s2
      rw [dX6_hang, eX6_hang_0]
      show mm_bd (mm_runD (d + 2) 87 [.inr 19, .inl (nI p), .inl (nI 4)] S) _ _ _ = _
      rw [g4, mm_bd_ret, if_pos nI_0]
      show mm_bd (mm_runD (d + 2) 88 [.inr 19, .inl (nI p), .inl (nI 5), .inl (nI b)] S) _ _ _ = _
      rw [s1, mm_bd_ret]
      show mm_bd (mm_runD (d + 2) 88 [.inr 19, .inl (nI p), .inl (nI 4), .inl (nI 0 + 1)] _) _ _ _ = _
      rw [nI_1, s2, mm_bd_ret]
    · by_cases q1 : j = 9 * p + 4
      · rw [if_pos q1, q1]; exact pk_us
      · rw [if_neg q1, show upd (upd (S 20) (9 * p + 5) (nI b)) (9 * p + 4) (nI 1) j = upd (S 20) (9 * p + 5) (nI b) j from pk_un q1]
        by_cases q2 : j = 9 * p + 5
        · rw [if_pos ⟨rfl, q2⟩, q2]; exact pk_us
        · rw [if_neg (fun y => q2 y.2), if_neg (fun y => by omega)]; exact pk_un q2
  · have hb := hH (c - 1) (by omega)
    refine ⟨upd (upd (S 20) (9 * H (c - 1) + 6) (nI b)) (9 * p + 4) (nI (c + 1)), ?_, fun j => ?_⟩
    · have ba := mq_branchAt (d := d) (H := H) h1 hN hp h4 (by omega) h5 hH h6 (j := c - 1) (by omega)
      have s1 := mq_tset (d := d + 1) (f := 6) (v := nI b) h1 hN hb (by omega)
      have s2 := mq_tset (d := d + 1) (S := mm_put S 20 (9 * H (c - 1) + 6) (nI b)) (f := 4) (v := nI (c + 1)) h1 hN hp (by omega)
      have e : mm_put (mm_put S 20 (9 * H (c - 1) + 6) (nI b)) 20 (9 * p + 4) (nI (c + 1)) = mm_stc S 20 (upd (upd (S 20) (9 * H (c - 1) + 6) (nI b)) (9 * p + 4) (nI (c + 1))) := by
        conv => lhs; rw [← S0]
        rw [mm_put_stc, mm_put_stc]
      rw [e] at s2
      rw [dX6_hang, eX6_hang_0]
      show mm_bd (mm_runD (d + 2) 87 [.inr 19, .inl (nI p), .inl (nI 4)] S) _ _ _ = _
      rw [g4, mm_bd_ret, if_neg (nI_ne0 z (by omega)), show nI c - 1 = nI (c - 1) from nn_sub (b := 1) z, ba, mm_bd_ret]
      show mm_bd (mm_runD (d + 2) 88 [.inr 19, .inl (nI (H (c - 1))), .inl (nI 6), .inl (nI b)] S) _ _ _ = _
      rw [s1, mm_bd_ret]
      show mm_bd (mm_runD (d + 2) 88 [.inr 19, .inl (nI p), .inl (nI 4), .inl (nI c + 1)] _) _ _ _ = _
      rw [nI_1, s2, mm_bd_ret]
    · by_cases q1 : j = 9 * p + 4
      · rw [if_pos q1, q1]; exact pk_us
      · rw [if_neg q1, show upd (upd (S 20) (9 * H (c - 1) + 6) (nI b)) (9 * p + 4) (nI (c + 1)) j = upd (S 20) (9 * H (c - 1) + 6) (nI b) j from pk_un q1, if_neg (fun y => by omega)]
        by_cases q2 : j = 9 * H (c - 1) + 6
        · rw [if_pos ⟨z, q2⟩, q2]; exact pk_us
        · rw [if_neg (fun y => q2 y.2)]; exact pk_un q2
theorem mq_tclear {x1 x2 : Int32} (hN : N < 300) (h1 : S 19 1 = nI (N + 1)) : ∀ (z i : Nat) (g : Nat → Int32), 9 - i = z → i ≤ 9 → ∃ g', mm_E (mm_runD (d + 1)) pX6_add 1 18 [some (.inr 19), some (.inl x1), some (.inl x2), some (.inl (nI N)), some (.inl (nI i))] [] (mm_stc S 20 g) 0 0 = mm_E (mm_runD (d + 1)) pX6_add 1 18 [some (.inr 19), some (.inl x1), some (.inl x2), some (.inl (nI N)), some (.inl (nI 9))] [] (mm_stc S 20 g') 0 0 ∧ ∀ j, g' j = if 9 * N + i ≤ j ∧ j < 9 * N + 9 then N1 else g j := by
  intro z
  induction z with
  | zero =>
    intro i g hz hi
    have e : i = 9 := by omega
    subst e
    exact ⟨g, rfl, fun j => by rw [if_neg (by omega)]⟩
  | succ z ih =>
    intro i g hz hi
    obtain ⟨g', a1, a2⟩ := ih (i + 1) (upd g (9 * N + i) N1) (by omega) (by omega)
    have st := mq_tset (d := d) (S := mm_stc S 20 g) (N := N + 1) (i := N) (f := i) (v := -1) h1 (by omega) (by omega) (by omega)
    refine ⟨g', ?_, fun j => ?_⟩
    · conv => lhs; rw [eX6_add_18]
      rw [if_neg (show ¬ (9 : Int32) ≤ nI i from nI_ge (b := 9) (by omega) (by decide)), st, mm_bd_ret, mm_put_stc, nI_1]
      exact a1
    · rw [a2]
      by_cases e : j = 9 * N + i
      · subst e
        rw [if_neg (by omega), if_pos (by omega)]; exact pk_us
      · by_cases w : 9 * N + (i + 1) ≤ j ∧ j < 9 * N + 9
        · rw [if_pos w, if_pos (by omega)]
        · rw [if_neg w, if_neg (by omega)]; exact pk_un e
/-- a node without a kind: the root -/
theorem mq_tadd0 (h1 : S 19 1 = nI 0) : ∃ f, mm_runD (d + 2) 73 [.inr 19, .inl (-1), .inl (-1)] S = some (mm_stc (mm_put S 19 1 (nI 1)) 20 f, 0, 0, 0, nI 0) ∧ ∀ j, j < 9 → f j = N1 := by
  obtain ⟨g', a1, a2⟩ := mq_tclear (d := d) (S := mm_put S 19 1 (nI 1)) (N := 0) (x1 := -1) (x2 := -1) (by omega) (mp_pp _ _ _ _) (9 - 0) 0 (S 20) rfl (by omega)
  have e0 : mm_stc (mm_put S 19 1 (nI 1)) 20 (S 20) = mm_put S 19 1 (nI 1) := mm_stc_self (mm_put S 19 1 (nI 1)) 20
  rw [e0, nI_0] at a1
  have s1 := mq_tset (d := d) (S := mm_stc (mm_put S 19 1 (nI 1)) 20 g') (N := 1) (i := 0) (f := 7) (v := -1) rfl (by omega) (by omega) (by omega)
  rw [mm_put_stc] at s1
  have s2 := mq_tset (d := d) (S := mm_stc (mm_put S 19 1 (nI 1)) 20 (upd g' (9 * 0 + 7) (-1))) (N := 1) (i := 0) (f := 8) (v := -1) rfl (by omega) (by omega) (by omega)
  rw [mm_put_stc] at s2
  refine ⟨upd (upd g' (9 * 0 + 7) (-1)) (9 * 0 + 8) (-1), ?_, fun j hj => ?_⟩
  · rw [dX6_add, eX6_add_0, h1, if_neg (by decide), if_pos (by decide), nI_1]
    show mm_E (mm_runD (d + 1)) pX6_add 1 18 [some (.inr 19), some (.inl (-1)), some (.inl (-1)), some (.inl 0), some (.inl 0)] [] (mm_put S 19 1 (nI 1)) 0 0 = _
    rw [a1, eX6_add_18, if_pos (by decide)]
    show mm_bd (mm_runD (d + 1) 88 [.inr 19, .inl (nI 0), .inl (nI 7), .inl (-1)] _) _ _ _ = _
    rw [s1, mm_bd_ret]
    show mm_bd (mm_runD (d + 1) 88 [.inr 19, .inl (nI 0), .inl (nI 8), .inl (-1)] _) _ _ _ = _
    rw [s2, mm_bd_ret, if_pos rfl]
    rfl
  · by_cases q8 : j = 9 * 0 + 8
    · rw [q8]; exact pk_us
    · rw [show upd (upd g' (9 * 0 + 7) (-1)) (9 * 0 + 8) (-1) j = upd g' (9 * 0 + 7) (-1) j from pk_un q8]
      by_cases q7 : j = 9 * 0 + 7
      · rw [q7]; exact pk_us
      · rw [show upd g' (9 * 0 + 7) (-1) j = g' j from pk_un q7, a2, if_pos (by omega)]
/-- a node without a kind: a branch -/
theorem mq_tadd {H : Nat → Nat} {p c m : Nat} (hN : N < 300) (h1 : S 19 1 = nI N) (hp : p < N) (hm : m < 40) (h4 : S 20 (9 * p + 4) = nI c) (hc : c < 300) (h5 : 0 < c → S 20 (9 * p + 5) = nI (H 0)) (hH : ∀ j, j < c → H j < N) (h6 : ∀ j, j + 1 < c → S 20 (9 * H j + 6) = nI (H (j + 1))) :
    ∃ f, mm_runD (d + 4) 73 [.inr 19, .inl (nI p), .inl (nI m)] S = some (mm_stc (mm_put S 19 1 (nI (N + 1))) 20 f, 0, 0, 0, nI N) ∧ (∀ j, j < 7 → f (9 * N + j) = N1) ∧ f (9 * N + 7) = nI p ∧ f (9 * N + 8) = nI m ∧ ∀ j, j < 9 * N → f j = if j = 9 * p + 4 then nI (c + 1) else if c = 0 ∧ j = 9 * p + 5 then nI N else if 0 < c ∧ j = 9 * H (c - 1) + 6 then nI N else S 20 j := by
  obtain ⟨g', a1, a2⟩ := mq_tclear (d := d + 2) (S := mm_put S 19 1 (nI (N + 1))) (N := N) (x1 := nI p) (x2 := nI m) hN (mp_pp _ _ _ _) (9 - 0) 0 (S 20) rfl (by omega)
  have e0 : mm_stc (mm_put S 19 1 (nI (N + 1))) 20 (S 20) = mm_put S 19 1 (nI (N + 1)) := mm_stc_self (mm_put S 19 1 (nI (N + 1))) 20
  rw [e0, nI_0] at a1
  have s1 := mq_tset (d := d + 2) (S := mm_stc (mm_put S 19 1 (nI (N + 1))) 20 g') (N := N + 1) (i := N) (f := 7) (v := nI p) rfl (by omega) (by omega) (by omega)
  rw [mm_put_stc] at s1
  have s2 := mq_tset (d := d + 2) (S := mm_stc (mm_put S 19 1 (nI (N + 1))) 20 (upd g' (9 * N + 7) (nI p))) (N := N + 1) (i := N) (f := 8) (v := nI m) rfl (by omega) (by omega) (by omega)
  rw [mm_put_stc] at s2
  obtain ⟨g2, eg2⟩ : ∃ g2, g2 = upd (upd g' (9 * N + 7) (nI p)) (9 * N + 8) (nI m) := ⟨_, rfl⟩
  rw [← eg2] at s2
  have low : ∀ j, j < 9 * N → g2 j = S 20 j := by
    intro j hj
    rw [eg2, show upd (upd g' (9 * N + 7) (nI p)) (9 * N + 8) (nI m) j = upd g' (9 * N + 7) (nI p) j from pk_un (by omega), show upd g' (9 * N + 7) (nI p) j = g' j from pk_un (by omega), a2, if_neg (by omega)]
  have m4 : (mm_stc (mm_put S 19 1 (nI (N + 1))) 20 g2) 20 (9 * p + 4) = nI c := by rw [mm_stc_at, low _ (by omega)]; exact h4
  have m5 : 0 < c → (mm_stc (mm_put S 19 1 (nI (N + 1))) 20 g2) 20 (9 * p + 5) = nI (H 0) := fun h => by rw [mm_stc_at, low _ (by omega)]; exact h5 h
  have m6 : ∀ j, j + 1 < c → (mm_stc (mm_put S 19 1 (nI (N + 1))) 20 g2) 20 (9 * H j + 6) = nI (H (j + 1)) := fun j hj => by
    have := hH j (by omega)
    rw [mm_stc_at, low _ (by omega)]; exact h6 j hj
  obtain ⟨f, b1, b2⟩ := mq_hang (d := d) (S := mm_stc (mm_put S 19 1 (nI (N + 1))) 20 g2) (N := N + 1) (H := H) (p := p) (c := c) (b := N) rfl (by omega) (by omega) m4 hc m5 (fun j hj => by have := hH j hj; omega) m6
  have ess : mm_stc (mm_stc (mm_put S 19 1 (nI (N + 1))) 20 g2) 20 f = mm_stc (mm_put S 19 1 (nI (N + 1))) 20 f := by
    funext x
    by_cases q : x = 20
    · subst q; rw [mm_stc_at, mm_stc_at]
    · rw [mm_stc_ne _ _ q, mm_stc_ne _ _ q, mm_stc_ne _ _ q]
  rw [ess] at b1
  rw [mm_stc_at] at b2
  have hi : ∀ j, 9 * N ≤ j → f j = g2 j := by
    intro j hj
    rw [b2, if_neg (by omega), if_neg (by omega), if_neg (fun y => by have := hH (c - 1) (by omega); omega)]
  refine ⟨f, ?_, fun j hj => ?_, ?_, ?_, fun j hj => ?_⟩
  · rw [dX6_add, eX6_add_0, h1, if_neg (nI_pos (by omega)), if_pos (show nI N < 300 from nI_lt (b := 300) hN (by decide)), nI_1, a1, eX6_add_18, if_pos (by decide)]
    show mm_bd (mm_runD (d + 3) 88 [.inr 19, .inl (nI N), .inl (nI 7), .inl (nI p)] _) _ _ _ = _
    rw [s1, mm_bd_ret]
    show mm_bd (mm_runD (d + 3) 88 [.inr 19, .inl (nI N), .inl (nI 8), .inl (nI m)] _) _ _ _ = _
    rw [s2, mm_bd_ret, if_neg (show ¬ nI p = -1 from fun q => (nn_a1 (a := p) (by omega)).mp q), b1, mm_bd_ret]
  · rw [hi _ (by omega), eg2, show upd (upd g' (9 * N + 7) (nI p)) (9 * N + 8) (nI m) (9 * N + j) = upd g' (9 * N + 7) (nI p) (9 * N + j) from pk_un (by omega), show upd g' (9 * N + 7) (nI p) (9 * N + j) = g' (9 * N + j) from pk_un (by omega), a2, if_pos (by omega)]
  · rw [hi _ (by omega), eg2, show upd (upd g' (9 * N + 7) (nI p)) (9 * N + 8) (nI m) (9 * N + 7) = upd g' (9 * N + 7) (nI p) (9 * N + 7) from pk_un (by omega)]; exact pk_us
  · rw [hi _ (by omega), eg2]; exact pk_us
  · rw [b2, low j hj]
end
