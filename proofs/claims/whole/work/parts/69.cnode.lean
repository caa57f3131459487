/-! PURE: the class makes a node of the table on top -/
/-- what a node notes -/
def cn1 (f : Nat → Int32) (G : Nat → Int32) (T : TB) (i nc : Nat) (x1 x2 : Int32) : Prop := f (9 * i) = nI (kdT G T) ∧ f (9 * i + 1) = (if kdT G T = 0 then N1 else if kdT G T = 1 then nI (tR T 0) else nI (tyT G T)) ∧ f (9 * i + 2) = (if kdT G T = 2 then nI (tP T) else N1) ∧ f (9 * i + 3) = (if kdT G T = 2 then nI (tsT G T) else N1) ∧ f (9 * i + 4) = (if kdT G T = 2 then nI nc else N1) ∧ f (9 * i + 7) = x1 ∧ f (9 * i + 8) = x2
section
variable {d : Nat} {S : Mem} {k : KK} {C R : Nat} {sz : Nat → Nat} {n N : Nat}
theorem mq_makeFail (h1 : S 19 1 = nI (N + 1)) (hN : N < 300) : mm_runD (d + 2) 74 [.inr 19, .inl (nI N)] S = some (mm_put (mm_put S 20 (9 * N) 0) 19 2 (S 19 2 + 1), 0, 0, 0, 0) := by
  have s0 := mq_tset (d := d) (N := N + 1) (i := N) (f := 0) (v := 0) h1 (by omega) (by omega) (by omega)
  rw [show 9 * N + 0 = 9 * N from rfl] at s0
  rw [dX6_makeFail, eX6_makeFail_0]
  show mm_bd (mm_runD (d + 1) 88 [.inr 19, .inl (nI N), .inl (nI 0), .inl 0] S) _ _ _ = _
  rw [s0, mm_bd_ret, mp_pn _ _ _ (by decide)]
theorem mq_makeLeaf (h1 : S 19 1 = nI (N + 1)) (hN : N < 300) (v : Int32) : mm_runD (d + 2) 75 [.inr 19, .inl (nI N), .inl v] S = some (mm_put (mm_put S 20 (9 * N) 1) 20 (9 * N + 1) v, 0, 0, 0, 0) := by
  have s0 := mq_tset (d := d) (N := N + 1) (i := N) (f := 0) (v := 1) h1 (by omega) (by omega) (by omega)
  rw [show 9 * N + 0 = 9 * N from rfl] at s0
  have s1 := mq_tset (d := d) (S := mm_put S 20 (9 * N) 1) (N := N + 1) (i := N) (f := 1) (v := v) h1 (by omega) (by omega) (by omega)
  rw [dX6_makeLeaf, eX6_makeLeaf_0]
  show mm_bd (mm_runD (d + 1) 88 [.inr 19, .inl (nI N), .inl (nI 0), .inl 1] S) _ _ _ = _
  rw [s0, mm_bd_ret]
  show mm_bd (mm_runD (d + 1) 88 [.inr 19, .inl (nI N), .inl (nI 1), .inl v] _) _ _ _ = _
  rw [s1, mm_bd_ret]
theorem mq_makeTest (h1 : S 19 1 = nI (N + 1)) (hN : N < 300) (x y z : Int32) : mm_runD (d + 2) 76 [.inr 19, .inl (nI N), .inl x, .inl y, .inl z] S = some (mm_put (mm_put (mm_put (mm_put (mm_put S 20 (9 * N) 2) 20 (9 * N + 1) x) 20 (9 * N + 2) y) 20 (9 * N + 3) z) 20 (9 * N + 4) 0, 0, 0, 0, 0) := by
  have st : ∀ (S : Mem) (f : Nat) (v : Int32), S 19 1 = nI (N + 1) → f < 9 → mm_runD (d + 1) 88 [.inr 19, .inl (nI N), .inl (nI f), .inl v] S = some (mm_put S 20 (9 * N + f) v, 0, 0, 0, 0) := fun S f v h hf => mq_tset (d := d) (S := S) (N := N + 1) (i := N) (f := f) (v := v) h (by omega) (by omega) hf
  rw [dX6_makeTest, eX6_makeTest_0]
  show mm_bd (mm_runD (d + 1) 88 [.inr 19, .inl (nI N), .inl (nI 0), .inl 2] S) _ _ _ = _
  rw [st S 0 2 h1 (by omega), mm_bd_ret]
  show mm_bd (mm_runD (d + 1) 88 [.inr 19, .inl (nI N), .inl (nI 1), .inl x] (mm_put S 20 (9 * N) 2)) _ _ _ = _
  rw [st (mm_put S 20 (9 * N) 2) 1 x h1 (by omega), mm_bd_ret]
  show mm_bd (mm_runD (d + 1) 88 [.inr 19, .inl (nI N), .inl (nI 2), .inl y] _) _ _ _ = _
  rw [st (mm_put (mm_put S 20 (9 * N) 2) 20 (9 * N + 1) x) 2 y h1 (by omega), mm_bd_ret]
  show mm_bd (mm_runD (d + 1) 88 [.inr 19, .inl (nI N), .inl (nI 3), .inl z] _) _ _ _ = _
  rw [st (mm_put (mm_put (mm_put S 20 (9 * N) 2) 20 (9 * N + 1) x) 20 (9 * N + 2) y) 3 z h1 (by omega), mm_bd_ret]
  show mm_bd (mm_runD (d + 1) 88 [.inr 19, .inl (nI N), .inl (nI 4), .inl 0] _) _ _ _ = _
  rw [st (mm_put (mm_put (mm_put (mm_put S 20 (9 * N) 2) 20 (9 * N + 1) x) 20 (9 * N + 2) y) 20 (9 * N + 3) z) 4 0 h1 (by omega), mm_bd_ret]
theorem cst_fr {t : Nat} {T : TB} (h : cst S k C R sz t T n) {S' : Mem} (hf : mfr [19, 20] S S') : cst S' k C R sz t T n := by
  obtain ⟨hr, ⟨h3, h4, h5, hM⟩, hw, hn, he, ht⟩ := h
  refine ⟨?_, ⟨by rw [hf 21 (by decide)]; exact h3, by rw [hf 21 (by decide)]; exact h4, by rw [hf 21 (by decide)]; exact h5, by rw [hf 22 (by decide), hf 32 (by decide)]; exact hM⟩, hw, rm_fr hn (hf 55 (by decide)), he, ht⟩
  unfold rws
  rw [hf 27 (by decide), hf 8 (by decide), hf 33 (by decide), hf 32 (by decide), hf 9 (by decide), hf 10 (by decide)]
  exact hr
/-- the kind of node N, of the table T on top -/
theorem mq_mkNode {σ : SG} {O : List (Nat × List Nat)} {T : TB} (hN : N < 300) (h1 : S 19 1 = nI (N + 1)) (h : cst S k C R sz (pend σ O) T n) (hb : S 22 (pend σ O) = blw σ O) (hp : pl (S 32) k σ (S 22) O) (hw : ∀ e, e ∈ O → wfT R sz (gT σ e.1)) (hf : ∀ j, j < 7 → S 20 (9 * N + j) = N1) {kc ks : Nat} :
    ∃ S', mm_bd (mm_runD (d + 5) 45 [.inr 21] S) kc ks (fun S4 c4 t4 a4 => (if a4 = 0 then mm_bd (mm_runD (d + 5) 74 [.inr 19, .inl (nI N)] S4) c4 t4 (fun S5 c5 t5 a5 => mm_bd (mm_runD (d + 5) 43 [.inr 21] S5) c5 t5 (fun S6 c6 t6 a6 => some (S6, c6, t6, 0, 1))) else mm_bd (mm_runD (d + 5) 50 [.inr 21] S4) c4 t4 (fun S7 c7 t7 a7 => (if a7 = ((-1)) then mm_bd (mm_runD (d + 5) 48 [.inr 21] S7) c7 t7 (fun S8 c8 t8 a8 => mm_bd (mm_runD (d + 5) 75 [.inr 19, .inl (nI N), .inl a8] S8) c8 t8 (fun S9 c9 t9 a9 => mm_bd (mm_runD (d + 5) 43 [.inr 21] S9) c9 t9 (fun S10 c10 t10 a10 => some (S10, c10, t10, 0, 1)))) else mm_bd (mm_runD (d + 5) 47 [.inr 21, .inl a7] S7) c7 t7 (fun S11 c11 t11 a11 => mm_bd (mm_runD (d + 5) 44 [.inr 21] S11) c11 t11 (fun S12 c12 t12 a12 => mm_bd (mm_runD (d + 5) 76 [.inr 19, .inl (nI N), .inl a11, .inl a12, .inl a7] S12) c12 t12 (fun S13 c13 t13 a13 => mm_bd (mm_runD (d + 5) 51 [.inr 21, .inl (nI N), .inl a11] S13) c13 t13 (fun S14 c14 t14 a14 => some (S14, c14, t14, 0, 1))))))))) = some (S', kc, ks, 0, 1) ∧ mfr [19, 20, 21, 22] S S' ∧ S' 19 1 = nI (N + 1) ∧ S' 19 2 = (if kdT (S 32) T = 0 then S 19 2 + 1 else S 19 2) ∧ (∀ j, j < 9 * N → S' 20 j = S 20 j) ∧ cn1 (S' 20) (S 32) T N 0 (S 20 (9 * N + 7)) (S 20 (9 * N + 8)) ∧ S' 20 (9 * N + 5) = N1 ∧ S' 20 (9 * N + 6) = N1 ∧
      (kdT (S 32) T ≠ 2 → S' 22 = S 22 ∧ S' 21 3 = blw σ O ∧ ∀ a O', O = a :: O' → S' 21 4 = nI (tP (gT σ a.1)) ∧ S' 21 5 = nI (tL (gT σ a.1))) ∧
      (kdT (S 32) T = 2 → S' 21 = S 21 ∧ S' 22 (pend σ O + 1) = nI (tP T) ∧ S' 22 (pend σ O + 2) = nI (tL T) ∧ S' 22 (pend σ O + 3) = nI N ∧ S' 22 (pend σ O + 4) = nI (tyT (S 32) T) ∧ S' 22 (pend σ O + 5) = N1 ∧ ∀ j, j ≤ pend σ O ∨ pend σ O + 6 ≤ j → S' 22 j = S 22 j) := by
  have hc := h
  obtain ⟨hr, ⟨h3, h4, h5, hM⟩, hwT, hn, he, ht⟩ := h
  have w1 := hwT.1
  have w2 := hwT.2.1
  have hE := tEn_le (t := pend σ O) hwT
  by_cases q0 : tL T = 0
  · have ek : kdT (S 32) T = 0 := if_pos q0
    obtain ⟨S', a1, a2, a3, a4⟩ := mq_drop (d := d + 2) (S := mm_put (mm_put S 20 (9 * N) 0) 19 2 (S 19 2 + 1)) (n := n) (G := S 32) (k := k) (R := R) (sz := sz) (σ := σ) (O := O) (t := pend σ O) (rm_put (rm_put hn (by decide)) (by decide)) h3 (by omega) hb hp (by omega) hw
    refine ⟨S', ?_, mfr_tr (mfr_tr (mfr_put (by simp)) (mfr_put (by simp))) (mfr_up a2 (by simp)), by rw [a2 19 (by decide)]; exact h1, by rw [a2 19 (by decide), mp_pp, ek, if_pos rfl], fun j hj => by rw [a2 20 (by decide), mp_pn _ _ _ (by decide), mp_pk _ _ _ (by omega)], ?_, ?_, ?_, fun _ => ⟨by rw [a2 22 (by decide)]; rfl, a3, a4⟩, fun z => by rw [ek] at z; cases z⟩
    · rw [dX5_lineCount, eX5_lineCount_0, mm_bd_ret, h5, if_pos (by rw [q0]; rfl), mq_makeFail h1 hN, mm_bd_ret, a1, mm_bd_ret]
      rfl
    · unfold cn1
      rw [ek, a2 20 (by decide), if_pos rfl, if_neg (by decide), if_neg (by decide), if_neg (by decide)]
      refine ⟨by rw [mp_pn _ _ _ (by decide), mp_pp] <;> rfl, ?_, ?_, ?_, ?_, ?_, ?_⟩
      · rw [mp_pn _ _ _ (by decide), mp_pk _ _ _ (by omega)]; exact hf 1 (by omega)
      · rw [mp_pn _ _ _ (by decide), mp_pk _ _ _ (by omega)]; exact hf 2 (by omega)
      · rw [mp_pn _ _ _ (by decide), mp_pk _ _ _ (by omega)]; exact hf 3 (by omega)
      · rw [mp_pn _ _ _ (by decide), mp_pk _ _ _ (by omega)]; exact hf 4 (by omega)
      · rw [mp_pn _ _ _ (by decide), mp_pk _ _ _ (by omega)]
      · rw [mp_pn _ _ _ (by decide), mp_pk _ _ _ (by omega)]
    · rw [a2 20 (by decide), mp_pn _ _ _ (by decide), mp_pk _ _ _ (by omega)]; exact hf 5 (by omega)
    · rw [a2 20 (by decide), mp_pn _ _ _ (by decide), mp_pk _ _ _ (by omega)]; exact hf 6 (by omega)
  · have h50 : ¬ nI (tL T) = 0 := nI_ne0 (by omega) (by omega)
    have ft := mq_firstTested (d := d + 3) hc q0
    have hts := tsT_le (S 32) T
    by_cases q1 : tsT (S 32) T = tP T
    · have ek : kdT (S 32) T = 1 := by unfold kdT; rw [if_neg q0, if_pos q1]
      rw [if_pos q1] at ft
      have fr := mq_firstRow (d := d + 3) hc q0
      obtain ⟨S', a1, a2, a3, a4⟩ := mq_drop (d := d + 2) (S := mm_put (mm_put S 20 (9 * N) 1) 20 (9 * N + 1) (nI (tR T 0))) (n := n) (G := S 32) (k := k) (R := R) (sz := sz) (σ := σ) (O := O) (t := pend σ O) (rm_put (rm_put hn (by decide)) (by decide)) h3 (by omega) hb hp (by omega) hw
      refine ⟨S', ?_, mfr_tr (mfr_tr (mfr_put (by simp)) (mfr_put (by simp))) (mfr_up a2 (by simp)), by rw [a2 19 (by decide)]; exact h1, by rw [a2 19 (by decide), ek, if_neg (by decide)]; rfl, fun j hj => by rw [a2 20 (by decide), mp_pk _ _ _ (by omega), mp_pk _ _ _ (by omega)], ?_, ?_, ?_, fun _ => ⟨by rw [a2 22 (by decide)]; rfl, a3, a4⟩, fun z => by rw [ek] at z; cases z⟩
      · rw [dX5_lineCount, eX5_lineCount_0, mm_bd_ret, h5, if_neg h50, ft, mm_bd_ret, if_pos rfl, fr, mm_bd_ret, mq_makeLeaf h1 hN, mm_bd_ret, a1, mm_bd_ret]
        rfl
      · unfold cn1
        rw [ek, a2 20 (by decide), if_neg (by decide), if_pos rfl, if_neg (by decide), if_neg (by decide), if_neg (by decide)]
        refine ⟨by rw [mp_pk _ _ _ (by omega), mp_pp] <;> rfl, mp_pp _ _ _ _, ?_, ?_, ?_, ?_, ?_⟩
        · rw [mp_pk _ _ _ (by omega), mp_pk _ _ _ (by omega)]; exact hf 2 (by omega)
        · rw [mp_pk _ _ _ (by omega), mp_pk _ _ _ (by omega)]; exact hf 3 (by omega)
        · rw [mp_pk _ _ _ (by omega), mp_pk _ _ _ (by omega)]; exact hf 4 (by omega)
        · rw [mp_pk _ _ _ (by omega), mp_pk _ _ _ (by omega)]
        · rw [mp_pk _ _ _ (by omega), mp_pk _ _ _ (by omega)]
      · rw [a2 20 (by decide), mp_pk _ _ _ (by omega), mp_pk _ _ _ (by omega)]; exact hf 5 (by omega)
      · rw [a2 20 (by decide), mp_pk _ _ _ (by omega), mp_pk _ _ _ (by omega)]; exact hf 6 (by omega)
    · have ek : kdT (S 32) T = 2 := by unfold kdT; rw [if_neg q0, if_neg q1]
      have hlt : tsT (S 32) T < tP T := by omega
      rw [if_neg q1] at ft
      have ta := mq_typeAt (d := d + 3) hc hlt
      obtain ⟨S1, eS⟩ : ∃ S1, S1 = mm_put (mm_put (mm_put (mm_put (mm_put S 20 (9 * N) 2) 20 (9 * N + 1) (nI (tyT (S 32) T))) 20 (9 * N + 2) (nI (tP T))) 20 (9 * N + 3) (nI (tsT (S 32) T))) 20 (9 * N + 4) 0 := ⟨_, rfl⟩
      have F1 : mfr [19, 20] S S1 := by subst eS; exact mfr_tr (mfr_tr (mfr_tr (mfr_tr (mfr_put (by simp)) (mfr_put (by simp))) (mfr_put (by simp))) (mfr_put (by simp))) (mfr_put (by simp))
      have mt := mq_makeTest (d := d + 3) h1 hN (nI (tyT (S 32) T)) (nI (tP T)) (nI (tsT (S 32) T))
      rw [← eS] at mt
      obtain ⟨f, b1, b2, b3, b4, b5, b6, b7⟩ := mq_keepFor (d := d + 3) (cst_fr hc F1) N (tyT (S 32) T)
      have v20 : (mm_stc S1 22 f) 20 = S1 20 := rfl
      refine ⟨mm_stc S1 22 f, ?_, mfr_tr (mfr_up F1 (by simp)) (mfr_stc (by simp)), by subst eS; exact h1, by rw [ek, if_neg (by decide)]; subst eS; rfl, fun j hj => ?_, ?_, ?_, ?_, (fun z => absurd ek z), fun _ => ⟨by subst eS; rfl, b2, b3, b4, b5, b6, fun j hj => by rw [mm_stc_at, b7 j hj, F1 22 (by decide)]⟩⟩
      · rw [dX5_lineCount, eX5_lineCount_0, mm_bd_ret, h5, if_neg h50, ft, mm_bd_ret, if_neg (show ¬ nI (tsT (S 32) T) = -1 from fun q => (nn_a1 (a := tsT (S 32) T) (by omega)).mp q), ta, mm_bd_ret, dX5_placeCount, eX5_placeCount_0, mm_bd_ret, h4]
        show mm_bd (mm_runD (d + 5) 76 [.inr 19, .inl (nI N), .inl (nI (tyT (S 32) T)), .inl (nI (tP T)), .inl (nI (tsT (S 32) T))] S) _ _ _ = _
        rw [mt, mm_bd_ret]
        show mm_bd (mm_runD (d + 5) 51 [.inr 21, .inl (nI N), .inl (nI (tyT (S 32) T))] S1) _ _ _ = _
        rw [b1, mm_bd_ret]
        rfl
      · rw [v20]; subst eS; simp (disch := omega) only [mp_pk]
      · unfold cn1
        rw [v20, ek, if_neg (by decide), if_neg (by decide), if_pos rfl, if_pos rfl, if_pos rfl]
        subst eS
        refine ⟨?_, ?_, ?_, ?_, ?_, ?_, ?_⟩
        · simp (disch := omega) only [mp_pk, mp_pp]; rfl
        · simp (disch := omega) only [mp_pk, mp_pp]
        · simp (disch := omega) only [mp_pk, mp_pp]
        · simp (disch := omega) only [mp_pk, mp_pp]
        · rw [mp_pp] <;> rfl
        · simp (disch := omega) only [mp_pk]
        · simp (disch := omega) only [mp_pk]
      · rw [v20]; subst eS; simp (disch := omega) only [mp_pk]; exact hf 5 (by omega)
      · rw [v20]; subst eS; simp (disch := omega) only [mp_pk]; exact hf 6 (by omega)
end
