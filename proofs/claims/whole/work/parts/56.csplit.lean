/-! PURE: the class splits its EITHERs -/
/-- the table on top, and room for it -/
def cst (S : Mem) (k : KK) (C R : Nat) (sz : Nat → Nat) (t : Nat) (T : TB) (n : Nat) : Prop := rws S k C R sz ∧ tbC S (S 32) t T ∧ wfT R sz T ∧ rm S n ∧ tEn t T ≤ n ∧ t ≤ 790000
/-- nothing but the tables' room has changed, and what lies below -/
def cfr (t : Nat) (S S' : Mem) : Prop := mfr [21, 22, 55] S S' ∧ ∀ j, j < t + 6 → S' 22 j = S 22 j
theorem cfr_rf {t : Nat} {S : Mem} : cfr t S S := ⟨mfr_rf, fun _ _ => rfl⟩
theorem cfr_tr {t : Nat} {S S' S'' : Mem} (h : cfr t S S') (h' : cfr t S' S'') : cfr t S S'' := ⟨mfr_tr h.1 h'.1, fun j hj => (h'.2 j hj).trans (h.2 j hj)⟩
theorem rws_fr {S S' : Mem} {k : KK} {C R : Nat} {sz : Nat → Nat} (h : rws S k C R sz) (hf : mfr [21, 22, 55] S S') : rws S' k C R sz := by
  unfold rws
  rw [hf 27 (by decide), hf 8 (by decide), hf 33 (by decide), hf 32 (by decide), hf 9 (by decide), hf 10 (by decide)]
  exact h
section
variable {d : Nat} {S : Mem} {k : KK} {C R : Nat} {sz : Nat → Nat} {t n : Nat} {T : TB}
/-- a line with an EITHER becomes two lines -/
theorem mq_dbl (h : cst S k C R sz t T n) {l c : Nat} (hl : l < tL T) (hc : c < tP T) (h6 : tL T < 60) (hs : sgc (S 32) (tC T l c) = N2) {K : Mem → Nat → Nat → Int32 → Option Res} {kc ks : Nat} :
    ∃ S' c' s' n', (mm_bd (mm_runD (d + 3) 58 [.inr 21, .inl (nI l)] S) kc ks (fun S2 c2 t2 a2 => mm_bd (mm_runD (d + 3) 61 [.inr 21, .inl (nrm (S 32) (tC T l c) + 1)] S2) c2 t2 (fun S3 c3 t3 a3 => mm_bd (mm_runD (d + 3) 65 [.inr 21, .inl (nI (la (t + 6 + tP T) (tP T + 1) l + 1 + c)), .inl a3] S3) c3 t3 (fun S4 c4 t4 a4 => mm_bd (mm_runD (d + 3) 35 [.inr 8, .inl (nrm (S 32) (tC T l c) + 1)] S4) c4 t4 (fun S5 c5 t5 a5 => mm_bd (mm_runD (d + 3) 61 [.inr 21, .inl a5] S5) c5 t5 (fun S6 c6 t6 a6 => mm_bd (mm_runD (d + 3) 65 [.inr 21, .inl ((nI (la (t + 6 + tP T) (tP T + 1) l + 1 + c) + S4 21 4) + 1), .inl a6] S6) c6 t6 (fun S7 c7 t7 a7 => mm_bd (mm_runD (d + 3) 64 [.inr 21, .inl (nI (la (t + 6 + tP T) (tP T + 1) l + 1 + c))] S7) c7 t7 (fun S8 c8 t8 a8 => K S8 c8 t8 a8))))))))
      = K S' (kc + c') (ks + s') (nrm (S 32) (tC (dbT (gk S k) T l c) l c)) ∧ cst S' k C R sz t (dbT (gk S k) T l c) n' ∧ cfr t S S' ∧ mpot S S' c' s' ∧ S' 32 = S 32 := by
  obtain ⟨hr, ⟨h3, h4, h5, hM⟩, hw, hn, he, ht⟩ := h
  obtain ⟨p, e1, e2, e3, e4, e5, e6⟩ := wfT_E hr hw hl hc hs
  have w1 := hw.1
  have w2 := hw.2.1
  have hp := okp_lt hr e1
  have hp1 := okp_lt hr e5
  have en : nrm (S 32) (tC T l c) = nI p := by
    unfold nrm
    rw [hs, if_neg (by decide), e2]
  obtain ⟨S1, c1, s1, n1, a1, a2, a3, a4, a5, a6, a7, a8, a9, a10⟩ := mq_doubleLine (d := d + 1) (S := S) ⟨h3, h4, h5, hM⟩ hw hn ht he hl
  have up := la_up (b := t + 6 + tP T) (w := tP T + 1) (l := tL T + 1) (P := 0) (by omega) (by omega)
  have x0 := la_lt (b := t + 6 + tP T) (w := tP T + 1) hl
  have x1 := la_s (t + 6 + tP T) (tP T + 1) l
  have x2 := la_s (t + 6 + tP T) (tP T + 1) (tL T)
  have x3 := la_b (t + 6 + tP T) (tP T + 1) l
  have r1 := rws_fr hr a2
  have e32 : S1 32 = S 32 := a2 32 (by decide)
  obtain ⟨q, eq⟩ : ∃ q, q = la (t + 6 + tP T) (tP T + 1) l + 1 + c := ⟨_, rfl⟩
  obtain ⟨v1, ev1⟩ : ∃ v1, v1 = nrm (S 32) (nI (p + 1)) := ⟨_, rfl⟩
  obtain ⟨v2, ev2⟩ : ∃ v2, v2 = nrm (S 32) (nI (bhd (gk S k) (p + 1))) := ⟨_, rfl⟩
  have n4 : S1 21 4 = nI (tP T) := a8
  have c61 := mq_cellOf (d := d + 1) r1 e5
  rw [e32, ← ev1] at c61
  have st1 := mq_set (d := d + 2) (S := S1) a3 (j := q) (v := v1) (by omega)
  have rmA : rm (mm_put S1 22 q v1) n1 := rm_put a3 (by decide)
  have rA : rws (mm_put S1 22 q v1) k C R sz := r1
  have g35 : mm_runD (d + 3) 35 [.inr 8, .inl (nI (p + 1))] (mm_put S1 22 q v1) = some (mm_put S1 22 q v1, 0, 0, 0, nI (bhd (gk S k) (p + 1))) := by
    rw [mq_rEnd hp1]
    have := okp_10 rA e5
    rw [this]
    have eg : gk (mm_put S1 22 q v1) k = gk S k := by
      show (fun j => kar k (S1 32 j)) = fun j => kar k (S 32 j)
      rw [e32]
    rw [eg]
  have c61b := mq_cellOf (d := d + 1) rA e6
  rw [show (mm_put S1 22 q v1) 32 = S 32 from e32, ← ev2] at c61b
  have st2 := mq_set (d := d + 2) (S := mm_put S1 22 q v1) rmA (j := q + tP T + 1) (v := v2) (by omega)
  have rmB : rm (mm_put (mm_put S1 22 q v1) 22 (q + tP T + 1) v2) n1 := rm_put rmA (by decide)
  have gt := mq_get (d := d + 2) (S := mm_put (mm_put S1 22 q v1) 22 (q + tP T + 1) v2) rmB (j := q) (by omega)
  have vq : (mm_put (mm_put S1 22 q v1) 22 (q + tP T + 1) v2) 22 q = v1 := by rw [mp_pk _ _ _ (by omega), mp_pp]
  have p4 : (mm_put S1 22 q v1) 21 4 = nI (tP T) := a8
  have f22 : ∀ j, (mm_put (mm_put S1 22 q v1) 22 (q + tP T + 1) v2) 22 j = if j = q + tP T + 1 then v2 else if j = q then v1 else S1 22 j := by
    intro j
    by_cases z : j = q + tP T + 1
    · rw [if_pos z, z, mp_pp]
    · rw [if_neg z, mp_pk _ _ _ z]
      by_cases y : j = q
      · rw [if_pos y, y, mp_pp]
      · rw [if_neg y, mp_pk _ _ _ y]
  have dcell : tC (dbT (gk S k) T l c) l c = nI (p + 1) := by
    show (if c = c ∧ l = l then nI ((tC T l c).toNatClampNeg + 1) else _) = _
    rw [if_pos ⟨rfl, rfl⟩, e4]
  refine ⟨mm_put (mm_put S1 22 q v1) 22 (q + tP T + 1) v2, c1, s1, n1, ?_, ⟨rA, ⟨a7, a8, a9, ?_⟩, wfT_db hr hw hl hc (by omega) hs, rmB, a5, ht⟩, ⟨mfr_tr (mfr_tr a2 (mfr_put (by simp))) (mfr_put (by simp)), fun j hj => ?_⟩, ?_, e32⟩
  · rw [en, nI_1, dcell, ← ev1, ← eq, a1, mm_bd_ret, c61, mm_bd_ret, st1, mm_bd_ret, g35, mm_bd_ret, c61b, mm_bd_ret, p4, nI_add, nI_1, st2, mm_bd_ret, gt, mm_bd_ret, vq]
    rfl
  · -- the table
    obtain ⟨m1, m2, m3⟩ := hM
    refine ⟨fun j hj => ?_, fun l' hl' => ?_, fun l' c' hl' hc' => ?_⟩
    · have hj' : j < tP T := hj
      show (mm_put (mm_put S1 22 q v1) 22 (q + tP T + 1) v2) 22 (t + 6 + j) = _
      unfold tEn at he
      rw [f22, if_neg (by omega), if_neg (by omega), a10, if_neg (by omega), if_pos (by omega)]
      exact m1 j hj'
    · have hl'' : l' < tL T + 1 := hl'
      show (mm_put (mm_put S1 22 q v1) 22 (q + tP T + 1) v2) 22 (la (t + 6 + tP T) (tP T + 1) l') = nI (if l' ≤ l then tR T l' else tR T (l' - 1))
      have y3 := la_b (t + 6 + tP T) (tP T + 1) l'
      have y4 := la_lt (b := t + 6 + tP T) (w := tP T + 1) hl''
      unfold tEn at he
      by_cases z : l' ≤ l
      · have y1 := la_le (b := t + 6 + tP T) (w := tP T + 1) z
        rw [if_pos z, f22, if_neg (by omega), if_neg (by omega), a10, if_neg (by omega), if_pos (by omega)]
        exact m2 l' (by omega)
      · have y1 := la_le (b := t + 6 + tP T) (w := tP T + 1) (show l + 1 ≤ l' by omega)
        have y2 : la (t + 6 + tP T) (tP T + 1) l' = la (t + 6 + tP T) (tP T + 1) (l' - 1) + (tP T + 1) := by rw [← la_s, show l' - 1 + 1 = l' by omega]
        have y5 : la (t + 6 + tP T) (tP T + 1) l' ≠ q + tP T + 1 := by
          by_cases w : l' = l + 1
          · rw [w]; omega
          · have := la_lt (b := t + 6 + tP T) (w := tP T + 1) (show l + 1 < l' by omega)
            omega
        rw [if_neg z, f22, if_neg y5, if_neg (by omega), a10, if_pos (by omega), y2, Nat.add_sub_cancel]
        exact m2 (l' - 1) (by omega)
    · have hl'' : l' < tL T + 1 := hl'
      have hc'' : c' < tP T := hc'
      show (mm_put (mm_put S1 22 q v1) 22 (q + tP T + 1) v2) 22 (la (t + 6 + tP T) (tP T + 1) l' + 1 + c') = nrm (S1 32) (if c' = c ∧ l' = l then nI ((tC T l c).toNatClampNeg + 1) else if c' = c ∧ l' = l + 1 then nI (bhd (gk S k) ((tC T l c).toNatClampNeg + 1)) else if l' ≤ l then tC T l' c' else tC T (l' - 1) c')
      rw [e32, e4]
      have y3 := la_b (t + 6 + tP T) (tP T + 1) l'
      have y4 := la_lt (b := t + 6 + tP T) (w := tP T + 1) hl''
      unfold tEn at he
      by_cases z : l' ≤ l
      · have y1 := la_le (b := t + 6 + tP T) (w := tP T + 1) z
        by_cases zz : l' = l
        · subst zz
          by_cases zc : c' = c
          · subst zc
            rw [if_pos ⟨rfl, rfl⟩, ← ev1, f22, if_neg (by omega), if_pos (by omega)]
          · rw [if_neg (by omega), if_neg (by omega), if_pos z, f22, if_neg (by omega), if_neg (by omega), a10, if_neg (by omega), if_pos (by omega)]
            exact m3 l' c' (by omega) hc''
        · have y2 := la_lt (b := t + 6 + tP T) (w := tP T + 1) (show l' < l by omega)
          rw [if_neg (by omega), if_neg (by omega), if_pos z, f22, if_neg (by omega), if_neg (by omega), a10, if_neg (by omega), if_pos (by omega)]
          exact m3 l' c' (by omega) hc''
      · have y1 := la_le (b := t + 6 + tP T) (w := tP T + 1) (show l + 1 ≤ l' by omega)
        have y2 : la (t + 6 + tP T) (tP T + 1) l' = la (t + 6 + tP T) (tP T + 1) (l' - 1) + (tP T + 1) := by rw [← la_s, show l' - 1 + 1 = l' by omega]
        by_cases zz : l' = l + 1
        · subst zz
          by_cases zc : c' = c
          · subst zc
            rw [if_neg (by omega), if_pos ⟨rfl, rfl⟩, ← ev2, f22, if_pos (by omega)]
          · rw [if_neg (by omega), if_neg (by omega), if_neg z, f22, if_neg (by omega), if_neg (by omega), a10, if_pos (by omega), y2, show la (t + 6 + tP T) (tP T + 1) (l + 1 - 1) + (tP T + 1) + 1 + c' - (tP T + 1) = la (t + 6 + tP T) (tP T + 1) (l + 1 - 1) + 1 + c' by omega]
            exact m3 (l + 1 - 1) c' (by omega) hc''
        · have y5 := la_lt (b := t + 6 + tP T) (w := tP T + 1) (show l + 1 < l' by omega)
          rw [if_neg (by omega), if_neg (by omega), if_neg z, f22, if_neg (by omega), if_neg (by omega), a10, if_pos (by omega), y2, show la (t + 6 + tP T) (tP T + 1) (l' - 1) + (tP T + 1) + 1 + c' - (tP T + 1) = la (t + 6 + tP T) (tP T + 1) (l' - 1) + 1 + c' by omega]
          exact m3 (l' - 1) c' (by omega) hc''
  · unfold tEn at he
    rw [f22, if_neg (by omega), if_neg (by omega), a10, if_neg (by omega), if_pos (by omega)]
  · have := mpot_tr a6 (mpot_55 (S := S1) (S' := mm_put (mm_put S1 22 q v1) 22 (q + tP T + 1) v2) rfl)
    rw [Nat.add_zero, Nat.add_zero] at this
    exact this
end
