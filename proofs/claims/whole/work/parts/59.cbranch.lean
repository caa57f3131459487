/-! PURE: openBranch -/
section
variable {d : Nat} {k : KK} {C R : Nat} {sz : Nat → Nat}
/-- the lines of the branch's table: t, T: the table above which it lies; u: its head -/
theorem mq_br_lines (hW : kW k) {T : TB} {G : Nat → Int32} {g : Nat → Nat} {c m t u : Nat} (hw : wfT R sz T) (hc : c < tP T) (hm : m < kM k) (h4 : tP T - 1 + kFc k m ≤ 40) (hu : u = tEn t T) (hu7 : u ≤ 790000) {o4 : Option MV} : ∀ (z l : Nat) (S : Mem) (n kc ks : Nat) (o9 o10 : Option MV), tL T - l = z → l ≤ tL T → S 32 = G → gk S k = g → mq_K S k → rws S k C R sz → rm S n → la (u + 6 + (tP T - 1 + kFc k m)) (tP T - 1 + kFc k m + 1) (brL G g T c m (kFc k m) l).1 ≤ n → tbM G (S 22) t T → S 21 3 = nI u → S 21 4 = nI (tP T - 1 + kFc k m) → S 21 5 = nI (brL G g T c m (kFc k m) l).1 →
    (∀ i, i < (brL G g T c m (kFc k m) l).1 → S 22 (la (u + 6 + (tP T - 1 + kFc k m)) (tP T - 1 + kFc k m + 1) i) = nI ((brL G g T c m (kFc k m) l).2.1 i)) → (∀ i j, i < (brL G g T c m (kFc k m) l).1 → j < tP T - 1 + kFc k m → S 22 (la (u + 6 + (tP T - 1 + kFc k m)) (tP T - 1 + kFc k m + 1) i + 1 + j) = nrm G ((brL G g T c m (kFc k m) l).2.2 i j)) →
    ∃ S' c' s' n', mm_E (mm_runD (d + 3)) pX5_openBranch 2 76 [some (.inr 21), some (.inl (nI m)), some (.inl (nI c)), some (.inl (nI (kFc k m))), o4, some (.inl (nI (tP T))), some (.inl (nI (tL T))), some (.inl (nI (la (t + 6 + tP T) (tP T + 1) l))), some (.inl (nI l)), o9, o10] [] S kc ks = some (S', kc + c', ks + s', 0, 1) ∧ mpot S S' c' s' ∧ mfr [21, 22, 55] S S' ∧ (∀ j, j < u + 6 + (tP T - 1 + kFc k m) → S' 22 j = S 22 j) ∧ rm S' n' ∧ n ≤ n' ∧ la (u + 6 + (tP T - 1 + kFc k m)) (tP T - 1 + kFc k m + 1) (brL G g T c m (kFc k m) (tL T)).1 ≤ n' ∧ S' 21 3 = nI u ∧ S' 21 4 = nI (tP T - 1 + kFc k m) ∧ S' 21 5 = nI (brL G g T c m (kFc k m) (tL T)).1 ∧
      (∀ i, i < (brL G g T c m (kFc k m) (tL T)).1 → S' 22 (la (u + 6 + (tP T - 1 + kFc k m)) (tP T - 1 + kFc k m + 1) i) = nI ((brL G g T c m (kFc k m) (tL T)).2.1 i)) ∧ (∀ i j, i < (brL G g T c m (kFc k m) (tL T)).1 → j < tP T - 1 + kFc k m → S' 22 (la (u + 6 + (tP T - 1 + kFc k m)) (tP T - 1 + kFc k m + 1) i + 1 + j) = nrm G ((brL G g T c m (kFc k m) (tL T)).2.2 i j)) := by
  have hM := hW.2.1
  have hf3 := (hW.2.2 m hm).2.1
  have w1 := hw.1
  have w2 := hw.2.1
  obtain ⟨P', eP⟩ : ∃ P', P' = tP T - 1 + kFc k m := ⟨_, rfl⟩
  rw [← eP] at h4 ⊢
  intro z
  induction z with
  | zero =>
    intro l S n kc ks o9 o10 hz hl e32 eg hK hr hn hla hM0 s3 s4 s5 g1 g2
    have e : l = tL T := by omega
    subst e
    refine ⟨S, 0, 0, n, ?_, mpot_rf S, mfr_rf, fun _ _ => rfl, hn, Nat.le_refl _, hla, s3, s4, s5, g1, g2⟩
    rw [eX5_openBranch_76, if_pos (nI_le (Nat.le_refl _) (by omega))]
    rfl
  | succ z ih =>
    intro l S n kc ks o9 o10 hz hl e32 eg hK hr hn hla hM0 s3 s4 s5 g1 g2
    have hlt : l < tL T := by omega
    have hle := brL_le (G := G) (g := g) (T := T) (c := c) (m := m) (f := kFc k m) l
    have y1 := la_lt (b := t + 6 + tP T) (w := tP T + 1) hlt
    have y2 := la_s (t + 6 + tP T) (tP T + 1) l
    have y3 := la_b (t + 6 + tP T) (tP T + 1) l
    have yu : la (t + 6 + tP T) (tP T + 1) (tL T) = u := hu.symm
    have y4 := la_b (u + 6 + P') (P' + 1) (brL G g T c m (kFc k m) l).1
    have y5 := la_up (b := u + 6 + P') (w := P' + 1) (l := (brL G g T c m (kFc k m) l).1 + 1) (P := 0) (by omega) (by omega)
    have y6 := la_s (u + 6 + P') (P' + 1) (brL G g T c m (kFc k m) l).1
    have hn3 := hn.2.2
    have cell := hM0.2.2 l c hlt hc
    have row := hM0.2.1 l hlt
    have gt := mq_get (d := d + 2) hn (j := la (t + 6 + tP T) (tP T + 1) l + 1 + c) (by omega)
    have gt0 := mq_get (d := d + 2) hn (j := la (t + 6 + tP T) (tP T + 1) l) (by omega)
    rw [cell] at gt
    rw [row] at gt0
    have next : nI (la (t + 6 + tP T) (tP T + 1) l) + (nI (tP T) + 1) = nI (la (t + 6 + tP T) (tP T + 1) (l + 1)) := by rw [nI_1, nI_add, ← y2]
    by_cases hk : kpl G T c m l
    · obtain ⟨S1, c1, s1, n1, a1, a2, a3, a4, a5, a6, a7, a8, a9, a10, a11⟩ := mq_addLine (d := d + 1) hn s3 s4 s5 (by omega) h4 (by omega) (nI (tR T l))
      have x22 : ∀ j, j < u + 6 + P' → S1 22 j = S 22 j := fun j hj => a11 j (by omega) (by omega)
      obtain ⟨g3, b1, b2⟩ := mq_copyAround (d := d + 1) a3 (a := la (t + 6 + tP T) (tP T + 1) l + 1) (b := la (u + 6 + P') (P' + 1) (brL G g T c m (kFc k m) l).1 + 1) (c := c) (P := tP T) (f := kFc k m) hc (by omega) (by omega)
      have e32' : (mm_stc S1 22 g3) 32 = G := by rw [← e32]; exact a2 32 (by decide)
      have eg' : gk (mm_stc S1 22 g3) k = g := by
        rw [← eg]
        show (fun j => kar k (S1 32 j)) = fun j => kar k (S 32 j)
        rw [a2 32 (by decide)]
      have hr2 : rws (mm_stc S1 22 g3) k C R sz := rws_fr (rws_fr hr a2) (mfr_stc (by simp))
      have hn2 : rm (mm_stc S1 22 g3) n1 := rm_stc a3 (by decide)
      obtain ⟨g4, d1, d2⟩ := mq_putFields (d := d) (S := mm_stc S1 22 g3) hn2 hW hr2 hw (l := l) (c := c) (m := m) (a := la (u + 6 + P') (P' + 1) (brL G g T c m (kFc k m) l).1 + 1 + c) hlt hc hm (by rw [e32']; exact hk) (by omega)
      rw [e32', eg'] at d2
      rw [e32'] at d1
      have ess : mm_stc (mm_stc S1 22 g3) 22 g4 = mm_stc S1 22 g4 := by
        funext x
        by_cases q : x = 22
        · subst q; rw [mm_stc_at, mm_stc_at]
        · rw [mm_stc_ne _ _ q, mm_stc_ne _ _ q, mm_stc_ne _ _ q]
      rw [ess] at d1
      have F4 : mfr [21, 22, 55] S (mm_stc S1 22 g4) := mfr_tr a2 (mfr_stc (by simp))
      have v4 : ∀ j, g4 j = if la (u + 6 + P') (P' + 1) (brL G g T c m (kFc k m) l).1 + 1 + c ≤ j ∧ j < la (u + 6 + P') (P' + 1) (brL G g T c m (kFc k m) l).1 + 1 + c + kFc k m then nrm G (if sgc G (tC T l c) = N1 then N1 else nI (nth g ((tC T l c).toNatClampNeg + 1) (j - (la (u + 6 + P') (P' + 1) (brL G g T c m (kFc k m) l).1 + 1 + c)))) else g3 j := fun j => by rw [d2]; rfl
      have low : ∀ j, j < la (u + 6 + P') (P' + 1) (brL G g T c m (kFc k m) l).1 → g4 j = S 22 j := by
        intro j hj
        rw [v4, if_neg (by omega), b2, if_neg (by omega), if_neg (by omega)]
        exact a11 j (by omega) (by omega)
      have at0 : g4 (la (u + 6 + P') (P' + 1) (brL G g T c m (kFc k m) l).1) = nI (tR T l) := by
        rw [v4, if_neg (by omega), b2, if_neg (by omega), if_neg (by omega)]
        exact a10
      have newc : ∀ j, j < P' → g4 (la (u + 6 + P') (P' + 1) (brL G g T c m (kFc k m) l).1 + 1 + j) = nrm G (wdn G g T c (kFc k m) l j) := by
        intro j hj
        unfold wdn
        rw [v4]
        by_cases q1 : j < c
        · rw [if_neg (by omega), b2, if_pos (by omega), if_pos q1, show la (t + 6 + tP T) (tP T + 1) l + 1 + (la (u + 6 + P') (P' + 1) (brL G g T c m (kFc k m) l).1 + 1 + j - (la (u + 6 + P') (P' + 1) (brL G g T c m (kFc k m) l).1 + 1)) = la (t + 6 + tP T) (tP T + 1) l + 1 + j by omega, a11 _ (by omega) (by omega)]
          exact hM0.2.2 l j hlt (by omega)
        · rw [if_neg q1]
          by_cases q2 : j < c + kFc k m
          · rw [if_pos (by omega), if_pos q2, show la (u + 6 + P') (P' + 1) (brL G g T c m (kFc k m) l).1 + 1 + j - (la (u + 6 + P') (P' + 1) (brL G g T c m (kFc k m) l).1 + 1 + c) = j - c by omega]
          · rw [if_neg (by omega), b2, if_neg (by omega), if_pos (by omega), if_neg q2, show la (t + 6 + tP T) (tP T + 1) l + 1 + (la (u + 6 + P') (P' + 1) (brL G g T c m (kFc k m) l).1 + 1 + j + 1 - (la (u + 6 + P') (P' + 1) (brL G g T c m (kFc k m) l).1 + 1 + kFc k m)) = la (t + 6 + tP T) (tP T + 1) l + 1 + (j + 1 - kFc k m) by omega, a11 _ (by omega) (by omega)]
            exact hM0.2.2 l (j + 1 - kFc k m) hlt (by omega)
      have eb := brL_t (G := G) (g := g) (T := T) (c := c) (m := m) (f := kFc k m) (l := l) hk
      have IH := ih (l + 1) (mm_stc S1 22 g4) n1 (kc + c1) (ks + s1) (some (.inl (nrm G (tC T l c)))) (some (.inl (nI (la (u + 6 + P') (P' + 1) (brL G g T c m (kFc k m) l).1)))) (by omega) (by omega) (by rw [← e32]; exact a2 32 (by decide)) (by
          rw [← eg]
          show (fun j => kar k (S1 32 j)) = fun j => kar k (S 32 j)
          rw [a2 32 (by decide)]) (mq_K_fr hK F4 rfl) (rws_fr hr F4) (rm_stc a3 (by decide))
      rw [eb] at IH
      obtain ⟨S', c', s', n', i1, i2, i3, i4, i5, i6, i7, i8, i9, i10, i11, i12⟩ := IH a5 (tbM_ext hM0 (fun j _ hj => by
          have : j < u := by rw [hu]; exact hj
          exact low j (by omega))) a7 a8 a9 (fun i hi => by
          have hi' : i < (brL G g T c m (kFc k m) l).1 + 1 := hi
          show g4 _ = nI (if i = (brL G g T c m (kFc k m) l).1 then tR T l else (brL G g T c m (kFc k m) l).2.1 i)
          by_cases e : i = (brL G g T c m (kFc k m) l).1
          · rw [if_pos e, e]; exact at0
          · have := la_lt (b := u + 6 + P') (w := P' + 1) (show i < (brL G g T c m (kFc k m) l).1 by omega)
            rw [if_neg e, low _ (by omega)]; exact g1 i (by omega)) (fun i j hi hj => by
          have hi' : i < (brL G g T c m (kFc k m) l).1 + 1 := hi
          show g4 _ = nrm G ((if i = (brL G g T c m (kFc k m) l).1 then wdn G g T c (kFc k m) l else (brL G g T c m (kFc k m) l).2.2 i) j)
          by_cases e : i = (brL G g T c m (kFc k m) l).1
          · rw [if_pos e, e]; exact newc j hj
          · have := la_lt (b := u + 6 + P') (w := P' + 1) (show i < (brL G g T c m (kFc k m) l).1 by omega)
            rw [if_neg e, low _ (by omega)]; exact g2 i j (by omega) hj)
      refine ⟨S', c1 + c', s1 + s', n', ?_, ?_, mfr_tr F4 i3, fun j hj => by rw [i4 j hj]; exact low j (by omega), i5, by omega, i7, i8, i9, i10, i11, i12⟩
      · rw [eX5_openBranch_76, if_neg (nI_ge hlt (by omega)), nI_1, nI_add, gt, mm_bd_ret]
        have fin : ∀ o9, mm_bd (mm_runD (d + 3) 64 [.inr 21, .inl (nI (la (t + 6 + tP T) (tP T + 1) l))] S) kc ks (fun S2 c2 t2 a2 => mm_bd (mm_runD (d + 3) 55 [.inr 21, .inl a2] S2) c2 t2 (fun S3 c3 t3 a3 => mm_bd (mm_runD (d + 3) 59 [.inr 21, .inl (nI (la (t + 6 + tP T) (tP T + 1) l + 1)), .inl (a3 + 1), .inl (nI c), .inl (nI (tP T)), .inl (nI (kFc k m))] S3) c3 t3 (fun S4 c4 t4 a4 => mm_bd (mm_runD (d + 3) 60 [.inr 21, .inl ((a3 + 1) + nI c), .inl (nrm G (tC T l c)), .inl (nI (kFc k m))] S4) c4 t4 (fun S5 c5 t5 a5 => mm_E (mm_runD (d + 3)) pX5_openBranch 2 76 [some (.inr 21), some (.inl (nI m)), some (.inl (nI c)), some (.inl (nI (kFc k m))), o4, some (.inl (nI (tP T))), some (.inl (nI (tL T))), some (.inl (nI (la (t + 6 + tP T) (tP T + 1) l) + (nI (tP T) + 1))), some (.inl (nI l + 1)), o9, some (.inl a3)] [] S5 c5 t5)))) = mm_E (mm_runD (d + 3)) pX5_openBranch 2 76 [some (.inr 21), some (.inl (nI m)), some (.inl (nI c)), some (.inl (nI (kFc k m))), o4, some (.inl (nI (tP T))), some (.inl (nI (tL T))), some (.inl (nI (la (t + 6 + tP T) (tP T + 1) (l + 1)))), some (.inl (nI (l + 1))), o9, some (.inl (nI (la (u + 6 + P') (P' + 1) (brL G g T c m (kFc k m) l).1)))] [] (mm_stc S1 22 g4) (kc + c1) (ks + s1) := by
          intro o9
          rw [gt0, mm_bd_ret, a1, mm_bd_ret, nI_1, b1, mm_bd_ret, nI_add, d1, mm_bd_ret, next, nI_1]
          rfl
        by_cases q : sgc G (tC T l c) = N1
        · have en : nrm G (tC T l c) = N1 := if_pos q
          have F := fin (some (.inl (nrm G (tC T l c))))
          rw [en] at F i1 ⊢
          rw [if_pos rfl]
          refine Eq.trans ?_ (i1.trans (by rw [Nat.add_assoc, Nat.add_assoc]))
          exact F
        · have hs : sgc G (tC T l c) = nI m := hk.elim (fun z => absurd z q) (fun z => z)
          have hw' := hw
          rw [← e32] at hs
          obtain ⟨p, e1, e2, e3, e4, e5⟩ := kpl_p hW hr hw hlt hc hm hs
          have hp := okp_lt hr e1
          have en : nrm G (tC T l c) = nI p := by unfold nrm; rw [if_neg q, e2]
          have F := fin (some (.inl (nrm G (tC T l c))))
          rw [en] at F i1 ⊢
          rw [if_neg (show ¬ nI p = -1 from fun q => (nn_a1 (a := p) (by omega)).mp q), mq_rSign hp, mm_bd_ret, okp_9 hr e1, e3, if_pos rfl]
          refine Eq.trans ?_ (i1.trans (by rw [Nat.add_assoc, Nat.add_assoc]))
          exact F
      · have := mpot_tr (mpot_tr a6 (mpot_55 (S := S1) (S' := mm_stc S1 22 g4) rfl)) i2
        rw [Nat.add_zero, Nat.add_zero] at this
        exact this
    · have hn1 : ¬ sgc G (tC T l c) = N1 := fun q => hk (Or.inl q)
      have hn2 : ¬ sgc G (tC T l c) = nI m := fun q => hk (Or.inr q)
      have eb := brL_f (G := G) (g := g) (T := T) (c := c) (m := m) (f := kFc k m) (l := l) hk
      rcases hw.2.2 l c hlt hc with q | ⟨p, hp, q⟩
      · exact absurd (by rw [q]; exact sgc_N G) hn1
      · have hp4 := okp_lt hr hp
        have en : nrm G (tC T l c) = nI p := by unfold nrm; rw [if_neg hn1, q]
        have IH := ih (l + 1) S n kc ks (some (.inl (nI p))) o10 (by omega) (by omega) e32 eg hK hr hn
        rw [eb] at IH
        obtain ⟨S', c', s', n', i1, i2⟩ := IH hla hM0 s3 s4 s5 g1 g2
        refine ⟨S', c', s', n', ?_, i2⟩
        have sp : S 32 p = sgc G (tC T l c) := by rw [q, sgc_p hp4, e32]
        rw [eX5_openBranch_76, if_neg (nI_ge hlt (by omega)), nI_1, nI_add, gt, mm_bd_ret, en, if_neg (show ¬ nI p = -1 from fun q => (nn_a1 (a := p) (by omega)).mp q), mq_rSign hp4, mm_bd_ret, okp_9 hr hp, sp, if_neg hn2, next, nI_1]
        exact i1
end
