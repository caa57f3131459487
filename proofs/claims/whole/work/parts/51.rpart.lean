/-! PURE: the reference's table: doubled, part -/
def tbR (S : Mem) (T : TB) : Prop := S 27 17 = nI (tP T) ∧ S 27 18 = nI (tL T) ∧ (∀ c, c < tP T → S 38 c = nI (tT T c)) ∧ (∀ l, l < tL T → S 39 l = nI (tR T l)) ∧ ∀ l c, l < tL T → c < tP T → S 40 (44 * l + c) = tC T l c
section
variable {S : Mem} {k : KK} {C R : Nat} {sz : Nat → Nat}
theorem wfT_E (hr : rws S k C R sz) {T : TB} (hw : wfT R sz T) {l c : Nat} (hl : l < tL T) (hc : c < tP T) (h : sgc (S 32) (tC T l c) = N2) : ∃ p, okp R sz p ∧ tC T l c = nI p ∧ S 32 p = N2 ∧ (tC T l c).toNatClampNeg = p ∧ okp R sz (p + 1) ∧ okp R sz (bhd (gk S k) (p + 1)) := by
  rcases hw.2.2 l c hl hc with q | ⟨p, hp, q⟩
  · rw [q, sgc_N] at h; exact absurd h (by decide)
  · have h4 := okp_lt hr hp
    rw [q, sgc_p h4] at h
    have h2 : kar k (S 32 p) = 2 := by rw [h]; exact kar_N2
    exact ⟨p, hp, q, h, by rw [q, nI_clamp (by omega)], okp_part hr hp (i := 0) (by omega), okp_part hr hp (i := 1) (by omega)⟩
theorem wfT_db (hr : rws S k C R sz) {T : TB} (hw : wfT R sz T) {l c : Nat} (hl : l < tL T) (hc : c < tP T) (h6 : tL T ≠ 60) (h : sgc (S 32) (tC T l c) = N2) : wfT R sz (dbT (gk S k) T l c) := by
  obtain ⟨p, h1, h2, h3, h4, h5, h7⟩ := wfT_E hr hw hl hc h
  obtain ⟨w1, w2, w3⟩ := hw
  refine ⟨w1, show tL T + 1 ≤ 60 by omega, fun l' c' a b => ?_⟩
  have a' : l' < tL T + 1 := a
  have b' : c' < tP T := b
  show (if c' = c ∧ l' = l then nI ((tC T l c).toNatClampNeg + 1) else if c' = c ∧ l' = l + 1 then nI (bhd (gk S k) ((tC T l c).toNatClampNeg + 1)) else if l' ≤ l then tC T l' c' else tC T (l' - 1) c') = N1 ∨ ∃ p, okp R sz p ∧ (if c' = c ∧ l' = l then nI ((tC T l c).toNatClampNeg + 1) else if c' = c ∧ l' = l + 1 then nI (bhd (gk S k) ((tC T l c).toNatClampNeg + 1)) else if l' ≤ l then tC T l' c' else tC T (l' - 1) c') = nI p
  rw [h4]
  split
  · exact Or.inr ⟨_, h5, rfl⟩
  · split
    · exact Or.inr ⟨_, h7, rfl⟩
    · split
      · exact w3 l' c' (by omega) b'
      · exact w3 (l' - 1) c' (by omega) b'
theorem spl_wf (hr : rws S k C R sz) {T' : TB} : ∀ f T l c, wfT R sz T → spl (S 32) (gk S k) f T l c = some (some T') → wfT R sz T' ∧ tP T' = tP T ∧ tT T' = tT T := by
  intro f
  induction f with
  | zero => intro T l c _ h; cases h
  | succ f ih =>
    intro T l c hw h
    unfold spl at h
    by_cases h1 : tL T ≤ l
    · rw [if_pos h1] at h
      cases h
      exact ⟨hw, rfl, rfl⟩
    · rw [if_neg h1] at h
      by_cases h2 : tP T ≤ c
      · rw [if_pos h2] at h; exact ih _ _ _ hw h
      · rw [if_neg h2] at h
        by_cases h3 : sgc (S 32) (tC T l c) = N2
        · rw [if_pos h3] at h
          by_cases h4 : tL T = 60
          · rw [if_pos h4] at h; cases h
          · rw [if_neg h4] at h; exact ih (dbT (gk S k) T l c) _ _ (wfT_db hr hw (by omega) (by omega) h4 h3) h
        · rw [if_neg h3] at h; exact ih _ _ _ hw h
end
section
variable {d : Nat} {S : Mem} {k : KK} {C R : Nat} {sz : Nat → Nat}
theorem mr_db_in {l c p kk P : Nat} {x1 x2 x3 : Int32} (h17 : S 27 17 = nI P) (hP : P ≤ 40) (hk : 0 < kk) (hk6 : kk ≤ 60) : ∀ (n i : Nat) (v : Nat → Int32), P - i = n → i ≤ P →
    ∃ v' o, mm_E (mm_runD d) pX8_doubled 0 18 [some (.inr 27), some (.inl x1), some (.inl x2), some (.inl x3), some (.inl (nI kk)), some (.inl (nI i))] [] (mm_stc S 40 v) 0 0 = mm_E (mm_runD d) pX8_doubled 0 3 [some (.inr 27), some (.inl x1), some (.inl x2), some (.inl x3), some (.inl (nI kk - 1)), o] [] (mm_stc S 40 v') 0 0 ∧ ∀ j, v' j = if 44 * kk + i ≤ j ∧ j < 44 * kk + P then v (j - 44) else v j := by
  intro n
  induction n with
  | zero =>
    intro i v hn hi
    have h17' : (mm_stc S 40 v) 27 17 = nI P := h17
    refine ⟨v, some (.inl (nI i)), ?_, fun j => by rw [if_neg (by omega)]⟩
    rw [eX8_doubled_18, h17', if_pos (nI_le (by omega) (by omega)), nn_sm]
  | succ n ih =>
    intro i v hn hi
    have h17' : (mm_stc S 40 v) 27 17 = nI P := h17
    obtain ⟨v', o, h1, h2⟩ := ih (i + 1) (upd v (44 * kk + i) (v (44 * (kk - 1) + i))) (by omega) (by omega)
    refine ⟨v', o, ?_, fun j => ?_⟩
    · rw [eX8_doubled_18, h17', if_neg (nI_ge (by omega) (by omega)), show nI kk - 1 = nI (kk - 1) from nn_sub (b := 1) hk, li_44, nn_mul, nI_add, ar_40 (by omega), nn_mul, nI_add, ar_40 (by omega), mm_stc_at, mm_put_stc, nI_1, h1, show nI kk - 1 = nI (kk - 1) from nn_sub (b := 1) hk]
    · rw [h2]
      by_cases q : 44 * kk + (i + 1) ≤ j ∧ j < 44 * kk + P
      · rw [if_pos q, if_pos (by omega)]
        exact pk_un (by omega)
      · rw [if_neg q]
        by_cases e : j = 44 * kk + i
        · subst e
          rw [if_pos (by omega), show 44 * kk + i - 44 = 44 * (kk - 1) + i by omega]
          exact pk_us
        · rw [if_neg (by omega)]
          exact pk_un e
theorem mr_db_out {l c p P : Nat} {x2 x3 : Int32} (h17 : S 27 17 = nI P) (hP : P ≤ 40) : ∀ (n kk : Nat) (u v : Nat → Int32) (o : Option MV), kk - l = n → l ≤ kk → kk ≤ 60 →
    ∃ u' v' o', mm_E (mm_runD d) pX8_doubled 0 3 [some (.inr 27), some (.inl (nI l)), some (.inl x2), some (.inl x3), some (.inl (nI kk)), o] [] (mm_stc (mm_stc S 39 u) 40 v) 0 0 = mm_E (mm_runD d) pX8_doubled 0 3 [some (.inr 27), some (.inl (nI l)), some (.inl x2), some (.inl x3), some (.inl (nI l)), o'] [] (mm_stc (mm_stc S 39 u') 40 v') 0 0 ∧
      (∀ j, u' j = if l < j ∧ j ≤ kk then u (j - 1) else u j) ∧ ∀ l' c', c' < P → v' (44 * l' + c') = if l < l' ∧ l' ≤ kk then v (44 * (l' - 1) + c') else v (44 * l' + c') := by
  intro n
  induction n with
  | zero =>
    intro kk u v o hn hl hk
    have e : kk = l := by omega
    subst e
    exact ⟨u, v, o, rfl, fun j => by rw [if_neg (by omega)], fun l' c' _ => by rw [if_neg (by omega)]⟩
  | succ n ih =>
    intro kk u v o hn hl hk
    obtain ⟨v1, o1, a1, a2⟩ := mr_db_in (d := d) (S := mm_stc S 39 (upd u kk (u (kk - 1)))) (l := l) (c := c) (p := p) (kk := kk) (x1 := nI l) (x2 := x2) (x3 := x3) h17 hP (by omega) hk (P - 0) 0 v rfl (by omega)
    obtain ⟨u', v', o', b1, b2, b3⟩ := ih (kk - 1) (upd u kk (u (kk - 1))) v1 o1 (by omega) (by omega) (by omega)
    refine ⟨u', v', o', ?_, fun j => ?_, fun l' c' hc' => ?_⟩
    · have e1 : nI kk - 1 = nI (kk - 1) := nn_sub (b := 1) (by omega)
      have e2 : ∀ x, mm_put (mm_stc (mm_stc S 39 u) 40 v) 39 kk x = mm_stc (mm_stc S 39 (upd u kk x)) 40 v := by
        intro x
        funext y
        unfold mm_put
        by_cases q : y = 39
        · subst q; rw [mm_stc_at]; rfl
        · rw [mm_stc_ne _ _ q]
          by_cases w : y = 40
          · subst w; rw [mm_stc_at, mm_stc_at]
          · rw [mm_stc_ne _ _ w, mm_stc_ne _ _ w, mm_stc_ne _ _ q, mm_stc_ne _ _ q]
      rw [nI_0, e1] at a1
      rw [eX8_doubled_3, if_neg (nI_ge (by omega) (by omega)), e1, ar_39 (by omega), ar_39 (by omega), show (mm_stc (mm_stc S 39 u) 40 v) 39 (kk - 1) = u (kk - 1) from rfl, e2, a1, b1]
    · rw [b2]
      by_cases q : l < j ∧ j ≤ kk - 1
      · rw [if_pos q, if_pos (by omega)]
        exact pk_un (by omega)
      · rw [if_neg q]
        by_cases e : j = kk
        · subst e
          rw [if_pos (by omega)]
          exact pk_us
        · rw [if_neg (by omega)]
          exact pk_un e
    · rw [b3 l' c' hc', a2, a2]
      by_cases q : l < l' ∧ l' ≤ kk - 1
      · rw [if_pos q, if_neg (by omega), if_pos (by omega)]
      · rw [if_neg q]
        by_cases e : l' = kk
        · subst e
          rw [if_pos (by omega), if_pos (by omega), show 44 * l' + c' - 44 = 44 * (l' - 1) + c' by omega]
        · rw [if_neg (by omega), if_neg (by omega)]
theorem mr_doubled (hK : mr_K S k) (hW : kW k) (hr : rws S k C R sz) {T : TB} (hT : tbR S T) (hw : wfT R sz T) {l c p : Nat} (hl : l < tL T) (hc : c < tP T) (h6 : tL T < 60) (he : tC T l c = nI p) (hp : okp R sz (p + 1)) (hp4 : p < 480) :
    ∃ S', mm_runD (d + 3) 140 [.inr 27, .inl (nI l), .inl (nI c), .inl (nI p)] S = some (S', 0, 0, 0, 0) ∧ mfr [27, 39, 40] S S' ∧ (∀ j, j ≠ 18 → S' 27 j = S 27 j) ∧ tbR S' (dbT (gk S k) T l c) := by
  obtain ⟨h1, h2, h3, h4, h5⟩ := hT
  obtain ⟨w1, w2, w3⟩ := hw
  obtain ⟨u, v, o, a1, a2, a3⟩ := mr_db_out (d := d + 2) (S := S) (l := l) (c := c) (p := p) (x2 := nI c) (x3 := nI p) h1 w1 (tL T - l) (tL T) (S 39) (S 40) none rfl (by omega) (by omega)
  have e0 : mm_stc (mm_stc S 39 (S 39)) 40 (S 40) = S := by rw [mm_stc_self, mm_stc_self]
  rw [e0] at a1
  obtain ⟨S1, eS⟩ : ∃ S1, S1 = mm_put (mm_put (mm_stc (mm_stc S 39 u) 40 v) 27 18 (nI (tL T + 1))) 40 (44 * l + c) (nI (p + 1)) := ⟨_, rfl⟩
  have B : mm_runD (d + 2) 132 [.inr 27, .inr 32, .inl (nI (p + 1))] S1 = some (S1, 0, 0, 0, nI (bhd (gk S k) (p + 1))) := by
    subst eS
    exact mr_bh (S := mm_put (mm_put (mm_stc (mm_stc S 39 u) 40 v) 27 18 (nI (tL T + 1))) 40 (44 * l + c) (nI (p + 1))) hK hW hr hp
  have hcp : (tC T l c).toNatClampNeg = p := by rw [he, nI_clamp (by omega)]
  refine ⟨mm_put S1 40 (44 * (l + 1) + c) (nI (bhd (gk S k) (p + 1))), ?_, ?_, ?_, ?_⟩
  · have h2' : (mm_stc (mm_stc S 39 u) 40 v) 27 18 = nI (tL T) := h2
    rw [dX8_doubled, eX8_doubled_0, h2, a1, eX8_doubled_3, if_pos (nI_le (Nat.le_refl _) (by omega)), h2', nI_1, li_44, nn_mul, nI_add, ar_40 (by omega), nI_1, ← eS, B, mm_bd_ret, nI_1, nn_mul, nI_add, ar_40 (by omega)]
  · subst eS
    exact mfr_tr (mfr_tr (mfr_tr (mfr_tr (mfr_stc (by simp)) (mfr_stc (by simp))) (mfr_put (by simp))) (mfr_put (by simp))) (mfr_put (by simp))
  · intro j hj
    subst eS
    rw [mp_pn _ _ _ (by decide), mp_pn _ _ _ (by decide), mp_pk _ _ _ hj]
    rfl
  · subst eS
    refine ⟨h1, rfl, h3, fun l' hl' => ?_, fun l' c' hl' hc' => ?_⟩
    · have hl'' : l' < tL T + 1 := hl'
      show u l' = nI (if l' ≤ l then tR T l' else tR T (l' - 1))
      rw [a2]
      by_cases q : l' ≤ l
      · rw [if_neg (by omega), if_pos q]; exact h4 l' (by omega)
      · rw [if_pos (by omega), if_neg q]; exact h4 (l' - 1) (by omega)
    · have hl'' : l' < tL T + 1 := hl'
      have hc'' : c' < tP T := hc'
      show _ = (if c' = c ∧ l' = l then nI ((tC T l c).toNatClampNeg + 1) else if c' = c ∧ l' = l + 1 then nI (bhd (gk S k) ((tC T l c).toNatClampNeg + 1)) else if l' ≤ l then tC T l' c' else tC T (l' - 1) c')
      rw [hcp]
      by_cases q1 : c' = c ∧ l' = l
      · obtain ⟨rfl, rfl⟩ := q1
        rw [if_pos ⟨rfl, rfl⟩, mp_pk _ _ _ (by omega), mp_pp]
      · rw [if_neg q1]
        by_cases q2 : c' = c ∧ l' = l + 1
        · obtain ⟨rfl, rfl⟩ := q2
          rw [if_pos ⟨rfl, rfl⟩, mp_pp]
        · rw [if_neg q2, mp_pk _ _ _ (by omega), mp_pk _ _ _ (by omega)]
          show v (44 * l' + c') = _
          rw [a3 l' c' hc'']
          by_cases q : l' ≤ l
          · rw [if_neg (by omega), if_pos q]; exact h5 l' c' (by omega) hc''
          · rw [if_pos (by omega), if_neg q]; exact h5 (l' - 1) c' (by omega) hc''
theorem mr_signOf (hr : rws S k C R sz) {y : Int32} (hy : y = N1 ∨ ∃ p, okp R sz p ∧ y = nI p) : mm_runD (d + 1) 137 [.inr 27, .inl y] S = some (S, 0, 0, 0, sgc (S 32) y) := by
  rw [dX8_signOf, eX8_signOf_0]
  rcases hy with rfl | ⟨p, hp, rfl⟩
  · rw [if_pos rfl, sgc_N]
  · have := okp_lt hr hp
    rw [if_neg (show ¬ nI p = -1 from fun q => (nn_a1 (a := p) (by omega)).mp q), ar_32 this, sgc_p this]
/-- the scan goes on to the place (l, c) when there is no EITHER before it -/
theorem mr_scan (hr : rws S k C R sz) {T : TB} (hT : tbR S T) (hw : wfT R sz T) {l c : Nat} (hl : l < tL T) (hc : c ≤ tP T) : ∀ (n l' c' : Nat) (o4 : Option MV), (l - l') * 50 + 45 - c' = n → l' ≤ l → c' ≤ tP T → (l' = l → c' ≤ c) → (∀ a b, (l' < a ∨ (l' = a ∧ c' ≤ b)) → (a < l ∨ (a = l ∧ b < c)) → b < tP T → sgc (S 32) (tC T a b) ≠ N2) →
    ∃ o, mm_E (mm_runD (d + 1)) pX8_part 0 19 [some (.inr 27), some (.inl 0), some (.inl (nI l')), some (.inl (nI c')), o4] [] S 0 0 = mm_E (mm_runD (d + 1)) pX8_part 0 19 [some (.inr 27), some (.inl 0), some (.inl (nI l)), some (.inl (nI c)), o] [] S 0 0 := by
  obtain ⟨h1, h2, h3, h4, h5⟩ := hT
  obtain ⟨w1, w2, w3⟩ := hw
  intro n
  induction n using Nat.strongRecOn with
  | ind n ih =>
    intro l' c' o4 hn hl' hc' hlc hE
    by_cases e : l' = l ∧ c' = c
    · obtain ⟨rfl, rfl⟩ := e
      exact ⟨o4, rfl⟩
    · by_cases q : tP T ≤ c'
      · obtain ⟨o, g⟩ := ih _ (by omega) (l' + 1) 0 o4 rfl (by omega) (by omega) (by omega) (fun a b u w x => hE a b (by omega) w x)
        refine ⟨o, ?_⟩
        rw [nI_0] at g
        rw [eX8_part_19, h1, if_pos (nI_le q (by omega)), nI_1, eX8_part_11, h2, if_neg (nI_ge (by omega) (by omega)), if_pos rfl, g]
      · obtain ⟨o, g⟩ := ih _ (by omega) l' (c' + 1) (some (.inl (tC T l' c'))) rfl (by omega) (by omega) (by omega) (fun a b u w x => hE a b (by omega) w x)
        refine ⟨o, ?_⟩
        rw [eX8_part_19, h1, if_neg (nI_ge (by omega) (by omega)), if_pos rfl, li_44, nn_mul, nI_add, ar_40 (by omega), h5 l' c' (by omega) (by omega), mr_signOf hr (w3 l' c' (by omega) (by omega)), mm_bd_ret, if_neg (show ¬ sgc (S 32) (tC T l' c') = -2 from hE l' c' (by omega) (by omega) (by omega)), nI_1]
        exact g
/-- the reference parts its lines -/
theorem mr_part_l (hW : kW k) : ∀ (f : Nat) (T : TB) (l c : Nat) (r : Option TB) (S : Mem), mr_K S k → rws S k C R sz → tbR S T → wfT R sz T → S 27 22 = 0 → c ≤ tP T → l ≤ tL T → (∀ a b, (a < l ∨ (a = l ∧ b < c)) → b < tP T → sgc (S 32) (tC T a b) ≠ N2) → spl (S 32) (gk S k) f T l c = some r →
    ∃ S', (∀ (o3 o4 : Option MV), mm_E (mm_runD (d + 3)) pX8_part 0 (if l < tL T then 19 else 11) (if l < tL T then [some (.inr 27), some (.inl 0), some (.inl (nI l)), some (.inl (nI c)), o4] else [some (.inr 27), some (.inl 0), some (.inl (nI l)), o3, o4]) [] S 0 0 = some (S', 0, 0, 0, 0)) ∧ mfr [27, 39, 40] S S' ∧ (∀ j, j ≠ 18 → j ≠ 22 → S' 27 j = S 27 j) ∧
      (∀ T', r = some T' → tbR S' T' ∧ S' 27 22 = 0) ∧ (r = none → S' 27 22 = 1) := by
  intro f
  induction f with
  | zero => intro T l c r S _ _ _ _ _ _ _ _ h; cases h
  | succ f ih =>
    intro T l c r S hK hr hT hw h22 hc hl hE hs
    obtain ⟨h1, h2, h3, h4, h5⟩ := hT
    have hT : tbR S T := ⟨h1, h2, h3, h4, h5⟩
    obtain ⟨w1, w2, w3⟩ := hw
    have hw : wfT R sz T := ⟨w1, w2, w3⟩
    unfold spl at hs
    by_cases q1 : tL T ≤ l
    · rw [if_pos q1] at hs
      cases hs
      refine ⟨S, fun o3 o4 => ?_, mfr_rf, fun _ _ _ => rfl, fun T' e => by cases e; exact ⟨hT, h22⟩, fun e => by cases e⟩
      rw [if_neg (by omega), if_neg (by omega), eX8_part_11, h2, if_pos (nI_le q1 (by omega)), eX8_part_2, if_pos rfl]
    · rw [if_neg q1] at hs
      have hlt : l < tL T := by omega
      by_cases q2 : tP T ≤ c
      · rw [if_pos q2] at hs
        obtain ⟨S', g1, g2, g3, g4, g5⟩ := ih T (l + 1) 0 r S hK hr hT hw h22 (by omega) (by omega) (fun a b u w => hE a b (by omega) w) hs
        refine ⟨S', fun o3 o4 => ?_, g2, g3, g4, g5⟩
        rw [if_pos hlt, if_pos hlt, eX8_part_19, h1, if_pos (nI_le q2 (by omega)), nI_1]
        by_cases q3 : l + 1 < tL T
        · have := g1 o3 o4
          rw [if_pos q3, if_pos q3, nI_0] at this
          rw [eX8_part_11, h2, if_neg (nI_ge q3 (by omega)), if_pos rfl]
          exact this
        · have := g1 (some (.inl (nI c))) o4
          rw [if_neg q3, if_neg q3] at this
          exact this
      · rw [if_neg q2] at hs
        by_cases q3 : sgc (S 32) (tC T l c) = N2
        · rw [if_pos q3] at hs
          obtain ⟨p, e1, e2, e3, e4, e5, e6⟩ := wfT_E hr hw hlt (by omega) q3
          have hp4 := okp_lt hr e1
          by_cases q4 : tL T = 60
          · rw [if_pos q4] at hs
            cases hs
            refine ⟨mm_put S 27 22 1, fun o3 o4 => ?_, mfr_put (by simp), fun j _ hj => mp_pk _ _ _ hj, (fun T' e => by cases e), fun _ => mp_pp _ _ _ _⟩
            have f1 : (mm_put S 27 22 1) 27 17 = nI (tP T) := h1
            have f2 : (mm_put S 27 22 1) 27 18 = nI (tL T) := h2
            rw [if_pos hlt, if_pos hlt, eX8_part_19, h1, if_neg (nI_ge (by omega) (by omega)), if_pos rfl, li_44, nn_mul, nI_add, ar_40 (by omega), h5 l c hlt (by omega), mr_signOf hr (w3 l c hlt (by omega)), mm_bd_ret, if_pos (show sgc (S 32) (tC T l c) = -2 from q3), h2, if_pos (by rw [q4]; rfl), mp_pp, if_neg (by decide), nI_1, eX8_part_19, f1]
            have fin : ∀ o3 o4 : Option MV, mm_E (mm_runD (d + 3)) pX8_part 0 11 [some (.inr 27), some (.inl 1), some (.inl (nI (l + 1))), o3, o4] [] (mm_put S 27 22 1) 0 0 = some (mm_put S 27 22 1, 0, 0, 0, 0) := by
              intro o3 o4
              have f3 : ∀ o2 o3 o4 : Option MV, mm_E (mm_runD (d + 3)) pX8_part 0 2 [some (.inr 27), some (.inl 1), o2, o3, o4] [] (mm_put S 27 22 1) 0 0 = some (mm_put S 27 22 1, 0, 0, 0, 0) := by
                intro o2 o3 o4
                rw [eX8_part_2, if_neg (by decide), mp_pp, if_neg (by decide)]
              rw [eX8_part_11, f2, f3]
              split
              · rfl
              · rw [if_neg (by decide)]
            by_cases q5 : nI (tP T) ≤ nI (c + 1)
            · rw [if_pos q5, nI_1]; exact fin _ _
            · rw [if_neg q5, if_neg (by decide), nI_1]; exact fin _ _
          · rw [if_neg q4] at hs
            have h22' : mm_put S 27 22 0 = S := by
              unfold mm_put
              rw [upd_self h22, mm_stc_self]
            obtain ⟨S1, a1, a2, a3, a4⟩ := mr_doubled (d := d) (S := S) hK hW hr hT hw hlt (by omega) (by omega) e2 e5 hp4
            have k1 : mr_K S1 k := by
              unfold mr_K
              rw [a3 1 (by decide), a3 2 (by decide), a2 28 (by decide), a2 29 (by decide)]
              exact hK
            have r1 : rws S1 k C R sz := by
              unfold rws
              rw [a3 7 (by decide), a2 8 (by decide), a2 33 (by decide), a2 32 (by decide), a2 9 (by decide), a2 10 (by decide)]
              exact hr
            have w1' := wfT_db hr hw hlt (by omega) q4 q3
            have z22 : S1 27 22 = 0 := by rw [a3 22 (by decide)]; exact h22
            have e32 : S1 32 = S 32 := a2 32 (by decide)
            have eg : gk S1 k = gk S k := by unfold gk; rw [e32]
            have hE1 : ∀ a b, (a < l ∨ (a = l ∧ b < c)) → b < tP (dbT (gk S k) T l c) → sgc (S1 32) (tC (dbT (gk S k) T l c) a b) ≠ N2 := by
              intro a b u w
              rw [e32]
              show sgc (S 32) (if b = c ∧ a = l then _ else if b = c ∧ a = l + 1 then _ else if a ≤ l then tC T a b else tC T (a - 1) b) ≠ N2
              rw [if_neg (by omega), if_neg (by omega), if_pos (by omega)]
              exact hE a b u w
            have hs' : spl (S1 32) (gk S1 k) f (dbT (gk S k) T l c) l c = some r := by rw [e32, eg]; exact hs
            obtain ⟨S', g1, g2, g3, g4, g5⟩ := ih (dbT (gk S k) T l c) l c r S1 k1 r1 a4 w1' z22 hc (show l ≤ tL T + 1 by omega) hE1 hs'
            have hlt' : l < tL (dbT (gk S k) T l c) := show l < tL T + 1 by omega
            refine ⟨S', fun o3 o4 => ?_, mfr_tr a2 g2, fun j u w => by rw [g3 j u w, a3 j u], g4, g5⟩
            have fin : ∀ o3 o4 : Option MV, mm_E (mm_runD (d + 3)) pX8_part 0 11 [some (.inr 27), some (.inl 1), some (.inl (nI (l + 1))), o3, o4] [] S1 0 0 = some (S', 0, 0, 0, 0) := by
              intro o3 o4
              have f3 : ∀ o2 o3 o4 : Option MV, mm_E (mm_runD (d + 3)) pX8_part 0 2 [some (.inr 27), some (.inl 1), o2, o3, o4] [] S1 0 0 = some (S', 0, 0, 0, 0) := by
                intro o2 o3 o4
                obtain ⟨o, b1⟩ := mr_scan (d := d + 2) (S := S1) r1 a4 w1' hlt' (show c ≤ tP (dbT (gk S k) T l c) from hc) _ 0 0 o4 rfl (by omega) (by omega) (by omega) (fun a b _ w x => hE1 a b w x)
                have b2 := g1 o3 o
                rw [if_pos hlt', if_pos hlt'] at b2
                rw [nI_0] at b1
                rw [eX8_part_2, if_neg (by decide), z22, if_pos rfl, eX8_part_11, a4.2.1, if_neg (show ¬ nI (tL (dbT (gk S k) T l c)) ≤ 0 from nI_nle (by omega) (show tL T + 1 < 2 ^ 31 by omega)), if_pos rfl, b1, b2]
              rw [eX8_part_11, f3]
              split
              · rfl
              · rw [if_neg (by decide)]
            rw [if_pos hlt, if_pos hlt, eX8_part_19, h1, if_neg (nI_ge (by omega) (by omega)), if_pos rfl, li_44, nn_mul, nI_add, ar_40 (by omega), h5 l c hlt (by omega), mr_signOf hr (w3 l c hlt (by omega)), mm_bd_ret, if_pos (show sgc (S 32) (tC T l c) = -2 from q3), h2, if_neg (show ¬ nI (tL T) = 60 from fun z => q4 ((nI_eq (b := 60) (by omega) (by omega)).mp z)), mp_pp, if_pos rfl, h22', e2, a1, mm_bd_ret, nI_1, eX8_part_19]
            by_cases q5 : S1 27 17 ≤ nI (c + 1)
            · rw [if_pos q5, nI_1]; exact fin _ _
            · rw [if_neg q5, if_neg (by decide), nI_1]; exact fin _ _
        · rw [if_neg q3] at hs
          obtain ⟨S', g1, g2, g3, g4, g5⟩ := ih T l (c + 1) r S hK hr hT hw h22 (by omega) hl (fun a b u w => by
            by_cases z : a = l ∧ b = c
            · obtain ⟨rfl, rfl⟩ := z; exact q3
            · exact hE a b (by omega) w) hs
          refine ⟨S', fun o3 o4 => ?_, g2, g3, g4, g5⟩
          have := g1 o3 (some (.inl (tC T l c)))
          rw [if_pos hlt, if_pos hlt] at this
          rw [if_pos hlt, if_pos hlt, eX8_part_19, h1, if_neg (nI_ge (by omega) (by omega)), if_pos rfl, li_44, nn_mul, nI_add, ar_40 (by omega), h5 l c hlt (by omega), mr_signOf hr (w3 l c hlt (by omega)), mm_bd_ret, if_neg (show ¬ sgc (S 32) (tC T l c) = -2 from q3), nI_1]
          exact this
theorem mr_part (hK : mr_K S k) (hW : kW k) (hr : rws S k C R sz) {T : TB} (hT : tbR S T) (hw : wfT R sz T) (h22 : S 27 22 = 0) :
    ∃ S', mm_runD (d + 4) 139 [.inr 27] S = some (S', 0, 0, 0, 0) ∧ mfr [27, 39, 40] S S' ∧ (∀ j, j ≠ 18 → j ≠ 22 → S' 27 j = S 27 j) ∧ (∀ T', spT (S 32) (gk S k) T = some T' → tbR S' T' ∧ S' 27 22 = 0) ∧ (spT (S 32) (gk S k) T = none → S' 27 22 = 1) := by
  obtain ⟨f, hf⟩ := spT_is (G := S 32) (g := gk S k) (T := T) hw.2.1
  obtain ⟨S', g1, g2, g3, g4, g5⟩ := mr_part_l (d := d) hW f T 0 0 _ S hK hr hT hw h22 (by omega) (by omega) (fun a b u _ => by omega) hf
  refine ⟨S', ?_, g2, g3, g4, g5⟩
  rw [dX8_part, eX8_part_0, eX8_part_2, if_neg (by decide), h22, if_pos rfl]
  have := g1 none none
  by_cases q : 0 < tL T
  · rw [if_pos q, if_pos q, nI_0] at this
    have h6 := hw.2.1
    rw [eX8_part_11, hT.2.1, if_neg (nI_nle q (by omega)), if_pos rfl]
    exact this
  · rw [if_neg q, if_neg q, nI_0] at this
    exact this
end
