/-! PURE: the reference makes a node -/
def mst2 (f g : Nat → Int32) : List (Nat × Nat) → Prop
  | [] => True
  | a :: r => f r.length = nI a.1 ∧ g r.length = nI a.2 ∧ mst2 f g r
theorem mst2_ext {f g f' g' : Nat → Int32} : ∀ {L : List (Nat × Nat)}, (∀ j, j < L.length → f j = f' j ∧ g j = g' j) → mst2 f g L → mst2 f' g' L := by
  intro L
  induction L with
  | nil => intro _ _; trivial
  | cons a r ih =>
    intro h q
    obtain ⟨e1, e2⟩ := h r.length (by simp)
    exact ⟨by rw [← e1]; exact q.1, by rw [← e2]; exact q.2.1, ih (fun j hj => h j (by simp; omega)) q.2.2⟩
theorem mst2_push {f g : Nat → Int32} {L : List (Nat × Nat)} {p m n : Nat} (hn : n = L.length) (h : mst2 f g L) : mst2 (upd f n (nI p)) (upd g n (nI m)) ((p, m) :: L) := by
  subst hn
  exact ⟨pk_us, pk_us, mst2_ext (fun j hj => ⟨(pk_un (by omega)).symm, (pk_un (by omega)).symm⟩) h⟩
section
variable {d : Nat} {S : Mem} {k : KK} {C R : Nat} {sz : Nat → Nat}
/-- the makers of a TEST wait -/
theorem mr_bg_push (hW : kW k) {N t : Nat} (hN : N < 301) (ht : t < 2 ^ 31) {o1 o2 o4 : Option MV} : ∀ (i : Nat) (S : Mem) (W : List (Nat × Nat)), i ≤ kM k → mr_K S k → kV (S 30) k → S 44 N = nI t → S 27 25 = nI W.length → W.length + i ≤ 2500 → S 49 N = nI (lvl k t (kM k - i) i).length → mst2 (S 50) (S 51) W →
    ∃ S', mm_E (mm_runD (d + 2)) pX8_begin 0 121 [some (.inr 27), o1, o2, some (.inl (nI N)), o4, some (.inl (nI i - 1))] [] S 0 0 = some (S', 0, 0, 0, 0) ∧ mfr [27, 49, 50, 51] S S' ∧ (∀ j, j ≠ 25 → S' 27 j = S 27 j) ∧ (∀ j, j ≠ N → S' 49 j = S 49 j) ∧ S' 49 N = nI (lvl k t (kM k) 0).length ∧
      ∃ V, V ++ (lvl k t (kM k - i) i).map (fun m => (N, m)) = (lvl k t (kM k) 0).map (fun m => (N, m)) ∧ S' 27 25 = nI (V ++ W).length ∧ mst2 (S' 50) (S' 51) (V ++ W) := by
  have hM := hW.2.1
  have hT := hW.1
  intro i
  induction i with
  | zero =>
    intro S W hi hK hV h44 h25 hw h49 hm
    refine ⟨S, ?_, mfr_rf, fun _ _ => rfl, fun _ _ => rfl, h49, [], rfl, h25, hm⟩
    rw [eX8_begin_121, if_pos (by decide)]
  | succ i ih =>
    intro S W hi hK hV h44 h25 hw h49 hm
    have hty := (hW.2.2 i (by omega)).1
    have hD := mr_isDead (d := d) hK hW (show i < kM k by omega) (fun t => (hV t).1)
    have el : kM k - i = (kM k - (i + 1)) + 1 := by omega
    have start : mm_E (mm_runD (d + 2)) pX8_begin 0 121 [some (.inr 27), o1, o2, some (.inl (nI N)), o4, some (.inl (nI (i + 1) - 1))] [] S 0 0 = mm_E (mm_runD (d + 2)) pX8_begin 0 121 [some (.inr 27), o1, o2, some (.inl (nI N)), o4, some (.inl (nI i))] [] S 0 0 := by rw [nI_pred]
    by_cases q : kTy k i = t ∧ kLive k i
    · rw [el] at ih
      rw [lvl_t q] at ih
      obtain ⟨S1, eS⟩ : ∃ S1, S1 = mm_put (mm_put (mm_put (mm_put S 50 W.length (nI N)) 51 W.length (nI i)) 27 25 (nI (W.length + 1))) 49 N (nI ((lvl k t (kM k - (i + 1)) (i + 1)).length + 1)) := ⟨_, rfl⟩
      obtain ⟨S', a1, a2, a3, a4, a5, V, a6, a7, a8⟩ := ih S1 ((N, i) :: W) (by omega) (by subst eS; exact hK) (by subst eS; exact hV) (by subst eS; exact h44) (by subst eS; rfl) (by rw [List.length_cons]; omega) (by subst eS; rw [mp_pp, List.length_cons]) (by
        have e50 : S1 50 = upd (S 50) W.length (nI N) := by subst eS; rw [mp_pn _ _ _ (by decide), mp_pn _ _ _ (by decide), mp_pn _ _ _ (by decide)]; exact mm_stc_at _ _ _
        have e51 : S1 51 = upd (S 51) W.length (nI i) := by
          subst eS
          rw [mp_pn _ _ _ (by decide), mp_pn _ _ _ (by decide)]
          exact mm_stc_at _ _ _
        rw [e50, e51]
        exact mst2_push rfl hm)
      have F1 : mfr [27, 49, 50, 51] S S1 := by subst eS; exact mfr_tr (mfr_tr (mfr_tr (mfr_put (by simp)) (mfr_put (by simp))) (mfr_put (by simp))) (mfr_put (by simp))
      refine ⟨S', ?_, mfr_tr F1 a2, fun j hj => ?_, fun j hj => ?_, a5, V ++ [(N, i)], ?_, ?_, ?_⟩
      · have r1 : (mm_put S 50 W.length (nI N)) 27 25 = nI W.length := h25
        have r2 : (mm_put (mm_put S 50 W.length (nI N)) 51 W.length (nI i)) 27 25 = nI W.length := h25
        have r3 : (mm_put (mm_put (mm_put S 50 W.length (nI N)) 51 W.length (nI i)) 27 25 (nI (W.length + 1))) 49 N = nI (lvl k t (kM k - (i + 1)) (i + 1)).length := h49
        rw [start, eX8_begin_121, if_neg (nI_pos (by omega)), ar_28 (by omega), ar_44 hN, (hK.2.2 i (by omega)).1, h44, if_pos (by rw [q.1]), hD, mm_bd_ret, mb_f (fun z => (kV_dd hV i).mp z q.2), if_pos rfl, h25, ar_50 (by omega), r1, ar_51 (by omega), r2, nI_1, ar_49 hN, ar_49 hN, r3, nI_1, ← eS, nn_sm]
        exact a1
      · rw [a3 j hj]; subst eS; rw [mp_pn _ _ _ (by decide), mp_pk _ _ _ hj]; rfl
      · rw [a4 j hj]; subst eS; rw [mp_pk _ _ _ hj]; rfl
      · rw [← a6, List.append_assoc]; rfl
      · rw [a7, List.append_assoc]; rfl
      · rw [List.append_assoc]; exact a8
    · rw [el] at ih
      rw [lvl_f q] at ih
      obtain ⟨S', a1, a2⟩ := ih S W (by omega) hK hV h44 h25 (by omega) h49 hm
      refine ⟨S', ?_, a2⟩
      by_cases z : kTy k i = t
      · rw [start, eX8_begin_121, if_neg (nI_pos (by omega)), ar_28 (by omega), ar_44 hN, (hK.2.2 i (by omega)).1, h44, if_pos (by rw [z]), hD, mm_bd_ret, mb_t ((kV_dd hV i).mpr (fun y => q ⟨z, y⟩)), if_neg (by decide), nn_sm]
        exact a1
      · rw [start, eX8_begin_121, if_neg (nI_pos (by omega)), ar_28 (by omega), ar_44 hN, (hK.2.2 i (by omega)).1, h44, if_neg (fun y => z ((nI_eq (by omega) ht).mp y)), nn_sm]
        exact a1
/-- the first place with a maker -/
theorem mr_bg_scan (hr : rws S k C R sz) {T : TB} (hT : tbR S T) (hw : wfT R sz T) (hL : tL T ≠ 0) {o1 o2 o5 : Option MV} {x3 : Int32} : ∀ (n c : Nat), tP T - c = n → c ≤ tP T → mm_E (mm_runD (d + 1)) pX8_begin 0 47 [some (.inr 27), o1, o2, some (.inl x3), some (.inl (nI c)), o5] [] S 0 0 = mm_E (mm_runD (d + 1)) pX8_begin 0 64 [some (.inr 27), o1, o2, some (.inl x3), some (.inl (nI (fst0 (S 32) T n c))), o5] [] S 0 0 := by
  obtain ⟨h1, h2, h3, h4, h5⟩ := hT
  have w1 := hw.1
  have w2 := hw.2.1
  intro n
  induction n with
  | zero =>
    intro c hn hc
    rw [eX8_begin_47, h2, if_neg (nI_nle (by omega) (by omega)), h1, if_pos (nI_le (by omega) (by omega))]
    rfl
  | succ n ih =>
    intro c hn hc
    have cell := h5 0 c (by omega) (by omega)
    rw [show 44 * 0 + c = c by omega] at cell
    rw [eX8_begin_47, h2, if_neg (nI_nle (by omega) (by omega)), h1, if_neg (nI_ge (by omega) (by omega)), ar_40 (by omega), cell, mr_signOf hr (hw.2.2 0 c (by omega) (by omega)), mm_bd_ret]
    unfold fst0
    by_cases q : sgc (S 32) (tC T 0 c) = N1
    · rw [if_pos q, if_pos q, nI_1]
      exact ih (c + 1) (by omega) (by omega)
    · rw [if_neg (show ¬ sgc (S 32) (tC T 0 c) = -1 from q), if_neg q]
end
