/-! PURE: maker, isEmpty, match: the class's answers, the reference's answers -/
section
variable {d : Nat} {S : Mem} {k : KK}
theorem mq_isEmpty_out (hK : mq_K S k) (hW : kW k) {x : Int32} (h : ¬ mi x (kT k)) : mm_runD (d + 3) 91 [.inr 0, .inl x] S = some (S, 1, 6, 3, 0) := by
  rw [dX7_isEmpty, eX7_isEmpty_0, mq_hasType hK hW, mm_bd_ret, mb_f h, if_pos rfl]
theorem mq_isEmpty_in (hK : mq_K S k) (hW : kW k) (hV : kV (S 3) k) {t : Nat} (ht : t < kT k) : mm_runD (d + 3) 91 [.inr 0, .inl (nI t)] S = some (S, 0, 0, 0, mb (¬ kVal k t)) := by
  have h8 := hW.1
  have e : (∃ u, u < kT k ∧ nI t = nI u ∧ kVal k u) ↔ kVal k t := ⟨fun ⟨u, h1, h2, h3⟩ => by have := (nI_eq (by omega) (by omega)).mp h2; subst this; exact h3, fun h => ⟨t, ht, rfl, h⟩⟩
  rw [dX7_isEmpty, eX7_isEmpty_0, mq_hasType hK hW, mm_bd_ret, mb_t (mi_in ht), if_neg (by decide), mq_hasValue hK hW hV, mm_bd_ret, mb_iff e]
  by_cases q : kVal k t
  · rw [mb_t q, if_neg (by decide), mb_f (fun z => z q)]
  · rw [mb_f q, if_pos rfl, mb_t q]
theorem mr_isEmpty_out (hK : mr_K S k) (hW : kW k) {x : Int32} (h : ¬ mi x (kT k)) : mm_runD (d + 4) 123 [.inr 27, .inl x] S = some (mm_put S 27 0 1, 0, 0, 0, 0) := by
  rw [dX8_isEmpty, eX8_isEmpty_0, mr_isType hK hW, mm_bd_ret, mb_f h, if_pos rfl, mp_pp, if_neg (by decide)]
theorem mr_isEmpty_in (hK : mr_K S k) (hW : kW k) (h30 : ∀ t, 8 ≤ t → S 30 t = 0) {t : Nat} (ht : t < kT k) : ∃ f, mm_runD (d + 4) 123 [.inr 27, .inl (nI t)] S = some (mm_stc (mm_put S 27 0 0) 30 f, 0, 0, 0, mb (¬ kVal k t)) ∧ kV f k := by
  have h8 := hW.1
  obtain ⟨f, h1, h2⟩ := mr_find (d := d) (S := mm_put S 27 0 0) (k := k) hK hW h30
  refine ⟨f, ?_, h2⟩
  rw [dX8_isEmpty, eX8_isEmpty_0, mr_isType hK hW, mm_bd_ret, mb_t (mi_in ht), if_neg (by decide), mp_pp, if_pos (by decide), h1, mm_bd_ret, ar_30 (by omega), mm_stc_at]
  by_cases q : f t = 0
  · rw [if_pos q, mb_t (fun z => (h2 t).2.mpr z q)]
  · rw [if_neg q, mb_f (fun z => z ((h2 t).2.mp q))]
theorem mq_match_bad (hK : mq_K S k) (hW : kW k) {a b c : Int32} (h : a = N1 ∨ ¬ at3 (kT k) a b c) : mm_runD (d + 4) 92 [.inr 0, .inl a, .inl b, .inl c] S = some (S, 1, 6, 3, 0) := by
  rw [dX7_match, eX7_match_0, mq_countTypes hK hW, mm_bd_ret]
  by_cases q : at3 (kT k) a b c
  · rcases h with h | h
    · rw [if_pos q, show ct3 a b c = 0 from if_pos h, if_neg (by decide), if_pos nI_0]
    · exact absurd q h
  · rw [if_neg q, if_pos rfl]
theorem mq_match_ok (hK : mq_K S k) (hW : kW k) {a b c : Int32} (ha : a ≠ N1) (h : at3 (kT k) a b c) :
    ∃ S', mm_runD (d + 4) 92 [.inr 0, .inl a, .inl b, .inl c] S = some (S', 0, 0, 0, 0) ∧ mfr [0, 7, 8, 11, 14, 15, 18, 19] S S' ∧ S' 0 2 = nI (ct3 a b c) ∧ (∀ j, j < ct3 a b c → S' 7 j = nI (tg3 a b c j)) ∧ S' 8 2 = nI 0 ∧ S' 19 3 = nI 0 ∧ mq_Hr S' 0 (seg (tg3 a b c) 0 (ct3 a b c)) ∧ mq_Hv S' 0 (seg (tg3 a b c) 0 (ct3 a b c)) := by
  have h3 := ct3_le a b c
  have hp : 0 < ct3 a b c := by
    unfold ct3
    rw [if_neg ha]
    repeat' split
    all_goals omega
  obtain ⟨g0, g1, g2, g3⟩ := at3_g hW.1 h
  obtain ⟨S', h1, h2⟩ := mq_beginMatch (d := d) (S := S) h3 g1 g2 g3
  refine ⟨S', ?_, h2⟩
  rw [dX7_match, eX7_match_0, mq_countTypes hK hW, mm_bd_ret, if_pos h, if_neg (fun q => (nn_a1 (by omega)).mp q), if_neg (nI_ne0 hp (by omega)), h1, mm_bd_ret]
theorem mr_match_bad (hK : mr_K S k) (hW : kW k) {a b c : Int32} (h : a = N1 ∨ ¬ at3 (kT k) a b c) : mm_runD (d + 3) 125 [.inr 27, .inl a, .inl b, .inl c] S = some (mm_put S 27 0 1, 0, 0, 0, 0) := by
  rw [dX8_match, eX8_match_0]
  by_cases q : a = N1
  · rw [if_pos q, mp_pp, if_neg (by decide)]
  · rcases h with h | h
    · exact absurd h q
    · rw [if_neg (show ¬ a = -1 from q), mr_areTypes hK hW, mm_bd_ret, mb_f h, if_pos rfl, mp_pp, if_neg (by decide)]
theorem mr_match_ok (hK : mr_K S k) (hW : kW k) {a b c : Int32} (ha : a ≠ N1) (h : at3 (kT k) a b c) :
    mm_runD (d + 3) 125 [.inr 27, .inl a, .inl b, .inl c] S = some (mm_put (mm_put (mm_put (mm_put (mm_put (mm_put (mm_put (mm_put (mm_put S 27 0 0) 31 0 a) 31 1 b) 31 2 c) 27 6 (nI (ct3 a b c))) 27 7 0) 27 8 0) 27 9 0) 27 24 N1, 0, 0, 0, 0) := by
  have a0 : ∀ (S : Mem) (kk : Nat → Option Res), mm_arr S 1 31 0 kk = kk 0 := fun _ _ => ar_31 (j := 0) (by omega)
  have a1 : ∀ (S : Mem) (kk : Nat → Option Res), mm_arr S 1 31 1 kk = kk 1 := fun _ _ => ar_31 (j := 1) (by omega)
  have a2 : ∀ (S : Mem) (kk : Nat → Option Res), mm_arr S 1 31 2 kk = kk 2 := fun _ _ => ar_31 (j := 2) (by omega)
  rw [dX8_match, eX8_match_0, if_neg (show ¬ a = -1 from ha), mr_areTypes hK hW, mm_bd_ret, mb_t h, if_neg (by decide), mp_pp, if_pos (by decide), a0, a1, a2]
  by_cases hb : b = N1
  · rw [if_pos hb, dX8_forget, eX8_forget_0, mm_bd_ret, show ct3 a b c = 1 by unfold ct3; rw [if_neg ha, if_pos hb]] <;> rfl
  · by_cases hc : c = N1
    · rw [if_neg (show ¬ b = -1 from hb), if_pos hc, dX8_forget, eX8_forget_0, mm_bd_ret, show ct3 a b c = 2 by unfold ct3; rw [if_neg ha, if_neg hb, if_pos hc]] <;> rfl
    · rw [if_neg (show ¬ b = -1 from hb), if_neg (show ¬ c = -1 from hc), dX8_forget, eX8_forget_0, mm_bd_ret, show ct3 a b c = 3 by unfold ct3; rw [if_neg ha, if_neg hb, if_neg hc]] <;> rfl
theorem mq_maker_bad (hK : mq_K S k) (hW : kW k) {x a b c : Int32} (h : ¬ (mi x (kT k) ∧ at3 (kT k) a b c)) : mm_runD (d + 4) 90 [.inr 0, .inl x, .inl a, .inl b, .inl c] S = some (S, 1, 6, 3, 0) := by
  rw [dX7_maker, eX7_maker_0, mq_countTypes hK hW, mm_bd_ret, mq_hasType hK hW, mm_bd_ret]
  by_cases q : mi x (kT k)
  · rw [mb_t q, if_neg (by decide), if_neg (show ¬ at3 (kT k) a b c from fun z => h ⟨q, z⟩), if_pos rfl]
  · rw [mb_f q, if_pos rfl]
theorem mq_maker_full (hK : mq_K S k) (hW : kW k) (hC : mq_C S k) {t : Nat} {a b c : Int32} (ht : t < kT k) (h3 : at3 (kT k) a b c) (h : ¬ (kCnt k t (kM k) < 8 ∧ kM k < 40)) : mm_runD (d + 4) 90 [.inr 0, .inl (nI t), .inl a, .inl b, .inl c] S = some (S, 1, 6, 1, 0) := by
  have hle := ct3_le a b c
  rw [dX7_maker, eX7_maker_0, mq_countTypes hK hW, mm_bd_ret, mq_hasType hK hW, mm_bd_ret, mb_t (mi_in ht), if_neg (by decide), if_pos h3, if_neg (fun q => (nn_a1 (by omega)).mp q), mq_hasRoom hK hW hC ht, mm_bd_ret, mb_f h, if_pos rfl]
theorem mq_maker_ok (hK : mq_K S k) (hW : kW k) (hV : kV (S 3) k) (hC : mq_C S k) {t : Nat} {a b c : Int32} (ht : t < kT k) (h3 : at3 (kT k) a b c) (h : kCnt k t (kM k) < 8 ∧ kM k < 40) :
    ∃ S', mm_runD (d + 7) 90 [.inr 0, .inl (nI t), .inl a, .inl b, .inl c] S = some (S', 0, 0, 0, nI (kM k)) ∧ mfr [0, 1, 2, 3, 4, 5, 6, 7, 8, 11, 14, 15, 18, 19] S S' ∧ mq_K S' (kAdd k t (ct3 a b c) (tg3 a b c)) ∧ kV (S' 3) (kAdd k t (ct3 a b c) (tg3 a b c)) ∧ mq_C S' (kAdd k t (ct3 a b c) (tg3 a b c)) ∧
      S' 0 2 = nI 0 ∧ S' 8 2 = nI 0 ∧ S' 19 3 = nI 0 ∧ mq_Hr S' 0 [] ∧ mq_Hv S' 0 [] := by
  have hle := ct3_le a b c
  obtain ⟨g0, g1, g2, g3⟩ := at3_g hW.1 h3
  obtain ⟨S1, a1, a2, a3, a4, a5, a6, a7, a8⟩ := mq_beginMatch (d := d + 3) (S := S) (C := 0) (col := fun _ => 0) (a := -1) (b := -1) (c := -1) (by omega) (by omega) (by omega) (by omega)
  have hK1 : mq_K S1 k := by
    unfold mq_K
    rw [a2 1 (by decide), a2 4 (by decide), a2 5 (by decide), a2 6 (by decide)]
    exact hK
  have hC1 : mq_C S1 k := by
    unfold mq_C
    rw [a2 2 (by decide)]
    exact hC
  obtain ⟨S2, b1, b2, b3, b4, b5⟩ := mq_addMaker (d := d) (S := S1) hK1 hW (by rw [a2 3 (by decide)]; exact hV) hC1 ht h.1 h.2 hle g0 g1 g2 g3
  refine ⟨S2, ?_, mfr_tr (mfr_up a2 (by simp)) (mfr_up b2 (by simp)), b3, b4, b5, by rw [b2 0 (by decide)]; exact a3, by rw [b2 8 (by decide)]; exact a5, by rw [b2 19 (by decide)]; exact a6, ?_, ?_⟩
  · rw [nI_0] at a1
    rw [dX7_maker, eX7_maker_0, mq_countTypes hK hW, mm_bd_ret, mq_hasType hK hW, mm_bd_ret, mb_t (mi_in ht), if_neg (by decide), if_pos h3, if_neg (fun q => (nn_a1 (by omega)).mp q), mq_hasRoom hK hW hC ht, mm_bd_ret, mb_t h, if_neg (by decide), a1, mm_bd_ret, b1, mm_bd_ret]
  · unfold mq_Hr
    rw [b2 11 (by decide), b2 14 (by decide)]
    exact a7
  · unfold mq_Hv
    rw [b2 15 (by decide), b2 18 (by decide)]
    exact a8
theorem mr_maker_bad (hK : mr_K S k) (hW : kW k) {x a b c : Int32} (h : ¬ (mi x (kT k) ∧ at3 (kT k) a b c)) : mm_runD (d + 3) 120 [.inr 27, .inl x, .inl a, .inl b, .inl c] S = some (mm_put S 27 0 1, 0, 0, 0, 0) := by
  rw [dX8_maker, eX8_maker_0, mr_isType hK hW, mm_bd_ret]
  by_cases q : mi x (kT k)
  · rw [mb_t q, if_neg (by decide), mr_areTypes hK hW, mm_bd_ret, mb_f (fun z => h ⟨q, z⟩), if_pos rfl, eX8_maker_11, mp_pp, if_neg (by decide)]
  · rw [mb_f q, if_pos rfl, eX8_maker_11, mp_pp, if_neg (by decide)]
theorem mr_maker_full (hK : mr_K S k) (hW : kW k) {t : Nat} {a b c : Int32} (ht : t < kT k) (h3 : at3 (kT k) a b c) (hc8 : kCnt k t (kM k) ≤ 8) (h : ¬ (kCnt k t (kM k) < 8 ∧ kM k < 40)) : mm_runD (d + 3) 120 [.inr 27, .inl (nI t), .inl a, .inl b, .inl c] S = some (mm_put S 27 0 2, 0, 0, 0, 0) := by
  have hT := hW.1
  have hM := hW.2.1
  rw [dX8_maker, eX8_maker_0, mr_isType hK hW, mm_bd_ret, mb_t (mi_in ht), if_neg (by decide), mr_areTypes hK hW, mm_bd_ret, mb_t h3, if_neg (by decide), hK.2.1]
  by_cases q : kM k = 40
  · rw [if_pos (by rw [q]; rfl), mp_pp, if_neg (by decide)]
  · rw [if_neg (show ¬ nI (kM k) = 40 from fun z => q ((nI_eq (b := 40) (by omega) (by omega)).mp z)), mr_makersOf hK hW t (by omega), mm_bd_ret, if_pos (by rw [show kCnt k t (kM k) = 8 by omega]; rfl), mp_pp, if_neg (by decide)]
/-- the reference's new maker -/
def mr_mk (S : Mem) (M t : Nat) (a b c : Int32) : Mem := mm_put (mm_put (mm_put (mm_put (mm_put (mm_put (mm_put (mm_put (mm_put (mm_put (mm_put S 27 0 0) 28 M (nI t)) 29 (3 * M) a) 29 (3 * M + 1) b) 29 (3 * M + 2) c) 27 2 (nI (M + 1))) 27 6 0) 27 7 0) 27 8 0) 27 9 0) 27 24 N1
theorem mr_maker_ok (hK : mr_K S k) (hW : kW k) {t : Nat} {a b c : Int32} (ht : t < kT k) (h3 : at3 (kT k) a b c) (h : kCnt k t (kM k) < 8 ∧ kM k < 40) :
    ∃ b' c', mm_runD (d + 3) 120 [.inr 27, .inl (nI t), .inl a, .inl b, .inl c] S = some (mr_mk S (kM k) t a b' c', 0, 0, 0, nI (kM k)) ∧ (a = N1 → ct3 a b c = 0) ∧ (a ≠ N1 → b' = b ∧ (b = N1 → ct3 a b c = 1) ∧ (b ≠ N1 → c' = c ∧ (c = N1 → ct3 a b c = 2) ∧ (c ≠ N1 → ct3 a b c = 3))) := by
  have hT := hW.1
  have h2 := hK.2.1
  have hM4 := h.2
  by_cases ha : a = -1
  · refine ⟨-1, -1, ?_, fun _ => if_pos ha, fun q => absurd ha q⟩
    rw [dX8_maker, eX8_maker_0, mr_isType hK hW, mm_bd_ret, mb_t (mi_in ht), if_neg (by decide), mr_areTypes hK hW, mm_bd_ret, mb_t h3, if_neg (by decide), hK.2.1, if_neg (show ¬ nI (kM k) = 40 from fun z => absurd ((nI_eq (b := 40) (by omega) (by omega)).mp z) (by omega)), mr_makersOf hK hW t (by omega), mm_bd_ret, if_neg (show ¬ nI (kCnt k t (kM k)) = 8 from fun z => absurd ((nI_eq (b := 8) (by omega) (by omega)).mp z) (by omega)), mp_pp, if_pos (show (0 : Int32) ≤ 0 by decide)]
    simp (disch := omega) only [mp_pp, mp_pn, mp_pk, h2, li_3, li_2, nn_mul, nI_1, nI_add, nI_pred, ar_28, ar_29, ha, ↓reduceIte, mm_bd_ret, dX8_forget, eX8_forget_0, Nat.add_zero]
    rfl
  · by_cases hb : b = -1
    · refine ⟨b, -1, ?_, fun q => absurd q ha, fun _ => ⟨rfl, fun _ => by unfold ct3; rw [if_neg ha, if_pos hb], fun q => absurd hb q⟩⟩
      rw [dX8_maker, eX8_maker_0, mr_isType hK hW, mm_bd_ret, mb_t (mi_in ht), if_neg (by decide), mr_areTypes hK hW, mm_bd_ret, mb_t h3, if_neg (by decide), hK.2.1, if_neg (show ¬ nI (kM k) = 40 from fun z => absurd ((nI_eq (b := 40) (by omega) (by omega)).mp z) (by omega)), mr_makersOf hK hW t (by omega), mm_bd_ret, if_neg (show ¬ nI (kCnt k t (kM k)) = 8 from fun z => absurd ((nI_eq (b := 8) (by omega) (by omega)).mp z) (by omega)), mp_pp, if_pos (show (0 : Int32) ≤ 0 by decide)]
      simp (disch := omega) only [mp_pp, mp_pn, mp_pk, h2, li_3, li_2, nn_mul, nI_1, nI_add, nI_pred, ar_28, ar_29, if_neg ha, hb, ↓reduceIte, mm_bd_ret, dX8_forget, eX8_forget_0, Nat.add_zero]
      rfl
    · refine ⟨b, c, ?_, fun q => absurd q ha, fun _ => ⟨rfl, fun q => absurd q hb, fun _ => ⟨rfl, fun q => by unfold ct3; rw [if_neg ha, if_neg hb, if_pos q], fun q => by unfold ct3; rw [if_neg ha, if_neg hb, if_neg q]⟩⟩⟩
      rw [dX8_maker, eX8_maker_0, mr_isType hK hW, mm_bd_ret, mb_t (mi_in ht), if_neg (by decide), mr_areTypes hK hW, mm_bd_ret, mb_t h3, if_neg (by decide), hK.2.1, if_neg (show ¬ nI (kM k) = 40 from fun z => absurd ((nI_eq (b := 40) (by omega) (by omega)).mp z) (by omega)), mr_makersOf hK hW t (by omega), mm_bd_ret, if_neg (show ¬ nI (kCnt k t (kM k)) = 8 from fun z => absurd ((nI_eq (b := 8) (by omega) (by omega)).mp z) (by omega)), mp_pp, if_pos (show (0 : Int32) ≤ 0 by decide)]
      simp (disch := omega) only [mp_pp, mp_pn, mp_pk, h2, li_3, li_2, nn_mul, nI_1, nI_add, nI_pred, ar_28, ar_29, if_neg ha, if_neg hb, ↓reduceIte, mm_bd_ret, dX8_forget, eX8_forget_0, Nat.add_zero]
      rfl
end
