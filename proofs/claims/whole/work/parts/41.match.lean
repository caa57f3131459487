/-! PURE: three types in a row -/
def at3 (T : Nat) (a b c : Int32) : Prop := a = N1 ∨ mi a T ∧ (b = N1 ∨ mi b T ∧ (c = N1 ∨ mi c T))
def ct3 (a b c : Int32) : Nat := if a = N1 then 0 else if b = N1 then 1 else if c = N1 then 2 else 3
def tg3 (a b c : Int32) : Nat → Nat := fun j => if j = 0 then a.toNatClampNeg else if j = 1 then b.toNatClampNeg else c.toNatClampNeg
theorem ct3_le (a b c : Int32) : ct3 a b c ≤ 3 := by
  unfold ct3
  repeat' split
  all_goals omega
theorem at3_g {T : Nat} {a b c : Int32} (hT : T ≤ 8) (h : at3 T a b c) : (∀ j, j < ct3 a b c → tg3 a b c j < T) ∧ (0 < ct3 a b c → a = nI (tg3 a b c 0)) ∧ (1 < ct3 a b c → b = nI (tg3 a b c 1)) ∧ (2 < ct3 a b c → c = nI (tg3 a b c 2)) := by
  have e0 : tg3 a b c 0 = a.toNatClampNeg := rfl
  have e1 : tg3 a b c 1 = b.toNatClampNeg := rfl
  have e2 : tg3 a b c 2 = c.toNatClampNeg := rfl
  have key : ∀ x : Int32, mi x T → x.toNatClampNeg < T ∧ x = nI x.toNatClampNeg := by
    rintro x ⟨j, hj, rfl⟩
    rw [nI_clamp (by omega)]
    exact ⟨hj, rfl⟩
  have n1 : ∀ x : Int32, mi x T → ¬ x = N1 := fun x hx e => mi_N1 (n := T) (by omega) (e ▸ hx)
  have three : ∀ j, j < 3 → (∀ P : Nat → Prop, P 0 → P 1 → P 2 → P j) := by
    intro j hj P p0 p1 p2
    rcases (show j = 0 ∨ j = 1 ∨ j = 2 by omega) with rfl | rfl | rfl
    · exact p0
    · exact p1
    · exact p2
  rcases h with h | ⟨ha, h⟩
  · have e : ct3 a b c = 0 := if_pos h
    rw [e]
    exact ⟨fun j hj => by omega, fun q => by omega, fun q => by omega, fun q => by omega⟩
  · have na := n1 a ha
    have ka := key a ha
    rcases h with h | ⟨hb, h⟩
    · have e : ct3 a b c = 1 := by unfold ct3; rw [if_neg na, if_pos h]
      rw [e]
      refine ⟨fun j hj => ?_, fun _ => by rw [e0]; exact ka.2, fun q => by omega, fun q => by omega⟩
      have : j = 0 := by omega
      subst this
      exact ka.1
    · have nb := n1 b hb
      have kb := key b hb
      rcases h with h | hc
      · have e : ct3 a b c = 2 := by unfold ct3; rw [if_neg na, if_neg nb, if_pos h]
        rw [e]
        refine ⟨fun j hj => ?_, fun _ => by rw [e0]; exact ka.2, fun q => by rw [e1]; exact kb.2, fun q => by omega⟩
        rcases (show j = 0 ∨ j = 1 by omega) with rfl | rfl
        · exact ka.1
        · exact kb.1
      · have kc := key c hc
        have e : ct3 a b c = 3 := by unfold ct3; rw [if_neg na, if_neg nb, if_neg (n1 c hc)]
        rw [e]
        refine ⟨fun j hj => ?_, fun _ => by rw [e0]; exact ka.2, fun q => by rw [e1]; exact kb.2, fun q => by rw [e2]; exact kc.2⟩
        exact three j hj (fun j => tg3 a b c j < T) ka.1 kb.1 kc.1
section
variable {d : Nat} {S : Mem} {k : KK}
theorem mq_countTypes (hK : mq_K S k) (hW : kW k) (a b c : Int32) : mm_runD (d + 2) 105 [.inr 0, .inl a, .inl b, .inl c] S = some (S, 0, 0, 0, @ite Int32 (at3 (kT k) a b c) (Classical.propDecidable _) (nI (ct3 a b c)) N1) := by
  have hT := hW.1
  have n1 : ∀ x : Int32, x = N1 → ¬ mi x (kT k) := fun x hx e => mi_N1 (n := kT k) (by omega) (hx ▸ e)
  rw [dX7_countTypes, eX7_countTypes_0]
  by_cases ha : a = N1
  · rw [if_pos ha, if_pos (show at3 (kT k) a b c from Or.inl ha), show ct3 a b c = 0 from if_pos ha] <;> rfl
  · rw [if_neg (show ¬ a = -1 from ha), mq_hasType hK hW, mm_bd_ret]
    by_cases ma : mi a (kT k)
    · rw [mb_t ma, if_neg (by decide)]
      by_cases hb : b = N1
      · rw [if_pos hb, if_pos (show at3 (kT k) a b c from Or.inr ⟨ma, Or.inl hb⟩), show ct3 a b c = 1 by unfold ct3; rw [if_neg ha, if_pos hb]] <;> rfl
      · rw [if_neg (show ¬ b = -1 from hb), mq_hasType hK hW, mm_bd_ret]
        by_cases mb' : mi b (kT k)
        · rw [mb_t mb', if_neg (by decide)]
          by_cases hc : c = N1
          · rw [if_pos hc, if_pos (show at3 (kT k) a b c from Or.inr ⟨ma, Or.inr ⟨mb', Or.inl hc⟩⟩), show ct3 a b c = 2 by unfold ct3; rw [if_neg ha, if_neg hb, if_pos hc]] <;> rfl
          · rw [if_neg (show ¬ c = -1 from hc), mq_hasType hK hW, mm_bd_ret]
            by_cases mc : mi c (kT k)
            · rw [mb_t mc, if_neg (by decide), if_pos (show at3 (kT k) a b c from Or.inr ⟨ma, Or.inr ⟨mb', Or.inr mc⟩⟩), show ct3 a b c = 3 by unfold ct3; rw [if_neg ha, if_neg hb, if_neg hc]] <;> rfl
            · rw [mb_f mc, if_pos rfl, if_neg (show ¬ at3 (kT k) a b c from fun q => by
                rcases q with q | ⟨_, q | ⟨_, q | q⟩⟩
                · exact ha q
                · exact hb q
                · exact hc q
                · exact mc q)]
        · rw [mb_f mb', if_pos rfl, if_neg (show ¬ at3 (kT k) a b c from fun q => by
            rcases q with q | ⟨_, q | ⟨q, _⟩⟩
            · exact ha q
            · exact hb q
            · exact mb' q)]
    · rw [mb_f ma, if_pos rfl, if_neg (show ¬ at3 (kT k) a b c from fun q => by
        rcases q with q | ⟨q, _⟩
        · exact ha q
        · exact ma q)]
theorem mr_areTypes (hK : mr_K S k) (hW : kW k) (a b c : Int32) : mm_runD (d + 2) 119 [.inr 27, .inl a, .inl b, .inl c] S = some (S, 0, 0, 0, mb (at3 (kT k) a b c)) := by
  have hT := hW.1
  rw [dX8_areTypes, eX8_areTypes_0]
  by_cases ha : a = N1
  · rw [if_pos ha, mb_t (show at3 (kT k) a b c from Or.inl ha)] <;> rfl
  · rw [if_neg (show ¬ a = -1 from ha), mr_isType hK hW, mm_bd_ret]
    by_cases ma : mi a (kT k)
    · rw [mb_t ma, if_neg (by decide)]
      by_cases hb : b = N1
      · rw [if_pos hb, mb_t (show at3 (kT k) a b c from Or.inr ⟨ma, Or.inl hb⟩)] <;> rfl
      · rw [if_neg (show ¬ b = -1 from hb), mr_isType hK hW, mm_bd_ret]
        by_cases mb' : mi b (kT k)
        · rw [mb_t mb', if_neg (by decide)]
          by_cases hc : c = N1
          · rw [if_pos hc, mb_t (show at3 (kT k) a b c from Or.inr ⟨ma, Or.inr ⟨mb', Or.inl hc⟩⟩)] <;> rfl
          · rw [if_neg (show ¬ c = -1 from hc), mr_isType hK hW, mm_bd_ret]
            by_cases mc : mi c (kT k)
            · rw [mb_t mc, if_neg (by decide), mb_t (show at3 (kT k) a b c from Or.inr ⟨ma, Or.inr ⟨mb', Or.inr mc⟩⟩)] <;> rfl
            · rw [mb_f mc, if_pos rfl, mb_f (show ¬ at3 (kT k) a b c from fun q => by
                rcases q with q | ⟨_, q | ⟨_, q | q⟩⟩
                · exact ha q
                · exact hb q
                · exact hc q
                · exact mc q)]
        · rw [mb_f mb', if_pos rfl, mb_f (show ¬ at3 (kT k) a b c from fun q => by
            rcases q with q | ⟨_, q | ⟨q, _⟩⟩
            · exact ha q
            · exact hb q
            · exact mb' q)]
    · rw [mb_f ma, if_pos rfl, mb_f (show ¬ at3 (kT k) a b c from fun q => by
        rcases q with q | ⟨q, _⟩
        · exact ha q
        · exact ma q)]
theorem mq_fell : mm_runD (d + 1) 68 [.inr 19] S = some (mm_put (mm_put (mm_put S 19 1 0) 19 2 0) 19 3 0, 0, 0, 0, 0) := by
  rw [dX6_fell, eX6_fell_0]
/-- the class's match begins anew -/
theorem mq_beginMatch {C : Nat} {col : Nat → Nat} {a b c : Int32} (hC : C ≤ 3) (ha : 0 < C → a = nI (col 0)) (hb : 1 < C → b = nI (col 1)) (hc : 2 < C → c = nI (col 2)) :
    ∃ S', mm_runD (d + 3) 106 [.inr 0, .inl (nI C), .inl a, .inl b, .inl c] S = some (S', 0, 0, 0, 0) ∧ mfr [0, 7, 8, 11, 14, 15, 18, 19] S S' ∧ S' 0 2 = nI C ∧ (∀ c, c < C → S' 7 c = nI (col c)) ∧ S' 8 2 = nI 0 ∧ S' 19 3 = nI 0 ∧ mq_Hr S' 0 (seg col 0 C) ∧ mq_Hv S' 0 (seg col 0 C) := by
  obtain ⟨S1, eS⟩ : ∃ S1, S1 = mm_put (mm_put (mm_put (mm_put (mm_put (mm_put (mm_put (mm_put S 0 2 (nI C)) 7 0 a) 7 1 b) 7 2 c) 8 2 0) 19 1 0) 19 2 0) 19 3 0 := ⟨_, rfl⟩
  have hF1 : mfr [0, 7, 8, 11, 14, 15, 18, 19] S S1 := by
    subst eS
    exact mfr_tr (mfr_tr (mfr_tr (mfr_tr (mfr_tr (mfr_tr (mfr_tr (mfr_put (by simp)) (mfr_put (by simp))) (mfr_put (by simp))) (mfr_put (by simp))) (mfr_put (by simp))) (mfr_put (by simp))) (mfr_put (by simp))) (mfr_put (by simp))
  have h0 : S1 0 2 = nI C := by subst eS; rfl
  have h7 : ∀ c, c < C → S1 7 c = nI (col c) := by
    intro j hj
    rcases (show j = 0 ∨ j = 1 ∨ j = 2 by omega) with rfl | rfl | rfl
    · rw [← ha (by omega)]; subst eS; rfl
    · rw [← hb (by omega)]; subst eS; rfl
    · rw [← hc (by omega)]; subst eS; rfl
  have h8 : S1 8 2 = nI 0 := by subst eS; rfl
  have h19 : S1 19 3 = nI 0 := by subst eS; rfl
  obtain ⟨S2, a1, a2, a3⟩ := mq_beginr (d := d) (S := S1) hC h7
  have h7' : ∀ c, c < C → S2 7 c = nI (col c) := by rw [a2 7 (by decide)]; exact h7
  obtain ⟨S3, b1, b2, b3⟩ := mq_beginv (d := d) (S := S2) hC h7'
  refine ⟨S3, ?_, mfr_tr hF1 (mfr_tr (mfr_up a2 (by simp)) (mfr_up b2 (by simp))), ?_, ?_, ?_, ?_, ?_, b3⟩
  · rw [dX7_beginMatch, eX7_beginMatch_0, li_0, ar_7 (by omega), li_1, ar_7 (by omega), li_2, ar_7 (by omega), dX3_clear, eX3_clear_0, mm_bd_ret, mq_fell, mm_bd_ret]
    rw [← eS, h0, a1, mm_bd_ret, show S2 0 2 = nI C by rw [a2 0 (by decide)]; exact h0, b1, mm_bd_ret]
  · rw [b2 0 (by decide), a2 0 (by decide)]; exact h0
  · rw [b2 7 (by decide)]; exact h7'
  · rw [b2 8 (by decide), a2 8 (by decide)]; exact h8
  · rw [b2 19 (by decide), a2 19 (by decide)]; exact h19
  · unfold mq_Hr
    rw [b2 11 (by decide), b2 14 (by decide)]
    exact a3
end
