/-! PURE: a pattern takes a value: the least relation with the document's three clauses -/
/-- G: the rows' signs; X: the values' makers -/
def tkS (k : KK) (G X : Nat → Int32) (P : Nat → Nat → Prop) : Nat → Nat → Nat → Prop
  | 0, _, _ => True
  | n + 1, p, v => P p v ∧ ∃ l l', sq (fun j => kar k (G j)) l 1 p ∧ sq (fun j => kar k (X j)) l' 1 v ∧ tkS k G X P n (p + l) (v + l')
def tkF (k : KK) (G X : Nat → Int32) (P : Nat → Nat → Prop) (p v : Nat) : Prop :=
  G p = N1 ∨ (G p = N2 ∧ (P (p + 1) v ∨ ∃ l, sq (fun j => kar k (G j)) l 1 (p + 1) ∧ P (p + 1 + l) v)) ∨ ∃ m, m < kM k ∧ G p = nI m ∧ X v = nI m ∧ tkS k G X P (kFc k m) (p + 1) (v + 1)
def TK (k : KK) (G X : Nat → Int32) (p v : Nat) : Prop := ∀ P : Nat → Nat → Prop, (∀ p v, tkF k G X P p v → P p v) → P p v
theorem tkS_mono {k : KK} {G X : Nat → Int32} {P Q : Nat → Nat → Prop} (h : ∀ p v, P p v → Q p v) : ∀ n p v, tkS k G X P n p v → tkS k G X Q n p v := by
  intro n
  induction n with
  | zero => intro p v _; trivial
  | succ n ih =>
    rintro p v ⟨h1, l, l', h2, h3, h4⟩
    exact ⟨h p v h1, l, l', h2, h3, ih _ _ h4⟩
theorem tkF_mono {k : KK} {G X : Nat → Int32} {P Q : Nat → Nat → Prop} (h : ∀ p v, P p v → Q p v) {p v : Nat} (q : tkF k G X P p v) : tkF k G X Q p v := by
  rcases q with q | ⟨q, r⟩ | ⟨m, h1, h2, h3, h4⟩
  · exact Or.inl q
  · refine Or.inr (Or.inl ⟨q, ?_⟩)
    rcases r with r | ⟨l, r1, r2⟩
    · exact Or.inl (h _ _ r)
    · exact Or.inr ⟨l, r1, h _ _ r2⟩
  · exact Or.inr (Or.inr ⟨m, h1, h2, h3, tkS_mono h _ _ _ h4⟩)
theorem TK_in {k : KK} {G X : Nat → Int32} {p v : Nat} (h : tkF k G X (TK k G X) p v) : TK k G X p v := fun P hP => hP p v (tkF_mono (fun p v q => q P hP) h)
theorem TK_eq {k : KK} {G X : Nat → Int32} {p v : Nat} : TK k G X p v ↔ tkF k G X (TK k G X) p v := ⟨fun h => h (tkF k G X (TK k G X)) (fun p v q => tkF_mono (fun _ _ w => TK_in w) q), TK_in⟩
theorem TK_any {k : KK} {G X : Nat → Int32} {p v : Nat} (h : G p = N1) : TK k G X p v := TK_in (Or.inl h)
theorem TK_either {k : KK} {G X : Nat → Int32} {p v l : Nat} (h : G p = N2) (hl : sq (fun j => kar k (G j)) l 1 (p + 1)) (hM : kM k ≤ 40) : TK k G X p v ↔ (TK k G X (p + 1) v ∨ TK k G X (p + 1 + l) v) := by
  rw [TK_eq]
  constructor
  · rintro (q | ⟨_, q | ⟨l', h1, h2⟩⟩ | ⟨m, h1, h2, _⟩)
    · rw [h] at q; exact absurd q (by decide)
    · exact Or.inl q
    · rw [sq_det h1 hl] at h2; exact Or.inr h2
    · rw [h] at h2; exact absurd h2 (fun q => (nn_a4 (a := m) (by omega)).mp q)
  · rintro (q | q)
    · exact Or.inr (Or.inl ⟨h, Or.inl q⟩)
    · exact Or.inr (Or.inl ⟨h, Or.inr ⟨l, hl, q⟩⟩)
theorem TK_mk {k : KK} {G X : Nat → Int32} {p v m : Nat} (hm : m < kM k) (hM : kM k ≤ 40) (h : G p = nI m) : TK k G X p v ↔ (X v = nI m ∧ tkS k G X (TK k G X) (kFc k m) (p + 1) (v + 1)) := by
  rw [TK_eq]
  constructor
  · rintro (q | ⟨q, _⟩ | ⟨m', h1, h2, h3, h4⟩)
    · rw [h] at q; exact absurd q (fun q => (nn_a1 (a := m) (by omega)).mp q)
    · rw [h] at q; exact absurd q (fun q => (nn_a2 (a := m) (by omega)).mp q)
    · rw [h] at h2
      have e := (nI_eq (by omega) (by omega)).mp h2
      subst e
      exact ⟨h3, h4⟩
  · rintro ⟨h1, h2⟩
    exact Or.inr (Or.inr ⟨m, hm, h, h1, h2⟩)
theorem tkS_s {k : KK} {G X : Nat → Int32} {P : Nat → Nat → Prop} {n p v l l' : Nat} (h1 : sq (fun j => kar k (G j)) l 1 p) (h2 : sq (fun j => kar k (X j)) l' 1 v) : tkS k G X P (n + 1) p v ↔ (P p v ∧ tkS k G X P n (p + l) (v + l')) := by
  constructor
  · rintro ⟨a, b, c, e, f, g⟩
    rw [sq_det e h1, sq_det f h2] at g
    exact ⟨a, g⟩
  · rintro ⟨a, b⟩
    exact ⟨a, l, l', h1, h2, b⟩
theorem sq_one {g : Nat → Nat} {l p : Nat} (h : sq g l 1 p) : ∃ l', l = l' + 1 ∧ sq g l' (g p) (p + 1) := by
  cases l with
  | zero => exact absurd (show 1 = 0 from h) (by omega)
  | succ l =>
    obtain ⟨n', h1, h2⟩ := h
    have e : n' = 0 := by omega
    subst e
    rw [Nat.zero_add] at h2
    exact ⟨l, rfl, h2⟩
section
variable {d : Nat} {S : Mem} {k : KK}
/-- the class's takes; E0: where the row ends; nv: how many makers the values have -/
theorem mq_takes (hK : mq_K S k) (hW : kW k) {E0 nv : Nat} {s0 : Nat} (h15 : S 15 4 = nI nv) (hnv : nv ≤ 60) (hE0 : E0 ≤ 480)
    {G X : Nat → Int32} (hG : ∀ p, s0 ≤ p → p < E0 → S 9 p = G p) (hX : ∀ v, v < nv → S 16 v = X v) (hg : ∀ p, s0 ≤ p → p < E0 → sgn k (G p)) (he : mends (fun j => kar k (G j)) (S 10) s0 E0) (hv : mends (fun j => kar k (X j)) (S 17) 0 nv) :
    ∀ (l p v l' dp e : Nat), sq (fun j => kar k (G j)) l 1 p → s0 ≤ p → p + l ≤ E0 → sq (fun j => kar k (X j)) l' 1 v → v + l' ≤ nv → dp + l ≤ 40 → l + 3 ≤ e → mm_runD e 110 [.inr 0, .inl (nI p), .inl (nI v), .inl (nI dp)] S = some (S, 0, 0, 0, mb (TK k G X p v)) := by
  intro l
  have hM := hW.2.1
  induction l using Nat.strongRecOn with
  | ind l ih =>
    intro p v l' dp e hp hs hE hv1 hvl hd he3
    obtain ⟨l1, el, hp1⟩ := sq_one hp
    obtain ⟨l1', el', hv2⟩ := sq_one hv1
    obtain ⟨e, rfl⟩ : ∃ e', e = e' + 1 := ⟨e - 1, by omega⟩
    have r1 : ∀ q, q < 480 → mm_runD e 34 [.inr 8, .inl (nI q)] S = some (S, 0, 0, 0, S 9 q) := fun q hq => by
      obtain ⟨e', rfl⟩ : ∃ e', e = e' + 1 := ⟨e - 1, by omega⟩
      exact mq_rSign hq
    have r2 : ∀ q, q < 480 → mm_runD e 35 [.inr 8, .inl (nI q)] S = some (S, 0, 0, 0, S 10 q) := fun q hq => by
      obtain ⟨e', rfl⟩ : ∃ e', e = e' + 1 := ⟨e - 1, by omega⟩
      exact mq_rEnd hq
    have r3 : ∀ q, q < nv → mm_runD e 12 [.inr 15, .inl (nI q)] S = some (S, 0, 0, 0, S 16 q) := fun q hq => by
      obtain ⟨e', rfl⟩ : ∃ e', e = e' + 1 := ⟨e - 1, by omega⟩
      exact mq_signAtv h15 hnv hq
    have r4 : ∀ q, q < nv → mm_runD e 13 [.inr 15, .inl (nI q)] S = some (S, 0, 0, 0, S 17 q) := fun q hq => by
      obtain ⟨e', rfl⟩ : ∃ e', e = e' + 1 := ⟨e - 1, by omega⟩
      exact mq_endAtv h15 hnv hq
    have r5 : ∀ x, mm_runD e 24 [.inr 1, .inl x] S = some (S, 0, 0, 0, nI (kfc k x)) := fun x => by
      obtain ⟨e', rfl⟩ : ∃ e', e = e' + 2 := ⟨e - 2, by omega⟩
      exact mq_fieldCount hK hW x
    have endp : ∀ q lq, s0 ≤ q → q < E0 → sq (fun j => kar k (G j)) lq 1 q → S 10 q = nI (q + lq) := by
      intro q lq a b c
      obtain ⟨l9, h1, h2, h3⟩ := he q a b
      rw [sq_det c h1]; exact h3
    have endv : ∀ q lq, q < nv → sq (fun j => kar k (X j)) lq 1 q → S 17 q = nI (q + lq) := by
      intro q lq b c
      obtain ⟨l9, h1, h2, h3⟩ := hv q (by omega) b
      rw [sq_det c h1]; exact h3
    rw [dX7_takes, eX7_takes_0, r1 p (by omega), mm_bd_ret, hG p hs (by omega)]
    rcases hg p hs (by omega) with h0 | h0 | ⟨m, hm, h0⟩
    · rw [if_pos h0, mb_t (TK_any h0)] <;> rfl
    · rw [h0, if_neg (by decide), if_pos (show nI dp < 40 from nI_lt (b := 40) (by omega) (by decide)), if_pos rfl]
      have hk : kar k (G p) = 2 := by rw [h0]; exact kar_N2
      rw [hk] at hp1
      obtain ⟨la, lb, e1, e2, e3⟩ := sq_split (n1 := 1) (n2 := 1) hp1
      have pa := sq_pos (n := 0) e2
      have pb := sq_pos (n := 0) e3
      have A := ih la (by omega) (p + 1) v l' (dp + 1) e e2 (by omega) (by omega) hv1 hvl (by omega) (by omega)
      have B := ih lb (by omega) (p + 1 + la) v l' (dp + 1) e e3 (by omega) (by omega) hv1 hvl (by omega) (by omega)
      rw [nI_1, nI_1, A, mm_bd_ret]
      by_cases qa : TK k G X (p + 1) v
      · rw [mb_t qa, if_neg (by decide), mb_t ((TK_either h0 e2 hM).mpr (Or.inl qa))] <;> rfl
      · rw [mb_f qa, if_pos rfl, r2 (p + 1) (by omega), mm_bd_ret, endp (p + 1) la (by omega) (by omega) e2, B, mm_bd_ret]
        by_cases qb : TK k G X (p + 1 + la) v
        · rw [mb_t qb, if_neg (by decide), mb_t ((TK_either h0 e2 hM).mpr (Or.inr qb))] <;> rfl
        · rw [mb_f qb, if_pos rfl, mb_f (fun z => ((TK_either h0 e2 hM).mp z).elim qa qb)] <;> rfl
    · rw [h0, if_neg (fun q => (nn_a1 (a := m) (by omega)).mp q), if_pos (show nI dp < 40 from nI_lt (b := 40) (by omega) (by decide)), if_neg (fun q => (nn_a2 (a := m) (by omega)).mp q), r3 v (by omega), mm_bd_ret, hX v (by omega)]
      by_cases qx : nI m = X v
      · have hkp : kar k (G p) = kFc k m := by rw [h0]; exact kar_m hW hm
        have hkv : kar k (X v) = kFc k m := by rw [← qx]; exact kar_m hW hm
        rw [hkp] at hp1
        rw [hkv] at hv2
        have h3 := (hW.2.2 m hm).2.1
        have loop : ∀ (n i p' v' lp lv : Nat), kFc k m - i = n → i ≤ kFc k m → sq (fun j => kar k (G j)) lp n p' → sq (fun j => kar k (X j)) lv n v' → p < p' → p' + lp ≤ p + l → p' + lp ≤ E0 → v' + lv ≤ nv → dp + 1 + lp ≤ 40 → lp + 1 ≤ l → ∀ o1 o2 o4 : Option MV,
            mm_E (mm_runD e) pX7_takes 2 64 [some (.inr 0), o1, o2, some (.inl (nI dp)), o4, some (.inl (nI p')), some (.inl (nI v')), some (.inl (nI (kFc k m))), some (.inl (nI i))] [] S 0 0 = some (S, 0, 0, 0, mb (tkS k G X (TK k G X) n p' v')) := by
          intro n
          induction n with
          | zero =>
            intro i p' v' lp lv hn hi hlp hlv b1 b2 b3 b4 b5 b6 o1 o2 o4
            rw [eX7_takes_64, if_pos (nI_le (by omega) (by omega)), mb_t (show tkS k G X (TK k G X) 0 p' v' from trivial)] <;> rfl
          | succ n ihn =>
            intro i p' v' lp lv hn hi hlp hlv b1 b2 b3 b4 b5 b6 o1 o2 o4
            rw [Nat.add_comm] at hlp hlv
            obtain ⟨la, lb, e1, e2, e3⟩ := sq_split hlp
            obtain ⟨ma, mb', f1, f2, f3⟩ := sq_split hlv
            have pa := sq_pos (n := 0) e2
            have pm := sq_pos (n := 0) f2
            have A := ih la (by omega) p' v' ma (dp + 1) e e2 (by omega) (by omega) f2 (by omega) (by omega) (by omega)
            have B := ihn (i + 1) (p' + la) (v' + ma) lb mb' (by omega) (by omega) e3 f3 (by omega) (by omega) (by omega) (by omega) (by omega) (by omega) o1 o2 o4
            rw [eX7_takes_64, if_neg (nI_ge (by omega) (by omega)), nI_1, A, mm_bd_ret]
            by_cases qa : TK k G X p' v'
            · rw [mb_t qa, if_neg (by decide), r2 p' (by omega), mm_bd_ret, r4 v' (by omega), mm_bd_ret, endp p' la (by omega) (by omega) e2, endv v' ma (by omega) f2, nI_1]
              rw [mb_iff (tkS_s e2 f2), mb_iff (and_iff_right qa)]
              exact B
            · rw [mb_f qa, if_pos rfl, mb_f (fun z => qa ((tkS_s e2 f2).mp z).1)] <;> rfl
        have L := loop (kFc k m) 0 (p + 1) (v + 1) l1 l1' rfl (by omega) hp1 hv2 (by omega) (by omega) (by omega) (by omega) (by omega) (by omega) (some (.inl (nI p))) (some (.inl (nI v))) (some (.inl (nI m)))
        rw [if_pos qx, r5, mm_bd_ret, kfc_in hW hm, nI_1, nI_1, mb_iff (TK_mk hm hM h0), mb_iff (and_iff_right qx.symm)]
        exact L
      · rw [if_neg qx, mb_f (fun z => qx ((TK_mk hm hM h0).mp z).1.symm)] <;> rfl
end
