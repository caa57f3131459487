/-! PURE: what holds between two calls -/
theorem mfr_p {cs : List Nat} {S S' : Mem} {c k : Nat} {v : Int32} (h : mfr cs S S') (hc : c ∈ cs) : mfr cs S (mm_put S' c k v) := mfr_tr h (mfr_put hc)
theorem mfr_s {cs : List Nat} {S S' : Mem} {c : Nat} {f : Nat → Int32} (h : mfr cs S S') (hc : c ∈ cs) : mfr cs S (mm_stc S' c f) := mfr_tr h (mfr_stc hc)
def sep (as bs : List Nat) : Bool := as.all fun c => !bs.contains c
theorem mfr_sep {as cs : List Nat} {S S' : Mem} (hf : mfr cs S S') (h : sep as cs = true) {c : Nat} (hc : c ∈ as) : S' c = S c := by
  refine hf c (fun q => ?_)
  have := List.all_eq_true.mp h c hc
  rw [List.contains_iff_mem.mpr q] at this
  cases this
def iK (S : Mem) (k : KK) : Prop := kW k ∧ mq_K S k ∧ kV (S 3) k ∧ mq_C S k ∧ mr_K S k ∧ ∀ t, 8 ≤ t → S 30 t = 0
def iC (S : Mem) (k : KK) (C : Nat) (col : Nat → Nat) : Prop := S 0 2 = nI C ∧ S 27 6 = nI C ∧ C ≤ 3 ∧ ∀ c, c < C → col c < kT k ∧ S 7 c = nI (col c) ∧ S 31 c = nI (col c)
def iH (S : Mem) (k : KK) (C : Nat) (col : Nat → Nat) (n : Nat) : Prop := S 27 8 = nI n ∧ mq_Hr S n (stk k C col (S 34) n) ∧ hnd k C col (S 34) n ∧ ∀ i, i < n → S 12 i = S 34 i
def iV (S : Mem) (k : KK) (C : Nat) (col : Nat → Nat) (n : Nat) : Prop := S 27 9 = nI n ∧ mq_Hv S n (stk k C col (S 35) n) ∧ hnv k C col (S 35) n ∧ ∀ i, i < n → S 16 i = S 35 i
def iT (S : Mem) (k : KK) (C : Nat) (col : Nat → Nat) (R : Nat) (sz : Nat → Nat) : Prop := (S 19 3 = 0 ∧ S 27 24 = N1) ∨ (S 19 3 = 1 ∧ 0 < C ∧ ∃ σ, gin (S 32) (gk S k) k C R sz col σ [] ∧ cnd S (S 32) σ ∧ rnd S (S 32) k σ ∧ iX S k C σ)
def Iv (S : Mem) (k : KK) (C : Nat) (col : Nat → Nat) (n nv R : Nat) (sz : Nat → Nat) : Prop := iK S k ∧ iC S k C col ∧ iH S k C col n ∧ iV S k C col nv ∧ rws S k C R sz ∧ iT S k C col R sz
def Inv (S : Mem) : Prop := ∃ k C col n nv R sz, Iv S k C col n nv R sz
section
variable {S S' : Mem} {k : KK} {C : Nat} {col : Nat → Nat} {n nv R : Nat} {sz : Nat → Nat} {cs : List Nat}
theorem iK_fr (h : iK S k) (hf : mfr cs S S') (hs : sep [1, 2, 3, 4, 5, 6, 28, 29] cs = true) (e30 : ∀ t, 8 ≤ t → S' 30 t = 0) (e1 : S' 27 1 = S 27 1) (e2 : S' 27 2 = S 27 2) : iK S' k := by
  obtain ⟨a1, a2, a3, a4, a5, a6⟩ := h
  refine ⟨a1, ?_, ?_, ?_, ?_, e30⟩
  · unfold mq_K
    rw [mfr_sep hf hs (c := 1) (by simp), mfr_sep hf hs (c := 4) (by simp), mfr_sep hf hs (c := 5) (by simp), mfr_sep hf hs (c := 6) (by simp)]
    exact a2
  · rw [mfr_sep hf hs (c := 3) (by simp)]; exact a3
  · unfold mq_C
    rw [mfr_sep hf hs (c := 2) (by simp)]; exact a4
  · unfold mr_K
    rw [e1, e2, mfr_sep hf hs (c := 28) (by simp), mfr_sep hf hs (c := 29) (by simp)]
    exact a5
theorem iC_fr (h : iC S k C col) (hf : mfr cs S S') (hs : sep [0, 7, 31] cs = true) (e6 : S' 27 6 = S 27 6) : iC S' k C col := by
  unfold iC
  rw [mfr_sep hf hs (c := 0) (by simp), mfr_sep hf hs (c := 7) (by simp), mfr_sep hf hs (c := 31) (by simp), e6]
  exact h
theorem iH_fr (h : iH S k C col n) (hf : mfr cs S S') (hs : sep [11, 12, 14, 34] cs = true) (e8 : S' 27 8 = S 27 8) : iH S' k C col n := by
  unfold iH mq_Hr
  rw [mfr_sep hf hs (c := 11) (by simp), mfr_sep hf hs (c := 12) (by simp), mfr_sep hf hs (c := 14) (by simp), mfr_sep hf hs (c := 34) (by simp), e8]
  exact h
theorem iV_fr (h : iV S k C col n) (hf : mfr cs S S') (hs : sep [15, 16, 18, 35] cs = true) (e9 : S' 27 9 = S 27 9) : iV S' k C col n := by
  unfold iV mq_Hv
  rw [mfr_sep hf hs (c := 15) (by simp), mfr_sep hf hs (c := 16) (by simp), mfr_sep hf hs (c := 18) (by simp), mfr_sep hf hs (c := 35) (by simp), e9]
  exact h
theorem iR_fr (h : rws S k C R sz) (hf : mfr cs S S') (hs : sep [8, 9, 10, 32, 33] cs = true) (e7 : S' 27 7 = S 27 7) : rws S' k C R sz := by
  unfold rws
  rw [mfr_sep hf hs (c := 8) (by simp), mfr_sep hf hs (c := 9) (by simp), mfr_sep hf hs (c := 10) (by simp), mfr_sep hf hs (c := 32) (by simp), mfr_sep hf hs (c := 33) (by simp), e7]
  exact h
theorem cnd_fr {G : Nat → Int32} {σ : SG} (h : cnd S G σ) (hf : mfr cs S S') (hs : sep [19, 20] cs = true) : cnd S' G σ := by
  unfold cnd
  rw [mfr_sep hf hs (c := 19) (by simp), mfr_sep hf hs (c := 20) (by simp)]
  exact h
theorem rnd_fr {G : Nat → Int32} {σ : SG} (h : rnd S G k σ) (hf : mfr cs S S') (hs : sep [42, 43, 44, 45, 46, 47, 48, 49] cs = true) (e24 : S' 27 24 = S 27 24) : rnd S' G k σ := by
  unfold rnd rn1
  rw [mfr_sep hf hs (c := 42) (by simp), mfr_sep hf hs (c := 43) (by simp), mfr_sep hf hs (c := 44) (by simp), mfr_sep hf hs (c := 45) (by simp), mfr_sep hf hs (c := 46) (by simp), mfr_sep hf hs (c := 47) (by simp), mfr_sep hf hs (c := 48) (by simp), mfr_sep hf hs (c := 49) (by simp), e24]
  exact h
theorem iX_fr {σ : SG} (h : iX S k C σ) (hf : mfr cs S S') (hs : sep [23, 24, 32] cs = true) : iX S' k C σ := by
  unfold iX
  rw [mfr_sep hf hs (c := 23) (by simp), mfr_sep hf hs (c := 24) (by simp), mfr_sep hf hs (c := 32) (by simp)]
  exact h
theorem iT_fr (h : iT S k C col R sz) (hf : mfr cs S S') (hs : sep [19, 20, 23, 24, 32, 42, 43, 44, 45, 46, 47, 48, 49] cs = true) (e24 : S' 27 24 = S 27 24) : iT S' k C col R sz := by
  have sub : ∀ as : List Nat, (∀ c, c ∈ as → c ∈ [19, 20, 23, 24, 32, 42, 43, 44, 45, 46, 47, 48, 49]) → sep as cs = true := fun as ha => List.all_eq_true.mpr (fun c hc => List.all_eq_true.mp hs c (ha c hc))
  rcases h with ⟨h1, h2⟩ | ⟨h1, h0, σ, h2, h3, h4, h5⟩
  · exact Or.inl ⟨by rw [mfr_sep hf hs (c := 19) (by simp)]; exact h1, by rw [e24]; exact h2⟩
  · refine Or.inr ⟨by rw [mfr_sep hf hs (c := 19) (by simp)]; exact h1, h0, σ, ?_, ?_, ?_, iX_fr h5 hf (sub _ (by decide))⟩
    · unfold gk
      rw [mfr_sep hf hs (c := 32) (by simp)]
      exact h2
    · rw [mfr_sep hf hs (c := 32) (by simp)]
      exact cnd_fr h3 hf (sub _ (by decide))
    · rw [mfr_sep hf hs (c := 32) (by simp)]
      exact rnd_fr h4 hf (sub _ (by decide)) e24
/-- cells that no answer rests on -/
def scr : List Nat := [13, 17, 21, 22, 25, 26, 27, 36, 37, 38, 39, 40, 41, 50, 51, 52, 53, 54, 55]
theorem Iv_fr (h : Iv S k C col n nv R sz) (hf : mfr scr S S') (e : ∀ j, j ∈ [1, 2, 6, 7, 8, 9, 24] → S' 27 j = S 27 j) : Iv S' k C col n nv R sz := by
  obtain ⟨a1, a2, a3, a4, a5, a6⟩ := h
  exact ⟨iK_fr a1 hf rfl (by rw [hf 30 (by decide)]; exact a1.2.2.2.2.2) (e 1 (by simp)) (e 2 (by simp)), iC_fr a2 hf rfl (e 6 (by simp)), iH_fr a3 hf rfl (e 8 (by simp)), iV_fr a4 hf rfl (e 9 (by simp)), iR_fr a5 hf rfl (e 7 (by simp)), iT_fr a6 hf rfl (e 24 (by simp))⟩
theorem kV_8 {f : Nat → Int32} (hW : kW k) (h : kV f k) {t : Nat} (ht : 8 ≤ t) : f t = 0 := by
  rcases (h t).1 with q | q
  · exact q
  · have := (h t).2.mp (by rw [q]; decide)
    have := kVal_lt hW this
    have := hW.1
    omega
theorem iK_8 (h : iK S k) : ∀ t, kCnt k t (kM k) ≤ 8 := by
  intro t
  by_cases y : t < 8
  · exact (h.2.2.2.1 t y).2
  · have : ∀ m, m ≤ kM k → kCnt k t m = 0 := by
      intro m
      induction m with
      | zero => intro _; rfl
      | succ m ih =>
        intro hm
        rw [kCnt_s, ih (by omega), if_neg (fun q => by have := (h.1.2.2 m (by omega)).1; have := h.1.1; omega)]
    rw [this _ (Nat.le_refl _)]
    omega
theorem seg_mem {g : Nat → Nat} {t : Nat} : ∀ (n i : Nat), t ∈ seg g i n → ∃ j, i ≤ j ∧ j < i + n ∧ g j = t := by
  intro n
  induction n with
  | zero => intro i h; cases h
  | succ n ih =>
    intro i h
    unfold seg at h
    rcases List.mem_cons.mp h with e | e
    · exact ⟨i, by omega, by omega, e.symm⟩
    · obtain ⟨j, a, b, c⟩ := ih (i + 1) e
      exact ⟨j, by omega, by omega, c⟩
theorem stk_lt (hW : kW k) (hc : ∀ c, c < C → col c < kT k) {x : Nat → Int32} : ∀ i, hnd k C col x i → ∀ t, t ∈ stk k C col x i → t < kT k := by
  intro i
  induction i with
  | zero =>
    intro _ t ht
    obtain ⟨j, a, b, e⟩ := seg_mem C 0 (show t ∈ seg col 0 C from ht)
    rw [← e]; exact hc j (by omega)
  | succ i ih =>
    intro h t ht
    have ih' := ih (fun j hj => h j (by omega))
    obtain ⟨u, r, h1, h2⟩ := h i (by omega)
    rw [stk_s h1] at ht
    rw [h1] at ih'
    rcases List.mem_append.mp ht with q | q
    · rcases h2 with e | e | ⟨m, m1, m2, m3⟩
      · rw [e, stp_A hW] at q; cases q
      · rw [e, stp_E] at q
        have : t = u := by
          rcases List.mem_cons.mp q with w | w
          · exact w
          · rcases List.mem_cons.mp w with w | w
            · exact w
            · cases w
        rw [this]; exact ih' u (by simp)
      · rw [m2, stp_M hW m1] at q
        obtain ⟨j, a, b, e⟩ := seg_mem _ 0 q
        rw [← e]; exact (hW.2.2 m m1).2.2 j (by omega)
    · exact ih' t (List.mem_cons_of_mem _ q)
/-- what a call may make -/
def mpo (S S' : Mem) (c s : Nat) : Prop := ∀ n, rm S n → ∃ n', rm S' n' ∧ n + c * 512 ≤ n' + 512 ∧ s + 2 * n ≤ 2 * n' + 6
theorem mpo_0 (h : S' 55 = S 55) : mpo S S' 0 0 := fun n hn => ⟨n, rm_fr hn h, by omega, by omega⟩
theorem mpo_1 (h : S' 55 = S 55) : mpo S S' 1 6 := fun n hn => ⟨n, rm_fr hn h, by omega, by omega⟩
theorem mpo_p {S1 : Mem} {c s : Nat} (h : mpot S S1 c s) (e : S' 55 = S1 55) : mpo S S' c s := fun n hn => by
  obtain ⟨n', a, b, c⟩ := h n hn
  exact ⟨n', rm_fr a e, by omega, by omega⟩
theorem mpo_t {S1 : Mem} {c s : Nat} (h : mpot S S1 c s) (e : S' 55 = S1 55) : mpo S S' (c + 1) (s + 6) := fun n hn => by
  obtain ⟨n', a, b, b'⟩ := h n hn
  have q : (c + 1) * 512 = c * 512 + 512 := Nat.succ_mul c 512
  refine ⟨n', rm_fr a e, ?_, by omega⟩
  rw [q, ← Nat.add_assoc]
  exact Nat.add_le_add_right b 512
/-- both sides agree -/
def agr (D y y' : Nat) (as : List MV) (ex : List Nat) (S : Mem) : Prop :=
  ∃ S1 c s e a S2 b, mm_runD D y (.inr 0 :: as) S = some (S1, c, s, e, a) ∧ mm_runD D y' (.inr 27 :: as) S1 = some (S2, 0, 0, 0, b) ∧ Inv S2 ∧ mpo S S2 c s ∧ ((e = 0 ∧ S2 27 0 = 0 ∧ a = b) ∨ ∃ i, ex[i]? = some e ∧ S2 27 0 = nI (i + 1))
end
