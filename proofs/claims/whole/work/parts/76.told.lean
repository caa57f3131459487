/-! PURE: a missing case as a row of signs, apart from any memory -/
/-- how many ANYs there are before n -/
def ca (f : Nat → Int32) : Nat → Nat
  | 0 => 0
  | n + 1 => ca f n + (if f n = N1 then 1 else 0)
theorem ca_s (f : Nat → Int32) (n : Nat) : ca f (n + 1) = ca f n + (if f n = N1 then 1 else 0) := rfl
theorem ca_mono (f : Nat → Int32) : ∀ {n m : Nat}, n ≤ m → ca f n ≤ ca f m := by
  intro n m h
  induction m with
  | zero => have e : n = 0 := by omega
            subst e; exact Nat.le_refl _
  | succ m ih =>
    by_cases e : n = m + 1
    · subst e; exact Nat.le_refl _
    · have := ih (by omega)
      rw [ca_s]
      omega
theorem ca_ext {f g : Nat → Int32} : ∀ {n : Nat}, (∀ j, j < n → f j = g j) → ca f n = ca g n := by
  intro n
  induction n with
  | zero => intro _; rfl
  | succ n ih => intro h; rw [ca_s, ca_s, ih (fun j hj => h j (by omega)), h n (by omega)]
theorem ca_le (f : Nat → Int32) : ∀ n, ca f n ≤ n := by
  intro n
  induction n with
  | zero => exact Nat.le_refl _
  | succ n ih => rw [ca_s]; split <;> omega
/-- the place of the h-th ANY -/
def isA (f : Nat → Int32) (h i : Nat) : Prop := f i = N1 ∧ ca f i = h
theorem isA_one {f : Nat → Int32} {h i j : Nat} (a : isA f h i) (b : isA f h j) : i = j := by
  rcases Nat.lt_trichotomy i j with q | q | q
  · have := ca_mono f (show i + 1 ≤ j from q)
    rw [ca_s, if_pos a.1] at this
    have := a.2; have := b.2; omega
  · exact q
  · have := ca_mono f (show j + 1 ≤ i from q)
    rw [ca_s, if_pos b.1] at this
    have := a.2; have := b.2; omega
theorem isA_ex {f : Nat → Int32} {h : Nat} : ∀ {n : Nat}, h < ca f n → ∃ i, i < n ∧ isA f h i := by
  intro n
  induction n with
  | zero => intro q; exact absurd q (Nat.not_lt_zero _)
  | succ n ih =>
    intro q
    rw [ca_s] at q
    by_cases z : h < ca f n
    · obtain ⟨i, h1, h2⟩ := ih z
      exact ⟨i, by omega, h2⟩
    · by_cases y : f n = N1
      · rw [if_pos y] at q
        exact ⟨n, by omega, y, by omega⟩
      · rw [if_neg y] at q; omega
/-- a maker takes the place of an ANY, its fields behind it -/
def insF (f : Nat → Int32) (i m c : Nat) : Nat → Int32 := fun j => if j < i then f j else if j = i then nI m else if j ≤ i + c then N1 else f (j - c)
theorem insF_ca {f : Nat → Int32} {i m c n : Nat} (hi : i < n) (hf : f i = N1) (hm : m < 2 ^ 31) : ca (insF f i m c) (n + c) + 1 = ca f n + c := by
  have lo : ca (insF f i m c) i = ca f i := ca_ext (fun j hj => if_pos hj)
  have at_i : insF f i m c i = nI m := by unfold insF; rw [if_neg (by omega), if_pos rfl]
  have c1 : ca (insF f i m c) (i + 1) = ca f i := by rw [ca_s, lo, at_i, if_neg (fun q => (nn_a1 hm).mp q), Nat.add_zero]
  have mid : ∀ z, z ≤ c → ca (insF f i m c) (i + 1 + z) = ca f i + z := by
    intro z
    induction z with
    | zero => intro _; exact c1
    | succ z ih =>
      intro hz
      have e : insF f i m c (i + 1 + z) = N1 := by unfold insF; rw [if_neg (by omega), if_neg (by omega), if_pos (by omega)]
      rw [show i + 1 + (z + 1) = (i + 1 + z) + 1 by omega, ca_s, ih (by omega), e, if_pos rfl]
      omega
  have hi2 : ∀ z, i + 1 + z ≤ n → ca (insF f i m c) (i + 1 + z + c) + 1 = ca f (i + 1 + z) + c := by
    intro z
    induction z with
    | zero =>
      intro _
      rw [Nat.add_zero, mid c (Nat.le_refl _), ca_s, hf, if_pos rfl]
      omega
    | succ z ih =>
      intro hz
      have e : insF f i m c (i + 1 + z + c) = f (i + 1 + z) := by unfold insF; rw [if_neg (by omega), if_neg (by omega), if_neg (by omega), show i + 1 + z + c - c = i + 1 + z by omega]
      have := ih (by omega)
      rw [show i + 1 + (z + 1) + c = (i + 1 + z + c) + 1 by omega, ca_s, e, show i + 1 + (z + 1) = (i + 1 + z) + 1 by omega, ca_s]
      omega
  have := hi2 (n - (i + 1)) (by omega)
  rw [show i + 1 + (n - (i + 1)) = n by omega] at this
  exact this
/-- the way up -/
def pUp (P : Nat → Nat) : Nat → Nat → List Nat
  | 0, _ => []
  | z + 1, x => if x = 0 then [] else x :: pUp P z (P x)
theorem pUp_det {P : Nat → Nat} : ∀ (x z z' : Nat), (∀ i, 0 < i → i ≤ x → P i < i) → x ≤ z → x ≤ z' → pUp P z x = pUp P z' x := by
  intro x
  induction x using Nat.strongRecOn with
  | ind x ih =>
    intro z z' hP h1 h2
    by_cases e : x = 0
    · subst e
      cases z with
      | zero => cases z' with
        | zero => rfl
        | succ z' => unfold pUp; rw [if_pos rfl]
      | succ z => cases z' with
        | zero => unfold pUp; rw [if_pos rfl]
        | succ z' => unfold pUp; rw [if_pos rfl, if_pos rfl]
    · cases z with
      | zero => omega
      | succ z => cases z' with
        | zero => omega
        | succ z' =>
          have hp := hP x (by omega) (Nat.le_refl _)
          unfold pUp
          rw [if_neg e, if_neg e, ih (P x) hp z z' (fun i a b => hP i a (by omega)) (by omega) (by omega)]
def upx (σ : SG) (x : Nat) : List Nat := pUp (gP σ) x x
theorem upx_0 (σ : SG) : upx σ 0 = [] := rfl
theorem upx_s {σ : SG} {x : Nat} (hP : ∀ i, 0 < i → i ≤ x → gP σ i < i) (hx : 0 < x) : upx σ x = x :: upx σ (gP σ x) := by
  unfold upx
  obtain ⟨z, rfl⟩ : ∃ z, x = z + 1 := ⟨x - 1, by omega⟩
  have hp := hP (z + 1) hx (Nat.le_refl _)
  conv => lhs; unfold pUp
  rw [if_neg (by omega), pUp_det (gP σ (z + 1)) z (gP σ (z + 1)) (fun i a b => hP i a (by omega)) (by omega) (Nat.le_refl _)]
noncomputable def psA (f : Nat → Int32) (h : Nat) : Nat := @dite Nat (∃ i, isA f h i) (Classical.propDecidable _) (fun q => Classical.choose q) (fun _ => 0)
theorem psA_eq {f : Nat → Int32} {h i : Nat} (a : isA f h i) : psA f h = i := by
  unfold psA
  rw [dif_pos ⟨i, a⟩]
  exact isA_one (Classical.choose_spec (⟨i, a⟩ : ∃ i, isA f h i)) a
noncomputable def tlL (G : Nat → Int32) (k : KK) (C : Nat) (σ : SG) : List Nat → Nat × (Nat → Int32)
  | [] => (C, fun _ => N1)
  | c :: r => ((tlL G k C σ r).1 + kFc k (gM σ c), insF (tlL G k C σ r).2 (psA (tlL G k C σ r).2 (tsT G (gT σ (gP σ c)))) (gM σ c) (kFc k (gM σ c)))
/-- what is told of node x -/
noncomputable def tld (G : Nat → Int32) (k : KK) (C : Nat) (σ : SG) (x : Nat) : Nat × (Nat → Int32) := tlL G k C σ (upx σ x)
section
variable {S : Mem} {k : KK} {C R : Nat} {sz : Nat → Nat} {col : Nat → Nat} {σ : SG}
theorem tld_s (hg : sgW (S 32) (gk S k) k C R sz col σ) {x : Nat} (h0 : 0 < x) (hx : x < gN σ) : tld (S 32) k C σ x = ((tld (S 32) k C σ (gP σ x)).1 + kFc k (gM σ x), insF (tld (S 32) k C σ (gP σ x)).2 (psA (tld (S 32) k C σ (gP σ x)).2 (tsT (S 32) (gT σ (gP σ x)))) (gM σ x) (kFc k (gM σ x))) := by
  have := upx_s (σ := σ) (x := x) (fun i a b => (hg.2.2.2.2.1 i a (by omega)).1) h0
  unfold tld
  rw [this]
  rfl
/-- how long it is, how many ANYs it has, and where the tested one is -/
theorem tld_is (hW : kW k) (hr : rws S k C R sz) (hC : C ≤ 3) (hg : sgW (S 32) (gk S k) k C R sz col σ) : ∀ x, x < gN σ → (tld (S 32) k C σ x).1 = (upx σ x).length + tP (gT σ x) ∧ ca (tld (S 32) k C σ x).2 (tld (S 32) k C σ x).1 = tP (gT σ x) ∧ (upx σ x).length ≤ x := by
  have hM := hW.2.1
  intro x
  induction x using Nat.strongRecOn with
  | ind x ih =>
    intro hx
    by_cases e : x = 0
    · subst e
      obtain ⟨a, b, c⟩ := fsS_is hr hC hg.2.2.1
      have allc : ∀ n, ca (fun _ => N1) n = n := by
        intro n
        induction n with
        | zero => rfl
        | succ n ih => rw [ca_s, ih, if_pos rfl]
      refine ⟨?_, ?_, Nat.le_refl _⟩
      · show C = 0 + tP (gT σ 0)
        omega
      · show ca (fun _ => N1) C = tP (gT σ 0)
        rw [allc, b]
    · have h0 : 0 < x := by omega
      obtain ⟨p1, p2, p3, p4, p5, p6⟩ := hg.2.2.2.2.1 x h0 hx
      obtain ⟨i1, i2, i3⟩ := ih (gP σ x) p1 (by omega)
      have hk := kdT_2 p2
      obtain ⟨q1, q2, q3, q4⟩ := brS_is hW hr (hg.2.2.2.1 _ (by omega)) hk.2 p3 p6
      have eu := upx_s (σ := σ) (x := x) (fun i a b => (hg.2.2.2.2.1 i a (by omega)).1) h0
      obtain ⟨i, j1, j2⟩ := isA_ex (f := (tld (S 32) k C σ (gP σ x)).2) (h := tsT (S 32) (gT σ (gP σ x))) (n := (tld (S 32) k C σ (gP σ x)).1) (by rw [i2]; exact hk.2)
      rw [tld_s hg h0 hx, eu, List.length_cons, q3, psA_eq j2]
      refine ⟨?_, ?_, by omega⟩
      · show (tld (S 32) k C σ (gP σ x)).1 + kFc k (gM σ x) = _
        have := hk.2
        omega
      · have := insF_ca (f := (tld (S 32) k C σ (gP σ x)).2) (i := i) (m := gM σ x) (c := kFc k (gM σ x)) (n := (tld (S 32) k C σ (gP σ x)).1) j1 j2.1 (by omega)
        show ca (insF (tld (S 32) k C σ (gP σ x)).2 i (gM σ x) (kFc k (gM σ x))) ((tld (S 32) k C σ (gP σ x)).1 + kFc k (gM σ x)) = _
        have := hk.2
        omega
theorem tld_at (hW : kW k) (hr : rws S k C R sz) (hC : C ≤ 3) (hg : sgW (S 32) (gk S k) k C R sz col σ) {x : Nat} (h0 : 0 < x) (hx : x < gN σ) : ∃ i, i < (tld (S 32) k C σ (gP σ x)).1 ∧ isA (tld (S 32) k C σ (gP σ x)).2 (tsT (S 32) (gT σ (gP σ x))) i ∧ tld (S 32) k C σ x = ((tld (S 32) k C σ (gP σ x)).1 + kFc k (gM σ x), insF (tld (S 32) k C σ (gP σ x)).2 i (gM σ x) (kFc k (gM σ x))) := by
  obtain ⟨p1, p2, p3, p4, p5, p6⟩ := hg.2.2.2.2.1 x h0 hx
  obtain ⟨i1, i2, i3⟩ := tld_is hW hr hC hg (gP σ x) (by omega)
  obtain ⟨i, j1, j2⟩ := isA_ex (f := (tld (S 32) k C σ (gP σ x)).2) (h := tsT (S 32) (gT σ (gP σ x))) (n := (tld (S 32) k C σ (gP σ x)).1) (by rw [i2]; exact (kdT_2 p2).2)
  exact ⟨i, j1, j2, by rw [tld_s hg h0 hx, psA_eq j2]⟩
end
/-- the fail node of a number -/
def fln (G : Nat → Int32) (σ : SG) (q x : Nat) : Prop := x < gN σ ∧ kdT G (gT σ x) = 0 ∧ nfl G (gT σ) x = q
theorem nfl_mono {G : Nat → Int32} {τ : Nat → TB} : ∀ {n m : Nat}, n ≤ m → nfl G τ n ≤ nfl G τ m := by
  intro n m h
  induction m with
  | zero => have e : n = 0 := by omega
            subst e; exact Nat.le_refl _
  | succ m ih =>
    by_cases e : n = m + 1
    · subst e; exact Nat.le_refl _
    · have := ih (by omega)
      rw [nfl_s]
      omega
theorem fln_ex {G : Nat → Int32} {σ : SG} {q : Nat} (h : q < nfl G (gT σ) (gN σ)) : ∃ x, fln G σ q x := by
  have : ∀ n, q < nfl G (gT σ) n → ∃ x, x < n ∧ kdT G (gT σ x) = 0 ∧ nfl G (gT σ) x = q := by
    intro n
    induction n with
    | zero => intro z; exact absurd z (Nat.not_lt_zero _)
    | succ n ih =>
      intro z
      rw [nfl_s] at z
      by_cases y : q < nfl G (gT σ) n
      · obtain ⟨x, a, b⟩ := ih y; exact ⟨x, by omega, b⟩
      · by_cases w : kdT G (gT σ n) = 0
        · rw [if_pos w] at z; exact ⟨n, by omega, w, by omega⟩
        · rw [if_neg w] at z; omega
  exact this _ h
