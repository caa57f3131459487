/-! PURE: patterns one behind another, tables of lines -/
/-- where the pattern that begins at p has ended -/
noncomputable def bhd (g : Nat → Nat) (p : Nat) : Nat := @dite Nat (∃ l, sq g l 1 p) (Classical.propDecidable _) (fun h => p + Classical.choose h) (fun _ => p)
theorem bhd_eq {g : Nat → Nat} {l p : Nat} (h : sq g l 1 p) : bhd g p = p + l := by
  unfold bhd
  rw [dif_pos ⟨l, h⟩, sq_det (Classical.choose_spec (⟨l, h⟩ : ∃ l, sq g l 1 p)) h]
/-- the i-th of the patterns from s on -/
noncomputable def nth (g : Nat → Nat) (s : Nat) : Nat → Nat
  | 0 => s
  | i + 1 => bhd g (nth g s i)
theorem nth_split {g : Nat → Nat} {l n s : Nat} (h : sq g l n s) : ∀ i, i ≤ n → ∃ la lb, l = la + lb ∧ nth g s i = s + la ∧ sq g lb (n - i) (s + la) := by
  intro i
  induction i with
  | zero => intro _; exact ⟨0, l, by omega, rfl, h⟩
  | succ i ih =>
    intro hi
    obtain ⟨la, lb, h1, h2, h3⟩ := ih (by omega)
    have h4 : sq g lb (1 + (n - (i + 1))) (s + la) := by rw [show 1 + (n - (i + 1)) = n - i by omega]; exact h3
    obtain ⟨l1, l2, h5, h6, h7⟩ := sq_split h4
    refine ⟨la + l1, l2, by omega, ?_, by rw [← Nat.add_assoc]; exact h7⟩
    show bhd g (nth g s i) = s + (la + l1)
    rw [h2, bhd_eq h6, Nat.add_assoc]
theorem nth_in {g : Nat → Nat} {l n s i : Nat} (h : sq g l n s) (hi : i < n) : ∃ la lb, nth g s i = s + la ∧ sq g lb 1 (s + la) ∧ la + lb ≤ l ∧ 0 < lb := by
  obtain ⟨la, lb, h1, h2, h3⟩ := nth_split h i (by omega)
  have h4 : sq g lb (1 + (n - (i + 1))) (s + la) := by rw [show 1 + (n - (i + 1)) = n - i by omega]; exact h3
  obtain ⟨l1, l2, h5, h6, h7⟩ := sq_split h4
  exact ⟨la, l1, h2, h6, by omega, sq_pos (n := 0) h6⟩
/-- a place within a row -/
def okp (R : Nat) (sz : Nat → Nat) (p : Nat) : Prop := ∃ r, r < R ∧ 40 * r ≤ p ∧ p < 40 * r + sz r
/-- the parts' numbers -/
noncomputable def gk (S : Mem) (k : KK) : Nat → Nat := fun j => kar k (S 32 j)
section
variable {S : Mem} {k : KK} {C R : Nat} {sz : Nat → Nat}
theorem okp_lt (h : rws S k C R sz) {p : Nat} (hp : okp R sz p) : p < 480 := by
  obtain ⟨r, h1, h2, h3⟩ := hp
  have := (h.2.2.2 r h1).1
  have := h.1
  omega
theorem okp_sgn (h : rws S k C R sz) {p : Nat} (hp : okp R sz p) : sgn k (S 32 p) := by
  obtain ⟨r, h1, h2, h3⟩ := hp
  exact ((h.2.2.2 r h1).2.2.2.1 p h2 h3).2
theorem okp_9 (h : rws S k C R sz) {p : Nat} (hp : okp R sz p) : S 9 p = S 32 p := by
  obtain ⟨r, h1, h2, h3⟩ := hp
  exact ((h.2.2.2 r h1).2.2.2.1 p h2 h3).1
/-- the pattern at a place of a row lies in the row -/
theorem okp_pat (h : rws S k C R sz) {p : Nat} (hp : okp R sz p) : ∃ l, sq (gk S k) l 1 p ∧ 0 < l ∧ p + l ≤ 480 ∧ ∀ j, p ≤ j → j < p + l → okp R sz j := by
  obtain ⟨r, h1, h2, h3⟩ := hp
  obtain ⟨q1, q2, q3, q4, q5⟩ := h.2.2.2 r h1
  obtain ⟨l, a1, a2⟩ := sq_at (i := p - 40 * r) q3 (by omega)
  rw [show 40 * r + (p - 40 * r) = p by omega] at a1
  have := h.1
  exact ⟨l, a1, sq_pos (n := 0) a1, by omega, fun j b1 b2 => ⟨r, h1, by omega, by omega⟩⟩
theorem okp_10 (h : rws S k C R sz) {p : Nat} (hp : okp R sz p) : S 10 p = nI (bhd (gk S k) p) := by
  obtain ⟨r, h1, h2, h3⟩ := hp
  obtain ⟨q1, q2, q3, q4, q5⟩ := h.2.2.2 r h1
  obtain ⟨l, a1, a2, a3⟩ := q5 p h2 h3
  rw [a3, bhd_eq (g := gk S k) a1]
theorem okp_part (h : rws S k C R sz) {p i : Nat} (hp : okp R sz p) (hi : i < kar k (S 32 p)) : okp R sz (nth (gk S k) (p + 1) i) := by
  obtain ⟨l, a1, a2, a3, a4⟩ := okp_pat h hp
  obtain ⟨l1, e1, a5⟩ := sq_one a1
  obtain ⟨la, lb, b1, b2, b3, b4⟩ := nth_in (i := i) (n := kar k (S 32 p)) a5 hi
  rw [b1]
  exact a4 _ (by omega) (by omega)
theorem okp_col (h : rws S k C R sz) {r c : Nat} (hr : r < R) (hc : c < C) : okp R sz (nth (gk S k) (40 * r) c) := by
  obtain ⟨q1, q2, q3, q4, q5⟩ := h.2.2.2 r hr
  obtain ⟨la, lb, b1, b2, b3, b4⟩ := nth_in (g := gk S k) (i := c) q3 hc
  rw [b1]
  exact ⟨r, hr, by omega, by omega⟩
theorem okp_lt2 (h : rws S k C R sz) {p : Nat} (hp : okp R sz p) : bhd (gk S k) p ≤ 480 := by
  obtain ⟨l, a1, a2, a3, a4⟩ := okp_pat h hp
  rw [bhd_eq a1]; exact a3
end
section
variable {d : Nat} {S : Mem} {k : KK} {C R : Nat} {sz : Nat → Nat}
/-- the reference's behind at a place of a row -/
theorem mr_bh (hK : mr_K S k) (hW : kW k) (h : rws S k C R sz) {p : Nat} (hp : okp R sz p) : mm_runD (d + 2) 132 [.inr 27, .inr 32, .inl (nI p)] S = some (S, 0, 0, 0, nI (bhd (gk S k) p)) := by
  obtain ⟨l, a1, a2, a3, a4⟩ := okp_pat h hp
  rw [mr_behindr hK hW a1 a3 (fun j b1 b2 => okp_sgn h (a4 j b1 b2)), bhd_eq a1]
end
/-! tables: places, lines, the places' types, the lines' rows, the cells (-1, or where a pattern begins) -/
abbrev TB : Type := Nat × Nat × (Nat → Nat) × (Nat → Nat) × (Nat → Nat → Int32)
def tP (T : TB) : Nat := T.1
def tL (T : TB) : Nat := T.2.1
def tT (T : TB) : Nat → Nat := T.2.2.1
def tR (T : TB) : Nat → Nat := T.2.2.2.1
def tC (T : TB) : Nat → Nat → Int32 := T.2.2.2.2
/-- a cell's sign -/
def sgc (G : Nat → Int32) (y : Int32) : Int32 := if y = N1 then N1 else G y.toNatClampNeg
theorem sgc_N (G : Nat → Int32) : sgc G N1 = N1 := if_pos rfl
theorem sgc_p {G : Nat → Int32} {p : Nat} (hp : p < 480) : sgc G (nI p) = G p := by
  unfold sgc
  rw [if_neg (fun q => (nn_a1 (a := p) (by omega)).mp q), nI_clamp (by omega)]
/-- a cell as the class keeps it -/
def nrm (G : Nat → Int32) (y : Int32) : Int32 := if sgc G y = N1 then N1 else y
def wfT (R : Nat) (sz : Nat → Nat) (T : TB) : Prop := tP T ≤ 40 ∧ tL T ≤ 60 ∧ ∀ l c, l < tL T → c < tP T → tC T l c = N1 ∨ ∃ p, okp R sz p ∧ tC T l c = nI p
/-- a line with an EITHER becomes two -/
noncomputable def dbT (g : Nat → Nat) (T : TB) (l c : Nat) : TB := (tP T, tL T + 1, tT T, (fun l' => if l' ≤ l then tR T l' else tR T (l' - 1)),
  fun l' c' => if c' = c ∧ l' = l then nI ((tC T l c).toNatClampNeg + 1) else if c' = c ∧ l' = l + 1 then nI (bhd g ((tC T l c).toNatClampNeg + 1)) else if l' ≤ l then tC T l' c' else tC T (l' - 1) c')
/-- no EITHER is left: from line l, place c on -/
noncomputable def spl (G : Nat → Int32) (g : Nat → Nat) : Nat → TB → Nat → Nat → Option (Option TB)
  | 0, _, _, _ => none
  | f + 1, T, l, c => if tL T ≤ l then some (some T) else if tP T ≤ c then spl G g f T (l + 1) 0 else if sgc G (tC T l c) = N2 then (if tL T = 60 then some none else spl G g f (dbT g T l c) l c) else spl G g f T l (c + 1)
theorem spl_mono {G : Nat → Int32} {g : Nat → Nat} {r : Option TB} : ∀ f T l c, spl G g f T l c = some r → spl G g (f + 1) T l c = some r := by
  intro f
  induction f with
  | zero => intro T l c h; cases h
  | succ f ih =>
    intro T l c h
    unfold spl at h ⊢
    by_cases h1 : tL T ≤ l
    · rw [if_pos h1] at h ⊢; exact h
    · rw [if_neg h1] at h ⊢
      by_cases h2 : tP T ≤ c
      · rw [if_pos h2] at h ⊢; exact ih _ _ _ h
      · rw [if_neg h2] at h ⊢
        by_cases h3 : sgc G (tC T l c) = N2
        · rw [if_pos h3] at h ⊢
          by_cases h4 : tL T = 60
          · rw [if_pos h4] at h ⊢; exact h
          · rw [if_neg h4] at h ⊢; exact ih _ _ _ h
        · rw [if_neg h3] at h ⊢; exact ih _ _ _ h
theorem spl_some {G : Nat → Int32} {g : Nat → Nat} : ∀ (n : Nat) (T : TB) (l c : Nat), tL T ≤ 60 → l ≤ tL T → c ≤ tP T → (60 - tL T) * (tP T + 2) + (tL T - l) * (tP T + 1) + (tP T - c) < n → ∃ r, spl G g n T l c = some r := by
  intro n
  induction n with
  | zero => intro T l c _ _ _ h; omega
  | succ n ih =>
    intro T l c h60 hl hc hn
    unfold spl
    by_cases h1 : tL T ≤ l
    · rw [if_pos h1]; exact ⟨_, rfl⟩
    · rw [if_neg h1]
      by_cases h2 : tP T ≤ c
      · rw [if_pos h2]
        refine ih T (l + 1) 0 h60 (by omega) (by omega) ?_
        rw [show tL T - l = (tL T - (l + 1)) + 1 by omega, Nat.add_mul] at hn
        omega
      · rw [if_neg h2]
        by_cases h3 : sgc G (tC T l c) = N2
        · rw [if_pos h3]
          by_cases h4 : tL T = 60
          · rw [if_pos h4]; exact ⟨_, rfl⟩
          · rw [if_neg h4]
            refine ih (dbT g T l c) l c (show tL T + 1 ≤ 60 by omega) (show l ≤ tL T + 1 by omega) hc ?_
            show (60 - (tL T + 1)) * (tP T + 2) + (tL T + 1 - l) * (tP T + 1) + (tP T - c) < n
            rw [show 60 - tL T = (60 - (tL T + 1)) + 1 by omega, Nat.add_mul] at hn
            rw [show tL T + 1 - l = (tL T - l) + 1 by omega, Nat.add_mul]
            omega
        · rw [if_neg h3]
          exact ih T l (c + 1) h60 hl (by omega) (by omega)
/-- all fuel that is enough gives the same -/
theorem spl_det {G : Nat → Int32} {g : Nat → Nat} {f f' : Nat} {T : TB} {l c : Nat} {r r' : Option TB} (h : spl G g f T l c = some r) (h' : spl G g f' T l c = some r') : r = r' := by
  have up : ∀ (n f : Nat) r, spl G g f T l c = some r → spl G g (f + n) T l c = some r := by
    intro n
    induction n with
    | zero => intro f r h; exact h
    | succ n ih => intro f r h; exact spl_mono _ _ _ _ (ih f r h)
  have a := up f' f r h
  have b := up f f' r' h'
  rw [Nat.add_comm] at b
  rw [a] at b
  exact Option.some.inj b
/-- the table when no EITHER is left; none: too great -/
noncomputable def spT (G : Nat → Int32) (g : Nat → Nat) (T : TB) : Option TB := (spl G g ((60 - tL T) * (tP T + 2) + (tL T - 0) * (tP T + 1) + (tP T - 0) + 1) T 0 0).getD none
theorem spT_eq {G : Nat → Int32} {g : Nat → Nat} {T : TB} {f : Nat} {r : Option TB} (h : spl G g f T 0 0 = some r) (h60 : tL T ≤ 60) : spT G g T = r := by
  obtain ⟨r', h'⟩ := spl_some (G := G) (g := g) _ T 0 0 h60 (by omega) (by omega) (Nat.lt_succ_self _)
  unfold spT
  rw [h', spl_det h' h]
  rfl
theorem spT_is {G : Nat → Int32} {g : Nat → Nat} {T : TB} (h60 : tL T ≤ 60) : ∃ f, spl G g f T 0 0 = some (spT G g T) := by
  obtain ⟨r', h'⟩ := spl_some (G := G) (g := g) _ T 0 0 h60 (by omega) (by omega) (Nat.lt_succ_self _)
  exact ⟨_, by rw [spT_eq h' h60]; exact h'⟩
/-- a branch keeps a line -/
def kpl (G : Nat → Int32) (T : TB) (c m l : Nat) : Prop := sgc G (tC T l c) = N1 ∨ sgc G (tC T l c) = nI m
/-- its cells -/
noncomputable def wdn (G : Nat → Int32) (g : Nat → Nat) (T : TB) (c f l : Nat) : Nat → Int32 := fun j => if j < c then tC T l j else if j < c + f then (if sgc G (tC T l c) = N1 then N1 else nI (nth g ((tC T l c).toNatClampNeg + 1) (j - c))) else tC T l (j + 1 - f)
/-- the lines that are kept, of the first l -/
noncomputable def brL (G : Nat → Int32) (g : Nat → Nat) (T : TB) (c m f : Nat) : Nat → Nat × (Nat → Nat) × (Nat → Nat → Int32)
  | 0 => (0, (fun _ => 0), fun _ _ => N1)
  | l + 1 => @ite _ (kpl G T c m l) (Classical.propDecidable _) ((brL G g T c m f l).1 + 1, (fun j => if j = (brL G g T c m f l).1 then tR T l else (brL G g T c m f l).2.1 j), fun j => if j = (brL G g T c m f l).1 then wdn G g T c f l else (brL G g T c m f l).2.2 j) (brL G g T c m f l)
theorem brL_le {G : Nat → Int32} {g : Nat → Nat} {T : TB} {c m f : Nat} : ∀ l, (brL G g T c m f l).1 ≤ l := by
  intro l
  induction l with
  | zero => exact Nat.le_refl _
  | succ l ih =>
    unfold brL
    by_cases h : kpl G T c m l
    · rw [if_pos h]; show (brL G g T c m f l).1 + 1 ≤ l + 1; omega
    · rw [if_neg h]; omega
theorem brL_t {G : Nat → Int32} {g : Nat → Nat} {T : TB} {c m f l : Nat} (h : kpl G T c m l) : brL G g T c m f (l + 1) = ((brL G g T c m f l).1 + 1, (fun j => if j = (brL G g T c m f l).1 then tR T l else (brL G g T c m f l).2.1 j), fun j => if j = (brL G g T c m f l).1 then wdn G g T c f l else (brL G g T c m f l).2.2 j) := if_pos h
theorem brL_f {G : Nat → Int32} {g : Nat → Nat} {T : TB} {c m f l : Nat} (h : ¬ kpl G T c m l) : brL G g T c m f (l + 1) = brL G g T c m f l := if_neg h
/-- the types of a branch's places -/
def brTy (k : KK) (m : Nat) (t : Nat → Nat) (c : Nat) : Nat → Nat := fun j => if j < c then t j else if j < c + kFc k m then kFt k m (j - c) else t (j + 1 - kFc k m)
noncomputable def brT (G : Nat → Int32) (g : Nat → Nat) (k : KK) (T : TB) (c m : Nat) : TB := (tP T - 1 + kFc k m, (brL G g T c m (kFc k m) (tL T)).1, brTy k m (tT T) c, (brL G g T c m (kFc k m) (tL T)).2.1, (brL G g T c m (kFc k m) (tL T)).2.2)
/-- the first table -/
noncomputable def fsT (g : Nat → Nat) (C R : Nat) (col : Nat → Nat) : TB := (C, R, col, (fun r => r), fun r c => nI (nth g (40 * r) c))
