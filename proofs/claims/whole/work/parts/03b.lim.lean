/-- a row uses what follows it once, if at all -/
theorem mm_use {call : Nat → List MV → Mem → Option Res} {rt : Nat} {k : Kt} {j : Nat} {L : List (Option MV)} {S : Mem} {kc ks : Nat} {i : Instr} {x : Nat} {v : Int32} {ts : List Nat} {st : List MV} {r : Res}
    (h : mm_step call rt k j L S kc ks i x v ts st = some r) : (∃ j' L' st' S' kc' ks', k j' L' st' S' kc' ks' = some r ∧ ∀ k' : Kt, k' j' L' st' S' kc' ks' = some r → mm_step call rt k' j L S kc ks i x v ts st = some r) ∨ ∀ k' : Kt, mm_step call rt k' j L S kc ks i x v ts st = some r := by
  by_cases hu : ∃ j' L' st' S' kc' ks', k j' L' st' S' kc' ks' = some r ∧ ∀ k' : Kt, k' j' L' st' S' kc' ks' = some r → mm_step call rt k' j L S kc ks i x v ts st = some r
  · exact Or.inl hu
  · refine Or.inr fun k' => ?_
    have hn : ∀ j' L' st' S' kc' ks', k j' L' st' S' kc' ks' = some r → (∀ k' : Kt, k' j' L' st' S' kc' ks' = some r → mm_step call rt k' j L S kc ks i x v ts st = some r) → False := fun j' L' st' S' kc' ks' h1 h2 => hu ⟨j', L', st', S', kc', ks', h1, h2⟩
    clear hu
    unfold mm_step at h hn ⊢
    split at h
    all_goals (try unfold mm_arr at h hn ⊢)
    all_goals (repeat' (first | (cases h; done) | split at h))
    all_goals first
      | (exfalso; have hn9 := hn _ _ _ _ _ _ h; clear hn; refine hn9 (fun k' hk' => ?_); clear hn9 h; first | exact hk' | (simp_all; done) | (dsimp only; (repeat' split) <;> first | exact hk' | contradiction | (simp_all; done)))
      | (simp_all; done)
      | exact h
      | skip
    · rename_i xa b9 r9 e1 xb e2 xc S9 c9 s9 a9 e3
      exfalso
      refine hn _ _ _ _ _ _ h (fun k' hk' => ?_)
      dsimp only
      rw [e1]
      dsimp only
      rw [e2]
      dsimp only
      rw [e3]
      exact hk'
    · rename_i b9 a9 r9 xz e1 h1
      exfalso
      refine hn _ _ _ _ _ _ h (fun k' hk' => ?_)
      show (match Nat.ble r9.length 8 with | true => k' (j + 1) L (.inl (if b9 < a9 then b9 else a9) :: r9) S kc ks | false => none) = some r
      rw [e1, if_pos h1]
      exact hk'
    · rename_i b9 a9 r9 xz e1 h1
      exfalso
      refine hn _ _ _ _ _ _ h (fun k' hk' => ?_)
      show (match Nat.ble r9.length 8 with | true => k' (j + 1) L (.inl (if b9 < a9 then b9 else a9) :: r9) S kc ks | false => none) = some r
      rw [e1, if_neg h1]
      exact hk'
    · rename_i b9 a9 r9 xz e1 h1
      exfalso
      refine hn _ _ _ _ _ _ h (fun k' hk' => ?_)
      show (match Nat.ble r9.length 8 with | true => k' (j + 1) L (.inl (if a9 < b9 then b9 else a9) :: r9) S kc ks | false => none) = some r
      rw [e1, if_pos h1]
      exact hk'
    · rename_i b9 a9 r9 xz e1 h1
      exfalso
      refine hn _ _ _ _ _ _ h (fun k' hk' => ?_)
      show (match Nat.ble r9.length 8 with | true => k' (j + 1) L (.inl (if a9 < b9 then b9 else a9) :: r9) S kc ks | false => none) = some r
      rw [e1, if_neg h1]
      exact hk'
/-- where the walk from a row on ends, if it does -/
noncomputable def mm_E (call : Nat → List MV → Mem → Option Res) (P : List PI) (rt : Nat) : Kt := fun j L st S kc ks =>
  @dite (Option Res) (∃ r, mm_T call P rt j L st S kc ks r) (Classical.propDecidable _) (fun h => some (Classical.choose h)) (fun _ => none)
theorem mm_E_of {call : Nat → List MV → Mem → Option Res} {P : List PI} {rt j : Nat} {L : List (Option MV)} {st : List MV} {S : Mem} {kc ks : Nat} {r : Res} (h : mm_T call P rt j L st S kc ks r) : mm_E call P rt j L st S kc ks = some r := by
  unfold mm_E
  rw [dif_pos ⟨r, h⟩]
  exact congrArg some (mm_T_one (Classical.choose_spec (⟨r, h⟩ : ∃ r, mm_T call P rt j L st S kc ks r)) h)
theorem mm_E_to {call : Nat → List MV → Mem → Option Res} {P : List PI} {rt j : Nat} {L : List (Option MV)} {st : List MV} {S : Mem} {kc ks : Nat} {r : Res} (h : mm_E call P rt j L st S kc ks = some r) : mm_T call P rt j L st S kc ks r := by
  unfold mm_E at h
  split at h
  · rename_i h1
    rw [← Option.some.inj h]
    exact Classical.choose_spec h1
  · cases h
theorem mm_E_step {call : Nat → List MV → Mem → Option Res} {P : List PI} {rt j : Nat} {L : List (Option MV)} {st : List MV} {S : Mem} {kc ks : Nat} {i : Instr} {x : Nat} {v : Int32} {ts : List Nat} (hj : P[j]? = some (i, x, v, ts)) : mm_E call P rt j L st S kc ks = mm_step call rt (mm_E call P rt) j L S kc ks i x v ts st := by
  apply Option.ext
  intro r
  constructor
  · intro h
    obtain ⟨n, h⟩ := mm_E_to h
    cases n with
    | zero => cases h
    | succ n =>
      unfold mm_runN at h
      rw [hj] at h
      exact mm_more_step (fun j L st S kc ks h => mm_E_of ⟨n, h⟩) h
  · intro h
    rcases mm_use h with ⟨j', L', st', S', kc', ks', h1, h2⟩ | h1
    · obtain ⟨n, h1⟩ := mm_E_to h1
      refine mm_E_of ⟨n + 1, ?_⟩
      unfold mm_runN
      rw [hj]
      exact h2 _ h1
    · refine mm_E_of ⟨1, ?_⟩
      unfold mm_runN
      rw [hj]
      exact h1 _
/-- a walk up to the next cut -/
def mm_runC (call : Nat → List MV → Mem → Option Res) (P : List PI) (rt : Nat) (cuts : List Nat) (k : Kt) : Nat → Bool → Kt
  | 0, _ => fun j L st S kc ks => k j L st S kc ks
  | m + 1, f => fun j L st S kc ks => match f && cuts.contains j with
    | true => k j L st S kc ks
    | false => match P[j]? with
      | some (i, x, v, ts) => mm_step call rt (mm_runC call P rt cuts k m true) j L S kc ks i x v ts st
      | none => none
theorem mm_E_C {call : Nat → List MV → Mem → Option Res} {P : List PI} {rt : Nat} (cuts : List Nat) : ∀ (m : Nat) (f : Bool), mm_runC call P rt cuts (mm_E call P rt) m f = mm_E call P rt := by
  intro m
  induction m with
  | zero => intro f; rfl
  | succ m ih =>
    intro f
    funext j L st S kc ks
    unfold mm_runC
    split
    · rfl
    · cases hj : P[j]? with
      | none =>
        have : ∀ r, mm_E call P rt j L st S kc ks ≠ some r := by
          intro r h
          obtain ⟨n, h⟩ := mm_E_to h
          cases n with
          | zero => cases h
          | succ n => unfold mm_runN at h; rw [hj] at h; cases h
        cases he : mm_E call P rt j L st S kc ks with
        | none => rfl
        | some r => exact absurd he (this r)
      | some q =>
        obtain ⟨i, x, v, ts⟩ := q
        rw [mm_E_step hj, ih true]
theorem mm_E_eq {call : Nat → List MV → Mem → Option Res} {P : List PI} {rt : Nat} (cuts : List Nat) (K : Nat) {j : Nat} {L : List (Option MV)} {st : List MV} {S : Mem} {kc ks : Nat} {X : Option Res} (h : mm_runC call P rt cuts (mm_E call P rt) K false j L st S kc ks = X) : mm_E call P rt j L st S kc ks = X := by
  rw [← h, mm_E_C]
