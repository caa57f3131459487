/-- more steps change nothing -/
theorem mm_more_step {call : Nat → List MV → Mem → Option Res} {rt : Nat} {k k' : Kt} {j : Nat} {L : List (Option MV)} {S : Mem} {kc ks : Nat} {i : Instr} {x : Nat} {v : Int32} {ts : List Nat} {st : List MV} {r : Res}
    (hk : ∀ j L st S kc ks, k j L st S kc ks = some r → k' j L st S kc ks = some r) (h : mm_step call rt k j L S kc ks i x v ts st = some r) : mm_step call rt k' j L S kc ks i x v ts st = some r := by
  unfold mm_step at h ⊢
  split at h
  all_goals (try unfold mm_arr at h ⊢)
  all_goals (repeat' (first | (cases h; done) | split at h))
  all_goals first
    | exact hk _ _ _ _ _ _ h
    | (simp_all; done)
    | (simp only [*, if_true, if_false, reduceIte]; exact hk _ _ _ _ _ _ h)
    | skip
  all_goals (repeat' split)
  all_goals first
    | exact hk _ _ _ _ _ _ h
    | contradiction
    | (exfalso; omega)
theorem mm_more {call : Nat → List MV → Mem → Option Res} {P : List PI} {rt : Nat} {r : Res} : ∀ (n m j : Nat) (L : List (Option MV)) (st : List MV) (S : Mem) (kc ks : Nat), n ≤ m → mm_runN call P rt n j L st S kc ks = some r → mm_runN call P rt m j L st S kc ks = some r := by
  intro n
  induction n with
  | zero => intro m j L st S kc ks _ h; cases h
  | succ n ih =>
    intro m j L st S kc ks hm h
    cases m with
    | zero => exact absurd hm (by omega)
    | succ m =>
      unfold mm_runN at h ⊢
      split at h
      · rename_i i x v ts hj
        exact mm_more_step (fun j L st S kc ks h => ih m j L st S kc ks (by omega) h) h
      · cases h
/-- the run from a row on ends so -/
def mm_T (call : Nat → List MV → Mem → Option Res) (P : List PI) (rt j : Nat) (L : List (Option MV)) (st : List MV) (S : Mem) (kc ks : Nat) (r : Res) : Prop := ∃ n, mm_runN call P rt n j L st S kc ks = some r
theorem mm_T_one {call : Nat → List MV → Mem → Option Res} {P : List PI} {rt j : Nat} {L : List (Option MV)} {st : List MV} {S : Mem} {kc ks : Nat} {r r' : Res} (h : mm_T call P rt j L st S kc ks r) (h' : mm_T call P rt j L st S kc ks r') : r = r' := by
  obtain ⟨n, h⟩ := h
  obtain ⟨n', h'⟩ := h'
  have h1 := mm_more n (n + n') j L st S kc ks (by omega) h
  have h2 := mm_more n' (n + n') j L st S kc ks (by omega) h'
  exact Option.some.inj (h1.symm.trans h2)
/-- some steps on -/
theorem mm_T.on {call : Nat → List MV → Mem → Option Res} {P : List PI} {rt j j' : Nat} {L L' : List (Option MV)} {st st' : List MV} {S S' : Mem} {kc ks kc' ks' : Nat} {r : Res} (K q : Nat) (he : ∀ n, mm_runN call P rt (n + K) j L st S kc ks = mm_runN call P rt (n + q) j' L' st' S' kc' ks') (h : mm_T call P rt j' L' st' S' kc' ks' r) : mm_T call P rt j L st S kc ks r := by
  obtain ⟨n, h⟩ := h
  exact ⟨n + K, by rw [he n]; exact mm_more n (n + q) _ _ _ _ _ _ (by omega) h⟩
theorem mm_T.now {call : Nat → List MV → Mem → Option Res} {P : List PI} {rt j : Nat} {L : List (Option MV)} {st : List MV} {S : Mem} {kc ks : Nat} {r : Res} (K : Nat) (he : mm_runN call P rt (0 + K) j L st S kc ks = some r) : mm_T call P rt j L st S kc ks r := ⟨_, he⟩
