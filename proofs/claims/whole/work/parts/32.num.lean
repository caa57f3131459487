/-! PURE: numbers, so that a walk's tests are decided by omega -/
theorem nn_ltT {a b : Nat} (h : a < b) (hb : b < 2 ^ 31) : (nI a < nI b) = True := eq_true (nI_lt h hb)
theorem nn_ltF {a b : Nat} (h : b ≤ a) (ha : a < 2 ^ 31) : (nI a < nI b) = False := eq_false (nI_nlt h ha)
theorem nn_leT {a b : Nat} (h : a ≤ b) (hb : b < 2 ^ 31) : (nI a ≤ nI b) = True := eq_true (nI_le h hb)
theorem nn_leF {a b : Nat} (h : b < a) (ha : a < 2 ^ 31) : (nI a ≤ nI b) = False := eq_false (nI_ge h ha)
theorem nn_eqT {a b : Nat} (h : a = b) : (nI a = nI b) = True := eq_true (by rw [h])
theorem nn_eqF {a b : Nat} (h : a ≠ b) (ha : a < 2 ^ 31) (hb : b < 2 ^ 31) : (nI a = nI b) = False := eq_false (fun q => h ((nI_eq ha hb).mp q))
theorem nn_mul (a b : Nat) : nI a * nI b = nI (a * b) := (pk_mul a b)
abbrev N1 : Int32 := -1
abbrev N2 : Int32 := -2
theorem nn_n1 : -nI 1 = N1 := rfl
theorem nn_n2 : -nI 2 = N2 := rfl
theorem nn_sub {a b : Nat} (h : b ≤ a) : nI a - nI b = nI (a - b) := by
  obtain ⟨c, rfl⟩ : ∃ c, a = b + c := ⟨a - b, by omega⟩
  rw [← nI_add, Nat.add_sub_cancel_left, Int32.add_comm, Int32.add_sub_cancel]
theorem nn_dec {a : Nat} (h : 0 < a) : nI a + N1 = nI (a - 1) := by
  obtain ⟨c, rfl⟩ : ∃ c, a = c + 1 := ⟨a - 1, by omega⟩
  show nI (c + 1) + (-1) = nI (c + 1 - 1)
  rw [Nat.add_sub_cancel, ← Int32.sub_eq_add_neg, nI_pred]
theorem nn_sm (x : Int32) : x + (-1) = x - 1 := (Int32.sub_eq_add_neg (a := x) (b := 1)).symm
theorem nn_toI {x : Int32} : x = N1 ↔ x.toInt = -1 := ⟨fun h => by rw [h]; rfl, fun h => Int32.toInt_inj.mp (by rw [h]; rfl)⟩
theorem nn_a1 {a : Nat} (h : a < 2 ^ 31) : (nI a = N1) = False := eq_false (fun q => by have := congrArg Int32.toInt q; rw [nI_toInt h] at this; have e : N1.toInt = -1 := rfl; omega)
theorem nn_a2 {a : Nat} (h : a < 2 ^ 31) : (nI a = N2) = False := eq_false (fun q => by have := congrArg Int32.toInt q; rw [nI_toInt h] at this; have e : N2.toInt = -2 := rfl; omega)
theorem nn_a3 {a : Nat} (h : a < 2 ^ 31) : (N1 = nI a) = False := eq_false (fun q => by have e := nn_a1 h; rw [← q] at e; exact e.mp rfl)
theorem nn_a4 {a : Nat} (h : a < 2 ^ 31) : (N2 = nI a) = False := eq_false (fun q => by have e := nn_a2 h; rw [← q] at e; exact e.mp rfl)
theorem nn_a5 : (N1 = N2) = False := eq_false (by decide)
theorem nn_a6 : (N2 = N1) = False := eq_false (by decide)
theorem nn_a7 {a : Nat} (h : a < 2 ^ 31) : (N1 < nI a) = True := eq_true (by rw [Int32.lt_iff_toInt_lt, nI_toInt h]; have e : N1.toInt = -1 := rfl; omega)
theorem nn_a8 {a : Nat} (h : a < 2 ^ 31) : (nI a ≤ N1) = False := eq_false (by rw [Int32.le_iff_toInt_le, nI_toInt h]; have e : N1.toInt = -1 := rfl; omega)
theorem nn_a9 {a : Nat} (h : a < 2 ^ 31) : (nI a ≤ N2) = False := eq_false (by rw [Int32.le_iff_toInt_le, nI_toInt h]; have e : N2.toInt = -2 := rfl; omega)
theorem nn_a10 : N1 + nI 1 = nI 0 := rfl
theorem nn_a11 : nI 0 + N1 = N1 := rfl
theorem nn_a12 {a : Nat} (h : a < 2 ^ 31) : (N2 < nI a) = True := eq_true (by rw [Int32.lt_iff_toInt_lt, nI_toInt h]; have e : N2.toInt = -2 := rfl; omega)
theorem nn_a13 : nI 0 - nI 1 = N1 := rfl
theorem nn_nar0 : vp_nar .boolean 0 = 0 := by decide +kernel
theorem nn_nar1 : vp_nar .boolean 1 = 1 := by decide +kernel
/-- a test's answer -/
noncomputable def mb (p : Prop) : Int32 := @ite Int32 p (Classical.propDecidable p) 1 0
theorem mb_t {p : Prop} (h : p) : mb p = 1 := by unfold mb; rw [if_pos h]
theorem mb_f {p : Prop} (h : ¬ p) : mb p = 0 := by unfold mb; rw [if_neg h]
theorem mb_0 (p : Prop) : (mb p = 0) = ¬ p := by
  by_cases h : p
  · rw [mb_t h]; exact propext ⟨fun q => absurd q (by decide), fun q => absurd h q⟩
  · rw [mb_f h]; exact propext ⟨fun _ => h, fun _ => rfl⟩
theorem mb_nar (p : Prop) : vp_nar .boolean (mb p) = mb p := by
  by_cases h : p
  · rw [mb_t h]; exact nn_nar1
  · rw [mb_f h]; exact nn_nar0
theorem mb_01 (p : Prop) : mb p = 0 ∨ mb p = 1 := by
  by_cases h : p
  · exact Or.inr (mb_t h)
  · exact Or.inl (mb_f h)
theorem mb_iff {p q : Prop} (h : p ↔ q) : mb p = mb q := by rw [propext h]
/-- a walk whose row j is a loop's head -/
theorem mm_while {call : Nat → List MV → Mem → Option Res} {P : List PI} {rt j : Nat} {st : List MV} {Post : Option Res → Prop} (Q : Nat → List (Option MV) → Mem → Nat → Nat → Prop)
    (h : ∀ n L S kc ks, Q n L S kc ks → Post (mm_E call P rt j L st S kc ks) ∨ ∃ m L' S' kc' ks', m < n ∧ Q m L' S' kc' ks' ∧ mm_E call P rt j L st S kc ks = mm_E call P rt j L' st S' kc' ks') :
    ∀ n L S kc ks, Q n L S kc ks → Post (mm_E call P rt j L st S kc ks) := by
  intro n
  induction n using Nat.strongRecOn with
  | ind n ih =>
    intro L S kc ks hq
    rcases h n L S kc ks hq with h1 | ⟨m, L', S', kc', ks', h1, h2, h3⟩
    · exact h1
    · rw [h3]; exact ih m h1 L' S' kc' ks' h2
theorem ar_2 {S : Mem} {j : Nat} {k : Nat → Option Res} (h : j < 8) : mm_arr S 1 2 (nI j) k = k j := by
  rw [mm_arr_in (n := 8) rfl (mp_ix rfl h (by decide)), nI_clamp (by omega)]
theorem ar_3 {S : Mem} {j : Nat} {k : Nat → Option Res} (h : j < 8) : mm_arr S 2 3 (nI j) k = k j := by
  rw [mm_arr_in (n := 8) rfl (mp_ix rfl h (by decide)), nI_clamp (by omega)]
theorem ar_4 {S : Mem} {j : Nat} {k : Nat → Option Res} (h : j < 40) : mm_arr S 1 4 (nI j) k = k j := by
  rw [mm_arr_in (n := 40) rfl (mp_ix rfl h (by decide)), nI_clamp (by omega)]
theorem ar_5 {S : Mem} {j : Nat} {k : Nat → Option Res} (h : j < 40) : mm_arr S 1 5 (nI j) k = k j := by
  rw [mm_arr_in (n := 40) rfl (mp_ix rfl h (by decide)), nI_clamp (by omega)]
theorem ar_6 {S : Mem} {j : Nat} {k : Nat → Option Res} (h : j < 120) : mm_arr S 1 6 (nI j) k = k j := by
  rw [mm_arr_in (n := 120) rfl (mp_ix rfl h (by decide)), nI_clamp (by omega)]
theorem ar_7 {S : Mem} {j : Nat} {k : Nat → Option Res} (h : j < 3) : mm_arr S 1 7 (nI j) k = k j := by
  rw [mm_arr_in (n := 3) rfl (mp_ix rfl h (by decide)), nI_clamp (by omega)]
theorem ar_9 {S : Mem} {j : Nat} {k : Nat → Option Res} (h : j < 480) : mm_arr S 1 9 (nI j) k = k j := by
  rw [mm_arr_in (n := 480) rfl (mp_ix rfl h (by decide)), nI_clamp (by omega)]
theorem ar_10 {S : Mem} {j : Nat} {k : Nat → Option Res} (h : j < 480) : mm_arr S 1 10 (nI j) k = k j := by
  rw [mm_arr_in (n := 480) rfl (mp_ix rfl h (by decide)), nI_clamp (by omega)]
theorem ar_12 {S : Mem} {j : Nat} {k : Nat → Option Res} (h : j < 40) : mm_arr S 1 12 (nI j) k = k j := by
  rw [mm_arr_in (n := 40) rfl (mp_ix rfl h (by decide)), nI_clamp (by omega)]
theorem ar_13 {S : Mem} {j : Nat} {k : Nat → Option Res} (h : j < 40) : mm_arr S 1 13 (nI j) k = k j := by
  rw [mm_arr_in (n := 40) rfl (mp_ix rfl h (by decide)), nI_clamp (by omega)]
theorem ar_14 {S : Mem} {j : Nat} {k : Nat → Option Res} (h : j < 83) : mm_arr S 1 14 (nI j) k = k j := by
  rw [mm_arr_in (n := 83) rfl (mp_ix rfl h (by decide)), nI_clamp (by omega)]
theorem ar_16 {S : Mem} {j : Nat} {k : Nat → Option Res} (h : j < 60) : mm_arr S 1 16 (nI j) k = k j := by
  rw [mm_arr_in (n := 60) rfl (mp_ix rfl h (by decide)), nI_clamp (by omega)]
theorem ar_17 {S : Mem} {j : Nat} {k : Nat → Option Res} (h : j < 60) : mm_arr S 1 17 (nI j) k = k j := by
  rw [mm_arr_in (n := 60) rfl (mp_ix rfl h (by decide)), nI_clamp (by omega)]
theorem ar_18 {S : Mem} {j : Nat} {k : Nat → Option Res} (h : j < 123) : mm_arr S 1 18 (nI j) k = k j := by
  rw [mm_arr_in (n := 123) rfl (mp_ix rfl h (by decide)), nI_clamp (by omega)]
theorem ar_20 {S : Mem} {j : Nat} {k : Nat → Option Res} (h : j < 2700) : mm_arr S 1 20 (nI j) k = k j := by
  rw [mm_arr_in (n := 2700) rfl (mp_ix rfl h (by decide)), nI_clamp (by omega)]
theorem ar_24 {S : Mem} {j : Nat} {k : Nat → Option Res} (h : j < 340) : mm_arr S 1 24 (nI j) k = k j := by
  rw [mm_arr_in (n := 340) rfl (mp_ix rfl h (by decide)), nI_clamp (by omega)]
theorem ar_26 {S : Mem} {j : Nat} {k : Nat → Option Res} (h : j < 40) : mm_arr S 1 26 (nI j) k = k j := by
  rw [mm_arr_in (n := 40) rfl (mp_ix rfl h (by decide)), nI_clamp (by omega)]
theorem ar_28 {S : Mem} {j : Nat} {k : Nat → Option Res} (h : j < 40) : mm_arr S 1 28 (nI j) k = k j := by
  rw [mm_arr_in (n := 40) rfl (mp_ix rfl h (by decide)), nI_clamp (by omega)]
theorem ar_29 {S : Mem} {j : Nat} {k : Nat → Option Res} (h : j < 120) : mm_arr S 1 29 (nI j) k = k j := by
  rw [mm_arr_in (n := 120) rfl (mp_ix rfl h (by decide)), nI_clamp (by omega)]
theorem ar_30 {S : Mem} {j : Nat} {k : Nat → Option Res} (h : j < 8) : mm_arr S 2 30 (nI j) k = k j := by
  rw [mm_arr_in (n := 8) rfl (mp_ix rfl h (by decide)), nI_clamp (by omega)]
theorem ar_31 {S : Mem} {j : Nat} {k : Nat → Option Res} (h : j < 3) : mm_arr S 1 31 (nI j) k = k j := by
  rw [mm_arr_in (n := 3) rfl (mp_ix rfl h (by decide)), nI_clamp (by omega)]
theorem ar_32 {S : Mem} {j : Nat} {k : Nat → Option Res} (h : j < 480) : mm_arr S 1 32 (nI j) k = k j := by
  rw [mm_arr_in (n := 480) rfl (mp_ix rfl h (by decide)), nI_clamp (by omega)]
theorem ar_33 {S : Mem} {j : Nat} {k : Nat → Option Res} (h : j < 12) : mm_arr S 1 33 (nI j) k = k j := by
  rw [mm_arr_in (n := 12) rfl (mp_ix rfl h (by decide)), nI_clamp (by omega)]
theorem ar_34 {S : Mem} {j : Nat} {k : Nat → Option Res} (h : j < 40) : mm_arr S 1 34 (nI j) k = k j := by
  rw [mm_arr_in (n := 40) rfl (mp_ix rfl h (by decide)), nI_clamp (by omega)]
theorem ar_35 {S : Mem} {j : Nat} {k : Nat → Option Res} (h : j < 60) : mm_arr S 1 35 (nI j) k = k j := by
  rw [mm_arr_in (n := 60) rfl (mp_ix rfl h (by decide)), nI_clamp (by omega)]
theorem ar_36 {S : Mem} {j : Nat} {k : Nat → Option Res} (h : j < 300) : mm_arr S 1 36 (nI j) k = k j := by
  rw [mm_arr_in (n := 300) rfl (mp_ix rfl h (by decide)), nI_clamp (by omega)]
theorem ar_37 {S : Mem} {j : Nat} {k : Nat → Option Res} (h : j < 28800) : mm_arr S 2 37 (nI j) k = k j := by
  rw [mm_arr_in (n := 28800) rfl (mp_ix rfl h (by decide)), nI_clamp (by omega)]
theorem ar_38 {S : Mem} {j : Nat} {k : Nat → Option Res} (h : j < 44) : mm_arr S 1 38 (nI j) k = k j := by
  rw [mm_arr_in (n := 44) rfl (mp_ix rfl h (by decide)), nI_clamp (by omega)]
theorem ar_39 {S : Mem} {j : Nat} {k : Nat → Option Res} (h : j < 62) : mm_arr S 1 39 (nI j) k = k j := by
  rw [mm_arr_in (n := 62) rfl (mp_ix rfl h (by decide)), nI_clamp (by omega)]
theorem ar_40 {S : Mem} {j : Nat} {k : Nat → Option Res} (h : j < 2728) : mm_arr S 1 40 (nI j) k = k j := by
  rw [mm_arr_in (n := 2728) rfl (mp_ix rfl h (by decide)), nI_clamp (by omega)]
theorem ar_41 {S : Mem} {j : Nat} {k : Nat → Option Res} (h : j < 44) : mm_arr S 1 41 (nI j) k = k j := by
  rw [mm_arr_in (n := 44) rfl (mp_ix rfl h (by decide)), nI_clamp (by omega)]
theorem ar_42 {S : Mem} {j : Nat} {k : Nat → Option Res} (h : j < 301) : mm_arr S 1 42 (nI j) k = k j := by
  rw [mm_arr_in (n := 301) rfl (mp_ix rfl h (by decide)), nI_clamp (by omega)]
theorem ar_43 {S : Mem} {j : Nat} {k : Nat → Option Res} (h : j < 301) : mm_arr S 1 43 (nI j) k = k j := by
  rw [mm_arr_in (n := 301) rfl (mp_ix rfl h (by decide)), nI_clamp (by omega)]
theorem ar_44 {S : Mem} {j : Nat} {k : Nat → Option Res} (h : j < 301) : mm_arr S 1 44 (nI j) k = k j := by
  rw [mm_arr_in (n := 301) rfl (mp_ix rfl h (by decide)), nI_clamp (by omega)]
theorem ar_45 {S : Mem} {j : Nat} {k : Nat → Option Res} (h : j < 301) : mm_arr S 1 45 (nI j) k = k j := by
  rw [mm_arr_in (n := 301) rfl (mp_ix rfl h (by decide)), nI_clamp (by omega)]
theorem ar_46 {S : Mem} {j : Nat} {k : Nat → Option Res} (h : j < 301) : mm_arr S 1 46 (nI j) k = k j := by
  rw [mm_arr_in (n := 301) rfl (mp_ix rfl h (by decide)), nI_clamp (by omega)]
theorem ar_47 {S : Mem} {j : Nat} {k : Nat → Option Res} (h : j < 301) : mm_arr S 1 47 (nI j) k = k j := by
  rw [mm_arr_in (n := 301) rfl (mp_ix rfl h (by decide)), nI_clamp (by omega)]
theorem ar_48 {S : Mem} {j : Nat} {k : Nat → Option Res} (h : j < 301) : mm_arr S 1 48 (nI j) k = k j := by
  rw [mm_arr_in (n := 301) rfl (mp_ix rfl h (by decide)), nI_clamp (by omega)]
theorem ar_49 {S : Mem} {j : Nat} {k : Nat → Option Res} (h : j < 301) : mm_arr S 1 49 (nI j) k = k j := by
  rw [mm_arr_in (n := 301) rfl (mp_ix rfl h (by decide)), nI_clamp (by omega)]
theorem ar_50 {S : Mem} {j : Nat} {k : Nat → Option Res} (h : j < 2500) : mm_arr S 1 50 (nI j) k = k j := by
  rw [mm_arr_in (n := 2500) rfl (mp_ix rfl h (by decide)), nI_clamp (by omega)]
theorem ar_51 {S : Mem} {j : Nat} {k : Nat → Option Res} (h : j < 2500) : mm_arr S 1 51 (nI j) k = k j := by
  rw [mm_arr_in (n := 2500) rfl (mp_ix rfl h (by decide)), nI_clamp (by omega)]
theorem ar_52 {S : Mem} {j : Nat} {k : Nat → Option Res} (h : j < 301) : mm_arr S 1 52 (nI j) k = k j := by
  rw [mm_arr_in (n := 301) rfl (mp_ix rfl h (by decide)), nI_clamp (by omega)]
theorem ar_53 {S : Mem} {j : Nat} {k : Nat → Option Res} (h : j < 400) : mm_arr S 1 53 (nI j) k = k j := by
  rw [mm_arr_in (n := 400) rfl (mp_ix rfl h (by decide)), nI_clamp (by omega)]
theorem li_0 : (0 : Int32) = nI 0 := rfl
theorem li_1 : (1 : Int32) = nI 1 := rfl
theorem li_2 : (2 : Int32) = nI 2 := rfl
theorem li_3 : (3 : Int32) = nI 3 := rfl
theorem li_4 : (4 : Int32) = nI 4 := rfl
theorem li_5 : (5 : Int32) = nI 5 := rfl
theorem li_6 : (6 : Int32) = nI 6 := rfl
theorem li_7 : (7 : Int32) = nI 7 := rfl
theorem li_8 : (8 : Int32) = nI 8 := rfl
theorem li_9 : (9 : Int32) = nI 9 := rfl
theorem li_12 : (12 : Int32) = nI 12 := rfl
theorem li_40 : (40 : Int32) = nI 40 := rfl
theorem li_41 : (41 : Int32) = nI 41 := rfl
theorem li_42 : (42 : Int32) = nI 42 := rfl
theorem li_43 : (43 : Int32) = nI 43 := rfl
theorem li_44 : (44 : Int32) = nI 44 := rfl
theorem li_60 : (60 : Int32) = nI 60 := rfl
theorem li_100 : (100 : Int32) = nI 100 := rfl
theorem li_101 : (101 : Int32) = nI 101 := rfl
theorem li_300 : (300 : Int32) = nI 300 := rfl
theorem li_512 : (512 : Int32) = nI 512 := rfl
