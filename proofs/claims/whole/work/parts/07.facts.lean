/-! THE SOUNDNESS of the small machine -/
def mm_exn (kd : Nat) : String := match kd with
  | 1 => "java/lang/IllegalStateException"
  | 2 => "java/lang/IllegalArgumentException"
  | 3 => "java/lang/IndexOutOfBoundsException"
  | 4 => "java/lang/UnsupportedOperationException"
  | _ => "java/util/NoSuchElementException"
def mm_rm (d kc ks : Nat) : Room := { frames := d + 8, cells := kc, slots := ks, locals := 40 * d + 200 }
def mm_ws (q : MI) : List Cond := .code q.nm q.cc q.mL (mm_rty q.rt) :: mm_ut
/-- what exceptions need of the start: two statics of Throwable, the texts, the words that aren't of every later table -/
def mm_cd (w : Cond) : Bool := match w with
  | .castable .. => true
  | .declares _ => true
  | _ => false
def mm_bw : List Cond := lw_tbl.filter mm_cd
def mm_EX (A : Nat → Prop) (U : State) : Prop := vx_Zq Bundle.tN "UNASSIGNED_STACK" Bundle.steD A U U.heap ∧ vx_Zq Bundle.tN "SUPPRESSED_SENTINEL" Bundle.listD A U U.heap ∧ (∀ w ∈ mm_bw, w.before #[] U = true) ∧ ∀ t ∈ mm_STR, ∃ sa, vk_R RX7 t.1 t.2 sa U
theorem mm_cd_at {w : Cond} (hw : mm_cd w = true) {a a' : Array Value} {s U : State} (hW : s.WarmedH U.vm) (h : w.before a s = true) : w.before a' U = true := by
  have hot : w.onTables = true := by cases w <;> first | rfl | cases hw
  have hok : w.warmOk s := by cases w <;> first | trivial | cases hw
  have h1 := Cond.before_warmed (args := a) hW w hok h
  have e := Cond.onTables_vm (A := a) (A' := a') (U := s) (U' := U) U.vm w hot
  rw [h1] at e
  exact e.symm
def mm_B (D : va_G) (cy : ClassId × ClassId × ClassId) (A : Nat → Prop) (ad0 : Nat → Nat) (ov : Int64) (u : Mem) (t : State) : Prop :=
  ∃ ad : Nat → Nat, (∀ c, c ≠ mm_RM → ad c = ad0 c) ∧ va_P D vwCl (mm_W cy ad ov u) t.heap ∧ va_K D vwCl (mm_ty cy) t ∧ va_D A (mm_W cy ad ov u)
def mm_Qc (D : va_G) (cy : ClassId × ClassId × ClassId) (A : Nat → Prop) (ad0 : Nat → Nat) (ov : Int64) (rt : Nat) (r : Res) : Array Value → State → Outcome → State → Prop :=
  if rt = 0 then va_Qv (fun u : Mem => u = r.1 ∧ r.2.2.2.1 = 0) (mm_B D cy A ad0 ov) A else va_Qi (fun (a : Int32) (u : Mem) => a = r.2.2.2.2 ∧ u = r.1 ∧ r.2.2.2.1 = 0) (mm_B D cy A ad0 ov) A
def mm_XC (D : va_G) (cy : ClassId × ClassId × ClassId) (A : Nat → Prop) (ad0 : Nat → Nat) (ov : Int64) (r : Res) : String → State → State → Prop :=
  vx_X (fun u : Mem => u = r.1 ∧ r.2.2.2.1 ≠ 0) (fun E u t => E = mm_exn r.2.2.2.1 ∧ mm_B D cy A ad0 ov u t) A
def mm_Pc (D : va_G) (cy : ClassId × ClassId × ClassId) (ad : Nat → Nat) (ov : Int64) (sz : Nat) (S : Mem) (av : List Value) : Array Value → State → Prop :=
  va_Pc av (fun U => U.heap.size = sz ∧ va_P D vwCl (mm_W cy ad ov S) U.heap ∧ va_K D vwCl (mm_ty cy) U ∧ va_D (fun _ => True) (mm_W cy ad ov S) ∧ mm_EX (va_A (mm_W cy ad ov S) sz) U)
/-- the contract of a call -/
def mm_Con (l : Launch) (D : va_G) (cy : ClassId × ClassId × ClassId) (d : Nat) (q : MI) (as : List MV) (S : Mem) (r : Res) : Prop := ∀ (ad : Nat → Nat) (ov : Int64) (sz : Nat),
  vx_Met l q.nm (mm_ws q) (mm_rm d r.2.1 r.2.2.1) (mm_Pc D cy ad ov sz S (as.map (mm_rv ad))) (mm_Qc D cy (va_A (mm_W cy ad ov S) sz) ad ov q.rt r) (mm_XC D cy (va_A (mm_W cy ad ov S) sz) ad ov r) r.2.1 r.2.2.1 (va_A (mm_W cy ad ov S) sz)
/-- the classes' fields, by the printed rows -/
theorem mm_CL_ok : ∀ (ci : Nat) (q : vw_C), vwCl[ci]? = some q → (∀ w ∈ u_ws q.1 q.2.1 q.2.2, w ∈ mm_ut) ∧ mm_NF[ci]? = some q.2.2 ∧ (∃ ty0 : Nat → FieldType, ∀ k, k < q.2.2 → parseFieldDescriptor (q.2.1 k).2.2.1 = some (ty0 k)) ∧ (∀ a, a < q.2.2 → ∀ b, b < q.2.2 → a ≠ b → (q.2.1 a).2.1 ≠ (q.2.1 b).2.1) := by
  intro ci q h
  match ci, h with
  | 0, h => cases h; exact ⟨by decide +kernel, rfl, ⟨tyX0, tyX0_ok⟩, nmX0⟩
  | 1, h => cases h; exact ⟨by decide +kernel, rfl, ⟨tyX1, tyX1_ok⟩, nmX1⟩
  | 2, h => cases h; exact ⟨by decide +kernel, rfl, ⟨tyX2, tyX2_ok⟩, nmX2⟩
  | 3, h => cases h; exact ⟨by decide +kernel, rfl, ⟨tyX3, tyX3_ok⟩, nmX3⟩
  | 4, h => cases h; exact ⟨by decide +kernel, rfl, ⟨tyX4, tyX4_ok⟩, nmX4⟩
  | 5, h => cases h; exact ⟨by decide +kernel, rfl, ⟨tyX5, tyX5_ok⟩, nmX5⟩
  | 6, h => cases h; exact ⟨by decide +kernel, rfl, ⟨tyX6, tyX6_ok⟩, nmX6⟩
  | 7, h => cases h; exact ⟨by decide +kernel, rfl, ⟨tyX7, tyX7_ok⟩, nmX7⟩
  | 8, h => cases h; exact ⟨by decide +kernel, rfl, ⟨tyX8, tyX8_ok⟩, nmX8⟩
  | n + 9, h => simp [vwCl] at h
/-- the word that stands at a place -/
def mm_wi (i : Nat) (w : Cond) : Bool := decide (lw_tbl[i]? = some w) && goodWord w
theorem mm_wi_spec {i : Nat} {w : Cond} (h : mm_wi i w = true) : w ∈ mm_ut := by
  unfold mm_wi at h
  simp only [Bool.and_eq_true, decide_eq_true_eq] at h
  exact mm_in_ut (List.mem_of_getElem? h.1) h.2
theorem mm_zip_at {α β : Type} {l : List α} {l' : List β} {f : α × β → Bool} (h : (l.zip l').all f = true) (hl : l.length = l'.length) {a : α} (ha : a ∈ l) : ∃ b, f (a, b) = true := by
  obtain ⟨i, hi⟩ := List.getElem?_of_mem ha
  have hlt : i < l'.length := by rw [← hl]; exact (List.getElem?_eq_some_iff.mp hi).1
  have h2 : (l.zip l')[i]? = some (a, l'[i]) := by
    rw [List.getElem?_zip_eq_some]
    exact ⟨hi, List.getElem?_eq_getElem hlt⟩
  exact ⟨l'[i], List.all_eq_true.mp h _ (List.mem_of_getElem? h2)⟩
def mm_okF (t : (Nat × Nat × Nat) × Nat) : Bool := match vwCl[t.1.1]? with
  | some q => decide (t.1.2.2 < q.2.2) && mm_wi t.2 (Cond.fieldLink q.1 t.1.2.1 (q.2.1 t.1.2.2).1 (q.2.1 t.1.2.2).2.1 (q.2.1 t.1.2.2).2.2.1)
  | none => false
theorem mm_FT_ok : (mm_FT.zip mm_FW).all mm_okF = true := by decide +kernel
theorem mm_FT_spec {ci ix x : Nat} {q : vw_C} (h : (ci, ix, x) ∈ mm_FT) (hq : vwCl[ci]? = some q) : x < q.2.2 ∧ Cond.fieldLink q.1 ix (q.2.1 x).1 (q.2.1 x).2.1 (q.2.1 x).2.2.1 ∈ mm_ut := by
  obtain ⟨b, h1⟩ := mm_zip_at mm_FT_ok rfl h
  unfold mm_okF at h1
  rw [hq] at h1
  simp only [Bool.and_eq_true, decide_eq_true_eq] at h1
  exact ⟨h1.1, mm_wi_spec h1.2⟩
theorem mm_cls_spec {c ci : Nat} (h : mm_cls c ci = true) : mm_KD[c]? = some (0, ci) := by
  unfold mm_cls at h
  split at h
  · rename_i q hq
    rw [hq, Nat.eq_of_beq_eq_true h]
  · cases h
theorem mm_nar_bool {a : Int32} (h : a = 0 ∨ a = 1) : narrow .boolean (.int a) = .int a := by
  rcases h with rfl | rfl <;> rfl
theorem mm_fit_bool {a : Int32} (h : a = 0 ∨ a = 1) : fits .boolean (.int a) = true := by
  rcases h with rfl | rfl <;> rfl
def mm_sname (x : Nat) : MethodName := match x with
  | 0 => Lib.Math.min.name
  | 1 => Lib.Math.max.name
  | _ => arraycopyName
def mm_okS (t : (Nat × Nat × Nat) × Nat) : Bool := match vwCl[t.1.1]? with
  | some q => mm_wi t.2 (Cond.methodLink q.1 t.1.2.1 (mm_sname t.1.2.2))
  | none => false
theorem mm_ST_ok : (mm_ST.zip mm_SW).all mm_okS = true := by decide +kernel
theorem mm_ST_spec {ci ix x : Nat} {q : vw_C} (h : (ci, ix, x) ∈ mm_ST) (hq : vwCl[ci]? = some q) : Cond.methodLink q.1 ix (mm_sname x) ∈ mm_ut := by
  obtain ⟨b, h1⟩ := mm_zip_at mm_ST_ok rfl h
  unfold mm_okS at h1
  rw [hq] at h1
  exact mm_wi_spec h1
def mm_jw : List Cond := [Cond.static Lib.Math.min.name, Cond.initialized "java/lang/Math", Cond.code Lib.Math.min.name Lib.Math.min.code 2 (some .int), Cond.static Lib.Math.max.name, Cond.code Lib.Math.max.name Lib.Math.max.code 2 (some .int), Cond.static arraycopyName, Cond.initialized "java/lang/System", Cond.native arraycopyName]
theorem mm_JW_ok : (mm_jw.zip mm_JW).all (fun t => mm_wi t.2 t.1) = true := by decide +kernel
theorem mm_jw_in {w : Cond} (h : w ∈ mm_jw) : w ∈ mm_ut := by
  obtain ⟨b, h1⟩ := mm_zip_at mm_JW_ok rfl h
  exact mm_wi_spec h1
def mm_okC (t : (Nat × Nat × Nat) × Nat) : Bool := match vwCl[t.1.1]?, mm_MT[t.1.2.2]? with
  | some q, some y => mm_wi t.2 (Cond.methodLink q.1 t.1.2.1 y.nm)
  | _, _ => false
theorem mm_CT_ok : (mm_CT.zip mm_CW).all mm_okC = true := by decide +kernel
theorem mm_CT_spec {ci ix y : Nat} {q : vw_C} {mi : MI} (h : (ci, ix, y) ∈ mm_CT) (hq : vwCl[ci]? = some q) (hy : mm_MT[y]? = some mi) : Cond.methodLink q.1 ix mi.nm ∈ mm_ut := by
  obtain ⟨b, h1⟩ := mm_zip_at mm_CT_ok rfl h
  unfold mm_okC at h1
  rw [hq, hy] at h1
  exact mm_wi_spec h1
/-- a method's own words -/
def mm_okW (t : MI × (Nat × Nat × Nat × Nat)) : Bool := match vwCl[t.1.ci]? with
  | some q => mm_wi t.2.1 (Cond.instanceMethod t.1.nm) && mm_wi t.2.2.1 (Cond.selects q.1 t.1.nm t.1.nm) && mm_wi t.2.2.2.1 (Cond.initialized q.1) && decide (t.1.nm.cls = q.1) && plainName t.1.nm.cls && decide (t.1.nm.cls ≠ "java/lang/invoke/MethodHandle") && decide (t.1.nm.cls ≠ "java/lang/invoke/VarHandle") && decide ((parseMethodDescriptor t.1.nm.desc).map (fun d => d.parameters.length) = some t.1.na) && decide (t.1.mL ≤ 21) && decide (t.1.na + 1 ≤ t.1.mL)
  | none => false
theorem mm_decs_spec {cc : ByteArray} {pc : Nat} {i : Instr} (h : mm_decs cc pc i = true) : ∃ n, decode cc pc = .ok (i, n) := by
  unfold mm_decs at h
  split at h
  · rename_i i' n hd
    exact ⟨n, by rw [hd, of_decide_eq_true h]⟩
  · cases h
theorem mm_cats (ad : Nat → Nat) (st : List MV) : ((st.map (mm_rv ad)).map fun v => v.category).sum = st.length := by
  induction st with
  | nil => rfl
  | cons a r ih =>
    simp only [List.map_cons, List.sum_cons, List.length_cons]
    rw [ih, mm_rv_cat]; omega
theorem mm_EX_at {A B : Nat → Prop} {s U : State} {H : Heap} {locs : List Loc} (h : mm_EX A s) (hS : va_S A s.heap H locs) (hAB : ∀ z, B z → A z) (hU : U.heap = H) (hW : s.WarmedH U.vm) : mm_EX B U := by
  obtain ⟨h1, h2, h3, h4⟩ := h
  refine ⟨?_, ?_, fun w hw => mm_cd_at (List.mem_filter.mp hw).2 hW (h3 w hw), fun t ht => ?_⟩
  · rw [hU]; exact vx_Zq.moved hW.alike ((h1.kept hS.2.1).narrow hAB)
  · rw [hU]; exact vx_Zq.moved hW.alike ((h2.kept hS.2.1).narrow hAB)
  · obtain ⟨sa, h5⟩ := h4 t ht
    exact ⟨sa, vk_R.warm hW h5⟩
theorem mm_EX_call {B : Nat → Prop} {U : State} {g : JFrame} {mk : MethodId} {a : Array Value} (h : mm_EX B U) : mm_EX B (U.calling g mk a) := by
  have hW : U.WarmedH (U.calling g mk a).vm := State.WarmedH.refl U
  exact mm_EX_at (H := U.heap) (locs := []) h va_S.rf (fun _ z => z) rfl hW
abbrev mm_en : List String := ["java/lang/RuntimeException", "java/lang/Exception"]
