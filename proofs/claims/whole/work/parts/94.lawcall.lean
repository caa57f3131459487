/-! THE LAW'S CALLS of the machine's methods -/
theorem ml_D {A : Nat → Prop} {cy : ClassId × ClassId × ClassId} {ad : Nat → Nat} {ov ov' : Int64} {S S' : Mem} (h : va_D A (mm_W cy ad ov S)) : va_D A (mm_W cy ad ov' S') := by
  have key : ∀ (k : Nat) (q : Nat × va_E), (mm_W cy ad ov' S')[k]? = some q → ∃ q' : Nat × va_E, (mm_W cy ad ov S)[k]? = some q' ∧ q'.1 = q.1 := by
    intro k q hk
    have hlt : k < 55 := by
      have := (List.getElem?_eq_some_iff.mp hk).1
      simpa [mm_W] using this
    rw [mm_W_at hlt] at hk
    cases hk
    exact ⟨_, mm_W_at hlt, rfl⟩
  refine ⟨fun i j p q hi hj he => ?_, fun k q hk => ?_⟩
  · obtain ⟨p', hp', e1⟩ := key i p hi
    obtain ⟨q', hq', e2⟩ := key j q hj
    exact h.1 i j p' q' hp' hq' (by rw [e1, e2]; exact he)
  · obtain ⟨q', hq', e2⟩ := key k q hk
    rw [← e2]; exact h.2 k q' hq'
theorem ml_kind0 : (List.range 54).all (fun k => match mm_KD[k]? with | some (a, _) => decide (a < 3) | none => false) = true := by decide +kernel
theorem ml_kind {k : Nat} (h : k < 54) : ∃ a b, mm_KD[k]? = some (a, b) ∧ a < 3 := by
  have h1 := List.all_eq_true.mp ml_kind0 k (List.mem_range.mpr h)
  split at h1
  · rename_i a b hk; exact ⟨a, b, hk, of_decide_eq_true h1⟩
  · cases h1
theorem ml_ent {cy : ClassId × ClassId × ClassId} {ad : Nat → Nat} {ov ov' : Int64} {S : Mem} {k : Nat} (h : k < 54) : mm_ent cy ad ov S k = mm_ent cy ad ov' S k := by
  obtain ⟨a, b, hk, ha⟩ := ml_kind h
  unfold mm_ent
  rw [hk]
  match a, ha with
  | 0, _ => rfl
  | 1, _ => rfl
  | 2, _ => rfl
theorem ml_e54 {cy : ClassId × ClassId × ClassId} {ad : Nat → Nat} {ov : Int64} {S : Mem} : (mm_W cy ad ov S)[54]? = some (ad 54, .inl (cy.2.2, 1, .inr (.inl (fun _ => ov)))) := by
  rw [mm_W_at (by decide)]
  rfl
theorem ml_arr1 {cI : ClassId} {f g : Nat → Value} (h : f 0 = g 0) : arrV cI 1 f = arrV cI 1 g := by
  unfold arrV
  congr 1
  apply Array.ext
  · simp
  · intro i h1 h2
    have : i = 0 := by simp at h1; omega
    subst this
    simpa using h
theorem ml_P54 {D : va_G} {cy : ClassId × ClassId × ClassId} {ad : Nat → Nat} {ov x : Int64} {S : Mem} {i : Nat} {H : Heap} (hi : i = 0) (h : va_P D vwCl ((mm_W cy ad ov S).set 54 (ad 54, .inl (cy.2.2, 1, .inr (.inl (vp_updL (fun _ => ov) i x))))) H) : va_P D vwCl (mm_W cy ad x S) H := by
  subst hi
  intro k q hk
  have hlt : k < 55 := by
    have := (List.getElem?_eq_some_iff.mp hk).1
    simpa [mm_W] using this
  by_cases hk5 : k = 54
  · subst hk5
    rw [ml_e54] at hk
    cases hk
    have h1 : H[ad 54]? = some (arrV cy.2.2 1 (fun j => .long (vp_updL (fun _ => ov) 0 x j))) := h 54 (ad 54, .inl (cy.2.2, 1, .inr (.inl (vp_updL (fun _ => ov) 0 x)))) (by rw [List.getElem?_set_self (by simp [mm_W])])
    show H[ad 54]? = some (arrV cy.2.2 1 (fun j => .long x))
    rw [h1, ml_arr1 (g := fun _ => .long x) (by simp [vp_updL])]
  · rw [mm_W_at hlt, ml_ent (ov' := ov) (by omega)] at hk
    refine h k q ?_
    rw [List.getElem?_set_ne (by omega), mm_W_at hlt, hk]
def ml_psh (rt : Nat) (a : Int32) (rest : List Value) : List Value := match rt with
  | 0 => rest
  | _ + 1 => .int a :: rest
section MLC
variable {p : Program} {l : Launch} {e : Env} {R : Room} {s : State} {m : MethodId} {args : Array Value} {below : List Frame} {meth : Method} {c : Code} {Q : State → Prop}
set_option maxHeartbeats 4000000 in
set_option maxRecDepth 100000 in
/-- a call of a method of the machine, from any frame -/
theorem ml_call {D : va_G} {cy : ClassId × ClassId × ClassId} {A : Nat → Prop} {ad : Nat → Nat} {ov : Int64} {S : Mem} {r : Res} {own : String} {cc : ByteArray} {nL d y ix pc b9 kc ks : Nat} {mi : MI} {as' : List MV} {rest : List Value} {H : Heap} {locs : List Loc} {ls : Array Slot}
    (hx : p.tables.exec = Jvm.exec) (hb : c.code = cc) (hml : c.maxLocals = nL) (hown : s.vm.findClass own = some m.cls) (hts : ∀ w ∈ mm_ut, w.before args s = true) (hK : va_K D vwCl (mm_ty cy) s) (hEX : mm_EX A s) (hA : ∀ z : Nat, s.heap.size ≤ z → A z)
    (hM : mm_Con l D cy d mi (.inr b9 :: as') S r) (hmi : mm_MT[y]? = some mi) (hlk : Cond.methodLink own ix mi.nm ∈ mm_ut) (hc1 : mm_KD[b9]? = some (0, mi.ci)) (hn : as'.length = mi.na)
    (hP : va_P D vwCl (mm_W cy ad ov S) H) (hD : va_D A (mm_W cy ad ov S)) (hS : va_S A s.heap H locs) (hsz : ls.size = nL) (hrest : (rest.map fun v => v.category).sum ≤ 8) (hdg : decode cc pc = .ok (.invokevirtual ix, 3)) (hroom : kc + r.2.1 ≤ R.cells ∧ ks + r.2.2.1 ≤ R.slots) (hR : d + 9 ≤ R.frames ∧ 40 * d + 240 ≤ R.locals)
    (kk : r.2.2.2.1 = 0 → ∀ (ad' : Nat → Nat) (H1 : Heap) (locs1 : List Loc), (∀ z, z ≠ mm_RM → ad' z = ad z) → va_P D vwCl (mm_W cy ad' ov r.1) H1 → va_D A (mm_W cy ad' ov r.1) → va_S A s.heap H1 locs1 → W p l e R s m args below meth c H1 locs1 (kc + r.2.1) (ks + r.2.2.1) Q (F0 m (pc + 3) ls (ml_psh mi.rt r.2.2.2.2 rest)))
    (kx : r.2.2.2.1 ≠ 0 → ∀ (ad' : Nat → Nat) (H1 : Heap) (locs1 : List Loc) (q9 : Addr) (ce : Cell), (∀ z, z ≠ mm_RM → ad' z = ad z) → va_P D vwCl (mm_W cy ad' ov r.1) H1 → va_D A (mm_W cy ad' ov r.1) → va_S A s.heap H1 locs1 → H1[q9]? = some ce → ce.vm = .none → s.vm.findClass (mm_exn r.2.2.2.1) = some ce.cls → vx_W p l e R s m args below meth c H1 locs1 (kc + r.2.1) (ks + r.2.2.1) Q (F0 m pc ls rest) q9) :
    W p l e R s m args below meth c H locs kc ks Q (F0 m pc ls ((as'.map (mm_rv ad)).reverse ++ .ref (ad b9) :: rest)) := by
  obtain ⟨w, hw⟩ : ∃ w, vwCl[mi.ci]? = some w := by
    obtain ⟨b, h8⟩ := mm_zip_at mm_MT_ok rfl (List.mem_of_getElem? hmi)
    unfold mm_okW at h8
    split at h8
    · rename_i w hw; exact ⟨w, hw⟩
    · cases h8
  obtain ⟨hgood, hcls, hpl, hmL, hnaL⟩ := mm_MT_spec hmi hw
  have hKm : ∀ {U : State}, s.WarmedH U.vm → va_K D vwCl (mm_ty cy) U := fun hW => va_K.moved hW.alike hK
  have hFc : ∀ z, va_A (mm_W cy ad ov S) H.size z → A z := by
    intro z hz
    rcases hz with ⟨k, e0, hk⟩ | hz
    · exact hD.2 k _ hk
    · exact hA z (Nat.le_trans hS.1 hz)
  have hrun : vx_Run p l e R s m args below meth c H locs kc ks r.2.1 r.2.2.1 (F0 m pc ls ((as'.map (mm_rv ad)).reverse ++ .ref (ad b9) :: rest)) rest (mm_Qc D cy (va_A (mm_W cy ad ov S) H.size) ad ov mi.rt r (Value.ref (ad b9) :: as'.map (mm_rv ad)).toArray) (mm_XC D cy (va_A (mm_W cy ad ov S) H.size) ad ov r) (va_A (mm_W cy ad ov S) H.size) := by
    refine vx_runV (As := as'.map (mm_rv ad)) (C := w.1) (b := ad b9) (n := mi.na) ⟨hx, hb, hml, hown, hts⟩ (hM ad ov H.size) (cwV mi.na hts (hgood own ix hlk) rfl rfl rfl hcls ⟨?_, ?_⟩) ⟨?_, ?_, ?_⟩ rfl (by rw [List.length_map]; exact hn) hsz rfl (lv_room hrest) hdg hroom
    · show d + 8 + 1 ≤ _; omega
    · show 8 + (mi.mL + 11) + (40 * d + 200) ≤ _; omega
    · intro a U g mk qq
      obtain ⟨q0, q1, qP, qK, qD, qE⟩ := qq
      refine ⟨q0, q1, qP, va_K.moved (u := U) (U := U.calling g mk a) (Vm.Alike.refl U.vm) qK, qD, ?_⟩
      exact mm_EX_call qE
    · exact va_recv hK hP (ci := mi.ci) (q0 := b9) hw (by rw [mm_W_at (mm_KD_lt hc1), mm_ent_obj hc1])
    · intro U hU hW
      exact ⟨rfl, by rw [hU], by rw [hU]; exact hP, hKm hW, hD.weaken (fun _ _ _ _ => trivial), mm_EX_at hEX hS hFc hU hW⟩
  have out : ∀ (E : String) (ce : Cell) (q9 : Addr) (u : Mem) (t : State) (H1 : Heap) (locs1 : List Loc), t.heap = H1 → s.vm.Alike t.vm → (u = r.1 ∧ r.2.2.2.1 ≠ 0) → (E = mm_exn r.2.2.2.1 ∧ mm_B D cy (va_A (mm_W cy ad ov S) H.size) ad ov u t) → H.size ≤ H1.size → (∀ z : Nat, z < H.size → ¬ va_A (mm_W cy ad ov S) H.size z → H1[z]? = H[z]?) → va_S A s.heap H1 locs1 → H1[q9]? = some ce → ce.vm = .none → s.vm.findClass E = some ce.cls →
      vx_W p l e R s m args below meth c H1 locs1 (kc + r.2.1) (ks + r.2.2.1) Q (F0 m pc ls rest) q9 := by
    intro E ce q9 u t H1 locs1 ht hal hpx hB hz1 hz2 hS1 hce hcv hcE
    obtain ⟨rfl, hne⟩ := hpx
    obtain ⟨rfl, ad', had', hP1, -, hD1⟩ := hB
    rw [ht] at hP1
    exact kx hne ad' H1 locs1 q9 ce had' hP1 (hD1.weaken (fun _ z _ hz => hFc _ hz)) hS1 hce hcv hcE
  by_cases hrt : mi.rt = 0
  · unfold mm_Qc at hrun
    rw [if_pos hrt] at hrun
    refine vx_callv hrun hS (fun z _ hz => hFc z hz) hFc (fun z _ hz => hFc z hz) out ?_
    intro u t H1 locs1 ht hal hpost hB _ _ hS1
    obtain ⟨rfl, h0⟩ := hpost
    obtain ⟨ad', had', hP1, -, hD1⟩ := hB
    rw [ht] at hP1
    have h9 := kk h0 ad' H1 locs1 had' hP1 (hD1.weaken (fun _ z _ hz => hFc _ hz)) hS1
    rw [hrt] at h9
    exact h9
  · unfold mm_Qc at hrun
    rw [if_neg hrt] at hrun
    refine vx_calli hrun hS (fun z _ hz => hFc z hz) hFc (fun z _ hz => hFc z hz) out ?_
    intro a u t H1 locs1 ht hal hpost hB _ _ hS1
    obtain ⟨rfl, rfl, h0⟩ := hpost
    obtain ⟨ad', had', hP1, -, hD1⟩ := hB
    rw [ht] at hP1
    have h9 := kk h0 ad' H1 locs1 had' hP1 (hD1.weaken (fun _ z _ hz => hFc _ hz)) hS1
    obtain ⟨z9, hz9⟩ : ∃ z, mi.rt = z + 1 := ⟨mi.rt - 1, by omega⟩
    rw [hz9] at h9
    exact h9
end MLC
theorem ml_con {l : Launch} {D : va_G} {cy : ClassId × ClassId × ClassId} (hst : l.stackTraces = false) {d y : Nat} {as : List MV} {S : Mem} {r : Res} {q : MI} (h : mm_runD d y as S = some r) (hq : mm_MT[y]? = some q) : mm_Con l D cy d q as S r := mm_sound hst (fun _ _ h _ => mm_okAll h) mm_res_con d y as S r q h hq
/-- which exceptions are not of which kinds -/
def ml_nc : List (String × String) := [(mm_exn 1, mm_exn 3), (mm_exn 2, mm_exn 1), (mm_exn 4, mm_exn 1), (mm_exn 5, mm_exn 1), (mm_exn 5, mm_exn 2)]
def ml_o (kd : Nat) (ov : Int64) (a : Int32) : Int64 := if kd = 1 then a.toInt64 else if kd = 2 then (if a = 0 then 0 else 1) else ov
def ml_post (ex : List Nat) (kd : Nat) (ov : Int64) (r : Res) (k : Int32) (u : Mem × Int64) : Prop := u.1 = r.1 ∧ ((r.2.2.2.1 = 0 ∧ k = 0 ∧ u.2 = ml_o kd ov r.2.2.2.2) ∨ ∃ i, ex[i]? = some r.2.2.2.1 ∧ k = nI (i + 1) ∧ u.2 = ov)
def ml_pre (D : va_G) (cy : ClassId × ClassId × ClassId) (ad : Nat → Nat) (ov : Int64) (sz : Nat) (S : Mem) (av : List Value) : Array Value → State → Prop :=
  va_Pc av (fun U => U.heap.size = sz ∧ va_P D vwCl (mm_W cy ad ov S) U.heap ∧ va_K D vwCl (mm_ty cy) U ∧ va_D (fun _ => True) (mm_W cy ad ov S) ∧ mm_EX (va_A (mm_W cy ad ov S) sz) U ∧ ∀ q ∈ ml_nc, va_Nc q.1 q.2 U)
def ml_B (D : va_G) (cy : ClassId × ClassId × ClassId) (A : Nat → Prop) (ad : Nat → Nat) (u : Mem × Int64) (t : State) : Prop := ∃ ad' : Nat → Nat, (∀ z, z ≠ mm_RM → ad' z = ad z) ∧ va_P D vwCl (mm_W cy ad' u.2 u.1) t.heap ∧ va_K D vwCl (mm_ty cy) t ∧ va_D A (mm_W cy ad' u.2 u.1)
/-- the contract of a helper of the law -/
abbrev ml_H (l : Launch) (y : MethodName) (cc : ByteArray) (mL : Nat) (hh : List (Nat × Nat × Nat × Nat)) (D : va_G) (cy : ClassId × ClassId × ClassId) (ad : Nat → Nat) (ov : Int64) (sz : Nat) (S : Mem) (av : List Value) (ex : List Nat) (kd : Nat) (r : Res) : Prop :=
  vx_Met l y (.codeWith y cc mL (some .int) hh :: mm_ut) ({ frames := 70, cells := r.2.1, slots := r.2.2.1, locals := 2800 } : Room) (ml_pre D cy ad ov sz S av) (va_Qi (ml_post ex kd ov r) (ml_B D cy (va_A (mm_W cy ad ov S) sz) ad) (va_A (mm_W cy ad ov S) sz)) (vx_X (fun _ : Unit => False) (fun _ _ _ => True) (fun _ => False)) r.2.1 r.2.2.1 (va_A (mm_W cy ad ov S) sz)
def ml_cw : List Cond := [.classLink RL 13 (mm_exn 1), .classLink RL 19 (mm_exn 3), .classLink RL 33 (mm_exn 2), .classLink RL 41 (mm_exn 4), .classLink RL 47 (mm_exn 5)]
theorem ml_cw_ok : ∀ w ∈ ml_cw, w ∈ lw_tbl ∧ goodWord w = true := by decide +kernel
def ml_ca : List Cond := [.castable (mm_exn 1) (mm_exn 1), .castable (mm_exn 2) (mm_exn 2), .castable (mm_exn 3) (mm_exn 3), .castable (mm_exn 4) (mm_exn 4), .castable (mm_exn 5) (mm_exn 5)]
theorem ml_ca_ok : ∀ w ∈ ml_ca, w ∈ mm_bw := by
  intro w hw
  have h : ∀ w ∈ ml_ca, w ∈ lw_tbl ∧ mm_cd w = true := by decide +kernel
  exact List.mem_filter.mpr (h w hw)
