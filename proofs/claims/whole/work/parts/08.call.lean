section MMS
variable {p : Program} {l : Launch} {e : Env} {R : Room} {s : State} {m : MethodId} {args : Array Value} {below : List Frame} {meth : Method} {c : Code}
/-- what stands fast in a method's body -/
def mm_Cx (p : Program) (l : Launch) (e : Env) (s : State) (m : MethodId) (args : Array Value) (below : List Frame) (meth : Method) (c : Code) (D : va_G) (cy : ClassId × ClassId × ClassId) (A : Nat → Prop) (q : MI) (own : String) : Prop :=
  p.tables.exec = Jvm.exec ∧ c.code = q.cc ∧ c.maxLocals = q.mL ∧ s.vm.findClass own = some m.cls ∧ (∀ w ∈ mm_ut, w.before args s = true) ∧ va_K D vwCl (mm_ty cy) s ∧ (∀ x ∈ c.exceptionTable.toList, False) ∧ meth.locks = false ∧ meth.sig.returnType = mm_rty q.rt ∧ (∀ z : Nat, s.heap.size ≤ z → A z) ∧ mm_EX A s ∧ l.stackTraces = false ∧ (∃ T N, vwCl[q.ci]? = some (own, T, N))
/-- the walk from a row on, for every heap that holds the memory -/
def mm_G (p : Program) (l : Launch) (e : Env) (R : Room) (s : State) (m : MethodId) (args : Array Value) (below : List Frame) (meth : Method) (c : Code) (D : va_G) (cy : ClassId × ClassId × ClassId) (A : Nat → Prop) (ad0 : Nat → Nat) (ov : Int64) (q : MI) (r : Res) (j : Nat) (L : List (Option MV)) (st : List MV) (S : Mem) (kc ks : Nat) : Prop :=
  ∀ (ad : Nat → Nat) (H : Heap) (locs : List Loc) (ls : Array Slot) (pc : Nat), (∀ z, z ≠ mm_RM → ad z = ad0 z) → q.pcs[j]? = some pc → va_P D vwCl (mm_W cy ad ov S) H → va_D A (mm_W cy ad ov S) → va_S A s.heap H locs → mm_lh ad ls q.mL L →
    W p l e R s m args below meth c H locs kc ks (vx_MQ below (mm_Qc D cy A ad0 ov q.rt r) (mm_XC D cy A ad0 ov r) args s r.2.1 r.2.2.1 A) (F0 m pc ls (st.map (mm_rv ad)))
theorem mm_nx_spec {pcs : List Nat} {j pc : Nat} (h : mm_nx pcs j pc = true) : pcs[j]? = some pc := of_decide_eq_true h
theorem mm_dec_spec {cc : ByteArray} {pc n : Nat} {i : Instr} (h : mm_dec cc pc i n = true) : decode cc pc = .ok (i, n) := of_decide_eq_true h
theorem mm_jmp_spec {pcs : List Nat} {x pc : Nat} {off : Int} (h : mm_jmp pcs x pc off = true) : ∃ t : Nat, pcs[x]? = some t ∧ (pc : Int) + off = (t : Int) := by
  unfold mm_jmp at h
  split at h
  · rename_i t ht
    exact ⟨t, ht, of_decide_eq_true h⟩
  · cases h
theorem mm_lk_spec {pcs : List Nat} {pc x : Nat} {d : Int} {k : Int} (hd : mm_jmp pcs x pc d = true) : ∀ (ps : List (Int × Int)) (ts : List Nat), ps.length = ts.length → (ps.zip ts).all (fun q => mm_jmp pcs q.2 pc q.1.2) = true → mm_jmp pcs (mm_lk ps ts x k) pc (Op.lookupswitch.offset ps d k) = true := by
  intro ps
  induction ps with
  | nil => intro ts _ _; cases ts <;> exact hd
  | cons a r ih =>
    intro ts hl h
    cases ts with
    | nil => simp at hl
    | cons t ts =>
      simp only [List.zip_cons_cons, List.all_cons, Bool.and_eq_true] at h
      obtain ⟨a1, a2⟩ := a
      rw [Op.lookupswitch.offset_cons]
      unfold mm_lk
      by_cases hk : a1 = k
      · simp only [hk, if_true]; exact h.1
      · simp only [hk, if_false]; exact ih ts (by simpa using hl) h.2
set_option maxHeartbeats 4000000 in
set_option maxRecDepth 100000 in
/-- a call of a method of the table -/
theorem mm_sound_call {D : va_G} {cy : ClassId × ClassId × ClassId} {A : Nat → Prop} {ad0 : Nat → Nat} {ov : Int64} {q : MI} {own : String} {r : Res} {call : Nat → List MV → Mem → Option Res} {k : Kt} {j : Nat} {L : List (Option MV)} {S : Mem} {kc ks : Nat} {st : List MV} {d : Nat}
    (C0 : mm_Cx p l e s m args below meth c D cy A q own) (hR : R.cells = r.2.1 ∧ R.slots = r.2.2.1 ∧ d + 9 ≤ R.frames ∧ 40 * d + 240 ≤ R.locals)
    (hcall : ∀ y as S r' mi, call y as S = some r' → mm_MT[y]? = some mi → mm_Con l D cy d mi as S r') (hkm : ∀ j L st S kc ks, k j L st S kc ks = some r → kc ≤ r.2.1 ∧ ks ≤ r.2.2.1)
    (hk : ∀ j L st S kc ks, k j L st S kc ks = some r → mm_G p l e R s m args below meth c D cy A ad0 ov q r j L st S kc ks)
    {x ix pc : Nat} {mi : MI} {b9 : Nat} {r9 : List MV} (hd1 : decode q.cc pc = .ok (.invokevirtual ix, 3)) (hd2 : q.pcs[j + 1]? = some (pc + 3)) (hlk : Cond.methodLink own ix mi.nm ∈ mm_ut) (hmi : mm_MT[x]? = some mi) (hdrop : st.drop mi.na = .inr b9 :: r9)
    (hc1 : mm_KD[b9]? = some (0, mi.ci)) (hc2 : mm_noRm r9 = true) (hc4 : r9.length ≤ 8)
    (h : (match call x (.inr b9 :: (st.take mi.na).reverse) S with
          | some (S', c', s', 0, a) => k (j + 1) L (mm_psh mi.rt a r9) S' (kc + c') (ks + s')
          | some (S', c', s', e + 1, _) => some (S', kc + c', ks + s', e + 1, 0)
          | none => none) = some r)
    {ad : Nat → Nat} {H : Heap} {locs : List Loc} {ls : Array Slot} (had : ∀ z, z ≠ mm_RM → ad z = ad0 z) (hP : va_P D vwCl (mm_W cy ad ov S) H) (hD : va_D A (mm_W cy ad ov S)) (hS : va_S A s.heap H locs) (hl : mm_lh ad ls q.mL L) (hFc : ∀ z, va_A (mm_W cy ad ov S) H.size z → A z) :
    W p l e R s m args below meth c H locs kc ks (vx_MQ below (mm_Qc D cy A ad0 ov q.rt r) (mm_XC D cy A ad0 ov r) args s r.2.1 r.2.2.1 A) (F0 m pc ls (st.map (mm_rv ad))) := by
  obtain ⟨hx, hb, hml, hown, hts, hK, hex, hlocks, hret, hA, hEX, hst, hcl⟩ := C0
  obtain ⟨hR1, hR2, hR3, hR4⟩ := hR
  have hst1 : st.map (mm_rv ad) = ((st.take mi.na).reverse.map (mm_rv ad)).reverse ++ .ref (ad b9) :: r9.map (mm_rv ad) := by
    rw [← List.map_reverse, List.reverse_reverse]
    conv => lhs; rw [← List.take_append_drop mi.na st, hdrop]
    rw [List.map_append]; rfl
  have hna : ((st.take mi.na).reverse.map (mm_rv ad)).length = mi.na := by
    have h9 : mi.na < st.length := by
      rcases Nat.lt_or_ge mi.na st.length with z | z
      · exact z
      · rw [List.drop_eq_nil_of_le z] at hdrop; cases hdrop
    simp; omega
  obtain ⟨w, hw⟩ : ∃ w, vwCl[mi.ci]? = some w := by
    have h9 := List.all_eq_true.mp mm_MT_ok
    obtain ⟨b, h8⟩ := mm_zip_at mm_MT_ok rfl (List.mem_of_getElem? hmi)
    unfold mm_okW at h8
    split at h8
    · rename_i w hw; exact ⟨w, hw⟩
    · cases h8
  obtain ⟨hgood, hcls, hpl, hmL, hnaL⟩ := mm_MT_spec hmi hw
  have hKm : ∀ {U : State}, s.WarmedH U.vm → va_K D vwCl (mm_ty cy) U := fun hW => va_K.moved hW.alike hK
  -- the callee's run
  have run : ∀ r' : Res, call x (.inr b9 :: (st.take mi.na).reverse) S = some r' → kc + r'.2.1 ≤ R.cells ∧ ks + r'.2.2.1 ≤ R.slots →
      vx_Run p l e R s m args below meth c H locs kc ks r'.2.1 r'.2.2.1 (F0 m pc ls (st.map (mm_rv ad))) (r9.map (mm_rv ad)) (mm_Qc D cy (va_A (mm_W cy ad ov S) H.size) ad ov mi.rt r' (Value.ref (ad b9) :: (st.take mi.na).reverse.map (mm_rv ad)).toArray) (mm_XC D cy (va_A (mm_W cy ad ov S) H.size) ad ov r') (va_A (mm_W cy ad ov S) H.size) := by
    intro r' hr' hroom
    have hM := hcall _ _ _ _ _ hr' hmi ad ov H.size
    refine vx_runV (As := (st.take mi.na).reverse.map (mm_rv ad)) (C := w.1) (b := ad b9) (n := mi.na) ⟨hx, hb, hml, hown, hts⟩ hM (cwV mi.na hts (hgood own ix hlk) rfl rfl rfl hcls ⟨?_, ?_⟩) ⟨?_, ?_, ?_⟩ rfl hna hl.1 hst1 ?_ hd1 hroom
    · show d + 8 + 1 ≤ _; omega
    · show 8 + (mi.mL + 11) + (40 * d + 200) ≤ _; omega
    · intro a U g mk qq
      obtain ⟨q0, q1, qP, qK, qD, qE⟩ := qq
      refine ⟨q0, q1, qP, va_K.moved (u := U) (U := U.calling g mk a) (Vm.Alike.refl U.vm) qK, qD, ?_⟩
      exact mm_EX_call qE
    · exact va_recv hK hP (ci := mi.ci) (q0 := b9) hw (by rw [mm_W_at (mm_KD_lt hc1), mm_ent_obj hc1])
    · intro U hU hW
      exact ⟨rfl, by rw [hU], by rw [hU]; exact hP, hKm hW, hD.weaken (fun _ _ _ _ => trivial), mm_EX_at hEX hS hFc hU hW⟩
    · exact lv_room (by rw [mm_cats]; exact hc4)
  split at h
  · rename_i S' c' s' a' hr'
    have hb9 := hkm _ _ _ _ _ _ h
    have hrun := run _ hr' ⟨by rw [hR1]; exact hb9.1, by rw [hR2]; exact hb9.2⟩
    have back : ∀ (u : Mem) (t : State) (H1 : Heap) (locs1 : List Loc), t.heap = H1 → s.vm.Alike t.vm → u = S' → mm_B D cy (va_A (mm_W cy ad ov S) H.size) ad ov u t → va_S A s.heap H1 locs1 →
        W p l e R s m args below meth c H1 locs1 (kc + c') (ks + s') (vx_MQ below (mm_Qc D cy A ad0 ov q.rt r) (mm_XC D cy A ad0 ov r) args s r.2.1 r.2.2.1 A) (F0 m (pc + 3) ls ((mm_psh mi.rt a' r9).map (mm_rv ad))) := by
      intro u t H1 locs1 ht hal hu hB hS1
      subst hu
      obtain ⟨ad', had', hP1, -, hD1⟩ := hB
      rw [ht] at hP1
      have hmv : (mm_psh mi.rt a' r9).map (mm_rv ad) = (mm_psh mi.rt a' r9).map (mm_rv ad') := by
        unfold mm_psh
        split
        · exact (mm_rv_move hc2 had').symm
        · rw [List.map_cons, List.map_cons, mm_rv_move hc2 had']; rfl
      rw [hmv]
      exact hk _ _ _ _ _ _ h ad' H1 locs1 ls _ (fun z hz => (had' z hz).trans (had z hz)) hd2 hP1 (hD1.weaken (fun _ z _ hz => hFc _ hz)) hS1 (hl.move had')
    by_cases hrt : mi.rt = 0
    · unfold mm_Qc at hrun
      rw [if_pos hrt] at hrun
      refine vx_callv hrun hS (fun z _ hz => hFc z hz) hFc (fun z _ hz => hFc z hz) ?_ ?_
      · intro E ce q9 u t H1 locs1 _ _ hpx
        exact absurd rfl hpx.2
      · intro u t H1 locs1 ht hal hpost hB _ _ hS1
        have hw9 := back u t H1 locs1 ht hal hpost.1 hB hS1
        rw [hrt] at hw9
        exact hw9
    · unfold mm_Qc at hrun
      rw [if_neg hrt] at hrun
      refine vx_calli hrun hS (fun z _ hz => hFc z hz) hFc (fun z _ hz => hFc z hz) ?_ ?_
      · intro E ce q9 u t H1 locs1 _ _ hpx
        exact absurd rfl hpx.2
      · intro a u t H1 locs1 ht hal hpost hB _ _ hS1
        have hw9 := back u t H1 locs1 ht hal hpost.2.1 hB hS1
        have e6 : a = a' := hpost.1
        obtain ⟨z9, hz9⟩ : ∃ z, mi.rt = z + 1 := ⟨mi.rt - 1, by omega⟩
        rw [hz9, ← e6] at hw9
        exact hw9
  · rename_i S' c' s' e' a' hr'
    have e8 := (Option.some.inj h).symm
    have e7 : r.2.1 = kc + c' ∧ r.2.2.1 = ks + s' := by rw [e8]; exact ⟨rfl, rfl⟩
    have hrun := run _ hr' ⟨by rw [hR1, e7.1]; exact Nat.le_refl _, by rw [hR2, e7.2]; exact Nat.le_refl _⟩
    have out : ∀ (E : String) (ce : Cell) (q9 : Addr) (u : Mem) (t : State) (H1 : Heap) (locs1 : List Loc), t.heap = H1 → s.vm.Alike t.vm → (u = S' ∧ e' + 1 ≠ 0) → (E = mm_exn (e' + 1) ∧ mm_B D cy (va_A (mm_W cy ad ov S) H.size) ad ov u t) → H.size ≤ H1.size → (∀ z : Nat, z < H.size → ¬ va_A (mm_W cy ad ov S) H.size z → H1[z]? = H[z]?) → va_S A s.heap H1 locs1 → H1[q9]? = some ce → ce.vm = .none → s.vm.findClass E = some ce.cls →
        vx_W p l e R s m args below meth c H1 locs1 (kc + c') (ks + s') (vx_MQ below (mm_Qc D cy A ad0 ov q.rt r) (mm_XC D cy A ad0 ov r) args s r.2.1 r.2.2.1 A) (F0 m pc ls (r9.map (mm_rv ad))) q9 := by
      intro E ce q9 u t H1 locs1 ht hal hpx hB hz1 hz2 hS1 hce hcv hcE
      obtain ⟨hE, ad', had', hP1, -, hD1⟩ := hB
      rw [ht] at hP1
      refine vx_out (E := E) (fun z hz => absurd hz (hex z)) hlocks hce hcv hcE (fun t' ht' hal' => ?_) hS1.2.2 (by rw [e7.1]; exact Nat.le_refl _) (by rw [e7.2]; exact Nat.le_refl _)
      refine ⟨u, ⟨by rw [hpx.1, e8], by rw [e8]; exact hpx.2⟩, ⟨by rw [e8]; exact hE, ad', fun z hz => (had' z hz).trans (had z hz), by rw [ht']; exact hP1, va_K.moved hal' hK, hD1.weaken (fun _ z _ hz => hFc _ hz)⟩, hS1.F ht'⟩
    by_cases hrt : mi.rt = 0
    · unfold mm_Qc at hrun
      rw [if_pos hrt] at hrun
      refine vx_callv hrun hS (fun z _ hz => hFc z hz) hFc (fun z _ hz => hFc z hz) out ?_
      intro u t H1 locs1 _ _ hpost
      exact absurd hpost.2 (Nat.succ_ne_zero _)
    · unfold mm_Qc at hrun
      rw [if_neg hrt] at hrun
      refine vx_calli hrun hS (fun z _ hz => hFc z hz) hFc (fun z _ hz => hFc z hz) out ?_
      intro a u t H1 locs1 _ _ hpost
      exact absurd hpost.2.2 (Nat.succ_ne_zero _)
  · cases h
end MMS
