/-! CALLS: methods by their numbers, to a depth -/
def mm_okM (q : MI) : Bool := mm_nx q.pcs 0 0 && mm_okRs q.cc q.ci q.pcs 0 q.P
/-- Tables.reserve: the array grows -/
def mm_resv (as : List MV) (S : Mem) : Option Res := match as with
  | [.inr 21, .inl en] => if en ≤ Int32.ofNat (S 55 0).toNatClampNeg then some (S, 0, 0, 0, 0) else
      (if (if en < 2 * Int32.ofNat (S 55 0).toNatClampNeg then 2 * Int32.ofNat (S 55 0).toNatClampNeg else en) < 0 ∨ 134217728 < (if en < 2 * Int32.ofNat (S 55 0).toNatClampNeg then 2 * Int32.ofNat (S 55 0).toNatClampNeg else en) then none else
        some (mm_put (mm_stc S 22 (va_cpy (S 22) (fun _ => 0) 0 0 (S 55 0).toNatClampNeg)) 55 0 (if en < 2 * Int32.ofNat (S 55 0).toNatClampNeg then 2 * Int32.ofNat (S 55 0).toNatClampNeg else en), 1, (if en < 2 * Int32.ofNat (S 55 0).toNatClampNeg then 2 * Int32.ofNat (S 55 0).toNatClampNeg else en).toNatClampNeg, 0, 0))
  | _ => none
noncomputable def mm_runD : Nat → Nat → List MV → Mem → Option Res
  | 0, _, _, _ => none
  | d + 1, y, as, S => if y = mm_yRes then mm_resv as S else match mm_MT[y]? with
    | some q => match as with
      | .inr b :: as' => if (mm_cls b q.ci && Nat.beq as'.length q.na && mm_noRm (Sum.inr b :: as')) = true then mm_E (mm_runD d) q.P q.rt 0 ((Sum.inr b :: as').map some ++ List.replicate (q.mL - (q.na + 1)) none) [] S 0 0 else none
      | _ => none
    | none => none
theorem mm_lv_args (ad : Nat → Nat) : ∀ (as : List MV) (k i : Nat) (v : MV), as[i]? = some v → (k + i, mm_rv ad v) ∈ lv_args k (as.map (mm_rv ad)) := by
  intro as
  induction as with
  | nil => intro k i v h; simp at h
  | cons a r ih =>
    intro k i v h
    simp only [List.map_cons, lv_args]
    cases i with
    | zero =>
      simp at h; subst h
      exact List.mem_cons_self
    | succ i =>
      refine List.mem_cons_of_mem _ ?_
      rw [mm_rv_cat, if_neg (by decide), show k + (i + 1) = k + 1 + i by omega]
      exact ih _ _ _ (by simpa using h)
theorem mm_lg_len (ad : Nat → Nat) (as : List MV) : (lg_sl (as.map (mm_rv ad))).length = as.length := by
  induction as with
  | nil => rfl
  | cons a r ih =>
    simp only [List.map_cons, lg_sl, List.flatMap_cons] at ih ⊢
    rw [mm_rv_cat, if_neg (by decide)]
    simp only [List.length_append, List.length_cons, List.length_nil]
    rw [ih]; omega
theorem mm_entry (ad : Nat → Nat) (as : List MV) {n : Nat} (h : as.length ≤ n) (hr : mm_noRm as = true) : mm_lh ad ((lg_sl (as.map (mm_rv ad)) ++ List.replicate (n - (lg_sl (as.map (mm_rv ad))).length) Slot.unset).toArray) n (as.map some ++ List.replicate (n - as.length) none) := by
  have h1 := lv_entry (as.map (mm_rv ad)) (n := n) (by rw [mm_lg_len]; exact h)
  refine ⟨h1.1, h1.2.1, by simp; omega, fun i v hi => ?_, ?_⟩
  rotate_left
  · unfold mm_noRmL
    rw [List.all_append, Bool.and_eq_true]
    refine ⟨?_, by rw [List.all_eq_true]; intro z hz; rw [(List.mem_replicate.mp hz).2]⟩
    unfold mm_noRm at hr
    rw [List.all_eq_true] at hr ⊢
    intro z hz
    obtain ⟨w, hw, rfl⟩ := List.mem_map.mp hz
    have := hr w hw
    cases w with
    | inl a => rfl
    | inr a => exact this
  have h2 : as[i]? = some v := by
    rw [List.getElem?_append] at hi
    split at hi
    · rw [List.getElem?_map] at hi
      cases h3 : as[i]? with
      | none => rw [h3] at hi; cases hi
      | some w => rw [h3] at hi; cases hi; rfl
    · have := List.mem_of_getElem? hi
      rw [List.mem_replicate] at this
      cases this.2
  have h3 := mm_lv_args ad as 0 i v h2
  rw [Nat.zero_add] at h3
  exact h1.2.2 _ h3
section MMN
variable {p : Program} {l : Launch} {e : Env} {R : Room} {s : State} {m : MethodId} {args : Array Value} {below : List Frame} {meth : Method} {c : Code}
theorem mm_soundN {D : va_G} {cy : ClassId × ClassId × ClassId} {A : Nat → Prop} {ad0 : Nat → Nat} {ov : Int64} {q : MI} {own : String} {r : Res} {call : Nat → List MV → Mem → Option Res} {d : Nat} (C0 : mm_Cx p l e s m args below meth c D cy A q own) (hR : R.cells = r.2.1 ∧ R.slots = r.2.2.1 ∧ d + 9 ≤ R.frames ∧ 40 * d + 240 ≤ R.locals)
    (hcall : ∀ y as S r' mi, call y as S = some r' → mm_MT[y]? = some mi → mm_Con l D cy d mi as S r') (hok : mm_okRs q.cc q.ci q.pcs 0 q.P = true) :
    ∀ (n j : Nat) (L : List (Option MV)) (st : List MV) (S : Mem) (kc ks : Nat), mm_runN call q.P q.rt n j L st S kc ks = some r → mm_G p l e R s m args below meth c D cy A ad0 ov q r j L st S kc ks := by
  intro n
  induction n with
  | zero => intro j L st S kc ks h; cases h
  | succ n ih =>
    intro j L st S kc ks h
    unfold mm_runN at h
    split at h
    · rename_i i x v ts hj
      have h1 := mm_okRs_at q.P 0 j _ hok hj
      rw [Nat.zero_add] at h1
      exact mm_sound_a C0 hR hcall (fun j L st S kc ks h => mm_mono n j L st S kc ks h) ih h1 h
    · cases h
end MMN
set_option maxHeartbeats 4000000 in
theorem mm_sound {l : Launch} {D : va_G} {cy : ClassId × ClassId × ClassId} (hst : l.stackTraces = false)
    (hall : ∀ y q, mm_MT[y]? = some q → y ≠ mm_yRes → mm_okM q = true)
    (hres : ∀ d as S r q, mm_MT[mm_yRes]? = some q → mm_resv as S = some r → mm_Con l D cy (d + 1) q as S r) :
    ∀ (d y : Nat) (as : List MV) (S : Mem) (r : Res) (q : MI), mm_runD d y as S = some r → mm_MT[y]? = some q → mm_Con l D cy d q as S r := by
  intro d
  induction d with
  | zero => intro y as S r q h; cases h
  | succ d ih =>
    intro y as S r q h hq
    unfold mm_runD at h
    split at h
    · rename_i e9
      subst e9
      exact hres d as S r q hq h
    · rename_i e9
      rw [hq] at h
      dsimp only at h
      split at h
      · rename_i b as'
        split at h
        · rename_i hc
          simp only [Bool.and_eq_true] at hc
          have hlen := Nat.eq_of_beq_eq_true hc.1.2
          obtain ⟨w, hw⟩ : ∃ w, vwCl[q.ci]? = some w := by
            obtain ⟨b, h8⟩ := mm_zip_at mm_MT_ok rfl (List.mem_of_getElem? hq)
            unfold mm_okW at h8
            split at h8
            · rename_i w hw; exact ⟨w, hw⟩
            · cases h8
          obtain ⟨hgood, hcls, hpl, hmL, hnaL⟩ := mm_MT_spec hq hw
          intro ad ov sz
          refine vx_ofW (cc := q.cc) (maxL := q.mL) (ret := mm_rty q.rt) hpl rfl ?_
          intro p e s m args below meth c s₁ B hml hex hv
          obtain ⟨rfl, hsz, hP, hK, hD0, hEX⟩ := hv
          obtain ⟨n9, h⟩ := mm_E_to h
          have hts := atoms_spec (ws := mm_ws q) B.pre
          have hown : s.vm.findClass w.1 = some m.cls := by
            rw [← hcls.1]; exact findClass_of_methodNamed B.named
          subst hsz
          have hD := hD0.self (sz := s.heap.size)
          rw [lg_entry_eq]
          have hl := mm_entry ad (Sum.inr b :: as') (n := q.mL) (by simp only [List.length_cons]; omega) hc.2
          have hn9 : (Sum.inr b :: as' : List MV).length = q.na + 1 := by simp only [List.length_cons]; omega
          rw [hn9] at hl
          have hokM := hall y q hq e9
          unfold mm_okM at hokM
          rw [Bool.and_eq_true] at hokM
          have hpc : q.pcs[0]? = some 0 := mm_nx_spec hokM.1
          exact mm_soundN (R := mm_rm (d + 1) r.2.1 r.2.2.1) (d := d) ⟨B.exec, B.bytes, hml, hown, fun w hw => hts w (List.mem_cons_of_mem _ hw), hK, hex, B.notSynchronized, B.returns, fun z hz => Or.inr hz, hEX, hst, w.2.1, w.2.2, hw⟩ ⟨rfl, rfl, by show d + 9 ≤ d + 1 + 8; omega, by show 40 * d + 240 ≤ 40 * (d + 1) + 200; omega⟩
            (fun y as S r' mi h1 h2 => ih y as S r' mi h1 h2) hokM.2 n9 0 _ [] S 0 0 h ad s.heap [] _ 0 (fun _ _ => rfl) hpc hP hD va_S.rf hl
        · cases h
      · cases h
theorem mm_runD_eq {d y b : Nat} {as : List MV} {S : Mem} {q : MI} (hy : y ≠ mm_yRes) (hq : mm_MT[y]? = some q) (hc : mm_cls b q.ci = true) (hn : as.length = q.na) (hr : mm_noRm (.inr b :: as) = true) : mm_runD (d + 1) y (.inr b :: as) S = mm_E (mm_runD d) q.P q.rt 0 ((Sum.inr b :: as).map some ++ List.replicate (q.mL - (q.na + 1)) none) [] S 0 0 := by
  have h9 : (mm_cls b q.ci && Nat.beq as.length q.na && mm_noRm (Sum.inr b :: as)) = true := by rw [hc, hn, Nat.beq_refl, hr]; rfl
  conv => lhs; unfold mm_runD
  rw [if_neg hy, hq]
  simp only [h9, if_true]
