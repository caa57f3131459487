/-! THE FIFTH EXCEPTION: its constructor passes its text on by entry 13, where the library's law knows entry 7 alone -/
def mm_t5 : ByteArray := ⟨#[0x2a, 0x2b, 0xb7, 0x00, 0x0d, 0xb1]⟩
theorem mm_t5d : decode mm_t5 0 = .ok (.aload_n 0, 1) ∧ decode mm_t5 1 = .ok (.aload_n 1, 1) ∧ decode mm_t5 2 = .ok (.invokespecial 13, 3) ∧ decode mm_t5 5 = .ok (.return_, 1) := ⟨by decide +kernel, by decide +kernel, by decide +kernel, by decide +kernel⟩
abbrev mm_x5 : String := "java/util/NoSuchElementException"
/-- the fields that a Throwable has -/
def mm_f5 : List (String × String) := [("cause", "Ljava/lang/Throwable;"), ("stackTrace", Bundle.steD), ("suppressedExceptions", Bundle.listD), ("detailMessage", "Ljava/lang/String;"), ("backtrace", "Ljava/lang/Object;")]
/-- the words of it, in four lists -/
def mm_w5 : List Cond := [.methodLink RX7 186 (Bundle.initS mm_x5), .instantiable mm_x5 6, .castable mm_x5 mm_x5, .fieldLink Bundle.tN 198 Bundle.tN "backtrace" "Ljava/lang/Object;", .lays Bundle.tN Bundle.tN "backtrace" "Ljava/lang/Object;"]
def mm_s5 : List Cond := [.selects mm_x5 Bundle.tFill0 Bundle.tFill0, .selects mm_x5 Bundle.tFill Bundle.tFill, .isRef (.static Bundle.tN "UNASSIGNED_STACK" Bundle.steD), .isRef (.static Bundle.tN "SUPPRESSED_SENTINEL" Bundle.listD)]
def mm_a5 : List Cond := mm_w5 ++ mm_s5 ++ mm_f5.map (fun q => Cond.lays mm_x5 Bundle.tN q.1 q.2) ++ Bundle.passSAtoms mm_x5 "java/lang/RuntimeException" 13 mm_t5 ++ Bundle.chainSAtoms "java/lang/RuntimeException" ["java/lang/Exception"] ++ Bundle.throwableSAtoms ++ Bundle.throwableAtoms
theorem mm_a5_in : ∀ w ∈ mm_a5.filter vx_no, w ∈ lw_tbl := by decide +kernel
theorem mm_a5_ot : ∀ w ∈ mm_a5.filter vx_no, (vx_ot w && (goodWord w || mm_cd w)) = true := by decide +kernel
section FIVE
variable {p : Program} {l : Launch} {e : Env} {R : Room} {s : State} {m₀ : MethodId} {args : Array Value} {below : List Frame} {meth : Method} {c : Code} {U₀ : State} {locs : List Loc} {cells slots : Nat}
set_option maxHeartbeats 1000000 in
/-- the constructor is run, and what it made is thrown -/
theorem mm_ctor5 (X : Stand p l e R s m₀ args below meth c U₀ locs cells slots) (hx : p.tables.exec = Jvm.exec) (hno : e.platform.stackTraces = false) (hme : s.vm.findClass RX7 = some m₀.cls) (hq : ∀ w ∈ mm_a5, w.before args s = true)
    (hst : ∀ z ∈ locs, ∀ ce, s.heap[z.base]? = some ce → ce.vm.isStatics = false) {o : Addr} {ci : ClassId} {ck : Class} (hci : s.vm.findClass mm_x5 = some ci) (hck : s.vm.classes[ci]? = some ck) (ho : U₀.heap[o]? = some (freshCell ci ck)) (hn : s.heap.size ≤ o)
    {v : Value} (hv : v.isRef = true) {f : JFrame} (f1 : f.method = m₀) (f2 : f.locals.size = c.maxLocals) (f3 : f.locked = none) (f4 : f.entered = []) {r : List Value} (f5 : f.stack = v :: .ref o :: .ref o :: r)
    (d1 : decode c.code f.pc = .ok (.invokespecial 186, 3)) (d2 : decode c.code (f.pc + 3) = .ok (.athrow, 1)) (hcv : ∀ x ∈ c.exceptionTable.toList, covers x (f.pc + 3) = false) (hfr : 5 < R.frames)
    (hlo : 2 * f.monitorRoom + ((Value.ref o :: r).map fun v => v.category).sum + 81 ≤ R.locals) (hlk : meth.locks = false) :
    ∃ U : State, Steps p.tables e below (U₀.setTop f) U ∧ U.status = .running ∧ Ended U below (.threw o) ∧ s.WarmedH U.vm ∧ s.sameButNew ({ U with vm := s.vm } : State) locs cells slots ∧ ∃ ce, U.heap[o]? = some ce ∧ ce.vm = .none ∧ s.vm.findClass mm_x5 = some ce.cls := by
  have hpl : e.platform.magicAccessors = ({} : Platform).magicAccessors := by rw [X.admits.platform]
  have q1 : ∀ w ∈ mm_w5, w.before args s = true := fun w h => hq w (by simp only [mm_a5, List.mem_append]; exact Or.inl (Or.inl (Or.inl (Or.inl (Or.inl (Or.inl h))))))
  have q2 : ∀ w ∈ mm_s5, w.before args s = true := fun w h => hq w (by simp only [mm_a5, List.mem_append]; exact Or.inl (Or.inl (Or.inl (Or.inl (Or.inl (Or.inr h))))))
  have q3 : ∀ a b, (a, b) ∈ mm_f5 → (Cond.lays mm_x5 Bundle.tN a b).before args s = true := fun a b h => hq _ (by simp only [mm_a5, List.mem_append]; exact Or.inl (Or.inl (Or.inl (Or.inl (Or.inr (List.mem_map.mpr ⟨(a, b), h, rfl⟩))))))
  have q4 : ∀ w ∈ Bundle.passSAtoms mm_x5 "java/lang/RuntimeException" 13 mm_t5, w.before args s = true := fun w h => hq w (by simp only [mm_a5, List.mem_append]; exact Or.inl (Or.inl (Or.inl (Or.inr h))))
  have q5 : ∀ w ∈ Bundle.chainSAtoms "java/lang/RuntimeException" ["java/lang/Exception"], w.before args s = true := fun w h => hq w (by simp only [mm_a5, List.mem_append]; exact Or.inl (Or.inl (Or.inr h)))
  have q6 : ∀ w ∈ Bundle.throwableSAtoms, w.before args s = true := fun w h => hq w (by simp only [mm_a5, List.mem_append]; exact Or.inl (Or.inr h))
  have q7 : ∀ w ∈ Bundle.throwableAtoms, w.before args s = true := fun w h => hq w (by simp only [mm_a5, List.mem_append]; exact Or.inr h)
  -- who stands on the way up: three that pass the text on, then Throwable's own
  obtain ⟨th, z0, ly, -, ti⟩ := ThrowableC.of_atoms (args := args) (s := s) (pl := e.platform) (by rw [X.admits.platform]) (by rw [X.admits.platform]) hpl q7
  obtain ⟨zz, mg, lz, lm, ntop⟩ := Init0T.ofS_atoms (args := args) hpl ly ti q6
  obtain ⟨u1, lu1, nu1, su1⟩ := PassC.ofS_atoms (args := args) (s := s) hpl (X := mm_x5) (Y := "java/lang/RuntimeException") (index := 13) (bytes := mm_t5) (by decide +kernel) (by decide) mm_t5d.1 mm_t5d.2.1 mm_t5d.2.2.1 mm_t5d.2.2.2 q4
  obtain ⟨u2, us, nus, lu2, lus, nu2, k2, ks⟩ := Bundle.chainS (args := args) hpl ntop ["java/lang/Exception"] "java/lang/RuntimeException" (by decide +kernel) (by decide +kernel) q5
  have up1 : u1.sup = u2.m := Option.some.inj (su1.symm.trans nu2)
  have nus1 : us.length = 1 := nus
  have hc1 : s.vm.findClass mm_x5 = some u1.m.cls := findClass_of_methodNamed nu1
  obtain rfl : ci = u1.m.cls := Option.some.inj (hci.symm.trans hc1)
  obtain ⟨cj, kj, hcj, hkj, hord, -, -, -⟩ := Cond.instantiable_spec (q1 (.instantiable mm_x5 6) (by simp [mm_w5]))
  obtain rfl : cj = u1.m.cls := Option.some.inj (hcj.symm.trans hc1)
  obtain rfl : kj = ck := Option.some.inj (hkj.symm.trans hck)
  -- fillInStackTrace is Throwable's own
  have sel : ∀ (y : MethodName) (w : MethodId), (Cond.selects mm_x5 y y).before args s = true → s.methodNamed? y = some w → s.methodFound? y.cls y.name y.desc = some w → selectMethod e.platform s.vm u1.m.cls w = .method w := by
    intro y w h1 h2 h3
    obtain ⟨c2, r2, m2, g1, g2, g3, g4, -⟩ := Cond.selects_spec h1
    obtain rfl : c2 = u1.m.cls := Option.some.inj (g1.symm.trans hc1)
    obtain rfl : r2 = w := Option.some.inj (g2.symm.trans h3)
    obtain rfl : m2 = r2 := Option.some.inj (g3.symm.trans h2)
    rw [Launch.admits_selectMethod X.admits]
    exact g4
  have sel1 := sel Bundle.tFill0 th.fill0 (q2 _ (by simp [mm_s5])) ti.fill0 (State.methodFound?_of_named ti.fill0 (by decide))
  have sel2 := sel Bundle.tFill th.fill (q2 _ (by simp [mm_s5])) ti.fill (State.methodFound?_of_named ti.fill (by decide))
  -- Throwable's statics
  obtain ⟨sc, hsc, isc⟩ := ti.statics
  obtain ⟨va, hva⟩ := Cond.staticRefV ti.unassigned ly.unassignedStatic ly.statics hsc isc (q2 (.isRef (.static Bundle.tN "UNASSIGNED_STACK" Bundle.steD)) (by simp [mm_s5]))
  obtain ⟨vb, hvb⟩ := Cond.staticRefV ti.sentinel ly.sentinelStatic ly.statics hsc isc (q2 (.isRef (.static Bundle.tN "SUPPRESSED_SENTINEL" Bundle.listD)) (by simp [mm_s5]))
  obtain ⟨sc', hsc', vsc, -, keep⟩ := X.same.2.2.2.2.2 th.aS sc hsc
  have away : ∀ i, (⟨th.aS, i⟩ : Loc) ∉ locs := fun i h => by
    have := hst _ h sc hsc
    rw [isc] at this
    cases this
  have known : sc'.vm ≠ .unknown := by
    intro h
    rw [vsc] at h
    rw [show sc.vm = .unknown from h] at isc
    cases isc
  have apart : th.aS ≠ o := Nat.ne_of_lt (Nat.lt_of_lt_of_le (Array.getElem?_eq_some_iff.mp hsc).1 hn)
  -- the five fields
  obtain ⟨bi, bj, bf, w1, w2, w3, w4, -, bn, bt, bff⟩ := Cond.ownField (t := .object "java/lang/Object") ti.found ly.cls (by decide +kernel) (q1 (.fieldLink Bundle.tN 198 Bundle.tN "backtrace" "Ljava/lang/Object;") (by simp [mm_w5])) (q1 (.lays Bundle.tN Bundle.tN "backtrace" "Ljava/lang/Object;") (by simp [mm_w5])) e.platform hpl
  obtain ⟨im, ff⟩ := ti.msg
  obtain ⟨t1, x1, y1, z1⟩ := Cond.laysAt hc1 hck ti.cause (q3 "cause" _ (by simp [mm_f5]))
  obtain ⟨t2, x2, y2, z2⟩ := Cond.laysAt hc1 hck ti.stack (q3 "stackTrace" _ (by simp [mm_f5]))
  obtain ⟨t3, x3, y3, z3⟩ := Cond.laysAt hc1 hck ti.supp (q3 "suppressedExceptions" _ (by simp [mm_f5]))
  obtain ⟨t4, -, -, -⟩ := Cond.laysAt hc1 hck ff (q3 "detailMessage" _ (by simp [mm_f5]))
  obtain ⟨t5, x5, y5, z5⟩ := Cond.laysAt hc1 hck bff (q3 "backtrace" _ (by simp [mm_f5]))
  have n1 := Cond.laysApart y5 y1 z5 z1 (by rw [bn, ti.causeName]; decide)
  have n2 := Cond.laysApart y5 y2 z5 z2 (by rw [bn, ti.stackName]; decide)
  have n3 := Cond.laysApart y5 y3 z5 z3 (by rw [bn, ti.suppName]; decide)
  have bare : SkipFacts th e.platform s (fun u => u) va ((preparedCellV th.toThrowableT (freshCell u1.m.cls kj) o va vb).withEntry U₀.cur) := by
    refine ⟨{ ci198 := bi, i198 := bj, fBack := bf }, ⟨w1, w2, w3, w4⟩, ?_, fun _ _ => rfl⟩
    have h := fresh_default (c := u1.m.cls) t5
    rw [bt] at h
    simpa [preparedCellV, Cell.setSlot, Cell.withEntry, Array.getElem?_setIfInBounds, n1, n2, n3, n1.symm, n2.symm, n3.symm, defaultValue] using h
  -- the walk: into the constructor, through it, out by the throw
  obtain ⟨tm, -, -, -, vm₁, ntm, -, -, -, -, -, -, -, warm, go⟩ := Steps.initColdS (tb := p.tables) (e := e) (below := below) (s := s) (U := U₀) X.here hx X.warmed hpl hme (t := Bundle.initS mm_x5) rfl rfl ⟨by decide, by decide⟩
    (q1 (.methodLink RX7 186 (Bundle.initS mm_x5)) (by simp [mm_w5])) (q4 (.instanceMethod (Bundle.initS mm_x5)) (by simp [Bundle.passSAtoms])) (bytes := mm_t5) (maxL := 2) (q4 (.code (Bundle.initS mm_x5) mm_t5 2 none) (by simp [Bundle.passSAtoms]))
    (f := f) f1 (a := o) (msg := v) (rest := .ref o :: r) f5 d1
  obtain rfl : tm = u1.m := Option.some.inj (ntm.symm.trans nu1)
  obtain ⟨vm₂, X₂, thr⟩ := (X.noted warm).ctorMessageOffV hx (g := { f with stack := .ref o :: r }) f1 f2 th ly zz lz mg lm (u1 :: u2 :: us)
    (fun u hu => by
      rcases List.mem_cons.mp hu with rfl | hu
      · exact lu1
      · rcases List.mem_cons.mp hu with rfl | hu
        · exact lu2
        · exact lus u hu)
    ⟨up1, k2, ks⟩ (u0 := va) (sen := vb) (self := o) hv (cell := freshCell u1.m.cls kj) (cellS := sc') ho (fun _ => by simp) (by simp) rfl rfl sel1 sel2 hsc' apart known
    (by rw [keep _ (away _)]; exact hva) (by rw [keep _ (away _)]; exact hvb)
    (Takes.of_laid hck hord t1 (by rw [ti.causeType]; rfl)) (Takes.of_laid hck hord t2 (by rw [ti.stackType]; exact fits_refV_array _ va)) (Takes.of_laid hck hord t3 (by rw [ti.suppType]; exact fits_refV_object _ vb)) (Takes.of_laid hck hord t4 (by rw [ti.msgType]; exact fits_refV_object _ ⟨v, hv⟩))
    ti.objLocals bare hno [] d1 (by simp only [List.length_cons, nus1]; omega) (by simp only [List.length_cons, nus1]; exact hlo)
  obtain ⟨wk, run, ended, warmU, same⟩ := X₂.athrowLeaves hx (g := { f with stack := .ref o :: r, pc := f.pc + 3 }) f1 f3 f4 hcv (a := o) (rest := r) rfl d2 hlk
  have lt : o < ((U₀.setVm vm₁).setVm vm₂).heap.size := (Array.getElem?_eq_some_iff.mp ho).1
  refine ⟨_, go _ (fun acts => by rw [doInvoke_state]; exact thr _ wk), run, ended, warmU, same.weaken (fun z hz old => ?_) (Nat.le_refl _) (Nat.le_refl _), _, heapAt_setCell_self (s := (U₀.setVm vm₁).setVm vm₂) (plainBareV th.toThrowableT (freshCell u1.m.cls kj) o va vb v) lt, rfl, hc1⟩
  rcases List.mem_append.mp hz with h | h
  · exact h
  · have hb : z.base = o := by
      simp only [List.mem_cons, List.not_mem_nil, or_false] at h
      rcases h with rfl | rfl | rfl | rfl | rfl <;> rfl
    rw [hb] at old
    exact absurd old (Nat.not_lt.mpr hn)
end FIVE
theorem mm_i5 : Cond.initialized mm_x5 ∈ mm_ut := by decide +kernel
theorem mm_i5o : vx_ot (Cond.initialized mm_x5) = true := by decide +kernel
section MMT
variable {p : Program} {l : Launch} {e : Env} {R : Room} {s : State} {m : MethodId} {args : Array Value} {below : List Frame} {meth : Method} {c : Code} {H : Heap} {locs : List Loc} {cells slots : Nat}
variable {free : Addr → Prop} {ls : Array Slot} {rest : List Value} {Qc : Array Value → State → Outcome → State → Prop} {XC : String → State → State → Prop}
/-- 'throw new NoSuchElementException("text")': its constructor links entry 13, which the law vx_throwS doesn't know -/
theorem mm_throw5 {cc : ByteArray} {pc : Nat} (hexec : p.tables.exec = Jvm.exec) (hb : c.code = cc) (hl : l.stackTraces = false) {text : String} {ik is mc ms sa : Nat} {A : Nat → Prop}
    (hown : s.vm.findClass RX7 = some m.cls) (hk : (Cond.classLink RX7 ik (mm_exn 5)).before args s = true) (hts : ∀ w ∈ mm_ut, w.before args s = true) (hbw : ∀ w ∈ mm_bw, w.before #[] s = true) (hstr : vk_R RX7 is text sa s)
    (hU : vx_Zq Bundle.tN "UNASSIGNED_STACK" Bundle.steD A s s.heap) (hN : vx_Zq Bundle.tN "SUPPRESSED_SENTINEL" Bundle.listD A s s.heap) (hS : va_S A s.heap H locs) (hsize : ls.size = c.maxLocals)
    (d0 : decode cc pc = .ok (.new ik, 3)) (d3 : decode cc (pc + 3) = .ok (.dup, 1)) (d4 : decode cc (pc + 4) = .ok (.ldc is, 2)) (d6 : decode cc (pc + 6) = .ok (.invokespecial 186, 3)) (d9 : decode cc (pc + 9) = .ok (.athrow, 1))
    (hout : ∀ x ∈ c.exceptionTable.toList, covers x (pc + 9) = false)
    (hRframes : 5 < R.frames) (hRlocals : (rest.map fun v => v.category).sum + 82 ≤ R.locals) (hRcells : cells + 1 ≤ R.cells) (hRslots : slots + 6 ≤ R.slots) (hlocks : meth.locks = false)
    (hx : ∀ t : State, s.vm.Alike t.vm → H.size ≤ t.heap.size → (∀ q : Nat, q < H.size → t.heap[q]? = H[q]?) → XC (mm_exn 5) s t)
    (hf : ∀ z ∈ locs, free z.base) (hc : cells + 1 ≤ mc) (hs : slots + 6 ≤ ms) :
    W p l e R s m args below meth c H locs cells slots (vx_MQ below Qc XC args s mc ms free) (F0 m pc ls rest) := by
  intro T hT X
  have htr : e.platform.stackTraces = false := (show e.platform.stackTraces = l.stackTraces by rw [X.admits.platform]).trans hl
  have Y := vx_rebase X (R' := { frames := R.frames, locals := R.locals, cells := 1, slots := 6 }) (Nat.le_refl _) (Nat.le_refl _) hRcells hRslots
  obtain ⟨s', hA⟩ : ∃ z, z = (T.setVm s.vm).setFrames (.invoking m args :: below) := ⟨_, rfl⟩
  rw [← hA] at Y
  have hvm : s'.vm = s.vm := by rw [hA]; rfl
  have hhp : s'.heap = H := by rw [hA]; exact hT
  have hW0 : s.WarmedH s'.vm := by rw [hvm]; exact State.WarmedH.refl s
  have hwd : ∀ w ∈ mm_a5.filter vx_no, w.before args s = true ∧ vx_ot w = true := fun w hw => by
    have h1 := mm_a5_ot w hw
    simp only [Bool.and_eq_true, Bool.or_eq_true] at h1
    refine ⟨?_, h1.1⟩
    rcases h1.2 with g | g
    · exact hts w (List.mem_filter.mpr ⟨mm_a5_in w hw, g⟩)
    · exact mm_cd_at g (State.WarmedH.refl s) (hbw w (List.mem_filter.mpr ⟨mm_a5_in w hw, g⟩))
  have hini : (Cond.initialized mm_x5).before args s = true := hts _ mm_i5
  have hk' : (Cond.classLink RX7 ik mm_x5).before args s' = true := vx_ot_at hW0 hvm.symm rfl hk
  have hini' : (Cond.initialized mm_x5).before args s' = true := vx_ot_at hW0 hvm.symm mm_i5o hini
  have hU' : vx_Zq Bundle.tN "UNASSIGNED_STACK" Bundle.steD A s' s'.heap := by rw [hhp]; exact vx_Zq.moved hW0.alike (hU.kept hS.2.1)
  have hN' : vx_Zq Bundle.tN "SUPPRESSED_SENTINEL" Bundle.listD A s' s'.heap := by rw [hhp]; exact vx_Zq.moved hW0.alike (hN.kept hS.2.1)
  have h : ∀ w ∈ mm_a5, w.before args s' = true := vx_own (fun w hw => vx_ot_at hW0 hvm.symm (hwd w hw).2 (hwd w hw).1) (vx_isRefq hU'.1) (vx_isRefq hN'.1) hU'.2.word hN'.2.word
  have hown' : s'.vm.findClass RX7 = some m.cls := by rw [hvm]; exact hown
  have hins : (Cond.instantiable mm_x5 6).before args s' = true := h _ (by simp [mm_a5, mm_w5])
  obtain ⟨vm₁, cX, kX, hfX, hkX, -, -, X₁, st1⟩ := Y.newCold hexec (own := RX7) (C := mm_x5) (index := ik) (n := 6) hown' hk' hins hini' (g := F0 m pc ls rest) rfl (by rw [hb]; exact d0) (Nat.le_refl _) (Nat.le_refl _)
  generalize hT1 : (T.setVm vm₁).pushCell { cls := cX, slots := kX.instanceTypes.map defaultValue, vm := .none } = T1 at X₁ st1
  have hcat : (Value.ref T.heap.size).category = 1 := rfl
  have hcellA : T1.heap[T.heap.size]? = some (freshCell cX kX) := by rw [← hT1]; exact State.heap_pushCell_size _ _
  have d3' : decode c.code (pc + 3) = .ok (.dup, 1) := by rw [hb]; exact d3
  have d4' : decode c.code (pc + 4) = .ok (.ldc is, 2) := by rw [hb]; exact d4
  have hstr' : vk_R RX7 is text sa s' := vk_R.warm hW0 hstr
  obtain ⟨U, hsteps, hrun, hend, hW, hsame, ce, hce, hvce, hO⟩ := mm_ctor5 X₁ hexec htr hown' h (fun x hx => nomatch hx) hfX hkX hcellA (by rw [hhp, hT]; exact Nat.le_refl _) (v := .ref sa) rfl
    (f := { method := m, pc := pc + 6, locals := ls, stack := .ref sa :: .ref T.heap.size :: .ref T.heap.size :: rest, locked := none }) rfl hsize rfl rfl (r := rest) rfl
    (by rw [hb]; exact d6) (by rw [hb]; exact d9) hout hRframes (by simp only [List.map_cons, List.sum_cons, hcat]; omega) hlocks
  obtain ⟨g1, g2⟩ := vx_frame hsame
  rw [hhp] at g1 g2
  have hWs : s.WarmedH U.vm := State.WarmedH.trans hW0 hW
  rw [hvm] at hO
  have hall : s.sameButNew ({ U with vm := s.vm } : State) locs mc ms := by
    subst hA
    obtain ⟨e1, e2⟩ := hsame
    rw [State.setFrames_setFrames] at e1
    have h2 : (T.setVm s.vm).sameButNew ({ U with vm := s.vm } : State) [] (0 + 1) (0 + 6) := ⟨e1, e2⟩
    have h3 := X.same.trans h2
    rw [List.append_nil] at h3
    exact h3.mono hc hs
  refine ⟨U, ?_, .threw T.heap.size, hrun, hend, Or.inr ⟨T.heap.size, rfl, mm_x5, ce, locs, hx U hWs.alike g1 (fun q hq => g2 q hq (fun z hz => nomatch hz)), hce, hvce, hO, hWs, hall, hf⟩⟩
  refine st1 _ ?_
  show Steps p.tables e below (T1.setTop { method := m, pc := pc + 3, locals := ls, stack := .ref T.heap.size :: rest, locked := none }) _
  jvm_step X₁.here [X₁.here.top, hexec, d3', Value.category]
  exact X₁.ldcString hexec (own := RX7) (text := text) (index := is) (a := sa) hown' hstr'.1 hstr'.2
    (g := { method := m, pc := pc + 4, locals := ls, stack := .ref T.heap.size :: .ref T.heap.size :: rest, locked := none }) rfl d4' _ hsteps
end MMT
