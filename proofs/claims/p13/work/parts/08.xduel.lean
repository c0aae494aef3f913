/-! A throw of java/util/NoSuchElementException with a text, in a launch without stack traces. Its constructor hands on by another place of its pool than the library's chain has it, so the words and the walk are put together here out of the library's parts (PassC, chainS, ctorMessageOffV, athrowLeaves), after the library's ctorThrowS. -/
def exN : String := "java/util/NoSuchElementException"
def exR : List String := ["java/lang/RuntimeException", "java/lang/Exception"]
abbrev exB : ByteArray := prog_21_method_4_code
/-- the words that the library wants of a throw of exN, but for its chain -/
def xcT : List Cond := (Bundle.ownAtoms RX9 122 exN exR).drop (Bundle.throwableAtoms ++ Bundle.throwableSAtoms ++ Bundle.chainSAtoms exN exR).length
def xcP : List Cond := Bundle.passSAtoms exN "java/lang/RuntimeException" 13 exB
def xcC : List Cond := Bundle.chainSAtoms "java/lang/RuntimeException" ["java/lang/Exception"]
def xcA : List Cond := Bundle.throwableAtoms ++ Bundle.throwableSAtoms ++ (xcP ++ xcC) ++ xcT
abbrev exL : List Cond := xcA.filter vx_no
def exW : List Cond := Cond.castable exN exN :: exL.filter (fun w => !goodWord w)
def exk : Cond → Bool
  | .declares _ => true
  | .castable _ _ => true
  | .methodLinkNest _ _ _ _ => true
  | _ => false
set_option maxRecDepth 100000 in
theorem exW_k : exW.all (fun w => exk w && w.onTables) = true := by decide +kernel
set_option maxRecDepth 100000 in
theorem exL_in : ∀ w ∈ exL.filter goodWord, w ∈ lw_tbl := by decide +kernel
set_option maxRecDepth 100000 in
theorem exL_ot : ∀ w ∈ Cond.classLink RX9 118 exN :: Cond.initialized exN :: exL, vx_ot w = true := by decide +kernel
theorem xb_0 : decode exB 0 = .ok (.aload_n 0, 1) := by decide +kernel
theorem xb_1 : decode exB 1 = .ok (.aload_n 1, 1) := by decide +kernel
theorem xb_2 : decode exB 2 = .ok (.invokespecial 13, 3) := by decide +kernel
theorem xb_5 : decode exB 5 = .ok (.return_, 1) := by decide +kernel
theorem xi_tail {w : Cond} (h : w ∈ xcT) : w ∈ xcA := List.mem_append_right _ h
set_option maxRecDepth 100000 in
theorem xi_inst : Cond.instantiable exN 6 ∈ xcT := by decide +kernel
set_option maxRecDepth 100000 in
theorem xi_cast : Cond.castable exN exN ∈ xcT := by decide +kernel
set_option maxRecDepth 100000 in
theorem xi_sel0 : Cond.selects exN Bundle.tFill0 Bundle.tFill0 ∈ xcT := by decide +kernel
set_option maxRecDepth 100000 in
theorem xi_sel : Cond.selects exN Bundle.tFill Bundle.tFill ∈ xcT := by decide +kernel
set_option maxRecDepth 100000 in
theorem xi_un : Cond.isRef (.static Bundle.tN "UNASSIGNED_STACK" Bundle.steD) ∈ xcT := by decide +kernel
set_option maxRecDepth 100000 in
theorem xi_su : Cond.isRef (.static Bundle.tN "SUPPRESSED_SENTINEL" Bundle.listD) ∈ xcT := by decide +kernel
set_option maxRecDepth 100000 in
theorem xi_bl : Cond.fieldLink Bundle.tN 198 Bundle.tN "backtrace" "Ljava/lang/Object;" ∈ xcT := by decide +kernel
set_option maxRecDepth 100000 in
theorem xi_bt : Cond.lays Bundle.tN Bundle.tN "backtrace" "Ljava/lang/Object;" ∈ xcT := by decide +kernel
set_option maxRecDepth 100000 in
theorem xi_lc : Cond.lays exN Bundle.tN "cause" "Ljava/lang/Throwable;" ∈ xcT := by decide +kernel
set_option maxRecDepth 100000 in
theorem xi_ls : Cond.lays exN Bundle.tN "stackTrace" Bundle.steD ∈ xcT := by decide +kernel
set_option maxRecDepth 100000 in
theorem xi_lp : Cond.lays exN Bundle.tN "suppressedExceptions" Bundle.listD ∈ xcT := by decide +kernel
set_option maxRecDepth 100000 in
theorem xi_lm : Cond.lays exN Bundle.tN "detailMessage" "Ljava/lang/String;" ∈ xcT := by decide +kernel
set_option maxRecDepth 100000 in
theorem xi_lb : Cond.lays exN Bundle.tN "backtrace" "Ljava/lang/Object;" ∈ xcT := by decide +kernel
set_option maxRecDepth 100000 in
theorem xi_link : Cond.methodLink RX9 122 (Bundle.initS exN) ∈ xcT := by decide +kernel
theorem xi_im : Cond.instanceMethod (Bundle.initS exN) ∈ xcA := List.mem_append_left _ (List.mem_append_right _ (List.mem_append_left _ (by simp [xcP, Bundle.passSAtoms])))
theorem xi_co : Cond.code (Bundle.initS exN) exB 2 none ∈ xcA := List.mem_append_left _ (List.mem_append_right _ (List.mem_append_left _ (by simp [xcP, Bundle.passSAtoms])))
section XC
variable {p : Program} {l : Launch} {e : Env} {R : Room} {s : State} {m : MethodId} {args : Array Value} {below : List Frame} {meth : Method} {c : Code} {T0 : State} {locs : List Loc} {cells slots : Nat}
/-- the constructor and the throw: from the frame with the text and the fresh cell on its stack the method is left with the cell thrown -/
theorem xc_leave (X : Stand p l e R s m args below meth c T0 locs cells slots) (hexec : p.tables.exec = Jvm.exec) (htr : e.platform.stackTraces = false)
    (hown : s.vm.findClass RX9 = some m.cls) (h : ∀ a ∈ xcA, a.before args s = true) (hlocs : ∀ x ∈ locs, ∀ cell, s.heap[x.base]? = some cell → cell.vm.isStatics = false)
    {a : Addr} {cX : ClassId} {kX : Class} (hfX : s.vm.findClass exN = some cX) (hkX : s.vm.classes[cX]? = some kX) (hcell : T0.heap[a]? = some (freshCell cX kX)) (hnew : s.heap.size ≤ a) {msg : Value} (hmsg : msg.isRef = true)
    {g : JFrame} (hg : g.method = m) (hsize : g.locals.size = c.maxLocals) (hlocked : g.locked = none) (hentered : g.entered = []) {rest : List Value} (hstack : g.stack = msg :: .ref a :: .ref a :: rest)
    (hd6 : decode c.code g.pc = .ok (.invokespecial 122, 3)) (hd9 : decode c.code (g.pc + 3) = .ok (.athrow, 1)) (hout : ∀ x ∈ c.exceptionTable.toList, covers x (g.pc + 3) = false)
    (hRf : 5 < R.frames) (hRl : 2 * g.monitorRoom + ((Value.ref a :: rest).map fun v => v.category).sum + 81 ≤ R.locals) (hlocks : meth.locks = false) :
    ∃ U : State, Steps p.tables e below (T0.setTop g) U ∧ U.status = .running ∧ Ended U below (.threw a) ∧ s.WarmedH U.vm ∧ s.sameButNew ({ U with vm := s.vm } : State) locs cells slots ∧ ∃ ce, U.heap[a]? = some ce ∧ ce.vm = .none ∧ ce.cls = cX := by
  have howns : e.platform.frameOwnsMonitors = true := by rw [X.admits.platform]
  have hfin : e.platform.finalization = false := by rw [X.admits.platform]
  have hpl : e.platform.magicAccessors = ({} : Platform).magicAccessors := by rw [X.admits.platform]
  have at_ : ∀ x, x ∈ xcT → x.holds args s none s [] = true := fun x hx => h x (xi_tail hx)
  obtain ⟨T, Z0, LT, -, Y⟩ := ThrowableC.of_atoms (args := args) howns hfin hpl (fun x hx => h x (List.mem_append_left _ (List.mem_append_left _ (List.mem_append_left _ hx))))
  obtain ⟨Z, M, LZ, LM, hnZ⟩ := Init0T.ofS_atoms (args := args) hpl LT Y (fun x hx => h x (List.mem_append_left _ (List.mem_append_left _ (List.mem_append_right _ hx))))
  obtain ⟨P0, L0, hP0, hS0⟩ := PassC.ofS_atoms (args := args) (s := s) hpl (X := exN) (Y := "java/lang/RuntimeException") (index := 13) (bytes := exB) (by decide +kernel) (by decide +kernel) xb_0 xb_1 xb_2 xb_5 (fun x hx => h x (List.mem_append_left _ (List.mem_append_right _ (List.mem_append_left _ hx))))
  obtain ⟨P1, Ps, hlen, L1, hL, hP1, hl1, hl2⟩ := Bundle.chainS (args := args) hpl hnZ ["java/lang/Exception"] "java/lang/RuntimeException" (by decide +kernel) (by decide +kernel) (fun x hx => h x (List.mem_append_left _ (List.mem_append_right _ (List.mem_append_right _ hx))))
  have hl0 : P0.sup = P1.m := Option.some.inj (hS0.symm.trans hP1)
  have hfound : s.vm.findClass exN = some P0.m.cls := findClass_of_methodNamed hP0
  cases Option.some.inj (hfX.symm.trans hfound)
  obtain ⟨c1, k1, hc1, hk, hord, -, -, hn6⟩ := Cond.instantiable_spec (at_ _ xi_inst)
  cases Option.some.inj (hc1.symm.trans hfound)
  cases Option.some.inj (hkX.symm.trans hk)
  have hsel0 : selectMethod e.platform s.vm P0.m.cls T.fill0 = .method T.fill0 := by
    obtain ⟨c2, r2, m2, q1, q2, q3, q4, -⟩ := Cond.selects_spec (at_ _ xi_sel0)
    cases Option.some.inj (q1.symm.trans hfound)
    cases Option.some.inj (q2.symm.trans (State.methodFound?_of_named Y.fill0 (by decide)))
    cases Option.some.inj (q3.symm.trans Y.fill0)
    rw [Launch.admits_selectMethod X.admits]; exact q4
  have hselF : selectMethod e.platform s.vm P0.m.cls T.fill = .method T.fill := by
    obtain ⟨c2, r2, m2, q1, q2, q3, q4, -⟩ := Cond.selects_spec (at_ _ xi_sel)
    cases Option.some.inj (q1.symm.trans hfound)
    cases Option.some.inj (q2.symm.trans (State.methodFound?_of_named Y.fill (by decide)))
    cases Option.some.inj (q3.symm.trans Y.fill)
    rw [Launch.admits_selectMethod X.admits]; exact q4
  obtain ⟨cellS0, hcS0, hiss⟩ := Y.statics
  obtain ⟨u0, hu0⟩ := Cond.staticRefV Y.unassigned LT.unassignedStatic LT.statics hcS0 hiss (at_ _ xi_un)
  obtain ⟨sen, hsen⟩ := Cond.staticRefV Y.sentinel LT.sentinelStatic LT.statics hcS0 hiss (at_ _ xi_su)
  obtain ⟨cj, ij, fB, hkj, hgj, haj, hsB, -, hnB, htB, hffB⟩ := Cond.ownField (t := .object "java/lang/Object") Y.found LT.cls (by decide +kernel) (at_ _ xi_bl) (at_ _ xi_bt) e.platform hpl
  obtain ⟨cellS, hcS1, heS, -, hkeep⟩ := X.same.2.2.2.2.2 T.aS cellS0 hcS0
  have hfree : ∀ i, (⟨T.aS, i⟩ : Loc) ∉ locs := fun i hmem => by
    have h9 := hlocs _ hmem cellS0 hcS0
    rw [hiss] at h9
    cases h9
  have hknownS : cellS.vm ≠ .unknown := by
    rw [heS]; intro hu
    rw [show cellS0.vm = .unknown from hu] at hiss
    cases hiss
  have hneS : T.aS ≠ a := Nat.ne_of_lt (Nat.lt_of_lt_of_le (Array.getElem?_eq_some_iff.mp hcS0).1 hnew)
  obtain ⟨iM, hffM⟩ := Y.msg
  obtain ⟨tyC, dC, hdC, hdnC⟩ := Cond.laysAt hfound hk Y.cause (at_ _ xi_lc)
  obtain ⟨tyS, dS, hdS, hdnS⟩ := Cond.laysAt hfound hk Y.stack (at_ _ xi_ls)
  obtain ⟨tyP, dP, hdP, hdnP⟩ := Cond.laysAt hfound hk Y.supp (at_ _ xi_lp)
  obtain ⟨tyM, dM, hdM, hdnM⟩ := Cond.laysAt hfound hk hffM (at_ _ xi_lm)
  obtain ⟨tyB, dB, hdB, hdnB⟩ := Cond.laysAt hfound hk hffB (at_ _ xi_lb)
  have bC := Cond.laysApart hdB hdC hdnB hdnC (by rw [hnB, Y.causeName]; decide)
  have bS := Cond.laysApart hdB hdS hdnB hdnS (by rw [hnB, Y.stackName]; decide)
  have bP := Cond.laysApart hdB hdP hdnB hdnP (by rw [hnB, Y.suppName]; decide)
  have hskip : SkipFacts T e.platform s (fun u => u) u0 ((preparedCellV T.toThrowableT (freshCell P0.m.cls kX) a u0 sen).withEntry T0.cur) :=
    ⟨{ ci198 := cj, i198 := ij, fBack := fB }, ⟨hkj, hgj, haj, hsB⟩, by
      have h9 := fresh_default (c := P0.m.cls) tyB
      rw [htB] at h9
      simpa [preparedCellV, Cell.setSlot, Cell.withEntry, Array.getElem?_setIfInBounds, bC, bS, bP, bC.symm, bS.symm, bP.symm, defaultValue] using h9, fun _ _ => rfl⟩
  obtain ⟨tm, methC, cdC, kC, vm1, hnC, -, -, -, -, -, -, -, hW1, st1⟩ := Steps.initColdS (tb := p.tables) (e := e) (below := below) (s := s) (U := T0) X.here hexec X.warmed hpl hown (t := Bundle.initS exN) rfl rfl (by decide +kernel)
    (at_ _ xi_link) (h _ xi_im) (bytes := exB) (maxL := 2) (h _ xi_co) (f := g) hg (a := a) (msg := msg) (rest := .ref a :: rest) hstack hd6
  cases Option.some.inj (hnC.symm.trans hP0)
  have X1 := X.noted hW1
  obtain ⟨vm2, X2, st2⟩ := X1.ctorMessageOffV hexec (g := { g with stack := .ref a :: rest }) hg hsize T LT Z LZ M LM (P0 :: P1 :: Ps)
    (fun P hP => by
      rcases List.mem_cons.mp hP with rfl | hP
      · exact L0
      · rcases List.mem_cons.mp hP with rfl | hP
        · exact L1
        · exact hL P hP) ⟨hl0, hl1, hl2⟩ (u0 := u0) (sen := sen) (self := a) hmsg (cell := freshCell P0.m.cls kX) (cellS := cellS)
    hcell (fun _ => by simp) (by simp) rfl rfl hsel0 hselF hcS1 hneS hknownS (by rw [hkeep _ (hfree _)]; exact hu0) (by rw [hkeep _ (hfree _)]; exact hsen)
    (Takes.of_laid hk hord tyC (by rw [Y.causeType]; rfl)) (Takes.of_laid hk hord tyS (by rw [Y.stackType]; exact fits_refV_array _ u0)) (Takes.of_laid hk hord tyP (by rw [Y.suppType]; exact fits_refV_object _ sen))
    (Takes.of_laid hk hord tyM (by rw [Y.msgType]; exact fits_refV_object _ ⟨msg, hmsg⟩)) Y.objLocals hskip htr [] hd6
    (by simp only [List.length_cons, hlen, List.length_nil]; omega) (by simp only [List.length_cons, hlen, List.length_nil]; omega)
  obtain ⟨hwalk, hrun, hended, hWU, hsame⟩ := X2.athrowLeaves hexec (g := { g with stack := .ref a :: rest, pc := g.pc + 3 }) hg hlocked hentered hout (a := a) (rest := rest) rfl hd9
  have hlt : a < ((T0.setVm vm1).setVm vm2).heap.size := (Array.getElem?_eq_some_iff.mp hcell).1
  have hU := heapAt_setCell_self (s := (T0.setVm vm1).setVm vm2) (plainBareV T.toThrowableT (freshCell P0.m.cls kX) a u0 sen msg) hlt
  refine ⟨_, st1 _ (fun acts => ?_), hrun, hended, hWU, hsame.weaken (fun y hy hy2 => ?_) (Nat.le_refl _) (Nat.le_refl _), _, hU, rfl, rfl⟩
  · rw [doInvoke_state]
    exact st2 _ hwalk
  · rcases List.mem_append.mp hy with h9 | h9
    · exact h9
    · exfalso
      have hb9 : y.base = a := by
        simp only [List.mem_cons, List.not_mem_nil, or_false] at h9
        rcases h9 with rfl | rfl | rfl | rfl | rfl <;> rfl
      rw [hb9] at hy2
      exact Nat.not_lt.mpr hnew hy2
variable {H : Heap} {ls : Array Slot} {rest : List Value} {Qc : Array Value → State → Outcome → State → Prop} {XC : String → State → State → Prop} {free : Addr → Prop}
/-- 'throw new NoSuchElementException("text")' leaves the method -/
theorem xc_throw {cc : ByteArray} {pc : Nat} (hexec : p.tables.exec = Jvm.exec) (hb : c.code = cc) (hl : l.stackTraces = false) {text : String} {mc ms sa : Nat} {A : Nat → Prop}
    (hown : s.vm.findClass RX9 = some m.cls) (hk : (Cond.classLink RX9 118 exN).before args s = true) (hini : (Cond.initialized exN).before args s = true) (hstr : vk_R RX9 120 text sa s) (hat : ∀ w ∈ exL, w.before args s = true)
    (hU : vx_Zq Bundle.tN "UNASSIGNED_STACK" Bundle.steD A s s.heap) (hN : vx_Zq Bundle.tN "SUPPRESSED_SENTINEL" Bundle.listD A s s.heap) (hS : va_S A s.heap H locs) (hsize : ls.size = c.maxLocals)
    (d0 : decode cc pc = .ok (.new 118, 3)) (d3 : decode cc (pc + 3) = .ok (.dup, 1)) (d4 : decode cc (pc + 4) = .ok (.ldc 120, 2)) (d6 : decode cc (pc + 6) = .ok (.invokespecial 122, 3)) (d9 : decode cc (pc + 9) = .ok (.athrow, 1))
    (hout : ∀ x ∈ c.exceptionTable.toList, covers x (pc + 9) = false) (hRf : 5 < R.frames) (hRl : (rest.map fun v => v.category).sum + 82 ≤ R.locals) (hRc : cells + 1 ≤ R.cells) (hRs : slots + 6 ≤ R.slots) (hlocks : meth.locks = false)
    (hx : ∀ t : State, s.vm.Alike t.vm → H.size ≤ t.heap.size → (∀ q : Nat, q < H.size → t.heap[q]? = H[q]?) → XC exN s t) (hf : ∀ z ∈ locs, free z.base) (hc : cells + 1 ≤ mc) (hs : slots + 6 ≤ ms) :
    W p l e R s m args below meth c H locs cells slots (vx_MQ below Qc XC args s mc ms free) (F0 m pc ls rest) := by
  intro T hT X
  have htr : e.platform.stackTraces = false := (show e.platform.stackTraces = l.stackTraces by rw [X.admits.platform]).trans hl
  have Y := vx_rebase X (R' := { frames := R.frames, locals := R.locals, cells := 1, slots := 6 }) (Nat.le_refl _) (Nat.le_refl _) hRc hRs
  obtain ⟨s2, hA⟩ : ∃ z, z = (T.setVm s.vm).setFrames (.invoking m args :: below) := ⟨_, rfl⟩
  rw [← hA] at Y
  have hvm : s2.vm = s.vm := by rw [hA]; rfl
  have hhp : s2.heap = H := by rw [hA]; exact hT
  have hW0 : s.WarmedH s2.vm := by rw [hvm]; exact State.WarmedH.refl s
  have hat2 : ∀ w ∈ exL, w.before args s2 = true := fun w hw => vx_ot_at hW0 hvm.symm (exL_ot w (List.mem_cons_of_mem _ (List.mem_cons_of_mem _ hw))) (hat w hw)
  have hk2 : (Cond.classLink RX9 118 exN).before args s2 = true := vx_ot_at hW0 hvm.symm (exL_ot _ List.mem_cons_self) hk
  have hini2 : (Cond.initialized exN).before args s2 = true := vx_ot_at hW0 hvm.symm (exL_ot _ (List.mem_cons_of_mem _ List.mem_cons_self)) hini
  have hU2 : vx_Zq Bundle.tN "UNASSIGNED_STACK" Bundle.steD A s2 s2.heap := by rw [hhp]; exact vx_Zq.moved hW0.alike (hU.kept hS.2.1)
  have hN2 : vx_Zq Bundle.tN "SUPPRESSED_SENTINEL" Bundle.listD A s2 s2.heap := by rw [hhp]; exact vx_Zq.moved hW0.alike (hN.kept hS.2.1)
  have h : ∀ w ∈ xcA, w.before args s2 = true := vx_own hat2 (vx_isRefq hU2.1) (vx_isRefq hN2.1) hU2.2.word hN2.2.word
  have hown2 : s2.vm.findClass RX9 = some m.cls := by rw [hvm]; exact hown
  obtain ⟨vm1, cX, kX, hfX, hkX, -, -, X1, st1⟩ := Y.newCold hexec (own := RX9) (C := exN) (index := 118) (n := 6) hown2 hk2 (h _ (xi_tail xi_inst)) hini2 (g := F0 m pc ls rest) rfl (by rw [hb]; exact d0) (Nat.le_refl _) (Nat.le_refl _)
  generalize hT1 : (T.setVm vm1).pushCell { cls := cX, slots := kX.instanceTypes.map defaultValue, vm := .none } = T1 at X1 st1
  have hcat : (Value.ref T.heap.size).category = 1 := rfl
  have hcellA : T1.heap[T.heap.size]? = some (freshCell cX kX) := by rw [← hT1]; exact State.heap_pushCell_size _ _
  have d3b : decode c.code (pc + 3) = .ok (.dup, 1) := by rw [hb]; exact d3
  have d4b : decode c.code (pc + 4) = .ok (.ldc 120, 2) := by rw [hb]; exact d4
  have hstr2 : vk_R RX9 120 text sa s2 := vk_R.warm hW0 hstr
  obtain ⟨U, hsteps, hrun, hend, hW, hsame, ce, hce, hcev, hcec⟩ := xc_leave X1 hexec htr hown2 h (fun x hx9 => nomatch hx9) hfX hkX hcellA (by rw [hhp, hT]; exact Nat.le_refl _) (msg := .ref sa) rfl
    (g := { method := m, pc := pc + 6, locals := ls, stack := .ref sa :: .ref T.heap.size :: .ref T.heap.size :: rest, locked := none }) rfl hsize rfl rfl (rest := rest) rfl
    (by rw [hb]; exact d6) (by rw [hb]; exact d9) hout hRf (by simp only [List.map_cons, List.sum_cons, hcat]; omega) hlocks
  obtain ⟨f1, f2⟩ := vx_frame hsame
  rw [hhp] at f1 f2
  have hWs : s.WarmedH U.vm := State.WarmedH.trans hW0 hW
  have hcl : s.vm.findClass exN = some ce.cls := by
    rw [hcec, ← hvm]
    exact hfX
  have hall : s.sameButNew ({ U with vm := s.vm } : State) locs mc ms := by
    subst hA
    obtain ⟨e1, e2⟩ := hsame
    rw [State.setFrames_setFrames] at e1
    have h2 : (T.setVm s.vm).sameButNew ({ U with vm := s.vm } : State) [] (0 + 1) (0 + 6) := ⟨e1, e2⟩
    have h3 := X.same.trans h2
    rw [List.append_nil] at h3
    exact h3.mono hc hs
  refine ⟨U, ?_, .threw T.heap.size, hrun, hend, Or.inr ⟨T.heap.size, rfl, exN, ce, locs, hx U hWs.alike f1 (fun q hq => f2 q hq (fun z hz => nomatch hz)), hce, hcev, hcl, hWs, hall, hf⟩⟩
  refine st1 _ ?_
  show Steps p.tables e below (T1.setTop { method := m, pc := pc + 3, locals := ls, stack := .ref T.heap.size :: rest, locked := none }) _
  jvm_step X1.here [X1.here.top, hexec, d3b, Value.category]
  exact X1.ldcString hexec (own := RX9) (text := text) (index := 120) (a := sa) hown2 hstr2.1 hstr2.2 (g := { method := m, pc := pc + 4, locals := ls, stack := .ref T.heap.size :: .ref T.heap.size :: rest, locked := none }) rfl d4b _ hsteps
end XC
def Ex (sa : Nat) (A : Nat → Prop) (U : State) : Prop := (∀ w ∈ exW, va_Nw w U) ∧ vk_R RX9 120 "no such PLAYERS, or one twice" sa U ∧ vx_Zq Bundle.tN "UNASSIGNED_STACK" Bundle.steD A U U.heap ∧ vx_Zq Bundle.tN "SUPPRESSED_SENTINEL" Bundle.listD A U U.heap
theorem exW_on {w : Cond} (h : w ∈ exW) : exk w = true ∧ w.onTables = true := by
  have h1 := List.all_eq_true.mp exW_k w h
  rw [Bool.and_eq_true] at h1
  exact h1
theorem exW_warm {w : Cond} (h : w ∈ exW) {s U : State} (hW : s.WarmedH U.vm) (hz : va_Nw w s) : va_Nw w U := by
  have h1 := (exW_on h).1
  cases w <;> first | exact va_Nw.warmD hW hz | exact va_Nw.warmC hW hz | exact va_Nw.warmM hW hz | (exact absurd h1 (by decide)) | (exact absurd h1 (by simp [exk]))
theorem Ex.go {sa : Nat} {A B : Nat → Prop} {s U : State} (hW : s.WarmedH U.vm) (hAB : ∀ q, B q → A q) (hH : ∀ a : Nat, a < s.heap.size → ¬ A a → U.heap[a]? = s.heap[a]?) (h : Ex sa A s) : Ex sa B U :=
  ⟨fun w hw => exW_warm hw hW (h.1 w hw), vk_R.warm hW h.2.1, ((h.2.2.1.moved hW.alike).kept hH).narrow hAB, ((h.2.2.2.moved hW.alike).kept hH).narrow hAB⟩
theorem Ex.call {sa : Nat} {A : Nat → Prop} {U : State} {g : JFrame} {mk : MethodId} {a : Array Value} (h : Ex sa A U) : Ex sa A (U.calling g mk a) :=
  ⟨fun w hw => va_Nw.same (exW_on hw).2 (rfl : U.vm = (U.calling g mk a).vm) (h.1 w hw), vk_R.same (u := U) (U := U.calling g mk a) rfl h.2.1, vx_Zq.moved (u := U) (U := U.calling g mk a) (Vm.Alike.refl U.vm) h.2.2.1, vx_Zq.moved (u := U) (U := U.calling g mk a) (Vm.Alike.refl U.vm) h.2.2.2⟩
def exx (κ : Ctx) (sa : Nat) : Prop := Ex sa (kW κ).2.1 (ks κ) ∧ (kl κ).stackTraces = false ∧ ∀ x ∈ (kc κ).exceptionTable.toList, False
def xQ (w : Wenv) (wd : Wd) (σ : Mem) (x : Option Int32) : Array Value → State → Outcome → State → Prop := va_Qi (fun (r : Int32) (_ : Unit) => x = some r) (fun _ t => Pw w wd σ t) w.2.1
def xX (w : Wenv) (wd : Wd) (σ : Mem) (x : Option Int32) : String → State → State → Prop := vx_X (fun _ : Unit => x = none) (fun E _ t => E = exN ∧ va_P w.1 vwCl (wd w σ) t.heap) w.2.1
def qX (κ : Ctx) (wd : Wd) (σ : Mem) : Option Int32 → State → Prop := fun x => vx_MQ (kb κ) (xQ (kW κ) wd σ x) (xX (kW κ) wd σ x) (ka κ) (ks κ) 1 6 (kW κ).2.1
def XCt (l : Launch) (w : Wenv) (wd : Wd) (sa : Nat) (y : MethodName) (cc : ByteArray) (maxL : Nat) (ret : Option FieldType) (fr lo : Nat) (av : List Value) (σ : Mem) (x : Option Int32) : Prop :=
  vx_Met l y (Cond.code y cc maxL ret :: gtbl) { frames := fr, cells := 1, slots := 6, locals := lo } (va_Pc av (fun U => Pw w wd σ U ∧ Ex sa w.2.1 U)) (xQ w wd σ x) (xX w wd σ x) 1 6 w.2.1
theorem r_retX {κ : Ctx} {wd : Wd} {nL : Nat} {σ : Mem} {pc : Nat} {lv : List (Option Value)} {cc : ByteArray} {own : String} {v : Int32} (hC : ok κ wd cc nL own (some .int)) (hdg : decode cc pc = .ok (.ireturn, 1)) : wF κ wd nL (qX κ wd σ) σ pc lv [.int v] (some (some v)) := fun z hz H locs ls h1 h2 h3 => by
  cases hz
  refine vx_ret (W.widen (k := 1) (n := 6) (Nat.zero_le _) (Nat.zero_le _) ?_)
  exact W.iret hC.1 hC.2.1 hC.2.2.2.2.2.1 (fun t ht hW => ⟨⟨v, (), rfl, rfl, by rw [ht]; exact h1, va_K.moved hW.alike hC.2.2.2.2.2.2.2.1, Nst.warm hW hC.2.2.2.2.2.2.2.2.2⟩, h2.F ht⟩) h2.2.2 hdg hC.2.2.2.2.2.2.1
theorem r_thr {κ : Ctx} {σ : Mem} {sa : Nat} {lv : List (Option Value)} (hC : ok κ wC cX9_duel 4 RX9 (some .int)) (hX : exx κ sa) (hR : 8 ≤ (kR κ).frames ∧ 150 ≤ (kR κ).locals ∧ 1 ≤ (kR κ).cells ∧ 6 ≤ (kR κ).slots) : wF κ wC 4 (qX κ wC σ) σ 27 lv [] (some none) := fun z hz H locs ls h1 h2 h3 => by
  cases hz
  have hts := hC.2.2.2.2.1
  obtain ⟨⟨hw, hstr, hU, hN⟩, hl, htab⟩ := hX
  refine xc_throw (cc := cX9_duel) (pc := 27) (A := (kW κ).2.1) hC.1 hC.2.1 hl hC.2.2.2.1 (hts _ k_962) (hts _ k_96) hstr ?_ hU hN h2 (by rw [hC.2.2.1]; exact h3.1) dX9_duel_27 dX9_duel_30 dX9_duel_31 dX9_duel_33 dX9_duel_36 (fun x hx => absurd (htab x hx) id) (Nat.lt_of_lt_of_le (by decide) hR.1) (Nat.le_trans (by decide) hR.2.1) hR.2.2.1 hR.2.2.2 hC.2.2.2.2.2.2.1 ?_ h2.2.2 (Nat.le_refl _) (Nat.le_refl _)
  · exact vx_hat (B := exW) (fun w hw1 => hts _ (gt_in (exL_in w hw1) (List.mem_filter.mp hw1).2)) (fun w hw1 => List.mem_cons_of_mem _ hw1) (fun w hw1 => va_Nw.use (exW_on hw1).2 (hw w hw1))
  · intro t hvm hz hk
    refine ⟨(), rfl, ⟨rfl, ?_⟩, ?_⟩
    · exact h1.kept (fun k q hq => hk q.1 (h1 k q hq).lt)
    · exact ⟨Nat.le_trans h2.1 hz, fun q hq ha => (hk q (Nat.lt_of_lt_of_le hq h2.1)).trans (h2.2.1 q hq ha)⟩
theorem mk_X {l : Launch} {w : Wenv} {wd : Wd} {sa : Nat} {y : MethodName} {cc : ByteArray} {maxL : Nat} {ret : Option FieldType} {fr lo : Nat} {av : List Value} {σ : Mem} {own : String} {lv : List (Option Value)} {x : Option Int32} {o : Option (Option Int32)}
    (hy : plainName y.cls = true) (hown : y.cls = own) (hw : okw w wd) (hlen : (lg_sl av).length ≤ maxL) (hlv : lv_args 0 av = asc 0 lv) (ho : o = some x) (hl0 : l.stackTraces = false)
    (h : ∀ κ : Ctx, kl κ = l → kW κ = w → kR κ = { frames := fr, cells := 1, slots := 6, locals := lo } → exx κ sa → ok κ wd cc maxL own ret → wF κ wd maxL (qX κ wd σ) σ 0 lv [] o) : XCt l w wd sa y cc maxL ret fr lo av σ x := by
  refine vx_ofW (cc := cc) (maxL := maxL) (ret := ret) hy rfl ?_
  intro p e s m args below meth c s1 B hml htab hv
  obtain ⟨rfl, ⟨hP, hK, hN⟩, hE⟩ := hv
  have hts := atoms_spec (ws := Cond.code y cc maxL ret :: gtbl) B.pre
  have hf : s.vm.findClass y.cls = some m.cls := findClass_of_methodNamed B.named
  have h1 := h (w, p, l, e, { frames := fr, cells := 1, slots := 6, locals := lo }, s, m, av.toArray, below, meth, c) rfl rfl rfl ⟨hE, hl0, htab⟩ ⟨B.exec, B.bytes, hml, by rw [← hown]; exact hf, fun w1 hw1 => hts w1 (List.mem_cons_of_mem _ hw1), B.returns, B.notSynchronized, hK, hw, hN⟩ x ho s.heap [] (lg_sl av ++ List.replicate (maxL - (lg_sl av).length) Slot.unset).toArray hP va_S.rf (has_lvp (by rw [← hlv]; exact lv_entry av hlen))
  rw [lg_entry_eq]
  exact h1
def f_D_duel (N : Nat) (a1 : Int32) (a2 : Int32) (a3 : Int32) (σ : Mem) : Option (Option Int32) :=
  if (t_Du_isPlayerN a1 σ) = (0 : Int32) then
  (some none)
  else
  (if (t_Du_isPlayerN a2 σ) = (0 : Int32) then
  (some none)
  else
  (if a1 = a2 then
  (some none)
  else
  (swc a3 [((0 : Int32), ob (f_Du_isBeatingN a1 a2 σ) fun r1 =>
  if r1 = (0 : Int32) then
  (some (some (0 : Int32)))
  else
  (some (some (1 : Int32)))),
  ((1 : Int32), ob (f_Se_isCovering a1 a2 (t_Du_everybodyN σ) σ) fun r2 =>
  if r2 = (0 : Int32) then
  (some (some (0 : Int32)))
  else
  (some (some (1 : Int32)))),
  ((2 : Int32), gd (inb a1 8) (ob (f_Du_beatersOfN a2 (t_Du_everybodyN σ) σ) fun r3 =>
  ob (f_D_lowestOf N ((gI σ 13 a1.toNatClampNeg) &&& r3)) fun r4 =>
  some (some r4)))]
  (some (some (-1 : Int32))))))
set_option maxRecDepth 100000 in
set_option maxHeartbeats 4000000 in
theorem w_D_duel {κ : Ctx} {sa : Nat} (hR : kR κ = { frames := 8, cells := 1, slots := 6, locals := 150 }) (hX : exx κ sa) (hC : ok κ wC cX9_duel 4 RX9 (some .int)) (N : Nat) (a1 : Int32) (a2 : Int32) (a3 : Int32) (σ : Mem) : wF κ wC 4 (qX κ wC σ) σ 0 [some (.ref (ad κ 0)), some (.int a1), some (.int a2), some (.int a3)] [] (f_D_duel N a1 a2 a3 σ) := by
  have hRb : 8 ≤ (kR κ).frames ∧ 150 ≤ (kR κ).locals ∧ 1 ≤ (kR κ).cells ∧ 6 ≤ (kR κ).slots := by rw [hR]; exact ⟨Nat.le_refl _, Nat.le_refl _, Nat.le_refl _, Nat.le_refl _⟩
  have hRb2 : 8 ≤ (kR κ).frames ∧ 150 ≤ (kR κ).locals := ⟨hRb.1, hRb.2.1⟩
  unfold f_D_duel
  refine r_aload_n (pc := 0) hC rfl dX9_duel_0 ?_
  refine gC_0_1 (pc := 1) hC k_312 dX9_duel_1 ?_
  refine r_iload_n (pc := 4) hC rfl dX9_duel_4 ?_
  refine r_cT (pc := 5) (rest := []) (runV [.int a1] hC (c_Du_isPlayerN (kl κ) (kW κ) hC.2.2.2.2.2.2.2.2.1 a1 σ) o_X1_isPlayer k_447 (q0 := 2) (ci := 1) rfl rfl (rm_le hRb2 rfl) rfl (Nat.le_of_ble_eq_true rfl) dX9_duel_5) ?_
  refine r_if_eq (pc := 8) (tgt := 27) hC dX9_duel_8 (by decide) ?_ ?_
  · exact r_thr hC hX hRb
  · refine r_aload_n (pc := 11) hC rfl dX9_duel_11 ?_
    refine gC_0_1 (pc := 12) hC k_312 dX9_duel_12 ?_
    refine r_iload_n (pc := 15) hC rfl dX9_duel_15 ?_
    refine r_cT (pc := 16) (rest := []) (runV [.int a2] hC (c_Du_isPlayerN (kl κ) (kW κ) hC.2.2.2.2.2.2.2.2.1 a2 σ) o_X1_isPlayer k_447 (q0 := 2) (ci := 1) rfl rfl (rm_le hRb2 rfl) rfl (Nat.le_of_ble_eq_true rfl) dX9_duel_16) ?_
    refine r_if_eq (pc := 19) (tgt := 27) hC dX9_duel_19 (by decide) ?_ ?_
    · exact r_thr hC hX hRb
    · refine r_iload_n (pc := 22) hC rfl dX9_duel_22 ?_
      refine r_iload_n (pc := 23) hC rfl dX9_duel_23 ?_
      refine r_icmp_ne (pc := 24) (tgt := 37) hC dX9_duel_24 (by decide) ?_ ?_
      · refine r_iload_n (pc := 37) hC rfl dX9_duel_37 ?_
        refine r_table (pc := 38) (tg := fun i => ([64, 82, 107] : List Nat).getD i 0) (dt := 136) hC 3 dX9_duel_38 (by decide) (by decide) rfl (fun i hi => ?_) ?_
        · rcases (show i = 0 ∨ i = 1 ∨ i = 2 by omega) with rfl | rfl | rfl
          · refine ⟨_, _, _, rfl, by decide, rfl, by decide, ?_⟩
            refine r_aload_n (pc := 64) hC rfl dX9_duel_64 ?_
            refine gC_0_1 (pc := 65) hC k_312 dX9_duel_65 ?_
            refine r_iload_n (pc := 68) hC rfl dX9_duel_68 ?_
            refine r_iload_n (pc := 69) hC rfl dX9_duel_69 ?_
            refine r_cO (pc := 70) (rest := []) (fun r1 hf => runV [.int a1, .int a2] hC (c_Du_isBeatingN (kl κ) (kW κ) hC.2.2.2.2.2.2.2.2.1 a1 a2 σ r1 hf) o_X1_isBeating k_1028 (q0 := 2) (ci := 1) rfl rfl (rm_le hRb2 rfl) rfl (Nat.le_of_ble_eq_true rfl) dX9_duel_70) (fun r1 => ?_)
            refine r_if_eq (pc := 73) (tgt := 80) hC dX9_duel_73 (by decide) ?_ ?_
            · refine r_iconst (pc := 80) hC (v := (0 : Int32)) (by decide) dX9_duel_80 ?_
              exact r_retX hC dX9_duel_81
            · refine r_iconst (pc := 76) hC (v := (1 : Int32)) (by decide) dX9_duel_76 ?_
              refine r_goto (pc := 77) (tgt := 81) hC dX9_duel_77 (by decide) ?_
              exact r_retX hC dX9_duel_81
          · refine ⟨_, _, _, rfl, by decide, rfl, by decide, ?_⟩
            refine r_aload_n (pc := 82) hC rfl dX9_duel_82 ?_
            refine gC_0_7 (pc := 83) hC k_318 dX9_duel_83 ?_
            refine r_iload_n (pc := 86) hC rfl dX9_duel_86 ?_
            refine r_iload_n (pc := 87) hC rfl dX9_duel_87 ?_
            refine r_aload_n (pc := 88) hC rfl dX9_duel_88 ?_
            refine gC_0_1 (pc := 89) hC k_312 dX9_duel_89 ?_
            refine r_cT (pc := 92) (rest := [.int a2, .int a1, .ref (ad κ 8)]) (runV [] hC (c_Du_everybodyN (kl κ) (kW κ) hC.2.2.2.2.2.2.2.2.1 σ) o_X1_everybody k_659 (q0 := 2) (ci := 1) rfl rfl (rm_le hRb2 rfl) rfl (Nat.le_of_ble_eq_true rfl) dX9_duel_92) ?_
            refine r_cO (pc := 95) (rest := []) (fun r2 hf => runV [.int a1, .int a2, .int (t_Du_everybodyN σ)] hC (c_Se_isCovering (kl κ) (kW κ) hC.2.2.2.2.2.2.2.2.1 a1 a2 (t_Du_everybodyN σ) σ r2 hf) o_X6_isCovering k_1029 (q0 := 8) (ci := 6) rfl rfl (rm_le hRb2 rfl) rfl (Nat.le_of_ble_eq_true rfl) dX9_duel_95) (fun r2 => ?_)
            refine r_if_eq (pc := 98) (tgt := 105) hC dX9_duel_98 (by decide) ?_ ?_
            · refine r_iconst (pc := 105) hC (v := (0 : Int32)) (by decide) dX9_duel_105 ?_
              exact r_retX hC dX9_duel_106
            · refine r_iconst (pc := 101) hC (v := (1 : Int32)) (by decide) dX9_duel_101 ?_
              refine r_goto (pc := 102) (tgt := 106) hC dX9_duel_102 (by decide) ?_
              exact r_retX hC dX9_duel_106
          · refine ⟨_, _, _, rfl, by decide, rfl, by decide, ?_⟩
            refine r_aload_n (pc := 107) hC rfl dX9_duel_107 ?_
            refine gC_0_1 (pc := 108) hC k_312 dX9_duel_108 ?_
            refine gC_2_0 (pc := 111) hC k_135 dX9_duel_111 ?_
            refine r_iload_n (pc := 114) hC rfl dX9_duel_114 ?_
            refine aC_13 (pc := 115) hC dX9_duel_115 ?_
            refine r_aload_n (pc := 116) hC rfl dX9_duel_116 ?_
            refine gC_0_1 (pc := 117) hC k_312 dX9_duel_117 ?_
            refine r_iload_n (pc := 120) hC rfl dX9_duel_120 ?_
            refine r_aload_n (pc := 121) hC rfl dX9_duel_121 ?_
            refine gC_0_1 (pc := 122) hC k_312 dX9_duel_122 ?_
            refine r_cT (pc := 125) (rest := [.int a2, .ref (ad κ 2), .int (gI σ 13 a1.toNatClampNeg)]) (runV [] hC (c_Du_everybodyN (kl κ) (kW κ) hC.2.2.2.2.2.2.2.2.1 σ) o_X1_everybody k_659 (q0 := 2) (ci := 1) rfl rfl (rm_le hRb2 rfl) rfl (Nat.le_of_ble_eq_true rfl) dX9_duel_125) ?_
            refine r_cO (pc := 128) (rest := [.int (gI σ 13 a1.toNatClampNeg)]) (fun r3 hf => runV [.int a2, .int (t_Du_everybodyN σ)] hC (c_Du_beatersOfN (kl κ) (kW κ) hC.2.2.2.2.2.2.2.2.1 a2 (t_Du_everybodyN σ) σ r3 hf) o_X1_beatersOf k_717 (q0 := 2) (ci := 1) rfl rfl (rm_le hRb2 rfl) rfl (Nat.le_of_ble_eq_true rfl) dX9_duel_128) (fun r3 => ?_)
            refine r_iand (pc := 131) hC dX9_duel_131 ?_
            refine r_cO (pc := 132) (rest := []) (fun r4 hf => runS [.int ((gI σ 13 a1.toNatClampNeg) &&& r3)] hC (c_D_lowestOf (kl κ) (kW κ) hC.2.2.2.2.2.2.2.2.1 N ((gI σ 13 a1.toNatClampNeg) &&& r3) σ r4 hf) o_X9_lowestOf k_1030 (rm_le hRb2 rfl) rfl (Nat.le_of_ble_eq_true rfl) dX9_duel_132) (fun r4 => ?_)
            exact r_retX hC dX9_duel_135
        · refine r_iconst (pc := 136) hC (v := (-1 : Int32)) (by decide) dX9_duel_136 ?_
          exact r_retX hC dX9_duel_137
      · exact r_thr hC hX hRb
set_option maxRecDepth 100000 in
set_option maxHeartbeats 4000000 in
theorem c_D_duel (l : Launch) (hl0 : l.stackTraces = false) (w : Wenv) (hw : okw w wC) (sa : Nat) (N : Nat) (a1 : Int32) (a2 : Int32) (a3 : Int32) (σ : Mem) (x : Option Int32) (hf : f_D_duel N a1 a2 a3 σ = some x) : XCt l w wC sa yX9_duel cX9_duel 4 (some .int) 8 150 [.ref (w.2.2.1 0), .int a1, .int a2, .int a3] σ x := mk_X (lv := [some (.ref (w.2.2.1 0)), some (.int a1), some (.int a2), some (.int a3)]) (by decide) rfl hw (Nat.le_of_ble_eq_true rfl) rfl hf hl0 (fun κ hl h hR hX hC => by
    subst h
    exact w_D_duel hR hX hC N a1 a2 a3 σ)

def dK (x : Option Int32) : Int32 := match x with
  | none => 1
  | some _ => 0
def dM (σ : Mem) (x : Option Int32) : Mem := match x with
  | none => σ
  | some v => sJ σ 28 0 v.toInt64
theorem blindX (w : Wenv) (wd : Wd) (σ : Mem) (sa : Nat) (av : List Value) : FrameBlind (va_Pc av (fun U => Pw w wd σ U ∧ Ex sa w.2.1 U)) := fun a U g mk q => ⟨q.1, ⟨q.2.1.1, va_K.moved (u := U) (U := U.calling g mk a) (Vm.Alike.refl U.vm) q.2.1.2.1, Nst.same (u := U) (U := U.calling g mk a) rfl q.2.1.2.2⟩, Ex.call q.2.2⟩
set_option maxRecDepth 100000 in
set_option maxHeartbeats 4000000 in
theorem c_L_duel (l : Launch) (hl0 : l.stackTraces = false) (w : Wenv) (hw : okw w wC) (sa N : Nat) (a1 a2 a3 : Int32) (σ : Mem) (x : Option Int32) (hf : f_D_duel N a1 a2 a3 σ = some x) : vx_Met l yL_duel (Cond.codeWith yL_duel cL_duel 6 (some .int) [(0, 12, 15, 13)] :: gtbl) { frames := 9, cells := 1, slots := 6, locals := 173 } (va_Pc [.ref (w.2.2.1 0), .int a1, .int a2, .int a3, .ref (w.2.2.1 28)] (fun U => Pw w wC σ U ∧ Ex sa w.2.1 U)) (cQi w wC (dK x) (dM σ x)) (vx_X (fun _ : Unit => False) (fun _ _ _ => True) w.2.1) 1 6 w.2.1 := by
  refine vx_ofWH (cc := cL_duel) (maxL := 6) (ret := some .int) (by decide) rfl ?_
  intro p e s m args below meth c s1 B hml hv
  obtain ⟨rfl, ⟨hP, hK, hN⟩, hE⟩ := hv
  have hts0 := atoms_spec (ws := Cond.codeWith yL_duel cL_duel 6 (some .int) [(0, 12, 15, 13)] :: gtbl) B.pre
  have hts : ∀ w1 ∈ gtbl, w1.before [Value.ref (w.2.2.1 0), .int a1, .int a2, .int a3, .ref (w.2.2.1 28)].toArray s = true := fun w1 h1 => hts0 w1 (List.mem_cons_of_mem _ h1)
  have htab := vx_table (x := yL_duel) B (hts0 _ List.mem_cons_self)
  have hown : s.vm.findClass RL = some m.cls := findClass_of_methodNamed B.named
  have hx := B.exec
  have hb := B.bytes
  have hr := B.returns
  have hlk := B.notSynchronized
  have hl := lv_entry ([.ref (w.2.2.1 0), .int a1, .int a2, .int a3, .ref (w.2.2.1 28)]) (n := 6) (Nat.le_of_ble_eq_true rfl)
  rw [lg_entry_eq]
  generalize (lg_sl ([.ref (w.2.2.1 0), .int a1, .int a2, .int a3, .ref (w.2.2.1 28)]) ++ List.replicate (6 - (lg_sl ([.ref (w.2.2.1 0), .int a1, .int a2, .int a3, .ref (w.2.2.1 28)])).length) Slot.unset).toArray = ls at hl ⊢
  have hl : lv_has ls 6 [(0, .ref (w.2.2.1 0)), (1, .int a1), (2, .int a2), (3, .int a3), (4, .ref (w.2.2.1 28))] := hl
  refine lv_aload hx hb dL_duel_0 (lv_at hl 4 rfl) ?_
  refine lv_iconst (v := 0) hx hb dL_duel_2 (by decide) ?_
  refine lv_aload_n hx hb dL_duel_3 rfl (lv_at hl 0 rfl) ?_
  refine lv_iload_n hx hb dL_duel_4 rfl (lv_at hl 1 rfl) ?_
  refine lv_iload_n hx hb dL_duel_5 rfl (lv_at hl 2 rfl) ?_
  refine lv_iload_n hx hb dL_duel_6 rfl (lv_at hl 3 rfl) ?_
  have hy := o_X9_duel
  refine vx_calli (SX := Unit) (px := fun _ => x = none) (BX := fun E _ t => E = exN ∧ va_P w.1 vwCl (wC w σ) t.heap) (vx_runV (As := [.int a1, .int a2, .int a3]) (rest := [.int 0, .ref (w.2.2.1 28)]) ⟨hx, hb, hml, hown, hts⟩ (c_D_duel l hl0 w hw sa N a1 a2 a3 σ x hf) (C := RX9) ⟨callB_of 3 hts (ws_good hy.1.1) rfl rfl rfl (hts _ hy.1.2.1) (hts _ k_958) hy.1.2.2 ⟨Nat.le_of_ble_eq_true rfl, Nat.le_of_ble_eq_true rfl⟩, hts _ hy.2.1, hts _ hy.2.2⟩ ⟨blindX _ _ _ _ _, va_recv hK hP (ci := 9) (q0 := 0) rfl rfl, fun U hU hW => ⟨rfl, ⟨by rw [hU]; exact hP, va_K.moved hW.alike hK, Nst.warm hW hN⟩, Ex.go hW (fun _ h => h) (fun a _ _ => by rw [hU]) hE⟩⟩ rfl rfl hl.1 rfl (lv_room (Nat.le_of_ble_eq_true rfl)) dL_duel_7 ⟨Nat.le_of_ble_eq_true rfl, Nat.le_of_ble_eq_true rfl⟩) va_S.rf (fun _ _ h => h) (fun _ h => h) (fun _ _ h => h) ?_ ?_
  · intro E ce q9 u t H1 locs1 ht hvm hpx hB hz hk hS hcell hv hcl
    obtain ⟨rfl, hP1⟩ := hB
    cases hpx
    rw [ht] at hP1
    refine vx_catch (own := RL) (name := exN) (E := exN) hown [] ⟨0, 12, 15, 13⟩ [] (by rw [htab]; rfl) (fun z hz => absurd hz List.not_mem_nil) (by decide) (by decide) (hts _ k_957) (va_Nw.use (exW_on List.mem_cons_self).2 (hE.1 _ List.mem_cons_self)) hcell hv hcl ?_
    refine lv_astore (lv' := [(5, .ref q9), (0, .ref (w.2.2.1 0)), (1, .int a1), (2, .int a2), (3, .int a3), (4, .ref (w.2.2.1 28))]) hx hb dL_duel_15 hl (by decide) rfl (fun ls hl => ?_)
    refine lv_iconst (v := 1) hx hb dL_duel_17 (by decide) ?_
    refine vx_ret ?_
    exact W.iret hx hb hr (fun t2 ht2 hW => ⟨⟨1, (), rfl, rfl, by rw [ht2]; exact hP1, va_K.moved hW.alike hK, Nst.warm hW hN⟩, hS.F ht2⟩) hS.2.2 dL_duel_18 hlk
  · intro r u t H1 locs1 ht hvm hpx hB hz hk hS
    cases hpx
    refine lv_i2l hx hb dL_duel_10 rfl ?_
    refine va_last hx hb hK (by rw [← ht]; exact hB.1) (hw σ) hS 28 2 rfl rfl (inb_in (i := 0) (n := 1) (by decide)) dL_duel_11 (fun H2 locs2 hP2 hD2 hS2 => ?_)
    refine lv_goto (tgt := 19) hx hb dL_duel_12 (by decide) ?_
    refine lv_iconst (v := 0) hx hb dL_duel_19 (by decide) ?_
    refine vx_ret ?_
    exact W.iret hx hb hr (fun t2 ht2 hW => ⟨⟨0, (), rfl, rfl, by rw [ht2]; exact hP2, va_K.moved hW.alike hK, Nst.warm hW hN⟩, hS2.F ht2⟩) hS2.2.2 dL_duel_20 hlk
