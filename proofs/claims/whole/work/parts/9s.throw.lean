/-! NoSuchElementException: its constructor passes the text on by entry 13 (the library's law is of entry 7): new, dup, ldc_w, invokespecial, athrow -/
def nsN : String := "java/util/NoSuchElementException"
def nsR : String := "java/lang/RuntimeException"
def nsB : ByteArray := ⟨#[0x2a, 0x2b, 0xb7, 0x00, 0x0d, 0xb1]⟩
theorem nsB_0 : decode nsB 0 = .ok (.aload_n 0, 1) := by decide +kernel
theorem nsB_1 : decode nsB 1 = .ok (.aload_n 1, 1) := by decide +kernel
theorem nsB_2 : decode nsB 2 = .ok (.invokespecial 13, 3) := by decide +kernel
theorem nsB_5 : decode nsB 5 = .ok (.return_, 1) := by decide +kernel
/-- what the tables say of the class itself -/
def nsL : List Cond := [.methodLink "RainWheel" 366 (Bundle.initS nsN), .instantiable nsN 6, .selects nsN Bundle.tFill0 Bundle.tFill0, .selects nsN Bundle.tFill Bundle.tFill,
   .lays nsN Bundle.tN "cause" "Ljava/lang/Throwable;", .lays nsN Bundle.tN "stackTrace" Bundle.steD, .lays nsN Bundle.tN "suppressedExceptions" Bundle.listD, .lays nsN Bundle.tN "detailMessage" "Ljava/lang/String;",
   .isRef (.static Bundle.tN "UNASSIGNED_STACK" Bundle.steD), .isRef (.static Bundle.tN "SUPPRESSED_SENTINEL" Bundle.listD),
   .fieldLink Bundle.tN 198 Bundle.tN "backtrace" "Ljava/lang/Object;", .lays Bundle.tN Bundle.tN "backtrace" "Ljava/lang/Object;", .lays nsN Bundle.tN "backtrace" "Ljava/lang/Object;"]
def nsAt : List Cond := Bundle.throwableAtoms ++ (Bundle.throwableSAtoms ++ (Bundle.passSAtoms nsN nsR 13 nsB ++ (Bundle.chainSAtoms nsR ["java/lang/Exception"] ++ nsL)))
theorem nsAt_a {w : Cond} (h : w ∈ Bundle.throwableAtoms) : w ∈ nsAt := List.mem_append_left _ h
theorem nsAt_b {w : Cond} (h : w ∈ Bundle.throwableSAtoms) : w ∈ nsAt := List.mem_append_right _ (List.mem_append_left _ h)
theorem nsAt_c {w : Cond} (h : w ∈ Bundle.passSAtoms nsN nsR 13 nsB) : w ∈ nsAt := List.mem_append_right _ (List.mem_append_right _ (List.mem_append_left _ h))
theorem nsAt_d {w : Cond} (h : w ∈ Bundle.chainSAtoms nsR ["java/lang/Exception"]) : w ∈ nsAt := List.mem_append_right _ (List.mem_append_right _ (List.mem_append_right _ (List.mem_append_left _ h)))
theorem nsAt_e {w : Cond} (h : w ∈ nsL) : w ∈ nsAt := List.mem_append_right _ (List.mem_append_right _ (List.mem_append_right _ (List.mem_append_right _ h)))
section NS
variable {p : Program} {l : Launch} {e : Env} {R : Room} {s : State} {m₀ : MethodId} {args : Array Value} {below : List Frame} {meth : Method} {c : Code} {W1 : State} {cells slots : Nat}
set_option maxHeartbeats 2000000 in
theorem nsCtor (X : Stand p l e R s m₀ args below meth c W1 [] cells slots) (hexec : p.tables.exec = Jvm.exec) (htr : e.platform.stackTraces = false)
    (hown : s.vm.findClass "RainWheel" = some m₀.cls) (h : ∀ w ∈ nsAt, w.before args s = true)
    {a : Addr} {cX : ClassId} {kX : Class} (hfoundX : s.vm.findClass nsN = some cX) (hkX : s.vm.classes[cX]? = some kX) (hcell : W1.heap[a]? = some (freshCell cX kX)) (hnew : s.heap.size ≤ a)
    {msg : Value} (hmsg : msg.isRef = true)
    {g : JFrame} (hg : g.method = m₀) (hsize : g.locals.size = c.maxLocals) (hlocked : g.locked = none) (hentered : g.entered = []) {rest : List Value} (hstack : g.stack = msg :: .ref a :: .ref a :: rest)
    (hd6 : decode c.code g.pc = .ok (.invokespecial 366, 3)) (hd9 : decode c.code (g.pc + 3) = .ok (.athrow, 1)) (hout : ∀ x ∈ c.exceptionTable.toList, covers x (g.pc + 3) = false)
    (hRframes : 5 < R.frames) (hRlocals : 2 * g.monitorRoom + ((Value.ref a :: rest).map fun v => v.category).sum + 81 ≤ R.locals) (hlocks : meth.locks = false) :
    ∃ U : State, Steps p.tables e below (W1.setTop g) U ∧ U.status = .running ∧ Ended U below (.threw a) ∧ s.WarmedH U.vm ∧ s.sameButNew ({ U with vm := s.vm } : State) [] cells slots ∧
      ∃ ce, U.heap[a]? = some ce ∧ s.vm.findClass nsN = some ce.cls ∧ ce.vm = .none := by
  have howns : e.platform.frameOwnsMonitors = true := by rw [X.admits.platform]
  have hfin : e.platform.finalization = false := by rw [X.admits.platform]
  have hpl : e.platform.magicAccessors = ({} : Platform).magicAccessors := by rw [X.admits.platform]
  have a' : ∀ x, x ∈ nsL → x.holds args s none s [] = true := fun x hx => h x (nsAt_e hx)
  obtain ⟨T, Z0, L, -, Y⟩ := ThrowableC.of_atoms (args := args) howns hfin hpl (fun x hx => h x (nsAt_a hx))
  obtain ⟨Z, M, LZ, LM, hnZ⟩ := Init0T.ofS_atoms (args := args) hpl L Y (fun x hx => h x (nsAt_b hx))
  obtain ⟨P1, L1, hP1m, hs1⟩ := PassC.ofS_atoms (args := args) (s := s) hpl (X := nsN) (Y := nsR) (by decide +kernel) (by decide +kernel) nsB_0 nsB_1 nsB_2 nsB_5 (fun x hx => h x (nsAt_c hx))
  obtain ⟨P2, Ps, hlen, L2, hL, hP2m, hlink1, hlink⟩ := Bundle.chainS (args := args) hpl hnZ ["java/lang/Exception"] nsR (by decide +kernel) (by decide +kernel) (fun x hx => h x (nsAt_d hx))
  have hlen : Ps.length = 1 := hlen
  have hfound : s.vm.findClass nsN = some P1.m.cls := findClass_of_methodNamed hP1m
  cases Option.some.inj (hfoundX.symm.trans hfound)
  obtain ⟨c1, kX', hc1, hk, hord, -, -, hn6⟩ := Cond.instantiable_spec (a' (.instantiable nsN 6) (by simp [nsL]))
  cases Option.some.inj (hc1.symm.trans hfound)
  cases Option.some.inj (hkX.symm.trans hk)
  have hsel0 : selectMethod e.platform s.vm P1.m.cls T.fill0 = .method T.fill0 := by
    obtain ⟨c2, r2, m2, q1, q2, q3, q4, -⟩ := Cond.selects_spec (a' (.selects nsN Bundle.tFill0 Bundle.tFill0) (by simp [nsL]))
    cases Option.some.inj (q1.symm.trans hfound)
    cases Option.some.inj (q2.symm.trans (State.methodFound?_of_named Y.fill0 (by decide)))
    cases Option.some.inj (q3.symm.trans Y.fill0)
    rw [Launch.admits_selectMethod X.admits]; exact q4
  have hselF : selectMethod e.platform s.vm P1.m.cls T.fill = .method T.fill := by
    obtain ⟨c2, r2, m2, q1, q2, q3, q4, -⟩ := Cond.selects_spec (a' (.selects nsN Bundle.tFill Bundle.tFill) (by simp [nsL]))
    cases Option.some.inj (q1.symm.trans hfound)
    cases Option.some.inj (q2.symm.trans (State.methodFound?_of_named Y.fill (by decide)))
    cases Option.some.inj (q3.symm.trans Y.fill)
    rw [Launch.admits_selectMethod X.admits]; exact q4
  obtain ⟨cellS0, hcS0, hiss⟩ := Y.statics
  obtain ⟨u0, hu0⟩ := Cond.staticRefV Y.unassigned L.unassignedStatic L.statics hcS0 hiss (a' (.isRef (.static Bundle.tN "UNASSIGNED_STACK" Bundle.steD)) (by simp [nsL]))
  obtain ⟨sen, hsen⟩ := Cond.staticRefV Y.sentinel L.sentinelStatic L.statics hcS0 hiss (a' (.isRef (.static Bundle.tN "SUPPRESSED_SENTINEL" Bundle.listD)) (by simp [nsL]))
  obtain ⟨ci198, i198, fB, hk198, hg198, ha198, hsB, -, hnB, htB, hffB⟩ := Cond.ownField (t := .object "java/lang/Object") Y.found L.cls (by decide +kernel) (a' (.fieldLink Bundle.tN 198 Bundle.tN "backtrace" "Ljava/lang/Object;") (by simp [nsL])) (a' (.lays Bundle.tN Bundle.tN "backtrace" "Ljava/lang/Object;") (by simp [nsL])) e.platform hpl
  obtain ⟨cellS, hcS', heS, -, hkeep⟩ := X.same.2.2.2.2.2 T.aS cellS0 hcS0
  have hcellS : W1.heap[T.aS]? = some cellS := hcS'
  have hout' : ∀ i, (⟨T.aS, i⟩ : Loc) ∉ ([] : List Loc) := fun i hmem => nomatch hmem
  have hknownS : cellS.vm ≠ .unknown := by
    rw [heS]; intro hu
    rw [show cellS0.vm = .unknown from hu] at hiss
    cases hiss
  have hneS : T.aS ≠ a := Nat.ne_of_lt (Nat.lt_of_lt_of_le (Array.getElem?_eq_some_iff.mp hcS0).1 hnew)
  obtain ⟨iM, hffM⟩ := Y.msg
  obtain ⟨tyC, dC, hdC, hdnC⟩ := Cond.laysAt hfound hk Y.cause (a' (.lays nsN Bundle.tN "cause" "Ljava/lang/Throwable;") (by simp [nsL]))
  obtain ⟨tyS, dS, hdS, hdnS⟩ := Cond.laysAt hfound hk Y.stack (a' (.lays nsN Bundle.tN "stackTrace" Bundle.steD) (by simp [nsL]))
  obtain ⟨tyP, dP, hdP, hdnP⟩ := Cond.laysAt hfound hk Y.supp (a' (.lays nsN Bundle.tN "suppressedExceptions" Bundle.listD) (by simp [nsL]))
  obtain ⟨tyM, dM, hdM, hdnM⟩ := Cond.laysAt hfound hk hffM (a' (.lays nsN Bundle.tN "detailMessage" "Ljava/lang/String;") (by simp [nsL]))
  obtain ⟨tyB, dB, hdB, hdnB⟩ := Cond.laysAt hfound hk hffB (a' (.lays nsN Bundle.tN "backtrace" "Ljava/lang/Object;") (by simp [nsL]))
  have bC := Cond.laysApart hdB hdC hdnB hdnC (by rw [hnB, Y.causeName]; decide)
  have bS := Cond.laysApart hdB hdS hdnB hdnS (by rw [hnB, Y.stackName]; decide)
  have bP := Cond.laysApart hdB hdP hdnB hdnP (by rw [hnB, Y.suppName]; decide)
  have hskip : SkipFacts T e.platform s (fun u => u) u0 ((preparedCellV T.toThrowableT (freshCell P1.m.cls kX) a u0 sen).withEntry W1.cur) :=
    ⟨{ ci198 := ci198, i198 := i198, fBack := fB }, ⟨hk198, hg198, ha198, hsB⟩, by
      have := fresh_default (c := P1.m.cls) tyB
      rw [htB] at this
      simpa [preparedCellV, Cell.setSlot, Cell.withEntry, Array.getElem?_setIfInBounds, bC, bS, bP, bC.symm, bS.symm, bP.symm, defaultValue] using this, fun _ _ => rfl⟩
  obtain ⟨tm, methC, cdC, kC, vm₁, hnC, -, -, -, -, -, -, -, hW₁, st1⟩ := Steps.initColdS (tb := p.tables) (e := e) (below := below) (s := s) (U := W1) X.here hexec X.warmed hpl hown (t := Bundle.initS nsN) rfl rfl (by decide +kernel)
    (a' (.methodLink "RainWheel" 366 (Bundle.initS nsN)) (by simp [nsL])) (h (.instanceMethod (Bundle.initS nsN)) (nsAt_c (by simp [Bundle.passSAtoms]))) (bytes := nsB) (maxL := 2) (h (.code (Bundle.initS nsN) nsB 2 none) (nsAt_c (by simp [Bundle.passSAtoms])))
    (f := g) hg (a := a) (msg := msg) (rest := .ref a :: rest) hstack hd6
  cases Option.some.inj (hnC.symm.trans hP1m)
  have X₁ := X.noted hW₁
  obtain ⟨vm₂, X₂, st2⟩ := X₁.ctorMessageOffV hexec (g := { g with stack := .ref a :: rest }) hg hsize T L Z LZ M LM (P1 :: P2 :: Ps)
    (fun P hP => by
      rcases List.mem_cons.mp hP with rfl | hP
      · exact L1
      rcases List.mem_cons.mp hP with rfl | hP
      · exact L2
      · exact hL P hP) ⟨Option.some.inj (hs1.symm.trans hP2m), hlink1, hlink⟩ (u0 := u0) (sen := sen) (self := a) hmsg (cell := freshCell P1.m.cls kX) (cellS := cellS)
    hcell (fun _ => by simp) (by simp) rfl rfl hsel0 hselF hcellS hneS hknownS (by rw [hkeep _ (hout' _)]; exact hu0) (by rw [hkeep _ (hout' _)]; exact hsen)
    (Takes.of_laid hk hord tyC (by rw [Y.causeType]; rfl)) (Takes.of_laid hk hord tyS (by rw [Y.stackType]; exact fits_refV_array _ u0)) (Takes.of_laid hk hord tyP (by rw [Y.suppType]; exact fits_refV_object _ sen))
    (Takes.of_laid hk hord tyM (by rw [Y.msgType]; exact fits_refV_object _ ⟨msg, hmsg⟩)) Y.objLocals hskip htr [] hd6
    (by simp only [List.length_cons, hlen]; omega) (by simp only [List.length_cons, hlen]; exact hRlocals)
  obtain ⟨hwalk, hrun, hended, hWU, hsame⟩ := X₂.athrowLeaves hexec (g := { g with stack := .ref a :: rest, pc := g.pc + 3 }) hg hlocked hentered hout (a := a) (rest := rest) rfl hd9 hlocks
  have hlt : a < ((W1.setVm vm₁).setVm vm₂).heap.size := (Array.getElem?_eq_some_iff.mp hcell).1
  have hU := heapAt_setCell_self (s := (W1.setVm vm₁).setVm vm₂) (plainBareV T.toThrowableT (freshCell P1.m.cls kX) a u0 sen msg) hlt
  refine ⟨_, st1 _ (fun acts => ?_), hrun, hended, hWU, hsame.weaken (fun y hy hlt' => ?_) (Nat.le_refl _) (Nat.le_refl _), _, hU, hfound, rfl⟩
  · rw [doInvoke_state]
    exact st2 _ hwalk
  · exfalso
    have hb : y.base = a := by
      simp only [List.nil_append, List.mem_cons, List.not_mem_nil, or_false] at hy
      rcases hy with rfl | rfl | rfl | rfl | rfl <;> rfl
    rw [hb] at hlt'
    exact Nat.not_lt.mpr hnew hlt'
end NS
section NT
variable {p : Program} {l : Launch} {e : Env} {R : Room} {s : State} {m : MethodId} {args : Array Value} {below : List Frame} {meth : Method} {c : Code} {H : Heap} {locs : List Loc} {cells slots : Nat} {Qc : Array Value → State → Outcome → State → Prop} {XC : String → State → State → Prop} {free : Addr → Prop} {ls : Array Slot} {rest : List Value}
theorem nsThrow {cc : ByteArray} {pc : Nat} (hexec : p.tables.exec = Jvm.exec) (hb : c.code = cc) (hl : l.stackTraces = false) {text : String} {mc ms sa : Nat} {A : Nat → Prop}
    (hown : s.vm.findClass "RainWheel" = some m.cls)
    (hk : (Cond.classLink "RainWheel" 362 nsN).before args s = true) (hini : (Cond.initialized nsN).before args s = true) (hstr : vk_R "RainWheel" 364 text sa s) (hat : ∀ w ∈ nsAt.filter vx_no, w.before args s = true)
    (hgood : ∀ w ∈ Cond.classLink "RainWheel" 362 nsN :: Cond.initialized nsN :: nsAt.filter vx_no, vx_ot w = true)
    (hU : vx_Zq Bundle.tN "UNASSIGNED_STACK" Bundle.steD A s s.heap) (hN : vx_Zq Bundle.tN "SUPPRESSED_SENTINEL" Bundle.listD A s s.heap) (hS : va_S A s.heap H locs) (hsize : ls.size = c.maxLocals)
    (d0 : decode cc pc = .ok (.new 362, 3)) (d3 : decode cc (pc + 3) = .ok (.dup, 1)) (d4 : decode cc (pc + 4) = .ok (.ldc_w 364, 3)) (d7 : decode cc (pc + 7) = .ok (.invokespecial 366, 3)) (d10 : decode cc (pc + 10) = .ok (.athrow, 1))
    (hout : ∀ x ∈ c.exceptionTable.toList, covers x (pc + 10) = false)
    (hRframes : 5 < R.frames) (hRlocals : (rest.map fun v => v.category).sum + 82 ≤ R.locals) (hRcells : cells + 1 ≤ R.cells) (hRslots : slots + 6 ≤ R.slots) (hlocks : meth.locks = false)
    (hx : ∀ t : State, s.vm.Alike t.vm → H.size ≤ t.heap.size → (∀ q : Nat, q < H.size → t.heap[q]? = H[q]?) → XC nsN s t)
    (hf : ∀ z ∈ locs, free z.base) (hc : cells + 1 ≤ mc) (hs : slots + 6 ≤ ms) :
    W p l e R s m args below meth c H locs cells slots (vx_MQ below Qc XC args s mc ms free) (F0 m pc ls rest) := by
  intro T hT X
  have htr : e.platform.stackTraces = false := (show e.platform.stackTraces = l.stackTraces by rw [X.admits.platform]).trans hl
  have Y := vx_rebase X (R' := { frames := R.frames, locals := R.locals, cells := 1, slots := 6 }) (Nat.le_refl _) (Nat.le_refl _) hRcells hRslots
  obtain ⟨s', hA⟩ : ∃ z, z = (T.setVm s.vm).setFrames (.invoking m args :: below) := ⟨_, rfl⟩
  rw [← hA] at Y
  have hvm : s'.vm = s.vm := by rw [hA]; rfl
  have hhp : s'.heap = H := by rw [hA]; exact hT
  have hW0 : s.WarmedH s'.vm := by rw [hvm]; exact State.WarmedH.refl s
  have hat' : ∀ w ∈ nsAt.filter vx_no, w.before args s' = true := fun w hw => vx_ot_at hW0 hvm.symm (hgood w (List.mem_cons_of_mem _ (List.mem_cons_of_mem _ hw))) (hat w hw)
  have hk' : (Cond.classLink "RainWheel" 362 nsN).before args s' = true := vx_ot_at hW0 hvm.symm (hgood _ List.mem_cons_self) hk
  have hini' : (Cond.initialized nsN).before args s' = true := vx_ot_at hW0 hvm.symm (hgood _ (List.mem_cons_of_mem _ List.mem_cons_self)) hini
  have hU' : vx_Zq Bundle.tN "UNASSIGNED_STACK" Bundle.steD A s' s'.heap := by rw [hhp]; exact vx_Zq.moved hW0.alike (hU.kept hS.2.1)
  have hN' : vx_Zq Bundle.tN "SUPPRESSED_SENTINEL" Bundle.listD A s' s'.heap := by rw [hhp]; exact vx_Zq.moved hW0.alike (hN.kept hS.2.1)
  have h : ∀ w ∈ nsAt, w.before args s' = true := vx_own hat' (vx_isRefq hU'.1) (vx_isRefq hN'.1) hU'.2.word hN'.2.word
  have hown' : s'.vm.findClass "RainWheel" = some m.cls := by rw [hvm]; exact hown
  have hins : (Cond.instantiable nsN 6).before args s' = true := h _ (nsAt_e (by simp [nsL]))
  obtain ⟨vm₁, cX, kX, hfX, hkX, -, -, X₁, st1⟩ := Y.newCold hexec (own := "RainWheel") (C := nsN) (index := 362) (n := 6) hown' hk' hins hini'
    (g := F0 m pc ls rest) rfl (by rw [hb]; exact d0) (Nat.le_refl _) (Nat.le_refl _)
  generalize hT1 : (T.setVm vm₁).pushCell { cls := cX, slots := kX.instanceTypes.map defaultValue, vm := .none } = T1 at X₁ st1
  have hcat : (Value.ref T.heap.size).category = 1 := rfl
  have hcellA : T1.heap[T.heap.size]? = some (freshCell cX kX) := by rw [← hT1]; exact State.heap_pushCell_size _ _
  have d3' : decode c.code (pc + 3) = .ok (.dup, 1) := by rw [hb]; exact d3
  have d4' : decode c.code (pc + 4) = .ok (.ldc_w 364, 3) := by rw [hb]; exact d4
  have hstr' : vk_R "RainWheel" 364 text sa s' := vk_R.warm hW0 hstr
  obtain ⟨U, hsteps, hrun, hend, hW, hsame, ce, hce, hO1, hO2⟩ := nsCtor X₁ hexec htr hown' h hfX hkX hcellA (by rw [hhp, hT]; exact Nat.le_refl _) (msg := .ref sa) rfl
    (g := { method := m, pc := pc + 7, locals := ls, stack := .ref sa :: .ref T.heap.size :: .ref T.heap.size :: rest, locked := none }) rfl hsize rfl rfl (rest := rest) rfl
    (by rw [hb]; exact d7) (by rw [hb]; exact d10) hout hRframes (by simp only [List.map_cons, List.sum_cons, hcat]; omega) hlocks
  obtain ⟨f1, f2⟩ := vx_frame hsame
  rw [hhp] at f1 f2
  have hWs : s.WarmedH U.vm := State.WarmedH.trans hW0 hW
  have hcl : s.vm.findClass nsN = some ce.cls := by
    rw [hvm] at hO1
    exact hO1
  have hall : s.sameButNew ({ U with vm := s.vm } : State) locs mc ms := by
    subst hA
    obtain ⟨e1, e2⟩ := hsame
    rw [State.setFrames_setFrames] at e1
    have h2 : (T.setVm s.vm).sameButNew ({ U with vm := s.vm } : State) [] (0 + 1) (0 + 6) := ⟨e1, e2⟩
    have h3 := X.same.trans h2
    rw [List.append_nil] at h3
    exact h3.mono hc hs
  refine ⟨U, ?_, .threw T.heap.size, hrun, hend, Or.inr ⟨T.heap.size, rfl, nsN, ce, locs, hx U hWs.alike f1 (fun q hq => f2 q hq (fun z hz => nomatch hz)), hce, hO2, hcl, hWs, hall, hf⟩⟩
  refine st1 _ ?_
  show Steps p.tables e below (T1.setTop { method := m, pc := pc + 3, locals := ls, stack := .ref T.heap.size :: rest, locked := none }) _
  jvm_step X₁.here [X₁.here.top, hexec, d3', Value.category]
  exact X₁.ldcStringW hexec (own := "RainWheel") (text := text) (index := 364) (a := sa) hown' hstr'.1 hstr'.2
    (g := { method := m, pc := pc + 4, locals := ls, stack := .ref T.heap.size :: .ref T.heap.size :: rest, locked := none }) rfl d4' _ hsteps
end NT
set_option maxRecDepth 100000 in
theorem nsTg : ∀ w ∈ (nsAt.filter vx_no).filter goodWord, w ∈ lw_tbl := by decide +kernel
set_option maxRecDepth 100000 in
theorem nsTn : ∀ w ∈ (nsAt.filter vx_no).filter (fun w => !goodWord w), w ∈ zNg := by decide +kernel
set_option maxRecDepth 100000 in
theorem nsTo : ∀ w ∈ Cond.classLink "RainWheel" 362 nsN :: Cond.initialized nsN :: nsAt.filter vx_no, vx_ot w = true := by decide +kernel
set_option maxRecDepth 100000 in
theorem nsTk1 : Cond.classLink "RainWheel" 362 nsN ∈ lw_tbl := by decide +kernel
set_option maxRecDepth 100000 in
theorem nsTk2 : Cond.initialized nsN ∈ lw_tbl := by decide +kernel
theorem nsTk : Cond.classLink "RainWheel" 362 nsN ∈ zGd ∧ Cond.initialized nsN ∈ zGd := ⟨zGd_in nsTk1 rfl, zGd_in nsTk2 rfl⟩
theorem nsTd_0 : decode (zB 117) 19 = .ok (.new 362, 3) := by decide +kernel
theorem nsTd_3 : decode (zB 117) 22 = .ok (.dup, 1) := by decide +kernel
theorem nsTd_4 : decode (zB 117) 23 = .ok (.ldc_w 364, 3) := by decide +kernel
theorem nsTd_7 : decode (zB 117) 26 = .ok (.invokespecial 366, 3) := by decide +kernel
theorem nsTd_10 : decode (zB 117) 29 = .ok (.athrow, 1) := by decide +kernel
section ZT
variable {l : Launch} {D : va_G} {κ : Nat → ClassId} {ρ : Nat → Nat} {A : Nat → Prop} {g : Int → Int} {d μ pc len : Nat} {a b : Int} {ls st : List zV} {S : zS} {i : Instr}
theorem zp34 (hμ : μ < 335) (hzc : zC μ pc = some (34, a, b, len)) (hcat : (st.map zcat).sum ≤ 8) : zSnd l D κ ρ A g d μ pc ls st S (.inr a.toNat, (S.1, S.2.1, S.2.2.1 + 1, S.2.2.2)) := by
  have hsite := zTh hμ hzc
  refine ⟨⟨Nat.le_refl _, Nat.le_succ _⟩, fun p e R s m args below meth c C σ0 n0 σ H locs cells slots lsC hn0 hσ hP hD hS hI hl hst hce hsl => ?_⟩
  obtain ⟨⟨hlt, hx, hb, hml, hown, hts⟩, ⟨hr1, hlk, hnm, htb⟩, hK, hKn, hA, hfr, hlo⟩ := id C
  have hcs : ((st.map (zc σ ρ)).map fun v => v.category).sum ≤ 8 := by rw [z_catsum]; exact hcat
  have hce' : cells + 1 ≤ R.cells := by
    unfold zCc at hce
    dsimp only at hce
    omega
  have hsl' : slots + 6 ≤ R.slots := by
    unfold zSl at hsl
    dsimp only at hsl
    omega
  have hng : ∀ w ∈ zNg, w.before args s = true := by
    intro w hw
    rcases List.mem_append.mp hw with q | q
    · obtain ⟨x, hx1, rfl⟩ := List.mem_map.mp q
      exact va_Nw.use rfl (hKn.2.1.2.2.2.2.1 x hx1)
    · obtain ⟨x, hx1, rfl⟩ := List.mem_map.mp q
      exact va_Nw.use rfl (hKn.2.1.2.2.2.2.2 x hx1)
  have hXC : ∀ E, E = zExc a.toNat → ∀ t : State, s.vm.Alike t.vm → H.size ≤ t.heap.size → (∀ q : Nat, q < H.size → t.heap[q]? = H[q]?) → zXc D κ A g σ0 n0 (.inr a.toNat, (S.1, S.2.1, S.2.2.1 + 1, S.2.2.2)) E s t := by
    intro E hE t hv h1 h2
    refine ⟨a.toNat, σ, rfl, hE, hσ, ⟨hP.kept (fun k q hk => h2 q.1 (hP k q hk).lt), va_K.moved hv hK, hD, hI⟩, Nat.le_trans hS.1 h1, fun q q1 q2 => ?_⟩
    rw [h2 q (Nat.lt_of_lt_of_le q1 hS.1)]
    exact hS.2.1 q q1 q2
  simp only [List.mem_cons, Prod.mk.injEq, List.not_mem_nil, or_false] at hsite
  rcases hsite with ⟨rfl, rfl, rfl, rfl⟩ | ⟨rfl, rfl, rfl, rfl⟩ | ⟨rfl, rfl, rfl, rfl⟩
  · exact vx_throwSW (cls := "java/lang/IllegalArgumentException") (names := ["java/lang/RuntimeException", "java/lang/Exception"]) hx hb hlt (own := "RainWheel") hown (by decide +kernel) (by decide +kernel) (hts _ zTk_0.1) (hts _ zTk_0.2) ((hKn.2.2.1 0 (by decide)).1) (vx_hat (fun w hw => hts w (zGd_in (zTg_0 w hw) (List.mem_filter.mp hw).2)) zTn_0 hng) zTo_0 hKn.2.2.2.1 hKn.2.2.2.2.1 hS (hl.2.1.1.trans hml.symm) zTd_0_0 zTd_0_3 zTd_0_4 zTd_0_7 zTd_0_10 (fun x hx => by rw [htb] at hx; cases hx) (by simp only [List.length_cons, List.length_nil]; omega) (by simp only [List.length_cons, List.length_nil]; omega) hce' hsl' hlk (hXC _ rfl) hS.2.2 hce' hsl'
  · exact nsThrow hx hb hlt hown (hts _ nsTk.1) (hts _ nsTk.2) ((hKn.2.2.1 21 (by decide)).1) (vx_hat (fun w hw => hts w (zGd_in (nsTg w hw) (List.mem_filter.mp hw).2)) nsTn hng) nsTo hKn.2.2.2.1 hKn.2.2.2.2.1 hS (hl.2.1.1.trans hml.symm) nsTd_0 nsTd_3 nsTd_4 nsTd_7 nsTd_10 (fun x hx => by rw [htb] at hx; cases hx) (by omega) (by omega) hce' hsl' hlk (hXC _ rfl) hS.2.2 hce' hsl'
  · exact vx_throwSW (cls := "java/lang/IllegalStateException") (names := ["java/lang/RuntimeException", "java/lang/Exception"]) hx hb hlt (own := "RainWheel") hown (by decide +kernel) (by decide +kernel) (hts _ zTk_2.1) (hts _ zTk_2.2) ((hKn.2.2.1 22 (by decide)).1) (vx_hat (fun w hw => hts w (zGd_in (zTg_2 w hw) (List.mem_filter.mp hw).2)) zTn_2 hng) zTo_2 hKn.2.2.2.1 hKn.2.2.2.2.1 hS (hl.2.1.1.trans hml.symm) zTd_2_0 zTd_2_3 zTd_2_4 zTd_2_7 zTd_2_10 (fun x hx => by rw [htb] at hx; cases hx) (by simp only [List.length_cons, List.length_nil]; omega) (by simp only [List.length_cons, List.length_nil]; omega) hce' hsl' hlk (hXC _ rfl) hS.2.2 hce' hsl'
end ZT
