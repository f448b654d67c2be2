/-! WALL AND ROW THAT THROW. NoSuchElementException's own constructor calls up by constant 13, not 7: the chain that the library lays for a throw with a text (constant 7 in every class) does not fit it; so the construction is walked here again, after the library's way for it, with the first constructor's bytes its own. -/
def xNSE : String := "java/util/NoSuchElementException"
def xRTE : String := "java/lang/RuntimeException"
def xNm : List String := ["java/lang/Exception"]
def x13 : ByteArray := ⟨#[0x2a, 0x2b, 0xb7, 0x00, 0x0d, 0xb1]⟩
def xOwn : List Cond := Bundle.passSAtoms xNSE xRTE 13 x13 ++ (Bundle.ownAtoms "ChestOfLetters" 179 xNSE (xRTE :: xNm)).filter (fun w => !(decide (w ∈ Bundle.passSAtoms xNSE xRTE 7 Bundle.six)))
def xAt : List Cond := xOwn.filter vx_no
def xTG : List Cond := Cond.classLink "ChestOfLetters" 175 xNSE :: Cond.initialized xNSE :: Cond.classLink "ChestOfLettersLaw" 13 xNSE :: xAt.filter goodWord
def xBad : List Cond := [Cond.declares ⟨"java/lang/RuntimeException", "<init>", "(Ljava/lang/String;)V"⟩, Cond.declares ⟨"java/lang/Exception", "<init>", "(Ljava/lang/String;)V"⟩, Cond.declares ⟨"java/lang/Throwable", "<init>", "(Ljava/lang/String;)V"⟩, Cond.castable xNSE xNSE]
theorem xO1 : ∀ w ∈ Bundle.throwableAtoms, w ∈ xOwn := by decide +kernel
theorem xO2 : ∀ w ∈ Bundle.throwableSAtoms, w ∈ xOwn := by decide +kernel
theorem xO3 : ∀ w ∈ Bundle.passSAtoms xNSE xRTE 13 x13, w ∈ xOwn := fun w h => List.mem_append_left _ h
theorem xO4 : ∀ w ∈ Bundle.chainSAtoms xRTE xNm, w ∈ xOwn := by decide +kernel
theorem xO5 : ∀ w ∈ [Cond.methodLink "ChestOfLetters" 179 (Bundle.initS xNSE), .instantiable xNSE 6, .selects xNSE Bundle.tFill0 Bundle.tFill0, .selects xNSE Bundle.tFill Bundle.tFill, .lays xNSE Bundle.tN "cause" "Ljava/lang/Throwable;", .lays xNSE Bundle.tN "stackTrace" Bundle.steD, .lays xNSE Bundle.tN "suppressedExceptions" Bundle.listD, .lays xNSE Bundle.tN "detailMessage" "Ljava/lang/String;", .isRef (.static Bundle.tN "UNASSIGNED_STACK" Bundle.steD), .isRef (.static Bundle.tN "SUPPRESSED_SENTINEL" Bundle.listD), .fieldLink Bundle.tN 198 Bundle.tN "backtrace" "Ljava/lang/Object;", .lays Bundle.tN Bundle.tN "backtrace" "Ljava/lang/Object;", .lays xNSE Bundle.tN "backtrace" "Ljava/lang/Object;"], w ∈ xOwn := by decide +kernel
section XTC
variable {p : Program} {l : Launch} {e : Env} {R : Room} {s : State} {m₀ : MethodId} {args : Array Value} {below : List Frame} {meth : Method} {c : Code} {W0 : State} {locs : List Loc} {cells slots : Nat}
theorem x13_0 : decode x13 0 = .ok (.aload_n 0, 1) := by decide +kernel
theorem x13_1 : decode x13 1 = .ok (.aload_n 1, 1) := by decide +kernel
theorem x13_2 : decode x13 2 = .ok (.invokespecial 13, 3) := by decide +kernel
theorem x13_5 : decode x13 5 = .ok (.return_, 1) := by decide +kernel
set_option maxHeartbeats 4000000 in
theorem xt_ctor (X : Stand p l e R s m₀ args below meth c W0 locs cells slots) (hexec : p.tables.exec = Jvm.exec) (htr : e.platform.stackTraces = false)
    (hown : s.vm.findClass "ChestOfLetters" = some m₀.cls) (h : ∀ a ∈ xOwn, a.before args s = true)
    (hlocs : ∀ x ∈ locs, ∀ cell, s.heap[x.base]? = some cell → cell.vm.isStatics = false)
    {a : Addr} {cX : ClassId} {kX : Class} (hfoundX : s.vm.findClass xNSE = some cX) (hkX : s.vm.classes[cX]? = some kX) (hcell : W0.heap[a]? = some (freshCell cX kX)) (hnew : s.heap.size ≤ a)
    {msg : Value} (hmsg : msg.isRef = true)
    {g : JFrame} (hg : g.method = m₀) (hsize : g.locals.size = c.maxLocals) (hlocked : g.locked = none) (hentered : g.entered = []) {rest : List Value} (hstack : g.stack = msg :: .ref a :: .ref a :: rest)
    (hd6 : decode c.code g.pc = .ok (.invokespecial 179, 3)) (hd9 : decode c.code (g.pc + 3) = .ok (.athrow, 1)) (hout : ∀ x ∈ c.exceptionTable.toList, covers x (g.pc + 3) = false)
    (hRframes : 5 < R.frames) (hRlocals : 2 * g.monitorRoom + ((Value.ref a :: rest).map fun v => v.category).sum + (13 * 3 + 42) ≤ R.locals) (hlocks : meth.locks = false) :
    ∃ U : State, Steps p.tables e below (W0.setTop g) U ∧ U.status = .running ∧ Ended U below (.threw a) ∧ s.WarmedH U.vm ∧ s.sameButNew ({ U with vm := s.vm } : State) locs cells slots ∧
      ∃ ce, U.heap[a]? = some ce ∧ s.vm.findClass xNSE = some ce.cls ∧ ce.vm = .none := by
  have howns : e.platform.frameOwnsMonitors = true := by rw [X.admits.platform]
  have hfin : e.platform.finalization = false := by rw [X.admits.platform]
  have hpl : e.platform.magicAccessors = ({} : Platform).magicAccessors := by rw [X.admits.platform]
  have o5 : ∀ w, w ∈ xOwn → w.holds args s none s [] = true := fun w hw => h w hw
  have fitN : Bundle.fit xNSE = true := by decide +kernel
  have fitR : Bundle.fit xRTE = true := by decide +kernel
  have fitE : ∀ n ∈ xNm, Bundle.fit n = true := by decide +kernel
  obtain ⟨T, Z0, L, -, Y⟩ := ThrowableC.of_atoms (args := args) howns hfin hpl (fun w hw => h w (xO1 w hw))
  obtain ⟨Z, M, LZ, LM, hnZ⟩ := Init0T.ofS_atoms (args := args) hpl L Y (fun w hw => h w (xO2 w hw))
  obtain ⟨P1, L1, hP1m, hs1⟩ := PassC.ofS_atoms (args := args) (s := s) hpl (X := xNSE) (Y := xRTE) (Bundle.fit_spec fitN).1 (Bundle.fit_spec fitR).2 x13_0 x13_1 x13_2 x13_5 (fun w hw => h w (xO3 w hw))
  obtain ⟨P2, Ps, hlen, L2, hL, hP2m, hlink2, hlink⟩ := Bundle.chainS (args := args) hpl hnZ xNm xRTE fitR fitE (fun w hw => h w (xO4 w hw))
  have hlen2 : Ps.length = 1 := hlen
  have hfound : s.vm.findClass xNSE = some P1.m.cls := findClass_of_methodNamed hP1m
  cases Option.some.inj (hfoundX.symm.trans hfound)
  obtain ⟨c1, kX', hc1, hk, hord, -, -, hn6⟩ := Cond.instantiable_spec (o5 (.instantiable xNSE 6) (xO5 _ (by decide +kernel)))
  cases Option.some.inj (hc1.symm.trans hfound)
  cases Option.some.inj (hkX.symm.trans hk)
  have hsel0 : selectMethod e.platform s.vm P1.m.cls T.fill0 = .method T.fill0 := by
    obtain ⟨c2, r2, m2, q1, q2, q3, q4, -⟩ := Cond.selects_spec (o5 (.selects xNSE Bundle.tFill0 Bundle.tFill0) (xO5 _ (by decide +kernel)))
    cases Option.some.inj (q1.symm.trans hfound)
    cases Option.some.inj (q2.symm.trans (State.methodFound?_of_named Y.fill0 (by decide)))
    cases Option.some.inj (q3.symm.trans Y.fill0)
    rw [Launch.admits_selectMethod X.admits]; exact q4
  have hselF : selectMethod e.platform s.vm P1.m.cls T.fill = .method T.fill := by
    obtain ⟨c2, r2, m2, q1, q2, q3, q4, -⟩ := Cond.selects_spec (o5 (.selects xNSE Bundle.tFill Bundle.tFill) (xO5 _ (by decide +kernel)))
    cases Option.some.inj (q1.symm.trans hfound)
    cases Option.some.inj (q2.symm.trans (State.methodFound?_of_named Y.fill (by decide)))
    cases Option.some.inj (q3.symm.trans Y.fill)
    rw [Launch.admits_selectMethod X.admits]; exact q4
  obtain ⟨cellS0, hcS0, hiss⟩ := Y.statics
  obtain ⟨u0, hu0⟩ := Cond.staticRefV Y.unassigned L.unassignedStatic L.statics hcS0 hiss (o5 (.isRef (.static Bundle.tN "UNASSIGNED_STACK" Bundle.steD)) (xO5 _ (by decide +kernel)))
  obtain ⟨sen, hsen⟩ := Cond.staticRefV Y.sentinel L.sentinelStatic L.statics hcS0 hiss (o5 (.isRef (.static Bundle.tN "SUPPRESSED_SENTINEL" Bundle.listD)) (xO5 _ (by decide +kernel)))
  obtain ⟨ci198, i198, fB, hk198, hg198, ha198, hsB, -, hnB, htB, hffB⟩ := Cond.ownField (t := .object "java/lang/Object") Y.found L.cls (by decide +kernel) (o5 (.fieldLink Bundle.tN 198 Bundle.tN "backtrace" "Ljava/lang/Object;") (xO5 _ (by decide +kernel))) (o5 (.lays Bundle.tN Bundle.tN "backtrace" "Ljava/lang/Object;") (xO5 _ (by decide +kernel))) e.platform hpl
  obtain ⟨cellS, hcS', heS, -, hkeep⟩ := X.same.2.2.2.2.2 T.aS cellS0 hcS0
  have hcellS : W0.heap[T.aS]? = some cellS := hcS'
  have hout' : ∀ i, (⟨T.aS, i⟩ : Loc) ∉ locs := fun i hmem => by
    have := hlocs _ hmem cellS0 hcS0
    rw [hiss] at this; cases this
  have hknownS : cellS.vm ≠ .unknown := by
    rw [heS]; intro hu
    rw [show cellS0.vm = .unknown from hu] at hiss
    cases hiss
  have hneS : T.aS ≠ a := Nat.ne_of_lt (Nat.lt_of_lt_of_le (Array.getElem?_eq_some_iff.mp hcS0).1 hnew)
  obtain ⟨iM, hffM⟩ := Y.msg
  obtain ⟨tyC, dC, hdC, hdnC⟩ := Cond.laysAt hfound hk Y.cause (o5 (.lays xNSE Bundle.tN "cause" "Ljava/lang/Throwable;") (xO5 _ (by decide +kernel)))
  obtain ⟨tyS, dS, hdS, hdnS⟩ := Cond.laysAt hfound hk Y.stack (o5 (.lays xNSE Bundle.tN "stackTrace" Bundle.steD) (xO5 _ (by decide +kernel)))
  obtain ⟨tyP, dP, hdP, hdnP⟩ := Cond.laysAt hfound hk Y.supp (o5 (.lays xNSE Bundle.tN "suppressedExceptions" Bundle.listD) (xO5 _ (by decide +kernel)))
  obtain ⟨tyM, dM, hdM, hdnM⟩ := Cond.laysAt hfound hk hffM (o5 (.lays xNSE Bundle.tN "detailMessage" "Ljava/lang/String;") (xO5 _ (by decide +kernel)))
  obtain ⟨tyB, dB, hdB, hdnB⟩ := Cond.laysAt hfound hk hffB (o5 (.lays xNSE Bundle.tN "backtrace" "Ljava/lang/Object;") (xO5 _ (by decide +kernel)))
  have bC := Cond.laysApart hdB hdC hdnB hdnC (by rw [hnB, Y.causeName]; decide)
  have bS := Cond.laysApart hdB hdS hdnB hdnS (by rw [hnB, Y.stackName]; decide)
  have bP := Cond.laysApart hdB hdP hdnB hdnP (by rw [hnB, Y.suppName]; decide)
  have hskip : SkipFacts T e.platform s (fun u => u) u0 ((preparedCellV T.toThrowableT (freshCell P1.m.cls kX) a u0 sen).withEntry W0.cur) :=
    ⟨{ ci198 := ci198, i198 := i198, fBack := fB }, ⟨hk198, hg198, ha198, hsB⟩, by
      have := fresh_default (c := P1.m.cls) tyB
      rw [htB] at this
      simpa [preparedCellV, Cell.setSlot, Cell.withEntry, Array.getElem?_setIfInBounds, bC, bS, bP, bC.symm, bS.symm, bP.symm, defaultValue] using this, fun _ _ => rfl⟩
  obtain ⟨tm, methC, cdC, kC, vm₁, hnC, -, -, -, -, -, -, -, hW₁, st1⟩ := Steps.initColdS (tb := p.tables) (e := e) (below := below) (s := s) (U := W0) X.here hexec X.warmed hpl hown (t := Bundle.initS xNSE) rfl rfl (Bundle.fit_spec fitN).2
    (o5 (.methodLink "ChestOfLetters" 179 (Bundle.initS xNSE)) (xO5 _ (by decide +kernel))) (h (.instanceMethod (Bundle.initS xNSE)) (xO3 _ (by simp [Bundle.passSAtoms]))) (bytes := x13) (maxL := 2) (h (.code (Bundle.initS xNSE) x13 2 none) (xO3 _ (by simp [Bundle.passSAtoms])))
    (f := g) hg (a := a) (msg := msg) (rest := .ref a :: rest) hstack hd6
  cases Option.some.inj (hnC.symm.trans hP1m)
  have X₁ := X.noted hW₁
  have hsup1 : P1.sup = P2.m := Option.some.inj (hs1.symm.trans hP2m)
  obtain ⟨vm₂, X₂, st2⟩ := X₁.ctorMessageOffV hexec (g := { g with stack := .ref a :: rest }) hg hsize T L Z LZ M LM (P1 :: P2 :: Ps)
    (fun P hP => by rcases List.mem_cons.mp hP with rfl | hP; exact L1; rcases List.mem_cons.mp hP with rfl | hP; exact L2; exact hL P hP) ⟨hsup1, hlink2, hlink⟩ (u0 := u0) (sen := sen) (self := a) hmsg (cell := freshCell P1.m.cls kX) (cellS := cellS)
    hcell (fun _ => by simp) (by simp) rfl rfl hsel0 hselF hcellS hneS hknownS (by rw [hkeep _ (hout' _)]; exact hu0) (by rw [hkeep _ (hout' _)]; exact hsen)
    (Takes.of_laid hk hord tyC (by rw [Y.causeType]; rfl)) (Takes.of_laid hk hord tyS (by rw [Y.stackType]; exact fits_refV_array _ u0)) (Takes.of_laid hk hord tyP (by rw [Y.suppType]; exact fits_refV_object _ sen))
    (Takes.of_laid hk hord tyM (by rw [Y.msgType]; exact fits_refV_object _ ⟨msg, hmsg⟩)) Y.objLocals hskip htr [] hd6
    (by simp only [List.length_cons, hlen2]; omega) (by simp only [List.length_cons, hlen2]; exact hRlocals)
  obtain ⟨hwalk, hrun, hended, hWU, hsame⟩ := X₂.athrowLeaves hexec (g := { g with stack := .ref a :: rest, pc := g.pc + 3 }) hg hlocked hentered hout (a := a) (rest := rest) rfl hd9
  have hlt : a < ((W0.setVm vm₁).setVm vm₂).heap.size := (Array.getElem?_eq_some_iff.mp hcell).1
  have hU := heapAt_setCell_self (s := (W0.setVm vm₁).setVm vm₂) (plainBareV T.toThrowableT (freshCell P1.m.cls kX) a u0 sen msg) hlt
  refine ⟨_, st1 _ (fun acts => ?_), hrun, hended, hWU, hsame.weaken (fun y hy hlt' => ?_) (Nat.le_refl _) (Nat.le_refl _), _, hU, hfound, rfl⟩
  · rw [doInvoke_state]
    exact st2 _ hwalk
  · rcases List.mem_append.mp hy with h1 | h1
    · exact h1
    · exfalso
      have hb : y.base = a := by
        simp only [List.mem_cons, List.not_mem_nil, or_false] at h1
        rcases h1 with rfl | rfl | rfl | rfl | rfl <;> rfl
      rw [hb] at hlt'
      exact Nat.not_lt.mpr hnew hlt'
end XTC
section XTT
variable {p : Program} {l : Launch} {e : Env} {R : Room} {s : State} {m : MethodId} {args : Array Value} {below : List Frame} {meth : Method} {c : Code} {H : Heap} {locs : List Loc} {cells slots : Nat}
variable {mc ms : Nat} {free : Addr → Prop} {ls : Array Slot} {rest : List Value} {Qc : Array Value → State → Outcome → State → Prop} {XC : String → State → State → Prop}
theorem xt_throw {cc : ByteArray} {pc pd : Nat} (hexec : p.tables.exec = Jvm.exec) (hb : c.code = cc) (hl : l.stackTraces = false) {text : String} {is sa : Nat} {A : Nat → Prop}
    (hown : s.vm.findClass "ChestOfLetters" = some m.cls) (hstr : vk_R "ChestOfLetters" is text sa s) (hat : ∀ w ∈ xAt, w.before args s = true)
    (hk : (Cond.classLink "ChestOfLetters" 175 xNSE).before args s = true) (hini : (Cond.initialized xNSE).before args s = true)
    (hgood : ∀ w ∈ Cond.classLink "ChestOfLetters" 175 xNSE :: Cond.initialized xNSE :: xAt, vx_ot w = true)
    (hU : vx_Zq Bundle.tN "UNASSIGNED_STACK" Bundle.steD A s s.heap) (hN : vx_Zq Bundle.tN "SUPPRESSED_SENTINEL" Bundle.listD A s s.heap) (hS : va_S A s.heap H locs) (hsize : ls.size = c.maxLocals)
    (d0 : decode cc pc = .ok (.new 175, 3)) (d3 : decode cc (pc + 3) = .ok (.dup, 1)) (d4 : (decode cc (pc + 4) = .ok (.ldc is, 2) ∧ pd = pc + 6) ∨ (decode cc (pc + 4) = .ok (.ldc_w is, 3) ∧ pd = pc + 7)) (d6 : decode cc pd = .ok (.invokespecial 179, 3)) (d9 : decode cc (pd + 3) = .ok (.athrow, 1))
    (hout : ∀ x ∈ c.exceptionTable.toList, covers x (pd + 3) = false)
    (hRframes : 5 < R.frames) (hRlocals : (rest.map fun v => v.category).sum + (13 * 3 + 43) ≤ R.locals) (hRcells : cells + 1 ≤ R.cells) (hRslots : slots + 6 ≤ R.slots) (hlocks : meth.locks = false)
    (hx : ∀ t : State, s.vm.Alike t.vm → H.size ≤ t.heap.size → (∀ q : Nat, q < H.size → t.heap[q]? = H[q]?) → XC xNSE s t)
    (hf : ∀ z ∈ locs, free z.base) (hc : cells + 1 ≤ mc) (hs : slots + 6 ≤ ms) :
    W p l e R s m args below meth c H locs cells slots (vx_MQ below Qc XC args s mc ms free) (F0 m pc ls rest) := by
  intro T hT X
  have htr : e.platform.stackTraces = false := (show e.platform.stackTraces = l.stackTraces by rw [X.admits.platform]).trans hl
  have Y := vx_rebase X (R' := { frames := R.frames, locals := R.locals, cells := 1, slots := 6 }) (Nat.le_refl _) (Nat.le_refl _) hRcells hRslots
  obtain ⟨s', hA⟩ : ∃ z, z = (T.setVm s.vm).setFrames (.invoking m args :: below) := ⟨_, rfl⟩
  rw [← hA] at Y
  have hvm : s'.vm = s.vm := by rw [hA]; rfl
  have hhp : s'.heap = H := by rw [hA]; exact hT
  have hW0 : s.WarmedH s'.vm := by rw [hvm]; exact State.WarmedH.refl s
  have hat' : ∀ w ∈ xAt, w.before args s' = true := fun w hw => vx_ot_at hW0 hvm.symm (hgood w (List.mem_cons_of_mem _ (List.mem_cons_of_mem _ hw))) (hat w hw)
  have hk' : (Cond.classLink "ChestOfLetters" 175 xNSE).before args s' = true := vx_ot_at hW0 hvm.symm (hgood _ List.mem_cons_self) hk
  have hini' : (Cond.initialized xNSE).before args s' = true := vx_ot_at hW0 hvm.symm (hgood _ (List.mem_cons_of_mem _ List.mem_cons_self)) hini
  have hU' : vx_Zq Bundle.tN "UNASSIGNED_STACK" Bundle.steD A s' s'.heap := by rw [hhp]; exact vx_Zq.moved hW0.alike (hU.kept hS.2.1)
  have hN' : vx_Zq Bundle.tN "SUPPRESSED_SENTINEL" Bundle.listD A s' s'.heap := by rw [hhp]; exact vx_Zq.moved hW0.alike (hN.kept hS.2.1)
  have h : ∀ w ∈ xOwn, w.before args s' = true := vx_own hat' (vx_isRefq hU'.1) (vx_isRefq hN'.1) hU'.2.word hN'.2.word
  have hown' : s'.vm.findClass "ChestOfLetters" = some m.cls := by rw [hvm]; exact hown
  have hins : (Cond.instantiable xNSE 6).before args s' = true := h _ (xO5 _ (by decide +kernel))
  obtain ⟨vm₁, cX, kX, hfX, hkX, -, -, X₁, st1⟩ := Y.newCold hexec (own := "ChestOfLetters") (C := xNSE) (index := 175) (n := 6) hown' hk' hins hini'
    (g := F0 m pc ls rest) rfl (by rw [hb]; exact d0) (Nat.le_refl _) (Nat.le_refl _)
  generalize hT1 : (T.setVm vm₁).pushCell { cls := cX, slots := kX.instanceTypes.map defaultValue, vm := .none } = T1 at X₁ st1
  have hcat : (Value.ref T.heap.size).category = 1 := rfl
  have hcellA : T1.heap[T.heap.size]? = some (freshCell cX kX) := by rw [← hT1]; exact State.heap_pushCell_size _ _
  have d3' : decode c.code (pc + 3) = .ok (.dup, 1) := by rw [hb]; exact d3
  have hstr' : vk_R "ChestOfLetters" is text sa s' := vk_R.warm hW0 hstr
  obtain ⟨U, hsteps, hrun, hend, hW, hsame, ce, hce, hcl0, hvm0⟩ := xt_ctor X₁ hexec htr hown' h (fun x hx => nomatch hx) hfX hkX hcellA (by rw [hhp, hT]; exact Nat.le_refl _) (msg := .ref sa) rfl
    (g := { method := m, pc := pd, locals := ls, stack := .ref sa :: .ref T.heap.size :: .ref T.heap.size :: rest, locked := none }) rfl hsize rfl rfl (rest := rest) rfl
    (by rw [hb]; exact d6) (by rw [hb]; exact d9) hout hRframes (by simp only [List.map_cons, List.sum_cons, hcat]; omega) hlocks
  obtain ⟨f1, f2⟩ := vx_frame hsame
  rw [hhp] at f1 f2
  have hWs : s.WarmedH U.vm := State.WarmedH.trans hW0 hW
  have hcl : s.vm.findClass xNSE = some ce.cls := by
    rw [hvm] at hcl0
    exact hcl0
  have hall : s.sameButNew ({ U with vm := s.vm } : State) locs mc ms := by
    subst hA
    obtain ⟨e1, e2⟩ := hsame
    rw [State.setFrames_setFrames] at e1
    have h2 : (T.setVm s.vm).sameButNew ({ U with vm := s.vm } : State) [] (0 + 1) (0 + 6) := ⟨e1, e2⟩
    have h3 := X.same.trans h2
    rw [List.append_nil] at h3
    exact h3.mono hc hs
  refine ⟨U, ?_, .threw T.heap.size, hrun, hend, Or.inr ⟨T.heap.size, rfl, xNSE, ce, locs, hx U hWs.alike f1 (fun q hq => f2 q hq (fun z hz => nomatch hz)), hce, hvm0, hcl, hWs, hall, hf⟩⟩
  refine st1 _ ?_
  show Steps p.tables e below (T1.setTop { method := m, pc := pc + 3, locals := ls, stack := .ref T.heap.size :: rest, locked := none }) _
  jvm_step X₁.here [X₁.here.top, hexec, d3', Value.category]
  rcases d4 with ⟨d4, rfl⟩ | ⟨d4, rfl⟩
  · have d4' : decode c.code (pc + 4) = .ok (.ldc is, 2) := by rw [hb]; exact d4
    exact X₁.ldcString hexec (own := "ChestOfLetters") (text := text) (index := is) (a := sa) hown' hstr'.1 hstr'.2
      (g := { method := m, pc := pc + 4, locals := ls, stack := .ref T.heap.size :: .ref T.heap.size :: rest, locked := none }) rfl d4' _ hsteps
  · have d4' : decode c.code (pc + 4) = .ok (.ldc_w is, 3) := by rw [hb]; exact d4
    exact X₁.ldcStringW hexec (own := "ChestOfLetters") (text := text) (index := is) (a := sa) hown' hstr'.1 hstr'.2
      (g := { method := m, pc := pc + 4, locals := ls, stack := .ref T.heap.size :: .ref T.heap.size :: rest, locked := none }) rfl d4' _ hsteps
end XTT
theorem xT1 : Cond.classLink "ChestOfLetters" 175 xNSE ∈ lw_tbl := by decide +kernel
theorem xT2 : Cond.initialized xNSE ∈ lw_tbl := by decide +kernel
theorem xT3 : Cond.classLink "ChestOfLettersLaw" 13 xNSE ∈ lw_tbl := by decide +kernel
theorem xT4 : ∀ w ∈ xAt.filter goodWord, w ∈ lw_tbl := by decide +kernel
theorem xTG_tbl : ∀ w ∈ xTG, w ∈ lw_tbl := List.forall_mem_cons.mpr ⟨xT1, List.forall_mem_cons.mpr ⟨xT2, List.forall_mem_cons.mpr ⟨xT3, xT4⟩⟩⟩
theorem xBad_tbl : ∀ w ∈ xBad, w ∈ lw_tbl := by decide +kernel
theorem xTG_good : ∀ w ∈ xTG, goodWord w = true := by decide +kernel
theorem xAt_bad : ∀ w ∈ xAt.filter (fun w => !goodWord w), w ∈ xBad := by decide +kernel
theorem xAt_ot : ∀ w ∈ Cond.classLink "ChestOfLetters" 175 xNSE :: Cond.initialized xNSE :: xAt, vx_ot w = true := by decide +kernel
def TG2 : List Cond := mTG ++ xTG
theorem TG2_tbl : ∀ w ∈ TG2, w ∈ lw_tbl := fun w h => (List.mem_append.mp h).elim (mTG_tbl w) (xTG_tbl w)
theorem TG2_good : ∀ w ∈ TG2, goodWord w = true := fun w h => (List.mem_append.mp h).elim (mok.2.2.2.2.2.2.2.2 w) (xTG_good w)
/-- what a throw stands on beside words -/
def mZ (A : Nat → Prop) (U : State) : Prop := (∃ a, vk_R "ChestOfLetters" 177 "no such wall" a U) ∧ (∃ a, vk_R "ChestOfLetters" 211 "nothing such of a wall" a U) ∧ (∃ a, vk_R "ChestOfLetters" 451 "no such number" a U) ∧ vx_Zq Bundle.tN "UNASSIGNED_STACK" Bundle.steD A U U.heap ∧ vx_Zq Bundle.tN "SUPPRESSED_SENTINEL" Bundle.listD A U U.heap ∧ ∀ w ∈ xBad, va_Nw w U
section LEX
variable {l : Launch} {A A' : Nat → Prop} {s U : State} {H : Heap} {locs : List Loc} {d m sz pc1 : Nat} {M : mM} {as : List mV} {s0 s1 : mS} {ad : Nat → Nat} {ca : Nat → ClassId} {D : va_G} {v p0 q0 : Int32}
theorem mZ_move (h : mZ A s) (hq : ∀ a : Nat, a < s.heap.size → ¬ A a → H[a]? = s.heap[a]?) (hU : U.heap = H) (hW : s.WarmedH U.vm) (hAA : ∀ q, A' q → A q) : mZ A' U := by
  obtain ⟨⟨a1, h1⟩, ⟨a2, h2⟩, ⟨a3, h3⟩, h4, h5, h6⟩ := h
  refine ⟨⟨a1, h1.warm hW⟩, ⟨a2, h2.warm hW⟩, ⟨a3, h3.warm hW⟩, ?_, ?_, fun w hw => ?_⟩
  · rw [hU]; exact vx_Zq.moved hW.alike ((h4.kept hq).narrow hAA)
  · rw [hU]; exact vx_Zq.moved hW.alike ((h5.kept hq).narrow hAA)
  · have h7 := h6 w hw
    simp only [xBad, List.mem_cons, List.not_mem_nil, or_false] at hw
    rcases hw with rfl | rfl | rfl | rfl
    · exact va_Nw.warmD hW h7
    · exact va_Nw.warmD hW h7
    · exact va_Nw.warmD hW h7
    · exact va_Nw.warmC hW h7
theorem mZ_same {U' : State} (h : mZ A U) (hv : U'.vm = U.vm) (hh : U'.heap = U.heap) : mZ A U' := by
  obtain ⟨⟨a1, h1⟩, ⟨a2, h2⟩, ⟨a3, h3⟩, h4, h5, h6⟩ := h
  have al : U.vm.Alike U'.vm := by rw [hv]; exact Vm.Alike.refl _
  refine ⟨⟨a1, h1.same hv⟩, ⟨a2, h2.same hv⟩, ⟨a3, h3.same hv⟩, by rw [hh]; exact vx_Zq.moved al h4, by rw [hh]; exact vx_Zq.moved al h5, fun w hw => ?_⟩
  have h7 := h6 w hw
  have ho : w.onTables = true := by
    have : ∀ w ∈ xBad, w.onTables = true := by decide +kernel
    exact this w hw
  exact va_Nw.same ho hv.symm h7
/-- a start with what a throw stands on -/
def mPz (ad : Nat → Nat) (ca : Nat → ClassId) (D : va_G) (sz : Nat) (s0 : mS) : State → Prop := fun U => mP mTab 97 mCls mNX ad ca D sz s0 U ∧ mZ (va_A (wsO mTab ad ca 97 s0) sz) U
theorem mPz_blind {av : List Value} : FrameBlind (va_Pc av (mPz ad ca D sz s0)) := by
  rintro a U g mk ⟨q0, q1, q2⟩
  exact ⟨q0, (mP_blind (av := av) a U g mk ⟨q0, q1⟩).2, mZ_same q2 rfl rfl⟩
def xQ (ad : Nat → Nat) (ca : Nat → ClassId) (D : va_G) (A : Nat → Prop) (s1 : mS) : String → Unit → State → Prop := fun E _ t => E = xNSE ∧ va_P D mCls (wsO mTab ad ca 97 s1) t.heap ∧ va_K D mCls (tysO ca) t ∧ va_D A (wsO mTab ad ca 97 s1)
/-- which throw stands at a place -/
def xThr (M : mM) (pc : Nat) : Prop := decode M.1 pc = .ok (.new 175, 3) ∧ decode M.1 (pc + 3) = .ok (.dup, 1) ∧ ((decode M.1 (pc + 4) = .ok (.ldc 177, 2) ∧ decode M.1 (pc + 6) = .ok (.invokespecial 179, 3) ∧ decode M.1 (pc + 9) = .ok (.athrow, 1)) ∨ (decode M.1 (pc + 4) = .ok (.ldc 211, 2) ∧ decode M.1 (pc + 6) = .ok (.invokespecial 179, 3) ∧ decode M.1 (pc + 9) = .ok (.athrow, 1)) ∨ (decode M.1 (pc + 4) = .ok (.ldc_w 451, 3) ∧ decode M.1 (pc + 7) = .ok (.invokespecial 179, 3) ∧ decode M.1 (pc + 10) = .ok (.athrow, 1)))
set_option maxHeartbeats 4000000 in
theorem ctr_thr (hfl : l.stackTraces = false) (hd : 10 ≤ d) (hM : mMt m = some M) (hlen : as.length = M.2.2.2.2.1) (hcn : mCN M.2.1 = "ChestOfLetters") (hev : ev d m 0 (pad M.2.2.1 as) [] s0 = some (pc1 + 1, 0, s1)) (hth : xThr M pc1) :
    vx_Met l (mNm m) (Wd mNm mTy TG2 m M) { frames := d + 1, cells := 1, slots := 6, locals := 40 * (d + 1) } (va_Pc (as.map (rl ad)) (mPz ad ca D sz s0)) (va_Qi (fun (_ : Int32) (_ : Unit) => False) (fun _ _ => True) (va_A (wsO mTab ad ca 97 s0) sz)) (vx_X (fun _ : Unit => True) (xQ ad ca D (va_A (wsO mTab ad ca 97 s0) sz) s1) (va_A (wsO mTab ad ca 97 s0) sz)) 1 6 (va_A (wsO mTab ad ca 97 s0) sz) := by
  obtain ⟨n, hn⟩ := evT_iff.mp hev
  obtain ⟨o1, o2, o3, o4, o5, o6, o7, o8, o9⟩ := mok
  obtain ⟨a1, a2, a3, a4, a5, a6, a7, a8, r0, r1, r2, r3⟩ := o5 _ _ hM
  refine vx_ofW (cc := M.1) (maxL := M.2.2.1) (ret := mTy m) a1 rfl ?_
  intro p e s mid args below meth c s₁ B hml htab hv
  obtain ⟨rfl, ⟨hsz, hP, hK, hD0, hNX⟩, hZ⟩ := hv
  have hx := B.exec
  have hb := B.bytes
  have hts0 := atoms_spec (ws := Wd mNm mTy TG2 m M) B.pre
  have hts2 : ∀ w ∈ TG2, w.before (as.map (rl ad)).toArray s = true := fun w hw => hts0 w (List.mem_cons_of_mem _ hw)
  have hts : ∀ w ∈ mTG, w.before (as.map (rl ad)).toArray s = true := fun w hw => hts2 w (List.mem_append_left _ hw)
  have hown : s.vm.findClass (mCN M.2.1) = some mid.cls := by rw [a2]; exact findClass_of_methodNamed B.named
  have hown2 : s.vm.findClass "ChestOfLetters" = some mid.cls := by rw [← hcn]; exact hown
  have hlocks := B.notSynchronized
  subst hsz
  have hD := hD0.self (sz := s.heap.size)
  have hA : ∀ q : Nat, s.heap.size ≤ q → va_A (wsO mTab ad ca 97 s0) s.heap.size q := fun q h => Or.inr h
  have hl := lR_entry (ad := ad) (as := as) (n := M.2.2.1) (by rw [hlen]; exact a7)
  rw [lg_entry_eq]
  refine sW_run (R := { frames := d + 1, cells := 1, slots := 6, locals := 40 * (d + 1) }) (d := d) (m := m) (r := (pc1 + 1, 0, s1)) mok hM hx hb hml hown hts hK hNX (Nat.le_refl _) (Nat.le_refl _) ⟨Nat.zero_le _, Nat.zero_le _⟩ hA (fun d' _ => ctr l d') ⟨fun h => (by cases h), ?_⟩ n 0 (pad M.2.2.1 as) [] s0 hn s.heap [] _ hP hD va_S.rf hl
  intro pc2 hpc H1 locs1 ls1 idx _ hP1 hD1 hS1 hsz1
  have hpc2 : pc2 = pc1 := by
    have hpc : pc1 + 1 = pc2 + 1 := hpc
    omega
  subst hpc2
  obtain ⟨⟨t1, z1⟩, ⟨t2, z2⟩, ⟨t3, z3⟩, hU, hN, hbad⟩ := hZ
  obtain ⟨d0, d3, dd⟩ := hth
  have hk : (Cond.classLink "ChestOfLetters" 175 xNSE).before (as.map (rl ad)).toArray s = true := hts2 _ (List.mem_append_right _ (by simp [xTG]))
  have hini : (Cond.initialized xNSE).before (as.map (rl ad)).toArray s = true := hts2 _ (List.mem_append_right _ (by simp [xTG]))
  have hat : ∀ w ∈ xAt, w.before (as.map (rl ad)).toArray s = true := vx_hat (B := xBad) (fun w hw => hts2 w (List.mem_append_right _ (List.mem_cons_of_mem _ (List.mem_cons_of_mem _ (List.mem_cons_of_mem _ hw))))) xAt_bad (fun w hw => va_Nw.use (by
    have : ∀ w ∈ xBad, w.onTables = true := by decide +kernel
    exact this w hw) (hbad w hw))
  have hXC : ∀ t : State, s.vm.Alike t.vm → H1.size ≤ t.heap.size → (∀ q : Nat, q < H1.size → t.heap[q]? = H1[q]?) → vx_X (fun _ : Unit => True) (xQ ad ca D (va_A (wsO mTab ad ca 97 s0) s.heap.size) s1) (va_A (wsO mTab ad ca 97 s0) s.heap.size) xNSE s t := fun t hal hsz hq => by
    refine ⟨(), trivial, ⟨rfl, va_P.kept hP1 (fun k q hk => hq q.1 (hP1 k q hk).lt), va_K.moved hal hK, hD1⟩, Nat.le_trans hS1.1 hsz, fun q h1 h2 => ?_⟩
    rw [hq q (Nat.lt_of_lt_of_le h1 hS1.1)]
    exact hS1.2.1 q h1 h2
  rcases dd with ⟨d4, d6, d9⟩ | ⟨d4, d6, d9⟩ | ⟨d4, d7, d10⟩
  · exact xt_throw hx hb hfl hown2 z1 hat hk hini xAt_ot hU hN hS1 (by rw [hsz1, hml]) d0 d3 (Or.inl ⟨d4, rfl⟩) d6 d9 (fun x hx => (htab x hx).elim) (by show 5 < d + 1; omega) (by show 0 + (13 * 3 + 43) ≤ 40 * (d + 1); omega) (Nat.le_refl _) (Nat.le_refl _) hlocks hXC hS1.2.2 (Nat.le_refl _) (Nat.le_refl _)
  · exact xt_throw hx hb hfl hown2 z2 hat hk hini xAt_ot hU hN hS1 (by rw [hsz1, hml]) d0 d3 (Or.inl ⟨d4, rfl⟩) d6 d9 (fun x hx => (htab x hx).elim) (by show 5 < d + 1; omega) (by show 0 + (13 * 3 + 43) ≤ 40 * (d + 1); omega) (Nat.le_refl _) (Nat.le_refl _) hlocks hXC hS1.2.2 (Nat.le_refl _) (Nat.le_refl _)
  · exact xt_throw hx hb hfl hown2 z3 hat hk hini xAt_ot hU hN hS1 (by rw [hsz1, hml]) d0 d3 (Or.inr ⟨d4, rfl⟩) d7 d10 (fun x hx => (htab x hx).elim) (by show 5 < d + 1; omega) (by show 0 + (13 * 3 + 43) ≤ 40 * (d + 1); omega) (Nat.le_refl _) (Nat.le_refl _) hlocks hXC hS1.2.2 (Nat.le_refl _) (Nat.le_refl _)
theorem thr_wall11 : xThr mm176 11 := by
  refine ⟨?_, ?_, Or.inl ⟨?_, ?_, ?_⟩⟩ <;> decide +kernel
theorem thr_wall180 : xThr mm176 180 := by
  refine ⟨?_, ?_, Or.inr (Or.inl ⟨?_, ?_, ?_⟩)⟩ <;> decide +kernel
theorem thr_row15 : xThr mm217 15 := by
  refine ⟨?_, ?_, Or.inr (Or.inr ⟨?_, ?_, ?_⟩)⟩ <;> decide +kernel
end LEX
