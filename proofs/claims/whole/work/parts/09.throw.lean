/-! throwing a new exception -/
def xS1 : Jvm.Cond := .laysStatic "java/lang/Throwable" "UNASSIGNED_STACK" "[Ljava/lang/StackTraceElement;"
def xS2 : Jvm.Cond := .laysStatic "java/lang/Throwable" "SUPPRESSED_SENTINEL" "Ljava/util/List;"
def xS3 : Jvm.Cond := .isRef (.static "java/lang/Throwable" "UNASSIGNED_STACK" "[Ljava/lang/StackTraceElement;")
def xS4 : Jvm.Cond := .isRef (.static "java/lang/Throwable" "SUPPRESSED_SENTINEL" "Ljava/util/List;")
/-- the two statics of Throwable that its constructor reads -/
def xZ (U : State) : Prop := (xS1.before #[] U = true ∧ xS3.before #[] U = true) ∧ xS2.before #[] U = true ∧ xS4.before #[] U = true
/-- the words of a constructor that passes its text on (through RuntimeException, Exception) to Throwable's -/
def xAll (own : String) (ic : Nat) (X : String) (ix : Nat) (rx : ByteArray) : List Jvm.Cond :=
  Bundle.throwableAtoms.filter (fun w => !(w == xS1) && !(w == xS2)) ++ Bundle.throwableSAtoms ++ Bundle.passSAtoms X "java/lang/RuntimeException" ix rx ++ Bundle.chainSAtoms "java/lang/RuntimeException" ["java/lang/Exception"] ++
  [.methodLink own ic (Bundle.initS X), .instantiable X 6, .castable X X, .selects X Bundle.tFill0 Bundle.tFill0, .selects X Bundle.tFill Bundle.tFill,
   .lays X Bundle.tN "cause" "Ljava/lang/Throwable;", .lays X Bundle.tN "stackTrace" Bundle.steD, .lays X Bundle.tN "suppressedExceptions" Bundle.listD, .lays X Bundle.tN "detailMessage" "Ljava/lang/String;",
   .fieldLink Bundle.tN 198 Bundle.tN "backtrace" "Ljava/lang/Object;", .lays Bundle.tN Bundle.tN "backtrace" "Ljava/lang/Object;", .lays X Bundle.tN "backtrace" "Ljava/lang/Object;"]
theorem xS_move {C n d : String} {a a' : Array Value} {U V : State} (h : (Jvm.Cond.laysStatic C n d).before a U = true) (h2 : (Jvm.Cond.isRef (.static C n d)).before a U = true) (hvm : U.vm.Alike V.vm)
    (hh : ∀ (q : Nat) (cell : Cell), U.heap[q]? = some cell → cell.vm.isStatics = true → V.heap[q]? = some cell) :
    (Jvm.Cond.laysStatic C n d).before a' V = true ∧ (Jvm.Cond.isRef (.static C n d)).before a' V = true := by
  obtain ⟨c, k, i, f, q, cell, h1, h3, h4, h5, h6, h7, h8, h9, h10⟩ := Cond.laysStatic_spec h
  obtain ⟨k', hk', hek⟩ := State.fieldFound?_setVm hvm h3
  have hV := hh q cell h6 h7
  have e1 : V.vm.findClass C = some c := by rw [hvm.findClass]; exact h1
  have e2 : V.fieldFound? C n d = some (c, k', i, f) := hk'
  have e3 : k'.statics = some q := by rw [hek]; exact h5
  have e4 : k'.staticTypes[f.slot]? = some f.type := by rw [hek]; exact h10
  refine ⟨?_, ?_⟩
  · simp [Cond.before, Cond.holds, Cond.value, e1, e2, e3, hV, h4, h7, h8, h9, e4]
  · have : (Term.static C n d).eval a' V none [] V = (Term.static C n d).eval a U none [] U := by
      simp [Term.eval, State.fieldNamed?, e2, h3, h4, h5, e3, hV, h6, h7]
    simp only [Cond.before, Cond.holds, Cond.value, this] at h2 ⊢
    exact h2
theorem xZ.move {U V : State} (h : xZ U) (hvm : U.vm.Alike V.vm) (hh : ∀ (q : Nat) (cell : Cell), U.heap[q]? = some cell → cell.vm.isStatics = true → V.heap[q]? = some cell) : xZ V :=
  ⟨xS_move h.1.1 h.1.2 hvm hh, xS_move h.2.1 h.2.2 hvm hh⟩
section XTH
variable {p : Program} {l : Launch} {e : Env} {R : Room} {s : State} {m : MethodId} {args : Array Value} {below : List Frame} {meth : Method} {c : Code} {T : State} {locs : List Loc} {cells slots : Nat}
set_option maxHeartbeats 4000000 in
/-- the constructor's call and the throw -/
theorem xThrow (X : Stand p l e R s m args below meth c T locs cells slots) (hexec : p.tables.exec = Jvm.exec) (hst : l.stackTraces = false) {own cls : String} {ic ix : Nat} {rx : ByteArray}
    (hown : s.vm.findClass own = some m.cls) (hcls : Bundle.fit cls = true) (r0 : decode rx 0 = .ok (.aload_n 0, 1)) (r1 : decode rx 1 = .ok (.aload_n 1, 1)) (r2 : decode rx 2 = .ok (.invokespecial ix, 3)) (r5 : decode rx 5 = .ok (.return_, 1))
    (h : ∀ w ∈ xAll own ic cls ix rx, w.before args s = true) (hZ : xZ s)
    (hlocs : ∀ x ∈ locs, ∀ cell, s.heap[x.base]? = some cell → cell.vm.isStatics = false)
    {a : Addr} {cX : ClassId} {kX : Class} (hfoundX : s.vm.findClass cls = some cX) (hkX : s.vm.classes[cX]? = some kX) (hcell : T.heap[a]? = some { cls := cX, slots := kX.instanceTypes.map defaultValue, vm := .none }) (hnew : s.heap.size ≤ a)
    {msg : Value} (hmsg : msg.isRef = true)
    {g : JFrame} (hg : g.method = m) (hsize : g.locals.size = c.maxLocals) (hlocked : g.locked = none) (hentered : g.entered = []) {rest : List Value} (hstack : g.stack = msg :: .ref a :: .ref a :: rest)
    (hd6 : decode c.code g.pc = .ok (.invokespecial ic, 3)) (hd9 : decode c.code (g.pc + 3) = .ok (.athrow, 1)) (hout : ∀ x ∈ c.exceptionTable.toList, covers x (g.pc + 3) = false)
    (hRframes : 6 ≤ R.frames) (hRlocals : 2 * g.monitorRoom + ((Value.ref a :: rest).map fun v => v.category).sum + 81 ≤ R.locals) (hlocks : meth.locks = false) :
    ∃ (U : State) (ce : Cell), Steps p.tables e below (T.setTop g) U ∧ U.status = .running ∧ Ended U below (.threw a) ∧ s.WarmedH U.vm ∧ s.sameButNew ({ U with vm := s.vm } : State) locs cells slots ∧
      U.heap = T.heap.setIfInBounds a ce ∧ ce.vm = .none ∧ s.vm.findClass cls = some ce.cls := by
  have htr : e.platform.stackTraces = false := by rw [X.admits.platform]; exact hst
  have howns : e.platform.frameOwnsMonitors = true := by rw [X.admits.platform]
  have hfin : e.platform.finalization = false := by rw [X.admits.platform]
  have hpl : e.platform.magicAccessors = ({} : Platform).magicAccessors := by rw [X.admits.platform]
  have hz1 : xS1.before args s = true := (xS_move (a' := args) hZ.1.1 hZ.1.2 (Vm.Alike.refl s.vm) (fun _ _ q _ => q)).1
  have hz3 : xS3.before args s = true := (xS_move (a' := args) hZ.1.1 hZ.1.2 (Vm.Alike.refl s.vm) (fun _ _ q _ => q)).2
  have hz2 : xS2.before args s = true := (xS_move (a' := args) hZ.2.1 hZ.2.2 (Vm.Alike.refl s.vm) (fun _ _ q _ => q)).1
  have hz4 : xS4.before args s = true := (xS_move (a' := args) hZ.2.1 hZ.2.2 (Vm.Alike.refl s.vm) (fun _ _ q _ => q)).2
  have hth : ∀ w ∈ Bundle.throwableAtoms, w.before args s = true := by
    intro w hw
    by_cases e1 : w = xS1
    · rw [e1]; exact hz1
    · by_cases e2 : w = xS2
      · rw [e2]; exact hz2
      · refine h w ?_
        simp only [xAll, List.mem_append]
        refine Or.inl (Or.inl (Or.inl (Or.inl (List.mem_filter.mpr ⟨hw, by simp [e1, e2]⟩))))
  have hts : ∀ w ∈ Bundle.throwableSAtoms, w.before args s = true := fun w hw => h w (by simp only [xAll, List.mem_append]; exact Or.inl (Or.inl (Or.inl (Or.inr hw))))
  have hps : ∀ w ∈ Bundle.passSAtoms cls "java/lang/RuntimeException" ix rx, w.before args s = true := fun w hw => h w (by simp only [xAll, List.mem_append]; exact Or.inl (Or.inl (Or.inr hw)))
  have hcs : ∀ w ∈ Bundle.chainSAtoms "java/lang/RuntimeException" ["java/lang/Exception"], w.before args s = true := fun w hw => h w (by simp only [xAll, List.mem_append]; exact Or.inl (Or.inr hw))
  have hl : ∀ w ∈ [Jvm.Cond.methodLink own ic (Bundle.initS cls), .instantiable cls 6, .castable cls cls, .selects cls Bundle.tFill0 Bundle.tFill0, .selects cls Bundle.tFill Bundle.tFill,
     .lays cls Bundle.tN "cause" "Ljava/lang/Throwable;", .lays cls Bundle.tN "stackTrace" Bundle.steD, .lays cls Bundle.tN "suppressedExceptions" Bundle.listD, .lays cls Bundle.tN "detailMessage" "Ljava/lang/String;",
     .fieldLink Bundle.tN 198 Bundle.tN "backtrace" "Ljava/lang/Object;", .lays Bundle.tN Bundle.tN "backtrace" "Ljava/lang/Object;", .lays cls Bundle.tN "backtrace" "Ljava/lang/Object;"], w.before args s = true := fun w hw => h w (by simp only [xAll, List.mem_append]; exact Or.inr hw)
  obtain ⟨B, Z0, LB, -, Y⟩ := ThrowableC.of_atoms (args := args) howns hfin hpl hth
  obtain ⟨Z, M, LZ, LM, hnZ⟩ := Init0T.ofS_atoms (args := args) hpl LB Y hts
  obtain ⟨P2, Ps, hlen, L2, hL, hP2m, hlink2, hlinkS⟩ := Bundle.chainS (args := args) hpl hnZ ["java/lang/Exception"] "java/lang/RuntimeException" (by decide +kernel) (by decide +kernel) hcs
  obtain ⟨P1, L1, hP1m, hP1s⟩ := PassC.ofS_atoms (args := args) (s := s) hpl (X := cls) (Y := "java/lang/RuntimeException") (Bundle.fit_spec hcls).1 (by decide) r0 r1 r2 r5 hps
  have hP12 : P1.sup = P2.m := Option.some.inj (hP1s.symm.trans hP2m)
  have hcc : cX = P1.m.cls := Option.some.inj (hfoundX.symm.trans (findClass_of_methodNamed hP1m))
  subst hcc
  obtain ⟨c1, k1, hc1, hk1, hord, -, -, hn6⟩ := Cond.instantiable_spec (hl (.instantiable cls 6) (by simp))
  cases Option.some.inj (hc1.symm.trans hfoundX)
  cases Option.some.inj (hkX.symm.trans hk1)
  have sel : ∀ (y : MethodName) (mk : MethodId), s.methodNamed? y = some mk → (y.cls ≠ "java/lang/invoke/MethodHandle" ∧ y.cls ≠ "java/lang/invoke/VarHandle") → (Jvm.Cond.selects cls y y).before args s = true → selectMethod e.platform s.vm P1.m.cls mk = .method mk := by
    intro y mk hy hyn hs
    obtain ⟨c2, q2, m2, w1, w2, w3, w4, -⟩ := Cond.selects_spec hs
    cases Option.some.inj (w1.symm.trans hfoundX)
    cases Option.some.inj (w2.symm.trans (State.methodFound?_of_named hy hyn))
    cases Option.some.inj (w3.symm.trans hy)
    rw [Launch.admits_selectMethod X.admits]; exact w4
  have hsel0 := sel _ _ Y.fill0 (by decide) (hl (.selects cls Bundle.tFill0 Bundle.tFill0) (by simp))
  have hselF := sel _ _ Y.fill (by decide) (hl (.selects cls Bundle.tFill Bundle.tFill) (by simp))
  obtain ⟨cS0, hcS0, hiss⟩ := Y.statics
  obtain ⟨u0, hu0⟩ := Cond.staticRefV Y.unassigned LB.unassignedStatic LB.statics hcS0 hiss hz3
  obtain ⟨sen, hsen⟩ := Cond.staticRefV Y.sentinel LB.sentinelStatic LB.statics hcS0 hiss hz4
  obtain ⟨ciB, iB, fB, hkB, hgB, haB, hsB, -, hnB, htB, hffB⟩ := Cond.ownField (t := .object "java/lang/Object") Y.found LB.cls (by decide +kernel) (hl (.fieldLink Bundle.tN 198 Bundle.tN "backtrace" "Ljava/lang/Object;") (by simp)) (hl (.lays Bundle.tN Bundle.tN "backtrace" "Ljava/lang/Object;") (by simp)) e.platform hpl
  obtain ⟨cS, hcS', heS, -, hkeep⟩ := X.same.2.2.2.2.2 B.aS cS0 hcS0
  have hcellS : T.heap[B.aS]? = some cS := hcS'
  have hfree : ∀ i, (⟨B.aS, i⟩ : Loc) ∉ locs := fun i hmem => by
    have := hlocs _ hmem cS0 hcS0
    rw [hiss] at this; cases this
  have hknownS : cS.vm ≠ .unknown := by
    rw [heS]; intro hu
    rw [show cS0.vm = .unknown from hu] at hiss
    cases hiss
  have hneS : B.aS ≠ a := Nat.ne_of_lt (Nat.lt_of_lt_of_le (Array.getElem?_eq_some_iff.mp hcS0).1 hnew)
  obtain ⟨iM, hffM⟩ := Y.msg
  obtain ⟨tyC, dC, hdC, hdnC⟩ := Cond.laysAt hfoundX hk1 Y.cause (hl (.lays cls Bundle.tN "cause" "Ljava/lang/Throwable;") (by simp))
  obtain ⟨tyS, dS, hdS, hdnS⟩ := Cond.laysAt hfoundX hk1 Y.stack (hl (.lays cls Bundle.tN "stackTrace" Bundle.steD) (by simp))
  obtain ⟨tyP, dP, hdP, hdnP⟩ := Cond.laysAt hfoundX hk1 Y.supp (hl (.lays cls Bundle.tN "suppressedExceptions" Bundle.listD) (by simp))
  obtain ⟨tyM, dM, hdM, hdnM⟩ := Cond.laysAt hfoundX hk1 hffM (hl (.lays cls Bundle.tN "detailMessage" "Ljava/lang/String;") (by simp))
  obtain ⟨tyB, dB, hdB, hdnB⟩ := Cond.laysAt hfoundX hk1 hffB (hl (.lays cls Bundle.tN "backtrace" "Ljava/lang/Object;") (by simp))
  have bC := Cond.laysApart hdB hdC hdnB hdnC (by rw [hnB, Y.causeName]; decide)
  have bS := Cond.laysApart hdB hdS hdnB hdnS (by rw [hnB, Y.stackName]; decide)
  have bP := Cond.laysApart hdB hdP hdnB hdnP (by rw [hnB, Y.suppName]; decide)
  have hskip : SkipFacts B e.platform s (fun u => u) u0 ((preparedCellV B.toThrowableT (freshCell P1.m.cls kX) a u0 sen).withEntry T.cur) :=
    ⟨{ ci198 := ciB, i198 := iB, fBack := fB }, ⟨hkB, hgB, haB, hsB⟩, by
      have := fresh_default (c := P1.m.cls) tyB
      rw [htB] at this
      simpa [preparedCellV, Cell.setSlot, Cell.withEntry, Array.getElem?_setIfInBounds, bC, bS, bP, bC.symm, bS.symm, bP.symm, defaultValue] using this, fun _ _ => rfl⟩
  obtain ⟨tm, methC, cdC, kC, vm₁, hnC, -, -, -, -, -, -, -, hW₁, st1⟩ := Steps.initColdS (tb := p.tables) (e := e) (below := below) (s := s) (U := T) X.here hexec X.warmed hpl hown (t := Bundle.initS cls) rfl rfl (Bundle.fit_spec hcls).2
    (hl (.methodLink own ic (Bundle.initS cls)) (by simp)) (hps (.instanceMethod (Bundle.initS cls)) (by simp [Bundle.passSAtoms])) (bytes := rx) (maxL := 2) (hps (.code (Bundle.initS cls) rx 2 none) (by simp [Bundle.passSAtoms]))
    (f := g) hg (a := a) (msg := msg) (rest := .ref a :: rest) hstack hd6
  cases Option.some.inj (hnC.symm.trans hP1m)
  have X₁ := X.noted hW₁
  obtain ⟨vm₂, X₂, st2⟩ := X₁.ctorMessageOffV hexec (g := { g with stack := .ref a :: rest }) hg hsize B LB Z LZ M LM (P1 :: P2 :: Ps)
    (fun P hP => by
      rcases List.mem_cons.mp hP with rfl | hP
      · exact L1
      · rcases List.mem_cons.mp hP with rfl | hP
        · exact L2
        · exact hL P hP) ⟨hP12, hlink2, hlinkS⟩ (u0 := u0) (sen := sen) (self := a) hmsg (cell := freshCell P1.m.cls kX) (cellS := cS)
    hcell (fun _ => by simp) (by simp) rfl rfl hsel0 hselF hcellS hneS hknownS (by rw [hkeep _ (hfree _)]; exact hu0) (by rw [hkeep _ (hfree _)]; exact hsen)
    (Takes.of_laid hk1 hord tyC (by rw [Y.causeType]; rfl)) (Takes.of_laid hk1 hord tyS (by rw [Y.stackType]; exact fits_refV_array _ u0)) (Takes.of_laid hk1 hord tyP (by rw [Y.suppType]; exact fits_refV_object _ sen))
    (Takes.of_laid hk1 hord tyM (by rw [Y.msgType]; exact fits_refV_object _ ⟨msg, hmsg⟩)) Y.objLocals hskip htr [] hd6
    (by simp only [List.length_cons, hlen, List.length_nil]; omega) (by simp only [List.length_cons, hlen, List.length_nil]; exact hRlocals)
  obtain ⟨hwalk, hrun, hended, hWU, hsame⟩ := X₂.athrowLeaves hexec (g := { g with stack := .ref a :: rest, pc := g.pc + 3 }) hg hlocked hentered hout (a := a) (rest := rest) rfl hd9
  refine ⟨_, plainBareV B.toThrowableT (freshCell P1.m.cls kX) a u0 sen msg, st1 _ (fun acts => ?_), hrun, hended, hWU, hsame.weaken (fun y hy hlt' => ?_) (Nat.le_refl _) (Nat.le_refl _), rfl, rfl, hfoundX⟩
  · rw [doInvoke_state]
    exact st2 _ hwalk
  · rcases List.mem_append.mp hy with h1 | h1
    · exact h1
    · exfalso
      have hb : y.base = a := by
        simp only [List.mem_cons, List.not_mem_nil, or_false] at h1
        rcases h1 with rfl | rfl | rfl | rfl | rfl <;> rfl
      rw [hb] at hlt'
      exact Nat.not_lt.mpr hnew hlt'
end XTH
