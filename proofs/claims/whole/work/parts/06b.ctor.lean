/-- the words of 'throw new E(text)', E's own constructor calling RuntimeException's by the pool's place ix in the code rx -/
def bh_oat (own : String) (ic : Nat) (E : String) (ix : Nat) (rx : ByteArray) : List Cond :=
  Bundle.throwableAtoms ++ Bundle.throwableSAtoms ++ Bundle.passSAtoms E "java/lang/RuntimeException" ix rx ++ Bundle.chainSAtoms "java/lang/RuntimeException" ["java/lang/Exception"] ++
  [.methodLink own ic (Bundle.initS E), .instantiable E 6, .castable E E, .selects E Bundle.tFill0 Bundle.tFill0, .selects E Bundle.tFill Bundle.tFill, .lays E Bundle.tN "cause" "Ljava/lang/Throwable;", .lays E Bundle.tN "stackTrace" Bundle.steD, .lays E Bundle.tN "suppressedExceptions" Bundle.listD, .lays E Bundle.tN "detailMessage" "Ljava/lang/String;",
   .isRef (.static Bundle.tN "UNASSIGNED_STACK" Bundle.steD), .isRef (.static Bundle.tN "SUPPRESSED_SENTINEL" Bundle.listD), .fieldLink Bundle.tN 198 Bundle.tN "backtrace" "Ljava/lang/Object;", .lays Bundle.tN Bundle.tN "backtrace" "Ljava/lang/Object;", .lays E Bundle.tN "backtrace" "Ljava/lang/Object;"]
section BCT
variable {p : Program} {l : Launch} {e : Env} {R : Room} {s : State} {m : MethodId} {args : Array Value} {below : List Frame} {meth : Method} {c : Code} {T : State} {cells slots : Nat}
set_option maxHeartbeats 2000000 in
/-- a made exception of class E at a, in a method that has written nothing old yet: its constructor runs, and it is thrown out of the method -/
theorem bh_ctor (X : Stand p l e R s m args below meth c T [] cells slots) (hx : p.tables.exec = Jvm.exec) (htr : e.platform.stackTraces = false) {own E : String} {ic ix : Nat} {rx : ByteArray} (x0 : decode rx 0 = .ok (.aload_n 0, 1)) (x1 : decode rx 1 = .ok (.aload_n 1, 1)) (x2 : decode rx 2 = .ok (.invokespecial ix, 3)) (x5 : decode rx 5 = .ok (.return_, 1))
    (hown : s.vm.findClass own = some m.cls) (hE : Bundle.fit E = true) (hat : ∀ w ∈ bh_oat own ic E ix rx, w.before args s = true) {a : Addr} {cX : ClassId} {kX : Class} (hfX : s.vm.findClass E = some cX) (hkX : s.vm.classes[cX]? = some kX) (hcell : T.heap[a]? = some (freshCell cX kX)) (hnew : s.heap.size ≤ a) {sa : Nat}
    {g : JFrame} (hg : g.method = m) (hsize : g.locals.size = c.maxLocals) (hlocked : g.locked = none) (hentered : g.entered = []) (hstack : g.stack = [.ref sa, .ref a, .ref a]) (d6 : decode c.code g.pc = .ok (.invokespecial ic, 3)) (d9 : decode c.code (g.pc + 3) = .ok (.athrow, 1)) (hout : ∀ x ∈ c.exceptionTable.toList, covers x (g.pc + 3) = false)
    (hRf : 2 + 3 < R.frames) (hRl : 2 * g.monitorRoom + 1 + (13 * (2 + 1) + 42) ≤ R.locals) (hlocks : meth.locks = false) :
    ∃ U : State, Steps p.tables e below (T.setTop g) U ∧ U.status = .running ∧ Ended U below (.threw a) ∧ s.WarmedH U.vm ∧ s.sameButNew ({ U with vm := s.vm } : State) [] cells slots ∧ ∃ ce, U.heap[a]? = some ce ∧ ce.vm = .none ∧ s.vm.findClass E = some ce.cls := by
  have q1 : e.platform.frameOwnsMonitors = true := by rw [X.admits.platform]
  have q2 : e.platform.finalization = false := by rw [X.admits.platform]
  have q3 : e.platform.magicAccessors = ({} : Platform).magicAccessors := by rw [X.admits.platform]
  have w : ∀ z, z ∈ bh_oat own ic E ix rx → z.holds args s none s [] = true := hat
  obtain ⟨TC, Z0, TL, -, TY⟩ := ThrowableC.of_atoms (args := args) q1 q2 q3 (fun z hz => hat z (by simp [bh_oat, hz]))
  obtain ⟨IZ, IM, hZ, hM, hnZ⟩ := Init0T.ofS_atoms (args := args) q3 TL TY (fun z hz => hat z (by simp [bh_oat, hz]))
  obtain ⟨P1, hP1, hP1m, hP1s⟩ := PassC.ofS_atoms (args := args) (s := s) q3 (X := E) (Y := "java/lang/RuntimeException") (Bundle.fit_spec hE).1 (by decide) x0 x1 x2 x5 (fun z hz => hat z (by simp [bh_oat, hz]))
  obtain ⟨P2, Ps, hlen, hP2, hPs, hP2m, hP2s, hchain⟩ := Bundle.chainS (args := args) q3 hnZ ["java/lang/Exception"] "java/lang/RuntimeException" (by decide +kernel) (by decide +kernel) (fun z hz => hat z (by simp [bh_oat, hz]))
  have hlk : P1.sup = P2.m := Option.some.inj (hP1s.symm.trans hP2m)
  have hfE : s.vm.findClass E = some P1.m.cls := findClass_of_methodNamed hP1m
  have ecX : cX = P1.m.cls := Option.some.inj (hfX.symm.trans hfE)
  subst ecX
  obtain ⟨c1, k1, hc1, hk1, hord, -, -, -⟩ := Cond.instantiable_spec (w (.instantiable E 6) (by simp [bh_oat]))
  have ec1 : c1 = P1.m.cls := Option.some.inj (hc1.symm.trans hfE)
  subst ec1
  have ek1 : k1 = kX := Option.some.inj (hk1.symm.trans hkX)
  subst ek1
  have sel : ∀ {y : MethodName} {k : MethodId}, s.methodNamed? y = some k → (y.cls ≠ "java/lang/invoke/MethodHandle" ∧ y.cls ≠ "java/lang/invoke/VarHandle") → (Cond.selects E y y).holds args s none s [] = true → selectMethod e.platform s.vm P1.m.cls k = .method k := by
    intro y k hy hne hsel
    obtain ⟨c2, r2, m2, g1, g2, g3, g4, -⟩ := Cond.selects_spec hsel
    cases Option.some.inj (g1.symm.trans hfE)
    cases Option.some.inj (g2.symm.trans (State.methodFound?_of_named hy hne))
    cases Option.some.inj (g3.symm.trans hy)
    rw [Launch.admits_selectMethod X.admits]
    exact g4
  have sel0 := sel TY.fill0 (by decide) (w (.selects E Bundle.tFill0 Bundle.tFill0) (by simp [bh_oat]))
  have selF := sel TY.fill (by decide) (w (.selects E Bundle.tFill Bundle.tFill) (by simp [bh_oat]))
  obtain ⟨cS, hcS, hisS⟩ := TY.statics
  obtain ⟨u0, hu0⟩ := Cond.staticRefV TY.unassigned TL.unassignedStatic TL.statics hcS hisS (w (.isRef (.static Bundle.tN "UNASSIGNED_STACK" Bundle.steD)) (by simp [bh_oat]))
  obtain ⟨sen, hsen⟩ := Cond.staticRefV TY.sentinel TL.sentinelStatic TL.statics hcS hisS (w (.isRef (.static Bundle.tN "SUPPRESSED_SENTINEL" Bundle.listD)) (by simp [bh_oat]))
  obtain ⟨ci198, i198, fB, b1, b2, b3, b4, -, b5, b6, b7⟩ := Cond.ownField (t := .object "java/lang/Object") TY.found TL.cls (by decide +kernel) (w (.fieldLink Bundle.tN 198 Bundle.tN "backtrace" "Ljava/lang/Object;") (by simp [bh_oat])) (w (.lays Bundle.tN Bundle.tN "backtrace" "Ljava/lang/Object;") (by simp [bh_oat])) e.platform q3
  obtain ⟨cS', hcS', eS, -, hkeep⟩ := X.same.2.2.2.2.2 TC.aS cS hcS
  have hcS'' : T.heap[TC.aS]? = some cS' := hcS'
  have hunk : cS'.vm ≠ .unknown := by
    rw [eS]
    intro hu
    rw [show cS.vm = .unknown from hu] at hisS
    cases hisS
  have hne : TC.aS ≠ a := Nat.ne_of_lt (Nat.lt_of_lt_of_le (Array.getElem?_eq_some_iff.mp hcS).1 hnew)
  obtain ⟨iM, hffM⟩ := TY.msg
  obtain ⟨tC, lC, hlC, nC⟩ := Cond.laysAt hfE hkX TY.cause (w (.lays E Bundle.tN "cause" "Ljava/lang/Throwable;") (by simp [bh_oat]))
  obtain ⟨tS, lS, hlS, nS⟩ := Cond.laysAt hfE hkX TY.stack (w (.lays E Bundle.tN "stackTrace" Bundle.steD) (by simp [bh_oat]))
  obtain ⟨tP, lP, hlP, nP⟩ := Cond.laysAt hfE hkX TY.supp (w (.lays E Bundle.tN "suppressedExceptions" Bundle.listD) (by simp [bh_oat]))
  obtain ⟨tM, lM, hlM, nM⟩ := Cond.laysAt hfE hkX hffM (w (.lays E Bundle.tN "detailMessage" "Ljava/lang/String;") (by simp [bh_oat]))
  obtain ⟨tB, lB, hlB, nB⟩ := Cond.laysAt hfE hkX b7 (w (.lays E Bundle.tN "backtrace" "Ljava/lang/Object;") (by simp [bh_oat]))
  have aC := Cond.laysApart hlB hlC nB nC (by rw [b5, TY.causeName]; decide)
  have aS := Cond.laysApart hlB hlS nB nS (by rw [b5, TY.stackName]; decide)
  have aP := Cond.laysApart hlB hlP nB nP (by rw [b5, TY.suppName]; decide)
  have hskip : SkipFacts TC e.platform s (fun u => u) u0 ((preparedCellV TC.toThrowableT (freshCell P1.m.cls k1) a u0 sen).withEntry T.cur) := by
    refine ⟨{ ci198 := ci198, i198 := i198, fBack := fB }, ⟨b1, b2, b3, b4⟩, ?_, fun _ _ => rfl⟩
    have h0 := fresh_default (c := P1.m.cls) tB
    rw [b6] at h0
    simpa [preparedCellV, Cell.setSlot, Cell.withEntry, Array.getElem?_setIfInBounds, aC, aS, aP, aC.symm, aS.symm, aP.symm, defaultValue] using h0
  obtain ⟨tm, methC, cdC, kC, vm₁, hnC, -, -, -, -, -, -, -, hW₁, st1⟩ := Steps.initColdS (tb := p.tables) (e := e) (below := below) (s := s) (U := T) X.here hx X.warmed q3 hown (t := Bundle.initS E) rfl rfl (Bundle.fit_spec hE).2
    (w (.methodLink own ic (Bundle.initS E)) (by simp [bh_oat])) (hat (.instanceMethod (Bundle.initS E)) (by simp [bh_oat, Bundle.passSAtoms])) (bytes := rx) (maxL := 2) (hat (.code (Bundle.initS E) rx 2 none) (by simp [bh_oat, Bundle.passSAtoms])) (f := g) hg (a := a) (msg := .ref sa) (rest := [.ref a]) hstack d6
  have etm : tm = P1.m := Option.some.inj (hnC.symm.trans hP1m)
  subst etm
  have X₁ := X.noted hW₁
  have hrefl : (Value.ref sa).isRef = true := rfl
  obtain ⟨vm₂, X₂, st2⟩ := X₁.ctorMessageOffV hx (g := { g with stack := [.ref a] }) hg hsize TC TL IZ hZ IM hM (P1 :: P2 :: Ps)
    (fun P hP => by
      rcases List.mem_cons.mp hP with rfl | hP
      · exact hP1
      · rcases List.mem_cons.mp hP with rfl | hP
        · exact hP2
        · exact hPs P hP) ⟨hlk, hP2s, hchain⟩ (u0 := u0) (sen := sen) (self := a) hrefl (cell := freshCell P1.m.cls k1) (cellS := cS')
    hcell (fun _ => by simp) (by simp) rfl rfl sel0 selF hcS'' hne hunk (by rw [hkeep _ (fun h => nomatch h)]; exact hu0) (by rw [hkeep _ (fun h => nomatch h)]; exact hsen)
    (Takes.of_laid hkX hord tC (by rw [TY.causeType]; rfl)) (Takes.of_laid hkX hord tS (by rw [TY.stackType]; exact fits_refV_array _ u0)) (Takes.of_laid hkX hord tP (by rw [TY.suppType]; exact fits_refV_object _ sen))
    (Takes.of_laid hkX hord tM (by rw [TY.msgType]; exact fits_refV_object _ ⟨.ref sa, hrefl⟩)) TY.objLocals hskip htr [] d6
    (by simp only [List.length_cons, List.length_nil] at hlen ⊢; omega) (by simp only [List.length_cons, List.length_nil, List.map_cons, List.map_nil, List.sum_cons, List.sum_nil, Value.category] at hlen ⊢; show 2 * g.monitorRoom + (1 + 0) + _ ≤ _; omega)
  obtain ⟨hwalk, hrun, hended, hWU, hsame⟩ := X₂.athrowLeaves hx (g := { g with stack := [.ref a], pc := g.pc + 3 }) hg hlocked hentered hout (a := a) (rest := []) rfl d9
  have hlt : a < ((T.setVm vm₁).setVm vm₂).heap.size := (Array.getElem?_eq_some_iff.mp hcell).1
  have hU := heapAt_setCell_self (s := (T.setVm vm₁).setVm vm₂) (plainBareV TC.toThrowableT (freshCell P1.m.cls k1) a u0 sen (.ref sa)) hlt
  refine ⟨_, st1 _ (fun acts => ?_), hrun, hended, hWU, hsame.weaken (fun y hy hl9 => ?_) (Nat.le_refl _) (Nat.le_refl _), _, hU, rfl, hfE⟩
  · rw [doInvoke_state]
    exact st2 _ hwalk
  · exfalso
    have hb : y.base = a := by
      rw [List.nil_append] at hy
      simp only [List.mem_cons, List.not_mem_nil, or_false] at hy
      rcases hy with rfl | rfl | rfl | rfl | rfl <;> rfl
    rw [hb] at hl9
    exact Nat.not_lt.mpr hnew hl9
end BCT
