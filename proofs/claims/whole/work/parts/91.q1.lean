/-! THE LAW'S OWN METHODS -/
theorem bh_methodW {l : Launch} {G : bh_G} {base : Nat} {Bg : State → Prop} {y : MethodName} {ws ws' : List Cond} {rm : Room} {b maxL : Nat} {fl : Bool} {cc : ByteArray} {ret : Option FieldType} {hh : List (Nat × Nat × Nat × Nat)} {T : List (Nat × bh_Op)} (hy : plainFor y = true) (hw : ws = Cond.codeWith y cc maxL ret hh :: ws')
    (hs : ∀ (p : Program) (e : Env) (s : State) (m : MethodId) (args : Array Value) (below : List Frame) (meth : Method) (c : Code) (ad0 : Nat → Nat → Nat) (M0 : bh_M) (Z : bh_F → Prop), CallFix p m c cc maxL s args ws y.cls → meth.sig.returnType = ret → meth.locks = false → meth.name = y.name → c.exceptionTable.toList.map (fun h => (h.startPc, h.endPc, h.handlerPc, h.catchType)) = hh → base ≤ s.heap.size → Bg s →
      ∀ q ∈ T, ∀ (S : bh_S), q.2 S (fun y => bh_WA p l e rm s m args below meth c (bh_MQ below G base ad0 M0 fl Z b args s) G base maxL ad0 M0 fl y.1 y.2) Z → bh_WA p l e rm s m args below meth c (bh_MQ below G base ad0 M0 fl Z b args s) G base maxL ad0 M0 fl q.1 S) :
    bh_Con l G base Bg y ws rm b fl (bh_fn maxL (bh_tb T)) := by
  intro ad M a Z hF
  refine MetFree.of_bodySF (code := cc) (maxLocals := maxL) (ret := ret) hy ?_ ?_
  · intro args s m h hn
    obtain ⟨m9, meth, c, hn9, h1, h2, h3, h4, -, h5, h6, -⟩ := Cond.codeWith_spec (atoms_spec (ws := ws) h _ (by rw [hw]; exact List.mem_cons_self))
    cases Option.some.inj (hn.symm.trans hn9)
    exact ⟨meth, c, h1, h2, h3, h4, h5, h6⟩
  · intro p e s m args below meth c s₁ B hml hP _
    obtain ⟨rfl, hR, hbs, hB⟩ := hP
    have hh0 : s₁.heap = s.heap := by rw [B.state]; rfl
    have htab : c.exceptionTable.toList.map (fun h => (h.startPc, h.endPc, h.handlerPc, h.catchType)) = hh := by
      obtain ⟨m9, meth9, c9, hn9, h1, h2, -, -, h7, -, -, -⟩ := Cond.codeWith_spec (atoms_spec (ws := ws) B.pre _ (by rw [hw]; exact List.mem_cons_self))
      cases Option.some.inj (B.named.symm.trans hn9)
      cases Option.some.inj (h1.symm.trans B.method)
      cases Option.some.inj (h2.symm.trans (Stand.of_body B).code)
      exact h7
    have hall := hs p e s m _ below meth c ad M Z ⟨B.exec, B.bytes, hml, findClass_of_methodNamed B.named, atoms_spec (ws := ws) B.pre⟩ B.returns B.notSynchronized (name_of_methodNamed B.named B.method).1 htab hbs hB
    have h0 := hF.2 (fun y => bh_WA p l e rm s m (a.map (bh_tr ad)).toArray below meth c (bh_MQ below G base ad M fl Z b (a.map (bh_tr ad)).toArray s) G base maxL ad M fl y.1 y.2) (fun pc S hop => bh_tb_all (P := fun pc o => o S (fun y => bh_WA p l e rm s m (a.map (bh_tr ad)).toArray below meth c (bh_MQ below G base ad M fl Z b (a.map (bh_tr ad)).toArray s) G base maxL ad M fl y.1 y.2) Z → bh_WA p l e rm s m (a.map (bh_tr ad)).toArray below meth c (bh_MQ below G base ad M fl Z b (a.map (bh_tr ad)).toArray s) G base maxL ad M fl pc S) (fun _ h => h.elim) T (fun q hq => hall q hq S) pc hop)
    have h1 := h0 ad s.heap [] _ ⟨fun _ => rfl, fun _ _ _ => rfl⟩ (fun _ => Nat.le_refl _) hR va_S.rf (bh_loc_init hF.1 M)
    obtain ⟨t, a1, o, b1, b2, b3⟩ := h1 s₁ hh0 (Stand.of_body B)
    refine ⟨t, o, ?_, b1, b2, b3⟩
    rw [lg_entry_eq]
    exact a1

theorem bh_calW {s : State} {args : Array Value} {y : MethodName} {bytes : ByteArray} {maxL b n : Nat} {ret : Option FieldType} {hh : List (Nat × Nat × Nat × Nat)} (d B : Nat) (hts : ∀ w ∈ bh_ws, w.before args s = true) (hcode : Cond.codeWith y bytes maxL ret hh ∈ bh_ws) (hini : Cond.initialized y.cls ∈ bh_ws) (hL : maxL ≤ 60) (hd : y.cls ≠ "java/lang/invoke/MethodHandle" ∧ y.cls ≠ "java/lang/invoke/VarHandle" ∧ (parseMethodDescriptor y.desc).map (fun d => d.parameters.length) = some n) : bh_Cal (bh_rm (d + 1) B) s y maxL (.codeWith y bytes maxL ret hh :: bh_ws) (bh_rm d b) b n := by
  have hall : ∀ w ∈ bh_ws, ∀ (a' : Array Value) (U : State), s.WarmedH U.vm → w.before a' U = true := fun w hw a' U hW => word_at hW (good_of_word (List.mem_filter.mp hw).2) (hts w hw)
  obtain ⟨mk, meth, c, hn, h1, h2, h3, h4, -, h5, h6, h8⟩ := Cond.codeWith_spec (hts _ hcode)
  refine ⟨rfl, rfl, by show d + 12 + 1 ≤ d + 1 + 12; omega, by show 8 + (maxL + 11) + (80 * d + 200) ≤ 80 * (d + 1) + 200; omega, ?_, ⟨mk, meth, c, hn, h1, h2, h4, h8⟩, hall _ hini, ⟨hd.1, hd.2.1⟩, fun sig h => ?_⟩
  · intro w hw
    rcases List.mem_cons.mp hw with rfl | hw
    · exact hall _ hcode
    · exact hall w hw
  · have h2 := hd.2.2
    rw [h] at h2
    exact (Option.some.inj h2).symm
theorem bh_calR {R R' : Room} {s : State} {y : MethodName} {maxL : Nat} {ws : List Cond} {rm : Room} {b n : Nat} (h : bh_Cal R s y maxL ws rm b n) (hf : R.frames ≤ R'.frames) (hl : R.locals ≤ R'.locals) : bh_Cal R' s y maxL ws rm b n :=
  ⟨h.1, h.2.1, Nat.le_trans h.2.2.1 hf, Nat.le_trans h.2.2.2.1 hl, h.2.2.2.2⟩
def bh_exs : List String := ["java/lang/IllegalArgumentException", "java/lang/IllegalStateException", "java/util/NoSuchElementException", "java/lang/UnsupportedOperationException", "java/lang/ArithmeticException"]
theorem bh_ncm : ∀ a ∈ bh_exs, ∀ b ∈ bh_exs, a ≠ b → (a, b) ∈ bh_ncs := by decide +kernel
theorem bh_nco {s : State} {hl : List (Nat × Nat × String × Int32)} (hnc : ∀ q ∈ bh_ncs, va_Nc q.1 q.2 s) (h : ∀ q ∈ hl, q.2.2.1 ∈ bh_exs) : ∀ q ∈ hl, ∀ q' ∈ hl, q.2.2.1 ≠ q'.2.2.1 → va_Nc q.2.2.1 q'.2.2.1 s :=
  fun q hq q' hq' hne => hnc (q.2.2.1, q'.2.2.1) (bh_ncm _ (h q hq) _ (h q' hq') hne)
/-- the law's end: true -/
def lw_z : bh_F → Prop
  | (.inl (some (.inl (.int v))), _) => v = 1
  | _ => False
def lw_ws : List Cond := Cond.initialized "BundleHallLaw" :: bh_ws
section BSL
variable {p : Program} {l : Launch} {e : Env} {R : Room} {s : State} {m : MethodId} {args : Array Value} {below : List Frame} {meth : Method} {c : Code} {Q : State → Prop} {G : bh_G} {base nL : Nat} {ad0 : Nat → Nat → Nat} {M0 : bh_M} {fl : Bool} {cc : ByteArray} {pc : Nat} {Bg : State → Prop}
theorem bs_sald (hx : p.tables.exec = Jvm.exec) (hb : c.code = cc) {L sb : Nat} {xs : Nat → Int32} (hX : va_X sb L xs s s.heap) (hsb : sb < base) (hbs : base ≤ s.heap.size) (hsc : G.2.2.2 1 1 = sb) (d : decode cc pc = .ok (.iaload, 1)) {S : bh_S} {Z : bh_F → Prop} (h : bo_sald xs L (pc + 1) S (fun y => bh_WA p l e R s m args below meth c Q G base nL ad0 M0 fl y.1 y.2) Z) : bh_WA p l e R s m args below meth c Q G base nL ad0 M0 fl pc S := by
  intro ad H locs ls ha hC hR hS hl
  unfold bo_sald at h
  split at h
  · rename_i i t x r hq
    obtain ⟨rfl, rfl, hin, h3⟩ := h
    have hadr : ad 1 1 = sb := (hR.2.2.2.2 1 1 rfl).trans hsc
    rw [hq, List.map_cons, List.map_cons, bh_tr_ref (Nat.le_refl 1), hadr]
    exact va_sld hx hb hX (by omega) (by show ¬ base ≤ sb; omega) hS hin d (h3 ad H locs ls ha hC hR hS hl)
  · exact h.elim
theorem bs_slen (hx : p.tables.exec = Jvm.exec) (hb : c.code = cc) {L sb : Nat} {xs : Nat → Int32} (hX : va_X sb L xs s s.heap) (hsb : sb < base) (hbs : base ≤ s.heap.size) (hsc : G.2.2.2 1 1 = sb) (d : decode cc pc = .ok (.arraylength, 1)) {S : bh_S} {Z : bh_F → Prop} (h : bo_slen L (pc + 1) S (fun y => bh_WA p l e R s m args below meth c Q G base nL ad0 M0 fl y.1 y.2) Z) : bh_WA p l e R s m args below meth c Q G base nL ad0 M0 fl pc S := by
  intro ad H locs ls ha hC hR hS hl
  unfold bo_slen at h
  split at h
  · rename_i t x r hq
    obtain ⟨rfl, rfl, h3⟩ := h
    have hadr : ad 1 1 = sb := (hR.2.2.2.2 1 1 rfl).trans hsc
    rw [hq, List.map_cons, bh_tr_ref (Nat.le_refl 1), hadr]
    exact va_slen hx hb hX (by omega) (by show ¬ base ≤ sb; omega) hS d (h3 ad H locs ls ha hC hR hS hl)
  · exact h.elim
end BSL
theorem wd_0 : (Jvm.Cond.initialized "BundleHallLaw") ∈ bh_ws := bh_int (i := 0) (by decide +kernel) (by decide +kernel)
theorem wd_22 : (Jvm.Cond.classLink "BundleHallLaw" (8 : Nat) "BundleHall") ∈ bh_ws := bh_int (i := 22) (by decide +kernel) (by decide +kernel)
theorem wd_23 : (Jvm.Cond.instantiable "BundleHall" (5 : Nat)) ∈ bh_ws := bh_int (i := 23) (by decide +kernel) (by decide +kernel)
theorem wd_24 : (Jvm.Cond.methodLink "BundleHallLaw" (78 : Nat) ({ cls := "BundleHall", name := "<init>", desc := "()V" } : Jvm.MethodName)) ∈ bh_ws := bh_int (i := 24) (by decide +kernel) (by decide +kernel)
theorem wd_25 : (Jvm.Cond.instanceMethod ({ cls := "BundleHall", name := "<init>", desc := "()V" } : Jvm.MethodName)) ∈ bh_ws := bh_int (i := 25) (by decide +kernel) (by decide +kernel)
theorem wd_240 : (Jvm.Cond.methodLink "BundleHallLaw" (118 : Nat) ({ cls := "BundleHall", name := "refresh", desc := "()I" } : Jvm.MethodName)) ∈ bh_ws := bh_int (i := 240) (by decide +kernel) (by decide +kernel)
theorem wd_241 : (Jvm.Cond.instanceMethod ({ cls := "BundleHall", name := "refresh", desc := "()I" } : Jvm.MethodName)) ∈ bh_ws := bh_int (i := 241) (by decide +kernel) (by decide +kernel)
theorem wd_242 : (Jvm.Cond.selects "BundleHall" ({ cls := "BundleHall", name := "refresh", desc := "()I" } : Jvm.MethodName) ({ cls := "BundleHall", name := "refresh", desc := "()I" } : Jvm.MethodName)) ∈ bh_ws := bh_int (i := 242) (by decide +kernel) (by decide +kernel)
theorem wd_394 : (Jvm.Cond.methodLink "BundleHallLaw" (82 : Nat) ({ cls := "BundleHallLaw", name := "install", desc := "(LBundleHall;IIII[J)I" } : Jvm.MethodName)) ∈ bh_ws := bh_int (i := 394) (by decide +kernel) (by decide +kernel)
theorem wd_395 : (Jvm.Cond.static ({ cls := "BundleHallLaw", name := "install", desc := "(LBundleHall;IIII[J)I" } : Jvm.MethodName)) ∈ bh_ws := bh_int (i := 395) (by decide +kernel) (by decide +kernel)
theorem wd_396 : (Jvm.Cond.codeWith ({ cls := "BundleHallLaw", name := "install", desc := "(LBundleHall;IIII[J)I" } : Jvm.MethodName) method_3_code (7 : Nat) (Option.some Jvm.ClassFile.FieldType.int) [((0 : Nat), (14 : Nat), (17 : Nat), (13 : Nat)), ((0 : Nat), (14 : Nat), (21 : Nat), (15 : Nat))]) ∈ bh_ws := bh_int (i := 396) (by decide +kernel) (by decide +kernel)
theorem wd_397 : (Jvm.Cond.classLink "BundleHallLaw" (13 : Nat) "java/lang/IllegalArgumentException") ∈ bh_ws := bh_int (i := 397) (by decide +kernel) (by decide +kernel)
theorem wd_398 : (Jvm.Cond.classLink "BundleHallLaw" (15 : Nat) "java/lang/IllegalStateException") ∈ bh_ws := bh_int (i := 398) (by decide +kernel) (by decide +kernel)
theorem wd_399 : (Jvm.Cond.methodLink "BundleHallLaw" (7 : Nat) ({ cls := "BundleHall", name := "install", desc := "(IIII)I" } : Jvm.MethodName)) ∈ bh_ws := bh_int (i := 399) (by decide +kernel) (by decide +kernel)
theorem wd_400 : (Jvm.Cond.instanceMethod ({ cls := "BundleHall", name := "install", desc := "(IIII)I" } : Jvm.MethodName)) ∈ bh_ws := bh_int (i := 400) (by decide +kernel) (by decide +kernel)
theorem wd_401 : (Jvm.Cond.selects "BundleHall" ({ cls := "BundleHall", name := "install", desc := "(IIII)I" } : Jvm.MethodName) ({ cls := "BundleHall", name := "install", desc := "(IIII)I" } : Jvm.MethodName)) ∈ bh_ws := bh_int (i := 401) (by decide +kernel) (by decide +kernel)
theorem wd_512 : (Jvm.Cond.methodLink "BundleHallLaw" (91 : Nat) ({ cls := "BundleHallLaw", name := "export", desc := "(LBundleHall;III[J)I" } : Jvm.MethodName)) ∈ bh_ws := bh_int (i := 512) (by decide +kernel) (by decide +kernel)
theorem wd_513 : (Jvm.Cond.static ({ cls := "BundleHallLaw", name := "export", desc := "(LBundleHall;III[J)I" } : Jvm.MethodName)) ∈ bh_ws := bh_int (i := 513) (by decide +kernel) (by decide +kernel)
theorem wd_514 : (Jvm.Cond.codeWith ({ cls := "BundleHallLaw", name := "export", desc := "(LBundleHall;III[J)I" } : Jvm.MethodName) method_4_code (6 : Nat) (Option.some Jvm.ClassFile.FieldType.int) [((0 : Nat), (12 : Nat), (15 : Nat), (13 : Nat)), ((0 : Nat), (12 : Nat), (19 : Nat), (21 : Nat)), ((0 : Nat), (12 : Nat), (23 : Nat), (15 : Nat)), ((0 : Nat), (12 : Nat), (27 : Nat), (23 : Nat))]) ∈ bh_ws := bh_int (i := 514) (by decide +kernel) (by decide +kernel)
theorem wd_515 : (Jvm.Cond.classLink "BundleHallLaw" (21 : Nat) "java/util/NoSuchElementException") ∈ bh_ws := bh_int (i := 515) (by decide +kernel) (by decide +kernel)
theorem wd_516 : (Jvm.Cond.classLink "BundleHallLaw" (23 : Nat) "java/lang/UnsupportedOperationException") ∈ bh_ws := bh_int (i := 516) (by decide +kernel) (by decide +kernel)
theorem wd_517 : (Jvm.Cond.methodLink "BundleHallLaw" (17 : Nat) ({ cls := "BundleHall", name := "export", desc := "(III)I" } : Jvm.MethodName)) ∈ bh_ws := bh_int (i := 517) (by decide +kernel) (by decide +kernel)
theorem wd_518 : (Jvm.Cond.instanceMethod ({ cls := "BundleHall", name := "export", desc := "(III)I" } : Jvm.MethodName)) ∈ bh_ws := bh_int (i := 518) (by decide +kernel) (by decide +kernel)
theorem wd_519 : (Jvm.Cond.selects "BundleHall" ({ cls := "BundleHall", name := "export", desc := "(III)I" } : Jvm.MethodName) ({ cls := "BundleHall", name := "export", desc := "(III)I" } : Jvm.MethodName)) ∈ bh_ws := bh_int (i := 519) (by decide +kernel) (by decide +kernel)
theorem wd_570 : (Jvm.Cond.methodLink "BundleHallLaw" (95 : Nat) ({ cls := "BundleHallLaw", name := "need", desc := "(LBundleHall;IIIIZ[J)I" } : Jvm.MethodName)) ∈ bh_ws := bh_int (i := 570) (by decide +kernel) (by decide +kernel)
theorem wd_571 : (Jvm.Cond.static ({ cls := "BundleHallLaw", name := "need", desc := "(LBundleHall;IIIIZ[J)I" } : Jvm.MethodName)) ∈ bh_ws := bh_int (i := 571) (by decide +kernel) (by decide +kernel)
theorem wd_572 : (Jvm.Cond.codeWith ({ cls := "BundleHallLaw", name := "need", desc := "(LBundleHall;IIIIZ[J)I" } : Jvm.MethodName) method_5_code (8 : Nat) (Option.some Jvm.ClassFile.FieldType.int) [((0 : Nat), (16 : Nat), (19 : Nat), (13 : Nat)), ((0 : Nat), (16 : Nat), (23 : Nat), (21 : Nat)), ((0 : Nat), (16 : Nat), (27 : Nat), (15 : Nat)), ((0 : Nat), (16 : Nat), (31 : Nat), (23 : Nat))]) ∈ bh_ws := bh_int (i := 572) (by decide +kernel) (by decide +kernel)
theorem wd_573 : (Jvm.Cond.methodLink "BundleHallLaw" (25 : Nat) ({ cls := "BundleHall", name := "need", desc := "(IIIIZ)I" } : Jvm.MethodName)) ∈ bh_ws := bh_int (i := 573) (by decide +kernel) (by decide +kernel)
theorem wd_574 : (Jvm.Cond.instanceMethod ({ cls := "BundleHall", name := "need", desc := "(IIIIZ)I" } : Jvm.MethodName)) ∈ bh_ws := bh_int (i := 574) (by decide +kernel) (by decide +kernel)
theorem wd_575 : (Jvm.Cond.selects "BundleHall" ({ cls := "BundleHall", name := "need", desc := "(IIIIZ)I" } : Jvm.MethodName) ({ cls := "BundleHall", name := "need", desc := "(IIIIZ)I" } : Jvm.MethodName)) ∈ bh_ws := bh_int (i := 575) (by decide +kernel) (by decide +kernel)
theorem wd_586 : (Jvm.Cond.methodLink "BundleHallLaw" (99 : Nat) ({ cls := "BundleHallLaw", name := "resolve", desc := "(LBundleHall;I[J)I" } : Jvm.MethodName)) ∈ bh_ws := bh_int (i := 586) (by decide +kernel) (by decide +kernel)
theorem wd_587 : (Jvm.Cond.static ({ cls := "BundleHallLaw", name := "resolve", desc := "(LBundleHall;I[J)I" } : Jvm.MethodName)) ∈ bh_ws := bh_int (i := 587) (by decide +kernel) (by decide +kernel)
theorem wd_588 : (Jvm.Cond.codeWith ({ cls := "BundleHallLaw", name := "resolve", desc := "(LBundleHall;I[J)I" } : Jvm.MethodName) method_6_code (4 : Nat) (Option.some Jvm.ClassFile.FieldType.int) [((0 : Nat), (9 : Nat), (12 : Nat), (13 : Nat)), ((0 : Nat), (9 : Nat), (15 : Nat), (21 : Nat)), ((0 : Nat), (9 : Nat), (18 : Nat), (15 : Nat)), ((0 : Nat), (9 : Nat), (21 : Nat), (33 : Nat))]) ∈ bh_ws := bh_int (i := 588) (by decide +kernel) (by decide +kernel)
theorem wd_589 : (Jvm.Cond.classLink "BundleHallLaw" (33 : Nat) "java/lang/ArithmeticException") ∈ bh_ws := bh_int (i := 589) (by decide +kernel) (by decide +kernel)
theorem wd_590 : (Jvm.Cond.methodLink "BundleHallLaw" (29 : Nat) ({ cls := "BundleHall", name := "resolve", desc := "(I)I" } : Jvm.MethodName)) ∈ bh_ws := bh_int (i := 590) (by decide +kernel) (by decide +kernel)
theorem wd_591 : (Jvm.Cond.instanceMethod ({ cls := "BundleHall", name := "resolve", desc := "(I)I" } : Jvm.MethodName)) ∈ bh_ws := bh_int (i := 591) (by decide +kernel) (by decide +kernel)
theorem wd_592 : (Jvm.Cond.selects "BundleHall" ({ cls := "BundleHall", name := "resolve", desc := "(I)I" } : Jvm.MethodName) ({ cls := "BundleHall", name := "resolve", desc := "(I)I" } : Jvm.MethodName)) ∈ bh_ws := bh_int (i := 592) (by decide +kernel) (by decide +kernel)
theorem wd_617 : (Jvm.Cond.methodLink "BundleHallLaw" (103 : Nat) ({ cls := "BundleHallLaw", name := "start", desc := "(LBundleHall;I[J)I" } : Jvm.MethodName)) ∈ bh_ws := bh_int (i := 617) (by decide +kernel) (by decide +kernel)
theorem wd_618 : (Jvm.Cond.static ({ cls := "BundleHallLaw", name := "start", desc := "(LBundleHall;I[J)I" } : Jvm.MethodName)) ∈ bh_ws := bh_int (i := 618) (by decide +kernel) (by decide +kernel)
theorem wd_619 : (Jvm.Cond.codeWith ({ cls := "BundleHallLaw", name := "start", desc := "(LBundleHall;I[J)I" } : Jvm.MethodName) method_7_code (4 : Nat) (Option.some Jvm.ClassFile.FieldType.int) [((0 : Nat), (9 : Nat), (12 : Nat), (13 : Nat)), ((0 : Nat), (9 : Nat), (15 : Nat), (21 : Nat)), ((0 : Nat), (9 : Nat), (18 : Nat), (15 : Nat)), ((0 : Nat), (9 : Nat), (21 : Nat), (23 : Nat)), ((0 : Nat), (9 : Nat), (24 : Nat), (33 : Nat))]) ∈ bh_ws := bh_int (i := 619) (by decide +kernel) (by decide +kernel)
theorem wd_620 : (Jvm.Cond.methodLink "BundleHallLaw" (35 : Nat) ({ cls := "BundleHall", name := "start", desc := "(I)I" } : Jvm.MethodName)) ∈ bh_ws := bh_int (i := 620) (by decide +kernel) (by decide +kernel)
theorem wd_621 : (Jvm.Cond.instanceMethod ({ cls := "BundleHall", name := "start", desc := "(I)I" } : Jvm.MethodName)) ∈ bh_ws := bh_int (i := 621) (by decide +kernel) (by decide +kernel)
theorem wd_622 : (Jvm.Cond.selects "BundleHall" ({ cls := "BundleHall", name := "start", desc := "(I)I" } : Jvm.MethodName) ({ cls := "BundleHall", name := "start", desc := "(I)I" } : Jvm.MethodName)) ∈ bh_ws := bh_int (i := 622) (by decide +kernel) (by decide +kernel)
theorem wd_624 : (Jvm.Cond.methodLink "BundleHallLaw" (106 : Nat) ({ cls := "BundleHallLaw", name := "stop", desc := "(LBundleHall;I[J)I" } : Jvm.MethodName)) ∈ bh_ws := bh_int (i := 624) (by decide +kernel) (by decide +kernel)
theorem wd_625 : (Jvm.Cond.static ({ cls := "BundleHallLaw", name := "stop", desc := "(LBundleHall;I[J)I" } : Jvm.MethodName)) ∈ bh_ws := bh_int (i := 625) (by decide +kernel) (by decide +kernel)
theorem wd_626 : (Jvm.Cond.codeWith ({ cls := "BundleHallLaw", name := "stop", desc := "(LBundleHall;I[J)I" } : Jvm.MethodName) method_8_code (4 : Nat) (Option.some Jvm.ClassFile.FieldType.int) [((0 : Nat), (9 : Nat), (12 : Nat), (13 : Nat)), ((0 : Nat), (9 : Nat), (15 : Nat), (21 : Nat))]) ∈ bh_ws := bh_int (i := 626) (by decide +kernel) (by decide +kernel)
theorem wd_627 : (Jvm.Cond.methodLink "BundleHallLaw" (38 : Nat) ({ cls := "BundleHall", name := "stop", desc := "(I)I" } : Jvm.MethodName)) ∈ bh_ws := bh_int (i := 627) (by decide +kernel) (by decide +kernel)
theorem wd_628 : (Jvm.Cond.instanceMethod ({ cls := "BundleHall", name := "stop", desc := "(I)I" } : Jvm.MethodName)) ∈ bh_ws := bh_int (i := 628) (by decide +kernel) (by decide +kernel)
theorem wd_629 : (Jvm.Cond.selects "BundleHall" ({ cls := "BundleHall", name := "stop", desc := "(I)I" } : Jvm.MethodName) ({ cls := "BundleHall", name := "stop", desc := "(I)I" } : Jvm.MethodName)) ∈ bh_ws := bh_int (i := 629) (by decide +kernel) (by decide +kernel)
theorem wd_635 : (Jvm.Cond.methodLink "BundleHallLaw" (109 : Nat) ({ cls := "BundleHallLaw", name := "level", desc := "(LBundleHall;I[J)I" } : Jvm.MethodName)) ∈ bh_ws := bh_int (i := 635) (by decide +kernel) (by decide +kernel)
theorem wd_636 : (Jvm.Cond.static ({ cls := "BundleHallLaw", name := "level", desc := "(LBundleHall;I[J)I" } : Jvm.MethodName)) ∈ bh_ws := bh_int (i := 636) (by decide +kernel) (by decide +kernel)
theorem wd_637 : (Jvm.Cond.codeWith ({ cls := "BundleHallLaw", name := "level", desc := "(LBundleHall;I[J)I" } : Jvm.MethodName) method_9_code (4 : Nat) (Option.some Jvm.ClassFile.FieldType.int) [((0 : Nat), (9 : Nat), (12 : Nat), (13 : Nat))]) ∈ bh_ws := bh_int (i := 637) (by decide +kernel) (by decide +kernel)
theorem wd_638 : (Jvm.Cond.methodLink "BundleHallLaw" (41 : Nat) ({ cls := "BundleHall", name := "level", desc := "(I)I" } : Jvm.MethodName)) ∈ bh_ws := bh_int (i := 638) (by decide +kernel) (by decide +kernel)
theorem wd_639 : (Jvm.Cond.instanceMethod ({ cls := "BundleHall", name := "level", desc := "(I)I" } : Jvm.MethodName)) ∈ bh_ws := bh_int (i := 639) (by decide +kernel) (by decide +kernel)
theorem wd_640 : (Jvm.Cond.selects "BundleHall" ({ cls := "BundleHall", name := "level", desc := "(I)I" } : Jvm.MethodName) ({ cls := "BundleHall", name := "level", desc := "(I)I" } : Jvm.MethodName)) ∈ bh_ws := bh_int (i := 640) (by decide +kernel) (by decide +kernel)
theorem wd_650 : (Jvm.Cond.methodLink "BundleHallLaw" (112 : Nat) ({ cls := "BundleHallLaw", name := "uninstall", desc := "(LBundleHall;I[J)I" } : Jvm.MethodName)) ∈ bh_ws := bh_int (i := 650) (by decide +kernel) (by decide +kernel)
theorem wd_651 : (Jvm.Cond.static ({ cls := "BundleHallLaw", name := "uninstall", desc := "(LBundleHall;I[J)I" } : Jvm.MethodName)) ∈ bh_ws := bh_int (i := 651) (by decide +kernel) (by decide +kernel)
theorem wd_652 : (Jvm.Cond.codeWith ({ cls := "BundleHallLaw", name := "uninstall", desc := "(LBundleHall;I[J)I" } : Jvm.MethodName) method_10_code (4 : Nat) (Option.some Jvm.ClassFile.FieldType.int) [((0 : Nat), (9 : Nat), (12 : Nat), (13 : Nat)), ((0 : Nat), (9 : Nat), (15 : Nat), (21 : Nat))]) ∈ bh_ws := bh_int (i := 652) (by decide +kernel) (by decide +kernel)
theorem wd_653 : (Jvm.Cond.methodLink "BundleHallLaw" (44 : Nat) ({ cls := "BundleHall", name := "uninstall", desc := "(I)I" } : Jvm.MethodName)) ∈ bh_ws := bh_int (i := 653) (by decide +kernel) (by decide +kernel)
theorem wd_654 : (Jvm.Cond.instanceMethod ({ cls := "BundleHall", name := "uninstall", desc := "(I)I" } : Jvm.MethodName)) ∈ bh_ws := bh_int (i := 654) (by decide +kernel) (by decide +kernel)
theorem wd_655 : (Jvm.Cond.selects "BundleHall" ({ cls := "BundleHall", name := "uninstall", desc := "(I)I" } : Jvm.MethodName) ({ cls := "BundleHall", name := "uninstall", desc := "(I)I" } : Jvm.MethodName)) ∈ bh_ws := bh_int (i := 655) (by decide +kernel) (by decide +kernel)
theorem wd_670 : (Jvm.Cond.methodLink "BundleHallLaw" (115 : Nat) ({ cls := "BundleHallLaw", name := "update", desc := "(LBundleHall;I[J)I" } : Jvm.MethodName)) ∈ bh_ws := bh_int (i := 670) (by decide +kernel) (by decide +kernel)
theorem wd_671 : (Jvm.Cond.static ({ cls := "BundleHallLaw", name := "update", desc := "(LBundleHall;I[J)I" } : Jvm.MethodName)) ∈ bh_ws := bh_int (i := 671) (by decide +kernel) (by decide +kernel)
theorem wd_672 : (Jvm.Cond.codeWith ({ cls := "BundleHallLaw", name := "update", desc := "(LBundleHall;I[J)I" } : Jvm.MethodName) method_11_code (4 : Nat) (Option.some Jvm.ClassFile.FieldType.int) [((0 : Nat), (9 : Nat), (12 : Nat), (13 : Nat)), ((0 : Nat), (9 : Nat), (15 : Nat), (21 : Nat))]) ∈ bh_ws := bh_int (i := 672) (by decide +kernel) (by decide +kernel)
theorem wd_673 : (Jvm.Cond.methodLink "BundleHallLaw" (47 : Nat) ({ cls := "BundleHall", name := "update", desc := "(I)I" } : Jvm.MethodName)) ∈ bh_ws := bh_int (i := 673) (by decide +kernel) (by decide +kernel)
theorem wd_674 : (Jvm.Cond.instanceMethod ({ cls := "BundleHall", name := "update", desc := "(I)I" } : Jvm.MethodName)) ∈ bh_ws := bh_int (i := 674) (by decide +kernel) (by decide +kernel)
theorem wd_675 : (Jvm.Cond.selects "BundleHall" ({ cls := "BundleHall", name := "update", desc := "(I)I" } : Jvm.MethodName) ({ cls := "BundleHall", name := "update", desc := "(I)I" } : Jvm.MethodName)) ∈ bh_ws := bh_int (i := 675) (by decide +kernel) (by decide +kernel)
theorem wd_678 : (Jvm.Cond.methodLink "BundleHallLaw" (124 : Nat) ({ cls := "BundleHallLaw", name := "register", desc := "(LBundleHall;IID[J)I" } : Jvm.MethodName)) ∈ bh_ws := bh_int (i := 678) (by decide +kernel) (by decide +kernel)
theorem wd_679 : (Jvm.Cond.static ({ cls := "BundleHallLaw", name := "register", desc := "(LBundleHall;IID[J)I" } : Jvm.MethodName)) ∈ bh_ws := bh_int (i := 679) (by decide +kernel) (by decide +kernel)
theorem wd_680 : (Jvm.Cond.codeWith ({ cls := "BundleHallLaw", name := "register", desc := "(LBundleHall;IID[J)I" } : Jvm.MethodName) method_12_code (7 : Nat) (Option.some Jvm.ClassFile.FieldType.int) [((0 : Nat), (12 : Nat), (15 : Nat), (13 : Nat)), ((0 : Nat), (12 : Nat), (19 : Nat), (21 : Nat)), ((0 : Nat), (12 : Nat), (23 : Nat), (15 : Nat)), ((0 : Nat), (12 : Nat), (27 : Nat), (23 : Nat))]) ∈ bh_ws := bh_int (i := 680) (by decide +kernel) (by decide +kernel)
theorem wd_681 : (Jvm.Cond.methodLink "BundleHallLaw" (50 : Nat) ({ cls := "BundleHall", name := "register", desc := "(IID)I" } : Jvm.MethodName)) ∈ bh_ws := bh_int (i := 681) (by decide +kernel) (by decide +kernel)
theorem wd_682 : (Jvm.Cond.instanceMethod ({ cls := "BundleHall", name := "register", desc := "(IID)I" } : Jvm.MethodName)) ∈ bh_ws := bh_int (i := 682) (by decide +kernel) (by decide +kernel)
theorem wd_683 : (Jvm.Cond.selects "BundleHall" ({ cls := "BundleHall", name := "register", desc := "(IID)I" } : Jvm.MethodName) ({ cls := "BundleHall", name := "register", desc := "(IID)I" } : Jvm.MethodName)) ∈ bh_ws := bh_int (i := 683) (by decide +kernel) (by decide +kernel)
theorem wd_696 : (Jvm.Cond.methodLink "BundleHallLaw" (128 : Nat) ({ cls := "BundleHallLaw", name := "get", desc := "(LBundleHall;II[J)I" } : Jvm.MethodName)) ∈ bh_ws := bh_int (i := 696) (by decide +kernel) (by decide +kernel)
theorem wd_697 : (Jvm.Cond.static ({ cls := "BundleHallLaw", name := "get", desc := "(LBundleHall;II[J)I" } : Jvm.MethodName)) ∈ bh_ws := bh_int (i := 697) (by decide +kernel) (by decide +kernel)
theorem wd_698 : (Jvm.Cond.codeWith ({ cls := "BundleHallLaw", name := "get", desc := "(LBundleHall;II[J)I" } : Jvm.MethodName) method_13_code (5 : Nat) (Option.some Jvm.ClassFile.FieldType.int) [((0 : Nat), (10 : Nat), (13 : Nat), (13 : Nat)), ((0 : Nat), (10 : Nat), (17 : Nat), (21 : Nat)), ((0 : Nat), (10 : Nat), (21 : Nat), (15 : Nat)), ((0 : Nat), (10 : Nat), (25 : Nat), (23 : Nat))]) ∈ bh_ws := bh_int (i := 698) (by decide +kernel) (by decide +kernel)
theorem wd_699 : (Jvm.Cond.methodLink "BundleHallLaw" (54 : Nat) ({ cls := "BundleHall", name := "get", desc := "(II)I" } : Jvm.MethodName)) ∈ bh_ws := bh_int (i := 699) (by decide +kernel) (by decide +kernel)
theorem wd_700 : (Jvm.Cond.instanceMethod ({ cls := "BundleHall", name := "get", desc := "(II)I" } : Jvm.MethodName)) ∈ bh_ws := bh_int (i := 700) (by decide +kernel) (by decide +kernel)
theorem wd_701 : (Jvm.Cond.selects "BundleHall" ({ cls := "BundleHall", name := "get", desc := "(II)I" } : Jvm.MethodName) ({ cls := "BundleHall", name := "get", desc := "(II)I" } : Jvm.MethodName)) ∈ bh_ws := bh_int (i := 701) (by decide +kernel) (by decide +kernel)
theorem wd_704 : (Jvm.Cond.methodLink "BundleHallLaw" (132 : Nat) ({ cls := "BundleHallLaw", name := "giveBack", desc := "(LBundleHall;II[J)I" } : Jvm.MethodName)) ∈ bh_ws := bh_int (i := 704) (by decide +kernel) (by decide +kernel)
theorem wd_705 : (Jvm.Cond.static ({ cls := "BundleHallLaw", name := "giveBack", desc := "(LBundleHall;II[J)I" } : Jvm.MethodName)) ∈ bh_ws := bh_int (i := 705) (by decide +kernel) (by decide +kernel)
theorem wd_706 : (Jvm.Cond.codeWith ({ cls := "BundleHallLaw", name := "giveBack", desc := "(LBundleHall;II[J)I" } : Jvm.MethodName) method_14_code (5 : Nat) (Option.some Jvm.ClassFile.FieldType.int) [((0 : Nat), (10 : Nat), (13 : Nat), (13 : Nat)), ((0 : Nat), (10 : Nat), (17 : Nat), (21 : Nat)), ((0 : Nat), (10 : Nat), (21 : Nat), (23 : Nat))]) ∈ bh_ws := bh_int (i := 706) (by decide +kernel) (by decide +kernel)
theorem wd_707 : (Jvm.Cond.methodLink "BundleHallLaw" (58 : Nat) ({ cls := "BundleHall", name := "giveBack", desc := "(II)I" } : Jvm.MethodName)) ∈ bh_ws := bh_int (i := 707) (by decide +kernel) (by decide +kernel)
theorem wd_708 : (Jvm.Cond.instanceMethod ({ cls := "BundleHall", name := "giveBack", desc := "(II)I" } : Jvm.MethodName)) ∈ bh_ws := bh_int (i := 708) (by decide +kernel) (by decide +kernel)
theorem wd_709 : (Jvm.Cond.selects "BundleHall" ({ cls := "BundleHall", name := "giveBack", desc := "(II)I" } : Jvm.MethodName) ({ cls := "BundleHall", name := "giveBack", desc := "(II)I" } : Jvm.MethodName)) ∈ bh_ws := bh_int (i := 709) (by decide +kernel) (by decide +kernel)
theorem wd_720 : (Jvm.Cond.methodLink "BundleHallLaw" (135 : Nat) ({ cls := "BundleHallLaw", name := "unregister", desc := "(LBundleHall;II[J)I" } : Jvm.MethodName)) ∈ bh_ws := bh_int (i := 720) (by decide +kernel) (by decide +kernel)
theorem wd_721 : (Jvm.Cond.static ({ cls := "BundleHallLaw", name := "unregister", desc := "(LBundleHall;II[J)I" } : Jvm.MethodName)) ∈ bh_ws := bh_int (i := 721) (by decide +kernel) (by decide +kernel)
theorem wd_722 : (Jvm.Cond.codeWith ({ cls := "BundleHallLaw", name := "unregister", desc := "(LBundleHall;II[J)I" } : Jvm.MethodName) method_15_code (5 : Nat) (Option.some Jvm.ClassFile.FieldType.int) [((0 : Nat), (10 : Nat), (13 : Nat), (13 : Nat)), ((0 : Nat), (10 : Nat), (17 : Nat), (21 : Nat)), ((0 : Nat), (10 : Nat), (21 : Nat), (23 : Nat))]) ∈ bh_ws := bh_int (i := 722) (by decide +kernel) (by decide +kernel)
theorem wd_723 : (Jvm.Cond.methodLink "BundleHallLaw" (61 : Nat) ({ cls := "BundleHall", name := "unregister", desc := "(II)I" } : Jvm.MethodName)) ∈ bh_ws := bh_int (i := 723) (by decide +kernel) (by decide +kernel)
theorem wd_724 : (Jvm.Cond.instanceMethod ({ cls := "BundleHall", name := "unregister", desc := "(II)I" } : Jvm.MethodName)) ∈ bh_ws := bh_int (i := 724) (by decide +kernel) (by decide +kernel)
theorem wd_725 : (Jvm.Cond.selects "BundleHall" ({ cls := "BundleHall", name := "unregister", desc := "(II)I" } : Jvm.MethodName) ({ cls := "BundleHall", name := "unregister", desc := "(II)I" } : Jvm.MethodName)) ∈ bh_ws := bh_int (i := 725) (by decide +kernel) (by decide +kernel)
theorem wd_732 : (Jvm.Cond.methodLink "BundleHallLaw" (138 : Nat) ({ cls := "BundleHallLaw", name := "rank", desc := "(LBundleHall;I[D)I" } : Jvm.MethodName)) ∈ bh_ws := bh_int (i := 732) (by decide +kernel) (by decide +kernel)
theorem wd_733 : (Jvm.Cond.static ({ cls := "BundleHallLaw", name := "rank", desc := "(LBundleHall;I[D)I" } : Jvm.MethodName)) ∈ bh_ws := bh_int (i := 733) (by decide +kernel) (by decide +kernel)
theorem wd_734 : (Jvm.Cond.codeWith ({ cls := "BundleHallLaw", name := "rank", desc := "(LBundleHall;I[D)I" } : Jvm.MethodName) method_16_code (4 : Nat) (Option.some Jvm.ClassFile.FieldType.int) [((0 : Nat), (8 : Nat), (11 : Nat), (13 : Nat)), ((0 : Nat), (8 : Nat), (14 : Nat), (33 : Nat))]) ∈ bh_ws := bh_int (i := 734) (by decide +kernel) (by decide +kernel)
theorem wd_735 : (Jvm.Cond.methodLink "BundleHallLaw" (64 : Nat) ({ cls := "BundleHall", name := "rank", desc := "(I)D" } : Jvm.MethodName)) ∈ bh_ws := bh_int (i := 735) (by decide +kernel) (by decide +kernel)
theorem wd_736 : (Jvm.Cond.instanceMethod ({ cls := "BundleHall", name := "rank", desc := "(I)D" } : Jvm.MethodName)) ∈ bh_ws := bh_int (i := 736) (by decide +kernel) (by decide +kernel)
theorem wd_737 : (Jvm.Cond.selects "BundleHall" ({ cls := "BundleHall", name := "rank", desc := "(I)D" } : Jvm.MethodName) ({ cls := "BundleHall", name := "rank", desc := "(I)D" } : Jvm.MethodName)) ∈ bh_ws := bh_int (i := 737) (by decide +kernel) (by decide +kernel)
theorem wd_747 : (Jvm.Cond.methodLink "BundleHallLaw" (142 : Nat) ({ cls := "BundleHallLaw", name := "event", desc := "(LBundleHall;[J)I" } : Jvm.MethodName)) ∈ bh_ws := bh_int (i := 747) (by decide +kernel) (by decide +kernel)
theorem wd_748 : (Jvm.Cond.static ({ cls := "BundleHallLaw", name := "event", desc := "(LBundleHall;[J)I" } : Jvm.MethodName)) ∈ bh_ws := bh_int (i := 748) (by decide +kernel) (by decide +kernel)
theorem wd_749 : (Jvm.Cond.codeWith ({ cls := "BundleHallLaw", name := "event", desc := "(LBundleHall;[J)I" } : Jvm.MethodName) method_17_code (3 : Nat) (Option.some Jvm.ClassFile.FieldType.int) [((0 : Nat), (8 : Nat), (11 : Nat), (15 : Nat))]) ∈ bh_ws := bh_int (i := 749) (by decide +kernel) (by decide +kernel)
theorem wd_750 : (Jvm.Cond.methodLink "BundleHallLaw" (68 : Nat) ({ cls := "BundleHall", name := "event", desc := "()I" } : Jvm.MethodName)) ∈ bh_ws := bh_int (i := 750) (by decide +kernel) (by decide +kernel)
theorem wd_751 : (Jvm.Cond.instanceMethod ({ cls := "BundleHall", name := "event", desc := "()I" } : Jvm.MethodName)) ∈ bh_ws := bh_int (i := 751) (by decide +kernel) (by decide +kernel)
theorem wd_752 : (Jvm.Cond.selects "BundleHall" ({ cls := "BundleHall", name := "event", desc := "()I" } : Jvm.MethodName) ({ cls := "BundleHall", name := "event", desc := "()I" } : Jvm.MethodName)) ∈ bh_ws := bh_int (i := 752) (by decide +kernel) (by decide +kernel)
theorem wd_759 : (Jvm.Cond.methodLink "BundleHallLaw" (146 : Nat) ({ cls := "BundleHallLaw", name := "about", desc := "(LBundleHall;II[J)I" } : Jvm.MethodName)) ∈ bh_ws := bh_int (i := 759) (by decide +kernel) (by decide +kernel)
theorem wd_760 : (Jvm.Cond.static ({ cls := "BundleHallLaw", name := "about", desc := "(LBundleHall;II[J)I" } : Jvm.MethodName)) ∈ bh_ws := bh_int (i := 760) (by decide +kernel) (by decide +kernel)
theorem wd_761 : (Jvm.Cond.codeWith ({ cls := "BundleHallLaw", name := "about", desc := "(LBundleHall;II[J)I" } : Jvm.MethodName) method_18_code (5 : Nat) (Option.some Jvm.ClassFile.FieldType.int) [((0 : Nat), (10 : Nat), (13 : Nat), (13 : Nat))]) ∈ bh_ws := bh_int (i := 761) (by decide +kernel) (by decide +kernel)
theorem wd_762 : (Jvm.Cond.methodLink "BundleHallLaw" (72 : Nat) ({ cls := "BundleHall", name := "about", desc := "(II)I" } : Jvm.MethodName)) ∈ bh_ws := bh_int (i := 762) (by decide +kernel) (by decide +kernel)
theorem wd_763 : (Jvm.Cond.instanceMethod ({ cls := "BundleHall", name := "about", desc := "(II)I" } : Jvm.MethodName)) ∈ bh_ws := bh_int (i := 763) (by decide +kernel) (by decide +kernel)
theorem wd_764 : (Jvm.Cond.selects "BundleHall" ({ cls := "BundleHall", name := "about", desc := "(II)I" } : Jvm.MethodName) ({ cls := "BundleHall", name := "about", desc := "(II)I" } : Jvm.MethodName)) ∈ bh_ws := bh_int (i := 764) (by decide +kernel) (by decide +kernel)
theorem wd_770 : (Jvm.Cond.methodLink "BundleHallLaw" (149 : Nat) ({ cls := "BundleHallLaw", name := "count", desc := "(LBundleHall;I[J)I" } : Jvm.MethodName)) ∈ bh_ws := bh_int (i := 770) (by decide +kernel) (by decide +kernel)
theorem wd_771 : (Jvm.Cond.static ({ cls := "BundleHallLaw", name := "count", desc := "(LBundleHall;I[J)I" } : Jvm.MethodName)) ∈ bh_ws := bh_int (i := 771) (by decide +kernel) (by decide +kernel)
theorem wd_772 : (Jvm.Cond.codeWith ({ cls := "BundleHallLaw", name := "count", desc := "(LBundleHall;I[J)I" } : Jvm.MethodName) method_19_code (4 : Nat) (Option.some Jvm.ClassFile.FieldType.int) [((0 : Nat), (9 : Nat), (12 : Nat), (13 : Nat))]) ∈ bh_ws := bh_int (i := 772) (by decide +kernel) (by decide +kernel)
theorem wd_773 : (Jvm.Cond.methodLink "BundleHallLaw" (75 : Nat) ({ cls := "BundleHall", name := "count", desc := "(I)I" } : Jvm.MethodName)) ∈ bh_ws := bh_int (i := 773) (by decide +kernel) (by decide +kernel)
theorem wd_774 : (Jvm.Cond.instanceMethod ({ cls := "BundleHall", name := "count", desc := "(I)I" } : Jvm.MethodName)) ∈ bh_ws := bh_int (i := 774) (by decide +kernel) (by decide +kernel)
theorem wd_775 : (Jvm.Cond.selects "BundleHall" ({ cls := "BundleHall", name := "count", desc := "(I)I" } : Jvm.MethodName) ({ cls := "BundleHall", name := "count", desc := "(I)I" } : Jvm.MethodName)) ∈ bh_ws := bh_int (i := 775) (by decide +kernel) (by decide +kernel)
theorem wd_777 : (Jvm.Cond.classLink "BundleHallLaw" (79 : Nat) "BundleHallModel") ∈ bh_ws := bh_int (i := 777) (by decide +kernel) (by decide +kernel)
theorem wd_778 : (Jvm.Cond.instantiable "BundleHallModel" (40 : Nat)) ∈ bh_ws := bh_int (i := 778) (by decide +kernel) (by decide +kernel)
theorem wd_779 : (Jvm.Cond.methodLink "BundleHallLaw" (81 : Nat) ({ cls := "BundleHallModel", name := "<init>", desc := "()V" } : Jvm.MethodName)) ∈ bh_ws := bh_int (i := 779) (by decide +kernel) (by decide +kernel)
theorem wd_780 : (Jvm.Cond.instanceMethod ({ cls := "BundleHallModel", name := "<init>", desc := "()V" } : Jvm.MethodName)) ∈ bh_ws := bh_int (i := 780) (by decide +kernel) (by decide +kernel)
theorem wd_907 : (Jvm.Cond.methodLink "BundleHallLaw" (88 : Nat) ({ cls := "BundleHallModel", name := "thrown", desc := "()I" } : Jvm.MethodName)) ∈ bh_ws := bh_int (i := 907) (by decide +kernel) (by decide +kernel)
theorem wd_908 : (Jvm.Cond.instanceMethod ({ cls := "BundleHallModel", name := "thrown", desc := "()I" } : Jvm.MethodName)) ∈ bh_ws := bh_int (i := 908) (by decide +kernel) (by decide +kernel)
theorem wd_909 : (Jvm.Cond.selects "BundleHallModel" ({ cls := "BundleHallModel", name := "thrown", desc := "()I" } : Jvm.MethodName) ({ cls := "BundleHallModel", name := "thrown", desc := "()I" } : Jvm.MethodName)) ∈ bh_ws := bh_int (i := 909) (by decide +kernel) (by decide +kernel)
theorem wd_911 : (Jvm.Cond.methodLink "BundleHallLaw" (87 : Nat) ({ cls := "BundleHallModel", name := "install", desc := "(IIII)I" } : Jvm.MethodName)) ∈ bh_ws := bh_int (i := 911) (by decide +kernel) (by decide +kernel)
theorem wd_912 : (Jvm.Cond.instanceMethod ({ cls := "BundleHallModel", name := "install", desc := "(IIII)I" } : Jvm.MethodName)) ∈ bh_ws := bh_int (i := 912) (by decide +kernel) (by decide +kernel)
theorem wd_913 : (Jvm.Cond.selects "BundleHallModel" ({ cls := "BundleHallModel", name := "install", desc := "(IIII)I" } : Jvm.MethodName) ({ cls := "BundleHallModel", name := "install", desc := "(IIII)I" } : Jvm.MethodName)) ∈ bh_ws := bh_int (i := 913) (by decide +kernel) (by decide +kernel)
theorem wd_933 : (Jvm.Cond.methodLink "BundleHallLaw" (94 : Nat) ({ cls := "BundleHallModel", name := "export", desc := "(III)I" } : Jvm.MethodName)) ∈ bh_ws := bh_int (i := 933) (by decide +kernel) (by decide +kernel)
theorem wd_934 : (Jvm.Cond.instanceMethod ({ cls := "BundleHallModel", name := "export", desc := "(III)I" } : Jvm.MethodName)) ∈ bh_ws := bh_int (i := 934) (by decide +kernel) (by decide +kernel)
theorem wd_935 : (Jvm.Cond.selects "BundleHallModel" ({ cls := "BundleHallModel", name := "export", desc := "(III)I" } : Jvm.MethodName) ({ cls := "BundleHallModel", name := "export", desc := "(III)I" } : Jvm.MethodName)) ∈ bh_ws := bh_int (i := 935) (by decide +kernel) (by decide +kernel)
theorem wd_937 : (Jvm.Cond.methodLink "BundleHallLaw" (98 : Nat) ({ cls := "BundleHallModel", name := "need", desc := "(IIIIZ)I" } : Jvm.MethodName)) ∈ bh_ws := bh_int (i := 937) (by decide +kernel) (by decide +kernel)
theorem wd_938 : (Jvm.Cond.instanceMethod ({ cls := "BundleHallModel", name := "need", desc := "(IIIIZ)I" } : Jvm.MethodName)) ∈ bh_ws := bh_int (i := 938) (by decide +kernel) (by decide +kernel)
theorem wd_939 : (Jvm.Cond.selects "BundleHallModel" ({ cls := "BundleHallModel", name := "need", desc := "(IIIIZ)I" } : Jvm.MethodName) ({ cls := "BundleHallModel", name := "need", desc := "(IIIIZ)I" } : Jvm.MethodName)) ∈ bh_ws := bh_int (i := 939) (by decide +kernel) (by decide +kernel)
theorem wd_941 : (Jvm.Cond.methodLink "BundleHallLaw" (102 : Nat) ({ cls := "BundleHallModel", name := "resolve", desc := "(I)I" } : Jvm.MethodName)) ∈ bh_ws := bh_int (i := 941) (by decide +kernel) (by decide +kernel)
theorem wd_942 : (Jvm.Cond.instanceMethod ({ cls := "BundleHallModel", name := "resolve", desc := "(I)I" } : Jvm.MethodName)) ∈ bh_ws := bh_int (i := 942) (by decide +kernel) (by decide +kernel)
theorem wd_943 : (Jvm.Cond.selects "BundleHallModel" ({ cls := "BundleHallModel", name := "resolve", desc := "(I)I" } : Jvm.MethodName) ({ cls := "BundleHallModel", name := "resolve", desc := "(I)I" } : Jvm.MethodName)) ∈ bh_ws := bh_int (i := 943) (by decide +kernel) (by decide +kernel)
theorem wd_1010 : (Jvm.Cond.methodLink "BundleHallLaw" (105 : Nat) ({ cls := "BundleHallModel", name := "start", desc := "(I)I" } : Jvm.MethodName)) ∈ bh_ws := bh_int (i := 1010) (by decide +kernel) (by decide +kernel)
theorem wd_1011 : (Jvm.Cond.instanceMethod ({ cls := "BundleHallModel", name := "start", desc := "(I)I" } : Jvm.MethodName)) ∈ bh_ws := bh_int (i := 1011) (by decide +kernel) (by decide +kernel)
theorem wd_1012 : (Jvm.Cond.selects "BundleHallModel" ({ cls := "BundleHallModel", name := "start", desc := "(I)I" } : Jvm.MethodName) ({ cls := "BundleHallModel", name := "start", desc := "(I)I" } : Jvm.MethodName)) ∈ bh_ws := bh_int (i := 1012) (by decide +kernel) (by decide +kernel)
theorem wd_1034 : (Jvm.Cond.methodLink "BundleHallLaw" (108 : Nat) ({ cls := "BundleHallModel", name := "stop", desc := "(I)I" } : Jvm.MethodName)) ∈ bh_ws := bh_int (i := 1034) (by decide +kernel) (by decide +kernel)
theorem wd_1035 : (Jvm.Cond.instanceMethod ({ cls := "BundleHallModel", name := "stop", desc := "(I)I" } : Jvm.MethodName)) ∈ bh_ws := bh_int (i := 1035) (by decide +kernel) (by decide +kernel)
theorem wd_1036 : (Jvm.Cond.selects "BundleHallModel" ({ cls := "BundleHallModel", name := "stop", desc := "(I)I" } : Jvm.MethodName) ({ cls := "BundleHallModel", name := "stop", desc := "(I)I" } : Jvm.MethodName)) ∈ bh_ws := bh_int (i := 1036) (by decide +kernel) (by decide +kernel)
theorem wd_1050 : (Jvm.Cond.methodLink "BundleHallLaw" (111 : Nat) ({ cls := "BundleHallModel", name := "level", desc := "(I)I" } : Jvm.MethodName)) ∈ bh_ws := bh_int (i := 1050) (by decide +kernel) (by decide +kernel)
theorem wd_1051 : (Jvm.Cond.instanceMethod ({ cls := "BundleHallModel", name := "level", desc := "(I)I" } : Jvm.MethodName)) ∈ bh_ws := bh_int (i := 1051) (by decide +kernel) (by decide +kernel)
theorem wd_1052 : (Jvm.Cond.selects "BundleHallModel" ({ cls := "BundleHallModel", name := "level", desc := "(I)I" } : Jvm.MethodName) ({ cls := "BundleHallModel", name := "level", desc := "(I)I" } : Jvm.MethodName)) ∈ bh_ws := bh_int (i := 1052) (by decide +kernel) (by decide +kernel)
theorem wd_1054 : (Jvm.Cond.methodLink "BundleHallLaw" (114 : Nat) ({ cls := "BundleHallModel", name := "uninstall", desc := "(I)I" } : Jvm.MethodName)) ∈ bh_ws := bh_int (i := 1054) (by decide +kernel) (by decide +kernel)
theorem wd_1055 : (Jvm.Cond.instanceMethod ({ cls := "BundleHallModel", name := "uninstall", desc := "(I)I" } : Jvm.MethodName)) ∈ bh_ws := bh_int (i := 1055) (by decide +kernel) (by decide +kernel)
theorem wd_1056 : (Jvm.Cond.selects "BundleHallModel" ({ cls := "BundleHallModel", name := "uninstall", desc := "(I)I" } : Jvm.MethodName) ({ cls := "BundleHallModel", name := "uninstall", desc := "(I)I" } : Jvm.MethodName)) ∈ bh_ws := bh_int (i := 1056) (by decide +kernel) (by decide +kernel)
theorem wd_1066 : (Jvm.Cond.methodLink "BundleHallLaw" (117 : Nat) ({ cls := "BundleHallModel", name := "update", desc := "(I)I" } : Jvm.MethodName)) ∈ bh_ws := bh_int (i := 1066) (by decide +kernel) (by decide +kernel)
theorem wd_1067 : (Jvm.Cond.instanceMethod ({ cls := "BundleHallModel", name := "update", desc := "(I)I" } : Jvm.MethodName)) ∈ bh_ws := bh_int (i := 1067) (by decide +kernel) (by decide +kernel)
theorem wd_1068 : (Jvm.Cond.selects "BundleHallModel" ({ cls := "BundleHallModel", name := "update", desc := "(I)I" } : Jvm.MethodName) ({ cls := "BundleHallModel", name := "update", desc := "(I)I" } : Jvm.MethodName)) ∈ bh_ws := bh_int (i := 1068) (by decide +kernel) (by decide +kernel)
theorem wd_1070 : (Jvm.Cond.methodLink "BundleHallLaw" (121 : Nat) ({ cls := "BundleHallModel", name := "refresh", desc := "()I" } : Jvm.MethodName)) ∈ bh_ws := bh_int (i := 1070) (by decide +kernel) (by decide +kernel)
theorem wd_1071 : (Jvm.Cond.instanceMethod ({ cls := "BundleHallModel", name := "refresh", desc := "()I" } : Jvm.MethodName)) ∈ bh_ws := bh_int (i := 1071) (by decide +kernel) (by decide +kernel)
theorem wd_1072 : (Jvm.Cond.selects "BundleHallModel" ({ cls := "BundleHallModel", name := "refresh", desc := "()I" } : Jvm.MethodName) ({ cls := "BundleHallModel", name := "refresh", desc := "()I" } : Jvm.MethodName)) ∈ bh_ws := bh_int (i := 1072) (by decide +kernel) (by decide +kernel)
theorem wd_1079 : (Jvm.Cond.methodLink "BundleHallLaw" (127 : Nat) ({ cls := "BundleHallModel", name := "register", desc := "(IID)I" } : Jvm.MethodName)) ∈ bh_ws := bh_int (i := 1079) (by decide +kernel) (by decide +kernel)
theorem wd_1080 : (Jvm.Cond.instanceMethod ({ cls := "BundleHallModel", name := "register", desc := "(IID)I" } : Jvm.MethodName)) ∈ bh_ws := bh_int (i := 1080) (by decide +kernel) (by decide +kernel)
theorem wd_1081 : (Jvm.Cond.selects "BundleHallModel" ({ cls := "BundleHallModel", name := "register", desc := "(IID)I" } : Jvm.MethodName) ({ cls := "BundleHallModel", name := "register", desc := "(IID)I" } : Jvm.MethodName)) ∈ bh_ws := bh_int (i := 1081) (by decide +kernel) (by decide +kernel)
theorem wd_1085 : (Jvm.Cond.methodLink "BundleHallLaw" (131 : Nat) ({ cls := "BundleHallModel", name := "get", desc := "(II)I" } : Jvm.MethodName)) ∈ bh_ws := bh_int (i := 1085) (by decide +kernel) (by decide +kernel)
theorem wd_1086 : (Jvm.Cond.instanceMethod ({ cls := "BundleHallModel", name := "get", desc := "(II)I" } : Jvm.MethodName)) ∈ bh_ws := bh_int (i := 1086) (by decide +kernel) (by decide +kernel)
theorem wd_1087 : (Jvm.Cond.selects "BundleHallModel" ({ cls := "BundleHallModel", name := "get", desc := "(II)I" } : Jvm.MethodName) ({ cls := "BundleHallModel", name := "get", desc := "(II)I" } : Jvm.MethodName)) ∈ bh_ws := bh_int (i := 1087) (by decide +kernel) (by decide +kernel)
theorem wd_1089 : (Jvm.Cond.methodLink "BundleHallLaw" (134 : Nat) ({ cls := "BundleHallModel", name := "giveBack", desc := "(II)I" } : Jvm.MethodName)) ∈ bh_ws := bh_int (i := 1089) (by decide +kernel) (by decide +kernel)
theorem wd_1090 : (Jvm.Cond.instanceMethod ({ cls := "BundleHallModel", name := "giveBack", desc := "(II)I" } : Jvm.MethodName)) ∈ bh_ws := bh_int (i := 1090) (by decide +kernel) (by decide +kernel)
theorem wd_1091 : (Jvm.Cond.selects "BundleHallModel" ({ cls := "BundleHallModel", name := "giveBack", desc := "(II)I" } : Jvm.MethodName) ({ cls := "BundleHallModel", name := "giveBack", desc := "(II)I" } : Jvm.MethodName)) ∈ bh_ws := bh_int (i := 1091) (by decide +kernel) (by decide +kernel)
theorem wd_1097 : (Jvm.Cond.methodLink "BundleHallLaw" (137 : Nat) ({ cls := "BundleHallModel", name := "unregister", desc := "(II)I" } : Jvm.MethodName)) ∈ bh_ws := bh_int (i := 1097) (by decide +kernel) (by decide +kernel)
theorem wd_1098 : (Jvm.Cond.instanceMethod ({ cls := "BundleHallModel", name := "unregister", desc := "(II)I" } : Jvm.MethodName)) ∈ bh_ws := bh_int (i := 1098) (by decide +kernel) (by decide +kernel)
theorem wd_1099 : (Jvm.Cond.selects "BundleHallModel" ({ cls := "BundleHallModel", name := "unregister", desc := "(II)I" } : Jvm.MethodName) ({ cls := "BundleHallModel", name := "unregister", desc := "(II)I" } : Jvm.MethodName)) ∈ bh_ws := bh_int (i := 1099) (by decide +kernel) (by decide +kernel)
theorem wd_1101 : (Jvm.Cond.methodLink "BundleHallLaw" (141 : Nat) ({ cls := "BundleHallModel", name := "rank", desc := "(I)D" } : Jvm.MethodName)) ∈ bh_ws := bh_int (i := 1101) (by decide +kernel) (by decide +kernel)
theorem wd_1102 : (Jvm.Cond.instanceMethod ({ cls := "BundleHallModel", name := "rank", desc := "(I)D" } : Jvm.MethodName)) ∈ bh_ws := bh_int (i := 1102) (by decide +kernel) (by decide +kernel)
theorem wd_1103 : (Jvm.Cond.selects "BundleHallModel" ({ cls := "BundleHallModel", name := "rank", desc := "(I)D" } : Jvm.MethodName) ({ cls := "BundleHallModel", name := "rank", desc := "(I)D" } : Jvm.MethodName)) ∈ bh_ws := bh_int (i := 1103) (by decide +kernel) (by decide +kernel)
theorem wd_1105 : (Jvm.Cond.methodLink "BundleHallLaw" (145 : Nat) ({ cls := "BundleHallModel", name := "event", desc := "()I" } : Jvm.MethodName)) ∈ bh_ws := bh_int (i := 1105) (by decide +kernel) (by decide +kernel)
theorem wd_1106 : (Jvm.Cond.instanceMethod ({ cls := "BundleHallModel", name := "event", desc := "()I" } : Jvm.MethodName)) ∈ bh_ws := bh_int (i := 1106) (by decide +kernel) (by decide +kernel)
theorem wd_1107 : (Jvm.Cond.selects "BundleHallModel" ({ cls := "BundleHallModel", name := "event", desc := "()I" } : Jvm.MethodName) ({ cls := "BundleHallModel", name := "event", desc := "()I" } : Jvm.MethodName)) ∈ bh_ws := bh_int (i := 1107) (by decide +kernel) (by decide +kernel)
theorem wd_1109 : (Jvm.Cond.methodLink "BundleHallLaw" (148 : Nat) ({ cls := "BundleHallModel", name := "about", desc := "(II)I" } : Jvm.MethodName)) ∈ bh_ws := bh_int (i := 1109) (by decide +kernel) (by decide +kernel)
theorem wd_1110 : (Jvm.Cond.instanceMethod ({ cls := "BundleHallModel", name := "about", desc := "(II)I" } : Jvm.MethodName)) ∈ bh_ws := bh_int (i := 1110) (by decide +kernel) (by decide +kernel)
theorem wd_1111 : (Jvm.Cond.selects "BundleHallModel" ({ cls := "BundleHallModel", name := "about", desc := "(II)I" } : Jvm.MethodName) ({ cls := "BundleHallModel", name := "about", desc := "(II)I" } : Jvm.MethodName)) ∈ bh_ws := bh_int (i := 1111) (by decide +kernel) (by decide +kernel)
theorem wd_1113 : (Jvm.Cond.methodLink "BundleHallLaw" (151 : Nat) ({ cls := "BundleHallModel", name := "count", desc := "(I)I" } : Jvm.MethodName)) ∈ bh_ws := bh_int (i := 1113) (by decide +kernel) (by decide +kernel)
theorem wd_1114 : (Jvm.Cond.instanceMethod ({ cls := "BundleHallModel", name := "count", desc := "(I)I" } : Jvm.MethodName)) ∈ bh_ws := bh_int (i := 1114) (by decide +kernel) (by decide +kernel)
theorem wd_1115 : (Jvm.Cond.selects "BundleHallModel" ({ cls := "BundleHallModel", name := "count", desc := "(I)I" } : Jvm.MethodName) ({ cls := "BundleHallModel", name := "count", desc := "(I)I" } : Jvm.MethodName)) ∈ bh_ws := bh_int (i := 1115) (by decide +kernel) (by decide +kernel)
theorem wd_1117 : (Jvm.Cond.constantDouble "BundleHallLaw" (122 : Nat) (4593671619917905920 : UInt64)) ∈ bh_ws := bh_int (i := 1117) (by decide +kernel) (by decide +kernel)
