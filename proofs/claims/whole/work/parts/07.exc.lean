/-! WHAT A STATIC REFERENCE OF THE JDK HOLDS, AND WHERE: it lies below base and is never written -/
def bh_lay (C n d : String) (base : Nat) (U : State) : Prop := ∃ (k0 : ClassId) (k : Class) (i : Nat) (f : Field) (a : Nat) (cell : Cell) (v : Value), U.vm.findClass C = some k0 ∧ U.fieldFound? C n d = some (k0, k, i, f) ∧ f.isStatic = true ∧ k.statics = some a ∧ U.heap[a]? = some cell ∧ cell.vm.isStatics = true ∧ cell.cls = k0 ∧ f.slot < cell.slots.size ∧ k.staticTypes[f.slot]? = some f.type ∧ cell.slots[f.slot]? = some v ∧ v.isRef = true ∧ a < base
theorem bh_lay.keep {C n d : String} {base : Nat} {u U : State} (hvm : u.vm.Alike U.vm) (hq : ∀ q : Nat, q < base → U.heap[q]? = u.heap[q]?) (h : bh_lay C n d base u) : bh_lay C n d base U := by
  obtain ⟨k0, k, i, f, a, cell, v, h1, h2, h3, h4, h5, h6, h7, h8, h9, h10, h11, h12⟩ := h
  obtain ⟨k', g1, g2⟩ := State.fieldFound?_setVm hvm h2
  refine ⟨k0, k', i, f, a, cell, v, ?_, g1, h3, ?_, ?_, h6, h7, h8, ?_, h10, h11, h12⟩
  · rw [hvm.findClass]; exact h1
  · rw [g2]; exact h4
  · rw [hq a h12]; exact h5
  · rw [g2]; exact h9
theorem bh_lay.word1 {C n d : String} {base : Nat} {U : State} {args : Array Value} (h : bh_lay C n d base U) : (Cond.laysStatic C n d).before args U = true := by
  obtain ⟨k0, k, i, f, a, cell, v, h1, h2, h3, h4, h5, h6, h7, h8, h9, -⟩ := h
  exact Cond.laysStatic_of (first := U) (o := none) (idx := []) h1 h2 h3 h4 h5 h6 h7 h8 h9
theorem bh_lay.word2 {C n d : String} {base : Nat} {U : State} {args : Array Value} (h : bh_lay C n d base U) : (Cond.isRef (.static C n d)).before args U = true := by
  obtain ⟨k0, k, i, f, a, cell, v, h1, h2, h3, h4, h5, h6, h7, h8, h9, h10, h11, h12⟩ := h
  have hv : (Term.static C n d).eval args U none [] U = some v := by
    simp [Term.eval, State.fieldNamed?, h2, h3, h4, h5, h6, h10]
  simp only [Cond.before, Cond.holds, Cond.value, hv]
  cases v <;> simp_all [Value.isRef]
theorem bh_lay.of {C n d : String} {base : Nat} {U : State} {args : Array Value} (hl : (Cond.laysStatic C n d).before args U = true) (hr : (Cond.isRef (.static C n d)).before args U = true) (hb : U.heap.size ≤ base) : bh_lay C n d base U := by
  obtain ⟨k0, k, i, f, a, cell, h1, h2, h3, h4, h5, h6, h7, h8, h9⟩ := Cond.laysStatic_spec hl
  have hlt : a < U.heap.size := (Array.getElem?_eq_some_iff.mp h5).1
  refine ⟨k0, k, i, f, a, cell, cell.slots[f.slot], h1, h2, h3, h4, h5, h6, h7, h8, h9, Array.getElem?_eq_getElem h8, ?_, Nat.lt_of_lt_of_le hlt hb⟩
  have hv : (Term.static C n d).eval args U none [] U = some cell.slots[f.slot] := by
    simp [Term.eval, State.fieldNamed?, h2, h3, h4, h5, h6, h8]
  simp only [Cond.before, Cond.holds, Cond.value, hv] at hr
  generalize cell.slots[f.slot] = w at hr
  cases w <;> simp_all [Value.isRef]
section BX
variable {p : Program} {l : Launch} {e : Env} {R : Room} {s : State} {m : MethodId} {args : Array Value} {below : List Frame} {meth : Method} {c : Code} {T : State} {locs : List Loc} {cells slots : Nat}
/-- the method's frame as if it had been entered here, with room for an exception -/
theorem bh_again (X : Stand p l e R s m args below meth c T locs cells slots) (hc : cells + 1 ≤ R.cells) (hs : slots + 6 ≤ R.slots) :
    Stand p l e { frames := R.frames, cells := 1, slots := 6, locals := R.locals } ((T.setVm s.vm).setFrames (.invoking m args :: below)) m args below meth c T [] 0 0 := by
  have hin : (T.setVm s.vm).cur < (T.setVm s.vm).threads.size := State.cur_lt_of_top (s := T.setVm s.vm) X.here.top
  have hfr : ((T.setVm s.vm).setFrames (.invoking m args :: below)).frames = .invoking m args :: below := State.frames_setFrames _ hin
  obtain ⟨g, hg⟩ := Option.isSome_iff_exists.mp (show (T.setVm s.vm).topJava?.isSome from X.here.top)
  obtain ⟨r, hr⟩ := State.topJava?_eq_some.mp hg
  obtain ⟨t, ht, -⟩ := State.frames_cons hr
  have hlim : e.platform.stackLimits ((T.setVm s.vm).setFrames (.invoking m args :: below)).me = e.platform.stackLimits s.me := by
    rw [State.stackLimits_setFrames]
    exact X.limits
  have hbyt : ((T.setVm s.vm).setFrames (.invoking m args :: below)).me.stackBytes = s.me.stackBytes := by
    rw [State.stackBytes_setFrames]
    exact X.bytes
  have huse : ((T.setVm s.vm).setFrames (.invoking m args :: below)).localsInUse = s.localsInUse := by
    rw [State.localsInUse_invoking X.frames X.method X.code]
    exact State.localsInUse_invoking hfr (meth := meth) (c := c) X.method X.code
  have hdrop : T.heap.toList.drop T.heap.size = [] := List.drop_eq_nil_of_le (by rw [Array.length_toList]; exact Nat.le_refl _)
  refine { admits := X.admits, cas := X.cas, clock := X.clock, frames := hfr, room := ?_, hears := X.hears, method := X.method, code := X.code, here := X.here, tail := X.tail, warmed := X.warmed, limits := ?_, bytes := ?_, same := ?_ }
  · have h0 := X.room
    have b1 := X.heapSize
    have b2 := X.used
    simp only [State.hasRoom, Bool.and_eq_true, decide_eq_true_eq] at h0 ⊢
    rw [X.frames] at h0
    rw [hfr, huse, hlim, hbyt]
    obtain ⟨⟨⟨⟨a1, a2, a3, a4, a5, a6⟩, a7⟩, a8⟩, a9⟩ := h0
    refine ⟨⟨⟨⟨a1, a2, a3, a4, a5, a6⟩, ?_⟩, ?_⟩, X.book⟩
    · show T.heap.size + 1 ≤ _
      omega
    · show T.slotsUsed + 6 ≤ _
      omega
  · exact X.limits.trans hlim.symm
  · exact X.bytes.trans hbyt.symm
  · refine ⟨?_, Nat.le_refl _, Nat.le_refl _, ?_, ?_, fun _ w hw => ⟨w, hw, rfl, rfl, fun _ _ => rfl⟩⟩
    · show T.setVm s.vm = { ((T.setVm s.vm).setFrames (.invoking m args :: below)).setFrames (T.setVm s.vm).frames with heap := T.heap, slotsUsed := T.slotsUsed }
      rw [State.setFrames_setFrames, State.setFrames_self ht]
      rfl
    · show T.slotsUsed = T.slotsUsed + ((T.heap.toList.drop T.heap.size).map (·.slots.size)).sum
      rw [hdrop]
      rfl
    · show ((T.heap.toList.drop T.heap.size).map (·.slots.size)).sum ≤ 0
      rw [hdrop]
      exact Nat.le_refl _
/-- what stays of the cells, by the frame of an end -/
theorem bh_cellsKept {u t : State} {L : List Loc} {k n : Nat} (h : u.sameButNew ({ t with vm := u.vm } : State) L k n) : u.heap.size ≤ t.heap.size ∧ t.heap.size ≤ u.heap.size + k ∧ ∀ q : Nat, q < u.heap.size → (∀ z ∈ L, z.base ≠ q) → t.heap[q]? = u.heap[q]? := by
  obtain ⟨-, h2, h3, -, -, h6⟩ := h
  refine ⟨h2, h3, fun q hq hz => ?_⟩
  obtain ⟨w, e1, e2, e3, e4⟩ := h6 q _ (Array.getElem?_eq_getElem hq)
  have hs : w.slots = (u.heap[q]).slots := Array.ext_getElem? fun i => e4 i fun hm => hz _ hm rfl
  rw [hs] at e2
  have e5 : t.heap[q]? = some w := e1
  rw [e5, show w = u.heap[q] from e2, Array.getElem?_eq_getElem hq]
/-- 'throw new E(text)': five instructions; the exception leaves the method. The text comes by ldc (n = 2) or ldc_w (n = 3) -/
theorem bh_throw {Q : State → Prop} {H : Heap} {pc n : Nat} {ls : Array Slot} (hx : p.tables.exec = Jvm.exec) (htr : l.stackTraces = false) {own E text : String} {ik is ic ix sa : Nat} {rx : ByteArray} (x0 : decode rx 0 = .ok (.aload_n 0, 1)) (x1 : decode rx 1 = .ok (.aload_n 1, 1)) (x2 : decode rx 2 = .ok (.invokespecial ix, 3)) (x5 : decode rx 5 = .ok (.return_, 1)) (hown : s.vm.findClass own = some m.cls) (hE : Bundle.fit E = true)
    (hlink : (Cond.classLink own ik E).onTables = true ∧ (Cond.classLink own ik E).before args s = true) (hini : (Cond.initialized E).onTables = true ∧ (Cond.initialized E).before args s = true) (hstr : vk_R own is text sa s)
    (hat : ∀ U : State, U.vm = s.vm → U.heap = H → ∀ w ∈ bh_oat own ic E ix rx, w.before args U = true)
    (hsize : ls.size = c.maxLocals) (d0 : decode c.code pc = .ok (.new ik, 3)) (d1 : decode c.code (pc + 3) = .ok (.dup, 1)) (d2 : (n = 2 ∧ decode c.code (pc + 4) = .ok (.ldc is, 2)) ∨ (n = 3 ∧ decode c.code (pc + 4) = .ok (.ldc_w is, 3))) (d3 : decode c.code (pc + 4 + n) = .ok (.invokespecial ic, 3)) (d4 : decode c.code (pc + 4 + n + 3) = .ok (.athrow, 1))
    (htab : ∀ x ∈ c.exceptionTable.toList, False) (hlocks : meth.locks = false) (hRf : 2 + 3 < R.frames) (hRl : 13 * (2 + 1) + 43 ≤ R.locals) (hRc : cells + 1 ≤ R.cells) (hRs : slots + 6 ≤ R.slots)
    (kk : ∀ (t : State) (q : Nat) (ce : Cell), t.status = .running → Ended t below (.threw q) → s.WarmedH t.vm → s.sameButNew ({ t with vm := s.vm } : State) locs (cells + 1) (slots + 6) → H.size ≤ t.heap.size → t.heap.size ≤ H.size + 1 → (∀ z : Nat, z < H.size → t.heap[z]? = H[z]?) → q = H.size → t.heap[q]? = some ce → ce.vm = .none → s.vm.findClass E = some ce.cls → Q t) :
    W p l e R s m args below meth c H locs cells slots Q (F0 m pc ls []) := by
  intro T hT X
  have htr' : e.platform.stackTraces = false := (show e.platform.stackTraces = l.stackTraces by rw [X.admits.platform]).trans htr
  have Y := bh_again X hRc hRs
  obtain ⟨s', hs'⟩ : ∃ z, z = (T.setVm s.vm).setFrames (.invoking m args :: below) := ⟨_, rfl⟩
  rw [← hs'] at Y
  have hvm : s'.vm = s.vm := by rw [hs']; rfl
  have hhp : s'.heap = H := by rw [hs']; exact hT
  have hW0 : s.WarmedH s'.vm := by rw [hvm]; exact State.WarmedH.refl s
  have hown' : s'.vm.findClass own = some m.cls := by rw [hvm]; exact hown
  have hatm := hat s' hvm hhp
  have hins : (Cond.instantiable E 6).before args s' = true := hatm _ (by simp [bh_oat])
  obtain ⟨vm₁, cX, kX, hfX, hkX, -, -, X₁, st1⟩ := Y.newCold hx (own := own) (C := E) (index := ik) (n := 6) hown' (va_tabs hlink.1 hvm.symm hlink.2) hins (va_tabs hini.1 hvm.symm hini.2)
    (g := F0 m pc ls []) rfl d0 (Nat.le_refl _) (Nat.le_refl _)
  generalize hT1 : (T.setVm vm₁).pushCell { cls := cX, slots := kX.instanceTypes.map defaultValue, vm := .none } = T1 at X₁ st1
  have hfresh : T1.heap[T.heap.size]? = some (freshCell cX kX) := by rw [← hT1]; exact State.heap_pushCell_size _ _
  have hstr' : vk_R own is text sa s' := vk_R.warm hW0 hstr
  obtain ⟨U, hsteps, hrun, hend, hW, hsame, ce, hce, hcv, hcl⟩ := bh_ctor X₁ hx htr' x0 x1 x2 x5 hown' hE hatm hfX hkX hfresh (by rw [hhp, hT]; exact Nat.le_refl _)
    (g := F0 m (pc + 4 + n) ls [.ref sa, .ref T.heap.size, .ref T.heap.size]) rfl hsize rfl rfl rfl d3 d4 (fun z hz => (htab z hz).elim) hRf (by show 2 * 0 + 1 + _ ≤ R.locals; omega) hlocks
  obtain ⟨f1, f2, f3⟩ := bh_cellsKept hsame
  rw [hhp] at f1 f2 f3
  have hall : s.sameButNew ({ U with vm := s.vm } : State) locs (cells + 1) (slots + 6) := by
    subst hs'
    obtain ⟨e1, e2⟩ := hsame
    rw [State.setFrames_setFrames] at e1
    have h2 : (T.setVm s.vm).sameButNew ({ U with vm := s.vm } : State) [] (0 + 1) (0 + 6) := ⟨e1, e2⟩
    have h3 := X.same.trans h2
    rw [List.append_nil] at h3
    exact h3
  rw [hvm] at hcl
  refine ⟨U, st1 _ ?_, kk U T.heap.size ce hrun hend (State.WarmedH.trans hW0 hW) hall f1 (by omega) (fun z hz => f3 z hz (fun w hw => nomatch hw)) (by rw [hT]) hce hcv hcl⟩
  show Steps p.tables e below (T1.setTop (F0 m (pc + 3) ls [.ref T.heap.size])) _
  jvm_step X₁.here [X₁.here.top, hx, d1, Value.category]
  rcases d2 with ⟨rfl, d2⟩ | ⟨rfl, d2⟩
  · exact X₁.ldcString hx (own := own) (text := text) (index := is) (a := sa) hown' hstr'.1 hstr'.2 (g := F0 m (pc + 4) ls [.ref T.heap.size, .ref T.heap.size]) rfl d2 _ hsteps
  · exact X₁.ldcStringW hx (own := own) (text := text) (index := is) (a := sa) hown' hstr'.1 hstr'.2 (g := F0 m (pc + 4) ls [.ref T.heap.size, .ref T.heap.size]) rfl d2 _ hsteps
end BX
