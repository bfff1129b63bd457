/-! CATCHING: the search through a table of handlers whose classes may not be resolved yet -/
section BCT
variable {e : Env} {f : JFrame} {a : Addr} {ce : Cell}
/-- one handler that covers the place: its class is resolved on the way, and takes the object or not -/
theorem ct_row {Q : Handler → Pre} {E : CtlPost} {d : Bool} {acts : List Action} {S : State} {y : ExceptionTableEntry} {t : List ExceptionTableEntry} {k : ClassId} (hy : covers y f.pc = true) (h0 : y.catchType ≠ 0)
    (hl : S.vm.ClassLinks e.platform f.method.cls y.catchType k) (hc : S.heap[a]? = some ce) (ho : ce.vm.isStatics = false) (hk : ∃ u, S.vm.classes[ce.cls]? = some u) :
    wp (findHandler.go f a (y :: t)) Q E e d acts S ↔
      if S.vm.assignable ce.cls k = true then Q (.found y.handlerPc) d acts (S.setVm (S.vm.noted f.method.cls y.catchType (.cls k)))
      else wp (findHandler.go f a t) Q E e d acts (S.setVm (S.vm.noted f.method.cls y.catchType (.cls k))) := by
  obtain ⟨ans, tab⟩ := (resolveClass_links e.toSetting hl).op (op := VmOp.resolveClass f.method.cls y.catchType) rfl
  have hal := (Vm.Alike.refl S.vm).noted f.method.cls y.catchType (.cls k)
  obtain ⟨u, hu⟩ := hk
  obtain ⟨_, _, _, w, -, -, -, -, -, hw, -, -⟩ := hl.here
  obtain ⟨u', hu', -⟩ := hal.2.2 _ _ hu
  obtain ⟨w', hw', -⟩ := hal.2.2 _ _ hw
  have hne := VmData.ne_statics_of ho
  have hsame : (S.vm.noted f.method.cls y.catchType (.cls k)).assignable ce.cls k = S.vm.assignable ce.cls k := by rw [hal.assignable]
  simp only [covers] at hy
  cases hfit : S.vm.assignable ce.cls k <;>
    simp [findHandler.go, hy, h0, ans, tab, hc, hne, hu', hw', hsame, hfit, VmOp.dirties, VmOp.acts]
/-- handlers that do not take the object, and then one that takes it -/
theorem ct_go {s : State} (ho : ce.vm.isStatics = false) (x : ExceptionTableEntry) (rest : List ExceptionTableEntry) {kx : ClassId} (hx : covers x f.pc = true) (hx0 : x.catchType ≠ 0)
    (hxl : s.vm.ClassLinks e.platform f.method.cls x.catchType kx) (hxa : s.vm.assignable ce.cls kx = true) :
    ∀ (pre : List ExceptionTableEntry) (S : State), s.WarmedH S.vm → S.heap[a]? = some ce →
      (∀ y ∈ pre, covers y f.pc = true ∧ y.catchType ≠ 0 ∧ ∃ k, s.vm.ClassLinks e.platform f.method.cls y.catchType k ∧ s.vm.assignable ce.cls k = false) →
      ∃ v, s.WarmedH v ∧ ∀ (Q : Handler → Pre) (E : CtlPost) (d : Bool) (acts : List Action), wp (findHandler.go f a (pre ++ x :: rest)) Q E e d acts S ↔ Q (.found x.handlerPc) d acts (S.setVm v) := by
  have note : ∀ (S : State) (y : ExceptionTableEntry) (k : ClassId), s.WarmedH S.vm → s.vm.ClassLinks e.platform f.method.cls y.catchType k → s.WarmedH (S.vm.noted f.method.cls y.catchType (.cls k)) := by
    intro S y k hS hl
    obtain ⟨dk, _, _, _, hd, _, _, _, _, _, _, hop⟩ := hl.here
    exact hS.noted hd hop (State.rightAt_cls hl)
  have there : ∀ S : State, s.WarmedH S.vm → ∃ u, S.vm.classes[ce.cls]? = some u := by
    intro S hS
    obtain ⟨_, _, _, w, -, -, -, -, -, hw, -, -⟩ := hxl.here
    obtain ⟨u, hu⟩ := Vm.classAt_of_assignable hxa ⟨w, hw⟩
    obtain ⟨u', hu', -⟩ := hS.alike.2.2 _ _ hu
    exact ⟨u', hu'⟩
  intro pre
  induction pre with
  | nil =>
    intro S hS hc _
    refine ⟨_, note S x kx hS hxl, fun Q E d acts => ?_⟩
    rw [List.nil_append, ct_row hx hx0 (hS.classLinks hxl) hc ho (there S hS), if_pos (by rw [hS.alike.assignable]; exact hxa)]
  | cons y ys ih =>
    intro S hS hc hp
    obtain ⟨hy, hy0, k, hl, hno⟩ := hp y List.mem_cons_self
    obtain ⟨v, hv, hq⟩ := ih (S.setVm (S.vm.noted f.method.cls y.catchType (.cls k))) (note S y k hS hl) hc (fun z hz => hp z (List.mem_cons_of_mem _ hz))
    refine ⟨v, hv, fun Q E d acts => ?_⟩
    rw [List.cons_append, ct_row hy hy0 (hS.classLinks hl) hc ho (there S hS), if_neg (by rw [hS.alike.assignable, hno]; exact Bool.false_ne_true)]
    exact hq Q E d acts
/-- the step of the machine that goes with such a search -/
theorem ct_step {U : State} {r : List Frame} {n : Nat} {v : Vm} (h : ∀ (Q : Handler → Pre) (E : CtlPost) (d : Bool) (acts : List Action), wp (findHandler f a) Q E e d acts U ↔ Q (.found n) d acts (U.setVm v)) :
    (stepThrowing e U a (.java f :: r)).1 = (U.setVm v).setFrames (.java { f with pc := n, stack := [.ref a] } :: r) := by
  simp only [stepThrowing, searchFrame, vmDo]
  generalize hr : Sem.go _ e false [] U = res
  obtain ⟨as, rfl, -⟩ := Sem.eq_ok_of hr (a := Handler.found n) (s' := U.setVm v) (acts' := []) (by simp [h])
  rfl
variable {p : Program} {l : Launch} {R : Room} {s : State} {m : MethodId} {args : Array Value} {below : List Frame} {meth : Method} {c : Code} {T : State} {locs : List Loc} {cells slots : Nat}
/-- the invocation goes on at the handler -/
theorem ct_caught (X : Stand p l e R s m args below meth c T locs cells slots) (a : Addr) {g : JFrame} (hg : g.method = m) (hc : T.heap[a]? = some ce) (ho : ce.vm.isStatics = false)
    (pre : List ExceptionTableEntry) (x : ExceptionTableEntry) (rest : List ExceptionTableEntry) (hsp : c.exceptionTable.toList = pre ++ x :: rest)
    (hp : ∀ y ∈ pre, covers y g.pc = true ∧ y.catchType ≠ 0 ∧ ∃ k, s.vm.ClassLinks e.platform m.cls y.catchType k ∧ s.vm.assignable ce.cls k = false)
    (hx : covers x g.pc = true) (hx0 : x.catchType ≠ 0) {kx : ClassId} (hxl : s.vm.ClassLinks e.platform m.cls x.catchType kx) (hxa : s.vm.assignable ce.cls kx = true) :
    ∃ v, Stand p l e R s m args below meth c (T.setVm v) locs cells slots ∧
      ∀ t, Steps p.tables e below ((T.setVm v).setTop { g with pc := x.handlerPc, stack := [.ref a] }) t → Steps p.tables e below ((T.setTop g).pushFrame (.throwing a)) t := by
  subst hg
  obtain ⟨v, hv, hq⟩ := ct_go (e := e) (f := g) (a := a) ho x rest hx hx0 hxl hxa pre ((T.setTop g).pushFrame (.throwing a)) (by rw [Stand.throwing_vm]; exact X.warmed) (by rw [Stand.throwing_heap]; exact hc) hp
  refine ⟨v, X.noted hv, fun t ht => ?_⟩
  obtain ⟨g₀, hfr⟩ := X.frames_eq
  obtain ⟨hgo, hwi⟩ := X.here.throwing a
  refine Steps.head hgo hwi ?_
  rw [stepThread_throwing (frames_entered X.here.top _), ct_step (v := v) (n := x.handlerPc) (fun Q E d acts => by
    rw [W.findHandler_eq (meth := meth) (code := c) (by rw [Stand.throwing_vm]; exact X.method') X.code, hsp]
    exact hq Q E d acts), X.tail]
  rw [State.setTop_of_frames _ (show (T.setVm v).frames = .java g₀ :: below from hfr)] at ht
  have hcm : ∀ F L : List Frame, ((T.setFrames F).setVm v).setFrames L = (T.setVm v).setFrames L := fun F L => by
    rw [show (T.setFrames F).setVm v = (T.setVm v).setFrames F from rfl, State.setFrames_setFrames]
  rw [State.setTop_of_frames _ hfr, State.pushFrame, State.setFrames_setFrames, hcm]
  exact ht
end BCT
/-! CATCHING: a call in a method whose handlers answer numbers -/
section BCC
variable {p : Program} {l : Launch} {e : Env} {R : Room} {s : State} {m : MethodId} {args : Array Value} {below : List Frame} {meth : Method} {c : Code} {Q : State → Prop} {G : bh_G} {base nL : Nat} {ad0 : Nat → Nat → Nat} {M0 : bh_M} {fl : Bool} {cc : ByteArray} {pc : Nat} {Bg : State → Prop}
theorem bs_finC {n b Cc : Nat} {flc : Bool} {S : bh_S} {Z : bh_F → Prop} {r : List bh_V} {ad : Nat → Nat → Nat} {H : Heap} {locs : List Loc} {ls : Array Slot} {T U : State} {g : JFrame} {y : MethodName} {ws : List Cond} {rm : Room} {maxL k : Nat} {F : bh_Fn} {a : List bh_V} {av : List Value} {mk : MethodId} {ig : Instr}
    (hM : bh_Con l G base Bg y ws rm b flc F) (hBg : bh_BgOK base Bg) (hB : Bg s) (hbs : base ≤ s.heap.size) (hcal : bh_Cal R s y maxL ws rm b k) (hn : pc + 3 = n) (hml : c.maxLocals = nL) (hcb : S.2.2.2 + b ≤ Cc) (hRc : Cc ≤ R.cells) (hRs : 256 * Cc ≤ R.slots)
    (hag : ∀ ad', bh_Ex ad ad' S.2.2.1 flc → (∀ v, some v ∈ S.1 → bh_tr ad' v = bh_tr ad v) ∧ ∀ v ∈ r, bh_tr ad' v = bh_tr ad v) (hfl : flc = true → fl = true)
    (hout : ∀ (E : String) (M' : bh_M) (ad' : Nat → Nat → Nat) (H' : Heap) (locs' : List Loc) (ls : Array Slot) (rest : List Value) (ce : Cell) (q : Nat) (cells : Nat), (ls.size = nL ∧ lv_wf ls) → Z (.inr E, M') → bh_Ex ad0 ad' M0 fl → (∀ t, bh_C M0 t ≤ bh_C M' t) → bh_Re G base ad' M' H' → va_S (fun q : Nat => base ≤ q) s.heap H' locs' → H'[q]? = some ce → ce.vm = .none → s.vm.findClass E = some ce.cls → cells ≤ Cc → bh_XW p l e R s m args below meth c H' locs' cells (256 * cells) Q (F0 m pc ls rest) q)
    (ha : bh_Ex ad0 ad M0 fl) (hC : ∀ t, bh_C M0 t ≤ bh_C S.2.2.1 t) (hR : bh_Re G base ad S.2.2.1 H) (hS : va_S (fun q : Nat => base ≤ q) s.heap H locs) (hl : bh_loc ad S.1 ls nL)
    (hF : F a S.2.2.1 (bh_after n S.1 r (S.2.2.2 + b) (fun y => bh_WA p l e R s m args below meth c Q G base nL ad0 M0 fl y.1 y.2) Z)) (hav : av = a.map (bh_tr ad)) (h8 : (r.map bh_cat).sum ≤ 8)
    (X : Stand p l e R s m args below meth c U locs S.2.2.2 (256 * S.2.2.2)) (hUH : U.heap = H) (hnm : s.methodNamed? y = some mk) (hdg : decode c.code pc = .ok (ig, 3))
    (hstep : ∀ target, (∀ acts, Steps p.tables e below (doInvoke e (U.setTop (F0 m pc ls (r.map (bh_tr ad)))) acts mk av.toArray).1 target) → Steps p.tables e below (T.setTop g) target) :
    ∃ t, Steps p.tables e below (T.setTop g) t ∧ Q t := by
  obtain ⟨hrc, hrs, hfr, hlo, hws, ⟨mk', methY, cY, hn1, hm1, hc1, hl1, -⟩, hini, -, -⟩ := hcal
  cases Option.some.inj (hnm.symm.trans hn1)
  have hex : ∀ ad', bh_Ex ad ad' S.2.2.1 flc → bh_Ex ad0 ad' M0 fl := by
    intro ad' h
    refine ⟨fun hf => ?_, fun t x hx => (h.2 t x (Nat.le_trans hx (hC t))).trans (ha.2 t x hx)⟩
    have hfc : flc = false := by
      cases flc with
      | false => rfl
      | true => rw [hfl rfl] at hf; cases hf
    rw [h.1 hfc, ha.1 hf]
  have h256 : 256 * S.2.2.2 + 256 * b = 256 * (S.2.2.2 + b) := by omega
  have hBU : Bg U := hBg.1 s U hB hbs X.warmed (fun q hq => by rw [hUH]; exact hS.2.1 q (Nat.lt_of_lt_of_le hq hbs) (by show ¬ base ≤ q; omega))
  obtain ⟨M', ad', L, s₂, U', hsteps, hx1, hmn, hR1, hF1, hL, X', hcase⟩ := bh_enter hM hBg hF X (g := F0 m pc ls (r.map (bh_tr ad))) rfl (hl.1.trans hml.symm) hdg (lv_room (by rw [bh_tr_cats]; exact h8)) (X.named hnm) (show U.vm.method? mk = some methY by rw [X.warmed.alike.method?]; exact hm1) hc1 hl1 (av := av.toArray) (by rw [hav]) (fun w hw => hws w hw _ _ X.warmed) (hini _ _ X.warmed) hfr hlo hrc hrs (by omega) (by omega) (by rw [hUH]; exact hR) (by rw [hUH]; exact Nat.le_trans hbs hS.1) hBU
  have k3 : va_S (fun q : Nat => base ≤ q) s.heap U'.heap (locs ++ L) := by
    refine ⟨Nat.le_trans hS.1 (by rw [← hUH]; exact hF1.1), fun q h1 h2 => ?_, fun q hq => ?_⟩
    · rw [hF1.2 q (by rw [hUH]; exact Nat.lt_of_lt_of_le h1 hS.1) h2, hUH]
      exact hS.2.1 q h1 h2
    · rcases List.mem_append.mp hq with h | h
      · exact hS.2.2 q h
      · exact hL q h
  rw [h256] at X'
  have hmono : ∀ t, bh_C M0 t ≤ bh_C M' t := fun t => Nat.le_trans (hC t) (hmn t)
  rcases hcase with ⟨v, hZ, he⟩ | ⟨E, q, ce, hZ, hce, hcv, hcl, he⟩
  · obtain ⟨g1, g2⟩ := hag ad' hx1
    have hl' : bh_loc ad' S.1 ls nL := ⟨hl.1, hl.2.1, hl.2.2.1, fun i w hi => by rw [g1 w (List.mem_of_getElem? hi)]; exact hl.2.2.2 i w hi⟩
    have hmap : r.map (bh_tr ad') = r.map (bh_tr ad) := List.map_congr_left g2
    subst hn
    cases v with
    | none =>
      have hZ : bh_WA p l e R s m args below meth c Q G base nL ad0 M0 fl (pc + 3) (S.1, r, M', S.2.2.2 + b) := hZ
      obtain ⟨t2, a1, b1⟩ := hZ ad' U'.heap (locs ++ L) ls (hex ad' hx1) hmono hR1 k3 hl' U' rfl X'
      have a2 : Steps p.tables e below (U'.setTop (F0 m (pc + 3) ls (r.map (bh_tr ad')))) t2 := a1
      rw [hmap] at a2
      refine ⟨t2, hstep t2 (fun acts => ?_), b1⟩
      rw [doInvoke_state]
      rw [he] at hsteps
      exact hsteps.trans a2
    | some w =>
      have hZ : bh_WA p l e R s m args below meth c Q G base nL ad0 M0 fl (pc + 3) (S.1, w :: r, M', S.2.2.2 + b) := hZ
      obtain ⟨t2, a1, b1⟩ := hZ ad' U'.heap (locs ++ L) ls (hex ad' hx1) hmono hR1 k3 hl' U' rfl X'
      have a2 : Steps p.tables e below (U'.setTop (F0 m (pc + 3) ls (bh_tr ad' w :: r.map (bh_tr ad')))) t2 := a1
      rw [hmap] at a2
      refine ⟨t2, hstep t2 (fun acts => ?_), b1⟩
      rw [doInvoke_state]
      rw [he] at hsteps
      exact hsteps.trans a2
  · have hZ : Z (.inr E, M') := hZ
    obtain ⟨t2, a1, b1⟩ := hout E M' ad' U'.heap (locs ++ L) ls (r.map (bh_tr ad)) ce q _ ⟨hl.1, hl.2.1⟩ hZ (hex ad' hx1) hmono hR1 k3 hce hcv hcl hcb U' rfl X'
    refine ⟨t2, hstep t2 (fun acts => ?_), b1⟩
    rw [doInvoke_state]
    rw [he] at hsteps
    exact hsteps.trans a1
theorem bs_callVC (hBg : bh_BgOK base Bg) (hbs : base ≤ s.heap.size) (hB : Bg s) {Ts : List Cond} {own C : String} {index k b t Cc a : Nat} {y : MethodName} {maxL : Nat} {ws : List Cond} {rm : Room} {F : bh_Fn} (X0 : CallFix p m c cc nL s args Ts own) (hK : va_K (G.1, G.2.1) classes [] s) (hM : bh_Con l G base Bg y ws rm b false F) (hcal : bh_Cal R s y maxL ws rm b k) (hlink : (Cond.methodLink own index y).before args s = true) (hinst : (Cond.instanceMethod y).before args s = true) (hsel : (Cond.selects C y y).before args s = true) {q0 : vw_C} (hc : classes[bh_ci t]? = some q0) (hqC : q0.1 = C) (hp : bh_hp t = true) (hak : bh_ak t = 0) (hka : k + 1 = a) (hRc : Cc ≤ R.cells) (hRs : 256 * Cc ≤ R.slots)
    (d : decode cc pc = .ok (.invokevirtual index, 3)) {S : bh_S} {Z : bh_F → Prop}
    (hout : ∀ (E : String) (M' : bh_M) (ad' : Nat → Nat → Nat) (H' : Heap) (locs' : List Loc) (ls : Array Slot) (rest : List Value) (ce : Cell) (q : Nat) (cells : Nat), (ls.size = nL ∧ lv_wf ls) → Z (.inr E, M') → bh_Ex ad0 ad' M0 fl → (∀ t, bh_C M0 t ≤ bh_C M' t) → bh_Re G base ad' M' H' → va_S (fun q : Nat => base ≤ q) s.heap H' locs' → H'[q]? = some ce → ce.vm = .none → s.vm.findClass E = some ce.cls → cells ≤ Cc → bh_XW p l e R s m args below meth c H' locs' cells (256 * cells) Q (F0 m pc ls rest) q)
    (h : bo_callV (pc + 3) a b Cc t F S (fun y => bh_WA p l e R s m args below meth c Q G base nL ad0 M0 fl y.1 y.2) Z) : bh_WA p l e R s m args below meth c Q G base nL ad0 M0 fl pc S := by
  intro ad H locs ls ha hC hR hS hl
  unfold bo_callV at h
  split at h
  · rename_i t' x as hq
    obtain ⟨h0, rfl, h1, h2, h8, hcb, hF⟩ := h
    have hst := bh_split hq
    have hlen : as.length = k := by
      have := congrArg List.length hq
      rw [List.length_reverse, List.length_take, List.length_cons] at this
      omega
    obtain ⟨cell, g1, g2, g3, -⟩ := (hR.1 t' x hp h1 h2).1 hak
    have hcl := (hK.1 _ _ hc).2.1
    rw [hqC, ← g2] at hcl
    have hsk : S.2.1.map (bh_tr ad) = (as.map (bh_tr ad)).reverse ++ .ref (ad t' x) :: (S.2.1.drop a).map (bh_tr ad) := by
      conv => lhs; rw [hst]
      rw [List.map_append, List.map_cons, bh_tr_ref h1, List.map_reverse]
    have hcal' := hcal
    obtain ⟨-, -, -, -, -, ⟨mk', methY, cY, hn1, hm1, hc1, hl1, hsg⟩, -, hy, har⟩ := hcal'
    obtain ⟨mk, methM, hnamed, hmethM, hstM, habM⟩ := Cond.instanceMethod_spec hinst
    have ek : mk' = mk := Option.some.inj (hn1.symm.trans hnamed)
    subst ek
    have em : methY = methM := Option.some.inj (hm1.symm.trans hmethM)
    subst em
    obtain ⟨c2, r2, m2, q1, q2, q3, q4, kP, hkP, hkPi⟩ := Cond.selects_spec hsel
    cases Option.some.inj (hcl.symm.trans q1)
    cases Option.some.inj ((State.methodFound?_of_named hnamed hy).symm.trans q2)
    cases Option.some.inj (hnamed.symm.trans q3)
    intro T hT X
    have hselP : selectMethod e.platform s.vm cell.cls mk' = .method mk' := by rw [Launch.admits_selectMethod X.admits]; exact q4
    obtain ⟨vm₁, X₁, hstep₁⟩ := X.invokevirtual X0.1 X0.2.2.2.1 hlink hnamed hmethM hstM hkP hkPi hy (a := ad t' x) (cell := cell) (by rw [hT]; exact g1) (fun z h => by rw [g3] at h; cases h) hselP hmethM habM hkP hkPi (g := F0 m pc ls (S.2.1.map (bh_tr ad))) rfl (argsL := as.map (bh_tr ad)) (rest := (S.2.1.drop a).map (bh_tr ad)) (by rw [List.length_map, hlen]; exact har _ hsg) hsk (by rw [X0.2.1]; exact d)
    exact bs_finC (a := .inr (t', x) :: as) (av := .ref (ad t' x) :: as.map (bh_tr ad)) (flc := false) hM hBg hB hbs hcal rfl X0.2.2.1 hcb hRc hRs (fun ad' hx' => by rw [hx'.1 rfl]; exact ⟨fun _ _ => rfl, fun _ _ => rfl⟩) (fun h => by cases h) hout ha hC hR hS hl hF (by rw [List.map_cons, bh_tr_ref h1]) h8 X₁ hT hnamed (by rw [X0.2.1]; exact d) hstep₁
  · exact h.elim
end BCC
section BCD
variable {p : Program} {l : Launch} {e : Env} {R : Room} {s : State} {m : MethodId} {args : Array Value} {below : List Frame} {meth : Method} {c : Code} {G : bh_G} {base nL : Nat} {ad0 : Nat → Nat → Nat} {M0 : bh_M} {fl : Bool} {cc : ByteArray} {pc : Nat} {Bg : State → Prop}
/-- a handler: store, number, return -/
def bh_hd (cc : ByteArray) (nL : Nat) (q : Nat × Nat × String × Int32) : Prop := (∃ (i : Nat) (n : Int), i < nL ∧ decode cc q.1 = .ok (.astore i, 2) ∧ decode cc (q.1 + 2) = .ok (.iconst n, 1) ∧ Int32.ofInt n = q.2.2.2 ∧ decode cc (q.1 + 2 + 1) = .ok (.ireturn, 1)) ∨ (∃ (i : Fin 4) (n : Int), (i : Nat) < nL ∧ decode cc q.1 = .ok (.astore_n i, 1) ∧ decode cc (q.1 + 1) = .ok (.iconst n, 1) ∧ Int32.ofInt n = q.2.2.2 ∧ decode cc (q.1 + 1 + 1) = .ok (.ireturn, 1))
theorem bs_hdW (hx : p.tables.exec = Jvm.exec) (hb : c.code = cc) (hr : meth.sig.returnType = some .int) (hlocks : meth.locks = false) {Cc cells : Nat} {Z : bh_F → Prop} {q : Nat × Nat × String × Int32} (hd : bh_hd cc nL q) {M' : bh_M} {ad' : Nat → Nat → Nat} {H' : Heap} {locs' : List Loc} {ls : Array Slot} {a : Addr} (hls : ls.size = nL ∧ lv_wf ls) (hZ : Z (.inl (some (.inl (.int q.2.2.2))), M')) (h1 : bh_Ex ad0 ad' M0 fl) (h2 : ∀ t, bh_C M0 t ≤ bh_C M' t) (h3 : bh_Re G base ad' M' H') (h4 : va_S (fun q : Nat => base ≤ q) s.heap H' locs') (hcc : cells ≤ Cc) : W p l e R s m args below meth c H' locs' cells (256 * cells) (bh_MQ below G base ad0 M0 fl Z Cc args s) (F0 m q.1 ls [.ref a]) := by
  have fin : ∀ (pc : Nat) (n : Int), decode cc pc = .ok (.iconst n, 1) → Int32.ofInt n = q.2.2.2 → decode cc (pc + 1) = .ok (.ireturn, 1) → ∀ ls' : Array Slot, ls'.size = nL ∧ lv_wf ls' → W p l e R s m args below meth c H' locs' cells (256 * cells) (bh_MQ below G base ad0 M0 fl Z Cc args s) (F0 m pc ls' []) := by
    intro pc n d1 hn d2 ls' hl'
    have w1 : bh_WA p l e R s m args below meth c (bh_MQ below G base ad0 M0 fl Z Cc args s) G base nL ad0 M0 fl (pc + 1) (List.replicate nL none, [.inl (.int q.2.2.2)], M', cells) := bs_iret hx hb hr hlocks d2 (show bo_iret Cc (List.replicate nL none, [.inl (.int q.2.2.2)], M', cells) _ Z from ⟨hcc, hZ⟩)
    have w0 : bh_WA p l e R s m args below meth c (bh_MQ below G base ad0 M0 fl Z Cc args s) G base nL ad0 M0 fl pc (List.replicate nL none, [], M', cells) := bs_iconst hx hb hn d1 (Z := Z) (bi_push w1)
    exact w0 ad' H' locs' ls' h1 h2 h3 h4 ⟨hl'.1, hl'.2, List.length_replicate, fun i v hi => by
      have hlt := (List.getElem?_eq_some_iff.mp hi).1
      rw [List.length_replicate] at hlt
      rw [List.getElem?_replicate, if_pos hlt] at hi
      cases hi⟩
  rcases hd with ⟨i, n, hi, d0, d1, hn, d2⟩ | ⟨i, n, hi, d0, d1, hn, d2⟩
  · exact lv_astore hx hb d0 (show lv_has ls nL [] from ⟨hls.1, hls.2, fun q hq => by cases hq⟩) hi rfl (fun ls' hl' => fin _ n d1 hn d2 ls' ⟨hl'.1, hl'.2.1⟩)
  · exact lv_astore_n hx hb d0 rfl (show lv_has ls nL [] from ⟨hls.1, hls.2, fun q hq => by cases hq⟩) hi rfl (fun ls' hl' => fin _ n d1 hn d2 ls' ⟨hl'.1, hl'.2.1⟩)
theorem bs_callC (hBg : bh_BgOK base Bg) (hbs : base ≤ s.heap.size) (hB : Bg s) {Ts : List Cond} {own C : String} {index k b t Cc a : Nat} {y : MethodName} {maxL : Nat} {ws : List Cond} {rm : Room} {F : bh_Fn} (X0 : CallFix p m c cc nL s args Ts own) (hK : va_K (G.1, G.2.1) classes [] s) (hM : bh_Con l G base Bg y ws rm b false F) (hcal : bh_Cal R s y maxL ws rm b k) (hlink : (Cond.methodLink own index y).before args s = true) (hinst : (Cond.instanceMethod y).before args s = true) (hsel : (Cond.selects C y y).before args s = true) {q0 : vw_C} (hc : classes[bh_ci t]? = some q0) (hqC : q0.1 = C) (hp : bh_hp t = true) (hak : bh_ak t = 0) (hka : k + 1 = a) (hRc : Cc ≤ R.cells) (hRs : 256 * Cc ≤ R.slots)
    (hr : meth.sig.returnType = some .int) (hlocks : meth.locks = false) {hl : List (Nat × Nat × String × Int32)} {pe : Nat} (htab : c.exceptionTable.toList.map (fun h => (h.startPc, h.endPc, h.handlerPc, h.catchType)) = hl.map (fun q => (0, pe, q.1, q.2.1))) (hpe : pc < pe) (hnd : (hl.map (fun q => q.2.2.1)).Nodup) (hlk : ∀ q ∈ hl, q.2.1 ≠ 0 ∧ (Cond.classLink own q.2.1 q.2.2.1).before args s = true ∧ (Cond.castable q.2.2.1 q.2.2.1).before args s = true) (hno : ∀ q ∈ hl, ∀ q' ∈ hl, q.2.2.1 ≠ q'.2.2.1 → va_Nc q.2.2.1 q'.2.2.1 s) (hhd : ∀ q ∈ hl, bh_hd cc nL q)
    (d : decode cc pc = .ok (.invokevirtual index, 3)) {S : bh_S} {Z : bh_F → Prop}
    (h : bo_callC (pc + 3) a b Cc t F (hl.map (fun q => (q.2.2.1, q.2.2.2))) S (fun y => bh_WA p l e R s m args below meth c (bh_MQ below G base ad0 M0 fl Z Cc args s) G base nL ad0 M0 fl y.1 y.2) Z) : bh_WA p l e R s m args below meth c (bh_MQ below G base ad0 M0 fl Z Cc args s) G base nL ad0 M0 fl pc S := by
  refine bs_callVC (Z := fun f => match f with
      | (.inr E, M) => ∃ k, (E, k) ∈ hl.map (fun q => (q.2.2.1, q.2.2.2)) ∧ Z (.inl (some (.inl (.int k))), M)
      | _ => False) hBg hbs hB X0 hK hM hcal hlink hinst hsel hc hqC hp hak hka hRc hRs d ?_ h
  intro E M' ad' H' locs' ls rest ce q cells hls hZ h1 h2 h3 h4 hce hcv hcl hcc T hT X
  obtain ⟨k9, hk9, hZ⟩ := hZ
  obtain ⟨r, hr9, e9⟩ := List.mem_map.mp hk9
  cases e9
  obtain ⟨pre, suf, hsp⟩ := List.append_of_mem hr9
  rw [hsp, List.map_append, List.map_cons] at htab
  obtain ⟨tp, ts, hts, htp, hts2⟩ := List.map_eq_append_iff.mp htab
  obtain ⟨tx, tr, htx, hfx, htr⟩ := List.map_eq_cons_iff.mp hts2
  subst htx
  have hct : tx.startPc = 0 ∧ tx.endPc = pe ∧ tx.handlerPc = r.1 ∧ tx.catchType = r.2.1 := by
    have := hfx
    simp only [Prod.mk.injEq] at this
    exact this
  obtain ⟨k1, k2, k3⟩ := hlk r hr9
  obtain ⟨c1, cT, hc1, hcT, hasg⟩ := Cond.castable_spec k3
  cases hcl.symm.trans hc1
  cases hcl.symm.trans hcT
  have hpl : e.platform.magicAccessors = ({} : Platform).magicAccessors := by rw [X.admits.platform]
  obtain ⟨kx, hkx, hlx⟩ := Cond.classLink_spec X0.2.2.2.1 k2 e.platform hpl
  cases hcl.symm.trans hkx
  have hcov : ∀ y : ExceptionTableEntry, y.startPc = 0 → y.endPc = pe → covers y pc = true := by
    intro y hy1 hy2
    show (decide (y.startPc ≤ pc) && decide (pc < y.endPc)) = true
    rw [hy1, hy2, decide_eq_true (Nat.zero_le _), decide_eq_true hpe]
    rfl
  have hpass : ∀ y ∈ tp, covers y pc = true ∧ y.catchType ≠ 0 ∧ ∃ k, s.vm.ClassLinks e.platform m.cls y.catchType k ∧ s.vm.assignable ce.cls k = false := by
    intro y hy
    have hm9 : (y.startPc, y.endPc, y.handlerPc, y.catchType) ∈ pre.map (fun q => (0, pe, q.1, q.2.1)) := by
      rw [← htp]
      exact List.mem_map_of_mem hy
    obtain ⟨q', hq', eq'⟩ := List.mem_map.mp hm9
    have hy' : y.startPc = 0 ∧ y.endPc = pe ∧ y.catchType = q'.2.1 := by
      have := eq'
      simp only [Prod.mk.injEq] at this
      exact ⟨this.1.symm, this.2.1.symm, this.2.2.2.symm⟩
    have hct' := hy'.2.2
    have hq9 : q' ∈ hl := by rw [hsp]; exact List.mem_append_left _ hq'
    have hne : r.2.2.1 ≠ q'.2.2.1 := by
      intro c9
      rw [hsp, List.map_append, List.map_cons, List.nodup_append] at hnd
      exact hnd.2.2 q'.2.2.1 (List.mem_map_of_mem hq') r.2.2.1 List.mem_cons_self c9.symm
    obtain ⟨j1, j2, -⟩ := hlk q' hq9
    obtain ⟨c', hc', hcl'⟩ := Cond.classLink_spec X0.2.2.2.1 j2 e.platform hpl
    obtain ⟨cA, tA, n1, n2, n3⟩ := hno r hr9 q' hq9 hne
    cases hcl.symm.trans n1
    cases hc'.symm.trans n2
    exact ⟨hcov y hy'.1 hy'.2.1, by rw [hct']; exact j1, c', by rw [hct']; exact hcl', n3⟩
  obtain ⟨vm', XV, st⟩ := ct_caught X q (g := F0 m pc ls rest) rfl (ce := ce) (by rw [hT]; exact hce) (by rw [hcv]; rfl) tp tx tr hts hpass (hcov tx hct.1 hct.2.1) (by rw [hct.2.2.2]; exact k1) (kx := ce.cls) (by rw [hct.2.2.2]; exact hlx) hasg
  have hW := bs_hdW (a := q) X0.1 X0.2.1 hr hlocks (hhd r hr9) hls hZ h1 h2 h3 h4 hcc (p := p) (l := l) (e := e) (R := R) (m := m) (args := args) (below := below)
  obtain ⟨t9, s9, q9⟩ := hW (T.setVm vm') hT XV
  refine ⟨t9, ?_, q9⟩
  refine st t9 ?_
  rw [hct.2.2.1]
  exact s9
end BCD
