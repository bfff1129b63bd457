/-! CONTRACTS BY THE ABSTRACT MACHINE: a method returns or throws as its abstract method says -/
/-- what every state of the run keeps beside the cells -/
def bh_BgOK (base : Nat) (Bg : State → Prop) : Prop := (∀ u U : State, Bg u → base ≤ u.heap.size → u.WarmedH U.vm → (∀ q : Nat, q < base → U.heap[q]? = u.heap[q]?) → Bg U) ∧ ∀ (U : State) (g : JFrame) (mk : MethodId) (a : Array Value), Bg U → Bg (U.calling g mk a)
def bh_Pc (G : bh_G) (base : Nat) (Bg : State → Prop) (ad : Nat → Nat → Nat) (M : bh_M) (a : List bh_V) : Array Value → State → Prop := va_Pc (a.map (bh_tr ad)) (fun U => bh_Re G base ad M U.heap ∧ base ≤ U.heap.size ∧ Bg U)
def bh_Ex (ad ad' : Nat → Nat → Nat) (M : bh_M) (fl : Bool) : Prop := (fl = false → ad' = ad) ∧ ∀ t x, x ≤ bh_C M t → ad' t x = ad t x
def bh_End (G : bh_G) (base : Nat) (ad : Nat → Nat → Nat) (M : bh_M) (fl : Bool) (Z : bh_F → Prop) (b : Nat) : Array Value → State → Outcome → State → Prop := fun _ st oc t =>
  ∃ (M' : bh_M) (ad' : Nat → Nat → Nat) (L : List Loc), bh_Ex ad ad' M fl ∧ (∀ t, bh_C M t ≤ bh_C M' t) ∧ bh_Re G base ad' M' t.heap ∧ va_F (fun q : Nat => base ≤ q) st t ∧ st.WarmedH t.vm ∧ st.sameButNew ({ t with vm := st.vm } : State) L b (256 * b) ∧ (∀ q ∈ L, base ≤ q.base) ∧
    ((∃ v : Option bh_V, oc = .returned (v.map (bh_tr ad')) ∧ Z (.inl v, M')) ∨ ∃ (E : String) (q : Addr) (ce : Cell), oc = .threw q ∧ Z (.inr E, M') ∧ t.heap[q]? = some ce ∧ ce.vm = .none ∧ st.vm.findClass E = some ce.cls)
/-- a method's contract: what the abstract method does, the method does -/
def bh_Con (l : Launch) (G : bh_G) (base : Nat) (Bg : State → Prop) (y : MethodName) (ws : List Cond) (rm : Room) (b : Nat) (fl : Bool) (F : bh_Fn) : Prop := ∀ (ad : Nat → Nat → Nat) (M : bh_M) (a : List bh_V) (Z : bh_F → Prop), F a M Z → MetFree l y (headSpec ws rm) (bh_Pc G base Bg ad M a) (fun _ _ _ _ _ => True) (bh_End G base ad M fl Z b)
theorem bh_ok_agree {ad ad' : Nat → Nat → Nat} {M : bh_M} (h : ∀ t x, x ≤ bh_C M t → ad' t x = ad t x) {v : bh_V} (hv : bh_ok M v) : bh_tr ad' v = bh_tr ad v := by
  cases v with
  | inl v => rfl
  | inr q =>
    obtain ⟨t', x'⟩ := q
    show (if x' = 0 then Value.null else .ref (ad' t' x')) = if x' = 0 then Value.null else .ref (ad t' x')
    rw [h t' x' hv]
section BC
variable {p : Program} {l : Launch} {e : Env} {R : Room} {s : State} {m : MethodId} {args : Array Value} {below : List Frame} {meth : Method} {c : Code} {G : bh_G} {base : Nat} {Bg : State → Prop}
/-- a callee is entered, and ends -/
theorem bh_enter {y : MethodName} {ws : List Cond} {rm : Room} {b maxL : Nat} {flc : Bool} {F : bh_Fn} (hM : bh_Con l G base Bg y ws rm b flc F) (hBg : bh_BgOK base Bg) {ad : Nat → Nat → Nat} {M : bh_M} {a : List bh_V} {Zc : bh_F → Prop} (hF : F a M Zc)
    {U : State} {Ls : List Loc} {c0 s0 : Nat} (X : Stand p l e R s m args below meth c U Ls c0 s0) {g : JFrame} (hg : g.method = m) (hsize : g.locals.size = c.maxLocals) {ig : Instr} (hdg : decode c.code g.pc = .ok (ig, 3)) (hW : 2 * g.monitorRoom + (g.stack.map fun v => v.category).sum ≤ 8)
    {mk : MethodId} (hn : U.methodNamed? y = some mk) {methY : Method} {cY : Code} (hmY : U.vm.method? mk = some methY) (hcY : methY.code = some cY) (hlY : cY.maxLocals = maxL) {av : Array Value} (hav : av = (a.map (bh_tr ad)).toArray) (hws : ∀ w ∈ ws, w.before av U = true) (hini : (Cond.initialized y.cls).before av U = true)
    (hfr : rm.frames + 1 ≤ R.frames) (hlo : 8 + (maxL + 11) + rm.locals ≤ R.locals) (hrc : rm.cells = b) (hrs : rm.slots = 256 * b) (hc : c0 + b ≤ R.cells) (hs : s0 + 256 * b ≤ R.slots) (hR : bh_Re G base ad M U.heap) (hbs : base ≤ U.heap.size) (hB : Bg U) :
    ∃ (M' : bh_M) (ad' : Nat → Nat → Nat) (L : List Loc) (s₂ U' : State), Steps p.tables e below (doInvoke e (U.setTop g) [] mk av).1 s₂ ∧ bh_Ex ad ad' M flc ∧ (∀ t, bh_C M t ≤ bh_C M' t) ∧ bh_Re G base ad' M' U'.heap ∧ va_F (fun q : Nat => base ≤ q) U U' ∧ (∀ q ∈ L, base ≤ q.base) ∧ Stand p l e R s m args below meth c U' (Ls ++ L) (c0 + b) (s0 + 256 * b) ∧
      ((∃ v : Option bh_V, Zc (.inl v, M') ∧ s₂ = U'.setTop { g with pc := g.pc + 3, stack := (v.map (bh_tr ad')).toList ++ g.stack }) ∨ ∃ (E : String) (q : Addr) (ce : Cell), Zc (.inr E, M') ∧ U'.heap[q]? = some ce ∧ ce.vm = .none ∧ s.vm.findClass E = some ce.cls ∧ s₂ = (U'.setTop g).pushFrame (.throwing q)) := by
  subst hav
  obtain ⟨kY, hkY, -⟩ := className_of_methodNamed hn
  have hinitY : kY.init = .initialized := Cond.initialized_spec (findClass_of_methodNamed hn) hkY hini
  have hat : At U g.method c below := by rw [hg]; exact X.here
  have happ : (headSpec ws rm).appliesLoose y e.platform (U.calling g mk (a.map (bh_tr ad)).toArray) = true :=
    Spec.appliesLoose_calling (g := g) hat hdg hn hkY hinitY (X.room_calling (g := g) (R' := (headSpec ws rm).room) hsize hmY hcY hfr (by rw [hlY]; show 2 * g.monitorRoom + (g.stack.map fun v => v.category).sum + (maxL + 11) + rm.locals ≤ R.locals; omega) (by show c0 + rm.cells ≤ _; rw [hrc]; exact hc) (by show s0 + rm.slots ≤ _; rw [hrs]; exact hs)) (atoms_intro hws)
  obtain ⟨mid, hmid⟩ := hat.above
  have hfrs : (U.setTop g).frames = (.java g :: mid) ++ below := by rw [State.frames_setTop' g hat.top, hmid]; rfl
  obtain ⟨o, s₂, hsteps, -, hend, hq⟩ := Steps.callFree (hM ad M a Zc hF) p X.admits X.cas X.clock (acts := []) hfrs happ (⟨rfl, hR, hbs, hBg.2 U g mk _ hB⟩ : bh_Pc G base Bg ad M a (a.map (bh_tr ad)).toArray (U.calling g mk (a.map (bh_tr ad)).toArray)) trivial
  obtain ⟨M', ad', L, hex, hmn, hRe, hF2, hwarm, hsame, hL, hcase⟩ := hq
  rw [State.frames_setTop' g hat.top] at hend
  have hW' : U.WarmedH s₂.vm := hwarm
  obtain ⟨e2, q2, q3, q4, q5, q6⟩ := hsame
  have e3 : s₂ = ({ (U.calling g mk (a.map (bh_tr ad)).toArray).setFrames s₂.frames with heap := s₂.heap, slotsUsed := s₂.slotsUsed } : State).setVm s₂.vm := by
    have h1 : s₂ = ({ s₂ with vm := (U.calling g mk (a.map (bh_tr ad)).toArray).vm } : State).setVm s₂.vm := rfl
    have e2' : ({ s₂ with vm := (U.calling g mk (a.map (bh_tr ad)).toArray).vm } : State) = _ := e2
    rw [e2'] at h1
    exact h1
  obtain ⟨g₀, hg0⟩ := Option.isSome_iff_exists.mp hat.top
  obtain ⟨r, hr⟩ := State.topJava?_eq_some.mp hg0
  obtain ⟨t0, ht0, -⟩ := State.frames_cons hr
  have hsame' : U.sameButNew ({ U with heap := s₂.heap, slotsUsed := s₂.slotsUsed } : State) L b (256 * b) := by
    refine ⟨?_, q2, q3, q4, q5, q6⟩
    show ({ U with heap := s₂.heap, slotsUsed := s₂.slotsUsed } : State) = { U.setFrames U.frames with heap := s₂.heap, slotsUsed := s₂.slotsUsed }
    rw [State.setFrames_self ht0]
  generalize hU' : (({ U with heap := s₂.heap, slotsUsed := s₂.slotsUsed } : State).setVm s₂.vm) = U'
  have hUh : U'.heap = s₂.heap := by rw [← hU']; rfl
  have hrU : U'.frames = .java g₀ :: r := by rw [← hU']; exact hr
  have hst : Stand p l e R s m args below meth c U' (Ls ++ L) (c0 + b) (s0 + 256 * b) := by
    rw [← hU']
    exact ⟨X.admits, X.cas, X.clock, X.frames, X.room, X.hears, X.method, X.code, (X.here.setHeapUsed s₂.heap s₂.slotsUsed).setVm hW'.alike, X.tail, State.WarmedH.trans X.warmed hW', X.limits, X.bytes, X.same.trans (hsame'.setVm s.vm)⟩
  have hFU : va_F (fun q : Nat => base ≤ q) U U' := ⟨by rw [hUh]; exact hF2.1, fun q h1 h2 => by rw [hUh]; exact hF2.2 q h1 h2⟩
  refine ⟨M', ad', L, s₂, U', hsteps, hex, hmn, by rw [hUh]; exact hRe, hFU, hL, hst, ?_⟩
  rcases hcase with ⟨v, rfl, hZ⟩ | ⟨E, q, ce, rfl, hZ, hce, hcv, hcl⟩
  · refine Or.inl ⟨v, hZ, ?_⟩
    obtain ⟨c₂, i₂, len₂, hc₂, hd₂, hf₂⟩ := hend
    have hcc : c₂ = c := by
      have h1 : s₂.code? g.method = U.code? g.method := by
        rw [State.code?_eq, State.code?_eq, hW'.alike.method?]
      exact Option.some.inj (hc₂.symm.trans (h1.trans hat.code))
    subst hcc
    have hlen : len₂ = 3 := by rw [hdg] at hd₂; cases hd₂; rfl
    subst hlen
    rw [State.setTop_of_frames _ hrU, ← hU']
    refine e3.trans ?_
    rw [hf₂, State.calling_eq hat.top, State.setFrames_setFrames, hr]
    rfl
  · refine Or.inr ⟨E, q, ce, hZ, by rw [hUh]; exact hce, hcv, ?_, ?_⟩
    · have h1 : (U.calling g mk (a.map (bh_tr ad)).toArray).vm.findClass E = some ce.cls := hcl
      have h2 : U.vm.findClass E = some ce.cls := h1
      rw [X.warmed.alike.findClass] at h2
      exact h2
    · have hf₂ : s₂.frames = .throwing q :: .java g :: U.frames.tail := hend
      show s₂ = (U'.setTop g).setFrames (.throwing q :: (U'.setTop g).frames)
      rw [State.setTop_of_frames _ hrU]
      have hcur : U'.cur < U'.threads.size := State.cur_lt_of_frames hrU
      rw [State.frames_setFrames _ hcur, State.setFrames_setFrames, ← hU']
      refine e3.trans ?_
      rw [hf₂, State.calling_eq hat.top, State.setFrames_setFrames, hr]
      rfl
end BC
