/-- what a caller knows of a callee -/
def bh_Cal (R : Room) (s : State) (y : MethodName) (maxL : Nat) (ws : List Cond) (rm : Room) (b n : Nat) : Prop :=
  rm.cells = b ∧ rm.slots = 256 * b ∧ rm.frames + 1 ≤ R.frames ∧ 8 + (maxL + 11) + rm.locals ≤ R.locals ∧ (∀ w ∈ ws, ∀ (a' : Array Value) (U : State), s.WarmedH U.vm → w.before a' U = true) ∧
  (∃ (mk : MethodId) (methY : Method) (cY : Code), s.methodNamed? y = some mk ∧ s.vm.method? mk = some methY ∧ methY.code = some cY ∧ cY.maxLocals = maxL ∧ parseMethodDescriptor y.desc = some methY.sig) ∧
  (∀ (a' : Array Value) (U : State), s.WarmedH U.vm → (Cond.initialized y.cls).before a' U = true) ∧ (y.cls ≠ "java/lang/invoke/MethodHandle" ∧ y.cls ≠ "java/lang/invoke/VarHandle") ∧ ∀ sig, parseMethodDescriptor y.desc = some sig → n = sig.parameters.length
/-- the frame g of the method, with q thrown over it, comes to a state with Q -/
def bh_XW (p : Program) (l : Launch) (e : Env) (R : Room) (s : State) (m : MethodId) (args : Array Value) (below : List Frame) (meth : Method) (c : Code) (H : Heap) (locs : List Loc) (cells slots : Nat) (Q : State → Prop) (g : JFrame) (q : Addr) : Prop :=
  ∀ T : State, T.heap = H → Stand p l e R s m args below meth c T locs cells slots → ∃ t, Steps p.tables e below ((T.setTop g).pushFrame (.throwing q)) t ∧ Q t
theorem bh_split {st as : List bh_V} {a : Nat} {v : bh_V} (h : (st.take a).reverse = v :: as) : st = as.reverse ++ v :: st.drop a := by
  have h1 : st.take a = as.reverse ++ [v] := by
    rw [← List.reverse_reverse (st.take a), h, List.reverse_cons]
  calc st = st.take a ++ st.drop a := (List.take_append_drop a st).symm
    _ = _ := by rw [h1, List.append_assoc]; rfl
section BS4
variable {p : Program} {l : Launch} {e : Env} {R : Room} {s : State} {m : MethodId} {args : Array Value} {below : List Frame} {meth : Method} {c : Code} {Q : State → Prop} {G : bh_G} {base nL : Nat} {ad0 : Nat → Nat → Nat} {M0 : bh_M} {fl : Bool} {cc : ByteArray} {pc : Nat} {Bg : State → Prop}
/-- behind a call -/
theorem bs_fin {n b Cc : Nat} {flc : Bool} {S : bh_S} {Z : bh_F → Prop} {r : List bh_V} {ad : Nat → Nat → Nat} {H : Heap} {locs : List Loc} {ls : Array Slot} {T U : State} {g : JFrame} {y : MethodName} {ws : List Cond} {rm : Room} {maxL k : Nat} {F : bh_Fn} {a : List bh_V} {av : List Value} {mk : MethodId} {ig : Instr}
    (hM : bh_Con l G base Bg y ws rm b flc F) (hBg : bh_BgOK base Bg) (hB : Bg s) (hbs : base ≤ s.heap.size) (hcal : bh_Cal R s y maxL ws rm b k) (hn : pc + 3 = n) (hml : c.maxLocals = nL) (hcb : S.2.2.2 + b ≤ Cc) (hRc : Cc ≤ R.cells) (hRs : 256 * Cc ≤ R.slots)
    (hag : ∀ ad', bh_Ex ad ad' S.2.2.1 flc → (∀ v, some v ∈ S.1 → bh_tr ad' v = bh_tr ad v) ∧ ∀ v ∈ r, bh_tr ad' v = bh_tr ad v) (hfl : flc = true → fl = true)
    (hout : ∀ (E : String) (M' : bh_M) (ad' : Nat → Nat → Nat) (H' : Heap) (locs' : List Loc) (ls : Array Slot) (rest : List Value) (ce : Cell) (q : Nat) (cells : Nat), ls.size = nL → Z (.inr E, M') → bh_Ex ad0 ad' M0 fl → (∀ t, bh_C M0 t ≤ bh_C M' t) → bh_Re G base ad' M' H' → va_S (fun q : Nat => base ≤ q) s.heap H' locs' → H'[q]? = some ce → ce.vm = .none → s.vm.findClass E = some ce.cls → cells ≤ Cc → bh_XW p l e R s m args below meth c H' locs' cells (256 * cells) Q (F0 m pc ls rest) q)
    (ha : bh_Ex ad0 ad M0 fl) (hC : ∀ t, bh_C M0 t ≤ bh_C S.2.2.1 t) (hR : bh_Re G base ad S.2.2.1 H) (hS : va_S (fun q : Nat => base ≤ q) s.heap H locs) (hl : bh_loc ad S.1 ls nL)
    (hF : F a S.2.2.1 (bh_after n S.1 r (S.2.2.2 + b) (fun y => bh_WA p l e R s m args below meth c Q G base nL ad0 M0 fl y.1 y.2) Z)) (hav : av = a.map (bh_tr ad)) (h8 : (r.map bh_cat).sum ≤ 8)
    (X : Stand p l e R s m args below meth c U locs S.2.2.2 (256 * S.2.2.2)) (hUH : U.heap = H) (hnm : s.methodNamed? y = some mk) (hdg : decode c.code pc = .ok (ig, 3))
    (hstep : ∀ target, (∀ acts, Steps p.tables e below (doInvoke e (U.setTop (F0 m pc ls (r.map (bh_tr ad)))) acts mk av.toArray).1 target) → Steps p.tables e below (T.setTop g) target) :
    ∃ t, Steps p.tables e below (T.setTop g) t ∧ Q t := by
  obtain ⟨hrc, hrs, hfr, hlo, hws, ⟨mk', methY, cY, hn1, hm1, hc1, hl1, -⟩, hini, -, -⟩ := hcal
  cases Option.some.inj (hnm.symm.trans hn1)
  have hex : ∀ ad', bh_Ex ad ad' S.2.2.1 flc → bh_Ex ad0 ad' M0 fl := by
    intro ad' h
    refine ⟨fun hf => ?_, fun t x hx => (h.2 t x (Nat.le_trans hx (hC t))).trans (ha.2 t x hx)⟩
    have hfc : flc = false := by
      cases flc with
      | false => rfl
      | true => rw [hfl rfl] at hf; cases hf
    rw [h.1 hfc, ha.1 hf]
  have h256 : 256 * S.2.2.2 + 256 * b = 256 * (S.2.2.2 + b) := by omega
  have hBU : Bg U := hBg.1 s U hB hbs X.warmed (fun q hq => by rw [hUH]; exact hS.2.1 q (Nat.lt_of_lt_of_le hq hbs) (by show ¬ base ≤ q; omega))
  obtain ⟨M', ad', L, s₂, U', hsteps, hx1, hmn, hR1, hF1, hL, X', hcase⟩ := bh_enter hM hBg hF X (g := F0 m pc ls (r.map (bh_tr ad))) rfl (hl.1.trans hml.symm) hdg (lv_room (by rw [bh_tr_cats]; exact h8)) (X.named hnm) (show U.vm.method? mk = some methY by rw [X.warmed.alike.method?]; exact hm1) hc1 hl1 (av := av.toArray) (by rw [hav]) (fun w hw => hws w hw _ _ X.warmed) (hini _ _ X.warmed) hfr hlo hrc hrs (by omega) (by omega) (by rw [hUH]; exact hR) (by rw [hUH]; exact Nat.le_trans hbs hS.1) hBU
  have k3 : va_S (fun q : Nat => base ≤ q) s.heap U'.heap (locs ++ L) := by
    refine ⟨Nat.le_trans hS.1 (by rw [← hUH]; exact hF1.1), fun q h1 h2 => ?_, fun q hq => ?_⟩
    · rw [hF1.2 q (by rw [hUH]; exact Nat.lt_of_lt_of_le h1 hS.1) h2, hUH]
      exact hS.2.1 q h1 h2
    · rcases List.mem_append.mp hq with h | h
      · exact hS.2.2 q h
      · exact hL q h
  rw [h256] at X'
  have hmono : ∀ t, bh_C M0 t ≤ bh_C M' t := fun t => Nat.le_trans (hC t) (hmn t)
  rcases hcase with ⟨v, hZ, he⟩ | ⟨E, q, ce, hZ, hce, hcv, hcl, he⟩
  · obtain ⟨g1, g2⟩ := hag ad' hx1
    have hl' : bh_loc ad' S.1 ls nL := ⟨hl.1, hl.2.1, hl.2.2.1, fun i w hi => by rw [g1 w (List.mem_of_getElem? hi)]; exact hl.2.2.2 i w hi⟩
    have hmap : r.map (bh_tr ad') = r.map (bh_tr ad) := List.map_congr_left g2
    subst hn
    cases v with
    | none =>
      have hZ : bh_WA p l e R s m args below meth c Q G base nL ad0 M0 fl (pc + 3) (S.1, r, M', S.2.2.2 + b) := hZ
      obtain ⟨t2, a1, b1⟩ := hZ ad' U'.heap (locs ++ L) ls (hex ad' hx1) hmono hR1 k3 hl' U' rfl X'
      have a2 : Steps p.tables e below (U'.setTop (F0 m (pc + 3) ls (r.map (bh_tr ad')))) t2 := a1
      rw [hmap] at a2
      refine ⟨t2, hstep t2 (fun acts => ?_), b1⟩
      rw [doInvoke_state]
      rw [he] at hsteps
      exact hsteps.trans a2
    | some w =>
      have hZ : bh_WA p l e R s m args below meth c Q G base nL ad0 M0 fl (pc + 3) (S.1, w :: r, M', S.2.2.2 + b) := hZ
      obtain ⟨t2, a1, b1⟩ := hZ ad' U'.heap (locs ++ L) ls (hex ad' hx1) hmono hR1 k3 hl' U' rfl X'
      have a2 : Steps p.tables e below (U'.setTop (F0 m (pc + 3) ls (bh_tr ad' w :: r.map (bh_tr ad')))) t2 := a1
      rw [hmap] at a2
      refine ⟨t2, hstep t2 (fun acts => ?_), b1⟩
      rw [doInvoke_state]
      rw [he] at hsteps
      exact hsteps.trans a2
  · have hZ : Z (.inr E, M') := hZ
    obtain ⟨t2, a1, b1⟩ := hout E M' ad' U'.heap (locs ++ L) ls (r.map (bh_tr ad)) ce q _ hl.1 hZ (hex ad' hx1) hmono hR1 k3 hce hcv hcl hcb U' rfl X'
    refine ⟨t2, hstep t2 (fun acts => ?_), b1⟩
    rw [doInvoke_state]
    rw [he] at hsteps
    exact hsteps.trans a1
theorem bs_callV (hBg : bh_BgOK base Bg) (hbs : base ≤ s.heap.size) (hB : Bg s) {Ts : List Cond} {own C : String} {index k b t Cc a : Nat} {y : MethodName} {maxL : Nat} {ws : List Cond} {rm : Room} {F : bh_Fn} (X0 : CallFix p m c cc nL s args Ts own) (hK : va_K (G.1, G.2.1) classes [] s) (hM : bh_Con l G base Bg y ws rm b false F) (hcal : bh_Cal R s y maxL ws rm b k) (hlink : (Cond.methodLink own index y).before args s = true) (hinst : (Cond.instanceMethod y).before args s = true) (hsel : (Cond.selects C y y).before args s = true) {q0 : vw_C} (hc : classes[bh_ci t]? = some q0) (hqC : q0.1 = C) (hp : bh_hp t = true) (hak : bh_ak t = 0) (hka : k + 1 = a) (hRc : Cc ≤ R.cells) (hRs : 256 * Cc ≤ R.slots)
    (d : decode cc pc = .ok (.invokevirtual index, 3)) {S : bh_S} {Z : bh_F → Prop}
    (hout : ∀ (E : String) (M' : bh_M) (ad' : Nat → Nat → Nat) (H' : Heap) (locs' : List Loc) (ls : Array Slot) (rest : List Value) (ce : Cell) (q : Nat) (cells : Nat), ls.size = nL → Z (.inr E, M') → bh_Ex ad0 ad' M0 fl → (∀ t, bh_C M0 t ≤ bh_C M' t) → bh_Re G base ad' M' H' → va_S (fun q : Nat => base ≤ q) s.heap H' locs' → H'[q]? = some ce → ce.vm = .none → s.vm.findClass E = some ce.cls → cells ≤ Cc → bh_XW p l e R s m args below meth c H' locs' cells (256 * cells) Q (F0 m pc ls rest) q)
    (h : bo_callV (pc + 3) a b Cc t F S (fun y => bh_WA p l e R s m args below meth c Q G base nL ad0 M0 fl y.1 y.2) Z) : bh_WA p l e R s m args below meth c Q G base nL ad0 M0 fl pc S := by
  intro ad H locs ls ha hC hR hS hl
  unfold bo_callV at h
  split at h
  · rename_i t' x as hq
    obtain ⟨h0, rfl, h1, h2, h8, hcb, hF⟩ := h
    have hst := bh_split hq
    have hlen : as.length = k := by
      have := congrArg List.length hq
      rw [List.length_reverse, List.length_take, List.length_cons] at this
      omega
    obtain ⟨cell, g1, g2, g3, -⟩ := (hR.1 t' x hp h1 h2).1 hak
    have hcl := (hK.1 _ _ hc).2.1
    rw [hqC, ← g2] at hcl
    have hsk : S.2.1.map (bh_tr ad) = (as.map (bh_tr ad)).reverse ++ .ref (ad t' x) :: (S.2.1.drop a).map (bh_tr ad) := by
      conv => lhs; rw [hst]
      rw [List.map_append, List.map_cons, bh_tr_ref h1, List.map_reverse]
    have hcal' := hcal
    obtain ⟨-, -, -, -, -, ⟨mk', methY, cY, hn1, hm1, hc1, hl1, hsg⟩, -, hy, har⟩ := hcal'
    obtain ⟨mk, methM, hnamed, hmethM, hstM, habM⟩ := Cond.instanceMethod_spec hinst
    have ek : mk' = mk := Option.some.inj (hn1.symm.trans hnamed)
    subst ek
    have em : methY = methM := Option.some.inj (hm1.symm.trans hmethM)
    subst em
    obtain ⟨c2, r2, m2, q1, q2, q3, q4, kP, hkP, hkPi⟩ := Cond.selects_spec hsel
    cases Option.some.inj (hcl.symm.trans q1)
    cases Option.some.inj ((State.methodFound?_of_named hnamed hy).symm.trans q2)
    cases Option.some.inj (hnamed.symm.trans q3)
    intro T hT X
    have hselP : selectMethod e.platform s.vm cell.cls mk' = .method mk' := by rw [Launch.admits_selectMethod X.admits]; exact q4
    obtain ⟨vm₁, X₁, hstep₁⟩ := X.invokevirtual X0.1 X0.2.2.2.1 hlink hnamed hmethM hstM hkP hkPi hy (a := ad t' x) (cell := cell) (by rw [hT]; exact g1) (fun z h => by rw [g3] at h; cases h) hselP hmethM habM hkP hkPi (g := F0 m pc ls (S.2.1.map (bh_tr ad))) rfl (argsL := as.map (bh_tr ad)) (rest := (S.2.1.drop a).map (bh_tr ad)) (by rw [List.length_map, hlen]; exact har _ hsg) hsk (by rw [X0.2.1]; exact d)
    exact bs_fin (a := .inr (t', x) :: as) (av := .ref (ad t' x) :: as.map (bh_tr ad)) (flc := false) hM hBg hB hbs hcal rfl X0.2.2.1 hcb hRc hRs (fun ad' hx' => by rw [hx'.1 rfl]; exact ⟨fun _ _ => rfl, fun _ _ => rfl⟩) (fun h => by cases h) hout ha hC hR hS hl hF (by rw [List.map_cons, bh_tr_ref h1]) h8 X₁ hT hnamed (by rw [X0.2.1]; exact d) hstep₁
  · exact h.elim
theorem bs_callS (hBg : bh_BgOK base Bg) (hbs : base ≤ s.heap.size) (hB : Bg s) {Ts : List Cond} {own : String} {index b Cc a : Nat} {y : MethodName} {maxL : Nat} {ws : List Cond} {rm : Room} {F : bh_Fn} (X0 : CallFix p m c cc nL s args Ts own) (hM : bh_Con l G base Bg y ws rm b false F) (hcal : bh_Cal R s y maxL ws rm b a) (hlink : (Cond.methodLink own index y).before args s = true) (hstat : (Cond.static y).before args s = true) (hRc : Cc ≤ R.cells) (hRs : 256 * Cc ≤ R.slots)
    (d : decode cc pc = .ok (.invokestatic index, 3)) {S : bh_S} {Z : bh_F → Prop}
    (hout : ∀ (E : String) (M' : bh_M) (ad' : Nat → Nat → Nat) (H' : Heap) (locs' : List Loc) (ls : Array Slot) (rest : List Value) (ce : Cell) (q : Nat) (cells : Nat), ls.size = nL → Z (.inr E, M') → bh_Ex ad0 ad' M0 fl → (∀ t, bh_C M0 t ≤ bh_C M' t) → bh_Re G base ad' M' H' → va_S (fun q : Nat => base ≤ q) s.heap H' locs' → H'[q]? = some ce → ce.vm = .none → s.vm.findClass E = some ce.cls → cells ≤ Cc → bh_XW p l e R s m args below meth c H' locs' cells (256 * cells) Q (F0 m pc ls rest) q)
    (h : bo_callS (pc + 3) a b Cc F S (fun y => bh_WA p l e R s m args below meth c Q G base nL ad0 M0 fl y.1 y.2) Z) : bh_WA p l e R s m args below meth c Q G base nL ad0 M0 fl pc S := by
  intro ad H locs ls ha hC hR hS hl
  obtain ⟨h0, h8, hcb, hF⟩ := h
  have hlen : ((S.2.1.take a).reverse.map (bh_tr ad)).length = a := by
    rw [List.length_map, List.length_reverse, List.length_take]
    omega
  have hsk : S.2.1.map (bh_tr ad) = ((S.2.1.take a).reverse.map (bh_tr ad)).reverse ++ (S.2.1.drop a).map (bh_tr ad) := by
    rw [← List.map_reverse, List.reverse_reverse, ← List.map_append, List.take_append_drop]
  have hcal' := hcal
  obtain ⟨-, -, -, -, -, ⟨mk, methY, cY, hn1, hm1, hc1, hl1, hsg⟩, hini, hy, har⟩ := hcal'
  have hstatic : methY.isStatic = true := Cond.static_spec hn1 hm1 hstat
  obtain ⟨kP, hkP, -⟩ := className_of_methodNamed hn1
  have hinitP : kP.init = .initialized := Cond.initialized_spec (args := args) (findClass_of_methodNamed hn1) hkP (hini args s (State.WarmedH.refl s))
  intro T hT X
  obtain ⟨vm₁, X₁, hstep₁⟩ := X.invokestatic X0.1 X0.2.2.2.1 hlink hn1 hm1 hstatic hkP hinitP hy (g := F0 m pc ls (S.2.1.map (bh_tr ad))) rfl (argsL := (S.2.1.take a).reverse.map (bh_tr ad)) (rest := (S.2.1.drop a).map (bh_tr ad)) (by rw [hlen]; exact har _ hsg) hsk (by rw [X0.2.1]; exact d)
  exact bs_fin (a := (S.2.1.take a).reverse) (av := (S.2.1.take a).reverse.map (bh_tr ad)) (flc := false) hM hBg hB hbs hcal rfl X0.2.2.1 hcb hRc hRs (fun ad' hx' => by rw [hx'.1 rfl]; exact ⟨fun _ _ => rfl, fun _ _ => rfl⟩) (fun h => by cases h) hout ha hC hR hS hl hF rfl h8 X₁ hT hn1 (by rw [X0.2.1]; exact d) hstep₁
theorem bs_callSN (hBg : bh_BgOK base Bg) (hbs : base ≤ s.heap.size) (hB : Bg s) {Ts : List Cond} {own : String} {index b Cc a : Nat} {y : MethodName} {maxL : Nat} {ws : List Cond} {rm : Room} {F : bh_Fn} (X0 : CallFix p m c cc nL s args Ts own) (hM : bh_Con l G base Bg y ws rm b false F) (hcal : bh_Cal R s y maxL ws rm b a) {host : String} (hlink : (Cond.methodLinkNest own index y host).before args s = true) (hstat : (Cond.static y).before args s = true) (hRc : Cc ≤ R.cells) (hRs : 256 * Cc ≤ R.slots)
    (d : decode cc pc = .ok (.invokestatic index, 3)) {S : bh_S} {Z : bh_F → Prop}
    (hout : ∀ (E : String) (M' : bh_M) (ad' : Nat → Nat → Nat) (H' : Heap) (locs' : List Loc) (ls : Array Slot) (rest : List Value) (ce : Cell) (q : Nat) (cells : Nat), ls.size = nL → Z (.inr E, M') → bh_Ex ad0 ad' M0 fl → (∀ t, bh_C M0 t ≤ bh_C M' t) → bh_Re G base ad' M' H' → va_S (fun q : Nat => base ≤ q) s.heap H' locs' → H'[q]? = some ce → ce.vm = .none → s.vm.findClass E = some ce.cls → cells ≤ Cc → bh_XW p l e R s m args below meth c H' locs' cells (256 * cells) Q (F0 m pc ls rest) q)
    (h : bo_callS (pc + 3) a b Cc F S (fun y => bh_WA p l e R s m args below meth c Q G base nL ad0 M0 fl y.1 y.2) Z) : bh_WA p l e R s m args below meth c Q G base nL ad0 M0 fl pc S := by
  intro ad H locs ls ha hC hR hS hl
  obtain ⟨h0, h8, hcb, hF⟩ := h
  have hlen : ((S.2.1.take a).reverse.map (bh_tr ad)).length = a := by
    rw [List.length_map, List.length_reverse, List.length_take]
    omega
  have hsk : S.2.1.map (bh_tr ad) = ((S.2.1.take a).reverse.map (bh_tr ad)).reverse ++ (S.2.1.drop a).map (bh_tr ad) := by
    rw [← List.map_reverse, List.reverse_reverse, ← List.map_append, List.take_append_drop]
  have hcal' := hcal
  obtain ⟨-, -, -, -, -, ⟨mk, methY, cY, hn1, hm1, hc1, hl1, hsg⟩, hini, hy, har⟩ := hcal'
  have hstatic : methY.isStatic = true := Cond.static_spec hn1 hm1 hstat
  obtain ⟨kP, hkP, -⟩ := className_of_methodNamed hn1
  have hinitP : kP.init = .initialized := Cond.initialized_spec (args := args) (findClass_of_methodNamed hn1) hkP (hini args s (State.WarmedH.refl s))
  intro T hT X
  obtain ⟨vm₁, X₁, hstep₁⟩ := X.invokestaticNest X0.1 X0.2.2.2.1 hlink hn1 hm1 hstatic hkP hinitP hy (g := F0 m pc ls (S.2.1.map (bh_tr ad))) rfl (argsL := (S.2.1.take a).reverse.map (bh_tr ad)) (rest := (S.2.1.drop a).map (bh_tr ad)) (by rw [hlen]; exact har _ hsg) hsk (by rw [X0.2.1]; exact d)
  exact bs_fin (a := (S.2.1.take a).reverse) (av := (S.2.1.take a).reverse.map (bh_tr ad)) (flc := false) hM hBg hB hbs hcal rfl X0.2.2.1 hcb hRc hRs (fun ad' hx' => by rw [hx'.1 rfl]; exact ⟨fun _ _ => rfl, fun _ _ => rfl⟩) (fun h => by cases h) hout ha hC hR hS hl hF rfl h8 X₁ hT hn1 (by rw [X0.2.1]; exact d) hstep₁
theorem bs_callI (hBg : bh_BgOK base Bg) (hbs : base ≤ s.heap.size) (hB : Bg s) {Ts : List Cond} {own : String} {index k b t Cc a : Nat} {y : MethodName} {maxL : Nat} {bytes : ByteArray} {ws : List Cond} {rm : Room} {F : bh_Fn} (X0 : CallFix p m c cc nL s args Ts own) (hfl : fl = true) (hM : bh_Con l G base Bg y ws rm b true F) (hcal : bh_Cal R s y maxL ws rm b k) (hy1 : y.name = "<init>") (hlink : (Cond.methodLink own index y).before args s = true) (hinst : (Cond.instanceMethod y).before args s = true) (hcode : (Cond.code y bytes maxL none).before args s = true) (hka : k + 1 = a) (hRc : Cc ≤ R.cells) (hRs : 256 * Cc ≤ R.slots)
    (d : decode cc pc = .ok (.invokespecial index, 3)) {S : bh_S} {Z : bh_F → Prop}
    (hout : ∀ (E : String) (M' : bh_M) (ad' : Nat → Nat → Nat) (H' : Heap) (locs' : List Loc) (ls : Array Slot) (rest : List Value) (ce : Cell) (q : Nat) (cells : Nat), ls.size = nL → Z (.inr E, M') → bh_Ex ad0 ad' M0 fl → (∀ t, bh_C M0 t ≤ bh_C M' t) → bh_Re G base ad' M' H' → va_S (fun q : Nat => base ≤ q) s.heap H' locs' → H'[q]? = some ce → ce.vm = .none → s.vm.findClass E = some ce.cls → cells ≤ Cc → bh_XW p l e R s m args below meth c H' locs' cells (256 * cells) Q (F0 m pc ls rest) q)
    (h : bo_callA (pc + 3) a b Cc t F S (fun y => bh_WA p l e R s m args below meth c Q G base nL ad0 M0 fl y.1 y.2) Z) : bh_WA p l e R s m args below meth c Q G base nL ad0 M0 fl pc S := by
  intro ad H locs ls ha hC hR hS hl
  obtain ⟨hok, h⟩ := h
  unfold bo_callV at h
  split at h
  · rename_i t' x as hq
    obtain ⟨h0, rfl, h1, h2, h8, hcb, hF⟩ := h
    have hst := bh_split hq
    have hlen : as.length = k := by
      have := congrArg List.length hq
      rw [List.length_reverse, List.length_take, List.length_cons] at this
      omega
    have hsk : S.2.1.map (bh_tr ad) = (as.map (bh_tr ad)).reverse ++ .ref (ad t' x) :: (S.2.1.drop a).map (bh_tr ad) := by
      conv => lhs; rw [hst]
      rw [List.map_append, List.map_cons, bh_tr_ref h1, List.map_reverse]
    have hcal' := hcal
    obtain ⟨-, -, -, -, -, -, -, hy, har⟩ := hcal'
    intro T hT X
    have hpl : e.platform.magicAccessors = ({} : Platform).magicAccessors := by rw [X.admits.platform]
    obtain ⟨mk, methM, cM, kP, vm₁, hnamed, hmethM, hcodeM, -, hlocalsM, -, hkP, -, hW₁, hstep₁⟩ := Steps.initColdArgs (e := e) X.here X0.1 X.warmed hpl X0.2.2.2.1 hy1 hy hlink hinst hcode (f := F0 m pc ls (S.2.1.map (bh_tr ad))) rfl (argsL := as.map (bh_tr ad)) (fun sig hs => by rw [List.length_map, hlen]; exact har sig hs) hsk (by rw [X0.2.1]; exact d)
    have X₁ := X.noted hW₁
    exact bs_fin (a := .inr (t', x) :: as) (av := .ref (ad t' x) :: as.map (bh_tr ad)) (flc := true) hM hBg hB hbs hcal rfl X0.2.2.1 hcb hRc hRs (fun ad' hx' => ⟨fun v hv => bh_ok_agree hx'.2 (hok.1 v hv), fun v hv => bh_ok_agree hx'.2 (hok.2 v (List.mem_of_mem_drop hv))⟩) (fun _ => hfl) hout ha hC hR hS hl hF (by rw [List.map_cons, bh_tr_ref h1]) h8 X₁ hT hnamed (by rw [X0.2.1]; exact d) hstep₁
  · exact h.elim
theorem bs_callIN (hBg : bh_BgOK base Bg) (hbs : base ≤ s.heap.size) (hB : Bg s) {Ts : List Cond} {own : String} {index k b t Cc a : Nat} {y : MethodName} {maxL : Nat} {bytes : ByteArray} {ws : List Cond} {rm : Room} {F : bh_Fn} (X0 : CallFix p m c cc nL s args Ts own) (hfl : fl = true) (hM : bh_Con l G base Bg y ws rm b true F) (hcal : bh_Cal R s y maxL ws rm b k) (hy1 : y.name = "<init>") {host : String} (hlink : (Cond.methodLinkNest own index y host).before args s = true) (hinst : (Cond.instanceMethod y).before args s = true) (hcode : (Cond.code y bytes maxL none).before args s = true) (hka : k + 1 = a) (hRc : Cc ≤ R.cells) (hRs : 256 * Cc ≤ R.slots)
    (d : decode cc pc = .ok (.invokespecial index, 3)) {S : bh_S} {Z : bh_F → Prop}
    (hout : ∀ (E : String) (M' : bh_M) (ad' : Nat → Nat → Nat) (H' : Heap) (locs' : List Loc) (ls : Array Slot) (rest : List Value) (ce : Cell) (q : Nat) (cells : Nat), ls.size = nL → Z (.inr E, M') → bh_Ex ad0 ad' M0 fl → (∀ t, bh_C M0 t ≤ bh_C M' t) → bh_Re G base ad' M' H' → va_S (fun q : Nat => base ≤ q) s.heap H' locs' → H'[q]? = some ce → ce.vm = .none → s.vm.findClass E = some ce.cls → cells ≤ Cc → bh_XW p l e R s m args below meth c H' locs' cells (256 * cells) Q (F0 m pc ls rest) q)
    (h : bo_callA (pc + 3) a b Cc t F S (fun y => bh_WA p l e R s m args below meth c Q G base nL ad0 M0 fl y.1 y.2) Z) : bh_WA p l e R s m args below meth c Q G base nL ad0 M0 fl pc S := by
  intro ad H locs ls ha hC hR hS hl
  obtain ⟨hok, h⟩ := h
  unfold bo_callV at h
  split at h
  · rename_i t' x as hq
    obtain ⟨h0, rfl, h1, h2, h8, hcb, hF⟩ := h
    have hst := bh_split hq
    have hlen : as.length = k := by
      have := congrArg List.length hq
      rw [List.length_reverse, List.length_take, List.length_cons] at this
      omega
    have hsk : S.2.1.map (bh_tr ad) = (as.map (bh_tr ad)).reverse ++ .ref (ad t' x) :: (S.2.1.drop a).map (bh_tr ad) := by
      conv => lhs; rw [hst]
      rw [List.map_append, List.map_cons, bh_tr_ref h1, List.map_reverse]
    have hcal' := hcal
    obtain ⟨-, -, -, -, -, -, -, hy, har⟩ := hcal'
    intro T hT X
    have hpl : e.platform.magicAccessors = ({} : Platform).magicAccessors := by rw [X.admits.platform]
    obtain ⟨mk, methM, cM, kP, vm₁, hnamed, hmethM, hcodeM, -, hlocalsM, -, hkP, -, hW₁, hstep₁⟩ := Steps.initColdArgsNest (e := e) X.here X0.1 X.warmed hpl X0.2.2.2.1 hy1 hy hlink hinst hcode (f := F0 m pc ls (S.2.1.map (bh_tr ad))) rfl (argsL := as.map (bh_tr ad)) (fun sig hs => by rw [List.length_map, hlen]; exact har sig hs) hsk (by rw [X0.2.1]; exact d)
    have X₁ := X.noted hW₁
    exact bs_fin (a := .inr (t', x) :: as) (av := .ref (ad t' x) :: as.map (bh_tr ad)) (flc := true) hM hBg hB hbs hcal rfl X0.2.2.1 hcb hRc hRs (fun ad' hx' => ⟨fun v hv => bh_ok_agree hx'.2 (hok.1 v hv), fun v hv => bh_ok_agree hx'.2 (hok.2 v (List.mem_of_mem_drop hv))⟩) (fun _ => hfl) hout ha hC hR hS hl hF (by rw [List.map_cons, bh_tr_ref h1]) h8 X₁ hT hnamed (by rw [X0.2.1]; exact d) hstep₁
  · exact h.elim
theorem bs_obj (hx : p.tables.exec = Jvm.exec) (hb : c.code = cc) (hml : c.maxLocals = nL) {own : String} {idx : Nat} (hown : s.vm.findClass own = some m.cls) (hlink : (Cond.methodLink own idx Lib.objectInit).before args s = true) (hinst : (Cond.instanceMethod Lib.objectInit).before args s = true) (hcode : (Cond.code Lib.objectInit ⟨#[0xb1]⟩ 1 none).before args s = true) (hRf : 1 ≤ R.frames) (hRl : 20 ≤ R.locals) (d : decode cc pc = .ok (.invokespecial idx, 3)) {S : bh_S} {Z : bh_F → Prop} (h : bo_obj (pc + 3) S (fun y => bh_WA p l e R s m args below meth c Q G base nL ad0 M0 fl y.1 y.2) Z) : bh_WA p l e R s m args below meth c Q G base nL ad0 M0 fl pc S := by
  intro ad H locs ls ha hC hR hS hl
  unfold bo_obj at h
  split at h
  · rename_i t x r hq
    obtain ⟨h1, h8, h3⟩ := h
    rw [hq, List.map_cons, bh_tr_ref h1]
    refine W.objInit hx hb hown hlink hinst hcode rfl (hl.1.trans hml.symm) rfl d hRf ?_ (h3 ad H locs ls ha hC hR hS hl)
    have := lv_room (m := m) (pc := pc) (ls := ls) (rest := .ref (ad t x) :: r.map (bh_tr ad)) (st := r.map (bh_tr ad)) (by rw [bh_tr_cats]; exact h8)
    omega
  · exact h.elim
end BS4
