/-- what a body owes at its end -/
def bh_MQ (below : List Frame) (G : bh_G) (base : Nat) (ad : Nat → Nat → Nat) (M : bh_M) (fl : Bool) (Z : bh_F → Prop) (b : Nat) (args : Array Value) (s : State) : State → Prop := fun t => ∃ o, t.status = .running ∧ Ended t below o ∧ bh_End G base ad M fl Z b args s o t
def bh_QR (G : bh_G) (base : Nat) (ad : Nat → Nat → Nat) (M : bh_M) (fl : Bool) (Z : bh_F → Prop) : Array Value → State → Outcome → State → Prop := fun _ st oc t => ∃ (v : Option bh_V) (M' : bh_M) (ad' : Nat → Nat → Nat), oc = .returned (v.map (bh_tr ad')) ∧ Z (.inl v, M') ∧ bh_Ex ad ad' M fl ∧ (∀ t, bh_C M t ≤ bh_C M' t) ∧ bh_Re G base ad' M' t.heap ∧ va_F (fun q : Nat => base ≤ q) st t
theorem bh_MQ_of {below : List Frame} {G : bh_G} {base : Nat} {ad : Nat → Nat → Nat} {M : bh_M} {fl : Bool} {Z : bh_F → Prop} {b : Nat} {args : Array Value} {s t : State} (h : MQ below (bh_QR G base ad M fl Z) args s b (256 * b) (fun q : Nat => base ≤ q) t) : bh_MQ below G base ad M fl Z b args s t := by
  obtain ⟨oc, h1, h2, ⟨v, M', ad', e1, e2, e3, e4, e5, e6⟩, L, ⟨-, f2, f3⟩, hL⟩ := h
  exact ⟨oc, h1, h2, M', ad', L, e3, e4, e5, e6, f2, f3, hL, Or.inl ⟨v, e1, e2⟩⟩
theorem bh_Re.kept {G : bh_G} {base : Nat} {ad : Nat → Nat → Nat} {M : bh_M} {H H1 : Heap} (h : bh_Re G base ad M H) (hq : ∀ q : Nat, q < H.size → H1[q]? = H[q]?) : bh_Re G base ad M H1 :=
  ⟨fun t x g1 g2 g3 => (h.1 t x g1 g2 g3).kept (hq _ (h.1 t x g1 g2 g3).lt), h.2⟩
section BS5
variable {p : Program} {l : Launch} {e : Env} {R : Room} {s : State} {m : MethodId} {args : Array Value} {below : List Frame} {meth : Method} {c : Code} {G : bh_G} {base nL : Nat} {ad0 : Nat → Nat → Nat} {M0 : bh_M} {fl : Bool} {cc : ByteArray} {pc : Nat} {Bg : State → Prop}
theorem bh_Wm {H : Heap} {locs : List Loc} {cells slots : Nat} {Q Q' : State → Prop} {g : JFrame} (h : ∀ t, Q t → Q' t) (k : W p l e R s m args below meth c H locs cells slots Q g) : W p l e R s m args below meth c H locs cells slots Q' g := by
  intro T hT X
  obtain ⟨t, a, b⟩ := k T hT X
  exact ⟨t, a, h t b⟩
theorem bs_iret (hx : p.tables.exec = Jvm.exec) (hb : c.code = cc) (hr : meth.sig.returnType = some .int) (hlocks : meth.locks = false) {Cc : Nat} (d : decode cc pc = .ok (.ireturn, 1)) {S : bh_S} {Z : bh_F → Prop} (h : bo_iret Cc S (fun y => bh_WA p l e R s m args below meth c (bh_MQ below G base ad0 M0 fl Z Cc args s) G base nL ad0 M0 fl y.1 y.2) Z) : bh_WA p l e R s m args below meth c (bh_MQ below G base ad0 M0 fl Z Cc args s) G base nL ad0 M0 fl pc S := by
  intro ad H locs ls ha hC hR hS hl
  unfold bo_iret at h
  split at h
  · rename_i v hq
    obtain ⟨h1, h2⟩ := h
    rw [hq]
    refine W.widen (k := Cc) (n := 256 * Cc) h1 (by omega) (bh_Wm (fun t ht => bh_MQ_of ht) ?_)
    exact W.iret hx hb hr (fun t ht hW => ⟨some (.inl (.int v)), S.2.2.1, ad, rfl, h2, ha, hC, by rw [ht]; exact hR, hS.F ht⟩) hS.2.2 d hlocks
  · exact h.elim
theorem bs_zret (hx : p.tables.exec = Jvm.exec) (hb : c.code = cc) (hr : meth.sig.returnType = some .boolean) (hlocks : meth.locks = false) {Cc : Nat} (d : decode cc pc = .ok (.ireturn, 1)) {S : bh_S} {Z : bh_F → Prop} (h : bo_zret Cc S (fun y => bh_WA p l e R s m args below meth c (bh_MQ below G base ad0 M0 fl Z Cc args s) G base nL ad0 M0 fl y.1 y.2) Z) : bh_WA p l e R s m args below meth c (bh_MQ below G base ad0 M0 fl Z Cc args s) G base nL ad0 M0 fl pc S := by
  intro ad H locs ls ha hC hR hS hl
  unfold bo_zret at h
  split at h
  · rename_i v hq
    obtain ⟨h1, hv, h2⟩ := h
    rw [hq]
    have hn : narrow .boolean (.int v) = .int v := by rcases hv with rfl | rfl <;> rfl
    refine W.widen (k := Cc) (n := 256 * Cc) h1 (by omega) (bh_Wm (fun t ht => bh_MQ_of ht) ?_)
    exact W.zret hx hb hr hn (fun t ht hW => ⟨some (.inl (.int v)), S.2.2.1, ad, rfl, h2, ha, hC, by rw [ht]; exact hR, hS.F ht⟩) hS.2.2 d hlocks
  · exact h.elim
theorem bs_dret (hx : p.tables.exec = Jvm.exec) (hb : c.code = cc) (hr : meth.sig.returnType = some .double) (hlocks : meth.locks = false) {Cc : Nat} (d : decode cc pc = .ok (.dreturn, 1)) {S : bh_S} {Z : bh_F → Prop} (h : bo_dret Cc S (fun y => bh_WA p l e R s m args below meth c (bh_MQ below G base ad0 M0 fl Z Cc args s) G base nL ad0 M0 fl y.1 y.2) Z) : bh_WA p l e R s m args below meth c (bh_MQ below G base ad0 M0 fl Z Cc args s) G base nL ad0 M0 fl pc S := by
  intro ad H locs ls ha hC hR hS hl
  unfold bo_dret at h
  split at h
  · rename_i v hq
    obtain ⟨h1, h2⟩ := h
    rw [hq]
    refine W.widen (k := Cc) (n := 256 * Cc) h1 (by omega) (bh_Wm (fun t ht => bh_MQ_of ht) ?_)
    exact W.dret hx hb hr (fun t ht hW => ⟨some (.inl (.double v)), S.2.2.1, ad, rfl, h2, ha, hC, by rw [ht]; exact hR, hS.F ht⟩) hS.2.2 d hlocks
  · exact h.elim
theorem bs_jret (hx : p.tables.exec = Jvm.exec) (hb : c.code = cc) (hr : meth.sig.returnType = some .long) (hlocks : meth.locks = false) {Cc : Nat} (d : decode cc pc = .ok (.lreturn, 1)) {S : bh_S} {Z : bh_F → Prop} (h : bo_jret Cc S (fun y => bh_WA p l e R s m args below meth c (bh_MQ below G base ad0 M0 fl Z Cc args s) G base nL ad0 M0 fl y.1 y.2) Z) : bh_WA p l e R s m args below meth c (bh_MQ below G base ad0 M0 fl Z Cc args s) G base nL ad0 M0 fl pc S := by
  intro ad H locs ls ha hC hR hS hl
  unfold bo_jret at h
  split at h
  · rename_i v hq
    obtain ⟨h1, h2⟩ := h
    rw [hq]
    refine W.widen (k := Cc) (n := 256 * Cc) h1 (by omega) (bh_Wm (fun t ht => bh_MQ_of ht) ?_)
    exact W.lret hx hb hr (fun t ht hW => ⟨some (.inl (.long v)), S.2.2.1, ad, rfl, h2, ha, hC, by rw [ht]; exact hR, hS.F ht⟩) hS.2.2 d hlocks
  · exact h.elim
theorem bs_vret (hx : p.tables.exec = Jvm.exec) (hb : c.code = cc) (hr : meth.sig.returnType = none) (hlocks : meth.locks = false) {Cc : Nat} (d : decode cc pc = .ok (.return_, 1)) {S : bh_S} {Z : bh_F → Prop} (h : bo_vret Cc S (fun y => bh_WA p l e R s m args below meth c (bh_MQ below G base ad0 M0 fl Z Cc args s) G base nL ad0 M0 fl y.1 y.2) Z) : bh_WA p l e R s m args below meth c (bh_MQ below G base ad0 M0 fl Z Cc args s) G base nL ad0 M0 fl pc S := by
  intro ad H locs ls ha hC hR hS hl
  unfold bo_vret at h
  split at h
  · rename_i hq
    obtain ⟨h1, h2⟩ := h
    rw [hq]
    refine W.widen (k := Cc) (n := 256 * Cc) h1 (by omega) (bh_Wm (fun t ht => bh_MQ_of ht) ?_)
    exact W.vret hx hb hr (fun t ht hW => ⟨none, S.2.2.1, ad, rfl, h2, ha, hC, by rw [ht]; exact hR, hS.F ht⟩) hS.2.2 d hlocks
  · exact h.elim
theorem bs_aret (hx : p.tables.exec = Jvm.exec) (hb : c.code = cc) {rt : FieldType} (hr : meth.sig.returnType = some rt) (hrt : (∃ n, rt = .object n) ∨ ∃ t, rt = .array t) (hlocks : meth.locks = false) {Cc : Nat} (d : decode cc pc = .ok (.areturn, 1)) {S : bh_S} {Z : bh_F → Prop} (h : bo_aret Cc S (fun y => bh_WA p l e R s m args below meth c (bh_MQ below G base ad0 M0 fl Z Cc args s) G base nL ad0 M0 fl y.1 y.2) Z) : bh_WA p l e R s m args below meth c (bh_MQ below G base ad0 M0 fl Z Cc args s) G base nL ad0 M0 fl pc S := by
  intro ad H locs ls ha hC hR hS hl
  unfold bo_aret at h
  split at h
  · rename_i q hq
    obtain ⟨h1, h2⟩ := h
    rw [hq]
    have hv : bh_tr ad (.inr q) = .null ∨ ∃ a, bh_tr ad (.inr q) = .ref a := by
      show (if q.2 = 0 then Value.null else .ref (ad q.1 q.2)) = .null ∨ ∃ a, (if q.2 = 0 then Value.null else .ref (ad q.1 q.2)) = .ref a
      split
      · exact Or.inl rfl
      · exact Or.inr ⟨_, rfl⟩
    refine W.widen (k := Cc) (n := 256 * Cc) h1 (by omega) (bh_Wm (fun t ht => bh_MQ_of ht) ?_)
    exact W.aret hx hb hr hrt hv (fun t ht hW => ⟨some (.inr q), S.2.2.1, ad, rfl, h2, ha, hC, by rw [ht]; exact hR, hS.F ht⟩) hS.2.2 d hlocks
  · exact h.elim
/-- what isn't caught goes on to the caller -/
theorem bs_out (htab : ∀ x ∈ c.exceptionTable.toList, False) (hlocks : meth.locks = false) {Cc : Nat} {Z : bh_F → Prop} : ∀ (E : String) (M' : bh_M) (ad' : Nat → Nat → Nat) (H' : Heap) (locs' : List Loc) (ls : Array Slot) (rest : List Value) (ce : Cell) (q : Nat) (cells : Nat), ls.size = nL → Z (.inr E, M') → bh_Ex ad0 ad' M0 fl → (∀ t, bh_C M0 t ≤ bh_C M' t) → bh_Re G base ad' M' H' → va_S (fun q : Nat => base ≤ q) s.heap H' locs' → H'[q]? = some ce → ce.vm = .none → s.vm.findClass E = some ce.cls → cells ≤ Cc → bh_XW p l e R s m args below meth c H' locs' cells (256 * cells) (bh_MQ below G base ad0 M0 fl Z Cc args s) (F0 m pc ls rest) q := by
  intro E M' ad' H' locs' ls rest ce q cells _ hZ hx hC hR hS hce hcv hcl hcc T hT X
  obtain ⟨st1, hrun, hend, hW, hsm⟩ := X.leaveThrown q (g := F0 m pc ls rest) rfl rfl rfl (fun x hx => (htab x hx).elim) hlocks
  have hth : (T.setFrames (.throwing q :: below)).heap = H' := hT
  exact ⟨_, st1, .threw q, hrun, hend, M', ad', locs', hx, hC, by rw [hth]; exact hR, hS.F hth, hW, hsm.mono hcc (by omega), hS.2.2, Or.inr ⟨E, q, ce, rfl, hZ, by rw [hth]; exact hce, hcv, hcl⟩⟩
/-- throw new E(text) -/
theorem bs_thr (hx : p.tables.exec = Jvm.exec) (hb : c.code = cc) (hml : c.maxLocals = nL) (htr : l.stackTraces = false) (htab : ∀ x ∈ c.exceptionTable.toList, False) (hlocks : meth.locks = false) {own E text : String} {ik is ic ix sa n Cc : Nat} {rx : ByteArray} (x0 : decode rx 0 = .ok (.aload_n 0, 1)) (x1 : decode rx 1 = .ok (.aload_n 1, 1)) (x2 : decode rx 2 = .ok (.invokespecial ix, 3)) (x5 : decode rx 5 = .ok (.return_, 1)) (hown : s.vm.findClass own = some m.cls) (hE : Bundle.fit E = true)
    (hlink : (Cond.classLink own ik E).onTables = true ∧ (Cond.classLink own ik E).before args s = true) (hini : (Cond.initialized E).onTables = true ∧ (Cond.initialized E).before args s = true) (hstr : vk_R own is text sa s) (hbs : base ≤ s.heap.size)
    (hat : ∀ U : State, U.vm = s.vm → (∀ q : Nat, q < base → U.heap[q]? = s.heap[q]?) → ∀ w ∈ bh_oat own ic E ix rx, w.before args U = true)
    (d0 : decode cc pc = .ok (.new ik, 3)) (d1 : decode cc (pc + 3) = .ok (.dup, 1)) (d2 : (n = 2 ∧ decode cc (pc + 4) = .ok (.ldc is, 2)) ∨ (n = 3 ∧ decode cc (pc + 4) = .ok (.ldc_w is, 3))) (d3 : decode cc (pc + 4 + n) = .ok (.invokespecial ic, 3)) (d4 : decode cc (pc + 4 + n + 3) = .ok (.athrow, 1))
    (hRf : 2 + 3 < R.frames) (hRl : 13 * (2 + 1) + 43 ≤ R.locals) (hRc : Cc ≤ R.cells) (hRs : 256 * Cc ≤ R.slots) {S : bh_S} {Z : bh_F → Prop} (h : bo_thr Cc E S (fun y => bh_WA p l e R s m args below meth c (bh_MQ below G base ad0 M0 fl Z Cc args s) G base nL ad0 M0 fl y.1 y.2) Z) : bh_WA p l e R s m args below meth c (bh_MQ below G base ad0 M0 fl Z Cc args s) G base nL ad0 M0 fl pc S := by
  intro ad H locs ls ha hC hR hS hl
  unfold bo_thr at h
  split at h
  · rename_i hq
    obtain ⟨h1, h2⟩ := h
    rw [hq]
    subst hb
    refine bh_throw hx htr x0 x1 x2 x5 hown hE hlink hini hstr (fun U hU hH => hat U hU (fun q hq' => by rw [hH]; exact hS.2.1 q (Nat.lt_of_lt_of_le hq' hbs) (by show ¬ base ≤ q; omega))) (hl.1.trans hml.symm) d0 d1 d2 d3 d4 htab hlocks hRf hRl (by omega) (by omega) ?_
    intro t q ce f1 f2 f3 f4 f5 f6 f7 f8 f9 f10 f11
    refine ⟨.threw q, f1, f2, S.2.2.1, ad, locs, ha, hC, hR.kept f7, ⟨Nat.le_trans hS.1 f5, fun z g1 g2 => (f7 z (Nat.lt_of_lt_of_le g1 hS.1)).trans (hS.2.1 z g1 g2)⟩, f3, f4.mono h1 (by omega), hS.2.2, Or.inr ⟨E, q, ce, rfl, h2, f9, f10, f11⟩⟩
  · exact h.elim
end BS5
section BS6
variable {p : Program} {l : Launch} {e : Env} {R : Room} {s : State} {m : MethodId} {args : Array Value} {below : List Frame} {meth : Method} {c : Code} {Q : State → Prop} {G : bh_G} {base nL : Nat} {ad0 : Nat → Nat → Nat} {M0 : bh_M} {fl : Bool} {cc : ByteArray} {pc : Nat}
theorem bs_getst (hx : p.tables.exec = Jvm.exec) (hb : c.code = cc) {C n d0 own ref : String} {index x : Nat} (hx1 : 1 ≤ x) (hZ : va_Z C n d0 (.ref (G.2.2.2 2 x)) (fun q : Nat => base ≤ q) s s.heap) (hown : s.vm.findClass own = some m.cls) (hlink : (Cond.fieldLink own index ref n d0).before args s = true) (hsame : ∀ x, s.fieldFound? C n d0 = some x → s.fieldFound? ref n d0 = some x) (d : decode cc pc = .ok (.getstatic index, 3)) {S : bh_S} {Z : bh_F → Prop} (h : bo_st (pc + 3) (bg_push (.inr (2, x))) S (fun y => bh_WA p l e R s m args below meth c Q G base nL ad0 M0 fl y.1 y.2) Z) : bh_WA p l e R s m args below meth c Q G base nL ad0 M0 fl pc S := by
  intro ad H locs ls ha hC hR hS hl
  refine va_gets hx hb hZ hS hown hlink hsame d ?_
  have h2 := h ad H locs ls ha hC hR hS hl
  have e1 : bh_tr ad (.inr (2, x)) = .ref (G.2.2.2 2 x) := by
    rw [bh_tr_ref hx1, hR.2.2.2.2 2 x rfl]
  have e2 : List.map (bh_tr ad) (.inr (2, x) :: S.2.1) = .ref (G.2.2.2 2 x) :: S.2.1.map (bh_tr ad) := by rw [List.map_cons, e1]
  rw [e2] at h2
  exact h2
theorem bs_acmp_eq (hx : p.tables.exec = Jvm.exec) (hb : c.code = cc) (hinj : ∀ x y, 1 ≤ x → x ≤ 4 → 1 ≤ y → y ≤ 4 → G.2.2.2 2 x = G.2.2.2 2 y → x = y) {off : Int} {tgt : Nat} (d : decode cc pc = .ok (.if_acmp .eq off, 3)) (ht : (pc : Int) + off = (tgt : Int)) {S : bh_S} {Z : bh_F → Prop} (h : bo_acmp (pc + 3) tgt true S (fun y => bh_WA p l e R s m args below meth c Q G base nL ad0 M0 fl y.1 y.2) Z) : bh_WA p l e R s m args below meth c Q G base nL ad0 M0 fl pc S := by
  intro ad H locs ls ha hC hR hS hl
  unfold bo_acmp at h
  split at h
  · rename_i ty y tx x r hq
    obtain ⟨rfl, rfl, x1, x2, y1, y2, k1, k2⟩ := h
    rw [hq, List.map_cons, List.map_cons, bh_tr_ref x1, bh_tr_ref y1, hR.2.2.2.2 2 x rfl, hR.2.2.2.2 2 y rfl]
    exact lv_acmp_eq (rx := some (G.2.2.2 2 x)) (ry := some (G.2.2.2 2 y)) hx hb d ht (fun q => k1 (hinj x y x1 x2 y1 y2 (Option.some.inj q)) ad H locs ls ha hC hR hS hl) (fun q => k2 (fun z => q (by rw [z])) ad H locs ls ha hC hR hS hl)
  · exact h.elim
theorem bs_acmp_ne (hx : p.tables.exec = Jvm.exec) (hb : c.code = cc) (hinj : ∀ x y, 1 ≤ x → x ≤ 4 → 1 ≤ y → y ≤ 4 → G.2.2.2 2 x = G.2.2.2 2 y → x = y) {off : Int} {tgt : Nat} (d : decode cc pc = .ok (.if_acmp .ne off, 3)) (ht : (pc : Int) + off = (tgt : Int)) {S : bh_S} {Z : bh_F → Prop} (h : bo_acmp (pc + 3) tgt false S (fun y => bh_WA p l e R s m args below meth c Q G base nL ad0 M0 fl y.1 y.2) Z) : bh_WA p l e R s m args below meth c Q G base nL ad0 M0 fl pc S := by
  intro ad H locs ls ha hC hR hS hl
  unfold bo_acmp at h
  split at h
  · rename_i ty y tx x r hq
    obtain ⟨rfl, rfl, x1, x2, y1, y2, k1, k2⟩ := h
    rw [hq, List.map_cons, List.map_cons, bh_tr_ref x1, bh_tr_ref y1, hR.2.2.2.2 2 x rfl, hR.2.2.2.2 2 y rfl]
    exact lv_acmp_ne (rx := some (G.2.2.2 2 x)) (ry := some (G.2.2.2 2 y)) hx hb d ht (fun q => k2 (fun z => q (by rw [z])) ad H locs ls ha hC hR hS hl) (fun q => k1 (hinj x y x1 x2 y1 y2 (Option.some.inj q)) ad H locs ls ha hC hR hS hl)
  · exact h.elim
/-- a tableswitch: cs lists the cases in their order -/
theorem bs_tsw (hx : p.tables.exec = Jvm.exec) (hb : c.code = cc) {dflt lo hi : Int} {offs : Array Int} {len dt : Nat} {cs : List (Int32 × Nat)} (d : decode cc pc = .ok (.tableswitch dflt lo hi offs, len)) (hdt : (pc : Int) + dflt = (dt : Int)) (hcs : ∀ q ∈ cs, lo ≤ q.1.toInt ∧ q.1.toInt ≤ hi ∧ ∃ off, offs[(q.1.toInt - lo).toNat]? = some off ∧ (pc : Int) + off = (q.2 : Int))
    (hall : ∀ z : Int32, lo ≤ z.toInt → z.toInt ≤ hi → ∃ q ∈ cs, q.1 = z) {S : bh_S} {Z : bh_F → Prop} (h : bo_sw cs dt S (fun y => bh_WA p l e R s m args below meth c Q G base nL ad0 M0 fl y.1 y.2) Z) : bh_WA p l e R s m args below meth c Q G base nL ad0 M0 fl pc S := by
  intro ad H locs ls ha hC hR hS hl
  unfold bo_sw at h
  split at h
  · rename_i x r hq
    rw [hq, List.map_cons]
    by_cases h1 : x.toInt < lo
    · refine lv_tableOut hx hb d (Or.inl h1) hdt (h.2 (fun q hq' hxq => ?_) ad H locs ls ha hC hR hS hl)
      have := (hcs q hq').1
      rw [← hxq] at this
      omega
    · by_cases h2 : hi < x.toInt
      · refine lv_tableOut hx hb d (Or.inr h2) hdt (h.2 (fun q hq' hxq => ?_) ad H locs ls ha hC hR hS hl)
        have := (hcs q hq').2.1
        rw [← hxq] at this
        omega
      · obtain ⟨q, hq1, hq2⟩ := hall x (by omega) (by omega)
        obtain ⟨-, -, off, ho, ht⟩ := hcs q hq1
        rw [hq2] at ho
        exact lv_tableIn hx hb d h1 h2 ho ht (h.1 q hq1 hq2.symm ad H locs ls ha hC hR hS hl)
  · exact h.elim
end BS6
theorem bh_args_in {ad : Nat → Nat → Nat} : ∀ (a : List bh_V) (k i : Nat) (v : bh_V), (bh_args a)[i]? = some (some v) → (k + i, bh_tr ad v) ∈ lv_args k (a.map (bh_tr ad))
  | [], k, i, v, h => by simp [bh_args] at h
  | w :: r, k, i, v, h => by
    unfold bh_args at h
    show (k + i, bh_tr ad v) ∈ (k, bh_tr ad w) :: lv_args (if (bh_tr ad w).category = 2 then k + 2 else k + 1) (r.map (bh_tr ad))
    rw [bh_tr_cat]
    by_cases h2 : bh_cat w = 2
    · rw [if_pos h2] at h ⊢
      match i, h with
      | 0, h =>
        cases h
        exact List.mem_cons_self
      | 1, h => cases h
      | i + 2, h =>
        have := bh_args_in (ad := ad) r (k + 2) i v h
        rw [show k + (i + 2) = k + 2 + i by omega]
        exact List.mem_cons_of_mem _ this
    · rw [if_neg h2] at h ⊢
      match i, h with
      | 0, h =>
        cases h
        exact List.mem_cons_self
      | i + 1, h =>
        have := bh_args_in (ad := ad) r (k + 1) i v h
        rw [show k + (i + 1) = k + 1 + i by omega]
        exact List.mem_cons_of_mem _ this
theorem bh_args_len {ad : Nat → Nat → Nat} : ∀ (a : List bh_V), (lg_sl (a.map (bh_tr ad))).length = (bh_args a).length
  | [] => rfl
  | w :: r => by
    have ih := bh_args_len (ad := ad) r
    unfold bh_args
    rw [List.map_cons]
    show (List.flatMap _ (bh_tr ad w :: r.map (bh_tr ad))).length = _
    rw [List.flatMap_cons, List.length_append]
    have ih' : (List.flatMap (fun v => if v.category = 2 then [Slot.val v, .second] else [.val v]) (r.map (bh_tr ad))).length = (bh_args r).length := ih
    rw [ih', bh_tr_cat]
    by_cases h2 : bh_cat w = 2
    · rw [if_pos h2, if_pos h2]
      simp
      omega
    · rw [if_neg h2, if_neg h2]
      simp
      omega
theorem bh_loc_init {ad : Nat → Nat → Nat} {a : List bh_V} {n : Nat} (h : (bh_args a).length ≤ n) (M : bh_M) : bh_loc ad (bh_init n a M).1 ((lg_sl (a.map (bh_tr ad)) ++ List.replicate (n - (lg_sl (a.map (bh_tr ad))).length) Slot.unset).toArray) n := by
  have h1 := lv_entry (a.map (bh_tr ad)) (n := n) (by rw [bh_args_len]; exact h)
  refine ⟨h1.1, h1.2.1, ?_, fun i v hi => ?_⟩
  · show (bh_args a ++ List.replicate (n - (bh_args a).length) none).length = n
    rw [List.length_append, List.length_replicate]
    omega
  · have hi : (bh_args a ++ List.replicate (n - (bh_args a).length) none)[i]? = some (some v) := hi
    have hlt : i < (bh_args a).length := by
      rcases Nat.lt_or_ge i (bh_args a).length with q | q
      · exact q
      · rw [List.getElem?_append_right q] at hi
        have := List.mem_of_getElem? hi
        rw [List.mem_replicate] at this
        cases this.2
    rw [List.getElem?_append_left hlt] at hi
    have h2 := bh_args_in (ad := ad) a 0 i v hi
    rw [Nat.zero_add] at h2
    exact h1.2.2 _ h2
/-- a method by its table -/
def bh_fn (n : Nat) (T : Nat → bh_Op) : bh_Fn := fun a M Z => (bh_args a).length ≤ n ∧ bh_wp T (0, bh_init n a M) Z
theorem bh_fn_m {n : Nat} {T : Nat → bh_Op} (hT : ∀ pc, bh_mono (T pc)) : bh_monoF (bh_fn n T) := fun _ _ _ _ hZ h => ⟨h.1, bh_wp_mono hT hZ h.2⟩
theorem bh_method {l : Launch} {G : bh_G} {base : Nat} {Bg : State → Prop} {y : MethodName} {ws ws' : List Cond} {rm : Room} {b maxL : Nat} {fl : Bool} {cc : ByteArray} {ret : Option FieldType} {T : List (Nat × bh_Op)} (hy : plainFor y = true) (hw : ws = Cond.code y cc maxL ret :: ws')
    (hs : ∀ (p : Program) (e : Env) (s : State) (m : MethodId) (args : Array Value) (below : List Frame) (meth : Method) (c : Code) (ad0 : Nat → Nat → Nat) (M0 : bh_M) (Z : bh_F → Prop), CallFix p m c cc maxL s args ws y.cls → meth.sig.returnType = ret → meth.locks = false → meth.name = y.name → (∀ x ∈ c.exceptionTable.toList, False) → base ≤ s.heap.size → Bg s →
      ∀ q ∈ T, ∀ (S : bh_S), q.2 S (fun y => bh_WA p l e rm s m args below meth c (bh_MQ below G base ad0 M0 fl Z b args s) G base maxL ad0 M0 fl y.1 y.2) Z → bh_WA p l e rm s m args below meth c (bh_MQ below G base ad0 M0 fl Z b args s) G base maxL ad0 M0 fl q.1 S) :
    bh_Con l G base Bg y ws rm b fl (bh_fn maxL (bh_tb T)) := by
  intro ad M a Z hF
  refine MetFree.of_bodySF (code := cc) (maxLocals := maxL) (ret := ret) hy ?_ ?_
  · intro args s m h hn
    obtain ⟨meth, c, h1, h2, h3, h4, h5, h6, -, -⟩ := Cond.code_spec hn (atoms_spec (ws := ws) h _ (by rw [hw]; exact List.mem_cons_self))
    exact ⟨meth, c, h1, h2, h3, h4, h5, h6⟩
  · intro p e s m args below meth c s₁ B hml hP _
    obtain ⟨rfl, hR, hbs, hB⟩ := hP
    have hh0 : s₁.heap = s.heap := by rw [B.state]; rfl
    have htab : ∀ x ∈ c.exceptionTable.toList, False := by
      obtain ⟨meth9, c9, h1, h2, -, -, -, -, h7, -⟩ := Cond.code_spec B.named (atoms_spec (ws := ws) B.pre _ (by rw [hw]; exact List.mem_cons_self))
      cases Option.some.inj (h1.symm.trans B.method)
      cases Option.some.inj (h2.symm.trans (Stand.of_body B).code)
      intro x hx
      rw [Array.isEmpty_iff.mp h7] at hx
      cases hx
    have hall := hs p e s m _ below meth c ad M Z ⟨B.exec, B.bytes, hml, findClass_of_methodNamed B.named, atoms_spec (ws := ws) B.pre⟩ B.returns B.notSynchronized (name_of_methodNamed B.named B.method).1 htab hbs hB
    have h0 := hF.2 (fun y => bh_WA p l e rm s m (a.map (bh_tr ad)).toArray below meth c (bh_MQ below G base ad M fl Z b (a.map (bh_tr ad)).toArray s) G base maxL ad M fl y.1 y.2) (fun pc S hop => bh_tb_all (P := fun pc o => o S (fun y => bh_WA p l e rm s m (a.map (bh_tr ad)).toArray below meth c (bh_MQ below G base ad M fl Z b (a.map (bh_tr ad)).toArray s) G base maxL ad M fl y.1 y.2) Z → bh_WA p l e rm s m (a.map (bh_tr ad)).toArray below meth c (bh_MQ below G base ad M fl Z b (a.map (bh_tr ad)).toArray s) G base maxL ad M fl pc S) (fun _ h => h.elim) T (fun q hq => hall q hq S) pc hop)
    have h1 := h0 ad s.heap [] _ ⟨fun _ => rfl, fun _ _ _ => rfl⟩ (fun _ => Nat.le_refl _) hR va_S.rf (bh_loc_init hF.1 M)
    obtain ⟨t, a1, o, b1, b2, b3⟩ := h1 s₁ hh0 (Stand.of_body B)
    refine ⟨t, o, ?_, b1, b2, b3⟩
    rw [lg_entry_eq]
    exact a1
