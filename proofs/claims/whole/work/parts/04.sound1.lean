section BS1
variable {p : Program} {l : Launch} {e : Env} {R : Room} {s : State} {m : MethodId} {args : Array Value} {below : List Frame} {meth : Method} {c : Code} {Q : State → Prop} {G : bh_G} {base nL : Nat} {ad0 : Nat → Nat → Nat} {M0 : bh_M} {fl : Bool} {cc : ByteArray} {pc : Nat}
/-- a pure operation on the stack -/
theorem bs_st {n : Nat} {g : List bh_V → (List bh_V → Prop) → Prop} (hg : ∀ (ad : Nat → Nat → Nat) (H : Heap) (locs : List Loc) (ls : Array Slot) (cells slots : Nat) (st : List bh_V) (k : List bh_V → Prop), g st k → (∀ r, k r → W p l e R s m args below meth c H locs cells slots Q (F0 m n ls (r.map (bh_tr ad)))) → W p l e R s m args below meth c H locs cells slots Q (F0 m pc ls (st.map (bh_tr ad))))
    {S : bh_S} {Z : bh_F → Prop} (h : bo_st n g S (fun y => bh_WA p l e R s m args below meth c Q G base nL ad0 M0 fl y.1 y.2) Z) : bh_WA p l e R s m args below meth c Q G base nL ad0 M0 fl pc S := by
  intro ad H locs ls ha hC hR hS hl
  exact hg ad H locs ls _ _ S.2.1 _ h (fun r hr => hr ad H locs ls ha hC hR hS hl)
theorem bs_iconst (hx : p.tables.exec = Jvm.exec) (hb : c.code = cc) {n : Int} {v : Int32} (hv : Int32.ofInt n = v) (d : decode cc pc = .ok (.iconst n, 1)) {S : bh_S} {Z : bh_F → Prop} (h : bo_st (pc + 1) (bg_push (.inl (.int v))) S (fun y => bh_WA p l e R s m args below meth c Q G base nL ad0 M0 fl y.1 y.2) Z) : bh_WA p l e R s m args below meth c Q G base nL ad0 M0 fl pc S := by
  refine bs_st (fun ad H locs ls cells slots st k h kk => ?_) h
  exact lv_iconst hx hb d hv (kk _ h)
theorem bs_bipush (hx : p.tables.exec = Jvm.exec) (hb : c.code = cc) {n : Int} {v : Int32} (hv : (Int8.ofInt n).toInt32 = v) (d : decode cc pc = .ok (.bipush n, 2)) {S : bh_S} {Z : bh_F → Prop} (h : bo_st (pc + 2) (bg_push (.inl (.int v))) S (fun y => bh_WA p l e R s m args below meth c Q G base nL ad0 M0 fl y.1 y.2) Z) : bh_WA p l e R s m args below meth c Q G base nL ad0 M0 fl pc S := by
  refine bs_st (fun ad H locs ls cells slots st k h kk => ?_) h
  exact lv_bipush hx hb d hv (kk _ h)
theorem bs_sipush (hx : p.tables.exec = Jvm.exec) (hb : c.code = cc) {n : Int} {v : Int32} (hv : (Int16.ofInt n).toInt32 = v) (d : decode cc pc = .ok (.sipush n, 3)) {S : bh_S} {Z : bh_F → Prop} (h : bo_st (pc + 3) (bg_push (.inl (.int v))) S (fun y => bh_WA p l e R s m args below meth c Q G base nL ad0 M0 fl y.1 y.2) Z) : bh_WA p l e R s m args below meth c Q G base nL ad0 M0 fl pc S := by
  refine bs_st (fun ad H locs ls cells slots st k h kk => ?_) h
  exact lv_sipush hx hb d hv (kk _ h)
theorem bs_dconst0 (hx : p.tables.exec = Jvm.exec) (hb : c.code = cc)  (d : decode cc pc = .ok (.dconst 0, 1)) {S : bh_S} {Z : bh_F → Prop} (h : bo_st (pc + 1) (bg_push (.inl (.double FP.dconst0))) S (fun y => bh_WA p l e R s m args below meth c Q G base nL ad0 M0 fl y.1 y.2) Z) : bh_WA p l e R s m args below meth c Q G base nL ad0 M0 fl pc S := by
  refine bs_st (fun ad H locs ls cells slots st k h kk => ?_) h
  exact lv_dconst0 hx hb d (kk _ h)
theorem bs_iadd (hx : p.tables.exec = Jvm.exec) (hb : c.code = cc)  (d : decode cc pc = .ok (.iadd, 1)) {S : bh_S} {Z : bh_F → Prop} (h : bo_st (pc + 1) (bg_ii (fun x y => x + y)) S (fun y => bh_WA p l e R s m args below meth c Q G base nL ad0 M0 fl y.1 y.2) Z) : bh_WA p l e R s m args below meth c Q G base nL ad0 M0 fl pc S := by
  refine bs_st (fun ad H locs ls cells slots st k h kk => ?_) h
  unfold bg_ii at h
  split at h
  · exact lv_iadd hx hb d (kk _ h)
  · exact h.elim
theorem bs_isub (hx : p.tables.exec = Jvm.exec) (hb : c.code = cc)  (d : decode cc pc = .ok (.isub, 1)) {S : bh_S} {Z : bh_F → Prop} (h : bo_st (pc + 1) (bg_ii (fun x y => x - y)) S (fun y => bh_WA p l e R s m args below meth c Q G base nL ad0 M0 fl y.1 y.2) Z) : bh_WA p l e R s m args below meth c Q G base nL ad0 M0 fl pc S := by
  refine bs_st (fun ad H locs ls cells slots st k h kk => ?_) h
  unfold bg_ii at h
  split at h
  · exact lv_isub hx hb d (kk _ h)
  · exact h.elim
theorem bs_imul (hx : p.tables.exec = Jvm.exec) (hb : c.code = cc)  (d : decode cc pc = .ok (.imul, 1)) {S : bh_S} {Z : bh_F → Prop} (h : bo_st (pc + 1) (bg_ii (fun x y => x * y)) S (fun y => bh_WA p l e R s m args below meth c Q G base nL ad0 M0 fl y.1 y.2) Z) : bh_WA p l e R s m args below meth c Q G base nL ad0 M0 fl pc S := by
  refine bs_st (fun ad H locs ls cells slots st k h kk => ?_) h
  unfold bg_ii at h
  split at h
  · exact lv_imul hx hb d (kk _ h)
  · exact h.elim
theorem bs_iand (hx : p.tables.exec = Jvm.exec) (hb : c.code = cc)  (d : decode cc pc = .ok (.iand, 1)) {S : bh_S} {Z : bh_F → Prop} (h : bo_st (pc + 1) (bg_ii (fun x y => x &&& y)) S (fun y => bh_WA p l e R s m args below meth c Q G base nL ad0 M0 fl y.1 y.2) Z) : bh_WA p l e R s m args below meth c Q G base nL ad0 M0 fl pc S := by
  refine bs_st (fun ad H locs ls cells slots st k h kk => ?_) h
  unfold bg_ii at h
  split at h
  · exact lv_iand hx hb d (kk _ h)
  · exact h.elim
theorem bs_ior (hx : p.tables.exec = Jvm.exec) (hb : c.code = cc)  (d : decode cc pc = .ok (.ior, 1)) {S : bh_S} {Z : bh_F → Prop} (h : bo_st (pc + 1) (bg_ii (fun x y => x ||| y)) S (fun y => bh_WA p l e R s m args below meth c Q G base nL ad0 M0 fl y.1 y.2) Z) : bh_WA p l e R s m args below meth c Q G base nL ad0 M0 fl pc S := by
  refine bs_st (fun ad H locs ls cells slots st k h kk => ?_) h
  unfold bg_ii at h
  split at h
  · exact lv_ior hx hb d (kk _ h)
  · exact h.elim
theorem bs_ixor (hx : p.tables.exec = Jvm.exec) (hb : c.code = cc)  (d : decode cc pc = .ok (.ixor, 1)) {S : bh_S} {Z : bh_F → Prop} (h : bo_st (pc + 1) (bg_ii (fun x y => x ^^^ y)) S (fun y => bh_WA p l e R s m args below meth c Q G base nL ad0 M0 fl y.1 y.2) Z) : bh_WA p l e R s m args below meth c Q G base nL ad0 M0 fl pc S := by
  refine bs_st (fun ad H locs ls cells slots st k h kk => ?_) h
  unfold bg_ii at h
  split at h
  · exact lv_ixor hx hb d (kk _ h)
  · exact h.elim
theorem bs_ishl (hx : p.tables.exec = Jvm.exec) (hb : c.code = cc)  (d : decode cc pc = .ok (.ishl, 1)) {S : bh_S} {Z : bh_F → Prop} (h : bo_st (pc + 1) (bg_ii (fun x y => x <<< (y &&& 31))) S (fun y => bh_WA p l e R s m args below meth c Q G base nL ad0 M0 fl y.1 y.2) Z) : bh_WA p l e R s m args below meth c Q G base nL ad0 M0 fl pc S := by
  refine bs_st (fun ad H locs ls cells slots st k h kk => ?_) h
  unfold bg_ii at h
  split at h
  · exact lv_ishl hx hb d (kk _ h)
  · exact h.elim
theorem bs_ishr (hx : p.tables.exec = Jvm.exec) (hb : c.code = cc)  (d : decode cc pc = .ok (.ishr, 1)) {S : bh_S} {Z : bh_F → Prop} (h : bo_st (pc + 1) (bg_ii (fun x y => x >>> (y &&& 31))) S (fun y => bh_WA p l e R s m args below meth c Q G base nL ad0 M0 fl y.1 y.2) Z) : bh_WA p l e R s m args below meth c Q G base nL ad0 M0 fl pc S := by
  refine bs_st (fun ad H locs ls cells slots st k h kk => ?_) h
  unfold bg_ii at h
  split at h
  · exact lv_ishr hx hb d (kk _ h)
  · exact h.elim
theorem bs_iushr (hx : p.tables.exec = Jvm.exec) (hb : c.code = cc)  (d : decode cc pc = .ok (.iushr, 1)) {S : bh_S} {Z : bh_F → Prop} (h : bo_st (pc + 1) (bg_ii (fun x y => (x.toUInt32 >>> (y.toUInt32 &&& Int32.toUInt32 31)).toInt32)) S (fun y => bh_WA p l e R s m args below meth c Q G base nL ad0 M0 fl y.1 y.2) Z) : bh_WA p l e R s m args below meth c Q G base nL ad0 M0 fl pc S := by
  refine bs_st (fun ad H locs ls cells slots st k h kk => ?_) h
  unfold bg_ii at h
  split at h
  · exact lv_iushr hx hb d rfl (kk _ h)
  · exact h.elim
theorem bs_idiv (hx : p.tables.exec = Jvm.exec) (hb : c.code = cc)  (d : decode cc pc = .ok (.idiv, 1)) {S : bh_S} {Z : bh_F → Prop} (h : bo_st (pc + 1) (bg_dv (fun x y => x / y)) S (fun y => bh_WA p l e R s m args below meth c Q G base nL ad0 M0 fl y.1 y.2) Z) : bh_WA p l e R s m args below meth c Q G base nL ad0 M0 fl pc S := by
  refine bs_st (fun ad H locs ls cells slots st k h kk => ?_) h
  unfold bg_dv at h
  split at h
  · exact lv_idiv hx hb d h.1 (kk _ h.2)
  · exact h.elim
theorem bs_irem (hx : p.tables.exec = Jvm.exec) (hb : c.code = cc)  (d : decode cc pc = .ok (.irem, 1)) {S : bh_S} {Z : bh_F → Prop} (h : bo_st (pc + 1) (bg_dv (fun x y => x - x / y * y)) S (fun y => bh_WA p l e R s m args below meth c Q G base nL ad0 M0 fl y.1 y.2) Z) : bh_WA p l e R s m args below meth c Q G base nL ad0 M0 fl pc S := by
  refine bs_st (fun ad H locs ls cells slots st k h kk => ?_) h
  unfold bg_dv at h
  split at h
  · exact lv_irem hx hb d h.1 (kk _ h.2)
  · exact h.elim
theorem bs_i2l (hx : p.tables.exec = Jvm.exec) (hb : c.code = cc)  (d : decode cc pc = .ok (.i2l, 1)) {S : bh_S} {Z : bh_F → Prop} (h : bo_st (pc + 1) (bg_i1 (fun x => .inl (.long x.toInt64))) S (fun y => bh_WA p l e R s m args below meth c Q G base nL ad0 M0 fl y.1 y.2) Z) : bh_WA p l e R s m args below meth c Q G base nL ad0 M0 fl pc S := by
  refine bs_st (fun ad H locs ls cells slots st k h kk => ?_) h
  unfold bg_i1 at h
  split at h
  · exact lv_i2l hx hb d rfl (kk _ h)
  · exact h.elim
theorem bs_i2d (hx : p.tables.exec = Jvm.exec) (hb : c.code = cc)  (d : decode cc pc = .ok (.i2d, 1)) {S : bh_S} {Z : bh_F → Prop} (h : bo_st (pc + 1) (bg_i1 (fun x => .inl (.double (FP.i2d x)))) S (fun y => bh_WA p l e R s m args below meth c Q G base nL ad0 M0 fl y.1 y.2) Z) : bh_WA p l e R s m args below meth c Q G base nL ad0 M0 fl pc S := by
  refine bs_st (fun ad H locs ls cells slots st k h kk => ?_) h
  unfold bg_i1 at h
  split at h
  · exact lv_i2d hx hb d (kk _ h)
  · exact h.elim
theorem bs_dadd (hx : p.tables.exec = Jvm.exec) (hb : c.code = cc)  (d : decode cc pc = .ok (.dadd, 1)) {S : bh_S} {Z : bh_F → Prop} (h : bo_st (pc + 1) (bg_dd FP.dadd) S (fun y => bh_WA p l e R s m args below meth c Q G base nL ad0 M0 fl y.1 y.2) Z) : bh_WA p l e R s m args below meth c Q G base nL ad0 M0 fl pc S := by
  refine bs_st (fun ad H locs ls cells slots st k h kk => ?_) h
  unfold bg_dd at h
  split at h
  · exact lv_dadd hx hb d h.1 (kk _ h.2)
  · exact h.elim
theorem bs_dmul (hx : p.tables.exec = Jvm.exec) (hb : c.code = cc)  (d : decode cc pc = .ok (.dmul, 1)) {S : bh_S} {Z : bh_F → Prop} (h : bo_st (pc + 1) (bg_dd FP.dmul) S (fun y => bh_WA p l e R s m args below meth c Q G base nL ad0 M0 fl y.1 y.2) Z) : bh_WA p l e R s m args below meth c Q G base nL ad0 M0 fl pc S := by
  refine bs_st (fun ad H locs ls cells slots st k h kk => ?_) h
  unfold bg_dd at h
  split at h
  · exact lv_dmul hx hb d h.1 (kk _ h.2)
  · exact h.elim
theorem bs_ddiv (hx : p.tables.exec = Jvm.exec) (hb : c.code = cc)  (d : decode cc pc = .ok (.ddiv, 1)) {S : bh_S} {Z : bh_F → Prop} (h : bo_st (pc + 1) (bg_dd FP.ddiv) S (fun y => bh_WA p l e R s m args below meth c Q G base nL ad0 M0 fl y.1 y.2) Z) : bh_WA p l e R s m args below meth c Q G base nL ad0 M0 fl pc S := by
  refine bs_st (fun ad H locs ls cells slots st k h kk => ?_) h
  unfold bg_dd at h
  split at h
  · exact lv_ddiv hx hb d h.1 (kk _ h.2)
  · exact h.elim
theorem bs_dcmp (hx : p.tables.exec = Jvm.exec) (hb : c.code = cc) {op : CmpOp} (d : decode cc pc = .ok (.dcmp op, 1)) {S : bh_S} {Z : bh_F → Prop} (h : bo_st (pc + 1) (bg_dc (fun x y => Op.cmpValue (FP.dcmp x y) op)) S (fun y => bh_WA p l e R s m args below meth c Q G base nL ad0 M0 fl y.1 y.2) Z) : bh_WA p l e R s m args below meth c Q G base nL ad0 M0 fl pc S := by
  refine bs_st (fun ad H locs ls cells slots st k h kk => ?_) h
  unfold bg_dc at h
  split at h
  · exact lv_dcmp hx hb d (kk _ h)
  · exact h.elim
theorem bs_lcmp (hx : p.tables.exec = Jvm.exec) (hb : c.code = cc)  (d : decode cc pc = .ok (.lcmp, 1)) {S : bh_S} {Z : bh_F → Prop} (h : bo_st (pc + 1) (bg_lc lg_cmp) S (fun y => bh_WA p l e R s m args below meth c Q G base nL ad0 M0 fl y.1 y.2) Z) : bh_WA p l e R s m args below meth c Q G base nL ad0 M0 fl pc S := by
  refine bs_st (fun ad H locs ls cells slots st k h kk => ?_) h
  unfold bg_lc at h
  split at h
  · exact W.lcmp hx hb d (kk _ h)
  · exact h.elim
theorem bs_lconst (hx : p.tables.exec = Jvm.exec) (hb : c.code = cc) {n : Fin 2} {v : Int64} (hv : Int64.ofNat (n : Nat) = v) (d : decode cc pc = .ok (.lconst n, 1)) {S : bh_S} {Z : bh_F → Prop} (h : bo_st (pc + 1) (bg_push (.inl (.long v))) S (fun y => bh_WA p l e R s m args below meth c Q G base nL ad0 M0 fl y.1 y.2) Z) : bh_WA p l e R s m args below meth c Q G base nL ad0 M0 fl pc S := by
  refine bs_st (fun ad H locs ls cells slots st k h kk => ?_) h
  exact lv_lconst hx hb d hv (kk _ h)
theorem bs_ldcl (hx : p.tables.exec = Jvm.exec) (hb : c.code = cc) {own : String} {index : Nat} {v : Int64} (hown : s.vm.findClass own = some m.cls) (hconst : (Jvm.Cond.constantLong own index v).before args s = true) (d : decode cc pc = .ok (.ldc2_w index, 3)) {S : bh_S} {Z : bh_F → Prop} (h : bo_st (pc + 3) (bg_push (.inl (.long v))) S (fun y => bh_WA p l e R s m args below meth c Q G base nL ad0 M0 fl y.1 y.2) Z) : bh_WA p l e R s m args below meth c Q G base nL ad0 M0 fl pc S := by
  refine bs_st (fun ad H locs ls cells slots st k h kk => ?_) h
  exact lv_ldc2 hx hb hown hconst d (kk _ h)
theorem bs_ldci (hx : p.tables.exec = Jvm.exec) (hb : c.code = cc) {own : String} {index : Nat} {v : Int32} (hown : s.vm.findClass own = some m.cls) (hconst : (Jvm.Cond.constant own index v).before args s = true) (d : decode cc pc = .ok (.ldc index, 2)) {S : bh_S} {Z : bh_F → Prop} (h : bo_st (pc + 2) (bg_push (.inl (.int v))) S (fun y => bh_WA p l e R s m args below meth c Q G base nL ad0 M0 fl y.1 y.2) Z) : bh_WA p l e R s m args below meth c Q G base nL ad0 M0 fl pc S := by
  refine bs_st (fun ad H locs ls cells slots st k h kk => ?_) h
  exact lv_ldc hx hb hown hconst d (kk _ h)
theorem bs_ldcwi (hx : p.tables.exec = Jvm.exec) (hb : c.code = cc) {own : String} {index : Nat} {v : Int32} (hown : s.vm.findClass own = some m.cls) (hconst : (Jvm.Cond.constant own index v).before args s = true) (d : decode cc pc = .ok (.ldc_w index, 3)) {S : bh_S} {Z : bh_F → Prop} (h : bo_st (pc + 3) (bg_push (.inl (.int v))) S (fun y => bh_WA p l e R s m args below meth c Q G base nL ad0 M0 fl y.1 y.2) Z) : bh_WA p l e R s m args below meth c Q G base nL ad0 M0 fl pc S := by
  refine bs_st (fun ad H locs ls cells slots st k h kk => ?_) h
  exact lv_ldcw hx hb hown hconst d (kk _ h)
theorem bs_ladd (hx : p.tables.exec = Jvm.exec) (hb : c.code = cc)  (d : decode cc pc = .ok (.ladd, 1)) {S : bh_S} {Z : bh_F → Prop} (h : bo_st (pc + 1) (bg_ll (fun x y => x + y)) S (fun y => bh_WA p l e R s m args below meth c Q G base nL ad0 M0 fl y.1 y.2) Z) : bh_WA p l e R s m args below meth c Q G base nL ad0 M0 fl pc S := by
  refine bs_st (fun ad H locs ls cells slots st k h kk => ?_) h
  unfold bg_ll at h
  split at h
  · exact lv_ladd hx hb d (kk _ h)
  · exact h.elim
theorem bs_lmul (hx : p.tables.exec = Jvm.exec) (hb : c.code = cc)  (d : decode cc pc = .ok (.lmul, 1)) {S : bh_S} {Z : bh_F → Prop} (h : bo_st (pc + 1) (bg_ll (fun x y => x * y)) S (fun y => bh_WA p l e R s m args below meth c Q G base nL ad0 M0 fl y.1 y.2) Z) : bh_WA p l e R s m args below meth c Q G base nL ad0 M0 fl pc S := by
  refine bs_st (fun ad H locs ls cells slots st k h kk => ?_) h
  unfold bg_ll at h
  split at h
  · exact lv_lmul hx hb d (kk _ h)
  · exact h.elim
theorem bs_ldiv (hx : p.tables.exec = Jvm.exec) (hb : c.code = cc)  (d : decode cc pc = .ok (.ldiv, 1)) {S : bh_S} {Z : bh_F → Prop} (h : bo_st (pc + 1) (bg_lv (fun x y => x / y)) S (fun y => bh_WA p l e R s m args below meth c Q G base nL ad0 M0 fl y.1 y.2) Z) : bh_WA p l e R s m args below meth c Q G base nL ad0 M0 fl pc S := by
  refine bs_st (fun ad H locs ls cells slots st k h kk => ?_) h
  unfold bg_lv at h
  split at h
  · exact lv_ldiv hx hb d h.1 (kk _ h.2)
  · exact h.elim
theorem bs_lrem (hx : p.tables.exec = Jvm.exec) (hb : c.code = cc)  (d : decode cc pc = .ok (.lrem, 1)) {S : bh_S} {Z : bh_F → Prop} (h : bo_st (pc + 1) (bg_lv (fun x y => x - x / y * y)) S (fun y => bh_WA p l e R s m args below meth c Q G base nL ad0 M0 fl y.1 y.2) Z) : bh_WA p l e R s m args below meth c Q G base nL ad0 M0 fl pc S := by
  refine bs_st (fun ad H locs ls cells slots st k h kk => ?_) h
  unfold bg_lv at h
  split at h
  · exact lv_lrem hx hb d h.1 (kk _ h.2)
  · exact h.elim
theorem bs_l2i (hx : p.tables.exec = Jvm.exec) (hb : c.code = cc)  (d : decode cc pc = .ok (.l2i, 1)) {S : bh_S} {Z : bh_F → Prop} (h : bo_st (pc + 1) (bg_l1 (fun x => .inl (.int x.toInt32))) S (fun y => bh_WA p l e R s m args below meth c Q G base nL ad0 M0 fl y.1 y.2) Z) : bh_WA p l e R s m args below meth c Q G base nL ad0 M0 fl pc S := by
  refine bs_st (fun ad H locs ls cells slots st k h kk => ?_) h
  unfold bg_l1 at h
  split at h
  · exact lv_l2i hx hb d rfl (kk _ h)
  · exact h.elim
theorem bs_dup (hx : p.tables.exec = Jvm.exec) (hb : c.code = cc)  (d : decode cc pc = .ok (.dup, 1)) {S : bh_S} {Z : bh_F → Prop} (h : bo_st (pc + 1) (bg_dup) S (fun y => bh_WA p l e R s m args below meth c Q G base nL ad0 M0 fl y.1 y.2) Z) : bh_WA p l e R s m args below meth c Q G base nL ad0 M0 fl pc S := by
  refine bs_st (fun ad H locs ls cells slots st k h kk => ?_) h
  unfold bg_dup at h
  split at h
  · exact lv_dup hx hb d ((bh_tr_cat ad _).trans h.1) (kk _ h.2)
  · exact h.elim
theorem bs_dup2 (hx : p.tables.exec = Jvm.exec) (hb : c.code = cc)  (d : decode cc pc = .ok (.dup2, 1)) {S : bh_S} {Z : bh_F → Prop} (h : bo_st (pc + 1) (bg_dup2) S (fun y => bh_WA p l e R s m args below meth c Q G base nL ad0 M0 fl y.1 y.2) Z) : bh_WA p l e R s m args below meth c Q G base nL ad0 M0 fl pc S := by
  refine bs_st (fun ad H locs ls cells slots st k h kk => ?_) h
  unfold bg_dup2 at h
  split at h
  · exact lv_dup2_11 hx hb d ((bh_tr_cat ad _).trans h.1) ((bh_tr_cat ad _).trans h.2.1) (kk _ h.2.2)
  · exact h.elim
theorem bs_dup_x1 (hx : p.tables.exec = Jvm.exec) (hb : c.code = cc)  (d : decode cc pc = .ok (.dup_x1, 1)) {S : bh_S} {Z : bh_F → Prop} (h : bo_st (pc + 1) (bg_dup_x1) S (fun y => bh_WA p l e R s m args below meth c Q G base nL ad0 M0 fl y.1 y.2) Z) : bh_WA p l e R s m args below meth c Q G base nL ad0 M0 fl pc S := by
  refine bs_st (fun ad H locs ls cells slots st k h kk => ?_) h
  unfold bg_dup_x1 at h
  split at h
  · exact lv_dup_x1 hx hb d ((bh_tr_cat ad _).trans h.1) ((bh_tr_cat ad _).trans h.2.1) (kk _ h.2.2)
  · exact h.elim
theorem bs_pop (hx : p.tables.exec = Jvm.exec) (hb : c.code = cc)  (d : decode cc pc = .ok (.pop, 1)) {S : bh_S} {Z : bh_F → Prop} (h : bo_st (pc + 1) (bg_pop) S (fun y => bh_WA p l e R s m args below meth c Q G base nL ad0 M0 fl y.1 y.2) Z) : bh_WA p l e R s m args below meth c Q G base nL ad0 M0 fl pc S := by
  refine bs_st (fun ad H locs ls cells slots st k h kk => ?_) h
  unfold bg_pop at h
  split at h
  · exact lv_pop hx hb d ((bh_tr_cat ad _).trans h.1) (kk _ h.2)
  · exact h.elim
theorem bs_ldcd (hx : p.tables.exec = Jvm.exec) (hb : c.code = cc) {own : String} {index : Nat} {v : UInt64} (hown : s.vm.findClass own = some m.cls) (hconst : (Jvm.Cond.constantDouble own index v).before args s = true) (d : decode cc pc = .ok (.ldc2_w index, 3)) {S : bh_S} {Z : bh_F → Prop} (h : bo_st (pc + 3) (bg_push (.inl (.double v))) S (fun y => bh_WA p l e R s m args below meth c Q G base nL ad0 M0 fl y.1 y.2) Z) : bh_WA p l e R s m args below meth c Q G base nL ad0 M0 fl pc S := by
  refine bs_st (fun ad H locs ls cells slots st k h kk => ?_) h
  exact lv_ldc2d hx hb hown hconst d (kk _ h)
theorem bs_iload_n (hx : p.tables.exec = Jvm.exec) (hb : c.code = cc) {i : Nat} {k : Fin 4} (hi : (k : Nat) = i) (d : decode cc pc = .ok (.iload_n k, 1)) {S : bh_S} {Z : bh_F → Prop} (h : bo_ild (pc + 1) i S (fun y => bh_WA p l e R s m args below meth c Q G base nL ad0 M0 fl y.1 y.2) Z) : bh_WA p l e R s m args below meth c Q G base nL ad0 M0 fl pc S := by
  intro ad H locs ls ha hC hR hS hl
  unfold bo_ild at h
  split at h
  · rename_i x hq
    exact lv_iload_n hx hb d hi (hl.2.2.2 _ _ hq) (h ad H locs ls ha hC hR hS hl)
  · exact h.elim
theorem bs_iload (hx : p.tables.exec = Jvm.exec) (hb : c.code = cc) {i : Nat}  (d : decode cc pc = .ok (.iload i, 2)) {S : bh_S} {Z : bh_F → Prop} (h : bo_ild (pc + 2) i S (fun y => bh_WA p l e R s m args below meth c Q G base nL ad0 M0 fl y.1 y.2) Z) : bh_WA p l e R s m args below meth c Q G base nL ad0 M0 fl pc S := by
  intro ad H locs ls ha hC hR hS hl
  unfold bo_ild at h
  split at h
  · rename_i x hq
    exact lv_iload hx hb d (hl.2.2.2 _ _ hq) (h ad H locs ls ha hC hR hS hl)
  · exact h.elim
theorem bs_lload_n (hx : p.tables.exec = Jvm.exec) (hb : c.code = cc) {i : Nat} {k : Fin 4} (hi : (k : Nat) = i) (d : decode cc pc = .ok (.lload_n k, 1)) {S : bh_S} {Z : bh_F → Prop} (h : bo_lld (pc + 1) i S (fun y => bh_WA p l e R s m args below meth c Q G base nL ad0 M0 fl y.1 y.2) Z) : bh_WA p l e R s m args below meth c Q G base nL ad0 M0 fl pc S := by
  intro ad H locs ls ha hC hR hS hl
  unfold bo_lld at h
  split at h
  · rename_i x hq
    exact lv_lload_n hx hb d hi (hl.2.2.2 _ _ hq) (h ad H locs ls ha hC hR hS hl)
  · exact h.elim
theorem bs_lload (hx : p.tables.exec = Jvm.exec) (hb : c.code = cc) {i : Nat}  (d : decode cc pc = .ok (.lload i, 2)) {S : bh_S} {Z : bh_F → Prop} (h : bo_lld (pc + 2) i S (fun y => bh_WA p l e R s m args below meth c Q G base nL ad0 M0 fl y.1 y.2) Z) : bh_WA p l e R s m args below meth c Q G base nL ad0 M0 fl pc S := by
  intro ad H locs ls ha hC hR hS hl
  unfold bo_lld at h
  split at h
  · rename_i x hq
    exact lv_lload hx hb d (hl.2.2.2 _ _ hq) (h ad H locs ls ha hC hR hS hl)
  · exact h.elim
theorem bs_dload_n (hx : p.tables.exec = Jvm.exec) (hb : c.code = cc) {i : Nat} {k : Fin 4} (hi : (k : Nat) = i) (d : decode cc pc = .ok (.dload_n k, 1)) {S : bh_S} {Z : bh_F → Prop} (h : bo_dld (pc + 1) i S (fun y => bh_WA p l e R s m args below meth c Q G base nL ad0 M0 fl y.1 y.2) Z) : bh_WA p l e R s m args below meth c Q G base nL ad0 M0 fl pc S := by
  intro ad H locs ls ha hC hR hS hl
  unfold bo_dld at h
  split at h
  · rename_i x hq
    exact lv_dload_n hx hb d hi (hl.2.2.2 _ _ hq) (h ad H locs ls ha hC hR hS hl)
  · exact h.elim
theorem bs_dload (hx : p.tables.exec = Jvm.exec) (hb : c.code = cc) {i : Nat}  (d : decode cc pc = .ok (.dload i, 2)) {S : bh_S} {Z : bh_F → Prop} (h : bo_dld (pc + 2) i S (fun y => bh_WA p l e R s m args below meth c Q G base nL ad0 M0 fl y.1 y.2) Z) : bh_WA p l e R s m args below meth c Q G base nL ad0 M0 fl pc S := by
  intro ad H locs ls ha hC hR hS hl
  unfold bo_dld at h
  split at h
  · rename_i x hq
    exact lv_dload hx hb d (hl.2.2.2 _ _ hq) (h ad H locs ls ha hC hR hS hl)
  · exact h.elim
theorem bs_aload_n (hx : p.tables.exec = Jvm.exec) (hb : c.code = cc) {i : Nat} {k : Fin 4} (hi : (k : Nat) = i) (d : decode cc pc = .ok (.aload_n k, 1)) {S : bh_S} {Z : bh_F → Prop} (h : bo_ald (pc + 1) i S (fun y => bh_WA p l e R s m args below meth c Q G base nL ad0 M0 fl y.1 y.2) Z) : bh_WA p l e R s m args below meth c Q G base nL ad0 M0 fl pc S := by
  intro ad H locs ls ha hC hR hS hl
  unfold bo_ald at h
  split at h
  · rename_i q hq
    have h1 := hl.2.2.2 _ _ hq
    obtain ⟨t, x⟩ := q
    by_cases hz : x = 0
    · subst hz
      exact lv_aload_nN hx hb d hi h1 (h ad H locs ls ha hC hR hS hl)
    · have e1 : bh_tr ad (.inr (t, x)) = .ref (ad t x) := bh_tr_ref (by omega)
      rw [e1] at h1
      refine lv_aload_n hx hb d hi h1 ?_
      have h2 := h ad H locs ls ha hC hR hS hl
      rw [show List.map (bh_tr ad) (.inr (t, x) :: S.2.1) = .ref (ad t x) :: S.2.1.map (bh_tr ad) from by rw [List.map_cons, e1]] at h2
      exact h2
  · exact h.elim
theorem bs_aload (hx : p.tables.exec = Jvm.exec) (hb : c.code = cc) {i : Nat}  (d : decode cc pc = .ok (.aload i, 2)) {S : bh_S} {Z : bh_F → Prop} (h : bo_ald (pc + 2) i S (fun y => bh_WA p l e R s m args below meth c Q G base nL ad0 M0 fl y.1 y.2) Z) : bh_WA p l e R s m args below meth c Q G base nL ad0 M0 fl pc S := by
  intro ad H locs ls ha hC hR hS hl
  unfold bo_ald at h
  split at h
  · rename_i q hq
    have h1 := hl.2.2.2 _ _ hq
    obtain ⟨t, x⟩ := q
    by_cases hz : x = 0
    · subst hz
      exact lv_aloadN hx hb d h1 (h ad H locs ls ha hC hR hS hl)
    · have e1 : bh_tr ad (.inr (t, x)) = .ref (ad t x) := bh_tr_ref (by omega)
      rw [e1] at h1
      refine lv_aload hx hb d h1 ?_
      have h2 := h ad H locs ls ha hC hR hS hl
      rw [show List.map (bh_tr ad) (.inr (t, x) :: S.2.1) = .ref (ad t x) :: S.2.1.map (bh_tr ad) from by rw [List.map_cons, e1]] at h2
      exact h2
  · exact h.elim
theorem bs_istore_n (hx : p.tables.exec = Jvm.exec) (hb : c.code = cc) {i : Nat} {k : Fin 4} (hi : (k : Nat) = i) (d : decode cc pc = .ok (.istore_n k, 1)) {S : bh_S} {Z : bh_F → Prop} (h : bo_ist (pc + 1) i S (fun y => bh_WA p l e R s m args below meth c Q G base nL ad0 M0 fl y.1 y.2) Z) : bh_WA p l e R s m args below meth c Q G base nL ad0 M0 fl pc S := by
  intro ad H locs ls ha hC hR hS hl
  unfold bo_ist at h
  split at h
  · rename_i x r hq
    obtain ⟨h1, h2, h3⟩ := h
    rw [hl.2.2.1] at h2
    rw [hq, List.map_cons]
    exact lv_istore_n hx hb d hi (bh_loc_has hl) h2 rfl (fun ls' hl' => h3 ad H locs ls' ha hC hR hS (bh_loc_set1 (v := .inl (.int x)) hl.2.2.1 h1 hl'))
  · exact h.elim
theorem bs_istore (hx : p.tables.exec = Jvm.exec) (hb : c.code = cc) {i : Nat}  (d : decode cc pc = .ok (.istore i, 2)) {S : bh_S} {Z : bh_F → Prop} (h : bo_ist (pc + 2) i S (fun y => bh_WA p l e R s m args below meth c Q G base nL ad0 M0 fl y.1 y.2) Z) : bh_WA p l e R s m args below meth c Q G base nL ad0 M0 fl pc S := by
  intro ad H locs ls ha hC hR hS hl
  unfold bo_ist at h
  split at h
  · rename_i x r hq
    obtain ⟨h1, h2, h3⟩ := h
    rw [hl.2.2.1] at h2
    rw [hq, List.map_cons]
    exact lv_istore hx hb d (bh_loc_has hl) h2 rfl (fun ls' hl' => h3 ad H locs ls' ha hC hR hS (bh_loc_set1 (v := .inl (.int x)) hl.2.2.1 h1 hl'))
  · exact h.elim
theorem bs_dstore_n (hx : p.tables.exec = Jvm.exec) (hb : c.code = cc) {i : Nat} {k : Fin 4} (hi : (k : Nat) = i) (d : decode cc pc = .ok (.dstore_n k, 1)) {S : bh_S} {Z : bh_F → Prop} (h : bo_dst (pc + 1) i S (fun y => bh_WA p l e R s m args below meth c Q G base nL ad0 M0 fl y.1 y.2) Z) : bh_WA p l e R s m args below meth c Q G base nL ad0 M0 fl pc S := by
  intro ad H locs ls ha hC hR hS hl
  unfold bo_dst at h
  split at h
  · rename_i x r hq
    obtain ⟨h1, h2, h3⟩ := h
    rw [hl.2.2.1] at h2
    rw [hq, List.map_cons]
    exact lv_dstore_n hx hb d hi (bh_loc_has hl) h2 rfl (fun ls' hl' => h3 ad H locs ls' ha hC hR hS (bh_loc_set2 (v := .inl (.double x)) hl.2.2.1 h1 hl'))
  · exact h.elim
theorem bs_dstore (hx : p.tables.exec = Jvm.exec) (hb : c.code = cc) {i : Nat}  (d : decode cc pc = .ok (.dstore i, 2)) {S : bh_S} {Z : bh_F → Prop} (h : bo_dst (pc + 2) i S (fun y => bh_WA p l e R s m args below meth c Q G base nL ad0 M0 fl y.1 y.2) Z) : bh_WA p l e R s m args below meth c Q G base nL ad0 M0 fl pc S := by
  intro ad H locs ls ha hC hR hS hl
  unfold bo_dst at h
  split at h
  · rename_i x r hq
    obtain ⟨h1, h2, h3⟩ := h
    rw [hl.2.2.1] at h2
    rw [hq, List.map_cons]
    exact lv_dstore hx hb d (bh_loc_has hl) h2 rfl (fun ls' hl' => h3 ad H locs ls' ha hC hR hS (bh_loc_set2 (v := .inl (.double x)) hl.2.2.1 h1 hl'))
  · exact h.elim
theorem bs_lstore_n (hx : p.tables.exec = Jvm.exec) (hb : c.code = cc) {i : Nat} {k : Fin 4} (hi : (k : Nat) = i) (d : decode cc pc = .ok (.lstore_n k, 1)) {S : bh_S} {Z : bh_F → Prop} (h : bo_lst (pc + 1) i S (fun y => bh_WA p l e R s m args below meth c Q G base nL ad0 M0 fl y.1 y.2) Z) : bh_WA p l e R s m args below meth c Q G base nL ad0 M0 fl pc S := by
  intro ad H locs ls ha hC hR hS hl
  unfold bo_lst at h
  split at h
  · rename_i x r hq
    obtain ⟨h1, h2, h3⟩ := h
    rw [hl.2.2.1] at h2
    rw [hq, List.map_cons]
    exact lv_lstore_n hx hb d hi (bh_loc_has hl) h2 rfl (fun ls' hl' => h3 ad H locs ls' ha hC hR hS (bh_loc_set2 (v := .inl (.long x)) hl.2.2.1 h1 hl'))
  · exact h.elim
theorem bs_lstore (hx : p.tables.exec = Jvm.exec) (hb : c.code = cc) {i : Nat}  (d : decode cc pc = .ok (.lstore i, 2)) {S : bh_S} {Z : bh_F → Prop} (h : bo_lst (pc + 2) i S (fun y => bh_WA p l e R s m args below meth c Q G base nL ad0 M0 fl y.1 y.2) Z) : bh_WA p l e R s m args below meth c Q G base nL ad0 M0 fl pc S := by
  intro ad H locs ls ha hC hR hS hl
  unfold bo_lst at h
  split at h
  · rename_i x r hq
    obtain ⟨h1, h2, h3⟩ := h
    rw [hl.2.2.1] at h2
    rw [hq, List.map_cons]
    exact lv_lstore hx hb d (bh_loc_has hl) h2 rfl (fun ls' hl' => h3 ad H locs ls' ha hC hR hS (bh_loc_set2 (v := .inl (.long x)) hl.2.2.1 h1 hl'))
  · exact h.elim
theorem bs_astore_n (hx : p.tables.exec = Jvm.exec) (hb : c.code = cc) {i : Nat} {k : Fin 4} (hi : (k : Nat) = i) (d : decode cc pc = .ok (.astore_n k, 1)) {S : bh_S} {Z : bh_F → Prop} (h : bo_ast (pc + 1) i S (fun y => bh_WA p l e R s m args below meth c Q G base nL ad0 M0 fl y.1 y.2) Z) : bh_WA p l e R s m args below meth c Q G base nL ad0 M0 fl pc S := by
  intro ad H locs ls ha hC hR hS hl
  unfold bo_ast at h
  split at h
  · rename_i q r hq
    obtain ⟨h1, h2, h3⟩ := h
    rw [hl.2.2.1] at h2
    obtain ⟨t, x⟩ := q
    rw [hq, List.map_cons]
    by_cases hz : x = 0
    · subst hz
      exact lv_astore_nN hx hb d hi (bh_loc_has hl) h2 rfl (fun ls' hl' => h3 ad H locs ls' ha hC hR hS (bh_loc_set1 (v := .inr (t, 0)) hl.2.2.1 h1 hl'))
    · have e1 : bh_tr ad (.inr (t, x)) = .ref (ad t x) := bh_tr_ref (by omega)
      rw [e1]
      exact lv_astore_n hx hb d hi (bh_loc_has hl) h2 rfl (fun ls' hl' => h3 ad H locs ls' ha hC hR hS (bh_loc_set1 (v := .inr (t, x)) hl.2.2.1 h1 (by rw [e1]; exact hl')))
  · exact h.elim
theorem bs_astore (hx : p.tables.exec = Jvm.exec) (hb : c.code = cc) {i : Nat}  (d : decode cc pc = .ok (.astore i, 2)) {S : bh_S} {Z : bh_F → Prop} (h : bo_ast (pc + 2) i S (fun y => bh_WA p l e R s m args below meth c Q G base nL ad0 M0 fl y.1 y.2) Z) : bh_WA p l e R s m args below meth c Q G base nL ad0 M0 fl pc S := by
  intro ad H locs ls ha hC hR hS hl
  unfold bo_ast at h
  split at h
  · rename_i q r hq
    obtain ⟨h1, h2, h3⟩ := h
    rw [hl.2.2.1] at h2
    obtain ⟨t, x⟩ := q
    rw [hq, List.map_cons]
    by_cases hz : x = 0
    · subst hz
      exact lv_astoreN hx hb d (bh_loc_has hl) h2 rfl (fun ls' hl' => h3 ad H locs ls' ha hC hR hS (bh_loc_set1 (v := .inr (t, 0)) hl.2.2.1 h1 hl'))
    · have e1 : bh_tr ad (.inr (t, x)) = .ref (ad t x) := bh_tr_ref (by omega)
      rw [e1]
      exact lv_astore hx hb d (bh_loc_has hl) h2 rfl (fun ls' hl' => h3 ad H locs ls' ha hC hR hS (bh_loc_set1 (v := .inr (t, x)) hl.2.2.1 h1 (by rw [e1]; exact hl')))
  · exact h.elim
theorem bs_iinc (hx : p.tables.exec = Jvm.exec) (hb : c.code = cc) {i : Nat} {n : Int} {v : Int32} (hv : Int32.ofInt n = v) (d : decode cc pc = .ok (.iinc i n, 3)) {S : bh_S} {Z : bh_F → Prop} (h : bo_inc (pc + 3) i v S (fun y => bh_WA p l e R s m args below meth c Q G base nL ad0 M0 fl y.1 y.2) Z) : bh_WA p l e R s m args below meth c Q G base nL ad0 M0 fl pc S := by
  subst hv
  intro ad H locs ls ha hC hR hS hl
  unfold bo_inc at h
  split at h
  · rename_i x hq
    obtain ⟨h1, h2, h3⟩ := h
    rw [hl.2.2.1] at h2
    obtain ⟨k, hk⟩ := List.getElem?_of_mem (bh_asc_mem (ad := ad) (q := (i, Value.int x)) |>.mpr ⟨.inl (.int x), hq, rfl⟩)
    exact lv_iinc hx hb d (bh_loc_has hl) hk rfl h2 rfl (fun ls' hl' => h3 ad H locs ls' ha hC hR hS (bh_loc_set1 (v := .inl (.int (x + Int32.ofInt n))) hl.2.2.1 h1 hl'))
  · exact h.elim
theorem bs_if_eq (hx : p.tables.exec = Jvm.exec) (hb : c.code = cc) {off : Int} {tgt : Nat} (d : decode cc pc = .ok (.ifCond .eq off, 3)) (ht : (pc : Int) + off = (tgt : Int)) {S : bh_S} {Z : bh_F → Prop} (h : bo_if1 (pc + 3) tgt (fun x => x = 0) S (fun y => bh_WA p l e R s m args below meth c Q G base nL ad0 M0 fl y.1 y.2) Z) : bh_WA p l e R s m args below meth c Q G base nL ad0 M0 fl pc S := by
  intro ad H locs ls ha hC hR hS hl
  unfold bo_if1 at h
  split at h
  · rename_i hq
    rw [hq]
    exact lv_if_eq hx hb d ht (fun q => h.1 q ad H locs ls ha hC hR hS hl) (fun q => h.2 q ad H locs ls ha hC hR hS hl)
  · exact h.elim
theorem bs_icmp_eq (hx : p.tables.exec = Jvm.exec) (hb : c.code = cc) {off : Int} {tgt : Nat} (d : decode cc pc = .ok (.if_icmp .eq off, 3)) (ht : (pc : Int) + off = (tgt : Int)) {S : bh_S} {Z : bh_F → Prop} (h : bo_if2 (pc + 3) tgt (fun x y => x = y) S (fun y => bh_WA p l e R s m args below meth c Q G base nL ad0 M0 fl y.1 y.2) Z) : bh_WA p l e R s m args below meth c Q G base nL ad0 M0 fl pc S := by
  intro ad H locs ls ha hC hR hS hl
  unfold bo_if2 at h
  split at h
  · rename_i hq
    rw [hq]
    exact lv_icmp_eq hx hb d ht (fun q => h.1 q ad H locs ls ha hC hR hS hl) (fun q => h.2 q ad H locs ls ha hC hR hS hl)
  · exact h.elim
theorem bs_if_ne (hx : p.tables.exec = Jvm.exec) (hb : c.code = cc) {off : Int} {tgt : Nat} (d : decode cc pc = .ok (.ifCond .ne off, 3)) (ht : (pc : Int) + off = (tgt : Int)) {S : bh_S} {Z : bh_F → Prop} (h : bo_if1 (pc + 3) tgt (fun x => ¬ x = 0) S (fun y => bh_WA p l e R s m args below meth c Q G base nL ad0 M0 fl y.1 y.2) Z) : bh_WA p l e R s m args below meth c Q G base nL ad0 M0 fl pc S := by
  intro ad H locs ls ha hC hR hS hl
  unfold bo_if1 at h
  split at h
  · rename_i hq
    rw [hq]
    exact lv_if_ne hx hb d ht (fun q => h.1 q ad H locs ls ha hC hR hS hl) (fun q => h.2 (fun z => z q) ad H locs ls ha hC hR hS hl)
  · exact h.elim
theorem bs_icmp_ne (hx : p.tables.exec = Jvm.exec) (hb : c.code = cc) {off : Int} {tgt : Nat} (d : decode cc pc = .ok (.if_icmp .ne off, 3)) (ht : (pc : Int) + off = (tgt : Int)) {S : bh_S} {Z : bh_F → Prop} (h : bo_if2 (pc + 3) tgt (fun x y => ¬ x = y) S (fun y => bh_WA p l e R s m args below meth c Q G base nL ad0 M0 fl y.1 y.2) Z) : bh_WA p l e R s m args below meth c Q G base nL ad0 M0 fl pc S := by
  intro ad H locs ls ha hC hR hS hl
  unfold bo_if2 at h
  split at h
  · rename_i hq
    rw [hq]
    exact lv_icmp_ne hx hb d ht (fun q => h.1 q ad H locs ls ha hC hR hS hl) (fun q => h.2 (fun z => z q) ad H locs ls ha hC hR hS hl)
  · exact h.elim
theorem bs_if_lt (hx : p.tables.exec = Jvm.exec) (hb : c.code = cc) {off : Int} {tgt : Nat} (d : decode cc pc = .ok (.ifCond .lt off, 3)) (ht : (pc : Int) + off = (tgt : Int)) {S : bh_S} {Z : bh_F → Prop} (h : bo_if1 (pc + 3) tgt (fun x => x < 0) S (fun y => bh_WA p l e R s m args below meth c Q G base nL ad0 M0 fl y.1 y.2) Z) : bh_WA p l e R s m args below meth c Q G base nL ad0 M0 fl pc S := by
  intro ad H locs ls ha hC hR hS hl
  unfold bo_if1 at h
  split at h
  · rename_i hq
    rw [hq]
    exact lv_if_lt hx hb d ht (fun q => h.1 q ad H locs ls ha hC hR hS hl) (fun q => h.2 q ad H locs ls ha hC hR hS hl)
  · exact h.elim
theorem bs_icmp_lt (hx : p.tables.exec = Jvm.exec) (hb : c.code = cc) {off : Int} {tgt : Nat} (d : decode cc pc = .ok (.if_icmp .lt off, 3)) (ht : (pc : Int) + off = (tgt : Int)) {S : bh_S} {Z : bh_F → Prop} (h : bo_if2 (pc + 3) tgt (fun x y => x < y) S (fun y => bh_WA p l e R s m args below meth c Q G base nL ad0 M0 fl y.1 y.2) Z) : bh_WA p l e R s m args below meth c Q G base nL ad0 M0 fl pc S := by
  intro ad H locs ls ha hC hR hS hl
  unfold bo_if2 at h
  split at h
  · rename_i hq
    rw [hq]
    exact lv_icmp_lt hx hb d ht (fun q => h.1 q ad H locs ls ha hC hR hS hl) (fun q => h.2 q ad H locs ls ha hC hR hS hl)
  · exact h.elim
theorem bs_if_ge (hx : p.tables.exec = Jvm.exec) (hb : c.code = cc) {off : Int} {tgt : Nat} (d : decode cc pc = .ok (.ifCond .ge off, 3)) (ht : (pc : Int) + off = (tgt : Int)) {S : bh_S} {Z : bh_F → Prop} (h : bo_if1 (pc + 3) tgt (fun x => 0 ≤ x) S (fun y => bh_WA p l e R s m args below meth c Q G base nL ad0 M0 fl y.1 y.2) Z) : bh_WA p l e R s m args below meth c Q G base nL ad0 M0 fl pc S := by
  intro ad H locs ls ha hC hR hS hl
  unfold bo_if1 at h
  split at h
  · rename_i hq
    rw [hq]
    exact lv_if_ge hx hb d ht (fun q => h.1 q ad H locs ls ha hC hR hS hl) (fun q => h.2 q ad H locs ls ha hC hR hS hl)
  · exact h.elim
theorem bs_icmp_ge (hx : p.tables.exec = Jvm.exec) (hb : c.code = cc) {off : Int} {tgt : Nat} (d : decode cc pc = .ok (.if_icmp .ge off, 3)) (ht : (pc : Int) + off = (tgt : Int)) {S : bh_S} {Z : bh_F → Prop} (h : bo_if2 (pc + 3) tgt (fun x y => y ≤ x) S (fun y => bh_WA p l e R s m args below meth c Q G base nL ad0 M0 fl y.1 y.2) Z) : bh_WA p l e R s m args below meth c Q G base nL ad0 M0 fl pc S := by
  intro ad H locs ls ha hC hR hS hl
  unfold bo_if2 at h
  split at h
  · rename_i hq
    rw [hq]
    exact lv_icmp_ge hx hb d ht (fun q => h.1 q ad H locs ls ha hC hR hS hl) (fun q => h.2 q ad H locs ls ha hC hR hS hl)
  · exact h.elim
theorem bs_if_gt (hx : p.tables.exec = Jvm.exec) (hb : c.code = cc) {off : Int} {tgt : Nat} (d : decode cc pc = .ok (.ifCond .gt off, 3)) (ht : (pc : Int) + off = (tgt : Int)) {S : bh_S} {Z : bh_F → Prop} (h : bo_if1 (pc + 3) tgt (fun x => 0 < x) S (fun y => bh_WA p l e R s m args below meth c Q G base nL ad0 M0 fl y.1 y.2) Z) : bh_WA p l e R s m args below meth c Q G base nL ad0 M0 fl pc S := by
  intro ad H locs ls ha hC hR hS hl
  unfold bo_if1 at h
  split at h
  · rename_i hq
    rw [hq]
    exact lv_if_gt hx hb d ht (fun q => h.1 q ad H locs ls ha hC hR hS hl) (fun q => h.2 q ad H locs ls ha hC hR hS hl)
  · exact h.elim
theorem bs_icmp_gt (hx : p.tables.exec = Jvm.exec) (hb : c.code = cc) {off : Int} {tgt : Nat} (d : decode cc pc = .ok (.if_icmp .gt off, 3)) (ht : (pc : Int) + off = (tgt : Int)) {S : bh_S} {Z : bh_F → Prop} (h : bo_if2 (pc + 3) tgt (fun x y => y < x) S (fun y => bh_WA p l e R s m args below meth c Q G base nL ad0 M0 fl y.1 y.2) Z) : bh_WA p l e R s m args below meth c Q G base nL ad0 M0 fl pc S := by
  intro ad H locs ls ha hC hR hS hl
  unfold bo_if2 at h
  split at h
  · rename_i hq
    rw [hq]
    exact lv_icmp_gt hx hb d ht (fun q => h.1 q ad H locs ls ha hC hR hS hl) (fun q => h.2 q ad H locs ls ha hC hR hS hl)
  · exact h.elim
theorem bs_if_le (hx : p.tables.exec = Jvm.exec) (hb : c.code = cc) {off : Int} {tgt : Nat} (d : decode cc pc = .ok (.ifCond .le off, 3)) (ht : (pc : Int) + off = (tgt : Int)) {S : bh_S} {Z : bh_F → Prop} (h : bo_if1 (pc + 3) tgt (fun x => x ≤ 0) S (fun y => bh_WA p l e R s m args below meth c Q G base nL ad0 M0 fl y.1 y.2) Z) : bh_WA p l e R s m args below meth c Q G base nL ad0 M0 fl pc S := by
  intro ad H locs ls ha hC hR hS hl
  unfold bo_if1 at h
  split at h
  · rename_i hq
    rw [hq]
    exact lv_if_le hx hb d ht (fun q => h.1 q ad H locs ls ha hC hR hS hl) (fun q => h.2 q ad H locs ls ha hC hR hS hl)
  · exact h.elim
theorem bs_icmp_le (hx : p.tables.exec = Jvm.exec) (hb : c.code = cc) {off : Int} {tgt : Nat} (d : decode cc pc = .ok (.if_icmp .le off, 3)) (ht : (pc : Int) + off = (tgt : Int)) {S : bh_S} {Z : bh_F → Prop} (h : bo_if2 (pc + 3) tgt (fun x y => x ≤ y) S (fun y => bh_WA p l e R s m args below meth c Q G base nL ad0 M0 fl y.1 y.2) Z) : bh_WA p l e R s m args below meth c Q G base nL ad0 M0 fl pc S := by
  intro ad H locs ls ha hC hR hS hl
  unfold bo_if2 at h
  split at h
  · rename_i hq
    rw [hq]
    exact lv_icmp_le hx hb d ht (fun q => h.1 q ad H locs ls ha hC hR hS hl) (fun q => h.2 q ad H locs ls ha hC hR hS hl)
  · exact h.elim
theorem bs_goto (hx : p.tables.exec = Jvm.exec) (hb : c.code = cc) {off : Int} {tgt : Nat} (d : decode cc pc = .ok (.goto off, 3)) (ht : (pc : Int) + off = (tgt : Int)) {S : bh_S} {Z : bh_F → Prop} (h : bo_go tgt S (fun y => bh_WA p l e R s m args below meth c Q G base nL ad0 M0 fl y.1 y.2) Z) : bh_WA p l e R s m args below meth c Q G base nL ad0 M0 fl pc S := by
  intro ad H locs ls ha hC hR hS hl
  exact lv_goto hx hb d ht (h ad H locs ls ha hC hR hS hl)
end BS1
