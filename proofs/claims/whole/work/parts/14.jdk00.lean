abbrev c_A_fill : ByteArray := prog_22_method_103_code
def y_A_fill : MethodName := ⟨"java/util/Arrays", "fill", "([II)V"⟩
theorem d_A_fill_0 : decode c_A_fill 0 = .ok (.iconst 0, 1) := by decide +kernel
theorem d_A_fill_1 : decode c_A_fill 1 = .ok (.istore_n 2, 1) := by decide +kernel
theorem d_A_fill_2 : decode c_A_fill 2 = .ok (.aload_n 0, 1) := by decide +kernel
theorem d_A_fill_3 : decode c_A_fill 3 = .ok (.arraylength, 1) := by decide +kernel
theorem d_A_fill_4 : decode c_A_fill 4 = .ok (.istore_n 3, 1) := by decide +kernel
theorem d_A_fill_5 : decode c_A_fill 5 = .ok (.iload_n 2, 1) := by decide +kernel
theorem d_A_fill_6 : decode c_A_fill 6 = .ok (.iload_n 3, 1) := by decide +kernel
theorem d_A_fill_7 : decode c_A_fill 7 = .ok (.if_icmp .ge 13, 3) := by decide +kernel
theorem d_A_fill_10 : decode c_A_fill 10 = .ok (.aload_n 0, 1) := by decide +kernel
theorem d_A_fill_11 : decode c_A_fill 11 = .ok (.iload_n 2, 1) := by decide +kernel
theorem d_A_fill_12 : decode c_A_fill 12 = .ok (.iload_n 1, 1) := by decide +kernel
theorem d_A_fill_13 : decode c_A_fill 13 = .ok (.iastore, 1) := by decide +kernel
theorem d_A_fill_14 : decode c_A_fill 14 = .ok (.iinc 2 1, 3) := by decide +kernel
theorem d_A_fill_17 : decode c_A_fill 17 = .ok (.goto (-12), 3) := by decide +kernel
theorem d_A_fill_20 : decode c_A_fill 20 = .ok (.return_, 1) := by decide +kernel
def T_A_fill_0 : List (Nat × bh_Op) := [(0, bo_st 1 (bg_push (.inl (.int 0)))),
  (1, bo_ist 2 2),
  (2, bo_ald 3 0),
  (3, bo_len bh_ak bh_al 4),
  (4, bo_ist 5 3),
  (5, bo_ild 6 2),
  (6, bo_ild 7 3),
  (7, bo_if2 10 20 (fun x y => y ≤ x)),
  (10, bo_ald 11 0),
  (11, bo_ild 12 2),
  (12, bo_ild 13 1),
  (13, bo_Iast bh_ak bh_al 14),
  (14, bo_inc 17 2 1),
  (17, bo_go 5),
  (20, bo_vret 0)]
def T_A_fill : List (Nat × bh_Op) := T_A_fill_0
set_option maxRecDepth 20000 in
theorem mT_A_fill_0 : ∀ q ∈ T_A_fill_0, bh_mono q.2 := List.forall_mem_cons.mpr ⟨bo_st_mono (bg_push_m _), List.forall_mem_cons.mpr ⟨bo_ist_m _ _, List.forall_mem_cons.mpr ⟨bo_ald_m _ _, List.forall_mem_cons.mpr ⟨bo_len_m _ _ _, List.forall_mem_cons.mpr ⟨bo_ist_m _ _, List.forall_mem_cons.mpr ⟨bo_ild_m _ _, List.forall_mem_cons.mpr ⟨bo_ild_m _ _, List.forall_mem_cons.mpr ⟨bo_if2_m _ _ _, List.forall_mem_cons.mpr ⟨bo_ald_m _ _, List.forall_mem_cons.mpr ⟨bo_ild_m _ _, List.forall_mem_cons.mpr ⟨bo_ild_m _ _, List.forall_mem_cons.mpr ⟨bo_Iast_m _ _ _, List.forall_mem_cons.mpr ⟨bo_inc_m _ _ _, List.forall_mem_cons.mpr ⟨bo_go_m _, List.forall_mem_cons.mpr ⟨bo_vret_m _, fun _ h => absurd h List.not_mem_nil⟩⟩⟩⟩⟩⟩⟩⟩⟩⟩⟩⟩⟩⟩⟩
theorem m_A_fill : ∀ pc, bh_mono (bh_tb (T_A_fill) pc) := bh_tb_m mT_A_fill_0
def F_A_fill : bh_Fn := bh_fn 4 (bh_tb T_A_fill)
theorem mF_A_fill : bh_monoF F_A_fill := bh_fn_m m_A_fill
theorem cl_A_fill {s : State} {args : Array Value} (d B : Nat) (hts : ∀ w ∈ bh_ws, w.before args s = true) : bh_Cal (bh_rm (d + 1) B) s y_A_fill 4 (.code y_A_fill c_A_fill 4 none :: bh_ws) (bh_rm d 0) 0 2 := bh_cal d B hts wd_45 wd_4 (by decide) (by decide +kernel)
set_option maxHeartbeats 4000000 in
set_option maxRecDepth 100000 in
theorem cn_A_fill {l : Launch} {G : bh_G} {base sb L : Nat} {xs : Nat → Int32} (htr : l.stackTraces = false) (d : Nat) : bh_Con l G base (bh_Bg G base sb L xs) y_A_fill (.code y_A_fill c_A_fill 4 none :: bh_ws) (bh_rm (d + 1) 0) 0 false F_A_fill := by
  refine bh_method (cc := c_A_fill) (ret := none) (by decide +kernel) rfl ?_
  intro p e s m args below meth c ad0 M0 Z X0 hr hlocks hname htab hbs hB
  obtain ⟨hx, hb, hml, hown, hts⟩ := id X0
  have hw : ∀ w ∈ bh_ws, w.before args s = true := fun w h => hts w (List.mem_cons_of_mem _ h)
  have hBg := bh_BgK (G := G) (base := base) (sb := sb) (L := L) (xs := xs)
  obtain ⟨hK, hAr, hen, hinj, hu1, hu2, hstr, hX, hsb, hsc, hxw, hao, hnc⟩ := id hB
  obtain ⟨ha1, ha2, ha3, ha4, ha5, ha6, ha0⟩ := bh_arr hAr
  exact List.forall_mem_cons.mpr ⟨fun S h => bs_iconst (Z := Z) hx hb (by decide) d_A_fill_0 h, List.forall_mem_cons.mpr ⟨fun S h => bs_istore_n (Z := Z) hx hb rfl d_A_fill_1 h, List.forall_mem_cons.mpr ⟨fun S h => bs_aload_n (Z := Z) hx hb rfl d_A_fill_2 h, List.forall_mem_cons.mpr ⟨fun S h => bs_len (Z := Z) hx hb ha0 d_A_fill_3 h, List.forall_mem_cons.mpr ⟨fun S h => bs_istore_n (Z := Z) hx hb rfl d_A_fill_4 h, List.forall_mem_cons.mpr ⟨fun S h => bs_iload_n (Z := Z) hx hb rfl d_A_fill_5 h, List.forall_mem_cons.mpr ⟨fun S h => bs_iload_n (Z := Z) hx hb rfl d_A_fill_6 h, List.forall_mem_cons.mpr ⟨fun S h => bs_icmp_ge (Z := Z) hx hb d_A_fill_7 (by decide) h, List.forall_mem_cons.mpr ⟨fun S h => bs_aload_n (Z := Z) hx hb rfl d_A_fill_10 h, List.forall_mem_cons.mpr ⟨fun S h => bs_iload_n (Z := Z) hx hb rfl d_A_fill_11 h, List.forall_mem_cons.mpr ⟨fun S h => bs_iload_n (Z := Z) hx hb rfl d_A_fill_12 h, List.forall_mem_cons.mpr ⟨fun S h => bs_Iast (Z := Z) hx hb ha1 d_A_fill_13 h, List.forall_mem_cons.mpr ⟨fun S h => bs_iinc (Z := Z) hx hb (by decide) d_A_fill_14 h, List.forall_mem_cons.mpr ⟨fun S h => bs_goto (Z := Z) hx hb d_A_fill_17 (by decide) h, List.forall_mem_cons.mpr ⟨fun S h => bs_vret (Z := Z) hx hb hr hlocks d_A_fill_20 h, fun _ h => absurd h List.not_mem_nil⟩⟩⟩⟩⟩⟩⟩⟩⟩⟩⟩⟩⟩⟩⟩
abbrev c_A_floorMod : ByteArray := prog_17_method_50_code
def y_A_floorMod : MethodName := ⟨"java/lang/Math", "floorMod", "(II)I"⟩
theorem d_A_floorMod_0 : decode c_A_floorMod 0 = .ok (.iload_n 0, 1) := by decide +kernel
theorem d_A_floorMod_1 : decode c_A_floorMod 1 = .ok (.iload_n 1, 1) := by decide +kernel
theorem d_A_floorMod_2 : decode c_A_floorMod 2 = .ok (.irem, 1) := by decide +kernel
theorem d_A_floorMod_3 : decode c_A_floorMod 3 = .ok (.istore_n 2, 1) := by decide +kernel
theorem d_A_floorMod_4 : decode c_A_floorMod 4 = .ok (.iload_n 0, 1) := by decide +kernel
theorem d_A_floorMod_5 : decode c_A_floorMod 5 = .ok (.iload_n 1, 1) := by decide +kernel
theorem d_A_floorMod_6 : decode c_A_floorMod 6 = .ok (.ixor, 1) := by decide +kernel
theorem d_A_floorMod_7 : decode c_A_floorMod 7 = .ok (.ifCond .ge 11, 3) := by decide +kernel
theorem d_A_floorMod_10 : decode c_A_floorMod 10 = .ok (.iload_n 2, 1) := by decide +kernel
theorem d_A_floorMod_11 : decode c_A_floorMod 11 = .ok (.ifCond .eq 7, 3) := by decide +kernel
theorem d_A_floorMod_14 : decode c_A_floorMod 14 = .ok (.iload_n 2, 1) := by decide +kernel
theorem d_A_floorMod_15 : decode c_A_floorMod 15 = .ok (.iload_n 1, 1) := by decide +kernel
theorem d_A_floorMod_16 : decode c_A_floorMod 16 = .ok (.iadd, 1) := by decide +kernel
theorem d_A_floorMod_17 : decode c_A_floorMod 17 = .ok (.ireturn, 1) := by decide +kernel
theorem d_A_floorMod_18 : decode c_A_floorMod 18 = .ok (.iload_n 2, 1) := by decide +kernel
theorem d_A_floorMod_19 : decode c_A_floorMod 19 = .ok (.ireturn, 1) := by decide +kernel
def T_A_floorMod_0 : List (Nat × bh_Op) := [(0, bo_ild 1 0),
  (1, bo_ild 2 1),
  (2, bo_st 3 (bg_dv (fun x y => x - x / y * y))),
  (3, bo_ist 4 2),
  (4, bo_ild 5 0),
  (5, bo_ild 6 1),
  (6, bo_st 7 (bg_ii (fun x y => x ^^^ y))),
  (7, bo_if1 10 18 (fun x => 0 ≤ x)),
  (10, bo_ild 11 2),
  (11, bo_if1 14 18 (fun x => x = 0)),
  (14, bo_ild 15 2),
  (15, bo_ild 16 1),
  (16, bo_st 17 (bg_ii (fun x y => x + y))),
  (17, bo_iret 0),
  (18, bo_ild 19 2),
  (19, bo_iret 0)]
def T_A_floorMod : List (Nat × bh_Op) := T_A_floorMod_0
set_option maxRecDepth 20000 in
theorem mT_A_floorMod_0 : ∀ q ∈ T_A_floorMod_0, bh_mono q.2 := List.forall_mem_cons.mpr ⟨bo_ild_m _ _, List.forall_mem_cons.mpr ⟨bo_ild_m _ _, List.forall_mem_cons.mpr ⟨bo_st_mono (bg_dv_m _), List.forall_mem_cons.mpr ⟨bo_ist_m _ _, List.forall_mem_cons.mpr ⟨bo_ild_m _ _, List.forall_mem_cons.mpr ⟨bo_ild_m _ _, List.forall_mem_cons.mpr ⟨bo_st_mono (bg_ii_m _), List.forall_mem_cons.mpr ⟨bo_if1_m _ _ _, List.forall_mem_cons.mpr ⟨bo_ild_m _ _, List.forall_mem_cons.mpr ⟨bo_if1_m _ _ _, List.forall_mem_cons.mpr ⟨bo_ild_m _ _, List.forall_mem_cons.mpr ⟨bo_ild_m _ _, List.forall_mem_cons.mpr ⟨bo_st_mono (bg_ii_m _), List.forall_mem_cons.mpr ⟨bo_iret_m _, List.forall_mem_cons.mpr ⟨bo_ild_m _ _, List.forall_mem_cons.mpr ⟨bo_iret_m _, fun _ h => absurd h List.not_mem_nil⟩⟩⟩⟩⟩⟩⟩⟩⟩⟩⟩⟩⟩⟩⟩⟩
theorem m_A_floorMod : ∀ pc, bh_mono (bh_tb (T_A_floorMod) pc) := bh_tb_m mT_A_floorMod_0
def F_A_floorMod : bh_Fn := bh_fn 3 (bh_tb T_A_floorMod)
theorem mF_A_floorMod : bh_monoF F_A_floorMod := bh_fn_m m_A_floorMod
theorem cl_A_floorMod {s : State} {args : Array Value} (d B : Nat) (hts : ∀ w ∈ bh_ws, w.before args s = true) : bh_Cal (bh_rm (d + 1) B) s y_A_floorMod 3 (.code y_A_floorMod c_A_floorMod 3 (some .int) :: bh_ws) (bh_rm d 0) 0 2 := bh_cal d B hts wd_261 wd_19 (by decide) (by decide +kernel)
set_option maxHeartbeats 4000000 in
set_option maxRecDepth 100000 in
theorem cn_A_floorMod {l : Launch} {G : bh_G} {base sb L : Nat} {xs : Nat → Int32} (htr : l.stackTraces = false) (d : Nat) : bh_Con l G base (bh_Bg G base sb L xs) y_A_floorMod (.code y_A_floorMod c_A_floorMod 3 (some .int) :: bh_ws) (bh_rm (d + 1) 0) 0 false F_A_floorMod := by
  refine bh_method (cc := c_A_floorMod) (ret := (some .int)) (by decide +kernel) rfl ?_
  intro p e s m args below meth c ad0 M0 Z X0 hr hlocks hname htab hbs hB
  obtain ⟨hx, hb, hml, hown, hts⟩ := id X0
  have hw : ∀ w ∈ bh_ws, w.before args s = true := fun w h => hts w (List.mem_cons_of_mem _ h)
  have hBg := bh_BgK (G := G) (base := base) (sb := sb) (L := L) (xs := xs)
  obtain ⟨hK, hAr, hen, hinj, hu1, hu2, hstr, hX, hsb, hsc, hxw, hao, hnc⟩ := id hB
  obtain ⟨ha1, ha2, ha3, ha4, ha5, ha6, ha0⟩ := bh_arr hAr
  exact List.forall_mem_cons.mpr ⟨fun S h => bs_iload_n (Z := Z) hx hb rfl d_A_floorMod_0 h, List.forall_mem_cons.mpr ⟨fun S h => bs_iload_n (Z := Z) hx hb rfl d_A_floorMod_1 h, List.forall_mem_cons.mpr ⟨fun S h => bs_irem (Z := Z) hx hb d_A_floorMod_2 h, List.forall_mem_cons.mpr ⟨fun S h => bs_istore_n (Z := Z) hx hb rfl d_A_floorMod_3 h, List.forall_mem_cons.mpr ⟨fun S h => bs_iload_n (Z := Z) hx hb rfl d_A_floorMod_4 h, List.forall_mem_cons.mpr ⟨fun S h => bs_iload_n (Z := Z) hx hb rfl d_A_floorMod_5 h, List.forall_mem_cons.mpr ⟨fun S h => bs_ixor (Z := Z) hx hb d_A_floorMod_6 h, List.forall_mem_cons.mpr ⟨fun S h => bs_if_ge (Z := Z) hx hb d_A_floorMod_7 (by decide) h, List.forall_mem_cons.mpr ⟨fun S h => bs_iload_n (Z := Z) hx hb rfl d_A_floorMod_10 h, List.forall_mem_cons.mpr ⟨fun S h => bs_if_eq (Z := Z) hx hb d_A_floorMod_11 (by decide) h, List.forall_mem_cons.mpr ⟨fun S h => bs_iload_n (Z := Z) hx hb rfl d_A_floorMod_14 h, List.forall_mem_cons.mpr ⟨fun S h => bs_iload_n (Z := Z) hx hb rfl d_A_floorMod_15 h, List.forall_mem_cons.mpr ⟨fun S h => bs_iadd (Z := Z) hx hb d_A_floorMod_16 h, List.forall_mem_cons.mpr ⟨fun S h => bs_iret (Z := Z) hx hb hr hlocks d_A_floorMod_17 h, List.forall_mem_cons.mpr ⟨fun S h => bs_iload_n (Z := Z) hx hb rfl d_A_floorMod_18 h, List.forall_mem_cons.mpr ⟨fun S h => bs_iret (Z := Z) hx hb hr hlocks d_A_floorMod_19 h, fun _ h => absurd h List.not_mem_nil⟩⟩⟩⟩⟩⟩⟩⟩⟩⟩⟩⟩⟩⟩⟩⟩
abbrev c_A_bitCount : ByteArray := prog_16_method_49_code
def y_A_bitCount : MethodName := ⟨"java/lang/Integer", "bitCount", "(I)I"⟩
theorem d_A_bitCount_0 : decode c_A_bitCount 0 = .ok (.iload_n 0, 1) := by decide +kernel
theorem d_A_bitCount_1 : decode c_A_bitCount 1 = .ok (.iload_n 0, 1) := by decide +kernel
theorem d_A_bitCount_2 : decode c_A_bitCount 2 = .ok (.iconst 1, 1) := by decide +kernel
theorem d_A_bitCount_3 : decode c_A_bitCount 3 = .ok (.iushr, 1) := by decide +kernel
theorem d_A_bitCount_4 : decode c_A_bitCount 4 = .ok (.ldc_w 265, 3) := by decide +kernel
theorem d_A_bitCount_7 : decode c_A_bitCount 7 = .ok (.iand, 1) := by decide +kernel
theorem d_A_bitCount_8 : decode c_A_bitCount 8 = .ok (.isub, 1) := by decide +kernel
theorem d_A_bitCount_9 : decode c_A_bitCount 9 = .ok (.istore_n 0, 1) := by decide +kernel
theorem d_A_bitCount_10 : decode c_A_bitCount 10 = .ok (.iload_n 0, 1) := by decide +kernel
theorem d_A_bitCount_11 : decode c_A_bitCount 11 = .ok (.ldc_w 266, 3) := by decide +kernel
theorem d_A_bitCount_14 : decode c_A_bitCount 14 = .ok (.iand, 1) := by decide +kernel
theorem d_A_bitCount_15 : decode c_A_bitCount 15 = .ok (.iload_n 0, 1) := by decide +kernel
theorem d_A_bitCount_16 : decode c_A_bitCount 16 = .ok (.iconst 2, 1) := by decide +kernel
theorem d_A_bitCount_17 : decode c_A_bitCount 17 = .ok (.iushr, 1) := by decide +kernel
theorem d_A_bitCount_18 : decode c_A_bitCount 18 = .ok (.ldc_w 266, 3) := by decide +kernel
theorem d_A_bitCount_21 : decode c_A_bitCount 21 = .ok (.iand, 1) := by decide +kernel
theorem d_A_bitCount_22 : decode c_A_bitCount 22 = .ok (.iadd, 1) := by decide +kernel
theorem d_A_bitCount_23 : decode c_A_bitCount 23 = .ok (.istore_n 0, 1) := by decide +kernel
theorem d_A_bitCount_24 : decode c_A_bitCount 24 = .ok (.iload_n 0, 1) := by decide +kernel
theorem d_A_bitCount_25 : decode c_A_bitCount 25 = .ok (.iload_n 0, 1) := by decide +kernel
theorem d_A_bitCount_26 : decode c_A_bitCount 26 = .ok (.iconst 4, 1) := by decide +kernel
theorem d_A_bitCount_27 : decode c_A_bitCount 27 = .ok (.iushr, 1) := by decide +kernel
theorem d_A_bitCount_28 : decode c_A_bitCount 28 = .ok (.iadd, 1) := by decide +kernel
theorem d_A_bitCount_29 : decode c_A_bitCount 29 = .ok (.ldc_w 267, 3) := by decide +kernel
theorem d_A_bitCount_32 : decode c_A_bitCount 32 = .ok (.iand, 1) := by decide +kernel
theorem d_A_bitCount_33 : decode c_A_bitCount 33 = .ok (.istore_n 0, 1) := by decide +kernel
theorem d_A_bitCount_34 : decode c_A_bitCount 34 = .ok (.iload_n 0, 1) := by decide +kernel
theorem d_A_bitCount_35 : decode c_A_bitCount 35 = .ok (.iload_n 0, 1) := by decide +kernel
theorem d_A_bitCount_36 : decode c_A_bitCount 36 = .ok (.bipush 8, 2) := by decide +kernel
theorem d_A_bitCount_38 : decode c_A_bitCount 38 = .ok (.iushr, 1) := by decide +kernel
theorem d_A_bitCount_39 : decode c_A_bitCount 39 = .ok (.iadd, 1) := by decide +kernel
theorem d_A_bitCount_40 : decode c_A_bitCount 40 = .ok (.istore_n 0, 1) := by decide +kernel
theorem d_A_bitCount_41 : decode c_A_bitCount 41 = .ok (.iload_n 0, 1) := by decide +kernel
theorem d_A_bitCount_42 : decode c_A_bitCount 42 = .ok (.iload_n 0, 1) := by decide +kernel
theorem d_A_bitCount_43 : decode c_A_bitCount 43 = .ok (.bipush 16, 2) := by decide +kernel
theorem d_A_bitCount_45 : decode c_A_bitCount 45 = .ok (.iushr, 1) := by decide +kernel
theorem d_A_bitCount_46 : decode c_A_bitCount 46 = .ok (.iadd, 1) := by decide +kernel
theorem d_A_bitCount_47 : decode c_A_bitCount 47 = .ok (.istore_n 0, 1) := by decide +kernel
theorem d_A_bitCount_48 : decode c_A_bitCount 48 = .ok (.iload_n 0, 1) := by decide +kernel
theorem d_A_bitCount_49 : decode c_A_bitCount 49 = .ok (.bipush 63, 2) := by decide +kernel
theorem d_A_bitCount_51 : decode c_A_bitCount 51 = .ok (.iand, 1) := by decide +kernel
theorem d_A_bitCount_52 : decode c_A_bitCount 52 = .ok (.ireturn, 1) := by decide +kernel
def T_A_bitCount_0 : List (Nat × bh_Op) := [(0, bo_ild 1 0),
  (1, bo_ild 2 0),
  (2, bo_st 3 (bg_push (.inl (.int 1)))),
  (3, bo_st 4 (bg_ii (fun x y => (x.toUInt32 >>> (y.toUInt32 &&& Int32.toUInt32 31)).toInt32))),
  (4, bo_st 7 (bg_push (.inl (.int 1431655765)))),
  (7, bo_st 8 (bg_ii (fun x y => x &&& y))),
  (8, bo_st 9 (bg_ii (fun x y => x - y))),
  (9, bo_ist 10 0),
  (10, bo_ild 11 0),
  (11, bo_st 14 (bg_push (.inl (.int 858993459)))),
  (14, bo_st 15 (bg_ii (fun x y => x &&& y))),
  (15, bo_ild 16 0),
  (16, bo_st 17 (bg_push (.inl (.int 2)))),
  (17, bo_st 18 (bg_ii (fun x y => (x.toUInt32 >>> (y.toUInt32 &&& Int32.toUInt32 31)).toInt32))),
  (18, bo_st 21 (bg_push (.inl (.int 858993459)))),
  (21, bo_st 22 (bg_ii (fun x y => x &&& y))),
  (22, bo_st 23 (bg_ii (fun x y => x + y))),
  (23, bo_ist 24 0),
  (24, bo_ild 25 0),
  (25, bo_ild 26 0),
  (26, bo_st 27 (bg_push (.inl (.int 4)))),
  (27, bo_st 28 (bg_ii (fun x y => (x.toUInt32 >>> (y.toUInt32 &&& Int32.toUInt32 31)).toInt32))),
  (28, bo_st 29 (bg_ii (fun x y => x + y))),
  (29, bo_st 32 (bg_push (.inl (.int 252645135)))),
  (32, bo_st 33 (bg_ii (fun x y => x &&& y))),
  (33, bo_ist 34 0),
  (34, bo_ild 35 0),
  (35, bo_ild 36 0),
  (36, bo_st 38 (bg_push (.inl (.int 8)))),
  (38, bo_st 39 (bg_ii (fun x y => (x.toUInt32 >>> (y.toUInt32 &&& Int32.toUInt32 31)).toInt32))),
  (39, bo_st 40 (bg_ii (fun x y => x + y))),
  (40, bo_ist 41 0),
  (41, bo_ild 42 0),
  (42, bo_ild 43 0),
  (43, bo_st 45 (bg_push (.inl (.int 16)))),
  (45, bo_st 46 (bg_ii (fun x y => (x.toUInt32 >>> (y.toUInt32 &&& Int32.toUInt32 31)).toInt32))),
  (46, bo_st 47 (bg_ii (fun x y => x + y))),
  (47, bo_ist 48 0),
  (48, bo_ild 49 0),
  (49, bo_st 51 (bg_push (.inl (.int 63))))]
def T_A_bitCount_1 : List (Nat × bh_Op) := [(51, bo_st 52 (bg_ii (fun x y => x &&& y))),
  (52, bo_iret 0)]
def T_A_bitCount : List (Nat × bh_Op) := T_A_bitCount_0 ++ T_A_bitCount_1
set_option maxRecDepth 20000 in
theorem mT_A_bitCount_0 : ∀ q ∈ T_A_bitCount_0, bh_mono q.2 := List.forall_mem_cons.mpr ⟨bo_ild_m _ _, List.forall_mem_cons.mpr ⟨bo_ild_m _ _, List.forall_mem_cons.mpr ⟨bo_st_mono (bg_push_m _), List.forall_mem_cons.mpr ⟨bo_st_mono (bg_ii_m _), List.forall_mem_cons.mpr ⟨bo_st_mono (bg_push_m _), List.forall_mem_cons.mpr ⟨bo_st_mono (bg_ii_m _), List.forall_mem_cons.mpr ⟨bo_st_mono (bg_ii_m _), List.forall_mem_cons.mpr ⟨bo_ist_m _ _, List.forall_mem_cons.mpr ⟨bo_ild_m _ _, List.forall_mem_cons.mpr ⟨bo_st_mono (bg_push_m _), List.forall_mem_cons.mpr ⟨bo_st_mono (bg_ii_m _), List.forall_mem_cons.mpr ⟨bo_ild_m _ _, List.forall_mem_cons.mpr ⟨bo_st_mono (bg_push_m _), List.forall_mem_cons.mpr ⟨bo_st_mono (bg_ii_m _), List.forall_mem_cons.mpr ⟨bo_st_mono (bg_push_m _), List.forall_mem_cons.mpr ⟨bo_st_mono (bg_ii_m _), List.forall_mem_cons.mpr ⟨bo_st_mono (bg_ii_m _), List.forall_mem_cons.mpr ⟨bo_ist_m _ _, List.forall_mem_cons.mpr ⟨bo_ild_m _ _, List.forall_mem_cons.mpr ⟨bo_ild_m _ _, List.forall_mem_cons.mpr ⟨bo_st_mono (bg_push_m _), List.forall_mem_cons.mpr ⟨bo_st_mono (bg_ii_m _), List.forall_mem_cons.mpr ⟨bo_st_mono (bg_ii_m _), List.forall_mem_cons.mpr ⟨bo_st_mono (bg_push_m _), List.forall_mem_cons.mpr ⟨bo_st_mono (bg_ii_m _), List.forall_mem_cons.mpr ⟨bo_ist_m _ _, List.forall_mem_cons.mpr ⟨bo_ild_m _ _, List.forall_mem_cons.mpr ⟨bo_ild_m _ _, List.forall_mem_cons.mpr ⟨bo_st_mono (bg_push_m _), List.forall_mem_cons.mpr ⟨bo_st_mono (bg_ii_m _), List.forall_mem_cons.mpr ⟨bo_st_mono (bg_ii_m _), List.forall_mem_cons.mpr ⟨bo_ist_m _ _, List.forall_mem_cons.mpr ⟨bo_ild_m _ _, List.forall_mem_cons.mpr ⟨bo_ild_m _ _, List.forall_mem_cons.mpr ⟨bo_st_mono (bg_push_m _), List.forall_mem_cons.mpr ⟨bo_st_mono (bg_ii_m _), List.forall_mem_cons.mpr ⟨bo_st_mono (bg_ii_m _), List.forall_mem_cons.mpr ⟨bo_ist_m _ _, List.forall_mem_cons.mpr ⟨bo_ild_m _ _, List.forall_mem_cons.mpr ⟨bo_st_mono (bg_push_m _), fun _ h => absurd h List.not_mem_nil⟩⟩⟩⟩⟩⟩⟩⟩⟩⟩⟩⟩⟩⟩⟩⟩⟩⟩⟩⟩⟩⟩⟩⟩⟩⟩⟩⟩⟩⟩⟩⟩⟩⟩⟩⟩⟩⟩⟩⟩
set_option maxRecDepth 20000 in
theorem mT_A_bitCount_1 : ∀ q ∈ T_A_bitCount_1, bh_mono q.2 := List.forall_mem_cons.mpr ⟨bo_st_mono (bg_ii_m _), List.forall_mem_cons.mpr ⟨bo_iret_m _, fun _ h => absurd h List.not_mem_nil⟩⟩
theorem m_A_bitCount : ∀ pc, bh_mono (bh_tb (T_A_bitCount) pc) := bh_tb_m (List.forall_mem_append.mpr ⟨mT_A_bitCount_0, mT_A_bitCount_1⟩)
def F_A_bitCount : bh_Fn := bh_fn 1 (bh_tb T_A_bitCount)
theorem mF_A_bitCount : bh_monoF F_A_bitCount := bh_fn_m m_A_bitCount
theorem cl_A_bitCount {s : State} {args : Array Value} (d B : Nat) (hts : ∀ w ∈ bh_ws, w.before args s = true) : bh_Cal (bh_rm (d + 1) B) s y_A_bitCount 1 (.code y_A_bitCount c_A_bitCount 1 (some .int) :: bh_ws) (bh_rm d 0) 0 1 := bh_cal d B hts wd_390 wd_21 (by decide) (by decide +kernel)
set_option maxHeartbeats 4000000 in
set_option maxRecDepth 100000 in
theorem cn_A_bitCount {l : Launch} {G : bh_G} {base sb L : Nat} {xs : Nat → Int32} (htr : l.stackTraces = false) (d : Nat) : bh_Con l G base (bh_Bg G base sb L xs) y_A_bitCount (.code y_A_bitCount c_A_bitCount 1 (some .int) :: bh_ws) (bh_rm (d + 1) 0) 0 false F_A_bitCount := by
  refine bh_method (cc := c_A_bitCount) (ret := (some .int)) (by decide +kernel) rfl ?_
  intro p e s m args below meth c ad0 M0 Z X0 hr hlocks hname htab hbs hB
  obtain ⟨hx, hb, hml, hown, hts⟩ := id X0
  have hw : ∀ w ∈ bh_ws, w.before args s = true := fun w h => hts w (List.mem_cons_of_mem _ h)
  have hBg := bh_BgK (G := G) (base := base) (sb := sb) (L := L) (xs := xs)
  obtain ⟨hK, hAr, hen, hinj, hu1, hu2, hstr, hX, hsb, hsc, hxw, hao, hnc⟩ := id hB
  obtain ⟨ha1, ha2, ha3, ha4, ha5, ha6, ha0⟩ := bh_arr hAr
  refine List.forall_mem_append.mpr ⟨?_, List.forall_mem_cons.mpr ⟨fun S h => bs_iand (Z := Z) hx hb d_A_bitCount_51 h, List.forall_mem_cons.mpr ⟨fun S h => bs_iret (Z := Z) hx hb hr hlocks d_A_bitCount_52 h, fun _ h => absurd h List.not_mem_nil⟩⟩⟩
  exact List.forall_mem_cons.mpr ⟨fun S h => bs_iload_n (Z := Z) hx hb rfl d_A_bitCount_0 h, List.forall_mem_cons.mpr ⟨fun S h => bs_iload_n (Z := Z) hx hb rfl d_A_bitCount_1 h, List.forall_mem_cons.mpr ⟨fun S h => bs_iconst (Z := Z) hx hb (by decide) d_A_bitCount_2 h, List.forall_mem_cons.mpr ⟨fun S h => bs_iushr (Z := Z) hx hb d_A_bitCount_3 h, List.forall_mem_cons.mpr ⟨fun S h => bs_ldcwi (Z := Z) hx hb hown (hts _ (List.mem_cons_of_mem _ wd_391)) d_A_bitCount_4 h, List.forall_mem_cons.mpr ⟨fun S h => bs_iand (Z := Z) hx hb d_A_bitCount_7 h, List.forall_mem_cons.mpr ⟨fun S h => bs_isub (Z := Z) hx hb d_A_bitCount_8 h, List.forall_mem_cons.mpr ⟨fun S h => bs_istore_n (Z := Z) hx hb rfl d_A_bitCount_9 h, List.forall_mem_cons.mpr ⟨fun S h => bs_iload_n (Z := Z) hx hb rfl d_A_bitCount_10 h, List.forall_mem_cons.mpr ⟨fun S h => bs_ldcwi (Z := Z) hx hb hown (hts _ (List.mem_cons_of_mem _ wd_392)) d_A_bitCount_11 h, List.forall_mem_cons.mpr ⟨fun S h => bs_iand (Z := Z) hx hb d_A_bitCount_14 h, List.forall_mem_cons.mpr ⟨fun S h => bs_iload_n (Z := Z) hx hb rfl d_A_bitCount_15 h, List.forall_mem_cons.mpr ⟨fun S h => bs_iconst (Z := Z) hx hb (by decide) d_A_bitCount_16 h, List.forall_mem_cons.mpr ⟨fun S h => bs_iushr (Z := Z) hx hb d_A_bitCount_17 h, List.forall_mem_cons.mpr ⟨fun S h => bs_ldcwi (Z := Z) hx hb hown (hts _ (List.mem_cons_of_mem _ wd_392)) d_A_bitCount_18 h, List.forall_mem_cons.mpr ⟨fun S h => bs_iand (Z := Z) hx hb d_A_bitCount_21 h, List.forall_mem_cons.mpr ⟨fun S h => bs_iadd (Z := Z) hx hb d_A_bitCount_22 h, List.forall_mem_cons.mpr ⟨fun S h => bs_istore_n (Z := Z) hx hb rfl d_A_bitCount_23 h, List.forall_mem_cons.mpr ⟨fun S h => bs_iload_n (Z := Z) hx hb rfl d_A_bitCount_24 h, List.forall_mem_cons.mpr ⟨fun S h => bs_iload_n (Z := Z) hx hb rfl d_A_bitCount_25 h, List.forall_mem_cons.mpr ⟨fun S h => bs_iconst (Z := Z) hx hb (by decide) d_A_bitCount_26 h, List.forall_mem_cons.mpr ⟨fun S h => bs_iushr (Z := Z) hx hb d_A_bitCount_27 h, List.forall_mem_cons.mpr ⟨fun S h => bs_iadd (Z := Z) hx hb d_A_bitCount_28 h, List.forall_mem_cons.mpr ⟨fun S h => bs_ldcwi (Z := Z) hx hb hown (hts _ (List.mem_cons_of_mem _ wd_393)) d_A_bitCount_29 h, List.forall_mem_cons.mpr ⟨fun S h => bs_iand (Z := Z) hx hb d_A_bitCount_32 h, List.forall_mem_cons.mpr ⟨fun S h => bs_istore_n (Z := Z) hx hb rfl d_A_bitCount_33 h, List.forall_mem_cons.mpr ⟨fun S h => bs_iload_n (Z := Z) hx hb rfl d_A_bitCount_34 h, List.forall_mem_cons.mpr ⟨fun S h => bs_iload_n (Z := Z) hx hb rfl d_A_bitCount_35 h, List.forall_mem_cons.mpr ⟨fun S h => bs_bipush (Z := Z) hx hb (by decide) d_A_bitCount_36 h, List.forall_mem_cons.mpr ⟨fun S h => bs_iushr (Z := Z) hx hb d_A_bitCount_38 h, List.forall_mem_cons.mpr ⟨fun S h => bs_iadd (Z := Z) hx hb d_A_bitCount_39 h, List.forall_mem_cons.mpr ⟨fun S h => bs_istore_n (Z := Z) hx hb rfl d_A_bitCount_40 h, List.forall_mem_cons.mpr ⟨fun S h => bs_iload_n (Z := Z) hx hb rfl d_A_bitCount_41 h, List.forall_mem_cons.mpr ⟨fun S h => bs_iload_n (Z := Z) hx hb rfl d_A_bitCount_42 h, List.forall_mem_cons.mpr ⟨fun S h => bs_bipush (Z := Z) hx hb (by decide) d_A_bitCount_43 h, List.forall_mem_cons.mpr ⟨fun S h => bs_iushr (Z := Z) hx hb d_A_bitCount_45 h, List.forall_mem_cons.mpr ⟨fun S h => bs_iadd (Z := Z) hx hb d_A_bitCount_46 h, List.forall_mem_cons.mpr ⟨fun S h => bs_istore_n (Z := Z) hx hb rfl d_A_bitCount_47 h, List.forall_mem_cons.mpr ⟨fun S h => bs_iload_n (Z := Z) hx hb rfl d_A_bitCount_48 h, List.forall_mem_cons.mpr ⟨fun S h => bs_bipush (Z := Z) hx hb (by decide) d_A_bitCount_49 h, fun _ h => absurd h List.not_mem_nil⟩⟩⟩⟩⟩⟩⟩⟩⟩⟩⟩⟩⟩⟩⟩⟩⟩⟩⟩⟩⟩⟩⟩⟩⟩⟩⟩⟩⟩⟩⟩⟩⟩⟩⟩⟩⟩⟩⟩⟩
