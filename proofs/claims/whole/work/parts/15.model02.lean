abbrev c_M_exportOf : ByteArray := prog_10_method_24_code
def y_M_exportOf : MethodName := ⟨"BundleHallModel", "exportOf", "(J)I"⟩
theorem d_M_exportOf_0 : decode c_M_exportOf 0 = .ok (.lload_n 1, 1) := by decide +kernel
theorem d_M_exportOf_1 : decode c_M_exportOf 1 = .ok (.ldc2_w 137, 3) := by decide +kernel
theorem d_M_exportOf_4 : decode c_M_exportOf 4 = .ok (.ldiv, 1) := by decide +kernel
theorem d_M_exportOf_5 : decode c_M_exportOf 5 = .ok (.ldc2_w 137, 3) := by decide +kernel
theorem d_M_exportOf_8 : decode c_M_exportOf 8 = .ok (.lrem, 1) := by decide +kernel
theorem d_M_exportOf_9 : decode c_M_exportOf 9 = .ok (.l2i, 1) := by decide +kernel
theorem d_M_exportOf_10 : decode c_M_exportOf 10 = .ok (.istore_n 3, 1) := by decide +kernel
theorem d_M_exportOf_11 : decode c_M_exportOf 11 = .ok (.iconst 3, 1) := by decide +kernel
theorem d_M_exportOf_12 : decode c_M_exportOf 12 = .ok (.iload_n 3, 1) := by decide +kernel
theorem d_M_exportOf_13 : decode c_M_exportOf 13 = .ok (.imul, 1) := by decide +kernel
theorem d_M_exportOf_14 : decode c_M_exportOf 14 = .ok (.istore 4, 2) := by decide +kernel
theorem d_M_exportOf_16 : decode c_M_exportOf 16 = .ok (.iload 4, 2) := by decide +kernel
theorem d_M_exportOf_18 : decode c_M_exportOf 18 = .ok (.iconst 3, 1) := by decide +kernel
theorem d_M_exportOf_19 : decode c_M_exportOf 19 = .ok (.iload_n 3, 1) := by decide +kernel
theorem d_M_exportOf_20 : decode c_M_exportOf 20 = .ok (.imul, 1) := by decide +kernel
theorem d_M_exportOf_21 : decode c_M_exportOf 21 = .ok (.aload_n 0, 1) := by decide +kernel
theorem d_M_exportOf_22 : decode c_M_exportOf 22 = .ok (.getfield 33, 3) := by decide +kernel
theorem d_M_exportOf_25 : decode c_M_exportOf 25 = .ok (.iload_n 3, 1) := by decide +kernel
theorem d_M_exportOf_26 : decode c_M_exportOf 26 = .ok (.iaload, 1) := by decide +kernel
theorem d_M_exportOf_27 : decode c_M_exportOf 27 = .ok (.iadd, 1) := by decide +kernel
theorem d_M_exportOf_28 : decode c_M_exportOf 28 = .ok (.if_icmp .ge 23, 3) := by decide +kernel
theorem d_M_exportOf_31 : decode c_M_exportOf 31 = .ok (.aload_n 0, 1) := by decide +kernel
theorem d_M_exportOf_32 : decode c_M_exportOf 32 = .ok (.iload 4, 2) := by decide +kernel
theorem d_M_exportOf_34 : decode c_M_exportOf 34 = .ok (.invokevirtual 149, 3) := by decide +kernel
theorem d_M_exportOf_37 : decode c_M_exportOf 37 = .ok (.lload_n 1, 1) := by decide +kernel
theorem d_M_exportOf_38 : decode c_M_exportOf 38 = .ok (.lcmp, 1) := by decide +kernel
theorem d_M_exportOf_39 : decode c_M_exportOf 39 = .ok (.ifCond .ne 6, 3) := by decide +kernel
theorem d_M_exportOf_42 : decode c_M_exportOf 42 = .ok (.iload 4, 2) := by decide +kernel
theorem d_M_exportOf_44 : decode c_M_exportOf 44 = .ok (.ireturn, 1) := by decide +kernel
theorem d_M_exportOf_45 : decode c_M_exportOf 45 = .ok (.iinc 4 1, 3) := by decide +kernel
theorem d_M_exportOf_48 : decode c_M_exportOf 48 = .ok (.goto (-32), 3) := by decide +kernel
theorem d_M_exportOf_51 : decode c_M_exportOf 51 = .ok (.iconst (-1), 1) := by decide +kernel
theorem d_M_exportOf_52 : decode c_M_exportOf 52 = .ok (.ireturn, 1) := by decide +kernel
def T_M_exportOf_0 : List (Nat × bh_Op) := [(0, bo_lld 1 1),
  (1, bo_st 4 (bg_push (.inl (.long 8)))),
  (4, bo_st 5 (bg_lv (fun x y => x / y))),
  (5, bo_st 8 (bg_push (.inl (.long 8)))),
  (8, bo_st 9 (bg_lv (fun x y => x - x / y * y))),
  (9, bo_st 10 (bg_l1 (fun x => .inl (.int x.toInt32)))),
  (10, bo_ist 11 3),
  (11, bo_st 12 (bg_push (.inl (.int 3)))),
  (12, bo_ild 13 3),
  (13, bo_st 14 (bg_ii (fun x y => x * y))),
  (14, bo_ist 16 4),
  (16, bo_ild 18 4),
  (18, bo_st 19 (bg_push (.inl (.int 3)))),
  (19, bo_ild 20 3),
  (20, bo_st 21 (bg_ii (fun x y => x * y))),
  (21, bo_ald 22 0),
  (22, bo_gR 25 40 8 48),
  (25, bo_ild 26 3),
  (26, bo_Iald bh_ak bh_al 27),
  (27, bo_st 28 (bg_ii (fun x y => x + y))),
  (28, bo_if2 31 51 (fun x y => y ≤ x)),
  (31, bo_ald 32 0),
  (32, bo_ild 34 4),
  (34, bo_callV 37 2 0 0 40 F_M_port),
  (37, bo_lld 38 1),
  (38, bo_st 39 (bg_lc lg_cmp)),
  (39, bo_if1 42 45 (fun x => ¬ x = 0)),
  (42, bo_ild 44 4),
  (44, bo_iret 0),
  (45, bo_inc 48 4 1),
  (48, bo_go 16),
  (51, bo_st 52 (bg_push (.inl (.int (-1))))),
  (52, bo_iret 0)]
def T_M_exportOf : List (Nat × bh_Op) := T_M_exportOf_0
set_option maxRecDepth 20000 in
theorem mT_M_exportOf_0 : ∀ q ∈ T_M_exportOf_0, bh_mono q.2 := List.forall_mem_cons.mpr ⟨bo_lld_m _ _, List.forall_mem_cons.mpr ⟨bo_st_mono (bg_push_m _), List.forall_mem_cons.mpr ⟨bo_st_mono (bg_lv_m _), List.forall_mem_cons.mpr ⟨bo_st_mono (bg_push_m _), List.forall_mem_cons.mpr ⟨bo_st_mono (bg_lv_m _), List.forall_mem_cons.mpr ⟨bo_st_mono (bg_l1_m _), List.forall_mem_cons.mpr ⟨bo_ist_m _ _, List.forall_mem_cons.mpr ⟨bo_st_mono (bg_push_m _), List.forall_mem_cons.mpr ⟨bo_ild_m _ _, List.forall_mem_cons.mpr ⟨bo_st_mono (bg_ii_m _), List.forall_mem_cons.mpr ⟨bo_ist_m _ _, List.forall_mem_cons.mpr ⟨bo_ild_m _ _, List.forall_mem_cons.mpr ⟨bo_st_mono (bg_push_m _), List.forall_mem_cons.mpr ⟨bo_ild_m _ _, List.forall_mem_cons.mpr ⟨bo_st_mono (bg_ii_m _), List.forall_mem_cons.mpr ⟨bo_ald_m _ _, List.forall_mem_cons.mpr ⟨bo_gR_m _ _ _ _, List.forall_mem_cons.mpr ⟨bo_ild_m _ _, List.forall_mem_cons.mpr ⟨bo_Iald_m _ _ _, List.forall_mem_cons.mpr ⟨bo_st_mono (bg_ii_m _), List.forall_mem_cons.mpr ⟨bo_if2_m _ _ _, List.forall_mem_cons.mpr ⟨bo_ald_m _ _, List.forall_mem_cons.mpr ⟨bo_ild_m _ _, List.forall_mem_cons.mpr ⟨bo_callV_m (mF_M_port) _ _ _ _ _, List.forall_mem_cons.mpr ⟨bo_lld_m _ _, List.forall_mem_cons.mpr ⟨bo_st_mono (bg_lc_m _), List.forall_mem_cons.mpr ⟨bo_if1_m _ _ _, List.forall_mem_cons.mpr ⟨bo_ild_m _ _, List.forall_mem_cons.mpr ⟨bo_iret_m _, List.forall_mem_cons.mpr ⟨bo_inc_m _ _ _, List.forall_mem_cons.mpr ⟨bo_go_m _, List.forall_mem_cons.mpr ⟨bo_st_mono (bg_push_m _), List.forall_mem_cons.mpr ⟨bo_iret_m _, fun _ h => absurd h List.not_mem_nil⟩⟩⟩⟩⟩⟩⟩⟩⟩⟩⟩⟩⟩⟩⟩⟩⟩⟩⟩⟩⟩⟩⟩⟩⟩⟩⟩⟩⟩⟩⟩⟩⟩
theorem m_M_exportOf : ∀ pc, bh_mono (bh_tb (T_M_exportOf) pc) := bh_tb_m mT_M_exportOf_0
def F_M_exportOf : bh_Fn := bh_fn 5 (bh_tb T_M_exportOf)
theorem mF_M_exportOf : bh_monoF F_M_exportOf := bh_fn_m m_M_exportOf
theorem cl_M_exportOf {s : State} {args : Array Value} (d B : Nat) (hts : ∀ w ∈ bh_ws, w.before args s = true) : bh_Cal (bh_rm (d + 1) B) s y_M_exportOf 5 (.code y_M_exportOf c_M_exportOf 5 (some .int) :: bh_ws) (bh_rm d 0) 0 1 := bh_cal d B hts wd_1009 wd_9 (by decide) (by decide +kernel)
set_option maxHeartbeats 4000000 in
set_option maxRecDepth 100000 in
theorem cn_M_exportOf {l : Launch} {G : bh_G} {base sb L : Nat} {xs : Nat → Int32} (htr : l.stackTraces = false) (d : Nat) : bh_Con l G base (bh_Bg G base sb L xs) y_M_exportOf (.code y_M_exportOf c_M_exportOf 5 (some .int) :: bh_ws) (bh_rm (d + 2) 0) 0 false F_M_exportOf := by
  refine bh_method (cc := c_M_exportOf) (ret := (some .int)) (by decide +kernel) rfl ?_
  intro p e s m args below meth c ad0 M0 Z X0 hr hlocks hname htab hbs hB
  obtain ⟨hx, hb, hml, hown, hts⟩ := id X0
  have hw : ∀ w ∈ bh_ws, w.before args s = true := fun w h => hts w (List.mem_cons_of_mem _ h)
  have hBg := bh_BgK (G := G) (base := base) (sb := sb) (L := L) (xs := xs)
  obtain ⟨hK, hAr, hen, hinj, hu1, hu2, hstr, hX, hsb, hsc, hxw, hao, hnc⟩ := id hB
  obtain ⟨ha1, ha2, ha3, ha4, ha5, ha6, ha0⟩ := bh_arr hAr
  exact List.forall_mem_cons.mpr ⟨fun S h => bs_lload_n (Z := Z) hx hb rfl d_M_exportOf_0 h, List.forall_mem_cons.mpr ⟨fun S h => bs_ldcl (Z := Z) hx hb hown (hts _ (List.mem_cons_of_mem _ wd_997)) d_M_exportOf_1 h, List.forall_mem_cons.mpr ⟨fun S h => bs_ldiv (Z := Z) hx hb d_M_exportOf_4 h, List.forall_mem_cons.mpr ⟨fun S h => bs_ldcl (Z := Z) hx hb hown (hts _ (List.mem_cons_of_mem _ wd_997)) d_M_exportOf_5 h, List.forall_mem_cons.mpr ⟨fun S h => bs_lrem (Z := Z) hx hb d_M_exportOf_8 h, List.forall_mem_cons.mpr ⟨fun S h => bs_l2i (Z := Z) hx hb d_M_exportOf_9 h, List.forall_mem_cons.mpr ⟨fun S h => bs_istore_n (Z := Z) hx hb rfl d_M_exportOf_10 h, List.forall_mem_cons.mpr ⟨fun S h => bs_iconst (Z := Z) hx hb (by decide) d_M_exportOf_11 h, List.forall_mem_cons.mpr ⟨fun S h => bs_iload_n (Z := Z) hx hb rfl d_M_exportOf_12 h, List.forall_mem_cons.mpr ⟨fun S h => bs_imul (Z := Z) hx hb d_M_exportOf_13 h, List.forall_mem_cons.mpr ⟨fun S h => bs_istore (Z := Z) hx hb d_M_exportOf_14 h, List.forall_mem_cons.mpr ⟨fun S h => bs_iload (Z := Z) hx hb d_M_exportOf_16 h, List.forall_mem_cons.mpr ⟨fun S h => bs_iconst (Z := Z) hx hb (by decide) d_M_exportOf_18 h, List.forall_mem_cons.mpr ⟨fun S h => bs_iload_n (Z := Z) hx hb rfl d_M_exportOf_19 h, List.forall_mem_cons.mpr ⟨fun S h => bs_imul (Z := Z) hx hb d_M_exportOf_20 h, List.forall_mem_cons.mpr ⟨fun S h => bs_aload_n (Z := Z) hx hb rfl d_M_exportOf_21 h, List.forall_mem_cons.mpr ⟨fun S h => bs_gR (Z := Z) (C := R_M) (T := F_M) (N := 40) (t := 40) (j := 8) hx hb hK hts (fun w h => List.mem_cons_of_mem _ (iw_M w h)) hown rfl rfl (by decide) (hts _ (List.mem_cons_of_mem _ wd_792)) (fun _ h => h) rfl rfl rfl d_M_exportOf_22 h, List.forall_mem_cons.mpr ⟨fun S h => bs_iload_n (Z := Z) hx hb rfl d_M_exportOf_25 h, List.forall_mem_cons.mpr ⟨fun S h => bs_Iald (Z := Z) hx hb ha1 d_M_exportOf_26 h, List.forall_mem_cons.mpr ⟨fun S h => bs_iadd (Z := Z) hx hb d_M_exportOf_27 h, List.forall_mem_cons.mpr ⟨fun S h => bs_icmp_ge (Z := Z) hx hb d_M_exportOf_28 (by decide) h, List.forall_mem_cons.mpr ⟨fun S h => bs_aload_n (Z := Z) hx hb rfl d_M_exportOf_31 h, List.forall_mem_cons.mpr ⟨fun S h => bs_iload (Z := Z) hx hb d_M_exportOf_32 h, List.forall_mem_cons.mpr ⟨fun S h => bs_callV (Z := Z) (C := R_M) hBg hbs hB X0 hK (cn_M_port htr (d + 0)) (cl_M_port _ _ hw) (hts _ (List.mem_cons_of_mem _ wd_993)) (hts _ (List.mem_cons_of_mem _ wd_995)) (hts _ (List.mem_cons_of_mem _ ws_40)) rfl rfl rfl rfl rfl (Nat.le_refl _) (Nat.le_refl _) d_M_exportOf_34 (bs_out htab hlocks) h, List.forall_mem_cons.mpr ⟨fun S h => bs_lload_n (Z := Z) hx hb rfl d_M_exportOf_37 h, List.forall_mem_cons.mpr ⟨fun S h => bs_lcmp (Z := Z) hx hb d_M_exportOf_38 h, List.forall_mem_cons.mpr ⟨fun S h => bs_if_ne (Z := Z) hx hb d_M_exportOf_39 (by decide) h, List.forall_mem_cons.mpr ⟨fun S h => bs_iload (Z := Z) hx hb d_M_exportOf_42 h, List.forall_mem_cons.mpr ⟨fun S h => bs_iret (Z := Z) hx hb hr hlocks d_M_exportOf_44 h, List.forall_mem_cons.mpr ⟨fun S h => bs_iinc (Z := Z) hx hb (by decide) d_M_exportOf_45 h, List.forall_mem_cons.mpr ⟨fun S h => bs_goto (Z := Z) hx hb d_M_exportOf_48 (by decide) h, List.forall_mem_cons.mpr ⟨fun S h => bs_iconst (Z := Z) hx hb (by decide) d_M_exportOf_51 h, List.forall_mem_cons.mpr ⟨fun S h => bs_iret (Z := Z) hx hb hr hlocks d_M_exportOf_52 h, fun _ h => absurd h List.not_mem_nil⟩⟩⟩⟩⟩⟩⟩⟩⟩⟩⟩⟩⟩⟩⟩⟩⟩⟩⟩⟩⟩⟩⟩⟩⟩⟩⟩⟩⟩⟩⟩⟩⟩
abbrev c_M_allHold : ByteArray := prog_10_method_25_code
def y_M_allHold : MethodName := ⟨"BundleHallModel", "allHold", "()Z"⟩
theorem d_M_allHold_0 : decode c_M_allHold 0 = .ok (.iconst 0, 1) := by decide +kernel
theorem d_M_allHold_1 : decode c_M_allHold 1 = .ok (.istore_n 1, 1) := by decide +kernel
theorem d_M_allHold_2 : decode c_M_allHold 2 = .ok (.iload_n 1, 1) := by decide +kernel
theorem d_M_allHold_3 : decode c_M_allHold 3 = .ok (.bipush 24, 2) := by decide +kernel
theorem d_M_allHold_5 : decode c_M_allHold 5 = .ok (.if_icmp .ge 62, 3) := by decide +kernel
theorem d_M_allHold_8 : decode c_M_allHold 8 = .ok (.aload_n 0, 1) := by decide +kernel
theorem d_M_allHold_9 : decode c_M_allHold 9 = .ok (.getfield 78, 3) := by decide +kernel
theorem d_M_allHold_12 : decode c_M_allHold 12 = .ok (.iload_n 1, 1) := by decide +kernel
theorem d_M_allHold_13 : decode c_M_allHold 13 = .ok (.iconst 3, 1) := by decide +kernel
theorem d_M_allHold_14 : decode c_M_allHold 14 = .ok (.idiv, 1) := by decide +kernel
theorem d_M_allHold_15 : decode c_M_allHold 15 = .ok (.baload, 1) := by decide +kernel
theorem d_M_allHold_16 : decode c_M_allHold 16 = .ok (.ifCond .eq 45, 3) := by decide +kernel
theorem d_M_allHold_19 : decode c_M_allHold 19 = .ok (.aload_n 0, 1) := by decide +kernel
theorem d_M_allHold_20 : decode c_M_allHold 20 = .ok (.getfield 60, 3) := by decide +kernel
theorem d_M_allHold_23 : decode c_M_allHold 23 = .ok (.iload_n 1, 1) := by decide +kernel
theorem d_M_allHold_24 : decode c_M_allHold 24 = .ok (.laload, 1) := by decide +kernel
theorem d_M_allHold_25 : decode c_M_allHold 25 = .ok (.lconst 0, 1) := by decide +kernel
theorem d_M_allHold_26 : decode c_M_allHold 26 = .ok (.lcmp, 1) := by decide +kernel
theorem d_M_allHold_27 : decode c_M_allHold 27 = .ok (.ifCond .ge 6, 3) := by decide +kernel
theorem d_M_allHold_30 : decode c_M_allHold 30 = .ok (.goto 31, 3) := by decide +kernel
theorem d_M_allHold_33 : decode c_M_allHold 33 = .ok (.aload_n 0, 1) := by decide +kernel
theorem d_M_allHold_34 : decode c_M_allHold 34 = .ok (.aload_n 0, 1) := by decide +kernel
theorem d_M_allHold_35 : decode c_M_allHold 35 = .ok (.getfield 60, 3) := by decide +kernel
theorem d_M_allHold_38 : decode c_M_allHold 38 = .ok (.iload_n 1, 1) := by decide +kernel
theorem d_M_allHold_39 : decode c_M_allHold 39 = .ok (.laload, 1) := by decide +kernel
theorem d_M_allHold_40 : decode c_M_allHold 40 = .ok (.invokevirtual 187, 3) := by decide +kernel
theorem d_M_allHold_43 : decode c_M_allHold 43 = .ok (.istore_n 2, 1) := by decide +kernel
theorem d_M_allHold_44 : decode c_M_allHold 44 = .ok (.iload_n 2, 1) := by decide +kernel
theorem d_M_allHold_45 : decode c_M_allHold 45 = .ok (.ifCond .lt 16, 3) := by decide +kernel
theorem d_M_allHold_48 : decode c_M_allHold 48 = .ok (.aload_n 0, 1) := by decide +kernel
theorem d_M_allHold_49 : decode c_M_allHold 49 = .ok (.iload_n 1, 1) := by decide +kernel
theorem d_M_allHold_50 : decode c_M_allHold 50 = .ok (.iconst 3, 1) := by decide +kernel
theorem d_M_allHold_51 : decode c_M_allHold 51 = .ok (.idiv, 1) := by decide +kernel
theorem d_M_allHold_52 : decode c_M_allHold 52 = .ok (.iload_n 2, 1) := by decide +kernel
theorem d_M_allHold_53 : decode c_M_allHold 53 = .ok (.invokevirtual 163, 3) := by decide +kernel
theorem d_M_allHold_56 : decode c_M_allHold 56 = .ok (.ifCond .eq 5, 3) := by decide +kernel
theorem d_M_allHold_59 : decode c_M_allHold 59 = .ok (.iconst 0, 1) := by decide +kernel
theorem d_M_allHold_60 : decode c_M_allHold 60 = .ok (.ireturn, 1) := by decide +kernel
theorem d_M_allHold_61 : decode c_M_allHold 61 = .ok (.iinc 1 1, 3) := by decide +kernel
theorem d_M_allHold_64 : decode c_M_allHold 64 = .ok (.goto (-62), 3) := by decide +kernel
theorem d_M_allHold_67 : decode c_M_allHold 67 = .ok (.iconst 1, 1) := by decide +kernel
theorem d_M_allHold_68 : decode c_M_allHold 68 = .ok (.ireturn, 1) := by decide +kernel
def T_M_allHold_0 : List (Nat × bh_Op) := [(0, bo_st 1 (bg_push (.inl (.int 0)))),
  (1, bo_ist 2 1),
  (2, bo_ild 3 1),
  (3, bo_st 5 (bg_push (.inl (.int 24)))),
  (5, bo_if2 8 67 (fun x y => y ≤ x)),
  (8, bo_ald 9 0),
  (9, bo_gR 12 40 24 63),
  (12, bo_ild 13 1),
  (13, bo_st 14 (bg_push (.inl (.int 3)))),
  (14, bo_st 15 (bg_dv (fun x y => x / y))),
  (15, bo_Zald bh_ak bh_al 16),
  (16, bo_if1 19 61 (fun x => x = 0)),
  (19, bo_ald 20 0),
  (20, bo_gR 23 40 17 57),
  (23, bo_ild 24 1),
  (24, bo_Jald bh_ak bh_al 25),
  (25, bo_st 26 (bg_push (.inl (.long 0)))),
  (26, bo_st 27 (bg_lc lg_cmp)),
  (27, bo_if1 30 33 (fun x => 0 ≤ x)),
  (30, bo_go 61),
  (33, bo_ald 34 0),
  (34, bo_ald 35 0),
  (35, bo_gR 38 40 17 57),
  (38, bo_ild 39 1),
  (39, bo_Jald bh_ak bh_al 40),
  (40, bo_callV 43 2 0 0 40 F_M_exportOf),
  (43, bo_ist 44 2),
  (44, bo_ild 45 2),
  (45, bo_if1 48 61 (fun x => x < 0)),
  (48, bo_ald 49 0),
  (49, bo_ild 50 1),
  (50, bo_st 51 (bg_push (.inl (.int 3)))),
  (51, bo_st 52 (bg_dv (fun x y => x / y))),
  (52, bo_ild 53 2),
  (53, bo_callV 56 3 0 0 40 F_M_clash),
  (56, bo_if1 59 61 (fun x => x = 0)),
  (59, bo_st 60 (bg_push (.inl (.int 0)))),
  (60, bo_zret 0),
  (61, bo_inc 64 1 1),
  (64, bo_go 2)]
def T_M_allHold_1 : List (Nat × bh_Op) := [(67, bo_st 68 (bg_push (.inl (.int 1)))),
  (68, bo_zret 0)]
def T_M_allHold : List (Nat × bh_Op) := T_M_allHold_0 ++ T_M_allHold_1
set_option maxRecDepth 20000 in
theorem mT_M_allHold_0 : ∀ q ∈ T_M_allHold_0, bh_mono q.2 := List.forall_mem_cons.mpr ⟨bo_st_mono (bg_push_m _), List.forall_mem_cons.mpr ⟨bo_ist_m _ _, List.forall_mem_cons.mpr ⟨bo_ild_m _ _, List.forall_mem_cons.mpr ⟨bo_st_mono (bg_push_m _), List.forall_mem_cons.mpr ⟨bo_if2_m _ _ _, List.forall_mem_cons.mpr ⟨bo_ald_m _ _, List.forall_mem_cons.mpr ⟨bo_gR_m _ _ _ _, List.forall_mem_cons.mpr ⟨bo_ild_m _ _, List.forall_mem_cons.mpr ⟨bo_st_mono (bg_push_m _), List.forall_mem_cons.mpr ⟨bo_st_mono (bg_dv_m _), List.forall_mem_cons.mpr ⟨bo_Zald_m _ _ _, List.forall_mem_cons.mpr ⟨bo_if1_m _ _ _, List.forall_mem_cons.mpr ⟨bo_ald_m _ _, List.forall_mem_cons.mpr ⟨bo_gR_m _ _ _ _, List.forall_mem_cons.mpr ⟨bo_ild_m _ _, List.forall_mem_cons.mpr ⟨bo_Jald_m _ _ _, List.forall_mem_cons.mpr ⟨bo_st_mono (bg_push_m _), List.forall_mem_cons.mpr ⟨bo_st_mono (bg_lc_m _), List.forall_mem_cons.mpr ⟨bo_if1_m _ _ _, List.forall_mem_cons.mpr ⟨bo_go_m _, List.forall_mem_cons.mpr ⟨bo_ald_m _ _, List.forall_mem_cons.mpr ⟨bo_ald_m _ _, List.forall_mem_cons.mpr ⟨bo_gR_m _ _ _ _, List.forall_mem_cons.mpr ⟨bo_ild_m _ _, List.forall_mem_cons.mpr ⟨bo_Jald_m _ _ _, List.forall_mem_cons.mpr ⟨bo_callV_m (mF_M_exportOf) _ _ _ _ _, List.forall_mem_cons.mpr ⟨bo_ist_m _ _, List.forall_mem_cons.mpr ⟨bo_ild_m _ _, List.forall_mem_cons.mpr ⟨bo_if1_m _ _ _, List.forall_mem_cons.mpr ⟨bo_ald_m _ _, List.forall_mem_cons.mpr ⟨bo_ild_m _ _, List.forall_mem_cons.mpr ⟨bo_st_mono (bg_push_m _), List.forall_mem_cons.mpr ⟨bo_st_mono (bg_dv_m _), List.forall_mem_cons.mpr ⟨bo_ild_m _ _, List.forall_mem_cons.mpr ⟨bo_callV_m (mF_M_clash) _ _ _ _ _, List.forall_mem_cons.mpr ⟨bo_if1_m _ _ _, List.forall_mem_cons.mpr ⟨bo_st_mono (bg_push_m _), List.forall_mem_cons.mpr ⟨bo_zret_m _, List.forall_mem_cons.mpr ⟨bo_inc_m _ _ _, List.forall_mem_cons.mpr ⟨bo_go_m _, fun _ h => absurd h List.not_mem_nil⟩⟩⟩⟩⟩⟩⟩⟩⟩⟩⟩⟩⟩⟩⟩⟩⟩⟩⟩⟩⟩⟩⟩⟩⟩⟩⟩⟩⟩⟩⟩⟩⟩⟩⟩⟩⟩⟩⟩⟩
set_option maxRecDepth 20000 in
theorem mT_M_allHold_1 : ∀ q ∈ T_M_allHold_1, bh_mono q.2 := List.forall_mem_cons.mpr ⟨bo_st_mono (bg_push_m _), List.forall_mem_cons.mpr ⟨bo_zret_m _, fun _ h => absurd h List.not_mem_nil⟩⟩
theorem m_M_allHold : ∀ pc, bh_mono (bh_tb (T_M_allHold) pc) := bh_tb_m (List.forall_mem_append.mpr ⟨mT_M_allHold_0, mT_M_allHold_1⟩)
def F_M_allHold : bh_Fn := bh_fn 3 (bh_tb T_M_allHold)
theorem mF_M_allHold : bh_monoF F_M_allHold := bh_fn_m m_M_allHold
theorem cl_M_allHold {s : State} {args : Array Value} (d B : Nat) (hts : ∀ w ∈ bh_ws, w.before args s = true) : bh_Cal (bh_rm (d + 1) B) s y_M_allHold 3 (.code y_M_allHold c_M_allHold 3 (some .boolean) :: bh_ws) (bh_rm d 0) 0 0 := bh_cal d B hts wd_1005 wd_9 (by decide) (by decide +kernel)
set_option maxHeartbeats 4000000 in
set_option maxRecDepth 100000 in
theorem cn_M_allHold {l : Launch} {G : bh_G} {base sb L : Nat} {xs : Nat → Int32} (htr : l.stackTraces = false) (d : Nat) : bh_Con l G base (bh_Bg G base sb L xs) y_M_allHold (.code y_M_allHold c_M_allHold 3 (some .boolean) :: bh_ws) (bh_rm (d + 4) 0) 0 false F_M_allHold := by
  refine bh_method (cc := c_M_allHold) (ret := (some .boolean)) (by decide +kernel) rfl ?_
  intro p e s m args below meth c ad0 M0 Z X0 hr hlocks hname htab hbs hB
  obtain ⟨hx, hb, hml, hown, hts⟩ := id X0
  have hw : ∀ w ∈ bh_ws, w.before args s = true := fun w h => hts w (List.mem_cons_of_mem _ h)
  have hBg := bh_BgK (G := G) (base := base) (sb := sb) (L := L) (xs := xs)
  obtain ⟨hK, hAr, hen, hinj, hu1, hu2, hstr, hX, hsb, hsc, hxw, hao, hnc⟩ := id hB
  obtain ⟨ha1, ha2, ha3, ha4, ha5, ha6, ha0⟩ := bh_arr hAr
  refine List.forall_mem_append.mpr ⟨?_, List.forall_mem_cons.mpr ⟨fun S h => bs_iconst (Z := Z) hx hb (by decide) d_M_allHold_67 h, List.forall_mem_cons.mpr ⟨fun S h => bs_zret (Z := Z) hx hb hr hlocks d_M_allHold_68 h, fun _ h => absurd h List.not_mem_nil⟩⟩⟩
  exact List.forall_mem_cons.mpr ⟨fun S h => bs_iconst (Z := Z) hx hb (by decide) d_M_allHold_0 h, List.forall_mem_cons.mpr ⟨fun S h => bs_istore_n (Z := Z) hx hb rfl d_M_allHold_1 h, List.forall_mem_cons.mpr ⟨fun S h => bs_iload_n (Z := Z) hx hb rfl d_M_allHold_2 h, List.forall_mem_cons.mpr ⟨fun S h => bs_bipush (Z := Z) hx hb (by decide) d_M_allHold_3 h, List.forall_mem_cons.mpr ⟨fun S h => bs_icmp_ge (Z := Z) hx hb d_M_allHold_5 (by decide) h, List.forall_mem_cons.mpr ⟨fun S h => bs_aload_n (Z := Z) hx hb rfl d_M_allHold_8 h, List.forall_mem_cons.mpr ⟨fun S h => bs_gR (Z := Z) (C := R_M) (T := F_M) (N := 40) (t := 40) (j := 24) hx hb hK hts (fun w h => List.mem_cons_of_mem _ (iw_M w h)) hown rfl rfl (by decide) (hts _ (List.mem_cons_of_mem _ wd_808)) (fun _ h => h) rfl rfl rfl d_M_allHold_9 h, List.forall_mem_cons.mpr ⟨fun S h => bs_iload_n (Z := Z) hx hb rfl d_M_allHold_12 h, List.forall_mem_cons.mpr ⟨fun S h => bs_iconst (Z := Z) hx hb (by decide) d_M_allHold_13 h, List.forall_mem_cons.mpr ⟨fun S h => bs_idiv (Z := Z) hx hb d_M_allHold_14 h, List.forall_mem_cons.mpr ⟨fun S h => bs_Zald (Z := Z) hx hb ha2 d_M_allHold_15 h, List.forall_mem_cons.mpr ⟨fun S h => bs_if_eq (Z := Z) hx hb d_M_allHold_16 (by decide) h, List.forall_mem_cons.mpr ⟨fun S h => bs_aload_n (Z := Z) hx hb rfl d_M_allHold_19 h, List.forall_mem_cons.mpr ⟨fun S h => bs_gR (Z := Z) (C := R_M) (T := F_M) (N := 40) (t := 40) (j := 17) hx hb hK hts (fun w h => List.mem_cons_of_mem _ (iw_M w h)) hown rfl rfl (by decide) (hts _ (List.mem_cons_of_mem _ wd_801)) (fun _ h => h) rfl rfl rfl d_M_allHold_20 h, List.forall_mem_cons.mpr ⟨fun S h => bs_iload_n (Z := Z) hx hb rfl d_M_allHold_23 h, List.forall_mem_cons.mpr ⟨fun S h => bs_Jald (Z := Z) hx hb ha3 d_M_allHold_24 h, List.forall_mem_cons.mpr ⟨fun S h => bs_lconst (Z := Z) hx hb (by decide) d_M_allHold_25 h, List.forall_mem_cons.mpr ⟨fun S h => bs_lcmp (Z := Z) hx hb d_M_allHold_26 h, List.forall_mem_cons.mpr ⟨fun S h => bs_if_ge (Z := Z) hx hb d_M_allHold_27 (by decide) h, List.forall_mem_cons.mpr ⟨fun S h => bs_goto (Z := Z) hx hb d_M_allHold_30 (by decide) h, List.forall_mem_cons.mpr ⟨fun S h => bs_aload_n (Z := Z) hx hb rfl d_M_allHold_33 h, List.forall_mem_cons.mpr ⟨fun S h => bs_aload_n (Z := Z) hx hb rfl d_M_allHold_34 h, List.forall_mem_cons.mpr ⟨fun S h => bs_gR (Z := Z) (C := R_M) (T := F_M) (N := 40) (t := 40) (j := 17) hx hb hK hts (fun w h => List.mem_cons_of_mem _ (iw_M w h)) hown rfl rfl (by decide) (hts _ (List.mem_cons_of_mem _ wd_801)) (fun _ h => h) rfl rfl rfl d_M_allHold_35 h, List.forall_mem_cons.mpr ⟨fun S h => bs_iload_n (Z := Z) hx hb rfl d_M_allHold_38 h, List.forall_mem_cons.mpr ⟨fun S h => bs_Jald (Z := Z) hx hb ha3 d_M_allHold_39 h, List.forall_mem_cons.mpr ⟨fun S h => bs_callV (Z := Z) (C := R_M) hBg hbs hB X0 hK (cn_M_exportOf htr (d + 1)) (cl_M_exportOf _ _ hw) (hts _ (List.mem_cons_of_mem _ wd_1006)) (hts _ (List.mem_cons_of_mem _ wd_1008)) (hts _ (List.mem_cons_of_mem _ ws_43)) rfl rfl rfl rfl rfl (Nat.le_refl _) (Nat.le_refl _) d_M_allHold_40 (bs_out htab hlocks) h, List.forall_mem_cons.mpr ⟨fun S h => bs_istore_n (Z := Z) hx hb rfl d_M_allHold_43 h, List.forall_mem_cons.mpr ⟨fun S h => bs_iload_n (Z := Z) hx hb rfl d_M_allHold_44 h, List.forall_mem_cons.mpr ⟨fun S h => bs_if_lt (Z := Z) hx hb d_M_allHold_45 (by decide) h, List.forall_mem_cons.mpr ⟨fun S h => bs_aload_n (Z := Z) hx hb rfl d_M_allHold_48 h, List.forall_mem_cons.mpr ⟨fun S h => bs_iload_n (Z := Z) hx hb rfl d_M_allHold_49 h, List.forall_mem_cons.mpr ⟨fun S h => bs_iconst (Z := Z) hx hb (by decide) d_M_allHold_50 h, List.forall_mem_cons.mpr ⟨fun S h => bs_idiv (Z := Z) hx hb d_M_allHold_51 h, List.forall_mem_cons.mpr ⟨fun S h => bs_iload_n (Z := Z) hx hb rfl d_M_allHold_52 h, List.forall_mem_cons.mpr ⟨fun S h => bs_callV (Z := Z) (C := R_M) hBg hbs hB X0 hK (cn_M_clash htr (d + 0)) (cl_M_clash _ _ hw) (hts _ (List.mem_cons_of_mem _ wd_985)) (hts _ (List.mem_cons_of_mem _ wd_987)) (hts _ (List.mem_cons_of_mem _ ws_38)) rfl rfl rfl rfl rfl (Nat.le_refl _) (Nat.le_refl _) d_M_allHold_53 (bs_out htab hlocks) h, List.forall_mem_cons.mpr ⟨fun S h => bs_if_eq (Z := Z) hx hb d_M_allHold_56 (by decide) h, List.forall_mem_cons.mpr ⟨fun S h => bs_iconst (Z := Z) hx hb (by decide) d_M_allHold_59 h, List.forall_mem_cons.mpr ⟨fun S h => bs_zret (Z := Z) hx hb hr hlocks d_M_allHold_60 h, List.forall_mem_cons.mpr ⟨fun S h => bs_iinc (Z := Z) hx hb (by decide) d_M_allHold_61 h, List.forall_mem_cons.mpr ⟨fun S h => bs_goto (Z := Z) hx hb d_M_allHold_64 (by decide) h, fun _ h => absurd h List.not_mem_nil⟩⟩⟩⟩⟩⟩⟩⟩⟩⟩⟩⟩⟩⟩⟩⟩⟩⟩⟩⟩⟩⟩⟩⟩⟩⟩⟩⟩⟩⟩⟩⟩⟩⟩⟩⟩⟩⟩⟩⟩
abbrev c_M_wireAll : ByteArray := prog_10_method_26_code
def y_M_wireAll : MethodName := ⟨"BundleHallModel", "wireAll", "()V"⟩
theorem d_M_wireAll_0 : decode c_M_wireAll 0 = .ok (.iconst 0, 1) := by decide +kernel
theorem d_M_wireAll_1 : decode c_M_wireAll 1 = .ok (.istore_n 1, 1) := by decide +kernel
theorem d_M_wireAll_2 : decode c_M_wireAll 2 = .ok (.iload_n 1, 1) := by decide +kernel
theorem d_M_wireAll_3 : decode c_M_wireAll 3 = .ok (.aload_n 0, 1) := by decide +kernel
theorem d_M_wireAll_4 : decode c_M_wireAll 4 = .ok (.getfield 166, 3) := by decide +kernel
theorem d_M_wireAll_7 : decode c_M_wireAll 7 = .ok (.if_icmp .ge 29, 3) := by decide +kernel
theorem d_M_wireAll_10 : decode c_M_wireAll 10 = .ok (.aload_n 0, 1) := by decide +kernel
theorem d_M_wireAll_11 : decode c_M_wireAll 11 = .ok (.getfield 60, 3) := by decide +kernel
theorem d_M_wireAll_14 : decode c_M_wireAll 14 = .ok (.aload_n 0, 1) := by decide +kernel
theorem d_M_wireAll_15 : decode c_M_wireAll 15 = .ok (.getfield 63, 3) := by decide +kernel
theorem d_M_wireAll_18 : decode c_M_wireAll 18 = .ok (.iload_n 1, 1) := by decide +kernel
theorem d_M_wireAll_19 : decode c_M_wireAll 19 = .ok (.iaload, 1) := by decide +kernel
theorem d_M_wireAll_20 : decode c_M_wireAll 20 = .ok (.aload_n 0, 1) := by decide +kernel
theorem d_M_wireAll_21 : decode c_M_wireAll 21 = .ok (.aload_n 0, 1) := by decide +kernel
theorem d_M_wireAll_22 : decode c_M_wireAll 22 = .ok (.iload_n 1, 1) := by decide +kernel
theorem d_M_wireAll_23 : decode c_M_wireAll 23 = .ok (.invokevirtual 156, 3) := by decide +kernel
theorem d_M_wireAll_26 : decode c_M_wireAll 26 = .ok (.invokevirtual 149, 3) := by decide +kernel
theorem d_M_wireAll_29 : decode c_M_wireAll 29 = .ok (.lastore, 1) := by decide +kernel
theorem d_M_wireAll_30 : decode c_M_wireAll 30 = .ok (.iinc 1 1, 3) := by decide +kernel
theorem d_M_wireAll_33 : decode c_M_wireAll 33 = .ok (.goto (-31), 3) := by decide +kernel
theorem d_M_wireAll_36 : decode c_M_wireAll 36 = .ok (.iconst 0, 1) := by decide +kernel
theorem d_M_wireAll_37 : decode c_M_wireAll 37 = .ok (.istore_n 1, 1) := by decide +kernel
theorem d_M_wireAll_38 : decode c_M_wireAll 38 = .ok (.iload_n 1, 1) := by decide +kernel
theorem d_M_wireAll_39 : decode c_M_wireAll 39 = .ok (.bipush 8, 2) := by decide +kernel
theorem d_M_wireAll_41 : decode c_M_wireAll 41 = .ok (.if_icmp .ge 25, 3) := by decide +kernel
theorem d_M_wireAll_44 : decode c_M_wireAll 44 = .ok (.aload_n 0, 1) := by decide +kernel
theorem d_M_wireAll_45 : decode c_M_wireAll 45 = .ok (.getfield 78, 3) := by decide +kernel
theorem d_M_wireAll_48 : decode c_M_wireAll 48 = .ok (.iload_n 1, 1) := by decide +kernel
theorem d_M_wireAll_49 : decode c_M_wireAll 49 = .ok (.baload, 1) := by decide +kernel
theorem d_M_wireAll_50 : decode c_M_wireAll 50 = .ok (.ifCond .eq 10, 3) := by decide +kernel
theorem d_M_wireAll_53 : decode c_M_wireAll 53 = .ok (.aload_n 0, 1) := by decide +kernel
theorem d_M_wireAll_54 : decode c_M_wireAll 54 = .ok (.getfield 7, 3) := by decide +kernel
theorem d_M_wireAll_57 : decode c_M_wireAll 57 = .ok (.iload_n 1, 1) := by decide +kernel
theorem d_M_wireAll_58 : decode c_M_wireAll 58 = .ok (.iconst 2, 1) := by decide +kernel
theorem d_M_wireAll_59 : decode c_M_wireAll 59 = .ok (.iastore, 1) := by decide +kernel
theorem d_M_wireAll_60 : decode c_M_wireAll 60 = .ok (.iinc 1 1, 3) := by decide +kernel
theorem d_M_wireAll_63 : decode c_M_wireAll 63 = .ok (.goto (-25), 3) := by decide +kernel
theorem d_M_wireAll_66 : decode c_M_wireAll 66 = .ok (.iconst 0, 1) := by decide +kernel
theorem d_M_wireAll_67 : decode c_M_wireAll 67 = .ok (.istore_n 1, 1) := by decide +kernel
theorem d_M_wireAll_68 : decode c_M_wireAll 68 = .ok (.iload_n 1, 1) := by decide +kernel
theorem d_M_wireAll_69 : decode c_M_wireAll 69 = .ok (.bipush 8, 2) := by decide +kernel
theorem d_M_wireAll_71 : decode c_M_wireAll 71 = .ok (.if_icmp .ge 136, 3) := by decide +kernel
theorem d_M_wireAll_74 : decode c_M_wireAll 74 = .ok (.iconst 3, 1) := by decide +kernel
theorem d_M_wireAll_75 : decode c_M_wireAll 75 = .ok (.iload_n 1, 1) := by decide +kernel
theorem d_M_wireAll_76 : decode c_M_wireAll 76 = .ok (.imul, 1) := by decide +kernel
theorem d_M_wireAll_77 : decode c_M_wireAll 77 = .ok (.istore_n 2, 1) := by decide +kernel
theorem d_M_wireAll_78 : decode c_M_wireAll 78 = .ok (.iload_n 2, 1) := by decide +kernel
theorem d_M_wireAll_79 : decode c_M_wireAll 79 = .ok (.iconst 3, 1) := by decide +kernel
theorem d_M_wireAll_80 : decode c_M_wireAll 80 = .ok (.iload_n 1, 1) := by decide +kernel
theorem d_M_wireAll_81 : decode c_M_wireAll 81 = .ok (.imul, 1) := by decide +kernel
theorem d_M_wireAll_82 : decode c_M_wireAll 82 = .ok (.aload_n 0, 1) := by decide +kernel
theorem d_M_wireAll_83 : decode c_M_wireAll 83 = .ok (.getfield 45, 3) := by decide +kernel
theorem d_M_wireAll_86 : decode c_M_wireAll 86 = .ok (.iload_n 1, 1) := by decide +kernel
theorem d_M_wireAll_87 : decode c_M_wireAll 87 = .ok (.iaload, 1) := by decide +kernel
theorem d_M_wireAll_88 : decode c_M_wireAll 88 = .ok (.iadd, 1) := by decide +kernel
theorem d_M_wireAll_89 : decode c_M_wireAll 89 = .ok (.if_icmp .ge 112, 3) := by decide +kernel
theorem d_M_wireAll_92 : decode c_M_wireAll 92 = .ok (.aload_n 0, 1) := by decide +kernel
theorem d_M_wireAll_93 : decode c_M_wireAll 93 = .ok (.getfield 78, 3) := by decide +kernel
theorem d_M_wireAll_96 : decode c_M_wireAll 96 = .ok (.iload_n 1, 1) := by decide +kernel
theorem d_M_wireAll_97 : decode c_M_wireAll 97 = .ok (.baload, 1) := by decide +kernel
theorem d_M_wireAll_98 : decode c_M_wireAll 98 = .ok (.ifCond .eq 103, 3) := by decide +kernel
theorem d_M_wireAll_101 : decode c_M_wireAll 101 = .ok (.aload_n 0, 1) := by decide +kernel
theorem d_M_wireAll_102 : decode c_M_wireAll 102 = .ok (.getfield 57, 3) := by decide +kernel
theorem d_M_wireAll_105 : decode c_M_wireAll 105 = .ok (.iload_n 2, 1) := by decide +kernel
theorem d_M_wireAll_106 : decode c_M_wireAll 106 = .ok (.baload, 1) := by decide +kernel
theorem d_M_wireAll_107 : decode c_M_wireAll 107 = .ok (.ifCond .ne 6, 3) := by decide +kernel
theorem d_M_wireAll_110 : decode c_M_wireAll 110 = .ok (.goto 85, 3) := by decide +kernel
theorem d_M_wireAll_113 : decode c_M_wireAll 113 = .ok (.aload_n 0, 1) := by decide +kernel
theorem d_M_wireAll_114 : decode c_M_wireAll 114 = .ok (.getfield 63, 3) := by decide +kernel
theorem d_M_wireAll_117 : decode c_M_wireAll 117 = .ok (.iconst 0, 1) := by decide +kernel
theorem d_M_wireAll_118 : decode c_M_wireAll 118 = .ok (.iload_n 2, 1) := by decide +kernel
theorem d_M_wireAll_119 : decode c_M_wireAll 119 = .ok (.iastore, 1) := by decide +kernel
theorem d_M_wireAll_120 : decode c_M_wireAll 120 = .ok (.aload_n 0, 1) := by decide +kernel
theorem d_M_wireAll_121 : decode c_M_wireAll 121 = .ok (.iconst 0, 1) := by decide +kernel
theorem d_M_wireAll_122 : decode c_M_wireAll 122 = .ok (.iconst 1, 1) := by decide +kernel
theorem d_M_wireAll_123 : decode c_M_wireAll 123 = .ok (.invokevirtual 169, 3) := by decide +kernel
theorem d_M_wireAll_126 : decode c_M_wireAll 126 = .ok (.iconst 1, 1) := by decide +kernel
theorem d_M_wireAll_127 : decode c_M_wireAll 127 = .ok (.istore_n 3, 1) := by decide +kernel
theorem d_M_wireAll_128 : decode c_M_wireAll 128 = .ok (.iconst 0, 1) := by decide +kernel
theorem d_M_wireAll_129 : decode c_M_wireAll 129 = .ok (.istore 4, 2) := by decide +kernel
theorem d_M_wireAll_131 : decode c_M_wireAll 131 = .ok (.iload 4, 2) := by decide +kernel
theorem d_M_wireAll_133 : decode c_M_wireAll 133 = .ok (.aload_n 0, 1) := by decide +kernel
theorem d_M_wireAll_134 : decode c_M_wireAll 134 = .ok (.getfield 69, 3) := by decide +kernel
theorem d_M_wireAll_137 : decode c_M_wireAll 137 = .ok (.iconst 0, 1) := by decide +kernel
theorem d_M_wireAll_138 : decode c_M_wireAll 138 = .ok (.iaload, 1) := by decide +kernel
theorem d_M_wireAll_139 : decode c_M_wireAll 139 = .ok (.if_icmp .ge 56, 3) := by decide +kernel
theorem d_M_wireAll_142 : decode c_M_wireAll 142 = .ok (.iload_n 3, 1) := by decide +kernel
theorem d_M_wireAll_143 : decode c_M_wireAll 143 = .ok (.ifCond .eq 52, 3) := by decide +kernel
theorem d_M_wireAll_146 : decode c_M_wireAll 146 = .ok (.aload_n 0, 1) := by decide +kernel
theorem d_M_wireAll_147 : decode c_M_wireAll 147 = .ok (.getfield 60, 3) := by decide +kernel
theorem d_M_wireAll_150 : decode c_M_wireAll 150 = .ok (.iload_n 2, 1) := by decide +kernel
theorem d_M_wireAll_151 : decode c_M_wireAll 151 = .ok (.aload_n 0, 1) := by decide +kernel
theorem d_M_wireAll_152 : decode c_M_wireAll 152 = .ok (.aload_n 0, 1) := by decide +kernel
theorem d_M_wireAll_153 : decode c_M_wireAll 153 = .ok (.getfield 66, 3) := by decide +kernel
theorem d_M_wireAll_156 : decode c_M_wireAll 156 = .ok (.iload 4, 2) := by decide +kernel
theorem d_M_wireAll_158 : decode c_M_wireAll 158 = .ok (.iaload, 1) := by decide +kernel
theorem d_M_wireAll_159 : decode c_M_wireAll 159 = .ok (.invokevirtual 149, 3) := by decide +kernel
theorem d_M_wireAll_162 : decode c_M_wireAll 162 = .ok (.lastore, 1) := by decide +kernel
theorem d_M_wireAll_163 : decode c_M_wireAll 163 = .ok (.aload_n 0, 1) := by decide +kernel
theorem d_M_wireAll_164 : decode c_M_wireAll 164 = .ok (.invokevirtual 191, 3) := by decide +kernel
theorem d_M_wireAll_167 : decode c_M_wireAll 167 = .ok (.ifCond .ne 7, 3) := by decide +kernel
theorem d_M_wireAll_170 : decode c_M_wireAll 170 = .ok (.iconst 1, 1) := by decide +kernel
theorem d_M_wireAll_171 : decode c_M_wireAll 171 = .ok (.goto 4, 3) := by decide +kernel
theorem d_M_wireAll_174 : decode c_M_wireAll 174 = .ok (.iconst 0, 1) := by decide +kernel
theorem d_M_wireAll_175 : decode c_M_wireAll 175 = .ok (.istore_n 3, 1) := by decide +kernel
theorem d_M_wireAll_176 : decode c_M_wireAll 176 = .ok (.iload_n 3, 1) := by decide +kernel
theorem d_M_wireAll_177 : decode c_M_wireAll 177 = .ok (.ifCond .eq 12, 3) := by decide +kernel
theorem d_M_wireAll_180 : decode c_M_wireAll 180 = .ok (.aload_n 0, 1) := by decide +kernel
theorem d_M_wireAll_181 : decode c_M_wireAll 181 = .ok (.getfield 60, 3) := by decide +kernel
theorem d_M_wireAll_184 : decode c_M_wireAll 184 = .ok (.iload_n 2, 1) := by decide +kernel
theorem d_M_wireAll_185 : decode c_M_wireAll 185 = .ok (.ldc2_w 107, 3) := by decide +kernel
theorem d_M_wireAll_188 : decode c_M_wireAll 188 = .ok (.lastore, 1) := by decide +kernel
theorem d_M_wireAll_189 : decode c_M_wireAll 189 = .ok (.iinc 4 1, 3) := by decide +kernel
theorem d_M_wireAll_192 : decode c_M_wireAll 192 = .ok (.goto (-61), 3) := by decide +kernel
theorem d_M_wireAll_195 : decode c_M_wireAll 195 = .ok (.iinc 2 1, 3) := by decide +kernel
theorem d_M_wireAll_198 : decode c_M_wireAll 198 = .ok (.goto (-120), 3) := by decide +kernel
theorem d_M_wireAll_201 : decode c_M_wireAll 201 = .ok (.iinc 1 1, 3) := by decide +kernel
theorem d_M_wireAll_204 : decode c_M_wireAll 204 = .ok (.goto (-136), 3) := by decide +kernel
theorem d_M_wireAll_207 : decode c_M_wireAll 207 = .ok (.return_, 1) := by decide +kernel
def T_M_wireAll_0 : List (Nat × bh_Op) := [(0, bo_st 1 (bg_push (.inl (.int 0)))),
  (1, bo_ist 2 1),
  (2, bo_ild 3 1),
  (3, bo_ald 4 0),
  (4, bo_gI 7 40 19),
  (7, bo_if2 10 36 (fun x y => y ≤ x)),
  (10, bo_ald 11 0),
  (11, bo_gR 14 40 17 57),
  (14, bo_ald 15 0),
  (15, bo_gR 18 40 18 58),
  (18, bo_ild 19 1),
  (19, bo_Iald bh_ak bh_al 20),
  (20, bo_ald 21 0),
  (21, bo_ald 22 0),
  (22, bo_ild 23 1),
  (23, bo_callV 26 2 0 0 40 F_M_choice),
  (26, bo_callV 29 2 0 0 40 F_M_port),
  (29, bo_Jast bh_ak bh_al 30),
  (30, bo_inc 33 1 1),
  (33, bo_go 2),
  (36, bo_st 37 (bg_push (.inl (.int 0)))),
  (37, bo_ist 38 1),
  (38, bo_ild 39 1),
  (39, bo_st 41 (bg_push (.inl (.int 8)))),
  (41, bo_if2 44 66 (fun x y => y ≤ x)),
  (44, bo_ald 45 0),
  (45, bo_gR 48 40 24 63),
  (48, bo_ild 49 1),
  (49, bo_Zald bh_ak bh_al 50),
  (50, bo_if1 53 60 (fun x => x = 0)),
  (53, bo_ald 54 0),
  (54, bo_gR 57 40 1 41),
  (57, bo_ild 58 1),
  (58, bo_st 59 (bg_push (.inl (.int 2)))),
  (59, bo_Iast bh_ak bh_al 60),
  (60, bo_inc 63 1 1),
  (63, bo_go 38),
  (66, bo_st 67 (bg_push (.inl (.int 0)))),
  (67, bo_ist 68 1),
  (68, bo_ild 69 1)]
def T_M_wireAll_1 : List (Nat × bh_Op) := [(69, bo_st 71 (bg_push (.inl (.int 8)))),
  (71, bo_if2 74 207 (fun x y => y ≤ x)),
  (74, bo_st 75 (bg_push (.inl (.int 3)))),
  (75, bo_ild 76 1),
  (76, bo_st 77 (bg_ii (fun x y => x * y))),
  (77, bo_ist 78 2),
  (78, bo_ild 79 2),
  (79, bo_st 80 (bg_push (.inl (.int 3)))),
  (80, bo_ild 81 1),
  (81, bo_st 82 (bg_ii (fun x y => x * y))),
  (82, bo_ald 83 0),
  (83, bo_gR 86 40 12 52),
  (86, bo_ild 87 1),
  (87, bo_Iald bh_ak bh_al 88),
  (88, bo_st 89 (bg_ii (fun x y => x + y))),
  (89, bo_if2 92 201 (fun x y => y ≤ x)),
  (92, bo_ald 93 0),
  (93, bo_gR 96 40 24 63),
  (96, bo_ild 97 1),
  (97, bo_Zald bh_ak bh_al 98),
  (98, bo_if1 101 201 (fun x => x = 0)),
  (101, bo_ald 102 0),
  (102, bo_gR 105 40 16 56),
  (105, bo_ild 106 2),
  (106, bo_Zald bh_ak bh_al 107),
  (107, bo_if1 110 113 (fun x => ¬ x = 0)),
  (110, bo_go 195),
  (113, bo_ald 114 0),
  (114, bo_gR 117 40 18 58),
  (117, bo_st 118 (bg_push (.inl (.int 0)))),
  (118, bo_ild 119 2),
  (119, bo_Iast bh_ak bh_al 120),
  (120, bo_ald 121 0),
  (121, bo_st 122 (bg_push (.inl (.int 0)))),
  (122, bo_st 123 (bg_push (.inl (.int 1)))),
  (123, bo_callV 126 3 0 0 40 F_M_find),
  (126, bo_st 127 (bg_push (.inl (.int 1)))),
  (127, bo_ist 128 3),
  (128, bo_st 129 (bg_push (.inl (.int 0)))),
  (129, bo_ist 131 4)]
def T_M_wireAll_2 : List (Nat × bh_Op) := [(131, bo_ild 133 4),
  (133, bo_ald 134 0),
  (134, bo_gR 137 40 21 60),
  (137, bo_st 138 (bg_push (.inl (.int 0)))),
  (138, bo_Iald bh_ak bh_al 139),
  (139, bo_if2 142 195 (fun x y => y ≤ x)),
  (142, bo_ild 143 3),
  (143, bo_if1 146 195 (fun x => x = 0)),
  (146, bo_ald 147 0),
  (147, bo_gR 150 40 17 57),
  (150, bo_ild 151 2),
  (151, bo_ald 152 0),
  (152, bo_ald 153 0),
  (153, bo_gR 156 40 20 59),
  (156, bo_ild 158 4),
  (158, bo_Iald bh_ak bh_al 159),
  (159, bo_callV 162 2 0 0 40 F_M_port),
  (162, bo_Jast bh_ak bh_al 163),
  (163, bo_ald 164 0),
  (164, bo_callV 167 1 0 0 40 F_M_allHold),
  (167, bo_if1 170 174 (fun x => ¬ x = 0)),
  (170, bo_st 171 (bg_push (.inl (.int 1)))),
  (171, bo_go 175),
  (174, bo_st 175 (bg_push (.inl (.int 0)))),
  (175, bo_ist 176 3),
  (176, bo_ild 177 3),
  (177, bo_if1 180 189 (fun x => x = 0)),
  (180, bo_ald 181 0),
  (181, bo_gR 184 40 17 57),
  (184, bo_ild 185 2),
  (185, bo_st 188 (bg_push (.inl (.long (-1))))),
  (188, bo_Jast bh_ak bh_al 189),
  (189, bo_inc 192 4 1),
  (192, bo_go 131),
  (195, bo_inc 198 2 1),
  (198, bo_go 78),
  (201, bo_inc 204 1 1),
  (204, bo_go 68),
  (207, bo_vret 0)]
def T_M_wireAll : List (Nat × bh_Op) := T_M_wireAll_0 ++ T_M_wireAll_1 ++ T_M_wireAll_2
set_option maxRecDepth 20000 in
theorem mT_M_wireAll_0 : ∀ q ∈ T_M_wireAll_0, bh_mono q.2 := List.forall_mem_cons.mpr ⟨bo_st_mono (bg_push_m _), List.forall_mem_cons.mpr ⟨bo_ist_m _ _, List.forall_mem_cons.mpr ⟨bo_ild_m _ _, List.forall_mem_cons.mpr ⟨bo_ald_m _ _, List.forall_mem_cons.mpr ⟨bo_gI_m _ _ _, List.forall_mem_cons.mpr ⟨bo_if2_m _ _ _, List.forall_mem_cons.mpr ⟨bo_ald_m _ _, List.forall_mem_cons.mpr ⟨bo_gR_m _ _ _ _, List.forall_mem_cons.mpr ⟨bo_ald_m _ _, List.forall_mem_cons.mpr ⟨bo_gR_m _ _ _ _, List.forall_mem_cons.mpr ⟨bo_ild_m _ _, List.forall_mem_cons.mpr ⟨bo_Iald_m _ _ _, List.forall_mem_cons.mpr ⟨bo_ald_m _ _, List.forall_mem_cons.mpr ⟨bo_ald_m _ _, List.forall_mem_cons.mpr ⟨bo_ild_m _ _, List.forall_mem_cons.mpr ⟨bo_callV_m (mF_M_choice) _ _ _ _ _, List.forall_mem_cons.mpr ⟨bo_callV_m (mF_M_port) _ _ _ _ _, List.forall_mem_cons.mpr ⟨bo_Jast_m _ _ _, List.forall_mem_cons.mpr ⟨bo_inc_m _ _ _, List.forall_mem_cons.mpr ⟨bo_go_m _, List.forall_mem_cons.mpr ⟨bo_st_mono (bg_push_m _), List.forall_mem_cons.mpr ⟨bo_ist_m _ _, List.forall_mem_cons.mpr ⟨bo_ild_m _ _, List.forall_mem_cons.mpr ⟨bo_st_mono (bg_push_m _), List.forall_mem_cons.mpr ⟨bo_if2_m _ _ _, List.forall_mem_cons.mpr ⟨bo_ald_m _ _, List.forall_mem_cons.mpr ⟨bo_gR_m _ _ _ _, List.forall_mem_cons.mpr ⟨bo_ild_m _ _, List.forall_mem_cons.mpr ⟨bo_Zald_m _ _ _, List.forall_mem_cons.mpr ⟨bo_if1_m _ _ _, List.forall_mem_cons.mpr ⟨bo_ald_m _ _, List.forall_mem_cons.mpr ⟨bo_gR_m _ _ _ _, List.forall_mem_cons.mpr ⟨bo_ild_m _ _, List.forall_mem_cons.mpr ⟨bo_st_mono (bg_push_m _), List.forall_mem_cons.mpr ⟨bo_Iast_m _ _ _, List.forall_mem_cons.mpr ⟨bo_inc_m _ _ _, List.forall_mem_cons.mpr ⟨bo_go_m _, List.forall_mem_cons.mpr ⟨bo_st_mono (bg_push_m _), List.forall_mem_cons.mpr ⟨bo_ist_m _ _, List.forall_mem_cons.mpr ⟨bo_ild_m _ _, fun _ h => absurd h List.not_mem_nil⟩⟩⟩⟩⟩⟩⟩⟩⟩⟩⟩⟩⟩⟩⟩⟩⟩⟩⟩⟩⟩⟩⟩⟩⟩⟩⟩⟩⟩⟩⟩⟩⟩⟩⟩⟩⟩⟩⟩⟩
set_option maxRecDepth 20000 in
theorem mT_M_wireAll_1 : ∀ q ∈ T_M_wireAll_1, bh_mono q.2 := List.forall_mem_cons.mpr ⟨bo_st_mono (bg_push_m _), List.forall_mem_cons.mpr ⟨bo_if2_m _ _ _, List.forall_mem_cons.mpr ⟨bo_st_mono (bg_push_m _), List.forall_mem_cons.mpr ⟨bo_ild_m _ _, List.forall_mem_cons.mpr ⟨bo_st_mono (bg_ii_m _), List.forall_mem_cons.mpr ⟨bo_ist_m _ _, List.forall_mem_cons.mpr ⟨bo_ild_m _ _, List.forall_mem_cons.mpr ⟨bo_st_mono (bg_push_m _), List.forall_mem_cons.mpr ⟨bo_ild_m _ _, List.forall_mem_cons.mpr ⟨bo_st_mono (bg_ii_m _), List.forall_mem_cons.mpr ⟨bo_ald_m _ _, List.forall_mem_cons.mpr ⟨bo_gR_m _ _ _ _, List.forall_mem_cons.mpr ⟨bo_ild_m _ _, List.forall_mem_cons.mpr ⟨bo_Iald_m _ _ _, List.forall_mem_cons.mpr ⟨bo_st_mono (bg_ii_m _), List.forall_mem_cons.mpr ⟨bo_if2_m _ _ _, List.forall_mem_cons.mpr ⟨bo_ald_m _ _, List.forall_mem_cons.mpr ⟨bo_gR_m _ _ _ _, List.forall_mem_cons.mpr ⟨bo_ild_m _ _, List.forall_mem_cons.mpr ⟨bo_Zald_m _ _ _, List.forall_mem_cons.mpr ⟨bo_if1_m _ _ _, List.forall_mem_cons.mpr ⟨bo_ald_m _ _, List.forall_mem_cons.mpr ⟨bo_gR_m _ _ _ _, List.forall_mem_cons.mpr ⟨bo_ild_m _ _, List.forall_mem_cons.mpr ⟨bo_Zald_m _ _ _, List.forall_mem_cons.mpr ⟨bo_if1_m _ _ _, List.forall_mem_cons.mpr ⟨bo_go_m _, List.forall_mem_cons.mpr ⟨bo_ald_m _ _, List.forall_mem_cons.mpr ⟨bo_gR_m _ _ _ _, List.forall_mem_cons.mpr ⟨bo_st_mono (bg_push_m _), List.forall_mem_cons.mpr ⟨bo_ild_m _ _, List.forall_mem_cons.mpr ⟨bo_Iast_m _ _ _, List.forall_mem_cons.mpr ⟨bo_ald_m _ _, List.forall_mem_cons.mpr ⟨bo_st_mono (bg_push_m _), List.forall_mem_cons.mpr ⟨bo_st_mono (bg_push_m _), List.forall_mem_cons.mpr ⟨bo_callV_m (mF_M_find) _ _ _ _ _, List.forall_mem_cons.mpr ⟨bo_st_mono (bg_push_m _), List.forall_mem_cons.mpr ⟨bo_ist_m _ _, List.forall_mem_cons.mpr ⟨bo_st_mono (bg_push_m _), List.forall_mem_cons.mpr ⟨bo_ist_m _ _, fun _ h => absurd h List.not_mem_nil⟩⟩⟩⟩⟩⟩⟩⟩⟩⟩⟩⟩⟩⟩⟩⟩⟩⟩⟩⟩⟩⟩⟩⟩⟩⟩⟩⟩⟩⟩⟩⟩⟩⟩⟩⟩⟩⟩⟩⟩
set_option maxRecDepth 20000 in
theorem mT_M_wireAll_2 : ∀ q ∈ T_M_wireAll_2, bh_mono q.2 := List.forall_mem_cons.mpr ⟨bo_ild_m _ _, List.forall_mem_cons.mpr ⟨bo_ald_m _ _, List.forall_mem_cons.mpr ⟨bo_gR_m _ _ _ _, List.forall_mem_cons.mpr ⟨bo_st_mono (bg_push_m _), List.forall_mem_cons.mpr ⟨bo_Iald_m _ _ _, List.forall_mem_cons.mpr ⟨bo_if2_m _ _ _, List.forall_mem_cons.mpr ⟨bo_ild_m _ _, List.forall_mem_cons.mpr ⟨bo_if1_m _ _ _, List.forall_mem_cons.mpr ⟨bo_ald_m _ _, List.forall_mem_cons.mpr ⟨bo_gR_m _ _ _ _, List.forall_mem_cons.mpr ⟨bo_ild_m _ _, List.forall_mem_cons.mpr ⟨bo_ald_m _ _, List.forall_mem_cons.mpr ⟨bo_ald_m _ _, List.forall_mem_cons.mpr ⟨bo_gR_m _ _ _ _, List.forall_mem_cons.mpr ⟨bo_ild_m _ _, List.forall_mem_cons.mpr ⟨bo_Iald_m _ _ _, List.forall_mem_cons.mpr ⟨bo_callV_m (mF_M_port) _ _ _ _ _, List.forall_mem_cons.mpr ⟨bo_Jast_m _ _ _, List.forall_mem_cons.mpr ⟨bo_ald_m _ _, List.forall_mem_cons.mpr ⟨bo_callV_m (mF_M_allHold) _ _ _ _ _, List.forall_mem_cons.mpr ⟨bo_if1_m _ _ _, List.forall_mem_cons.mpr ⟨bo_st_mono (bg_push_m _), List.forall_mem_cons.mpr ⟨bo_go_m _, List.forall_mem_cons.mpr ⟨bo_st_mono (bg_push_m _), List.forall_mem_cons.mpr ⟨bo_ist_m _ _, List.forall_mem_cons.mpr ⟨bo_ild_m _ _, List.forall_mem_cons.mpr ⟨bo_if1_m _ _ _, List.forall_mem_cons.mpr ⟨bo_ald_m _ _, List.forall_mem_cons.mpr ⟨bo_gR_m _ _ _ _, List.forall_mem_cons.mpr ⟨bo_ild_m _ _, List.forall_mem_cons.mpr ⟨bo_st_mono (bg_push_m _), List.forall_mem_cons.mpr ⟨bo_Jast_m _ _ _, List.forall_mem_cons.mpr ⟨bo_inc_m _ _ _, List.forall_mem_cons.mpr ⟨bo_go_m _, List.forall_mem_cons.mpr ⟨bo_inc_m _ _ _, List.forall_mem_cons.mpr ⟨bo_go_m _, List.forall_mem_cons.mpr ⟨bo_inc_m _ _ _, List.forall_mem_cons.mpr ⟨bo_go_m _, List.forall_mem_cons.mpr ⟨bo_vret_m _, fun _ h => absurd h List.not_mem_nil⟩⟩⟩⟩⟩⟩⟩⟩⟩⟩⟩⟩⟩⟩⟩⟩⟩⟩⟩⟩⟩⟩⟩⟩⟩⟩⟩⟩⟩⟩⟩⟩⟩⟩⟩⟩⟩⟩⟩
theorem m_M_wireAll : ∀ pc, bh_mono (bh_tb (T_M_wireAll) pc) := bh_tb_m (List.forall_mem_append.mpr ⟨(List.forall_mem_append.mpr ⟨mT_M_wireAll_0, mT_M_wireAll_1⟩), mT_M_wireAll_2⟩)
def F_M_wireAll : bh_Fn := bh_fn 5 (bh_tb T_M_wireAll)
theorem mF_M_wireAll : bh_monoF F_M_wireAll := bh_fn_m m_M_wireAll
theorem cl_M_wireAll {s : State} {args : Array Value} (d B : Nat) (hts : ∀ w ∈ bh_ws, w.before args s = true) : bh_Cal (bh_rm (d + 1) B) s y_M_wireAll 5 (.code y_M_wireAll c_M_wireAll 5 none :: bh_ws) (bh_rm d 0) 0 0 := bh_cal d B hts wd_1001 wd_9 (by decide) (by decide +kernel)
set_option maxHeartbeats 4000000 in
set_option maxRecDepth 100000 in
theorem cn_M_wireAll {l : Launch} {G : bh_G} {base sb L : Nat} {xs : Nat → Int32} (htr : l.stackTraces = false) (d : Nat) : bh_Con l G base (bh_Bg G base sb L xs) y_M_wireAll (.code y_M_wireAll c_M_wireAll 5 none :: bh_ws) (bh_rm (d + 5) 0) 0 false F_M_wireAll := by
  refine bh_method (cc := c_M_wireAll) (ret := none) (by decide +kernel) rfl ?_
  intro p e s m args below meth c ad0 M0 Z X0 hr hlocks hname htab hbs hB
  obtain ⟨hx, hb, hml, hown, hts⟩ := id X0
  have hw : ∀ w ∈ bh_ws, w.before args s = true := fun w h => hts w (List.mem_cons_of_mem _ h)
  have hBg := bh_BgK (G := G) (base := base) (sb := sb) (L := L) (xs := xs)
  obtain ⟨hK, hAr, hen, hinj, hu1, hu2, hstr, hX, hsb, hsc, hxw, hao, hnc⟩ := id hB
  obtain ⟨ha1, ha2, ha3, ha4, ha5, ha6, ha0⟩ := bh_arr hAr
  refine List.forall_mem_append.mpr ⟨?_, List.forall_mem_cons.mpr ⟨fun S h => bs_iload (Z := Z) hx hb d_M_wireAll_131 h, List.forall_mem_cons.mpr ⟨fun S h => bs_aload_n (Z := Z) hx hb rfl d_M_wireAll_133 h, List.forall_mem_cons.mpr ⟨fun S h => bs_gR (Z := Z) (C := R_M) (T := F_M) (N := 40) (t := 40) (j := 21) hx hb hK hts (fun w h => List.mem_cons_of_mem _ (iw_M w h)) hown rfl rfl (by decide) (hts _ (List.mem_cons_of_mem _ wd_805)) (fun _ h => h) rfl rfl rfl d_M_wireAll_134 h, List.forall_mem_cons.mpr ⟨fun S h => bs_iconst (Z := Z) hx hb (by decide) d_M_wireAll_137 h, List.forall_mem_cons.mpr ⟨fun S h => bs_Iald (Z := Z) hx hb ha1 d_M_wireAll_138 h, List.forall_mem_cons.mpr ⟨fun S h => bs_icmp_ge (Z := Z) hx hb d_M_wireAll_139 (by decide) h, List.forall_mem_cons.mpr ⟨fun S h => bs_iload_n (Z := Z) hx hb rfl d_M_wireAll_142 h, List.forall_mem_cons.mpr ⟨fun S h => bs_if_eq (Z := Z) hx hb d_M_wireAll_143 (by decide) h, List.forall_mem_cons.mpr ⟨fun S h => bs_aload_n (Z := Z) hx hb rfl d_M_wireAll_146 h, List.forall_mem_cons.mpr ⟨fun S h => bs_gR (Z := Z) (C := R_M) (T := F_M) (N := 40) (t := 40) (j := 17) hx hb hK hts (fun w h => List.mem_cons_of_mem _ (iw_M w h)) hown rfl rfl (by decide) (hts _ (List.mem_cons_of_mem _ wd_801)) (fun _ h => h) rfl rfl rfl d_M_wireAll_147 h, List.forall_mem_cons.mpr ⟨fun S h => bs_iload_n (Z := Z) hx hb rfl d_M_wireAll_150 h, List.forall_mem_cons.mpr ⟨fun S h => bs_aload_n (Z := Z) hx hb rfl d_M_wireAll_151 h, List.forall_mem_cons.mpr ⟨fun S h => bs_aload_n (Z := Z) hx hb rfl d_M_wireAll_152 h, List.forall_mem_cons.mpr ⟨fun S h => bs_gR (Z := Z) (C := R_M) (T := F_M) (N := 40) (t := 40) (j := 20) hx hb hK hts (fun w h => List.mem_cons_of_mem _ (iw_M w h)) hown rfl rfl (by decide) (hts _ (List.mem_cons_of_mem _ wd_804)) (fun _ h => h) rfl rfl rfl d_M_wireAll_153 h, List.forall_mem_cons.mpr ⟨fun S h => bs_iload (Z := Z) hx hb d_M_wireAll_156 h, List.forall_mem_cons.mpr ⟨fun S h => bs_Iald (Z := Z) hx hb ha1 d_M_wireAll_158 h, List.forall_mem_cons.mpr ⟨fun S h => bs_callV (Z := Z) (C := R_M) hBg hbs hB X0 hK (cn_M_port htr (d + 3)) (cl_M_port _ _ hw) (hts _ (List.mem_cons_of_mem _ wd_993)) (hts _ (List.mem_cons_of_mem _ wd_995)) (hts _ (List.mem_cons_of_mem _ ws_40)) rfl rfl rfl rfl rfl (Nat.le_refl _) (Nat.le_refl _) d_M_wireAll_159 (bs_out htab hlocks) h, List.forall_mem_cons.mpr ⟨fun S h => bs_Jast (Z := Z) hx hb ha3 d_M_wireAll_162 h, List.forall_mem_cons.mpr ⟨fun S h => bs_aload_n (Z := Z) hx hb rfl d_M_wireAll_163 h, List.forall_mem_cons.mpr ⟨fun S h => bs_callV (Z := Z) (C := R_M) hBg hbs hB X0 hK (cn_M_allHold htr (d + 0)) (cl_M_allHold _ _ hw) (hts _ (List.mem_cons_of_mem _ wd_1002)) (hts _ (List.mem_cons_of_mem _ wd_1004)) (hts _ (List.mem_cons_of_mem _ ws_42)) rfl rfl rfl rfl rfl (Nat.le_refl _) (Nat.le_refl _) d_M_wireAll_164 (bs_out htab hlocks) h, List.forall_mem_cons.mpr ⟨fun S h => bs_if_ne (Z := Z) hx hb d_M_wireAll_167 (by decide) h, List.forall_mem_cons.mpr ⟨fun S h => bs_iconst (Z := Z) hx hb (by decide) d_M_wireAll_170 h, List.forall_mem_cons.mpr ⟨fun S h => bs_goto (Z := Z) hx hb d_M_wireAll_171 (by decide) h, List.forall_mem_cons.mpr ⟨fun S h => bs_iconst (Z := Z) hx hb (by decide) d_M_wireAll_174 h, List.forall_mem_cons.mpr ⟨fun S h => bs_istore_n (Z := Z) hx hb rfl d_M_wireAll_175 h, List.forall_mem_cons.mpr ⟨fun S h => bs_iload_n (Z := Z) hx hb rfl d_M_wireAll_176 h, List.forall_mem_cons.mpr ⟨fun S h => bs_if_eq (Z := Z) hx hb d_M_wireAll_177 (by decide) h, List.forall_mem_cons.mpr ⟨fun S h => bs_aload_n (Z := Z) hx hb rfl d_M_wireAll_180 h, List.forall_mem_cons.mpr ⟨fun S h => bs_gR (Z := Z) (C := R_M) (T := F_M) (N := 40) (t := 40) (j := 17) hx hb hK hts (fun w h => List.mem_cons_of_mem _ (iw_M w h)) hown rfl rfl (by decide) (hts _ (List.mem_cons_of_mem _ wd_801)) (fun _ h => h) rfl rfl rfl d_M_wireAll_181 h, List.forall_mem_cons.mpr ⟨fun S h => bs_iload_n (Z := Z) hx hb rfl d_M_wireAll_184 h, List.forall_mem_cons.mpr ⟨fun S h => bs_ldcl (Z := Z) hx hb hown (hts _ (List.mem_cons_of_mem _ wd_783)) d_M_wireAll_185 h, List.forall_mem_cons.mpr ⟨fun S h => bs_Jast (Z := Z) hx hb ha3 d_M_wireAll_188 h, List.forall_mem_cons.mpr ⟨fun S h => bs_iinc (Z := Z) hx hb (by decide) d_M_wireAll_189 h, List.forall_mem_cons.mpr ⟨fun S h => bs_goto (Z := Z) hx hb d_M_wireAll_192 (by decide) h, List.forall_mem_cons.mpr ⟨fun S h => bs_iinc (Z := Z) hx hb (by decide) d_M_wireAll_195 h, List.forall_mem_cons.mpr ⟨fun S h => bs_goto (Z := Z) hx hb d_M_wireAll_198 (by decide) h, List.forall_mem_cons.mpr ⟨fun S h => bs_iinc (Z := Z) hx hb (by decide) d_M_wireAll_201 h, List.forall_mem_cons.mpr ⟨fun S h => bs_goto (Z := Z) hx hb d_M_wireAll_204 (by decide) h, List.forall_mem_cons.mpr ⟨fun S h => bs_vret (Z := Z) hx hb hr hlocks d_M_wireAll_207 h, fun _ h => absurd h List.not_mem_nil⟩⟩⟩⟩⟩⟩⟩⟩⟩⟩⟩⟩⟩⟩⟩⟩⟩⟩⟩⟩⟩⟩⟩⟩⟩⟩⟩⟩⟩⟩⟩⟩⟩⟩⟩⟩⟩⟩⟩⟩
  refine List.forall_mem_append.mpr ⟨?_, List.forall_mem_cons.mpr ⟨fun S h => bs_bipush (Z := Z) hx hb (by decide) d_M_wireAll_69 h, List.forall_mem_cons.mpr ⟨fun S h => bs_icmp_ge (Z := Z) hx hb d_M_wireAll_71 (by decide) h, List.forall_mem_cons.mpr ⟨fun S h => bs_iconst (Z := Z) hx hb (by decide) d_M_wireAll_74 h, List.forall_mem_cons.mpr ⟨fun S h => bs_iload_n (Z := Z) hx hb rfl d_M_wireAll_75 h, List.forall_mem_cons.mpr ⟨fun S h => bs_imul (Z := Z) hx hb d_M_wireAll_76 h, List.forall_mem_cons.mpr ⟨fun S h => bs_istore_n (Z := Z) hx hb rfl d_M_wireAll_77 h, List.forall_mem_cons.mpr ⟨fun S h => bs_iload_n (Z := Z) hx hb rfl d_M_wireAll_78 h, List.forall_mem_cons.mpr ⟨fun S h => bs_iconst (Z := Z) hx hb (by decide) d_M_wireAll_79 h, List.forall_mem_cons.mpr ⟨fun S h => bs_iload_n (Z := Z) hx hb rfl d_M_wireAll_80 h, List.forall_mem_cons.mpr ⟨fun S h => bs_imul (Z := Z) hx hb d_M_wireAll_81 h, List.forall_mem_cons.mpr ⟨fun S h => bs_aload_n (Z := Z) hx hb rfl d_M_wireAll_82 h, List.forall_mem_cons.mpr ⟨fun S h => bs_gR (Z := Z) (C := R_M) (T := F_M) (N := 40) (t := 40) (j := 12) hx hb hK hts (fun w h => List.mem_cons_of_mem _ (iw_M w h)) hown rfl rfl (by decide) (hts _ (List.mem_cons_of_mem _ wd_796)) (fun _ h => h) rfl rfl rfl d_M_wireAll_83 h, List.forall_mem_cons.mpr ⟨fun S h => bs_iload_n (Z := Z) hx hb rfl d_M_wireAll_86 h, List.forall_mem_cons.mpr ⟨fun S h => bs_Iald (Z := Z) hx hb ha1 d_M_wireAll_87 h, List.forall_mem_cons.mpr ⟨fun S h => bs_iadd (Z := Z) hx hb d_M_wireAll_88 h, List.forall_mem_cons.mpr ⟨fun S h => bs_icmp_ge (Z := Z) hx hb d_M_wireAll_89 (by decide) h, List.forall_mem_cons.mpr ⟨fun S h => bs_aload_n (Z := Z) hx hb rfl d_M_wireAll_92 h, List.forall_mem_cons.mpr ⟨fun S h => bs_gR (Z := Z) (C := R_M) (T := F_M) (N := 40) (t := 40) (j := 24) hx hb hK hts (fun w h => List.mem_cons_of_mem _ (iw_M w h)) hown rfl rfl (by decide) (hts _ (List.mem_cons_of_mem _ wd_808)) (fun _ h => h) rfl rfl rfl d_M_wireAll_93 h, List.forall_mem_cons.mpr ⟨fun S h => bs_iload_n (Z := Z) hx hb rfl d_M_wireAll_96 h, List.forall_mem_cons.mpr ⟨fun S h => bs_Zald (Z := Z) hx hb ha2 d_M_wireAll_97 h, List.forall_mem_cons.mpr ⟨fun S h => bs_if_eq (Z := Z) hx hb d_M_wireAll_98 (by decide) h, List.forall_mem_cons.mpr ⟨fun S h => bs_aload_n (Z := Z) hx hb rfl d_M_wireAll_101 h, List.forall_mem_cons.mpr ⟨fun S h => bs_gR (Z := Z) (C := R_M) (T := F_M) (N := 40) (t := 40) (j := 16) hx hb hK hts (fun w h => List.mem_cons_of_mem _ (iw_M w h)) hown rfl rfl (by decide) (hts _ (List.mem_cons_of_mem _ wd_800)) (fun _ h => h) rfl rfl rfl d_M_wireAll_102 h, List.forall_mem_cons.mpr ⟨fun S h => bs_iload_n (Z := Z) hx hb rfl d_M_wireAll_105 h, List.forall_mem_cons.mpr ⟨fun S h => bs_Zald (Z := Z) hx hb ha2 d_M_wireAll_106 h, List.forall_mem_cons.mpr ⟨fun S h => bs_if_ne (Z := Z) hx hb d_M_wireAll_107 (by decide) h, List.forall_mem_cons.mpr ⟨fun S h => bs_goto (Z := Z) hx hb d_M_wireAll_110 (by decide) h, List.forall_mem_cons.mpr ⟨fun S h => bs_aload_n (Z := Z) hx hb rfl d_M_wireAll_113 h, List.forall_mem_cons.mpr ⟨fun S h => bs_gR (Z := Z) (C := R_M) (T := F_M) (N := 40) (t := 40) (j := 18) hx hb hK hts (fun w h => List.mem_cons_of_mem _ (iw_M w h)) hown rfl rfl (by decide) (hts _ (List.mem_cons_of_mem _ wd_802)) (fun _ h => h) rfl rfl rfl d_M_wireAll_114 h, List.forall_mem_cons.mpr ⟨fun S h => bs_iconst (Z := Z) hx hb (by decide) d_M_wireAll_117 h, List.forall_mem_cons.mpr ⟨fun S h => bs_iload_n (Z := Z) hx hb rfl d_M_wireAll_118 h, List.forall_mem_cons.mpr ⟨fun S h => bs_Iast (Z := Z) hx hb ha1 d_M_wireAll_119 h, List.forall_mem_cons.mpr ⟨fun S h => bs_aload_n (Z := Z) hx hb rfl d_M_wireAll_120 h, List.forall_mem_cons.mpr ⟨fun S h => bs_iconst (Z := Z) hx hb (by decide) d_M_wireAll_121 h, List.forall_mem_cons.mpr ⟨fun S h => bs_iconst (Z := Z) hx hb (by decide) d_M_wireAll_122 h, List.forall_mem_cons.mpr ⟨fun S h => bs_callV (Z := Z) (C := R_M) hBg hbs hB X0 hK (cn_M_find htr (d + 1)) (cl_M_find _ _ hw) (hts _ (List.mem_cons_of_mem _ wd_965)) (hts _ (List.mem_cons_of_mem _ wd_967)) (hts _ (List.mem_cons_of_mem _ ws_33)) rfl rfl rfl rfl rfl (Nat.le_refl _) (Nat.le_refl _) d_M_wireAll_123 (bs_out htab hlocks) h, List.forall_mem_cons.mpr ⟨fun S h => bs_iconst (Z := Z) hx hb (by decide) d_M_wireAll_126 h, List.forall_mem_cons.mpr ⟨fun S h => bs_istore_n (Z := Z) hx hb rfl d_M_wireAll_127 h, List.forall_mem_cons.mpr ⟨fun S h => bs_iconst (Z := Z) hx hb (by decide) d_M_wireAll_128 h, List.forall_mem_cons.mpr ⟨fun S h => bs_istore (Z := Z) hx hb d_M_wireAll_129 h, fun _ h => absurd h List.not_mem_nil⟩⟩⟩⟩⟩⟩⟩⟩⟩⟩⟩⟩⟩⟩⟩⟩⟩⟩⟩⟩⟩⟩⟩⟩⟩⟩⟩⟩⟩⟩⟩⟩⟩⟩⟩⟩⟩⟩⟩⟩⟩
  exact List.forall_mem_cons.mpr ⟨fun S h => bs_iconst (Z := Z) hx hb (by decide) d_M_wireAll_0 h, List.forall_mem_cons.mpr ⟨fun S h => bs_istore_n (Z := Z) hx hb rfl d_M_wireAll_1 h, List.forall_mem_cons.mpr ⟨fun S h => bs_iload_n (Z := Z) hx hb rfl d_M_wireAll_2 h, List.forall_mem_cons.mpr ⟨fun S h => bs_aload_n (Z := Z) hx hb rfl d_M_wireAll_3 h, List.forall_mem_cons.mpr ⟨fun S h => bs_gI (Z := Z) (C := R_M) (T := F_M) (N := 40) (t := 40) (j := 19) hx hb hK hts (fun w h => List.mem_cons_of_mem _ (iw_M w h)) hown rfl rfl (by decide) (hts _ (List.mem_cons_of_mem _ wd_803)) (fun _ h => h) rfl rfl rfl d_M_wireAll_4 h, List.forall_mem_cons.mpr ⟨fun S h => bs_icmp_ge (Z := Z) hx hb d_M_wireAll_7 (by decide) h, List.forall_mem_cons.mpr ⟨fun S h => bs_aload_n (Z := Z) hx hb rfl d_M_wireAll_10 h, List.forall_mem_cons.mpr ⟨fun S h => bs_gR (Z := Z) (C := R_M) (T := F_M) (N := 40) (t := 40) (j := 17) hx hb hK hts (fun w h => List.mem_cons_of_mem _ (iw_M w h)) hown rfl rfl (by decide) (hts _ (List.mem_cons_of_mem _ wd_801)) (fun _ h => h) rfl rfl rfl d_M_wireAll_11 h, List.forall_mem_cons.mpr ⟨fun S h => bs_aload_n (Z := Z) hx hb rfl d_M_wireAll_14 h, List.forall_mem_cons.mpr ⟨fun S h => bs_gR (Z := Z) (C := R_M) (T := F_M) (N := 40) (t := 40) (j := 18) hx hb hK hts (fun w h => List.mem_cons_of_mem _ (iw_M w h)) hown rfl rfl (by decide) (hts _ (List.mem_cons_of_mem _ wd_802)) (fun _ h => h) rfl rfl rfl d_M_wireAll_15 h, List.forall_mem_cons.mpr ⟨fun S h => bs_iload_n (Z := Z) hx hb rfl d_M_wireAll_18 h, List.forall_mem_cons.mpr ⟨fun S h => bs_Iald (Z := Z) hx hb ha1 d_M_wireAll_19 h, List.forall_mem_cons.mpr ⟨fun S h => bs_aload_n (Z := Z) hx hb rfl d_M_wireAll_20 h, List.forall_mem_cons.mpr ⟨fun S h => bs_aload_n (Z := Z) hx hb rfl d_M_wireAll_21 h, List.forall_mem_cons.mpr ⟨fun S h => bs_iload_n (Z := Z) hx hb rfl d_M_wireAll_22 h, List.forall_mem_cons.mpr ⟨fun S h => bs_callV (Z := Z) (C := R_M) hBg hbs hB X0 hK (cn_M_choice htr (d + 3)) (cl_M_choice _ _ hw) (hts _ (List.mem_cons_of_mem _ wd_977)) (hts _ (List.mem_cons_of_mem _ wd_979)) (hts _ (List.mem_cons_of_mem _ ws_36)) rfl rfl rfl rfl rfl (Nat.le_refl _) (Nat.le_refl _) d_M_wireAll_23 (bs_out htab hlocks) h, List.forall_mem_cons.mpr ⟨fun S h => bs_callV (Z := Z) (C := R_M) hBg hbs hB X0 hK (cn_M_port htr (d + 3)) (cl_M_port _ _ hw) (hts _ (List.mem_cons_of_mem _ wd_993)) (hts _ (List.mem_cons_of_mem _ wd_995)) (hts _ (List.mem_cons_of_mem _ ws_40)) rfl rfl rfl rfl rfl (Nat.le_refl _) (Nat.le_refl _) d_M_wireAll_26 (bs_out htab hlocks) h, List.forall_mem_cons.mpr ⟨fun S h => bs_Jast (Z := Z) hx hb ha3 d_M_wireAll_29 h, List.forall_mem_cons.mpr ⟨fun S h => bs_iinc (Z := Z) hx hb (by decide) d_M_wireAll_30 h, List.forall_mem_cons.mpr ⟨fun S h => bs_goto (Z := Z) hx hb d_M_wireAll_33 (by decide) h, List.forall_mem_cons.mpr ⟨fun S h => bs_iconst (Z := Z) hx hb (by decide) d_M_wireAll_36 h, List.forall_mem_cons.mpr ⟨fun S h => bs_istore_n (Z := Z) hx hb rfl d_M_wireAll_37 h, List.forall_mem_cons.mpr ⟨fun S h => bs_iload_n (Z := Z) hx hb rfl d_M_wireAll_38 h, List.forall_mem_cons.mpr ⟨fun S h => bs_bipush (Z := Z) hx hb (by decide) d_M_wireAll_39 h, List.forall_mem_cons.mpr ⟨fun S h => bs_icmp_ge (Z := Z) hx hb d_M_wireAll_41 (by decide) h, List.forall_mem_cons.mpr ⟨fun S h => bs_aload_n (Z := Z) hx hb rfl d_M_wireAll_44 h, List.forall_mem_cons.mpr ⟨fun S h => bs_gR (Z := Z) (C := R_M) (T := F_M) (N := 40) (t := 40) (j := 24) hx hb hK hts (fun w h => List.mem_cons_of_mem _ (iw_M w h)) hown rfl rfl (by decide) (hts _ (List.mem_cons_of_mem _ wd_808)) (fun _ h => h) rfl rfl rfl d_M_wireAll_45 h, List.forall_mem_cons.mpr ⟨fun S h => bs_iload_n (Z := Z) hx hb rfl d_M_wireAll_48 h, List.forall_mem_cons.mpr ⟨fun S h => bs_Zald (Z := Z) hx hb ha2 d_M_wireAll_49 h, List.forall_mem_cons.mpr ⟨fun S h => bs_if_eq (Z := Z) hx hb d_M_wireAll_50 (by decide) h, List.forall_mem_cons.mpr ⟨fun S h => bs_aload_n (Z := Z) hx hb rfl d_M_wireAll_53 h, List.forall_mem_cons.mpr ⟨fun S h => bs_gR (Z := Z) (C := R_M) (T := F_M) (N := 40) (t := 40) (j := 1) hx hb hK hts (fun w h => List.mem_cons_of_mem _ (iw_M w h)) hown rfl rfl (by decide) (hts _ (List.mem_cons_of_mem _ wd_785)) (fun _ h => h) rfl rfl rfl d_M_wireAll_54 h, List.forall_mem_cons.mpr ⟨fun S h => bs_iload_n (Z := Z) hx hb rfl d_M_wireAll_57 h, List.forall_mem_cons.mpr ⟨fun S h => bs_iconst (Z := Z) hx hb (by decide) d_M_wireAll_58 h, List.forall_mem_cons.mpr ⟨fun S h => bs_Iast (Z := Z) hx hb ha1 d_M_wireAll_59 h, List.forall_mem_cons.mpr ⟨fun S h => bs_iinc (Z := Z) hx hb (by decide) d_M_wireAll_60 h, List.forall_mem_cons.mpr ⟨fun S h => bs_goto (Z := Z) hx hb d_M_wireAll_63 (by decide) h, List.forall_mem_cons.mpr ⟨fun S h => bs_iconst (Z := Z) hx hb (by decide) d_M_wireAll_66 h, List.forall_mem_cons.mpr ⟨fun S h => bs_istore_n (Z := Z) hx hb rfl d_M_wireAll_67 h, List.forall_mem_cons.mpr ⟨fun S h => bs_iload_n (Z := Z) hx hb rfl d_M_wireAll_68 h, fun _ h => absurd h List.not_mem_nil⟩⟩⟩⟩⟩⟩⟩⟩⟩⟩⟩⟩⟩⟩⟩⟩⟩⟩⟩⟩⟩⟩⟩⟩⟩⟩⟩⟩⟩⟩⟩⟩⟩⟩⟩⟩⟩⟩⟩⟩
abbrev c_M_resolving : ByteArray := prog_10_method_27_code
def y_M_resolving : MethodName := ⟨"BundleHallModel", "resolving", "(I)I"⟩
theorem d_M_resolving_0 : decode c_M_resolving 0 = .ok (.aload_n 0, 1) := by decide +kernel
theorem d_M_resolving_1 : decode c_M_resolving 1 = .ok (.iconst 0, 1) := by decide +kernel
theorem d_M_resolving_2 : decode c_M_resolving 2 = .ok (.putfield 176, 3) := by decide +kernel
theorem d_M_resolving_5 : decode c_M_resolving 5 = .ok (.aload_n 0, 1) := by decide +kernel
theorem d_M_resolving_6 : decode c_M_resolving 6 = .ok (.iconst 0, 1) := by decide +kernel
theorem d_M_resolving_7 : decode c_M_resolving 7 = .ok (.putfield 194, 3) := by decide +kernel
theorem d_M_resolving_10 : decode c_M_resolving 10 = .ok (.aload_n 0, 1) := by decide +kernel
theorem d_M_resolving_11 : decode c_M_resolving 11 = .ok (.iconst 0, 1) := by decide +kernel
theorem d_M_resolving_12 : decode c_M_resolving 12 = .ok (.putfield 166, 3) := by decide +kernel
theorem d_M_resolving_15 : decode c_M_resolving 15 = .ok (.iconst 0, 1) := by decide +kernel
theorem d_M_resolving_16 : decode c_M_resolving 16 = .ok (.istore_n 2, 1) := by decide +kernel
theorem d_M_resolving_17 : decode c_M_resolving 17 = .ok (.iload_n 2, 1) := by decide +kernel
theorem d_M_resolving_18 : decode c_M_resolving 18 = .ok (.bipush 8, 2) := by decide +kernel
theorem d_M_resolving_20 : decode c_M_resolving 20 = .ok (.if_icmp .ge 16, 3) := by decide +kernel
theorem d_M_resolving_23 : decode c_M_resolving 23 = .ok (.aload_n 0, 1) := by decide +kernel
theorem d_M_resolving_24 : decode c_M_resolving 24 = .ok (.getfield 78, 3) := by decide +kernel
theorem d_M_resolving_27 : decode c_M_resolving 27 = .ok (.iload_n 2, 1) := by decide +kernel
theorem d_M_resolving_28 : decode c_M_resolving 28 = .ok (.iconst 0, 1) := by decide +kernel
theorem d_M_resolving_29 : decode c_M_resolving 29 = .ok (.bastore, 1) := by decide +kernel
theorem d_M_resolving_30 : decode c_M_resolving 30 = .ok (.iinc 2 1, 3) := by decide +kernel
theorem d_M_resolving_33 : decode c_M_resolving 33 = .ok (.goto (-16), 3) := by decide +kernel
theorem d_M_resolving_36 : decode c_M_resolving 36 = .ok (.aload_n 0, 1) := by decide +kernel
theorem d_M_resolving_37 : decode c_M_resolving 37 = .ok (.iload_n 1, 1) := by decide +kernel
theorem d_M_resolving_38 : decode c_M_resolving 38 = .ok (.invokevirtual 142, 3) := by decide +kernel
theorem d_M_resolving_41 : decode c_M_resolving 41 = .ok (.ifCond .eq 5, 3) := by decide +kernel
theorem d_M_resolving_44 : decode c_M_resolving 44 = .ok (.iconst 3, 1) := by decide +kernel
theorem d_M_resolving_45 : decode c_M_resolving 45 = .ok (.ireturn, 1) := by decide +kernel
theorem d_M_resolving_46 : decode c_M_resolving 46 = .ok (.aload_n 0, 1) := by decide +kernel
theorem d_M_resolving_47 : decode c_M_resolving 47 = .ok (.iload_n 1, 1) := by decide +kernel
theorem d_M_resolving_48 : decode c_M_resolving 48 = .ok (.iconst (-1), 1) := by decide +kernel
theorem d_M_resolving_49 : decode c_M_resolving 49 = .ok (.invokevirtual 179, 3) := by decide +kernel
theorem d_M_resolving_52 : decode c_M_resolving 52 = .ok (.aload_n 0, 1) := by decide +kernel
theorem d_M_resolving_53 : decode c_M_resolving 53 = .ok (.invokevirtual 197, 3) := by decide +kernel
theorem d_M_resolving_56 : decode c_M_resolving 56 = .ok (.istore_n 2, 1) := by decide +kernel
theorem d_M_resolving_57 : decode c_M_resolving 57 = .ok (.iload_n 2, 1) := by decide +kernel
theorem d_M_resolving_58 : decode c_M_resolving 58 = .ok (.ifCond .ne 40, 3) := by decide +kernel
theorem d_M_resolving_61 : decode c_M_resolving 61 = .ok (.iconst 0, 1) := by decide +kernel
theorem d_M_resolving_62 : decode c_M_resolving 62 = .ok (.istore_n 3, 1) := by decide +kernel
theorem d_M_resolving_63 : decode c_M_resolving 63 = .ok (.iload_n 3, 1) := by decide +kernel
theorem d_M_resolving_64 : decode c_M_resolving 64 = .ok (.bipush 8, 2) := by decide +kernel
theorem d_M_resolving_66 : decode c_M_resolving 66 = .ok (.if_icmp .ge 28, 3) := by decide +kernel
theorem d_M_resolving_69 : decode c_M_resolving 69 = .ok (.aload_n 0, 1) := by decide +kernel
theorem d_M_resolving_70 : decode c_M_resolving 70 = .ok (.getfield 78, 3) := by decide +kernel
theorem d_M_resolving_73 : decode c_M_resolving 73 = .ok (.iload_n 3, 1) := by decide +kernel
theorem d_M_resolving_74 : decode c_M_resolving 74 = .ok (.baload, 1) := by decide +kernel
theorem d_M_resolving_75 : decode c_M_resolving 75 = .ok (.ifCond .eq 13, 3) := by decide +kernel
theorem d_M_resolving_78 : decode c_M_resolving 78 = .ok (.aload_n 0, 1) := by decide +kernel
theorem d_M_resolving_79 : decode c_M_resolving 79 = .ok (.dup, 1) := by decide +kernel
theorem d_M_resolving_80 : decode c_M_resolving 80 = .ok (.getfield 194, 3) := by decide +kernel
theorem d_M_resolving_83 : decode c_M_resolving 83 = .ok (.iconst 1, 1) := by decide +kernel
theorem d_M_resolving_84 : decode c_M_resolving 84 = .ok (.iadd, 1) := by decide +kernel
theorem d_M_resolving_85 : decode c_M_resolving 85 = .ok (.putfield 194, 3) := by decide +kernel
theorem d_M_resolving_88 : decode c_M_resolving 88 = .ok (.iinc 3 1, 3) := by decide +kernel
theorem d_M_resolving_91 : decode c_M_resolving 91 = .ok (.goto (-28), 3) := by decide +kernel
theorem d_M_resolving_94 : decode c_M_resolving 94 = .ok (.aload_n 0, 1) := by decide +kernel
theorem d_M_resolving_95 : decode c_M_resolving 95 = .ok (.invokevirtual 201, 3) := by decide +kernel
theorem d_M_resolving_98 : decode c_M_resolving 98 = .ok (.iload_n 2, 1) := by decide +kernel
theorem d_M_resolving_99 : decode c_M_resolving 99 = .ok (.ireturn, 1) := by decide +kernel
def T_M_resolving_0 : List (Nat × bh_Op) := [(0, bo_ald 1 0),
  (1, bo_st 2 (bg_push (.inl (.int 0)))),
  (2, bo_pI 5 40 27),
  (5, bo_ald 6 0),
  (6, bo_st 7 (bg_push (.inl (.int 0)))),
  (7, bo_pI 10 40 28),
  (10, bo_ald 11 0),
  (11, bo_st 12 (bg_push (.inl (.int 0)))),
  (12, bo_pI 15 40 19),
  (15, bo_st 16 (bg_push (.inl (.int 0)))),
  (16, bo_ist 17 2),
  (17, bo_ild 18 2),
  (18, bo_st 20 (bg_push (.inl (.int 8)))),
  (20, bo_if2 23 36 (fun x y => y ≤ x)),
  (23, bo_ald 24 0),
  (24, bo_gR 27 40 24 63),
  (27, bo_ild 28 2),
  (28, bo_st 29 (bg_push (.inl (.int 0)))),
  (29, bo_Zast bh_ak bh_al 30),
  (30, bo_inc 33 2 1),
  (33, bo_go 17),
  (36, bo_ald 37 0),
  (37, bo_ild 38 1),
  (38, bo_callV 41 2 0 0 40 F_M_named),
  (41, bo_if1 44 46 (fun x => x = 0)),
  (44, bo_st 45 (bg_push (.inl (.int 3)))),
  (45, bo_iret 0),
  (46, bo_ald 47 0),
  (47, bo_ild 48 1),
  (48, bo_st 49 (bg_push (.inl (.int (-1))))),
  (49, bo_callV 52 3 0 0 40 F_M_takeIn),
  (52, bo_ald 53 0),
  (53, bo_callV 56 1 0 0 40 F_M_solve),
  (56, bo_ist 57 2),
  (57, bo_ild 58 2),
  (58, bo_if1 61 98 (fun x => ¬ x = 0)),
  (61, bo_st 62 (bg_push (.inl (.int 0)))),
  (62, bo_ist 63 3),
  (63, bo_ild 64 3),
  (64, bo_st 66 (bg_push (.inl (.int 8))))]
def T_M_resolving_1 : List (Nat × bh_Op) := [(66, bo_if2 69 94 (fun x y => y ≤ x)),
  (69, bo_ald 70 0),
  (70, bo_gR 73 40 24 63),
  (73, bo_ild 74 3),
  (74, bo_Zald bh_ak bh_al 75),
  (75, bo_if1 78 88 (fun x => x = 0)),
  (78, bo_ald 79 0),
  (79, bo_st 80 bg_dup),
  (80, bo_gI 83 40 28),
  (83, bo_st 84 (bg_push (.inl (.int 1)))),
  (84, bo_st 85 (bg_ii (fun x y => x + y))),
  (85, bo_pI 88 40 28),
  (88, bo_inc 91 3 1),
  (91, bo_go 63),
  (94, bo_ald 95 0),
  (95, bo_callV 98 1 0 0 40 F_M_wireAll),
  (98, bo_ild 99 2),
  (99, bo_iret 0)]
def T_M_resolving : List (Nat × bh_Op) := T_M_resolving_0 ++ T_M_resolving_1
set_option maxRecDepth 20000 in
theorem mT_M_resolving_0 : ∀ q ∈ T_M_resolving_0, bh_mono q.2 := List.forall_mem_cons.mpr ⟨bo_ald_m _ _, List.forall_mem_cons.mpr ⟨bo_st_mono (bg_push_m _), List.forall_mem_cons.mpr ⟨bo_pI_m _ _ _, List.forall_mem_cons.mpr ⟨bo_ald_m _ _, List.forall_mem_cons.mpr ⟨bo_st_mono (bg_push_m _), List.forall_mem_cons.mpr ⟨bo_pI_m _ _ _, List.forall_mem_cons.mpr ⟨bo_ald_m _ _, List.forall_mem_cons.mpr ⟨bo_st_mono (bg_push_m _), List.forall_mem_cons.mpr ⟨bo_pI_m _ _ _, List.forall_mem_cons.mpr ⟨bo_st_mono (bg_push_m _), List.forall_mem_cons.mpr ⟨bo_ist_m _ _, List.forall_mem_cons.mpr ⟨bo_ild_m _ _, List.forall_mem_cons.mpr ⟨bo_st_mono (bg_push_m _), List.forall_mem_cons.mpr ⟨bo_if2_m _ _ _, List.forall_mem_cons.mpr ⟨bo_ald_m _ _, List.forall_mem_cons.mpr ⟨bo_gR_m _ _ _ _, List.forall_mem_cons.mpr ⟨bo_ild_m _ _, List.forall_mem_cons.mpr ⟨bo_st_mono (bg_push_m _), List.forall_mem_cons.mpr ⟨bo_Zast_m _ _ _, List.forall_mem_cons.mpr ⟨bo_inc_m _ _ _, List.forall_mem_cons.mpr ⟨bo_go_m _, List.forall_mem_cons.mpr ⟨bo_ald_m _ _, List.forall_mem_cons.mpr ⟨bo_ild_m _ _, List.forall_mem_cons.mpr ⟨bo_callV_m (mF_M_named) _ _ _ _ _, List.forall_mem_cons.mpr ⟨bo_if1_m _ _ _, List.forall_mem_cons.mpr ⟨bo_st_mono (bg_push_m _), List.forall_mem_cons.mpr ⟨bo_iret_m _, List.forall_mem_cons.mpr ⟨bo_ald_m _ _, List.forall_mem_cons.mpr ⟨bo_ild_m _ _, List.forall_mem_cons.mpr ⟨bo_st_mono (bg_push_m _), List.forall_mem_cons.mpr ⟨bo_callV_m (mF_M_takeIn) _ _ _ _ _, List.forall_mem_cons.mpr ⟨bo_ald_m _ _, List.forall_mem_cons.mpr ⟨bo_callV_m (mF_M_solve) _ _ _ _ _, List.forall_mem_cons.mpr ⟨bo_ist_m _ _, List.forall_mem_cons.mpr ⟨bo_ild_m _ _, List.forall_mem_cons.mpr ⟨bo_if1_m _ _ _, List.forall_mem_cons.mpr ⟨bo_st_mono (bg_push_m _), List.forall_mem_cons.mpr ⟨bo_ist_m _ _, List.forall_mem_cons.mpr ⟨bo_ild_m _ _, List.forall_mem_cons.mpr ⟨bo_st_mono (bg_push_m _), fun _ h => absurd h List.not_mem_nil⟩⟩⟩⟩⟩⟩⟩⟩⟩⟩⟩⟩⟩⟩⟩⟩⟩⟩⟩⟩⟩⟩⟩⟩⟩⟩⟩⟩⟩⟩⟩⟩⟩⟩⟩⟩⟩⟩⟩⟩
set_option maxRecDepth 20000 in
theorem mT_M_resolving_1 : ∀ q ∈ T_M_resolving_1, bh_mono q.2 := List.forall_mem_cons.mpr ⟨bo_if2_m _ _ _, List.forall_mem_cons.mpr ⟨bo_ald_m _ _, List.forall_mem_cons.mpr ⟨bo_gR_m _ _ _ _, List.forall_mem_cons.mpr ⟨bo_ild_m _ _, List.forall_mem_cons.mpr ⟨bo_Zald_m _ _ _, List.forall_mem_cons.mpr ⟨bo_if1_m _ _ _, List.forall_mem_cons.mpr ⟨bo_ald_m _ _, List.forall_mem_cons.mpr ⟨bo_st_mono bg_dup_m, List.forall_mem_cons.mpr ⟨bo_gI_m _ _ _, List.forall_mem_cons.mpr ⟨bo_st_mono (bg_push_m _), List.forall_mem_cons.mpr ⟨bo_st_mono (bg_ii_m _), List.forall_mem_cons.mpr ⟨bo_pI_m _ _ _, List.forall_mem_cons.mpr ⟨bo_inc_m _ _ _, List.forall_mem_cons.mpr ⟨bo_go_m _, List.forall_mem_cons.mpr ⟨bo_ald_m _ _, List.forall_mem_cons.mpr ⟨bo_callV_m (mF_M_wireAll) _ _ _ _ _, List.forall_mem_cons.mpr ⟨bo_ild_m _ _, List.forall_mem_cons.mpr ⟨bo_iret_m _, fun _ h => absurd h List.not_mem_nil⟩⟩⟩⟩⟩⟩⟩⟩⟩⟩⟩⟩⟩⟩⟩⟩⟩⟩
theorem m_M_resolving : ∀ pc, bh_mono (bh_tb (T_M_resolving) pc) := bh_tb_m (List.forall_mem_append.mpr ⟨mT_M_resolving_0, mT_M_resolving_1⟩)
def F_M_resolving : bh_Fn := bh_fn 4 (bh_tb T_M_resolving)
theorem mF_M_resolving : bh_monoF F_M_resolving := bh_fn_m m_M_resolving
theorem cl_M_resolving {s : State} {args : Array Value} (d B : Nat) (hts : ∀ w ∈ bh_ws, w.before args s = true) : bh_Cal (bh_rm (d + 1) B) s y_M_resolving 4 (.code y_M_resolving c_M_resolving 4 (some .int) :: bh_ws) (bh_rm d 0) 0 1 := bh_cal d B hts wd_952 wd_9 (by decide) (by decide +kernel)
set_option maxHeartbeats 4000000 in
set_option maxRecDepth 100000 in
theorem cn_M_resolving {l : Launch} {G : bh_G} {base sb L : Nat} {xs : Nat → Int32} (htr : l.stackTraces = false) (d : Nat) : bh_Con l G base (bh_Bg G base sb L xs) y_M_resolving (.code y_M_resolving c_M_resolving 4 (some .int) :: bh_ws) (bh_rm (d + 6) 0) 0 false F_M_resolving := by
  refine bh_method (cc := c_M_resolving) (ret := (some .int)) (by decide +kernel) rfl ?_
  intro p e s m args below meth c ad0 M0 Z X0 hr hlocks hname htab hbs hB
  obtain ⟨hx, hb, hml, hown, hts⟩ := id X0
  have hw : ∀ w ∈ bh_ws, w.before args s = true := fun w h => hts w (List.mem_cons_of_mem _ h)
  have hBg := bh_BgK (G := G) (base := base) (sb := sb) (L := L) (xs := xs)
  obtain ⟨hK, hAr, hen, hinj, hu1, hu2, hstr, hX, hsb, hsc, hxw, hao, hnc⟩ := id hB
  obtain ⟨ha1, ha2, ha3, ha4, ha5, ha6, ha0⟩ := bh_arr hAr
  refine List.forall_mem_append.mpr ⟨?_, List.forall_mem_cons.mpr ⟨fun S h => bs_icmp_ge (Z := Z) hx hb d_M_resolving_66 (by decide) h, List.forall_mem_cons.mpr ⟨fun S h => bs_aload_n (Z := Z) hx hb rfl d_M_resolving_69 h, List.forall_mem_cons.mpr ⟨fun S h => bs_gR (Z := Z) (C := R_M) (T := F_M) (N := 40) (t := 40) (j := 24) hx hb hK hts (fun w h => List.mem_cons_of_mem _ (iw_M w h)) hown rfl rfl (by decide) (hts _ (List.mem_cons_of_mem _ wd_808)) (fun _ h => h) rfl rfl rfl d_M_resolving_70 h, List.forall_mem_cons.mpr ⟨fun S h => bs_iload_n (Z := Z) hx hb rfl d_M_resolving_73 h, List.forall_mem_cons.mpr ⟨fun S h => bs_Zald (Z := Z) hx hb ha2 d_M_resolving_74 h, List.forall_mem_cons.mpr ⟨fun S h => bs_if_eq (Z := Z) hx hb d_M_resolving_75 (by decide) h, List.forall_mem_cons.mpr ⟨fun S h => bs_aload_n (Z := Z) hx hb rfl d_M_resolving_78 h, List.forall_mem_cons.mpr ⟨fun S h => bs_dup (Z := Z) hx hb d_M_resolving_79 h, List.forall_mem_cons.mpr ⟨fun S h => bs_gI (Z := Z) (C := R_M) (T := F_M) (N := 40) (t := 40) (j := 28) hx hb hK hts (fun w h => List.mem_cons_of_mem _ (iw_M w h)) hown rfl rfl (by decide) (hts _ (List.mem_cons_of_mem _ wd_812)) (fun _ h => h) rfl rfl rfl d_M_resolving_80 h, List.forall_mem_cons.mpr ⟨fun S h => bs_iconst (Z := Z) hx hb (by decide) d_M_resolving_83 h, List.forall_mem_cons.mpr ⟨fun S h => bs_iadd (Z := Z) hx hb d_M_resolving_84 h, List.forall_mem_cons.mpr ⟨fun S h => bs_pI (Z := Z) (C := R_M) (T := F_M) (N := 40) (t := 40) (j := 28) hx hb hK hts (fun w h => List.mem_cons_of_mem _ (iw_M w h)) hown rfl rfl (by decide) (hts _ (List.mem_cons_of_mem _ wd_812)) (fun _ h => h) rfl rfl t_M t_M_ok n_M rfl (by decide +kernel) rfl d_M_resolving_85 h, List.forall_mem_cons.mpr ⟨fun S h => bs_iinc (Z := Z) hx hb (by decide) d_M_resolving_88 h, List.forall_mem_cons.mpr ⟨fun S h => bs_goto (Z := Z) hx hb d_M_resolving_91 (by decide) h, List.forall_mem_cons.mpr ⟨fun S h => bs_aload_n (Z := Z) hx hb rfl d_M_resolving_94 h, List.forall_mem_cons.mpr ⟨fun S h => bs_callV (Z := Z) (C := R_M) hBg hbs hB X0 hK (cn_M_wireAll htr (d + 0)) (cl_M_wireAll _ _ hw) (hts _ (List.mem_cons_of_mem _ wd_998)) (hts _ (List.mem_cons_of_mem _ wd_1000)) (hts _ (List.mem_cons_of_mem _ ws_41)) rfl rfl rfl rfl rfl (Nat.le_refl _) (Nat.le_refl _) d_M_resolving_95 (bs_out htab hlocks) h, List.forall_mem_cons.mpr ⟨fun S h => bs_iload_n (Z := Z) hx hb rfl d_M_resolving_98 h, List.forall_mem_cons.mpr ⟨fun S h => bs_iret (Z := Z) hx hb hr hlocks d_M_resolving_99 h, fun _ h => absurd h List.not_mem_nil⟩⟩⟩⟩⟩⟩⟩⟩⟩⟩⟩⟩⟩⟩⟩⟩⟩⟩⟩
  exact List.forall_mem_cons.mpr ⟨fun S h => bs_aload_n (Z := Z) hx hb rfl d_M_resolving_0 h, List.forall_mem_cons.mpr ⟨fun S h => bs_iconst (Z := Z) hx hb (by decide) d_M_resolving_1 h, List.forall_mem_cons.mpr ⟨fun S h => bs_pI (Z := Z) (C := R_M) (T := F_M) (N := 40) (t := 40) (j := 27) hx hb hK hts (fun w h => List.mem_cons_of_mem _ (iw_M w h)) hown rfl rfl (by decide) (hts _ (List.mem_cons_of_mem _ wd_811)) (fun _ h => h) rfl rfl t_M t_M_ok n_M rfl (by decide +kernel) rfl d_M_resolving_2 h, List.forall_mem_cons.mpr ⟨fun S h => bs_aload_n (Z := Z) hx hb rfl d_M_resolving_5 h, List.forall_mem_cons.mpr ⟨fun S h => bs_iconst (Z := Z) hx hb (by decide) d_M_resolving_6 h, List.forall_mem_cons.mpr ⟨fun S h => bs_pI (Z := Z) (C := R_M) (T := F_M) (N := 40) (t := 40) (j := 28) hx hb hK hts (fun w h => List.mem_cons_of_mem _ (iw_M w h)) hown rfl rfl (by decide) (hts _ (List.mem_cons_of_mem _ wd_812)) (fun _ h => h) rfl rfl t_M t_M_ok n_M rfl (by decide +kernel) rfl d_M_resolving_7 h, List.forall_mem_cons.mpr ⟨fun S h => bs_aload_n (Z := Z) hx hb rfl d_M_resolving_10 h, List.forall_mem_cons.mpr ⟨fun S h => bs_iconst (Z := Z) hx hb (by decide) d_M_resolving_11 h, List.forall_mem_cons.mpr ⟨fun S h => bs_pI (Z := Z) (C := R_M) (T := F_M) (N := 40) (t := 40) (j := 19) hx hb hK hts (fun w h => List.mem_cons_of_mem _ (iw_M w h)) hown rfl rfl (by decide) (hts _ (List.mem_cons_of_mem _ wd_803)) (fun _ h => h) rfl rfl t_M t_M_ok n_M rfl (by decide +kernel) rfl d_M_resolving_12 h, List.forall_mem_cons.mpr ⟨fun S h => bs_iconst (Z := Z) hx hb (by decide) d_M_resolving_15 h, List.forall_mem_cons.mpr ⟨fun S h => bs_istore_n (Z := Z) hx hb rfl d_M_resolving_16 h, List.forall_mem_cons.mpr ⟨fun S h => bs_iload_n (Z := Z) hx hb rfl d_M_resolving_17 h, List.forall_mem_cons.mpr ⟨fun S h => bs_bipush (Z := Z) hx hb (by decide) d_M_resolving_18 h, List.forall_mem_cons.mpr ⟨fun S h => bs_icmp_ge (Z := Z) hx hb d_M_resolving_20 (by decide) h, List.forall_mem_cons.mpr ⟨fun S h => bs_aload_n (Z := Z) hx hb rfl d_M_resolving_23 h, List.forall_mem_cons.mpr ⟨fun S h => bs_gR (Z := Z) (C := R_M) (T := F_M) (N := 40) (t := 40) (j := 24) hx hb hK hts (fun w h => List.mem_cons_of_mem _ (iw_M w h)) hown rfl rfl (by decide) (hts _ (List.mem_cons_of_mem _ wd_808)) (fun _ h => h) rfl rfl rfl d_M_resolving_24 h, List.forall_mem_cons.mpr ⟨fun S h => bs_iload_n (Z := Z) hx hb rfl d_M_resolving_27 h, List.forall_mem_cons.mpr ⟨fun S h => bs_iconst (Z := Z) hx hb (by decide) d_M_resolving_28 h, List.forall_mem_cons.mpr ⟨fun S h => bs_Zast (Z := Z) hx hb ha2 d_M_resolving_29 h, List.forall_mem_cons.mpr ⟨fun S h => bs_iinc (Z := Z) hx hb (by decide) d_M_resolving_30 h, List.forall_mem_cons.mpr ⟨fun S h => bs_goto (Z := Z) hx hb d_M_resolving_33 (by decide) h, List.forall_mem_cons.mpr ⟨fun S h => bs_aload_n (Z := Z) hx hb rfl d_M_resolving_36 h, List.forall_mem_cons.mpr ⟨fun S h => bs_iload_n (Z := Z) hx hb rfl d_M_resolving_37 h, List.forall_mem_cons.mpr ⟨fun S h => bs_callV (Z := Z) (C := R_M) hBg hbs hB X0 hK (cn_M_named htr (d + 3)) (cl_M_named _ _ hw) (hts _ (List.mem_cons_of_mem _ wd_953)) (hts _ (List.mem_cons_of_mem _ wd_955)) (hts _ (List.mem_cons_of_mem _ ws_30)) rfl rfl rfl rfl rfl (Nat.le_refl _) (Nat.le_refl _) d_M_resolving_38 (bs_out htab hlocks) h, List.forall_mem_cons.mpr ⟨fun S h => bs_if_eq (Z := Z) hx hb d_M_resolving_41 (by decide) h, List.forall_mem_cons.mpr ⟨fun S h => bs_iconst (Z := Z) hx hb (by decide) d_M_resolving_44 h, List.forall_mem_cons.mpr ⟨fun S h => bs_iret (Z := Z) hx hb hr hlocks d_M_resolving_45 h, List.forall_mem_cons.mpr ⟨fun S h => bs_aload_n (Z := Z) hx hb rfl d_M_resolving_46 h, List.forall_mem_cons.mpr ⟨fun S h => bs_iload_n (Z := Z) hx hb rfl d_M_resolving_47 h, List.forall_mem_cons.mpr ⟨fun S h => bs_iconst (Z := Z) hx hb (by decide) d_M_resolving_48 h, List.forall_mem_cons.mpr ⟨fun S h => bs_callV (Z := Z) (C := R_M) hBg hbs hB X0 hK (cn_M_takeIn htr (d + 4)) (cl_M_takeIn _ _ hw) (hts _ (List.mem_cons_of_mem _ wd_957)) (hts _ (List.mem_cons_of_mem _ wd_959)) (hts _ (List.mem_cons_of_mem _ ws_31)) rfl rfl rfl rfl rfl (Nat.le_refl _) (Nat.le_refl _) d_M_resolving_49 (bs_out htab hlocks) h, List.forall_mem_cons.mpr ⟨fun S h => bs_aload_n (Z := Z) hx hb rfl d_M_resolving_52 h, List.forall_mem_cons.mpr ⟨fun S h => bs_callV (Z := Z) (C := R_M) hBg hbs hB X0 hK (cn_M_solve htr (d + 0)) (cl_M_solve _ _ hw) (hts _ (List.mem_cons_of_mem _ wd_961)) (hts _ (List.mem_cons_of_mem _ wd_963)) (hts _ (List.mem_cons_of_mem _ ws_32)) rfl rfl rfl rfl rfl (Nat.le_refl _) (Nat.le_refl _) d_M_resolving_53 (bs_out htab hlocks) h, List.forall_mem_cons.mpr ⟨fun S h => bs_istore_n (Z := Z) hx hb rfl d_M_resolving_56 h, List.forall_mem_cons.mpr ⟨fun S h => bs_iload_n (Z := Z) hx hb rfl d_M_resolving_57 h, List.forall_mem_cons.mpr ⟨fun S h => bs_if_ne (Z := Z) hx hb d_M_resolving_58 (by decide) h, List.forall_mem_cons.mpr ⟨fun S h => bs_iconst (Z := Z) hx hb (by decide) d_M_resolving_61 h, List.forall_mem_cons.mpr ⟨fun S h => bs_istore_n (Z := Z) hx hb rfl d_M_resolving_62 h, List.forall_mem_cons.mpr ⟨fun S h => bs_iload_n (Z := Z) hx hb rfl d_M_resolving_63 h, List.forall_mem_cons.mpr ⟨fun S h => bs_bipush (Z := Z) hx hb (by decide) d_M_resolving_64 h, fun _ h => absurd h List.not_mem_nil⟩⟩⟩⟩⟩⟩⟩⟩⟩⟩⟩⟩⟩⟩⟩⟩⟩⟩⟩⟩⟩⟩⟩⟩⟩⟩⟩⟩⟩⟩⟩⟩⟩⟩⟩⟩⟩⟩⟩⟩
abbrev c_M_resolve : ByteArray := prog_10_method_28_code
def y_M_resolve : MethodName := ⟨"BundleHallModel", "resolve", "(I)I"⟩
theorem d_M_resolve_0 : decode c_M_resolve 0 = .ok (.aload_n 0, 1) := by decide +kernel
theorem d_M_resolve_1 : decode c_M_resolve 1 = .ok (.iconst 0, 1) := by decide +kernel
theorem d_M_resolve_2 : decode c_M_resolve 2 = .ok (.putfield 109, 3) := by decide +kernel
theorem d_M_resolve_5 : decode c_M_resolve 5 = .ok (.iload_n 1, 1) := by decide +kernel
theorem d_M_resolve_6 : decode c_M_resolve 6 = .ok (.invokestatic 126, 3) := by decide +kernel
theorem d_M_resolve_9 : decode c_M_resolve 9 = .ok (.ifCond .ne 9, 3) := by decide +kernel
theorem d_M_resolve_12 : decode c_M_resolve 12 = .ok (.aload_n 0, 1) := by decide +kernel
theorem d_M_resolve_13 : decode c_M_resolve 13 = .ok (.iconst 1, 1) := by decide +kernel
theorem d_M_resolve_14 : decode c_M_resolve 14 = .ok (.invokevirtual 130, 3) := by decide +kernel
theorem d_M_resolve_17 : decode c_M_resolve 17 = .ok (.ireturn, 1) := by decide +kernel
theorem d_M_resolve_18 : decode c_M_resolve 18 = .ok (.aload_n 0, 1) := by decide +kernel
theorem d_M_resolve_19 : decode c_M_resolve 19 = .ok (.getfield 7, 3) := by decide +kernel
theorem d_M_resolve_22 : decode c_M_resolve 22 = .ok (.iload_n 1, 1) := by decide +kernel
theorem d_M_resolve_23 : decode c_M_resolve 23 = .ok (.iaload, 1) := by decide +kernel
theorem d_M_resolve_24 : decode c_M_resolve 24 = .ok (.ifCond .ne 9, 3) := by decide +kernel
theorem d_M_resolve_27 : decode c_M_resolve 27 = .ok (.aload_n 0, 1) := by decide +kernel
theorem d_M_resolve_28 : decode c_M_resolve 28 = .ok (.iconst 2, 1) := by decide +kernel
theorem d_M_resolve_29 : decode c_M_resolve 29 = .ok (.invokevirtual 130, 3) := by decide +kernel
theorem d_M_resolve_32 : decode c_M_resolve 32 = .ok (.ireturn, 1) := by decide +kernel
theorem d_M_resolve_33 : decode c_M_resolve 33 = .ok (.aload_n 0, 1) := by decide +kernel
theorem d_M_resolve_34 : decode c_M_resolve 34 = .ok (.iload_n 1, 1) := by decide +kernel
theorem d_M_resolve_35 : decode c_M_resolve 35 = .ok (.invokevirtual 139, 3) := by decide +kernel
theorem d_M_resolve_38 : decode c_M_resolve 38 = .ok (.ifCond .eq 5, 3) := by decide +kernel
theorem d_M_resolve_41 : decode c_M_resolve 41 = .ok (.iconst 0, 1) := by decide +kernel
theorem d_M_resolve_42 : decode c_M_resolve 42 = .ok (.ireturn, 1) := by decide +kernel
theorem d_M_resolve_43 : decode c_M_resolve 43 = .ok (.aload_n 0, 1) := by decide +kernel
theorem d_M_resolve_44 : decode c_M_resolve 44 = .ok (.iload_n 1, 1) := by decide +kernel
theorem d_M_resolve_45 : decode c_M_resolve 45 = .ok (.invokevirtual 204, 3) := by decide +kernel
theorem d_M_resolve_48 : decode c_M_resolve 48 = .ok (.istore_n 2, 1) := by decide +kernel
theorem d_M_resolve_49 : decode c_M_resolve 49 = .ok (.iload_n 2, 1) := by decide +kernel
theorem d_M_resolve_50 : decode c_M_resolve 50 = .ok (.ifCond .ne 10, 3) := by decide +kernel
theorem d_M_resolve_53 : decode c_M_resolve 53 = .ok (.aload_n 0, 1) := by decide +kernel
theorem d_M_resolve_54 : decode c_M_resolve 54 = .ok (.getfield 194, 3) := by decide +kernel
theorem d_M_resolve_57 : decode c_M_resolve 57 = .ok (.goto 8, 3) := by decide +kernel
theorem d_M_resolve_60 : decode c_M_resolve 60 = .ok (.aload_n 0, 1) := by decide +kernel
theorem d_M_resolve_61 : decode c_M_resolve 61 = .ok (.iload_n 2, 1) := by decide +kernel
theorem d_M_resolve_62 : decode c_M_resolve 62 = .ok (.invokevirtual 130, 3) := by decide +kernel
theorem d_M_resolve_65 : decode c_M_resolve 65 = .ok (.ireturn, 1) := by decide +kernel
def T_M_resolve_0 : List (Nat × bh_Op) := [(0, bo_ald 1 0),
  (1, bo_st 2 (bg_push (.inl (.int 0)))),
  (2, bo_pI 5 40 0),
  (5, bo_ild 6 1),
  (6, bo_callS 9 1 0 0 F_M_isBundle),
  (9, bo_if1 12 18 (fun x => ¬ x = 0)),
  (12, bo_ald 13 0),
  (13, bo_st 14 (bg_push (.inl (.int 1)))),
  (14, bo_callV 17 2 0 0 40 F_M_raise),
  (17, bo_iret 0),
  (18, bo_ald 19 0),
  (19, bo_gR 22 40 1 41),
  (22, bo_ild 23 1),
  (23, bo_Iald bh_ak bh_al 24),
  (24, bo_if1 27 33 (fun x => ¬ x = 0)),
  (27, bo_ald 28 0),
  (28, bo_st 29 (bg_push (.inl (.int 2)))),
  (29, bo_callV 32 2 0 0 40 F_M_raise),
  (32, bo_iret 0),
  (33, bo_ald 34 0),
  (34, bo_ild 35 1),
  (35, bo_callV 38 2 0 0 40 F_M_live),
  (38, bo_if1 41 43 (fun x => x = 0)),
  (41, bo_st 42 (bg_push (.inl (.int 0)))),
  (42, bo_iret 0),
  (43, bo_ald 44 0),
  (44, bo_ild 45 1),
  (45, bo_callV 48 2 0 0 40 F_M_resolving),
  (48, bo_ist 49 2),
  (49, bo_ild 50 2),
  (50, bo_if1 53 60 (fun x => ¬ x = 0)),
  (53, bo_ald 54 0),
  (54, bo_gI 57 40 28),
  (57, bo_go 65),
  (60, bo_ald 61 0),
  (61, bo_ild 62 2),
  (62, bo_callV 65 2 0 0 40 F_M_raise),
  (65, bo_iret 0)]
def T_M_resolve : List (Nat × bh_Op) := T_M_resolve_0
set_option maxRecDepth 20000 in
theorem mT_M_resolve_0 : ∀ q ∈ T_M_resolve_0, bh_mono q.2 := List.forall_mem_cons.mpr ⟨bo_ald_m _ _, List.forall_mem_cons.mpr ⟨bo_st_mono (bg_push_m _), List.forall_mem_cons.mpr ⟨bo_pI_m _ _ _, List.forall_mem_cons.mpr ⟨bo_ild_m _ _, List.forall_mem_cons.mpr ⟨bo_callS_m (mF_M_isBundle) _ _ _ _, List.forall_mem_cons.mpr ⟨bo_if1_m _ _ _, List.forall_mem_cons.mpr ⟨bo_ald_m _ _, List.forall_mem_cons.mpr ⟨bo_st_mono (bg_push_m _), List.forall_mem_cons.mpr ⟨bo_callV_m (mF_M_raise) _ _ _ _ _, List.forall_mem_cons.mpr ⟨bo_iret_m _, List.forall_mem_cons.mpr ⟨bo_ald_m _ _, List.forall_mem_cons.mpr ⟨bo_gR_m _ _ _ _, List.forall_mem_cons.mpr ⟨bo_ild_m _ _, List.forall_mem_cons.mpr ⟨bo_Iald_m _ _ _, List.forall_mem_cons.mpr ⟨bo_if1_m _ _ _, List.forall_mem_cons.mpr ⟨bo_ald_m _ _, List.forall_mem_cons.mpr ⟨bo_st_mono (bg_push_m _), List.forall_mem_cons.mpr ⟨bo_callV_m (mF_M_raise) _ _ _ _ _, List.forall_mem_cons.mpr ⟨bo_iret_m _, List.forall_mem_cons.mpr ⟨bo_ald_m _ _, List.forall_mem_cons.mpr ⟨bo_ild_m _ _, List.forall_mem_cons.mpr ⟨bo_callV_m (mF_M_live) _ _ _ _ _, List.forall_mem_cons.mpr ⟨bo_if1_m _ _ _, List.forall_mem_cons.mpr ⟨bo_st_mono (bg_push_m _), List.forall_mem_cons.mpr ⟨bo_iret_m _, List.forall_mem_cons.mpr ⟨bo_ald_m _ _, List.forall_mem_cons.mpr ⟨bo_ild_m _ _, List.forall_mem_cons.mpr ⟨bo_callV_m (mF_M_resolving) _ _ _ _ _, List.forall_mem_cons.mpr ⟨bo_ist_m _ _, List.forall_mem_cons.mpr ⟨bo_ild_m _ _, List.forall_mem_cons.mpr ⟨bo_if1_m _ _ _, List.forall_mem_cons.mpr ⟨bo_ald_m _ _, List.forall_mem_cons.mpr ⟨bo_gI_m _ _ _, List.forall_mem_cons.mpr ⟨bo_go_m _, List.forall_mem_cons.mpr ⟨bo_ald_m _ _, List.forall_mem_cons.mpr ⟨bo_ild_m _ _, List.forall_mem_cons.mpr ⟨bo_callV_m (mF_M_raise) _ _ _ _ _, List.forall_mem_cons.mpr ⟨bo_iret_m _, fun _ h => absurd h List.not_mem_nil⟩⟩⟩⟩⟩⟩⟩⟩⟩⟩⟩⟩⟩⟩⟩⟩⟩⟩⟩⟩⟩⟩⟩⟩⟩⟩⟩⟩⟩⟩⟩⟩⟩⟩⟩⟩⟩⟩
theorem m_M_resolve : ∀ pc, bh_mono (bh_tb (T_M_resolve) pc) := bh_tb_m mT_M_resolve_0
def F_M_resolve : bh_Fn := bh_fn 3 (bh_tb T_M_resolve)
theorem mF_M_resolve : bh_monoF F_M_resolve := bh_fn_m m_M_resolve
theorem cl_M_resolve {s : State} {args : Array Value} (d B : Nat) (hts : ∀ w ∈ bh_ws, w.before args s = true) : bh_Cal (bh_rm (d + 1) B) s y_M_resolve 3 (.code y_M_resolve c_M_resolve 3 (some .int) :: bh_ws) (bh_rm d 0) 0 1 := bh_cal d B hts wd_944 wd_9 (by decide) (by decide +kernel)
set_option maxHeartbeats 4000000 in
set_option maxRecDepth 100000 in
theorem cn_M_resolve {l : Launch} {G : bh_G} {base sb L : Nat} {xs : Nat → Int32} (htr : l.stackTraces = false) (d : Nat) : bh_Con l G base (bh_Bg G base sb L xs) y_M_resolve (.code y_M_resolve c_M_resolve 3 (some .int) :: bh_ws) (bh_rm (d + 7) 0) 0 false F_M_resolve := by
  refine bh_method (cc := c_M_resolve) (ret := (some .int)) (by decide +kernel) rfl ?_
  intro p e s m args below meth c ad0 M0 Z X0 hr hlocks hname htab hbs hB
  obtain ⟨hx, hb, hml, hown, hts⟩ := id X0
  have hw : ∀ w ∈ bh_ws, w.before args s = true := fun w h => hts w (List.mem_cons_of_mem _ h)
  have hBg := bh_BgK (G := G) (base := base) (sb := sb) (L := L) (xs := xs)
  obtain ⟨hK, hAr, hen, hinj, hu1, hu2, hstr, hX, hsb, hsc, hxw, hao, hnc⟩ := id hB
  obtain ⟨ha1, ha2, ha3, ha4, ha5, ha6, ha0⟩ := bh_arr hAr
  exact List.forall_mem_cons.mpr ⟨fun S h => bs_aload_n (Z := Z) hx hb rfl d_M_resolve_0 h, List.forall_mem_cons.mpr ⟨fun S h => bs_iconst (Z := Z) hx hb (by decide) d_M_resolve_1 h, List.forall_mem_cons.mpr ⟨fun S h => bs_pI (Z := Z) (C := R_M) (T := F_M) (N := 40) (t := 40) (j := 0) hx hb hK hts (fun w h => List.mem_cons_of_mem _ (iw_M w h)) hown rfl rfl (by decide) (hts _ (List.mem_cons_of_mem _ wd_784)) (fun _ h => h) rfl rfl t_M t_M_ok n_M rfl (by decide +kernel) rfl d_M_resolve_2 h, List.forall_mem_cons.mpr ⟨fun S h => bs_iload_n (Z := Z) hx hb rfl d_M_resolve_5 h, List.forall_mem_cons.mpr ⟨fun S h => bs_callS (Z := Z) hBg hbs hB X0 (cn_M_isBundle htr (d + 4)) (cl_M_isBundle _ _ hw) (hts _ (List.mem_cons_of_mem _ wd_915)) (hts _ (List.mem_cons_of_mem _ wd_916)) (Nat.le_refl _) (Nat.le_refl _) d_M_resolve_6 (bs_out htab hlocks) h, List.forall_mem_cons.mpr ⟨fun S h => bs_if_ne (Z := Z) hx hb d_M_resolve_9 (by decide) h, List.forall_mem_cons.mpr ⟨fun S h => bs_aload_n (Z := Z) hx hb rfl d_M_resolve_12 h, List.forall_mem_cons.mpr ⟨fun S h => bs_iconst (Z := Z) hx hb (by decide) d_M_resolve_13 h, List.forall_mem_cons.mpr ⟨fun S h => bs_callV (Z := Z) (C := R_M) hBg hbs hB X0 hK (cn_M_raise htr (d + 5)) (cl_M_raise _ _ hw) (hts _ (List.mem_cons_of_mem _ wd_921)) (hts _ (List.mem_cons_of_mem _ wd_923)) (hts _ (List.mem_cons_of_mem _ ws_25)) rfl rfl rfl rfl rfl (Nat.le_refl _) (Nat.le_refl _) d_M_resolve_14 (bs_out htab hlocks) h, List.forall_mem_cons.mpr ⟨fun S h => bs_iret (Z := Z) hx hb hr hlocks d_M_resolve_17 h, List.forall_mem_cons.mpr ⟨fun S h => bs_aload_n (Z := Z) hx hb rfl d_M_resolve_18 h, List.forall_mem_cons.mpr ⟨fun S h => bs_gR (Z := Z) (C := R_M) (T := F_M) (N := 40) (t := 40) (j := 1) hx hb hK hts (fun w h => List.mem_cons_of_mem _ (iw_M w h)) hown rfl rfl (by decide) (hts _ (List.mem_cons_of_mem _ wd_785)) (fun _ h => h) rfl rfl rfl d_M_resolve_19 h, List.forall_mem_cons.mpr ⟨fun S h => bs_iload_n (Z := Z) hx hb rfl d_M_resolve_22 h, List.forall_mem_cons.mpr ⟨fun S h => bs_Iald (Z := Z) hx hb ha1 d_M_resolve_23 h, List.forall_mem_cons.mpr ⟨fun S h => bs_if_ne (Z := Z) hx hb d_M_resolve_24 (by decide) h, List.forall_mem_cons.mpr ⟨fun S h => bs_aload_n (Z := Z) hx hb rfl d_M_resolve_27 h, List.forall_mem_cons.mpr ⟨fun S h => bs_iconst (Z := Z) hx hb (by decide) d_M_resolve_28 h, List.forall_mem_cons.mpr ⟨fun S h => bs_callV (Z := Z) (C := R_M) hBg hbs hB X0 hK (cn_M_raise htr (d + 5)) (cl_M_raise _ _ hw) (hts _ (List.mem_cons_of_mem _ wd_921)) (hts _ (List.mem_cons_of_mem _ wd_923)) (hts _ (List.mem_cons_of_mem _ ws_25)) rfl rfl rfl rfl rfl (Nat.le_refl _) (Nat.le_refl _) d_M_resolve_29 (bs_out htab hlocks) h, List.forall_mem_cons.mpr ⟨fun S h => bs_iret (Z := Z) hx hb hr hlocks d_M_resolve_32 h, List.forall_mem_cons.mpr ⟨fun S h => bs_aload_n (Z := Z) hx hb rfl d_M_resolve_33 h, List.forall_mem_cons.mpr ⟨fun S h => bs_iload_n (Z := Z) hx hb rfl d_M_resolve_34 h, List.forall_mem_cons.mpr ⟨fun S h => bs_callV (Z := Z) (C := R_M) hBg hbs hB X0 hK (cn_M_live htr (d + 5)) (cl_M_live _ _ hw) (hts _ (List.mem_cons_of_mem _ wd_945)) (hts _ (List.mem_cons_of_mem _ wd_947)) (hts _ (List.mem_cons_of_mem _ ws_28)) rfl rfl rfl rfl rfl (Nat.le_refl _) (Nat.le_refl _) d_M_resolve_35 (bs_out htab hlocks) h, List.forall_mem_cons.mpr ⟨fun S h => bs_if_eq (Z := Z) hx hb d_M_resolve_38 (by decide) h, List.forall_mem_cons.mpr ⟨fun S h => bs_iconst (Z := Z) hx hb (by decide) d_M_resolve_41 h, List.forall_mem_cons.mpr ⟨fun S h => bs_iret (Z := Z) hx hb hr hlocks d_M_resolve_42 h, List.forall_mem_cons.mpr ⟨fun S h => bs_aload_n (Z := Z) hx hb rfl d_M_resolve_43 h, List.forall_mem_cons.mpr ⟨fun S h => bs_iload_n (Z := Z) hx hb rfl d_M_resolve_44 h, List.forall_mem_cons.mpr ⟨fun S h => bs_callV (Z := Z) (C := R_M) hBg hbs hB X0 hK (cn_M_resolving htr (d + 0)) (cl_M_resolving _ _ hw) (hts _ (List.mem_cons_of_mem _ wd_949)) (hts _ (List.mem_cons_of_mem _ wd_951)) (hts _ (List.mem_cons_of_mem _ ws_29)) rfl rfl rfl rfl rfl (Nat.le_refl _) (Nat.le_refl _) d_M_resolve_45 (bs_out htab hlocks) h, List.forall_mem_cons.mpr ⟨fun S h => bs_istore_n (Z := Z) hx hb rfl d_M_resolve_48 h, List.forall_mem_cons.mpr ⟨fun S h => bs_iload_n (Z := Z) hx hb rfl d_M_resolve_49 h, List.forall_mem_cons.mpr ⟨fun S h => bs_if_ne (Z := Z) hx hb d_M_resolve_50 (by decide) h, List.forall_mem_cons.mpr ⟨fun S h => bs_aload_n (Z := Z) hx hb rfl d_M_resolve_53 h, List.forall_mem_cons.mpr ⟨fun S h => bs_gI (Z := Z) (C := R_M) (T := F_M) (N := 40) (t := 40) (j := 28) hx hb hK hts (fun w h => List.mem_cons_of_mem _ (iw_M w h)) hown rfl rfl (by decide) (hts _ (List.mem_cons_of_mem _ wd_812)) (fun _ h => h) rfl rfl rfl d_M_resolve_54 h, List.forall_mem_cons.mpr ⟨fun S h => bs_goto (Z := Z) hx hb d_M_resolve_57 (by decide) h, List.forall_mem_cons.mpr ⟨fun S h => bs_aload_n (Z := Z) hx hb rfl d_M_resolve_60 h, List.forall_mem_cons.mpr ⟨fun S h => bs_iload_n (Z := Z) hx hb rfl d_M_resolve_61 h, List.forall_mem_cons.mpr ⟨fun S h => bs_callV (Z := Z) (C := R_M) hBg hbs hB X0 hK (cn_M_raise htr (d + 5)) (cl_M_raise _ _ hw) (hts _ (List.mem_cons_of_mem _ wd_921)) (hts _ (List.mem_cons_of_mem _ wd_923)) (hts _ (List.mem_cons_of_mem _ ws_25)) rfl rfl rfl rfl rfl (Nat.le_refl _) (Nat.le_refl _) d_M_resolve_62 (bs_out htab hlocks) h, List.forall_mem_cons.mpr ⟨fun S h => bs_iret (Z := Z) hx hb hr hlocks d_M_resolve_65 h, fun _ h => absurd h List.not_mem_nil⟩⟩⟩⟩⟩⟩⟩⟩⟩⟩⟩⟩⟩⟩⟩⟩⟩⟩⟩⟩⟩⟩⟩⟩⟩⟩⟩⟩⟩⟩⟩⟩⟩⟩⟩⟩⟩⟩
abbrev c_M_note : ByteArray := prog_10_method_6_code
def y_M_note : MethodName := ⟨"BundleHallModel", "note", "(I)V"⟩
theorem d_M_note_0 : decode c_M_note 0 = .ok (.aload_n 0, 1) := by decide +kernel
theorem d_M_note_1 : decode c_M_note 1 = .ok (.getfield 116, 3) := by decide +kernel
theorem d_M_note_4 : decode c_M_note 4 = .ok (.bipush 10, 2) := by decide +kernel
theorem d_M_note_6 : decode c_M_note 6 = .ok (.if_icmp .ne 14, 3) := by decide +kernel
theorem d_M_note_9 : decode c_M_note 9 = .ok (.aload_n 0, 1) := by decide +kernel
theorem d_M_note_10 : decode c_M_note 10 = .ok (.dup, 1) := by decide +kernel
theorem d_M_note_11 : decode c_M_note 11 = .ok (.getfield 119, 3) := by decide +kernel
theorem d_M_note_14 : decode c_M_note 14 = .ok (.iconst 1, 1) := by decide +kernel
theorem d_M_note_15 : decode c_M_note 15 = .ok (.iadd, 1) := by decide +kernel
theorem d_M_note_16 : decode c_M_note 16 = .ok (.putfield 119, 3) := by decide +kernel
theorem d_M_note_19 : decode c_M_note 19 = .ok (.return_, 1) := by decide +kernel
theorem d_M_note_20 : decode c_M_note 20 = .ok (.aload_n 0, 1) := by decide +kernel
theorem d_M_note_21 : decode c_M_note 21 = .ok (.getfield 100, 3) := by decide +kernel
theorem d_M_note_24 : decode c_M_note 24 = .ok (.aload_n 0, 1) := by decide +kernel
theorem d_M_note_25 : decode c_M_note 25 = .ok (.getfield 116, 3) := by decide +kernel
theorem d_M_note_28 : decode c_M_note 28 = .ok (.iload_n 1, 1) := by decide +kernel
theorem d_M_note_29 : decode c_M_note 29 = .ok (.iastore, 1) := by decide +kernel
theorem d_M_note_30 : decode c_M_note 30 = .ok (.aload_n 0, 1) := by decide +kernel
theorem d_M_note_31 : decode c_M_note 31 = .ok (.dup, 1) := by decide +kernel
theorem d_M_note_32 : decode c_M_note 32 = .ok (.getfield 116, 3) := by decide +kernel
theorem d_M_note_35 : decode c_M_note 35 = .ok (.iconst 1, 1) := by decide +kernel
theorem d_M_note_36 : decode c_M_note 36 = .ok (.iadd, 1) := by decide +kernel
theorem d_M_note_37 : decode c_M_note 37 = .ok (.putfield 116, 3) := by decide +kernel
theorem d_M_note_40 : decode c_M_note 40 = .ok (.return_, 1) := by decide +kernel
def T_M_note_0 : List (Nat × bh_Op) := [(0, bo_ald 1 0),
  (1, bo_gI 4 40 37),
  (4, bo_st 6 (bg_push (.inl (.int 10)))),
  (6, bo_if2 9 20 (fun x y => ¬ x = y)),
  (9, bo_ald 10 0),
  (10, bo_st 11 bg_dup),
  (11, bo_gI 14 40 38),
  (14, bo_st 15 (bg_push (.inl (.int 1)))),
  (15, bo_st 16 (bg_ii (fun x y => x + y))),
  (16, bo_pI 19 40 38),
  (19, bo_vret 0),
  (20, bo_ald 21 0),
  (21, bo_gR 24 40 36 70),
  (24, bo_ald 25 0),
  (25, bo_gI 28 40 37),
  (28, bo_ild 29 1),
  (29, bo_Iast bh_ak bh_al 30),
  (30, bo_ald 31 0),
  (31, bo_st 32 bg_dup),
  (32, bo_gI 35 40 37),
  (35, bo_st 36 (bg_push (.inl (.int 1)))),
  (36, bo_st 37 (bg_ii (fun x y => x + y))),
  (37, bo_pI 40 40 37),
  (40, bo_vret 0)]
def T_M_note : List (Nat × bh_Op) := T_M_note_0
set_option maxRecDepth 20000 in
theorem mT_M_note_0 : ∀ q ∈ T_M_note_0, bh_mono q.2 := List.forall_mem_cons.mpr ⟨bo_ald_m _ _, List.forall_mem_cons.mpr ⟨bo_gI_m _ _ _, List.forall_mem_cons.mpr ⟨bo_st_mono (bg_push_m _), List.forall_mem_cons.mpr ⟨bo_if2_m _ _ _, List.forall_mem_cons.mpr ⟨bo_ald_m _ _, List.forall_mem_cons.mpr ⟨bo_st_mono bg_dup_m, List.forall_mem_cons.mpr ⟨bo_gI_m _ _ _, List.forall_mem_cons.mpr ⟨bo_st_mono (bg_push_m _), List.forall_mem_cons.mpr ⟨bo_st_mono (bg_ii_m _), List.forall_mem_cons.mpr ⟨bo_pI_m _ _ _, List.forall_mem_cons.mpr ⟨bo_vret_m _, List.forall_mem_cons.mpr ⟨bo_ald_m _ _, List.forall_mem_cons.mpr ⟨bo_gR_m _ _ _ _, List.forall_mem_cons.mpr ⟨bo_ald_m _ _, List.forall_mem_cons.mpr ⟨bo_gI_m _ _ _, List.forall_mem_cons.mpr ⟨bo_ild_m _ _, List.forall_mem_cons.mpr ⟨bo_Iast_m _ _ _, List.forall_mem_cons.mpr ⟨bo_ald_m _ _, List.forall_mem_cons.mpr ⟨bo_st_mono bg_dup_m, List.forall_mem_cons.mpr ⟨bo_gI_m _ _ _, List.forall_mem_cons.mpr ⟨bo_st_mono (bg_push_m _), List.forall_mem_cons.mpr ⟨bo_st_mono (bg_ii_m _), List.forall_mem_cons.mpr ⟨bo_pI_m _ _ _, List.forall_mem_cons.mpr ⟨bo_vret_m _, fun _ h => absurd h List.not_mem_nil⟩⟩⟩⟩⟩⟩⟩⟩⟩⟩⟩⟩⟩⟩⟩⟩⟩⟩⟩⟩⟩⟩⟩⟩
theorem m_M_note : ∀ pc, bh_mono (bh_tb (T_M_note) pc) := bh_tb_m mT_M_note_0
def F_M_note : bh_Fn := bh_fn 2 (bh_tb T_M_note)
theorem mF_M_note : bh_monoF F_M_note := bh_fn_m m_M_note
theorem cl_M_note {s : State} {args : Array Value} (d B : Nat) (hts : ∀ w ∈ bh_ws, w.before args s = true) : bh_Cal (bh_rm (d + 1) B) s y_M_note 2 (.code y_M_note c_M_note 2 none :: bh_ws) (bh_rm d 0) 0 1 := bh_cal d B hts wd_1029 wd_9 (by decide) (by decide +kernel)
set_option maxHeartbeats 4000000 in
set_option maxRecDepth 100000 in
theorem cn_M_note {l : Launch} {G : bh_G} {base sb L : Nat} {xs : Nat → Int32} (htr : l.stackTraces = false) (d : Nat) : bh_Con l G base (bh_Bg G base sb L xs) y_M_note (.code y_M_note c_M_note 2 none :: bh_ws) (bh_rm (d + 1) 0) 0 false F_M_note := by
  refine bh_method (cc := c_M_note) (ret := none) (by decide +kernel) rfl ?_
  intro p e s m args below meth c ad0 M0 Z X0 hr hlocks hname htab hbs hB
  obtain ⟨hx, hb, hml, hown, hts⟩ := id X0
  have hw : ∀ w ∈ bh_ws, w.before args s = true := fun w h => hts w (List.mem_cons_of_mem _ h)
  have hBg := bh_BgK (G := G) (base := base) (sb := sb) (L := L) (xs := xs)
  obtain ⟨hK, hAr, hen, hinj, hu1, hu2, hstr, hX, hsb, hsc, hxw, hao, hnc⟩ := id hB
  obtain ⟨ha1, ha2, ha3, ha4, ha5, ha6, ha0⟩ := bh_arr hAr
  exact List.forall_mem_cons.mpr ⟨fun S h => bs_aload_n (Z := Z) hx hb rfl d_M_note_0 h, List.forall_mem_cons.mpr ⟨fun S h => bs_gI (Z := Z) (C := R_M) (T := F_M) (N := 40) (t := 40) (j := 37) hx hb hK hts (fun w h => List.mem_cons_of_mem _ (iw_M w h)) hown rfl rfl (by decide) (hts _ (List.mem_cons_of_mem _ wd_821)) (fun _ h => h) rfl rfl rfl d_M_note_1 h, List.forall_mem_cons.mpr ⟨fun S h => bs_bipush (Z := Z) hx hb (by decide) d_M_note_4 h, List.forall_mem_cons.mpr ⟨fun S h => bs_icmp_ne (Z := Z) hx hb d_M_note_6 (by decide) h, List.forall_mem_cons.mpr ⟨fun S h => bs_aload_n (Z := Z) hx hb rfl d_M_note_9 h, List.forall_mem_cons.mpr ⟨fun S h => bs_dup (Z := Z) hx hb d_M_note_10 h, List.forall_mem_cons.mpr ⟨fun S h => bs_gI (Z := Z) (C := R_M) (T := F_M) (N := 40) (t := 40) (j := 38) hx hb hK hts (fun w h => List.mem_cons_of_mem _ (iw_M w h)) hown rfl rfl (by decide) (hts _ (List.mem_cons_of_mem _ wd_822)) (fun _ h => h) rfl rfl rfl d_M_note_11 h, List.forall_mem_cons.mpr ⟨fun S h => bs_iconst (Z := Z) hx hb (by decide) d_M_note_14 h, List.forall_mem_cons.mpr ⟨fun S h => bs_iadd (Z := Z) hx hb d_M_note_15 h, List.forall_mem_cons.mpr ⟨fun S h => bs_pI (Z := Z) (C := R_M) (T := F_M) (N := 40) (t := 40) (j := 38) hx hb hK hts (fun w h => List.mem_cons_of_mem _ (iw_M w h)) hown rfl rfl (by decide) (hts _ (List.mem_cons_of_mem _ wd_822)) (fun _ h => h) rfl rfl t_M t_M_ok n_M rfl (by decide +kernel) rfl d_M_note_16 h, List.forall_mem_cons.mpr ⟨fun S h => bs_vret (Z := Z) hx hb hr hlocks d_M_note_19 h, List.forall_mem_cons.mpr ⟨fun S h => bs_aload_n (Z := Z) hx hb rfl d_M_note_20 h, List.forall_mem_cons.mpr ⟨fun S h => bs_gR (Z := Z) (C := R_M) (T := F_M) (N := 40) (t := 40) (j := 36) hx hb hK hts (fun w h => List.mem_cons_of_mem _ (iw_M w h)) hown rfl rfl (by decide) (hts _ (List.mem_cons_of_mem _ wd_820)) (fun _ h => h) rfl rfl rfl d_M_note_21 h, List.forall_mem_cons.mpr ⟨fun S h => bs_aload_n (Z := Z) hx hb rfl d_M_note_24 h, List.forall_mem_cons.mpr ⟨fun S h => bs_gI (Z := Z) (C := R_M) (T := F_M) (N := 40) (t := 40) (j := 37) hx hb hK hts (fun w h => List.mem_cons_of_mem _ (iw_M w h)) hown rfl rfl (by decide) (hts _ (List.mem_cons_of_mem _ wd_821)) (fun _ h => h) rfl rfl rfl d_M_note_25 h, List.forall_mem_cons.mpr ⟨fun S h => bs_iload_n (Z := Z) hx hb rfl d_M_note_28 h, List.forall_mem_cons.mpr ⟨fun S h => bs_Iast (Z := Z) hx hb ha1 d_M_note_29 h, List.forall_mem_cons.mpr ⟨fun S h => bs_aload_n (Z := Z) hx hb rfl d_M_note_30 h, List.forall_mem_cons.mpr ⟨fun S h => bs_dup (Z := Z) hx hb d_M_note_31 h, List.forall_mem_cons.mpr ⟨fun S h => bs_gI (Z := Z) (C := R_M) (T := F_M) (N := 40) (t := 40) (j := 37) hx hb hK hts (fun w h => List.mem_cons_of_mem _ (iw_M w h)) hown rfl rfl (by decide) (hts _ (List.mem_cons_of_mem _ wd_821)) (fun _ h => h) rfl rfl rfl d_M_note_32 h, List.forall_mem_cons.mpr ⟨fun S h => bs_iconst (Z := Z) hx hb (by decide) d_M_note_35 h, List.forall_mem_cons.mpr ⟨fun S h => bs_iadd (Z := Z) hx hb d_M_note_36 h, List.forall_mem_cons.mpr ⟨fun S h => bs_pI (Z := Z) (C := R_M) (T := F_M) (N := 40) (t := 40) (j := 37) hx hb hK hts (fun w h => List.mem_cons_of_mem _ (iw_M w h)) hown rfl rfl (by decide) (hts _ (List.mem_cons_of_mem _ wd_821)) (fun _ h => h) rfl rfl t_M t_M_ok n_M rfl (by decide +kernel) rfl d_M_note_37 h, List.forall_mem_cons.mpr ⟨fun S h => bs_vret (Z := Z) hx hb hr hlocks d_M_note_40 h, fun _ h => absurd h List.not_mem_nil⟩⟩⟩⟩⟩⟩⟩⟩⟩⟩⟩⟩⟩⟩⟩⟩⟩⟩⟩⟩⟩⟩⟩⟩
abbrev c_M_put : ByteArray := prog_10_method_29_code
def y_M_put : MethodName := ⟨"BundleHallModel", "put", "(IID)I"⟩
theorem d_M_put_0 : decode c_M_put 0 = .ok (.aload_n 0, 1) := by decide +kernel
theorem d_M_put_1 : decode c_M_put 1 = .ok (.getfield 207, 3) := by decide +kernel
theorem d_M_put_4 : decode c_M_put 4 = .ok (.istore 5, 2) := by decide +kernel
theorem d_M_put_6 : decode c_M_put 6 = .ok (.aload_n 0, 1) := by decide +kernel
theorem d_M_put_7 : decode c_M_put 7 = .ok (.getfield 84, 3) := by decide +kernel
theorem d_M_put_10 : decode c_M_put 10 = .ok (.iload 5, 2) := by decide +kernel
theorem d_M_put_12 : decode c_M_put 12 = .ok (.aload_n 0, 1) := by decide +kernel
theorem d_M_put_13 : decode c_M_put 13 = .ok (.getfield 210, 3) := by decide +kernel
theorem d_M_put_16 : decode c_M_put 16 = .ok (.iastore, 1) := by decide +kernel
theorem d_M_put_17 : decode c_M_put 17 = .ok (.aload_n 0, 1) := by decide +kernel
theorem d_M_put_18 : decode c_M_put 18 = .ok (.getfield 87, 3) := by decide +kernel
theorem d_M_put_21 : decode c_M_put 21 = .ok (.iload 5, 2) := by decide +kernel
theorem d_M_put_23 : decode c_M_put 23 = .ok (.iload_n 1, 1) := by decide +kernel
theorem d_M_put_24 : decode c_M_put 24 = .ok (.iastore, 1) := by decide +kernel
theorem d_M_put_25 : decode c_M_put 25 = .ok (.aload_n 0, 1) := by decide +kernel
theorem d_M_put_26 : decode c_M_put 26 = .ok (.getfield 90, 3) := by decide +kernel
theorem d_M_put_29 : decode c_M_put 29 = .ok (.iload 5, 2) := by decide +kernel
theorem d_M_put_31 : decode c_M_put 31 = .ok (.iload_n 2, 1) := by decide +kernel
theorem d_M_put_32 : decode c_M_put 32 = .ok (.iastore, 1) := by decide +kernel
theorem d_M_put_33 : decode c_M_put 33 = .ok (.aload_n 0, 1) := by decide +kernel
theorem d_M_put_34 : decode c_M_put 34 = .ok (.getfield 93, 3) := by decide +kernel
theorem d_M_put_37 : decode c_M_put 37 = .ok (.iload 5, 2) := by decide +kernel
theorem d_M_put_39 : decode c_M_put 39 = .ok (.dload_n 3, 1) := by decide +kernel
theorem d_M_put_40 : decode c_M_put 40 = .ok (.dastore, 1) := by decide +kernel
theorem d_M_put_41 : decode c_M_put 41 = .ok (.iconst 0, 1) := by decide +kernel
theorem d_M_put_42 : decode c_M_put 42 = .ok (.istore 6, 2) := by decide +kernel
theorem d_M_put_44 : decode c_M_put 44 = .ok (.iload 6, 2) := by decide +kernel
theorem d_M_put_46 : decode c_M_put 46 = .ok (.bipush 8, 2) := by decide +kernel
theorem d_M_put_48 : decode c_M_put 48 = .ok (.if_icmp .ge 23, 3) := by decide +kernel
theorem d_M_put_51 : decode c_M_put 51 = .ok (.aload_n 0, 1) := by decide +kernel
theorem d_M_put_52 : decode c_M_put 52 = .ok (.getfield 97, 3) := by decide +kernel
theorem d_M_put_55 : decode c_M_put 55 = .ok (.bipush 8, 2) := by decide +kernel
theorem d_M_put_57 : decode c_M_put 57 = .ok (.iload 5, 2) := by decide +kernel
theorem d_M_put_59 : decode c_M_put 59 = .ok (.imul, 1) := by decide +kernel
theorem d_M_put_60 : decode c_M_put 60 = .ok (.iload 6, 2) := by decide +kernel
theorem d_M_put_62 : decode c_M_put 62 = .ok (.iadd, 1) := by decide +kernel
theorem d_M_put_63 : decode c_M_put 63 = .ok (.iconst 0, 1) := by decide +kernel
theorem d_M_put_64 : decode c_M_put 64 = .ok (.iastore, 1) := by decide +kernel
theorem d_M_put_65 : decode c_M_put 65 = .ok (.iinc 6 1, 3) := by decide +kernel
theorem d_M_put_68 : decode c_M_put 68 = .ok (.goto (-24), 3) := by decide +kernel
theorem d_M_put_71 : decode c_M_put 71 = .ok (.aload_n 0, 1) := by decide +kernel
theorem d_M_put_72 : decode c_M_put 72 = .ok (.dup, 1) := by decide +kernel
theorem d_M_put_73 : decode c_M_put 73 = .ok (.getfield 207, 3) := by decide +kernel
theorem d_M_put_76 : decode c_M_put 76 = .ok (.iconst 1, 1) := by decide +kernel
theorem d_M_put_77 : decode c_M_put 77 = .ok (.iadd, 1) := by decide +kernel
theorem d_M_put_78 : decode c_M_put 78 = .ok (.putfield 207, 3) := by decide +kernel
theorem d_M_put_81 : decode c_M_put 81 = .ok (.aload_n 0, 1) := by decide +kernel
theorem d_M_put_82 : decode c_M_put 82 = .ok (.dup, 1) := by decide +kernel
theorem d_M_put_83 : decode c_M_put 83 = .ok (.getfield 210, 3) := by decide +kernel
theorem d_M_put_86 : decode c_M_put 86 = .ok (.iconst 1, 1) := by decide +kernel
theorem d_M_put_87 : decode c_M_put 87 = .ok (.iadd, 1) := by decide +kernel
theorem d_M_put_88 : decode c_M_put 88 = .ok (.putfield 210, 3) := by decide +kernel
theorem d_M_put_91 : decode c_M_put 91 = .ok (.aload_n 0, 1) := by decide +kernel
theorem d_M_put_92 : decode c_M_put 92 = .ok (.sipush 300, 3) := by decide +kernel
theorem d_M_put_95 : decode c_M_put 95 = .ok (.aload_n 0, 1) := by decide +kernel
theorem d_M_put_96 : decode c_M_put 96 = .ok (.getfield 84, 3) := by decide +kernel
theorem d_M_put_99 : decode c_M_put 99 = .ok (.iload 5, 2) := by decide +kernel
theorem d_M_put_101 : decode c_M_put 101 = .ok (.iaload, 1) := by decide +kernel
theorem d_M_put_102 : decode c_M_put 102 = .ok (.bipush 100, 2) := by decide +kernel
theorem d_M_put_104 : decode c_M_put 104 = .ok (.irem, 1) := by decide +kernel
theorem d_M_put_105 : decode c_M_put 105 = .ok (.iadd, 1) := by decide +kernel
theorem d_M_put_106 : decode c_M_put 106 = .ok (.invokevirtual 213, 3) := by decide +kernel
theorem d_M_put_109 : decode c_M_put 109 = .ok (.aload_n 0, 1) := by decide +kernel
theorem d_M_put_110 : decode c_M_put 110 = .ok (.getfield 84, 3) := by decide +kernel
theorem d_M_put_113 : decode c_M_put 113 = .ok (.iload 5, 2) := by decide +kernel
theorem d_M_put_115 : decode c_M_put 115 = .ok (.iaload, 1) := by decide +kernel
theorem d_M_put_116 : decode c_M_put 116 = .ok (.ireturn, 1) := by decide +kernel
def T_M_put_0 : List (Nat × bh_Op) := [(0, bo_ald 1 0),
  (1, bo_gI 4 40 34),
  (4, bo_ist 6 5),
  (6, bo_ald 7 0),
  (7, bo_gR 10 40 29 65),
  (10, bo_ild 12 5),
  (12, bo_ald 13 0),
  (13, bo_gI 16 40 35),
  (16, bo_Iast bh_ak bh_al 17),
  (17, bo_ald 18 0),
  (18, bo_gR 21 40 30 66),
  (21, bo_ild 23 5),
  (23, bo_ild 24 1),
  (24, bo_Iast bh_ak bh_al 25),
  (25, bo_ald 26 0),
  (26, bo_gR 29 40 31 67),
  (29, bo_ild 31 5),
  (31, bo_ild 32 2),
  (32, bo_Iast bh_ak bh_al 33),
  (33, bo_ald 34 0),
  (34, bo_gR 37 40 32 68),
  (37, bo_ild 39 5),
  (39, bo_dld 40 3),
  (40, bo_Dast bh_ak bh_al 41),
  (41, bo_st 42 (bg_push (.inl (.int 0)))),
  (42, bo_ist 44 6),
  (44, bo_ild 46 6),
  (46, bo_st 48 (bg_push (.inl (.int 8)))),
  (48, bo_if2 51 71 (fun x y => y ≤ x)),
  (51, bo_ald 52 0),
  (52, bo_gR 55 40 33 69),
  (55, bo_st 57 (bg_push (.inl (.int 8)))),
  (57, bo_ild 59 5),
  (59, bo_st 60 (bg_ii (fun x y => x * y))),
  (60, bo_ild 62 6),
  (62, bo_st 63 (bg_ii (fun x y => x + y))),
  (63, bo_st 64 (bg_push (.inl (.int 0)))),
  (64, bo_Iast bh_ak bh_al 65),
  (65, bo_inc 68 6 1),
  (68, bo_go 44)]
def T_M_put_1 : List (Nat × bh_Op) := [(71, bo_ald 72 0),
  (72, bo_st 73 bg_dup),
  (73, bo_gI 76 40 34),
  (76, bo_st 77 (bg_push (.inl (.int 1)))),
  (77, bo_st 78 (bg_ii (fun x y => x + y))),
  (78, bo_pI 81 40 34),
  (81, bo_ald 82 0),
  (82, bo_st 83 bg_dup),
  (83, bo_gI 86 40 35),
  (86, bo_st 87 (bg_push (.inl (.int 1)))),
  (87, bo_st 88 (bg_ii (fun x y => x + y))),
  (88, bo_pI 91 40 35),
  (91, bo_ald 92 0),
  (92, bo_st 95 (bg_push (.inl (.int 300)))),
  (95, bo_ald 96 0),
  (96, bo_gR 99 40 29 65),
  (99, bo_ild 101 5),
  (101, bo_Iald bh_ak bh_al 102),
  (102, bo_st 104 (bg_push (.inl (.int 100)))),
  (104, bo_st 105 (bg_dv (fun x y => x - x / y * y))),
  (105, bo_st 106 (bg_ii (fun x y => x + y))),
  (106, bo_callV 109 2 0 0 40 F_M_note),
  (109, bo_ald 110 0),
  (110, bo_gR 113 40 29 65),
  (113, bo_ild 115 5),
  (115, bo_Iald bh_ak bh_al 116),
  (116, bo_iret 0)]
def T_M_put : List (Nat × bh_Op) := T_M_put_0 ++ T_M_put_1
set_option maxRecDepth 20000 in
theorem mT_M_put_0 : ∀ q ∈ T_M_put_0, bh_mono q.2 := List.forall_mem_cons.mpr ⟨bo_ald_m _ _, List.forall_mem_cons.mpr ⟨bo_gI_m _ _ _, List.forall_mem_cons.mpr ⟨bo_ist_m _ _, List.forall_mem_cons.mpr ⟨bo_ald_m _ _, List.forall_mem_cons.mpr ⟨bo_gR_m _ _ _ _, List.forall_mem_cons.mpr ⟨bo_ild_m _ _, List.forall_mem_cons.mpr ⟨bo_ald_m _ _, List.forall_mem_cons.mpr ⟨bo_gI_m _ _ _, List.forall_mem_cons.mpr ⟨bo_Iast_m _ _ _, List.forall_mem_cons.mpr ⟨bo_ald_m _ _, List.forall_mem_cons.mpr ⟨bo_gR_m _ _ _ _, List.forall_mem_cons.mpr ⟨bo_ild_m _ _, List.forall_mem_cons.mpr ⟨bo_ild_m _ _, List.forall_mem_cons.mpr ⟨bo_Iast_m _ _ _, List.forall_mem_cons.mpr ⟨bo_ald_m _ _, List.forall_mem_cons.mpr ⟨bo_gR_m _ _ _ _, List.forall_mem_cons.mpr ⟨bo_ild_m _ _, List.forall_mem_cons.mpr ⟨bo_ild_m _ _, List.forall_mem_cons.mpr ⟨bo_Iast_m _ _ _, List.forall_mem_cons.mpr ⟨bo_ald_m _ _, List.forall_mem_cons.mpr ⟨bo_gR_m _ _ _ _, List.forall_mem_cons.mpr ⟨bo_ild_m _ _, List.forall_mem_cons.mpr ⟨bo_dld_m _ _, List.forall_mem_cons.mpr ⟨bo_Dast_m _ _ _, List.forall_mem_cons.mpr ⟨bo_st_mono (bg_push_m _), List.forall_mem_cons.mpr ⟨bo_ist_m _ _, List.forall_mem_cons.mpr ⟨bo_ild_m _ _, List.forall_mem_cons.mpr ⟨bo_st_mono (bg_push_m _), List.forall_mem_cons.mpr ⟨bo_if2_m _ _ _, List.forall_mem_cons.mpr ⟨bo_ald_m _ _, List.forall_mem_cons.mpr ⟨bo_gR_m _ _ _ _, List.forall_mem_cons.mpr ⟨bo_st_mono (bg_push_m _), List.forall_mem_cons.mpr ⟨bo_ild_m _ _, List.forall_mem_cons.mpr ⟨bo_st_mono (bg_ii_m _), List.forall_mem_cons.mpr ⟨bo_ild_m _ _, List.forall_mem_cons.mpr ⟨bo_st_mono (bg_ii_m _), List.forall_mem_cons.mpr ⟨bo_st_mono (bg_push_m _), List.forall_mem_cons.mpr ⟨bo_Iast_m _ _ _, List.forall_mem_cons.mpr ⟨bo_inc_m _ _ _, List.forall_mem_cons.mpr ⟨bo_go_m _, fun _ h => absurd h List.not_mem_nil⟩⟩⟩⟩⟩⟩⟩⟩⟩⟩⟩⟩⟩⟩⟩⟩⟩⟩⟩⟩⟩⟩⟩⟩⟩⟩⟩⟩⟩⟩⟩⟩⟩⟩⟩⟩⟩⟩⟩⟩
set_option maxRecDepth 20000 in
theorem mT_M_put_1 : ∀ q ∈ T_M_put_1, bh_mono q.2 := List.forall_mem_cons.mpr ⟨bo_ald_m _ _, List.forall_mem_cons.mpr ⟨bo_st_mono bg_dup_m, List.forall_mem_cons.mpr ⟨bo_gI_m _ _ _, List.forall_mem_cons.mpr ⟨bo_st_mono (bg_push_m _), List.forall_mem_cons.mpr ⟨bo_st_mono (bg_ii_m _), List.forall_mem_cons.mpr ⟨bo_pI_m _ _ _, List.forall_mem_cons.mpr ⟨bo_ald_m _ _, List.forall_mem_cons.mpr ⟨bo_st_mono bg_dup_m, List.forall_mem_cons.mpr ⟨bo_gI_m _ _ _, List.forall_mem_cons.mpr ⟨bo_st_mono (bg_push_m _), List.forall_mem_cons.mpr ⟨bo_st_mono (bg_ii_m _), List.forall_mem_cons.mpr ⟨bo_pI_m _ _ _, List.forall_mem_cons.mpr ⟨bo_ald_m _ _, List.forall_mem_cons.mpr ⟨bo_st_mono (bg_push_m _), List.forall_mem_cons.mpr ⟨bo_ald_m _ _, List.forall_mem_cons.mpr ⟨bo_gR_m _ _ _ _, List.forall_mem_cons.mpr ⟨bo_ild_m _ _, List.forall_mem_cons.mpr ⟨bo_Iald_m _ _ _, List.forall_mem_cons.mpr ⟨bo_st_mono (bg_push_m _), List.forall_mem_cons.mpr ⟨bo_st_mono (bg_dv_m _), List.forall_mem_cons.mpr ⟨bo_st_mono (bg_ii_m _), List.forall_mem_cons.mpr ⟨bo_callV_m (mF_M_note) _ _ _ _ _, List.forall_mem_cons.mpr ⟨bo_ald_m _ _, List.forall_mem_cons.mpr ⟨bo_gR_m _ _ _ _, List.forall_mem_cons.mpr ⟨bo_ild_m _ _, List.forall_mem_cons.mpr ⟨bo_Iald_m _ _ _, List.forall_mem_cons.mpr ⟨bo_iret_m _, fun _ h => absurd h List.not_mem_nil⟩⟩⟩⟩⟩⟩⟩⟩⟩⟩⟩⟩⟩⟩⟩⟩⟩⟩⟩⟩⟩⟩⟩⟩⟩⟩⟩
theorem m_M_put : ∀ pc, bh_mono (bh_tb (T_M_put) pc) := bh_tb_m (List.forall_mem_append.mpr ⟨mT_M_put_0, mT_M_put_1⟩)
def F_M_put : bh_Fn := bh_fn 7 (bh_tb T_M_put)
theorem mF_M_put : bh_monoF F_M_put := bh_fn_m m_M_put
theorem cl_M_put {s : State} {args : Array Value} (d B : Nat) (hts : ∀ w ∈ bh_ws, w.before args s = true) : bh_Cal (bh_rm (d + 1) B) s y_M_put 7 (.code y_M_put c_M_put 7 (some .int) :: bh_ws) (bh_rm d 0) 0 3 := bh_cal d B hts wd_1025 wd_9 (by decide) (by decide +kernel)
set_option maxHeartbeats 4000000 in
set_option maxRecDepth 100000 in
theorem cn_M_put {l : Launch} {G : bh_G} {base sb L : Nat} {xs : Nat → Int32} (htr : l.stackTraces = false) (d : Nat) : bh_Con l G base (bh_Bg G base sb L xs) y_M_put (.code y_M_put c_M_put 7 (some .int) :: bh_ws) (bh_rm (d + 2) 0) 0 false F_M_put := by
  refine bh_method (cc := c_M_put) (ret := (some .int)) (by decide +kernel) rfl ?_
  intro p e s m args below meth c ad0 M0 Z X0 hr hlocks hname htab hbs hB
  obtain ⟨hx, hb, hml, hown, hts⟩ := id X0
  have hw : ∀ w ∈ bh_ws, w.before args s = true := fun w h => hts w (List.mem_cons_of_mem _ h)
  have hBg := bh_BgK (G := G) (base := base) (sb := sb) (L := L) (xs := xs)
  obtain ⟨hK, hAr, hen, hinj, hu1, hu2, hstr, hX, hsb, hsc, hxw, hao, hnc⟩ := id hB
  obtain ⟨ha1, ha2, ha3, ha4, ha5, ha6, ha0⟩ := bh_arr hAr
  refine List.forall_mem_append.mpr ⟨?_, List.forall_mem_cons.mpr ⟨fun S h => bs_aload_n (Z := Z) hx hb rfl d_M_put_71 h, List.forall_mem_cons.mpr ⟨fun S h => bs_dup (Z := Z) hx hb d_M_put_72 h, List.forall_mem_cons.mpr ⟨fun S h => bs_gI (Z := Z) (C := R_M) (T := F_M) (N := 40) (t := 40) (j := 34) hx hb hK hts (fun w h => List.mem_cons_of_mem _ (iw_M w h)) hown rfl rfl (by decide) (hts _ (List.mem_cons_of_mem _ wd_818)) (fun _ h => h) rfl rfl rfl d_M_put_73 h, List.forall_mem_cons.mpr ⟨fun S h => bs_iconst (Z := Z) hx hb (by decide) d_M_put_76 h, List.forall_mem_cons.mpr ⟨fun S h => bs_iadd (Z := Z) hx hb d_M_put_77 h, List.forall_mem_cons.mpr ⟨fun S h => bs_pI (Z := Z) (C := R_M) (T := F_M) (N := 40) (t := 40) (j := 34) hx hb hK hts (fun w h => List.mem_cons_of_mem _ (iw_M w h)) hown rfl rfl (by decide) (hts _ (List.mem_cons_of_mem _ wd_818)) (fun _ h => h) rfl rfl t_M t_M_ok n_M rfl (by decide +kernel) rfl d_M_put_78 h, List.forall_mem_cons.mpr ⟨fun S h => bs_aload_n (Z := Z) hx hb rfl d_M_put_81 h, List.forall_mem_cons.mpr ⟨fun S h => bs_dup (Z := Z) hx hb d_M_put_82 h, List.forall_mem_cons.mpr ⟨fun S h => bs_gI (Z := Z) (C := R_M) (T := F_M) (N := 40) (t := 40) (j := 35) hx hb hK hts (fun w h => List.mem_cons_of_mem _ (iw_M w h)) hown rfl rfl (by decide) (hts _ (List.mem_cons_of_mem _ wd_819)) (fun _ h => h) rfl rfl rfl d_M_put_83 h, List.forall_mem_cons.mpr ⟨fun S h => bs_iconst (Z := Z) hx hb (by decide) d_M_put_86 h, List.forall_mem_cons.mpr ⟨fun S h => bs_iadd (Z := Z) hx hb d_M_put_87 h, List.forall_mem_cons.mpr ⟨fun S h => bs_pI (Z := Z) (C := R_M) (T := F_M) (N := 40) (t := 40) (j := 35) hx hb hK hts (fun w h => List.mem_cons_of_mem _ (iw_M w h)) hown rfl rfl (by decide) (hts _ (List.mem_cons_of_mem _ wd_819)) (fun _ h => h) rfl rfl t_M t_M_ok n_M rfl (by decide +kernel) rfl d_M_put_88 h, List.forall_mem_cons.mpr ⟨fun S h => bs_aload_n (Z := Z) hx hb rfl d_M_put_91 h, List.forall_mem_cons.mpr ⟨fun S h => bs_sipush (Z := Z) hx hb (by decide) d_M_put_92 h, List.forall_mem_cons.mpr ⟨fun S h => bs_aload_n (Z := Z) hx hb rfl d_M_put_95 h, List.forall_mem_cons.mpr ⟨fun S h => bs_gR (Z := Z) (C := R_M) (T := F_M) (N := 40) (t := 40) (j := 29) hx hb hK hts (fun w h => List.mem_cons_of_mem _ (iw_M w h)) hown rfl rfl (by decide) (hts _ (List.mem_cons_of_mem _ wd_813)) (fun _ h => h) rfl rfl rfl d_M_put_96 h, List.forall_mem_cons.mpr ⟨fun S h => bs_iload (Z := Z) hx hb d_M_put_99 h, List.forall_mem_cons.mpr ⟨fun S h => bs_Iald (Z := Z) hx hb ha1 d_M_put_101 h, List.forall_mem_cons.mpr ⟨fun S h => bs_bipush (Z := Z) hx hb (by decide) d_M_put_102 h, List.forall_mem_cons.mpr ⟨fun S h => bs_irem (Z := Z) hx hb d_M_put_104 h, List.forall_mem_cons.mpr ⟨fun S h => bs_iadd (Z := Z) hx hb d_M_put_105 h, List.forall_mem_cons.mpr ⟨fun S h => bs_callV (Z := Z) (C := R_M) hBg hbs hB X0 hK (cn_M_note htr (d + 0)) (cl_M_note _ _ hw) (hts _ (List.mem_cons_of_mem _ wd_1026)) (hts _ (List.mem_cons_of_mem _ wd_1028)) (hts _ (List.mem_cons_of_mem _ ws_47)) rfl rfl rfl rfl rfl (Nat.le_refl _) (Nat.le_refl _) d_M_put_106 (bs_out htab hlocks) h, List.forall_mem_cons.mpr ⟨fun S h => bs_aload_n (Z := Z) hx hb rfl d_M_put_109 h, List.forall_mem_cons.mpr ⟨fun S h => bs_gR (Z := Z) (C := R_M) (T := F_M) (N := 40) (t := 40) (j := 29) hx hb hK hts (fun w h => List.mem_cons_of_mem _ (iw_M w h)) hown rfl rfl (by decide) (hts _ (List.mem_cons_of_mem _ wd_813)) (fun _ h => h) rfl rfl rfl d_M_put_110 h, List.forall_mem_cons.mpr ⟨fun S h => bs_iload (Z := Z) hx hb d_M_put_113 h, List.forall_mem_cons.mpr ⟨fun S h => bs_Iald (Z := Z) hx hb ha1 d_M_put_115 h, List.forall_mem_cons.mpr ⟨fun S h => bs_iret (Z := Z) hx hb hr hlocks d_M_put_116 h, fun _ h => absurd h List.not_mem_nil⟩⟩⟩⟩⟩⟩⟩⟩⟩⟩⟩⟩⟩⟩⟩⟩⟩⟩⟩⟩⟩⟩⟩⟩⟩⟩⟩⟩
  exact List.forall_mem_cons.mpr ⟨fun S h => bs_aload_n (Z := Z) hx hb rfl d_M_put_0 h, List.forall_mem_cons.mpr ⟨fun S h => bs_gI (Z := Z) (C := R_M) (T := F_M) (N := 40) (t := 40) (j := 34) hx hb hK hts (fun w h => List.mem_cons_of_mem _ (iw_M w h)) hown rfl rfl (by decide) (hts _ (List.mem_cons_of_mem _ wd_818)) (fun _ h => h) rfl rfl rfl d_M_put_1 h, List.forall_mem_cons.mpr ⟨fun S h => bs_istore (Z := Z) hx hb d_M_put_4 h, List.forall_mem_cons.mpr ⟨fun S h => bs_aload_n (Z := Z) hx hb rfl d_M_put_6 h, List.forall_mem_cons.mpr ⟨fun S h => bs_gR (Z := Z) (C := R_M) (T := F_M) (N := 40) (t := 40) (j := 29) hx hb hK hts (fun w h => List.mem_cons_of_mem _ (iw_M w h)) hown rfl rfl (by decide) (hts _ (List.mem_cons_of_mem _ wd_813)) (fun _ h => h) rfl rfl rfl d_M_put_7 h, List.forall_mem_cons.mpr ⟨fun S h => bs_iload (Z := Z) hx hb d_M_put_10 h, List.forall_mem_cons.mpr ⟨fun S h => bs_aload_n (Z := Z) hx hb rfl d_M_put_12 h, List.forall_mem_cons.mpr ⟨fun S h => bs_gI (Z := Z) (C := R_M) (T := F_M) (N := 40) (t := 40) (j := 35) hx hb hK hts (fun w h => List.mem_cons_of_mem _ (iw_M w h)) hown rfl rfl (by decide) (hts _ (List.mem_cons_of_mem _ wd_819)) (fun _ h => h) rfl rfl rfl d_M_put_13 h, List.forall_mem_cons.mpr ⟨fun S h => bs_Iast (Z := Z) hx hb ha1 d_M_put_16 h, List.forall_mem_cons.mpr ⟨fun S h => bs_aload_n (Z := Z) hx hb rfl d_M_put_17 h, List.forall_mem_cons.mpr ⟨fun S h => bs_gR (Z := Z) (C := R_M) (T := F_M) (N := 40) (t := 40) (j := 30) hx hb hK hts (fun w h => List.mem_cons_of_mem _ (iw_M w h)) hown rfl rfl (by decide) (hts _ (List.mem_cons_of_mem _ wd_814)) (fun _ h => h) rfl rfl rfl d_M_put_18 h, List.forall_mem_cons.mpr ⟨fun S h => bs_iload (Z := Z) hx hb d_M_put_21 h, List.forall_mem_cons.mpr ⟨fun S h => bs_iload_n (Z := Z) hx hb rfl d_M_put_23 h, List.forall_mem_cons.mpr ⟨fun S h => bs_Iast (Z := Z) hx hb ha1 d_M_put_24 h, List.forall_mem_cons.mpr ⟨fun S h => bs_aload_n (Z := Z) hx hb rfl d_M_put_25 h, List.forall_mem_cons.mpr ⟨fun S h => bs_gR (Z := Z) (C := R_M) (T := F_M) (N := 40) (t := 40) (j := 31) hx hb hK hts (fun w h => List.mem_cons_of_mem _ (iw_M w h)) hown rfl rfl (by decide) (hts _ (List.mem_cons_of_mem _ wd_815)) (fun _ h => h) rfl rfl rfl d_M_put_26 h, List.forall_mem_cons.mpr ⟨fun S h => bs_iload (Z := Z) hx hb d_M_put_29 h, List.forall_mem_cons.mpr ⟨fun S h => bs_iload_n (Z := Z) hx hb rfl d_M_put_31 h, List.forall_mem_cons.mpr ⟨fun S h => bs_Iast (Z := Z) hx hb ha1 d_M_put_32 h, List.forall_mem_cons.mpr ⟨fun S h => bs_aload_n (Z := Z) hx hb rfl d_M_put_33 h, List.forall_mem_cons.mpr ⟨fun S h => bs_gR (Z := Z) (C := R_M) (T := F_M) (N := 40) (t := 40) (j := 32) hx hb hK hts (fun w h => List.mem_cons_of_mem _ (iw_M w h)) hown rfl rfl (by decide) (hts _ (List.mem_cons_of_mem _ wd_816)) (fun _ h => h) rfl rfl rfl d_M_put_34 h, List.forall_mem_cons.mpr ⟨fun S h => bs_iload (Z := Z) hx hb d_M_put_37 h, List.forall_mem_cons.mpr ⟨fun S h => bs_dload_n (Z := Z) hx hb rfl d_M_put_39 h, List.forall_mem_cons.mpr ⟨fun S h => bs_Dast (Z := Z) hx hb ha4 d_M_put_40 h, List.forall_mem_cons.mpr ⟨fun S h => bs_iconst (Z := Z) hx hb (by decide) d_M_put_41 h, List.forall_mem_cons.mpr ⟨fun S h => bs_istore (Z := Z) hx hb d_M_put_42 h, List.forall_mem_cons.mpr ⟨fun S h => bs_iload (Z := Z) hx hb d_M_put_44 h, List.forall_mem_cons.mpr ⟨fun S h => bs_bipush (Z := Z) hx hb (by decide) d_M_put_46 h, List.forall_mem_cons.mpr ⟨fun S h => bs_icmp_ge (Z := Z) hx hb d_M_put_48 (by decide) h, List.forall_mem_cons.mpr ⟨fun S h => bs_aload_n (Z := Z) hx hb rfl d_M_put_51 h, List.forall_mem_cons.mpr ⟨fun S h => bs_gR (Z := Z) (C := R_M) (T := F_M) (N := 40) (t := 40) (j := 33) hx hb hK hts (fun w h => List.mem_cons_of_mem _ (iw_M w h)) hown rfl rfl (by decide) (hts _ (List.mem_cons_of_mem _ wd_817)) (fun _ h => h) rfl rfl rfl d_M_put_52 h, List.forall_mem_cons.mpr ⟨fun S h => bs_bipush (Z := Z) hx hb (by decide) d_M_put_55 h, List.forall_mem_cons.mpr ⟨fun S h => bs_iload (Z := Z) hx hb d_M_put_57 h, List.forall_mem_cons.mpr ⟨fun S h => bs_imul (Z := Z) hx hb d_M_put_59 h, List.forall_mem_cons.mpr ⟨fun S h => bs_iload (Z := Z) hx hb d_M_put_60 h, List.forall_mem_cons.mpr ⟨fun S h => bs_iadd (Z := Z) hx hb d_M_put_62 h, List.forall_mem_cons.mpr ⟨fun S h => bs_iconst (Z := Z) hx hb (by decide) d_M_put_63 h, List.forall_mem_cons.mpr ⟨fun S h => bs_Iast (Z := Z) hx hb ha1 d_M_put_64 h, List.forall_mem_cons.mpr ⟨fun S h => bs_iinc (Z := Z) hx hb (by decide) d_M_put_65 h, List.forall_mem_cons.mpr ⟨fun S h => bs_goto (Z := Z) hx hb d_M_put_68 (by decide) h, fun _ h => absurd h List.not_mem_nil⟩⟩⟩⟩⟩⟩⟩⟩⟩⟩⟩⟩⟩⟩⟩⟩⟩⟩⟩⟩⟩⟩⟩⟩⟩⟩⟩⟩⟩⟩⟩⟩⟩⟩⟩⟩⟩⟩⟩⟩
abbrev c_M_best : ByteArray := prog_10_method_30_code
def y_M_best : MethodName := ⟨"BundleHallModel", "best", "(I)I"⟩
theorem d_M_best_0 : decode c_M_best 0 = .ok (.iconst (-1), 1) := by decide +kernel
theorem d_M_best_1 : decode c_M_best 1 = .ok (.istore_n 2, 1) := by decide +kernel
theorem d_M_best_2 : decode c_M_best 2 = .ok (.iconst 0, 1) := by decide +kernel
theorem d_M_best_3 : decode c_M_best 3 = .ok (.istore_n 3, 1) := by decide +kernel
theorem d_M_best_4 : decode c_M_best 4 = .ok (.iload_n 3, 1) := by decide +kernel
theorem d_M_best_5 : decode c_M_best 5 = .ok (.aload_n 0, 1) := by decide +kernel
theorem d_M_best_6 : decode c_M_best 6 = .ok (.getfield 207, 3) := by decide +kernel
theorem d_M_best_9 : decode c_M_best 9 = .ok (.if_icmp .ge 41, 3) := by decide +kernel
theorem d_M_best_12 : decode c_M_best 12 = .ok (.aload_n 0, 1) := by decide +kernel
theorem d_M_best_13 : decode c_M_best 13 = .ok (.getfield 90, 3) := by decide +kernel
theorem d_M_best_16 : decode c_M_best 16 = .ok (.iload_n 3, 1) := by decide +kernel
theorem d_M_best_17 : decode c_M_best 17 = .ok (.iaload, 1) := by decide +kernel
theorem d_M_best_18 : decode c_M_best 18 = .ok (.iload_n 1, 1) := by decide +kernel
theorem d_M_best_19 : decode c_M_best 19 = .ok (.if_icmp .ne 25, 3) := by decide +kernel
theorem d_M_best_22 : decode c_M_best 22 = .ok (.iload_n 2, 1) := by decide +kernel
theorem d_M_best_23 : decode c_M_best 23 = .ok (.ifCond .lt 19, 3) := by decide +kernel
theorem d_M_best_26 : decode c_M_best 26 = .ok (.aload_n 0, 1) := by decide +kernel
theorem d_M_best_27 : decode c_M_best 27 = .ok (.getfield 93, 3) := by decide +kernel
theorem d_M_best_30 : decode c_M_best 30 = .ok (.iload_n 3, 1) := by decide +kernel
theorem d_M_best_31 : decode c_M_best 31 = .ok (.daload, 1) := by decide +kernel
theorem d_M_best_32 : decode c_M_best 32 = .ok (.aload_n 0, 1) := by decide +kernel
theorem d_M_best_33 : decode c_M_best 33 = .ok (.getfield 93, 3) := by decide +kernel
theorem d_M_best_36 : decode c_M_best 36 = .ok (.iload_n 2, 1) := by decide +kernel
theorem d_M_best_37 : decode c_M_best 37 = .ok (.daload, 1) := by decide +kernel
theorem d_M_best_38 : decode c_M_best 38 = .ok (.dcmp .l, 1) := by decide +kernel
theorem d_M_best_39 : decode c_M_best 39 = .ok (.ifCond .le 5, 3) := by decide +kernel
theorem d_M_best_42 : decode c_M_best 42 = .ok (.iload_n 3, 1) := by decide +kernel
theorem d_M_best_43 : decode c_M_best 43 = .ok (.istore_n 2, 1) := by decide +kernel
theorem d_M_best_44 : decode c_M_best 44 = .ok (.iinc 3 1, 3) := by decide +kernel
theorem d_M_best_47 : decode c_M_best 47 = .ok (.goto (-43), 3) := by decide +kernel
theorem d_M_best_50 : decode c_M_best 50 = .ok (.iload_n 2, 1) := by decide +kernel
theorem d_M_best_51 : decode c_M_best 51 = .ok (.ireturn, 1) := by decide +kernel
def T_M_best_0 : List (Nat × bh_Op) := [(0, bo_st 1 (bg_push (.inl (.int (-1))))),
  (1, bo_ist 2 2),
  (2, bo_st 3 (bg_push (.inl (.int 0)))),
  (3, bo_ist 4 3),
  (4, bo_ild 5 3),
  (5, bo_ald 6 0),
  (6, bo_gI 9 40 34),
  (9, bo_if2 12 50 (fun x y => y ≤ x)),
  (12, bo_ald 13 0),
  (13, bo_gR 16 40 31 67),
  (16, bo_ild 17 3),
  (17, bo_Iald bh_ak bh_al 18),
  (18, bo_ild 19 1),
  (19, bo_if2 22 44 (fun x y => ¬ x = y)),
  (22, bo_ild 23 2),
  (23, bo_if1 26 42 (fun x => x < 0)),
  (26, bo_ald 27 0),
  (27, bo_gR 30 40 32 68),
  (30, bo_ild 31 3),
  (31, bo_Dald bh_ak bh_al 32),
  (32, bo_ald 33 0),
  (33, bo_gR 36 40 32 68),
  (36, bo_ild 37 2),
  (37, bo_Dald bh_ak bh_al 38),
  (38, bo_st 39 (bg_dc (fun x y => Op.cmpValue (FP.dcmp x y) .l))),
  (39, bo_if1 42 44 (fun x => x ≤ 0)),
  (42, bo_ild 43 3),
  (43, bo_ist 44 2),
  (44, bo_inc 47 3 1),
  (47, bo_go 4),
  (50, bo_ild 51 2),
  (51, bo_iret 0)]
def T_M_best : List (Nat × bh_Op) := T_M_best_0
set_option maxRecDepth 20000 in
theorem mT_M_best_0 : ∀ q ∈ T_M_best_0, bh_mono q.2 := List.forall_mem_cons.mpr ⟨bo_st_mono (bg_push_m _), List.forall_mem_cons.mpr ⟨bo_ist_m _ _, List.forall_mem_cons.mpr ⟨bo_st_mono (bg_push_m _), List.forall_mem_cons.mpr ⟨bo_ist_m _ _, List.forall_mem_cons.mpr ⟨bo_ild_m _ _, List.forall_mem_cons.mpr ⟨bo_ald_m _ _, List.forall_mem_cons.mpr ⟨bo_gI_m _ _ _, List.forall_mem_cons.mpr ⟨bo_if2_m _ _ _, List.forall_mem_cons.mpr ⟨bo_ald_m _ _, List.forall_mem_cons.mpr ⟨bo_gR_m _ _ _ _, List.forall_mem_cons.mpr ⟨bo_ild_m _ _, List.forall_mem_cons.mpr ⟨bo_Iald_m _ _ _, List.forall_mem_cons.mpr ⟨bo_ild_m _ _, List.forall_mem_cons.mpr ⟨bo_if2_m _ _ _, List.forall_mem_cons.mpr ⟨bo_ild_m _ _, List.forall_mem_cons.mpr ⟨bo_if1_m _ _ _, List.forall_mem_cons.mpr ⟨bo_ald_m _ _, List.forall_mem_cons.mpr ⟨bo_gR_m _ _ _ _, List.forall_mem_cons.mpr ⟨bo_ild_m _ _, List.forall_mem_cons.mpr ⟨bo_Dald_m _ _ _, List.forall_mem_cons.mpr ⟨bo_ald_m _ _, List.forall_mem_cons.mpr ⟨bo_gR_m _ _ _ _, List.forall_mem_cons.mpr ⟨bo_ild_m _ _, List.forall_mem_cons.mpr ⟨bo_Dald_m _ _ _, List.forall_mem_cons.mpr ⟨bo_st_mono (bg_dc_m _), List.forall_mem_cons.mpr ⟨bo_if1_m _ _ _, List.forall_mem_cons.mpr ⟨bo_ild_m _ _, List.forall_mem_cons.mpr ⟨bo_ist_m _ _, List.forall_mem_cons.mpr ⟨bo_inc_m _ _ _, List.forall_mem_cons.mpr ⟨bo_go_m _, List.forall_mem_cons.mpr ⟨bo_ild_m _ _, List.forall_mem_cons.mpr ⟨bo_iret_m _, fun _ h => absurd h List.not_mem_nil⟩⟩⟩⟩⟩⟩⟩⟩⟩⟩⟩⟩⟩⟩⟩⟩⟩⟩⟩⟩⟩⟩⟩⟩⟩⟩⟩⟩⟩⟩⟩⟩
theorem m_M_best : ∀ pc, bh_mono (bh_tb (T_M_best) pc) := bh_tb_m mT_M_best_0
def F_M_best : bh_Fn := bh_fn 4 (bh_tb T_M_best)
theorem mF_M_best : bh_monoF F_M_best := bh_fn_m m_M_best
theorem cl_M_best {s : State} {args : Array Value} (d B : Nat) (hts : ∀ w ∈ bh_ws, w.before args s = true) : bh_Cal (bh_rm (d + 1) B) s y_M_best 4 (.code y_M_best c_M_best 4 (some .int) :: bh_ws) (bh_rm d 0) 0 1 := bh_cal d B hts wd_1033 wd_9 (by decide) (by decide +kernel)
set_option maxHeartbeats 4000000 in
set_option maxRecDepth 100000 in
theorem cn_M_best {l : Launch} {G : bh_G} {base sb L : Nat} {xs : Nat → Int32} (htr : l.stackTraces = false) (d : Nat) : bh_Con l G base (bh_Bg G base sb L xs) y_M_best (.code y_M_best c_M_best 4 (some .int) :: bh_ws) (bh_rm (d + 1) 0) 0 false F_M_best := by
  refine bh_method (cc := c_M_best) (ret := (some .int)) (by decide +kernel) rfl ?_
  intro p e s m args below meth c ad0 M0 Z X0 hr hlocks hname htab hbs hB
  obtain ⟨hx, hb, hml, hown, hts⟩ := id X0
  have hw : ∀ w ∈ bh_ws, w.before args s = true := fun w h => hts w (List.mem_cons_of_mem _ h)
  have hBg := bh_BgK (G := G) (base := base) (sb := sb) (L := L) (xs := xs)
  obtain ⟨hK, hAr, hen, hinj, hu1, hu2, hstr, hX, hsb, hsc, hxw, hao, hnc⟩ := id hB
  obtain ⟨ha1, ha2, ha3, ha4, ha5, ha6, ha0⟩ := bh_arr hAr
  exact List.forall_mem_cons.mpr ⟨fun S h => bs_iconst (Z := Z) hx hb (by decide) d_M_best_0 h, List.forall_mem_cons.mpr ⟨fun S h => bs_istore_n (Z := Z) hx hb rfl d_M_best_1 h, List.forall_mem_cons.mpr ⟨fun S h => bs_iconst (Z := Z) hx hb (by decide) d_M_best_2 h, List.forall_mem_cons.mpr ⟨fun S h => bs_istore_n (Z := Z) hx hb rfl d_M_best_3 h, List.forall_mem_cons.mpr ⟨fun S h => bs_iload_n (Z := Z) hx hb rfl d_M_best_4 h, List.forall_mem_cons.mpr ⟨fun S h => bs_aload_n (Z := Z) hx hb rfl d_M_best_5 h, List.forall_mem_cons.mpr ⟨fun S h => bs_gI (Z := Z) (C := R_M) (T := F_M) (N := 40) (t := 40) (j := 34) hx hb hK hts (fun w h => List.mem_cons_of_mem _ (iw_M w h)) hown rfl rfl (by decide) (hts _ (List.mem_cons_of_mem _ wd_818)) (fun _ h => h) rfl rfl rfl d_M_best_6 h, List.forall_mem_cons.mpr ⟨fun S h => bs_icmp_ge (Z := Z) hx hb d_M_best_9 (by decide) h, List.forall_mem_cons.mpr ⟨fun S h => bs_aload_n (Z := Z) hx hb rfl d_M_best_12 h, List.forall_mem_cons.mpr ⟨fun S h => bs_gR (Z := Z) (C := R_M) (T := F_M) (N := 40) (t := 40) (j := 31) hx hb hK hts (fun w h => List.mem_cons_of_mem _ (iw_M w h)) hown rfl rfl (by decide) (hts _ (List.mem_cons_of_mem _ wd_815)) (fun _ h => h) rfl rfl rfl d_M_best_13 h, List.forall_mem_cons.mpr ⟨fun S h => bs_iload_n (Z := Z) hx hb rfl d_M_best_16 h, List.forall_mem_cons.mpr ⟨fun S h => bs_Iald (Z := Z) hx hb ha1 d_M_best_17 h, List.forall_mem_cons.mpr ⟨fun S h => bs_iload_n (Z := Z) hx hb rfl d_M_best_18 h, List.forall_mem_cons.mpr ⟨fun S h => bs_icmp_ne (Z := Z) hx hb d_M_best_19 (by decide) h, List.forall_mem_cons.mpr ⟨fun S h => bs_iload_n (Z := Z) hx hb rfl d_M_best_22 h, List.forall_mem_cons.mpr ⟨fun S h => bs_if_lt (Z := Z) hx hb d_M_best_23 (by decide) h, List.forall_mem_cons.mpr ⟨fun S h => bs_aload_n (Z := Z) hx hb rfl d_M_best_26 h, List.forall_mem_cons.mpr ⟨fun S h => bs_gR (Z := Z) (C := R_M) (T := F_M) (N := 40) (t := 40) (j := 32) hx hb hK hts (fun w h => List.mem_cons_of_mem _ (iw_M w h)) hown rfl rfl (by decide) (hts _ (List.mem_cons_of_mem _ wd_816)) (fun _ h => h) rfl rfl rfl d_M_best_27 h, List.forall_mem_cons.mpr ⟨fun S h => bs_iload_n (Z := Z) hx hb rfl d_M_best_30 h, List.forall_mem_cons.mpr ⟨fun S h => bs_Dald (Z := Z) hx hb ha4 d_M_best_31 h, List.forall_mem_cons.mpr ⟨fun S h => bs_aload_n (Z := Z) hx hb rfl d_M_best_32 h, List.forall_mem_cons.mpr ⟨fun S h => bs_gR (Z := Z) (C := R_M) (T := F_M) (N := 40) (t := 40) (j := 32) hx hb hK hts (fun w h => List.mem_cons_of_mem _ (iw_M w h)) hown rfl rfl (by decide) (hts _ (List.mem_cons_of_mem _ wd_816)) (fun _ h => h) rfl rfl rfl d_M_best_33 h, List.forall_mem_cons.mpr ⟨fun S h => bs_iload_n (Z := Z) hx hb rfl d_M_best_36 h, List.forall_mem_cons.mpr ⟨fun S h => bs_Dald (Z := Z) hx hb ha4 d_M_best_37 h, List.forall_mem_cons.mpr ⟨fun S h => bs_dcmp (Z := Z) hx hb d_M_best_38 h, List.forall_mem_cons.mpr ⟨fun S h => bs_if_le (Z := Z) hx hb d_M_best_39 (by decide) h, List.forall_mem_cons.mpr ⟨fun S h => bs_iload_n (Z := Z) hx hb rfl d_M_best_42 h, List.forall_mem_cons.mpr ⟨fun S h => bs_istore_n (Z := Z) hx hb rfl d_M_best_43 h, List.forall_mem_cons.mpr ⟨fun S h => bs_iinc (Z := Z) hx hb (by decide) d_M_best_44 h, List.forall_mem_cons.mpr ⟨fun S h => bs_goto (Z := Z) hx hb d_M_best_47 (by decide) h, List.forall_mem_cons.mpr ⟨fun S h => bs_iload_n (Z := Z) hx hb rfl d_M_best_50 h, List.forall_mem_cons.mpr ⟨fun S h => bs_iret (Z := Z) hx hb hr hlocks d_M_best_51 h, fun _ h => absurd h List.not_mem_nil⟩⟩⟩⟩⟩⟩⟩⟩⟩⟩⟩⟩⟩⟩⟩⟩⟩⟩⟩⟩⟩⟩⟩⟩⟩⟩⟩⟩⟩⟩⟩⟩
abbrev c_M_activate : ByteArray := prog_10_method_32_code
def y_M_activate : MethodName := ⟨"BundleHallModel", "activate", "(I)Z"⟩
theorem d_M_activate_0 : decode c_M_activate 0 = .ok (.aload_n 0, 1) := by decide +kernel
theorem d_M_activate_1 : decode c_M_activate 1 = .ok (.getfield 19, 3) := by decide +kernel
theorem d_M_activate_4 : decode c_M_activate 4 = .ok (.iload_n 1, 1) := by decide +kernel
theorem d_M_activate_5 : decode c_M_activate 5 = .ok (.iaload, 1) := by decide +kernel
theorem d_M_activate_6 : decode c_M_activate 6 = .ok (.tableswitch 91 0 3 #[30, 32, 34, 56], 30) := by decide +kernel
theorem d_M_activate_36 : decode c_M_activate 36 = .ok (.iconst 1, 1) := by decide +kernel
theorem d_M_activate_37 : decode c_M_activate 37 = .ok (.ireturn, 1) := by decide +kernel
theorem d_M_activate_38 : decode c_M_activate 38 = .ok (.iconst 0, 1) := by decide +kernel
theorem d_M_activate_39 : decode c_M_activate 39 = .ok (.ireturn, 1) := by decide +kernel
theorem d_M_activate_40 : decode c_M_activate 40 = .ok (.aload_n 0, 1) := by decide +kernel
theorem d_M_activate_41 : decode c_M_activate 41 = .ok (.getfield 207, 3) := by decide +kernel
theorem d_M_activate_44 : decode c_M_activate 44 = .ok (.bipush 20, 2) := by decide +kernel
theorem d_M_activate_46 : decode c_M_activate 46 = .ok (.if_icmp .ne 5, 3) := by decide +kernel
theorem d_M_activate_49 : decode c_M_activate 49 = .ok (.iconst 0, 1) := by decide +kernel
theorem d_M_activate_50 : decode c_M_activate 50 = .ok (.ireturn, 1) := by decide +kernel
theorem d_M_activate_51 : decode c_M_activate 51 = .ok (.aload_n 0, 1) := by decide +kernel
theorem d_M_activate_52 : decode c_M_activate 52 = .ok (.iload_n 1, 1) := by decide +kernel
theorem d_M_activate_53 : decode c_M_activate 53 = .ok (.iconst 0, 1) := by decide +kernel
theorem d_M_activate_54 : decode c_M_activate 54 = .ok (.iload_n 1, 1) := by decide +kernel
theorem d_M_activate_55 : decode c_M_activate 55 = .ok (.i2d, 1) := by decide +kernel
theorem d_M_activate_56 : decode c_M_activate 56 = .ok (.invokevirtual 216, 3) := by decide +kernel
theorem d_M_activate_59 : decode c_M_activate 59 = .ok (.pop, 1) := by decide +kernel
theorem d_M_activate_60 : decode c_M_activate 60 = .ok (.iconst 1, 1) := by decide +kernel
theorem d_M_activate_61 : decode c_M_activate 61 = .ok (.ireturn, 1) := by decide +kernel
theorem d_M_activate_62 : decode c_M_activate 62 = .ok (.aload_n 0, 1) := by decide +kernel
theorem d_M_activate_63 : decode c_M_activate 63 = .ok (.iconst 0, 1) := by decide +kernel
theorem d_M_activate_64 : decode c_M_activate 64 = .ok (.invokevirtual 220, 3) := by decide +kernel
theorem d_M_activate_67 : decode c_M_activate 67 = .ok (.istore_n 2, 1) := by decide +kernel
theorem d_M_activate_68 : decode c_M_activate 68 = .ok (.iload_n 2, 1) := by decide +kernel
theorem d_M_activate_69 : decode c_M_activate 69 = .ok (.ifCond .lt 18, 3) := by decide +kernel
theorem d_M_activate_72 : decode c_M_activate 72 = .ok (.aload_n 0, 1) := by decide +kernel
theorem d_M_activate_73 : decode c_M_activate 73 = .ok (.getfield 97, 3) := by decide +kernel
theorem d_M_activate_76 : decode c_M_activate 76 = .ok (.bipush 8, 2) := by decide +kernel
theorem d_M_activate_78 : decode c_M_activate 78 = .ok (.iload_n 2, 1) := by decide +kernel
theorem d_M_activate_79 : decode c_M_activate 79 = .ok (.imul, 1) := by decide +kernel
theorem d_M_activate_80 : decode c_M_activate 80 = .ok (.iload_n 1, 1) := by decide +kernel
theorem d_M_activate_81 : decode c_M_activate 81 = .ok (.iadd, 1) := by decide +kernel
theorem d_M_activate_82 : decode c_M_activate 82 = .ok (.dup2, 1) := by decide +kernel
theorem d_M_activate_83 : decode c_M_activate 83 = .ok (.iaload, 1) := by decide +kernel
theorem d_M_activate_84 : decode c_M_activate 84 = .ok (.iconst 1, 1) := by decide +kernel
theorem d_M_activate_85 : decode c_M_activate 85 = .ok (.iadd, 1) := by decide +kernel
theorem d_M_activate_86 : decode c_M_activate 86 = .ok (.iastore, 1) := by decide +kernel
theorem d_M_activate_87 : decode c_M_activate 87 = .ok (.iload_n 2, 1) := by decide +kernel
theorem d_M_activate_88 : decode c_M_activate 88 = .ok (.ifCond .lt 7, 3) := by decide +kernel
theorem d_M_activate_91 : decode c_M_activate 91 = .ok (.iconst 1, 1) := by decide +kernel
theorem d_M_activate_92 : decode c_M_activate 92 = .ok (.goto 4, 3) := by decide +kernel
theorem d_M_activate_95 : decode c_M_activate 95 = .ok (.iconst 0, 1) := by decide +kernel
theorem d_M_activate_96 : decode c_M_activate 96 = .ok (.ireturn, 1) := by decide +kernel
theorem d_M_activate_97 : decode c_M_activate 97 = .ok (.aload_n 0, 1) := by decide +kernel
theorem d_M_activate_98 : decode c_M_activate 98 = .ok (.getfield 26, 3) := by decide +kernel
theorem d_M_activate_101 : decode c_M_activate 101 = .ok (.iload_n 1, 1) := by decide +kernel
theorem d_M_activate_102 : decode c_M_activate 102 = .ok (.baload, 1) := by decide +kernel
theorem d_M_activate_103 : decode c_M_activate 103 = .ok (.ifCond .ne 7, 3) := by decide +kernel
theorem d_M_activate_106 : decode c_M_activate 106 = .ok (.iconst 1, 1) := by decide +kernel
theorem d_M_activate_107 : decode c_M_activate 107 = .ok (.goto 4, 3) := by decide +kernel
theorem d_M_activate_110 : decode c_M_activate 110 = .ok (.iconst 0, 1) := by decide +kernel
theorem d_M_activate_111 : decode c_M_activate 111 = .ok (.ireturn, 1) := by decide +kernel
theorem bh_sw_M_activate_6 : ∀ z : Int32, (0 : Int) ≤ z.toInt → z.toInt ≤ (3 : Int) → ∃ q ∈ ([(0, 36), (1, 38), (2, 40), (3, 62)] : List (Int32 × Nat)), q.1 = z := by
  intro z h1 h2
  have h3 : z.toInt = 0 ∨ z.toInt = 1 ∨ z.toInt = 2 ∨ z.toInt = 3 := by omega
  rcases h3 with h | h | h | h
  · exact ⟨(0, 36), List.mem_of_getElem? (i := 0) rfl, Int32.toInt_inj.mp (by rw [h]; decide)⟩
  · exact ⟨(1, 38), List.mem_of_getElem? (i := 1) rfl, Int32.toInt_inj.mp (by rw [h]; decide)⟩
  · exact ⟨(2, 40), List.mem_of_getElem? (i := 2) rfl, Int32.toInt_inj.mp (by rw [h]; decide)⟩
  · exact ⟨(3, 62), List.mem_of_getElem? (i := 3) rfl, Int32.toInt_inj.mp (by rw [h]; decide)⟩
def T_M_activate_0 : List (Nat × bh_Op) := [(0, bo_ald 1 0),
  (1, bo_gR 4 40 4 44),
  (4, bo_ild 5 1),
  (5, bo_Iald bh_ak bh_al 6),
  (6, bo_sw [(0, 36), (1, 38), (2, 40), (3, 62)] 97),
  (36, bo_st 37 (bg_push (.inl (.int 1)))),
  (37, bo_zret 0),
  (38, bo_st 39 (bg_push (.inl (.int 0)))),
  (39, bo_zret 0),
  (40, bo_ald 41 0),
  (41, bo_gI 44 40 34),
  (44, bo_st 46 (bg_push (.inl (.int 20)))),
  (46, bo_if2 49 51 (fun x y => ¬ x = y)),
  (49, bo_st 50 (bg_push (.inl (.int 0)))),
  (50, bo_zret 0),
  (51, bo_ald 52 0),
  (52, bo_ild 53 1),
  (53, bo_st 54 (bg_push (.inl (.int 0)))),
  (54, bo_ild 55 1),
  (55, bo_st 56 (bg_i1 (fun x => .inl (.double (FP.i2d x))))),
  (56, bo_callV 59 4 0 0 40 F_M_put),
  (59, bo_st 60 bg_pop),
  (60, bo_st 61 (bg_push (.inl (.int 1)))),
  (61, bo_zret 0),
  (62, bo_ald 63 0),
  (63, bo_st 64 (bg_push (.inl (.int 0)))),
  (64, bo_callV 67 2 0 0 40 F_M_best),
  (67, bo_ist 68 2),
  (68, bo_ild 69 2),
  (69, bo_if1 72 87 (fun x => x < 0)),
  (72, bo_ald 73 0),
  (73, bo_gR 76 40 33 69),
  (76, bo_st 78 (bg_push (.inl (.int 8)))),
  (78, bo_ild 79 2),
  (79, bo_st 80 (bg_ii (fun x y => x * y))),
  (80, bo_ild 81 1),
  (81, bo_st 82 (bg_ii (fun x y => x + y))),
  (82, bo_st 83 bg_dup2),
  (83, bo_Iald bh_ak bh_al 84),
  (84, bo_st 85 (bg_push (.inl (.int 1))))]
def T_M_activate_1 : List (Nat × bh_Op) := [(85, bo_st 86 (bg_ii (fun x y => x + y))),
  (86, bo_Iast bh_ak bh_al 87),
  (87, bo_ild 88 2),
  (88, bo_if1 91 95 (fun x => x < 0)),
  (91, bo_st 92 (bg_push (.inl (.int 1)))),
  (92, bo_go 96),
  (95, bo_st 96 (bg_push (.inl (.int 0)))),
  (96, bo_zret 0),
  (97, bo_ald 98 0),
  (98, bo_gR 101 40 6 46),
  (101, bo_ild 102 1),
  (102, bo_Zald bh_ak bh_al 103),
  (103, bo_if1 106 110 (fun x => ¬ x = 0)),
  (106, bo_st 107 (bg_push (.inl (.int 1)))),
  (107, bo_go 111),
  (110, bo_st 111 (bg_push (.inl (.int 0)))),
  (111, bo_zret 0)]
def T_M_activate : List (Nat × bh_Op) := T_M_activate_0 ++ T_M_activate_1
set_option maxRecDepth 20000 in
theorem mT_M_activate_0 : ∀ q ∈ T_M_activate_0, bh_mono q.2 := List.forall_mem_cons.mpr ⟨bo_ald_m _ _, List.forall_mem_cons.mpr ⟨bo_gR_m _ _ _ _, List.forall_mem_cons.mpr ⟨bo_ild_m _ _, List.forall_mem_cons.mpr ⟨bo_Iald_m _ _ _, List.forall_mem_cons.mpr ⟨bo_sw_m _ _, List.forall_mem_cons.mpr ⟨bo_st_mono (bg_push_m _), List.forall_mem_cons.mpr ⟨bo_zret_m _, List.forall_mem_cons.mpr ⟨bo_st_mono (bg_push_m _), List.forall_mem_cons.mpr ⟨bo_zret_m _, List.forall_mem_cons.mpr ⟨bo_ald_m _ _, List.forall_mem_cons.mpr ⟨bo_gI_m _ _ _, List.forall_mem_cons.mpr ⟨bo_st_mono (bg_push_m _), List.forall_mem_cons.mpr ⟨bo_if2_m _ _ _, List.forall_mem_cons.mpr ⟨bo_st_mono (bg_push_m _), List.forall_mem_cons.mpr ⟨bo_zret_m _, List.forall_mem_cons.mpr ⟨bo_ald_m _ _, List.forall_mem_cons.mpr ⟨bo_ild_m _ _, List.forall_mem_cons.mpr ⟨bo_st_mono (bg_push_m _), List.forall_mem_cons.mpr ⟨bo_ild_m _ _, List.forall_mem_cons.mpr ⟨bo_st_mono (bg_i1_m _), List.forall_mem_cons.mpr ⟨bo_callV_m (mF_M_put) _ _ _ _ _, List.forall_mem_cons.mpr ⟨bo_st_mono bg_pop_m, List.forall_mem_cons.mpr ⟨bo_st_mono (bg_push_m _), List.forall_mem_cons.mpr ⟨bo_zret_m _, List.forall_mem_cons.mpr ⟨bo_ald_m _ _, List.forall_mem_cons.mpr ⟨bo_st_mono (bg_push_m _), List.forall_mem_cons.mpr ⟨bo_callV_m (mF_M_best) _ _ _ _ _, List.forall_mem_cons.mpr ⟨bo_ist_m _ _, List.forall_mem_cons.mpr ⟨bo_ild_m _ _, List.forall_mem_cons.mpr ⟨bo_if1_m _ _ _, List.forall_mem_cons.mpr ⟨bo_ald_m _ _, List.forall_mem_cons.mpr ⟨bo_gR_m _ _ _ _, List.forall_mem_cons.mpr ⟨bo_st_mono (bg_push_m _), List.forall_mem_cons.mpr ⟨bo_ild_m _ _, List.forall_mem_cons.mpr ⟨bo_st_mono (bg_ii_m _), List.forall_mem_cons.mpr ⟨bo_ild_m _ _, List.forall_mem_cons.mpr ⟨bo_st_mono (bg_ii_m _), List.forall_mem_cons.mpr ⟨bo_st_mono bg_dup2_m, List.forall_mem_cons.mpr ⟨bo_Iald_m _ _ _, List.forall_mem_cons.mpr ⟨bo_st_mono (bg_push_m _), fun _ h => absurd h List.not_mem_nil⟩⟩⟩⟩⟩⟩⟩⟩⟩⟩⟩⟩⟩⟩⟩⟩⟩⟩⟩⟩⟩⟩⟩⟩⟩⟩⟩⟩⟩⟩⟩⟩⟩⟩⟩⟩⟩⟩⟩⟩
set_option maxRecDepth 20000 in
theorem mT_M_activate_1 : ∀ q ∈ T_M_activate_1, bh_mono q.2 := List.forall_mem_cons.mpr ⟨bo_st_mono (bg_ii_m _), List.forall_mem_cons.mpr ⟨bo_Iast_m _ _ _, List.forall_mem_cons.mpr ⟨bo_ild_m _ _, List.forall_mem_cons.mpr ⟨bo_if1_m _ _ _, List.forall_mem_cons.mpr ⟨bo_st_mono (bg_push_m _), List.forall_mem_cons.mpr ⟨bo_go_m _, List.forall_mem_cons.mpr ⟨bo_st_mono (bg_push_m _), List.forall_mem_cons.mpr ⟨bo_zret_m _, List.forall_mem_cons.mpr ⟨bo_ald_m _ _, List.forall_mem_cons.mpr ⟨bo_gR_m _ _ _ _, List.forall_mem_cons.mpr ⟨bo_ild_m _ _, List.forall_mem_cons.mpr ⟨bo_Zald_m _ _ _, List.forall_mem_cons.mpr ⟨bo_if1_m _ _ _, List.forall_mem_cons.mpr ⟨bo_st_mono (bg_push_m _), List.forall_mem_cons.mpr ⟨bo_go_m _, List.forall_mem_cons.mpr ⟨bo_st_mono (bg_push_m _), List.forall_mem_cons.mpr ⟨bo_zret_m _, fun _ h => absurd h List.not_mem_nil⟩⟩⟩⟩⟩⟩⟩⟩⟩⟩⟩⟩⟩⟩⟩⟩⟩
theorem m_M_activate : ∀ pc, bh_mono (bh_tb (T_M_activate) pc) := bh_tb_m (List.forall_mem_append.mpr ⟨mT_M_activate_0, mT_M_activate_1⟩)
def F_M_activate : bh_Fn := bh_fn 3 (bh_tb T_M_activate)
theorem mF_M_activate : bh_monoF F_M_activate := bh_fn_m m_M_activate
theorem cl_M_activate {s : State} {args : Array Value} (d B : Nat) (hts : ∀ w ∈ bh_ws, w.before args s = true) : bh_Cal (bh_rm (d + 1) B) s y_M_activate 3 (.code y_M_activate c_M_activate 3 (some .boolean) :: bh_ws) (bh_rm d 0) 0 1 := bh_cal d B hts wd_1021 wd_9 (by decide) (by decide +kernel)
set_option maxHeartbeats 4000000 in
set_option maxRecDepth 100000 in
theorem cn_M_activate {l : Launch} {G : bh_G} {base sb L : Nat} {xs : Nat → Int32} (htr : l.stackTraces = false) (d : Nat) : bh_Con l G base (bh_Bg G base sb L xs) y_M_activate (.code y_M_activate c_M_activate 3 (some .boolean) :: bh_ws) (bh_rm (d + 3) 0) 0 false F_M_activate := by
  refine bh_method (cc := c_M_activate) (ret := (some .boolean)) (by decide +kernel) rfl ?_
  intro p e s m args below meth c ad0 M0 Z X0 hr hlocks hname htab hbs hB
  obtain ⟨hx, hb, hml, hown, hts⟩ := id X0
  have hw : ∀ w ∈ bh_ws, w.before args s = true := fun w h => hts w (List.mem_cons_of_mem _ h)
  have hBg := bh_BgK (G := G) (base := base) (sb := sb) (L := L) (xs := xs)
  obtain ⟨hK, hAr, hen, hinj, hu1, hu2, hstr, hX, hsb, hsc, hxw, hao, hnc⟩ := id hB
  obtain ⟨ha1, ha2, ha3, ha4, ha5, ha6, ha0⟩ := bh_arr hAr
  refine List.forall_mem_append.mpr ⟨?_, List.forall_mem_cons.mpr ⟨fun S h => bs_iadd (Z := Z) hx hb d_M_activate_85 h, List.forall_mem_cons.mpr ⟨fun S h => bs_Iast (Z := Z) hx hb ha1 d_M_activate_86 h, List.forall_mem_cons.mpr ⟨fun S h => bs_iload_n (Z := Z) hx hb rfl d_M_activate_87 h, List.forall_mem_cons.mpr ⟨fun S h => bs_if_lt (Z := Z) hx hb d_M_activate_88 (by decide) h, List.forall_mem_cons.mpr ⟨fun S h => bs_iconst (Z := Z) hx hb (by decide) d_M_activate_91 h, List.forall_mem_cons.mpr ⟨fun S h => bs_goto (Z := Z) hx hb d_M_activate_92 (by decide) h, List.forall_mem_cons.mpr ⟨fun S h => bs_iconst (Z := Z) hx hb (by decide) d_M_activate_95 h, List.forall_mem_cons.mpr ⟨fun S h => bs_zret (Z := Z) hx hb hr hlocks d_M_activate_96 h, List.forall_mem_cons.mpr ⟨fun S h => bs_aload_n (Z := Z) hx hb rfl d_M_activate_97 h, List.forall_mem_cons.mpr ⟨fun S h => bs_gR (Z := Z) (C := R_M) (T := F_M) (N := 40) (t := 40) (j := 6) hx hb hK hts (fun w h => List.mem_cons_of_mem _ (iw_M w h)) hown rfl rfl (by decide) (hts _ (List.mem_cons_of_mem _ wd_790)) (fun _ h => h) rfl rfl rfl d_M_activate_98 h, List.forall_mem_cons.mpr ⟨fun S h => bs_iload_n (Z := Z) hx hb rfl d_M_activate_101 h, List.forall_mem_cons.mpr ⟨fun S h => bs_Zald (Z := Z) hx hb ha2 d_M_activate_102 h, List.forall_mem_cons.mpr ⟨fun S h => bs_if_ne (Z := Z) hx hb d_M_activate_103 (by decide) h, List.forall_mem_cons.mpr ⟨fun S h => bs_iconst (Z := Z) hx hb (by decide) d_M_activate_106 h, List.forall_mem_cons.mpr ⟨fun S h => bs_goto (Z := Z) hx hb d_M_activate_107 (by decide) h, List.forall_mem_cons.mpr ⟨fun S h => bs_iconst (Z := Z) hx hb (by decide) d_M_activate_110 h, List.forall_mem_cons.mpr ⟨fun S h => bs_zret (Z := Z) hx hb hr hlocks d_M_activate_111 h, fun _ h => absurd h List.not_mem_nil⟩⟩⟩⟩⟩⟩⟩⟩⟩⟩⟩⟩⟩⟩⟩⟩⟩⟩
  exact List.forall_mem_cons.mpr ⟨fun S h => bs_aload_n (Z := Z) hx hb rfl d_M_activate_0 h, List.forall_mem_cons.mpr ⟨fun S h => bs_gR (Z := Z) (C := R_M) (T := F_M) (N := 40) (t := 40) (j := 4) hx hb hK hts (fun w h => List.mem_cons_of_mem _ (iw_M w h)) hown rfl rfl (by decide) (hts _ (List.mem_cons_of_mem _ wd_788)) (fun _ h => h) rfl rfl rfl d_M_activate_1 h, List.forall_mem_cons.mpr ⟨fun S h => bs_iload_n (Z := Z) hx hb rfl d_M_activate_4 h, List.forall_mem_cons.mpr ⟨fun S h => bs_Iald (Z := Z) hx hb ha1 d_M_activate_5 h, List.forall_mem_cons.mpr ⟨fun S h => bs_tsw (Z := Z) hx hb d_M_activate_6 (by decide) (by decide +kernel) (bh_sw_M_activate_6) h, List.forall_mem_cons.mpr ⟨fun S h => bs_iconst (Z := Z) hx hb (by decide) d_M_activate_36 h, List.forall_mem_cons.mpr ⟨fun S h => bs_zret (Z := Z) hx hb hr hlocks d_M_activate_37 h, List.forall_mem_cons.mpr ⟨fun S h => bs_iconst (Z := Z) hx hb (by decide) d_M_activate_38 h, List.forall_mem_cons.mpr ⟨fun S h => bs_zret (Z := Z) hx hb hr hlocks d_M_activate_39 h, List.forall_mem_cons.mpr ⟨fun S h => bs_aload_n (Z := Z) hx hb rfl d_M_activate_40 h, List.forall_mem_cons.mpr ⟨fun S h => bs_gI (Z := Z) (C := R_M) (T := F_M) (N := 40) (t := 40) (j := 34) hx hb hK hts (fun w h => List.mem_cons_of_mem _ (iw_M w h)) hown rfl rfl (by decide) (hts _ (List.mem_cons_of_mem _ wd_818)) (fun _ h => h) rfl rfl rfl d_M_activate_41 h, List.forall_mem_cons.mpr ⟨fun S h => bs_bipush (Z := Z) hx hb (by decide) d_M_activate_44 h, List.forall_mem_cons.mpr ⟨fun S h => bs_icmp_ne (Z := Z) hx hb d_M_activate_46 (by decide) h, List.forall_mem_cons.mpr ⟨fun S h => bs_iconst (Z := Z) hx hb (by decide) d_M_activate_49 h, List.forall_mem_cons.mpr ⟨fun S h => bs_zret (Z := Z) hx hb hr hlocks d_M_activate_50 h, List.forall_mem_cons.mpr ⟨fun S h => bs_aload_n (Z := Z) hx hb rfl d_M_activate_51 h, List.forall_mem_cons.mpr ⟨fun S h => bs_iload_n (Z := Z) hx hb rfl d_M_activate_52 h, List.forall_mem_cons.mpr ⟨fun S h => bs_iconst (Z := Z) hx hb (by decide) d_M_activate_53 h, List.forall_mem_cons.mpr ⟨fun S h => bs_iload_n (Z := Z) hx hb rfl d_M_activate_54 h, List.forall_mem_cons.mpr ⟨fun S h => bs_i2d (Z := Z) hx hb d_M_activate_55 h, List.forall_mem_cons.mpr ⟨fun S h => bs_callV (Z := Z) (C := R_M) hBg hbs hB X0 hK (cn_M_put htr (d + 0)) (cl_M_put _ _ hw) (hts _ (List.mem_cons_of_mem _ wd_1022)) (hts _ (List.mem_cons_of_mem _ wd_1024)) (hts _ (List.mem_cons_of_mem _ ws_46)) rfl rfl rfl rfl rfl (Nat.le_refl _) (Nat.le_refl _) d_M_activate_56 (bs_out htab hlocks) h, List.forall_mem_cons.mpr ⟨fun S h => bs_pop (Z := Z) hx hb d_M_activate_59 h, List.forall_mem_cons.mpr ⟨fun S h => bs_iconst (Z := Z) hx hb (by decide) d_M_activate_60 h, List.forall_mem_cons.mpr ⟨fun S h => bs_zret (Z := Z) hx hb hr hlocks d_M_activate_61 h, List.forall_mem_cons.mpr ⟨fun S h => bs_aload_n (Z := Z) hx hb rfl d_M_activate_62 h, List.forall_mem_cons.mpr ⟨fun S h => bs_iconst (Z := Z) hx hb (by decide) d_M_activate_63 h, List.forall_mem_cons.mpr ⟨fun S h => bs_callV (Z := Z) (C := R_M) hBg hbs hB X0 hK (cn_M_best htr (d + 1)) (cl_M_best _ _ hw) (hts _ (List.mem_cons_of_mem _ wd_1030)) (hts _ (List.mem_cons_of_mem _ wd_1032)) (hts _ (List.mem_cons_of_mem _ ws_48)) rfl rfl rfl rfl rfl (Nat.le_refl _) (Nat.le_refl _) d_M_activate_64 (bs_out htab hlocks) h, List.forall_mem_cons.mpr ⟨fun S h => bs_istore_n (Z := Z) hx hb rfl d_M_activate_67 h, List.forall_mem_cons.mpr ⟨fun S h => bs_iload_n (Z := Z) hx hb rfl d_M_activate_68 h, List.forall_mem_cons.mpr ⟨fun S h => bs_if_lt (Z := Z) hx hb d_M_activate_69 (by decide) h, List.forall_mem_cons.mpr ⟨fun S h => bs_aload_n (Z := Z) hx hb rfl d_M_activate_72 h, List.forall_mem_cons.mpr ⟨fun S h => bs_gR (Z := Z) (C := R_M) (T := F_M) (N := 40) (t := 40) (j := 33) hx hb hK hts (fun w h => List.mem_cons_of_mem _ (iw_M w h)) hown rfl rfl (by decide) (hts _ (List.mem_cons_of_mem _ wd_817)) (fun _ h => h) rfl rfl rfl d_M_activate_73 h, List.forall_mem_cons.mpr ⟨fun S h => bs_bipush (Z := Z) hx hb (by decide) d_M_activate_76 h, List.forall_mem_cons.mpr ⟨fun S h => bs_iload_n (Z := Z) hx hb rfl d_M_activate_78 h, List.forall_mem_cons.mpr ⟨fun S h => bs_imul (Z := Z) hx hb d_M_activate_79 h, List.forall_mem_cons.mpr ⟨fun S h => bs_iload_n (Z := Z) hx hb rfl d_M_activate_80 h, List.forall_mem_cons.mpr ⟨fun S h => bs_iadd (Z := Z) hx hb d_M_activate_81 h, List.forall_mem_cons.mpr ⟨fun S h => bs_dup2 (Z := Z) hx hb d_M_activate_82 h, List.forall_mem_cons.mpr ⟨fun S h => bs_Iald (Z := Z) hx hb ha1 d_M_activate_83 h, List.forall_mem_cons.mpr ⟨fun S h => bs_iconst (Z := Z) hx hb (by decide) d_M_activate_84 h, fun _ h => absurd h List.not_mem_nil⟩⟩⟩⟩⟩⟩⟩⟩⟩⟩⟩⟩⟩⟩⟩⟩⟩⟩⟩⟩⟩⟩⟩⟩⟩⟩⟩⟩⟩⟩⟩⟩⟩⟩⟩⟩⟩⟩⟩⟩
abbrev c_M_starting : ByteArray := prog_10_method_33_code
def y_M_starting : MethodName := ⟨"BundleHallModel", "starting", "(I)I"⟩
theorem d_M_starting_0 : decode c_M_starting 0 = .ok (.aload_n 0, 1) := by decide +kernel
theorem d_M_starting_1 : decode c_M_starting 1 = .ok (.getfield 7, 3) := by decide +kernel
theorem d_M_starting_4 : decode c_M_starting 4 = .ok (.iload_n 1, 1) := by decide +kernel
theorem d_M_starting_5 : decode c_M_starting 5 = .ok (.iaload, 1) := by decide +kernel
theorem d_M_starting_6 : decode c_M_starting 6 = .ok (.iconst 1, 1) := by decide +kernel
theorem d_M_starting_7 : decode c_M_starting 7 = .ok (.if_icmp .ne 24, 3) := by decide +kernel
theorem d_M_starting_10 : decode c_M_starting 10 = .ok (.aload_n 0, 1) := by decide +kernel
theorem d_M_starting_11 : decode c_M_starting 11 = .ok (.iload_n 1, 1) := by decide +kernel
theorem d_M_starting_12 : decode c_M_starting 12 = .ok (.invokevirtual 204, 3) := by decide +kernel
theorem d_M_starting_15 : decode c_M_starting 15 = .ok (.istore_n 2, 1) := by decide +kernel
theorem d_M_starting_16 : decode c_M_starting 16 = .ok (.iload_n 2, 1) := by decide +kernel
theorem d_M_starting_17 : decode c_M_starting 17 = .ok (.ifCond .eq 14, 3) := by decide +kernel
theorem d_M_starting_20 : decode c_M_starting 20 = .ok (.iload_n 2, 1) := by decide +kernel
theorem d_M_starting_21 : decode c_M_starting 21 = .ok (.iconst 3, 1) := by decide +kernel
theorem d_M_starting_22 : decode c_M_starting 22 = .ok (.if_icmp .ne 7, 3) := by decide +kernel
theorem d_M_starting_25 : decode c_M_starting 25 = .ok (.iconst 3, 1) := by decide +kernel
theorem d_M_starting_26 : decode c_M_starting 26 = .ok (.goto 4, 3) := by decide +kernel
theorem d_M_starting_29 : decode c_M_starting 29 = .ok (.iconst 5, 1) := by decide +kernel
theorem d_M_starting_30 : decode c_M_starting 30 = .ok (.ireturn, 1) := by decide +kernel
theorem d_M_starting_31 : decode c_M_starting 31 = .ok (.aload_n 0, 1) := by decide +kernel
theorem d_M_starting_32 : decode c_M_starting 32 = .ok (.iload_n 1, 1) := by decide +kernel
theorem d_M_starting_33 : decode c_M_starting 33 = .ok (.invokevirtual 223, 3) := by decide +kernel
theorem d_M_starting_36 : decode c_M_starting 36 = .ok (.ifCond .ne 5, 3) := by decide +kernel
theorem d_M_starting_39 : decode c_M_starting 39 = .ok (.iconst 4, 1) := by decide +kernel
theorem d_M_starting_40 : decode c_M_starting 40 = .ok (.ireturn, 1) := by decide +kernel
theorem d_M_starting_41 : decode c_M_starting 41 = .ok (.aload_n 0, 1) := by decide +kernel
theorem d_M_starting_42 : decode c_M_starting 42 = .ok (.getfield 7, 3) := by decide +kernel
theorem d_M_starting_45 : decode c_M_starting 45 = .ok (.iload_n 1, 1) := by decide +kernel
theorem d_M_starting_46 : decode c_M_starting 46 = .ok (.iconst 3, 1) := by decide +kernel
theorem d_M_starting_47 : decode c_M_starting 47 = .ok (.iastore, 1) := by decide +kernel
theorem d_M_starting_48 : decode c_M_starting 48 = .ok (.aload_n 0, 1) := by decide +kernel
theorem d_M_starting_49 : decode c_M_starting 49 = .ok (.getfield 26, 3) := by decide +kernel
theorem d_M_starting_52 : decode c_M_starting 52 = .ok (.iload_n 1, 1) := by decide +kernel
theorem d_M_starting_53 : decode c_M_starting 53 = .ok (.iconst 1, 1) := by decide +kernel
theorem d_M_starting_54 : decode c_M_starting 54 = .ok (.bastore, 1) := by decide +kernel
theorem d_M_starting_55 : decode c_M_starting 55 = .ok (.aload_n 0, 1) := by decide +kernel
theorem d_M_starting_56 : decode c_M_starting 56 = .ok (.bipush 100, 2) := by decide +kernel
theorem d_M_starting_58 : decode c_M_starting 58 = .ok (.iload_n 1, 1) := by decide +kernel
theorem d_M_starting_59 : decode c_M_starting 59 = .ok (.iadd, 1) := by decide +kernel
theorem d_M_starting_60 : decode c_M_starting 60 = .ok (.invokevirtual 213, 3) := by decide +kernel
theorem d_M_starting_63 : decode c_M_starting 63 = .ok (.iconst 0, 1) := by decide +kernel
theorem d_M_starting_64 : decode c_M_starting 64 = .ok (.ireturn, 1) := by decide +kernel
def T_M_starting_0 : List (Nat × bh_Op) := [(0, bo_ald 1 0),
  (1, bo_gR 4 40 1 41),
  (4, bo_ild 5 1),
  (5, bo_Iald bh_ak bh_al 6),
  (6, bo_st 7 (bg_push (.inl (.int 1)))),
  (7, bo_if2 10 31 (fun x y => ¬ x = y)),
  (10, bo_ald 11 0),
  (11, bo_ild 12 1),
  (12, bo_callV 15 2 0 0 40 F_M_resolving),
  (15, bo_ist 16 2),
  (16, bo_ild 17 2),
  (17, bo_if1 20 31 (fun x => x = 0)),
  (20, bo_ild 21 2),
  (21, bo_st 22 (bg_push (.inl (.int 3)))),
  (22, bo_if2 25 29 (fun x y => ¬ x = y)),
  (25, bo_st 26 (bg_push (.inl (.int 3)))),
  (26, bo_go 30),
  (29, bo_st 30 (bg_push (.inl (.int 5)))),
  (30, bo_iret 0),
  (31, bo_ald 32 0),
  (32, bo_ild 33 1),
  (33, bo_callV 36 2 0 0 40 F_M_activate),
  (36, bo_if1 39 41 (fun x => ¬ x = 0)),
  (39, bo_st 40 (bg_push (.inl (.int 4)))),
  (40, bo_iret 0),
  (41, bo_ald 42 0),
  (42, bo_gR 45 40 1 41),
  (45, bo_ild 46 1),
  (46, bo_st 47 (bg_push (.inl (.int 3)))),
  (47, bo_Iast bh_ak bh_al 48),
  (48, bo_ald 49 0),
  (49, bo_gR 52 40 6 46),
  (52, bo_ild 53 1),
  (53, bo_st 54 (bg_push (.inl (.int 1)))),
  (54, bo_Zast bh_ak bh_al 55),
  (55, bo_ald 56 0),
  (56, bo_st 58 (bg_push (.inl (.int 100)))),
  (58, bo_ild 59 1),
  (59, bo_st 60 (bg_ii (fun x y => x + y))),
  (60, bo_callV 63 2 0 0 40 F_M_note)]
def T_M_starting_1 : List (Nat × bh_Op) := [(63, bo_st 64 (bg_push (.inl (.int 0)))),
  (64, bo_iret 0)]
def T_M_starting : List (Nat × bh_Op) := T_M_starting_0 ++ T_M_starting_1
set_option maxRecDepth 20000 in
theorem mT_M_starting_0 : ∀ q ∈ T_M_starting_0, bh_mono q.2 := List.forall_mem_cons.mpr ⟨bo_ald_m _ _, List.forall_mem_cons.mpr ⟨bo_gR_m _ _ _ _, List.forall_mem_cons.mpr ⟨bo_ild_m _ _, List.forall_mem_cons.mpr ⟨bo_Iald_m _ _ _, List.forall_mem_cons.mpr ⟨bo_st_mono (bg_push_m _), List.forall_mem_cons.mpr ⟨bo_if2_m _ _ _, List.forall_mem_cons.mpr ⟨bo_ald_m _ _, List.forall_mem_cons.mpr ⟨bo_ild_m _ _, List.forall_mem_cons.mpr ⟨bo_callV_m (mF_M_resolving) _ _ _ _ _, List.forall_mem_cons.mpr ⟨bo_ist_m _ _, List.forall_mem_cons.mpr ⟨bo_ild_m _ _, List.forall_mem_cons.mpr ⟨bo_if1_m _ _ _, List.forall_mem_cons.mpr ⟨bo_ild_m _ _, List.forall_mem_cons.mpr ⟨bo_st_mono (bg_push_m _), List.forall_mem_cons.mpr ⟨bo_if2_m _ _ _, List.forall_mem_cons.mpr ⟨bo_st_mono (bg_push_m _), List.forall_mem_cons.mpr ⟨bo_go_m _, List.forall_mem_cons.mpr ⟨bo_st_mono (bg_push_m _), List.forall_mem_cons.mpr ⟨bo_iret_m _, List.forall_mem_cons.mpr ⟨bo_ald_m _ _, List.forall_mem_cons.mpr ⟨bo_ild_m _ _, List.forall_mem_cons.mpr ⟨bo_callV_m (mF_M_activate) _ _ _ _ _, List.forall_mem_cons.mpr ⟨bo_if1_m _ _ _, List.forall_mem_cons.mpr ⟨bo_st_mono (bg_push_m _), List.forall_mem_cons.mpr ⟨bo_iret_m _, List.forall_mem_cons.mpr ⟨bo_ald_m _ _, List.forall_mem_cons.mpr ⟨bo_gR_m _ _ _ _, List.forall_mem_cons.mpr ⟨bo_ild_m _ _, List.forall_mem_cons.mpr ⟨bo_st_mono (bg_push_m _), List.forall_mem_cons.mpr ⟨bo_Iast_m _ _ _, List.forall_mem_cons.mpr ⟨bo_ald_m _ _, List.forall_mem_cons.mpr ⟨bo_gR_m _ _ _ _, List.forall_mem_cons.mpr ⟨bo_ild_m _ _, List.forall_mem_cons.mpr ⟨bo_st_mono (bg_push_m _), List.forall_mem_cons.mpr ⟨bo_Zast_m _ _ _, List.forall_mem_cons.mpr ⟨bo_ald_m _ _, List.forall_mem_cons.mpr ⟨bo_st_mono (bg_push_m _), List.forall_mem_cons.mpr ⟨bo_ild_m _ _, List.forall_mem_cons.mpr ⟨bo_st_mono (bg_ii_m _), List.forall_mem_cons.mpr ⟨bo_callV_m (mF_M_note) _ _ _ _ _, fun _ h => absurd h List.not_mem_nil⟩⟩⟩⟩⟩⟩⟩⟩⟩⟩⟩⟩⟩⟩⟩⟩⟩⟩⟩⟩⟩⟩⟩⟩⟩⟩⟩⟩⟩⟩⟩⟩⟩⟩⟩⟩⟩⟩⟩⟩
set_option maxRecDepth 20000 in
theorem mT_M_starting_1 : ∀ q ∈ T_M_starting_1, bh_mono q.2 := List.forall_mem_cons.mpr ⟨bo_st_mono (bg_push_m _), List.forall_mem_cons.mpr ⟨bo_iret_m _, fun _ h => absurd h List.not_mem_nil⟩⟩
theorem m_M_starting : ∀ pc, bh_mono (bh_tb (T_M_starting) pc) := bh_tb_m (List.forall_mem_append.mpr ⟨mT_M_starting_0, mT_M_starting_1⟩)
def F_M_starting : bh_Fn := bh_fn 3 (bh_tb T_M_starting)
theorem mF_M_starting : bh_monoF F_M_starting := bh_fn_m m_M_starting
theorem cl_M_starting {s : State} {args : Array Value} (d B : Nat) (hts : ∀ w ∈ bh_ws, w.before args s = true) : bh_Cal (bh_rm (d + 1) B) s y_M_starting 3 (.code y_M_starting c_M_starting 3 (some .int) :: bh_ws) (bh_rm d 0) 0 1 := bh_cal d B hts wd_1017 wd_9 (by decide) (by decide +kernel)
set_option maxHeartbeats 4000000 in
set_option maxRecDepth 100000 in
theorem cn_M_starting {l : Launch} {G : bh_G} {base sb L : Nat} {xs : Nat → Int32} (htr : l.stackTraces = false) (d : Nat) : bh_Con l G base (bh_Bg G base sb L xs) y_M_starting (.code y_M_starting c_M_starting 3 (some .int) :: bh_ws) (bh_rm (d + 7) 0) 0 false F_M_starting := by
  refine bh_method (cc := c_M_starting) (ret := (some .int)) (by decide +kernel) rfl ?_
  intro p e s m args below meth c ad0 M0 Z X0 hr hlocks hname htab hbs hB
  obtain ⟨hx, hb, hml, hown, hts⟩ := id X0
  have hw : ∀ w ∈ bh_ws, w.before args s = true := fun w h => hts w (List.mem_cons_of_mem _ h)
  have hBg := bh_BgK (G := G) (base := base) (sb := sb) (L := L) (xs := xs)
  obtain ⟨hK, hAr, hen, hinj, hu1, hu2, hstr, hX, hsb, hsc, hxw, hao, hnc⟩ := id hB
  obtain ⟨ha1, ha2, ha3, ha4, ha5, ha6, ha0⟩ := bh_arr hAr
  refine List.forall_mem_append.mpr ⟨?_, List.forall_mem_cons.mpr ⟨fun S h => bs_iconst (Z := Z) hx hb (by decide) d_M_starting_63 h, List.forall_mem_cons.mpr ⟨fun S h => bs_iret (Z := Z) hx hb hr hlocks d_M_starting_64 h, fun _ h => absurd h List.not_mem_nil⟩⟩⟩
  exact List.forall_mem_cons.mpr ⟨fun S h => bs_aload_n (Z := Z) hx hb rfl d_M_starting_0 h, List.forall_mem_cons.mpr ⟨fun S h => bs_gR (Z := Z) (C := R_M) (T := F_M) (N := 40) (t := 40) (j := 1) hx hb hK hts (fun w h => List.mem_cons_of_mem _ (iw_M w h)) hown rfl rfl (by decide) (hts _ (List.mem_cons_of_mem _ wd_785)) (fun _ h => h) rfl rfl rfl d_M_starting_1 h, List.forall_mem_cons.mpr ⟨fun S h => bs_iload_n (Z := Z) hx hb rfl d_M_starting_4 h, List.forall_mem_cons.mpr ⟨fun S h => bs_Iald (Z := Z) hx hb ha1 d_M_starting_5 h, List.forall_mem_cons.mpr ⟨fun S h => bs_iconst (Z := Z) hx hb (by decide) d_M_starting_6 h, List.forall_mem_cons.mpr ⟨fun S h => bs_icmp_ne (Z := Z) hx hb d_M_starting_7 (by decide) h, List.forall_mem_cons.mpr ⟨fun S h => bs_aload_n (Z := Z) hx hb rfl d_M_starting_10 h, List.forall_mem_cons.mpr ⟨fun S h => bs_iload_n (Z := Z) hx hb rfl d_M_starting_11 h, List.forall_mem_cons.mpr ⟨fun S h => bs_callV (Z := Z) (C := R_M) hBg hbs hB X0 hK (cn_M_resolving htr (d + 0)) (cl_M_resolving _ _ hw) (hts _ (List.mem_cons_of_mem _ wd_949)) (hts _ (List.mem_cons_of_mem _ wd_951)) (hts _ (List.mem_cons_of_mem _ ws_29)) rfl rfl rfl rfl rfl (Nat.le_refl _) (Nat.le_refl _) d_M_starting_12 (bs_out htab hlocks) h, List.forall_mem_cons.mpr ⟨fun S h => bs_istore_n (Z := Z) hx hb rfl d_M_starting_15 h, List.forall_mem_cons.mpr ⟨fun S h => bs_iload_n (Z := Z) hx hb rfl d_M_starting_16 h, List.forall_mem_cons.mpr ⟨fun S h => bs_if_eq (Z := Z) hx hb d_M_starting_17 (by decide) h, List.forall_mem_cons.mpr ⟨fun S h => bs_iload_n (Z := Z) hx hb rfl d_M_starting_20 h, List.forall_mem_cons.mpr ⟨fun S h => bs_iconst (Z := Z) hx hb (by decide) d_M_starting_21 h, List.forall_mem_cons.mpr ⟨fun S h => bs_icmp_ne (Z := Z) hx hb d_M_starting_22 (by decide) h, List.forall_mem_cons.mpr ⟨fun S h => bs_iconst (Z := Z) hx hb (by decide) d_M_starting_25 h, List.forall_mem_cons.mpr ⟨fun S h => bs_goto (Z := Z) hx hb d_M_starting_26 (by decide) h, List.forall_mem_cons.mpr ⟨fun S h => bs_iconst (Z := Z) hx hb (by decide) d_M_starting_29 h, List.forall_mem_cons.mpr ⟨fun S h => bs_iret (Z := Z) hx hb hr hlocks d_M_starting_30 h, List.forall_mem_cons.mpr ⟨fun S h => bs_aload_n (Z := Z) hx hb rfl d_M_starting_31 h, List.forall_mem_cons.mpr ⟨fun S h => bs_iload_n (Z := Z) hx hb rfl d_M_starting_32 h, List.forall_mem_cons.mpr ⟨fun S h => bs_callV (Z := Z) (C := R_M) hBg hbs hB X0 hK (cn_M_activate htr (d + 3)) (cl_M_activate _ _ hw) (hts _ (List.mem_cons_of_mem _ wd_1018)) (hts _ (List.mem_cons_of_mem _ wd_1020)) (hts _ (List.mem_cons_of_mem _ ws_45)) rfl rfl rfl rfl rfl (Nat.le_refl _) (Nat.le_refl _) d_M_starting_33 (bs_out htab hlocks) h, List.forall_mem_cons.mpr ⟨fun S h => bs_if_ne (Z := Z) hx hb d_M_starting_36 (by decide) h, List.forall_mem_cons.mpr ⟨fun S h => bs_iconst (Z := Z) hx hb (by decide) d_M_starting_39 h, List.forall_mem_cons.mpr ⟨fun S h => bs_iret (Z := Z) hx hb hr hlocks d_M_starting_40 h, List.forall_mem_cons.mpr ⟨fun S h => bs_aload_n (Z := Z) hx hb rfl d_M_starting_41 h, List.forall_mem_cons.mpr ⟨fun S h => bs_gR (Z := Z) (C := R_M) (T := F_M) (N := 40) (t := 40) (j := 1) hx hb hK hts (fun w h => List.mem_cons_of_mem _ (iw_M w h)) hown rfl rfl (by decide) (hts _ (List.mem_cons_of_mem _ wd_785)) (fun _ h => h) rfl rfl rfl d_M_starting_42 h, List.forall_mem_cons.mpr ⟨fun S h => bs_iload_n (Z := Z) hx hb rfl d_M_starting_45 h, List.forall_mem_cons.mpr ⟨fun S h => bs_iconst (Z := Z) hx hb (by decide) d_M_starting_46 h, List.forall_mem_cons.mpr ⟨fun S h => bs_Iast (Z := Z) hx hb ha1 d_M_starting_47 h, List.forall_mem_cons.mpr ⟨fun S h => bs_aload_n (Z := Z) hx hb rfl d_M_starting_48 h, List.forall_mem_cons.mpr ⟨fun S h => bs_gR (Z := Z) (C := R_M) (T := F_M) (N := 40) (t := 40) (j := 6) hx hb hK hts (fun w h => List.mem_cons_of_mem _ (iw_M w h)) hown rfl rfl (by decide) (hts _ (List.mem_cons_of_mem _ wd_790)) (fun _ h => h) rfl rfl rfl d_M_starting_49 h, List.forall_mem_cons.mpr ⟨fun S h => bs_iload_n (Z := Z) hx hb rfl d_M_starting_52 h, List.forall_mem_cons.mpr ⟨fun S h => bs_iconst (Z := Z) hx hb (by decide) d_M_starting_53 h, List.forall_mem_cons.mpr ⟨fun S h => bs_Zast (Z := Z) hx hb ha2 d_M_starting_54 h, List.forall_mem_cons.mpr ⟨fun S h => bs_aload_n (Z := Z) hx hb rfl d_M_starting_55 h, List.forall_mem_cons.mpr ⟨fun S h => bs_bipush (Z := Z) hx hb (by decide) d_M_starting_56 h, List.forall_mem_cons.mpr ⟨fun S h => bs_iload_n (Z := Z) hx hb rfl d_M_starting_58 h, List.forall_mem_cons.mpr ⟨fun S h => bs_iadd (Z := Z) hx hb d_M_starting_59 h, List.forall_mem_cons.mpr ⟨fun S h => bs_callV (Z := Z) (C := R_M) hBg hbs hB X0 hK (cn_M_note htr (d + 5)) (cl_M_note _ _ hw) (hts _ (List.mem_cons_of_mem _ wd_1026)) (hts _ (List.mem_cons_of_mem _ wd_1028)) (hts _ (List.mem_cons_of_mem _ ws_47)) rfl rfl rfl rfl rfl (Nat.le_refl _) (Nat.le_refl _) d_M_starting_60 (bs_out htab hlocks) h, fun _ h => absurd h List.not_mem_nil⟩⟩⟩⟩⟩⟩⟩⟩⟩⟩⟩⟩⟩⟩⟩⟩⟩⟩⟩⟩⟩⟩⟩⟩⟩⟩⟩⟩⟩⟩⟩⟩⟩⟩⟩⟩⟩⟩⟩⟩
