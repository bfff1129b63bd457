abbrev c_V_sumOfRanks : ByteArray := prog_8_method_9_code
def y_V_sumOfRanks : MethodName := ⟨"BundleHall$Services", "sumOfRanks", "(I)D"⟩
theorem d_V_sumOfRanks_0 : decode c_V_sumOfRanks 0 = .ok (.dconst 0, 1) := by decide +kernel
theorem d_V_sumOfRanks_1 : decode c_V_sumOfRanks 1 = .ok (.dstore_n 2, 1) := by decide +kernel
theorem d_V_sumOfRanks_2 : decode c_V_sumOfRanks 2 = .ok (.iconst 0, 1) := by decide +kernel
theorem d_V_sumOfRanks_3 : decode c_V_sumOfRanks 3 = .ok (.istore 4, 2) := by decide +kernel
theorem d_V_sumOfRanks_5 : decode c_V_sumOfRanks 5 = .ok (.iload 4, 2) := by decide +kernel
theorem d_V_sumOfRanks_7 : decode c_V_sumOfRanks 7 = .ok (.aload_n 0, 1) := by decide +kernel
theorem d_V_sumOfRanks_8 : decode c_V_sumOfRanks 8 = .ok (.getfield 18, 3) := by decide +kernel
theorem d_V_sumOfRanks_11 : decode c_V_sumOfRanks 11 = .ok (.if_icmp .ge 36, 3) := by decide +kernel
theorem d_V_sumOfRanks_14 : decode c_V_sumOfRanks 14 = .ok (.aload_n 0, 1) := by decide +kernel
theorem d_V_sumOfRanks_15 : decode c_V_sumOfRanks 15 = .ok (.getfield 11, 3) := by decide +kernel
theorem d_V_sumOfRanks_18 : decode c_V_sumOfRanks 18 = .ok (.iload 4, 2) := by decide +kernel
theorem d_V_sumOfRanks_20 : decode c_V_sumOfRanks 20 = .ok (.aaload, 1) := by decide +kernel
theorem d_V_sumOfRanks_21 : decode c_V_sumOfRanks 21 = .ok (.getfield 31, 3) := by decide +kernel
theorem d_V_sumOfRanks_24 : decode c_V_sumOfRanks 24 = .ok (.iload_n 1, 1) := by decide +kernel
theorem d_V_sumOfRanks_25 : decode c_V_sumOfRanks 25 = .ok (.if_icmp .ne 16, 3) := by decide +kernel
theorem d_V_sumOfRanks_28 : decode c_V_sumOfRanks 28 = .ok (.dload_n 2, 1) := by decide +kernel
theorem d_V_sumOfRanks_29 : decode c_V_sumOfRanks 29 = .ok (.aload_n 0, 1) := by decide +kernel
theorem d_V_sumOfRanks_30 : decode c_V_sumOfRanks 30 = .ok (.getfield 11, 3) := by decide +kernel
theorem d_V_sumOfRanks_33 : decode c_V_sumOfRanks 33 = .ok (.iload 4, 2) := by decide +kernel
theorem d_V_sumOfRanks_35 : decode c_V_sumOfRanks 35 = .ok (.aaload, 1) := by decide +kernel
theorem d_V_sumOfRanks_36 : decode c_V_sumOfRanks 36 = .ok (.getfield 34, 3) := by decide +kernel
theorem d_V_sumOfRanks_39 : decode c_V_sumOfRanks 39 = .ok (.dadd, 1) := by decide +kernel
theorem d_V_sumOfRanks_40 : decode c_V_sumOfRanks 40 = .ok (.dstore_n 2, 1) := by decide +kernel
theorem d_V_sumOfRanks_41 : decode c_V_sumOfRanks 41 = .ok (.iinc 4 1, 3) := by decide +kernel
theorem d_V_sumOfRanks_44 : decode c_V_sumOfRanks 44 = .ok (.goto (-39), 3) := by decide +kernel
theorem d_V_sumOfRanks_47 : decode c_V_sumOfRanks 47 = .ok (.dload_n 2, 1) := by decide +kernel
theorem d_V_sumOfRanks_48 : decode c_V_sumOfRanks 48 = .ok (.dreturn, 1) := by decide +kernel
def T_V_sumOfRanks_0 : List (Nat × bh_Op) := [(0, bo_st 1 (bg_push (.inl (.double FP.dconst0)))),
  (1, bo_dst 2 2),
  (2, bo_st 3 (bg_push (.inl (.int 0)))),
  (3, bo_ist 5 4),
  (5, bo_ild 7 4),
  (7, bo_ald 8 0),
  (8, bo_gI 11 19 1),
  (11, bo_if2 14 47 (fun x y => y ≤ x)),
  (14, bo_ald 15 0),
  (15, bo_gR 18 19 0 20),
  (18, bo_ild 20 4),
  (20, bo_Rald bh_ak bh_al 21),
  (21, bo_gI 24 21 3),
  (24, bo_ild 25 1),
  (25, bo_if2 28 41 (fun x y => ¬ x = y)),
  (28, bo_dld 29 2),
  (29, bo_ald 30 0),
  (30, bo_gR 33 19 0 20),
  (33, bo_ild 35 4),
  (35, bo_Rald bh_ak bh_al 36),
  (36, bo_gD 39 21 4),
  (39, bo_st 40 (bg_dd FP.dadd)),
  (40, bo_dst 41 2),
  (41, bo_inc 44 4 1),
  (44, bo_go 5),
  (47, bo_dld 48 2),
  (48, bo_dret 0)]
def T_V_sumOfRanks : List (Nat × bh_Op) := T_V_sumOfRanks_0
set_option maxRecDepth 20000 in
theorem mT_V_sumOfRanks_0 : ∀ q ∈ T_V_sumOfRanks_0, bh_mono q.2 := List.forall_mem_cons.mpr ⟨bo_st_mono (bg_push_m _), List.forall_mem_cons.mpr ⟨bo_dst_m _ _, List.forall_mem_cons.mpr ⟨bo_st_mono (bg_push_m _), List.forall_mem_cons.mpr ⟨bo_ist_m _ _, List.forall_mem_cons.mpr ⟨bo_ild_m _ _, List.forall_mem_cons.mpr ⟨bo_ald_m _ _, List.forall_mem_cons.mpr ⟨bo_gI_m _ _ _, List.forall_mem_cons.mpr ⟨bo_if2_m _ _ _, List.forall_mem_cons.mpr ⟨bo_ald_m _ _, List.forall_mem_cons.mpr ⟨bo_gR_m _ _ _ _, List.forall_mem_cons.mpr ⟨bo_ild_m _ _, List.forall_mem_cons.mpr ⟨bo_Rald_m _ _ _, List.forall_mem_cons.mpr ⟨bo_gI_m _ _ _, List.forall_mem_cons.mpr ⟨bo_ild_m _ _, List.forall_mem_cons.mpr ⟨bo_if2_m _ _ _, List.forall_mem_cons.mpr ⟨bo_dld_m _ _, List.forall_mem_cons.mpr ⟨bo_ald_m _ _, List.forall_mem_cons.mpr ⟨bo_gR_m _ _ _ _, List.forall_mem_cons.mpr ⟨bo_ild_m _ _, List.forall_mem_cons.mpr ⟨bo_Rald_m _ _ _, List.forall_mem_cons.mpr ⟨bo_gD_m _ _ _, List.forall_mem_cons.mpr ⟨bo_st_mono (bg_dd_m _), List.forall_mem_cons.mpr ⟨bo_dst_m _ _, List.forall_mem_cons.mpr ⟨bo_inc_m _ _ _, List.forall_mem_cons.mpr ⟨bo_go_m _, List.forall_mem_cons.mpr ⟨bo_dld_m _ _, List.forall_mem_cons.mpr ⟨bo_dret_m _, fun _ h => absurd h List.not_mem_nil⟩⟩⟩⟩⟩⟩⟩⟩⟩⟩⟩⟩⟩⟩⟩⟩⟩⟩⟩⟩⟩⟩⟩⟩⟩⟩⟩
theorem m_V_sumOfRanks : ∀ pc, bh_mono (bh_tb (T_V_sumOfRanks) pc) := bh_tb_m mT_V_sumOfRanks_0
def F_V_sumOfRanks : bh_Fn := bh_fn 5 (bh_tb T_V_sumOfRanks)
theorem mF_V_sumOfRanks : bh_monoF F_V_sumOfRanks := bh_fn_m m_V_sumOfRanks
theorem cl_V_sumOfRanks {s : State} {args : Array Value} (d B : Nat) (hts : ∀ w ∈ bh_ws, w.before args s = true) : bh_Cal (bh_rm (d + 1) B) s y_V_sumOfRanks 5 (.code y_V_sumOfRanks c_V_sumOfRanks 5 (some .double) :: bh_ws) (bh_rm d 0) 0 1 := bh_cal d B hts wd_746 wd_6 (by decide) (by decide +kernel)
set_option maxHeartbeats 4000000 in
set_option maxRecDepth 100000 in
theorem cn_V_sumOfRanks {l : Launch} {G : bh_G} {base sb L : Nat} {xs : Nat → Int32} (htr : l.stackTraces = false) (d : Nat) : bh_Con l G base (bh_Bg G base sb L xs) y_V_sumOfRanks (.code y_V_sumOfRanks c_V_sumOfRanks 5 (some .double) :: bh_ws) (bh_rm (d + 1) 0) 0 false F_V_sumOfRanks := by
  refine bh_method (cc := c_V_sumOfRanks) (ret := (some .double)) (by decide +kernel) rfl ?_
  intro p e s m args below meth c ad0 M0 Z X0 hr hlocks hname htab hbs hB
  obtain ⟨hx, hb, hml, hown, hts⟩ := id X0
  have hw : ∀ w ∈ bh_ws, w.before args s = true := fun w h => hts w (List.mem_cons_of_mem _ h)
  have hBg := bh_BgK (G := G) (base := base) (sb := sb) (L := L) (xs := xs)
  obtain ⟨hK, hAr, hen, hinj, hu1, hu2, hstr, hX, hsb, hsc, hxw, hao, hnc⟩ := id hB
  obtain ⟨ha1, ha2, ha3, ha4, ha5, ha6, ha0⟩ := bh_arr hAr
  exact List.forall_mem_cons.mpr ⟨fun S h => bs_dconst0 (Z := Z) hx hb d_V_sumOfRanks_0 h, List.forall_mem_cons.mpr ⟨fun S h => bs_dstore_n (Z := Z) hx hb rfl d_V_sumOfRanks_1 h, List.forall_mem_cons.mpr ⟨fun S h => bs_iconst (Z := Z) hx hb (by decide) d_V_sumOfRanks_2 h, List.forall_mem_cons.mpr ⟨fun S h => bs_istore (Z := Z) hx hb d_V_sumOfRanks_3 h, List.forall_mem_cons.mpr ⟨fun S h => bs_iload (Z := Z) hx hb d_V_sumOfRanks_5 h, List.forall_mem_cons.mpr ⟨fun S h => bs_aload_n (Z := Z) hx hb rfl d_V_sumOfRanks_7 h, List.forall_mem_cons.mpr ⟨fun S h => bs_gI (Z := Z) (C := R_V) (T := F_V) (N := 3) (t := 19) (j := 1) hx hb hK hts (fun w h => List.mem_cons_of_mem _ (iw_V w h)) hown rfl rfl (by decide) (hts _ (List.mem_cons_of_mem _ wd_193)) (fun _ h => h) rfl rfl rfl d_V_sumOfRanks_8 h, List.forall_mem_cons.mpr ⟨fun S h => bs_icmp_ge (Z := Z) hx hb d_V_sumOfRanks_11 (by decide) h, List.forall_mem_cons.mpr ⟨fun S h => bs_aload_n (Z := Z) hx hb rfl d_V_sumOfRanks_14 h, List.forall_mem_cons.mpr ⟨fun S h => bs_gR (Z := Z) (C := R_V) (T := F_V) (N := 3) (t := 19) (j := 0) hx hb hK hts (fun w h => List.mem_cons_of_mem _ (iw_V w h)) hown rfl rfl (by decide) (hts _ (List.mem_cons_of_mem _ wd_191)) (fun _ h => h) rfl rfl rfl d_V_sumOfRanks_15 h, List.forall_mem_cons.mpr ⟨fun S h => bs_iload (Z := Z) hx hb d_V_sumOfRanks_18 h, List.forall_mem_cons.mpr ⟨fun S h => bs_Rald (Z := Z) hx hb ha5 d_V_sumOfRanks_20 h, List.forall_mem_cons.mpr ⟨fun S h => bs_gI (Z := Z) (C := R_S) (T := F_S) (N := 5) (t := 21) (j := 3) hx hb hK hts (fun w h => List.mem_cons_of_mem _ (iw_S w h)) hown rfl rfl (by decide) (hts _ (List.mem_cons_of_mem _ wd_178)) (fun _ h => h) rfl rfl rfl d_V_sumOfRanks_21 h, List.forall_mem_cons.mpr ⟨fun S h => bs_iload_n (Z := Z) hx hb rfl d_V_sumOfRanks_24 h, List.forall_mem_cons.mpr ⟨fun S h => bs_icmp_ne (Z := Z) hx hb d_V_sumOfRanks_25 (by decide) h, List.forall_mem_cons.mpr ⟨fun S h => bs_dload_n (Z := Z) hx hb rfl d_V_sumOfRanks_28 h, List.forall_mem_cons.mpr ⟨fun S h => bs_aload_n (Z := Z) hx hb rfl d_V_sumOfRanks_29 h, List.forall_mem_cons.mpr ⟨fun S h => bs_gR (Z := Z) (C := R_V) (T := F_V) (N := 3) (t := 19) (j := 0) hx hb hK hts (fun w h => List.mem_cons_of_mem _ (iw_V w h)) hown rfl rfl (by decide) (hts _ (List.mem_cons_of_mem _ wd_191)) (fun _ h => h) rfl rfl rfl d_V_sumOfRanks_30 h, List.forall_mem_cons.mpr ⟨fun S h => bs_iload (Z := Z) hx hb d_V_sumOfRanks_33 h, List.forall_mem_cons.mpr ⟨fun S h => bs_Rald (Z := Z) hx hb ha5 d_V_sumOfRanks_35 h, List.forall_mem_cons.mpr ⟨fun S h => bs_gD (Z := Z) (C := R_S) (T := F_S) (N := 5) (t := 21) (j := 4) hx hb hK hts (fun w h => List.mem_cons_of_mem _ (iw_S w h)) hown rfl rfl (by decide) (hts _ (List.mem_cons_of_mem _ wd_179)) (fun _ h => h) rfl rfl rfl d_V_sumOfRanks_36 h, List.forall_mem_cons.mpr ⟨fun S h => bs_dadd (Z := Z) hx hb d_V_sumOfRanks_39 h, List.forall_mem_cons.mpr ⟨fun S h => bs_dstore_n (Z := Z) hx hb rfl d_V_sumOfRanks_40 h, List.forall_mem_cons.mpr ⟨fun S h => bs_iinc (Z := Z) hx hb (by decide) d_V_sumOfRanks_41 h, List.forall_mem_cons.mpr ⟨fun S h => bs_goto (Z := Z) hx hb d_V_sumOfRanks_44 (by decide) h, List.forall_mem_cons.mpr ⟨fun S h => bs_dload_n (Z := Z) hx hb rfl d_V_sumOfRanks_47 h, List.forall_mem_cons.mpr ⟨fun S h => bs_dret (Z := Z) hx hb hr hlocks d_V_sumOfRanks_48 h, fun _ h => absurd h List.not_mem_nil⟩⟩⟩⟩⟩⟩⟩⟩⟩⟩⟩⟩⟩⟩⟩⟩⟩⟩⟩⟩⟩⟩⟩⟩⟩⟩⟩
abbrev c_H_rank : ByteArray := prog_1_method_16_code
def y_H_rank : MethodName := ⟨"BundleHall", "rank", "(I)D"⟩
theorem d_H_rank_0 : decode c_H_rank 0 = .ok (.iload_n 1, 1) := by decide +kernel
theorem d_H_rank_1 : decode c_H_rank 1 = .ok (.iconst 0, 1) := by decide +kernel
theorem d_H_rank_2 : decode c_H_rank 2 = .ok (.iconst 3, 1) := by decide +kernel
theorem d_H_rank_3 : decode c_H_rank 3 = .ok (.invokestatic 46, 3) := by decide +kernel
theorem d_H_rank_6 : decode c_H_rank 6 = .ok (.aload_n 0, 1) := by decide +kernel
theorem d_H_rank_7 : decode c_H_rank 7 = .ok (.getfield 28, 3) := by decide +kernel
theorem d_H_rank_10 : decode c_H_rank 10 = .ok (.iload_n 1, 1) := by decide +kernel
theorem d_H_rank_11 : decode c_H_rank 11 = .ok (.invokevirtual 227, 3) := by decide +kernel
theorem d_H_rank_14 : decode c_H_rank 14 = .ok (.istore_n 2, 1) := by decide +kernel
theorem d_H_rank_15 : decode c_H_rank 15 = .ok (.iload_n 2, 1) := by decide +kernel
theorem d_H_rank_16 : decode c_H_rank 16 = .ok (.ifCond .ne 13, 3) := by decide +kernel
theorem d_H_rank_19 : decode c_H_rank 19 = .ok (.new 230, 3) := by decide +kernel
theorem d_H_rank_22 : decode c_H_rank 22 = .ok (.dup, 1) := by decide +kernel
theorem d_H_rank_23 : decode c_H_rank 23 = .ok (.ldc 193, 2) := by decide +kernel
theorem d_H_rank_25 : decode c_H_rank 25 = .ok (.invokespecial 232, 3) := by decide +kernel
theorem d_H_rank_28 : decode c_H_rank 28 = .ok (.athrow, 1) := by decide +kernel
theorem d_H_rank_29 : decode c_H_rank 29 = .ok (.aload_n 0, 1) := by decide +kernel
theorem d_H_rank_30 : decode c_H_rank 30 = .ok (.getfield 28, 3) := by decide +kernel
theorem d_H_rank_33 : decode c_H_rank 33 = .ok (.iload_n 1, 1) := by decide +kernel
theorem d_H_rank_34 : decode c_H_rank 34 = .ok (.invokevirtual 233, 3) := by decide +kernel
theorem d_H_rank_37 : decode c_H_rank 37 = .ok (.iload_n 2, 1) := by decide +kernel
theorem d_H_rank_38 : decode c_H_rank 38 = .ok (.i2d, 1) := by decide +kernel
theorem d_H_rank_39 : decode c_H_rank 39 = .ok (.ddiv, 1) := by decide +kernel
theorem d_H_rank_40 : decode c_H_rank 40 = .ok (.dreturn, 1) := by decide +kernel
def T_H_rank_0 : List (Nat × bh_Op) := [(0, bo_ild 1 1),
  (1, bo_st 2 (bg_push (.inl (.int 0)))),
  (2, bo_st 3 (bg_push (.inl (.int 3)))),
  (3, bo_callS 6 3 1 2 F_H_checkRange),
  (6, bo_ald 7 0),
  (7, bo_gR 10 3 2 19),
  (10, bo_ild 11 1),
  (11, bo_callV 14 2 0 2 19 F_V_ofKind),
  (14, bo_ist 15 2),
  (15, bo_ild 16 2),
  (16, bo_if1 19 29 (fun x => ¬ x = 0)),
  (19, bo_thr 2 "java/lang/ArithmeticException"),
  (29, bo_ald 30 0),
  (30, bo_gR 33 3 2 19),
  (33, bo_ild 34 1),
  (34, bo_callV 37 2 0 2 19 F_V_sumOfRanks),
  (37, bo_ild 38 2),
  (38, bo_st 39 (bg_i1 (fun x => .inl (.double (FP.i2d x))))),
  (39, bo_st 40 (bg_dd FP.ddiv)),
  (40, bo_dret 2)]
def T_H_rank : List (Nat × bh_Op) := T_H_rank_0
set_option maxRecDepth 20000 in
theorem mT_H_rank_0 : ∀ q ∈ T_H_rank_0, bh_mono q.2 := List.forall_mem_cons.mpr ⟨bo_ild_m _ _, List.forall_mem_cons.mpr ⟨bo_st_mono (bg_push_m _), List.forall_mem_cons.mpr ⟨bo_st_mono (bg_push_m _), List.forall_mem_cons.mpr ⟨bo_callS_m (mF_H_checkRange) _ _ _ _, List.forall_mem_cons.mpr ⟨bo_ald_m _ _, List.forall_mem_cons.mpr ⟨bo_gR_m _ _ _ _, List.forall_mem_cons.mpr ⟨bo_ild_m _ _, List.forall_mem_cons.mpr ⟨bo_callV_m (mF_V_ofKind) _ _ _ _ _, List.forall_mem_cons.mpr ⟨bo_ist_m _ _, List.forall_mem_cons.mpr ⟨bo_ild_m _ _, List.forall_mem_cons.mpr ⟨bo_if1_m _ _ _, List.forall_mem_cons.mpr ⟨bo_thr_m _ _, List.forall_mem_cons.mpr ⟨bo_ald_m _ _, List.forall_mem_cons.mpr ⟨bo_gR_m _ _ _ _, List.forall_mem_cons.mpr ⟨bo_ild_m _ _, List.forall_mem_cons.mpr ⟨bo_callV_m (mF_V_sumOfRanks) _ _ _ _ _, List.forall_mem_cons.mpr ⟨bo_ild_m _ _, List.forall_mem_cons.mpr ⟨bo_st_mono (bg_i1_m _), List.forall_mem_cons.mpr ⟨bo_st_mono (bg_dd_m _), List.forall_mem_cons.mpr ⟨bo_dret_m _, fun _ h => absurd h List.not_mem_nil⟩⟩⟩⟩⟩⟩⟩⟩⟩⟩⟩⟩⟩⟩⟩⟩⟩⟩⟩⟩
theorem m_H_rank : ∀ pc, bh_mono (bh_tb (T_H_rank) pc) := bh_tb_m mT_H_rank_0
def F_H_rank : bh_Fn := bh_fn 3 (bh_tb T_H_rank)
theorem mF_H_rank : bh_monoF F_H_rank := bh_fn_m m_H_rank
theorem cl_H_rank {s : State} {args : Array Value} (d B : Nat) (hts : ∀ w ∈ bh_ws, w.before args s = true) : bh_Cal (bh_rm (d + 1) B) s y_H_rank 3 (.code y_H_rank c_H_rank 3 (some .double) :: bh_ws) (bh_rm d 2) 2 1 := bh_cal d B hts wd_738 wd_1 (by decide) (by decide +kernel)
set_option maxHeartbeats 4000000 in
set_option maxRecDepth 100000 in
theorem cn_H_rank {l : Launch} {G : bh_G} {base sb L : Nat} {xs : Nat → Int32} (htr : l.stackTraces = false) (d : Nat) : bh_Con l G base (bh_Bg G base sb L xs) y_H_rank (.code y_H_rank c_H_rank 3 (some .double) :: bh_ws) (bh_rm (d + 2) 2) 2 false F_H_rank := by
  refine bh_method (cc := c_H_rank) (ret := (some .double)) (by decide +kernel) rfl ?_
  intro p e s m args below meth c ad0 M0 Z X0 hr hlocks hname htab hbs hB
  obtain ⟨hx, hb, hml, hown, hts⟩ := id X0
  have hw : ∀ w ∈ bh_ws, w.before args s = true := fun w h => hts w (List.mem_cons_of_mem _ h)
  have hBg := bh_BgK (G := G) (base := base) (sb := sb) (L := L) (xs := xs)
  obtain ⟨hK, hAr, hen, hinj, hu1, hu2, hstr, hX, hsb, hsc, hxw, hao, hnc⟩ := id hB
  obtain ⟨ha1, ha2, ha3, ha4, ha5, ha6, ha0⟩ := bh_arr hAr
  exact List.forall_mem_cons.mpr ⟨fun S h => bs_iload_n (Z := Z) hx hb rfl d_H_rank_0 h, List.forall_mem_cons.mpr ⟨fun S h => bs_iconst (Z := Z) hx hb (by decide) d_H_rank_1 h, List.forall_mem_cons.mpr ⟨fun S h => bs_iconst (Z := Z) hx hb (by decide) d_H_rank_2 h, List.forall_mem_cons.mpr ⟨fun S h => bs_callS (Z := Z) hBg hbs hB X0 (cn_H_checkRange htr (d + 0)) (cl_H_checkRange _ _ hw) (hts _ (List.mem_cons_of_mem _ wd_406)) (hts _ (List.mem_cons_of_mem _ wd_407)) (Nat.le_refl _) (Nat.le_refl _) d_H_rank_3 (bs_out htab hlocks) h, List.forall_mem_cons.mpr ⟨fun S h => bs_aload_n (Z := Z) hx hb rfl d_H_rank_6 h, List.forall_mem_cons.mpr ⟨fun S h => bs_gR (Z := Z) (C := R_H) (T := F_H) (N := 5) (t := 3) (j := 2) hx hb hK hts (fun w h => List.mem_cons_of_mem _ (iw_H w h)) hown rfl rfl (by decide) (hts _ (List.mem_cons_of_mem _ wd_226)) (fun _ h => h) rfl rfl rfl d_H_rank_7 h, List.forall_mem_cons.mpr ⟨fun S h => bs_iload_n (Z := Z) hx hb rfl d_H_rank_10 h, List.forall_mem_cons.mpr ⟨fun S h => bs_callV (Z := Z) (C := R_V) hBg hbs hB X0 hK (cn_V_ofKind htr (d + 0)) (cl_V_ofKind _ _ hw) (hts _ (List.mem_cons_of_mem _ wd_739)) (hts _ (List.mem_cons_of_mem _ wd_740)) (hts _ (List.mem_cons_of_mem _ wd_741)) rfl rfl rfl rfl rfl (Nat.le_refl _) (Nat.le_refl _) d_H_rank_11 (bs_out htab hlocks) h, List.forall_mem_cons.mpr ⟨fun S h => bs_istore_n (Z := Z) hx hb rfl d_H_rank_14 h, List.forall_mem_cons.mpr ⟨fun S h => bs_iload_n (Z := Z) hx hb rfl d_H_rank_15 h, List.forall_mem_cons.mpr ⟨fun S h => bs_if_ne (Z := Z) hx hb d_H_rank_16 (by decide) h, List.forall_mem_cons.mpr ⟨fun S h => (let ⟨_, hst⟩ := hstr 193 "no service of this kind" st_193; bs_thr (Z := Z) hx hb hml htr htab hlocks bh_x0_ArithmeticException bh_x1_ArithmeticException bh_x2_ArithmeticException bh_x5_ArithmeticException hown (by decide +kernel) ⟨rfl, (hts _ (List.mem_cons_of_mem _ wd_600))⟩ ⟨rfl, (hts _ (List.mem_cons_of_mem _ wd_20))⟩ hst hbs (bh_at_ArithmeticException hw hB) d_H_rank_19 d_H_rank_22 (Or.inl ⟨rfl, d_H_rank_23⟩) d_H_rank_25 d_H_rank_28 (by show 2 + 3 < _ + 12; omega) (by show 13 * (2 + 1) + 43 ≤ 80 * _ + 200; omega) (Nat.le_refl _) (Nat.le_refl _) h), List.forall_mem_cons.mpr ⟨fun S h => bs_aload_n (Z := Z) hx hb rfl d_H_rank_29 h, List.forall_mem_cons.mpr ⟨fun S h => bs_gR (Z := Z) (C := R_H) (T := F_H) (N := 5) (t := 3) (j := 2) hx hb hK hts (fun w h => List.mem_cons_of_mem _ (iw_H w h)) hown rfl rfl (by decide) (hts _ (List.mem_cons_of_mem _ wd_226)) (fun _ h => h) rfl rfl rfl d_H_rank_30 h, List.forall_mem_cons.mpr ⟨fun S h => bs_iload_n (Z := Z) hx hb rfl d_H_rank_33 h, List.forall_mem_cons.mpr ⟨fun S h => bs_callV (Z := Z) (C := R_V) hBg hbs hB X0 hK (cn_V_sumOfRanks htr (d + 0)) (cl_V_sumOfRanks _ _ hw) (hts _ (List.mem_cons_of_mem _ wd_743)) (hts _ (List.mem_cons_of_mem _ wd_744)) (hts _ (List.mem_cons_of_mem _ wd_745)) rfl rfl rfl rfl rfl (Nat.le_refl _) (Nat.le_refl _) d_H_rank_34 (bs_out htab hlocks) h, List.forall_mem_cons.mpr ⟨fun S h => bs_iload_n (Z := Z) hx hb rfl d_H_rank_37 h, List.forall_mem_cons.mpr ⟨fun S h => bs_i2d (Z := Z) hx hb d_H_rank_38 h, List.forall_mem_cons.mpr ⟨fun S h => bs_ddiv (Z := Z) hx hb d_H_rank_39 h, List.forall_mem_cons.mpr ⟨fun S h => bs_dret (Z := Z) hx hb hr hlocks d_H_rank_40 h, fun _ h => absurd h List.not_mem_nil⟩⟩⟩⟩⟩⟩⟩⟩⟩⟩⟩⟩⟩⟩⟩⟩⟩⟩⟩⟩
abbrev c_E_takeOldest : ByteArray := prog_3_method_3_code
def y_E_takeOldest : MethodName := ⟨"BundleHall$Events", "takeOldest", "()I"⟩
theorem d_E_takeOldest_0 : decode c_E_takeOldest 0 = .ok (.aload_n 0, 1) := by decide +kernel
theorem d_E_takeOldest_1 : decode c_E_takeOldest 1 = .ok (.getfield 9, 3) := by decide +kernel
theorem d_E_takeOldest_4 : decode c_E_takeOldest 4 = .ok (.aload_n 0, 1) := by decide +kernel
theorem d_E_takeOldest_5 : decode c_E_takeOldest 5 = .ok (.getfield 22, 3) := by decide +kernel
theorem d_E_takeOldest_8 : decode c_E_takeOldest 8 = .ok (.iaload, 1) := by decide +kernel
theorem d_E_takeOldest_9 : decode c_E_takeOldest 9 = .ok (.istore_n 1, 1) := by decide +kernel
theorem d_E_takeOldest_10 : decode c_E_takeOldest 10 = .ok (.aload_n 0, 1) := by decide +kernel
theorem d_E_takeOldest_11 : decode c_E_takeOldest 11 = .ok (.aload_n 0, 1) := by decide +kernel
theorem d_E_takeOldest_12 : decode c_E_takeOldest 12 = .ok (.getfield 22, 3) := by decide +kernel
theorem d_E_takeOldest_15 : decode c_E_takeOldest 15 = .ok (.iconst 1, 1) := by decide +kernel
theorem d_E_takeOldest_16 : decode c_E_takeOldest 16 = .ok (.iadd, 1) := by decide +kernel
theorem d_E_takeOldest_17 : decode c_E_takeOldest 17 = .ok (.bipush 10, 2) := by decide +kernel
theorem d_E_takeOldest_19 : decode c_E_takeOldest 19 = .ok (.irem, 1) := by decide +kernel
theorem d_E_takeOldest_20 : decode c_E_takeOldest 20 = .ok (.putfield 22, 3) := by decide +kernel
theorem d_E_takeOldest_23 : decode c_E_takeOldest 23 = .ok (.aload_n 0, 1) := by decide +kernel
theorem d_E_takeOldest_24 : decode c_E_takeOldest 24 = .ok (.dup, 1) := by decide +kernel
theorem d_E_takeOldest_25 : decode c_E_takeOldest 25 = .ok (.getfield 15, 3) := by decide +kernel
theorem d_E_takeOldest_28 : decode c_E_takeOldest 28 = .ok (.iconst 1, 1) := by decide +kernel
theorem d_E_takeOldest_29 : decode c_E_takeOldest 29 = .ok (.isub, 1) := by decide +kernel
theorem d_E_takeOldest_30 : decode c_E_takeOldest 30 = .ok (.putfield 15, 3) := by decide +kernel
theorem d_E_takeOldest_33 : decode c_E_takeOldest 33 = .ok (.iload_n 1, 1) := by decide +kernel
theorem d_E_takeOldest_34 : decode c_E_takeOldest 34 = .ok (.ireturn, 1) := by decide +kernel
def T_E_takeOldest_0 : List (Nat × bh_Op) := [(0, bo_ald 1 0),
  (1, bo_gR 4 23 0 24),
  (4, bo_ald 5 0),
  (5, bo_gI 8 23 1),
  (8, bo_Iald bh_ak bh_al 9),
  (9, bo_ist 10 1),
  (10, bo_ald 11 0),
  (11, bo_ald 12 0),
  (12, bo_gI 15 23 1),
  (15, bo_st 16 (bg_push (.inl (.int 1)))),
  (16, bo_st 17 (bg_ii (fun x y => x + y))),
  (17, bo_st 19 (bg_push (.inl (.int 10)))),
  (19, bo_st 20 (bg_dv (fun x y => x - x / y * y))),
  (20, bo_pI 23 23 1),
  (23, bo_ald 24 0),
  (24, bo_st 25 bg_dup),
  (25, bo_gI 28 23 2),
  (28, bo_st 29 (bg_push (.inl (.int 1)))),
  (29, bo_st 30 (bg_ii (fun x y => x - y))),
  (30, bo_pI 33 23 2),
  (33, bo_ild 34 1),
  (34, bo_iret 0)]
def T_E_takeOldest : List (Nat × bh_Op) := T_E_takeOldest_0
set_option maxRecDepth 20000 in
theorem mT_E_takeOldest_0 : ∀ q ∈ T_E_takeOldest_0, bh_mono q.2 := List.forall_mem_cons.mpr ⟨bo_ald_m _ _, List.forall_mem_cons.mpr ⟨bo_gR_m _ _ _ _, List.forall_mem_cons.mpr ⟨bo_ald_m _ _, List.forall_mem_cons.mpr ⟨bo_gI_m _ _ _, List.forall_mem_cons.mpr ⟨bo_Iald_m _ _ _, List.forall_mem_cons.mpr ⟨bo_ist_m _ _, List.forall_mem_cons.mpr ⟨bo_ald_m _ _, List.forall_mem_cons.mpr ⟨bo_ald_m _ _, List.forall_mem_cons.mpr ⟨bo_gI_m _ _ _, List.forall_mem_cons.mpr ⟨bo_st_mono (bg_push_m _), List.forall_mem_cons.mpr ⟨bo_st_mono (bg_ii_m _), List.forall_mem_cons.mpr ⟨bo_st_mono (bg_push_m _), List.forall_mem_cons.mpr ⟨bo_st_mono (bg_dv_m _), List.forall_mem_cons.mpr ⟨bo_pI_m _ _ _, List.forall_mem_cons.mpr ⟨bo_ald_m _ _, List.forall_mem_cons.mpr ⟨bo_st_mono bg_dup_m, List.forall_mem_cons.mpr ⟨bo_gI_m _ _ _, List.forall_mem_cons.mpr ⟨bo_st_mono (bg_push_m _), List.forall_mem_cons.mpr ⟨bo_st_mono (bg_ii_m _), List.forall_mem_cons.mpr ⟨bo_pI_m _ _ _, List.forall_mem_cons.mpr ⟨bo_ild_m _ _, List.forall_mem_cons.mpr ⟨bo_iret_m _, fun _ h => absurd h List.not_mem_nil⟩⟩⟩⟩⟩⟩⟩⟩⟩⟩⟩⟩⟩⟩⟩⟩⟩⟩⟩⟩⟩⟩
theorem m_E_takeOldest : ∀ pc, bh_mono (bh_tb (T_E_takeOldest) pc) := bh_tb_m mT_E_takeOldest_0
def F_E_takeOldest : bh_Fn := bh_fn 2 (bh_tb T_E_takeOldest)
theorem mF_E_takeOldest : bh_monoF F_E_takeOldest := bh_fn_m m_E_takeOldest
theorem cl_E_takeOldest {s : State} {args : Array Value} (d B : Nat) (hts : ∀ w ∈ bh_ws, w.before args s = true) : bh_Cal (bh_rm (d + 1) B) s y_E_takeOldest 2 (.code y_E_takeOldest c_E_takeOldest 2 (some .int) :: bh_ws) (bh_rm d 0) 0 0 := bh_cal d B hts wd_758 wd_8 (by decide) (by decide +kernel)
set_option maxHeartbeats 4000000 in
set_option maxRecDepth 100000 in
theorem cn_E_takeOldest {l : Launch} {G : bh_G} {base sb L : Nat} {xs : Nat → Int32} (htr : l.stackTraces = false) (d : Nat) : bh_Con l G base (bh_Bg G base sb L xs) y_E_takeOldest (.code y_E_takeOldest c_E_takeOldest 2 (some .int) :: bh_ws) (bh_rm (d + 1) 0) 0 false F_E_takeOldest := by
  refine bh_method (cc := c_E_takeOldest) (ret := (some .int)) (by decide +kernel) rfl ?_
  intro p e s m args below meth c ad0 M0 Z X0 hr hlocks hname htab hbs hB
  obtain ⟨hx, hb, hml, hown, hts⟩ := id X0
  have hw : ∀ w ∈ bh_ws, w.before args s = true := fun w h => hts w (List.mem_cons_of_mem _ h)
  have hBg := bh_BgK (G := G) (base := base) (sb := sb) (L := L) (xs := xs)
  obtain ⟨hK, hAr, hen, hinj, hu1, hu2, hstr, hX, hsb, hsc, hxw, hao, hnc⟩ := id hB
  obtain ⟨ha1, ha2, ha3, ha4, ha5, ha6, ha0⟩ := bh_arr hAr
  exact List.forall_mem_cons.mpr ⟨fun S h => bs_aload_n (Z := Z) hx hb rfl d_E_takeOldest_0 h, List.forall_mem_cons.mpr ⟨fun S h => bs_gR (Z := Z) (C := R_E) (T := F_E) (N := 4) (t := 23) (j := 0) hx hb hK hts (fun w h => List.mem_cons_of_mem _ (iw_E w h)) hown rfl rfl (by decide) (hts _ (List.mem_cons_of_mem _ wd_209)) (fun _ h => h) rfl rfl rfl d_E_takeOldest_1 h, List.forall_mem_cons.mpr ⟨fun S h => bs_aload_n (Z := Z) hx hb rfl d_E_takeOldest_4 h, List.forall_mem_cons.mpr ⟨fun S h => bs_gI (Z := Z) (C := R_E) (T := F_E) (N := 4) (t := 23) (j := 1) hx hb hK hts (fun w h => List.mem_cons_of_mem _ (iw_E w h)) hown rfl rfl (by decide) (hts _ (List.mem_cons_of_mem _ wd_210)) (fun _ h => h) rfl rfl rfl d_E_takeOldest_5 h, List.forall_mem_cons.mpr ⟨fun S h => bs_Iald (Z := Z) hx hb ha1 d_E_takeOldest_8 h, List.forall_mem_cons.mpr ⟨fun S h => bs_istore_n (Z := Z) hx hb rfl d_E_takeOldest_9 h, List.forall_mem_cons.mpr ⟨fun S h => bs_aload_n (Z := Z) hx hb rfl d_E_takeOldest_10 h, List.forall_mem_cons.mpr ⟨fun S h => bs_aload_n (Z := Z) hx hb rfl d_E_takeOldest_11 h, List.forall_mem_cons.mpr ⟨fun S h => bs_gI (Z := Z) (C := R_E) (T := F_E) (N := 4) (t := 23) (j := 1) hx hb hK hts (fun w h => List.mem_cons_of_mem _ (iw_E w h)) hown rfl rfl (by decide) (hts _ (List.mem_cons_of_mem _ wd_210)) (fun _ h => h) rfl rfl rfl d_E_takeOldest_12 h, List.forall_mem_cons.mpr ⟨fun S h => bs_iconst (Z := Z) hx hb (by decide) d_E_takeOldest_15 h, List.forall_mem_cons.mpr ⟨fun S h => bs_iadd (Z := Z) hx hb d_E_takeOldest_16 h, List.forall_mem_cons.mpr ⟨fun S h => bs_bipush (Z := Z) hx hb (by decide) d_E_takeOldest_17 h, List.forall_mem_cons.mpr ⟨fun S h => bs_irem (Z := Z) hx hb d_E_takeOldest_19 h, List.forall_mem_cons.mpr ⟨fun S h => bs_pI (Z := Z) (C := R_E) (T := F_E) (N := 4) (t := 23) (j := 1) hx hb hK hts (fun w h => List.mem_cons_of_mem _ (iw_E w h)) hown rfl rfl (by decide) (hts _ (List.mem_cons_of_mem _ wd_210)) (fun _ h => h) rfl rfl t_E t_E_ok n_E rfl (by decide +kernel) rfl d_E_takeOldest_20 h, List.forall_mem_cons.mpr ⟨fun S h => bs_aload_n (Z := Z) hx hb rfl d_E_takeOldest_23 h, List.forall_mem_cons.mpr ⟨fun S h => bs_dup (Z := Z) hx hb d_E_takeOldest_24 h, List.forall_mem_cons.mpr ⟨fun S h => bs_gI (Z := Z) (C := R_E) (T := F_E) (N := 4) (t := 23) (j := 2) hx hb hK hts (fun w h => List.mem_cons_of_mem _ (iw_E w h)) hown rfl rfl (by decide) (hts _ (List.mem_cons_of_mem _ wd_211)) (fun _ h => h) rfl rfl rfl d_E_takeOldest_25 h, List.forall_mem_cons.mpr ⟨fun S h => bs_iconst (Z := Z) hx hb (by decide) d_E_takeOldest_28 h, List.forall_mem_cons.mpr ⟨fun S h => bs_isub (Z := Z) hx hb d_E_takeOldest_29 h, List.forall_mem_cons.mpr ⟨fun S h => bs_pI (Z := Z) (C := R_E) (T := F_E) (N := 4) (t := 23) (j := 2) hx hb hK hts (fun w h => List.mem_cons_of_mem _ (iw_E w h)) hown rfl rfl (by decide) (hts _ (List.mem_cons_of_mem _ wd_211)) (fun _ h => h) rfl rfl t_E t_E_ok n_E rfl (by decide +kernel) rfl d_E_takeOldest_30 h, List.forall_mem_cons.mpr ⟨fun S h => bs_iload_n (Z := Z) hx hb rfl d_E_takeOldest_33 h, List.forall_mem_cons.mpr ⟨fun S h => bs_iret (Z := Z) hx hb hr hlocks d_E_takeOldest_34 h, fun _ h => absurd h List.not_mem_nil⟩⟩⟩⟩⟩⟩⟩⟩⟩⟩⟩⟩⟩⟩⟩⟩⟩⟩⟩⟩⟩⟩
abbrev c_H_event : ByteArray := prog_1_method_17_code
def y_H_event : MethodName := ⟨"BundleHall", "event", "()I"⟩
theorem d_H_event_0 : decode c_H_event 0 = .ok (.aload_n 0, 1) := by decide +kernel
theorem d_H_event_1 : decode c_H_event 1 = .ok (.getfield 35, 3) := by decide +kernel
theorem d_H_event_4 : decode c_H_event 4 = .ok (.getfield 237, 3) := by decide +kernel
theorem d_H_event_7 : decode c_H_event 7 = .ok (.ifCond .ne 13, 3) := by decide +kernel
theorem d_H_event_10 : decode c_H_event 10 = .ok (.new 53, 3) := by decide +kernel
theorem d_H_event_13 : decode c_H_event 13 = .ok (.dup, 1) := by decide +kernel
theorem d_H_event_14 : decode c_H_event 14 = .ok (.ldc 240, 2) := by decide +kernel
theorem d_H_event_16 : decode c_H_event 16 = .ok (.invokespecial 57, 3) := by decide +kernel
theorem d_H_event_19 : decode c_H_event 19 = .ok (.athrow, 1) := by decide +kernel
theorem d_H_event_20 : decode c_H_event 20 = .ok (.aload_n 0, 1) := by decide +kernel
theorem d_H_event_21 : decode c_H_event 21 = .ok (.getfield 35, 3) := by decide +kernel
theorem d_H_event_24 : decode c_H_event 24 = .ok (.invokevirtual 242, 3) := by decide +kernel
theorem d_H_event_27 : decode c_H_event 27 = .ok (.ireturn, 1) := by decide +kernel
def T_H_event_0 : List (Nat × bh_Op) := [(0, bo_ald 1 0),
  (1, bo_gR 4 3 3 23),
  (4, bo_gI 7 23 2),
  (7, bo_if1 10 20 (fun x => ¬ x = 0)),
  (10, bo_thr 1 "java/lang/IllegalStateException"),
  (20, bo_ald 21 0),
  (21, bo_gR 24 3 3 23),
  (24, bo_callV 27 1 0 1 23 F_E_takeOldest),
  (27, bo_iret 1)]
def T_H_event : List (Nat × bh_Op) := T_H_event_0
set_option maxRecDepth 20000 in
theorem mT_H_event_0 : ∀ q ∈ T_H_event_0, bh_mono q.2 := List.forall_mem_cons.mpr ⟨bo_ald_m _ _, List.forall_mem_cons.mpr ⟨bo_gR_m _ _ _ _, List.forall_mem_cons.mpr ⟨bo_gI_m _ _ _, List.forall_mem_cons.mpr ⟨bo_if1_m _ _ _, List.forall_mem_cons.mpr ⟨bo_thr_m _ _, List.forall_mem_cons.mpr ⟨bo_ald_m _ _, List.forall_mem_cons.mpr ⟨bo_gR_m _ _ _ _, List.forall_mem_cons.mpr ⟨bo_callV_m (mF_E_takeOldest) _ _ _ _ _, List.forall_mem_cons.mpr ⟨bo_iret_m _, fun _ h => absurd h List.not_mem_nil⟩⟩⟩⟩⟩⟩⟩⟩⟩
theorem m_H_event : ∀ pc, bh_mono (bh_tb (T_H_event) pc) := bh_tb_m mT_H_event_0
def F_H_event : bh_Fn := bh_fn 1 (bh_tb T_H_event)
theorem mF_H_event : bh_monoF F_H_event := bh_fn_m m_H_event
theorem cl_H_event {s : State} {args : Array Value} (d B : Nat) (hts : ∀ w ∈ bh_ws, w.before args s = true) : bh_Cal (bh_rm (d + 1) B) s y_H_event 1 (.code y_H_event c_H_event 1 (some .int) :: bh_ws) (bh_rm d 1) 1 0 := bh_cal d B hts wd_753 wd_1 (by decide) (by decide +kernel)
set_option maxHeartbeats 4000000 in
set_option maxRecDepth 100000 in
theorem cn_H_event {l : Launch} {G : bh_G} {base sb L : Nat} {xs : Nat → Int32} (htr : l.stackTraces = false) (d : Nat) : bh_Con l G base (bh_Bg G base sb L xs) y_H_event (.code y_H_event c_H_event 1 (some .int) :: bh_ws) (bh_rm (d + 2) 1) 1 false F_H_event := by
  refine bh_method (cc := c_H_event) (ret := (some .int)) (by decide +kernel) rfl ?_
  intro p e s m args below meth c ad0 M0 Z X0 hr hlocks hname htab hbs hB
  obtain ⟨hx, hb, hml, hown, hts⟩ := id X0
  have hw : ∀ w ∈ bh_ws, w.before args s = true := fun w h => hts w (List.mem_cons_of_mem _ h)
  have hBg := bh_BgK (G := G) (base := base) (sb := sb) (L := L) (xs := xs)
  obtain ⟨hK, hAr, hen, hinj, hu1, hu2, hstr, hX, hsb, hsc, hxw, hao, hnc⟩ := id hB
  obtain ⟨ha1, ha2, ha3, ha4, ha5, ha6, ha0⟩ := bh_arr hAr
  exact List.forall_mem_cons.mpr ⟨fun S h => bs_aload_n (Z := Z) hx hb rfl d_H_event_0 h, List.forall_mem_cons.mpr ⟨fun S h => bs_gR (Z := Z) (C := R_H) (T := F_H) (N := 5) (t := 3) (j := 3) hx hb hK hts (fun w h => List.mem_cons_of_mem _ (iw_H w h)) hown rfl rfl (by decide) (hts _ (List.mem_cons_of_mem _ wd_227)) (fun _ h => h) rfl rfl rfl d_H_event_1 h, List.forall_mem_cons.mpr ⟨fun S h => bs_gI (Z := Z) (C := R_E) (T := F_E) (N := 4) (t := 23) (j := 2) hx hb hK hts (fun w h => List.mem_cons_of_mem _ (iw_E w h)) hown rfl rfl (by decide) (hts _ (List.mem_cons_of_mem _ wd_212)) (fun _ h => h) rfl rfl rfl d_H_event_4 h, List.forall_mem_cons.mpr ⟨fun S h => bs_if_ne (Z := Z) hx hb d_H_event_7 (by decide) h, List.forall_mem_cons.mpr ⟨fun S h => (let ⟨_, hst⟩ := hstr 240 "no event is kept" st_240; bs_thr (Z := Z) hx hb hml htr htab hlocks bh_x0_IllegalStateException bh_x1_IllegalStateException bh_x2_IllegalStateException bh_x5_IllegalStateException hown (by decide +kernel) ⟨rfl, (hts _ (List.mem_cons_of_mem _ wd_479))⟩ ⟨rfl, (hts _ (List.mem_cons_of_mem _ wd_14))⟩ hst hbs (bh_at_IllegalStateException hw hB) d_H_event_10 d_H_event_13 (Or.inl ⟨rfl, d_H_event_14⟩) d_H_event_16 d_H_event_19 (by show 2 + 3 < _ + 12; omega) (by show 13 * (2 + 1) + 43 ≤ 80 * _ + 200; omega) (Nat.le_refl _) (Nat.le_refl _) h), List.forall_mem_cons.mpr ⟨fun S h => bs_aload_n (Z := Z) hx hb rfl d_H_event_20 h, List.forall_mem_cons.mpr ⟨fun S h => bs_gR (Z := Z) (C := R_H) (T := F_H) (N := 5) (t := 3) (j := 3) hx hb hK hts (fun w h => List.mem_cons_of_mem _ (iw_H w h)) hown rfl rfl (by decide) (hts _ (List.mem_cons_of_mem _ wd_227)) (fun _ h => h) rfl rfl rfl d_H_event_21 h, List.forall_mem_cons.mpr ⟨fun S h => bs_callV (Z := Z) (C := R_E) hBg hbs hB X0 hK (cn_E_takeOldest htr (d + 0)) (cl_E_takeOldest _ _ hw) (hts _ (List.mem_cons_of_mem _ wd_755)) (hts _ (List.mem_cons_of_mem _ wd_756)) (hts _ (List.mem_cons_of_mem _ wd_757)) rfl rfl rfl rfl rfl (Nat.le_refl _) (Nat.le_refl _) d_H_event_24 (bs_out htab hlocks) h, List.forall_mem_cons.mpr ⟨fun S h => bs_iret (Z := Z) hx hb hr hlocks d_H_event_27 h, fun _ h => absurd h List.not_mem_nil⟩⟩⟩⟩⟩⟩⟩⟩⟩
abbrev c_H_wireTarget : ByteArray := prog_1_method_39_code
def y_H_wireTarget : MethodName := ⟨"BundleHall", "wireTarget", "(I)I"⟩
theorem d_H_wireTarget_0 : decode c_H_wireTarget 0 = .ok (.iload_n 1, 1) := by decide +kernel
theorem d_H_wireTarget_1 : decode c_H_wireTarget 1 = .ok (.iconst (-1), 1) := by decide +kernel
theorem d_H_wireTarget_2 : decode c_H_wireTarget 2 = .ok (.if_icmp .ne 5, 3) := by decide +kernel
theorem d_H_wireTarget_5 : decode c_H_wireTarget 5 = .ok (.iconst (-1), 1) := by decide +kernel
theorem d_H_wireTarget_6 : decode c_H_wireTarget 6 = .ok (.ireturn, 1) := by decide +kernel
theorem d_H_wireTarget_7 : decode c_H_wireTarget 7 = .ok (.aload_n 0, 1) := by decide +kernel
theorem d_H_wireTarget_8 : decode c_H_wireTarget 8 = .ok (.iload_n 1, 1) := by decide +kernel
theorem d_H_wireTarget_9 : decode c_H_wireTarget 9 = .ok (.invokevirtual 341, 3) := by decide +kernel
theorem d_H_wireTarget_12 : decode c_H_wireTarget 12 = .ok (.ifCond .eq 13, 3) := by decide +kernel
theorem d_H_wireTarget_15 : decode c_H_wireTarget 15 = .ok (.iload_n 1, 1) := by decide +kernel
theorem d_H_wireTarget_16 : decode c_H_wireTarget 16 = .ok (.invokestatic 335, 3) := by decide +kernel
theorem d_H_wireTarget_19 : decode c_H_wireTarget 19 = .ok (.bipush 100, 2) := by decide +kernel
theorem d_H_wireTarget_21 : decode c_H_wireTarget 21 = .ok (.iadd, 1) := by decide +kernel
theorem d_H_wireTarget_22 : decode c_H_wireTarget 22 = .ok (.goto 7, 3) := by decide +kernel
theorem d_H_wireTarget_25 : decode c_H_wireTarget 25 = .ok (.iload_n 1, 1) := by decide +kernel
theorem d_H_wireTarget_26 : decode c_H_wireTarget 26 = .ok (.invokestatic 335, 3) := by decide +kernel
theorem d_H_wireTarget_29 : decode c_H_wireTarget 29 = .ok (.ireturn, 1) := by decide +kernel
def T_H_wireTarget_0 : List (Nat × bh_Op) := [(0, bo_ild 1 1),
  (1, bo_st 2 (bg_push (.inl (.int (-1))))),
  (2, bo_if2 5 7 (fun x y => ¬ x = y)),
  (5, bo_st 6 (bg_push (.inl (.int (-1))))),
  (6, bo_iret 0),
  (7, bo_ald 8 0),
  (8, bo_ild 9 1),
  (9, bo_callV 12 2 0 0 3 F_H_isOld),
  (12, bo_if1 15 25 (fun x => x = 0)),
  (15, bo_ild 16 1),
  (16, bo_callS 19 1 0 0 F_H_ownerOf),
  (19, bo_st 21 (bg_push (.inl (.int 100)))),
  (21, bo_st 22 (bg_ii (fun x y => x + y))),
  (22, bo_go 29),
  (25, bo_ild 26 1),
  (26, bo_callS 29 1 0 0 F_H_ownerOf),
  (29, bo_iret 0)]
def T_H_wireTarget : List (Nat × bh_Op) := T_H_wireTarget_0
set_option maxRecDepth 20000 in
theorem mT_H_wireTarget_0 : ∀ q ∈ T_H_wireTarget_0, bh_mono q.2 := List.forall_mem_cons.mpr ⟨bo_ild_m _ _, List.forall_mem_cons.mpr ⟨bo_st_mono (bg_push_m _), List.forall_mem_cons.mpr ⟨bo_if2_m _ _ _, List.forall_mem_cons.mpr ⟨bo_st_mono (bg_push_m _), List.forall_mem_cons.mpr ⟨bo_iret_m _, List.forall_mem_cons.mpr ⟨bo_ald_m _ _, List.forall_mem_cons.mpr ⟨bo_ild_m _ _, List.forall_mem_cons.mpr ⟨bo_callV_m (mF_H_isOld) _ _ _ _ _, List.forall_mem_cons.mpr ⟨bo_if1_m _ _ _, List.forall_mem_cons.mpr ⟨bo_ild_m _ _, List.forall_mem_cons.mpr ⟨bo_callS_m (mF_H_ownerOf) _ _ _ _, List.forall_mem_cons.mpr ⟨bo_st_mono (bg_push_m _), List.forall_mem_cons.mpr ⟨bo_st_mono (bg_ii_m _), List.forall_mem_cons.mpr ⟨bo_go_m _, List.forall_mem_cons.mpr ⟨bo_ild_m _ _, List.forall_mem_cons.mpr ⟨bo_callS_m (mF_H_ownerOf) _ _ _ _, List.forall_mem_cons.mpr ⟨bo_iret_m _, fun _ h => absurd h List.not_mem_nil⟩⟩⟩⟩⟩⟩⟩⟩⟩⟩⟩⟩⟩⟩⟩⟩⟩
theorem m_H_wireTarget : ∀ pc, bh_mono (bh_tb (T_H_wireTarget) pc) := bh_tb_m mT_H_wireTarget_0
def F_H_wireTarget : bh_Fn := bh_fn 2 (bh_tb T_H_wireTarget)
theorem mF_H_wireTarget : bh_monoF F_H_wireTarget := bh_fn_m m_H_wireTarget
theorem cl_H_wireTarget {s : State} {args : Array Value} (d B : Nat) (hts : ∀ w ∈ bh_ws, w.before args s = true) : bh_Cal (bh_rm (d + 1) B) s y_H_wireTarget 2 (.code y_H_wireTarget c_H_wireTarget 2 (some .int) :: bh_ws) (bh_rm d 0) 0 1 := bh_cal d B hts wd_769 wd_1 (by decide) (by decide +kernel)
set_option maxHeartbeats 4000000 in
set_option maxRecDepth 100000 in
theorem cn_H_wireTarget {l : Launch} {G : bh_G} {base sb L : Nat} {xs : Nat → Int32} (htr : l.stackTraces = false) (d : Nat) : bh_Con l G base (bh_Bg G base sb L xs) y_H_wireTarget (.code y_H_wireTarget c_H_wireTarget 2 (some .int) :: bh_ws) (bh_rm (d + 4) 0) 0 false F_H_wireTarget := by
  refine bh_method (cc := c_H_wireTarget) (ret := (some .int)) (by decide +kernel) rfl ?_
  intro p e s m args below meth c ad0 M0 Z X0 hr hlocks hname htab hbs hB
  obtain ⟨hx, hb, hml, hown, hts⟩ := id X0
  have hw : ∀ w ∈ bh_ws, w.before args s = true := fun w h => hts w (List.mem_cons_of_mem _ h)
  have hBg := bh_BgK (G := G) (base := base) (sb := sb) (L := L) (xs := xs)
  obtain ⟨hK, hAr, hen, hinj, hu1, hu2, hstr, hX, hsb, hsc, hxw, hao, hnc⟩ := id hB
  obtain ⟨ha1, ha2, ha3, ha4, ha5, ha6, ha0⟩ := bh_arr hAr
  exact List.forall_mem_cons.mpr ⟨fun S h => bs_iload_n (Z := Z) hx hb rfl d_H_wireTarget_0 h, List.forall_mem_cons.mpr ⟨fun S h => bs_iconst (Z := Z) hx hb (by decide) d_H_wireTarget_1 h, List.forall_mem_cons.mpr ⟨fun S h => bs_icmp_ne (Z := Z) hx hb d_H_wireTarget_2 (by decide) h, List.forall_mem_cons.mpr ⟨fun S h => bs_iconst (Z := Z) hx hb (by decide) d_H_wireTarget_5 h, List.forall_mem_cons.mpr ⟨fun S h => bs_iret (Z := Z) hx hb hr hlocks d_H_wireTarget_6 h, List.forall_mem_cons.mpr ⟨fun S h => bs_aload_n (Z := Z) hx hb rfl d_H_wireTarget_7 h, List.forall_mem_cons.mpr ⟨fun S h => bs_iload_n (Z := Z) hx hb rfl d_H_wireTarget_8 h, List.forall_mem_cons.mpr ⟨fun S h => bs_callV (Z := Z) (C := R_H) hBg hbs hB X0 hK (cn_H_isOld htr (d + 0)) (cl_H_isOld _ _ hw) (hts _ (List.mem_cons_of_mem _ wd_252)) (hts _ (List.mem_cons_of_mem _ wd_254)) (hts _ (List.mem_cons_of_mem _ ws_2)) rfl rfl rfl rfl rfl (Nat.le_refl _) (Nat.le_refl _) d_H_wireTarget_9 (bs_out htab hlocks) h, List.forall_mem_cons.mpr ⟨fun S h => bs_if_eq (Z := Z) hx hb d_H_wireTarget_12 (by decide) h, List.forall_mem_cons.mpr ⟨fun S h => bs_iload_n (Z := Z) hx hb rfl d_H_wireTarget_15 h, List.forall_mem_cons.mpr ⟨fun S h => bs_callS (Z := Z) hBg hbs hB X0 (cn_H_ownerOf htr (d + 1)) (cl_H_ownerOf _ _ hw) (hts _ (List.mem_cons_of_mem _ wd_256)) (hts _ (List.mem_cons_of_mem _ wd_257)) (Nat.le_refl _) (Nat.le_refl _) d_H_wireTarget_16 (bs_out htab hlocks) h, List.forall_mem_cons.mpr ⟨fun S h => bs_bipush (Z := Z) hx hb (by decide) d_H_wireTarget_19 h, List.forall_mem_cons.mpr ⟨fun S h => bs_iadd (Z := Z) hx hb d_H_wireTarget_21 h, List.forall_mem_cons.mpr ⟨fun S h => bs_goto (Z := Z) hx hb d_H_wireTarget_22 (by decide) h, List.forall_mem_cons.mpr ⟨fun S h => bs_iload_n (Z := Z) hx hb rfl d_H_wireTarget_25 h, List.forall_mem_cons.mpr ⟨fun S h => bs_callS (Z := Z) hBg hbs hB X0 (cn_H_ownerOf htr (d + 1)) (cl_H_ownerOf _ _ hw) (hts _ (List.mem_cons_of_mem _ wd_256)) (hts _ (List.mem_cons_of_mem _ wd_257)) (Nat.le_refl _) (Nat.le_refl _) d_H_wireTarget_26 (bs_out htab hlocks) h, List.forall_mem_cons.mpr ⟨fun S h => bs_iret (Z := Z) hx hb hr hlocks d_H_wireTarget_29 h, fun _ h => absurd h List.not_mem_nil⟩⟩⟩⟩⟩⟩⟩⟩⟩⟩⟩⟩⟩⟩⟩⟩⟩
abbrev c_H_about : ByteArray := prog_1_method_18_code
def y_H_about : MethodName := ⟨"BundleHall", "about", "(II)I"⟩
theorem d_H_about_0 : decode c_H_about 0 = .ok (.iload_n 1, 1) := by decide +kernel
theorem d_H_about_1 : decode c_H_about 1 = .ok (.invokestatic 43, 3) := by decide +kernel
theorem d_H_about_4 : decode c_H_about 4 = .ok (.iload_n 2, 1) := by decide +kernel
theorem d_H_about_5 : decode c_H_about 5 = .ok (.iconst 0, 1) := by decide +kernel
theorem d_H_about_6 : decode c_H_about 6 = .ok (.bipush 7, 2) := by decide +kernel
theorem d_H_about_8 : decode c_H_about 8 = .ok (.invokestatic 46, 3) := by decide +kernel
theorem d_H_about_11 : decode c_H_about 11 = .ok (.aload_n 0, 1) := by decide +kernel
theorem d_H_about_12 : decode c_H_about 12 = .ok (.getfield 11, 3) := by decide +kernel
theorem d_H_about_15 : decode c_H_about 15 = .ok (.iload_n 1, 1) := by decide +kernel
theorem d_H_about_16 : decode c_H_about 16 = .ok (.aaload, 1) := by decide +kernel
theorem d_H_about_17 : decode c_H_about 17 = .ok (.astore_n 3, 1) := by decide +kernel
theorem d_H_about_18 : decode c_H_about 18 = .ok (.iload_n 2, 1) := by decide +kernel
theorem d_H_about_19 : decode c_H_about 19 = .ok (.tableswitch 76 0 4 #[33, 38, 51, 60, 68], 33) := by decide +kernel
theorem d_H_about_52 : decode c_H_about 52 = .ok (.aload_n 3, 1) := by decide +kernel
theorem d_H_about_53 : decode c_H_about 53 = .ok (.getfield 50, 3) := by decide +kernel
theorem d_H_about_56 : decode c_H_about 56 = .ok (.ireturn, 1) := by decide +kernel
theorem d_H_about_57 : decode c_H_about 57 = .ok (.aload_n 3, 1) := by decide +kernel
theorem d_H_about_58 : decode c_H_about 58 = .ok (.getfield 119, 3) := by decide +kernel
theorem d_H_about_61 : decode c_H_about 61 = .ok (.ifCond .eq 7, 3) := by decide +kernel
theorem d_H_about_64 : decode c_H_about 64 = .ok (.iconst 1, 1) := by decide +kernel
theorem d_H_about_65 : decode c_H_about 65 = .ok (.goto 4, 3) := by decide +kernel
theorem d_H_about_68 : decode c_H_about 68 = .ok (.iconst 0, 1) := by decide +kernel
theorem d_H_about_69 : decode c_H_about 69 = .ok (.ireturn, 1) := by decide +kernel
theorem d_H_about_70 : decode c_H_about 70 = .ok (.aload_n 0, 1) := by decide +kernel
theorem d_H_about_71 : decode c_H_about 71 = .ok (.getfield 28, 3) := by decide +kernel
theorem d_H_about_74 : decode c_H_about 74 = .ok (.iload_n 1, 1) := by decide +kernel
theorem d_H_about_75 : decode c_H_about 75 = .ok (.invokevirtual 130, 3) := by decide +kernel
theorem d_H_about_78 : decode c_H_about 78 = .ok (.ireturn, 1) := by decide +kernel
theorem d_H_about_79 : decode c_H_about 79 = .ok (.aload_n 3, 1) := by decide +kernel
theorem d_H_about_80 : decode c_H_about 80 = .ok (.getfield 245, 3) := by decide +kernel
theorem d_H_about_83 : decode c_H_about 83 = .ok (.getfield 85, 3) := by decide +kernel
theorem d_H_about_86 : decode c_H_about 86 = .ok (.ireturn, 1) := by decide +kernel
theorem d_H_about_87 : decode c_H_about 87 = .ok (.aload_n 3, 1) := by decide +kernel
theorem d_H_about_88 : decode c_H_about 88 = .ok (.getfield 245, 3) := by decide +kernel
theorem d_H_about_91 : decode c_H_about 91 = .ok (.getfield 97, 3) := by decide +kernel
theorem d_H_about_94 : decode c_H_about 94 = .ok (.ireturn, 1) := by decide +kernel
theorem d_H_about_95 : decode c_H_about 95 = .ok (.aload_n 0, 1) := by decide +kernel
theorem d_H_about_96 : decode c_H_about 96 = .ok (.aload_n 3, 1) := by decide +kernel
theorem d_H_about_97 : decode c_H_about 97 = .ok (.getfield 249, 3) := by decide +kernel
theorem d_H_about_100 : decode c_H_about 100 = .ok (.iload_n 2, 1) := by decide +kernel
theorem d_H_about_101 : decode c_H_about 101 = .ok (.iconst 5, 1) := by decide +kernel
theorem d_H_about_102 : decode c_H_about 102 = .ok (.isub, 1) := by decide +kernel
theorem d_H_about_103 : decode c_H_about 103 = .ok (.iaload, 1) := by decide +kernel
theorem d_H_about_104 : decode c_H_about 104 = .ok (.invokevirtual 252, 3) := by decide +kernel
theorem d_H_about_107 : decode c_H_about 107 = .ok (.ireturn, 1) := by decide +kernel
theorem bh_sw_H_about_19 : ∀ z : Int32, (0 : Int) ≤ z.toInt → z.toInt ≤ (4 : Int) → ∃ q ∈ ([(0, 52), (1, 57), (2, 70), (3, 79), (4, 87)] : List (Int32 × Nat)), q.1 = z := by
  intro z h1 h2
  have h3 : z.toInt = 0 ∨ z.toInt = 1 ∨ z.toInt = 2 ∨ z.toInt = 3 ∨ z.toInt = 4 := by omega
  rcases h3 with h | h | h | h | h
  · exact ⟨(0, 52), List.mem_of_getElem? (i := 0) rfl, Int32.toInt_inj.mp (by rw [h]; decide)⟩
  · exact ⟨(1, 57), List.mem_of_getElem? (i := 1) rfl, Int32.toInt_inj.mp (by rw [h]; decide)⟩
  · exact ⟨(2, 70), List.mem_of_getElem? (i := 2) rfl, Int32.toInt_inj.mp (by rw [h]; decide)⟩
  · exact ⟨(3, 79), List.mem_of_getElem? (i := 3) rfl, Int32.toInt_inj.mp (by rw [h]; decide)⟩
  · exact ⟨(4, 87), List.mem_of_getElem? (i := 4) rfl, Int32.toInt_inj.mp (by rw [h]; decide)⟩
def T_H_about_0 : List (Nat × bh_Op) := [(0, bo_ild 1 1),
  (1, bo_callS 4 1 1 2 F_H_checkBundle),
  (4, bo_ild 5 2),
  (5, bo_st 6 (bg_push (.inl (.int 0)))),
  (6, bo_st 8 (bg_push (.inl (.int 7)))),
  (8, bo_callS 11 3 1 2 F_H_checkRange),
  (11, bo_ald 12 0),
  (12, bo_gR 15 3 0 4),
  (15, bo_ild 16 1),
  (16, bo_Rald bh_ak bh_al 17),
  (17, bo_ast 18 3),
  (18, bo_ild 19 2),
  (19, bo_sw [(0, 52), (1, 57), (2, 70), (3, 79), (4, 87)] 95),
  (52, bo_ald 53 3),
  (53, bo_gI 56 5 3),
  (56, bo_iret 2),
  (57, bo_ald 58 3),
  (58, bo_gI 61 5 7),
  (61, bo_if1 64 68 (fun x => x = 0)),
  (64, bo_st 65 (bg_push (.inl (.int 1)))),
  (65, bo_go 69),
  (68, bo_st 69 (bg_push (.inl (.int 0)))),
  (69, bo_iret 2),
  (70, bo_ald 71 0),
  (71, bo_gR 74 3 2 19),
  (74, bo_ild 75 1),
  (75, bo_callV 78 2 0 2 19 F_V_ownedBy),
  (78, bo_iret 2),
  (79, bo_ald 80 3),
  (80, bo_gR 83 5 1 7),
  (83, bo_gI 86 7 7),
  (86, bo_iret 2),
  (87, bo_ald 88 3),
  (88, bo_gR 91 5 1 7),
  (91, bo_gI 94 7 8),
  (94, bo_iret 2),
  (95, bo_ald 96 0),
  (96, bo_ald 97 3),
  (97, bo_gR 100 5 2 6),
  (100, bo_ild 101 2)]
def T_H_about_1 : List (Nat × bh_Op) := [(101, bo_st 102 (bg_push (.inl (.int 5)))),
  (102, bo_st 103 (bg_ii (fun x y => x - y))),
  (103, bo_Iald bh_ak bh_al 104),
  (104, bo_callV 107 2 0 2 3 F_H_wireTarget),
  (107, bo_iret 2)]
def T_H_about : List (Nat × bh_Op) := T_H_about_0 ++ T_H_about_1
set_option maxRecDepth 20000 in
theorem mT_H_about_0 : ∀ q ∈ T_H_about_0, bh_mono q.2 := List.forall_mem_cons.mpr ⟨bo_ild_m _ _, List.forall_mem_cons.mpr ⟨bo_callS_m (mF_H_checkBundle) _ _ _ _, List.forall_mem_cons.mpr ⟨bo_ild_m _ _, List.forall_mem_cons.mpr ⟨bo_st_mono (bg_push_m _), List.forall_mem_cons.mpr ⟨bo_st_mono (bg_push_m _), List.forall_mem_cons.mpr ⟨bo_callS_m (mF_H_checkRange) _ _ _ _, List.forall_mem_cons.mpr ⟨bo_ald_m _ _, List.forall_mem_cons.mpr ⟨bo_gR_m _ _ _ _, List.forall_mem_cons.mpr ⟨bo_ild_m _ _, List.forall_mem_cons.mpr ⟨bo_Rald_m _ _ _, List.forall_mem_cons.mpr ⟨bo_ast_m _ _, List.forall_mem_cons.mpr ⟨bo_ild_m _ _, List.forall_mem_cons.mpr ⟨bo_sw_m _ _, List.forall_mem_cons.mpr ⟨bo_ald_m _ _, List.forall_mem_cons.mpr ⟨bo_gI_m _ _ _, List.forall_mem_cons.mpr ⟨bo_iret_m _, List.forall_mem_cons.mpr ⟨bo_ald_m _ _, List.forall_mem_cons.mpr ⟨bo_gI_m _ _ _, List.forall_mem_cons.mpr ⟨bo_if1_m _ _ _, List.forall_mem_cons.mpr ⟨bo_st_mono (bg_push_m _), List.forall_mem_cons.mpr ⟨bo_go_m _, List.forall_mem_cons.mpr ⟨bo_st_mono (bg_push_m _), List.forall_mem_cons.mpr ⟨bo_iret_m _, List.forall_mem_cons.mpr ⟨bo_ald_m _ _, List.forall_mem_cons.mpr ⟨bo_gR_m _ _ _ _, List.forall_mem_cons.mpr ⟨bo_ild_m _ _, List.forall_mem_cons.mpr ⟨bo_callV_m (mF_V_ownedBy) _ _ _ _ _, List.forall_mem_cons.mpr ⟨bo_iret_m _, List.forall_mem_cons.mpr ⟨bo_ald_m _ _, List.forall_mem_cons.mpr ⟨bo_gR_m _ _ _ _, List.forall_mem_cons.mpr ⟨bo_gI_m _ _ _, List.forall_mem_cons.mpr ⟨bo_iret_m _, List.forall_mem_cons.mpr ⟨bo_ald_m _ _, List.forall_mem_cons.mpr ⟨bo_gR_m _ _ _ _, List.forall_mem_cons.mpr ⟨bo_gI_m _ _ _, List.forall_mem_cons.mpr ⟨bo_iret_m _, List.forall_mem_cons.mpr ⟨bo_ald_m _ _, List.forall_mem_cons.mpr ⟨bo_ald_m _ _, List.forall_mem_cons.mpr ⟨bo_gR_m _ _ _ _, List.forall_mem_cons.mpr ⟨bo_ild_m _ _, fun _ h => absurd h List.not_mem_nil⟩⟩⟩⟩⟩⟩⟩⟩⟩⟩⟩⟩⟩⟩⟩⟩⟩⟩⟩⟩⟩⟩⟩⟩⟩⟩⟩⟩⟩⟩⟩⟩⟩⟩⟩⟩⟩⟩⟩⟩
set_option maxRecDepth 20000 in
theorem mT_H_about_1 : ∀ q ∈ T_H_about_1, bh_mono q.2 := List.forall_mem_cons.mpr ⟨bo_st_mono (bg_push_m _), List.forall_mem_cons.mpr ⟨bo_st_mono (bg_ii_m _), List.forall_mem_cons.mpr ⟨bo_Iald_m _ _ _, List.forall_mem_cons.mpr ⟨bo_callV_m (mF_H_wireTarget) _ _ _ _ _, List.forall_mem_cons.mpr ⟨bo_iret_m _, fun _ h => absurd h List.not_mem_nil⟩⟩⟩⟩⟩
theorem m_H_about : ∀ pc, bh_mono (bh_tb (T_H_about) pc) := bh_tb_m (List.forall_mem_append.mpr ⟨mT_H_about_0, mT_H_about_1⟩)
def F_H_about : bh_Fn := bh_fn 4 (bh_tb T_H_about)
theorem mF_H_about : bh_monoF F_H_about := bh_fn_m m_H_about
theorem cl_H_about {s : State} {args : Array Value} (d B : Nat) (hts : ∀ w ∈ bh_ws, w.before args s = true) : bh_Cal (bh_rm (d + 1) B) s y_H_about 4 (.code y_H_about c_H_about 4 (some .int) :: bh_ws) (bh_rm d 2) 2 2 := bh_cal d B hts wd_765 wd_1 (by decide) (by decide +kernel)
set_option maxHeartbeats 4000000 in
set_option maxRecDepth 100000 in
theorem cn_H_about {l : Launch} {G : bh_G} {base sb L : Nat} {xs : Nat → Int32} (htr : l.stackTraces = false) (d : Nat) : bh_Con l G base (bh_Bg G base sb L xs) y_H_about (.code y_H_about c_H_about 4 (some .int) :: bh_ws) (bh_rm (d + 5) 2) 2 false F_H_about := by
  refine bh_method (cc := c_H_about) (ret := (some .int)) (by decide +kernel) rfl ?_
  intro p e s m args below meth c ad0 M0 Z X0 hr hlocks hname htab hbs hB
  obtain ⟨hx, hb, hml, hown, hts⟩ := id X0
  have hw : ∀ w ∈ bh_ws, w.before args s = true := fun w h => hts w (List.mem_cons_of_mem _ h)
  have hBg := bh_BgK (G := G) (base := base) (sb := sb) (L := L) (xs := xs)
  obtain ⟨hK, hAr, hen, hinj, hu1, hu2, hstr, hX, hsb, hsc, hxw, hao, hnc⟩ := id hB
  obtain ⟨ha1, ha2, ha3, ha4, ha5, ha6, ha0⟩ := bh_arr hAr
  refine List.forall_mem_append.mpr ⟨?_, List.forall_mem_cons.mpr ⟨fun S h => bs_iconst (Z := Z) hx hb (by decide) d_H_about_101 h, List.forall_mem_cons.mpr ⟨fun S h => bs_isub (Z := Z) hx hb d_H_about_102 h, List.forall_mem_cons.mpr ⟨fun S h => bs_Iald (Z := Z) hx hb ha1 d_H_about_103 h, List.forall_mem_cons.mpr ⟨fun S h => bs_callV (Z := Z) (C := R_H) hBg hbs hB X0 hK (cn_H_wireTarget htr (d + 0)) (cl_H_wireTarget _ _ hw) (hts _ (List.mem_cons_of_mem _ wd_766)) (hts _ (List.mem_cons_of_mem _ wd_768)) (hts _ (List.mem_cons_of_mem _ ws_24)) rfl rfl rfl rfl rfl (Nat.le_refl _) (Nat.le_refl _) d_H_about_104 (bs_out htab hlocks) h, List.forall_mem_cons.mpr ⟨fun S h => bs_iret (Z := Z) hx hb hr hlocks d_H_about_107 h, fun _ h => absurd h List.not_mem_nil⟩⟩⟩⟩⟩⟩
  exact List.forall_mem_cons.mpr ⟨fun S h => bs_iload_n (Z := Z) hx hb rfl d_H_about_0 h, List.forall_mem_cons.mpr ⟨fun S h => bs_callS (Z := Z) hBg hbs hB X0 (cn_H_checkBundle htr (d + 2)) (cl_H_checkBundle _ _ hw) (hts _ (List.mem_cons_of_mem _ wd_403)) (hts _ (List.mem_cons_of_mem _ wd_404)) (Nat.le_refl _) (Nat.le_refl _) d_H_about_1 (bs_out htab hlocks) h, List.forall_mem_cons.mpr ⟨fun S h => bs_iload_n (Z := Z) hx hb rfl d_H_about_4 h, List.forall_mem_cons.mpr ⟨fun S h => bs_iconst (Z := Z) hx hb (by decide) d_H_about_5 h, List.forall_mem_cons.mpr ⟨fun S h => bs_bipush (Z := Z) hx hb (by decide) d_H_about_6 h, List.forall_mem_cons.mpr ⟨fun S h => bs_callS (Z := Z) hBg hbs hB X0 (cn_H_checkRange htr (d + 3)) (cl_H_checkRange _ _ hw) (hts _ (List.mem_cons_of_mem _ wd_406)) (hts _ (List.mem_cons_of_mem _ wd_407)) (Nat.le_refl _) (Nat.le_refl _) d_H_about_8 (bs_out htab hlocks) h, List.forall_mem_cons.mpr ⟨fun S h => bs_aload_n (Z := Z) hx hb rfl d_H_about_11 h, List.forall_mem_cons.mpr ⟨fun S h => bs_gR (Z := Z) (C := R_H) (T := F_H) (N := 5) (t := 3) (j := 0) hx hb hK hts (fun w h => List.mem_cons_of_mem _ (iw_H w h)) hown rfl rfl (by decide) (hts _ (List.mem_cons_of_mem _ wd_224)) (fun _ h => h) rfl rfl rfl d_H_about_12 h, List.forall_mem_cons.mpr ⟨fun S h => bs_iload_n (Z := Z) hx hb rfl d_H_about_15 h, List.forall_mem_cons.mpr ⟨fun S h => bs_Rald (Z := Z) hx hb ha5 d_H_about_16 h, List.forall_mem_cons.mpr ⟨fun S h => bs_astore_n (Z := Z) hx hb rfl d_H_about_17 h, List.forall_mem_cons.mpr ⟨fun S h => bs_iload_n (Z := Z) hx hb rfl d_H_about_18 h, List.forall_mem_cons.mpr ⟨fun S h => bs_tsw (Z := Z) hx hb d_H_about_19 (by decide) (by decide +kernel) (bh_sw_H_about_19) h, List.forall_mem_cons.mpr ⟨fun S h => bs_aload_n (Z := Z) hx hb rfl d_H_about_52 h, List.forall_mem_cons.mpr ⟨fun S h => bs_gI (Z := Z) (C := R_B) (T := F_B) (N := 10) (t := 5) (j := 3) hx hb hK hts (fun w h => List.mem_cons_of_mem _ (iw_B w h)) hown rfl rfl (by decide) (hts _ (List.mem_cons_of_mem _ wd_95)) (fun _ h => h) rfl rfl rfl d_H_about_53 h, List.forall_mem_cons.mpr ⟨fun S h => bs_iret (Z := Z) hx hb hr hlocks d_H_about_56 h, List.forall_mem_cons.mpr ⟨fun S h => bs_aload_n (Z := Z) hx hb rfl d_H_about_57 h, List.forall_mem_cons.mpr ⟨fun S h => bs_gI (Z := Z) (C := R_B) (T := F_B) (N := 10) (t := 5) (j := 7) hx hb hK hts (fun w h => List.mem_cons_of_mem _ (iw_B w h)) hown rfl rfl (by decide) (hts _ (List.mem_cons_of_mem _ wd_104)) (fun _ h => h) rfl rfl rfl d_H_about_58 h, List.forall_mem_cons.mpr ⟨fun S h => bs_if_eq (Z := Z) hx hb d_H_about_61 (by decide) h, List.forall_mem_cons.mpr ⟨fun S h => bs_iconst (Z := Z) hx hb (by decide) d_H_about_64 h, List.forall_mem_cons.mpr ⟨fun S h => bs_goto (Z := Z) hx hb d_H_about_65 (by decide) h, List.forall_mem_cons.mpr ⟨fun S h => bs_iconst (Z := Z) hx hb (by decide) d_H_about_68 h, List.forall_mem_cons.mpr ⟨fun S h => bs_iret (Z := Z) hx hb hr hlocks d_H_about_69 h, List.forall_mem_cons.mpr ⟨fun S h => bs_aload_n (Z := Z) hx hb rfl d_H_about_70 h, List.forall_mem_cons.mpr ⟨fun S h => bs_gR (Z := Z) (C := R_H) (T := F_H) (N := 5) (t := 3) (j := 2) hx hb hK hts (fun w h => List.mem_cons_of_mem _ (iw_H w h)) hown rfl rfl (by decide) (hts _ (List.mem_cons_of_mem _ wd_226)) (fun _ h => h) rfl rfl rfl d_H_about_71 h, List.forall_mem_cons.mpr ⟨fun S h => bs_iload_n (Z := Z) hx hb rfl d_H_about_74 h, List.forall_mem_cons.mpr ⟨fun S h => bs_callV (Z := Z) (C := R_V) hBg hbs hB X0 hK (cn_V_ownedBy htr (d + 3)) (cl_V_ownedBy _ _ hw) (hts _ (List.mem_cons_of_mem _ wd_631)) (hts _ (List.mem_cons_of_mem _ wd_632)) (hts _ (List.mem_cons_of_mem _ wd_633)) rfl rfl rfl rfl rfl (Nat.le_refl _) (Nat.le_refl _) d_H_about_75 (bs_out htab hlocks) h, List.forall_mem_cons.mpr ⟨fun S h => bs_iret (Z := Z) hx hb hr hlocks d_H_about_78 h, List.forall_mem_cons.mpr ⟨fun S h => bs_aload_n (Z := Z) hx hb rfl d_H_about_79 h, List.forall_mem_cons.mpr ⟨fun S h => bs_gR (Z := Z) (C := R_B) (T := F_B) (N := 10) (t := 5) (j := 1) hx hb hK hts (fun w h => List.mem_cons_of_mem _ (iw_B w h)) hown rfl rfl (by decide) (hts _ (List.mem_cons_of_mem _ wd_90)) (fun _ h => h) rfl rfl rfl d_H_about_80 h, List.forall_mem_cons.mpr ⟨fun S h => bs_gI (Z := Z) (C := R_F) (T := F_F) (N := 9) (t := 7) (j := 7) hx hb hK hts (fun w h => List.mem_cons_of_mem _ (iw_F w h)) hown rfl rfl (by decide) (hts _ (List.mem_cons_of_mem _ wd_59)) (fun _ h => h) rfl rfl rfl d_H_about_83 h, List.forall_mem_cons.mpr ⟨fun S h => bs_iret (Z := Z) hx hb hr hlocks d_H_about_86 h, List.forall_mem_cons.mpr ⟨fun S h => bs_aload_n (Z := Z) hx hb rfl d_H_about_87 h, List.forall_mem_cons.mpr ⟨fun S h => bs_gR (Z := Z) (C := R_B) (T := F_B) (N := 10) (t := 5) (j := 1) hx hb hK hts (fun w h => List.mem_cons_of_mem _ (iw_B w h)) hown rfl rfl (by decide) (hts _ (List.mem_cons_of_mem _ wd_90)) (fun _ h => h) rfl rfl rfl d_H_about_88 h, List.forall_mem_cons.mpr ⟨fun S h => bs_gI (Z := Z) (C := R_F) (T := F_F) (N := 9) (t := 7) (j := 8) hx hb hK hts (fun w h => List.mem_cons_of_mem _ (iw_F w h)) hown rfl rfl (by decide) (hts _ (List.mem_cons_of_mem _ wd_62)) (fun _ h => h) rfl rfl rfl d_H_about_91 h, List.forall_mem_cons.mpr ⟨fun S h => bs_iret (Z := Z) hx hb hr hlocks d_H_about_94 h, List.forall_mem_cons.mpr ⟨fun S h => bs_aload_n (Z := Z) hx hb rfl d_H_about_95 h, List.forall_mem_cons.mpr ⟨fun S h => bs_aload_n (Z := Z) hx hb rfl d_H_about_96 h, List.forall_mem_cons.mpr ⟨fun S h => bs_gR (Z := Z) (C := R_B) (T := F_B) (N := 10) (t := 5) (j := 2) hx hb hK hts (fun w h => List.mem_cons_of_mem _ (iw_B w h)) hown rfl rfl (by decide) (hts _ (List.mem_cons_of_mem _ wd_93)) (fun _ h => h) rfl rfl rfl d_H_about_97 h, List.forall_mem_cons.mpr ⟨fun S h => bs_iload_n (Z := Z) hx hb rfl d_H_about_100 h, fun _ h => absurd h List.not_mem_nil⟩⟩⟩⟩⟩⟩⟩⟩⟩⟩⟩⟩⟩⟩⟩⟩⟩⟩⟩⟩⟩⟩⟩⟩⟩⟩⟩⟩⟩⟩⟩⟩⟩⟩⟩⟩⟩⟩⟩⟩
abbrev c_H_count : ByteArray := prog_1_method_19_code
def y_H_count : MethodName := ⟨"BundleHall", "count", "(I)I"⟩
theorem d_H_count_0 : decode c_H_count 0 = .ok (.iload_n 1, 1) := by decide +kernel
theorem d_H_count_1 : decode c_H_count 1 = .ok (.iconst 0, 1) := by decide +kernel
theorem d_H_count_2 : decode c_H_count 2 = .ok (.iconst 5, 1) := by decide +kernel
theorem d_H_count_3 : decode c_H_count 3 = .ok (.invokestatic 46, 3) := by decide +kernel
theorem d_H_count_6 : decode c_H_count 6 = .ok (.iload_n 1, 1) := by decide +kernel
theorem d_H_count_7 : decode c_H_count 7 = .ok (.tableswitch 70 0 4 #[33, 38, 46, 54, 62], 33) := by decide +kernel
theorem d_H_count_40 : decode c_H_count 40 = .ok (.aload_n 0, 1) := by decide +kernel
theorem d_H_count_41 : decode c_H_count 41 = .ok (.getfield 39, 3) := by decide +kernel
theorem d_H_count_44 : decode c_H_count 44 = .ok (.ireturn, 1) := by decide +kernel
theorem d_H_count_45 : decode c_H_count 45 = .ok (.aload_n 0, 1) := by decide +kernel
theorem d_H_count_46 : decode c_H_count 46 = .ok (.getfield 28, 3) := by decide +kernel
theorem d_H_count_49 : decode c_H_count 49 = .ok (.getfield 255, 3) := by decide +kernel
theorem d_H_count_52 : decode c_H_count 52 = .ok (.ireturn, 1) := by decide +kernel
theorem d_H_count_53 : decode c_H_count 53 = .ok (.aload_n 0, 1) := by decide +kernel
theorem d_H_count_54 : decode c_H_count 54 = .ok (.getfield 35, 3) := by decide +kernel
theorem d_H_count_57 : decode c_H_count 57 = .ok (.getfield 237, 3) := by decide +kernel
theorem d_H_count_60 : decode c_H_count 60 = .ok (.ireturn, 1) := by decide +kernel
theorem d_H_count_61 : decode c_H_count 61 = .ok (.aload_n 0, 1) := by decide +kernel
theorem d_H_count_62 : decode c_H_count 62 = .ok (.getfield 35, 3) := by decide +kernel
theorem d_H_count_65 : decode c_H_count 65 = .ok (.getfield 258, 3) := by decide +kernel
theorem d_H_count_68 : decode c_H_count 68 = .ok (.ireturn, 1) := by decide +kernel
theorem d_H_count_69 : decode c_H_count 69 = .ok (.aload_n 0, 1) := by decide +kernel
theorem d_H_count_70 : decode c_H_count 70 = .ok (.getfield 21, 3) := by decide +kernel
theorem d_H_count_73 : decode c_H_count 73 = .ok (.getfield 261, 3) := by decide +kernel
theorem d_H_count_76 : decode c_H_count 76 = .ok (.ireturn, 1) := by decide +kernel
theorem d_H_count_77 : decode c_H_count 77 = .ok (.aload_n 0, 1) := by decide +kernel
theorem d_H_count_78 : decode c_H_count 78 = .ok (.getfield 21, 3) := by decide +kernel
theorem d_H_count_81 : decode c_H_count 81 = .ok (.getfield 116, 3) := by decide +kernel
theorem d_H_count_84 : decode c_H_count 84 = .ok (.ireturn, 1) := by decide +kernel
theorem bh_sw_H_count_7 : ∀ z : Int32, (0 : Int) ≤ z.toInt → z.toInt ≤ (4 : Int) → ∃ q ∈ ([(0, 40), (1, 45), (2, 53), (3, 61), (4, 69)] : List (Int32 × Nat)), q.1 = z := by
  intro z h1 h2
  have h3 : z.toInt = 0 ∨ z.toInt = 1 ∨ z.toInt = 2 ∨ z.toInt = 3 ∨ z.toInt = 4 := by omega
  rcases h3 with h | h | h | h | h
  · exact ⟨(0, 40), List.mem_of_getElem? (i := 0) rfl, Int32.toInt_inj.mp (by rw [h]; decide)⟩
  · exact ⟨(1, 45), List.mem_of_getElem? (i := 1) rfl, Int32.toInt_inj.mp (by rw [h]; decide)⟩
  · exact ⟨(2, 53), List.mem_of_getElem? (i := 2) rfl, Int32.toInt_inj.mp (by rw [h]; decide)⟩
  · exact ⟨(3, 61), List.mem_of_getElem? (i := 3) rfl, Int32.toInt_inj.mp (by rw [h]; decide)⟩
  · exact ⟨(4, 69), List.mem_of_getElem? (i := 4) rfl, Int32.toInt_inj.mp (by rw [h]; decide)⟩
def T_H_count_0 : List (Nat × bh_Op) := [(0, bo_ild 1 1),
  (1, bo_st 2 (bg_push (.inl (.int 0)))),
  (2, bo_st 3 (bg_push (.inl (.int 5)))),
  (3, bo_callS 6 3 1 1 F_H_checkRange),
  (6, bo_ild 7 1),
  (7, bo_sw [(0, 40), (1, 45), (2, 53), (3, 61), (4, 69)] 77),
  (40, bo_ald 41 0),
  (41, bo_gI 44 3 4),
  (44, bo_iret 1),
  (45, bo_ald 46 0),
  (46, bo_gR 49 3 2 19),
  (49, bo_gI 52 19 1),
  (52, bo_iret 1),
  (53, bo_ald 54 0),
  (54, bo_gR 57 3 3 23),
  (57, bo_gI 60 23 2),
  (60, bo_iret 1),
  (61, bo_ald 62 0),
  (62, bo_gR 65 3 3 23),
  (65, bo_gI 68 23 3),
  (68, bo_iret 1),
  (69, bo_ald 70 0),
  (70, bo_gR 73 3 1 15),
  (73, bo_gI 76 15 4),
  (76, bo_iret 1),
  (77, bo_ald 78 0),
  (78, bo_gR 81 3 1 15),
  (81, bo_gI 84 15 5),
  (84, bo_iret 1)]
def T_H_count : List (Nat × bh_Op) := T_H_count_0
set_option maxRecDepth 20000 in
theorem mT_H_count_0 : ∀ q ∈ T_H_count_0, bh_mono q.2 := List.forall_mem_cons.mpr ⟨bo_ild_m _ _, List.forall_mem_cons.mpr ⟨bo_st_mono (bg_push_m _), List.forall_mem_cons.mpr ⟨bo_st_mono (bg_push_m _), List.forall_mem_cons.mpr ⟨bo_callS_m (mF_H_checkRange) _ _ _ _, List.forall_mem_cons.mpr ⟨bo_ild_m _ _, List.forall_mem_cons.mpr ⟨bo_sw_m _ _, List.forall_mem_cons.mpr ⟨bo_ald_m _ _, List.forall_mem_cons.mpr ⟨bo_gI_m _ _ _, List.forall_mem_cons.mpr ⟨bo_iret_m _, List.forall_mem_cons.mpr ⟨bo_ald_m _ _, List.forall_mem_cons.mpr ⟨bo_gR_m _ _ _ _, List.forall_mem_cons.mpr ⟨bo_gI_m _ _ _, List.forall_mem_cons.mpr ⟨bo_iret_m _, List.forall_mem_cons.mpr ⟨bo_ald_m _ _, List.forall_mem_cons.mpr ⟨bo_gR_m _ _ _ _, List.forall_mem_cons.mpr ⟨bo_gI_m _ _ _, List.forall_mem_cons.mpr ⟨bo_iret_m _, List.forall_mem_cons.mpr ⟨bo_ald_m _ _, List.forall_mem_cons.mpr ⟨bo_gR_m _ _ _ _, List.forall_mem_cons.mpr ⟨bo_gI_m _ _ _, List.forall_mem_cons.mpr ⟨bo_iret_m _, List.forall_mem_cons.mpr ⟨bo_ald_m _ _, List.forall_mem_cons.mpr ⟨bo_gR_m _ _ _ _, List.forall_mem_cons.mpr ⟨bo_gI_m _ _ _, List.forall_mem_cons.mpr ⟨bo_iret_m _, List.forall_mem_cons.mpr ⟨bo_ald_m _ _, List.forall_mem_cons.mpr ⟨bo_gR_m _ _ _ _, List.forall_mem_cons.mpr ⟨bo_gI_m _ _ _, List.forall_mem_cons.mpr ⟨bo_iret_m _, fun _ h => absurd h List.not_mem_nil⟩⟩⟩⟩⟩⟩⟩⟩⟩⟩⟩⟩⟩⟩⟩⟩⟩⟩⟩⟩⟩⟩⟩⟩⟩⟩⟩⟩⟩
theorem m_H_count : ∀ pc, bh_mono (bh_tb (T_H_count) pc) := bh_tb_m mT_H_count_0
def F_H_count : bh_Fn := bh_fn 2 (bh_tb T_H_count)
theorem mF_H_count : bh_monoF F_H_count := bh_fn_m m_H_count
theorem cl_H_count {s : State} {args : Array Value} (d B : Nat) (hts : ∀ w ∈ bh_ws, w.before args s = true) : bh_Cal (bh_rm (d + 1) B) s y_H_count 2 (.code y_H_count c_H_count 2 (some .int) :: bh_ws) (bh_rm d 1) 1 1 := bh_cal d B hts wd_776 wd_1 (by decide) (by decide +kernel)
set_option maxHeartbeats 4000000 in
set_option maxRecDepth 100000 in
theorem cn_H_count {l : Launch} {G : bh_G} {base sb L : Nat} {xs : Nat → Int32} (htr : l.stackTraces = false) (d : Nat) : bh_Con l G base (bh_Bg G base sb L xs) y_H_count (.code y_H_count c_H_count 2 (some .int) :: bh_ws) (bh_rm (d + 2) 1) 1 false F_H_count := by
  refine bh_method (cc := c_H_count) (ret := (some .int)) (by decide +kernel) rfl ?_
  intro p e s m args below meth c ad0 M0 Z X0 hr hlocks hname htab hbs hB
  obtain ⟨hx, hb, hml, hown, hts⟩ := id X0
  have hw : ∀ w ∈ bh_ws, w.before args s = true := fun w h => hts w (List.mem_cons_of_mem _ h)
  have hBg := bh_BgK (G := G) (base := base) (sb := sb) (L := L) (xs := xs)
  obtain ⟨hK, hAr, hen, hinj, hu1, hu2, hstr, hX, hsb, hsc, hxw, hao, hnc⟩ := id hB
  obtain ⟨ha1, ha2, ha3, ha4, ha5, ha6, ha0⟩ := bh_arr hAr
  exact List.forall_mem_cons.mpr ⟨fun S h => bs_iload_n (Z := Z) hx hb rfl d_H_count_0 h, List.forall_mem_cons.mpr ⟨fun S h => bs_iconst (Z := Z) hx hb (by decide) d_H_count_1 h, List.forall_mem_cons.mpr ⟨fun S h => bs_iconst (Z := Z) hx hb (by decide) d_H_count_2 h, List.forall_mem_cons.mpr ⟨fun S h => bs_callS (Z := Z) hBg hbs hB X0 (cn_H_checkRange htr (d + 0)) (cl_H_checkRange _ _ hw) (hts _ (List.mem_cons_of_mem _ wd_406)) (hts _ (List.mem_cons_of_mem _ wd_407)) (Nat.le_refl _) (Nat.le_refl _) d_H_count_3 (bs_out htab hlocks) h, List.forall_mem_cons.mpr ⟨fun S h => bs_iload_n (Z := Z) hx hb rfl d_H_count_6 h, List.forall_mem_cons.mpr ⟨fun S h => bs_tsw (Z := Z) hx hb d_H_count_7 (by decide) (by decide +kernel) (bh_sw_H_count_7) h, List.forall_mem_cons.mpr ⟨fun S h => bs_aload_n (Z := Z) hx hb rfl d_H_count_40 h, List.forall_mem_cons.mpr ⟨fun S h => bs_gI (Z := Z) (C := R_H) (T := F_H) (N := 5) (t := 3) (j := 4) hx hb hK hts (fun w h => List.mem_cons_of_mem _ (iw_H w h)) hown rfl rfl (by decide) (hts _ (List.mem_cons_of_mem _ wd_228)) (fun _ h => h) rfl rfl rfl d_H_count_41 h, List.forall_mem_cons.mpr ⟨fun S h => bs_iret (Z := Z) hx hb hr hlocks d_H_count_44 h, List.forall_mem_cons.mpr ⟨fun S h => bs_aload_n (Z := Z) hx hb rfl d_H_count_45 h, List.forall_mem_cons.mpr ⟨fun S h => bs_gR (Z := Z) (C := R_H) (T := F_H) (N := 5) (t := 3) (j := 2) hx hb hK hts (fun w h => List.mem_cons_of_mem _ (iw_H w h)) hown rfl rfl (by decide) (hts _ (List.mem_cons_of_mem _ wd_226)) (fun _ h => h) rfl rfl rfl d_H_count_46 h, List.forall_mem_cons.mpr ⟨fun S h => bs_gI (Z := Z) (C := R_V) (T := F_V) (N := 3) (t := 19) (j := 1) hx hb hK hts (fun w h => List.mem_cons_of_mem _ (iw_V w h)) hown rfl rfl (by decide) (hts _ (List.mem_cons_of_mem _ wd_194)) (fun _ h => h) rfl rfl rfl d_H_count_49 h, List.forall_mem_cons.mpr ⟨fun S h => bs_iret (Z := Z) hx hb hr hlocks d_H_count_52 h, List.forall_mem_cons.mpr ⟨fun S h => bs_aload_n (Z := Z) hx hb rfl d_H_count_53 h, List.forall_mem_cons.mpr ⟨fun S h => bs_gR (Z := Z) (C := R_H) (T := F_H) (N := 5) (t := 3) (j := 3) hx hb hK hts (fun w h => List.mem_cons_of_mem _ (iw_H w h)) hown rfl rfl (by decide) (hts _ (List.mem_cons_of_mem _ wd_227)) (fun _ h => h) rfl rfl rfl d_H_count_54 h, List.forall_mem_cons.mpr ⟨fun S h => bs_gI (Z := Z) (C := R_E) (T := F_E) (N := 4) (t := 23) (j := 2) hx hb hK hts (fun w h => List.mem_cons_of_mem _ (iw_E w h)) hown rfl rfl (by decide) (hts _ (List.mem_cons_of_mem _ wd_212)) (fun _ h => h) rfl rfl rfl d_H_count_57 h, List.forall_mem_cons.mpr ⟨fun S h => bs_iret (Z := Z) hx hb hr hlocks d_H_count_60 h, List.forall_mem_cons.mpr ⟨fun S h => bs_aload_n (Z := Z) hx hb rfl d_H_count_61 h, List.forall_mem_cons.mpr ⟨fun S h => bs_gR (Z := Z) (C := R_H) (T := F_H) (N := 5) (t := 3) (j := 3) hx hb hK hts (fun w h => List.mem_cons_of_mem _ (iw_H w h)) hown rfl rfl (by decide) (hts _ (List.mem_cons_of_mem _ wd_227)) (fun _ h => h) rfl rfl rfl d_H_count_62 h, List.forall_mem_cons.mpr ⟨fun S h => bs_gI (Z := Z) (C := R_E) (T := F_E) (N := 4) (t := 23) (j := 3) hx hb hK hts (fun w h => List.mem_cons_of_mem _ (iw_E w h)) hown rfl rfl (by decide) (hts _ (List.mem_cons_of_mem _ wd_214)) (fun _ h => h) rfl rfl rfl d_H_count_65 h, List.forall_mem_cons.mpr ⟨fun S h => bs_iret (Z := Z) hx hb hr hlocks d_H_count_68 h, List.forall_mem_cons.mpr ⟨fun S h => bs_aload_n (Z := Z) hx hb rfl d_H_count_69 h, List.forall_mem_cons.mpr ⟨fun S h => bs_gR (Z := Z) (C := R_H) (T := F_H) (N := 5) (t := 3) (j := 1) hx hb hK hts (fun w h => List.mem_cons_of_mem _ (iw_H w h)) hown rfl rfl (by decide) (hts _ (List.mem_cons_of_mem _ wd_225)) (fun _ h => h) rfl rfl rfl d_H_count_70 h, List.forall_mem_cons.mpr ⟨fun S h => bs_gI (Z := Z) (C := R_R) (T := F_R) (N := 6) (t := 15) (j := 4) hx hb hK hts (fun w h => List.mem_cons_of_mem _ (iw_R w h)) hown rfl rfl (by decide) (hts _ (List.mem_cons_of_mem _ wd_142)) (fun _ h => h) rfl rfl rfl d_H_count_73 h, List.forall_mem_cons.mpr ⟨fun S h => bs_iret (Z := Z) hx hb hr hlocks d_H_count_76 h, List.forall_mem_cons.mpr ⟨fun S h => bs_aload_n (Z := Z) hx hb rfl d_H_count_77 h, List.forall_mem_cons.mpr ⟨fun S h => bs_gR (Z := Z) (C := R_H) (T := F_H) (N := 5) (t := 3) (j := 1) hx hb hK hts (fun w h => List.mem_cons_of_mem _ (iw_H w h)) hown rfl rfl (by decide) (hts _ (List.mem_cons_of_mem _ wd_225)) (fun _ h => h) rfl rfl rfl d_H_count_78 h, List.forall_mem_cons.mpr ⟨fun S h => bs_gI (Z := Z) (C := R_R) (T := F_R) (N := 6) (t := 15) (j := 5) hx hb hK hts (fun w h => List.mem_cons_of_mem _ (iw_R w h)) hown rfl rfl (by decide) (hts _ (List.mem_cons_of_mem _ wd_144)) (fun _ h => h) rfl rfl rfl d_H_count_81 h, List.forall_mem_cons.mpr ⟨fun S h => bs_iret (Z := Z) hx hb hr hlocks d_H_count_84 h, fun _ h => absurd h List.not_mem_nil⟩⟩⟩⟩⟩⟩⟩⟩⟩⟩⟩⟩⟩⟩⟩⟩⟩⟩⟩⟩⟩⟩⟩⟩⟩⟩⟩⟩⟩
