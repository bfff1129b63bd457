abbrev c_M_start : ByteArray := prog_10_method_36_code
def y_M_start : MethodName := ⟨"BundleHallModel", "start", "(I)I"⟩
theorem d_M_start_0 : decode c_M_start 0 = .ok (.aload_n 0, 1) := by decide +kernel
theorem d_M_start_1 : decode c_M_start 1 = .ok (.iconst 0, 1) := by decide +kernel
theorem d_M_start_2 : decode c_M_start 2 = .ok (.putfield 109, 3) := by decide +kernel
theorem d_M_start_5 : decode c_M_start 5 = .ok (.iload_n 1, 1) := by decide +kernel
theorem d_M_start_6 : decode c_M_start 6 = .ok (.invokestatic 126, 3) := by decide +kernel
theorem d_M_start_9 : decode c_M_start 9 = .ok (.ifCond .ne 9, 3) := by decide +kernel
theorem d_M_start_12 : decode c_M_start 12 = .ok (.aload_n 0, 1) := by decide +kernel
theorem d_M_start_13 : decode c_M_start 13 = .ok (.iconst 1, 1) := by decide +kernel
theorem d_M_start_14 : decode c_M_start 14 = .ok (.invokevirtual 130, 3) := by decide +kernel
theorem d_M_start_17 : decode c_M_start 17 = .ok (.ireturn, 1) := by decide +kernel
theorem d_M_start_18 : decode c_M_start 18 = .ok (.aload_n 0, 1) := by decide +kernel
theorem d_M_start_19 : decode c_M_start 19 = .ok (.getfield 7, 3) := by decide +kernel
theorem d_M_start_22 : decode c_M_start 22 = .ok (.iload_n 1, 1) := by decide +kernel
theorem d_M_start_23 : decode c_M_start 23 = .ok (.iaload, 1) := by decide +kernel
theorem d_M_start_24 : decode c_M_start 24 = .ok (.ifCond .ne 9, 3) := by decide +kernel
theorem d_M_start_27 : decode c_M_start 27 = .ok (.aload_n 0, 1) := by decide +kernel
theorem d_M_start_28 : decode c_M_start 28 = .ok (.iconst 2, 1) := by decide +kernel
theorem d_M_start_29 : decode c_M_start 29 = .ok (.invokevirtual 130, 3) := by decide +kernel
theorem d_M_start_32 : decode c_M_start 32 = .ok (.ireturn, 1) := by decide +kernel
theorem d_M_start_33 : decode c_M_start 33 = .ok (.aload_n 0, 1) := by decide +kernel
theorem d_M_start_34 : decode c_M_start 34 = .ok (.getfield 22, 3) := by decide +kernel
theorem d_M_start_37 : decode c_M_start 37 = .ok (.iload_n 1, 1) := by decide +kernel
theorem d_M_start_38 : decode c_M_start 38 = .ok (.iconst 1, 1) := by decide +kernel
theorem d_M_start_39 : decode c_M_start 39 = .ok (.bastore, 1) := by decide +kernel
theorem d_M_start_40 : decode c_M_start 40 = .ok (.aload_n 0, 1) := by decide +kernel
theorem d_M_start_41 : decode c_M_start 41 = .ok (.getfield 7, 3) := by decide +kernel
theorem d_M_start_44 : decode c_M_start 44 = .ok (.iload_n 1, 1) := by decide +kernel
theorem d_M_start_45 : decode c_M_start 45 = .ok (.iaload, 1) := by decide +kernel
theorem d_M_start_46 : decode c_M_start 46 = .ok (.iconst 3, 1) := by decide +kernel
theorem d_M_start_47 : decode c_M_start 47 = .ok (.if_icmp .ne 5, 3) := by decide +kernel
theorem d_M_start_50 : decode c_M_start 50 = .ok (.iconst 1, 1) := by decide +kernel
theorem d_M_start_51 : decode c_M_start 51 = .ok (.ireturn, 1) := by decide +kernel
theorem d_M_start_52 : decode c_M_start 52 = .ok (.aload_n 0, 1) := by decide +kernel
theorem d_M_start_53 : decode c_M_start 53 = .ok (.getfield 16, 3) := by decide +kernel
theorem d_M_start_56 : decode c_M_start 56 = .ok (.iload_n 1, 1) := by decide +kernel
theorem d_M_start_57 : decode c_M_start 57 = .ok (.iaload, 1) := by decide +kernel
theorem d_M_start_58 : decode c_M_start 58 = .ok (.aload_n 0, 1) := by decide +kernel
theorem d_M_start_59 : decode c_M_start 59 = .ok (.getfield 103, 3) := by decide +kernel
theorem d_M_start_62 : decode c_M_start 62 = .ok (.if_icmp .le 5, 3) := by decide +kernel
theorem d_M_start_65 : decode c_M_start 65 = .ok (.iconst 0, 1) := by decide +kernel
theorem d_M_start_66 : decode c_M_start 66 = .ok (.ireturn, 1) := by decide +kernel
theorem d_M_start_67 : decode c_M_start 67 = .ok (.aload_n 0, 1) := by decide +kernel
theorem d_M_start_68 : decode c_M_start 68 = .ok (.iload_n 1, 1) := by decide +kernel
theorem d_M_start_69 : decode c_M_start 69 = .ok (.invokevirtual 232, 3) := by decide +kernel
theorem d_M_start_72 : decode c_M_start 72 = .ok (.istore_n 2, 1) := by decide +kernel
theorem d_M_start_73 : decode c_M_start 73 = .ok (.iload_n 2, 1) := by decide +kernel
theorem d_M_start_74 : decode c_M_start 74 = .ok (.ifCond .ne 7, 3) := by decide +kernel
theorem d_M_start_77 : decode c_M_start 77 = .ok (.iconst 1, 1) := by decide +kernel
theorem d_M_start_78 : decode c_M_start 78 = .ok (.goto 8, 3) := by decide +kernel
theorem d_M_start_81 : decode c_M_start 81 = .ok (.aload_n 0, 1) := by decide +kernel
theorem d_M_start_82 : decode c_M_start 82 = .ok (.iload_n 2, 1) := by decide +kernel
theorem d_M_start_83 : decode c_M_start 83 = .ok (.invokevirtual 130, 3) := by decide +kernel
theorem d_M_start_86 : decode c_M_start 86 = .ok (.ireturn, 1) := by decide +kernel
def T_M_start_0 : List (Nat × bh_Op) := [(0, bo_ald 1 0),
  (1, bo_st 2 (bg_push (.inl (.int 0)))),
  (2, bo_pI 5 40 0),
  (5, bo_ild 6 1),
  (6, bo_callS 9 1 0 0 F_M_isBundle),
  (9, bo_if1 12 18 (fun x => ¬ x = 0)),
  (12, bo_ald 13 0),
  (13, bo_st 14 (bg_push (.inl (.int 1)))),
  (14, bo_callV 17 2 0 0 40 F_M_raise),
  (17, bo_iret 0),
  (18, bo_ald 19 0),
  (19, bo_gR 22 40 1 41),
  (22, bo_ild 23 1),
  (23, bo_Iald bh_ak bh_al 24),
  (24, bo_if1 27 33 (fun x => ¬ x = 0)),
  (27, bo_ald 28 0),
  (28, bo_st 29 (bg_push (.inl (.int 2)))),
  (29, bo_callV 32 2 0 0 40 F_M_raise),
  (32, bo_iret 0),
  (33, bo_ald 34 0),
  (34, bo_gR 37 40 5 45),
  (37, bo_ild 38 1),
  (38, bo_st 39 (bg_push (.inl (.int 1)))),
  (39, bo_Zast bh_ak bh_al 40),
  (40, bo_ald 41 0),
  (41, bo_gR 44 40 1 41),
  (44, bo_ild 45 1),
  (45, bo_Iald bh_ak bh_al 46),
  (46, bo_st 47 (bg_push (.inl (.int 3)))),
  (47, bo_if2 50 52 (fun x y => ¬ x = y)),
  (50, bo_st 51 (bg_push (.inl (.int 1)))),
  (51, bo_iret 0),
  (52, bo_ald 53 0),
  (53, bo_gR 56 40 3 43),
  (56, bo_ild 57 1),
  (57, bo_Iald bh_ak bh_al 58),
  (58, bo_ald 59 0),
  (59, bo_gI 62 40 39),
  (62, bo_if2 65 67 (fun x y => x ≤ y)),
  (65, bo_st 66 (bg_push (.inl (.int 0))))]
def T_M_start_1 : List (Nat × bh_Op) := [(66, bo_iret 0),
  (67, bo_ald 68 0),
  (68, bo_ild 69 1),
  (69, bo_callV 72 2 0 0 40 F_M_starting),
  (72, bo_ist 73 2),
  (73, bo_ild 74 2),
  (74, bo_if1 77 81 (fun x => ¬ x = 0)),
  (77, bo_st 78 (bg_push (.inl (.int 1)))),
  (78, bo_go 86),
  (81, bo_ald 82 0),
  (82, bo_ild 83 2),
  (83, bo_callV 86 2 0 0 40 F_M_raise),
  (86, bo_iret 0)]
def T_M_start : List (Nat × bh_Op) := T_M_start_0 ++ T_M_start_1
set_option maxRecDepth 20000 in
theorem mT_M_start_0 : ∀ q ∈ T_M_start_0, bh_mono q.2 := List.forall_mem_cons.mpr ⟨bo_ald_m _ _, List.forall_mem_cons.mpr ⟨bo_st_mono (bg_push_m _), List.forall_mem_cons.mpr ⟨bo_pI_m _ _ _, List.forall_mem_cons.mpr ⟨bo_ild_m _ _, List.forall_mem_cons.mpr ⟨bo_callS_m (mF_M_isBundle) _ _ _ _, List.forall_mem_cons.mpr ⟨bo_if1_m _ _ _, List.forall_mem_cons.mpr ⟨bo_ald_m _ _, List.forall_mem_cons.mpr ⟨bo_st_mono (bg_push_m _), List.forall_mem_cons.mpr ⟨bo_callV_m (mF_M_raise) _ _ _ _ _, List.forall_mem_cons.mpr ⟨bo_iret_m _, List.forall_mem_cons.mpr ⟨bo_ald_m _ _, List.forall_mem_cons.mpr ⟨bo_gR_m _ _ _ _, List.forall_mem_cons.mpr ⟨bo_ild_m _ _, List.forall_mem_cons.mpr ⟨bo_Iald_m _ _ _, List.forall_mem_cons.mpr ⟨bo_if1_m _ _ _, List.forall_mem_cons.mpr ⟨bo_ald_m _ _, List.forall_mem_cons.mpr ⟨bo_st_mono (bg_push_m _), List.forall_mem_cons.mpr ⟨bo_callV_m (mF_M_raise) _ _ _ _ _, List.forall_mem_cons.mpr ⟨bo_iret_m _, List.forall_mem_cons.mpr ⟨bo_ald_m _ _, List.forall_mem_cons.mpr ⟨bo_gR_m _ _ _ _, List.forall_mem_cons.mpr ⟨bo_ild_m _ _, List.forall_mem_cons.mpr ⟨bo_st_mono (bg_push_m _), List.forall_mem_cons.mpr ⟨bo_Zast_m _ _ _, List.forall_mem_cons.mpr ⟨bo_ald_m _ _, List.forall_mem_cons.mpr ⟨bo_gR_m _ _ _ _, List.forall_mem_cons.mpr ⟨bo_ild_m _ _, List.forall_mem_cons.mpr ⟨bo_Iald_m _ _ _, List.forall_mem_cons.mpr ⟨bo_st_mono (bg_push_m _), List.forall_mem_cons.mpr ⟨bo_if2_m _ _ _, List.forall_mem_cons.mpr ⟨bo_st_mono (bg_push_m _), List.forall_mem_cons.mpr ⟨bo_iret_m _, List.forall_mem_cons.mpr ⟨bo_ald_m _ _, List.forall_mem_cons.mpr ⟨bo_gR_m _ _ _ _, List.forall_mem_cons.mpr ⟨bo_ild_m _ _, List.forall_mem_cons.mpr ⟨bo_Iald_m _ _ _, List.forall_mem_cons.mpr ⟨bo_ald_m _ _, List.forall_mem_cons.mpr ⟨bo_gI_m _ _ _, List.forall_mem_cons.mpr ⟨bo_if2_m _ _ _, List.forall_mem_cons.mpr ⟨bo_st_mono (bg_push_m _), fun _ h => absurd h List.not_mem_nil⟩⟩⟩⟩⟩⟩⟩⟩⟩⟩⟩⟩⟩⟩⟩⟩⟩⟩⟩⟩⟩⟩⟩⟩⟩⟩⟩⟩⟩⟩⟩⟩⟩⟩⟩⟩⟩⟩⟩⟩
set_option maxRecDepth 20000 in
theorem mT_M_start_1 : ∀ q ∈ T_M_start_1, bh_mono q.2 := List.forall_mem_cons.mpr ⟨bo_iret_m _, List.forall_mem_cons.mpr ⟨bo_ald_m _ _, List.forall_mem_cons.mpr ⟨bo_ild_m _ _, List.forall_mem_cons.mpr ⟨bo_callV_m (mF_M_starting) _ _ _ _ _, List.forall_mem_cons.mpr ⟨bo_ist_m _ _, List.forall_mem_cons.mpr ⟨bo_ild_m _ _, List.forall_mem_cons.mpr ⟨bo_if1_m _ _ _, List.forall_mem_cons.mpr ⟨bo_st_mono (bg_push_m _), List.forall_mem_cons.mpr ⟨bo_go_m _, List.forall_mem_cons.mpr ⟨bo_ald_m _ _, List.forall_mem_cons.mpr ⟨bo_ild_m _ _, List.forall_mem_cons.mpr ⟨bo_callV_m (mF_M_raise) _ _ _ _ _, List.forall_mem_cons.mpr ⟨bo_iret_m _, fun _ h => absurd h List.not_mem_nil⟩⟩⟩⟩⟩⟩⟩⟩⟩⟩⟩⟩⟩
theorem m_M_start : ∀ pc, bh_mono (bh_tb (T_M_start) pc) := bh_tb_m (List.forall_mem_append.mpr ⟨mT_M_start_0, mT_M_start_1⟩)
def F_M_start : bh_Fn := bh_fn 3 (bh_tb T_M_start)
theorem mF_M_start : bh_monoF F_M_start := bh_fn_m m_M_start
theorem cl_M_start {s : State} {args : Array Value} (d B : Nat) (hts : ∀ w ∈ bh_ws, w.before args s = true) : bh_Cal (bh_rm (d + 1) B) s y_M_start 3 (.code y_M_start c_M_start 3 (some .int) :: bh_ws) (bh_rm d 0) 0 1 := bh_cal d B hts wd_1013 wd_9 (by decide) (by decide +kernel)
set_option maxHeartbeats 4000000 in
set_option maxRecDepth 100000 in
theorem cn_M_start {l : Launch} {G : bh_G} {base sb L : Nat} {xs : Nat → Int32} (htr : l.stackTraces = false) (d : Nat) : bh_Con l G base (bh_Bg G base sb L xs) y_M_start (.code y_M_start c_M_start 3 (some .int) :: bh_ws) (bh_rm (d + 8) 0) 0 false F_M_start := by
  refine bh_method (cc := c_M_start) (ret := (some .int)) (by decide +kernel) rfl ?_
  intro p e s m args below meth c ad0 M0 Z X0 hr hlocks hname htab hbs hB
  obtain ⟨hx, hb, hml, hown, hts⟩ := id X0
  have hw : ∀ w ∈ bh_ws, w.before args s = true := fun w h => hts w (List.mem_cons_of_mem _ h)
  have hBg := bh_BgK (G := G) (base := base) (sb := sb) (L := L) (xs := xs)
  obtain ⟨hK, hAr, hen, hinj, hu1, hu2, hstr, hX, hsb, hsc, hxw, hao, hnc⟩ := id hB
  obtain ⟨ha1, ha2, ha3, ha4, ha5, ha6, ha0⟩ := bh_arr hAr
  refine List.forall_mem_append.mpr ⟨?_, List.forall_mem_cons.mpr ⟨fun S h => bs_iret (Z := Z) hx hb hr hlocks d_M_start_66 h, List.forall_mem_cons.mpr ⟨fun S h => bs_aload_n (Z := Z) hx hb rfl d_M_start_67 h, List.forall_mem_cons.mpr ⟨fun S h => bs_iload_n (Z := Z) hx hb rfl d_M_start_68 h, List.forall_mem_cons.mpr ⟨fun S h => bs_callV (Z := Z) (C := R_M) hBg hbs hB X0 hK (cn_M_starting htr (d + 0)) (cl_M_starting _ _ hw) (hts _ (List.mem_cons_of_mem _ wd_1014)) (hts _ (List.mem_cons_of_mem _ wd_1016)) (hts _ (List.mem_cons_of_mem _ ws_44)) rfl rfl rfl rfl rfl (Nat.le_refl _) (Nat.le_refl _) d_M_start_69 (bs_out htab hlocks) h, List.forall_mem_cons.mpr ⟨fun S h => bs_istore_n (Z := Z) hx hb rfl d_M_start_72 h, List.forall_mem_cons.mpr ⟨fun S h => bs_iload_n (Z := Z) hx hb rfl d_M_start_73 h, List.forall_mem_cons.mpr ⟨fun S h => bs_if_ne (Z := Z) hx hb d_M_start_74 (by decide) h, List.forall_mem_cons.mpr ⟨fun S h => bs_iconst (Z := Z) hx hb (by decide) d_M_start_77 h, List.forall_mem_cons.mpr ⟨fun S h => bs_goto (Z := Z) hx hb d_M_start_78 (by decide) h, List.forall_mem_cons.mpr ⟨fun S h => bs_aload_n (Z := Z) hx hb rfl d_M_start_81 h, List.forall_mem_cons.mpr ⟨fun S h => bs_iload_n (Z := Z) hx hb rfl d_M_start_82 h, List.forall_mem_cons.mpr ⟨fun S h => bs_callV (Z := Z) (C := R_M) hBg hbs hB X0 hK (cn_M_raise htr (d + 6)) (cl_M_raise _ _ hw) (hts _ (List.mem_cons_of_mem _ wd_921)) (hts _ (List.mem_cons_of_mem _ wd_923)) (hts _ (List.mem_cons_of_mem _ ws_25)) rfl rfl rfl rfl rfl (Nat.le_refl _) (Nat.le_refl _) d_M_start_83 (bs_out htab hlocks) h, List.forall_mem_cons.mpr ⟨fun S h => bs_iret (Z := Z) hx hb hr hlocks d_M_start_86 h, fun _ h => absurd h List.not_mem_nil⟩⟩⟩⟩⟩⟩⟩⟩⟩⟩⟩⟩⟩⟩
  exact List.forall_mem_cons.mpr ⟨fun S h => bs_aload_n (Z := Z) hx hb rfl d_M_start_0 h, List.forall_mem_cons.mpr ⟨fun S h => bs_iconst (Z := Z) hx hb (by decide) d_M_start_1 h, List.forall_mem_cons.mpr ⟨fun S h => bs_pI (Z := Z) (C := R_M) (T := F_M) (N := 40) (t := 40) (j := 0) hx hb hK hts (fun w h => List.mem_cons_of_mem _ (iw_M w h)) hown rfl rfl (by decide) (hts _ (List.mem_cons_of_mem _ wd_784)) (fun _ h => h) rfl rfl t_M t_M_ok n_M rfl (by decide +kernel) rfl d_M_start_2 h, List.forall_mem_cons.mpr ⟨fun S h => bs_iload_n (Z := Z) hx hb rfl d_M_start_5 h, List.forall_mem_cons.mpr ⟨fun S h => bs_callS (Z := Z) hBg hbs hB X0 (cn_M_isBundle htr (d + 5)) (cl_M_isBundle _ _ hw) (hts _ (List.mem_cons_of_mem _ wd_915)) (hts _ (List.mem_cons_of_mem _ wd_916)) (Nat.le_refl _) (Nat.le_refl _) d_M_start_6 (bs_out htab hlocks) h, List.forall_mem_cons.mpr ⟨fun S h => bs_if_ne (Z := Z) hx hb d_M_start_9 (by decide) h, List.forall_mem_cons.mpr ⟨fun S h => bs_aload_n (Z := Z) hx hb rfl d_M_start_12 h, List.forall_mem_cons.mpr ⟨fun S h => bs_iconst (Z := Z) hx hb (by decide) d_M_start_13 h, List.forall_mem_cons.mpr ⟨fun S h => bs_callV (Z := Z) (C := R_M) hBg hbs hB X0 hK (cn_M_raise htr (d + 6)) (cl_M_raise _ _ hw) (hts _ (List.mem_cons_of_mem _ wd_921)) (hts _ (List.mem_cons_of_mem _ wd_923)) (hts _ (List.mem_cons_of_mem _ ws_25)) rfl rfl rfl rfl rfl (Nat.le_refl _) (Nat.le_refl _) d_M_start_14 (bs_out htab hlocks) h, List.forall_mem_cons.mpr ⟨fun S h => bs_iret (Z := Z) hx hb hr hlocks d_M_start_17 h, List.forall_mem_cons.mpr ⟨fun S h => bs_aload_n (Z := Z) hx hb rfl d_M_start_18 h, List.forall_mem_cons.mpr ⟨fun S h => bs_gR (Z := Z) (C := R_M) (T := F_M) (N := 40) (t := 40) (j := 1) hx hb hK hts (fun w h => List.mem_cons_of_mem _ (iw_M w h)) hown rfl rfl (by decide) (hts _ (List.mem_cons_of_mem _ wd_785)) (fun _ h => h) rfl rfl rfl d_M_start_19 h, List.forall_mem_cons.mpr ⟨fun S h => bs_iload_n (Z := Z) hx hb rfl d_M_start_22 h, List.forall_mem_cons.mpr ⟨fun S h => bs_Iald (Z := Z) hx hb ha1 d_M_start_23 h, List.forall_mem_cons.mpr ⟨fun S h => bs_if_ne (Z := Z) hx hb d_M_start_24 (by decide) h, List.forall_mem_cons.mpr ⟨fun S h => bs_aload_n (Z := Z) hx hb rfl d_M_start_27 h, List.forall_mem_cons.mpr ⟨fun S h => bs_iconst (Z := Z) hx hb (by decide) d_M_start_28 h, List.forall_mem_cons.mpr ⟨fun S h => bs_callV (Z := Z) (C := R_M) hBg hbs hB X0 hK (cn_M_raise htr (d + 6)) (cl_M_raise _ _ hw) (hts _ (List.mem_cons_of_mem _ wd_921)) (hts _ (List.mem_cons_of_mem _ wd_923)) (hts _ (List.mem_cons_of_mem _ ws_25)) rfl rfl rfl rfl rfl (Nat.le_refl _) (Nat.le_refl _) d_M_start_29 (bs_out htab hlocks) h, List.forall_mem_cons.mpr ⟨fun S h => bs_iret (Z := Z) hx hb hr hlocks d_M_start_32 h, List.forall_mem_cons.mpr ⟨fun S h => bs_aload_n (Z := Z) hx hb rfl d_M_start_33 h, List.forall_mem_cons.mpr ⟨fun S h => bs_gR (Z := Z) (C := R_M) (T := F_M) (N := 40) (t := 40) (j := 5) hx hb hK hts (fun w h => List.mem_cons_of_mem _ (iw_M w h)) hown rfl rfl (by decide) (hts _ (List.mem_cons_of_mem _ wd_789)) (fun _ h => h) rfl rfl rfl d_M_start_34 h, List.forall_mem_cons.mpr ⟨fun S h => bs_iload_n (Z := Z) hx hb rfl d_M_start_37 h, List.forall_mem_cons.mpr ⟨fun S h => bs_iconst (Z := Z) hx hb (by decide) d_M_start_38 h, List.forall_mem_cons.mpr ⟨fun S h => bs_Zast (Z := Z) hx hb ha2 d_M_start_39 h, List.forall_mem_cons.mpr ⟨fun S h => bs_aload_n (Z := Z) hx hb rfl d_M_start_40 h, List.forall_mem_cons.mpr ⟨fun S h => bs_gR (Z := Z) (C := R_M) (T := F_M) (N := 40) (t := 40) (j := 1) hx hb hK hts (fun w h => List.mem_cons_of_mem _ (iw_M w h)) hown rfl rfl (by decide) (hts _ (List.mem_cons_of_mem _ wd_785)) (fun _ h => h) rfl rfl rfl d_M_start_41 h, List.forall_mem_cons.mpr ⟨fun S h => bs_iload_n (Z := Z) hx hb rfl d_M_start_44 h, List.forall_mem_cons.mpr ⟨fun S h => bs_Iald (Z := Z) hx hb ha1 d_M_start_45 h, List.forall_mem_cons.mpr ⟨fun S h => bs_iconst (Z := Z) hx hb (by decide) d_M_start_46 h, List.forall_mem_cons.mpr ⟨fun S h => bs_icmp_ne (Z := Z) hx hb d_M_start_47 (by decide) h, List.forall_mem_cons.mpr ⟨fun S h => bs_iconst (Z := Z) hx hb (by decide) d_M_start_50 h, List.forall_mem_cons.mpr ⟨fun S h => bs_iret (Z := Z) hx hb hr hlocks d_M_start_51 h, List.forall_mem_cons.mpr ⟨fun S h => bs_aload_n (Z := Z) hx hb rfl d_M_start_52 h, List.forall_mem_cons.mpr ⟨fun S h => bs_gR (Z := Z) (C := R_M) (T := F_M) (N := 40) (t := 40) (j := 3) hx hb hK hts (fun w h => List.mem_cons_of_mem _ (iw_M w h)) hown rfl rfl (by decide) (hts _ (List.mem_cons_of_mem _ wd_787)) (fun _ h => h) rfl rfl rfl d_M_start_53 h, List.forall_mem_cons.mpr ⟨fun S h => bs_iload_n (Z := Z) hx hb rfl d_M_start_56 h, List.forall_mem_cons.mpr ⟨fun S h => bs_Iald (Z := Z) hx hb ha1 d_M_start_57 h, List.forall_mem_cons.mpr ⟨fun S h => bs_aload_n (Z := Z) hx hb rfl d_M_start_58 h, List.forall_mem_cons.mpr ⟨fun S h => bs_gI (Z := Z) (C := R_M) (T := F_M) (N := 40) (t := 40) (j := 39) hx hb hK hts (fun w h => List.mem_cons_of_mem _ (iw_M w h)) hown rfl rfl (by decide) (hts _ (List.mem_cons_of_mem _ wd_823)) (fun _ h => h) rfl rfl rfl d_M_start_59 h, List.forall_mem_cons.mpr ⟨fun S h => bs_icmp_le (Z := Z) hx hb d_M_start_62 (by decide) h, List.forall_mem_cons.mpr ⟨fun S h => bs_iconst (Z := Z) hx hb (by decide) d_M_start_65 h, fun _ h => absurd h List.not_mem_nil⟩⟩⟩⟩⟩⟩⟩⟩⟩⟩⟩⟩⟩⟩⟩⟩⟩⟩⟩⟩⟩⟩⟩⟩⟩⟩⟩⟩⟩⟩⟩⟩⟩⟩⟩⟩⟩⟩⟩⟩
abbrev c_M_servicesOf : ByteArray := prog_10_method_34_code
def y_M_servicesOf : MethodName := ⟨"BundleHallModel", "servicesOf", "(I)I"⟩
theorem d_M_servicesOf_0 : decode c_M_servicesOf 0 = .ok (.iconst 0, 1) := by decide +kernel
theorem d_M_servicesOf_1 : decode c_M_servicesOf 1 = .ok (.istore_n 2, 1) := by decide +kernel
theorem d_M_servicesOf_2 : decode c_M_servicesOf 2 = .ok (.iconst 0, 1) := by decide +kernel
theorem d_M_servicesOf_3 : decode c_M_servicesOf 3 = .ok (.istore_n 3, 1) := by decide +kernel
theorem d_M_servicesOf_4 : decode c_M_servicesOf 4 = .ok (.iload_n 3, 1) := by decide +kernel
theorem d_M_servicesOf_5 : decode c_M_servicesOf 5 = .ok (.aload_n 0, 1) := by decide +kernel
theorem d_M_servicesOf_6 : decode c_M_servicesOf 6 = .ok (.getfield 207, 3) := by decide +kernel
theorem d_M_servicesOf_9 : decode c_M_servicesOf 9 = .ok (.if_icmp .ge 22, 3) := by decide +kernel
theorem d_M_servicesOf_12 : decode c_M_servicesOf 12 = .ok (.aload_n 0, 1) := by decide +kernel
theorem d_M_servicesOf_13 : decode c_M_servicesOf 13 = .ok (.getfield 87, 3) := by decide +kernel
theorem d_M_servicesOf_16 : decode c_M_servicesOf 16 = .ok (.iload_n 3, 1) := by decide +kernel
theorem d_M_servicesOf_17 : decode c_M_servicesOf 17 = .ok (.iaload, 1) := by decide +kernel
theorem d_M_servicesOf_18 : decode c_M_servicesOf 18 = .ok (.iload_n 1, 1) := by decide +kernel
theorem d_M_servicesOf_19 : decode c_M_servicesOf 19 = .ok (.if_icmp .ne 6, 3) := by decide +kernel
theorem d_M_servicesOf_22 : decode c_M_servicesOf 22 = .ok (.iinc 2 1, 3) := by decide +kernel
theorem d_M_servicesOf_25 : decode c_M_servicesOf 25 = .ok (.iinc 3 1, 3) := by decide +kernel
theorem d_M_servicesOf_28 : decode c_M_servicesOf 28 = .ok (.goto (-24), 3) := by decide +kernel
theorem d_M_servicesOf_31 : decode c_M_servicesOf 31 = .ok (.iload_n 2, 1) := by decide +kernel
theorem d_M_servicesOf_32 : decode c_M_servicesOf 32 = .ok (.ireturn, 1) := by decide +kernel
def T_M_servicesOf_0 : List (Nat × bh_Op) := [(0, bo_st 1 (bg_push (.inl (.int 0)))),
  (1, bo_ist 2 2),
  (2, bo_st 3 (bg_push (.inl (.int 0)))),
  (3, bo_ist 4 3),
  (4, bo_ild 5 3),
  (5, bo_ald 6 0),
  (6, bo_gI 9 40 34),
  (9, bo_if2 12 31 (fun x y => y ≤ x)),
  (12, bo_ald 13 0),
  (13, bo_gR 16 40 30 66),
  (16, bo_ild 17 3),
  (17, bo_Iald bh_ak bh_al 18),
  (18, bo_ild 19 1),
  (19, bo_if2 22 25 (fun x y => ¬ x = y)),
  (22, bo_inc 25 2 1),
  (25, bo_inc 28 3 1),
  (28, bo_go 4),
  (31, bo_ild 32 2),
  (32, bo_iret 0)]
def T_M_servicesOf : List (Nat × bh_Op) := T_M_servicesOf_0
set_option maxRecDepth 20000 in
theorem mT_M_servicesOf_0 : ∀ q ∈ T_M_servicesOf_0, bh_mono q.2 := List.forall_mem_cons.mpr ⟨bo_st_mono (bg_push_m _), List.forall_mem_cons.mpr ⟨bo_ist_m _ _, List.forall_mem_cons.mpr ⟨bo_st_mono (bg_push_m _), List.forall_mem_cons.mpr ⟨bo_ist_m _ _, List.forall_mem_cons.mpr ⟨bo_ild_m _ _, List.forall_mem_cons.mpr ⟨bo_ald_m _ _, List.forall_mem_cons.mpr ⟨bo_gI_m _ _ _, List.forall_mem_cons.mpr ⟨bo_if2_m _ _ _, List.forall_mem_cons.mpr ⟨bo_ald_m _ _, List.forall_mem_cons.mpr ⟨bo_gR_m _ _ _ _, List.forall_mem_cons.mpr ⟨bo_ild_m _ _, List.forall_mem_cons.mpr ⟨bo_Iald_m _ _ _, List.forall_mem_cons.mpr ⟨bo_ild_m _ _, List.forall_mem_cons.mpr ⟨bo_if2_m _ _ _, List.forall_mem_cons.mpr ⟨bo_inc_m _ _ _, List.forall_mem_cons.mpr ⟨bo_inc_m _ _ _, List.forall_mem_cons.mpr ⟨bo_go_m _, List.forall_mem_cons.mpr ⟨bo_ild_m _ _, List.forall_mem_cons.mpr ⟨bo_iret_m _, fun _ h => absurd h List.not_mem_nil⟩⟩⟩⟩⟩⟩⟩⟩⟩⟩⟩⟩⟩⟩⟩⟩⟩⟩⟩
theorem m_M_servicesOf : ∀ pc, bh_mono (bh_tb (T_M_servicesOf) pc) := bh_tb_m mT_M_servicesOf_0
def F_M_servicesOf : bh_Fn := bh_fn 4 (bh_tb T_M_servicesOf)
theorem mF_M_servicesOf : bh_monoF F_M_servicesOf := bh_fn_m m_M_servicesOf
theorem cl_M_servicesOf {s : State} {args : Array Value} (d B : Nat) (hts : ∀ w ∈ bh_ws, w.before args s = true) : bh_Cal (bh_rm (d + 1) B) s y_M_servicesOf 4 (.code y_M_servicesOf c_M_servicesOf 4 (some .int) :: bh_ws) (bh_rm d 0) 0 1 := bh_cal d B hts wd_1045 wd_9 (by decide) (by decide +kernel)
set_option maxHeartbeats 4000000 in
set_option maxRecDepth 100000 in
theorem cn_M_servicesOf {l : Launch} {G : bh_G} {base sb L : Nat} {xs : Nat → Int32} (htr : l.stackTraces = false) (d : Nat) : bh_Con l G base (bh_Bg G base sb L xs) y_M_servicesOf (.code y_M_servicesOf c_M_servicesOf 4 (some .int) :: bh_ws) (bh_rm (d + 1) 0) 0 false F_M_servicesOf := by
  refine bh_method (cc := c_M_servicesOf) (ret := (some .int)) (by decide +kernel) rfl ?_
  intro p e s m args below meth c ad0 M0 Z X0 hr hlocks hname htab hbs hB
  obtain ⟨hx, hb, hml, hown, hts⟩ := id X0
  have hw : ∀ w ∈ bh_ws, w.before args s = true := fun w h => hts w (List.mem_cons_of_mem _ h)
  have hBg := bh_BgK (G := G) (base := base) (sb := sb) (L := L) (xs := xs)
  obtain ⟨hK, hAr, hen, hinj, hu1, hu2, hstr, hX, hsb, hsc, hxw, hao, hnc⟩ := id hB
  obtain ⟨ha1, ha2, ha3, ha4, ha5, ha6, ha0⟩ := bh_arr hAr
  exact List.forall_mem_cons.mpr ⟨fun S h => bs_iconst (Z := Z) hx hb (by decide) d_M_servicesOf_0 h, List.forall_mem_cons.mpr ⟨fun S h => bs_istore_n (Z := Z) hx hb rfl d_M_servicesOf_1 h, List.forall_mem_cons.mpr ⟨fun S h => bs_iconst (Z := Z) hx hb (by decide) d_M_servicesOf_2 h, List.forall_mem_cons.mpr ⟨fun S h => bs_istore_n (Z := Z) hx hb rfl d_M_servicesOf_3 h, List.forall_mem_cons.mpr ⟨fun S h => bs_iload_n (Z := Z) hx hb rfl d_M_servicesOf_4 h, List.forall_mem_cons.mpr ⟨fun S h => bs_aload_n (Z := Z) hx hb rfl d_M_servicesOf_5 h, List.forall_mem_cons.mpr ⟨fun S h => bs_gI (Z := Z) (C := R_M) (T := F_M) (N := 40) (t := 40) (j := 34) hx hb hK hts (fun w h => List.mem_cons_of_mem _ (iw_M w h)) hown rfl rfl (by decide) (hts _ (List.mem_cons_of_mem _ wd_818)) (fun _ h => h) rfl rfl rfl d_M_servicesOf_6 h, List.forall_mem_cons.mpr ⟨fun S h => bs_icmp_ge (Z := Z) hx hb d_M_servicesOf_9 (by decide) h, List.forall_mem_cons.mpr ⟨fun S h => bs_aload_n (Z := Z) hx hb rfl d_M_servicesOf_12 h, List.forall_mem_cons.mpr ⟨fun S h => bs_gR (Z := Z) (C := R_M) (T := F_M) (N := 40) (t := 40) (j := 30) hx hb hK hts (fun w h => List.mem_cons_of_mem _ (iw_M w h)) hown rfl rfl (by decide) (hts _ (List.mem_cons_of_mem _ wd_814)) (fun _ h => h) rfl rfl rfl d_M_servicesOf_13 h, List.forall_mem_cons.mpr ⟨fun S h => bs_iload_n (Z := Z) hx hb rfl d_M_servicesOf_16 h, List.forall_mem_cons.mpr ⟨fun S h => bs_Iald (Z := Z) hx hb ha1 d_M_servicesOf_17 h, List.forall_mem_cons.mpr ⟨fun S h => bs_iload_n (Z := Z) hx hb rfl d_M_servicesOf_18 h, List.forall_mem_cons.mpr ⟨fun S h => bs_icmp_ne (Z := Z) hx hb d_M_servicesOf_19 (by decide) h, List.forall_mem_cons.mpr ⟨fun S h => bs_iinc (Z := Z) hx hb (by decide) d_M_servicesOf_22 h, List.forall_mem_cons.mpr ⟨fun S h => bs_iinc (Z := Z) hx hb (by decide) d_M_servicesOf_25 h, List.forall_mem_cons.mpr ⟨fun S h => bs_goto (Z := Z) hx hb d_M_servicesOf_28 (by decide) h, List.forall_mem_cons.mpr ⟨fun S h => bs_iload_n (Z := Z) hx hb rfl d_M_servicesOf_31 h, List.forall_mem_cons.mpr ⟨fun S h => bs_iret (Z := Z) hx hb hr hlocks d_M_servicesOf_32 h, fun _ h => absurd h List.not_mem_nil⟩⟩⟩⟩⟩⟩⟩⟩⟩⟩⟩⟩⟩⟩⟩⟩⟩⟩⟩
abbrev c_M_drop : ByteArray := prog_10_method_31_code
def y_M_drop : MethodName := ⟨"BundleHallModel", "drop", "(I)V"⟩
theorem d_M_drop_0 : decode c_M_drop 0 = .ok (.aload_n 0, 1) := by decide +kernel
theorem d_M_drop_1 : decode c_M_drop 1 = .ok (.sipush 400, 3) := by decide +kernel
theorem d_M_drop_4 : decode c_M_drop 4 = .ok (.aload_n 0, 1) := by decide +kernel
theorem d_M_drop_5 : decode c_M_drop 5 = .ok (.getfield 84, 3) := by decide +kernel
theorem d_M_drop_8 : decode c_M_drop 8 = .ok (.iload_n 1, 1) := by decide +kernel
theorem d_M_drop_9 : decode c_M_drop 9 = .ok (.iaload, 1) := by decide +kernel
theorem d_M_drop_10 : decode c_M_drop 10 = .ok (.bipush 100, 2) := by decide +kernel
theorem d_M_drop_12 : decode c_M_drop 12 = .ok (.irem, 1) := by decide +kernel
theorem d_M_drop_13 : decode c_M_drop 13 = .ok (.iadd, 1) := by decide +kernel
theorem d_M_drop_14 : decode c_M_drop 14 = .ok (.invokevirtual 213, 3) := by decide +kernel
theorem d_M_drop_17 : decode c_M_drop 17 = .ok (.aload_n 0, 1) := by decide +kernel
theorem d_M_drop_18 : decode c_M_drop 18 = .ok (.dup, 1) := by decide +kernel
theorem d_M_drop_19 : decode c_M_drop 19 = .ok (.getfield 207, 3) := by decide +kernel
theorem d_M_drop_22 : decode c_M_drop 22 = .ok (.iconst 1, 1) := by decide +kernel
theorem d_M_drop_23 : decode c_M_drop 23 = .ok (.isub, 1) := by decide +kernel
theorem d_M_drop_24 : decode c_M_drop 24 = .ok (.putfield 207, 3) := by decide +kernel
theorem d_M_drop_27 : decode c_M_drop 27 = .ok (.iload_n 1, 1) := by decide +kernel
theorem d_M_drop_28 : decode c_M_drop 28 = .ok (.istore_n 2, 1) := by decide +kernel
theorem d_M_drop_29 : decode c_M_drop 29 = .ok (.iload_n 2, 1) := by decide +kernel
theorem d_M_drop_30 : decode c_M_drop 30 = .ok (.aload_n 0, 1) := by decide +kernel
theorem d_M_drop_31 : decode c_M_drop 31 = .ok (.getfield 207, 3) := by decide +kernel
theorem d_M_drop_34 : decode c_M_drop 34 = .ok (.if_icmp .ge 104, 3) := by decide +kernel
theorem d_M_drop_37 : decode c_M_drop 37 = .ok (.aload_n 0, 1) := by decide +kernel
theorem d_M_drop_38 : decode c_M_drop 38 = .ok (.getfield 84, 3) := by decide +kernel
theorem d_M_drop_41 : decode c_M_drop 41 = .ok (.iload_n 2, 1) := by decide +kernel
theorem d_M_drop_42 : decode c_M_drop 42 = .ok (.aload_n 0, 1) := by decide +kernel
theorem d_M_drop_43 : decode c_M_drop 43 = .ok (.getfield 84, 3) := by decide +kernel
theorem d_M_drop_46 : decode c_M_drop 46 = .ok (.iload_n 2, 1) := by decide +kernel
theorem d_M_drop_47 : decode c_M_drop 47 = .ok (.iconst 1, 1) := by decide +kernel
theorem d_M_drop_48 : decode c_M_drop 48 = .ok (.iadd, 1) := by decide +kernel
theorem d_M_drop_49 : decode c_M_drop 49 = .ok (.iaload, 1) := by decide +kernel
theorem d_M_drop_50 : decode c_M_drop 50 = .ok (.iastore, 1) := by decide +kernel
theorem d_M_drop_51 : decode c_M_drop 51 = .ok (.aload_n 0, 1) := by decide +kernel
theorem d_M_drop_52 : decode c_M_drop 52 = .ok (.getfield 87, 3) := by decide +kernel
theorem d_M_drop_55 : decode c_M_drop 55 = .ok (.iload_n 2, 1) := by decide +kernel
theorem d_M_drop_56 : decode c_M_drop 56 = .ok (.aload_n 0, 1) := by decide +kernel
theorem d_M_drop_57 : decode c_M_drop 57 = .ok (.getfield 87, 3) := by decide +kernel
theorem d_M_drop_60 : decode c_M_drop 60 = .ok (.iload_n 2, 1) := by decide +kernel
theorem d_M_drop_61 : decode c_M_drop 61 = .ok (.iconst 1, 1) := by decide +kernel
theorem d_M_drop_62 : decode c_M_drop 62 = .ok (.iadd, 1) := by decide +kernel
theorem d_M_drop_63 : decode c_M_drop 63 = .ok (.iaload, 1) := by decide +kernel
theorem d_M_drop_64 : decode c_M_drop 64 = .ok (.iastore, 1) := by decide +kernel
theorem d_M_drop_65 : decode c_M_drop 65 = .ok (.aload_n 0, 1) := by decide +kernel
theorem d_M_drop_66 : decode c_M_drop 66 = .ok (.getfield 90, 3) := by decide +kernel
theorem d_M_drop_69 : decode c_M_drop 69 = .ok (.iload_n 2, 1) := by decide +kernel
theorem d_M_drop_70 : decode c_M_drop 70 = .ok (.aload_n 0, 1) := by decide +kernel
theorem d_M_drop_71 : decode c_M_drop 71 = .ok (.getfield 90, 3) := by decide +kernel
theorem d_M_drop_74 : decode c_M_drop 74 = .ok (.iload_n 2, 1) := by decide +kernel
theorem d_M_drop_75 : decode c_M_drop 75 = .ok (.iconst 1, 1) := by decide +kernel
theorem d_M_drop_76 : decode c_M_drop 76 = .ok (.iadd, 1) := by decide +kernel
theorem d_M_drop_77 : decode c_M_drop 77 = .ok (.iaload, 1) := by decide +kernel
theorem d_M_drop_78 : decode c_M_drop 78 = .ok (.iastore, 1) := by decide +kernel
theorem d_M_drop_79 : decode c_M_drop 79 = .ok (.aload_n 0, 1) := by decide +kernel
theorem d_M_drop_80 : decode c_M_drop 80 = .ok (.getfield 93, 3) := by decide +kernel
theorem d_M_drop_83 : decode c_M_drop 83 = .ok (.iload_n 2, 1) := by decide +kernel
theorem d_M_drop_84 : decode c_M_drop 84 = .ok (.aload_n 0, 1) := by decide +kernel
theorem d_M_drop_85 : decode c_M_drop 85 = .ok (.getfield 93, 3) := by decide +kernel
theorem d_M_drop_88 : decode c_M_drop 88 = .ok (.iload_n 2, 1) := by decide +kernel
theorem d_M_drop_89 : decode c_M_drop 89 = .ok (.iconst 1, 1) := by decide +kernel
theorem d_M_drop_90 : decode c_M_drop 90 = .ok (.iadd, 1) := by decide +kernel
theorem d_M_drop_91 : decode c_M_drop 91 = .ok (.daload, 1) := by decide +kernel
theorem d_M_drop_92 : decode c_M_drop 92 = .ok (.dastore, 1) := by decide +kernel
theorem d_M_drop_93 : decode c_M_drop 93 = .ok (.iconst 0, 1) := by decide +kernel
theorem d_M_drop_94 : decode c_M_drop 94 = .ok (.istore_n 3, 1) := by decide +kernel
theorem d_M_drop_95 : decode c_M_drop 95 = .ok (.iload_n 3, 1) := by decide +kernel
theorem d_M_drop_96 : decode c_M_drop 96 = .ok (.bipush 8, 2) := by decide +kernel
theorem d_M_drop_98 : decode c_M_drop 98 = .ok (.if_icmp .ge 34, 3) := by decide +kernel
theorem d_M_drop_101 : decode c_M_drop 101 = .ok (.aload_n 0, 1) := by decide +kernel
theorem d_M_drop_102 : decode c_M_drop 102 = .ok (.getfield 97, 3) := by decide +kernel
theorem d_M_drop_105 : decode c_M_drop 105 = .ok (.bipush 8, 2) := by decide +kernel
theorem d_M_drop_107 : decode c_M_drop 107 = .ok (.iload_n 2, 1) := by decide +kernel
theorem d_M_drop_108 : decode c_M_drop 108 = .ok (.imul, 1) := by decide +kernel
theorem d_M_drop_109 : decode c_M_drop 109 = .ok (.iload_n 3, 1) := by decide +kernel
theorem d_M_drop_110 : decode c_M_drop 110 = .ok (.iadd, 1) := by decide +kernel
theorem d_M_drop_111 : decode c_M_drop 111 = .ok (.aload_n 0, 1) := by decide +kernel
theorem d_M_drop_112 : decode c_M_drop 112 = .ok (.getfield 97, 3) := by decide +kernel
theorem d_M_drop_115 : decode c_M_drop 115 = .ok (.bipush 8, 2) := by decide +kernel
theorem d_M_drop_117 : decode c_M_drop 117 = .ok (.iload_n 2, 1) := by decide +kernel
theorem d_M_drop_118 : decode c_M_drop 118 = .ok (.imul, 1) := by decide +kernel
theorem d_M_drop_119 : decode c_M_drop 119 = .ok (.bipush 8, 2) := by decide +kernel
theorem d_M_drop_121 : decode c_M_drop 121 = .ok (.iadd, 1) := by decide +kernel
theorem d_M_drop_122 : decode c_M_drop 122 = .ok (.iload_n 3, 1) := by decide +kernel
theorem d_M_drop_123 : decode c_M_drop 123 = .ok (.iadd, 1) := by decide +kernel
theorem d_M_drop_124 : decode c_M_drop 124 = .ok (.iaload, 1) := by decide +kernel
theorem d_M_drop_125 : decode c_M_drop 125 = .ok (.iastore, 1) := by decide +kernel
theorem d_M_drop_126 : decode c_M_drop 126 = .ok (.iinc 3 1, 3) := by decide +kernel
theorem d_M_drop_129 : decode c_M_drop 129 = .ok (.goto (-34), 3) := by decide +kernel
theorem d_M_drop_132 : decode c_M_drop 132 = .ok (.iinc 2 1, 3) := by decide +kernel
theorem d_M_drop_135 : decode c_M_drop 135 = .ok (.goto (-106), 3) := by decide +kernel
theorem d_M_drop_138 : decode c_M_drop 138 = .ok (.return_, 1) := by decide +kernel
def T_M_drop_0 : List (Nat × bh_Op) := [(0, bo_ald 1 0),
  (1, bo_st 4 (bg_push (.inl (.int 400)))),
  (4, bo_ald 5 0),
  (5, bo_gR 8 40 29 65),
  (8, bo_ild 9 1),
  (9, bo_Iald bh_ak bh_al 10),
  (10, bo_st 12 (bg_push (.inl (.int 100)))),
  (12, bo_st 13 (bg_dv (fun x y => x - x / y * y))),
  (13, bo_st 14 (bg_ii (fun x y => x + y))),
  (14, bo_callV 17 2 0 0 40 F_M_note),
  (17, bo_ald 18 0),
  (18, bo_st 19 bg_dup),
  (19, bo_gI 22 40 34),
  (22, bo_st 23 (bg_push (.inl (.int 1)))),
  (23, bo_st 24 (bg_ii (fun x y => x - y))),
  (24, bo_pI 27 40 34),
  (27, bo_ild 28 1),
  (28, bo_ist 29 2),
  (29, bo_ild 30 2),
  (30, bo_ald 31 0),
  (31, bo_gI 34 40 34),
  (34, bo_if2 37 138 (fun x y => y ≤ x)),
  (37, bo_ald 38 0),
  (38, bo_gR 41 40 29 65),
  (41, bo_ild 42 2),
  (42, bo_ald 43 0),
  (43, bo_gR 46 40 29 65),
  (46, bo_ild 47 2),
  (47, bo_st 48 (bg_push (.inl (.int 1)))),
  (48, bo_st 49 (bg_ii (fun x y => x + y))),
  (49, bo_Iald bh_ak bh_al 50),
  (50, bo_Iast bh_ak bh_al 51),
  (51, bo_ald 52 0),
  (52, bo_gR 55 40 30 66),
  (55, bo_ild 56 2),
  (56, bo_ald 57 0),
  (57, bo_gR 60 40 30 66),
  (60, bo_ild 61 2),
  (61, bo_st 62 (bg_push (.inl (.int 1)))),
  (62, bo_st 63 (bg_ii (fun x y => x + y)))]
def T_M_drop_1 : List (Nat × bh_Op) := [(63, bo_Iald bh_ak bh_al 64),
  (64, bo_Iast bh_ak bh_al 65),
  (65, bo_ald 66 0),
  (66, bo_gR 69 40 31 67),
  (69, bo_ild 70 2),
  (70, bo_ald 71 0),
  (71, bo_gR 74 40 31 67),
  (74, bo_ild 75 2),
  (75, bo_st 76 (bg_push (.inl (.int 1)))),
  (76, bo_st 77 (bg_ii (fun x y => x + y))),
  (77, bo_Iald bh_ak bh_al 78),
  (78, bo_Iast bh_ak bh_al 79),
  (79, bo_ald 80 0),
  (80, bo_gR 83 40 32 68),
  (83, bo_ild 84 2),
  (84, bo_ald 85 0),
  (85, bo_gR 88 40 32 68),
  (88, bo_ild 89 2),
  (89, bo_st 90 (bg_push (.inl (.int 1)))),
  (90, bo_st 91 (bg_ii (fun x y => x + y))),
  (91, bo_Dald bh_ak bh_al 92),
  (92, bo_Dast bh_ak bh_al 93),
  (93, bo_st 94 (bg_push (.inl (.int 0)))),
  (94, bo_ist 95 3),
  (95, bo_ild 96 3),
  (96, bo_st 98 (bg_push (.inl (.int 8)))),
  (98, bo_if2 101 132 (fun x y => y ≤ x)),
  (101, bo_ald 102 0),
  (102, bo_gR 105 40 33 69),
  (105, bo_st 107 (bg_push (.inl (.int 8)))),
  (107, bo_ild 108 2),
  (108, bo_st 109 (bg_ii (fun x y => x * y))),
  (109, bo_ild 110 3),
  (110, bo_st 111 (bg_ii (fun x y => x + y))),
  (111, bo_ald 112 0),
  (112, bo_gR 115 40 33 69),
  (115, bo_st 117 (bg_push (.inl (.int 8)))),
  (117, bo_ild 118 2),
  (118, bo_st 119 (bg_ii (fun x y => x * y))),
  (119, bo_st 121 (bg_push (.inl (.int 8))))]
def T_M_drop_2 : List (Nat × bh_Op) := [(121, bo_st 122 (bg_ii (fun x y => x + y))),
  (122, bo_ild 123 3),
  (123, bo_st 124 (bg_ii (fun x y => x + y))),
  (124, bo_Iald bh_ak bh_al 125),
  (125, bo_Iast bh_ak bh_al 126),
  (126, bo_inc 129 3 1),
  (129, bo_go 95),
  (132, bo_inc 135 2 1),
  (135, bo_go 29),
  (138, bo_vret 0)]
def T_M_drop : List (Nat × bh_Op) := T_M_drop_0 ++ T_M_drop_1 ++ T_M_drop_2
set_option maxRecDepth 20000 in
theorem mT_M_drop_0 : ∀ q ∈ T_M_drop_0, bh_mono q.2 := List.forall_mem_cons.mpr ⟨bo_ald_m _ _, List.forall_mem_cons.mpr ⟨bo_st_mono (bg_push_m _), List.forall_mem_cons.mpr ⟨bo_ald_m _ _, List.forall_mem_cons.mpr ⟨bo_gR_m _ _ _ _, List.forall_mem_cons.mpr ⟨bo_ild_m _ _, List.forall_mem_cons.mpr ⟨bo_Iald_m _ _ _, List.forall_mem_cons.mpr ⟨bo_st_mono (bg_push_m _), List.forall_mem_cons.mpr ⟨bo_st_mono (bg_dv_m _), List.forall_mem_cons.mpr ⟨bo_st_mono (bg_ii_m _), List.forall_mem_cons.mpr ⟨bo_callV_m (mF_M_note) _ _ _ _ _, List.forall_mem_cons.mpr ⟨bo_ald_m _ _, List.forall_mem_cons.mpr ⟨bo_st_mono bg_dup_m, List.forall_mem_cons.mpr ⟨bo_gI_m _ _ _, List.forall_mem_cons.mpr ⟨bo_st_mono (bg_push_m _), List.forall_mem_cons.mpr ⟨bo_st_mono (bg_ii_m _), List.forall_mem_cons.mpr ⟨bo_pI_m _ _ _, List.forall_mem_cons.mpr ⟨bo_ild_m _ _, List.forall_mem_cons.mpr ⟨bo_ist_m _ _, List.forall_mem_cons.mpr ⟨bo_ild_m _ _, List.forall_mem_cons.mpr ⟨bo_ald_m _ _, List.forall_mem_cons.mpr ⟨bo_gI_m _ _ _, List.forall_mem_cons.mpr ⟨bo_if2_m _ _ _, List.forall_mem_cons.mpr ⟨bo_ald_m _ _, List.forall_mem_cons.mpr ⟨bo_gR_m _ _ _ _, List.forall_mem_cons.mpr ⟨bo_ild_m _ _, List.forall_mem_cons.mpr ⟨bo_ald_m _ _, List.forall_mem_cons.mpr ⟨bo_gR_m _ _ _ _, List.forall_mem_cons.mpr ⟨bo_ild_m _ _, List.forall_mem_cons.mpr ⟨bo_st_mono (bg_push_m _), List.forall_mem_cons.mpr ⟨bo_st_mono (bg_ii_m _), List.forall_mem_cons.mpr ⟨bo_Iald_m _ _ _, List.forall_mem_cons.mpr ⟨bo_Iast_m _ _ _, List.forall_mem_cons.mpr ⟨bo_ald_m _ _, List.forall_mem_cons.mpr ⟨bo_gR_m _ _ _ _, List.forall_mem_cons.mpr ⟨bo_ild_m _ _, List.forall_mem_cons.mpr ⟨bo_ald_m _ _, List.forall_mem_cons.mpr ⟨bo_gR_m _ _ _ _, List.forall_mem_cons.mpr ⟨bo_ild_m _ _, List.forall_mem_cons.mpr ⟨bo_st_mono (bg_push_m _), List.forall_mem_cons.mpr ⟨bo_st_mono (bg_ii_m _), fun _ h => absurd h List.not_mem_nil⟩⟩⟩⟩⟩⟩⟩⟩⟩⟩⟩⟩⟩⟩⟩⟩⟩⟩⟩⟩⟩⟩⟩⟩⟩⟩⟩⟩⟩⟩⟩⟩⟩⟩⟩⟩⟩⟩⟩⟩
set_option maxRecDepth 20000 in
theorem mT_M_drop_1 : ∀ q ∈ T_M_drop_1, bh_mono q.2 := List.forall_mem_cons.mpr ⟨bo_Iald_m _ _ _, List.forall_mem_cons.mpr ⟨bo_Iast_m _ _ _, List.forall_mem_cons.mpr ⟨bo_ald_m _ _, List.forall_mem_cons.mpr ⟨bo_gR_m _ _ _ _, List.forall_mem_cons.mpr ⟨bo_ild_m _ _, List.forall_mem_cons.mpr ⟨bo_ald_m _ _, List.forall_mem_cons.mpr ⟨bo_gR_m _ _ _ _, List.forall_mem_cons.mpr ⟨bo_ild_m _ _, List.forall_mem_cons.mpr ⟨bo_st_mono (bg_push_m _), List.forall_mem_cons.mpr ⟨bo_st_mono (bg_ii_m _), List.forall_mem_cons.mpr ⟨bo_Iald_m _ _ _, List.forall_mem_cons.mpr ⟨bo_Iast_m _ _ _, List.forall_mem_cons.mpr ⟨bo_ald_m _ _, List.forall_mem_cons.mpr ⟨bo_gR_m _ _ _ _, List.forall_mem_cons.mpr ⟨bo_ild_m _ _, List.forall_mem_cons.mpr ⟨bo_ald_m _ _, List.forall_mem_cons.mpr ⟨bo_gR_m _ _ _ _, List.forall_mem_cons.mpr ⟨bo_ild_m _ _, List.forall_mem_cons.mpr ⟨bo_st_mono (bg_push_m _), List.forall_mem_cons.mpr ⟨bo_st_mono (bg_ii_m _), List.forall_mem_cons.mpr ⟨bo_Dald_m _ _ _, List.forall_mem_cons.mpr ⟨bo_Dast_m _ _ _, List.forall_mem_cons.mpr ⟨bo_st_mono (bg_push_m _), List.forall_mem_cons.mpr ⟨bo_ist_m _ _, List.forall_mem_cons.mpr ⟨bo_ild_m _ _, List.forall_mem_cons.mpr ⟨bo_st_mono (bg_push_m _), List.forall_mem_cons.mpr ⟨bo_if2_m _ _ _, List.forall_mem_cons.mpr ⟨bo_ald_m _ _, List.forall_mem_cons.mpr ⟨bo_gR_m _ _ _ _, List.forall_mem_cons.mpr ⟨bo_st_mono (bg_push_m _), List.forall_mem_cons.mpr ⟨bo_ild_m _ _, List.forall_mem_cons.mpr ⟨bo_st_mono (bg_ii_m _), List.forall_mem_cons.mpr ⟨bo_ild_m _ _, List.forall_mem_cons.mpr ⟨bo_st_mono (bg_ii_m _), List.forall_mem_cons.mpr ⟨bo_ald_m _ _, List.forall_mem_cons.mpr ⟨bo_gR_m _ _ _ _, List.forall_mem_cons.mpr ⟨bo_st_mono (bg_push_m _), List.forall_mem_cons.mpr ⟨bo_ild_m _ _, List.forall_mem_cons.mpr ⟨bo_st_mono (bg_ii_m _), List.forall_mem_cons.mpr ⟨bo_st_mono (bg_push_m _), fun _ h => absurd h List.not_mem_nil⟩⟩⟩⟩⟩⟩⟩⟩⟩⟩⟩⟩⟩⟩⟩⟩⟩⟩⟩⟩⟩⟩⟩⟩⟩⟩⟩⟩⟩⟩⟩⟩⟩⟩⟩⟩⟩⟩⟩⟩
set_option maxRecDepth 20000 in
theorem mT_M_drop_2 : ∀ q ∈ T_M_drop_2, bh_mono q.2 := List.forall_mem_cons.mpr ⟨bo_st_mono (bg_ii_m _), List.forall_mem_cons.mpr ⟨bo_ild_m _ _, List.forall_mem_cons.mpr ⟨bo_st_mono (bg_ii_m _), List.forall_mem_cons.mpr ⟨bo_Iald_m _ _ _, List.forall_mem_cons.mpr ⟨bo_Iast_m _ _ _, List.forall_mem_cons.mpr ⟨bo_inc_m _ _ _, List.forall_mem_cons.mpr ⟨bo_go_m _, List.forall_mem_cons.mpr ⟨bo_inc_m _ _ _, List.forall_mem_cons.mpr ⟨bo_go_m _, List.forall_mem_cons.mpr ⟨bo_vret_m _, fun _ h => absurd h List.not_mem_nil⟩⟩⟩⟩⟩⟩⟩⟩⟩⟩
theorem m_M_drop : ∀ pc, bh_mono (bh_tb (T_M_drop) pc) := bh_tb_m (List.forall_mem_append.mpr ⟨(List.forall_mem_append.mpr ⟨mT_M_drop_0, mT_M_drop_1⟩), mT_M_drop_2⟩)
def F_M_drop : bh_Fn := bh_fn 4 (bh_tb T_M_drop)
theorem mF_M_drop : bh_monoF F_M_drop := bh_fn_m m_M_drop
theorem cl_M_drop {s : State} {args : Array Value} (d B : Nat) (hts : ∀ w ∈ bh_ws, w.before args s = true) : bh_Cal (bh_rm (d + 1) B) s y_M_drop 4 (.code y_M_drop c_M_drop 4 none :: bh_ws) (bh_rm d 0) 0 1 := bh_cal d B hts wd_1049 wd_9 (by decide) (by decide +kernel)
set_option maxHeartbeats 4000000 in
set_option maxRecDepth 100000 in
theorem cn_M_drop {l : Launch} {G : bh_G} {base sb L : Nat} {xs : Nat → Int32} (htr : l.stackTraces = false) (d : Nat) : bh_Con l G base (bh_Bg G base sb L xs) y_M_drop (.code y_M_drop c_M_drop 4 none :: bh_ws) (bh_rm (d + 2) 0) 0 false F_M_drop := by
  refine bh_method (cc := c_M_drop) (ret := none) (by decide +kernel) rfl ?_
  intro p e s m args below meth c ad0 M0 Z X0 hr hlocks hname htab hbs hB
  obtain ⟨hx, hb, hml, hown, hts⟩ := id X0
  have hw : ∀ w ∈ bh_ws, w.before args s = true := fun w h => hts w (List.mem_cons_of_mem _ h)
  have hBg := bh_BgK (G := G) (base := base) (sb := sb) (L := L) (xs := xs)
  obtain ⟨hK, hAr, hen, hinj, hu1, hu2, hstr, hX, hsb, hsc, hxw, hao, hnc⟩ := id hB
  obtain ⟨ha1, ha2, ha3, ha4, ha5, ha6, ha0⟩ := bh_arr hAr
  refine List.forall_mem_append.mpr ⟨?_, List.forall_mem_cons.mpr ⟨fun S h => bs_iadd (Z := Z) hx hb d_M_drop_121 h, List.forall_mem_cons.mpr ⟨fun S h => bs_iload_n (Z := Z) hx hb rfl d_M_drop_122 h, List.forall_mem_cons.mpr ⟨fun S h => bs_iadd (Z := Z) hx hb d_M_drop_123 h, List.forall_mem_cons.mpr ⟨fun S h => bs_Iald (Z := Z) hx hb ha1 d_M_drop_124 h, List.forall_mem_cons.mpr ⟨fun S h => bs_Iast (Z := Z) hx hb ha1 d_M_drop_125 h, List.forall_mem_cons.mpr ⟨fun S h => bs_iinc (Z := Z) hx hb (by decide) d_M_drop_126 h, List.forall_mem_cons.mpr ⟨fun S h => bs_goto (Z := Z) hx hb d_M_drop_129 (by decide) h, List.forall_mem_cons.mpr ⟨fun S h => bs_iinc (Z := Z) hx hb (by decide) d_M_drop_132 h, List.forall_mem_cons.mpr ⟨fun S h => bs_goto (Z := Z) hx hb d_M_drop_135 (by decide) h, List.forall_mem_cons.mpr ⟨fun S h => bs_vret (Z := Z) hx hb hr hlocks d_M_drop_138 h, fun _ h => absurd h List.not_mem_nil⟩⟩⟩⟩⟩⟩⟩⟩⟩⟩⟩
  refine List.forall_mem_append.mpr ⟨?_, List.forall_mem_cons.mpr ⟨fun S h => bs_Iald (Z := Z) hx hb ha1 d_M_drop_63 h, List.forall_mem_cons.mpr ⟨fun S h => bs_Iast (Z := Z) hx hb ha1 d_M_drop_64 h, List.forall_mem_cons.mpr ⟨fun S h => bs_aload_n (Z := Z) hx hb rfl d_M_drop_65 h, List.forall_mem_cons.mpr ⟨fun S h => bs_gR (Z := Z) (C := R_M) (T := F_M) (N := 40) (t := 40) (j := 31) hx hb hK hts (fun w h => List.mem_cons_of_mem _ (iw_M w h)) hown rfl rfl (by decide) (hts _ (List.mem_cons_of_mem _ wd_815)) (fun _ h => h) rfl rfl rfl d_M_drop_66 h, List.forall_mem_cons.mpr ⟨fun S h => bs_iload_n (Z := Z) hx hb rfl d_M_drop_69 h, List.forall_mem_cons.mpr ⟨fun S h => bs_aload_n (Z := Z) hx hb rfl d_M_drop_70 h, List.forall_mem_cons.mpr ⟨fun S h => bs_gR (Z := Z) (C := R_M) (T := F_M) (N := 40) (t := 40) (j := 31) hx hb hK hts (fun w h => List.mem_cons_of_mem _ (iw_M w h)) hown rfl rfl (by decide) (hts _ (List.mem_cons_of_mem _ wd_815)) (fun _ h => h) rfl rfl rfl d_M_drop_71 h, List.forall_mem_cons.mpr ⟨fun S h => bs_iload_n (Z := Z) hx hb rfl d_M_drop_74 h, List.forall_mem_cons.mpr ⟨fun S h => bs_iconst (Z := Z) hx hb (by decide) d_M_drop_75 h, List.forall_mem_cons.mpr ⟨fun S h => bs_iadd (Z := Z) hx hb d_M_drop_76 h, List.forall_mem_cons.mpr ⟨fun S h => bs_Iald (Z := Z) hx hb ha1 d_M_drop_77 h, List.forall_mem_cons.mpr ⟨fun S h => bs_Iast (Z := Z) hx hb ha1 d_M_drop_78 h, List.forall_mem_cons.mpr ⟨fun S h => bs_aload_n (Z := Z) hx hb rfl d_M_drop_79 h, List.forall_mem_cons.mpr ⟨fun S h => bs_gR (Z := Z) (C := R_M) (T := F_M) (N := 40) (t := 40) (j := 32) hx hb hK hts (fun w h => List.mem_cons_of_mem _ (iw_M w h)) hown rfl rfl (by decide) (hts _ (List.mem_cons_of_mem _ wd_816)) (fun _ h => h) rfl rfl rfl d_M_drop_80 h, List.forall_mem_cons.mpr ⟨fun S h => bs_iload_n (Z := Z) hx hb rfl d_M_drop_83 h, List.forall_mem_cons.mpr ⟨fun S h => bs_aload_n (Z := Z) hx hb rfl d_M_drop_84 h, List.forall_mem_cons.mpr ⟨fun S h => bs_gR (Z := Z) (C := R_M) (T := F_M) (N := 40) (t := 40) (j := 32) hx hb hK hts (fun w h => List.mem_cons_of_mem _ (iw_M w h)) hown rfl rfl (by decide) (hts _ (List.mem_cons_of_mem _ wd_816)) (fun _ h => h) rfl rfl rfl d_M_drop_85 h, List.forall_mem_cons.mpr ⟨fun S h => bs_iload_n (Z := Z) hx hb rfl d_M_drop_88 h, List.forall_mem_cons.mpr ⟨fun S h => bs_iconst (Z := Z) hx hb (by decide) d_M_drop_89 h, List.forall_mem_cons.mpr ⟨fun S h => bs_iadd (Z := Z) hx hb d_M_drop_90 h, List.forall_mem_cons.mpr ⟨fun S h => bs_Dald (Z := Z) hx hb ha4 d_M_drop_91 h, List.forall_mem_cons.mpr ⟨fun S h => bs_Dast (Z := Z) hx hb ha4 d_M_drop_92 h, List.forall_mem_cons.mpr ⟨fun S h => bs_iconst (Z := Z) hx hb (by decide) d_M_drop_93 h, List.forall_mem_cons.mpr ⟨fun S h => bs_istore_n (Z := Z) hx hb rfl d_M_drop_94 h, List.forall_mem_cons.mpr ⟨fun S h => bs_iload_n (Z := Z) hx hb rfl d_M_drop_95 h, List.forall_mem_cons.mpr ⟨fun S h => bs_bipush (Z := Z) hx hb (by decide) d_M_drop_96 h, List.forall_mem_cons.mpr ⟨fun S h => bs_icmp_ge (Z := Z) hx hb d_M_drop_98 (by decide) h, List.forall_mem_cons.mpr ⟨fun S h => bs_aload_n (Z := Z) hx hb rfl d_M_drop_101 h, List.forall_mem_cons.mpr ⟨fun S h => bs_gR (Z := Z) (C := R_M) (T := F_M) (N := 40) (t := 40) (j := 33) hx hb hK hts (fun w h => List.mem_cons_of_mem _ (iw_M w h)) hown rfl rfl (by decide) (hts _ (List.mem_cons_of_mem _ wd_817)) (fun _ h => h) rfl rfl rfl d_M_drop_102 h, List.forall_mem_cons.mpr ⟨fun S h => bs_bipush (Z := Z) hx hb (by decide) d_M_drop_105 h, List.forall_mem_cons.mpr ⟨fun S h => bs_iload_n (Z := Z) hx hb rfl d_M_drop_107 h, List.forall_mem_cons.mpr ⟨fun S h => bs_imul (Z := Z) hx hb d_M_drop_108 h, List.forall_mem_cons.mpr ⟨fun S h => bs_iload_n (Z := Z) hx hb rfl d_M_drop_109 h, List.forall_mem_cons.mpr ⟨fun S h => bs_iadd (Z := Z) hx hb d_M_drop_110 h, List.forall_mem_cons.mpr ⟨fun S h => bs_aload_n (Z := Z) hx hb rfl d_M_drop_111 h, List.forall_mem_cons.mpr ⟨fun S h => bs_gR (Z := Z) (C := R_M) (T := F_M) (N := 40) (t := 40) (j := 33) hx hb hK hts (fun w h => List.mem_cons_of_mem _ (iw_M w h)) hown rfl rfl (by decide) (hts _ (List.mem_cons_of_mem _ wd_817)) (fun _ h => h) rfl rfl rfl d_M_drop_112 h, List.forall_mem_cons.mpr ⟨fun S h => bs_bipush (Z := Z) hx hb (by decide) d_M_drop_115 h, List.forall_mem_cons.mpr ⟨fun S h => bs_iload_n (Z := Z) hx hb rfl d_M_drop_117 h, List.forall_mem_cons.mpr ⟨fun S h => bs_imul (Z := Z) hx hb d_M_drop_118 h, List.forall_mem_cons.mpr ⟨fun S h => bs_bipush (Z := Z) hx hb (by decide) d_M_drop_119 h, fun _ h => absurd h List.not_mem_nil⟩⟩⟩⟩⟩⟩⟩⟩⟩⟩⟩⟩⟩⟩⟩⟩⟩⟩⟩⟩⟩⟩⟩⟩⟩⟩⟩⟩⟩⟩⟩⟩⟩⟩⟩⟩⟩⟩⟩⟩⟩
  exact List.forall_mem_cons.mpr ⟨fun S h => bs_aload_n (Z := Z) hx hb rfl d_M_drop_0 h, List.forall_mem_cons.mpr ⟨fun S h => bs_sipush (Z := Z) hx hb (by decide) d_M_drop_1 h, List.forall_mem_cons.mpr ⟨fun S h => bs_aload_n (Z := Z) hx hb rfl d_M_drop_4 h, List.forall_mem_cons.mpr ⟨fun S h => bs_gR (Z := Z) (C := R_M) (T := F_M) (N := 40) (t := 40) (j := 29) hx hb hK hts (fun w h => List.mem_cons_of_mem _ (iw_M w h)) hown rfl rfl (by decide) (hts _ (List.mem_cons_of_mem _ wd_813)) (fun _ h => h) rfl rfl rfl d_M_drop_5 h, List.forall_mem_cons.mpr ⟨fun S h => bs_iload_n (Z := Z) hx hb rfl d_M_drop_8 h, List.forall_mem_cons.mpr ⟨fun S h => bs_Iald (Z := Z) hx hb ha1 d_M_drop_9 h, List.forall_mem_cons.mpr ⟨fun S h => bs_bipush (Z := Z) hx hb (by decide) d_M_drop_10 h, List.forall_mem_cons.mpr ⟨fun S h => bs_irem (Z := Z) hx hb d_M_drop_12 h, List.forall_mem_cons.mpr ⟨fun S h => bs_iadd (Z := Z) hx hb d_M_drop_13 h, List.forall_mem_cons.mpr ⟨fun S h => bs_callV (Z := Z) (C := R_M) hBg hbs hB X0 hK (cn_M_note htr (d + 0)) (cl_M_note _ _ hw) (hts _ (List.mem_cons_of_mem _ wd_1026)) (hts _ (List.mem_cons_of_mem _ wd_1028)) (hts _ (List.mem_cons_of_mem _ ws_47)) rfl rfl rfl rfl rfl (Nat.le_refl _) (Nat.le_refl _) d_M_drop_14 (bs_out htab hlocks) h, List.forall_mem_cons.mpr ⟨fun S h => bs_aload_n (Z := Z) hx hb rfl d_M_drop_17 h, List.forall_mem_cons.mpr ⟨fun S h => bs_dup (Z := Z) hx hb d_M_drop_18 h, List.forall_mem_cons.mpr ⟨fun S h => bs_gI (Z := Z) (C := R_M) (T := F_M) (N := 40) (t := 40) (j := 34) hx hb hK hts (fun w h => List.mem_cons_of_mem _ (iw_M w h)) hown rfl rfl (by decide) (hts _ (List.mem_cons_of_mem _ wd_818)) (fun _ h => h) rfl rfl rfl d_M_drop_19 h, List.forall_mem_cons.mpr ⟨fun S h => bs_iconst (Z := Z) hx hb (by decide) d_M_drop_22 h, List.forall_mem_cons.mpr ⟨fun S h => bs_isub (Z := Z) hx hb d_M_drop_23 h, List.forall_mem_cons.mpr ⟨fun S h => bs_pI (Z := Z) (C := R_M) (T := F_M) (N := 40) (t := 40) (j := 34) hx hb hK hts (fun w h => List.mem_cons_of_mem _ (iw_M w h)) hown rfl rfl (by decide) (hts _ (List.mem_cons_of_mem _ wd_818)) (fun _ h => h) rfl rfl t_M t_M_ok n_M rfl (by decide +kernel) rfl d_M_drop_24 h, List.forall_mem_cons.mpr ⟨fun S h => bs_iload_n (Z := Z) hx hb rfl d_M_drop_27 h, List.forall_mem_cons.mpr ⟨fun S h => bs_istore_n (Z := Z) hx hb rfl d_M_drop_28 h, List.forall_mem_cons.mpr ⟨fun S h => bs_iload_n (Z := Z) hx hb rfl d_M_drop_29 h, List.forall_mem_cons.mpr ⟨fun S h => bs_aload_n (Z := Z) hx hb rfl d_M_drop_30 h, List.forall_mem_cons.mpr ⟨fun S h => bs_gI (Z := Z) (C := R_M) (T := F_M) (N := 40) (t := 40) (j := 34) hx hb hK hts (fun w h => List.mem_cons_of_mem _ (iw_M w h)) hown rfl rfl (by decide) (hts _ (List.mem_cons_of_mem _ wd_818)) (fun _ h => h) rfl rfl rfl d_M_drop_31 h, List.forall_mem_cons.mpr ⟨fun S h => bs_icmp_ge (Z := Z) hx hb d_M_drop_34 (by decide) h, List.forall_mem_cons.mpr ⟨fun S h => bs_aload_n (Z := Z) hx hb rfl d_M_drop_37 h, List.forall_mem_cons.mpr ⟨fun S h => bs_gR (Z := Z) (C := R_M) (T := F_M) (N := 40) (t := 40) (j := 29) hx hb hK hts (fun w h => List.mem_cons_of_mem _ (iw_M w h)) hown rfl rfl (by decide) (hts _ (List.mem_cons_of_mem _ wd_813)) (fun _ h => h) rfl rfl rfl d_M_drop_38 h, List.forall_mem_cons.mpr ⟨fun S h => bs_iload_n (Z := Z) hx hb rfl d_M_drop_41 h, List.forall_mem_cons.mpr ⟨fun S h => bs_aload_n (Z := Z) hx hb rfl d_M_drop_42 h, List.forall_mem_cons.mpr ⟨fun S h => bs_gR (Z := Z) (C := R_M) (T := F_M) (N := 40) (t := 40) (j := 29) hx hb hK hts (fun w h => List.mem_cons_of_mem _ (iw_M w h)) hown rfl rfl (by decide) (hts _ (List.mem_cons_of_mem _ wd_813)) (fun _ h => h) rfl rfl rfl d_M_drop_43 h, List.forall_mem_cons.mpr ⟨fun S h => bs_iload_n (Z := Z) hx hb rfl d_M_drop_46 h, List.forall_mem_cons.mpr ⟨fun S h => bs_iconst (Z := Z) hx hb (by decide) d_M_drop_47 h, List.forall_mem_cons.mpr ⟨fun S h => bs_iadd (Z := Z) hx hb d_M_drop_48 h, List.forall_mem_cons.mpr ⟨fun S h => bs_Iald (Z := Z) hx hb ha1 d_M_drop_49 h, List.forall_mem_cons.mpr ⟨fun S h => bs_Iast (Z := Z) hx hb ha1 d_M_drop_50 h, List.forall_mem_cons.mpr ⟨fun S h => bs_aload_n (Z := Z) hx hb rfl d_M_drop_51 h, List.forall_mem_cons.mpr ⟨fun S h => bs_gR (Z := Z) (C := R_M) (T := F_M) (N := 40) (t := 40) (j := 30) hx hb hK hts (fun w h => List.mem_cons_of_mem _ (iw_M w h)) hown rfl rfl (by decide) (hts _ (List.mem_cons_of_mem _ wd_814)) (fun _ h => h) rfl rfl rfl d_M_drop_52 h, List.forall_mem_cons.mpr ⟨fun S h => bs_iload_n (Z := Z) hx hb rfl d_M_drop_55 h, List.forall_mem_cons.mpr ⟨fun S h => bs_aload_n (Z := Z) hx hb rfl d_M_drop_56 h, List.forall_mem_cons.mpr ⟨fun S h => bs_gR (Z := Z) (C := R_M) (T := F_M) (N := 40) (t := 40) (j := 30) hx hb hK hts (fun w h => List.mem_cons_of_mem _ (iw_M w h)) hown rfl rfl (by decide) (hts _ (List.mem_cons_of_mem _ wd_814)) (fun _ h => h) rfl rfl rfl d_M_drop_57 h, List.forall_mem_cons.mpr ⟨fun S h => bs_iload_n (Z := Z) hx hb rfl d_M_drop_60 h, List.forall_mem_cons.mpr ⟨fun S h => bs_iconst (Z := Z) hx hb (by decide) d_M_drop_61 h, List.forall_mem_cons.mpr ⟨fun S h => bs_iadd (Z := Z) hx hb d_M_drop_62 h, fun _ h => absurd h List.not_mem_nil⟩⟩⟩⟩⟩⟩⟩⟩⟩⟩⟩⟩⟩⟩⟩⟩⟩⟩⟩⟩⟩⟩⟩⟩⟩⟩⟩⟩⟩⟩⟩⟩⟩⟩⟩⟩⟩⟩⟩⟩
abbrev c_M_stopping : ByteArray := prog_10_method_35_code
def y_M_stopping : MethodName := ⟨"BundleHallModel", "stopping", "(I)I"⟩
theorem d_M_stopping_0 : decode c_M_stopping 0 = .ok (.aload_n 0, 1) := by decide +kernel
theorem d_M_stopping_1 : decode c_M_stopping 1 = .ok (.iload_n 1, 1) := by decide +kernel
theorem d_M_stopping_2 : decode c_M_stopping 2 = .ok (.invokevirtual 226, 3) := by decide +kernel
theorem d_M_stopping_5 : decode c_M_stopping 5 = .ok (.istore_n 2, 1) := by decide +kernel
theorem d_M_stopping_6 : decode c_M_stopping 6 = .ok (.iconst 0, 1) := by decide +kernel
theorem d_M_stopping_7 : decode c_M_stopping 7 = .ok (.istore_n 3, 1) := by decide +kernel
theorem d_M_stopping_8 : decode c_M_stopping 8 = .ok (.iload_n 3, 1) := by decide +kernel
theorem d_M_stopping_9 : decode c_M_stopping 9 = .ok (.aload_n 0, 1) := by decide +kernel
theorem d_M_stopping_10 : decode c_M_stopping 10 = .ok (.getfield 207, 3) := by decide +kernel
theorem d_M_stopping_13 : decode c_M_stopping 13 = .ok (.if_icmp .ge 27, 3) := by decide +kernel
theorem d_M_stopping_16 : decode c_M_stopping 16 = .ok (.aload_n 0, 1) := by decide +kernel
theorem d_M_stopping_17 : decode c_M_stopping 17 = .ok (.getfield 87, 3) := by decide +kernel
theorem d_M_stopping_20 : decode c_M_stopping 20 = .ok (.iload_n 3, 1) := by decide +kernel
theorem d_M_stopping_21 : decode c_M_stopping 21 = .ok (.iaload, 1) := by decide +kernel
theorem d_M_stopping_22 : decode c_M_stopping 22 = .ok (.iload_n 1, 1) := by decide +kernel
theorem d_M_stopping_23 : decode c_M_stopping 23 = .ok (.if_icmp .ne 11, 3) := by decide +kernel
theorem d_M_stopping_26 : decode c_M_stopping 26 = .ok (.aload_n 0, 1) := by decide +kernel
theorem d_M_stopping_27 : decode c_M_stopping 27 = .ok (.iload_n 3, 1) := by decide +kernel
theorem d_M_stopping_28 : decode c_M_stopping 28 = .ok (.invokevirtual 229, 3) := by decide +kernel
theorem d_M_stopping_31 : decode c_M_stopping 31 = .ok (.goto (-23), 3) := by decide +kernel
theorem d_M_stopping_34 : decode c_M_stopping 34 = .ok (.iinc 3 1, 3) := by decide +kernel
theorem d_M_stopping_37 : decode c_M_stopping 37 = .ok (.goto (-29), 3) := by decide +kernel
theorem d_M_stopping_40 : decode c_M_stopping 40 = .ok (.iconst 0, 1) := by decide +kernel
theorem d_M_stopping_41 : decode c_M_stopping 41 = .ok (.istore 4, 2) := by decide +kernel
theorem d_M_stopping_43 : decode c_M_stopping 43 = .ok (.iload 4, 2) := by decide +kernel
theorem d_M_stopping_45 : decode c_M_stopping 45 = .ok (.aload_n 0, 1) := by decide +kernel
theorem d_M_stopping_46 : decode c_M_stopping 46 = .ok (.getfield 207, 3) := by decide +kernel
theorem d_M_stopping_49 : decode c_M_stopping 49 = .ok (.if_icmp .ge 22, 3) := by decide +kernel
theorem d_M_stopping_52 : decode c_M_stopping 52 = .ok (.aload_n 0, 1) := by decide +kernel
theorem d_M_stopping_53 : decode c_M_stopping 53 = .ok (.getfield 97, 3) := by decide +kernel
theorem d_M_stopping_56 : decode c_M_stopping 56 = .ok (.bipush 8, 2) := by decide +kernel
theorem d_M_stopping_58 : decode c_M_stopping 58 = .ok (.iload 4, 2) := by decide +kernel
theorem d_M_stopping_60 : decode c_M_stopping 60 = .ok (.imul, 1) := by decide +kernel
theorem d_M_stopping_61 : decode c_M_stopping 61 = .ok (.iload_n 1, 1) := by decide +kernel
theorem d_M_stopping_62 : decode c_M_stopping 62 = .ok (.iadd, 1) := by decide +kernel
theorem d_M_stopping_63 : decode c_M_stopping 63 = .ok (.iconst 0, 1) := by decide +kernel
theorem d_M_stopping_64 : decode c_M_stopping 64 = .ok (.iastore, 1) := by decide +kernel
theorem d_M_stopping_65 : decode c_M_stopping 65 = .ok (.iinc 4 1, 3) := by decide +kernel
theorem d_M_stopping_68 : decode c_M_stopping 68 = .ok (.goto (-25), 3) := by decide +kernel
theorem d_M_stopping_71 : decode c_M_stopping 71 = .ok (.aload_n 0, 1) := by decide +kernel
theorem d_M_stopping_72 : decode c_M_stopping 72 = .ok (.getfield 7, 3) := by decide +kernel
theorem d_M_stopping_75 : decode c_M_stopping 75 = .ok (.iload_n 1, 1) := by decide +kernel
theorem d_M_stopping_76 : decode c_M_stopping 76 = .ok (.iconst 2, 1) := by decide +kernel
theorem d_M_stopping_77 : decode c_M_stopping 77 = .ok (.iastore, 1) := by decide +kernel
theorem d_M_stopping_78 : decode c_M_stopping 78 = .ok (.aload_n 0, 1) := by decide +kernel
theorem d_M_stopping_79 : decode c_M_stopping 79 = .ok (.sipush 200, 3) := by decide +kernel
theorem d_M_stopping_82 : decode c_M_stopping 82 = .ok (.iload_n 1, 1) := by decide +kernel
theorem d_M_stopping_83 : decode c_M_stopping 83 = .ok (.iadd, 1) := by decide +kernel
theorem d_M_stopping_84 : decode c_M_stopping 84 = .ok (.invokevirtual 213, 3) := by decide +kernel
theorem d_M_stopping_87 : decode c_M_stopping 87 = .ok (.iload_n 2, 1) := by decide +kernel
theorem d_M_stopping_88 : decode c_M_stopping 88 = .ok (.ireturn, 1) := by decide +kernel
def T_M_stopping_0 : List (Nat × bh_Op) := [(0, bo_ald 1 0),
  (1, bo_ild 2 1),
  (2, bo_callV 5 2 0 0 40 F_M_servicesOf),
  (5, bo_ist 6 2),
  (6, bo_st 7 (bg_push (.inl (.int 0)))),
  (7, bo_ist 8 3),
  (8, bo_ild 9 3),
  (9, bo_ald 10 0),
  (10, bo_gI 13 40 34),
  (13, bo_if2 16 40 (fun x y => y ≤ x)),
  (16, bo_ald 17 0),
  (17, bo_gR 20 40 30 66),
  (20, bo_ild 21 3),
  (21, bo_Iald bh_ak bh_al 22),
  (22, bo_ild 23 1),
  (23, bo_if2 26 34 (fun x y => ¬ x = y)),
  (26, bo_ald 27 0),
  (27, bo_ild 28 3),
  (28, bo_callV 31 2 0 0 40 F_M_drop),
  (31, bo_go 8),
  (34, bo_inc 37 3 1),
  (37, bo_go 8),
  (40, bo_st 41 (bg_push (.inl (.int 0)))),
  (41, bo_ist 43 4),
  (43, bo_ild 45 4),
  (45, bo_ald 46 0),
  (46, bo_gI 49 40 34),
  (49, bo_if2 52 71 (fun x y => y ≤ x)),
  (52, bo_ald 53 0),
  (53, bo_gR 56 40 33 69),
  (56, bo_st 58 (bg_push (.inl (.int 8)))),
  (58, bo_ild 60 4),
  (60, bo_st 61 (bg_ii (fun x y => x * y))),
  (61, bo_ild 62 1),
  (62, bo_st 63 (bg_ii (fun x y => x + y))),
  (63, bo_st 64 (bg_push (.inl (.int 0)))),
  (64, bo_Iast bh_ak bh_al 65),
  (65, bo_inc 68 4 1),
  (68, bo_go 43),
  (71, bo_ald 72 0)]
def T_M_stopping_1 : List (Nat × bh_Op) := [(72, bo_gR 75 40 1 41),
  (75, bo_ild 76 1),
  (76, bo_st 77 (bg_push (.inl (.int 2)))),
  (77, bo_Iast bh_ak bh_al 78),
  (78, bo_ald 79 0),
  (79, bo_st 82 (bg_push (.inl (.int 200)))),
  (82, bo_ild 83 1),
  (83, bo_st 84 (bg_ii (fun x y => x + y))),
  (84, bo_callV 87 2 0 0 40 F_M_note),
  (87, bo_ild 88 2),
  (88, bo_iret 0)]
def T_M_stopping : List (Nat × bh_Op) := T_M_stopping_0 ++ T_M_stopping_1
set_option maxRecDepth 20000 in
theorem mT_M_stopping_0 : ∀ q ∈ T_M_stopping_0, bh_mono q.2 := List.forall_mem_cons.mpr ⟨bo_ald_m _ _, List.forall_mem_cons.mpr ⟨bo_ild_m _ _, List.forall_mem_cons.mpr ⟨bo_callV_m (mF_M_servicesOf) _ _ _ _ _, List.forall_mem_cons.mpr ⟨bo_ist_m _ _, List.forall_mem_cons.mpr ⟨bo_st_mono (bg_push_m _), List.forall_mem_cons.mpr ⟨bo_ist_m _ _, List.forall_mem_cons.mpr ⟨bo_ild_m _ _, List.forall_mem_cons.mpr ⟨bo_ald_m _ _, List.forall_mem_cons.mpr ⟨bo_gI_m _ _ _, List.forall_mem_cons.mpr ⟨bo_if2_m _ _ _, List.forall_mem_cons.mpr ⟨bo_ald_m _ _, List.forall_mem_cons.mpr ⟨bo_gR_m _ _ _ _, List.forall_mem_cons.mpr ⟨bo_ild_m _ _, List.forall_mem_cons.mpr ⟨bo_Iald_m _ _ _, List.forall_mem_cons.mpr ⟨bo_ild_m _ _, List.forall_mem_cons.mpr ⟨bo_if2_m _ _ _, List.forall_mem_cons.mpr ⟨bo_ald_m _ _, List.forall_mem_cons.mpr ⟨bo_ild_m _ _, List.forall_mem_cons.mpr ⟨bo_callV_m (mF_M_drop) _ _ _ _ _, List.forall_mem_cons.mpr ⟨bo_go_m _, List.forall_mem_cons.mpr ⟨bo_inc_m _ _ _, List.forall_mem_cons.mpr ⟨bo_go_m _, List.forall_mem_cons.mpr ⟨bo_st_mono (bg_push_m _), List.forall_mem_cons.mpr ⟨bo_ist_m _ _, List.forall_mem_cons.mpr ⟨bo_ild_m _ _, List.forall_mem_cons.mpr ⟨bo_ald_m _ _, List.forall_mem_cons.mpr ⟨bo_gI_m _ _ _, List.forall_mem_cons.mpr ⟨bo_if2_m _ _ _, List.forall_mem_cons.mpr ⟨bo_ald_m _ _, List.forall_mem_cons.mpr ⟨bo_gR_m _ _ _ _, List.forall_mem_cons.mpr ⟨bo_st_mono (bg_push_m _), List.forall_mem_cons.mpr ⟨bo_ild_m _ _, List.forall_mem_cons.mpr ⟨bo_st_mono (bg_ii_m _), List.forall_mem_cons.mpr ⟨bo_ild_m _ _, List.forall_mem_cons.mpr ⟨bo_st_mono (bg_ii_m _), List.forall_mem_cons.mpr ⟨bo_st_mono (bg_push_m _), List.forall_mem_cons.mpr ⟨bo_Iast_m _ _ _, List.forall_mem_cons.mpr ⟨bo_inc_m _ _ _, List.forall_mem_cons.mpr ⟨bo_go_m _, List.forall_mem_cons.mpr ⟨bo_ald_m _ _, fun _ h => absurd h List.not_mem_nil⟩⟩⟩⟩⟩⟩⟩⟩⟩⟩⟩⟩⟩⟩⟩⟩⟩⟩⟩⟩⟩⟩⟩⟩⟩⟩⟩⟩⟩⟩⟩⟩⟩⟩⟩⟩⟩⟩⟩⟩
set_option maxRecDepth 20000 in
theorem mT_M_stopping_1 : ∀ q ∈ T_M_stopping_1, bh_mono q.2 := List.forall_mem_cons.mpr ⟨bo_gR_m _ _ _ _, List.forall_mem_cons.mpr ⟨bo_ild_m _ _, List.forall_mem_cons.mpr ⟨bo_st_mono (bg_push_m _), List.forall_mem_cons.mpr ⟨bo_Iast_m _ _ _, List.forall_mem_cons.mpr ⟨bo_ald_m _ _, List.forall_mem_cons.mpr ⟨bo_st_mono (bg_push_m _), List.forall_mem_cons.mpr ⟨bo_ild_m _ _, List.forall_mem_cons.mpr ⟨bo_st_mono (bg_ii_m _), List.forall_mem_cons.mpr ⟨bo_callV_m (mF_M_note) _ _ _ _ _, List.forall_mem_cons.mpr ⟨bo_ild_m _ _, List.forall_mem_cons.mpr ⟨bo_iret_m _, fun _ h => absurd h List.not_mem_nil⟩⟩⟩⟩⟩⟩⟩⟩⟩⟩⟩
theorem m_M_stopping : ∀ pc, bh_mono (bh_tb (T_M_stopping) pc) := bh_tb_m (List.forall_mem_append.mpr ⟨mT_M_stopping_0, mT_M_stopping_1⟩)
def F_M_stopping : bh_Fn := bh_fn 5 (bh_tb T_M_stopping)
theorem mF_M_stopping : bh_monoF F_M_stopping := bh_fn_m m_M_stopping
theorem cl_M_stopping {s : State} {args : Array Value} (d B : Nat) (hts : ∀ w ∈ bh_ws, w.before args s = true) : bh_Cal (bh_rm (d + 1) B) s y_M_stopping 5 (.code y_M_stopping c_M_stopping 5 (some .int) :: bh_ws) (bh_rm d 0) 0 1 := bh_cal d B hts wd_1041 wd_9 (by decide) (by decide +kernel)
set_option maxHeartbeats 4000000 in
set_option maxRecDepth 100000 in
theorem cn_M_stopping {l : Launch} {G : bh_G} {base sb L : Nat} {xs : Nat → Int32} (htr : l.stackTraces = false) (d : Nat) : bh_Con l G base (bh_Bg G base sb L xs) y_M_stopping (.code y_M_stopping c_M_stopping 5 (some .int) :: bh_ws) (bh_rm (d + 3) 0) 0 false F_M_stopping := by
  refine bh_method (cc := c_M_stopping) (ret := (some .int)) (by decide +kernel) rfl ?_
  intro p e s m args below meth c ad0 M0 Z X0 hr hlocks hname htab hbs hB
  obtain ⟨hx, hb, hml, hown, hts⟩ := id X0
  have hw : ∀ w ∈ bh_ws, w.before args s = true := fun w h => hts w (List.mem_cons_of_mem _ h)
  have hBg := bh_BgK (G := G) (base := base) (sb := sb) (L := L) (xs := xs)
  obtain ⟨hK, hAr, hen, hinj, hu1, hu2, hstr, hX, hsb, hsc, hxw, hao, hnc⟩ := id hB
  obtain ⟨ha1, ha2, ha3, ha4, ha5, ha6, ha0⟩ := bh_arr hAr
  refine List.forall_mem_append.mpr ⟨?_, List.forall_mem_cons.mpr ⟨fun S h => bs_gR (Z := Z) (C := R_M) (T := F_M) (N := 40) (t := 40) (j := 1) hx hb hK hts (fun w h => List.mem_cons_of_mem _ (iw_M w h)) hown rfl rfl (by decide) (hts _ (List.mem_cons_of_mem _ wd_785)) (fun _ h => h) rfl rfl rfl d_M_stopping_72 h, List.forall_mem_cons.mpr ⟨fun S h => bs_iload_n (Z := Z) hx hb rfl d_M_stopping_75 h, List.forall_mem_cons.mpr ⟨fun S h => bs_iconst (Z := Z) hx hb (by decide) d_M_stopping_76 h, List.forall_mem_cons.mpr ⟨fun S h => bs_Iast (Z := Z) hx hb ha1 d_M_stopping_77 h, List.forall_mem_cons.mpr ⟨fun S h => bs_aload_n (Z := Z) hx hb rfl d_M_stopping_78 h, List.forall_mem_cons.mpr ⟨fun S h => bs_sipush (Z := Z) hx hb (by decide) d_M_stopping_79 h, List.forall_mem_cons.mpr ⟨fun S h => bs_iload_n (Z := Z) hx hb rfl d_M_stopping_82 h, List.forall_mem_cons.mpr ⟨fun S h => bs_iadd (Z := Z) hx hb d_M_stopping_83 h, List.forall_mem_cons.mpr ⟨fun S h => bs_callV (Z := Z) (C := R_M) hBg hbs hB X0 hK (cn_M_note htr (d + 1)) (cl_M_note _ _ hw) (hts _ (List.mem_cons_of_mem _ wd_1026)) (hts _ (List.mem_cons_of_mem _ wd_1028)) (hts _ (List.mem_cons_of_mem _ ws_47)) rfl rfl rfl rfl rfl (Nat.le_refl _) (Nat.le_refl _) d_M_stopping_84 (bs_out htab hlocks) h, List.forall_mem_cons.mpr ⟨fun S h => bs_iload_n (Z := Z) hx hb rfl d_M_stopping_87 h, List.forall_mem_cons.mpr ⟨fun S h => bs_iret (Z := Z) hx hb hr hlocks d_M_stopping_88 h, fun _ h => absurd h List.not_mem_nil⟩⟩⟩⟩⟩⟩⟩⟩⟩⟩⟩⟩
  exact List.forall_mem_cons.mpr ⟨fun S h => bs_aload_n (Z := Z) hx hb rfl d_M_stopping_0 h, List.forall_mem_cons.mpr ⟨fun S h => bs_iload_n (Z := Z) hx hb rfl d_M_stopping_1 h, List.forall_mem_cons.mpr ⟨fun S h => bs_callV (Z := Z) (C := R_M) hBg hbs hB X0 hK (cn_M_servicesOf htr (d + 1)) (cl_M_servicesOf _ _ hw) (hts _ (List.mem_cons_of_mem _ wd_1042)) (hts _ (List.mem_cons_of_mem _ wd_1044)) (hts _ (List.mem_cons_of_mem _ ws_50)) rfl rfl rfl rfl rfl (Nat.le_refl _) (Nat.le_refl _) d_M_stopping_2 (bs_out htab hlocks) h, List.forall_mem_cons.mpr ⟨fun S h => bs_istore_n (Z := Z) hx hb rfl d_M_stopping_5 h, List.forall_mem_cons.mpr ⟨fun S h => bs_iconst (Z := Z) hx hb (by decide) d_M_stopping_6 h, List.forall_mem_cons.mpr ⟨fun S h => bs_istore_n (Z := Z) hx hb rfl d_M_stopping_7 h, List.forall_mem_cons.mpr ⟨fun S h => bs_iload_n (Z := Z) hx hb rfl d_M_stopping_8 h, List.forall_mem_cons.mpr ⟨fun S h => bs_aload_n (Z := Z) hx hb rfl d_M_stopping_9 h, List.forall_mem_cons.mpr ⟨fun S h => bs_gI (Z := Z) (C := R_M) (T := F_M) (N := 40) (t := 40) (j := 34) hx hb hK hts (fun w h => List.mem_cons_of_mem _ (iw_M w h)) hown rfl rfl (by decide) (hts _ (List.mem_cons_of_mem _ wd_818)) (fun _ h => h) rfl rfl rfl d_M_stopping_10 h, List.forall_mem_cons.mpr ⟨fun S h => bs_icmp_ge (Z := Z) hx hb d_M_stopping_13 (by decide) h, List.forall_mem_cons.mpr ⟨fun S h => bs_aload_n (Z := Z) hx hb rfl d_M_stopping_16 h, List.forall_mem_cons.mpr ⟨fun S h => bs_gR (Z := Z) (C := R_M) (T := F_M) (N := 40) (t := 40) (j := 30) hx hb hK hts (fun w h => List.mem_cons_of_mem _ (iw_M w h)) hown rfl rfl (by decide) (hts _ (List.mem_cons_of_mem _ wd_814)) (fun _ h => h) rfl rfl rfl d_M_stopping_17 h, List.forall_mem_cons.mpr ⟨fun S h => bs_iload_n (Z := Z) hx hb rfl d_M_stopping_20 h, List.forall_mem_cons.mpr ⟨fun S h => bs_Iald (Z := Z) hx hb ha1 d_M_stopping_21 h, List.forall_mem_cons.mpr ⟨fun S h => bs_iload_n (Z := Z) hx hb rfl d_M_stopping_22 h, List.forall_mem_cons.mpr ⟨fun S h => bs_icmp_ne (Z := Z) hx hb d_M_stopping_23 (by decide) h, List.forall_mem_cons.mpr ⟨fun S h => bs_aload_n (Z := Z) hx hb rfl d_M_stopping_26 h, List.forall_mem_cons.mpr ⟨fun S h => bs_iload_n (Z := Z) hx hb rfl d_M_stopping_27 h, List.forall_mem_cons.mpr ⟨fun S h => bs_callV (Z := Z) (C := R_M) hBg hbs hB X0 hK (cn_M_drop htr (d + 0)) (cl_M_drop _ _ hw) (hts _ (List.mem_cons_of_mem _ wd_1046)) (hts _ (List.mem_cons_of_mem _ wd_1048)) (hts _ (List.mem_cons_of_mem _ ws_51)) rfl rfl rfl rfl rfl (Nat.le_refl _) (Nat.le_refl _) d_M_stopping_28 (bs_out htab hlocks) h, List.forall_mem_cons.mpr ⟨fun S h => bs_goto (Z := Z) hx hb d_M_stopping_31 (by decide) h, List.forall_mem_cons.mpr ⟨fun S h => bs_iinc (Z := Z) hx hb (by decide) d_M_stopping_34 h, List.forall_mem_cons.mpr ⟨fun S h => bs_goto (Z := Z) hx hb d_M_stopping_37 (by decide) h, List.forall_mem_cons.mpr ⟨fun S h => bs_iconst (Z := Z) hx hb (by decide) d_M_stopping_40 h, List.forall_mem_cons.mpr ⟨fun S h => bs_istore (Z := Z) hx hb d_M_stopping_41 h, List.forall_mem_cons.mpr ⟨fun S h => bs_iload (Z := Z) hx hb d_M_stopping_43 h, List.forall_mem_cons.mpr ⟨fun S h => bs_aload_n (Z := Z) hx hb rfl d_M_stopping_45 h, List.forall_mem_cons.mpr ⟨fun S h => bs_gI (Z := Z) (C := R_M) (T := F_M) (N := 40) (t := 40) (j := 34) hx hb hK hts (fun w h => List.mem_cons_of_mem _ (iw_M w h)) hown rfl rfl (by decide) (hts _ (List.mem_cons_of_mem _ wd_818)) (fun _ h => h) rfl rfl rfl d_M_stopping_46 h, List.forall_mem_cons.mpr ⟨fun S h => bs_icmp_ge (Z := Z) hx hb d_M_stopping_49 (by decide) h, List.forall_mem_cons.mpr ⟨fun S h => bs_aload_n (Z := Z) hx hb rfl d_M_stopping_52 h, List.forall_mem_cons.mpr ⟨fun S h => bs_gR (Z := Z) (C := R_M) (T := F_M) (N := 40) (t := 40) (j := 33) hx hb hK hts (fun w h => List.mem_cons_of_mem _ (iw_M w h)) hown rfl rfl (by decide) (hts _ (List.mem_cons_of_mem _ wd_817)) (fun _ h => h) rfl rfl rfl d_M_stopping_53 h, List.forall_mem_cons.mpr ⟨fun S h => bs_bipush (Z := Z) hx hb (by decide) d_M_stopping_56 h, List.forall_mem_cons.mpr ⟨fun S h => bs_iload (Z := Z) hx hb d_M_stopping_58 h, List.forall_mem_cons.mpr ⟨fun S h => bs_imul (Z := Z) hx hb d_M_stopping_60 h, List.forall_mem_cons.mpr ⟨fun S h => bs_iload_n (Z := Z) hx hb rfl d_M_stopping_61 h, List.forall_mem_cons.mpr ⟨fun S h => bs_iadd (Z := Z) hx hb d_M_stopping_62 h, List.forall_mem_cons.mpr ⟨fun S h => bs_iconst (Z := Z) hx hb (by decide) d_M_stopping_63 h, List.forall_mem_cons.mpr ⟨fun S h => bs_Iast (Z := Z) hx hb ha1 d_M_stopping_64 h, List.forall_mem_cons.mpr ⟨fun S h => bs_iinc (Z := Z) hx hb (by decide) d_M_stopping_65 h, List.forall_mem_cons.mpr ⟨fun S h => bs_goto (Z := Z) hx hb d_M_stopping_68 (by decide) h, List.forall_mem_cons.mpr ⟨fun S h => bs_aload_n (Z := Z) hx hb rfl d_M_stopping_71 h, fun _ h => absurd h List.not_mem_nil⟩⟩⟩⟩⟩⟩⟩⟩⟩⟩⟩⟩⟩⟩⟩⟩⟩⟩⟩⟩⟩⟩⟩⟩⟩⟩⟩⟩⟩⟩⟩⟩⟩⟩⟩⟩⟩⟩⟩⟩
abbrev c_M_stop : ByteArray := prog_10_method_37_code
def y_M_stop : MethodName := ⟨"BundleHallModel", "stop", "(I)I"⟩
theorem d_M_stop_0 : decode c_M_stop 0 = .ok (.aload_n 0, 1) := by decide +kernel
theorem d_M_stop_1 : decode c_M_stop 1 = .ok (.iconst 0, 1) := by decide +kernel
theorem d_M_stop_2 : decode c_M_stop 2 = .ok (.putfield 109, 3) := by decide +kernel
theorem d_M_stop_5 : decode c_M_stop 5 = .ok (.iload_n 1, 1) := by decide +kernel
theorem d_M_stop_6 : decode c_M_stop 6 = .ok (.invokestatic 126, 3) := by decide +kernel
theorem d_M_stop_9 : decode c_M_stop 9 = .ok (.ifCond .ne 9, 3) := by decide +kernel
theorem d_M_stop_12 : decode c_M_stop 12 = .ok (.aload_n 0, 1) := by decide +kernel
theorem d_M_stop_13 : decode c_M_stop 13 = .ok (.iconst 1, 1) := by decide +kernel
theorem d_M_stop_14 : decode c_M_stop 14 = .ok (.invokevirtual 130, 3) := by decide +kernel
theorem d_M_stop_17 : decode c_M_stop 17 = .ok (.ireturn, 1) := by decide +kernel
theorem d_M_stop_18 : decode c_M_stop 18 = .ok (.aload_n 0, 1) := by decide +kernel
theorem d_M_stop_19 : decode c_M_stop 19 = .ok (.getfield 7, 3) := by decide +kernel
theorem d_M_stop_22 : decode c_M_stop 22 = .ok (.iload_n 1, 1) := by decide +kernel
theorem d_M_stop_23 : decode c_M_stop 23 = .ok (.iaload, 1) := by decide +kernel
theorem d_M_stop_24 : decode c_M_stop 24 = .ok (.ifCond .ne 9, 3) := by decide +kernel
theorem d_M_stop_27 : decode c_M_stop 27 = .ok (.aload_n 0, 1) := by decide +kernel
theorem d_M_stop_28 : decode c_M_stop 28 = .ok (.iconst 2, 1) := by decide +kernel
theorem d_M_stop_29 : decode c_M_stop 29 = .ok (.invokevirtual 130, 3) := by decide +kernel
theorem d_M_stop_32 : decode c_M_stop 32 = .ok (.ireturn, 1) := by decide +kernel
theorem d_M_stop_33 : decode c_M_stop 33 = .ok (.aload_n 0, 1) := by decide +kernel
theorem d_M_stop_34 : decode c_M_stop 34 = .ok (.getfield 22, 3) := by decide +kernel
theorem d_M_stop_37 : decode c_M_stop 37 = .ok (.iload_n 1, 1) := by decide +kernel
theorem d_M_stop_38 : decode c_M_stop 38 = .ok (.iconst 0, 1) := by decide +kernel
theorem d_M_stop_39 : decode c_M_stop 39 = .ok (.bastore, 1) := by decide +kernel
theorem d_M_stop_40 : decode c_M_stop 40 = .ok (.aload_n 0, 1) := by decide +kernel
theorem d_M_stop_41 : decode c_M_stop 41 = .ok (.getfield 7, 3) := by decide +kernel
theorem d_M_stop_44 : decode c_M_stop 44 = .ok (.iload_n 1, 1) := by decide +kernel
theorem d_M_stop_45 : decode c_M_stop 45 = .ok (.iaload, 1) := by decide +kernel
theorem d_M_stop_46 : decode c_M_stop 46 = .ok (.iconst 3, 1) := by decide +kernel
theorem d_M_stop_47 : decode c_M_stop 47 = .ok (.if_icmp .ne 11, 3) := by decide +kernel
theorem d_M_stop_50 : decode c_M_stop 50 = .ok (.aload_n 0, 1) := by decide +kernel
theorem d_M_stop_51 : decode c_M_stop 51 = .ok (.iload_n 1, 1) := by decide +kernel
theorem d_M_stop_52 : decode c_M_stop 52 = .ok (.invokevirtual 235, 3) := by decide +kernel
theorem d_M_stop_55 : decode c_M_stop 55 = .ok (.goto 4, 3) := by decide +kernel
theorem d_M_stop_58 : decode c_M_stop 58 = .ok (.iconst 0, 1) := by decide +kernel
theorem d_M_stop_59 : decode c_M_stop 59 = .ok (.ireturn, 1) := by decide +kernel
def T_M_stop_0 : List (Nat × bh_Op) := [(0, bo_ald 1 0),
  (1, bo_st 2 (bg_push (.inl (.int 0)))),
  (2, bo_pI 5 40 0),
  (5, bo_ild 6 1),
  (6, bo_callS 9 1 0 0 F_M_isBundle),
  (9, bo_if1 12 18 (fun x => ¬ x = 0)),
  (12, bo_ald 13 0),
  (13, bo_st 14 (bg_push (.inl (.int 1)))),
  (14, bo_callV 17 2 0 0 40 F_M_raise),
  (17, bo_iret 0),
  (18, bo_ald 19 0),
  (19, bo_gR 22 40 1 41),
  (22, bo_ild 23 1),
  (23, bo_Iald bh_ak bh_al 24),
  (24, bo_if1 27 33 (fun x => ¬ x = 0)),
  (27, bo_ald 28 0),
  (28, bo_st 29 (bg_push (.inl (.int 2)))),
  (29, bo_callV 32 2 0 0 40 F_M_raise),
  (32, bo_iret 0),
  (33, bo_ald 34 0),
  (34, bo_gR 37 40 5 45),
  (37, bo_ild 38 1),
  (38, bo_st 39 (bg_push (.inl (.int 0)))),
  (39, bo_Zast bh_ak bh_al 40),
  (40, bo_ald 41 0),
  (41, bo_gR 44 40 1 41),
  (44, bo_ild 45 1),
  (45, bo_Iald bh_ak bh_al 46),
  (46, bo_st 47 (bg_push (.inl (.int 3)))),
  (47, bo_if2 50 58 (fun x y => ¬ x = y)),
  (50, bo_ald 51 0),
  (51, bo_ild 52 1),
  (52, bo_callV 55 2 0 0 40 F_M_stopping),
  (55, bo_go 59),
  (58, bo_st 59 (bg_push (.inl (.int 0)))),
  (59, bo_iret 0)]
def T_M_stop : List (Nat × bh_Op) := T_M_stop_0
set_option maxRecDepth 20000 in
theorem mT_M_stop_0 : ∀ q ∈ T_M_stop_0, bh_mono q.2 := List.forall_mem_cons.mpr ⟨bo_ald_m _ _, List.forall_mem_cons.mpr ⟨bo_st_mono (bg_push_m _), List.forall_mem_cons.mpr ⟨bo_pI_m _ _ _, List.forall_mem_cons.mpr ⟨bo_ild_m _ _, List.forall_mem_cons.mpr ⟨bo_callS_m (mF_M_isBundle) _ _ _ _, List.forall_mem_cons.mpr ⟨bo_if1_m _ _ _, List.forall_mem_cons.mpr ⟨bo_ald_m _ _, List.forall_mem_cons.mpr ⟨bo_st_mono (bg_push_m _), List.forall_mem_cons.mpr ⟨bo_callV_m (mF_M_raise) _ _ _ _ _, List.forall_mem_cons.mpr ⟨bo_iret_m _, List.forall_mem_cons.mpr ⟨bo_ald_m _ _, List.forall_mem_cons.mpr ⟨bo_gR_m _ _ _ _, List.forall_mem_cons.mpr ⟨bo_ild_m _ _, List.forall_mem_cons.mpr ⟨bo_Iald_m _ _ _, List.forall_mem_cons.mpr ⟨bo_if1_m _ _ _, List.forall_mem_cons.mpr ⟨bo_ald_m _ _, List.forall_mem_cons.mpr ⟨bo_st_mono (bg_push_m _), List.forall_mem_cons.mpr ⟨bo_callV_m (mF_M_raise) _ _ _ _ _, List.forall_mem_cons.mpr ⟨bo_iret_m _, List.forall_mem_cons.mpr ⟨bo_ald_m _ _, List.forall_mem_cons.mpr ⟨bo_gR_m _ _ _ _, List.forall_mem_cons.mpr ⟨bo_ild_m _ _, List.forall_mem_cons.mpr ⟨bo_st_mono (bg_push_m _), List.forall_mem_cons.mpr ⟨bo_Zast_m _ _ _, List.forall_mem_cons.mpr ⟨bo_ald_m _ _, List.forall_mem_cons.mpr ⟨bo_gR_m _ _ _ _, List.forall_mem_cons.mpr ⟨bo_ild_m _ _, List.forall_mem_cons.mpr ⟨bo_Iald_m _ _ _, List.forall_mem_cons.mpr ⟨bo_st_mono (bg_push_m _), List.forall_mem_cons.mpr ⟨bo_if2_m _ _ _, List.forall_mem_cons.mpr ⟨bo_ald_m _ _, List.forall_mem_cons.mpr ⟨bo_ild_m _ _, List.forall_mem_cons.mpr ⟨bo_callV_m (mF_M_stopping) _ _ _ _ _, List.forall_mem_cons.mpr ⟨bo_go_m _, List.forall_mem_cons.mpr ⟨bo_st_mono (bg_push_m _), List.forall_mem_cons.mpr ⟨bo_iret_m _, fun _ h => absurd h List.not_mem_nil⟩⟩⟩⟩⟩⟩⟩⟩⟩⟩⟩⟩⟩⟩⟩⟩⟩⟩⟩⟩⟩⟩⟩⟩⟩⟩⟩⟩⟩⟩⟩⟩⟩⟩⟩⟩
theorem m_M_stop : ∀ pc, bh_mono (bh_tb (T_M_stop) pc) := bh_tb_m mT_M_stop_0
def F_M_stop : bh_Fn := bh_fn 2 (bh_tb T_M_stop)
theorem mF_M_stop : bh_monoF F_M_stop := bh_fn_m m_M_stop
theorem cl_M_stop {s : State} {args : Array Value} (d B : Nat) (hts : ∀ w ∈ bh_ws, w.before args s = true) : bh_Cal (bh_rm (d + 1) B) s y_M_stop 2 (.code y_M_stop c_M_stop 2 (some .int) :: bh_ws) (bh_rm d 0) 0 1 := bh_cal d B hts wd_1037 wd_9 (by decide) (by decide +kernel)
set_option maxHeartbeats 4000000 in
set_option maxRecDepth 100000 in
theorem cn_M_stop {l : Launch} {G : bh_G} {base sb L : Nat} {xs : Nat → Int32} (htr : l.stackTraces = false) (d : Nat) : bh_Con l G base (bh_Bg G base sb L xs) y_M_stop (.code y_M_stop c_M_stop 2 (some .int) :: bh_ws) (bh_rm (d + 4) 0) 0 false F_M_stop := by
  refine bh_method (cc := c_M_stop) (ret := (some .int)) (by decide +kernel) rfl ?_
  intro p e s m args below meth c ad0 M0 Z X0 hr hlocks hname htab hbs hB
  obtain ⟨hx, hb, hml, hown, hts⟩ := id X0
  have hw : ∀ w ∈ bh_ws, w.before args s = true := fun w h => hts w (List.mem_cons_of_mem _ h)
  have hBg := bh_BgK (G := G) (base := base) (sb := sb) (L := L) (xs := xs)
  obtain ⟨hK, hAr, hen, hinj, hu1, hu2, hstr, hX, hsb, hsc, hxw, hao, hnc⟩ := id hB
  obtain ⟨ha1, ha2, ha3, ha4, ha5, ha6, ha0⟩ := bh_arr hAr
  exact List.forall_mem_cons.mpr ⟨fun S h => bs_aload_n (Z := Z) hx hb rfl d_M_stop_0 h, List.forall_mem_cons.mpr ⟨fun S h => bs_iconst (Z := Z) hx hb (by decide) d_M_stop_1 h, List.forall_mem_cons.mpr ⟨fun S h => bs_pI (Z := Z) (C := R_M) (T := F_M) (N := 40) (t := 40) (j := 0) hx hb hK hts (fun w h => List.mem_cons_of_mem _ (iw_M w h)) hown rfl rfl (by decide) (hts _ (List.mem_cons_of_mem _ wd_784)) (fun _ h => h) rfl rfl t_M t_M_ok n_M rfl (by decide +kernel) rfl d_M_stop_2 h, List.forall_mem_cons.mpr ⟨fun S h => bs_iload_n (Z := Z) hx hb rfl d_M_stop_5 h, List.forall_mem_cons.mpr ⟨fun S h => bs_callS (Z := Z) hBg hbs hB X0 (cn_M_isBundle htr (d + 1)) (cl_M_isBundle _ _ hw) (hts _ (List.mem_cons_of_mem _ wd_915)) (hts _ (List.mem_cons_of_mem _ wd_916)) (Nat.le_refl _) (Nat.le_refl _) d_M_stop_6 (bs_out htab hlocks) h, List.forall_mem_cons.mpr ⟨fun S h => bs_if_ne (Z := Z) hx hb d_M_stop_9 (by decide) h, List.forall_mem_cons.mpr ⟨fun S h => bs_aload_n (Z := Z) hx hb rfl d_M_stop_12 h, List.forall_mem_cons.mpr ⟨fun S h => bs_iconst (Z := Z) hx hb (by decide) d_M_stop_13 h, List.forall_mem_cons.mpr ⟨fun S h => bs_callV (Z := Z) (C := R_M) hBg hbs hB X0 hK (cn_M_raise htr (d + 2)) (cl_M_raise _ _ hw) (hts _ (List.mem_cons_of_mem _ wd_921)) (hts _ (List.mem_cons_of_mem _ wd_923)) (hts _ (List.mem_cons_of_mem _ ws_25)) rfl rfl rfl rfl rfl (Nat.le_refl _) (Nat.le_refl _) d_M_stop_14 (bs_out htab hlocks) h, List.forall_mem_cons.mpr ⟨fun S h => bs_iret (Z := Z) hx hb hr hlocks d_M_stop_17 h, List.forall_mem_cons.mpr ⟨fun S h => bs_aload_n (Z := Z) hx hb rfl d_M_stop_18 h, List.forall_mem_cons.mpr ⟨fun S h => bs_gR (Z := Z) (C := R_M) (T := F_M) (N := 40) (t := 40) (j := 1) hx hb hK hts (fun w h => List.mem_cons_of_mem _ (iw_M w h)) hown rfl rfl (by decide) (hts _ (List.mem_cons_of_mem _ wd_785)) (fun _ h => h) rfl rfl rfl d_M_stop_19 h, List.forall_mem_cons.mpr ⟨fun S h => bs_iload_n (Z := Z) hx hb rfl d_M_stop_22 h, List.forall_mem_cons.mpr ⟨fun S h => bs_Iald (Z := Z) hx hb ha1 d_M_stop_23 h, List.forall_mem_cons.mpr ⟨fun S h => bs_if_ne (Z := Z) hx hb d_M_stop_24 (by decide) h, List.forall_mem_cons.mpr ⟨fun S h => bs_aload_n (Z := Z) hx hb rfl d_M_stop_27 h, List.forall_mem_cons.mpr ⟨fun S h => bs_iconst (Z := Z) hx hb (by decide) d_M_stop_28 h, List.forall_mem_cons.mpr ⟨fun S h => bs_callV (Z := Z) (C := R_M) hBg hbs hB X0 hK (cn_M_raise htr (d + 2)) (cl_M_raise _ _ hw) (hts _ (List.mem_cons_of_mem _ wd_921)) (hts _ (List.mem_cons_of_mem _ wd_923)) (hts _ (List.mem_cons_of_mem _ ws_25)) rfl rfl rfl rfl rfl (Nat.le_refl _) (Nat.le_refl _) d_M_stop_29 (bs_out htab hlocks) h, List.forall_mem_cons.mpr ⟨fun S h => bs_iret (Z := Z) hx hb hr hlocks d_M_stop_32 h, List.forall_mem_cons.mpr ⟨fun S h => bs_aload_n (Z := Z) hx hb rfl d_M_stop_33 h, List.forall_mem_cons.mpr ⟨fun S h => bs_gR (Z := Z) (C := R_M) (T := F_M) (N := 40) (t := 40) (j := 5) hx hb hK hts (fun w h => List.mem_cons_of_mem _ (iw_M w h)) hown rfl rfl (by decide) (hts _ (List.mem_cons_of_mem _ wd_789)) (fun _ h => h) rfl rfl rfl d_M_stop_34 h, List.forall_mem_cons.mpr ⟨fun S h => bs_iload_n (Z := Z) hx hb rfl d_M_stop_37 h, List.forall_mem_cons.mpr ⟨fun S h => bs_iconst (Z := Z) hx hb (by decide) d_M_stop_38 h, List.forall_mem_cons.mpr ⟨fun S h => bs_Zast (Z := Z) hx hb ha2 d_M_stop_39 h, List.forall_mem_cons.mpr ⟨fun S h => bs_aload_n (Z := Z) hx hb rfl d_M_stop_40 h, List.forall_mem_cons.mpr ⟨fun S h => bs_gR (Z := Z) (C := R_M) (T := F_M) (N := 40) (t := 40) (j := 1) hx hb hK hts (fun w h => List.mem_cons_of_mem _ (iw_M w h)) hown rfl rfl (by decide) (hts _ (List.mem_cons_of_mem _ wd_785)) (fun _ h => h) rfl rfl rfl d_M_stop_41 h, List.forall_mem_cons.mpr ⟨fun S h => bs_iload_n (Z := Z) hx hb rfl d_M_stop_44 h, List.forall_mem_cons.mpr ⟨fun S h => bs_Iald (Z := Z) hx hb ha1 d_M_stop_45 h, List.forall_mem_cons.mpr ⟨fun S h => bs_iconst (Z := Z) hx hb (by decide) d_M_stop_46 h, List.forall_mem_cons.mpr ⟨fun S h => bs_icmp_ne (Z := Z) hx hb d_M_stop_47 (by decide) h, List.forall_mem_cons.mpr ⟨fun S h => bs_aload_n (Z := Z) hx hb rfl d_M_stop_50 h, List.forall_mem_cons.mpr ⟨fun S h => bs_iload_n (Z := Z) hx hb rfl d_M_stop_51 h, List.forall_mem_cons.mpr ⟨fun S h => bs_callV (Z := Z) (C := R_M) hBg hbs hB X0 hK (cn_M_stopping htr (d + 0)) (cl_M_stopping _ _ hw) (hts _ (List.mem_cons_of_mem _ wd_1038)) (hts _ (List.mem_cons_of_mem _ wd_1040)) (hts _ (List.mem_cons_of_mem _ ws_49)) rfl rfl rfl rfl rfl (Nat.le_refl _) (Nat.le_refl _) d_M_stop_52 (bs_out htab hlocks) h, List.forall_mem_cons.mpr ⟨fun S h => bs_goto (Z := Z) hx hb d_M_stop_55 (by decide) h, List.forall_mem_cons.mpr ⟨fun S h => bs_iconst (Z := Z) hx hb (by decide) d_M_stop_58 h, List.forall_mem_cons.mpr ⟨fun S h => bs_iret (Z := Z) hx hb hr hlocks d_M_stop_59 h, fun _ h => absurd h List.not_mem_nil⟩⟩⟩⟩⟩⟩⟩⟩⟩⟩⟩⟩⟩⟩⟩⟩⟩⟩⟩⟩⟩⟩⟩⟩⟩⟩⟩⟩⟩⟩⟩⟩⟩⟩⟩⟩
abbrev c_M_level : ByteArray := prog_10_method_38_code
def y_M_level : MethodName := ⟨"BundleHallModel", "level", "(I)I"⟩
theorem d_M_level_0 : decode c_M_level 0 = .ok (.aload_n 0, 1) := by decide +kernel
theorem d_M_level_1 : decode c_M_level 1 = .ok (.iconst 0, 1) := by decide +kernel
theorem d_M_level_2 : decode c_M_level 2 = .ok (.putfield 109, 3) := by decide +kernel
theorem d_M_level_5 : decode c_M_level 5 = .ok (.iload_n 1, 1) := by decide +kernel
theorem d_M_level_6 : decode c_M_level 6 = .ok (.iconst 1, 1) := by decide +kernel
theorem d_M_level_7 : decode c_M_level 7 = .ok (.iconst 5, 1) := by decide +kernel
theorem d_M_level_8 : decode c_M_level 8 = .ok (.invokestatic 112, 3) := by decide +kernel
theorem d_M_level_11 : decode c_M_level 11 = .ok (.ifCond .ne 9, 3) := by decide +kernel
theorem d_M_level_14 : decode c_M_level 14 = .ok (.aload_n 0, 1) := by decide +kernel
theorem d_M_level_15 : decode c_M_level 15 = .ok (.iconst 1, 1) := by decide +kernel
theorem d_M_level_16 : decode c_M_level 16 = .ok (.invokevirtual 130, 3) := by decide +kernel
theorem d_M_level_19 : decode c_M_level 19 = .ok (.ireturn, 1) := by decide +kernel
theorem d_M_level_20 : decode c_M_level 20 = .ok (.iconst 0, 1) := by decide +kernel
theorem d_M_level_21 : decode c_M_level 21 = .ok (.istore_n 2, 1) := by decide +kernel
theorem d_M_level_22 : decode c_M_level 22 = .ok (.aload_n 0, 1) := by decide +kernel
theorem d_M_level_23 : decode c_M_level 23 = .ok (.getfield 103, 3) := by decide +kernel
theorem d_M_level_26 : decode c_M_level 26 = .ok (.iconst 1, 1) := by decide +kernel
theorem d_M_level_27 : decode c_M_level 27 = .ok (.iadd, 1) := by decide +kernel
theorem d_M_level_28 : decode c_M_level 28 = .ok (.istore_n 3, 1) := by decide +kernel
theorem d_M_level_29 : decode c_M_level 29 = .ok (.iload_n 3, 1) := by decide +kernel
theorem d_M_level_30 : decode c_M_level 30 = .ok (.iload_n 1, 1) := by decide +kernel
theorem d_M_level_31 : decode c_M_level 31 = .ok (.if_icmp .gt 73, 3) := by decide +kernel
theorem d_M_level_34 : decode c_M_level 34 = .ok (.iconst 0, 1) := by decide +kernel
theorem d_M_level_35 : decode c_M_level 35 = .ok (.istore 4, 2) := by decide +kernel
theorem d_M_level_37 : decode c_M_level 37 = .ok (.iload 4, 2) := by decide +kernel
theorem d_M_level_39 : decode c_M_level 39 = .ok (.bipush 8, 2) := by decide +kernel
theorem d_M_level_41 : decode c_M_level 41 = .ok (.if_icmp .ge 57, 3) := by decide +kernel
theorem d_M_level_44 : decode c_M_level 44 = .ok (.aload_n 0, 1) := by decide +kernel
theorem d_M_level_45 : decode c_M_level 45 = .ok (.getfield 7, 3) := by decide +kernel
theorem d_M_level_48 : decode c_M_level 48 = .ok (.iload 4, 2) := by decide +kernel
theorem d_M_level_50 : decode c_M_level 50 = .ok (.iaload, 1) := by decide +kernel
theorem d_M_level_51 : decode c_M_level 51 = .ok (.iconst 1, 1) := by decide +kernel
theorem d_M_level_52 : decode c_M_level 52 = .ok (.iconst 2, 1) := by decide +kernel
theorem d_M_level_53 : decode c_M_level 53 = .ok (.invokestatic 112, 3) := by decide +kernel
theorem d_M_level_56 : decode c_M_level 56 = .ok (.ifCond .eq 36, 3) := by decide +kernel
theorem d_M_level_59 : decode c_M_level 59 = .ok (.aload_n 0, 1) := by decide +kernel
theorem d_M_level_60 : decode c_M_level 60 = .ok (.getfield 22, 3) := by decide +kernel
theorem d_M_level_63 : decode c_M_level 63 = .ok (.iload 4, 2) := by decide +kernel
theorem d_M_level_65 : decode c_M_level 65 = .ok (.baload, 1) := by decide +kernel
theorem d_M_level_66 : decode c_M_level 66 = .ok (.ifCond .eq 26, 3) := by decide +kernel
theorem d_M_level_69 : decode c_M_level 69 = .ok (.aload_n 0, 1) := by decide +kernel
theorem d_M_level_70 : decode c_M_level 70 = .ok (.getfield 16, 3) := by decide +kernel
theorem d_M_level_73 : decode c_M_level 73 = .ok (.iload 4, 2) := by decide +kernel
theorem d_M_level_75 : decode c_M_level 75 = .ok (.iaload, 1) := by decide +kernel
theorem d_M_level_76 : decode c_M_level 76 = .ok (.iload_n 3, 1) := by decide +kernel
theorem d_M_level_77 : decode c_M_level 77 = .ok (.if_icmp .ne 15, 3) := by decide +kernel
theorem d_M_level_80 : decode c_M_level 80 = .ok (.aload_n 0, 1) := by decide +kernel
theorem d_M_level_81 : decode c_M_level 81 = .ok (.iload 4, 2) := by decide +kernel
theorem d_M_level_83 : decode c_M_level 83 = .ok (.invokevirtual 232, 3) := by decide +kernel
theorem d_M_level_86 : decode c_M_level 86 = .ok (.ifCond .ne 6, 3) := by decide +kernel
theorem d_M_level_89 : decode c_M_level 89 = .ok (.iinc 2 1, 3) := by decide +kernel
theorem d_M_level_92 : decode c_M_level 92 = .ok (.iinc 4 1, 3) := by decide +kernel
theorem d_M_level_95 : decode c_M_level 95 = .ok (.goto (-58), 3) := by decide +kernel
theorem d_M_level_98 : decode c_M_level 98 = .ok (.iinc 3 1, 3) := by decide +kernel
theorem d_M_level_101 : decode c_M_level 101 = .ok (.goto (-72), 3) := by decide +kernel
theorem d_M_level_104 : decode c_M_level 104 = .ok (.aload_n 0, 1) := by decide +kernel
theorem d_M_level_105 : decode c_M_level 105 = .ok (.getfield 103, 3) := by decide +kernel
theorem d_M_level_108 : decode c_M_level 108 = .ok (.istore_n 3, 1) := by decide +kernel
theorem d_M_level_109 : decode c_M_level 109 = .ok (.iload_n 3, 1) := by decide +kernel
theorem d_M_level_110 : decode c_M_level 110 = .ok (.iload_n 1, 1) := by decide +kernel
theorem d_M_level_111 : decode c_M_level 111 = .ok (.if_icmp .le 59, 3) := by decide +kernel
theorem d_M_level_114 : decode c_M_level 114 = .ok (.bipush 7, 2) := by decide +kernel
theorem d_M_level_116 : decode c_M_level 116 = .ok (.istore 4, 2) := by decide +kernel
theorem d_M_level_118 : decode c_M_level 118 = .ok (.iload 4, 2) := by decide +kernel
theorem d_M_level_120 : decode c_M_level 120 = .ok (.ifCond .lt 44, 3) := by decide +kernel
theorem d_M_level_123 : decode c_M_level 123 = .ok (.aload_n 0, 1) := by decide +kernel
theorem d_M_level_124 : decode c_M_level 124 = .ok (.getfield 7, 3) := by decide +kernel
theorem d_M_level_127 : decode c_M_level 127 = .ok (.iload 4, 2) := by decide +kernel
theorem d_M_level_129 : decode c_M_level 129 = .ok (.iaload, 1) := by decide +kernel
theorem d_M_level_130 : decode c_M_level 130 = .ok (.iconst 3, 1) := by decide +kernel
theorem d_M_level_131 : decode c_M_level 131 = .ok (.if_icmp .ne 27, 3) := by decide +kernel
theorem d_M_level_134 : decode c_M_level 134 = .ok (.aload_n 0, 1) := by decide +kernel
theorem d_M_level_135 : decode c_M_level 135 = .ok (.getfield 16, 3) := by decide +kernel
theorem d_M_level_138 : decode c_M_level 138 = .ok (.iload 4, 2) := by decide +kernel
theorem d_M_level_140 : decode c_M_level 140 = .ok (.iaload, 1) := by decide +kernel
theorem d_M_level_141 : decode c_M_level 141 = .ok (.iload_n 3, 1) := by decide +kernel
theorem d_M_level_142 : decode c_M_level 142 = .ok (.if_icmp .eq 6, 3) := by decide +kernel
theorem d_M_level_145 : decode c_M_level 145 = .ok (.goto 13, 3) := by decide +kernel
theorem d_M_level_148 : decode c_M_level 148 = .ok (.aload_n 0, 1) := by decide +kernel
theorem d_M_level_149 : decode c_M_level 149 = .ok (.iload 4, 2) := by decide +kernel
theorem d_M_level_151 : decode c_M_level 151 = .ok (.invokevirtual 235, 3) := by decide +kernel
theorem d_M_level_154 : decode c_M_level 154 = .ok (.pop, 1) := by decide +kernel
theorem d_M_level_155 : decode c_M_level 155 = .ok (.iinc 2 1, 3) := by decide +kernel
theorem d_M_level_158 : decode c_M_level 158 = .ok (.iinc 4 (-1), 3) := by decide +kernel
theorem d_M_level_161 : decode c_M_level 161 = .ok (.goto (-43), 3) := by decide +kernel
theorem d_M_level_164 : decode c_M_level 164 = .ok (.iinc 3 (-1), 3) := by decide +kernel
theorem d_M_level_167 : decode c_M_level 167 = .ok (.goto (-58), 3) := by decide +kernel
theorem d_M_level_170 : decode c_M_level 170 = .ok (.aload_n 0, 1) := by decide +kernel
theorem d_M_level_171 : decode c_M_level 171 = .ok (.iload_n 1, 1) := by decide +kernel
theorem d_M_level_172 : decode c_M_level 172 = .ok (.putfield 103, 3) := by decide +kernel
theorem d_M_level_175 : decode c_M_level 175 = .ok (.iload_n 2, 1) := by decide +kernel
theorem d_M_level_176 : decode c_M_level 176 = .ok (.ireturn, 1) := by decide +kernel
def T_M_level_0 : List (Nat × bh_Op) := [(0, bo_ald 1 0),
  (1, bo_st 2 (bg_push (.inl (.int 0)))),
  (2, bo_pI 5 40 0),
  (5, bo_ild 6 1),
  (6, bo_st 7 (bg_push (.inl (.int 1)))),
  (7, bo_st 8 (bg_push (.inl (.int 5)))),
  (8, bo_callS 11 3 0 0 F_M_in),
  (11, bo_if1 14 20 (fun x => ¬ x = 0)),
  (14, bo_ald 15 0),
  (15, bo_st 16 (bg_push (.inl (.int 1)))),
  (16, bo_callV 19 2 0 0 40 F_M_raise),
  (19, bo_iret 0),
  (20, bo_st 21 (bg_push (.inl (.int 0)))),
  (21, bo_ist 22 2),
  (22, bo_ald 23 0),
  (23, bo_gI 26 40 39),
  (26, bo_st 27 (bg_push (.inl (.int 1)))),
  (27, bo_st 28 (bg_ii (fun x y => x + y))),
  (28, bo_ist 29 3),
  (29, bo_ild 30 3),
  (30, bo_ild 31 1),
  (31, bo_if2 34 104 (fun x y => y < x)),
  (34, bo_st 35 (bg_push (.inl (.int 0)))),
  (35, bo_ist 37 4),
  (37, bo_ild 39 4),
  (39, bo_st 41 (bg_push (.inl (.int 8)))),
  (41, bo_if2 44 98 (fun x y => y ≤ x)),
  (44, bo_ald 45 0),
  (45, bo_gR 48 40 1 41),
  (48, bo_ild 50 4),
  (50, bo_Iald bh_ak bh_al 51),
  (51, bo_st 52 (bg_push (.inl (.int 1)))),
  (52, bo_st 53 (bg_push (.inl (.int 2)))),
  (53, bo_callS 56 3 0 0 F_M_in),
  (56, bo_if1 59 92 (fun x => x = 0)),
  (59, bo_ald 60 0),
  (60, bo_gR 63 40 5 45),
  (63, bo_ild 65 4),
  (65, bo_Zald bh_ak bh_al 66),
  (66, bo_if1 69 92 (fun x => x = 0))]
def T_M_level_1 : List (Nat × bh_Op) := [(69, bo_ald 70 0),
  (70, bo_gR 73 40 3 43),
  (73, bo_ild 75 4),
  (75, bo_Iald bh_ak bh_al 76),
  (76, bo_ild 77 3),
  (77, bo_if2 80 92 (fun x y => ¬ x = y)),
  (80, bo_ald 81 0),
  (81, bo_ild 83 4),
  (83, bo_callV 86 2 0 0 40 F_M_starting),
  (86, bo_if1 89 92 (fun x => ¬ x = 0)),
  (89, bo_inc 92 2 1),
  (92, bo_inc 95 4 1),
  (95, bo_go 37),
  (98, bo_inc 101 3 1),
  (101, bo_go 29),
  (104, bo_ald 105 0),
  (105, bo_gI 108 40 39),
  (108, bo_ist 109 3),
  (109, bo_ild 110 3),
  (110, bo_ild 111 1),
  (111, bo_if2 114 170 (fun x y => x ≤ y)),
  (114, bo_st 116 (bg_push (.inl (.int 7)))),
  (116, bo_ist 118 4),
  (118, bo_ild 120 4),
  (120, bo_if1 123 164 (fun x => x < 0)),
  (123, bo_ald 124 0),
  (124, bo_gR 127 40 1 41),
  (127, bo_ild 129 4),
  (129, bo_Iald bh_ak bh_al 130),
  (130, bo_st 131 (bg_push (.inl (.int 3)))),
  (131, bo_if2 134 158 (fun x y => ¬ x = y)),
  (134, bo_ald 135 0),
  (135, bo_gR 138 40 3 43),
  (138, bo_ild 140 4),
  (140, bo_Iald bh_ak bh_al 141),
  (141, bo_ild 142 3),
  (142, bo_if2 145 148 (fun x y => x = y)),
  (145, bo_go 158),
  (148, bo_ald 149 0),
  (149, bo_ild 151 4)]
def T_M_level_2 : List (Nat × bh_Op) := [(151, bo_callV 154 2 0 0 40 F_M_stopping),
  (154, bo_st 155 bg_pop),
  (155, bo_inc 158 2 1),
  (158, bo_inc 161 4 (-1)),
  (161, bo_go 118),
  (164, bo_inc 167 3 (-1)),
  (167, bo_go 109),
  (170, bo_ald 171 0),
  (171, bo_ild 172 1),
  (172, bo_pI 175 40 39),
  (175, bo_ild 176 2),
  (176, bo_iret 0)]
def T_M_level : List (Nat × bh_Op) := T_M_level_0 ++ T_M_level_1 ++ T_M_level_2
set_option maxRecDepth 20000 in
theorem mT_M_level_0 : ∀ q ∈ T_M_level_0, bh_mono q.2 := List.forall_mem_cons.mpr ⟨bo_ald_m _ _, List.forall_mem_cons.mpr ⟨bo_st_mono (bg_push_m _), List.forall_mem_cons.mpr ⟨bo_pI_m _ _ _, List.forall_mem_cons.mpr ⟨bo_ild_m _ _, List.forall_mem_cons.mpr ⟨bo_st_mono (bg_push_m _), List.forall_mem_cons.mpr ⟨bo_st_mono (bg_push_m _), List.forall_mem_cons.mpr ⟨bo_callS_m (mF_M_in) _ _ _ _, List.forall_mem_cons.mpr ⟨bo_if1_m _ _ _, List.forall_mem_cons.mpr ⟨bo_ald_m _ _, List.forall_mem_cons.mpr ⟨bo_st_mono (bg_push_m _), List.forall_mem_cons.mpr ⟨bo_callV_m (mF_M_raise) _ _ _ _ _, List.forall_mem_cons.mpr ⟨bo_iret_m _, List.forall_mem_cons.mpr ⟨bo_st_mono (bg_push_m _), List.forall_mem_cons.mpr ⟨bo_ist_m _ _, List.forall_mem_cons.mpr ⟨bo_ald_m _ _, List.forall_mem_cons.mpr ⟨bo_gI_m _ _ _, List.forall_mem_cons.mpr ⟨bo_st_mono (bg_push_m _), List.forall_mem_cons.mpr ⟨bo_st_mono (bg_ii_m _), List.forall_mem_cons.mpr ⟨bo_ist_m _ _, List.forall_mem_cons.mpr ⟨bo_ild_m _ _, List.forall_mem_cons.mpr ⟨bo_ild_m _ _, List.forall_mem_cons.mpr ⟨bo_if2_m _ _ _, List.forall_mem_cons.mpr ⟨bo_st_mono (bg_push_m _), List.forall_mem_cons.mpr ⟨bo_ist_m _ _, List.forall_mem_cons.mpr ⟨bo_ild_m _ _, List.forall_mem_cons.mpr ⟨bo_st_mono (bg_push_m _), List.forall_mem_cons.mpr ⟨bo_if2_m _ _ _, List.forall_mem_cons.mpr ⟨bo_ald_m _ _, List.forall_mem_cons.mpr ⟨bo_gR_m _ _ _ _, List.forall_mem_cons.mpr ⟨bo_ild_m _ _, List.forall_mem_cons.mpr ⟨bo_Iald_m _ _ _, List.forall_mem_cons.mpr ⟨bo_st_mono (bg_push_m _), List.forall_mem_cons.mpr ⟨bo_st_mono (bg_push_m _), List.forall_mem_cons.mpr ⟨bo_callS_m (mF_M_in) _ _ _ _, List.forall_mem_cons.mpr ⟨bo_if1_m _ _ _, List.forall_mem_cons.mpr ⟨bo_ald_m _ _, List.forall_mem_cons.mpr ⟨bo_gR_m _ _ _ _, List.forall_mem_cons.mpr ⟨bo_ild_m _ _, List.forall_mem_cons.mpr ⟨bo_Zald_m _ _ _, List.forall_mem_cons.mpr ⟨bo_if1_m _ _ _, fun _ h => absurd h List.not_mem_nil⟩⟩⟩⟩⟩⟩⟩⟩⟩⟩⟩⟩⟩⟩⟩⟩⟩⟩⟩⟩⟩⟩⟩⟩⟩⟩⟩⟩⟩⟩⟩⟩⟩⟩⟩⟩⟩⟩⟩⟩
set_option maxRecDepth 20000 in
theorem mT_M_level_1 : ∀ q ∈ T_M_level_1, bh_mono q.2 := List.forall_mem_cons.mpr ⟨bo_ald_m _ _, List.forall_mem_cons.mpr ⟨bo_gR_m _ _ _ _, List.forall_mem_cons.mpr ⟨bo_ild_m _ _, List.forall_mem_cons.mpr ⟨bo_Iald_m _ _ _, List.forall_mem_cons.mpr ⟨bo_ild_m _ _, List.forall_mem_cons.mpr ⟨bo_if2_m _ _ _, List.forall_mem_cons.mpr ⟨bo_ald_m _ _, List.forall_mem_cons.mpr ⟨bo_ild_m _ _, List.forall_mem_cons.mpr ⟨bo_callV_m (mF_M_starting) _ _ _ _ _, List.forall_mem_cons.mpr ⟨bo_if1_m _ _ _, List.forall_mem_cons.mpr ⟨bo_inc_m _ _ _, List.forall_mem_cons.mpr ⟨bo_inc_m _ _ _, List.forall_mem_cons.mpr ⟨bo_go_m _, List.forall_mem_cons.mpr ⟨bo_inc_m _ _ _, List.forall_mem_cons.mpr ⟨bo_go_m _, List.forall_mem_cons.mpr ⟨bo_ald_m _ _, List.forall_mem_cons.mpr ⟨bo_gI_m _ _ _, List.forall_mem_cons.mpr ⟨bo_ist_m _ _, List.forall_mem_cons.mpr ⟨bo_ild_m _ _, List.forall_mem_cons.mpr ⟨bo_ild_m _ _, List.forall_mem_cons.mpr ⟨bo_if2_m _ _ _, List.forall_mem_cons.mpr ⟨bo_st_mono (bg_push_m _), List.forall_mem_cons.mpr ⟨bo_ist_m _ _, List.forall_mem_cons.mpr ⟨bo_ild_m _ _, List.forall_mem_cons.mpr ⟨bo_if1_m _ _ _, List.forall_mem_cons.mpr ⟨bo_ald_m _ _, List.forall_mem_cons.mpr ⟨bo_gR_m _ _ _ _, List.forall_mem_cons.mpr ⟨bo_ild_m _ _, List.forall_mem_cons.mpr ⟨bo_Iald_m _ _ _, List.forall_mem_cons.mpr ⟨bo_st_mono (bg_push_m _), List.forall_mem_cons.mpr ⟨bo_if2_m _ _ _, List.forall_mem_cons.mpr ⟨bo_ald_m _ _, List.forall_mem_cons.mpr ⟨bo_gR_m _ _ _ _, List.forall_mem_cons.mpr ⟨bo_ild_m _ _, List.forall_mem_cons.mpr ⟨bo_Iald_m _ _ _, List.forall_mem_cons.mpr ⟨bo_ild_m _ _, List.forall_mem_cons.mpr ⟨bo_if2_m _ _ _, List.forall_mem_cons.mpr ⟨bo_go_m _, List.forall_mem_cons.mpr ⟨bo_ald_m _ _, List.forall_mem_cons.mpr ⟨bo_ild_m _ _, fun _ h => absurd h List.not_mem_nil⟩⟩⟩⟩⟩⟩⟩⟩⟩⟩⟩⟩⟩⟩⟩⟩⟩⟩⟩⟩⟩⟩⟩⟩⟩⟩⟩⟩⟩⟩⟩⟩⟩⟩⟩⟩⟩⟩⟩⟩
set_option maxRecDepth 20000 in
theorem mT_M_level_2 : ∀ q ∈ T_M_level_2, bh_mono q.2 := List.forall_mem_cons.mpr ⟨bo_callV_m (mF_M_stopping) _ _ _ _ _, List.forall_mem_cons.mpr ⟨bo_st_mono bg_pop_m, List.forall_mem_cons.mpr ⟨bo_inc_m _ _ _, List.forall_mem_cons.mpr ⟨bo_inc_m _ _ _, List.forall_mem_cons.mpr ⟨bo_go_m _, List.forall_mem_cons.mpr ⟨bo_inc_m _ _ _, List.forall_mem_cons.mpr ⟨bo_go_m _, List.forall_mem_cons.mpr ⟨bo_ald_m _ _, List.forall_mem_cons.mpr ⟨bo_ild_m _ _, List.forall_mem_cons.mpr ⟨bo_pI_m _ _ _, List.forall_mem_cons.mpr ⟨bo_ild_m _ _, List.forall_mem_cons.mpr ⟨bo_iret_m _, fun _ h => absurd h List.not_mem_nil⟩⟩⟩⟩⟩⟩⟩⟩⟩⟩⟩⟩
theorem m_M_level : ∀ pc, bh_mono (bh_tb (T_M_level) pc) := bh_tb_m (List.forall_mem_append.mpr ⟨(List.forall_mem_append.mpr ⟨mT_M_level_0, mT_M_level_1⟩), mT_M_level_2⟩)
def F_M_level : bh_Fn := bh_fn 5 (bh_tb T_M_level)
theorem mF_M_level : bh_monoF F_M_level := bh_fn_m m_M_level
theorem cl_M_level {s : State} {args : Array Value} (d B : Nat) (hts : ∀ w ∈ bh_ws, w.before args s = true) : bh_Cal (bh_rm (d + 1) B) s y_M_level 5 (.code y_M_level c_M_level 5 (some .int) :: bh_ws) (bh_rm d 0) 0 1 := bh_cal d B hts wd_1053 wd_9 (by decide) (by decide +kernel)
set_option maxHeartbeats 4000000 in
set_option maxRecDepth 100000 in
theorem cn_M_level {l : Launch} {G : bh_G} {base sb L : Nat} {xs : Nat → Int32} (htr : l.stackTraces = false) (d : Nat) : bh_Con l G base (bh_Bg G base sb L xs) y_M_level (.code y_M_level c_M_level 5 (some .int) :: bh_ws) (bh_rm (d + 8) 0) 0 false F_M_level := by
  refine bh_method (cc := c_M_level) (ret := (some .int)) (by decide +kernel) rfl ?_
  intro p e s m args below meth c ad0 M0 Z X0 hr hlocks hname htab hbs hB
  obtain ⟨hx, hb, hml, hown, hts⟩ := id X0
  have hw : ∀ w ∈ bh_ws, w.before args s = true := fun w h => hts w (List.mem_cons_of_mem _ h)
  have hBg := bh_BgK (G := G) (base := base) (sb := sb) (L := L) (xs := xs)
  obtain ⟨hK, hAr, hen, hinj, hu1, hu2, hstr, hX, hsb, hsc, hxw, hao, hnc⟩ := id hB
  obtain ⟨ha1, ha2, ha3, ha4, ha5, ha6, ha0⟩ := bh_arr hAr
  refine List.forall_mem_append.mpr ⟨?_, List.forall_mem_cons.mpr ⟨fun S h => bs_callV (Z := Z) (C := R_M) hBg hbs hB X0 hK (cn_M_stopping htr (d + 4)) (cl_M_stopping _ _ hw) (hts _ (List.mem_cons_of_mem _ wd_1038)) (hts _ (List.mem_cons_of_mem _ wd_1040)) (hts _ (List.mem_cons_of_mem _ ws_49)) rfl rfl rfl rfl rfl (Nat.le_refl _) (Nat.le_refl _) d_M_level_151 (bs_out htab hlocks) h, List.forall_mem_cons.mpr ⟨fun S h => bs_pop (Z := Z) hx hb d_M_level_154 h, List.forall_mem_cons.mpr ⟨fun S h => bs_iinc (Z := Z) hx hb (by decide) d_M_level_155 h, List.forall_mem_cons.mpr ⟨fun S h => bs_iinc (Z := Z) hx hb (by decide) d_M_level_158 h, List.forall_mem_cons.mpr ⟨fun S h => bs_goto (Z := Z) hx hb d_M_level_161 (by decide) h, List.forall_mem_cons.mpr ⟨fun S h => bs_iinc (Z := Z) hx hb (by decide) d_M_level_164 h, List.forall_mem_cons.mpr ⟨fun S h => bs_goto (Z := Z) hx hb d_M_level_167 (by decide) h, List.forall_mem_cons.mpr ⟨fun S h => bs_aload_n (Z := Z) hx hb rfl d_M_level_170 h, List.forall_mem_cons.mpr ⟨fun S h => bs_iload_n (Z := Z) hx hb rfl d_M_level_171 h, List.forall_mem_cons.mpr ⟨fun S h => bs_pI (Z := Z) (C := R_M) (T := F_M) (N := 40) (t := 40) (j := 39) hx hb hK hts (fun w h => List.mem_cons_of_mem _ (iw_M w h)) hown rfl rfl (by decide) (hts _ (List.mem_cons_of_mem _ wd_823)) (fun _ h => h) rfl rfl t_M t_M_ok n_M rfl (by decide +kernel) rfl d_M_level_172 h, List.forall_mem_cons.mpr ⟨fun S h => bs_iload_n (Z := Z) hx hb rfl d_M_level_175 h, List.forall_mem_cons.mpr ⟨fun S h => bs_iret (Z := Z) hx hb hr hlocks d_M_level_176 h, fun _ h => absurd h List.not_mem_nil⟩⟩⟩⟩⟩⟩⟩⟩⟩⟩⟩⟩⟩
  refine List.forall_mem_append.mpr ⟨?_, List.forall_mem_cons.mpr ⟨fun S h => bs_aload_n (Z := Z) hx hb rfl d_M_level_69 h, List.forall_mem_cons.mpr ⟨fun S h => bs_gR (Z := Z) (C := R_M) (T := F_M) (N := 40) (t := 40) (j := 3) hx hb hK hts (fun w h => List.mem_cons_of_mem _ (iw_M w h)) hown rfl rfl (by decide) (hts _ (List.mem_cons_of_mem _ wd_787)) (fun _ h => h) rfl rfl rfl d_M_level_70 h, List.forall_mem_cons.mpr ⟨fun S h => bs_iload (Z := Z) hx hb d_M_level_73 h, List.forall_mem_cons.mpr ⟨fun S h => bs_Iald (Z := Z) hx hb ha1 d_M_level_75 h, List.forall_mem_cons.mpr ⟨fun S h => bs_iload_n (Z := Z) hx hb rfl d_M_level_76 h, List.forall_mem_cons.mpr ⟨fun S h => bs_icmp_ne (Z := Z) hx hb d_M_level_77 (by decide) h, List.forall_mem_cons.mpr ⟨fun S h => bs_aload_n (Z := Z) hx hb rfl d_M_level_80 h, List.forall_mem_cons.mpr ⟨fun S h => bs_iload (Z := Z) hx hb d_M_level_81 h, List.forall_mem_cons.mpr ⟨fun S h => bs_callV (Z := Z) (C := R_M) hBg hbs hB X0 hK (cn_M_starting htr (d + 0)) (cl_M_starting _ _ hw) (hts _ (List.mem_cons_of_mem _ wd_1014)) (hts _ (List.mem_cons_of_mem _ wd_1016)) (hts _ (List.mem_cons_of_mem _ ws_44)) rfl rfl rfl rfl rfl (Nat.le_refl _) (Nat.le_refl _) d_M_level_83 (bs_out htab hlocks) h, List.forall_mem_cons.mpr ⟨fun S h => bs_if_ne (Z := Z) hx hb d_M_level_86 (by decide) h, List.forall_mem_cons.mpr ⟨fun S h => bs_iinc (Z := Z) hx hb (by decide) d_M_level_89 h, List.forall_mem_cons.mpr ⟨fun S h => bs_iinc (Z := Z) hx hb (by decide) d_M_level_92 h, List.forall_mem_cons.mpr ⟨fun S h => bs_goto (Z := Z) hx hb d_M_level_95 (by decide) h, List.forall_mem_cons.mpr ⟨fun S h => bs_iinc (Z := Z) hx hb (by decide) d_M_level_98 h, List.forall_mem_cons.mpr ⟨fun S h => bs_goto (Z := Z) hx hb d_M_level_101 (by decide) h, List.forall_mem_cons.mpr ⟨fun S h => bs_aload_n (Z := Z) hx hb rfl d_M_level_104 h, List.forall_mem_cons.mpr ⟨fun S h => bs_gI (Z := Z) (C := R_M) (T := F_M) (N := 40) (t := 40) (j := 39) hx hb hK hts (fun w h => List.mem_cons_of_mem _ (iw_M w h)) hown rfl rfl (by decide) (hts _ (List.mem_cons_of_mem _ wd_823)) (fun _ h => h) rfl rfl rfl d_M_level_105 h, List.forall_mem_cons.mpr ⟨fun S h => bs_istore_n (Z := Z) hx hb rfl d_M_level_108 h, List.forall_mem_cons.mpr ⟨fun S h => bs_iload_n (Z := Z) hx hb rfl d_M_level_109 h, List.forall_mem_cons.mpr ⟨fun S h => bs_iload_n (Z := Z) hx hb rfl d_M_level_110 h, List.forall_mem_cons.mpr ⟨fun S h => bs_icmp_le (Z := Z) hx hb d_M_level_111 (by decide) h, List.forall_mem_cons.mpr ⟨fun S h => bs_bipush (Z := Z) hx hb (by decide) d_M_level_114 h, List.forall_mem_cons.mpr ⟨fun S h => bs_istore (Z := Z) hx hb d_M_level_116 h, List.forall_mem_cons.mpr ⟨fun S h => bs_iload (Z := Z) hx hb d_M_level_118 h, List.forall_mem_cons.mpr ⟨fun S h => bs_if_lt (Z := Z) hx hb d_M_level_120 (by decide) h, List.forall_mem_cons.mpr ⟨fun S h => bs_aload_n (Z := Z) hx hb rfl d_M_level_123 h, List.forall_mem_cons.mpr ⟨fun S h => bs_gR (Z := Z) (C := R_M) (T := F_M) (N := 40) (t := 40) (j := 1) hx hb hK hts (fun w h => List.mem_cons_of_mem _ (iw_M w h)) hown rfl rfl (by decide) (hts _ (List.mem_cons_of_mem _ wd_785)) (fun _ h => h) rfl rfl rfl d_M_level_124 h, List.forall_mem_cons.mpr ⟨fun S h => bs_iload (Z := Z) hx hb d_M_level_127 h, List.forall_mem_cons.mpr ⟨fun S h => bs_Iald (Z := Z) hx hb ha1 d_M_level_129 h, List.forall_mem_cons.mpr ⟨fun S h => bs_iconst (Z := Z) hx hb (by decide) d_M_level_130 h, List.forall_mem_cons.mpr ⟨fun S h => bs_icmp_ne (Z := Z) hx hb d_M_level_131 (by decide) h, List.forall_mem_cons.mpr ⟨fun S h => bs_aload_n (Z := Z) hx hb rfl d_M_level_134 h, List.forall_mem_cons.mpr ⟨fun S h => bs_gR (Z := Z) (C := R_M) (T := F_M) (N := 40) (t := 40) (j := 3) hx hb hK hts (fun w h => List.mem_cons_of_mem _ (iw_M w h)) hown rfl rfl (by decide) (hts _ (List.mem_cons_of_mem _ wd_787)) (fun _ h => h) rfl rfl rfl d_M_level_135 h, List.forall_mem_cons.mpr ⟨fun S h => bs_iload (Z := Z) hx hb d_M_level_138 h, List.forall_mem_cons.mpr ⟨fun S h => bs_Iald (Z := Z) hx hb ha1 d_M_level_140 h, List.forall_mem_cons.mpr ⟨fun S h => bs_iload_n (Z := Z) hx hb rfl d_M_level_141 h, List.forall_mem_cons.mpr ⟨fun S h => bs_icmp_eq (Z := Z) hx hb d_M_level_142 (by decide) h, List.forall_mem_cons.mpr ⟨fun S h => bs_goto (Z := Z) hx hb d_M_level_145 (by decide) h, List.forall_mem_cons.mpr ⟨fun S h => bs_aload_n (Z := Z) hx hb rfl d_M_level_148 h, List.forall_mem_cons.mpr ⟨fun S h => bs_iload (Z := Z) hx hb d_M_level_149 h, fun _ h => absurd h List.not_mem_nil⟩⟩⟩⟩⟩⟩⟩⟩⟩⟩⟩⟩⟩⟩⟩⟩⟩⟩⟩⟩⟩⟩⟩⟩⟩⟩⟩⟩⟩⟩⟩⟩⟩⟩⟩⟩⟩⟩⟩⟩⟩
  exact List.forall_mem_cons.mpr ⟨fun S h => bs_aload_n (Z := Z) hx hb rfl d_M_level_0 h, List.forall_mem_cons.mpr ⟨fun S h => bs_iconst (Z := Z) hx hb (by decide) d_M_level_1 h, List.forall_mem_cons.mpr ⟨fun S h => bs_pI (Z := Z) (C := R_M) (T := F_M) (N := 40) (t := 40) (j := 0) hx hb hK hts (fun w h => List.mem_cons_of_mem _ (iw_M w h)) hown rfl rfl (by decide) (hts _ (List.mem_cons_of_mem _ wd_784)) (fun _ h => h) rfl rfl t_M t_M_ok n_M rfl (by decide +kernel) rfl d_M_level_2 h, List.forall_mem_cons.mpr ⟨fun S h => bs_iload_n (Z := Z) hx hb rfl d_M_level_5 h, List.forall_mem_cons.mpr ⟨fun S h => bs_iconst (Z := Z) hx hb (by decide) d_M_level_6 h, List.forall_mem_cons.mpr ⟨fun S h => bs_iconst (Z := Z) hx hb (by decide) d_M_level_7 h, List.forall_mem_cons.mpr ⟨fun S h => bs_callS (Z := Z) hBg hbs hB X0 (cn_M_in htr (d + 6)) (cl_M_in _ _ hw) (hts _ (List.mem_cons_of_mem _ wd_918)) (hts _ (List.mem_cons_of_mem _ wd_919)) (Nat.le_refl _) (Nat.le_refl _) d_M_level_8 (bs_out htab hlocks) h, List.forall_mem_cons.mpr ⟨fun S h => bs_if_ne (Z := Z) hx hb d_M_level_11 (by decide) h, List.forall_mem_cons.mpr ⟨fun S h => bs_aload_n (Z := Z) hx hb rfl d_M_level_14 h, List.forall_mem_cons.mpr ⟨fun S h => bs_iconst (Z := Z) hx hb (by decide) d_M_level_15 h, List.forall_mem_cons.mpr ⟨fun S h => bs_callV (Z := Z) (C := R_M) hBg hbs hB X0 hK (cn_M_raise htr (d + 6)) (cl_M_raise _ _ hw) (hts _ (List.mem_cons_of_mem _ wd_921)) (hts _ (List.mem_cons_of_mem _ wd_923)) (hts _ (List.mem_cons_of_mem _ ws_25)) rfl rfl rfl rfl rfl (Nat.le_refl _) (Nat.le_refl _) d_M_level_16 (bs_out htab hlocks) h, List.forall_mem_cons.mpr ⟨fun S h => bs_iret (Z := Z) hx hb hr hlocks d_M_level_19 h, List.forall_mem_cons.mpr ⟨fun S h => bs_iconst (Z := Z) hx hb (by decide) d_M_level_20 h, List.forall_mem_cons.mpr ⟨fun S h => bs_istore_n (Z := Z) hx hb rfl d_M_level_21 h, List.forall_mem_cons.mpr ⟨fun S h => bs_aload_n (Z := Z) hx hb rfl d_M_level_22 h, List.forall_mem_cons.mpr ⟨fun S h => bs_gI (Z := Z) (C := R_M) (T := F_M) (N := 40) (t := 40) (j := 39) hx hb hK hts (fun w h => List.mem_cons_of_mem _ (iw_M w h)) hown rfl rfl (by decide) (hts _ (List.mem_cons_of_mem _ wd_823)) (fun _ h => h) rfl rfl rfl d_M_level_23 h, List.forall_mem_cons.mpr ⟨fun S h => bs_iconst (Z := Z) hx hb (by decide) d_M_level_26 h, List.forall_mem_cons.mpr ⟨fun S h => bs_iadd (Z := Z) hx hb d_M_level_27 h, List.forall_mem_cons.mpr ⟨fun S h => bs_istore_n (Z := Z) hx hb rfl d_M_level_28 h, List.forall_mem_cons.mpr ⟨fun S h => bs_iload_n (Z := Z) hx hb rfl d_M_level_29 h, List.forall_mem_cons.mpr ⟨fun S h => bs_iload_n (Z := Z) hx hb rfl d_M_level_30 h, List.forall_mem_cons.mpr ⟨fun S h => bs_icmp_gt (Z := Z) hx hb d_M_level_31 (by decide) h, List.forall_mem_cons.mpr ⟨fun S h => bs_iconst (Z := Z) hx hb (by decide) d_M_level_34 h, List.forall_mem_cons.mpr ⟨fun S h => bs_istore (Z := Z) hx hb d_M_level_35 h, List.forall_mem_cons.mpr ⟨fun S h => bs_iload (Z := Z) hx hb d_M_level_37 h, List.forall_mem_cons.mpr ⟨fun S h => bs_bipush (Z := Z) hx hb (by decide) d_M_level_39 h, List.forall_mem_cons.mpr ⟨fun S h => bs_icmp_ge (Z := Z) hx hb d_M_level_41 (by decide) h, List.forall_mem_cons.mpr ⟨fun S h => bs_aload_n (Z := Z) hx hb rfl d_M_level_44 h, List.forall_mem_cons.mpr ⟨fun S h => bs_gR (Z := Z) (C := R_M) (T := F_M) (N := 40) (t := 40) (j := 1) hx hb hK hts (fun w h => List.mem_cons_of_mem _ (iw_M w h)) hown rfl rfl (by decide) (hts _ (List.mem_cons_of_mem _ wd_785)) (fun _ h => h) rfl rfl rfl d_M_level_45 h, List.forall_mem_cons.mpr ⟨fun S h => bs_iload (Z := Z) hx hb d_M_level_48 h, List.forall_mem_cons.mpr ⟨fun S h => bs_Iald (Z := Z) hx hb ha1 d_M_level_50 h, List.forall_mem_cons.mpr ⟨fun S h => bs_iconst (Z := Z) hx hb (by decide) d_M_level_51 h, List.forall_mem_cons.mpr ⟨fun S h => bs_iconst (Z := Z) hx hb (by decide) d_M_level_52 h, List.forall_mem_cons.mpr ⟨fun S h => bs_callS (Z := Z) hBg hbs hB X0 (cn_M_in htr (d + 6)) (cl_M_in _ _ hw) (hts _ (List.mem_cons_of_mem _ wd_918)) (hts _ (List.mem_cons_of_mem _ wd_919)) (Nat.le_refl _) (Nat.le_refl _) d_M_level_53 (bs_out htab hlocks) h, List.forall_mem_cons.mpr ⟨fun S h => bs_if_eq (Z := Z) hx hb d_M_level_56 (by decide) h, List.forall_mem_cons.mpr ⟨fun S h => bs_aload_n (Z := Z) hx hb rfl d_M_level_59 h, List.forall_mem_cons.mpr ⟨fun S h => bs_gR (Z := Z) (C := R_M) (T := F_M) (N := 40) (t := 40) (j := 5) hx hb hK hts (fun w h => List.mem_cons_of_mem _ (iw_M w h)) hown rfl rfl (by decide) (hts _ (List.mem_cons_of_mem _ wd_789)) (fun _ h => h) rfl rfl rfl d_M_level_60 h, List.forall_mem_cons.mpr ⟨fun S h => bs_iload (Z := Z) hx hb d_M_level_63 h, List.forall_mem_cons.mpr ⟨fun S h => bs_Zald (Z := Z) hx hb ha2 d_M_level_65 h, List.forall_mem_cons.mpr ⟨fun S h => bs_if_eq (Z := Z) hx hb d_M_level_66 (by decide) h, fun _ h => absurd h List.not_mem_nil⟩⟩⟩⟩⟩⟩⟩⟩⟩⟩⟩⟩⟩⟩⟩⟩⟩⟩⟩⟩⟩⟩⟩⟩⟩⟩⟩⟩⟩⟩⟩⟩⟩⟩⟩⟩⟩⟩⟩⟩
abbrev c_M_wiresTo : ByteArray := prog_10_method_39_code
def y_M_wiresTo : MethodName := ⟨"BundleHallModel", "wiresTo", "(I)I"⟩
theorem d_M_wiresTo_0 : decode c_M_wiresTo 0 = .ok (.iconst 0, 1) := by decide +kernel
theorem d_M_wiresTo_1 : decode c_M_wiresTo 1 = .ok (.istore_n 2, 1) := by decide +kernel
theorem d_M_wiresTo_2 : decode c_M_wiresTo 2 = .ok (.iconst 0, 1) := by decide +kernel
theorem d_M_wiresTo_3 : decode c_M_wiresTo 3 = .ok (.istore_n 3, 1) := by decide +kernel
theorem d_M_wiresTo_4 : decode c_M_wiresTo 4 = .ok (.iload_n 3, 1) := by decide +kernel
theorem d_M_wiresTo_5 : decode c_M_wiresTo 5 = .ok (.bipush 24, 2) := by decide +kernel
theorem d_M_wiresTo_7 : decode c_M_wiresTo 7 = .ok (.if_icmp .ge 50, 3) := by decide +kernel
theorem d_M_wiresTo_10 : decode c_M_wiresTo 10 = .ok (.iload_n 3, 1) := by decide +kernel
theorem d_M_wiresTo_11 : decode c_M_wiresTo 11 = .ok (.iconst 3, 1) := by decide +kernel
theorem d_M_wiresTo_12 : decode c_M_wiresTo 12 = .ok (.idiv, 1) := by decide +kernel
theorem d_M_wiresTo_13 : decode c_M_wiresTo 13 = .ok (.iload_n 1, 1) := by decide +kernel
theorem d_M_wiresTo_14 : decode c_M_wiresTo 14 = .ok (.if_icmp .eq 37, 3) := by decide +kernel
theorem d_M_wiresTo_17 : decode c_M_wiresTo 17 = .ok (.aload_n 0, 1) := by decide +kernel
theorem d_M_wiresTo_18 : decode c_M_wiresTo 18 = .ok (.getfield 60, 3) := by decide +kernel
theorem d_M_wiresTo_21 : decode c_M_wiresTo 21 = .ok (.iload_n 3, 1) := by decide +kernel
theorem d_M_wiresTo_22 : decode c_M_wiresTo 22 = .ok (.laload, 1) := by decide +kernel
theorem d_M_wiresTo_23 : decode c_M_wiresTo 23 = .ok (.lconst 0, 1) := by decide +kernel
theorem d_M_wiresTo_24 : decode c_M_wiresTo 24 = .ok (.lcmp, 1) := by decide +kernel
theorem d_M_wiresTo_25 : decode c_M_wiresTo 25 = .ok (.ifCond .lt 26, 3) := by decide +kernel
theorem d_M_wiresTo_28 : decode c_M_wiresTo 28 = .ok (.aload_n 0, 1) := by decide +kernel
theorem d_M_wiresTo_29 : decode c_M_wiresTo 29 = .ok (.getfield 60, 3) := by decide +kernel
theorem d_M_wiresTo_32 : decode c_M_wiresTo 32 = .ok (.iload_n 3, 1) := by decide +kernel
theorem d_M_wiresTo_33 : decode c_M_wiresTo 33 = .ok (.laload, 1) := by decide +kernel
theorem d_M_wiresTo_34 : decode c_M_wiresTo 34 = .ok (.ldc2_w 137, 3) := by decide +kernel
theorem d_M_wiresTo_37 : decode c_M_wiresTo 37 = .ok (.ldiv, 1) := by decide +kernel
theorem d_M_wiresTo_38 : decode c_M_wiresTo 38 = .ok (.ldc2_w 137, 3) := by decide +kernel
theorem d_M_wiresTo_41 : decode c_M_wiresTo 41 = .ok (.lrem, 1) := by decide +kernel
theorem d_M_wiresTo_42 : decode c_M_wiresTo 42 = .ok (.iload_n 1, 1) := by decide +kernel
theorem d_M_wiresTo_43 : decode c_M_wiresTo 43 = .ok (.i2l, 1) := by decide +kernel
theorem d_M_wiresTo_44 : decode c_M_wiresTo 44 = .ok (.lcmp, 1) := by decide +kernel
theorem d_M_wiresTo_45 : decode c_M_wiresTo 45 = .ok (.ifCond .ne 6, 3) := by decide +kernel
theorem d_M_wiresTo_48 : decode c_M_wiresTo 48 = .ok (.iinc 2 1, 3) := by decide +kernel
theorem d_M_wiresTo_51 : decode c_M_wiresTo 51 = .ok (.iinc 3 1, 3) := by decide +kernel
theorem d_M_wiresTo_54 : decode c_M_wiresTo 54 = .ok (.goto (-50), 3) := by decide +kernel
theorem d_M_wiresTo_57 : decode c_M_wiresTo 57 = .ok (.iload_n 2, 1) := by decide +kernel
theorem d_M_wiresTo_58 : decode c_M_wiresTo 58 = .ok (.ireturn, 1) := by decide +kernel
def T_M_wiresTo_0 : List (Nat × bh_Op) := [(0, bo_st 1 (bg_push (.inl (.int 0)))),
  (1, bo_ist 2 2),
  (2, bo_st 3 (bg_push (.inl (.int 0)))),
  (3, bo_ist 4 3),
  (4, bo_ild 5 3),
  (5, bo_st 7 (bg_push (.inl (.int 24)))),
  (7, bo_if2 10 57 (fun x y => y ≤ x)),
  (10, bo_ild 11 3),
  (11, bo_st 12 (bg_push (.inl (.int 3)))),
  (12, bo_st 13 (bg_dv (fun x y => x / y))),
  (13, bo_ild 14 1),
  (14, bo_if2 17 51 (fun x y => x = y)),
  (17, bo_ald 18 0),
  (18, bo_gR 21 40 17 57),
  (21, bo_ild 22 3),
  (22, bo_Jald bh_ak bh_al 23),
  (23, bo_st 24 (bg_push (.inl (.long 0)))),
  (24, bo_st 25 (bg_lc lg_cmp)),
  (25, bo_if1 28 51 (fun x => x < 0)),
  (28, bo_ald 29 0),
  (29, bo_gR 32 40 17 57),
  (32, bo_ild 33 3),
  (33, bo_Jald bh_ak bh_al 34),
  (34, bo_st 37 (bg_push (.inl (.long 8)))),
  (37, bo_st 38 (bg_lv (fun x y => x / y))),
  (38, bo_st 41 (bg_push (.inl (.long 8)))),
  (41, bo_st 42 (bg_lv (fun x y => x - x / y * y))),
  (42, bo_ild 43 1),
  (43, bo_st 44 (bg_i1 (fun x => .inl (.long x.toInt64)))),
  (44, bo_st 45 (bg_lc lg_cmp)),
  (45, bo_if1 48 51 (fun x => ¬ x = 0)),
  (48, bo_inc 51 2 1),
  (51, bo_inc 54 3 1),
  (54, bo_go 4),
  (57, bo_ild 58 2),
  (58, bo_iret 0)]
def T_M_wiresTo : List (Nat × bh_Op) := T_M_wiresTo_0
set_option maxRecDepth 20000 in
theorem mT_M_wiresTo_0 : ∀ q ∈ T_M_wiresTo_0, bh_mono q.2 := List.forall_mem_cons.mpr ⟨bo_st_mono (bg_push_m _), List.forall_mem_cons.mpr ⟨bo_ist_m _ _, List.forall_mem_cons.mpr ⟨bo_st_mono (bg_push_m _), List.forall_mem_cons.mpr ⟨bo_ist_m _ _, List.forall_mem_cons.mpr ⟨bo_ild_m _ _, List.forall_mem_cons.mpr ⟨bo_st_mono (bg_push_m _), List.forall_mem_cons.mpr ⟨bo_if2_m _ _ _, List.forall_mem_cons.mpr ⟨bo_ild_m _ _, List.forall_mem_cons.mpr ⟨bo_st_mono (bg_push_m _), List.forall_mem_cons.mpr ⟨bo_st_mono (bg_dv_m _), List.forall_mem_cons.mpr ⟨bo_ild_m _ _, List.forall_mem_cons.mpr ⟨bo_if2_m _ _ _, List.forall_mem_cons.mpr ⟨bo_ald_m _ _, List.forall_mem_cons.mpr ⟨bo_gR_m _ _ _ _, List.forall_mem_cons.mpr ⟨bo_ild_m _ _, List.forall_mem_cons.mpr ⟨bo_Jald_m _ _ _, List.forall_mem_cons.mpr ⟨bo_st_mono (bg_push_m _), List.forall_mem_cons.mpr ⟨bo_st_mono (bg_lc_m _), List.forall_mem_cons.mpr ⟨bo_if1_m _ _ _, List.forall_mem_cons.mpr ⟨bo_ald_m _ _, List.forall_mem_cons.mpr ⟨bo_gR_m _ _ _ _, List.forall_mem_cons.mpr ⟨bo_ild_m _ _, List.forall_mem_cons.mpr ⟨bo_Jald_m _ _ _, List.forall_mem_cons.mpr ⟨bo_st_mono (bg_push_m _), List.forall_mem_cons.mpr ⟨bo_st_mono (bg_lv_m _), List.forall_mem_cons.mpr ⟨bo_st_mono (bg_push_m _), List.forall_mem_cons.mpr ⟨bo_st_mono (bg_lv_m _), List.forall_mem_cons.mpr ⟨bo_ild_m _ _, List.forall_mem_cons.mpr ⟨bo_st_mono (bg_i1_m _), List.forall_mem_cons.mpr ⟨bo_st_mono (bg_lc_m _), List.forall_mem_cons.mpr ⟨bo_if1_m _ _ _, List.forall_mem_cons.mpr ⟨bo_inc_m _ _ _, List.forall_mem_cons.mpr ⟨bo_inc_m _ _ _, List.forall_mem_cons.mpr ⟨bo_go_m _, List.forall_mem_cons.mpr ⟨bo_ild_m _ _, List.forall_mem_cons.mpr ⟨bo_iret_m _, fun _ h => absurd h List.not_mem_nil⟩⟩⟩⟩⟩⟩⟩⟩⟩⟩⟩⟩⟩⟩⟩⟩⟩⟩⟩⟩⟩⟩⟩⟩⟩⟩⟩⟩⟩⟩⟩⟩⟩⟩⟩⟩
theorem m_M_wiresTo : ∀ pc, bh_mono (bh_tb (T_M_wiresTo) pc) := bh_tb_m mT_M_wiresTo_0
def F_M_wiresTo : bh_Fn := bh_fn 4 (bh_tb T_M_wiresTo)
theorem mF_M_wiresTo : bh_monoF F_M_wiresTo := bh_fn_m m_M_wiresTo
theorem cl_M_wiresTo {s : State} {args : Array Value} (d B : Nat) (hts : ∀ w ∈ bh_ws, w.before args s = true) : bh_Cal (bh_rm (d + 1) B) s y_M_wiresTo 4 (.code y_M_wiresTo c_M_wiresTo 4 (some .int) :: bh_ws) (bh_rm d 0) 0 1 := bh_cal d B hts wd_1065 wd_9 (by decide) (by decide +kernel)
set_option maxHeartbeats 4000000 in
set_option maxRecDepth 100000 in
theorem cn_M_wiresTo {l : Launch} {G : bh_G} {base sb L : Nat} {xs : Nat → Int32} (htr : l.stackTraces = false) (d : Nat) : bh_Con l G base (bh_Bg G base sb L xs) y_M_wiresTo (.code y_M_wiresTo c_M_wiresTo 4 (some .int) :: bh_ws) (bh_rm (d + 1) 0) 0 false F_M_wiresTo := by
  refine bh_method (cc := c_M_wiresTo) (ret := (some .int)) (by decide +kernel) rfl ?_
  intro p e s m args below meth c ad0 M0 Z X0 hr hlocks hname htab hbs hB
  obtain ⟨hx, hb, hml, hown, hts⟩ := id X0
  have hw : ∀ w ∈ bh_ws, w.before args s = true := fun w h => hts w (List.mem_cons_of_mem _ h)
  have hBg := bh_BgK (G := G) (base := base) (sb := sb) (L := L) (xs := xs)
  obtain ⟨hK, hAr, hen, hinj, hu1, hu2, hstr, hX, hsb, hsc, hxw, hao, hnc⟩ := id hB
  obtain ⟨ha1, ha2, ha3, ha4, ha5, ha6, ha0⟩ := bh_arr hAr
  exact List.forall_mem_cons.mpr ⟨fun S h => bs_iconst (Z := Z) hx hb (by decide) d_M_wiresTo_0 h, List.forall_mem_cons.mpr ⟨fun S h => bs_istore_n (Z := Z) hx hb rfl d_M_wiresTo_1 h, List.forall_mem_cons.mpr ⟨fun S h => bs_iconst (Z := Z) hx hb (by decide) d_M_wiresTo_2 h, List.forall_mem_cons.mpr ⟨fun S h => bs_istore_n (Z := Z) hx hb rfl d_M_wiresTo_3 h, List.forall_mem_cons.mpr ⟨fun S h => bs_iload_n (Z := Z) hx hb rfl d_M_wiresTo_4 h, List.forall_mem_cons.mpr ⟨fun S h => bs_bipush (Z := Z) hx hb (by decide) d_M_wiresTo_5 h, List.forall_mem_cons.mpr ⟨fun S h => bs_icmp_ge (Z := Z) hx hb d_M_wiresTo_7 (by decide) h, List.forall_mem_cons.mpr ⟨fun S h => bs_iload_n (Z := Z) hx hb rfl d_M_wiresTo_10 h, List.forall_mem_cons.mpr ⟨fun S h => bs_iconst (Z := Z) hx hb (by decide) d_M_wiresTo_11 h, List.forall_mem_cons.mpr ⟨fun S h => bs_idiv (Z := Z) hx hb d_M_wiresTo_12 h, List.forall_mem_cons.mpr ⟨fun S h => bs_iload_n (Z := Z) hx hb rfl d_M_wiresTo_13 h, List.forall_mem_cons.mpr ⟨fun S h => bs_icmp_eq (Z := Z) hx hb d_M_wiresTo_14 (by decide) h, List.forall_mem_cons.mpr ⟨fun S h => bs_aload_n (Z := Z) hx hb rfl d_M_wiresTo_17 h, List.forall_mem_cons.mpr ⟨fun S h => bs_gR (Z := Z) (C := R_M) (T := F_M) (N := 40) (t := 40) (j := 17) hx hb hK hts (fun w h => List.mem_cons_of_mem _ (iw_M w h)) hown rfl rfl (by decide) (hts _ (List.mem_cons_of_mem _ wd_801)) (fun _ h => h) rfl rfl rfl d_M_wiresTo_18 h, List.forall_mem_cons.mpr ⟨fun S h => bs_iload_n (Z := Z) hx hb rfl d_M_wiresTo_21 h, List.forall_mem_cons.mpr ⟨fun S h => bs_Jald (Z := Z) hx hb ha3 d_M_wiresTo_22 h, List.forall_mem_cons.mpr ⟨fun S h => bs_lconst (Z := Z) hx hb (by decide) d_M_wiresTo_23 h, List.forall_mem_cons.mpr ⟨fun S h => bs_lcmp (Z := Z) hx hb d_M_wiresTo_24 h, List.forall_mem_cons.mpr ⟨fun S h => bs_if_lt (Z := Z) hx hb d_M_wiresTo_25 (by decide) h, List.forall_mem_cons.mpr ⟨fun S h => bs_aload_n (Z := Z) hx hb rfl d_M_wiresTo_28 h, List.forall_mem_cons.mpr ⟨fun S h => bs_gR (Z := Z) (C := R_M) (T := F_M) (N := 40) (t := 40) (j := 17) hx hb hK hts (fun w h => List.mem_cons_of_mem _ (iw_M w h)) hown rfl rfl (by decide) (hts _ (List.mem_cons_of_mem _ wd_801)) (fun _ h => h) rfl rfl rfl d_M_wiresTo_29 h, List.forall_mem_cons.mpr ⟨fun S h => bs_iload_n (Z := Z) hx hb rfl d_M_wiresTo_32 h, List.forall_mem_cons.mpr ⟨fun S h => bs_Jald (Z := Z) hx hb ha3 d_M_wiresTo_33 h, List.forall_mem_cons.mpr ⟨fun S h => bs_ldcl (Z := Z) hx hb hown (hts _ (List.mem_cons_of_mem _ wd_997)) d_M_wiresTo_34 h, List.forall_mem_cons.mpr ⟨fun S h => bs_ldiv (Z := Z) hx hb d_M_wiresTo_37 h, List.forall_mem_cons.mpr ⟨fun S h => bs_ldcl (Z := Z) hx hb hown (hts _ (List.mem_cons_of_mem _ wd_997)) d_M_wiresTo_38 h, List.forall_mem_cons.mpr ⟨fun S h => bs_lrem (Z := Z) hx hb d_M_wiresTo_41 h, List.forall_mem_cons.mpr ⟨fun S h => bs_iload_n (Z := Z) hx hb rfl d_M_wiresTo_42 h, List.forall_mem_cons.mpr ⟨fun S h => bs_i2l (Z := Z) hx hb d_M_wiresTo_43 h, List.forall_mem_cons.mpr ⟨fun S h => bs_lcmp (Z := Z) hx hb d_M_wiresTo_44 h, List.forall_mem_cons.mpr ⟨fun S h => bs_if_ne (Z := Z) hx hb d_M_wiresTo_45 (by decide) h, List.forall_mem_cons.mpr ⟨fun S h => bs_iinc (Z := Z) hx hb (by decide) d_M_wiresTo_48 h, List.forall_mem_cons.mpr ⟨fun S h => bs_iinc (Z := Z) hx hb (by decide) d_M_wiresTo_51 h, List.forall_mem_cons.mpr ⟨fun S h => bs_goto (Z := Z) hx hb d_M_wiresTo_54 (by decide) h, List.forall_mem_cons.mpr ⟨fun S h => bs_iload_n (Z := Z) hx hb rfl d_M_wiresTo_57 h, List.forall_mem_cons.mpr ⟨fun S h => bs_iret (Z := Z) hx hb hr hlocks d_M_wiresTo_58 h, fun _ h => absurd h List.not_mem_nil⟩⟩⟩⟩⟩⟩⟩⟩⟩⟩⟩⟩⟩⟩⟩⟩⟩⟩⟩⟩⟩⟩⟩⟩⟩⟩⟩⟩⟩⟩⟩⟩⟩⟩⟩⟩
abbrev c_M_remove : ByteArray := prog_10_method_40_code
def y_M_remove : MethodName := ⟨"BundleHallModel", "remove", "(II)I"⟩
theorem d_M_remove_0 : decode c_M_remove 0 = .ok (.aload_n 0, 1) := by decide +kernel
theorem d_M_remove_1 : decode c_M_remove 1 = .ok (.getfield 7, 3) := by decide +kernel
theorem d_M_remove_4 : decode c_M_remove 4 = .ok (.iload_n 1, 1) := by decide +kernel
theorem d_M_remove_5 : decode c_M_remove 5 = .ok (.iaload, 1) := by decide +kernel
theorem d_M_remove_6 : decode c_M_remove 6 = .ok (.iconst 3, 1) := by decide +kernel
theorem d_M_remove_7 : decode c_M_remove 7 = .ok (.if_icmp .ne 9, 3) := by decide +kernel
theorem d_M_remove_10 : decode c_M_remove 10 = .ok (.aload_n 0, 1) := by decide +kernel
theorem d_M_remove_11 : decode c_M_remove 11 = .ok (.iload_n 1, 1) := by decide +kernel
theorem d_M_remove_12 : decode c_M_remove 12 = .ok (.invokevirtual 235, 3) := by decide +kernel
theorem d_M_remove_15 : decode c_M_remove 15 = .ok (.pop, 1) := by decide +kernel
theorem d_M_remove_16 : decode c_M_remove 16 = .ok (.aload_n 0, 1) := by decide +kernel
theorem d_M_remove_17 : decode c_M_remove 17 = .ok (.iload_n 1, 1) := by decide +kernel
theorem d_M_remove_18 : decode c_M_remove 18 = .ok (.invokevirtual 238, 3) := by decide +kernel
theorem d_M_remove_21 : decode c_M_remove 21 = .ok (.istore_n 3, 1) := by decide +kernel
theorem d_M_remove_22 : decode c_M_remove 22 = .ok (.aload_n 0, 1) := by decide +kernel
theorem d_M_remove_23 : decode c_M_remove 23 = .ok (.getfield 7, 3) := by decide +kernel
theorem d_M_remove_26 : decode c_M_remove 26 = .ok (.iload_n 1, 1) := by decide +kernel
theorem d_M_remove_27 : decode c_M_remove 27 = .ok (.iload_n 2, 1) := by decide +kernel
theorem d_M_remove_28 : decode c_M_remove 28 = .ok (.iastore, 1) := by decide +kernel
theorem d_M_remove_29 : decode c_M_remove 29 = .ok (.aload_n 0, 1) := by decide +kernel
theorem d_M_remove_30 : decode c_M_remove 30 = .ok (.iload_n 1, 1) := by decide +kernel
theorem d_M_remove_31 : decode c_M_remove 31 = .ok (.invokevirtual 134, 3) := by decide +kernel
theorem d_M_remove_34 : decode c_M_remove 34 = .ok (.iload_n 3, 1) := by decide +kernel
theorem d_M_remove_35 : decode c_M_remove 35 = .ok (.ireturn, 1) := by decide +kernel
def T_M_remove_0 : List (Nat × bh_Op) := [(0, bo_ald 1 0),
  (1, bo_gR 4 40 1 41),
  (4, bo_ild 5 1),
  (5, bo_Iald bh_ak bh_al 6),
  (6, bo_st 7 (bg_push (.inl (.int 3)))),
  (7, bo_if2 10 16 (fun x y => ¬ x = y)),
  (10, bo_ald 11 0),
  (11, bo_ild 12 1),
  (12, bo_callV 15 2 0 0 40 F_M_stopping),
  (15, bo_st 16 bg_pop),
  (16, bo_ald 17 0),
  (17, bo_ild 18 1),
  (18, bo_callV 21 2 0 0 40 F_M_wiresTo),
  (21, bo_ist 22 3),
  (22, bo_ald 23 0),
  (23, bo_gR 26 40 1 41),
  (26, bo_ild 27 1),
  (27, bo_ild 28 2),
  (28, bo_Iast bh_ak bh_al 29),
  (29, bo_ald 30 0),
  (30, bo_ild 31 1),
  (31, bo_callV 34 2 0 0 40 F_M_empty),
  (34, bo_ild 35 3),
  (35, bo_iret 0)]
def T_M_remove : List (Nat × bh_Op) := T_M_remove_0
set_option maxRecDepth 20000 in
theorem mT_M_remove_0 : ∀ q ∈ T_M_remove_0, bh_mono q.2 := List.forall_mem_cons.mpr ⟨bo_ald_m _ _, List.forall_mem_cons.mpr ⟨bo_gR_m _ _ _ _, List.forall_mem_cons.mpr ⟨bo_ild_m _ _, List.forall_mem_cons.mpr ⟨bo_Iald_m _ _ _, List.forall_mem_cons.mpr ⟨bo_st_mono (bg_push_m _), List.forall_mem_cons.mpr ⟨bo_if2_m _ _ _, List.forall_mem_cons.mpr ⟨bo_ald_m _ _, List.forall_mem_cons.mpr ⟨bo_ild_m _ _, List.forall_mem_cons.mpr ⟨bo_callV_m (mF_M_stopping) _ _ _ _ _, List.forall_mem_cons.mpr ⟨bo_st_mono bg_pop_m, List.forall_mem_cons.mpr ⟨bo_ald_m _ _, List.forall_mem_cons.mpr ⟨bo_ild_m _ _, List.forall_mem_cons.mpr ⟨bo_callV_m (mF_M_wiresTo) _ _ _ _ _, List.forall_mem_cons.mpr ⟨bo_ist_m _ _, List.forall_mem_cons.mpr ⟨bo_ald_m _ _, List.forall_mem_cons.mpr ⟨bo_gR_m _ _ _ _, List.forall_mem_cons.mpr ⟨bo_ild_m _ _, List.forall_mem_cons.mpr ⟨bo_ild_m _ _, List.forall_mem_cons.mpr ⟨bo_Iast_m _ _ _, List.forall_mem_cons.mpr ⟨bo_ald_m _ _, List.forall_mem_cons.mpr ⟨bo_ild_m _ _, List.forall_mem_cons.mpr ⟨bo_callV_m (mF_M_empty) _ _ _ _ _, List.forall_mem_cons.mpr ⟨bo_ild_m _ _, List.forall_mem_cons.mpr ⟨bo_iret_m _, fun _ h => absurd h List.not_mem_nil⟩⟩⟩⟩⟩⟩⟩⟩⟩⟩⟩⟩⟩⟩⟩⟩⟩⟩⟩⟩⟩⟩⟩⟩
theorem m_M_remove : ∀ pc, bh_mono (bh_tb (T_M_remove) pc) := bh_tb_m mT_M_remove_0
def F_M_remove : bh_Fn := bh_fn 4 (bh_tb T_M_remove)
theorem mF_M_remove : bh_monoF F_M_remove := bh_fn_m m_M_remove
theorem cl_M_remove {s : State} {args : Array Value} (d B : Nat) (hts : ∀ w ∈ bh_ws, w.before args s = true) : bh_Cal (bh_rm (d + 1) B) s y_M_remove 4 (.code y_M_remove c_M_remove 4 (some .int) :: bh_ws) (bh_rm d 0) 0 2 := bh_cal d B hts wd_1061 wd_9 (by decide) (by decide +kernel)
set_option maxHeartbeats 4000000 in
set_option maxRecDepth 100000 in
theorem cn_M_remove {l : Launch} {G : bh_G} {base sb L : Nat} {xs : Nat → Int32} (htr : l.stackTraces = false) (d : Nat) : bh_Con l G base (bh_Bg G base sb L xs) y_M_remove (.code y_M_remove c_M_remove 4 (some .int) :: bh_ws) (bh_rm (d + 4) 0) 0 false F_M_remove := by
  refine bh_method (cc := c_M_remove) (ret := (some .int)) (by decide +kernel) rfl ?_
  intro p e s m args below meth c ad0 M0 Z X0 hr hlocks hname htab hbs hB
  obtain ⟨hx, hb, hml, hown, hts⟩ := id X0
  have hw : ∀ w ∈ bh_ws, w.before args s = true := fun w h => hts w (List.mem_cons_of_mem _ h)
  have hBg := bh_BgK (G := G) (base := base) (sb := sb) (L := L) (xs := xs)
  obtain ⟨hK, hAr, hen, hinj, hu1, hu2, hstr, hX, hsb, hsc, hxw, hao, hnc⟩ := id hB
  obtain ⟨ha1, ha2, ha3, ha4, ha5, ha6, ha0⟩ := bh_arr hAr
  exact List.forall_mem_cons.mpr ⟨fun S h => bs_aload_n (Z := Z) hx hb rfl d_M_remove_0 h, List.forall_mem_cons.mpr ⟨fun S h => bs_gR (Z := Z) (C := R_M) (T := F_M) (N := 40) (t := 40) (j := 1) hx hb hK hts (fun w h => List.mem_cons_of_mem _ (iw_M w h)) hown rfl rfl (by decide) (hts _ (List.mem_cons_of_mem _ wd_785)) (fun _ h => h) rfl rfl rfl d_M_remove_1 h, List.forall_mem_cons.mpr ⟨fun S h => bs_iload_n (Z := Z) hx hb rfl d_M_remove_4 h, List.forall_mem_cons.mpr ⟨fun S h => bs_Iald (Z := Z) hx hb ha1 d_M_remove_5 h, List.forall_mem_cons.mpr ⟨fun S h => bs_iconst (Z := Z) hx hb (by decide) d_M_remove_6 h, List.forall_mem_cons.mpr ⟨fun S h => bs_icmp_ne (Z := Z) hx hb d_M_remove_7 (by decide) h, List.forall_mem_cons.mpr ⟨fun S h => bs_aload_n (Z := Z) hx hb rfl d_M_remove_10 h, List.forall_mem_cons.mpr ⟨fun S h => bs_iload_n (Z := Z) hx hb rfl d_M_remove_11 h, List.forall_mem_cons.mpr ⟨fun S h => bs_callV (Z := Z) (C := R_M) hBg hbs hB X0 hK (cn_M_stopping htr (d + 0)) (cl_M_stopping _ _ hw) (hts _ (List.mem_cons_of_mem _ wd_1038)) (hts _ (List.mem_cons_of_mem _ wd_1040)) (hts _ (List.mem_cons_of_mem _ ws_49)) rfl rfl rfl rfl rfl (Nat.le_refl _) (Nat.le_refl _) d_M_remove_12 (bs_out htab hlocks) h, List.forall_mem_cons.mpr ⟨fun S h => bs_pop (Z := Z) hx hb d_M_remove_15 h, List.forall_mem_cons.mpr ⟨fun S h => bs_aload_n (Z := Z) hx hb rfl d_M_remove_16 h, List.forall_mem_cons.mpr ⟨fun S h => bs_iload_n (Z := Z) hx hb rfl d_M_remove_17 h, List.forall_mem_cons.mpr ⟨fun S h => bs_callV (Z := Z) (C := R_M) hBg hbs hB X0 hK (cn_M_wiresTo htr (d + 2)) (cl_M_wiresTo _ _ hw) (hts _ (List.mem_cons_of_mem _ wd_1062)) (hts _ (List.mem_cons_of_mem _ wd_1064)) (hts _ (List.mem_cons_of_mem _ ws_53)) rfl rfl rfl rfl rfl (Nat.le_refl _) (Nat.le_refl _) d_M_remove_18 (bs_out htab hlocks) h, List.forall_mem_cons.mpr ⟨fun S h => bs_istore_n (Z := Z) hx hb rfl d_M_remove_21 h, List.forall_mem_cons.mpr ⟨fun S h => bs_aload_n (Z := Z) hx hb rfl d_M_remove_22 h, List.forall_mem_cons.mpr ⟨fun S h => bs_gR (Z := Z) (C := R_M) (T := F_M) (N := 40) (t := 40) (j := 1) hx hb hK hts (fun w h => List.mem_cons_of_mem _ (iw_M w h)) hown rfl rfl (by decide) (hts _ (List.mem_cons_of_mem _ wd_785)) (fun _ h => h) rfl rfl rfl d_M_remove_23 h, List.forall_mem_cons.mpr ⟨fun S h => bs_iload_n (Z := Z) hx hb rfl d_M_remove_26 h, List.forall_mem_cons.mpr ⟨fun S h => bs_iload_n (Z := Z) hx hb rfl d_M_remove_27 h, List.forall_mem_cons.mpr ⟨fun S h => bs_Iast (Z := Z) hx hb ha1 d_M_remove_28 h, List.forall_mem_cons.mpr ⟨fun S h => bs_aload_n (Z := Z) hx hb rfl d_M_remove_29 h, List.forall_mem_cons.mpr ⟨fun S h => bs_iload_n (Z := Z) hx hb rfl d_M_remove_30 h, List.forall_mem_cons.mpr ⟨fun S h => bs_callV (Z := Z) (C := R_M) hBg hbs hB X0 hK (cn_M_empty htr (d + 1)) (cl_M_empty _ _ hw) (hts _ (List.mem_cons_of_mem _ wd_925)) (hts _ (List.mem_cons_of_mem _ wd_927)) (hts _ (List.mem_cons_of_mem _ ws_26)) rfl rfl rfl rfl rfl (Nat.le_refl _) (Nat.le_refl _) d_M_remove_31 (bs_out htab hlocks) h, List.forall_mem_cons.mpr ⟨fun S h => bs_iload_n (Z := Z) hx hb rfl d_M_remove_34 h, List.forall_mem_cons.mpr ⟨fun S h => bs_iret (Z := Z) hx hb hr hlocks d_M_remove_35 h, fun _ h => absurd h List.not_mem_nil⟩⟩⟩⟩⟩⟩⟩⟩⟩⟩⟩⟩⟩⟩⟩⟩⟩⟩⟩⟩⟩⟩⟩⟩
abbrev c_M_uninstall : ByteArray := prog_10_method_41_code
def y_M_uninstall : MethodName := ⟨"BundleHallModel", "uninstall", "(I)I"⟩
theorem d_M_uninstall_0 : decode c_M_uninstall 0 = .ok (.aload_n 0, 1) := by decide +kernel
theorem d_M_uninstall_1 : decode c_M_uninstall 1 = .ok (.iconst 0, 1) := by decide +kernel
theorem d_M_uninstall_2 : decode c_M_uninstall 2 = .ok (.putfield 109, 3) := by decide +kernel
theorem d_M_uninstall_5 : decode c_M_uninstall 5 = .ok (.iload_n 1, 1) := by decide +kernel
theorem d_M_uninstall_6 : decode c_M_uninstall 6 = .ok (.invokestatic 126, 3) := by decide +kernel
theorem d_M_uninstall_9 : decode c_M_uninstall 9 = .ok (.ifCond .ne 9, 3) := by decide +kernel
theorem d_M_uninstall_12 : decode c_M_uninstall 12 = .ok (.aload_n 0, 1) := by decide +kernel
theorem d_M_uninstall_13 : decode c_M_uninstall 13 = .ok (.iconst 1, 1) := by decide +kernel
theorem d_M_uninstall_14 : decode c_M_uninstall 14 = .ok (.invokevirtual 130, 3) := by decide +kernel
theorem d_M_uninstall_17 : decode c_M_uninstall 17 = .ok (.ireturn, 1) := by decide +kernel
theorem d_M_uninstall_18 : decode c_M_uninstall 18 = .ok (.aload_n 0, 1) := by decide +kernel
theorem d_M_uninstall_19 : decode c_M_uninstall 19 = .ok (.getfield 7, 3) := by decide +kernel
theorem d_M_uninstall_22 : decode c_M_uninstall 22 = .ok (.iload_n 1, 1) := by decide +kernel
theorem d_M_uninstall_23 : decode c_M_uninstall 23 = .ok (.iaload, 1) := by decide +kernel
theorem d_M_uninstall_24 : decode c_M_uninstall 24 = .ok (.ifCond .ne 11, 3) := by decide +kernel
theorem d_M_uninstall_27 : decode c_M_uninstall 27 = .ok (.aload_n 0, 1) := by decide +kernel
theorem d_M_uninstall_28 : decode c_M_uninstall 28 = .ok (.iconst 2, 1) := by decide +kernel
theorem d_M_uninstall_29 : decode c_M_uninstall 29 = .ok (.invokevirtual 130, 3) := by decide +kernel
theorem d_M_uninstall_32 : decode c_M_uninstall 32 = .ok (.goto 9, 3) := by decide +kernel
theorem d_M_uninstall_35 : decode c_M_uninstall 35 = .ok (.aload_n 0, 1) := by decide +kernel
theorem d_M_uninstall_36 : decode c_M_uninstall 36 = .ok (.iload_n 1, 1) := by decide +kernel
theorem d_M_uninstall_37 : decode c_M_uninstall 37 = .ok (.iconst 0, 1) := by decide +kernel
theorem d_M_uninstall_38 : decode c_M_uninstall 38 = .ok (.invokevirtual 241, 3) := by decide +kernel
theorem d_M_uninstall_41 : decode c_M_uninstall 41 = .ok (.ireturn, 1) := by decide +kernel
def T_M_uninstall_0 : List (Nat × bh_Op) := [(0, bo_ald 1 0),
  (1, bo_st 2 (bg_push (.inl (.int 0)))),
  (2, bo_pI 5 40 0),
  (5, bo_ild 6 1),
  (6, bo_callS 9 1 0 0 F_M_isBundle),
  (9, bo_if1 12 18 (fun x => ¬ x = 0)),
  (12, bo_ald 13 0),
  (13, bo_st 14 (bg_push (.inl (.int 1)))),
  (14, bo_callV 17 2 0 0 40 F_M_raise),
  (17, bo_iret 0),
  (18, bo_ald 19 0),
  (19, bo_gR 22 40 1 41),
  (22, bo_ild 23 1),
  (23, bo_Iald bh_ak bh_al 24),
  (24, bo_if1 27 35 (fun x => ¬ x = 0)),
  (27, bo_ald 28 0),
  (28, bo_st 29 (bg_push (.inl (.int 2)))),
  (29, bo_callV 32 2 0 0 40 F_M_raise),
  (32, bo_go 41),
  (35, bo_ald 36 0),
  (36, bo_ild 37 1),
  (37, bo_st 38 (bg_push (.inl (.int 0)))),
  (38, bo_callV 41 3 0 0 40 F_M_remove),
  (41, bo_iret 0)]
def T_M_uninstall : List (Nat × bh_Op) := T_M_uninstall_0
set_option maxRecDepth 20000 in
theorem mT_M_uninstall_0 : ∀ q ∈ T_M_uninstall_0, bh_mono q.2 := List.forall_mem_cons.mpr ⟨bo_ald_m _ _, List.forall_mem_cons.mpr ⟨bo_st_mono (bg_push_m _), List.forall_mem_cons.mpr ⟨bo_pI_m _ _ _, List.forall_mem_cons.mpr ⟨bo_ild_m _ _, List.forall_mem_cons.mpr ⟨bo_callS_m (mF_M_isBundle) _ _ _ _, List.forall_mem_cons.mpr ⟨bo_if1_m _ _ _, List.forall_mem_cons.mpr ⟨bo_ald_m _ _, List.forall_mem_cons.mpr ⟨bo_st_mono (bg_push_m _), List.forall_mem_cons.mpr ⟨bo_callV_m (mF_M_raise) _ _ _ _ _, List.forall_mem_cons.mpr ⟨bo_iret_m _, List.forall_mem_cons.mpr ⟨bo_ald_m _ _, List.forall_mem_cons.mpr ⟨bo_gR_m _ _ _ _, List.forall_mem_cons.mpr ⟨bo_ild_m _ _, List.forall_mem_cons.mpr ⟨bo_Iald_m _ _ _, List.forall_mem_cons.mpr ⟨bo_if1_m _ _ _, List.forall_mem_cons.mpr ⟨bo_ald_m _ _, List.forall_mem_cons.mpr ⟨bo_st_mono (bg_push_m _), List.forall_mem_cons.mpr ⟨bo_callV_m (mF_M_raise) _ _ _ _ _, List.forall_mem_cons.mpr ⟨bo_go_m _, List.forall_mem_cons.mpr ⟨bo_ald_m _ _, List.forall_mem_cons.mpr ⟨bo_ild_m _ _, List.forall_mem_cons.mpr ⟨bo_st_mono (bg_push_m _), List.forall_mem_cons.mpr ⟨bo_callV_m (mF_M_remove) _ _ _ _ _, List.forall_mem_cons.mpr ⟨bo_iret_m _, fun _ h => absurd h List.not_mem_nil⟩⟩⟩⟩⟩⟩⟩⟩⟩⟩⟩⟩⟩⟩⟩⟩⟩⟩⟩⟩⟩⟩⟩⟩
theorem m_M_uninstall : ∀ pc, bh_mono (bh_tb (T_M_uninstall) pc) := bh_tb_m mT_M_uninstall_0
def F_M_uninstall : bh_Fn := bh_fn 2 (bh_tb T_M_uninstall)
theorem mF_M_uninstall : bh_monoF F_M_uninstall := bh_fn_m m_M_uninstall
theorem cl_M_uninstall {s : State} {args : Array Value} (d B : Nat) (hts : ∀ w ∈ bh_ws, w.before args s = true) : bh_Cal (bh_rm (d + 1) B) s y_M_uninstall 2 (.code y_M_uninstall c_M_uninstall 2 (some .int) :: bh_ws) (bh_rm d 0) 0 1 := bh_cal d B hts wd_1057 wd_9 (by decide) (by decide +kernel)
set_option maxHeartbeats 4000000 in
set_option maxRecDepth 100000 in
theorem cn_M_uninstall {l : Launch} {G : bh_G} {base sb L : Nat} {xs : Nat → Int32} (htr : l.stackTraces = false) (d : Nat) : bh_Con l G base (bh_Bg G base sb L xs) y_M_uninstall (.code y_M_uninstall c_M_uninstall 2 (some .int) :: bh_ws) (bh_rm (d + 5) 0) 0 false F_M_uninstall := by
  refine bh_method (cc := c_M_uninstall) (ret := (some .int)) (by decide +kernel) rfl ?_
  intro p e s m args below meth c ad0 M0 Z X0 hr hlocks hname htab hbs hB
  obtain ⟨hx, hb, hml, hown, hts⟩ := id X0
  have hw : ∀ w ∈ bh_ws, w.before args s = true := fun w h => hts w (List.mem_cons_of_mem _ h)
  have hBg := bh_BgK (G := G) (base := base) (sb := sb) (L := L) (xs := xs)
  obtain ⟨hK, hAr, hen, hinj, hu1, hu2, hstr, hX, hsb, hsc, hxw, hao, hnc⟩ := id hB
  obtain ⟨ha1, ha2, ha3, ha4, ha5, ha6, ha0⟩ := bh_arr hAr
  exact List.forall_mem_cons.mpr ⟨fun S h => bs_aload_n (Z := Z) hx hb rfl d_M_uninstall_0 h, List.forall_mem_cons.mpr ⟨fun S h => bs_iconst (Z := Z) hx hb (by decide) d_M_uninstall_1 h, List.forall_mem_cons.mpr ⟨fun S h => bs_pI (Z := Z) (C := R_M) (T := F_M) (N := 40) (t := 40) (j := 0) hx hb hK hts (fun w h => List.mem_cons_of_mem _ (iw_M w h)) hown rfl rfl (by decide) (hts _ (List.mem_cons_of_mem _ wd_784)) (fun _ h => h) rfl rfl t_M t_M_ok n_M rfl (by decide +kernel) rfl d_M_uninstall_2 h, List.forall_mem_cons.mpr ⟨fun S h => bs_iload_n (Z := Z) hx hb rfl d_M_uninstall_5 h, List.forall_mem_cons.mpr ⟨fun S h => bs_callS (Z := Z) hBg hbs hB X0 (cn_M_isBundle htr (d + 2)) (cl_M_isBundle _ _ hw) (hts _ (List.mem_cons_of_mem _ wd_915)) (hts _ (List.mem_cons_of_mem _ wd_916)) (Nat.le_refl _) (Nat.le_refl _) d_M_uninstall_6 (bs_out htab hlocks) h, List.forall_mem_cons.mpr ⟨fun S h => bs_if_ne (Z := Z) hx hb d_M_uninstall_9 (by decide) h, List.forall_mem_cons.mpr ⟨fun S h => bs_aload_n (Z := Z) hx hb rfl d_M_uninstall_12 h, List.forall_mem_cons.mpr ⟨fun S h => bs_iconst (Z := Z) hx hb (by decide) d_M_uninstall_13 h, List.forall_mem_cons.mpr ⟨fun S h => bs_callV (Z := Z) (C := R_M) hBg hbs hB X0 hK (cn_M_raise htr (d + 3)) (cl_M_raise _ _ hw) (hts _ (List.mem_cons_of_mem _ wd_921)) (hts _ (List.mem_cons_of_mem _ wd_923)) (hts _ (List.mem_cons_of_mem _ ws_25)) rfl rfl rfl rfl rfl (Nat.le_refl _) (Nat.le_refl _) d_M_uninstall_14 (bs_out htab hlocks) h, List.forall_mem_cons.mpr ⟨fun S h => bs_iret (Z := Z) hx hb hr hlocks d_M_uninstall_17 h, List.forall_mem_cons.mpr ⟨fun S h => bs_aload_n (Z := Z) hx hb rfl d_M_uninstall_18 h, List.forall_mem_cons.mpr ⟨fun S h => bs_gR (Z := Z) (C := R_M) (T := F_M) (N := 40) (t := 40) (j := 1) hx hb hK hts (fun w h => List.mem_cons_of_mem _ (iw_M w h)) hown rfl rfl (by decide) (hts _ (List.mem_cons_of_mem _ wd_785)) (fun _ h => h) rfl rfl rfl d_M_uninstall_19 h, List.forall_mem_cons.mpr ⟨fun S h => bs_iload_n (Z := Z) hx hb rfl d_M_uninstall_22 h, List.forall_mem_cons.mpr ⟨fun S h => bs_Iald (Z := Z) hx hb ha1 d_M_uninstall_23 h, List.forall_mem_cons.mpr ⟨fun S h => bs_if_ne (Z := Z) hx hb d_M_uninstall_24 (by decide) h, List.forall_mem_cons.mpr ⟨fun S h => bs_aload_n (Z := Z) hx hb rfl d_M_uninstall_27 h, List.forall_mem_cons.mpr ⟨fun S h => bs_iconst (Z := Z) hx hb (by decide) d_M_uninstall_28 h, List.forall_mem_cons.mpr ⟨fun S h => bs_callV (Z := Z) (C := R_M) hBg hbs hB X0 hK (cn_M_raise htr (d + 3)) (cl_M_raise _ _ hw) (hts _ (List.mem_cons_of_mem _ wd_921)) (hts _ (List.mem_cons_of_mem _ wd_923)) (hts _ (List.mem_cons_of_mem _ ws_25)) rfl rfl rfl rfl rfl (Nat.le_refl _) (Nat.le_refl _) d_M_uninstall_29 (bs_out htab hlocks) h, List.forall_mem_cons.mpr ⟨fun S h => bs_goto (Z := Z) hx hb d_M_uninstall_32 (by decide) h, List.forall_mem_cons.mpr ⟨fun S h => bs_aload_n (Z := Z) hx hb rfl d_M_uninstall_35 h, List.forall_mem_cons.mpr ⟨fun S h => bs_iload_n (Z := Z) hx hb rfl d_M_uninstall_36 h, List.forall_mem_cons.mpr ⟨fun S h => bs_iconst (Z := Z) hx hb (by decide) d_M_uninstall_37 h, List.forall_mem_cons.mpr ⟨fun S h => bs_callV (Z := Z) (C := R_M) hBg hbs hB X0 hK (cn_M_remove htr (d + 0)) (cl_M_remove _ _ hw) (hts _ (List.mem_cons_of_mem _ wd_1058)) (hts _ (List.mem_cons_of_mem _ wd_1060)) (hts _ (List.mem_cons_of_mem _ ws_52)) rfl rfl rfl rfl rfl (Nat.le_refl _) (Nat.le_refl _) d_M_uninstall_38 (bs_out htab hlocks) h, List.forall_mem_cons.mpr ⟨fun S h => bs_iret (Z := Z) hx hb hr hlocks d_M_uninstall_41 h, fun _ h => absurd h List.not_mem_nil⟩⟩⟩⟩⟩⟩⟩⟩⟩⟩⟩⟩⟩⟩⟩⟩⟩⟩⟩⟩⟩⟩⟩⟩
abbrev c_M_update : ByteArray := prog_10_method_42_code
def y_M_update : MethodName := ⟨"BundleHallModel", "update", "(I)I"⟩
theorem d_M_update_0 : decode c_M_update 0 = .ok (.aload_n 0, 1) := by decide +kernel
theorem d_M_update_1 : decode c_M_update 1 = .ok (.iconst 0, 1) := by decide +kernel
theorem d_M_update_2 : decode c_M_update 2 = .ok (.putfield 109, 3) := by decide +kernel
theorem d_M_update_5 : decode c_M_update 5 = .ok (.iload_n 1, 1) := by decide +kernel
theorem d_M_update_6 : decode c_M_update 6 = .ok (.invokestatic 126, 3) := by decide +kernel
theorem d_M_update_9 : decode c_M_update 9 = .ok (.ifCond .ne 9, 3) := by decide +kernel
theorem d_M_update_12 : decode c_M_update 12 = .ok (.aload_n 0, 1) := by decide +kernel
theorem d_M_update_13 : decode c_M_update 13 = .ok (.iconst 1, 1) := by decide +kernel
theorem d_M_update_14 : decode c_M_update 14 = .ok (.invokevirtual 130, 3) := by decide +kernel
theorem d_M_update_17 : decode c_M_update 17 = .ok (.ireturn, 1) := by decide +kernel
theorem d_M_update_18 : decode c_M_update 18 = .ok (.aload_n 0, 1) := by decide +kernel
theorem d_M_update_19 : decode c_M_update 19 = .ok (.getfield 7, 3) := by decide +kernel
theorem d_M_update_22 : decode c_M_update 22 = .ok (.iload_n 1, 1) := by decide +kernel
theorem d_M_update_23 : decode c_M_update 23 = .ok (.iaload, 1) := by decide +kernel
theorem d_M_update_24 : decode c_M_update 24 = .ok (.ifCond .ne 11, 3) := by decide +kernel
theorem d_M_update_27 : decode c_M_update 27 = .ok (.aload_n 0, 1) := by decide +kernel
theorem d_M_update_28 : decode c_M_update 28 = .ok (.iconst 2, 1) := by decide +kernel
theorem d_M_update_29 : decode c_M_update 29 = .ok (.invokevirtual 130, 3) := by decide +kernel
theorem d_M_update_32 : decode c_M_update 32 = .ok (.goto 9, 3) := by decide +kernel
theorem d_M_update_35 : decode c_M_update 35 = .ok (.aload_n 0, 1) := by decide +kernel
theorem d_M_update_36 : decode c_M_update 36 = .ok (.iload_n 1, 1) := by decide +kernel
theorem d_M_update_37 : decode c_M_update 37 = .ok (.iconst 1, 1) := by decide +kernel
theorem d_M_update_38 : decode c_M_update 38 = .ok (.invokevirtual 241, 3) := by decide +kernel
theorem d_M_update_41 : decode c_M_update 41 = .ok (.ireturn, 1) := by decide +kernel
def T_M_update_0 : List (Nat × bh_Op) := [(0, bo_ald 1 0),
  (1, bo_st 2 (bg_push (.inl (.int 0)))),
  (2, bo_pI 5 40 0),
  (5, bo_ild 6 1),
  (6, bo_callS 9 1 0 0 F_M_isBundle),
  (9, bo_if1 12 18 (fun x => ¬ x = 0)),
  (12, bo_ald 13 0),
  (13, bo_st 14 (bg_push (.inl (.int 1)))),
  (14, bo_callV 17 2 0 0 40 F_M_raise),
  (17, bo_iret 0),
  (18, bo_ald 19 0),
  (19, bo_gR 22 40 1 41),
  (22, bo_ild 23 1),
  (23, bo_Iald bh_ak bh_al 24),
  (24, bo_if1 27 35 (fun x => ¬ x = 0)),
  (27, bo_ald 28 0),
  (28, bo_st 29 (bg_push (.inl (.int 2)))),
  (29, bo_callV 32 2 0 0 40 F_M_raise),
  (32, bo_go 41),
  (35, bo_ald 36 0),
  (36, bo_ild 37 1),
  (37, bo_st 38 (bg_push (.inl (.int 1)))),
  (38, bo_callV 41 3 0 0 40 F_M_remove),
  (41, bo_iret 0)]
def T_M_update : List (Nat × bh_Op) := T_M_update_0
set_option maxRecDepth 20000 in
theorem mT_M_update_0 : ∀ q ∈ T_M_update_0, bh_mono q.2 := List.forall_mem_cons.mpr ⟨bo_ald_m _ _, List.forall_mem_cons.mpr ⟨bo_st_mono (bg_push_m _), List.forall_mem_cons.mpr ⟨bo_pI_m _ _ _, List.forall_mem_cons.mpr ⟨bo_ild_m _ _, List.forall_mem_cons.mpr ⟨bo_callS_m (mF_M_isBundle) _ _ _ _, List.forall_mem_cons.mpr ⟨bo_if1_m _ _ _, List.forall_mem_cons.mpr ⟨bo_ald_m _ _, List.forall_mem_cons.mpr ⟨bo_st_mono (bg_push_m _), List.forall_mem_cons.mpr ⟨bo_callV_m (mF_M_raise) _ _ _ _ _, List.forall_mem_cons.mpr ⟨bo_iret_m _, List.forall_mem_cons.mpr ⟨bo_ald_m _ _, List.forall_mem_cons.mpr ⟨bo_gR_m _ _ _ _, List.forall_mem_cons.mpr ⟨bo_ild_m _ _, List.forall_mem_cons.mpr ⟨bo_Iald_m _ _ _, List.forall_mem_cons.mpr ⟨bo_if1_m _ _ _, List.forall_mem_cons.mpr ⟨bo_ald_m _ _, List.forall_mem_cons.mpr ⟨bo_st_mono (bg_push_m _), List.forall_mem_cons.mpr ⟨bo_callV_m (mF_M_raise) _ _ _ _ _, List.forall_mem_cons.mpr ⟨bo_go_m _, List.forall_mem_cons.mpr ⟨bo_ald_m _ _, List.forall_mem_cons.mpr ⟨bo_ild_m _ _, List.forall_mem_cons.mpr ⟨bo_st_mono (bg_push_m _), List.forall_mem_cons.mpr ⟨bo_callV_m (mF_M_remove) _ _ _ _ _, List.forall_mem_cons.mpr ⟨bo_iret_m _, fun _ h => absurd h List.not_mem_nil⟩⟩⟩⟩⟩⟩⟩⟩⟩⟩⟩⟩⟩⟩⟩⟩⟩⟩⟩⟩⟩⟩⟩⟩
theorem m_M_update : ∀ pc, bh_mono (bh_tb (T_M_update) pc) := bh_tb_m mT_M_update_0
def F_M_update : bh_Fn := bh_fn 2 (bh_tb T_M_update)
theorem mF_M_update : bh_monoF F_M_update := bh_fn_m m_M_update
theorem cl_M_update {s : State} {args : Array Value} (d B : Nat) (hts : ∀ w ∈ bh_ws, w.before args s = true) : bh_Cal (bh_rm (d + 1) B) s y_M_update 2 (.code y_M_update c_M_update 2 (some .int) :: bh_ws) (bh_rm d 0) 0 1 := bh_cal d B hts wd_1069 wd_9 (by decide) (by decide +kernel)
set_option maxHeartbeats 4000000 in
set_option maxRecDepth 100000 in
theorem cn_M_update {l : Launch} {G : bh_G} {base sb L : Nat} {xs : Nat → Int32} (htr : l.stackTraces = false) (d : Nat) : bh_Con l G base (bh_Bg G base sb L xs) y_M_update (.code y_M_update c_M_update 2 (some .int) :: bh_ws) (bh_rm (d + 5) 0) 0 false F_M_update := by
  refine bh_method (cc := c_M_update) (ret := (some .int)) (by decide +kernel) rfl ?_
  intro p e s m args below meth c ad0 M0 Z X0 hr hlocks hname htab hbs hB
  obtain ⟨hx, hb, hml, hown, hts⟩ := id X0
  have hw : ∀ w ∈ bh_ws, w.before args s = true := fun w h => hts w (List.mem_cons_of_mem _ h)
  have hBg := bh_BgK (G := G) (base := base) (sb := sb) (L := L) (xs := xs)
  obtain ⟨hK, hAr, hen, hinj, hu1, hu2, hstr, hX, hsb, hsc, hxw, hao, hnc⟩ := id hB
  obtain ⟨ha1, ha2, ha3, ha4, ha5, ha6, ha0⟩ := bh_arr hAr
  exact List.forall_mem_cons.mpr ⟨fun S h => bs_aload_n (Z := Z) hx hb rfl d_M_update_0 h, List.forall_mem_cons.mpr ⟨fun S h => bs_iconst (Z := Z) hx hb (by decide) d_M_update_1 h, List.forall_mem_cons.mpr ⟨fun S h => bs_pI (Z := Z) (C := R_M) (T := F_M) (N := 40) (t := 40) (j := 0) hx hb hK hts (fun w h => List.mem_cons_of_mem _ (iw_M w h)) hown rfl rfl (by decide) (hts _ (List.mem_cons_of_mem _ wd_784)) (fun _ h => h) rfl rfl t_M t_M_ok n_M rfl (by decide +kernel) rfl d_M_update_2 h, List.forall_mem_cons.mpr ⟨fun S h => bs_iload_n (Z := Z) hx hb rfl d_M_update_5 h, List.forall_mem_cons.mpr ⟨fun S h => bs_callS (Z := Z) hBg hbs hB X0 (cn_M_isBundle htr (d + 2)) (cl_M_isBundle _ _ hw) (hts _ (List.mem_cons_of_mem _ wd_915)) (hts _ (List.mem_cons_of_mem _ wd_916)) (Nat.le_refl _) (Nat.le_refl _) d_M_update_6 (bs_out htab hlocks) h, List.forall_mem_cons.mpr ⟨fun S h => bs_if_ne (Z := Z) hx hb d_M_update_9 (by decide) h, List.forall_mem_cons.mpr ⟨fun S h => bs_aload_n (Z := Z) hx hb rfl d_M_update_12 h, List.forall_mem_cons.mpr ⟨fun S h => bs_iconst (Z := Z) hx hb (by decide) d_M_update_13 h, List.forall_mem_cons.mpr ⟨fun S h => bs_callV (Z := Z) (C := R_M) hBg hbs hB X0 hK (cn_M_raise htr (d + 3)) (cl_M_raise _ _ hw) (hts _ (List.mem_cons_of_mem _ wd_921)) (hts _ (List.mem_cons_of_mem _ wd_923)) (hts _ (List.mem_cons_of_mem _ ws_25)) rfl rfl rfl rfl rfl (Nat.le_refl _) (Nat.le_refl _) d_M_update_14 (bs_out htab hlocks) h, List.forall_mem_cons.mpr ⟨fun S h => bs_iret (Z := Z) hx hb hr hlocks d_M_update_17 h, List.forall_mem_cons.mpr ⟨fun S h => bs_aload_n (Z := Z) hx hb rfl d_M_update_18 h, List.forall_mem_cons.mpr ⟨fun S h => bs_gR (Z := Z) (C := R_M) (T := F_M) (N := 40) (t := 40) (j := 1) hx hb hK hts (fun w h => List.mem_cons_of_mem _ (iw_M w h)) hown rfl rfl (by decide) (hts _ (List.mem_cons_of_mem _ wd_785)) (fun _ h => h) rfl rfl rfl d_M_update_19 h, List.forall_mem_cons.mpr ⟨fun S h => bs_iload_n (Z := Z) hx hb rfl d_M_update_22 h, List.forall_mem_cons.mpr ⟨fun S h => bs_Iald (Z := Z) hx hb ha1 d_M_update_23 h, List.forall_mem_cons.mpr ⟨fun S h => bs_if_ne (Z := Z) hx hb d_M_update_24 (by decide) h, List.forall_mem_cons.mpr ⟨fun S h => bs_aload_n (Z := Z) hx hb rfl d_M_update_27 h, List.forall_mem_cons.mpr ⟨fun S h => bs_iconst (Z := Z) hx hb (by decide) d_M_update_28 h, List.forall_mem_cons.mpr ⟨fun S h => bs_callV (Z := Z) (C := R_M) hBg hbs hB X0 hK (cn_M_raise htr (d + 3)) (cl_M_raise _ _ hw) (hts _ (List.mem_cons_of_mem _ wd_921)) (hts _ (List.mem_cons_of_mem _ wd_923)) (hts _ (List.mem_cons_of_mem _ ws_25)) rfl rfl rfl rfl rfl (Nat.le_refl _) (Nat.le_refl _) d_M_update_29 (bs_out htab hlocks) h, List.forall_mem_cons.mpr ⟨fun S h => bs_goto (Z := Z) hx hb d_M_update_32 (by decide) h, List.forall_mem_cons.mpr ⟨fun S h => bs_aload_n (Z := Z) hx hb rfl d_M_update_35 h, List.forall_mem_cons.mpr ⟨fun S h => bs_iload_n (Z := Z) hx hb rfl d_M_update_36 h, List.forall_mem_cons.mpr ⟨fun S h => bs_iconst (Z := Z) hx hb (by decide) d_M_update_37 h, List.forall_mem_cons.mpr ⟨fun S h => bs_callV (Z := Z) (C := R_M) hBg hbs hB X0 hK (cn_M_remove htr (d + 0)) (cl_M_remove _ _ hw) (hts _ (List.mem_cons_of_mem _ wd_1058)) (hts _ (List.mem_cons_of_mem _ wd_1060)) (hts _ (List.mem_cons_of_mem _ ws_52)) rfl rfl rfl rfl rfl (Nat.le_refl _) (Nat.le_refl _) d_M_update_38 (bs_out htab hlocks) h, List.forall_mem_cons.mpr ⟨fun S h => bs_iret (Z := Z) hx hb hr hlocks d_M_update_41 h, fun _ h => absurd h List.not_mem_nil⟩⟩⟩⟩⟩⟩⟩⟩⟩⟩⟩⟩⟩⟩⟩⟩⟩⟩⟩⟩⟩⟩⟩⟩
abbrev c_M_old : ByteArray := prog_10_method_43_code
def y_M_old : MethodName := ⟨"BundleHallModel", "old", "(J)Z"⟩
theorem d_M_old_0 : decode c_M_old 0 = .ok (.aload_n 0, 1) := by decide +kernel
theorem d_M_old_1 : decode c_M_old 1 = .ok (.getfield 7, 3) := by decide +kernel
theorem d_M_old_4 : decode c_M_old 4 = .ok (.lload_n 1, 1) := by decide +kernel
theorem d_M_old_5 : decode c_M_old 5 = .ok (.ldc2_w 137, 3) := by decide +kernel
theorem d_M_old_8 : decode c_M_old 8 = .ok (.ldiv, 1) := by decide +kernel
theorem d_M_old_9 : decode c_M_old 9 = .ok (.ldc2_w 137, 3) := by decide +kernel
theorem d_M_old_12 : decode c_M_old 12 = .ok (.lrem, 1) := by decide +kernel
theorem d_M_old_13 : decode c_M_old 13 = .ok (.l2i, 1) := by decide +kernel
theorem d_M_old_14 : decode c_M_old 14 = .ok (.iaload, 1) := by decide +kernel
theorem d_M_old_15 : decode c_M_old 15 = .ok (.ifCond .eq 27, 3) := by decide +kernel
theorem d_M_old_18 : decode c_M_old 18 = .ok (.lload_n 1, 1) := by decide +kernel
theorem d_M_old_19 : decode c_M_old 19 = .ok (.ldc2_w 245, 3) := by decide +kernel
theorem d_M_old_22 : decode c_M_old 22 = .ok (.ldiv, 1) := by decide +kernel
theorem d_M_old_23 : decode c_M_old 23 = .ok (.aload_n 0, 1) := by decide +kernel
theorem d_M_old_24 : decode c_M_old 24 = .ok (.getfield 29, 3) := by decide +kernel
theorem d_M_old_27 : decode c_M_old 27 = .ok (.lload_n 1, 1) := by decide +kernel
theorem d_M_old_28 : decode c_M_old 28 = .ok (.ldc2_w 137, 3) := by decide +kernel
theorem d_M_old_31 : decode c_M_old 31 = .ok (.ldiv, 1) := by decide +kernel
theorem d_M_old_32 : decode c_M_old 32 = .ok (.ldc2_w 137, 3) := by decide +kernel
theorem d_M_old_35 : decode c_M_old 35 = .ok (.lrem, 1) := by decide +kernel
theorem d_M_old_36 : decode c_M_old 36 = .ok (.l2i, 1) := by decide +kernel
theorem d_M_old_37 : decode c_M_old 37 = .ok (.laload, 1) := by decide +kernel
theorem d_M_old_38 : decode c_M_old 38 = .ok (.lcmp, 1) := by decide +kernel
theorem d_M_old_39 : decode c_M_old 39 = .ok (.ifCond .eq 7, 3) := by decide +kernel
theorem d_M_old_42 : decode c_M_old 42 = .ok (.iconst 1, 1) := by decide +kernel
theorem d_M_old_43 : decode c_M_old 43 = .ok (.goto 4, 3) := by decide +kernel
theorem d_M_old_46 : decode c_M_old 46 = .ok (.iconst 0, 1) := by decide +kernel
theorem d_M_old_47 : decode c_M_old 47 = .ok (.ireturn, 1) := by decide +kernel
def T_M_old_0 : List (Nat × bh_Op) := [(0, bo_ald 1 0),
  (1, bo_gR 4 40 1 41),
  (4, bo_lld 5 1),
  (5, bo_st 8 (bg_push (.inl (.long 8)))),
  (8, bo_st 9 (bg_lv (fun x y => x / y))),
  (9, bo_st 12 (bg_push (.inl (.long 8)))),
  (12, bo_st 13 (bg_lv (fun x y => x - x / y * y))),
  (13, bo_st 14 (bg_l1 (fun x => .inl (.int x.toInt32)))),
  (14, bo_Iald bh_ak bh_al 15),
  (15, bo_if1 18 42 (fun x => x = 0)),
  (18, bo_lld 19 1),
  (19, bo_st 22 (bg_push (.inl (.long 64)))),
  (22, bo_st 23 (bg_lv (fun x y => x / y))),
  (23, bo_ald 24 0),
  (24, bo_gR 27 40 7 47),
  (27, bo_lld 28 1),
  (28, bo_st 31 (bg_push (.inl (.long 8)))),
  (31, bo_st 32 (bg_lv (fun x y => x / y))),
  (32, bo_st 35 (bg_push (.inl (.long 8)))),
  (35, bo_st 36 (bg_lv (fun x y => x - x / y * y))),
  (36, bo_st 37 (bg_l1 (fun x => .inl (.int x.toInt32)))),
  (37, bo_Jald bh_ak bh_al 38),
  (38, bo_st 39 (bg_lc lg_cmp)),
  (39, bo_if1 42 46 (fun x => x = 0)),
  (42, bo_st 43 (bg_push (.inl (.int 1)))),
  (43, bo_go 47),
  (46, bo_st 47 (bg_push (.inl (.int 0)))),
  (47, bo_zret 0)]
def T_M_old : List (Nat × bh_Op) := T_M_old_0
set_option maxRecDepth 20000 in
theorem mT_M_old_0 : ∀ q ∈ T_M_old_0, bh_mono q.2 := List.forall_mem_cons.mpr ⟨bo_ald_m _ _, List.forall_mem_cons.mpr ⟨bo_gR_m _ _ _ _, List.forall_mem_cons.mpr ⟨bo_lld_m _ _, List.forall_mem_cons.mpr ⟨bo_st_mono (bg_push_m _), List.forall_mem_cons.mpr ⟨bo_st_mono (bg_lv_m _), List.forall_mem_cons.mpr ⟨bo_st_mono (bg_push_m _), List.forall_mem_cons.mpr ⟨bo_st_mono (bg_lv_m _), List.forall_mem_cons.mpr ⟨bo_st_mono (bg_l1_m _), List.forall_mem_cons.mpr ⟨bo_Iald_m _ _ _, List.forall_mem_cons.mpr ⟨bo_if1_m _ _ _, List.forall_mem_cons.mpr ⟨bo_lld_m _ _, List.forall_mem_cons.mpr ⟨bo_st_mono (bg_push_m _), List.forall_mem_cons.mpr ⟨bo_st_mono (bg_lv_m _), List.forall_mem_cons.mpr ⟨bo_ald_m _ _, List.forall_mem_cons.mpr ⟨bo_gR_m _ _ _ _, List.forall_mem_cons.mpr ⟨bo_lld_m _ _, List.forall_mem_cons.mpr ⟨bo_st_mono (bg_push_m _), List.forall_mem_cons.mpr ⟨bo_st_mono (bg_lv_m _), List.forall_mem_cons.mpr ⟨bo_st_mono (bg_push_m _), List.forall_mem_cons.mpr ⟨bo_st_mono (bg_lv_m _), List.forall_mem_cons.mpr ⟨bo_st_mono (bg_l1_m _), List.forall_mem_cons.mpr ⟨bo_Jald_m _ _ _, List.forall_mem_cons.mpr ⟨bo_st_mono (bg_lc_m _), List.forall_mem_cons.mpr ⟨bo_if1_m _ _ _, List.forall_mem_cons.mpr ⟨bo_st_mono (bg_push_m _), List.forall_mem_cons.mpr ⟨bo_go_m _, List.forall_mem_cons.mpr ⟨bo_st_mono (bg_push_m _), List.forall_mem_cons.mpr ⟨bo_zret_m _, fun _ h => absurd h List.not_mem_nil⟩⟩⟩⟩⟩⟩⟩⟩⟩⟩⟩⟩⟩⟩⟩⟩⟩⟩⟩⟩⟩⟩⟩⟩⟩⟩⟩⟩
theorem m_M_old : ∀ pc, bh_mono (bh_tb (T_M_old) pc) := bh_tb_m mT_M_old_0
def F_M_old : bh_Fn := bh_fn 3 (bh_tb T_M_old)
theorem mF_M_old : bh_monoF F_M_old := bh_fn_m m_M_old
theorem cl_M_old {s : State} {args : Array Value} (d B : Nat) (hts : ∀ w ∈ bh_ws, w.before args s = true) : bh_Cal (bh_rm (d + 1) B) s y_M_old 3 (.code y_M_old c_M_old 3 (some .boolean) :: bh_ws) (bh_rm d 0) 0 1 := bh_cal d B hts wd_1077 wd_9 (by decide) (by decide +kernel)
set_option maxHeartbeats 4000000 in
set_option maxRecDepth 100000 in
theorem cn_M_old {l : Launch} {G : bh_G} {base sb L : Nat} {xs : Nat → Int32} (htr : l.stackTraces = false) (d : Nat) : bh_Con l G base (bh_Bg G base sb L xs) y_M_old (.code y_M_old c_M_old 3 (some .boolean) :: bh_ws) (bh_rm (d + 1) 0) 0 false F_M_old := by
  refine bh_method (cc := c_M_old) (ret := (some .boolean)) (by decide +kernel) rfl ?_
  intro p e s m args below meth c ad0 M0 Z X0 hr hlocks hname htab hbs hB
  obtain ⟨hx, hb, hml, hown, hts⟩ := id X0
  have hw : ∀ w ∈ bh_ws, w.before args s = true := fun w h => hts w (List.mem_cons_of_mem _ h)
  have hBg := bh_BgK (G := G) (base := base) (sb := sb) (L := L) (xs := xs)
  obtain ⟨hK, hAr, hen, hinj, hu1, hu2, hstr, hX, hsb, hsc, hxw, hao, hnc⟩ := id hB
  obtain ⟨ha1, ha2, ha3, ha4, ha5, ha6, ha0⟩ := bh_arr hAr
  exact List.forall_mem_cons.mpr ⟨fun S h => bs_aload_n (Z := Z) hx hb rfl d_M_old_0 h, List.forall_mem_cons.mpr ⟨fun S h => bs_gR (Z := Z) (C := R_M) (T := F_M) (N := 40) (t := 40) (j := 1) hx hb hK hts (fun w h => List.mem_cons_of_mem _ (iw_M w h)) hown rfl rfl (by decide) (hts _ (List.mem_cons_of_mem _ wd_785)) (fun _ h => h) rfl rfl rfl d_M_old_1 h, List.forall_mem_cons.mpr ⟨fun S h => bs_lload_n (Z := Z) hx hb rfl d_M_old_4 h, List.forall_mem_cons.mpr ⟨fun S h => bs_ldcl (Z := Z) hx hb hown (hts _ (List.mem_cons_of_mem _ wd_997)) d_M_old_5 h, List.forall_mem_cons.mpr ⟨fun S h => bs_ldiv (Z := Z) hx hb d_M_old_8 h, List.forall_mem_cons.mpr ⟨fun S h => bs_ldcl (Z := Z) hx hb hown (hts _ (List.mem_cons_of_mem _ wd_997)) d_M_old_9 h, List.forall_mem_cons.mpr ⟨fun S h => bs_lrem (Z := Z) hx hb d_M_old_12 h, List.forall_mem_cons.mpr ⟨fun S h => bs_l2i (Z := Z) hx hb d_M_old_13 h, List.forall_mem_cons.mpr ⟨fun S h => bs_Iald (Z := Z) hx hb ha1 d_M_old_14 h, List.forall_mem_cons.mpr ⟨fun S h => bs_if_eq (Z := Z) hx hb d_M_old_15 (by decide) h, List.forall_mem_cons.mpr ⟨fun S h => bs_lload_n (Z := Z) hx hb rfl d_M_old_18 h, List.forall_mem_cons.mpr ⟨fun S h => bs_ldcl (Z := Z) hx hb hown (hts _ (List.mem_cons_of_mem _ wd_1078)) d_M_old_19 h, List.forall_mem_cons.mpr ⟨fun S h => bs_ldiv (Z := Z) hx hb d_M_old_22 h, List.forall_mem_cons.mpr ⟨fun S h => bs_aload_n (Z := Z) hx hb rfl d_M_old_23 h, List.forall_mem_cons.mpr ⟨fun S h => bs_gR (Z := Z) (C := R_M) (T := F_M) (N := 40) (t := 40) (j := 7) hx hb hK hts (fun w h => List.mem_cons_of_mem _ (iw_M w h)) hown rfl rfl (by decide) (hts _ (List.mem_cons_of_mem _ wd_791)) (fun _ h => h) rfl rfl rfl d_M_old_24 h, List.forall_mem_cons.mpr ⟨fun S h => bs_lload_n (Z := Z) hx hb rfl d_M_old_27 h, List.forall_mem_cons.mpr ⟨fun S h => bs_ldcl (Z := Z) hx hb hown (hts _ (List.mem_cons_of_mem _ wd_997)) d_M_old_28 h, List.forall_mem_cons.mpr ⟨fun S h => bs_ldiv (Z := Z) hx hb d_M_old_31 h, List.forall_mem_cons.mpr ⟨fun S h => bs_ldcl (Z := Z) hx hb hown (hts _ (List.mem_cons_of_mem _ wd_997)) d_M_old_32 h, List.forall_mem_cons.mpr ⟨fun S h => bs_lrem (Z := Z) hx hb d_M_old_35 h, List.forall_mem_cons.mpr ⟨fun S h => bs_l2i (Z := Z) hx hb d_M_old_36 h, List.forall_mem_cons.mpr ⟨fun S h => bs_Jald (Z := Z) hx hb ha3 d_M_old_37 h, List.forall_mem_cons.mpr ⟨fun S h => bs_lcmp (Z := Z) hx hb d_M_old_38 h, List.forall_mem_cons.mpr ⟨fun S h => bs_if_eq (Z := Z) hx hb d_M_old_39 (by decide) h, List.forall_mem_cons.mpr ⟨fun S h => bs_iconst (Z := Z) hx hb (by decide) d_M_old_42 h, List.forall_mem_cons.mpr ⟨fun S h => bs_goto (Z := Z) hx hb d_M_old_43 (by decide) h, List.forall_mem_cons.mpr ⟨fun S h => bs_iconst (Z := Z) hx hb (by decide) d_M_old_46 h, List.forall_mem_cons.mpr ⟨fun S h => bs_zret (Z := Z) hx hb hr hlocks d_M_old_47 h, fun _ h => absurd h List.not_mem_nil⟩⟩⟩⟩⟩⟩⟩⟩⟩⟩⟩⟩⟩⟩⟩⟩⟩⟩⟩⟩⟩⟩⟩⟩⟩⟩⟩⟩
abbrev c_M_refresh : ByteArray := prog_10_method_44_code
def y_M_refresh : MethodName := ⟨"BundleHallModel", "refresh", "()I"⟩
theorem d_M_refresh_0 : decode c_M_refresh 0 = .ok (.aload_n 0, 1) := by decide +kernel
theorem d_M_refresh_1 : decode c_M_refresh 1 = .ok (.iconst 0, 1) := by decide +kernel
theorem d_M_refresh_2 : decode c_M_refresh 2 = .ok (.putfield 109, 3) := by decide +kernel
theorem d_M_refresh_5 : decode c_M_refresh 5 = .ok (.iconst 0, 1) := by decide +kernel
theorem d_M_refresh_6 : decode c_M_refresh 6 = .ok (.istore_n 1, 1) := by decide +kernel
theorem d_M_refresh_7 : decode c_M_refresh 7 = .ok (.iconst 0, 1) := by decide +kernel
theorem d_M_refresh_8 : decode c_M_refresh 8 = .ok (.istore_n 2, 1) := by decide +kernel
theorem d_M_refresh_9 : decode c_M_refresh 9 = .ok (.iload_n 2, 1) := by decide +kernel
theorem d_M_refresh_10 : decode c_M_refresh 10 = .ok (.bipush 8, 2) := by decide +kernel
theorem d_M_refresh_12 : decode c_M_refresh 12 = .ok (.if_icmp .ge 16, 3) := by decide +kernel
theorem d_M_refresh_15 : decode c_M_refresh 15 = .ok (.aload_n 0, 1) := by decide +kernel
theorem d_M_refresh_16 : decode c_M_refresh 16 = .ok (.getfield 78, 3) := by decide +kernel
theorem d_M_refresh_19 : decode c_M_refresh 19 = .ok (.iload_n 2, 1) := by decide +kernel
theorem d_M_refresh_20 : decode c_M_refresh 20 = .ok (.iconst 0, 1) := by decide +kernel
theorem d_M_refresh_21 : decode c_M_refresh 21 = .ok (.bastore, 1) := by decide +kernel
theorem d_M_refresh_22 : decode c_M_refresh 22 = .ok (.iinc 2 1, 3) := by decide +kernel
theorem d_M_refresh_25 : decode c_M_refresh 25 = .ok (.goto (-16), 3) := by decide +kernel
theorem d_M_refresh_28 : decode c_M_refresh 28 = .ok (.iconst 0, 1) := by decide +kernel
theorem d_M_refresh_29 : decode c_M_refresh 29 = .ok (.istore_n 2, 1) := by decide +kernel
theorem d_M_refresh_30 : decode c_M_refresh 30 = .ok (.iload_n 2, 1) := by decide +kernel
theorem d_M_refresh_31 : decode c_M_refresh 31 = .ok (.bipush 9, 2) := by decide +kernel
theorem d_M_refresh_33 : decode c_M_refresh 33 = .ok (.if_icmp .ge 79, 3) := by decide +kernel
theorem d_M_refresh_36 : decode c_M_refresh 36 = .ok (.iconst 0, 1) := by decide +kernel
theorem d_M_refresh_37 : decode c_M_refresh 37 = .ok (.istore_n 3, 1) := by decide +kernel
theorem d_M_refresh_38 : decode c_M_refresh 38 = .ok (.iload_n 3, 1) := by decide +kernel
theorem d_M_refresh_39 : decode c_M_refresh 39 = .ok (.bipush 24, 2) := by decide +kernel
theorem d_M_refresh_41 : decode c_M_refresh 41 = .ok (.if_icmp .ge 65, 3) := by decide +kernel
theorem d_M_refresh_44 : decode c_M_refresh 44 = .ok (.aload_n 0, 1) := by decide +kernel
theorem d_M_refresh_45 : decode c_M_refresh 45 = .ok (.getfield 60, 3) := by decide +kernel
theorem d_M_refresh_48 : decode c_M_refresh 48 = .ok (.iload_n 3, 1) := by decide +kernel
theorem d_M_refresh_49 : decode c_M_refresh 49 = .ok (.laload, 1) := by decide +kernel
theorem d_M_refresh_50 : decode c_M_refresh 50 = .ok (.lconst 0, 1) := by decide +kernel
theorem d_M_refresh_51 : decode c_M_refresh 51 = .ok (.lcmp, 1) := by decide +kernel
theorem d_M_refresh_52 : decode c_M_refresh 52 = .ok (.ifCond .lt 48, 3) := by decide +kernel
theorem d_M_refresh_55 : decode c_M_refresh 55 = .ok (.aload_n 0, 1) := by decide +kernel
theorem d_M_refresh_56 : decode c_M_refresh 56 = .ok (.aload_n 0, 1) := by decide +kernel
theorem d_M_refresh_57 : decode c_M_refresh 57 = .ok (.getfield 60, 3) := by decide +kernel
theorem d_M_refresh_60 : decode c_M_refresh 60 = .ok (.iload_n 3, 1) := by decide +kernel
theorem d_M_refresh_61 : decode c_M_refresh 61 = .ok (.laload, 1) := by decide +kernel
theorem d_M_refresh_62 : decode c_M_refresh 62 = .ok (.invokevirtual 247, 3) := by decide +kernel
theorem d_M_refresh_65 : decode c_M_refresh 65 = .ok (.ifCond .ne 26, 3) := by decide +kernel
theorem d_M_refresh_68 : decode c_M_refresh 68 = .ok (.aload_n 0, 1) := by decide +kernel
theorem d_M_refresh_69 : decode c_M_refresh 69 = .ok (.getfield 78, 3) := by decide +kernel
theorem d_M_refresh_72 : decode c_M_refresh 72 = .ok (.aload_n 0, 1) := by decide +kernel
theorem d_M_refresh_73 : decode c_M_refresh 73 = .ok (.getfield 60, 3) := by decide +kernel
theorem d_M_refresh_76 : decode c_M_refresh 76 = .ok (.iload_n 3, 1) := by decide +kernel
theorem d_M_refresh_77 : decode c_M_refresh 77 = .ok (.laload, 1) := by decide +kernel
theorem d_M_refresh_78 : decode c_M_refresh 78 = .ok (.ldc2_w 137, 3) := by decide +kernel
theorem d_M_refresh_81 : decode c_M_refresh 81 = .ok (.ldiv, 1) := by decide +kernel
theorem d_M_refresh_82 : decode c_M_refresh 82 = .ok (.ldc2_w 137, 3) := by decide +kernel
theorem d_M_refresh_85 : decode c_M_refresh 85 = .ok (.lrem, 1) := by decide +kernel
theorem d_M_refresh_86 : decode c_M_refresh 86 = .ok (.l2i, 1) := by decide +kernel
theorem d_M_refresh_87 : decode c_M_refresh 87 = .ok (.baload, 1) := by decide +kernel
theorem d_M_refresh_88 : decode c_M_refresh 88 = .ok (.ifCond .eq 12, 3) := by decide +kernel
theorem d_M_refresh_91 : decode c_M_refresh 91 = .ok (.aload_n 0, 1) := by decide +kernel
theorem d_M_refresh_92 : decode c_M_refresh 92 = .ok (.getfield 78, 3) := by decide +kernel
theorem d_M_refresh_95 : decode c_M_refresh 95 = .ok (.iload_n 3, 1) := by decide +kernel
theorem d_M_refresh_96 : decode c_M_refresh 96 = .ok (.iconst 3, 1) := by decide +kernel
theorem d_M_refresh_97 : decode c_M_refresh 97 = .ok (.idiv, 1) := by decide +kernel
theorem d_M_refresh_98 : decode c_M_refresh 98 = .ok (.iconst 1, 1) := by decide +kernel
theorem d_M_refresh_99 : decode c_M_refresh 99 = .ok (.bastore, 1) := by decide +kernel
theorem d_M_refresh_100 : decode c_M_refresh 100 = .ok (.iinc 3 1, 3) := by decide +kernel
theorem d_M_refresh_103 : decode c_M_refresh 103 = .ok (.goto (-65), 3) := by decide +kernel
theorem d_M_refresh_106 : decode c_M_refresh 106 = .ok (.iinc 2 1, 3) := by decide +kernel
theorem d_M_refresh_109 : decode c_M_refresh 109 = .ok (.goto (-79), 3) := by decide +kernel
theorem d_M_refresh_112 : decode c_M_refresh 112 = .ok (.iconst 0, 1) := by decide +kernel
theorem d_M_refresh_113 : decode c_M_refresh 113 = .ok (.istore_n 2, 1) := by decide +kernel
theorem d_M_refresh_114 : decode c_M_refresh 114 = .ok (.bipush 7, 2) := by decide +kernel
theorem d_M_refresh_116 : decode c_M_refresh 116 = .ok (.istore_n 3, 1) := by decide +kernel
theorem d_M_refresh_117 : decode c_M_refresh 117 = .ok (.iload_n 3, 1) := by decide +kernel
theorem d_M_refresh_118 : decode c_M_refresh 118 = .ok (.ifCond .lt 46, 3) := by decide +kernel
theorem d_M_refresh_121 : decode c_M_refresh 121 = .ok (.aload_n 0, 1) := by decide +kernel
theorem d_M_refresh_122 : decode c_M_refresh 122 = .ok (.getfield 78, 3) := by decide +kernel
theorem d_M_refresh_125 : decode c_M_refresh 125 = .ok (.iload_n 3, 1) := by decide +kernel
theorem d_M_refresh_126 : decode c_M_refresh 126 = .ok (.baload, 1) := by decide +kernel
theorem d_M_refresh_127 : decode c_M_refresh 127 = .ok (.ifCond .ne 6, 3) := by decide +kernel
theorem d_M_refresh_130 : decode c_M_refresh 130 = .ok (.goto 28, 3) := by decide +kernel
theorem d_M_refresh_133 : decode c_M_refresh 133 = .ok (.iload_n 2, 1) := by decide +kernel
theorem d_M_refresh_134 : decode c_M_refresh 134 = .ok (.iconst 1, 1) := by decide +kernel
theorem d_M_refresh_135 : decode c_M_refresh 135 = .ok (.iload_n 3, 1) := by decide +kernel
theorem d_M_refresh_136 : decode c_M_refresh 136 = .ok (.ishl, 1) := by decide +kernel
theorem d_M_refresh_137 : decode c_M_refresh 137 = .ok (.ior, 1) := by decide +kernel
theorem d_M_refresh_138 : decode c_M_refresh 138 = .ok (.istore_n 2, 1) := by decide +kernel
theorem d_M_refresh_139 : decode c_M_refresh 139 = .ok (.iinc 1 1, 3) := by decide +kernel
theorem d_M_refresh_142 : decode c_M_refresh 142 = .ok (.aload_n 0, 1) := by decide +kernel
theorem d_M_refresh_143 : decode c_M_refresh 143 = .ok (.getfield 7, 3) := by decide +kernel
theorem d_M_refresh_146 : decode c_M_refresh 146 = .ok (.iload_n 3, 1) := by decide +kernel
theorem d_M_refresh_147 : decode c_M_refresh 147 = .ok (.iaload, 1) := by decide +kernel
theorem d_M_refresh_148 : decode c_M_refresh 148 = .ok (.iconst 3, 1) := by decide +kernel
theorem d_M_refresh_149 : decode c_M_refresh 149 = .ok (.if_icmp .ne 9, 3) := by decide +kernel
theorem d_M_refresh_152 : decode c_M_refresh 152 = .ok (.aload_n 0, 1) := by decide +kernel
theorem d_M_refresh_153 : decode c_M_refresh 153 = .ok (.iload_n 3, 1) := by decide +kernel
theorem d_M_refresh_154 : decode c_M_refresh 154 = .ok (.invokevirtual 235, 3) := by decide +kernel
theorem d_M_refresh_157 : decode c_M_refresh 157 = .ok (.pop, 1) := by decide +kernel
theorem d_M_refresh_158 : decode c_M_refresh 158 = .ok (.iinc 3 (-1), 3) := by decide +kernel
theorem d_M_refresh_161 : decode c_M_refresh 161 = .ok (.goto (-44), 3) := by decide +kernel
theorem d_M_refresh_164 : decode c_M_refresh 164 = .ok (.iconst 0, 1) := by decide +kernel
theorem d_M_refresh_165 : decode c_M_refresh 165 = .ok (.istore_n 3, 1) := by decide +kernel
theorem d_M_refresh_166 : decode c_M_refresh 166 = .ok (.iload_n 3, 1) := by decide +kernel
theorem d_M_refresh_167 : decode c_M_refresh 167 = .ok (.bipush 8, 2) := by decide +kernel
theorem d_M_refresh_169 : decode c_M_refresh 169 = .ok (.if_icmp .ge 32, 3) := by decide +kernel
theorem d_M_refresh_172 : decode c_M_refresh 172 = .ok (.iload_n 2, 1) := by decide +kernel
theorem d_M_refresh_173 : decode c_M_refresh 173 = .ok (.iload_n 3, 1) := by decide +kernel
theorem d_M_refresh_174 : decode c_M_refresh 174 = .ok (.ishr, 1) := by decide +kernel
theorem d_M_refresh_175 : decode c_M_refresh 175 = .ok (.iconst 1, 1) := by decide +kernel
theorem d_M_refresh_176 : decode c_M_refresh 176 = .ok (.iand, 1) := by decide +kernel
theorem d_M_refresh_177 : decode c_M_refresh 177 = .ok (.ifCond .ne 6, 3) := by decide +kernel
theorem d_M_refresh_180 : decode c_M_refresh 180 = .ok (.goto 15, 3) := by decide +kernel
theorem d_M_refresh_183 : decode c_M_refresh 183 = .ok (.aload_n 0, 1) := by decide +kernel
theorem d_M_refresh_184 : decode c_M_refresh 184 = .ok (.getfield 7, 3) := by decide +kernel
theorem d_M_refresh_187 : decode c_M_refresh 187 = .ok (.iload_n 3, 1) := by decide +kernel
theorem d_M_refresh_188 : decode c_M_refresh 188 = .ok (.iconst 1, 1) := by decide +kernel
theorem d_M_refresh_189 : decode c_M_refresh 189 = .ok (.iastore, 1) := by decide +kernel
theorem d_M_refresh_190 : decode c_M_refresh 190 = .ok (.aload_n 0, 1) := by decide +kernel
theorem d_M_refresh_191 : decode c_M_refresh 191 = .ok (.iload_n 3, 1) := by decide +kernel
theorem d_M_refresh_192 : decode c_M_refresh 192 = .ok (.invokevirtual 122, 3) := by decide +kernel
theorem d_M_refresh_195 : decode c_M_refresh 195 = .ok (.iinc 3 1, 3) := by decide +kernel
theorem d_M_refresh_198 : decode c_M_refresh 198 = .ok (.goto (-32), 3) := by decide +kernel
theorem d_M_refresh_201 : decode c_M_refresh 201 = .ok (.iconst 0, 1) := by decide +kernel
theorem d_M_refresh_202 : decode c_M_refresh 202 = .ok (.istore_n 3, 1) := by decide +kernel
theorem d_M_refresh_203 : decode c_M_refresh 203 = .ok (.iload_n 3, 1) := by decide +kernel
theorem d_M_refresh_204 : decode c_M_refresh 204 = .ok (.bipush 8, 2) := by decide +kernel
theorem d_M_refresh_206 : decode c_M_refresh 206 = .ok (.if_icmp .ge 55, 3) := by decide +kernel
theorem d_M_refresh_209 : decode c_M_refresh 209 = .ok (.iload_n 2, 1) := by decide +kernel
theorem d_M_refresh_210 : decode c_M_refresh 210 = .ok (.iload_n 3, 1) := by decide +kernel
theorem d_M_refresh_211 : decode c_M_refresh 211 = .ok (.ishr, 1) := by decide +kernel
theorem d_M_refresh_212 : decode c_M_refresh 212 = .ok (.iconst 1, 1) := by decide +kernel
theorem d_M_refresh_213 : decode c_M_refresh 213 = .ok (.iand, 1) := by decide +kernel
theorem d_M_refresh_214 : decode c_M_refresh 214 = .ok (.ifCond .eq 41, 3) := by decide +kernel
theorem d_M_refresh_217 : decode c_M_refresh 217 = .ok (.aload_n 0, 1) := by decide +kernel
theorem d_M_refresh_218 : decode c_M_refresh 218 = .ok (.getfield 22, 3) := by decide +kernel
theorem d_M_refresh_221 : decode c_M_refresh 221 = .ok (.iload_n 3, 1) := by decide +kernel
theorem d_M_refresh_222 : decode c_M_refresh 222 = .ok (.baload, 1) := by decide +kernel
theorem d_M_refresh_223 : decode c_M_refresh 223 = .ok (.ifCond .eq 32, 3) := by decide +kernel
theorem d_M_refresh_226 : decode c_M_refresh 226 = .ok (.aload_n 0, 1) := by decide +kernel
theorem d_M_refresh_227 : decode c_M_refresh 227 = .ok (.getfield 16, 3) := by decide +kernel
theorem d_M_refresh_230 : decode c_M_refresh 230 = .ok (.iload_n 3, 1) := by decide +kernel
theorem d_M_refresh_231 : decode c_M_refresh 231 = .ok (.iaload, 1) := by decide +kernel
theorem d_M_refresh_232 : decode c_M_refresh 232 = .ok (.aload_n 0, 1) := by decide +kernel
theorem d_M_refresh_233 : decode c_M_refresh 233 = .ok (.getfield 103, 3) := by decide +kernel
theorem d_M_refresh_236 : decode c_M_refresh 236 = .ok (.if_icmp .gt 19, 3) := by decide +kernel
theorem d_M_refresh_239 : decode c_M_refresh 239 = .ok (.aload_n 0, 1) := by decide +kernel
theorem d_M_refresh_240 : decode c_M_refresh 240 = .ok (.getfield 7, 3) := by decide +kernel
theorem d_M_refresh_243 : decode c_M_refresh 243 = .ok (.iload_n 3, 1) := by decide +kernel
theorem d_M_refresh_244 : decode c_M_refresh 244 = .ok (.iaload, 1) := by decide +kernel
theorem d_M_refresh_245 : decode c_M_refresh 245 = .ok (.iconst 3, 1) := by decide +kernel
theorem d_M_refresh_246 : decode c_M_refresh 246 = .ok (.if_icmp .eq 9, 3) := by decide +kernel
theorem d_M_refresh_249 : decode c_M_refresh 249 = .ok (.aload_n 0, 1) := by decide +kernel
theorem d_M_refresh_250 : decode c_M_refresh 250 = .ok (.iload_n 3, 1) := by decide +kernel
theorem d_M_refresh_251 : decode c_M_refresh 251 = .ok (.invokevirtual 232, 3) := by decide +kernel
theorem d_M_refresh_254 : decode c_M_refresh 254 = .ok (.pop, 1) := by decide +kernel
theorem d_M_refresh_255 : decode c_M_refresh 255 = .ok (.iinc 3 1, 3) := by decide +kernel
theorem d_M_refresh_258 : decode c_M_refresh 258 = .ok (.goto (-55), 3) := by decide +kernel
theorem d_M_refresh_261 : decode c_M_refresh 261 = .ok (.iload_n 1, 1) := by decide +kernel
theorem d_M_refresh_262 : decode c_M_refresh 262 = .ok (.ireturn, 1) := by decide +kernel
def T_M_refresh_0 : List (Nat × bh_Op) := [(0, bo_ald 1 0),
  (1, bo_st 2 (bg_push (.inl (.int 0)))),
  (2, bo_pI 5 40 0),
  (5, bo_st 6 (bg_push (.inl (.int 0)))),
  (6, bo_ist 7 1),
  (7, bo_st 8 (bg_push (.inl (.int 0)))),
  (8, bo_ist 9 2),
  (9, bo_ild 10 2),
  (10, bo_st 12 (bg_push (.inl (.int 8)))),
  (12, bo_if2 15 28 (fun x y => y ≤ x)),
  (15, bo_ald 16 0),
  (16, bo_gR 19 40 24 63),
  (19, bo_ild 20 2),
  (20, bo_st 21 (bg_push (.inl (.int 0)))),
  (21, bo_Zast bh_ak bh_al 22),
  (22, bo_inc 25 2 1),
  (25, bo_go 9),
  (28, bo_st 29 (bg_push (.inl (.int 0)))),
  (29, bo_ist 30 2),
  (30, bo_ild 31 2),
  (31, bo_st 33 (bg_push (.inl (.int 9)))),
  (33, bo_if2 36 112 (fun x y => y ≤ x)),
  (36, bo_st 37 (bg_push (.inl (.int 0)))),
  (37, bo_ist 38 3),
  (38, bo_ild 39 3),
  (39, bo_st 41 (bg_push (.inl (.int 24)))),
  (41, bo_if2 44 106 (fun x y => y ≤ x)),
  (44, bo_ald 45 0),
  (45, bo_gR 48 40 17 57),
  (48, bo_ild 49 3),
  (49, bo_Jald bh_ak bh_al 50),
  (50, bo_st 51 (bg_push (.inl (.long 0)))),
  (51, bo_st 52 (bg_lc lg_cmp)),
  (52, bo_if1 55 100 (fun x => x < 0)),
  (55, bo_ald 56 0),
  (56, bo_ald 57 0),
  (57, bo_gR 60 40 17 57),
  (60, bo_ild 61 3),
  (61, bo_Jald bh_ak bh_al 62),
  (62, bo_callV 65 2 0 0 40 F_M_old)]
def T_M_refresh_1 : List (Nat × bh_Op) := [(65, bo_if1 68 91 (fun x => ¬ x = 0)),
  (68, bo_ald 69 0),
  (69, bo_gR 72 40 24 63),
  (72, bo_ald 73 0),
  (73, bo_gR 76 40 17 57),
  (76, bo_ild 77 3),
  (77, bo_Jald bh_ak bh_al 78),
  (78, bo_st 81 (bg_push (.inl (.long 8)))),
  (81, bo_st 82 (bg_lv (fun x y => x / y))),
  (82, bo_st 85 (bg_push (.inl (.long 8)))),
  (85, bo_st 86 (bg_lv (fun x y => x - x / y * y))),
  (86, bo_st 87 (bg_l1 (fun x => .inl (.int x.toInt32)))),
  (87, bo_Zald bh_ak bh_al 88),
  (88, bo_if1 91 100 (fun x => x = 0)),
  (91, bo_ald 92 0),
  (92, bo_gR 95 40 24 63),
  (95, bo_ild 96 3),
  (96, bo_st 97 (bg_push (.inl (.int 3)))),
  (97, bo_st 98 (bg_dv (fun x y => x / y))),
  (98, bo_st 99 (bg_push (.inl (.int 1)))),
  (99, bo_Zast bh_ak bh_al 100),
  (100, bo_inc 103 3 1),
  (103, bo_go 38),
  (106, bo_inc 109 2 1),
  (109, bo_go 30),
  (112, bo_st 113 (bg_push (.inl (.int 0)))),
  (113, bo_ist 114 2),
  (114, bo_st 116 (bg_push (.inl (.int 7)))),
  (116, bo_ist 117 3),
  (117, bo_ild 118 3),
  (118, bo_if1 121 164 (fun x => x < 0)),
  (121, bo_ald 122 0),
  (122, bo_gR 125 40 24 63),
  (125, bo_ild 126 3),
  (126, bo_Zald bh_ak bh_al 127),
  (127, bo_if1 130 133 (fun x => ¬ x = 0)),
  (130, bo_go 158),
  (133, bo_ild 134 2),
  (134, bo_st 135 (bg_push (.inl (.int 1)))),
  (135, bo_ild 136 3)]
def T_M_refresh_2 : List (Nat × bh_Op) := [(136, bo_st 137 (bg_ii (fun x y => x <<< (y &&& 31)))),
  (137, bo_st 138 (bg_ii (fun x y => x ||| y))),
  (138, bo_ist 139 2),
  (139, bo_inc 142 1 1),
  (142, bo_ald 143 0),
  (143, bo_gR 146 40 1 41),
  (146, bo_ild 147 3),
  (147, bo_Iald bh_ak bh_al 148),
  (148, bo_st 149 (bg_push (.inl (.int 3)))),
  (149, bo_if2 152 158 (fun x y => ¬ x = y)),
  (152, bo_ald 153 0),
  (153, bo_ild 154 3),
  (154, bo_callV 157 2 0 0 40 F_M_stopping),
  (157, bo_st 158 bg_pop),
  (158, bo_inc 161 3 (-1)),
  (161, bo_go 117),
  (164, bo_st 165 (bg_push (.inl (.int 0)))),
  (165, bo_ist 166 3),
  (166, bo_ild 167 3),
  (167, bo_st 169 (bg_push (.inl (.int 8)))),
  (169, bo_if2 172 201 (fun x y => y ≤ x)),
  (172, bo_ild 173 2),
  (173, bo_ild 174 3),
  (174, bo_st 175 (bg_ii (fun x y => x >>> (y &&& 31)))),
  (175, bo_st 176 (bg_push (.inl (.int 1)))),
  (176, bo_st 177 (bg_ii (fun x y => x &&& y))),
  (177, bo_if1 180 183 (fun x => ¬ x = 0)),
  (180, bo_go 195),
  (183, bo_ald 184 0),
  (184, bo_gR 187 40 1 41),
  (187, bo_ild 188 3),
  (188, bo_st 189 (bg_push (.inl (.int 1)))),
  (189, bo_Iast bh_ak bh_al 190),
  (190, bo_ald 191 0),
  (191, bo_ild 192 3),
  (192, bo_callV 195 2 0 0 40 F_M_unwire),
  (195, bo_inc 198 3 1),
  (198, bo_go 166),
  (201, bo_st 202 (bg_push (.inl (.int 0)))),
  (202, bo_ist 203 3)]
def T_M_refresh_3 : List (Nat × bh_Op) := [(203, bo_ild 204 3),
  (204, bo_st 206 (bg_push (.inl (.int 8)))),
  (206, bo_if2 209 261 (fun x y => y ≤ x)),
  (209, bo_ild 210 2),
  (210, bo_ild 211 3),
  (211, bo_st 212 (bg_ii (fun x y => x >>> (y &&& 31)))),
  (212, bo_st 213 (bg_push (.inl (.int 1)))),
  (213, bo_st 214 (bg_ii (fun x y => x &&& y))),
  (214, bo_if1 217 255 (fun x => x = 0)),
  (217, bo_ald 218 0),
  (218, bo_gR 221 40 5 45),
  (221, bo_ild 222 3),
  (222, bo_Zald bh_ak bh_al 223),
  (223, bo_if1 226 255 (fun x => x = 0)),
  (226, bo_ald 227 0),
  (227, bo_gR 230 40 3 43),
  (230, bo_ild 231 3),
  (231, bo_Iald bh_ak bh_al 232),
  (232, bo_ald 233 0),
  (233, bo_gI 236 40 39),
  (236, bo_if2 239 255 (fun x y => y < x)),
  (239, bo_ald 240 0),
  (240, bo_gR 243 40 1 41),
  (243, bo_ild 244 3),
  (244, bo_Iald bh_ak bh_al 245),
  (245, bo_st 246 (bg_push (.inl (.int 3)))),
  (246, bo_if2 249 255 (fun x y => x = y)),
  (249, bo_ald 250 0),
  (250, bo_ild 251 3),
  (251, bo_callV 254 2 0 0 40 F_M_starting),
  (254, bo_st 255 bg_pop),
  (255, bo_inc 258 3 1),
  (258, bo_go 203),
  (261, bo_ild 262 1),
  (262, bo_iret 0)]
def T_M_refresh : List (Nat × bh_Op) := T_M_refresh_0 ++ T_M_refresh_1 ++ T_M_refresh_2 ++ T_M_refresh_3
set_option maxRecDepth 20000 in
theorem mT_M_refresh_0 : ∀ q ∈ T_M_refresh_0, bh_mono q.2 := List.forall_mem_cons.mpr ⟨bo_ald_m _ _, List.forall_mem_cons.mpr ⟨bo_st_mono (bg_push_m _), List.forall_mem_cons.mpr ⟨bo_pI_m _ _ _, List.forall_mem_cons.mpr ⟨bo_st_mono (bg_push_m _), List.forall_mem_cons.mpr ⟨bo_ist_m _ _, List.forall_mem_cons.mpr ⟨bo_st_mono (bg_push_m _), List.forall_mem_cons.mpr ⟨bo_ist_m _ _, List.forall_mem_cons.mpr ⟨bo_ild_m _ _, List.forall_mem_cons.mpr ⟨bo_st_mono (bg_push_m _), List.forall_mem_cons.mpr ⟨bo_if2_m _ _ _, List.forall_mem_cons.mpr ⟨bo_ald_m _ _, List.forall_mem_cons.mpr ⟨bo_gR_m _ _ _ _, List.forall_mem_cons.mpr ⟨bo_ild_m _ _, List.forall_mem_cons.mpr ⟨bo_st_mono (bg_push_m _), List.forall_mem_cons.mpr ⟨bo_Zast_m _ _ _, List.forall_mem_cons.mpr ⟨bo_inc_m _ _ _, List.forall_mem_cons.mpr ⟨bo_go_m _, List.forall_mem_cons.mpr ⟨bo_st_mono (bg_push_m _), List.forall_mem_cons.mpr ⟨bo_ist_m _ _, List.forall_mem_cons.mpr ⟨bo_ild_m _ _, List.forall_mem_cons.mpr ⟨bo_st_mono (bg_push_m _), List.forall_mem_cons.mpr ⟨bo_if2_m _ _ _, List.forall_mem_cons.mpr ⟨bo_st_mono (bg_push_m _), List.forall_mem_cons.mpr ⟨bo_ist_m _ _, List.forall_mem_cons.mpr ⟨bo_ild_m _ _, List.forall_mem_cons.mpr ⟨bo_st_mono (bg_push_m _), List.forall_mem_cons.mpr ⟨bo_if2_m _ _ _, List.forall_mem_cons.mpr ⟨bo_ald_m _ _, List.forall_mem_cons.mpr ⟨bo_gR_m _ _ _ _, List.forall_mem_cons.mpr ⟨bo_ild_m _ _, List.forall_mem_cons.mpr ⟨bo_Jald_m _ _ _, List.forall_mem_cons.mpr ⟨bo_st_mono (bg_push_m _), List.forall_mem_cons.mpr ⟨bo_st_mono (bg_lc_m _), List.forall_mem_cons.mpr ⟨bo_if1_m _ _ _, List.forall_mem_cons.mpr ⟨bo_ald_m _ _, List.forall_mem_cons.mpr ⟨bo_ald_m _ _, List.forall_mem_cons.mpr ⟨bo_gR_m _ _ _ _, List.forall_mem_cons.mpr ⟨bo_ild_m _ _, List.forall_mem_cons.mpr ⟨bo_Jald_m _ _ _, List.forall_mem_cons.mpr ⟨bo_callV_m (mF_M_old) _ _ _ _ _, fun _ h => absurd h List.not_mem_nil⟩⟩⟩⟩⟩⟩⟩⟩⟩⟩⟩⟩⟩⟩⟩⟩⟩⟩⟩⟩⟩⟩⟩⟩⟩⟩⟩⟩⟩⟩⟩⟩⟩⟩⟩⟩⟩⟩⟩⟩
set_option maxRecDepth 20000 in
theorem mT_M_refresh_1 : ∀ q ∈ T_M_refresh_1, bh_mono q.2 := List.forall_mem_cons.mpr ⟨bo_if1_m _ _ _, List.forall_mem_cons.mpr ⟨bo_ald_m _ _, List.forall_mem_cons.mpr ⟨bo_gR_m _ _ _ _, List.forall_mem_cons.mpr ⟨bo_ald_m _ _, List.forall_mem_cons.mpr ⟨bo_gR_m _ _ _ _, List.forall_mem_cons.mpr ⟨bo_ild_m _ _, List.forall_mem_cons.mpr ⟨bo_Jald_m _ _ _, List.forall_mem_cons.mpr ⟨bo_st_mono (bg_push_m _), List.forall_mem_cons.mpr ⟨bo_st_mono (bg_lv_m _), List.forall_mem_cons.mpr ⟨bo_st_mono (bg_push_m _), List.forall_mem_cons.mpr ⟨bo_st_mono (bg_lv_m _), List.forall_mem_cons.mpr ⟨bo_st_mono (bg_l1_m _), List.forall_mem_cons.mpr ⟨bo_Zald_m _ _ _, List.forall_mem_cons.mpr ⟨bo_if1_m _ _ _, List.forall_mem_cons.mpr ⟨bo_ald_m _ _, List.forall_mem_cons.mpr ⟨bo_gR_m _ _ _ _, List.forall_mem_cons.mpr ⟨bo_ild_m _ _, List.forall_mem_cons.mpr ⟨bo_st_mono (bg_push_m _), List.forall_mem_cons.mpr ⟨bo_st_mono (bg_dv_m _), List.forall_mem_cons.mpr ⟨bo_st_mono (bg_push_m _), List.forall_mem_cons.mpr ⟨bo_Zast_m _ _ _, List.forall_mem_cons.mpr ⟨bo_inc_m _ _ _, List.forall_mem_cons.mpr ⟨bo_go_m _, List.forall_mem_cons.mpr ⟨bo_inc_m _ _ _, List.forall_mem_cons.mpr ⟨bo_go_m _, List.forall_mem_cons.mpr ⟨bo_st_mono (bg_push_m _), List.forall_mem_cons.mpr ⟨bo_ist_m _ _, List.forall_mem_cons.mpr ⟨bo_st_mono (bg_push_m _), List.forall_mem_cons.mpr ⟨bo_ist_m _ _, List.forall_mem_cons.mpr ⟨bo_ild_m _ _, List.forall_mem_cons.mpr ⟨bo_if1_m _ _ _, List.forall_mem_cons.mpr ⟨bo_ald_m _ _, List.forall_mem_cons.mpr ⟨bo_gR_m _ _ _ _, List.forall_mem_cons.mpr ⟨bo_ild_m _ _, List.forall_mem_cons.mpr ⟨bo_Zald_m _ _ _, List.forall_mem_cons.mpr ⟨bo_if1_m _ _ _, List.forall_mem_cons.mpr ⟨bo_go_m _, List.forall_mem_cons.mpr ⟨bo_ild_m _ _, List.forall_mem_cons.mpr ⟨bo_st_mono (bg_push_m _), List.forall_mem_cons.mpr ⟨bo_ild_m _ _, fun _ h => absurd h List.not_mem_nil⟩⟩⟩⟩⟩⟩⟩⟩⟩⟩⟩⟩⟩⟩⟩⟩⟩⟩⟩⟩⟩⟩⟩⟩⟩⟩⟩⟩⟩⟩⟩⟩⟩⟩⟩⟩⟩⟩⟩⟩
set_option maxRecDepth 20000 in
theorem mT_M_refresh_2 : ∀ q ∈ T_M_refresh_2, bh_mono q.2 := List.forall_mem_cons.mpr ⟨bo_st_mono (bg_ii_m _), List.forall_mem_cons.mpr ⟨bo_st_mono (bg_ii_m _), List.forall_mem_cons.mpr ⟨bo_ist_m _ _, List.forall_mem_cons.mpr ⟨bo_inc_m _ _ _, List.forall_mem_cons.mpr ⟨bo_ald_m _ _, List.forall_mem_cons.mpr ⟨bo_gR_m _ _ _ _, List.forall_mem_cons.mpr ⟨bo_ild_m _ _, List.forall_mem_cons.mpr ⟨bo_Iald_m _ _ _, List.forall_mem_cons.mpr ⟨bo_st_mono (bg_push_m _), List.forall_mem_cons.mpr ⟨bo_if2_m _ _ _, List.forall_mem_cons.mpr ⟨bo_ald_m _ _, List.forall_mem_cons.mpr ⟨bo_ild_m _ _, List.forall_mem_cons.mpr ⟨bo_callV_m (mF_M_stopping) _ _ _ _ _, List.forall_mem_cons.mpr ⟨bo_st_mono bg_pop_m, List.forall_mem_cons.mpr ⟨bo_inc_m _ _ _, List.forall_mem_cons.mpr ⟨bo_go_m _, List.forall_mem_cons.mpr ⟨bo_st_mono (bg_push_m _), List.forall_mem_cons.mpr ⟨bo_ist_m _ _, List.forall_mem_cons.mpr ⟨bo_ild_m _ _, List.forall_mem_cons.mpr ⟨bo_st_mono (bg_push_m _), List.forall_mem_cons.mpr ⟨bo_if2_m _ _ _, List.forall_mem_cons.mpr ⟨bo_ild_m _ _, List.forall_mem_cons.mpr ⟨bo_ild_m _ _, List.forall_mem_cons.mpr ⟨bo_st_mono (bg_ii_m _), List.forall_mem_cons.mpr ⟨bo_st_mono (bg_push_m _), List.forall_mem_cons.mpr ⟨bo_st_mono (bg_ii_m _), List.forall_mem_cons.mpr ⟨bo_if1_m _ _ _, List.forall_mem_cons.mpr ⟨bo_go_m _, List.forall_mem_cons.mpr ⟨bo_ald_m _ _, List.forall_mem_cons.mpr ⟨bo_gR_m _ _ _ _, List.forall_mem_cons.mpr ⟨bo_ild_m _ _, List.forall_mem_cons.mpr ⟨bo_st_mono (bg_push_m _), List.forall_mem_cons.mpr ⟨bo_Iast_m _ _ _, List.forall_mem_cons.mpr ⟨bo_ald_m _ _, List.forall_mem_cons.mpr ⟨bo_ild_m _ _, List.forall_mem_cons.mpr ⟨bo_callV_m (mF_M_unwire) _ _ _ _ _, List.forall_mem_cons.mpr ⟨bo_inc_m _ _ _, List.forall_mem_cons.mpr ⟨bo_go_m _, List.forall_mem_cons.mpr ⟨bo_st_mono (bg_push_m _), List.forall_mem_cons.mpr ⟨bo_ist_m _ _, fun _ h => absurd h List.not_mem_nil⟩⟩⟩⟩⟩⟩⟩⟩⟩⟩⟩⟩⟩⟩⟩⟩⟩⟩⟩⟩⟩⟩⟩⟩⟩⟩⟩⟩⟩⟩⟩⟩⟩⟩⟩⟩⟩⟩⟩⟩
set_option maxRecDepth 20000 in
theorem mT_M_refresh_3 : ∀ q ∈ T_M_refresh_3, bh_mono q.2 := List.forall_mem_cons.mpr ⟨bo_ild_m _ _, List.forall_mem_cons.mpr ⟨bo_st_mono (bg_push_m _), List.forall_mem_cons.mpr ⟨bo_if2_m _ _ _, List.forall_mem_cons.mpr ⟨bo_ild_m _ _, List.forall_mem_cons.mpr ⟨bo_ild_m _ _, List.forall_mem_cons.mpr ⟨bo_st_mono (bg_ii_m _), List.forall_mem_cons.mpr ⟨bo_st_mono (bg_push_m _), List.forall_mem_cons.mpr ⟨bo_st_mono (bg_ii_m _), List.forall_mem_cons.mpr ⟨bo_if1_m _ _ _, List.forall_mem_cons.mpr ⟨bo_ald_m _ _, List.forall_mem_cons.mpr ⟨bo_gR_m _ _ _ _, List.forall_mem_cons.mpr ⟨bo_ild_m _ _, List.forall_mem_cons.mpr ⟨bo_Zald_m _ _ _, List.forall_mem_cons.mpr ⟨bo_if1_m _ _ _, List.forall_mem_cons.mpr ⟨bo_ald_m _ _, List.forall_mem_cons.mpr ⟨bo_gR_m _ _ _ _, List.forall_mem_cons.mpr ⟨bo_ild_m _ _, List.forall_mem_cons.mpr ⟨bo_Iald_m _ _ _, List.forall_mem_cons.mpr ⟨bo_ald_m _ _, List.forall_mem_cons.mpr ⟨bo_gI_m _ _ _, List.forall_mem_cons.mpr ⟨bo_if2_m _ _ _, List.forall_mem_cons.mpr ⟨bo_ald_m _ _, List.forall_mem_cons.mpr ⟨bo_gR_m _ _ _ _, List.forall_mem_cons.mpr ⟨bo_ild_m _ _, List.forall_mem_cons.mpr ⟨bo_Iald_m _ _ _, List.forall_mem_cons.mpr ⟨bo_st_mono (bg_push_m _), List.forall_mem_cons.mpr ⟨bo_if2_m _ _ _, List.forall_mem_cons.mpr ⟨bo_ald_m _ _, List.forall_mem_cons.mpr ⟨bo_ild_m _ _, List.forall_mem_cons.mpr ⟨bo_callV_m (mF_M_starting) _ _ _ _ _, List.forall_mem_cons.mpr ⟨bo_st_mono bg_pop_m, List.forall_mem_cons.mpr ⟨bo_inc_m _ _ _, List.forall_mem_cons.mpr ⟨bo_go_m _, List.forall_mem_cons.mpr ⟨bo_ild_m _ _, List.forall_mem_cons.mpr ⟨bo_iret_m _, fun _ h => absurd h List.not_mem_nil⟩⟩⟩⟩⟩⟩⟩⟩⟩⟩⟩⟩⟩⟩⟩⟩⟩⟩⟩⟩⟩⟩⟩⟩⟩⟩⟩⟩⟩⟩⟩⟩⟩⟩⟩
theorem m_M_refresh : ∀ pc, bh_mono (bh_tb (T_M_refresh) pc) := bh_tb_m (List.forall_mem_append.mpr ⟨(List.forall_mem_append.mpr ⟨(List.forall_mem_append.mpr ⟨mT_M_refresh_0, mT_M_refresh_1⟩), mT_M_refresh_2⟩), mT_M_refresh_3⟩)
def F_M_refresh : bh_Fn := bh_fn 4 (bh_tb T_M_refresh)
theorem mF_M_refresh : bh_monoF F_M_refresh := bh_fn_m m_M_refresh
theorem cl_M_refresh {s : State} {args : Array Value} (d B : Nat) (hts : ∀ w ∈ bh_ws, w.before args s = true) : bh_Cal (bh_rm (d + 1) B) s y_M_refresh 4 (.code y_M_refresh c_M_refresh 4 (some .int) :: bh_ws) (bh_rm d 0) 0 0 := bh_cal d B hts wd_1073 wd_9 (by decide) (by decide +kernel)
set_option maxHeartbeats 4000000 in
set_option maxRecDepth 100000 in
theorem cn_M_refresh {l : Launch} {G : bh_G} {base sb L : Nat} {xs : Nat → Int32} (htr : l.stackTraces = false) (d : Nat) : bh_Con l G base (bh_Bg G base sb L xs) y_M_refresh (.code y_M_refresh c_M_refresh 4 (some .int) :: bh_ws) (bh_rm (d + 8) 0) 0 false F_M_refresh := by
  refine bh_method (cc := c_M_refresh) (ret := (some .int)) (by decide +kernel) rfl ?_
  intro p e s m args below meth c ad0 M0 Z X0 hr hlocks hname htab hbs hB
  obtain ⟨hx, hb, hml, hown, hts⟩ := id X0
  have hw : ∀ w ∈ bh_ws, w.before args s = true := fun w h => hts w (List.mem_cons_of_mem _ h)
  have hBg := bh_BgK (G := G) (base := base) (sb := sb) (L := L) (xs := xs)
  obtain ⟨hK, hAr, hen, hinj, hu1, hu2, hstr, hX, hsb, hsc, hxw, hao, hnc⟩ := id hB
  obtain ⟨ha1, ha2, ha3, ha4, ha5, ha6, ha0⟩ := bh_arr hAr
  refine List.forall_mem_append.mpr ⟨?_, List.forall_mem_cons.mpr ⟨fun S h => bs_iload_n (Z := Z) hx hb rfl d_M_refresh_203 h, List.forall_mem_cons.mpr ⟨fun S h => bs_bipush (Z := Z) hx hb (by decide) d_M_refresh_204 h, List.forall_mem_cons.mpr ⟨fun S h => bs_icmp_ge (Z := Z) hx hb d_M_refresh_206 (by decide) h, List.forall_mem_cons.mpr ⟨fun S h => bs_iload_n (Z := Z) hx hb rfl d_M_refresh_209 h, List.forall_mem_cons.mpr ⟨fun S h => bs_iload_n (Z := Z) hx hb rfl d_M_refresh_210 h, List.forall_mem_cons.mpr ⟨fun S h => bs_ishr (Z := Z) hx hb d_M_refresh_211 h, List.forall_mem_cons.mpr ⟨fun S h => bs_iconst (Z := Z) hx hb (by decide) d_M_refresh_212 h, List.forall_mem_cons.mpr ⟨fun S h => bs_iand (Z := Z) hx hb d_M_refresh_213 h, List.forall_mem_cons.mpr ⟨fun S h => bs_if_eq (Z := Z) hx hb d_M_refresh_214 (by decide) h, List.forall_mem_cons.mpr ⟨fun S h => bs_aload_n (Z := Z) hx hb rfl d_M_refresh_217 h, List.forall_mem_cons.mpr ⟨fun S h => bs_gR (Z := Z) (C := R_M) (T := F_M) (N := 40) (t := 40) (j := 5) hx hb hK hts (fun w h => List.mem_cons_of_mem _ (iw_M w h)) hown rfl rfl (by decide) (hts _ (List.mem_cons_of_mem _ wd_789)) (fun _ h => h) rfl rfl rfl d_M_refresh_218 h, List.forall_mem_cons.mpr ⟨fun S h => bs_iload_n (Z := Z) hx hb rfl d_M_refresh_221 h, List.forall_mem_cons.mpr ⟨fun S h => bs_Zald (Z := Z) hx hb ha2 d_M_refresh_222 h, List.forall_mem_cons.mpr ⟨fun S h => bs_if_eq (Z := Z) hx hb d_M_refresh_223 (by decide) h, List.forall_mem_cons.mpr ⟨fun S h => bs_aload_n (Z := Z) hx hb rfl d_M_refresh_226 h, List.forall_mem_cons.mpr ⟨fun S h => bs_gR (Z := Z) (C := R_M) (T := F_M) (N := 40) (t := 40) (j := 3) hx hb hK hts (fun w h => List.mem_cons_of_mem _ (iw_M w h)) hown rfl rfl (by decide) (hts _ (List.mem_cons_of_mem _ wd_787)) (fun _ h => h) rfl rfl rfl d_M_refresh_227 h, List.forall_mem_cons.mpr ⟨fun S h => bs_iload_n (Z := Z) hx hb rfl d_M_refresh_230 h, List.forall_mem_cons.mpr ⟨fun S h => bs_Iald (Z := Z) hx hb ha1 d_M_refresh_231 h, List.forall_mem_cons.mpr ⟨fun S h => bs_aload_n (Z := Z) hx hb rfl d_M_refresh_232 h, List.forall_mem_cons.mpr ⟨fun S h => bs_gI (Z := Z) (C := R_M) (T := F_M) (N := 40) (t := 40) (j := 39) hx hb hK hts (fun w h => List.mem_cons_of_mem _ (iw_M w h)) hown rfl rfl (by decide) (hts _ (List.mem_cons_of_mem _ wd_823)) (fun _ h => h) rfl rfl rfl d_M_refresh_233 h, List.forall_mem_cons.mpr ⟨fun S h => bs_icmp_gt (Z := Z) hx hb d_M_refresh_236 (by decide) h, List.forall_mem_cons.mpr ⟨fun S h => bs_aload_n (Z := Z) hx hb rfl d_M_refresh_239 h, List.forall_mem_cons.mpr ⟨fun S h => bs_gR (Z := Z) (C := R_M) (T := F_M) (N := 40) (t := 40) (j := 1) hx hb hK hts (fun w h => List.mem_cons_of_mem _ (iw_M w h)) hown rfl rfl (by decide) (hts _ (List.mem_cons_of_mem _ wd_785)) (fun _ h => h) rfl rfl rfl d_M_refresh_240 h, List.forall_mem_cons.mpr ⟨fun S h => bs_iload_n (Z := Z) hx hb rfl d_M_refresh_243 h, List.forall_mem_cons.mpr ⟨fun S h => bs_Iald (Z := Z) hx hb ha1 d_M_refresh_244 h, List.forall_mem_cons.mpr ⟨fun S h => bs_iconst (Z := Z) hx hb (by decide) d_M_refresh_245 h, List.forall_mem_cons.mpr ⟨fun S h => bs_icmp_eq (Z := Z) hx hb d_M_refresh_246 (by decide) h, List.forall_mem_cons.mpr ⟨fun S h => bs_aload_n (Z := Z) hx hb rfl d_M_refresh_249 h, List.forall_mem_cons.mpr ⟨fun S h => bs_iload_n (Z := Z) hx hb rfl d_M_refresh_250 h, List.forall_mem_cons.mpr ⟨fun S h => bs_callV (Z := Z) (C := R_M) hBg hbs hB X0 hK (cn_M_starting htr (d + 0)) (cl_M_starting _ _ hw) (hts _ (List.mem_cons_of_mem _ wd_1014)) (hts _ (List.mem_cons_of_mem _ wd_1016)) (hts _ (List.mem_cons_of_mem _ ws_44)) rfl rfl rfl rfl rfl (Nat.le_refl _) (Nat.le_refl _) d_M_refresh_251 (bs_out htab hlocks) h, List.forall_mem_cons.mpr ⟨fun S h => bs_pop (Z := Z) hx hb d_M_refresh_254 h, List.forall_mem_cons.mpr ⟨fun S h => bs_iinc (Z := Z) hx hb (by decide) d_M_refresh_255 h, List.forall_mem_cons.mpr ⟨fun S h => bs_goto (Z := Z) hx hb d_M_refresh_258 (by decide) h, List.forall_mem_cons.mpr ⟨fun S h => bs_iload_n (Z := Z) hx hb rfl d_M_refresh_261 h, List.forall_mem_cons.mpr ⟨fun S h => bs_iret (Z := Z) hx hb hr hlocks d_M_refresh_262 h, fun _ h => absurd h List.not_mem_nil⟩⟩⟩⟩⟩⟩⟩⟩⟩⟩⟩⟩⟩⟩⟩⟩⟩⟩⟩⟩⟩⟩⟩⟩⟩⟩⟩⟩⟩⟩⟩⟩⟩⟩⟩⟩
  refine List.forall_mem_append.mpr ⟨?_, List.forall_mem_cons.mpr ⟨fun S h => bs_ishl (Z := Z) hx hb d_M_refresh_136 h, List.forall_mem_cons.mpr ⟨fun S h => bs_ior (Z := Z) hx hb d_M_refresh_137 h, List.forall_mem_cons.mpr ⟨fun S h => bs_istore_n (Z := Z) hx hb rfl d_M_refresh_138 h, List.forall_mem_cons.mpr ⟨fun S h => bs_iinc (Z := Z) hx hb (by decide) d_M_refresh_139 h, List.forall_mem_cons.mpr ⟨fun S h => bs_aload_n (Z := Z) hx hb rfl d_M_refresh_142 h, List.forall_mem_cons.mpr ⟨fun S h => bs_gR (Z := Z) (C := R_M) (T := F_M) (N := 40) (t := 40) (j := 1) hx hb hK hts (fun w h => List.mem_cons_of_mem _ (iw_M w h)) hown rfl rfl (by decide) (hts _ (List.mem_cons_of_mem _ wd_785)) (fun _ h => h) rfl rfl rfl d_M_refresh_143 h, List.forall_mem_cons.mpr ⟨fun S h => bs_iload_n (Z := Z) hx hb rfl d_M_refresh_146 h, List.forall_mem_cons.mpr ⟨fun S h => bs_Iald (Z := Z) hx hb ha1 d_M_refresh_147 h, List.forall_mem_cons.mpr ⟨fun S h => bs_iconst (Z := Z) hx hb (by decide) d_M_refresh_148 h, List.forall_mem_cons.mpr ⟨fun S h => bs_icmp_ne (Z := Z) hx hb d_M_refresh_149 (by decide) h, List.forall_mem_cons.mpr ⟨fun S h => bs_aload_n (Z := Z) hx hb rfl d_M_refresh_152 h, List.forall_mem_cons.mpr ⟨fun S h => bs_iload_n (Z := Z) hx hb rfl d_M_refresh_153 h, List.forall_mem_cons.mpr ⟨fun S h => bs_callV (Z := Z) (C := R_M) hBg hbs hB X0 hK (cn_M_stopping htr (d + 4)) (cl_M_stopping _ _ hw) (hts _ (List.mem_cons_of_mem _ wd_1038)) (hts _ (List.mem_cons_of_mem _ wd_1040)) (hts _ (List.mem_cons_of_mem _ ws_49)) rfl rfl rfl rfl rfl (Nat.le_refl _) (Nat.le_refl _) d_M_refresh_154 (bs_out htab hlocks) h, List.forall_mem_cons.mpr ⟨fun S h => bs_pop (Z := Z) hx hb d_M_refresh_157 h, List.forall_mem_cons.mpr ⟨fun S h => bs_iinc (Z := Z) hx hb (by decide) d_M_refresh_158 h, List.forall_mem_cons.mpr ⟨fun S h => bs_goto (Z := Z) hx hb d_M_refresh_161 (by decide) h, List.forall_mem_cons.mpr ⟨fun S h => bs_iconst (Z := Z) hx hb (by decide) d_M_refresh_164 h, List.forall_mem_cons.mpr ⟨fun S h => bs_istore_n (Z := Z) hx hb rfl d_M_refresh_165 h, List.forall_mem_cons.mpr ⟨fun S h => bs_iload_n (Z := Z) hx hb rfl d_M_refresh_166 h, List.forall_mem_cons.mpr ⟨fun S h => bs_bipush (Z := Z) hx hb (by decide) d_M_refresh_167 h, List.forall_mem_cons.mpr ⟨fun S h => bs_icmp_ge (Z := Z) hx hb d_M_refresh_169 (by decide) h, List.forall_mem_cons.mpr ⟨fun S h => bs_iload_n (Z := Z) hx hb rfl d_M_refresh_172 h, List.forall_mem_cons.mpr ⟨fun S h => bs_iload_n (Z := Z) hx hb rfl d_M_refresh_173 h, List.forall_mem_cons.mpr ⟨fun S h => bs_ishr (Z := Z) hx hb d_M_refresh_174 h, List.forall_mem_cons.mpr ⟨fun S h => bs_iconst (Z := Z) hx hb (by decide) d_M_refresh_175 h, List.forall_mem_cons.mpr ⟨fun S h => bs_iand (Z := Z) hx hb d_M_refresh_176 h, List.forall_mem_cons.mpr ⟨fun S h => bs_if_ne (Z := Z) hx hb d_M_refresh_177 (by decide) h, List.forall_mem_cons.mpr ⟨fun S h => bs_goto (Z := Z) hx hb d_M_refresh_180 (by decide) h, List.forall_mem_cons.mpr ⟨fun S h => bs_aload_n (Z := Z) hx hb rfl d_M_refresh_183 h, List.forall_mem_cons.mpr ⟨fun S h => bs_gR (Z := Z) (C := R_M) (T := F_M) (N := 40) (t := 40) (j := 1) hx hb hK hts (fun w h => List.mem_cons_of_mem _ (iw_M w h)) hown rfl rfl (by decide) (hts _ (List.mem_cons_of_mem _ wd_785)) (fun _ h => h) rfl rfl rfl d_M_refresh_184 h, List.forall_mem_cons.mpr ⟨fun S h => bs_iload_n (Z := Z) hx hb rfl d_M_refresh_187 h, List.forall_mem_cons.mpr ⟨fun S h => bs_iconst (Z := Z) hx hb (by decide) d_M_refresh_188 h, List.forall_mem_cons.mpr ⟨fun S h => bs_Iast (Z := Z) hx hb ha1 d_M_refresh_189 h, List.forall_mem_cons.mpr ⟨fun S h => bs_aload_n (Z := Z) hx hb rfl d_M_refresh_190 h, List.forall_mem_cons.mpr ⟨fun S h => bs_iload_n (Z := Z) hx hb rfl d_M_refresh_191 h, List.forall_mem_cons.mpr ⟨fun S h => bs_callV (Z := Z) (C := R_M) hBg hbs hB X0 hK (cn_M_unwire htr (d + 6)) (cl_M_unwire _ _ hw) (hts _ (List.mem_cons_of_mem _ wd_929)) (hts _ (List.mem_cons_of_mem _ wd_931)) (hts _ (List.mem_cons_of_mem _ ws_27)) rfl rfl rfl rfl rfl (Nat.le_refl _) (Nat.le_refl _) d_M_refresh_192 (bs_out htab hlocks) h, List.forall_mem_cons.mpr ⟨fun S h => bs_iinc (Z := Z) hx hb (by decide) d_M_refresh_195 h, List.forall_mem_cons.mpr ⟨fun S h => bs_goto (Z := Z) hx hb d_M_refresh_198 (by decide) h, List.forall_mem_cons.mpr ⟨fun S h => bs_iconst (Z := Z) hx hb (by decide) d_M_refresh_201 h, List.forall_mem_cons.mpr ⟨fun S h => bs_istore_n (Z := Z) hx hb rfl d_M_refresh_202 h, fun _ h => absurd h List.not_mem_nil⟩⟩⟩⟩⟩⟩⟩⟩⟩⟩⟩⟩⟩⟩⟩⟩⟩⟩⟩⟩⟩⟩⟩⟩⟩⟩⟩⟩⟩⟩⟩⟩⟩⟩⟩⟩⟩⟩⟩⟩⟩
  refine List.forall_mem_append.mpr ⟨?_, List.forall_mem_cons.mpr ⟨fun S h => bs_if_ne (Z := Z) hx hb d_M_refresh_65 (by decide) h, List.forall_mem_cons.mpr ⟨fun S h => bs_aload_n (Z := Z) hx hb rfl d_M_refresh_68 h, List.forall_mem_cons.mpr ⟨fun S h => bs_gR (Z := Z) (C := R_M) (T := F_M) (N := 40) (t := 40) (j := 24) hx hb hK hts (fun w h => List.mem_cons_of_mem _ (iw_M w h)) hown rfl rfl (by decide) (hts _ (List.mem_cons_of_mem _ wd_808)) (fun _ h => h) rfl rfl rfl d_M_refresh_69 h, List.forall_mem_cons.mpr ⟨fun S h => bs_aload_n (Z := Z) hx hb rfl d_M_refresh_72 h, List.forall_mem_cons.mpr ⟨fun S h => bs_gR (Z := Z) (C := R_M) (T := F_M) (N := 40) (t := 40) (j := 17) hx hb hK hts (fun w h => List.mem_cons_of_mem _ (iw_M w h)) hown rfl rfl (by decide) (hts _ (List.mem_cons_of_mem _ wd_801)) (fun _ h => h) rfl rfl rfl d_M_refresh_73 h, List.forall_mem_cons.mpr ⟨fun S h => bs_iload_n (Z := Z) hx hb rfl d_M_refresh_76 h, List.forall_mem_cons.mpr ⟨fun S h => bs_Jald (Z := Z) hx hb ha3 d_M_refresh_77 h, List.forall_mem_cons.mpr ⟨fun S h => bs_ldcl (Z := Z) hx hb hown (hts _ (List.mem_cons_of_mem _ wd_997)) d_M_refresh_78 h, List.forall_mem_cons.mpr ⟨fun S h => bs_ldiv (Z := Z) hx hb d_M_refresh_81 h, List.forall_mem_cons.mpr ⟨fun S h => bs_ldcl (Z := Z) hx hb hown (hts _ (List.mem_cons_of_mem _ wd_997)) d_M_refresh_82 h, List.forall_mem_cons.mpr ⟨fun S h => bs_lrem (Z := Z) hx hb d_M_refresh_85 h, List.forall_mem_cons.mpr ⟨fun S h => bs_l2i (Z := Z) hx hb d_M_refresh_86 h, List.forall_mem_cons.mpr ⟨fun S h => bs_Zald (Z := Z) hx hb ha2 d_M_refresh_87 h, List.forall_mem_cons.mpr ⟨fun S h => bs_if_eq (Z := Z) hx hb d_M_refresh_88 (by decide) h, List.forall_mem_cons.mpr ⟨fun S h => bs_aload_n (Z := Z) hx hb rfl d_M_refresh_91 h, List.forall_mem_cons.mpr ⟨fun S h => bs_gR (Z := Z) (C := R_M) (T := F_M) (N := 40) (t := 40) (j := 24) hx hb hK hts (fun w h => List.mem_cons_of_mem _ (iw_M w h)) hown rfl rfl (by decide) (hts _ (List.mem_cons_of_mem _ wd_808)) (fun _ h => h) rfl rfl rfl d_M_refresh_92 h, List.forall_mem_cons.mpr ⟨fun S h => bs_iload_n (Z := Z) hx hb rfl d_M_refresh_95 h, List.forall_mem_cons.mpr ⟨fun S h => bs_iconst (Z := Z) hx hb (by decide) d_M_refresh_96 h, List.forall_mem_cons.mpr ⟨fun S h => bs_idiv (Z := Z) hx hb d_M_refresh_97 h, List.forall_mem_cons.mpr ⟨fun S h => bs_iconst (Z := Z) hx hb (by decide) d_M_refresh_98 h, List.forall_mem_cons.mpr ⟨fun S h => bs_Zast (Z := Z) hx hb ha2 d_M_refresh_99 h, List.forall_mem_cons.mpr ⟨fun S h => bs_iinc (Z := Z) hx hb (by decide) d_M_refresh_100 h, List.forall_mem_cons.mpr ⟨fun S h => bs_goto (Z := Z) hx hb d_M_refresh_103 (by decide) h, List.forall_mem_cons.mpr ⟨fun S h => bs_iinc (Z := Z) hx hb (by decide) d_M_refresh_106 h, List.forall_mem_cons.mpr ⟨fun S h => bs_goto (Z := Z) hx hb d_M_refresh_109 (by decide) h, List.forall_mem_cons.mpr ⟨fun S h => bs_iconst (Z := Z) hx hb (by decide) d_M_refresh_112 h, List.forall_mem_cons.mpr ⟨fun S h => bs_istore_n (Z := Z) hx hb rfl d_M_refresh_113 h, List.forall_mem_cons.mpr ⟨fun S h => bs_bipush (Z := Z) hx hb (by decide) d_M_refresh_114 h, List.forall_mem_cons.mpr ⟨fun S h => bs_istore_n (Z := Z) hx hb rfl d_M_refresh_116 h, List.forall_mem_cons.mpr ⟨fun S h => bs_iload_n (Z := Z) hx hb rfl d_M_refresh_117 h, List.forall_mem_cons.mpr ⟨fun S h => bs_if_lt (Z := Z) hx hb d_M_refresh_118 (by decide) h, List.forall_mem_cons.mpr ⟨fun S h => bs_aload_n (Z := Z) hx hb rfl d_M_refresh_121 h, List.forall_mem_cons.mpr ⟨fun S h => bs_gR (Z := Z) (C := R_M) (T := F_M) (N := 40) (t := 40) (j := 24) hx hb hK hts (fun w h => List.mem_cons_of_mem _ (iw_M w h)) hown rfl rfl (by decide) (hts _ (List.mem_cons_of_mem _ wd_808)) (fun _ h => h) rfl rfl rfl d_M_refresh_122 h, List.forall_mem_cons.mpr ⟨fun S h => bs_iload_n (Z := Z) hx hb rfl d_M_refresh_125 h, List.forall_mem_cons.mpr ⟨fun S h => bs_Zald (Z := Z) hx hb ha2 d_M_refresh_126 h, List.forall_mem_cons.mpr ⟨fun S h => bs_if_ne (Z := Z) hx hb d_M_refresh_127 (by decide) h, List.forall_mem_cons.mpr ⟨fun S h => bs_goto (Z := Z) hx hb d_M_refresh_130 (by decide) h, List.forall_mem_cons.mpr ⟨fun S h => bs_iload_n (Z := Z) hx hb rfl d_M_refresh_133 h, List.forall_mem_cons.mpr ⟨fun S h => bs_iconst (Z := Z) hx hb (by decide) d_M_refresh_134 h, List.forall_mem_cons.mpr ⟨fun S h => bs_iload_n (Z := Z) hx hb rfl d_M_refresh_135 h, fun _ h => absurd h List.not_mem_nil⟩⟩⟩⟩⟩⟩⟩⟩⟩⟩⟩⟩⟩⟩⟩⟩⟩⟩⟩⟩⟩⟩⟩⟩⟩⟩⟩⟩⟩⟩⟩⟩⟩⟩⟩⟩⟩⟩⟩⟩⟩
  exact List.forall_mem_cons.mpr ⟨fun S h => bs_aload_n (Z := Z) hx hb rfl d_M_refresh_0 h, List.forall_mem_cons.mpr ⟨fun S h => bs_iconst (Z := Z) hx hb (by decide) d_M_refresh_1 h, List.forall_mem_cons.mpr ⟨fun S h => bs_pI (Z := Z) (C := R_M) (T := F_M) (N := 40) (t := 40) (j := 0) hx hb hK hts (fun w h => List.mem_cons_of_mem _ (iw_M w h)) hown rfl rfl (by decide) (hts _ (List.mem_cons_of_mem _ wd_784)) (fun _ h => h) rfl rfl t_M t_M_ok n_M rfl (by decide +kernel) rfl d_M_refresh_2 h, List.forall_mem_cons.mpr ⟨fun S h => bs_iconst (Z := Z) hx hb (by decide) d_M_refresh_5 h, List.forall_mem_cons.mpr ⟨fun S h => bs_istore_n (Z := Z) hx hb rfl d_M_refresh_6 h, List.forall_mem_cons.mpr ⟨fun S h => bs_iconst (Z := Z) hx hb (by decide) d_M_refresh_7 h, List.forall_mem_cons.mpr ⟨fun S h => bs_istore_n (Z := Z) hx hb rfl d_M_refresh_8 h, List.forall_mem_cons.mpr ⟨fun S h => bs_iload_n (Z := Z) hx hb rfl d_M_refresh_9 h, List.forall_mem_cons.mpr ⟨fun S h => bs_bipush (Z := Z) hx hb (by decide) d_M_refresh_10 h, List.forall_mem_cons.mpr ⟨fun S h => bs_icmp_ge (Z := Z) hx hb d_M_refresh_12 (by decide) h, List.forall_mem_cons.mpr ⟨fun S h => bs_aload_n (Z := Z) hx hb rfl d_M_refresh_15 h, List.forall_mem_cons.mpr ⟨fun S h => bs_gR (Z := Z) (C := R_M) (T := F_M) (N := 40) (t := 40) (j := 24) hx hb hK hts (fun w h => List.mem_cons_of_mem _ (iw_M w h)) hown rfl rfl (by decide) (hts _ (List.mem_cons_of_mem _ wd_808)) (fun _ h => h) rfl rfl rfl d_M_refresh_16 h, List.forall_mem_cons.mpr ⟨fun S h => bs_iload_n (Z := Z) hx hb rfl d_M_refresh_19 h, List.forall_mem_cons.mpr ⟨fun S h => bs_iconst (Z := Z) hx hb (by decide) d_M_refresh_20 h, List.forall_mem_cons.mpr ⟨fun S h => bs_Zast (Z := Z) hx hb ha2 d_M_refresh_21 h, List.forall_mem_cons.mpr ⟨fun S h => bs_iinc (Z := Z) hx hb (by decide) d_M_refresh_22 h, List.forall_mem_cons.mpr ⟨fun S h => bs_goto (Z := Z) hx hb d_M_refresh_25 (by decide) h, List.forall_mem_cons.mpr ⟨fun S h => bs_iconst (Z := Z) hx hb (by decide) d_M_refresh_28 h, List.forall_mem_cons.mpr ⟨fun S h => bs_istore_n (Z := Z) hx hb rfl d_M_refresh_29 h, List.forall_mem_cons.mpr ⟨fun S h => bs_iload_n (Z := Z) hx hb rfl d_M_refresh_30 h, List.forall_mem_cons.mpr ⟨fun S h => bs_bipush (Z := Z) hx hb (by decide) d_M_refresh_31 h, List.forall_mem_cons.mpr ⟨fun S h => bs_icmp_ge (Z := Z) hx hb d_M_refresh_33 (by decide) h, List.forall_mem_cons.mpr ⟨fun S h => bs_iconst (Z := Z) hx hb (by decide) d_M_refresh_36 h, List.forall_mem_cons.mpr ⟨fun S h => bs_istore_n (Z := Z) hx hb rfl d_M_refresh_37 h, List.forall_mem_cons.mpr ⟨fun S h => bs_iload_n (Z := Z) hx hb rfl d_M_refresh_38 h, List.forall_mem_cons.mpr ⟨fun S h => bs_bipush (Z := Z) hx hb (by decide) d_M_refresh_39 h, List.forall_mem_cons.mpr ⟨fun S h => bs_icmp_ge (Z := Z) hx hb d_M_refresh_41 (by decide) h, List.forall_mem_cons.mpr ⟨fun S h => bs_aload_n (Z := Z) hx hb rfl d_M_refresh_44 h, List.forall_mem_cons.mpr ⟨fun S h => bs_gR (Z := Z) (C := R_M) (T := F_M) (N := 40) (t := 40) (j := 17) hx hb hK hts (fun w h => List.mem_cons_of_mem _ (iw_M w h)) hown rfl rfl (by decide) (hts _ (List.mem_cons_of_mem _ wd_801)) (fun _ h => h) rfl rfl rfl d_M_refresh_45 h, List.forall_mem_cons.mpr ⟨fun S h => bs_iload_n (Z := Z) hx hb rfl d_M_refresh_48 h, List.forall_mem_cons.mpr ⟨fun S h => bs_Jald (Z := Z) hx hb ha3 d_M_refresh_49 h, List.forall_mem_cons.mpr ⟨fun S h => bs_lconst (Z := Z) hx hb (by decide) d_M_refresh_50 h, List.forall_mem_cons.mpr ⟨fun S h => bs_lcmp (Z := Z) hx hb d_M_refresh_51 h, List.forall_mem_cons.mpr ⟨fun S h => bs_if_lt (Z := Z) hx hb d_M_refresh_52 (by decide) h, List.forall_mem_cons.mpr ⟨fun S h => bs_aload_n (Z := Z) hx hb rfl d_M_refresh_55 h, List.forall_mem_cons.mpr ⟨fun S h => bs_aload_n (Z := Z) hx hb rfl d_M_refresh_56 h, List.forall_mem_cons.mpr ⟨fun S h => bs_gR (Z := Z) (C := R_M) (T := F_M) (N := 40) (t := 40) (j := 17) hx hb hK hts (fun w h => List.mem_cons_of_mem _ (iw_M w h)) hown rfl rfl (by decide) (hts _ (List.mem_cons_of_mem _ wd_801)) (fun _ h => h) rfl rfl rfl d_M_refresh_57 h, List.forall_mem_cons.mpr ⟨fun S h => bs_iload_n (Z := Z) hx hb rfl d_M_refresh_60 h, List.forall_mem_cons.mpr ⟨fun S h => bs_Jald (Z := Z) hx hb ha3 d_M_refresh_61 h, List.forall_mem_cons.mpr ⟨fun S h => bs_callV (Z := Z) (C := R_M) hBg hbs hB X0 hK (cn_M_old htr (d + 6)) (cl_M_old _ _ hw) (hts _ (List.mem_cons_of_mem _ wd_1074)) (hts _ (List.mem_cons_of_mem _ wd_1076)) (hts _ (List.mem_cons_of_mem _ ws_54)) rfl rfl rfl rfl rfl (Nat.le_refl _) (Nat.le_refl _) d_M_refresh_62 (bs_out htab hlocks) h, fun _ h => absurd h List.not_mem_nil⟩⟩⟩⟩⟩⟩⟩⟩⟩⟩⟩⟩⟩⟩⟩⟩⟩⟩⟩⟩⟩⟩⟩⟩⟩⟩⟩⟩⟩⟩⟩⟩⟩⟩⟩⟩⟩⟩⟩⟩
