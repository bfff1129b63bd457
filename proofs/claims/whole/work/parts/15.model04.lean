abbrev c_M_register : ByteArray := prog_10_method_45_code
def y_M_register : MethodName := ⟨"BundleHallModel", "register", "(IID)I"⟩
theorem d_M_register_0 : decode c_M_register 0 = .ok (.aload_n 0, 1) := by decide +kernel
theorem d_M_register_1 : decode c_M_register 1 = .ok (.iconst 0, 1) := by decide +kernel
theorem d_M_register_2 : decode c_M_register 2 = .ok (.putfield 109, 3) := by decide +kernel
theorem d_M_register_5 : decode c_M_register 5 = .ok (.iload_n 1, 1) := by decide +kernel
theorem d_M_register_6 : decode c_M_register 6 = .ok (.invokestatic 126, 3) := by decide +kernel
theorem d_M_register_9 : decode c_M_register 9 = .ok (.ifCond .eq 28, 3) := by decide +kernel
theorem d_M_register_12 : decode c_M_register 12 = .ok (.iload_n 2, 1) := by decide +kernel
theorem d_M_register_13 : decode c_M_register 13 = .ok (.iconst 0, 1) := by decide +kernel
theorem d_M_register_14 : decode c_M_register 14 = .ok (.iconst 3, 1) := by decide +kernel
theorem d_M_register_15 : decode c_M_register 15 = .ok (.invokestatic 112, 3) := by decide +kernel
theorem d_M_register_18 : decode c_M_register 18 = .ok (.ifCond .eq 19, 3) := by decide +kernel
theorem d_M_register_21 : decode c_M_register 21 = .ok (.dload_n 3, 1) := by decide +kernel
theorem d_M_register_22 : decode c_M_register 22 = .ok (.ldc2_w 251, 3) := by decide +kernel
theorem d_M_register_25 : decode c_M_register 25 = .ok (.dcmp .l, 1) := by decide +kernel
theorem d_M_register_26 : decode c_M_register 26 = .ok (.ifCond .lt 11, 3) := by decide +kernel
theorem d_M_register_29 : decode c_M_register 29 = .ok (.dload_n 3, 1) := by decide +kernel
theorem d_M_register_30 : decode c_M_register 30 = .ok (.ldc2_w 253, 3) := by decide +kernel
theorem d_M_register_33 : decode c_M_register 33 = .ok (.dcmp .g, 1) := by decide +kernel
theorem d_M_register_34 : decode c_M_register 34 = .ok (.ifCond .le 9, 3) := by decide +kernel
theorem d_M_register_37 : decode c_M_register 37 = .ok (.aload_n 0, 1) := by decide +kernel
theorem d_M_register_38 : decode c_M_register 38 = .ok (.iconst 1, 1) := by decide +kernel
theorem d_M_register_39 : decode c_M_register 39 = .ok (.invokevirtual 130, 3) := by decide +kernel
theorem d_M_register_42 : decode c_M_register 42 = .ok (.ireturn, 1) := by decide +kernel
theorem d_M_register_43 : decode c_M_register 43 = .ok (.aload_n 0, 1) := by decide +kernel
theorem d_M_register_44 : decode c_M_register 44 = .ok (.getfield 7, 3) := by decide +kernel
theorem d_M_register_47 : decode c_M_register 47 = .ok (.iload_n 1, 1) := by decide +kernel
theorem d_M_register_48 : decode c_M_register 48 = .ok (.iaload, 1) := by decide +kernel
theorem d_M_register_49 : decode c_M_register 49 = .ok (.ifCond .ne 9, 3) := by decide +kernel
theorem d_M_register_52 : decode c_M_register 52 = .ok (.aload_n 0, 1) := by decide +kernel
theorem d_M_register_53 : decode c_M_register 53 = .ok (.iconst 2, 1) := by decide +kernel
theorem d_M_register_54 : decode c_M_register 54 = .ok (.invokevirtual 130, 3) := by decide +kernel
theorem d_M_register_57 : decode c_M_register 57 = .ok (.ireturn, 1) := by decide +kernel
theorem d_M_register_58 : decode c_M_register 58 = .ok (.aload_n 0, 1) := by decide +kernel
theorem d_M_register_59 : decode c_M_register 59 = .ok (.getfield 7, 3) := by decide +kernel
theorem d_M_register_62 : decode c_M_register 62 = .ok (.iload_n 1, 1) := by decide +kernel
theorem d_M_register_63 : decode c_M_register 63 = .ok (.iaload, 1) := by decide +kernel
theorem d_M_register_64 : decode c_M_register 64 = .ok (.iconst 3, 1) := by decide +kernel
theorem d_M_register_65 : decode c_M_register 65 = .ok (.if_icmp .eq 9, 3) := by decide +kernel
theorem d_M_register_68 : decode c_M_register 68 = .ok (.aload_n 0, 1) := by decide +kernel
theorem d_M_register_69 : decode c_M_register 69 = .ok (.iconst 3, 1) := by decide +kernel
theorem d_M_register_70 : decode c_M_register 70 = .ok (.invokevirtual 130, 3) := by decide +kernel
theorem d_M_register_73 : decode c_M_register 73 = .ok (.ireturn, 1) := by decide +kernel
theorem d_M_register_74 : decode c_M_register 74 = .ok (.aload_n 0, 1) := by decide +kernel
theorem d_M_register_75 : decode c_M_register 75 = .ok (.getfield 207, 3) := by decide +kernel
theorem d_M_register_78 : decode c_M_register 78 = .ok (.bipush 20, 2) := by decide +kernel
theorem d_M_register_80 : decode c_M_register 80 = .ok (.if_icmp .ne 11, 3) := by decide +kernel
theorem d_M_register_83 : decode c_M_register 83 = .ok (.aload_n 0, 1) := by decide +kernel
theorem d_M_register_84 : decode c_M_register 84 = .ok (.iconst 4, 1) := by decide +kernel
theorem d_M_register_85 : decode c_M_register 85 = .ok (.invokevirtual 130, 3) := by decide +kernel
theorem d_M_register_88 : decode c_M_register 88 = .ok (.goto 10, 3) := by decide +kernel
theorem d_M_register_91 : decode c_M_register 91 = .ok (.aload_n 0, 1) := by decide +kernel
theorem d_M_register_92 : decode c_M_register 92 = .ok (.iload_n 1, 1) := by decide +kernel
theorem d_M_register_93 : decode c_M_register 93 = .ok (.iload_n 2, 1) := by decide +kernel
theorem d_M_register_94 : decode c_M_register 94 = .ok (.dload_n 3, 1) := by decide +kernel
theorem d_M_register_95 : decode c_M_register 95 = .ok (.invokevirtual 216, 3) := by decide +kernel
theorem d_M_register_98 : decode c_M_register 98 = .ok (.ireturn, 1) := by decide +kernel
def T_M_register_0 : List (Nat × bh_Op) := [(0, bo_ald 1 0),
  (1, bo_st 2 (bg_push (.inl (.int 0)))),
  (2, bo_pI 5 40 0),
  (5, bo_ild 6 1),
  (6, bo_callS 9 1 0 0 F_M_isBundle),
  (9, bo_if1 12 37 (fun x => x = 0)),
  (12, bo_ild 13 2),
  (13, bo_st 14 (bg_push (.inl (.int 0)))),
  (14, bo_st 15 (bg_push (.inl (.int 3)))),
  (15, bo_callS 18 3 0 0 F_M_in),
  (18, bo_if1 21 37 (fun x => x = 0)),
  (21, bo_dld 22 3),
  (22, bo_st 25 (bg_push (.inl (.double 13875379345695965184)))),
  (25, bo_st 26 (bg_dc (fun x y => Op.cmpValue (FP.dcmp x y) .l))),
  (26, bo_if1 29 37 (fun x => x < 0)),
  (29, bo_dld 30 3),
  (30, bo_st 33 (bg_push (.inl (.double 4652007308841189376)))),
  (33, bo_st 34 (bg_dc (fun x y => Op.cmpValue (FP.dcmp x y) .g))),
  (34, bo_if1 37 43 (fun x => x ≤ 0)),
  (37, bo_ald 38 0),
  (38, bo_st 39 (bg_push (.inl (.int 1)))),
  (39, bo_callV 42 2 0 0 40 F_M_raise),
  (42, bo_iret 0),
  (43, bo_ald 44 0),
  (44, bo_gR 47 40 1 41),
  (47, bo_ild 48 1),
  (48, bo_Iald bh_ak bh_al 49),
  (49, bo_if1 52 58 (fun x => ¬ x = 0)),
  (52, bo_ald 53 0),
  (53, bo_st 54 (bg_push (.inl (.int 2)))),
  (54, bo_callV 57 2 0 0 40 F_M_raise),
  (57, bo_iret 0),
  (58, bo_ald 59 0),
  (59, bo_gR 62 40 1 41),
  (62, bo_ild 63 1),
  (63, bo_Iald bh_ak bh_al 64),
  (64, bo_st 65 (bg_push (.inl (.int 3)))),
  (65, bo_if2 68 74 (fun x y => x = y)),
  (68, bo_ald 69 0),
  (69, bo_st 70 (bg_push (.inl (.int 3))))]
def T_M_register_1 : List (Nat × bh_Op) := [(70, bo_callV 73 2 0 0 40 F_M_raise),
  (73, bo_iret 0),
  (74, bo_ald 75 0),
  (75, bo_gI 78 40 34),
  (78, bo_st 80 (bg_push (.inl (.int 20)))),
  (80, bo_if2 83 91 (fun x y => ¬ x = y)),
  (83, bo_ald 84 0),
  (84, bo_st 85 (bg_push (.inl (.int 4)))),
  (85, bo_callV 88 2 0 0 40 F_M_raise),
  (88, bo_go 98),
  (91, bo_ald 92 0),
  (92, bo_ild 93 1),
  (93, bo_ild 94 2),
  (94, bo_dld 95 3),
  (95, bo_callV 98 4 0 0 40 F_M_put),
  (98, bo_iret 0)]
def T_M_register : List (Nat × bh_Op) := T_M_register_0 ++ T_M_register_1
set_option maxRecDepth 20000 in
theorem mT_M_register_0 : ∀ q ∈ T_M_register_0, bh_mono q.2 := List.forall_mem_cons.mpr ⟨bo_ald_m _ _, List.forall_mem_cons.mpr ⟨bo_st_mono (bg_push_m _), List.forall_mem_cons.mpr ⟨bo_pI_m _ _ _, List.forall_mem_cons.mpr ⟨bo_ild_m _ _, List.forall_mem_cons.mpr ⟨bo_callS_m (mF_M_isBundle) _ _ _ _, List.forall_mem_cons.mpr ⟨bo_if1_m _ _ _, List.forall_mem_cons.mpr ⟨bo_ild_m _ _, List.forall_mem_cons.mpr ⟨bo_st_mono (bg_push_m _), List.forall_mem_cons.mpr ⟨bo_st_mono (bg_push_m _), List.forall_mem_cons.mpr ⟨bo_callS_m (mF_M_in) _ _ _ _, List.forall_mem_cons.mpr ⟨bo_if1_m _ _ _, List.forall_mem_cons.mpr ⟨bo_dld_m _ _, List.forall_mem_cons.mpr ⟨bo_st_mono (bg_push_m _), List.forall_mem_cons.mpr ⟨bo_st_mono (bg_dc_m _), List.forall_mem_cons.mpr ⟨bo_if1_m _ _ _, List.forall_mem_cons.mpr ⟨bo_dld_m _ _, List.forall_mem_cons.mpr ⟨bo_st_mono (bg_push_m _), List.forall_mem_cons.mpr ⟨bo_st_mono (bg_dc_m _), List.forall_mem_cons.mpr ⟨bo_if1_m _ _ _, List.forall_mem_cons.mpr ⟨bo_ald_m _ _, List.forall_mem_cons.mpr ⟨bo_st_mono (bg_push_m _), List.forall_mem_cons.mpr ⟨bo_callV_m (mF_M_raise) _ _ _ _ _, List.forall_mem_cons.mpr ⟨bo_iret_m _, List.forall_mem_cons.mpr ⟨bo_ald_m _ _, List.forall_mem_cons.mpr ⟨bo_gR_m _ _ _ _, List.forall_mem_cons.mpr ⟨bo_ild_m _ _, List.forall_mem_cons.mpr ⟨bo_Iald_m _ _ _, List.forall_mem_cons.mpr ⟨bo_if1_m _ _ _, List.forall_mem_cons.mpr ⟨bo_ald_m _ _, List.forall_mem_cons.mpr ⟨bo_st_mono (bg_push_m _), List.forall_mem_cons.mpr ⟨bo_callV_m (mF_M_raise) _ _ _ _ _, List.forall_mem_cons.mpr ⟨bo_iret_m _, List.forall_mem_cons.mpr ⟨bo_ald_m _ _, List.forall_mem_cons.mpr ⟨bo_gR_m _ _ _ _, List.forall_mem_cons.mpr ⟨bo_ild_m _ _, List.forall_mem_cons.mpr ⟨bo_Iald_m _ _ _, List.forall_mem_cons.mpr ⟨bo_st_mono (bg_push_m _), List.forall_mem_cons.mpr ⟨bo_if2_m _ _ _, List.forall_mem_cons.mpr ⟨bo_ald_m _ _, List.forall_mem_cons.mpr ⟨bo_st_mono (bg_push_m _), fun _ h => absurd h List.not_mem_nil⟩⟩⟩⟩⟩⟩⟩⟩⟩⟩⟩⟩⟩⟩⟩⟩⟩⟩⟩⟩⟩⟩⟩⟩⟩⟩⟩⟩⟩⟩⟩⟩⟩⟩⟩⟩⟩⟩⟩⟩
set_option maxRecDepth 20000 in
theorem mT_M_register_1 : ∀ q ∈ T_M_register_1, bh_mono q.2 := List.forall_mem_cons.mpr ⟨bo_callV_m (mF_M_raise) _ _ _ _ _, List.forall_mem_cons.mpr ⟨bo_iret_m _, List.forall_mem_cons.mpr ⟨bo_ald_m _ _, List.forall_mem_cons.mpr ⟨bo_gI_m _ _ _, List.forall_mem_cons.mpr ⟨bo_st_mono (bg_push_m _), List.forall_mem_cons.mpr ⟨bo_if2_m _ _ _, List.forall_mem_cons.mpr ⟨bo_ald_m _ _, List.forall_mem_cons.mpr ⟨bo_st_mono (bg_push_m _), List.forall_mem_cons.mpr ⟨bo_callV_m (mF_M_raise) _ _ _ _ _, List.forall_mem_cons.mpr ⟨bo_go_m _, List.forall_mem_cons.mpr ⟨bo_ald_m _ _, List.forall_mem_cons.mpr ⟨bo_ild_m _ _, List.forall_mem_cons.mpr ⟨bo_ild_m _ _, List.forall_mem_cons.mpr ⟨bo_dld_m _ _, List.forall_mem_cons.mpr ⟨bo_callV_m (mF_M_put) _ _ _ _ _, List.forall_mem_cons.mpr ⟨bo_iret_m _, fun _ h => absurd h List.not_mem_nil⟩⟩⟩⟩⟩⟩⟩⟩⟩⟩⟩⟩⟩⟩⟩⟩
theorem m_M_register : ∀ pc, bh_mono (bh_tb (T_M_register) pc) := bh_tb_m (List.forall_mem_append.mpr ⟨mT_M_register_0, mT_M_register_1⟩)
def F_M_register : bh_Fn := bh_fn 5 (bh_tb T_M_register)
theorem mF_M_register : bh_monoF F_M_register := bh_fn_m m_M_register
theorem cl_M_register {s : State} {args : Array Value} (d B : Nat) (hts : ∀ w ∈ bh_ws, w.before args s = true) : bh_Cal (bh_rm (d + 1) B) s y_M_register 5 (.code y_M_register c_M_register 5 (some .int) :: bh_ws) (bh_rm d 0) 0 3 := bh_cal d B hts wd_1082 wd_9 (by decide) (by decide +kernel)
set_option maxHeartbeats 4000000 in
set_option maxRecDepth 100000 in
theorem cn_M_register {l : Launch} {G : bh_G} {base sb L : Nat} {xs : Nat → Int32} (htr : l.stackTraces = false) (d : Nat) : bh_Con l G base (bh_Bg G base sb L xs) y_M_register (.code y_M_register c_M_register 5 (some .int) :: bh_ws) (bh_rm (d + 3) 0) 0 false F_M_register := by
  refine bh_method (cc := c_M_register) (ret := (some .int)) (by decide +kernel) rfl ?_
  intro p e s m args below meth c ad0 M0 Z X0 hr hlocks hname htab hbs hB
  obtain ⟨hx, hb, hml, hown, hts⟩ := id X0
  have hw : ∀ w ∈ bh_ws, w.before args s = true := fun w h => hts w (List.mem_cons_of_mem _ h)
  have hBg := bh_BgK (G := G) (base := base) (sb := sb) (L := L) (xs := xs)
  obtain ⟨hK, hAr, hen, hinj, hu1, hu2, hstr, hX, hsb, hsc, hxw, hao, hnc⟩ := id hB
  obtain ⟨ha1, ha2, ha3, ha4, ha5, ha6, ha0⟩ := bh_arr hAr
  refine List.forall_mem_append.mpr ⟨?_, List.forall_mem_cons.mpr ⟨fun S h => bs_callV (Z := Z) (C := R_M) hBg hbs hB X0 hK (cn_M_raise htr (d + 1)) (cl_M_raise _ _ hw) (hts _ (List.mem_cons_of_mem _ wd_921)) (hts _ (List.mem_cons_of_mem _ wd_923)) (hts _ (List.mem_cons_of_mem _ ws_25)) rfl rfl rfl rfl rfl (Nat.le_refl _) (Nat.le_refl _) d_M_register_70 (bs_out htab hlocks) h, List.forall_mem_cons.mpr ⟨fun S h => bs_iret (Z := Z) hx hb hr hlocks d_M_register_73 h, List.forall_mem_cons.mpr ⟨fun S h => bs_aload_n (Z := Z) hx hb rfl d_M_register_74 h, List.forall_mem_cons.mpr ⟨fun S h => bs_gI (Z := Z) (C := R_M) (T := F_M) (N := 40) (t := 40) (j := 34) hx hb hK hts (fun w h => List.mem_cons_of_mem _ (iw_M w h)) hown rfl rfl (by decide) (hts _ (List.mem_cons_of_mem _ wd_818)) (fun _ h => h) rfl rfl rfl d_M_register_75 h, List.forall_mem_cons.mpr ⟨fun S h => bs_bipush (Z := Z) hx hb (by decide) d_M_register_78 h, List.forall_mem_cons.mpr ⟨fun S h => bs_icmp_ne (Z := Z) hx hb d_M_register_80 (by decide) h, List.forall_mem_cons.mpr ⟨fun S h => bs_aload_n (Z := Z) hx hb rfl d_M_register_83 h, List.forall_mem_cons.mpr ⟨fun S h => bs_iconst (Z := Z) hx hb (by decide) d_M_register_84 h, List.forall_mem_cons.mpr ⟨fun S h => bs_callV (Z := Z) (C := R_M) hBg hbs hB X0 hK (cn_M_raise htr (d + 1)) (cl_M_raise _ _ hw) (hts _ (List.mem_cons_of_mem _ wd_921)) (hts _ (List.mem_cons_of_mem _ wd_923)) (hts _ (List.mem_cons_of_mem _ ws_25)) rfl rfl rfl rfl rfl (Nat.le_refl _) (Nat.le_refl _) d_M_register_85 (bs_out htab hlocks) h, List.forall_mem_cons.mpr ⟨fun S h => bs_goto (Z := Z) hx hb d_M_register_88 (by decide) h, List.forall_mem_cons.mpr ⟨fun S h => bs_aload_n (Z := Z) hx hb rfl d_M_register_91 h, List.forall_mem_cons.mpr ⟨fun S h => bs_iload_n (Z := Z) hx hb rfl d_M_register_92 h, List.forall_mem_cons.mpr ⟨fun S h => bs_iload_n (Z := Z) hx hb rfl d_M_register_93 h, List.forall_mem_cons.mpr ⟨fun S h => bs_dload_n (Z := Z) hx hb rfl d_M_register_94 h, List.forall_mem_cons.mpr ⟨fun S h => bs_callV (Z := Z) (C := R_M) hBg hbs hB X0 hK (cn_M_put htr (d + 0)) (cl_M_put _ _ hw) (hts _ (List.mem_cons_of_mem _ wd_1022)) (hts _ (List.mem_cons_of_mem _ wd_1024)) (hts _ (List.mem_cons_of_mem _ ws_46)) rfl rfl rfl rfl rfl (Nat.le_refl _) (Nat.le_refl _) d_M_register_95 (bs_out htab hlocks) h, List.forall_mem_cons.mpr ⟨fun S h => bs_iret (Z := Z) hx hb hr hlocks d_M_register_98 h, fun _ h => absurd h List.not_mem_nil⟩⟩⟩⟩⟩⟩⟩⟩⟩⟩⟩⟩⟩⟩⟩⟩⟩
  exact List.forall_mem_cons.mpr ⟨fun S h => bs_aload_n (Z := Z) hx hb rfl d_M_register_0 h, List.forall_mem_cons.mpr ⟨fun S h => bs_iconst (Z := Z) hx hb (by decide) d_M_register_1 h, List.forall_mem_cons.mpr ⟨fun S h => bs_pI (Z := Z) (C := R_M) (T := F_M) (N := 40) (t := 40) (j := 0) hx hb hK hts (fun w h => List.mem_cons_of_mem _ (iw_M w h)) hown rfl rfl (by decide) (hts _ (List.mem_cons_of_mem _ wd_784)) (fun _ h => h) rfl rfl t_M t_M_ok n_M rfl (by decide +kernel) rfl d_M_register_2 h, List.forall_mem_cons.mpr ⟨fun S h => bs_iload_n (Z := Z) hx hb rfl d_M_register_5 h, List.forall_mem_cons.mpr ⟨fun S h => bs_callS (Z := Z) hBg hbs hB X0 (cn_M_isBundle htr (d + 0)) (cl_M_isBundle _ _ hw) (hts _ (List.mem_cons_of_mem _ wd_915)) (hts _ (List.mem_cons_of_mem _ wd_916)) (Nat.le_refl _) (Nat.le_refl _) d_M_register_6 (bs_out htab hlocks) h, List.forall_mem_cons.mpr ⟨fun S h => bs_if_eq (Z := Z) hx hb d_M_register_9 (by decide) h, List.forall_mem_cons.mpr ⟨fun S h => bs_iload_n (Z := Z) hx hb rfl d_M_register_12 h, List.forall_mem_cons.mpr ⟨fun S h => bs_iconst (Z := Z) hx hb (by decide) d_M_register_13 h, List.forall_mem_cons.mpr ⟨fun S h => bs_iconst (Z := Z) hx hb (by decide) d_M_register_14 h, List.forall_mem_cons.mpr ⟨fun S h => bs_callS (Z := Z) hBg hbs hB X0 (cn_M_in htr (d + 1)) (cl_M_in _ _ hw) (hts _ (List.mem_cons_of_mem _ wd_918)) (hts _ (List.mem_cons_of_mem _ wd_919)) (Nat.le_refl _) (Nat.le_refl _) d_M_register_15 (bs_out htab hlocks) h, List.forall_mem_cons.mpr ⟨fun S h => bs_if_eq (Z := Z) hx hb d_M_register_18 (by decide) h, List.forall_mem_cons.mpr ⟨fun S h => bs_dload_n (Z := Z) hx hb rfl d_M_register_21 h, List.forall_mem_cons.mpr ⟨fun S h => bs_ldcd (Z := Z) hx hb hown (hts _ (List.mem_cons_of_mem _ wd_1083)) d_M_register_22 h, List.forall_mem_cons.mpr ⟨fun S h => bs_dcmp (Z := Z) hx hb d_M_register_25 h, List.forall_mem_cons.mpr ⟨fun S h => bs_if_lt (Z := Z) hx hb d_M_register_26 (by decide) h, List.forall_mem_cons.mpr ⟨fun S h => bs_dload_n (Z := Z) hx hb rfl d_M_register_29 h, List.forall_mem_cons.mpr ⟨fun S h => bs_ldcd (Z := Z) hx hb hown (hts _ (List.mem_cons_of_mem _ wd_1084)) d_M_register_30 h, List.forall_mem_cons.mpr ⟨fun S h => bs_dcmp (Z := Z) hx hb d_M_register_33 h, List.forall_mem_cons.mpr ⟨fun S h => bs_if_le (Z := Z) hx hb d_M_register_34 (by decide) h, List.forall_mem_cons.mpr ⟨fun S h => bs_aload_n (Z := Z) hx hb rfl d_M_register_37 h, List.forall_mem_cons.mpr ⟨fun S h => bs_iconst (Z := Z) hx hb (by decide) d_M_register_38 h, List.forall_mem_cons.mpr ⟨fun S h => bs_callV (Z := Z) (C := R_M) hBg hbs hB X0 hK (cn_M_raise htr (d + 1)) (cl_M_raise _ _ hw) (hts _ (List.mem_cons_of_mem _ wd_921)) (hts _ (List.mem_cons_of_mem _ wd_923)) (hts _ (List.mem_cons_of_mem _ ws_25)) rfl rfl rfl rfl rfl (Nat.le_refl _) (Nat.le_refl _) d_M_register_39 (bs_out htab hlocks) h, List.forall_mem_cons.mpr ⟨fun S h => bs_iret (Z := Z) hx hb hr hlocks d_M_register_42 h, List.forall_mem_cons.mpr ⟨fun S h => bs_aload_n (Z := Z) hx hb rfl d_M_register_43 h, List.forall_mem_cons.mpr ⟨fun S h => bs_gR (Z := Z) (C := R_M) (T := F_M) (N := 40) (t := 40) (j := 1) hx hb hK hts (fun w h => List.mem_cons_of_mem _ (iw_M w h)) hown rfl rfl (by decide) (hts _ (List.mem_cons_of_mem _ wd_785)) (fun _ h => h) rfl rfl rfl d_M_register_44 h, List.forall_mem_cons.mpr ⟨fun S h => bs_iload_n (Z := Z) hx hb rfl d_M_register_47 h, List.forall_mem_cons.mpr ⟨fun S h => bs_Iald (Z := Z) hx hb ha1 d_M_register_48 h, List.forall_mem_cons.mpr ⟨fun S h => bs_if_ne (Z := Z) hx hb d_M_register_49 (by decide) h, List.forall_mem_cons.mpr ⟨fun S h => bs_aload_n (Z := Z) hx hb rfl d_M_register_52 h, List.forall_mem_cons.mpr ⟨fun S h => bs_iconst (Z := Z) hx hb (by decide) d_M_register_53 h, List.forall_mem_cons.mpr ⟨fun S h => bs_callV (Z := Z) (C := R_M) hBg hbs hB X0 hK (cn_M_raise htr (d + 1)) (cl_M_raise _ _ hw) (hts _ (List.mem_cons_of_mem _ wd_921)) (hts _ (List.mem_cons_of_mem _ wd_923)) (hts _ (List.mem_cons_of_mem _ ws_25)) rfl rfl rfl rfl rfl (Nat.le_refl _) (Nat.le_refl _) d_M_register_54 (bs_out htab hlocks) h, List.forall_mem_cons.mpr ⟨fun S h => bs_iret (Z := Z) hx hb hr hlocks d_M_register_57 h, List.forall_mem_cons.mpr ⟨fun S h => bs_aload_n (Z := Z) hx hb rfl d_M_register_58 h, List.forall_mem_cons.mpr ⟨fun S h => bs_gR (Z := Z) (C := R_M) (T := F_M) (N := 40) (t := 40) (j := 1) hx hb hK hts (fun w h => List.mem_cons_of_mem _ (iw_M w h)) hown rfl rfl (by decide) (hts _ (List.mem_cons_of_mem _ wd_785)) (fun _ h => h) rfl rfl rfl d_M_register_59 h, List.forall_mem_cons.mpr ⟨fun S h => bs_iload_n (Z := Z) hx hb rfl d_M_register_62 h, List.forall_mem_cons.mpr ⟨fun S h => bs_Iald (Z := Z) hx hb ha1 d_M_register_63 h, List.forall_mem_cons.mpr ⟨fun S h => bs_iconst (Z := Z) hx hb (by decide) d_M_register_64 h, List.forall_mem_cons.mpr ⟨fun S h => bs_icmp_eq (Z := Z) hx hb d_M_register_65 (by decide) h, List.forall_mem_cons.mpr ⟨fun S h => bs_aload_n (Z := Z) hx hb rfl d_M_register_68 h, List.forall_mem_cons.mpr ⟨fun S h => bs_iconst (Z := Z) hx hb (by decide) d_M_register_69 h, fun _ h => absurd h List.not_mem_nil⟩⟩⟩⟩⟩⟩⟩⟩⟩⟩⟩⟩⟩⟩⟩⟩⟩⟩⟩⟩⟩⟩⟩⟩⟩⟩⟩⟩⟩⟩⟩⟩⟩⟩⟩⟩⟩⟩⟩⟩
abbrev c_M_get : ByteArray := prog_10_method_46_code
def y_M_get : MethodName := ⟨"BundleHallModel", "get", "(II)I"⟩
theorem d_M_get_0 : decode c_M_get 0 = .ok (.aload_n 0, 1) := by decide +kernel
theorem d_M_get_1 : decode c_M_get 1 = .ok (.iconst 0, 1) := by decide +kernel
theorem d_M_get_2 : decode c_M_get 2 = .ok (.putfield 109, 3) := by decide +kernel
theorem d_M_get_5 : decode c_M_get 5 = .ok (.iload_n 1, 1) := by decide +kernel
theorem d_M_get_6 : decode c_M_get 6 = .ok (.invokestatic 126, 3) := by decide +kernel
theorem d_M_get_9 : decode c_M_get 9 = .ok (.ifCond .eq 12, 3) := by decide +kernel
theorem d_M_get_12 : decode c_M_get 12 = .ok (.iload_n 2, 1) := by decide +kernel
theorem d_M_get_13 : decode c_M_get 13 = .ok (.iconst 0, 1) := by decide +kernel
theorem d_M_get_14 : decode c_M_get 14 = .ok (.iconst 3, 1) := by decide +kernel
theorem d_M_get_15 : decode c_M_get 15 = .ok (.invokestatic 112, 3) := by decide +kernel
theorem d_M_get_18 : decode c_M_get 18 = .ok (.ifCond .ne 9, 3) := by decide +kernel
theorem d_M_get_21 : decode c_M_get 21 = .ok (.aload_n 0, 1) := by decide +kernel
theorem d_M_get_22 : decode c_M_get 22 = .ok (.iconst 1, 1) := by decide +kernel
theorem d_M_get_23 : decode c_M_get 23 = .ok (.invokevirtual 130, 3) := by decide +kernel
theorem d_M_get_26 : decode c_M_get 26 = .ok (.ireturn, 1) := by decide +kernel
theorem d_M_get_27 : decode c_M_get 27 = .ok (.aload_n 0, 1) := by decide +kernel
theorem d_M_get_28 : decode c_M_get 28 = .ok (.getfield 7, 3) := by decide +kernel
theorem d_M_get_31 : decode c_M_get 31 = .ok (.iload_n 1, 1) := by decide +kernel
theorem d_M_get_32 : decode c_M_get 32 = .ok (.iaload, 1) := by decide +kernel
theorem d_M_get_33 : decode c_M_get 33 = .ok (.ifCond .ne 9, 3) := by decide +kernel
theorem d_M_get_36 : decode c_M_get 36 = .ok (.aload_n 0, 1) := by decide +kernel
theorem d_M_get_37 : decode c_M_get 37 = .ok (.iconst 2, 1) := by decide +kernel
theorem d_M_get_38 : decode c_M_get 38 = .ok (.invokevirtual 130, 3) := by decide +kernel
theorem d_M_get_41 : decode c_M_get 41 = .ok (.ireturn, 1) := by decide +kernel
theorem d_M_get_42 : decode c_M_get 42 = .ok (.aload_n 0, 1) := by decide +kernel
theorem d_M_get_43 : decode c_M_get 43 = .ok (.getfield 7, 3) := by decide +kernel
theorem d_M_get_46 : decode c_M_get 46 = .ok (.iload_n 1, 1) := by decide +kernel
theorem d_M_get_47 : decode c_M_get 47 = .ok (.iaload, 1) := by decide +kernel
theorem d_M_get_48 : decode c_M_get 48 = .ok (.iconst 3, 1) := by decide +kernel
theorem d_M_get_49 : decode c_M_get 49 = .ok (.if_icmp .eq 9, 3) := by decide +kernel
theorem d_M_get_52 : decode c_M_get 52 = .ok (.aload_n 0, 1) := by decide +kernel
theorem d_M_get_53 : decode c_M_get 53 = .ok (.iconst 3, 1) := by decide +kernel
theorem d_M_get_54 : decode c_M_get 54 = .ok (.invokevirtual 130, 3) := by decide +kernel
theorem d_M_get_57 : decode c_M_get 57 = .ok (.ireturn, 1) := by decide +kernel
theorem d_M_get_58 : decode c_M_get 58 = .ok (.aload_n 0, 1) := by decide +kernel
theorem d_M_get_59 : decode c_M_get 59 = .ok (.iload_n 2, 1) := by decide +kernel
theorem d_M_get_60 : decode c_M_get 60 = .ok (.invokevirtual 220, 3) := by decide +kernel
theorem d_M_get_63 : decode c_M_get 63 = .ok (.istore_n 3, 1) := by decide +kernel
theorem d_M_get_64 : decode c_M_get 64 = .ok (.iload_n 3, 1) := by decide +kernel
theorem d_M_get_65 : decode c_M_get 65 = .ok (.ifCond .ge 9, 3) := by decide +kernel
theorem d_M_get_68 : decode c_M_get 68 = .ok (.aload_n 0, 1) := by decide +kernel
theorem d_M_get_69 : decode c_M_get 69 = .ok (.iconst 4, 1) := by decide +kernel
theorem d_M_get_70 : decode c_M_get 70 = .ok (.invokevirtual 130, 3) := by decide +kernel
theorem d_M_get_73 : decode c_M_get 73 = .ok (.ireturn, 1) := by decide +kernel
theorem d_M_get_74 : decode c_M_get 74 = .ok (.aload_n 0, 1) := by decide +kernel
theorem d_M_get_75 : decode c_M_get 75 = .ok (.getfield 97, 3) := by decide +kernel
theorem d_M_get_78 : decode c_M_get 78 = .ok (.bipush 8, 2) := by decide +kernel
theorem d_M_get_80 : decode c_M_get 80 = .ok (.iload_n 3, 1) := by decide +kernel
theorem d_M_get_81 : decode c_M_get 81 = .ok (.imul, 1) := by decide +kernel
theorem d_M_get_82 : decode c_M_get 82 = .ok (.iload_n 1, 1) := by decide +kernel
theorem d_M_get_83 : decode c_M_get 83 = .ok (.iadd, 1) := by decide +kernel
theorem d_M_get_84 : decode c_M_get 84 = .ok (.dup2, 1) := by decide +kernel
theorem d_M_get_85 : decode c_M_get 85 = .ok (.iaload, 1) := by decide +kernel
theorem d_M_get_86 : decode c_M_get 86 = .ok (.iconst 1, 1) := by decide +kernel
theorem d_M_get_87 : decode c_M_get 87 = .ok (.iadd, 1) := by decide +kernel
theorem d_M_get_88 : decode c_M_get 88 = .ok (.iastore, 1) := by decide +kernel
theorem d_M_get_89 : decode c_M_get 89 = .ok (.aload_n 0, 1) := by decide +kernel
theorem d_M_get_90 : decode c_M_get 90 = .ok (.getfield 84, 3) := by decide +kernel
theorem d_M_get_93 : decode c_M_get 93 = .ok (.iload_n 3, 1) := by decide +kernel
theorem d_M_get_94 : decode c_M_get 94 = .ok (.iaload, 1) := by decide +kernel
theorem d_M_get_95 : decode c_M_get 95 = .ok (.ireturn, 1) := by decide +kernel
def T_M_get_0 : List (Nat × bh_Op) := [(0, bo_ald 1 0),
  (1, bo_st 2 (bg_push (.inl (.int 0)))),
  (2, bo_pI 5 40 0),
  (5, bo_ild 6 1),
  (6, bo_callS 9 1 0 0 F_M_isBundle),
  (9, bo_if1 12 21 (fun x => x = 0)),
  (12, bo_ild 13 2),
  (13, bo_st 14 (bg_push (.inl (.int 0)))),
  (14, bo_st 15 (bg_push (.inl (.int 3)))),
  (15, bo_callS 18 3 0 0 F_M_in),
  (18, bo_if1 21 27 (fun x => ¬ x = 0)),
  (21, bo_ald 22 0),
  (22, bo_st 23 (bg_push (.inl (.int 1)))),
  (23, bo_callV 26 2 0 0 40 F_M_raise),
  (26, bo_iret 0),
  (27, bo_ald 28 0),
  (28, bo_gR 31 40 1 41),
  (31, bo_ild 32 1),
  (32, bo_Iald bh_ak bh_al 33),
  (33, bo_if1 36 42 (fun x => ¬ x = 0)),
  (36, bo_ald 37 0),
  (37, bo_st 38 (bg_push (.inl (.int 2)))),
  (38, bo_callV 41 2 0 0 40 F_M_raise),
  (41, bo_iret 0),
  (42, bo_ald 43 0),
  (43, bo_gR 46 40 1 41),
  (46, bo_ild 47 1),
  (47, bo_Iald bh_ak bh_al 48),
  (48, bo_st 49 (bg_push (.inl (.int 3)))),
  (49, bo_if2 52 58 (fun x y => x = y)),
  (52, bo_ald 53 0),
  (53, bo_st 54 (bg_push (.inl (.int 3)))),
  (54, bo_callV 57 2 0 0 40 F_M_raise),
  (57, bo_iret 0),
  (58, bo_ald 59 0),
  (59, bo_ild 60 2),
  (60, bo_callV 63 2 0 0 40 F_M_best),
  (63, bo_ist 64 3),
  (64, bo_ild 65 3),
  (65, bo_if1 68 74 (fun x => 0 ≤ x))]
def T_M_get_1 : List (Nat × bh_Op) := [(68, bo_ald 69 0),
  (69, bo_st 70 (bg_push (.inl (.int 4)))),
  (70, bo_callV 73 2 0 0 40 F_M_raise),
  (73, bo_iret 0),
  (74, bo_ald 75 0),
  (75, bo_gR 78 40 33 69),
  (78, bo_st 80 (bg_push (.inl (.int 8)))),
  (80, bo_ild 81 3),
  (81, bo_st 82 (bg_ii (fun x y => x * y))),
  (82, bo_ild 83 1),
  (83, bo_st 84 (bg_ii (fun x y => x + y))),
  (84, bo_st 85 bg_dup2),
  (85, bo_Iald bh_ak bh_al 86),
  (86, bo_st 87 (bg_push (.inl (.int 1)))),
  (87, bo_st 88 (bg_ii (fun x y => x + y))),
  (88, bo_Iast bh_ak bh_al 89),
  (89, bo_ald 90 0),
  (90, bo_gR 93 40 29 65),
  (93, bo_ild 94 3),
  (94, bo_Iald bh_ak bh_al 95),
  (95, bo_iret 0)]
def T_M_get : List (Nat × bh_Op) := T_M_get_0 ++ T_M_get_1
set_option maxRecDepth 20000 in
theorem mT_M_get_0 : ∀ q ∈ T_M_get_0, bh_mono q.2 := List.forall_mem_cons.mpr ⟨bo_ald_m _ _, List.forall_mem_cons.mpr ⟨bo_st_mono (bg_push_m _), List.forall_mem_cons.mpr ⟨bo_pI_m _ _ _, List.forall_mem_cons.mpr ⟨bo_ild_m _ _, List.forall_mem_cons.mpr ⟨bo_callS_m (mF_M_isBundle) _ _ _ _, List.forall_mem_cons.mpr ⟨bo_if1_m _ _ _, List.forall_mem_cons.mpr ⟨bo_ild_m _ _, List.forall_mem_cons.mpr ⟨bo_st_mono (bg_push_m _), List.forall_mem_cons.mpr ⟨bo_st_mono (bg_push_m _), List.forall_mem_cons.mpr ⟨bo_callS_m (mF_M_in) _ _ _ _, List.forall_mem_cons.mpr ⟨bo_if1_m _ _ _, List.forall_mem_cons.mpr ⟨bo_ald_m _ _, List.forall_mem_cons.mpr ⟨bo_st_mono (bg_push_m _), List.forall_mem_cons.mpr ⟨bo_callV_m (mF_M_raise) _ _ _ _ _, List.forall_mem_cons.mpr ⟨bo_iret_m _, List.forall_mem_cons.mpr ⟨bo_ald_m _ _, List.forall_mem_cons.mpr ⟨bo_gR_m _ _ _ _, List.forall_mem_cons.mpr ⟨bo_ild_m _ _, List.forall_mem_cons.mpr ⟨bo_Iald_m _ _ _, List.forall_mem_cons.mpr ⟨bo_if1_m _ _ _, List.forall_mem_cons.mpr ⟨bo_ald_m _ _, List.forall_mem_cons.mpr ⟨bo_st_mono (bg_push_m _), List.forall_mem_cons.mpr ⟨bo_callV_m (mF_M_raise) _ _ _ _ _, List.forall_mem_cons.mpr ⟨bo_iret_m _, List.forall_mem_cons.mpr ⟨bo_ald_m _ _, List.forall_mem_cons.mpr ⟨bo_gR_m _ _ _ _, List.forall_mem_cons.mpr ⟨bo_ild_m _ _, List.forall_mem_cons.mpr ⟨bo_Iald_m _ _ _, List.forall_mem_cons.mpr ⟨bo_st_mono (bg_push_m _), List.forall_mem_cons.mpr ⟨bo_if2_m _ _ _, List.forall_mem_cons.mpr ⟨bo_ald_m _ _, List.forall_mem_cons.mpr ⟨bo_st_mono (bg_push_m _), List.forall_mem_cons.mpr ⟨bo_callV_m (mF_M_raise) _ _ _ _ _, List.forall_mem_cons.mpr ⟨bo_iret_m _, List.forall_mem_cons.mpr ⟨bo_ald_m _ _, List.forall_mem_cons.mpr ⟨bo_ild_m _ _, List.forall_mem_cons.mpr ⟨bo_callV_m (mF_M_best) _ _ _ _ _, List.forall_mem_cons.mpr ⟨bo_ist_m _ _, List.forall_mem_cons.mpr ⟨bo_ild_m _ _, List.forall_mem_cons.mpr ⟨bo_if1_m _ _ _, fun _ h => absurd h List.not_mem_nil⟩⟩⟩⟩⟩⟩⟩⟩⟩⟩⟩⟩⟩⟩⟩⟩⟩⟩⟩⟩⟩⟩⟩⟩⟩⟩⟩⟩⟩⟩⟩⟩⟩⟩⟩⟩⟩⟩⟩⟩
set_option maxRecDepth 20000 in
theorem mT_M_get_1 : ∀ q ∈ T_M_get_1, bh_mono q.2 := List.forall_mem_cons.mpr ⟨bo_ald_m _ _, List.forall_mem_cons.mpr ⟨bo_st_mono (bg_push_m _), List.forall_mem_cons.mpr ⟨bo_callV_m (mF_M_raise) _ _ _ _ _, List.forall_mem_cons.mpr ⟨bo_iret_m _, List.forall_mem_cons.mpr ⟨bo_ald_m _ _, List.forall_mem_cons.mpr ⟨bo_gR_m _ _ _ _, List.forall_mem_cons.mpr ⟨bo_st_mono (bg_push_m _), List.forall_mem_cons.mpr ⟨bo_ild_m _ _, List.forall_mem_cons.mpr ⟨bo_st_mono (bg_ii_m _), List.forall_mem_cons.mpr ⟨bo_ild_m _ _, List.forall_mem_cons.mpr ⟨bo_st_mono (bg_ii_m _), List.forall_mem_cons.mpr ⟨bo_st_mono bg_dup2_m, List.forall_mem_cons.mpr ⟨bo_Iald_m _ _ _, List.forall_mem_cons.mpr ⟨bo_st_mono (bg_push_m _), List.forall_mem_cons.mpr ⟨bo_st_mono (bg_ii_m _), List.forall_mem_cons.mpr ⟨bo_Iast_m _ _ _, List.forall_mem_cons.mpr ⟨bo_ald_m _ _, List.forall_mem_cons.mpr ⟨bo_gR_m _ _ _ _, List.forall_mem_cons.mpr ⟨bo_ild_m _ _, List.forall_mem_cons.mpr ⟨bo_Iald_m _ _ _, List.forall_mem_cons.mpr ⟨bo_iret_m _, fun _ h => absurd h List.not_mem_nil⟩⟩⟩⟩⟩⟩⟩⟩⟩⟩⟩⟩⟩⟩⟩⟩⟩⟩⟩⟩⟩
theorem m_M_get : ∀ pc, bh_mono (bh_tb (T_M_get) pc) := bh_tb_m (List.forall_mem_append.mpr ⟨mT_M_get_0, mT_M_get_1⟩)
def F_M_get : bh_Fn := bh_fn 4 (bh_tb T_M_get)
theorem mF_M_get : bh_monoF F_M_get := bh_fn_m m_M_get
theorem cl_M_get {s : State} {args : Array Value} (d B : Nat) (hts : ∀ w ∈ bh_ws, w.before args s = true) : bh_Cal (bh_rm (d + 1) B) s y_M_get 4 (.code y_M_get c_M_get 4 (some .int) :: bh_ws) (bh_rm d 0) 0 2 := bh_cal d B hts wd_1088 wd_9 (by decide) (by decide +kernel)
set_option maxHeartbeats 4000000 in
set_option maxRecDepth 100000 in
theorem cn_M_get {l : Launch} {G : bh_G} {base sb L : Nat} {xs : Nat → Int32} (htr : l.stackTraces = false) (d : Nat) : bh_Con l G base (bh_Bg G base sb L xs) y_M_get (.code y_M_get c_M_get 4 (some .int) :: bh_ws) (bh_rm (d + 3) 0) 0 false F_M_get := by
  refine bh_method (cc := c_M_get) (ret := (some .int)) (by decide +kernel) rfl ?_
  intro p e s m args below meth c ad0 M0 Z X0 hr hlocks hname htab hbs hB
  obtain ⟨hx, hb, hml, hown, hts⟩ := id X0
  have hw : ∀ w ∈ bh_ws, w.before args s = true := fun w h => hts w (List.mem_cons_of_mem _ h)
  have hBg := bh_BgK (G := G) (base := base) (sb := sb) (L := L) (xs := xs)
  obtain ⟨hK, hAr, hen, hinj, hu1, hu2, hstr, hX, hsb, hsc, hxw, hao, hnc⟩ := id hB
  obtain ⟨ha1, ha2, ha3, ha4, ha5, ha6, ha0⟩ := bh_arr hAr
  refine List.forall_mem_append.mpr ⟨?_, List.forall_mem_cons.mpr ⟨fun S h => bs_aload_n (Z := Z) hx hb rfl d_M_get_68 h, List.forall_mem_cons.mpr ⟨fun S h => bs_iconst (Z := Z) hx hb (by decide) d_M_get_69 h, List.forall_mem_cons.mpr ⟨fun S h => bs_callV (Z := Z) (C := R_M) hBg hbs hB X0 hK (cn_M_raise htr (d + 1)) (cl_M_raise _ _ hw) (hts _ (List.mem_cons_of_mem _ wd_921)) (hts _ (List.mem_cons_of_mem _ wd_923)) (hts _ (List.mem_cons_of_mem _ ws_25)) rfl rfl rfl rfl rfl (Nat.le_refl _) (Nat.le_refl _) d_M_get_70 (bs_out htab hlocks) h, List.forall_mem_cons.mpr ⟨fun S h => bs_iret (Z := Z) hx hb hr hlocks d_M_get_73 h, List.forall_mem_cons.mpr ⟨fun S h => bs_aload_n (Z := Z) hx hb rfl d_M_get_74 h, List.forall_mem_cons.mpr ⟨fun S h => bs_gR (Z := Z) (C := R_M) (T := F_M) (N := 40) (t := 40) (j := 33) hx hb hK hts (fun w h => List.mem_cons_of_mem _ (iw_M w h)) hown rfl rfl (by decide) (hts _ (List.mem_cons_of_mem _ wd_817)) (fun _ h => h) rfl rfl rfl d_M_get_75 h, List.forall_mem_cons.mpr ⟨fun S h => bs_bipush (Z := Z) hx hb (by decide) d_M_get_78 h, List.forall_mem_cons.mpr ⟨fun S h => bs_iload_n (Z := Z) hx hb rfl d_M_get_80 h, List.forall_mem_cons.mpr ⟨fun S h => bs_imul (Z := Z) hx hb d_M_get_81 h, List.forall_mem_cons.mpr ⟨fun S h => bs_iload_n (Z := Z) hx hb rfl d_M_get_82 h, List.forall_mem_cons.mpr ⟨fun S h => bs_iadd (Z := Z) hx hb d_M_get_83 h, List.forall_mem_cons.mpr ⟨fun S h => bs_dup2 (Z := Z) hx hb d_M_get_84 h, List.forall_mem_cons.mpr ⟨fun S h => bs_Iald (Z := Z) hx hb ha1 d_M_get_85 h, List.forall_mem_cons.mpr ⟨fun S h => bs_iconst (Z := Z) hx hb (by decide) d_M_get_86 h, List.forall_mem_cons.mpr ⟨fun S h => bs_iadd (Z := Z) hx hb d_M_get_87 h, List.forall_mem_cons.mpr ⟨fun S h => bs_Iast (Z := Z) hx hb ha1 d_M_get_88 h, List.forall_mem_cons.mpr ⟨fun S h => bs_aload_n (Z := Z) hx hb rfl d_M_get_89 h, List.forall_mem_cons.mpr ⟨fun S h => bs_gR (Z := Z) (C := R_M) (T := F_M) (N := 40) (t := 40) (j := 29) hx hb hK hts (fun w h => List.mem_cons_of_mem _ (iw_M w h)) hown rfl rfl (by decide) (hts _ (List.mem_cons_of_mem _ wd_813)) (fun _ h => h) rfl rfl rfl d_M_get_90 h, List.forall_mem_cons.mpr ⟨fun S h => bs_iload_n (Z := Z) hx hb rfl d_M_get_93 h, List.forall_mem_cons.mpr ⟨fun S h => bs_Iald (Z := Z) hx hb ha1 d_M_get_94 h, List.forall_mem_cons.mpr ⟨fun S h => bs_iret (Z := Z) hx hb hr hlocks d_M_get_95 h, fun _ h => absurd h List.not_mem_nil⟩⟩⟩⟩⟩⟩⟩⟩⟩⟩⟩⟩⟩⟩⟩⟩⟩⟩⟩⟩⟩⟩
  exact List.forall_mem_cons.mpr ⟨fun S h => bs_aload_n (Z := Z) hx hb rfl d_M_get_0 h, List.forall_mem_cons.mpr ⟨fun S h => bs_iconst (Z := Z) hx hb (by decide) d_M_get_1 h, List.forall_mem_cons.mpr ⟨fun S h => bs_pI (Z := Z) (C := R_M) (T := F_M) (N := 40) (t := 40) (j := 0) hx hb hK hts (fun w h => List.mem_cons_of_mem _ (iw_M w h)) hown rfl rfl (by decide) (hts _ (List.mem_cons_of_mem _ wd_784)) (fun _ h => h) rfl rfl t_M t_M_ok n_M rfl (by decide +kernel) rfl d_M_get_2 h, List.forall_mem_cons.mpr ⟨fun S h => bs_iload_n (Z := Z) hx hb rfl d_M_get_5 h, List.forall_mem_cons.mpr ⟨fun S h => bs_callS (Z := Z) hBg hbs hB X0 (cn_M_isBundle htr (d + 0)) (cl_M_isBundle _ _ hw) (hts _ (List.mem_cons_of_mem _ wd_915)) (hts _ (List.mem_cons_of_mem _ wd_916)) (Nat.le_refl _) (Nat.le_refl _) d_M_get_6 (bs_out htab hlocks) h, List.forall_mem_cons.mpr ⟨fun S h => bs_if_eq (Z := Z) hx hb d_M_get_9 (by decide) h, List.forall_mem_cons.mpr ⟨fun S h => bs_iload_n (Z := Z) hx hb rfl d_M_get_12 h, List.forall_mem_cons.mpr ⟨fun S h => bs_iconst (Z := Z) hx hb (by decide) d_M_get_13 h, List.forall_mem_cons.mpr ⟨fun S h => bs_iconst (Z := Z) hx hb (by decide) d_M_get_14 h, List.forall_mem_cons.mpr ⟨fun S h => bs_callS (Z := Z) hBg hbs hB X0 (cn_M_in htr (d + 1)) (cl_M_in _ _ hw) (hts _ (List.mem_cons_of_mem _ wd_918)) (hts _ (List.mem_cons_of_mem _ wd_919)) (Nat.le_refl _) (Nat.le_refl _) d_M_get_15 (bs_out htab hlocks) h, List.forall_mem_cons.mpr ⟨fun S h => bs_if_ne (Z := Z) hx hb d_M_get_18 (by decide) h, List.forall_mem_cons.mpr ⟨fun S h => bs_aload_n (Z := Z) hx hb rfl d_M_get_21 h, List.forall_mem_cons.mpr ⟨fun S h => bs_iconst (Z := Z) hx hb (by decide) d_M_get_22 h, List.forall_mem_cons.mpr ⟨fun S h => bs_callV (Z := Z) (C := R_M) hBg hbs hB X0 hK (cn_M_raise htr (d + 1)) (cl_M_raise _ _ hw) (hts _ (List.mem_cons_of_mem _ wd_921)) (hts _ (List.mem_cons_of_mem _ wd_923)) (hts _ (List.mem_cons_of_mem _ ws_25)) rfl rfl rfl rfl rfl (Nat.le_refl _) (Nat.le_refl _) d_M_get_23 (bs_out htab hlocks) h, List.forall_mem_cons.mpr ⟨fun S h => bs_iret (Z := Z) hx hb hr hlocks d_M_get_26 h, List.forall_mem_cons.mpr ⟨fun S h => bs_aload_n (Z := Z) hx hb rfl d_M_get_27 h, List.forall_mem_cons.mpr ⟨fun S h => bs_gR (Z := Z) (C := R_M) (T := F_M) (N := 40) (t := 40) (j := 1) hx hb hK hts (fun w h => List.mem_cons_of_mem _ (iw_M w h)) hown rfl rfl (by decide) (hts _ (List.mem_cons_of_mem _ wd_785)) (fun _ h => h) rfl rfl rfl d_M_get_28 h, List.forall_mem_cons.mpr ⟨fun S h => bs_iload_n (Z := Z) hx hb rfl d_M_get_31 h, List.forall_mem_cons.mpr ⟨fun S h => bs_Iald (Z := Z) hx hb ha1 d_M_get_32 h, List.forall_mem_cons.mpr ⟨fun S h => bs_if_ne (Z := Z) hx hb d_M_get_33 (by decide) h, List.forall_mem_cons.mpr ⟨fun S h => bs_aload_n (Z := Z) hx hb rfl d_M_get_36 h, List.forall_mem_cons.mpr ⟨fun S h => bs_iconst (Z := Z) hx hb (by decide) d_M_get_37 h, List.forall_mem_cons.mpr ⟨fun S h => bs_callV (Z := Z) (C := R_M) hBg hbs hB X0 hK (cn_M_raise htr (d + 1)) (cl_M_raise _ _ hw) (hts _ (List.mem_cons_of_mem _ wd_921)) (hts _ (List.mem_cons_of_mem _ wd_923)) (hts _ (List.mem_cons_of_mem _ ws_25)) rfl rfl rfl rfl rfl (Nat.le_refl _) (Nat.le_refl _) d_M_get_38 (bs_out htab hlocks) h, List.forall_mem_cons.mpr ⟨fun S h => bs_iret (Z := Z) hx hb hr hlocks d_M_get_41 h, List.forall_mem_cons.mpr ⟨fun S h => bs_aload_n (Z := Z) hx hb rfl d_M_get_42 h, List.forall_mem_cons.mpr ⟨fun S h => bs_gR (Z := Z) (C := R_M) (T := F_M) (N := 40) (t := 40) (j := 1) hx hb hK hts (fun w h => List.mem_cons_of_mem _ (iw_M w h)) hown rfl rfl (by decide) (hts _ (List.mem_cons_of_mem _ wd_785)) (fun _ h => h) rfl rfl rfl d_M_get_43 h, List.forall_mem_cons.mpr ⟨fun S h => bs_iload_n (Z := Z) hx hb rfl d_M_get_46 h, List.forall_mem_cons.mpr ⟨fun S h => bs_Iald (Z := Z) hx hb ha1 d_M_get_47 h, List.forall_mem_cons.mpr ⟨fun S h => bs_iconst (Z := Z) hx hb (by decide) d_M_get_48 h, List.forall_mem_cons.mpr ⟨fun S h => bs_icmp_eq (Z := Z) hx hb d_M_get_49 (by decide) h, List.forall_mem_cons.mpr ⟨fun S h => bs_aload_n (Z := Z) hx hb rfl d_M_get_52 h, List.forall_mem_cons.mpr ⟨fun S h => bs_iconst (Z := Z) hx hb (by decide) d_M_get_53 h, List.forall_mem_cons.mpr ⟨fun S h => bs_callV (Z := Z) (C := R_M) hBg hbs hB X0 hK (cn_M_raise htr (d + 1)) (cl_M_raise _ _ hw) (hts _ (List.mem_cons_of_mem _ wd_921)) (hts _ (List.mem_cons_of_mem _ wd_923)) (hts _ (List.mem_cons_of_mem _ ws_25)) rfl rfl rfl rfl rfl (Nat.le_refl _) (Nat.le_refl _) d_M_get_54 (bs_out htab hlocks) h, List.forall_mem_cons.mpr ⟨fun S h => bs_iret (Z := Z) hx hb hr hlocks d_M_get_57 h, List.forall_mem_cons.mpr ⟨fun S h => bs_aload_n (Z := Z) hx hb rfl d_M_get_58 h, List.forall_mem_cons.mpr ⟨fun S h => bs_iload_n (Z := Z) hx hb rfl d_M_get_59 h, List.forall_mem_cons.mpr ⟨fun S h => bs_callV (Z := Z) (C := R_M) hBg hbs hB X0 hK (cn_M_best htr (d + 1)) (cl_M_best _ _ hw) (hts _ (List.mem_cons_of_mem _ wd_1030)) (hts _ (List.mem_cons_of_mem _ wd_1032)) (hts _ (List.mem_cons_of_mem _ ws_48)) rfl rfl rfl rfl rfl (Nat.le_refl _) (Nat.le_refl _) d_M_get_60 (bs_out htab hlocks) h, List.forall_mem_cons.mpr ⟨fun S h => bs_istore_n (Z := Z) hx hb rfl d_M_get_63 h, List.forall_mem_cons.mpr ⟨fun S h => bs_iload_n (Z := Z) hx hb rfl d_M_get_64 h, List.forall_mem_cons.mpr ⟨fun S h => bs_if_ge (Z := Z) hx hb d_M_get_65 (by decide) h, fun _ h => absurd h List.not_mem_nil⟩⟩⟩⟩⟩⟩⟩⟩⟩⟩⟩⟩⟩⟩⟩⟩⟩⟩⟩⟩⟩⟩⟩⟩⟩⟩⟩⟩⟩⟩⟩⟩⟩⟩⟩⟩⟩⟩⟩⟩
abbrev c_M_placeOf : ByteArray := prog_10_method_47_code
def y_M_placeOf : MethodName := ⟨"BundleHallModel", "placeOf", "(I)I"⟩
theorem d_M_placeOf_0 : decode c_M_placeOf 0 = .ok (.iconst 0, 1) := by decide +kernel
theorem d_M_placeOf_1 : decode c_M_placeOf 1 = .ok (.istore_n 2, 1) := by decide +kernel
theorem d_M_placeOf_2 : decode c_M_placeOf 2 = .ok (.iload_n 2, 1) := by decide +kernel
theorem d_M_placeOf_3 : decode c_M_placeOf 3 = .ok (.aload_n 0, 1) := by decide +kernel
theorem d_M_placeOf_4 : decode c_M_placeOf 4 = .ok (.getfield 207, 3) := by decide +kernel
theorem d_M_placeOf_7 : decode c_M_placeOf 7 = .ok (.if_icmp .ge 21, 3) := by decide +kernel
theorem d_M_placeOf_10 : decode c_M_placeOf 10 = .ok (.aload_n 0, 1) := by decide +kernel
theorem d_M_placeOf_11 : decode c_M_placeOf 11 = .ok (.getfield 84, 3) := by decide +kernel
theorem d_M_placeOf_14 : decode c_M_placeOf 14 = .ok (.iload_n 2, 1) := by decide +kernel
theorem d_M_placeOf_15 : decode c_M_placeOf 15 = .ok (.iaload, 1) := by decide +kernel
theorem d_M_placeOf_16 : decode c_M_placeOf 16 = .ok (.iload_n 1, 1) := by decide +kernel
theorem d_M_placeOf_17 : decode c_M_placeOf 17 = .ok (.if_icmp .ne 5, 3) := by decide +kernel
theorem d_M_placeOf_20 : decode c_M_placeOf 20 = .ok (.iload_n 2, 1) := by decide +kernel
theorem d_M_placeOf_21 : decode c_M_placeOf 21 = .ok (.ireturn, 1) := by decide +kernel
theorem d_M_placeOf_22 : decode c_M_placeOf 22 = .ok (.iinc 2 1, 3) := by decide +kernel
theorem d_M_placeOf_25 : decode c_M_placeOf 25 = .ok (.goto (-23), 3) := by decide +kernel
theorem d_M_placeOf_28 : decode c_M_placeOf 28 = .ok (.iconst (-1), 1) := by decide +kernel
theorem d_M_placeOf_29 : decode c_M_placeOf 29 = .ok (.ireturn, 1) := by decide +kernel
def T_M_placeOf_0 : List (Nat × bh_Op) := [(0, bo_st 1 (bg_push (.inl (.int 0)))),
  (1, bo_ist 2 2),
  (2, bo_ild 3 2),
  (3, bo_ald 4 0),
  (4, bo_gI 7 40 34),
  (7, bo_if2 10 28 (fun x y => y ≤ x)),
  (10, bo_ald 11 0),
  (11, bo_gR 14 40 29 65),
  (14, bo_ild 15 2),
  (15, bo_Iald bh_ak bh_al 16),
  (16, bo_ild 17 1),
  (17, bo_if2 20 22 (fun x y => ¬ x = y)),
  (20, bo_ild 21 2),
  (21, bo_iret 0),
  (22, bo_inc 25 2 1),
  (25, bo_go 2),
  (28, bo_st 29 (bg_push (.inl (.int (-1))))),
  (29, bo_iret 0)]
def T_M_placeOf : List (Nat × bh_Op) := T_M_placeOf_0
set_option maxRecDepth 20000 in
theorem mT_M_placeOf_0 : ∀ q ∈ T_M_placeOf_0, bh_mono q.2 := List.forall_mem_cons.mpr ⟨bo_st_mono (bg_push_m _), List.forall_mem_cons.mpr ⟨bo_ist_m _ _, List.forall_mem_cons.mpr ⟨bo_ild_m _ _, List.forall_mem_cons.mpr ⟨bo_ald_m _ _, List.forall_mem_cons.mpr ⟨bo_gI_m _ _ _, List.forall_mem_cons.mpr ⟨bo_if2_m _ _ _, List.forall_mem_cons.mpr ⟨bo_ald_m _ _, List.forall_mem_cons.mpr ⟨bo_gR_m _ _ _ _, List.forall_mem_cons.mpr ⟨bo_ild_m _ _, List.forall_mem_cons.mpr ⟨bo_Iald_m _ _ _, List.forall_mem_cons.mpr ⟨bo_ild_m _ _, List.forall_mem_cons.mpr ⟨bo_if2_m _ _ _, List.forall_mem_cons.mpr ⟨bo_ild_m _ _, List.forall_mem_cons.mpr ⟨bo_iret_m _, List.forall_mem_cons.mpr ⟨bo_inc_m _ _ _, List.forall_mem_cons.mpr ⟨bo_go_m _, List.forall_mem_cons.mpr ⟨bo_st_mono (bg_push_m _), List.forall_mem_cons.mpr ⟨bo_iret_m _, fun _ h => absurd h List.not_mem_nil⟩⟩⟩⟩⟩⟩⟩⟩⟩⟩⟩⟩⟩⟩⟩⟩⟩⟩
theorem m_M_placeOf : ∀ pc, bh_mono (bh_tb (T_M_placeOf) pc) := bh_tb_m mT_M_placeOf_0
def F_M_placeOf : bh_Fn := bh_fn 3 (bh_tb T_M_placeOf)
theorem mF_M_placeOf : bh_monoF F_M_placeOf := bh_fn_m m_M_placeOf
theorem cl_M_placeOf {s : State} {args : Array Value} (d B : Nat) (hts : ∀ w ∈ bh_ws, w.before args s = true) : bh_Cal (bh_rm (d + 1) B) s y_M_placeOf 3 (.code y_M_placeOf c_M_placeOf 3 (some .int) :: bh_ws) (bh_rm d 0) 0 1 := bh_cal d B hts wd_1096 wd_9 (by decide) (by decide +kernel)
set_option maxHeartbeats 4000000 in
set_option maxRecDepth 100000 in
theorem cn_M_placeOf {l : Launch} {G : bh_G} {base sb L : Nat} {xs : Nat → Int32} (htr : l.stackTraces = false) (d : Nat) : bh_Con l G base (bh_Bg G base sb L xs) y_M_placeOf (.code y_M_placeOf c_M_placeOf 3 (some .int) :: bh_ws) (bh_rm (d + 1) 0) 0 false F_M_placeOf := by
  refine bh_method (cc := c_M_placeOf) (ret := (some .int)) (by decide +kernel) rfl ?_
  intro p e s m args below meth c ad0 M0 Z X0 hr hlocks hname htab hbs hB
  obtain ⟨hx, hb, hml, hown, hts⟩ := id X0
  have hw : ∀ w ∈ bh_ws, w.before args s = true := fun w h => hts w (List.mem_cons_of_mem _ h)
  have hBg := bh_BgK (G := G) (base := base) (sb := sb) (L := L) (xs := xs)
  obtain ⟨hK, hAr, hen, hinj, hu1, hu2, hstr, hX, hsb, hsc, hxw, hao, hnc⟩ := id hB
  obtain ⟨ha1, ha2, ha3, ha4, ha5, ha6, ha0⟩ := bh_arr hAr
  exact List.forall_mem_cons.mpr ⟨fun S h => bs_iconst (Z := Z) hx hb (by decide) d_M_placeOf_0 h, List.forall_mem_cons.mpr ⟨fun S h => bs_istore_n (Z := Z) hx hb rfl d_M_placeOf_1 h, List.forall_mem_cons.mpr ⟨fun S h => bs_iload_n (Z := Z) hx hb rfl d_M_placeOf_2 h, List.forall_mem_cons.mpr ⟨fun S h => bs_aload_n (Z := Z) hx hb rfl d_M_placeOf_3 h, List.forall_mem_cons.mpr ⟨fun S h => bs_gI (Z := Z) (C := R_M) (T := F_M) (N := 40) (t := 40) (j := 34) hx hb hK hts (fun w h => List.mem_cons_of_mem _ (iw_M w h)) hown rfl rfl (by decide) (hts _ (List.mem_cons_of_mem _ wd_818)) (fun _ h => h) rfl rfl rfl d_M_placeOf_4 h, List.forall_mem_cons.mpr ⟨fun S h => bs_icmp_ge (Z := Z) hx hb d_M_placeOf_7 (by decide) h, List.forall_mem_cons.mpr ⟨fun S h => bs_aload_n (Z := Z) hx hb rfl d_M_placeOf_10 h, List.forall_mem_cons.mpr ⟨fun S h => bs_gR (Z := Z) (C := R_M) (T := F_M) (N := 40) (t := 40) (j := 29) hx hb hK hts (fun w h => List.mem_cons_of_mem _ (iw_M w h)) hown rfl rfl (by decide) (hts _ (List.mem_cons_of_mem _ wd_813)) (fun _ h => h) rfl rfl rfl d_M_placeOf_11 h, List.forall_mem_cons.mpr ⟨fun S h => bs_iload_n (Z := Z) hx hb rfl d_M_placeOf_14 h, List.forall_mem_cons.mpr ⟨fun S h => bs_Iald (Z := Z) hx hb ha1 d_M_placeOf_15 h, List.forall_mem_cons.mpr ⟨fun S h => bs_iload_n (Z := Z) hx hb rfl d_M_placeOf_16 h, List.forall_mem_cons.mpr ⟨fun S h => bs_icmp_ne (Z := Z) hx hb d_M_placeOf_17 (by decide) h, List.forall_mem_cons.mpr ⟨fun S h => bs_iload_n (Z := Z) hx hb rfl d_M_placeOf_20 h, List.forall_mem_cons.mpr ⟨fun S h => bs_iret (Z := Z) hx hb hr hlocks d_M_placeOf_21 h, List.forall_mem_cons.mpr ⟨fun S h => bs_iinc (Z := Z) hx hb (by decide) d_M_placeOf_22 h, List.forall_mem_cons.mpr ⟨fun S h => bs_goto (Z := Z) hx hb d_M_placeOf_25 (by decide) h, List.forall_mem_cons.mpr ⟨fun S h => bs_iconst (Z := Z) hx hb (by decide) d_M_placeOf_28 h, List.forall_mem_cons.mpr ⟨fun S h => bs_iret (Z := Z) hx hb hr hlocks d_M_placeOf_29 h, fun _ h => absurd h List.not_mem_nil⟩⟩⟩⟩⟩⟩⟩⟩⟩⟩⟩⟩⟩⟩⟩⟩⟩⟩
abbrev c_M_giveBack : ByteArray := prog_10_method_48_code
def y_M_giveBack : MethodName := ⟨"BundleHallModel", "giveBack", "(II)I"⟩
theorem d_M_giveBack_0 : decode c_M_giveBack 0 = .ok (.aload_n 0, 1) := by decide +kernel
theorem d_M_giveBack_1 : decode c_M_giveBack 1 = .ok (.iconst 0, 1) := by decide +kernel
theorem d_M_giveBack_2 : decode c_M_giveBack 2 = .ok (.putfield 109, 3) := by decide +kernel
theorem d_M_giveBack_5 : decode c_M_giveBack 5 = .ok (.iload_n 1, 1) := by decide +kernel
theorem d_M_giveBack_6 : decode c_M_giveBack 6 = .ok (.invokestatic 126, 3) := by decide +kernel
theorem d_M_giveBack_9 : decode c_M_giveBack 9 = .ok (.ifCond .eq 7, 3) := by decide +kernel
theorem d_M_giveBack_12 : decode c_M_giveBack 12 = .ok (.iload_n 2, 1) := by decide +kernel
theorem d_M_giveBack_13 : decode c_M_giveBack 13 = .ok (.ifCond .ge 9, 3) := by decide +kernel
theorem d_M_giveBack_16 : decode c_M_giveBack 16 = .ok (.aload_n 0, 1) := by decide +kernel
theorem d_M_giveBack_17 : decode c_M_giveBack 17 = .ok (.iconst 1, 1) := by decide +kernel
theorem d_M_giveBack_18 : decode c_M_giveBack 18 = .ok (.invokevirtual 130, 3) := by decide +kernel
theorem d_M_giveBack_21 : decode c_M_giveBack 21 = .ok (.ireturn, 1) := by decide +kernel
theorem d_M_giveBack_22 : decode c_M_giveBack 22 = .ok (.aload_n 0, 1) := by decide +kernel
theorem d_M_giveBack_23 : decode c_M_giveBack 23 = .ok (.getfield 7, 3) := by decide +kernel
theorem d_M_giveBack_26 : decode c_M_giveBack 26 = .ok (.iload_n 1, 1) := by decide +kernel
theorem d_M_giveBack_27 : decode c_M_giveBack 27 = .ok (.iaload, 1) := by decide +kernel
theorem d_M_giveBack_28 : decode c_M_giveBack 28 = .ok (.ifCond .ne 9, 3) := by decide +kernel
theorem d_M_giveBack_31 : decode c_M_giveBack 31 = .ok (.aload_n 0, 1) := by decide +kernel
theorem d_M_giveBack_32 : decode c_M_giveBack 32 = .ok (.iconst 2, 1) := by decide +kernel
theorem d_M_giveBack_33 : decode c_M_giveBack 33 = .ok (.invokevirtual 130, 3) := by decide +kernel
theorem d_M_giveBack_36 : decode c_M_giveBack 36 = .ok (.ireturn, 1) := by decide +kernel
theorem d_M_giveBack_37 : decode c_M_giveBack 37 = .ok (.aload_n 0, 1) := by decide +kernel
theorem d_M_giveBack_38 : decode c_M_giveBack 38 = .ok (.iload_n 2, 1) := by decide +kernel
theorem d_M_giveBack_39 : decode c_M_giveBack 39 = .ok (.invokevirtual 255, 3) := by decide +kernel
theorem d_M_giveBack_42 : decode c_M_giveBack 42 = .ok (.istore_n 3, 1) := by decide +kernel
theorem d_M_giveBack_43 : decode c_M_giveBack 43 = .ok (.iload_n 3, 1) := by decide +kernel
theorem d_M_giveBack_44 : decode c_M_giveBack 44 = .ok (.ifCond .lt 17, 3) := by decide +kernel
theorem d_M_giveBack_47 : decode c_M_giveBack 47 = .ok (.aload_n 0, 1) := by decide +kernel
theorem d_M_giveBack_48 : decode c_M_giveBack 48 = .ok (.getfield 97, 3) := by decide +kernel
theorem d_M_giveBack_51 : decode c_M_giveBack 51 = .ok (.bipush 8, 2) := by decide +kernel
theorem d_M_giveBack_53 : decode c_M_giveBack 53 = .ok (.iload_n 3, 1) := by decide +kernel
theorem d_M_giveBack_54 : decode c_M_giveBack 54 = .ok (.imul, 1) := by decide +kernel
theorem d_M_giveBack_55 : decode c_M_giveBack 55 = .ok (.iload_n 1, 1) := by decide +kernel
theorem d_M_giveBack_56 : decode c_M_giveBack 56 = .ok (.iadd, 1) := by decide +kernel
theorem d_M_giveBack_57 : decode c_M_giveBack 57 = .ok (.iaload, 1) := by decide +kernel
theorem d_M_giveBack_58 : decode c_M_giveBack 58 = .ok (.ifCond .ne 9, 3) := by decide +kernel
theorem d_M_giveBack_61 : decode c_M_giveBack 61 = .ok (.aload_n 0, 1) := by decide +kernel
theorem d_M_giveBack_62 : decode c_M_giveBack 62 = .ok (.iconst 3, 1) := by decide +kernel
theorem d_M_giveBack_63 : decode c_M_giveBack 63 = .ok (.invokevirtual 130, 3) := by decide +kernel
theorem d_M_giveBack_66 : decode c_M_giveBack 66 = .ok (.ireturn, 1) := by decide +kernel
theorem d_M_giveBack_67 : decode c_M_giveBack 67 = .ok (.aload_n 0, 1) := by decide +kernel
theorem d_M_giveBack_68 : decode c_M_giveBack 68 = .ok (.getfield 97, 3) := by decide +kernel
theorem d_M_giveBack_71 : decode c_M_giveBack 71 = .ok (.bipush 8, 2) := by decide +kernel
theorem d_M_giveBack_73 : decode c_M_giveBack 73 = .ok (.iload_n 3, 1) := by decide +kernel
theorem d_M_giveBack_74 : decode c_M_giveBack 74 = .ok (.imul, 1) := by decide +kernel
theorem d_M_giveBack_75 : decode c_M_giveBack 75 = .ok (.iload_n 1, 1) := by decide +kernel
theorem d_M_giveBack_76 : decode c_M_giveBack 76 = .ok (.iadd, 1) := by decide +kernel
theorem d_M_giveBack_77 : decode c_M_giveBack 77 = .ok (.dup2, 1) := by decide +kernel
theorem d_M_giveBack_78 : decode c_M_giveBack 78 = .ok (.iaload, 1) := by decide +kernel
theorem d_M_giveBack_79 : decode c_M_giveBack 79 = .ok (.iconst 1, 1) := by decide +kernel
theorem d_M_giveBack_80 : decode c_M_giveBack 80 = .ok (.isub, 1) := by decide +kernel
theorem d_M_giveBack_81 : decode c_M_giveBack 81 = .ok (.iastore, 1) := by decide +kernel
theorem d_M_giveBack_82 : decode c_M_giveBack 82 = .ok (.aload_n 0, 1) := by decide +kernel
theorem d_M_giveBack_83 : decode c_M_giveBack 83 = .ok (.getfield 97, 3) := by decide +kernel
theorem d_M_giveBack_86 : decode c_M_giveBack 86 = .ok (.bipush 8, 2) := by decide +kernel
theorem d_M_giveBack_88 : decode c_M_giveBack 88 = .ok (.iload_n 3, 1) := by decide +kernel
theorem d_M_giveBack_89 : decode c_M_giveBack 89 = .ok (.imul, 1) := by decide +kernel
theorem d_M_giveBack_90 : decode c_M_giveBack 90 = .ok (.iload_n 1, 1) := by decide +kernel
theorem d_M_giveBack_91 : decode c_M_giveBack 91 = .ok (.iadd, 1) := by decide +kernel
theorem d_M_giveBack_92 : decode c_M_giveBack 92 = .ok (.iaload, 1) := by decide +kernel
theorem d_M_giveBack_93 : decode c_M_giveBack 93 = .ok (.ireturn, 1) := by decide +kernel
def T_M_giveBack_0 : List (Nat × bh_Op) := [(0, bo_ald 1 0),
  (1, bo_st 2 (bg_push (.inl (.int 0)))),
  (2, bo_pI 5 40 0),
  (5, bo_ild 6 1),
  (6, bo_callS 9 1 0 0 F_M_isBundle),
  (9, bo_if1 12 16 (fun x => x = 0)),
  (12, bo_ild 13 2),
  (13, bo_if1 16 22 (fun x => 0 ≤ x)),
  (16, bo_ald 17 0),
  (17, bo_st 18 (bg_push (.inl (.int 1)))),
  (18, bo_callV 21 2 0 0 40 F_M_raise),
  (21, bo_iret 0),
  (22, bo_ald 23 0),
  (23, bo_gR 26 40 1 41),
  (26, bo_ild 27 1),
  (27, bo_Iald bh_ak bh_al 28),
  (28, bo_if1 31 37 (fun x => ¬ x = 0)),
  (31, bo_ald 32 0),
  (32, bo_st 33 (bg_push (.inl (.int 2)))),
  (33, bo_callV 36 2 0 0 40 F_M_raise),
  (36, bo_iret 0),
  (37, bo_ald 38 0),
  (38, bo_ild 39 2),
  (39, bo_callV 42 2 0 0 40 F_M_placeOf),
  (42, bo_ist 43 3),
  (43, bo_ild 44 3),
  (44, bo_if1 47 61 (fun x => x < 0)),
  (47, bo_ald 48 0),
  (48, bo_gR 51 40 33 69),
  (51, bo_st 53 (bg_push (.inl (.int 8)))),
  (53, bo_ild 54 3),
  (54, bo_st 55 (bg_ii (fun x y => x * y))),
  (55, bo_ild 56 1),
  (56, bo_st 57 (bg_ii (fun x y => x + y))),
  (57, bo_Iald bh_ak bh_al 58),
  (58, bo_if1 61 67 (fun x => ¬ x = 0)),
  (61, bo_ald 62 0),
  (62, bo_st 63 (bg_push (.inl (.int 3)))),
  (63, bo_callV 66 2 0 0 40 F_M_raise),
  (66, bo_iret 0)]
def T_M_giveBack_1 : List (Nat × bh_Op) := [(67, bo_ald 68 0),
  (68, bo_gR 71 40 33 69),
  (71, bo_st 73 (bg_push (.inl (.int 8)))),
  (73, bo_ild 74 3),
  (74, bo_st 75 (bg_ii (fun x y => x * y))),
  (75, bo_ild 76 1),
  (76, bo_st 77 (bg_ii (fun x y => x + y))),
  (77, bo_st 78 bg_dup2),
  (78, bo_Iald bh_ak bh_al 79),
  (79, bo_st 80 (bg_push (.inl (.int 1)))),
  (80, bo_st 81 (bg_ii (fun x y => x - y))),
  (81, bo_Iast bh_ak bh_al 82),
  (82, bo_ald 83 0),
  (83, bo_gR 86 40 33 69),
  (86, bo_st 88 (bg_push (.inl (.int 8)))),
  (88, bo_ild 89 3),
  (89, bo_st 90 (bg_ii (fun x y => x * y))),
  (90, bo_ild 91 1),
  (91, bo_st 92 (bg_ii (fun x y => x + y))),
  (92, bo_Iald bh_ak bh_al 93),
  (93, bo_iret 0)]
def T_M_giveBack : List (Nat × bh_Op) := T_M_giveBack_0 ++ T_M_giveBack_1
set_option maxRecDepth 20000 in
theorem mT_M_giveBack_0 : ∀ q ∈ T_M_giveBack_0, bh_mono q.2 := List.forall_mem_cons.mpr ⟨bo_ald_m _ _, List.forall_mem_cons.mpr ⟨bo_st_mono (bg_push_m _), List.forall_mem_cons.mpr ⟨bo_pI_m _ _ _, List.forall_mem_cons.mpr ⟨bo_ild_m _ _, List.forall_mem_cons.mpr ⟨bo_callS_m (mF_M_isBundle) _ _ _ _, List.forall_mem_cons.mpr ⟨bo_if1_m _ _ _, List.forall_mem_cons.mpr ⟨bo_ild_m _ _, List.forall_mem_cons.mpr ⟨bo_if1_m _ _ _, List.forall_mem_cons.mpr ⟨bo_ald_m _ _, List.forall_mem_cons.mpr ⟨bo_st_mono (bg_push_m _), List.forall_mem_cons.mpr ⟨bo_callV_m (mF_M_raise) _ _ _ _ _, List.forall_mem_cons.mpr ⟨bo_iret_m _, List.forall_mem_cons.mpr ⟨bo_ald_m _ _, List.forall_mem_cons.mpr ⟨bo_gR_m _ _ _ _, List.forall_mem_cons.mpr ⟨bo_ild_m _ _, List.forall_mem_cons.mpr ⟨bo_Iald_m _ _ _, List.forall_mem_cons.mpr ⟨bo_if1_m _ _ _, List.forall_mem_cons.mpr ⟨bo_ald_m _ _, List.forall_mem_cons.mpr ⟨bo_st_mono (bg_push_m _), List.forall_mem_cons.mpr ⟨bo_callV_m (mF_M_raise) _ _ _ _ _, List.forall_mem_cons.mpr ⟨bo_iret_m _, List.forall_mem_cons.mpr ⟨bo_ald_m _ _, List.forall_mem_cons.mpr ⟨bo_ild_m _ _, List.forall_mem_cons.mpr ⟨bo_callV_m (mF_M_placeOf) _ _ _ _ _, List.forall_mem_cons.mpr ⟨bo_ist_m _ _, List.forall_mem_cons.mpr ⟨bo_ild_m _ _, List.forall_mem_cons.mpr ⟨bo_if1_m _ _ _, List.forall_mem_cons.mpr ⟨bo_ald_m _ _, List.forall_mem_cons.mpr ⟨bo_gR_m _ _ _ _, List.forall_mem_cons.mpr ⟨bo_st_mono (bg_push_m _), List.forall_mem_cons.mpr ⟨bo_ild_m _ _, List.forall_mem_cons.mpr ⟨bo_st_mono (bg_ii_m _), List.forall_mem_cons.mpr ⟨bo_ild_m _ _, List.forall_mem_cons.mpr ⟨bo_st_mono (bg_ii_m _), List.forall_mem_cons.mpr ⟨bo_Iald_m _ _ _, List.forall_mem_cons.mpr ⟨bo_if1_m _ _ _, List.forall_mem_cons.mpr ⟨bo_ald_m _ _, List.forall_mem_cons.mpr ⟨bo_st_mono (bg_push_m _), List.forall_mem_cons.mpr ⟨bo_callV_m (mF_M_raise) _ _ _ _ _, List.forall_mem_cons.mpr ⟨bo_iret_m _, fun _ h => absurd h List.not_mem_nil⟩⟩⟩⟩⟩⟩⟩⟩⟩⟩⟩⟩⟩⟩⟩⟩⟩⟩⟩⟩⟩⟩⟩⟩⟩⟩⟩⟩⟩⟩⟩⟩⟩⟩⟩⟩⟩⟩⟩⟩
set_option maxRecDepth 20000 in
theorem mT_M_giveBack_1 : ∀ q ∈ T_M_giveBack_1, bh_mono q.2 := List.forall_mem_cons.mpr ⟨bo_ald_m _ _, List.forall_mem_cons.mpr ⟨bo_gR_m _ _ _ _, List.forall_mem_cons.mpr ⟨bo_st_mono (bg_push_m _), List.forall_mem_cons.mpr ⟨bo_ild_m _ _, List.forall_mem_cons.mpr ⟨bo_st_mono (bg_ii_m _), List.forall_mem_cons.mpr ⟨bo_ild_m _ _, List.forall_mem_cons.mpr ⟨bo_st_mono (bg_ii_m _), List.forall_mem_cons.mpr ⟨bo_st_mono bg_dup2_m, List.forall_mem_cons.mpr ⟨bo_Iald_m _ _ _, List.forall_mem_cons.mpr ⟨bo_st_mono (bg_push_m _), List.forall_mem_cons.mpr ⟨bo_st_mono (bg_ii_m _), List.forall_mem_cons.mpr ⟨bo_Iast_m _ _ _, List.forall_mem_cons.mpr ⟨bo_ald_m _ _, List.forall_mem_cons.mpr ⟨bo_gR_m _ _ _ _, List.forall_mem_cons.mpr ⟨bo_st_mono (bg_push_m _), List.forall_mem_cons.mpr ⟨bo_ild_m _ _, List.forall_mem_cons.mpr ⟨bo_st_mono (bg_ii_m _), List.forall_mem_cons.mpr ⟨bo_ild_m _ _, List.forall_mem_cons.mpr ⟨bo_st_mono (bg_ii_m _), List.forall_mem_cons.mpr ⟨bo_Iald_m _ _ _, List.forall_mem_cons.mpr ⟨bo_iret_m _, fun _ h => absurd h List.not_mem_nil⟩⟩⟩⟩⟩⟩⟩⟩⟩⟩⟩⟩⟩⟩⟩⟩⟩⟩⟩⟩⟩
theorem m_M_giveBack : ∀ pc, bh_mono (bh_tb (T_M_giveBack) pc) := bh_tb_m (List.forall_mem_append.mpr ⟨mT_M_giveBack_0, mT_M_giveBack_1⟩)
def F_M_giveBack : bh_Fn := bh_fn 4 (bh_tb T_M_giveBack)
theorem mF_M_giveBack : bh_monoF F_M_giveBack := bh_fn_m m_M_giveBack
theorem cl_M_giveBack {s : State} {args : Array Value} (d B : Nat) (hts : ∀ w ∈ bh_ws, w.before args s = true) : bh_Cal (bh_rm (d + 1) B) s y_M_giveBack 4 (.code y_M_giveBack c_M_giveBack 4 (some .int) :: bh_ws) (bh_rm d 0) 0 2 := bh_cal d B hts wd_1092 wd_9 (by decide) (by decide +kernel)
set_option maxHeartbeats 4000000 in
set_option maxRecDepth 100000 in
theorem cn_M_giveBack {l : Launch} {G : bh_G} {base sb L : Nat} {xs : Nat → Int32} (htr : l.stackTraces = false) (d : Nat) : bh_Con l G base (bh_Bg G base sb L xs) y_M_giveBack (.code y_M_giveBack c_M_giveBack 4 (some .int) :: bh_ws) (bh_rm (d + 3) 0) 0 false F_M_giveBack := by
  refine bh_method (cc := c_M_giveBack) (ret := (some .int)) (by decide +kernel) rfl ?_
  intro p e s m args below meth c ad0 M0 Z X0 hr hlocks hname htab hbs hB
  obtain ⟨hx, hb, hml, hown, hts⟩ := id X0
  have hw : ∀ w ∈ bh_ws, w.before args s = true := fun w h => hts w (List.mem_cons_of_mem _ h)
  have hBg := bh_BgK (G := G) (base := base) (sb := sb) (L := L) (xs := xs)
  obtain ⟨hK, hAr, hen, hinj, hu1, hu2, hstr, hX, hsb, hsc, hxw, hao, hnc⟩ := id hB
  obtain ⟨ha1, ha2, ha3, ha4, ha5, ha6, ha0⟩ := bh_arr hAr
  refine List.forall_mem_append.mpr ⟨?_, List.forall_mem_cons.mpr ⟨fun S h => bs_aload_n (Z := Z) hx hb rfl d_M_giveBack_67 h, List.forall_mem_cons.mpr ⟨fun S h => bs_gR (Z := Z) (C := R_M) (T := F_M) (N := 40) (t := 40) (j := 33) hx hb hK hts (fun w h => List.mem_cons_of_mem _ (iw_M w h)) hown rfl rfl (by decide) (hts _ (List.mem_cons_of_mem _ wd_817)) (fun _ h => h) rfl rfl rfl d_M_giveBack_68 h, List.forall_mem_cons.mpr ⟨fun S h => bs_bipush (Z := Z) hx hb (by decide) d_M_giveBack_71 h, List.forall_mem_cons.mpr ⟨fun S h => bs_iload_n (Z := Z) hx hb rfl d_M_giveBack_73 h, List.forall_mem_cons.mpr ⟨fun S h => bs_imul (Z := Z) hx hb d_M_giveBack_74 h, List.forall_mem_cons.mpr ⟨fun S h => bs_iload_n (Z := Z) hx hb rfl d_M_giveBack_75 h, List.forall_mem_cons.mpr ⟨fun S h => bs_iadd (Z := Z) hx hb d_M_giveBack_76 h, List.forall_mem_cons.mpr ⟨fun S h => bs_dup2 (Z := Z) hx hb d_M_giveBack_77 h, List.forall_mem_cons.mpr ⟨fun S h => bs_Iald (Z := Z) hx hb ha1 d_M_giveBack_78 h, List.forall_mem_cons.mpr ⟨fun S h => bs_iconst (Z := Z) hx hb (by decide) d_M_giveBack_79 h, List.forall_mem_cons.mpr ⟨fun S h => bs_isub (Z := Z) hx hb d_M_giveBack_80 h, List.forall_mem_cons.mpr ⟨fun S h => bs_Iast (Z := Z) hx hb ha1 d_M_giveBack_81 h, List.forall_mem_cons.mpr ⟨fun S h => bs_aload_n (Z := Z) hx hb rfl d_M_giveBack_82 h, List.forall_mem_cons.mpr ⟨fun S h => bs_gR (Z := Z) (C := R_M) (T := F_M) (N := 40) (t := 40) (j := 33) hx hb hK hts (fun w h => List.mem_cons_of_mem _ (iw_M w h)) hown rfl rfl (by decide) (hts _ (List.mem_cons_of_mem _ wd_817)) (fun _ h => h) rfl rfl rfl d_M_giveBack_83 h, List.forall_mem_cons.mpr ⟨fun S h => bs_bipush (Z := Z) hx hb (by decide) d_M_giveBack_86 h, List.forall_mem_cons.mpr ⟨fun S h => bs_iload_n (Z := Z) hx hb rfl d_M_giveBack_88 h, List.forall_mem_cons.mpr ⟨fun S h => bs_imul (Z := Z) hx hb d_M_giveBack_89 h, List.forall_mem_cons.mpr ⟨fun S h => bs_iload_n (Z := Z) hx hb rfl d_M_giveBack_90 h, List.forall_mem_cons.mpr ⟨fun S h => bs_iadd (Z := Z) hx hb d_M_giveBack_91 h, List.forall_mem_cons.mpr ⟨fun S h => bs_Iald (Z := Z) hx hb ha1 d_M_giveBack_92 h, List.forall_mem_cons.mpr ⟨fun S h => bs_iret (Z := Z) hx hb hr hlocks d_M_giveBack_93 h, fun _ h => absurd h List.not_mem_nil⟩⟩⟩⟩⟩⟩⟩⟩⟩⟩⟩⟩⟩⟩⟩⟩⟩⟩⟩⟩⟩⟩
  exact List.forall_mem_cons.mpr ⟨fun S h => bs_aload_n (Z := Z) hx hb rfl d_M_giveBack_0 h, List.forall_mem_cons.mpr ⟨fun S h => bs_iconst (Z := Z) hx hb (by decide) d_M_giveBack_1 h, List.forall_mem_cons.mpr ⟨fun S h => bs_pI (Z := Z) (C := R_M) (T := F_M) (N := 40) (t := 40) (j := 0) hx hb hK hts (fun w h => List.mem_cons_of_mem _ (iw_M w h)) hown rfl rfl (by decide) (hts _ (List.mem_cons_of_mem _ wd_784)) (fun _ h => h) rfl rfl t_M t_M_ok n_M rfl (by decide +kernel) rfl d_M_giveBack_2 h, List.forall_mem_cons.mpr ⟨fun S h => bs_iload_n (Z := Z) hx hb rfl d_M_giveBack_5 h, List.forall_mem_cons.mpr ⟨fun S h => bs_callS (Z := Z) hBg hbs hB X0 (cn_M_isBundle htr (d + 0)) (cl_M_isBundle _ _ hw) (hts _ (List.mem_cons_of_mem _ wd_915)) (hts _ (List.mem_cons_of_mem _ wd_916)) (Nat.le_refl _) (Nat.le_refl _) d_M_giveBack_6 (bs_out htab hlocks) h, List.forall_mem_cons.mpr ⟨fun S h => bs_if_eq (Z := Z) hx hb d_M_giveBack_9 (by decide) h, List.forall_mem_cons.mpr ⟨fun S h => bs_iload_n (Z := Z) hx hb rfl d_M_giveBack_12 h, List.forall_mem_cons.mpr ⟨fun S h => bs_if_ge (Z := Z) hx hb d_M_giveBack_13 (by decide) h, List.forall_mem_cons.mpr ⟨fun S h => bs_aload_n (Z := Z) hx hb rfl d_M_giveBack_16 h, List.forall_mem_cons.mpr ⟨fun S h => bs_iconst (Z := Z) hx hb (by decide) d_M_giveBack_17 h, List.forall_mem_cons.mpr ⟨fun S h => bs_callV (Z := Z) (C := R_M) hBg hbs hB X0 hK (cn_M_raise htr (d + 1)) (cl_M_raise _ _ hw) (hts _ (List.mem_cons_of_mem _ wd_921)) (hts _ (List.mem_cons_of_mem _ wd_923)) (hts _ (List.mem_cons_of_mem _ ws_25)) rfl rfl rfl rfl rfl (Nat.le_refl _) (Nat.le_refl _) d_M_giveBack_18 (bs_out htab hlocks) h, List.forall_mem_cons.mpr ⟨fun S h => bs_iret (Z := Z) hx hb hr hlocks d_M_giveBack_21 h, List.forall_mem_cons.mpr ⟨fun S h => bs_aload_n (Z := Z) hx hb rfl d_M_giveBack_22 h, List.forall_mem_cons.mpr ⟨fun S h => bs_gR (Z := Z) (C := R_M) (T := F_M) (N := 40) (t := 40) (j := 1) hx hb hK hts (fun w h => List.mem_cons_of_mem _ (iw_M w h)) hown rfl rfl (by decide) (hts _ (List.mem_cons_of_mem _ wd_785)) (fun _ h => h) rfl rfl rfl d_M_giveBack_23 h, List.forall_mem_cons.mpr ⟨fun S h => bs_iload_n (Z := Z) hx hb rfl d_M_giveBack_26 h, List.forall_mem_cons.mpr ⟨fun S h => bs_Iald (Z := Z) hx hb ha1 d_M_giveBack_27 h, List.forall_mem_cons.mpr ⟨fun S h => bs_if_ne (Z := Z) hx hb d_M_giveBack_28 (by decide) h, List.forall_mem_cons.mpr ⟨fun S h => bs_aload_n (Z := Z) hx hb rfl d_M_giveBack_31 h, List.forall_mem_cons.mpr ⟨fun S h => bs_iconst (Z := Z) hx hb (by decide) d_M_giveBack_32 h, List.forall_mem_cons.mpr ⟨fun S h => bs_callV (Z := Z) (C := R_M) hBg hbs hB X0 hK (cn_M_raise htr (d + 1)) (cl_M_raise _ _ hw) (hts _ (List.mem_cons_of_mem _ wd_921)) (hts _ (List.mem_cons_of_mem _ wd_923)) (hts _ (List.mem_cons_of_mem _ ws_25)) rfl rfl rfl rfl rfl (Nat.le_refl _) (Nat.le_refl _) d_M_giveBack_33 (bs_out htab hlocks) h, List.forall_mem_cons.mpr ⟨fun S h => bs_iret (Z := Z) hx hb hr hlocks d_M_giveBack_36 h, List.forall_mem_cons.mpr ⟨fun S h => bs_aload_n (Z := Z) hx hb rfl d_M_giveBack_37 h, List.forall_mem_cons.mpr ⟨fun S h => bs_iload_n (Z := Z) hx hb rfl d_M_giveBack_38 h, List.forall_mem_cons.mpr ⟨fun S h => bs_callV (Z := Z) (C := R_M) hBg hbs hB X0 hK (cn_M_placeOf htr (d + 1)) (cl_M_placeOf _ _ hw) (hts _ (List.mem_cons_of_mem _ wd_1093)) (hts _ (List.mem_cons_of_mem _ wd_1095)) (hts _ (List.mem_cons_of_mem _ ws_55)) rfl rfl rfl rfl rfl (Nat.le_refl _) (Nat.le_refl _) d_M_giveBack_39 (bs_out htab hlocks) h, List.forall_mem_cons.mpr ⟨fun S h => bs_istore_n (Z := Z) hx hb rfl d_M_giveBack_42 h, List.forall_mem_cons.mpr ⟨fun S h => bs_iload_n (Z := Z) hx hb rfl d_M_giveBack_43 h, List.forall_mem_cons.mpr ⟨fun S h => bs_if_lt (Z := Z) hx hb d_M_giveBack_44 (by decide) h, List.forall_mem_cons.mpr ⟨fun S h => bs_aload_n (Z := Z) hx hb rfl d_M_giveBack_47 h, List.forall_mem_cons.mpr ⟨fun S h => bs_gR (Z := Z) (C := R_M) (T := F_M) (N := 40) (t := 40) (j := 33) hx hb hK hts (fun w h => List.mem_cons_of_mem _ (iw_M w h)) hown rfl rfl (by decide) (hts _ (List.mem_cons_of_mem _ wd_817)) (fun _ h => h) rfl rfl rfl d_M_giveBack_48 h, List.forall_mem_cons.mpr ⟨fun S h => bs_bipush (Z := Z) hx hb (by decide) d_M_giveBack_51 h, List.forall_mem_cons.mpr ⟨fun S h => bs_iload_n (Z := Z) hx hb rfl d_M_giveBack_53 h, List.forall_mem_cons.mpr ⟨fun S h => bs_imul (Z := Z) hx hb d_M_giveBack_54 h, List.forall_mem_cons.mpr ⟨fun S h => bs_iload_n (Z := Z) hx hb rfl d_M_giveBack_55 h, List.forall_mem_cons.mpr ⟨fun S h => bs_iadd (Z := Z) hx hb d_M_giveBack_56 h, List.forall_mem_cons.mpr ⟨fun S h => bs_Iald (Z := Z) hx hb ha1 d_M_giveBack_57 h, List.forall_mem_cons.mpr ⟨fun S h => bs_if_ne (Z := Z) hx hb d_M_giveBack_58 (by decide) h, List.forall_mem_cons.mpr ⟨fun S h => bs_aload_n (Z := Z) hx hb rfl d_M_giveBack_61 h, List.forall_mem_cons.mpr ⟨fun S h => bs_iconst (Z := Z) hx hb (by decide) d_M_giveBack_62 h, List.forall_mem_cons.mpr ⟨fun S h => bs_callV (Z := Z) (C := R_M) hBg hbs hB X0 hK (cn_M_raise htr (d + 1)) (cl_M_raise _ _ hw) (hts _ (List.mem_cons_of_mem _ wd_921)) (hts _ (List.mem_cons_of_mem _ wd_923)) (hts _ (List.mem_cons_of_mem _ ws_25)) rfl rfl rfl rfl rfl (Nat.le_refl _) (Nat.le_refl _) d_M_giveBack_63 (bs_out htab hlocks) h, List.forall_mem_cons.mpr ⟨fun S h => bs_iret (Z := Z) hx hb hr hlocks d_M_giveBack_66 h, fun _ h => absurd h List.not_mem_nil⟩⟩⟩⟩⟩⟩⟩⟩⟩⟩⟩⟩⟩⟩⟩⟩⟩⟩⟩⟩⟩⟩⟩⟩⟩⟩⟩⟩⟩⟩⟩⟩⟩⟩⟩⟩⟩⟩⟩⟩
abbrev c_M_unregister : ByteArray := prog_10_method_49_code
def y_M_unregister : MethodName := ⟨"BundleHallModel", "unregister", "(II)I"⟩
theorem d_M_unregister_0 : decode c_M_unregister 0 = .ok (.aload_n 0, 1) := by decide +kernel
theorem d_M_unregister_1 : decode c_M_unregister 1 = .ok (.iconst 0, 1) := by decide +kernel
theorem d_M_unregister_2 : decode c_M_unregister 2 = .ok (.putfield 109, 3) := by decide +kernel
theorem d_M_unregister_5 : decode c_M_unregister 5 = .ok (.iload_n 1, 1) := by decide +kernel
theorem d_M_unregister_6 : decode c_M_unregister 6 = .ok (.invokestatic 126, 3) := by decide +kernel
theorem d_M_unregister_9 : decode c_M_unregister 9 = .ok (.ifCond .eq 7, 3) := by decide +kernel
theorem d_M_unregister_12 : decode c_M_unregister 12 = .ok (.iload_n 2, 1) := by decide +kernel
theorem d_M_unregister_13 : decode c_M_unregister 13 = .ok (.ifCond .ge 9, 3) := by decide +kernel
theorem d_M_unregister_16 : decode c_M_unregister 16 = .ok (.aload_n 0, 1) := by decide +kernel
theorem d_M_unregister_17 : decode c_M_unregister 17 = .ok (.iconst 1, 1) := by decide +kernel
theorem d_M_unregister_18 : decode c_M_unregister 18 = .ok (.invokevirtual 130, 3) := by decide +kernel
theorem d_M_unregister_21 : decode c_M_unregister 21 = .ok (.ireturn, 1) := by decide +kernel
theorem d_M_unregister_22 : decode c_M_unregister 22 = .ok (.aload_n 0, 1) := by decide +kernel
theorem d_M_unregister_23 : decode c_M_unregister 23 = .ok (.getfield 7, 3) := by decide +kernel
theorem d_M_unregister_26 : decode c_M_unregister 26 = .ok (.iload_n 1, 1) := by decide +kernel
theorem d_M_unregister_27 : decode c_M_unregister 27 = .ok (.iaload, 1) := by decide +kernel
theorem d_M_unregister_28 : decode c_M_unregister 28 = .ok (.ifCond .ne 9, 3) := by decide +kernel
theorem d_M_unregister_31 : decode c_M_unregister 31 = .ok (.aload_n 0, 1) := by decide +kernel
theorem d_M_unregister_32 : decode c_M_unregister 32 = .ok (.iconst 2, 1) := by decide +kernel
theorem d_M_unregister_33 : decode c_M_unregister 33 = .ok (.invokevirtual 130, 3) := by decide +kernel
theorem d_M_unregister_36 : decode c_M_unregister 36 = .ok (.ireturn, 1) := by decide +kernel
theorem d_M_unregister_37 : decode c_M_unregister 37 = .ok (.aload_n 0, 1) := by decide +kernel
theorem d_M_unregister_38 : decode c_M_unregister 38 = .ok (.iload_n 2, 1) := by decide +kernel
theorem d_M_unregister_39 : decode c_M_unregister 39 = .ok (.invokevirtual 255, 3) := by decide +kernel
theorem d_M_unregister_42 : decode c_M_unregister 42 = .ok (.istore_n 3, 1) := by decide +kernel
theorem d_M_unregister_43 : decode c_M_unregister 43 = .ok (.iload_n 3, 1) := by decide +kernel
theorem d_M_unregister_44 : decode c_M_unregister 44 = .ok (.ifCond .lt 13, 3) := by decide +kernel
theorem d_M_unregister_47 : decode c_M_unregister 47 = .ok (.aload_n 0, 1) := by decide +kernel
theorem d_M_unregister_48 : decode c_M_unregister 48 = .ok (.getfield 87, 3) := by decide +kernel
theorem d_M_unregister_51 : decode c_M_unregister 51 = .ok (.iload_n 3, 1) := by decide +kernel
theorem d_M_unregister_52 : decode c_M_unregister 52 = .ok (.iaload, 1) := by decide +kernel
theorem d_M_unregister_53 : decode c_M_unregister 53 = .ok (.iload_n 1, 1) := by decide +kernel
theorem d_M_unregister_54 : decode c_M_unregister 54 = .ok (.if_icmp .eq 9, 3) := by decide +kernel
theorem d_M_unregister_57 : decode c_M_unregister 57 = .ok (.aload_n 0, 1) := by decide +kernel
theorem d_M_unregister_58 : decode c_M_unregister 58 = .ok (.iconst 3, 1) := by decide +kernel
theorem d_M_unregister_59 : decode c_M_unregister 59 = .ok (.invokevirtual 130, 3) := by decide +kernel
theorem d_M_unregister_62 : decode c_M_unregister 62 = .ok (.ireturn, 1) := by decide +kernel
theorem d_M_unregister_63 : decode c_M_unregister 63 = .ok (.iconst 0, 1) := by decide +kernel
theorem d_M_unregister_64 : decode c_M_unregister 64 = .ok (.istore 4, 2) := by decide +kernel
theorem d_M_unregister_66 : decode c_M_unregister 66 = .ok (.iconst 0, 1) := by decide +kernel
theorem d_M_unregister_67 : decode c_M_unregister 67 = .ok (.istore 5, 2) := by decide +kernel
theorem d_M_unregister_69 : decode c_M_unregister 69 = .ok (.iload 5, 2) := by decide +kernel
theorem d_M_unregister_71 : decode c_M_unregister 71 = .ok (.bipush 8, 2) := by decide +kernel
theorem d_M_unregister_73 : decode c_M_unregister 73 = .ok (.if_icmp .ge 26, 3) := by decide +kernel
theorem d_M_unregister_76 : decode c_M_unregister 76 = .ok (.iload 4, 2) := by decide +kernel
theorem d_M_unregister_78 : decode c_M_unregister 78 = .ok (.aload_n 0, 1) := by decide +kernel
theorem d_M_unregister_79 : decode c_M_unregister 79 = .ok (.getfield 97, 3) := by decide +kernel
theorem d_M_unregister_82 : decode c_M_unregister 82 = .ok (.bipush 8, 2) := by decide +kernel
theorem d_M_unregister_84 : decode c_M_unregister 84 = .ok (.iload_n 3, 1) := by decide +kernel
theorem d_M_unregister_85 : decode c_M_unregister 85 = .ok (.imul, 1) := by decide +kernel
theorem d_M_unregister_86 : decode c_M_unregister 86 = .ok (.iload 5, 2) := by decide +kernel
theorem d_M_unregister_88 : decode c_M_unregister 88 = .ok (.iadd, 1) := by decide +kernel
theorem d_M_unregister_89 : decode c_M_unregister 89 = .ok (.iaload, 1) := by decide +kernel
theorem d_M_unregister_90 : decode c_M_unregister 90 = .ok (.iadd, 1) := by decide +kernel
theorem d_M_unregister_91 : decode c_M_unregister 91 = .ok (.istore 4, 2) := by decide +kernel
theorem d_M_unregister_93 : decode c_M_unregister 93 = .ok (.iinc 5 1, 3) := by decide +kernel
theorem d_M_unregister_96 : decode c_M_unregister 96 = .ok (.goto (-27), 3) := by decide +kernel
theorem d_M_unregister_99 : decode c_M_unregister 99 = .ok (.aload_n 0, 1) := by decide +kernel
theorem d_M_unregister_100 : decode c_M_unregister 100 = .ok (.iload_n 3, 1) := by decide +kernel
theorem d_M_unregister_101 : decode c_M_unregister 101 = .ok (.invokevirtual 229, 3) := by decide +kernel
theorem d_M_unregister_104 : decode c_M_unregister 104 = .ok (.iload 4, 2) := by decide +kernel
theorem d_M_unregister_106 : decode c_M_unregister 106 = .ok (.ireturn, 1) := by decide +kernel
def T_M_unregister_0 : List (Nat × bh_Op) := [(0, bo_ald 1 0),
  (1, bo_st 2 (bg_push (.inl (.int 0)))),
  (2, bo_pI 5 40 0),
  (5, bo_ild 6 1),
  (6, bo_callS 9 1 0 0 F_M_isBundle),
  (9, bo_if1 12 16 (fun x => x = 0)),
  (12, bo_ild 13 2),
  (13, bo_if1 16 22 (fun x => 0 ≤ x)),
  (16, bo_ald 17 0),
  (17, bo_st 18 (bg_push (.inl (.int 1)))),
  (18, bo_callV 21 2 0 0 40 F_M_raise),
  (21, bo_iret 0),
  (22, bo_ald 23 0),
  (23, bo_gR 26 40 1 41),
  (26, bo_ild 27 1),
  (27, bo_Iald bh_ak bh_al 28),
  (28, bo_if1 31 37 (fun x => ¬ x = 0)),
  (31, bo_ald 32 0),
  (32, bo_st 33 (bg_push (.inl (.int 2)))),
  (33, bo_callV 36 2 0 0 40 F_M_raise),
  (36, bo_iret 0),
  (37, bo_ald 38 0),
  (38, bo_ild 39 2),
  (39, bo_callV 42 2 0 0 40 F_M_placeOf),
  (42, bo_ist 43 3),
  (43, bo_ild 44 3),
  (44, bo_if1 47 57 (fun x => x < 0)),
  (47, bo_ald 48 0),
  (48, bo_gR 51 40 30 66),
  (51, bo_ild 52 3),
  (52, bo_Iald bh_ak bh_al 53),
  (53, bo_ild 54 1),
  (54, bo_if2 57 63 (fun x y => x = y)),
  (57, bo_ald 58 0),
  (58, bo_st 59 (bg_push (.inl (.int 3)))),
  (59, bo_callV 62 2 0 0 40 F_M_raise),
  (62, bo_iret 0),
  (63, bo_st 64 (bg_push (.inl (.int 0)))),
  (64, bo_ist 66 4),
  (66, bo_st 67 (bg_push (.inl (.int 0))))]
def T_M_unregister_1 : List (Nat × bh_Op) := [(67, bo_ist 69 5),
  (69, bo_ild 71 5),
  (71, bo_st 73 (bg_push (.inl (.int 8)))),
  (73, bo_if2 76 99 (fun x y => y ≤ x)),
  (76, bo_ild 78 4),
  (78, bo_ald 79 0),
  (79, bo_gR 82 40 33 69),
  (82, bo_st 84 (bg_push (.inl (.int 8)))),
  (84, bo_ild 85 3),
  (85, bo_st 86 (bg_ii (fun x y => x * y))),
  (86, bo_ild 88 5),
  (88, bo_st 89 (bg_ii (fun x y => x + y))),
  (89, bo_Iald bh_ak bh_al 90),
  (90, bo_st 91 (bg_ii (fun x y => x + y))),
  (91, bo_ist 93 4),
  (93, bo_inc 96 5 1),
  (96, bo_go 69),
  (99, bo_ald 100 0),
  (100, bo_ild 101 3),
  (101, bo_callV 104 2 0 0 40 F_M_drop),
  (104, bo_ild 106 4),
  (106, bo_iret 0)]
def T_M_unregister : List (Nat × bh_Op) := T_M_unregister_0 ++ T_M_unregister_1
set_option maxRecDepth 20000 in
theorem mT_M_unregister_0 : ∀ q ∈ T_M_unregister_0, bh_mono q.2 := List.forall_mem_cons.mpr ⟨bo_ald_m _ _, List.forall_mem_cons.mpr ⟨bo_st_mono (bg_push_m _), List.forall_mem_cons.mpr ⟨bo_pI_m _ _ _, List.forall_mem_cons.mpr ⟨bo_ild_m _ _, List.forall_mem_cons.mpr ⟨bo_callS_m (mF_M_isBundle) _ _ _ _, List.forall_mem_cons.mpr ⟨bo_if1_m _ _ _, List.forall_mem_cons.mpr ⟨bo_ild_m _ _, List.forall_mem_cons.mpr ⟨bo_if1_m _ _ _, List.forall_mem_cons.mpr ⟨bo_ald_m _ _, List.forall_mem_cons.mpr ⟨bo_st_mono (bg_push_m _), List.forall_mem_cons.mpr ⟨bo_callV_m (mF_M_raise) _ _ _ _ _, List.forall_mem_cons.mpr ⟨bo_iret_m _, List.forall_mem_cons.mpr ⟨bo_ald_m _ _, List.forall_mem_cons.mpr ⟨bo_gR_m _ _ _ _, List.forall_mem_cons.mpr ⟨bo_ild_m _ _, List.forall_mem_cons.mpr ⟨bo_Iald_m _ _ _, List.forall_mem_cons.mpr ⟨bo_if1_m _ _ _, List.forall_mem_cons.mpr ⟨bo_ald_m _ _, List.forall_mem_cons.mpr ⟨bo_st_mono (bg_push_m _), List.forall_mem_cons.mpr ⟨bo_callV_m (mF_M_raise) _ _ _ _ _, List.forall_mem_cons.mpr ⟨bo_iret_m _, List.forall_mem_cons.mpr ⟨bo_ald_m _ _, List.forall_mem_cons.mpr ⟨bo_ild_m _ _, List.forall_mem_cons.mpr ⟨bo_callV_m (mF_M_placeOf) _ _ _ _ _, List.forall_mem_cons.mpr ⟨bo_ist_m _ _, List.forall_mem_cons.mpr ⟨bo_ild_m _ _, List.forall_mem_cons.mpr ⟨bo_if1_m _ _ _, List.forall_mem_cons.mpr ⟨bo_ald_m _ _, List.forall_mem_cons.mpr ⟨bo_gR_m _ _ _ _, List.forall_mem_cons.mpr ⟨bo_ild_m _ _, List.forall_mem_cons.mpr ⟨bo_Iald_m _ _ _, List.forall_mem_cons.mpr ⟨bo_ild_m _ _, List.forall_mem_cons.mpr ⟨bo_if2_m _ _ _, List.forall_mem_cons.mpr ⟨bo_ald_m _ _, List.forall_mem_cons.mpr ⟨bo_st_mono (bg_push_m _), List.forall_mem_cons.mpr ⟨bo_callV_m (mF_M_raise) _ _ _ _ _, List.forall_mem_cons.mpr ⟨bo_iret_m _, List.forall_mem_cons.mpr ⟨bo_st_mono (bg_push_m _), List.forall_mem_cons.mpr ⟨bo_ist_m _ _, List.forall_mem_cons.mpr ⟨bo_st_mono (bg_push_m _), fun _ h => absurd h List.not_mem_nil⟩⟩⟩⟩⟩⟩⟩⟩⟩⟩⟩⟩⟩⟩⟩⟩⟩⟩⟩⟩⟩⟩⟩⟩⟩⟩⟩⟩⟩⟩⟩⟩⟩⟩⟩⟩⟩⟩⟩⟩
set_option maxRecDepth 20000 in
theorem mT_M_unregister_1 : ∀ q ∈ T_M_unregister_1, bh_mono q.2 := List.forall_mem_cons.mpr ⟨bo_ist_m _ _, List.forall_mem_cons.mpr ⟨bo_ild_m _ _, List.forall_mem_cons.mpr ⟨bo_st_mono (bg_push_m _), List.forall_mem_cons.mpr ⟨bo_if2_m _ _ _, List.forall_mem_cons.mpr ⟨bo_ild_m _ _, List.forall_mem_cons.mpr ⟨bo_ald_m _ _, List.forall_mem_cons.mpr ⟨bo_gR_m _ _ _ _, List.forall_mem_cons.mpr ⟨bo_st_mono (bg_push_m _), List.forall_mem_cons.mpr ⟨bo_ild_m _ _, List.forall_mem_cons.mpr ⟨bo_st_mono (bg_ii_m _), List.forall_mem_cons.mpr ⟨bo_ild_m _ _, List.forall_mem_cons.mpr ⟨bo_st_mono (bg_ii_m _), List.forall_mem_cons.mpr ⟨bo_Iald_m _ _ _, List.forall_mem_cons.mpr ⟨bo_st_mono (bg_ii_m _), List.forall_mem_cons.mpr ⟨bo_ist_m _ _, List.forall_mem_cons.mpr ⟨bo_inc_m _ _ _, List.forall_mem_cons.mpr ⟨bo_go_m _, List.forall_mem_cons.mpr ⟨bo_ald_m _ _, List.forall_mem_cons.mpr ⟨bo_ild_m _ _, List.forall_mem_cons.mpr ⟨bo_callV_m (mF_M_drop) _ _ _ _ _, List.forall_mem_cons.mpr ⟨bo_ild_m _ _, List.forall_mem_cons.mpr ⟨bo_iret_m _, fun _ h => absurd h List.not_mem_nil⟩⟩⟩⟩⟩⟩⟩⟩⟩⟩⟩⟩⟩⟩⟩⟩⟩⟩⟩⟩⟩⟩
theorem m_M_unregister : ∀ pc, bh_mono (bh_tb (T_M_unregister) pc) := bh_tb_m (List.forall_mem_append.mpr ⟨mT_M_unregister_0, mT_M_unregister_1⟩)
def F_M_unregister : bh_Fn := bh_fn 6 (bh_tb T_M_unregister)
theorem mF_M_unregister : bh_monoF F_M_unregister := bh_fn_m m_M_unregister
theorem cl_M_unregister {s : State} {args : Array Value} (d B : Nat) (hts : ∀ w ∈ bh_ws, w.before args s = true) : bh_Cal (bh_rm (d + 1) B) s y_M_unregister 6 (.code y_M_unregister c_M_unregister 6 (some .int) :: bh_ws) (bh_rm d 0) 0 2 := bh_cal d B hts wd_1100 wd_9 (by decide) (by decide +kernel)
set_option maxHeartbeats 4000000 in
set_option maxRecDepth 100000 in
theorem cn_M_unregister {l : Launch} {G : bh_G} {base sb L : Nat} {xs : Nat → Int32} (htr : l.stackTraces = false) (d : Nat) : bh_Con l G base (bh_Bg G base sb L xs) y_M_unregister (.code y_M_unregister c_M_unregister 6 (some .int) :: bh_ws) (bh_rm (d + 3) 0) 0 false F_M_unregister := by
  refine bh_method (cc := c_M_unregister) (ret := (some .int)) (by decide +kernel) rfl ?_
  intro p e s m args below meth c ad0 M0 Z X0 hr hlocks hname htab hbs hB
  obtain ⟨hx, hb, hml, hown, hts⟩ := id X0
  have hw : ∀ w ∈ bh_ws, w.before args s = true := fun w h => hts w (List.mem_cons_of_mem _ h)
  have hBg := bh_BgK (G := G) (base := base) (sb := sb) (L := L) (xs := xs)
  obtain ⟨hK, hAr, hen, hinj, hu1, hu2, hstr, hX, hsb, hsc, hxw, hao, hnc⟩ := id hB
  obtain ⟨ha1, ha2, ha3, ha4, ha5, ha6, ha0⟩ := bh_arr hAr
  refine List.forall_mem_append.mpr ⟨?_, List.forall_mem_cons.mpr ⟨fun S h => bs_istore (Z := Z) hx hb d_M_unregister_67 h, List.forall_mem_cons.mpr ⟨fun S h => bs_iload (Z := Z) hx hb d_M_unregister_69 h, List.forall_mem_cons.mpr ⟨fun S h => bs_bipush (Z := Z) hx hb (by decide) d_M_unregister_71 h, List.forall_mem_cons.mpr ⟨fun S h => bs_icmp_ge (Z := Z) hx hb d_M_unregister_73 (by decide) h, List.forall_mem_cons.mpr ⟨fun S h => bs_iload (Z := Z) hx hb d_M_unregister_76 h, List.forall_mem_cons.mpr ⟨fun S h => bs_aload_n (Z := Z) hx hb rfl d_M_unregister_78 h, List.forall_mem_cons.mpr ⟨fun S h => bs_gR (Z := Z) (C := R_M) (T := F_M) (N := 40) (t := 40) (j := 33) hx hb hK hts (fun w h => List.mem_cons_of_mem _ (iw_M w h)) hown rfl rfl (by decide) (hts _ (List.mem_cons_of_mem _ wd_817)) (fun _ h => h) rfl rfl rfl d_M_unregister_79 h, List.forall_mem_cons.mpr ⟨fun S h => bs_bipush (Z := Z) hx hb (by decide) d_M_unregister_82 h, List.forall_mem_cons.mpr ⟨fun S h => bs_iload_n (Z := Z) hx hb rfl d_M_unregister_84 h, List.forall_mem_cons.mpr ⟨fun S h => bs_imul (Z := Z) hx hb d_M_unregister_85 h, List.forall_mem_cons.mpr ⟨fun S h => bs_iload (Z := Z) hx hb d_M_unregister_86 h, List.forall_mem_cons.mpr ⟨fun S h => bs_iadd (Z := Z) hx hb d_M_unregister_88 h, List.forall_mem_cons.mpr ⟨fun S h => bs_Iald (Z := Z) hx hb ha1 d_M_unregister_89 h, List.forall_mem_cons.mpr ⟨fun S h => bs_iadd (Z := Z) hx hb d_M_unregister_90 h, List.forall_mem_cons.mpr ⟨fun S h => bs_istore (Z := Z) hx hb d_M_unregister_91 h, List.forall_mem_cons.mpr ⟨fun S h => bs_iinc (Z := Z) hx hb (by decide) d_M_unregister_93 h, List.forall_mem_cons.mpr ⟨fun S h => bs_goto (Z := Z) hx hb d_M_unregister_96 (by decide) h, List.forall_mem_cons.mpr ⟨fun S h => bs_aload_n (Z := Z) hx hb rfl d_M_unregister_99 h, List.forall_mem_cons.mpr ⟨fun S h => bs_iload_n (Z := Z) hx hb rfl d_M_unregister_100 h, List.forall_mem_cons.mpr ⟨fun S h => bs_callV (Z := Z) (C := R_M) hBg hbs hB X0 hK (cn_M_drop htr (d + 0)) (cl_M_drop _ _ hw) (hts _ (List.mem_cons_of_mem _ wd_1046)) (hts _ (List.mem_cons_of_mem _ wd_1048)) (hts _ (List.mem_cons_of_mem _ ws_51)) rfl rfl rfl rfl rfl (Nat.le_refl _) (Nat.le_refl _) d_M_unregister_101 (bs_out htab hlocks) h, List.forall_mem_cons.mpr ⟨fun S h => bs_iload (Z := Z) hx hb d_M_unregister_104 h, List.forall_mem_cons.mpr ⟨fun S h => bs_iret (Z := Z) hx hb hr hlocks d_M_unregister_106 h, fun _ h => absurd h List.not_mem_nil⟩⟩⟩⟩⟩⟩⟩⟩⟩⟩⟩⟩⟩⟩⟩⟩⟩⟩⟩⟩⟩⟩⟩
  exact List.forall_mem_cons.mpr ⟨fun S h => bs_aload_n (Z := Z) hx hb rfl d_M_unregister_0 h, List.forall_mem_cons.mpr ⟨fun S h => bs_iconst (Z := Z) hx hb (by decide) d_M_unregister_1 h, List.forall_mem_cons.mpr ⟨fun S h => bs_pI (Z := Z) (C := R_M) (T := F_M) (N := 40) (t := 40) (j := 0) hx hb hK hts (fun w h => List.mem_cons_of_mem _ (iw_M w h)) hown rfl rfl (by decide) (hts _ (List.mem_cons_of_mem _ wd_784)) (fun _ h => h) rfl rfl t_M t_M_ok n_M rfl (by decide +kernel) rfl d_M_unregister_2 h, List.forall_mem_cons.mpr ⟨fun S h => bs_iload_n (Z := Z) hx hb rfl d_M_unregister_5 h, List.forall_mem_cons.mpr ⟨fun S h => bs_callS (Z := Z) hBg hbs hB X0 (cn_M_isBundle htr (d + 0)) (cl_M_isBundle _ _ hw) (hts _ (List.mem_cons_of_mem _ wd_915)) (hts _ (List.mem_cons_of_mem _ wd_916)) (Nat.le_refl _) (Nat.le_refl _) d_M_unregister_6 (bs_out htab hlocks) h, List.forall_mem_cons.mpr ⟨fun S h => bs_if_eq (Z := Z) hx hb d_M_unregister_9 (by decide) h, List.forall_mem_cons.mpr ⟨fun S h => bs_iload_n (Z := Z) hx hb rfl d_M_unregister_12 h, List.forall_mem_cons.mpr ⟨fun S h => bs_if_ge (Z := Z) hx hb d_M_unregister_13 (by decide) h, List.forall_mem_cons.mpr ⟨fun S h => bs_aload_n (Z := Z) hx hb rfl d_M_unregister_16 h, List.forall_mem_cons.mpr ⟨fun S h => bs_iconst (Z := Z) hx hb (by decide) d_M_unregister_17 h, List.forall_mem_cons.mpr ⟨fun S h => bs_callV (Z := Z) (C := R_M) hBg hbs hB X0 hK (cn_M_raise htr (d + 1)) (cl_M_raise _ _ hw) (hts _ (List.mem_cons_of_mem _ wd_921)) (hts _ (List.mem_cons_of_mem _ wd_923)) (hts _ (List.mem_cons_of_mem _ ws_25)) rfl rfl rfl rfl rfl (Nat.le_refl _) (Nat.le_refl _) d_M_unregister_18 (bs_out htab hlocks) h, List.forall_mem_cons.mpr ⟨fun S h => bs_iret (Z := Z) hx hb hr hlocks d_M_unregister_21 h, List.forall_mem_cons.mpr ⟨fun S h => bs_aload_n (Z := Z) hx hb rfl d_M_unregister_22 h, List.forall_mem_cons.mpr ⟨fun S h => bs_gR (Z := Z) (C := R_M) (T := F_M) (N := 40) (t := 40) (j := 1) hx hb hK hts (fun w h => List.mem_cons_of_mem _ (iw_M w h)) hown rfl rfl (by decide) (hts _ (List.mem_cons_of_mem _ wd_785)) (fun _ h => h) rfl rfl rfl d_M_unregister_23 h, List.forall_mem_cons.mpr ⟨fun S h => bs_iload_n (Z := Z) hx hb rfl d_M_unregister_26 h, List.forall_mem_cons.mpr ⟨fun S h => bs_Iald (Z := Z) hx hb ha1 d_M_unregister_27 h, List.forall_mem_cons.mpr ⟨fun S h => bs_if_ne (Z := Z) hx hb d_M_unregister_28 (by decide) h, List.forall_mem_cons.mpr ⟨fun S h => bs_aload_n (Z := Z) hx hb rfl d_M_unregister_31 h, List.forall_mem_cons.mpr ⟨fun S h => bs_iconst (Z := Z) hx hb (by decide) d_M_unregister_32 h, List.forall_mem_cons.mpr ⟨fun S h => bs_callV (Z := Z) (C := R_M) hBg hbs hB X0 hK (cn_M_raise htr (d + 1)) (cl_M_raise _ _ hw) (hts _ (List.mem_cons_of_mem _ wd_921)) (hts _ (List.mem_cons_of_mem _ wd_923)) (hts _ (List.mem_cons_of_mem _ ws_25)) rfl rfl rfl rfl rfl (Nat.le_refl _) (Nat.le_refl _) d_M_unregister_33 (bs_out htab hlocks) h, List.forall_mem_cons.mpr ⟨fun S h => bs_iret (Z := Z) hx hb hr hlocks d_M_unregister_36 h, List.forall_mem_cons.mpr ⟨fun S h => bs_aload_n (Z := Z) hx hb rfl d_M_unregister_37 h, List.forall_mem_cons.mpr ⟨fun S h => bs_iload_n (Z := Z) hx hb rfl d_M_unregister_38 h, List.forall_mem_cons.mpr ⟨fun S h => bs_callV (Z := Z) (C := R_M) hBg hbs hB X0 hK (cn_M_placeOf htr (d + 1)) (cl_M_placeOf _ _ hw) (hts _ (List.mem_cons_of_mem _ wd_1093)) (hts _ (List.mem_cons_of_mem _ wd_1095)) (hts _ (List.mem_cons_of_mem _ ws_55)) rfl rfl rfl rfl rfl (Nat.le_refl _) (Nat.le_refl _) d_M_unregister_39 (bs_out htab hlocks) h, List.forall_mem_cons.mpr ⟨fun S h => bs_istore_n (Z := Z) hx hb rfl d_M_unregister_42 h, List.forall_mem_cons.mpr ⟨fun S h => bs_iload_n (Z := Z) hx hb rfl d_M_unregister_43 h, List.forall_mem_cons.mpr ⟨fun S h => bs_if_lt (Z := Z) hx hb d_M_unregister_44 (by decide) h, List.forall_mem_cons.mpr ⟨fun S h => bs_aload_n (Z := Z) hx hb rfl d_M_unregister_47 h, List.forall_mem_cons.mpr ⟨fun S h => bs_gR (Z := Z) (C := R_M) (T := F_M) (N := 40) (t := 40) (j := 30) hx hb hK hts (fun w h => List.mem_cons_of_mem _ (iw_M w h)) hown rfl rfl (by decide) (hts _ (List.mem_cons_of_mem _ wd_814)) (fun _ h => h) rfl rfl rfl d_M_unregister_48 h, List.forall_mem_cons.mpr ⟨fun S h => bs_iload_n (Z := Z) hx hb rfl d_M_unregister_51 h, List.forall_mem_cons.mpr ⟨fun S h => bs_Iald (Z := Z) hx hb ha1 d_M_unregister_52 h, List.forall_mem_cons.mpr ⟨fun S h => bs_iload_n (Z := Z) hx hb rfl d_M_unregister_53 h, List.forall_mem_cons.mpr ⟨fun S h => bs_icmp_eq (Z := Z) hx hb d_M_unregister_54 (by decide) h, List.forall_mem_cons.mpr ⟨fun S h => bs_aload_n (Z := Z) hx hb rfl d_M_unregister_57 h, List.forall_mem_cons.mpr ⟨fun S h => bs_iconst (Z := Z) hx hb (by decide) d_M_unregister_58 h, List.forall_mem_cons.mpr ⟨fun S h => bs_callV (Z := Z) (C := R_M) hBg hbs hB X0 hK (cn_M_raise htr (d + 1)) (cl_M_raise _ _ hw) (hts _ (List.mem_cons_of_mem _ wd_921)) (hts _ (List.mem_cons_of_mem _ wd_923)) (hts _ (List.mem_cons_of_mem _ ws_25)) rfl rfl rfl rfl rfl (Nat.le_refl _) (Nat.le_refl _) d_M_unregister_59 (bs_out htab hlocks) h, List.forall_mem_cons.mpr ⟨fun S h => bs_iret (Z := Z) hx hb hr hlocks d_M_unregister_62 h, List.forall_mem_cons.mpr ⟨fun S h => bs_iconst (Z := Z) hx hb (by decide) d_M_unregister_63 h, List.forall_mem_cons.mpr ⟨fun S h => bs_istore (Z := Z) hx hb d_M_unregister_64 h, List.forall_mem_cons.mpr ⟨fun S h => bs_iconst (Z := Z) hx hb (by decide) d_M_unregister_66 h, fun _ h => absurd h List.not_mem_nil⟩⟩⟩⟩⟩⟩⟩⟩⟩⟩⟩⟩⟩⟩⟩⟩⟩⟩⟩⟩⟩⟩⟩⟩⟩⟩⟩⟩⟩⟩⟩⟩⟩⟩⟩⟩⟩⟩⟩⟩
abbrev c_M_rank : ByteArray := prog_10_method_50_code
def y_M_rank : MethodName := ⟨"BundleHallModel", "rank", "(I)D"⟩
theorem d_M_rank_0 : decode c_M_rank 0 = .ok (.aload_n 0, 1) := by decide +kernel
theorem d_M_rank_1 : decode c_M_rank 1 = .ok (.iconst 0, 1) := by decide +kernel
theorem d_M_rank_2 : decode c_M_rank 2 = .ok (.putfield 109, 3) := by decide +kernel
theorem d_M_rank_5 : decode c_M_rank 5 = .ok (.iload_n 1, 1) := by decide +kernel
theorem d_M_rank_6 : decode c_M_rank 6 = .ok (.iconst 0, 1) := by decide +kernel
theorem d_M_rank_7 : decode c_M_rank 7 = .ok (.iconst 3, 1) := by decide +kernel
theorem d_M_rank_8 : decode c_M_rank 8 = .ok (.invokestatic 112, 3) := by decide +kernel
theorem d_M_rank_11 : decode c_M_rank 11 = .ok (.ifCond .ne 10, 3) := by decide +kernel
theorem d_M_rank_14 : decode c_M_rank 14 = .ok (.aload_n 0, 1) := by decide +kernel
theorem d_M_rank_15 : decode c_M_rank 15 = .ok (.iconst 1, 1) := by decide +kernel
theorem d_M_rank_16 : decode c_M_rank 16 = .ok (.invokevirtual 130, 3) := by decide +kernel
theorem d_M_rank_19 : decode c_M_rank 19 = .ok (.i2d, 1) := by decide +kernel
theorem d_M_rank_20 : decode c_M_rank 20 = .ok (.dreturn, 1) := by decide +kernel
theorem d_M_rank_21 : decode c_M_rank 21 = .ok (.dconst 0, 1) := by decide +kernel
theorem d_M_rank_22 : decode c_M_rank 22 = .ok (.dstore_n 2, 1) := by decide +kernel
theorem d_M_rank_23 : decode c_M_rank 23 = .ok (.iconst 0, 1) := by decide +kernel
theorem d_M_rank_24 : decode c_M_rank 24 = .ok (.istore 4, 2) := by decide +kernel
theorem d_M_rank_26 : decode c_M_rank 26 = .ok (.iconst 0, 1) := by decide +kernel
theorem d_M_rank_27 : decode c_M_rank 27 = .ok (.istore 5, 2) := by decide +kernel
theorem d_M_rank_29 : decode c_M_rank 29 = .ok (.iload 5, 2) := by decide +kernel
theorem d_M_rank_31 : decode c_M_rank 31 = .ok (.aload_n 0, 1) := by decide +kernel
theorem d_M_rank_32 : decode c_M_rank 32 = .ok (.getfield 207, 3) := by decide +kernel
theorem d_M_rank_35 : decode c_M_rank 35 = .ok (.if_icmp .ge 36, 3) := by decide +kernel
theorem d_M_rank_38 : decode c_M_rank 38 = .ok (.aload_n 0, 1) := by decide +kernel
theorem d_M_rank_39 : decode c_M_rank 39 = .ok (.getfield 90, 3) := by decide +kernel
theorem d_M_rank_42 : decode c_M_rank 42 = .ok (.iload 5, 2) := by decide +kernel
theorem d_M_rank_44 : decode c_M_rank 44 = .ok (.iaload, 1) := by decide +kernel
theorem d_M_rank_45 : decode c_M_rank 45 = .ok (.iload_n 1, 1) := by decide +kernel
theorem d_M_rank_46 : decode c_M_rank 46 = .ok (.if_icmp .eq 6, 3) := by decide +kernel
theorem d_M_rank_49 : decode c_M_rank 49 = .ok (.goto 16, 3) := by decide +kernel
theorem d_M_rank_52 : decode c_M_rank 52 = .ok (.dload_n 2, 1) := by decide +kernel
theorem d_M_rank_53 : decode c_M_rank 53 = .ok (.aload_n 0, 1) := by decide +kernel
theorem d_M_rank_54 : decode c_M_rank 54 = .ok (.getfield 93, 3) := by decide +kernel
theorem d_M_rank_57 : decode c_M_rank 57 = .ok (.iload 5, 2) := by decide +kernel
theorem d_M_rank_59 : decode c_M_rank 59 = .ok (.daload, 1) := by decide +kernel
theorem d_M_rank_60 : decode c_M_rank 60 = .ok (.dadd, 1) := by decide +kernel
theorem d_M_rank_61 : decode c_M_rank 61 = .ok (.dstore_n 2, 1) := by decide +kernel
theorem d_M_rank_62 : decode c_M_rank 62 = .ok (.iinc 4 1, 3) := by decide +kernel
theorem d_M_rank_65 : decode c_M_rank 65 = .ok (.iinc 5 1, 3) := by decide +kernel
theorem d_M_rank_68 : decode c_M_rank 68 = .ok (.goto (-39), 3) := by decide +kernel
theorem d_M_rank_71 : decode c_M_rank 71 = .ok (.iload 4, 2) := by decide +kernel
theorem d_M_rank_73 : decode c_M_rank 73 = .ok (.ifCond .ne 12, 3) := by decide +kernel
theorem d_M_rank_76 : decode c_M_rank 76 = .ok (.aload_n 0, 1) := by decide +kernel
theorem d_M_rank_77 : decode c_M_rank 77 = .ok (.iconst 2, 1) := by decide +kernel
theorem d_M_rank_78 : decode c_M_rank 78 = .ok (.invokevirtual 130, 3) := by decide +kernel
theorem d_M_rank_81 : decode c_M_rank 81 = .ok (.i2d, 1) := by decide +kernel
theorem d_M_rank_82 : decode c_M_rank 82 = .ok (.goto 8, 3) := by decide +kernel
theorem d_M_rank_85 : decode c_M_rank 85 = .ok (.dload_n 2, 1) := by decide +kernel
theorem d_M_rank_86 : decode c_M_rank 86 = .ok (.iload 4, 2) := by decide +kernel
theorem d_M_rank_88 : decode c_M_rank 88 = .ok (.i2d, 1) := by decide +kernel
theorem d_M_rank_89 : decode c_M_rank 89 = .ok (.ddiv, 1) := by decide +kernel
theorem d_M_rank_90 : decode c_M_rank 90 = .ok (.dreturn, 1) := by decide +kernel
def T_M_rank_0 : List (Nat × bh_Op) := [(0, bo_ald 1 0),
  (1, bo_st 2 (bg_push (.inl (.int 0)))),
  (2, bo_pI 5 40 0),
  (5, bo_ild 6 1),
  (6, bo_st 7 (bg_push (.inl (.int 0)))),
  (7, bo_st 8 (bg_push (.inl (.int 3)))),
  (8, bo_callS 11 3 0 0 F_M_in),
  (11, bo_if1 14 21 (fun x => ¬ x = 0)),
  (14, bo_ald 15 0),
  (15, bo_st 16 (bg_push (.inl (.int 1)))),
  (16, bo_callV 19 2 0 0 40 F_M_raise),
  (19, bo_st 20 (bg_i1 (fun x => .inl (.double (FP.i2d x))))),
  (20, bo_dret 0),
  (21, bo_st 22 (bg_push (.inl (.double FP.dconst0)))),
  (22, bo_dst 23 2),
  (23, bo_st 24 (bg_push (.inl (.int 0)))),
  (24, bo_ist 26 4),
  (26, bo_st 27 (bg_push (.inl (.int 0)))),
  (27, bo_ist 29 5),
  (29, bo_ild 31 5),
  (31, bo_ald 32 0),
  (32, bo_gI 35 40 34),
  (35, bo_if2 38 71 (fun x y => y ≤ x)),
  (38, bo_ald 39 0),
  (39, bo_gR 42 40 31 67),
  (42, bo_ild 44 5),
  (44, bo_Iald bh_ak bh_al 45),
  (45, bo_ild 46 1),
  (46, bo_if2 49 52 (fun x y => x = y)),
  (49, bo_go 65),
  (52, bo_dld 53 2),
  (53, bo_ald 54 0),
  (54, bo_gR 57 40 32 68),
  (57, bo_ild 59 5),
  (59, bo_Dald bh_ak bh_al 60),
  (60, bo_st 61 (bg_dd FP.dadd)),
  (61, bo_dst 62 2),
  (62, bo_inc 65 4 1),
  (65, bo_inc 68 5 1),
  (68, bo_go 29)]
def T_M_rank_1 : List (Nat × bh_Op) := [(71, bo_ild 73 4),
  (73, bo_if1 76 85 (fun x => ¬ x = 0)),
  (76, bo_ald 77 0),
  (77, bo_st 78 (bg_push (.inl (.int 2)))),
  (78, bo_callV 81 2 0 0 40 F_M_raise),
  (81, bo_st 82 (bg_i1 (fun x => .inl (.double (FP.i2d x))))),
  (82, bo_go 90),
  (85, bo_dld 86 2),
  (86, bo_ild 88 4),
  (88, bo_st 89 (bg_i1 (fun x => .inl (.double (FP.i2d x))))),
  (89, bo_st 90 (bg_dd FP.ddiv)),
  (90, bo_dret 0)]
def T_M_rank : List (Nat × bh_Op) := T_M_rank_0 ++ T_M_rank_1
set_option maxRecDepth 20000 in
theorem mT_M_rank_0 : ∀ q ∈ T_M_rank_0, bh_mono q.2 := List.forall_mem_cons.mpr ⟨bo_ald_m _ _, List.forall_mem_cons.mpr ⟨bo_st_mono (bg_push_m _), List.forall_mem_cons.mpr ⟨bo_pI_m _ _ _, List.forall_mem_cons.mpr ⟨bo_ild_m _ _, List.forall_mem_cons.mpr ⟨bo_st_mono (bg_push_m _), List.forall_mem_cons.mpr ⟨bo_st_mono (bg_push_m _), List.forall_mem_cons.mpr ⟨bo_callS_m (mF_M_in) _ _ _ _, List.forall_mem_cons.mpr ⟨bo_if1_m _ _ _, List.forall_mem_cons.mpr ⟨bo_ald_m _ _, List.forall_mem_cons.mpr ⟨bo_st_mono (bg_push_m _), List.forall_mem_cons.mpr ⟨bo_callV_m (mF_M_raise) _ _ _ _ _, List.forall_mem_cons.mpr ⟨bo_st_mono (bg_i1_m _), List.forall_mem_cons.mpr ⟨bo_dret_m _, List.forall_mem_cons.mpr ⟨bo_st_mono (bg_push_m _), List.forall_mem_cons.mpr ⟨bo_dst_m _ _, List.forall_mem_cons.mpr ⟨bo_st_mono (bg_push_m _), List.forall_mem_cons.mpr ⟨bo_ist_m _ _, List.forall_mem_cons.mpr ⟨bo_st_mono (bg_push_m _), List.forall_mem_cons.mpr ⟨bo_ist_m _ _, List.forall_mem_cons.mpr ⟨bo_ild_m _ _, List.forall_mem_cons.mpr ⟨bo_ald_m _ _, List.forall_mem_cons.mpr ⟨bo_gI_m _ _ _, List.forall_mem_cons.mpr ⟨bo_if2_m _ _ _, List.forall_mem_cons.mpr ⟨bo_ald_m _ _, List.forall_mem_cons.mpr ⟨bo_gR_m _ _ _ _, List.forall_mem_cons.mpr ⟨bo_ild_m _ _, List.forall_mem_cons.mpr ⟨bo_Iald_m _ _ _, List.forall_mem_cons.mpr ⟨bo_ild_m _ _, List.forall_mem_cons.mpr ⟨bo_if2_m _ _ _, List.forall_mem_cons.mpr ⟨bo_go_m _, List.forall_mem_cons.mpr ⟨bo_dld_m _ _, List.forall_mem_cons.mpr ⟨bo_ald_m _ _, List.forall_mem_cons.mpr ⟨bo_gR_m _ _ _ _, List.forall_mem_cons.mpr ⟨bo_ild_m _ _, List.forall_mem_cons.mpr ⟨bo_Dald_m _ _ _, List.forall_mem_cons.mpr ⟨bo_st_mono (bg_dd_m _), List.forall_mem_cons.mpr ⟨bo_dst_m _ _, List.forall_mem_cons.mpr ⟨bo_inc_m _ _ _, List.forall_mem_cons.mpr ⟨bo_inc_m _ _ _, List.forall_mem_cons.mpr ⟨bo_go_m _, fun _ h => absurd h List.not_mem_nil⟩⟩⟩⟩⟩⟩⟩⟩⟩⟩⟩⟩⟩⟩⟩⟩⟩⟩⟩⟩⟩⟩⟩⟩⟩⟩⟩⟩⟩⟩⟩⟩⟩⟩⟩⟩⟩⟩⟩⟩
set_option maxRecDepth 20000 in
theorem mT_M_rank_1 : ∀ q ∈ T_M_rank_1, bh_mono q.2 := List.forall_mem_cons.mpr ⟨bo_ild_m _ _, List.forall_mem_cons.mpr ⟨bo_if1_m _ _ _, List.forall_mem_cons.mpr ⟨bo_ald_m _ _, List.forall_mem_cons.mpr ⟨bo_st_mono (bg_push_m _), List.forall_mem_cons.mpr ⟨bo_callV_m (mF_M_raise) _ _ _ _ _, List.forall_mem_cons.mpr ⟨bo_st_mono (bg_i1_m _), List.forall_mem_cons.mpr ⟨bo_go_m _, List.forall_mem_cons.mpr ⟨bo_dld_m _ _, List.forall_mem_cons.mpr ⟨bo_ild_m _ _, List.forall_mem_cons.mpr ⟨bo_st_mono (bg_i1_m _), List.forall_mem_cons.mpr ⟨bo_st_mono (bg_dd_m _), List.forall_mem_cons.mpr ⟨bo_dret_m _, fun _ h => absurd h List.not_mem_nil⟩⟩⟩⟩⟩⟩⟩⟩⟩⟩⟩⟩
theorem m_M_rank : ∀ pc, bh_mono (bh_tb (T_M_rank) pc) := bh_tb_m (List.forall_mem_append.mpr ⟨mT_M_rank_0, mT_M_rank_1⟩)
def F_M_rank : bh_Fn := bh_fn 6 (bh_tb T_M_rank)
theorem mF_M_rank : bh_monoF F_M_rank := bh_fn_m m_M_rank
theorem cl_M_rank {s : State} {args : Array Value} (d B : Nat) (hts : ∀ w ∈ bh_ws, w.before args s = true) : bh_Cal (bh_rm (d + 1) B) s y_M_rank 6 (.code y_M_rank c_M_rank 6 (some .double) :: bh_ws) (bh_rm d 0) 0 1 := bh_cal d B hts wd_1104 wd_9 (by decide) (by decide +kernel)
set_option maxHeartbeats 4000000 in
set_option maxRecDepth 100000 in
theorem cn_M_rank {l : Launch} {G : bh_G} {base sb L : Nat} {xs : Nat → Int32} (htr : l.stackTraces = false) (d : Nat) : bh_Con l G base (bh_Bg G base sb L xs) y_M_rank (.code y_M_rank c_M_rank 6 (some .double) :: bh_ws) (bh_rm (d + 2) 0) 0 false F_M_rank := by
  refine bh_method (cc := c_M_rank) (ret := (some .double)) (by decide +kernel) rfl ?_
  intro p e s m args below meth c ad0 M0 Z X0 hr hlocks hname htab hbs hB
  obtain ⟨hx, hb, hml, hown, hts⟩ := id X0
  have hw : ∀ w ∈ bh_ws, w.before args s = true := fun w h => hts w (List.mem_cons_of_mem _ h)
  have hBg := bh_BgK (G := G) (base := base) (sb := sb) (L := L) (xs := xs)
  obtain ⟨hK, hAr, hen, hinj, hu1, hu2, hstr, hX, hsb, hsc, hxw, hao, hnc⟩ := id hB
  obtain ⟨ha1, ha2, ha3, ha4, ha5, ha6, ha0⟩ := bh_arr hAr
  refine List.forall_mem_append.mpr ⟨?_, List.forall_mem_cons.mpr ⟨fun S h => bs_iload (Z := Z) hx hb d_M_rank_71 h, List.forall_mem_cons.mpr ⟨fun S h => bs_if_ne (Z := Z) hx hb d_M_rank_73 (by decide) h, List.forall_mem_cons.mpr ⟨fun S h => bs_aload_n (Z := Z) hx hb rfl d_M_rank_76 h, List.forall_mem_cons.mpr ⟨fun S h => bs_iconst (Z := Z) hx hb (by decide) d_M_rank_77 h, List.forall_mem_cons.mpr ⟨fun S h => bs_callV (Z := Z) (C := R_M) hBg hbs hB X0 hK (cn_M_raise htr (d + 0)) (cl_M_raise _ _ hw) (hts _ (List.mem_cons_of_mem _ wd_921)) (hts _ (List.mem_cons_of_mem _ wd_923)) (hts _ (List.mem_cons_of_mem _ ws_25)) rfl rfl rfl rfl rfl (Nat.le_refl _) (Nat.le_refl _) d_M_rank_78 (bs_out htab hlocks) h, List.forall_mem_cons.mpr ⟨fun S h => bs_i2d (Z := Z) hx hb d_M_rank_81 h, List.forall_mem_cons.mpr ⟨fun S h => bs_goto (Z := Z) hx hb d_M_rank_82 (by decide) h, List.forall_mem_cons.mpr ⟨fun S h => bs_dload_n (Z := Z) hx hb rfl d_M_rank_85 h, List.forall_mem_cons.mpr ⟨fun S h => bs_iload (Z := Z) hx hb d_M_rank_86 h, List.forall_mem_cons.mpr ⟨fun S h => bs_i2d (Z := Z) hx hb d_M_rank_88 h, List.forall_mem_cons.mpr ⟨fun S h => bs_ddiv (Z := Z) hx hb d_M_rank_89 h, List.forall_mem_cons.mpr ⟨fun S h => bs_dret (Z := Z) hx hb hr hlocks d_M_rank_90 h, fun _ h => absurd h List.not_mem_nil⟩⟩⟩⟩⟩⟩⟩⟩⟩⟩⟩⟩⟩
  exact List.forall_mem_cons.mpr ⟨fun S h => bs_aload_n (Z := Z) hx hb rfl d_M_rank_0 h, List.forall_mem_cons.mpr ⟨fun S h => bs_iconst (Z := Z) hx hb (by decide) d_M_rank_1 h, List.forall_mem_cons.mpr ⟨fun S h => bs_pI (Z := Z) (C := R_M) (T := F_M) (N := 40) (t := 40) (j := 0) hx hb hK hts (fun w h => List.mem_cons_of_mem _ (iw_M w h)) hown rfl rfl (by decide) (hts _ (List.mem_cons_of_mem _ wd_784)) (fun _ h => h) rfl rfl t_M t_M_ok n_M rfl (by decide +kernel) rfl d_M_rank_2 h, List.forall_mem_cons.mpr ⟨fun S h => bs_iload_n (Z := Z) hx hb rfl d_M_rank_5 h, List.forall_mem_cons.mpr ⟨fun S h => bs_iconst (Z := Z) hx hb (by decide) d_M_rank_6 h, List.forall_mem_cons.mpr ⟨fun S h => bs_iconst (Z := Z) hx hb (by decide) d_M_rank_7 h, List.forall_mem_cons.mpr ⟨fun S h => bs_callS (Z := Z) hBg hbs hB X0 (cn_M_in htr (d + 0)) (cl_M_in _ _ hw) (hts _ (List.mem_cons_of_mem _ wd_918)) (hts _ (List.mem_cons_of_mem _ wd_919)) (Nat.le_refl _) (Nat.le_refl _) d_M_rank_8 (bs_out htab hlocks) h, List.forall_mem_cons.mpr ⟨fun S h => bs_if_ne (Z := Z) hx hb d_M_rank_11 (by decide) h, List.forall_mem_cons.mpr ⟨fun S h => bs_aload_n (Z := Z) hx hb rfl d_M_rank_14 h, List.forall_mem_cons.mpr ⟨fun S h => bs_iconst (Z := Z) hx hb (by decide) d_M_rank_15 h, List.forall_mem_cons.mpr ⟨fun S h => bs_callV (Z := Z) (C := R_M) hBg hbs hB X0 hK (cn_M_raise htr (d + 0)) (cl_M_raise _ _ hw) (hts _ (List.mem_cons_of_mem _ wd_921)) (hts _ (List.mem_cons_of_mem _ wd_923)) (hts _ (List.mem_cons_of_mem _ ws_25)) rfl rfl rfl rfl rfl (Nat.le_refl _) (Nat.le_refl _) d_M_rank_16 (bs_out htab hlocks) h, List.forall_mem_cons.mpr ⟨fun S h => bs_i2d (Z := Z) hx hb d_M_rank_19 h, List.forall_mem_cons.mpr ⟨fun S h => bs_dret (Z := Z) hx hb hr hlocks d_M_rank_20 h, List.forall_mem_cons.mpr ⟨fun S h => bs_dconst0 (Z := Z) hx hb d_M_rank_21 h, List.forall_mem_cons.mpr ⟨fun S h => bs_dstore_n (Z := Z) hx hb rfl d_M_rank_22 h, List.forall_mem_cons.mpr ⟨fun S h => bs_iconst (Z := Z) hx hb (by decide) d_M_rank_23 h, List.forall_mem_cons.mpr ⟨fun S h => bs_istore (Z := Z) hx hb d_M_rank_24 h, List.forall_mem_cons.mpr ⟨fun S h => bs_iconst (Z := Z) hx hb (by decide) d_M_rank_26 h, List.forall_mem_cons.mpr ⟨fun S h => bs_istore (Z := Z) hx hb d_M_rank_27 h, List.forall_mem_cons.mpr ⟨fun S h => bs_iload (Z := Z) hx hb d_M_rank_29 h, List.forall_mem_cons.mpr ⟨fun S h => bs_aload_n (Z := Z) hx hb rfl d_M_rank_31 h, List.forall_mem_cons.mpr ⟨fun S h => bs_gI (Z := Z) (C := R_M) (T := F_M) (N := 40) (t := 40) (j := 34) hx hb hK hts (fun w h => List.mem_cons_of_mem _ (iw_M w h)) hown rfl rfl (by decide) (hts _ (List.mem_cons_of_mem _ wd_818)) (fun _ h => h) rfl rfl rfl d_M_rank_32 h, List.forall_mem_cons.mpr ⟨fun S h => bs_icmp_ge (Z := Z) hx hb d_M_rank_35 (by decide) h, List.forall_mem_cons.mpr ⟨fun S h => bs_aload_n (Z := Z) hx hb rfl d_M_rank_38 h, List.forall_mem_cons.mpr ⟨fun S h => bs_gR (Z := Z) (C := R_M) (T := F_M) (N := 40) (t := 40) (j := 31) hx hb hK hts (fun w h => List.mem_cons_of_mem _ (iw_M w h)) hown rfl rfl (by decide) (hts _ (List.mem_cons_of_mem _ wd_815)) (fun _ h => h) rfl rfl rfl d_M_rank_39 h, List.forall_mem_cons.mpr ⟨fun S h => bs_iload (Z := Z) hx hb d_M_rank_42 h, List.forall_mem_cons.mpr ⟨fun S h => bs_Iald (Z := Z) hx hb ha1 d_M_rank_44 h, List.forall_mem_cons.mpr ⟨fun S h => bs_iload_n (Z := Z) hx hb rfl d_M_rank_45 h, List.forall_mem_cons.mpr ⟨fun S h => bs_icmp_eq (Z := Z) hx hb d_M_rank_46 (by decide) h, List.forall_mem_cons.mpr ⟨fun S h => bs_goto (Z := Z) hx hb d_M_rank_49 (by decide) h, List.forall_mem_cons.mpr ⟨fun S h => bs_dload_n (Z := Z) hx hb rfl d_M_rank_52 h, List.forall_mem_cons.mpr ⟨fun S h => bs_aload_n (Z := Z) hx hb rfl d_M_rank_53 h, List.forall_mem_cons.mpr ⟨fun S h => bs_gR (Z := Z) (C := R_M) (T := F_M) (N := 40) (t := 40) (j := 32) hx hb hK hts (fun w h => List.mem_cons_of_mem _ (iw_M w h)) hown rfl rfl (by decide) (hts _ (List.mem_cons_of_mem _ wd_816)) (fun _ h => h) rfl rfl rfl d_M_rank_54 h, List.forall_mem_cons.mpr ⟨fun S h => bs_iload (Z := Z) hx hb d_M_rank_57 h, List.forall_mem_cons.mpr ⟨fun S h => bs_Dald (Z := Z) hx hb ha4 d_M_rank_59 h, List.forall_mem_cons.mpr ⟨fun S h => bs_dadd (Z := Z) hx hb d_M_rank_60 h, List.forall_mem_cons.mpr ⟨fun S h => bs_dstore_n (Z := Z) hx hb rfl d_M_rank_61 h, List.forall_mem_cons.mpr ⟨fun S h => bs_iinc (Z := Z) hx hb (by decide) d_M_rank_62 h, List.forall_mem_cons.mpr ⟨fun S h => bs_iinc (Z := Z) hx hb (by decide) d_M_rank_65 h, List.forall_mem_cons.mpr ⟨fun S h => bs_goto (Z := Z) hx hb d_M_rank_68 (by decide) h, fun _ h => absurd h List.not_mem_nil⟩⟩⟩⟩⟩⟩⟩⟩⟩⟩⟩⟩⟩⟩⟩⟩⟩⟩⟩⟩⟩⟩⟩⟩⟩⟩⟩⟩⟩⟩⟩⟩⟩⟩⟩⟩⟩⟩⟩⟩
abbrev c_M_event : ByteArray := prog_10_method_51_code
def y_M_event : MethodName := ⟨"BundleHallModel", "event", "()I"⟩
theorem d_M_event_0 : decode c_M_event 0 = .ok (.aload_n 0, 1) := by decide +kernel
theorem d_M_event_1 : decode c_M_event 1 = .ok (.iconst 0, 1) := by decide +kernel
theorem d_M_event_2 : decode c_M_event 2 = .ok (.putfield 109, 3) := by decide +kernel
theorem d_M_event_5 : decode c_M_event 5 = .ok (.aload_n 0, 1) := by decide +kernel
theorem d_M_event_6 : decode c_M_event 6 = .ok (.getfield 116, 3) := by decide +kernel
theorem d_M_event_9 : decode c_M_event 9 = .ok (.ifCond .ne 9, 3) := by decide +kernel
theorem d_M_event_12 : decode c_M_event 12 = .ok (.aload_n 0, 1) := by decide +kernel
theorem d_M_event_13 : decode c_M_event 13 = .ok (.iconst 1, 1) := by decide +kernel
theorem d_M_event_14 : decode c_M_event 14 = .ok (.invokevirtual 130, 3) := by decide +kernel
theorem d_M_event_17 : decode c_M_event 17 = .ok (.ireturn, 1) := by decide +kernel
theorem d_M_event_18 : decode c_M_event 18 = .ok (.aload_n 0, 1) := by decide +kernel
theorem d_M_event_19 : decode c_M_event 19 = .ok (.getfield 100, 3) := by decide +kernel
theorem d_M_event_22 : decode c_M_event 22 = .ok (.iconst 0, 1) := by decide +kernel
theorem d_M_event_23 : decode c_M_event 23 = .ok (.iaload, 1) := by decide +kernel
theorem d_M_event_24 : decode c_M_event 24 = .ok (.istore_n 1, 1) := by decide +kernel
theorem d_M_event_25 : decode c_M_event 25 = .ok (.aload_n 0, 1) := by decide +kernel
theorem d_M_event_26 : decode c_M_event 26 = .ok (.dup, 1) := by decide +kernel
theorem d_M_event_27 : decode c_M_event 27 = .ok (.getfield 116, 3) := by decide +kernel
theorem d_M_event_30 : decode c_M_event 30 = .ok (.iconst 1, 1) := by decide +kernel
theorem d_M_event_31 : decode c_M_event 31 = .ok (.isub, 1) := by decide +kernel
theorem d_M_event_32 : decode c_M_event 32 = .ok (.putfield 116, 3) := by decide +kernel
theorem d_M_event_35 : decode c_M_event 35 = .ok (.iconst 0, 1) := by decide +kernel
theorem d_M_event_36 : decode c_M_event 36 = .ok (.istore_n 2, 1) := by decide +kernel
theorem d_M_event_37 : decode c_M_event 37 = .ok (.iload_n 2, 1) := by decide +kernel
theorem d_M_event_38 : decode c_M_event 38 = .ok (.aload_n 0, 1) := by decide +kernel
theorem d_M_event_39 : decode c_M_event 39 = .ok (.getfield 116, 3) := by decide +kernel
theorem d_M_event_42 : decode c_M_event 42 = .ok (.if_icmp .ge 23, 3) := by decide +kernel
theorem d_M_event_45 : decode c_M_event 45 = .ok (.aload_n 0, 1) := by decide +kernel
theorem d_M_event_46 : decode c_M_event 46 = .ok (.getfield 100, 3) := by decide +kernel
theorem d_M_event_49 : decode c_M_event 49 = .ok (.iload_n 2, 1) := by decide +kernel
theorem d_M_event_50 : decode c_M_event 50 = .ok (.aload_n 0, 1) := by decide +kernel
theorem d_M_event_51 : decode c_M_event 51 = .ok (.getfield 100, 3) := by decide +kernel
theorem d_M_event_54 : decode c_M_event 54 = .ok (.iload_n 2, 1) := by decide +kernel
theorem d_M_event_55 : decode c_M_event 55 = .ok (.iconst 1, 1) := by decide +kernel
theorem d_M_event_56 : decode c_M_event 56 = .ok (.iadd, 1) := by decide +kernel
theorem d_M_event_57 : decode c_M_event 57 = .ok (.iaload, 1) := by decide +kernel
theorem d_M_event_58 : decode c_M_event 58 = .ok (.iastore, 1) := by decide +kernel
theorem d_M_event_59 : decode c_M_event 59 = .ok (.iinc 2 1, 3) := by decide +kernel
theorem d_M_event_62 : decode c_M_event 62 = .ok (.goto (-25), 3) := by decide +kernel
theorem d_M_event_65 : decode c_M_event 65 = .ok (.iload_n 1, 1) := by decide +kernel
theorem d_M_event_66 : decode c_M_event 66 = .ok (.ireturn, 1) := by decide +kernel
def T_M_event_0 : List (Nat × bh_Op) := [(0, bo_ald 1 0),
  (1, bo_st 2 (bg_push (.inl (.int 0)))),
  (2, bo_pI 5 40 0),
  (5, bo_ald 6 0),
  (6, bo_gI 9 40 37),
  (9, bo_if1 12 18 (fun x => ¬ x = 0)),
  (12, bo_ald 13 0),
  (13, bo_st 14 (bg_push (.inl (.int 1)))),
  (14, bo_callV 17 2 0 0 40 F_M_raise),
  (17, bo_iret 0),
  (18, bo_ald 19 0),
  (19, bo_gR 22 40 36 70),
  (22, bo_st 23 (bg_push (.inl (.int 0)))),
  (23, bo_Iald bh_ak bh_al 24),
  (24, bo_ist 25 1),
  (25, bo_ald 26 0),
  (26, bo_st 27 bg_dup),
  (27, bo_gI 30 40 37),
  (30, bo_st 31 (bg_push (.inl (.int 1)))),
  (31, bo_st 32 (bg_ii (fun x y => x - y))),
  (32, bo_pI 35 40 37),
  (35, bo_st 36 (bg_push (.inl (.int 0)))),
  (36, bo_ist 37 2),
  (37, bo_ild 38 2),
  (38, bo_ald 39 0),
  (39, bo_gI 42 40 37),
  (42, bo_if2 45 65 (fun x y => y ≤ x)),
  (45, bo_ald 46 0),
  (46, bo_gR 49 40 36 70),
  (49, bo_ild 50 2),
  (50, bo_ald 51 0),
  (51, bo_gR 54 40 36 70),
  (54, bo_ild 55 2),
  (55, bo_st 56 (bg_push (.inl (.int 1)))),
  (56, bo_st 57 (bg_ii (fun x y => x + y))),
  (57, bo_Iald bh_ak bh_al 58),
  (58, bo_Iast bh_ak bh_al 59),
  (59, bo_inc 62 2 1),
  (62, bo_go 37),
  (65, bo_ild 66 1)]
def T_M_event_1 : List (Nat × bh_Op) := [(66, bo_iret 0)]
def T_M_event : List (Nat × bh_Op) := T_M_event_0 ++ T_M_event_1
set_option maxRecDepth 20000 in
theorem mT_M_event_0 : ∀ q ∈ T_M_event_0, bh_mono q.2 := List.forall_mem_cons.mpr ⟨bo_ald_m _ _, List.forall_mem_cons.mpr ⟨bo_st_mono (bg_push_m _), List.forall_mem_cons.mpr ⟨bo_pI_m _ _ _, List.forall_mem_cons.mpr ⟨bo_ald_m _ _, List.forall_mem_cons.mpr ⟨bo_gI_m _ _ _, List.forall_mem_cons.mpr ⟨bo_if1_m _ _ _, List.forall_mem_cons.mpr ⟨bo_ald_m _ _, List.forall_mem_cons.mpr ⟨bo_st_mono (bg_push_m _), List.forall_mem_cons.mpr ⟨bo_callV_m (mF_M_raise) _ _ _ _ _, List.forall_mem_cons.mpr ⟨bo_iret_m _, List.forall_mem_cons.mpr ⟨bo_ald_m _ _, List.forall_mem_cons.mpr ⟨bo_gR_m _ _ _ _, List.forall_mem_cons.mpr ⟨bo_st_mono (bg_push_m _), List.forall_mem_cons.mpr ⟨bo_Iald_m _ _ _, List.forall_mem_cons.mpr ⟨bo_ist_m _ _, List.forall_mem_cons.mpr ⟨bo_ald_m _ _, List.forall_mem_cons.mpr ⟨bo_st_mono bg_dup_m, List.forall_mem_cons.mpr ⟨bo_gI_m _ _ _, List.forall_mem_cons.mpr ⟨bo_st_mono (bg_push_m _), List.forall_mem_cons.mpr ⟨bo_st_mono (bg_ii_m _), List.forall_mem_cons.mpr ⟨bo_pI_m _ _ _, List.forall_mem_cons.mpr ⟨bo_st_mono (bg_push_m _), List.forall_mem_cons.mpr ⟨bo_ist_m _ _, List.forall_mem_cons.mpr ⟨bo_ild_m _ _, List.forall_mem_cons.mpr ⟨bo_ald_m _ _, List.forall_mem_cons.mpr ⟨bo_gI_m _ _ _, List.forall_mem_cons.mpr ⟨bo_if2_m _ _ _, List.forall_mem_cons.mpr ⟨bo_ald_m _ _, List.forall_mem_cons.mpr ⟨bo_gR_m _ _ _ _, List.forall_mem_cons.mpr ⟨bo_ild_m _ _, List.forall_mem_cons.mpr ⟨bo_ald_m _ _, List.forall_mem_cons.mpr ⟨bo_gR_m _ _ _ _, List.forall_mem_cons.mpr ⟨bo_ild_m _ _, List.forall_mem_cons.mpr ⟨bo_st_mono (bg_push_m _), List.forall_mem_cons.mpr ⟨bo_st_mono (bg_ii_m _), List.forall_mem_cons.mpr ⟨bo_Iald_m _ _ _, List.forall_mem_cons.mpr ⟨bo_Iast_m _ _ _, List.forall_mem_cons.mpr ⟨bo_inc_m _ _ _, List.forall_mem_cons.mpr ⟨bo_go_m _, List.forall_mem_cons.mpr ⟨bo_ild_m _ _, fun _ h => absurd h List.not_mem_nil⟩⟩⟩⟩⟩⟩⟩⟩⟩⟩⟩⟩⟩⟩⟩⟩⟩⟩⟩⟩⟩⟩⟩⟩⟩⟩⟩⟩⟩⟩⟩⟩⟩⟩⟩⟩⟩⟩⟩⟩
set_option maxRecDepth 20000 in
theorem mT_M_event_1 : ∀ q ∈ T_M_event_1, bh_mono q.2 := List.forall_mem_cons.mpr ⟨bo_iret_m _, fun _ h => absurd h List.not_mem_nil⟩
theorem m_M_event : ∀ pc, bh_mono (bh_tb (T_M_event) pc) := bh_tb_m (List.forall_mem_append.mpr ⟨mT_M_event_0, mT_M_event_1⟩)
def F_M_event : bh_Fn := bh_fn 3 (bh_tb T_M_event)
theorem mF_M_event : bh_monoF F_M_event := bh_fn_m m_M_event
theorem cl_M_event {s : State} {args : Array Value} (d B : Nat) (hts : ∀ w ∈ bh_ws, w.before args s = true) : bh_Cal (bh_rm (d + 1) B) s y_M_event 3 (.code y_M_event c_M_event 3 (some .int) :: bh_ws) (bh_rm d 0) 0 0 := bh_cal d B hts wd_1108 wd_9 (by decide) (by decide +kernel)
set_option maxHeartbeats 4000000 in
set_option maxRecDepth 100000 in
theorem cn_M_event {l : Launch} {G : bh_G} {base sb L : Nat} {xs : Nat → Int32} (htr : l.stackTraces = false) (d : Nat) : bh_Con l G base (bh_Bg G base sb L xs) y_M_event (.code y_M_event c_M_event 3 (some .int) :: bh_ws) (bh_rm (d + 2) 0) 0 false F_M_event := by
  refine bh_method (cc := c_M_event) (ret := (some .int)) (by decide +kernel) rfl ?_
  intro p e s m args below meth c ad0 M0 Z X0 hr hlocks hname htab hbs hB
  obtain ⟨hx, hb, hml, hown, hts⟩ := id X0
  have hw : ∀ w ∈ bh_ws, w.before args s = true := fun w h => hts w (List.mem_cons_of_mem _ h)
  have hBg := bh_BgK (G := G) (base := base) (sb := sb) (L := L) (xs := xs)
  obtain ⟨hK, hAr, hen, hinj, hu1, hu2, hstr, hX, hsb, hsc, hxw, hao, hnc⟩ := id hB
  obtain ⟨ha1, ha2, ha3, ha4, ha5, ha6, ha0⟩ := bh_arr hAr
  refine List.forall_mem_append.mpr ⟨?_, List.forall_mem_cons.mpr ⟨fun S h => bs_iret (Z := Z) hx hb hr hlocks d_M_event_66 h, fun _ h => absurd h List.not_mem_nil⟩⟩
  exact List.forall_mem_cons.mpr ⟨fun S h => bs_aload_n (Z := Z) hx hb rfl d_M_event_0 h, List.forall_mem_cons.mpr ⟨fun S h => bs_iconst (Z := Z) hx hb (by decide) d_M_event_1 h, List.forall_mem_cons.mpr ⟨fun S h => bs_pI (Z := Z) (C := R_M) (T := F_M) (N := 40) (t := 40) (j := 0) hx hb hK hts (fun w h => List.mem_cons_of_mem _ (iw_M w h)) hown rfl rfl (by decide) (hts _ (List.mem_cons_of_mem _ wd_784)) (fun _ h => h) rfl rfl t_M t_M_ok n_M rfl (by decide +kernel) rfl d_M_event_2 h, List.forall_mem_cons.mpr ⟨fun S h => bs_aload_n (Z := Z) hx hb rfl d_M_event_5 h, List.forall_mem_cons.mpr ⟨fun S h => bs_gI (Z := Z) (C := R_M) (T := F_M) (N := 40) (t := 40) (j := 37) hx hb hK hts (fun w h => List.mem_cons_of_mem _ (iw_M w h)) hown rfl rfl (by decide) (hts _ (List.mem_cons_of_mem _ wd_821)) (fun _ h => h) rfl rfl rfl d_M_event_6 h, List.forall_mem_cons.mpr ⟨fun S h => bs_if_ne (Z := Z) hx hb d_M_event_9 (by decide) h, List.forall_mem_cons.mpr ⟨fun S h => bs_aload_n (Z := Z) hx hb rfl d_M_event_12 h, List.forall_mem_cons.mpr ⟨fun S h => bs_iconst (Z := Z) hx hb (by decide) d_M_event_13 h, List.forall_mem_cons.mpr ⟨fun S h => bs_callV (Z := Z) (C := R_M) hBg hbs hB X0 hK (cn_M_raise htr (d + 0)) (cl_M_raise _ _ hw) (hts _ (List.mem_cons_of_mem _ wd_921)) (hts _ (List.mem_cons_of_mem _ wd_923)) (hts _ (List.mem_cons_of_mem _ ws_25)) rfl rfl rfl rfl rfl (Nat.le_refl _) (Nat.le_refl _) d_M_event_14 (bs_out htab hlocks) h, List.forall_mem_cons.mpr ⟨fun S h => bs_iret (Z := Z) hx hb hr hlocks d_M_event_17 h, List.forall_mem_cons.mpr ⟨fun S h => bs_aload_n (Z := Z) hx hb rfl d_M_event_18 h, List.forall_mem_cons.mpr ⟨fun S h => bs_gR (Z := Z) (C := R_M) (T := F_M) (N := 40) (t := 40) (j := 36) hx hb hK hts (fun w h => List.mem_cons_of_mem _ (iw_M w h)) hown rfl rfl (by decide) (hts _ (List.mem_cons_of_mem _ wd_820)) (fun _ h => h) rfl rfl rfl d_M_event_19 h, List.forall_mem_cons.mpr ⟨fun S h => bs_iconst (Z := Z) hx hb (by decide) d_M_event_22 h, List.forall_mem_cons.mpr ⟨fun S h => bs_Iald (Z := Z) hx hb ha1 d_M_event_23 h, List.forall_mem_cons.mpr ⟨fun S h => bs_istore_n (Z := Z) hx hb rfl d_M_event_24 h, List.forall_mem_cons.mpr ⟨fun S h => bs_aload_n (Z := Z) hx hb rfl d_M_event_25 h, List.forall_mem_cons.mpr ⟨fun S h => bs_dup (Z := Z) hx hb d_M_event_26 h, List.forall_mem_cons.mpr ⟨fun S h => bs_gI (Z := Z) (C := R_M) (T := F_M) (N := 40) (t := 40) (j := 37) hx hb hK hts (fun w h => List.mem_cons_of_mem _ (iw_M w h)) hown rfl rfl (by decide) (hts _ (List.mem_cons_of_mem _ wd_821)) (fun _ h => h) rfl rfl rfl d_M_event_27 h, List.forall_mem_cons.mpr ⟨fun S h => bs_iconst (Z := Z) hx hb (by decide) d_M_event_30 h, List.forall_mem_cons.mpr ⟨fun S h => bs_isub (Z := Z) hx hb d_M_event_31 h, List.forall_mem_cons.mpr ⟨fun S h => bs_pI (Z := Z) (C := R_M) (T := F_M) (N := 40) (t := 40) (j := 37) hx hb hK hts (fun w h => List.mem_cons_of_mem _ (iw_M w h)) hown rfl rfl (by decide) (hts _ (List.mem_cons_of_mem _ wd_821)) (fun _ h => h) rfl rfl t_M t_M_ok n_M rfl (by decide +kernel) rfl d_M_event_32 h, List.forall_mem_cons.mpr ⟨fun S h => bs_iconst (Z := Z) hx hb (by decide) d_M_event_35 h, List.forall_mem_cons.mpr ⟨fun S h => bs_istore_n (Z := Z) hx hb rfl d_M_event_36 h, List.forall_mem_cons.mpr ⟨fun S h => bs_iload_n (Z := Z) hx hb rfl d_M_event_37 h, List.forall_mem_cons.mpr ⟨fun S h => bs_aload_n (Z := Z) hx hb rfl d_M_event_38 h, List.forall_mem_cons.mpr ⟨fun S h => bs_gI (Z := Z) (C := R_M) (T := F_M) (N := 40) (t := 40) (j := 37) hx hb hK hts (fun w h => List.mem_cons_of_mem _ (iw_M w h)) hown rfl rfl (by decide) (hts _ (List.mem_cons_of_mem _ wd_821)) (fun _ h => h) rfl rfl rfl d_M_event_39 h, List.forall_mem_cons.mpr ⟨fun S h => bs_icmp_ge (Z := Z) hx hb d_M_event_42 (by decide) h, List.forall_mem_cons.mpr ⟨fun S h => bs_aload_n (Z := Z) hx hb rfl d_M_event_45 h, List.forall_mem_cons.mpr ⟨fun S h => bs_gR (Z := Z) (C := R_M) (T := F_M) (N := 40) (t := 40) (j := 36) hx hb hK hts (fun w h => List.mem_cons_of_mem _ (iw_M w h)) hown rfl rfl (by decide) (hts _ (List.mem_cons_of_mem _ wd_820)) (fun _ h => h) rfl rfl rfl d_M_event_46 h, List.forall_mem_cons.mpr ⟨fun S h => bs_iload_n (Z := Z) hx hb rfl d_M_event_49 h, List.forall_mem_cons.mpr ⟨fun S h => bs_aload_n (Z := Z) hx hb rfl d_M_event_50 h, List.forall_mem_cons.mpr ⟨fun S h => bs_gR (Z := Z) (C := R_M) (T := F_M) (N := 40) (t := 40) (j := 36) hx hb hK hts (fun w h => List.mem_cons_of_mem _ (iw_M w h)) hown rfl rfl (by decide) (hts _ (List.mem_cons_of_mem _ wd_820)) (fun _ h => h) rfl rfl rfl d_M_event_51 h, List.forall_mem_cons.mpr ⟨fun S h => bs_iload_n (Z := Z) hx hb rfl d_M_event_54 h, List.forall_mem_cons.mpr ⟨fun S h => bs_iconst (Z := Z) hx hb (by decide) d_M_event_55 h, List.forall_mem_cons.mpr ⟨fun S h => bs_iadd (Z := Z) hx hb d_M_event_56 h, List.forall_mem_cons.mpr ⟨fun S h => bs_Iald (Z := Z) hx hb ha1 d_M_event_57 h, List.forall_mem_cons.mpr ⟨fun S h => bs_Iast (Z := Z) hx hb ha1 d_M_event_58 h, List.forall_mem_cons.mpr ⟨fun S h => bs_iinc (Z := Z) hx hb (by decide) d_M_event_59 h, List.forall_mem_cons.mpr ⟨fun S h => bs_goto (Z := Z) hx hb d_M_event_62 (by decide) h, List.forall_mem_cons.mpr ⟨fun S h => bs_iload_n (Z := Z) hx hb rfl d_M_event_65 h, fun _ h => absurd h List.not_mem_nil⟩⟩⟩⟩⟩⟩⟩⟩⟩⟩⟩⟩⟩⟩⟩⟩⟩⟩⟩⟩⟩⟩⟩⟩⟩⟩⟩⟩⟩⟩⟩⟩⟩⟩⟩⟩⟩⟩⟩⟩
abbrev c_M_about : ByteArray := prog_10_method_52_code
def y_M_about : MethodName := ⟨"BundleHallModel", "about", "(II)I"⟩
theorem d_M_about_0 : decode c_M_about 0 = .ok (.aload_n 0, 1) := by decide +kernel
theorem d_M_about_1 : decode c_M_about 1 = .ok (.iconst 0, 1) := by decide +kernel
theorem d_M_about_2 : decode c_M_about 2 = .ok (.putfield 109, 3) := by decide +kernel
theorem d_M_about_5 : decode c_M_about 5 = .ok (.iload_n 1, 1) := by decide +kernel
theorem d_M_about_6 : decode c_M_about 6 = .ok (.invokestatic 126, 3) := by decide +kernel
theorem d_M_about_9 : decode c_M_about 9 = .ok (.ifCond .eq 13, 3) := by decide +kernel
theorem d_M_about_12 : decode c_M_about 12 = .ok (.iload_n 2, 1) := by decide +kernel
theorem d_M_about_13 : decode c_M_about 13 = .ok (.iconst 0, 1) := by decide +kernel
theorem d_M_about_14 : decode c_M_about 14 = .ok (.bipush 7, 2) := by decide +kernel
theorem d_M_about_16 : decode c_M_about 16 = .ok (.invokestatic 112, 3) := by decide +kernel
theorem d_M_about_19 : decode c_M_about 19 = .ok (.ifCond .ne 9, 3) := by decide +kernel
theorem d_M_about_22 : decode c_M_about 22 = .ok (.aload_n 0, 1) := by decide +kernel
theorem d_M_about_23 : decode c_M_about 23 = .ok (.iconst 1, 1) := by decide +kernel
theorem d_M_about_24 : decode c_M_about 24 = .ok (.invokevirtual 130, 3) := by decide +kernel
theorem d_M_about_27 : decode c_M_about 27 = .ok (.ireturn, 1) := by decide +kernel
theorem d_M_about_28 : decode c_M_about 28 = .ok (.iload_n 2, 1) := by decide +kernel
theorem d_M_about_29 : decode c_M_about 29 = .ok (.iconst 4, 1) := by decide +kernel
theorem d_M_about_30 : decode c_M_about 30 = .ok (.if_icmp .le 52, 3) := by decide +kernel
theorem d_M_about_33 : decode c_M_about 33 = .ok (.aload_n 0, 1) := by decide +kernel
theorem d_M_about_34 : decode c_M_about 34 = .ok (.getfield 60, 3) := by decide +kernel
theorem d_M_about_37 : decode c_M_about 37 = .ok (.iconst 3, 1) := by decide +kernel
theorem d_M_about_38 : decode c_M_about 38 = .ok (.iload_n 1, 1) := by decide +kernel
theorem d_M_about_39 : decode c_M_about 39 = .ok (.imul, 1) := by decide +kernel
theorem d_M_about_40 : decode c_M_about 40 = .ok (.iload_n 2, 1) := by decide +kernel
theorem d_M_about_41 : decode c_M_about 41 = .ok (.iadd, 1) := by decide +kernel
theorem d_M_about_42 : decode c_M_about 42 = .ok (.iconst 5, 1) := by decide +kernel
theorem d_M_about_43 : decode c_M_about 43 = .ok (.isub, 1) := by decide +kernel
theorem d_M_about_44 : decode c_M_about 44 = .ok (.laload, 1) := by decide +kernel
theorem d_M_about_45 : decode c_M_about 45 = .ok (.lstore_n 3, 1) := by decide +kernel
theorem d_M_about_46 : decode c_M_about 46 = .ok (.lload_n 3, 1) := by decide +kernel
theorem d_M_about_47 : decode c_M_about 47 = .ok (.lconst 0, 1) := by decide +kernel
theorem d_M_about_48 : decode c_M_about 48 = .ok (.lcmp, 1) := by decide +kernel
theorem d_M_about_49 : decode c_M_about 49 = .ok (.ifCond .ge 7, 3) := by decide +kernel
theorem d_M_about_52 : decode c_M_about 52 = .ok (.iconst (-1), 1) := by decide +kernel
theorem d_M_about_53 : decode c_M_about 53 = .ok (.goto 28, 3) := by decide +kernel
theorem d_M_about_56 : decode c_M_about 56 = .ok (.lload_n 3, 1) := by decide +kernel
theorem d_M_about_57 : decode c_M_about 57 = .ok (.ldc2_w 137, 3) := by decide +kernel
theorem d_M_about_60 : decode c_M_about 60 = .ok (.ldiv, 1) := by decide +kernel
theorem d_M_about_61 : decode c_M_about 61 = .ok (.ldc2_w 137, 3) := by decide +kernel
theorem d_M_about_64 : decode c_M_about 64 = .ok (.lrem, 1) := by decide +kernel
theorem d_M_about_65 : decode c_M_about 65 = .ok (.l2i, 1) := by decide +kernel
theorem d_M_about_66 : decode c_M_about 66 = .ok (.aload_n 0, 1) := by decide +kernel
theorem d_M_about_67 : decode c_M_about 67 = .ok (.lload_n 3, 1) := by decide +kernel
theorem d_M_about_68 : decode c_M_about 68 = .ok (.invokevirtual 247, 3) := by decide +kernel
theorem d_M_about_71 : decode c_M_about 71 = .ok (.ifCond .eq 8, 3) := by decide +kernel
theorem d_M_about_74 : decode c_M_about 74 = .ok (.bipush 100, 2) := by decide +kernel
theorem d_M_about_76 : decode c_M_about 76 = .ok (.goto 4, 3) := by decide +kernel
theorem d_M_about_79 : decode c_M_about 79 = .ok (.iconst 0, 1) := by decide +kernel
theorem d_M_about_80 : decode c_M_about 80 = .ok (.iadd, 1) := by decide +kernel
theorem d_M_about_81 : decode c_M_about 81 = .ok (.ireturn, 1) := by decide +kernel
theorem d_M_about_82 : decode c_M_about 82 = .ok (.aload_n 0, 1) := by decide +kernel
theorem d_M_about_83 : decode c_M_about 83 = .ok (.getfield 7, 3) := by decide +kernel
theorem d_M_about_86 : decode c_M_about 86 = .ok (.iload_n 1, 1) := by decide +kernel
theorem d_M_about_87 : decode c_M_about 87 = .ok (.iaload, 1) := by decide +kernel
theorem d_M_about_88 : decode c_M_about 88 = .ok (.ifCond .ne 5, 3) := by decide +kernel
theorem d_M_about_91 : decode c_M_about 91 = .ok (.iconst 0, 1) := by decide +kernel
theorem d_M_about_92 : decode c_M_about 92 = .ok (.ireturn, 1) := by decide +kernel
theorem d_M_about_93 : decode c_M_about 93 = .ok (.iload_n 2, 1) := by decide +kernel
theorem d_M_about_94 : decode c_M_about 94 = .ok (.tableswitch 65 0 3 #[30, 37, 52, 58], 30) := by decide +kernel
theorem d_M_about_124 : decode c_M_about 124 = .ok (.aload_n 0, 1) := by decide +kernel
theorem d_M_about_125 : decode c_M_about 125 = .ok (.getfield 7, 3) := by decide +kernel
theorem d_M_about_128 : decode c_M_about 128 = .ok (.iload_n 1, 1) := by decide +kernel
theorem d_M_about_129 : decode c_M_about 129 = .ok (.iaload, 1) := by decide +kernel
theorem d_M_about_130 : decode c_M_about 130 = .ok (.ireturn, 1) := by decide +kernel
theorem d_M_about_131 : decode c_M_about 131 = .ok (.aload_n 0, 1) := by decide +kernel
theorem d_M_about_132 : decode c_M_about 132 = .ok (.getfield 22, 3) := by decide +kernel
theorem d_M_about_135 : decode c_M_about 135 = .ok (.iload_n 1, 1) := by decide +kernel
theorem d_M_about_136 : decode c_M_about 136 = .ok (.baload, 1) := by decide +kernel
theorem d_M_about_137 : decode c_M_about 137 = .ok (.ifCond .eq 7, 3) := by decide +kernel
theorem d_M_about_140 : decode c_M_about 140 = .ok (.iconst 1, 1) := by decide +kernel
theorem d_M_about_141 : decode c_M_about 141 = .ok (.goto 4, 3) := by decide +kernel
theorem d_M_about_144 : decode c_M_about 144 = .ok (.iconst 0, 1) := by decide +kernel
theorem d_M_about_145 : decode c_M_about 145 = .ok (.ireturn, 1) := by decide +kernel
theorem d_M_about_146 : decode c_M_about 146 = .ok (.aload_n 0, 1) := by decide +kernel
theorem d_M_about_147 : decode c_M_about 147 = .ok (.iload_n 1, 1) := by decide +kernel
theorem d_M_about_148 : decode c_M_about 148 = .ok (.invokevirtual 226, 3) := by decide +kernel
theorem d_M_about_151 : decode c_M_about 151 = .ok (.ireturn, 1) := by decide +kernel
theorem d_M_about_152 : decode c_M_about 152 = .ok (.aload_n 0, 1) := by decide +kernel
theorem d_M_about_153 : decode c_M_about 153 = .ok (.getfield 33, 3) := by decide +kernel
theorem d_M_about_156 : decode c_M_about 156 = .ok (.iload_n 1, 1) := by decide +kernel
theorem d_M_about_157 : decode c_M_about 157 = .ok (.iaload, 1) := by decide +kernel
theorem d_M_about_158 : decode c_M_about 158 = .ok (.ireturn, 1) := by decide +kernel
theorem d_M_about_159 : decode c_M_about 159 = .ok (.aload_n 0, 1) := by decide +kernel
theorem d_M_about_160 : decode c_M_about 160 = .ok (.getfield 45, 3) := by decide +kernel
theorem d_M_about_163 : decode c_M_about 163 = .ok (.iload_n 1, 1) := by decide +kernel
theorem d_M_about_164 : decode c_M_about 164 = .ok (.iaload, 1) := by decide +kernel
theorem d_M_about_165 : decode c_M_about 165 = .ok (.ireturn, 1) := by decide +kernel
theorem bh_sw_M_about_94 : ∀ z : Int32, (0 : Int) ≤ z.toInt → z.toInt ≤ (3 : Int) → ∃ q ∈ ([(0, 124), (1, 131), (2, 146), (3, 152)] : List (Int32 × Nat)), q.1 = z := by
  intro z h1 h2
  have h3 : z.toInt = 0 ∨ z.toInt = 1 ∨ z.toInt = 2 ∨ z.toInt = 3 := by omega
  rcases h3 with h | h | h | h
  · exact ⟨(0, 124), List.mem_of_getElem? (i := 0) rfl, Int32.toInt_inj.mp (by rw [h]; decide)⟩
  · exact ⟨(1, 131), List.mem_of_getElem? (i := 1) rfl, Int32.toInt_inj.mp (by rw [h]; decide)⟩
  · exact ⟨(2, 146), List.mem_of_getElem? (i := 2) rfl, Int32.toInt_inj.mp (by rw [h]; decide)⟩
  · exact ⟨(3, 152), List.mem_of_getElem? (i := 3) rfl, Int32.toInt_inj.mp (by rw [h]; decide)⟩
def T_M_about_0 : List (Nat × bh_Op) := [(0, bo_ald 1 0),
  (1, bo_st 2 (bg_push (.inl (.int 0)))),
  (2, bo_pI 5 40 0),
  (5, bo_ild 6 1),
  (6, bo_callS 9 1 0 0 F_M_isBundle),
  (9, bo_if1 12 22 (fun x => x = 0)),
  (12, bo_ild 13 2),
  (13, bo_st 14 (bg_push (.inl (.int 0)))),
  (14, bo_st 16 (bg_push (.inl (.int 7)))),
  (16, bo_callS 19 3 0 0 F_M_in),
  (19, bo_if1 22 28 (fun x => ¬ x = 0)),
  (22, bo_ald 23 0),
  (23, bo_st 24 (bg_push (.inl (.int 1)))),
  (24, bo_callV 27 2 0 0 40 F_M_raise),
  (27, bo_iret 0),
  (28, bo_ild 29 2),
  (29, bo_st 30 (bg_push (.inl (.int 4)))),
  (30, bo_if2 33 82 (fun x y => x ≤ y)),
  (33, bo_ald 34 0),
  (34, bo_gR 37 40 17 57),
  (37, bo_st 38 (bg_push (.inl (.int 3)))),
  (38, bo_ild 39 1),
  (39, bo_st 40 (bg_ii (fun x y => x * y))),
  (40, bo_ild 41 2),
  (41, bo_st 42 (bg_ii (fun x y => x + y))),
  (42, bo_st 43 (bg_push (.inl (.int 5)))),
  (43, bo_st 44 (bg_ii (fun x y => x - y))),
  (44, bo_Jald bh_ak bh_al 45),
  (45, bo_lst 46 3),
  (46, bo_lld 47 3),
  (47, bo_st 48 (bg_push (.inl (.long 0)))),
  (48, bo_st 49 (bg_lc lg_cmp)),
  (49, bo_if1 52 56 (fun x => 0 ≤ x)),
  (52, bo_st 53 (bg_push (.inl (.int (-1))))),
  (53, bo_go 81),
  (56, bo_lld 57 3),
  (57, bo_st 60 (bg_push (.inl (.long 8)))),
  (60, bo_st 61 (bg_lv (fun x y => x / y))),
  (61, bo_st 64 (bg_push (.inl (.long 8)))),
  (64, bo_st 65 (bg_lv (fun x y => x - x / y * y)))]
def T_M_about_1 : List (Nat × bh_Op) := [(65, bo_st 66 (bg_l1 (fun x => .inl (.int x.toInt32)))),
  (66, bo_ald 67 0),
  (67, bo_lld 68 3),
  (68, bo_callV 71 2 0 0 40 F_M_old),
  (71, bo_if1 74 79 (fun x => x = 0)),
  (74, bo_st 76 (bg_push (.inl (.int 100)))),
  (76, bo_go 80),
  (79, bo_st 80 (bg_push (.inl (.int 0)))),
  (80, bo_st 81 (bg_ii (fun x y => x + y))),
  (81, bo_iret 0),
  (82, bo_ald 83 0),
  (83, bo_gR 86 40 1 41),
  (86, bo_ild 87 1),
  (87, bo_Iald bh_ak bh_al 88),
  (88, bo_if1 91 93 (fun x => ¬ x = 0)),
  (91, bo_st 92 (bg_push (.inl (.int 0)))),
  (92, bo_iret 0),
  (93, bo_ild 94 2),
  (94, bo_sw [(0, 124), (1, 131), (2, 146), (3, 152)] 159),
  (124, bo_ald 125 0),
  (125, bo_gR 128 40 1 41),
  (128, bo_ild 129 1),
  (129, bo_Iald bh_ak bh_al 130),
  (130, bo_iret 0),
  (131, bo_ald 132 0),
  (132, bo_gR 135 40 5 45),
  (135, bo_ild 136 1),
  (136, bo_Zald bh_ak bh_al 137),
  (137, bo_if1 140 144 (fun x => x = 0)),
  (140, bo_st 141 (bg_push (.inl (.int 1)))),
  (141, bo_go 145),
  (144, bo_st 145 (bg_push (.inl (.int 0)))),
  (145, bo_iret 0),
  (146, bo_ald 147 0),
  (147, bo_ild 148 1),
  (148, bo_callV 151 2 0 0 40 F_M_servicesOf),
  (151, bo_iret 0),
  (152, bo_ald 153 0),
  (153, bo_gR 156 40 8 48),
  (156, bo_ild 157 1)]
def T_M_about_2 : List (Nat × bh_Op) := [(157, bo_Iald bh_ak bh_al 158),
  (158, bo_iret 0),
  (159, bo_ald 160 0),
  (160, bo_gR 163 40 12 52),
  (163, bo_ild 164 1),
  (164, bo_Iald bh_ak bh_al 165),
  (165, bo_iret 0)]
def T_M_about : List (Nat × bh_Op) := T_M_about_0 ++ T_M_about_1 ++ T_M_about_2
set_option maxRecDepth 20000 in
theorem mT_M_about_0 : ∀ q ∈ T_M_about_0, bh_mono q.2 := List.forall_mem_cons.mpr ⟨bo_ald_m _ _, List.forall_mem_cons.mpr ⟨bo_st_mono (bg_push_m _), List.forall_mem_cons.mpr ⟨bo_pI_m _ _ _, List.forall_mem_cons.mpr ⟨bo_ild_m _ _, List.forall_mem_cons.mpr ⟨bo_callS_m (mF_M_isBundle) _ _ _ _, List.forall_mem_cons.mpr ⟨bo_if1_m _ _ _, List.forall_mem_cons.mpr ⟨bo_ild_m _ _, List.forall_mem_cons.mpr ⟨bo_st_mono (bg_push_m _), List.forall_mem_cons.mpr ⟨bo_st_mono (bg_push_m _), List.forall_mem_cons.mpr ⟨bo_callS_m (mF_M_in) _ _ _ _, List.forall_mem_cons.mpr ⟨bo_if1_m _ _ _, List.forall_mem_cons.mpr ⟨bo_ald_m _ _, List.forall_mem_cons.mpr ⟨bo_st_mono (bg_push_m _), List.forall_mem_cons.mpr ⟨bo_callV_m (mF_M_raise) _ _ _ _ _, List.forall_mem_cons.mpr ⟨bo_iret_m _, List.forall_mem_cons.mpr ⟨bo_ild_m _ _, List.forall_mem_cons.mpr ⟨bo_st_mono (bg_push_m _), List.forall_mem_cons.mpr ⟨bo_if2_m _ _ _, List.forall_mem_cons.mpr ⟨bo_ald_m _ _, List.forall_mem_cons.mpr ⟨bo_gR_m _ _ _ _, List.forall_mem_cons.mpr ⟨bo_st_mono (bg_push_m _), List.forall_mem_cons.mpr ⟨bo_ild_m _ _, List.forall_mem_cons.mpr ⟨bo_st_mono (bg_ii_m _), List.forall_mem_cons.mpr ⟨bo_ild_m _ _, List.forall_mem_cons.mpr ⟨bo_st_mono (bg_ii_m _), List.forall_mem_cons.mpr ⟨bo_st_mono (bg_push_m _), List.forall_mem_cons.mpr ⟨bo_st_mono (bg_ii_m _), List.forall_mem_cons.mpr ⟨bo_Jald_m _ _ _, List.forall_mem_cons.mpr ⟨bo_lst_m _ _, List.forall_mem_cons.mpr ⟨bo_lld_m _ _, List.forall_mem_cons.mpr ⟨bo_st_mono (bg_push_m _), List.forall_mem_cons.mpr ⟨bo_st_mono (bg_lc_m _), List.forall_mem_cons.mpr ⟨bo_if1_m _ _ _, List.forall_mem_cons.mpr ⟨bo_st_mono (bg_push_m _), List.forall_mem_cons.mpr ⟨bo_go_m _, List.forall_mem_cons.mpr ⟨bo_lld_m _ _, List.forall_mem_cons.mpr ⟨bo_st_mono (bg_push_m _), List.forall_mem_cons.mpr ⟨bo_st_mono (bg_lv_m _), List.forall_mem_cons.mpr ⟨bo_st_mono (bg_push_m _), List.forall_mem_cons.mpr ⟨bo_st_mono (bg_lv_m _), fun _ h => absurd h List.not_mem_nil⟩⟩⟩⟩⟩⟩⟩⟩⟩⟩⟩⟩⟩⟩⟩⟩⟩⟩⟩⟩⟩⟩⟩⟩⟩⟩⟩⟩⟩⟩⟩⟩⟩⟩⟩⟩⟩⟩⟩⟩
set_option maxRecDepth 20000 in
theorem mT_M_about_1 : ∀ q ∈ T_M_about_1, bh_mono q.2 := List.forall_mem_cons.mpr ⟨bo_st_mono (bg_l1_m _), List.forall_mem_cons.mpr ⟨bo_ald_m _ _, List.forall_mem_cons.mpr ⟨bo_lld_m _ _, List.forall_mem_cons.mpr ⟨bo_callV_m (mF_M_old) _ _ _ _ _, List.forall_mem_cons.mpr ⟨bo_if1_m _ _ _, List.forall_mem_cons.mpr ⟨bo_st_mono (bg_push_m _), List.forall_mem_cons.mpr ⟨bo_go_m _, List.forall_mem_cons.mpr ⟨bo_st_mono (bg_push_m _), List.forall_mem_cons.mpr ⟨bo_st_mono (bg_ii_m _), List.forall_mem_cons.mpr ⟨bo_iret_m _, List.forall_mem_cons.mpr ⟨bo_ald_m _ _, List.forall_mem_cons.mpr ⟨bo_gR_m _ _ _ _, List.forall_mem_cons.mpr ⟨bo_ild_m _ _, List.forall_mem_cons.mpr ⟨bo_Iald_m _ _ _, List.forall_mem_cons.mpr ⟨bo_if1_m _ _ _, List.forall_mem_cons.mpr ⟨bo_st_mono (bg_push_m _), List.forall_mem_cons.mpr ⟨bo_iret_m _, List.forall_mem_cons.mpr ⟨bo_ild_m _ _, List.forall_mem_cons.mpr ⟨bo_sw_m _ _, List.forall_mem_cons.mpr ⟨bo_ald_m _ _, List.forall_mem_cons.mpr ⟨bo_gR_m _ _ _ _, List.forall_mem_cons.mpr ⟨bo_ild_m _ _, List.forall_mem_cons.mpr ⟨bo_Iald_m _ _ _, List.forall_mem_cons.mpr ⟨bo_iret_m _, List.forall_mem_cons.mpr ⟨bo_ald_m _ _, List.forall_mem_cons.mpr ⟨bo_gR_m _ _ _ _, List.forall_mem_cons.mpr ⟨bo_ild_m _ _, List.forall_mem_cons.mpr ⟨bo_Zald_m _ _ _, List.forall_mem_cons.mpr ⟨bo_if1_m _ _ _, List.forall_mem_cons.mpr ⟨bo_st_mono (bg_push_m _), List.forall_mem_cons.mpr ⟨bo_go_m _, List.forall_mem_cons.mpr ⟨bo_st_mono (bg_push_m _), List.forall_mem_cons.mpr ⟨bo_iret_m _, List.forall_mem_cons.mpr ⟨bo_ald_m _ _, List.forall_mem_cons.mpr ⟨bo_ild_m _ _, List.forall_mem_cons.mpr ⟨bo_callV_m (mF_M_servicesOf) _ _ _ _ _, List.forall_mem_cons.mpr ⟨bo_iret_m _, List.forall_mem_cons.mpr ⟨bo_ald_m _ _, List.forall_mem_cons.mpr ⟨bo_gR_m _ _ _ _, List.forall_mem_cons.mpr ⟨bo_ild_m _ _, fun _ h => absurd h List.not_mem_nil⟩⟩⟩⟩⟩⟩⟩⟩⟩⟩⟩⟩⟩⟩⟩⟩⟩⟩⟩⟩⟩⟩⟩⟩⟩⟩⟩⟩⟩⟩⟩⟩⟩⟩⟩⟩⟩⟩⟩⟩
set_option maxRecDepth 20000 in
theorem mT_M_about_2 : ∀ q ∈ T_M_about_2, bh_mono q.2 := List.forall_mem_cons.mpr ⟨bo_Iald_m _ _ _, List.forall_mem_cons.mpr ⟨bo_iret_m _, List.forall_mem_cons.mpr ⟨bo_ald_m _ _, List.forall_mem_cons.mpr ⟨bo_gR_m _ _ _ _, List.forall_mem_cons.mpr ⟨bo_ild_m _ _, List.forall_mem_cons.mpr ⟨bo_Iald_m _ _ _, List.forall_mem_cons.mpr ⟨bo_iret_m _, fun _ h => absurd h List.not_mem_nil⟩⟩⟩⟩⟩⟩⟩
theorem m_M_about : ∀ pc, bh_mono (bh_tb (T_M_about) pc) := bh_tb_m (List.forall_mem_append.mpr ⟨(List.forall_mem_append.mpr ⟨mT_M_about_0, mT_M_about_1⟩), mT_M_about_2⟩)
def F_M_about : bh_Fn := bh_fn 5 (bh_tb T_M_about)
theorem mF_M_about : bh_monoF F_M_about := bh_fn_m m_M_about
theorem cl_M_about {s : State} {args : Array Value} (d B : Nat) (hts : ∀ w ∈ bh_ws, w.before args s = true) : bh_Cal (bh_rm (d + 1) B) s y_M_about 5 (.code y_M_about c_M_about 5 (some .int) :: bh_ws) (bh_rm d 0) 0 2 := bh_cal d B hts wd_1112 wd_9 (by decide) (by decide +kernel)
set_option maxHeartbeats 4000000 in
set_option maxRecDepth 100000 in
theorem cn_M_about {l : Launch} {G : bh_G} {base sb L : Nat} {xs : Nat → Int32} (htr : l.stackTraces = false) (d : Nat) : bh_Con l G base (bh_Bg G base sb L xs) y_M_about (.code y_M_about c_M_about 5 (some .int) :: bh_ws) (bh_rm (d + 3) 0) 0 false F_M_about := by
  refine bh_method (cc := c_M_about) (ret := (some .int)) (by decide +kernel) rfl ?_
  intro p e s m args below meth c ad0 M0 Z X0 hr hlocks hname htab hbs hB
  obtain ⟨hx, hb, hml, hown, hts⟩ := id X0
  have hw : ∀ w ∈ bh_ws, w.before args s = true := fun w h => hts w (List.mem_cons_of_mem _ h)
  have hBg := bh_BgK (G := G) (base := base) (sb := sb) (L := L) (xs := xs)
  obtain ⟨hK, hAr, hen, hinj, hu1, hu2, hstr, hX, hsb, hsc, hxw, hao, hnc⟩ := id hB
  obtain ⟨ha1, ha2, ha3, ha4, ha5, ha6, ha0⟩ := bh_arr hAr
  refine List.forall_mem_append.mpr ⟨?_, List.forall_mem_cons.mpr ⟨fun S h => bs_Iald (Z := Z) hx hb ha1 d_M_about_157 h, List.forall_mem_cons.mpr ⟨fun S h => bs_iret (Z := Z) hx hb hr hlocks d_M_about_158 h, List.forall_mem_cons.mpr ⟨fun S h => bs_aload_n (Z := Z) hx hb rfl d_M_about_159 h, List.forall_mem_cons.mpr ⟨fun S h => bs_gR (Z := Z) (C := R_M) (T := F_M) (N := 40) (t := 40) (j := 12) hx hb hK hts (fun w h => List.mem_cons_of_mem _ (iw_M w h)) hown rfl rfl (by decide) (hts _ (List.mem_cons_of_mem _ wd_796)) (fun _ h => h) rfl rfl rfl d_M_about_160 h, List.forall_mem_cons.mpr ⟨fun S h => bs_iload_n (Z := Z) hx hb rfl d_M_about_163 h, List.forall_mem_cons.mpr ⟨fun S h => bs_Iald (Z := Z) hx hb ha1 d_M_about_164 h, List.forall_mem_cons.mpr ⟨fun S h => bs_iret (Z := Z) hx hb hr hlocks d_M_about_165 h, fun _ h => absurd h List.not_mem_nil⟩⟩⟩⟩⟩⟩⟩⟩
  refine List.forall_mem_append.mpr ⟨?_, List.forall_mem_cons.mpr ⟨fun S h => bs_l2i (Z := Z) hx hb d_M_about_65 h, List.forall_mem_cons.mpr ⟨fun S h => bs_aload_n (Z := Z) hx hb rfl d_M_about_66 h, List.forall_mem_cons.mpr ⟨fun S h => bs_lload_n (Z := Z) hx hb rfl d_M_about_67 h, List.forall_mem_cons.mpr ⟨fun S h => bs_callV (Z := Z) (C := R_M) hBg hbs hB X0 hK (cn_M_old htr (d + 1)) (cl_M_old _ _ hw) (hts _ (List.mem_cons_of_mem _ wd_1074)) (hts _ (List.mem_cons_of_mem _ wd_1076)) (hts _ (List.mem_cons_of_mem _ ws_54)) rfl rfl rfl rfl rfl (Nat.le_refl _) (Nat.le_refl _) d_M_about_68 (bs_out htab hlocks) h, List.forall_mem_cons.mpr ⟨fun S h => bs_if_eq (Z := Z) hx hb d_M_about_71 (by decide) h, List.forall_mem_cons.mpr ⟨fun S h => bs_bipush (Z := Z) hx hb (by decide) d_M_about_74 h, List.forall_mem_cons.mpr ⟨fun S h => bs_goto (Z := Z) hx hb d_M_about_76 (by decide) h, List.forall_mem_cons.mpr ⟨fun S h => bs_iconst (Z := Z) hx hb (by decide) d_M_about_79 h, List.forall_mem_cons.mpr ⟨fun S h => bs_iadd (Z := Z) hx hb d_M_about_80 h, List.forall_mem_cons.mpr ⟨fun S h => bs_iret (Z := Z) hx hb hr hlocks d_M_about_81 h, List.forall_mem_cons.mpr ⟨fun S h => bs_aload_n (Z := Z) hx hb rfl d_M_about_82 h, List.forall_mem_cons.mpr ⟨fun S h => bs_gR (Z := Z) (C := R_M) (T := F_M) (N := 40) (t := 40) (j := 1) hx hb hK hts (fun w h => List.mem_cons_of_mem _ (iw_M w h)) hown rfl rfl (by decide) (hts _ (List.mem_cons_of_mem _ wd_785)) (fun _ h => h) rfl rfl rfl d_M_about_83 h, List.forall_mem_cons.mpr ⟨fun S h => bs_iload_n (Z := Z) hx hb rfl d_M_about_86 h, List.forall_mem_cons.mpr ⟨fun S h => bs_Iald (Z := Z) hx hb ha1 d_M_about_87 h, List.forall_mem_cons.mpr ⟨fun S h => bs_if_ne (Z := Z) hx hb d_M_about_88 (by decide) h, List.forall_mem_cons.mpr ⟨fun S h => bs_iconst (Z := Z) hx hb (by decide) d_M_about_91 h, List.forall_mem_cons.mpr ⟨fun S h => bs_iret (Z := Z) hx hb hr hlocks d_M_about_92 h, List.forall_mem_cons.mpr ⟨fun S h => bs_iload_n (Z := Z) hx hb rfl d_M_about_93 h, List.forall_mem_cons.mpr ⟨fun S h => bs_tsw (Z := Z) hx hb d_M_about_94 (by decide) (by decide +kernel) (bh_sw_M_about_94) h, List.forall_mem_cons.mpr ⟨fun S h => bs_aload_n (Z := Z) hx hb rfl d_M_about_124 h, List.forall_mem_cons.mpr ⟨fun S h => bs_gR (Z := Z) (C := R_M) (T := F_M) (N := 40) (t := 40) (j := 1) hx hb hK hts (fun w h => List.mem_cons_of_mem _ (iw_M w h)) hown rfl rfl (by decide) (hts _ (List.mem_cons_of_mem _ wd_785)) (fun _ h => h) rfl rfl rfl d_M_about_125 h, List.forall_mem_cons.mpr ⟨fun S h => bs_iload_n (Z := Z) hx hb rfl d_M_about_128 h, List.forall_mem_cons.mpr ⟨fun S h => bs_Iald (Z := Z) hx hb ha1 d_M_about_129 h, List.forall_mem_cons.mpr ⟨fun S h => bs_iret (Z := Z) hx hb hr hlocks d_M_about_130 h, List.forall_mem_cons.mpr ⟨fun S h => bs_aload_n (Z := Z) hx hb rfl d_M_about_131 h, List.forall_mem_cons.mpr ⟨fun S h => bs_gR (Z := Z) (C := R_M) (T := F_M) (N := 40) (t := 40) (j := 5) hx hb hK hts (fun w h => List.mem_cons_of_mem _ (iw_M w h)) hown rfl rfl (by decide) (hts _ (List.mem_cons_of_mem _ wd_789)) (fun _ h => h) rfl rfl rfl d_M_about_132 h, List.forall_mem_cons.mpr ⟨fun S h => bs_iload_n (Z := Z) hx hb rfl d_M_about_135 h, List.forall_mem_cons.mpr ⟨fun S h => bs_Zald (Z := Z) hx hb ha2 d_M_about_136 h, List.forall_mem_cons.mpr ⟨fun S h => bs_if_eq (Z := Z) hx hb d_M_about_137 (by decide) h, List.forall_mem_cons.mpr ⟨fun S h => bs_iconst (Z := Z) hx hb (by decide) d_M_about_140 h, List.forall_mem_cons.mpr ⟨fun S h => bs_goto (Z := Z) hx hb d_M_about_141 (by decide) h, List.forall_mem_cons.mpr ⟨fun S h => bs_iconst (Z := Z) hx hb (by decide) d_M_about_144 h, List.forall_mem_cons.mpr ⟨fun S h => bs_iret (Z := Z) hx hb hr hlocks d_M_about_145 h, List.forall_mem_cons.mpr ⟨fun S h => bs_aload_n (Z := Z) hx hb rfl d_M_about_146 h, List.forall_mem_cons.mpr ⟨fun S h => bs_iload_n (Z := Z) hx hb rfl d_M_about_147 h, List.forall_mem_cons.mpr ⟨fun S h => bs_callV (Z := Z) (C := R_M) hBg hbs hB X0 hK (cn_M_servicesOf htr (d + 1)) (cl_M_servicesOf _ _ hw) (hts _ (List.mem_cons_of_mem _ wd_1042)) (hts _ (List.mem_cons_of_mem _ wd_1044)) (hts _ (List.mem_cons_of_mem _ ws_50)) rfl rfl rfl rfl rfl (Nat.le_refl _) (Nat.le_refl _) d_M_about_148 (bs_out htab hlocks) h, List.forall_mem_cons.mpr ⟨fun S h => bs_iret (Z := Z) hx hb hr hlocks d_M_about_151 h, List.forall_mem_cons.mpr ⟨fun S h => bs_aload_n (Z := Z) hx hb rfl d_M_about_152 h, List.forall_mem_cons.mpr ⟨fun S h => bs_gR (Z := Z) (C := R_M) (T := F_M) (N := 40) (t := 40) (j := 8) hx hb hK hts (fun w h => List.mem_cons_of_mem _ (iw_M w h)) hown rfl rfl (by decide) (hts _ (List.mem_cons_of_mem _ wd_792)) (fun _ h => h) rfl rfl rfl d_M_about_153 h, List.forall_mem_cons.mpr ⟨fun S h => bs_iload_n (Z := Z) hx hb rfl d_M_about_156 h, fun _ h => absurd h List.not_mem_nil⟩⟩⟩⟩⟩⟩⟩⟩⟩⟩⟩⟩⟩⟩⟩⟩⟩⟩⟩⟩⟩⟩⟩⟩⟩⟩⟩⟩⟩⟩⟩⟩⟩⟩⟩⟩⟩⟩⟩⟩⟩
  exact List.forall_mem_cons.mpr ⟨fun S h => bs_aload_n (Z := Z) hx hb rfl d_M_about_0 h, List.forall_mem_cons.mpr ⟨fun S h => bs_iconst (Z := Z) hx hb (by decide) d_M_about_1 h, List.forall_mem_cons.mpr ⟨fun S h => bs_pI (Z := Z) (C := R_M) (T := F_M) (N := 40) (t := 40) (j := 0) hx hb hK hts (fun w h => List.mem_cons_of_mem _ (iw_M w h)) hown rfl rfl (by decide) (hts _ (List.mem_cons_of_mem _ wd_784)) (fun _ h => h) rfl rfl t_M t_M_ok n_M rfl (by decide +kernel) rfl d_M_about_2 h, List.forall_mem_cons.mpr ⟨fun S h => bs_iload_n (Z := Z) hx hb rfl d_M_about_5 h, List.forall_mem_cons.mpr ⟨fun S h => bs_callS (Z := Z) hBg hbs hB X0 (cn_M_isBundle htr (d + 0)) (cl_M_isBundle _ _ hw) (hts _ (List.mem_cons_of_mem _ wd_915)) (hts _ (List.mem_cons_of_mem _ wd_916)) (Nat.le_refl _) (Nat.le_refl _) d_M_about_6 (bs_out htab hlocks) h, List.forall_mem_cons.mpr ⟨fun S h => bs_if_eq (Z := Z) hx hb d_M_about_9 (by decide) h, List.forall_mem_cons.mpr ⟨fun S h => bs_iload_n (Z := Z) hx hb rfl d_M_about_12 h, List.forall_mem_cons.mpr ⟨fun S h => bs_iconst (Z := Z) hx hb (by decide) d_M_about_13 h, List.forall_mem_cons.mpr ⟨fun S h => bs_bipush (Z := Z) hx hb (by decide) d_M_about_14 h, List.forall_mem_cons.mpr ⟨fun S h => bs_callS (Z := Z) hBg hbs hB X0 (cn_M_in htr (d + 1)) (cl_M_in _ _ hw) (hts _ (List.mem_cons_of_mem _ wd_918)) (hts _ (List.mem_cons_of_mem _ wd_919)) (Nat.le_refl _) (Nat.le_refl _) d_M_about_16 (bs_out htab hlocks) h, List.forall_mem_cons.mpr ⟨fun S h => bs_if_ne (Z := Z) hx hb d_M_about_19 (by decide) h, List.forall_mem_cons.mpr ⟨fun S h => bs_aload_n (Z := Z) hx hb rfl d_M_about_22 h, List.forall_mem_cons.mpr ⟨fun S h => bs_iconst (Z := Z) hx hb (by decide) d_M_about_23 h, List.forall_mem_cons.mpr ⟨fun S h => bs_callV (Z := Z) (C := R_M) hBg hbs hB X0 hK (cn_M_raise htr (d + 1)) (cl_M_raise _ _ hw) (hts _ (List.mem_cons_of_mem _ wd_921)) (hts _ (List.mem_cons_of_mem _ wd_923)) (hts _ (List.mem_cons_of_mem _ ws_25)) rfl rfl rfl rfl rfl (Nat.le_refl _) (Nat.le_refl _) d_M_about_24 (bs_out htab hlocks) h, List.forall_mem_cons.mpr ⟨fun S h => bs_iret (Z := Z) hx hb hr hlocks d_M_about_27 h, List.forall_mem_cons.mpr ⟨fun S h => bs_iload_n (Z := Z) hx hb rfl d_M_about_28 h, List.forall_mem_cons.mpr ⟨fun S h => bs_iconst (Z := Z) hx hb (by decide) d_M_about_29 h, List.forall_mem_cons.mpr ⟨fun S h => bs_icmp_le (Z := Z) hx hb d_M_about_30 (by decide) h, List.forall_mem_cons.mpr ⟨fun S h => bs_aload_n (Z := Z) hx hb rfl d_M_about_33 h, List.forall_mem_cons.mpr ⟨fun S h => bs_gR (Z := Z) (C := R_M) (T := F_M) (N := 40) (t := 40) (j := 17) hx hb hK hts (fun w h => List.mem_cons_of_mem _ (iw_M w h)) hown rfl rfl (by decide) (hts _ (List.mem_cons_of_mem _ wd_801)) (fun _ h => h) rfl rfl rfl d_M_about_34 h, List.forall_mem_cons.mpr ⟨fun S h => bs_iconst (Z := Z) hx hb (by decide) d_M_about_37 h, List.forall_mem_cons.mpr ⟨fun S h => bs_iload_n (Z := Z) hx hb rfl d_M_about_38 h, List.forall_mem_cons.mpr ⟨fun S h => bs_imul (Z := Z) hx hb d_M_about_39 h, List.forall_mem_cons.mpr ⟨fun S h => bs_iload_n (Z := Z) hx hb rfl d_M_about_40 h, List.forall_mem_cons.mpr ⟨fun S h => bs_iadd (Z := Z) hx hb d_M_about_41 h, List.forall_mem_cons.mpr ⟨fun S h => bs_iconst (Z := Z) hx hb (by decide) d_M_about_42 h, List.forall_mem_cons.mpr ⟨fun S h => bs_isub (Z := Z) hx hb d_M_about_43 h, List.forall_mem_cons.mpr ⟨fun S h => bs_Jald (Z := Z) hx hb ha3 d_M_about_44 h, List.forall_mem_cons.mpr ⟨fun S h => bs_lstore_n (Z := Z) hx hb rfl d_M_about_45 h, List.forall_mem_cons.mpr ⟨fun S h => bs_lload_n (Z := Z) hx hb rfl d_M_about_46 h, List.forall_mem_cons.mpr ⟨fun S h => bs_lconst (Z := Z) hx hb (by decide) d_M_about_47 h, List.forall_mem_cons.mpr ⟨fun S h => bs_lcmp (Z := Z) hx hb d_M_about_48 h, List.forall_mem_cons.mpr ⟨fun S h => bs_if_ge (Z := Z) hx hb d_M_about_49 (by decide) h, List.forall_mem_cons.mpr ⟨fun S h => bs_iconst (Z := Z) hx hb (by decide) d_M_about_52 h, List.forall_mem_cons.mpr ⟨fun S h => bs_goto (Z := Z) hx hb d_M_about_53 (by decide) h, List.forall_mem_cons.mpr ⟨fun S h => bs_lload_n (Z := Z) hx hb rfl d_M_about_56 h, List.forall_mem_cons.mpr ⟨fun S h => bs_ldcl (Z := Z) hx hb hown (hts _ (List.mem_cons_of_mem _ wd_997)) d_M_about_57 h, List.forall_mem_cons.mpr ⟨fun S h => bs_ldiv (Z := Z) hx hb d_M_about_60 h, List.forall_mem_cons.mpr ⟨fun S h => bs_ldcl (Z := Z) hx hb hown (hts _ (List.mem_cons_of_mem _ wd_997)) d_M_about_61 h, List.forall_mem_cons.mpr ⟨fun S h => bs_lrem (Z := Z) hx hb d_M_about_64 h, fun _ h => absurd h List.not_mem_nil⟩⟩⟩⟩⟩⟩⟩⟩⟩⟩⟩⟩⟩⟩⟩⟩⟩⟩⟩⟩⟩⟩⟩⟩⟩⟩⟩⟩⟩⟩⟩⟩⟩⟩⟩⟩⟩⟩⟩⟩
abbrev c_M_count : ByteArray := prog_10_method_53_code
def y_M_count : MethodName := ⟨"BundleHallModel", "count", "(I)I"⟩
theorem d_M_count_0 : decode c_M_count 0 = .ok (.aload_n 0, 1) := by decide +kernel
theorem d_M_count_1 : decode c_M_count 1 = .ok (.iconst 0, 1) := by decide +kernel
theorem d_M_count_2 : decode c_M_count 2 = .ok (.putfield 109, 3) := by decide +kernel
theorem d_M_count_5 : decode c_M_count 5 = .ok (.iload_n 1, 1) := by decide +kernel
theorem d_M_count_6 : decode c_M_count 6 = .ok (.tableswitch 68 0 5 #[38, 43, 48, 53, 58, 63], 38) := by decide +kernel
theorem d_M_count_44 : decode c_M_count 44 = .ok (.aload_n 0, 1) := by decide +kernel
theorem d_M_count_45 : decode c_M_count 45 = .ok (.getfield 103, 3) := by decide +kernel
theorem d_M_count_48 : decode c_M_count 48 = .ok (.ireturn, 1) := by decide +kernel
theorem d_M_count_49 : decode c_M_count 49 = .ok (.aload_n 0, 1) := by decide +kernel
theorem d_M_count_50 : decode c_M_count 50 = .ok (.getfield 207, 3) := by decide +kernel
theorem d_M_count_53 : decode c_M_count 53 = .ok (.ireturn, 1) := by decide +kernel
theorem d_M_count_54 : decode c_M_count 54 = .ok (.aload_n 0, 1) := by decide +kernel
theorem d_M_count_55 : decode c_M_count 55 = .ok (.getfield 116, 3) := by decide +kernel
theorem d_M_count_58 : decode c_M_count 58 = .ok (.ireturn, 1) := by decide +kernel
theorem d_M_count_59 : decode c_M_count 59 = .ok (.aload_n 0, 1) := by decide +kernel
theorem d_M_count_60 : decode c_M_count 60 = .ok (.getfield 119, 3) := by decide +kernel
theorem d_M_count_63 : decode c_M_count 63 = .ok (.ireturn, 1) := by decide +kernel
theorem d_M_count_64 : decode c_M_count 64 = .ok (.aload_n 0, 1) := by decide +kernel
theorem d_M_count_65 : decode c_M_count 65 = .ok (.getfield 176, 3) := by decide +kernel
theorem d_M_count_68 : decode c_M_count 68 = .ok (.ireturn, 1) := by decide +kernel
theorem d_M_count_69 : decode c_M_count 69 = .ok (.aload_n 0, 1) := by decide +kernel
theorem d_M_count_70 : decode c_M_count 70 = .ok (.getfield 194, 3) := by decide +kernel
theorem d_M_count_73 : decode c_M_count 73 = .ok (.ireturn, 1) := by decide +kernel
theorem d_M_count_74 : decode c_M_count 74 = .ok (.aload_n 0, 1) := by decide +kernel
theorem d_M_count_75 : decode c_M_count 75 = .ok (.iconst 1, 1) := by decide +kernel
theorem d_M_count_76 : decode c_M_count 76 = .ok (.invokevirtual 130, 3) := by decide +kernel
theorem d_M_count_79 : decode c_M_count 79 = .ok (.ireturn, 1) := by decide +kernel
theorem bh_sw_M_count_6 : ∀ z : Int32, (0 : Int) ≤ z.toInt → z.toInt ≤ (5 : Int) → ∃ q ∈ ([(0, 44), (1, 49), (2, 54), (3, 59), (4, 64), (5, 69)] : List (Int32 × Nat)), q.1 = z := by
  intro z h1 h2
  have h3 : z.toInt = 0 ∨ z.toInt = 1 ∨ z.toInt = 2 ∨ z.toInt = 3 ∨ z.toInt = 4 ∨ z.toInt = 5 := by omega
  rcases h3 with h | h | h | h | h | h
  · exact ⟨(0, 44), List.mem_of_getElem? (i := 0) rfl, Int32.toInt_inj.mp (by rw [h]; decide)⟩
  · exact ⟨(1, 49), List.mem_of_getElem? (i := 1) rfl, Int32.toInt_inj.mp (by rw [h]; decide)⟩
  · exact ⟨(2, 54), List.mem_of_getElem? (i := 2) rfl, Int32.toInt_inj.mp (by rw [h]; decide)⟩
  · exact ⟨(3, 59), List.mem_of_getElem? (i := 3) rfl, Int32.toInt_inj.mp (by rw [h]; decide)⟩
  · exact ⟨(4, 64), List.mem_of_getElem? (i := 4) rfl, Int32.toInt_inj.mp (by rw [h]; decide)⟩
  · exact ⟨(5, 69), List.mem_of_getElem? (i := 5) rfl, Int32.toInt_inj.mp (by rw [h]; decide)⟩
def T_M_count_0 : List (Nat × bh_Op) := [(0, bo_ald 1 0),
  (1, bo_st 2 (bg_push (.inl (.int 0)))),
  (2, bo_pI 5 40 0),
  (5, bo_ild 6 1),
  (6, bo_sw [(0, 44), (1, 49), (2, 54), (3, 59), (4, 64), (5, 69)] 74),
  (44, bo_ald 45 0),
  (45, bo_gI 48 40 39),
  (48, bo_iret 0),
  (49, bo_ald 50 0),
  (50, bo_gI 53 40 34),
  (53, bo_iret 0),
  (54, bo_ald 55 0),
  (55, bo_gI 58 40 37),
  (58, bo_iret 0),
  (59, bo_ald 60 0),
  (60, bo_gI 63 40 38),
  (63, bo_iret 0),
  (64, bo_ald 65 0),
  (65, bo_gI 68 40 27),
  (68, bo_iret 0),
  (69, bo_ald 70 0),
  (70, bo_gI 73 40 28),
  (73, bo_iret 0),
  (74, bo_ald 75 0),
  (75, bo_st 76 (bg_push (.inl (.int 1)))),
  (76, bo_callV 79 2 0 0 40 F_M_raise),
  (79, bo_iret 0)]
def T_M_count : List (Nat × bh_Op) := T_M_count_0
set_option maxRecDepth 20000 in
theorem mT_M_count_0 : ∀ q ∈ T_M_count_0, bh_mono q.2 := List.forall_mem_cons.mpr ⟨bo_ald_m _ _, List.forall_mem_cons.mpr ⟨bo_st_mono (bg_push_m _), List.forall_mem_cons.mpr ⟨bo_pI_m _ _ _, List.forall_mem_cons.mpr ⟨bo_ild_m _ _, List.forall_mem_cons.mpr ⟨bo_sw_m _ _, List.forall_mem_cons.mpr ⟨bo_ald_m _ _, List.forall_mem_cons.mpr ⟨bo_gI_m _ _ _, List.forall_mem_cons.mpr ⟨bo_iret_m _, List.forall_mem_cons.mpr ⟨bo_ald_m _ _, List.forall_mem_cons.mpr ⟨bo_gI_m _ _ _, List.forall_mem_cons.mpr ⟨bo_iret_m _, List.forall_mem_cons.mpr ⟨bo_ald_m _ _, List.forall_mem_cons.mpr ⟨bo_gI_m _ _ _, List.forall_mem_cons.mpr ⟨bo_iret_m _, List.forall_mem_cons.mpr ⟨bo_ald_m _ _, List.forall_mem_cons.mpr ⟨bo_gI_m _ _ _, List.forall_mem_cons.mpr ⟨bo_iret_m _, List.forall_mem_cons.mpr ⟨bo_ald_m _ _, List.forall_mem_cons.mpr ⟨bo_gI_m _ _ _, List.forall_mem_cons.mpr ⟨bo_iret_m _, List.forall_mem_cons.mpr ⟨bo_ald_m _ _, List.forall_mem_cons.mpr ⟨bo_gI_m _ _ _, List.forall_mem_cons.mpr ⟨bo_iret_m _, List.forall_mem_cons.mpr ⟨bo_ald_m _ _, List.forall_mem_cons.mpr ⟨bo_st_mono (bg_push_m _), List.forall_mem_cons.mpr ⟨bo_callV_m (mF_M_raise) _ _ _ _ _, List.forall_mem_cons.mpr ⟨bo_iret_m _, fun _ h => absurd h List.not_mem_nil⟩⟩⟩⟩⟩⟩⟩⟩⟩⟩⟩⟩⟩⟩⟩⟩⟩⟩⟩⟩⟩⟩⟩⟩⟩⟩⟩
theorem m_M_count : ∀ pc, bh_mono (bh_tb (T_M_count) pc) := bh_tb_m mT_M_count_0
def F_M_count : bh_Fn := bh_fn 2 (bh_tb T_M_count)
theorem mF_M_count : bh_monoF F_M_count := bh_fn_m m_M_count
theorem cl_M_count {s : State} {args : Array Value} (d B : Nat) (hts : ∀ w ∈ bh_ws, w.before args s = true) : bh_Cal (bh_rm (d + 1) B) s y_M_count 2 (.code y_M_count c_M_count 2 (some .int) :: bh_ws) (bh_rm d 0) 0 1 := bh_cal d B hts wd_1116 wd_9 (by decide) (by decide +kernel)
set_option maxHeartbeats 4000000 in
set_option maxRecDepth 100000 in
theorem cn_M_count {l : Launch} {G : bh_G} {base sb L : Nat} {xs : Nat → Int32} (htr : l.stackTraces = false) (d : Nat) : bh_Con l G base (bh_Bg G base sb L xs) y_M_count (.code y_M_count c_M_count 2 (some .int) :: bh_ws) (bh_rm (d + 2) 0) 0 false F_M_count := by
  refine bh_method (cc := c_M_count) (ret := (some .int)) (by decide +kernel) rfl ?_
  intro p e s m args below meth c ad0 M0 Z X0 hr hlocks hname htab hbs hB
  obtain ⟨hx, hb, hml, hown, hts⟩ := id X0
  have hw : ∀ w ∈ bh_ws, w.before args s = true := fun w h => hts w (List.mem_cons_of_mem _ h)
  have hBg := bh_BgK (G := G) (base := base) (sb := sb) (L := L) (xs := xs)
  obtain ⟨hK, hAr, hen, hinj, hu1, hu2, hstr, hX, hsb, hsc, hxw, hao, hnc⟩ := id hB
  obtain ⟨ha1, ha2, ha3, ha4, ha5, ha6, ha0⟩ := bh_arr hAr
  exact List.forall_mem_cons.mpr ⟨fun S h => bs_aload_n (Z := Z) hx hb rfl d_M_count_0 h, List.forall_mem_cons.mpr ⟨fun S h => bs_iconst (Z := Z) hx hb (by decide) d_M_count_1 h, List.forall_mem_cons.mpr ⟨fun S h => bs_pI (Z := Z) (C := R_M) (T := F_M) (N := 40) (t := 40) (j := 0) hx hb hK hts (fun w h => List.mem_cons_of_mem _ (iw_M w h)) hown rfl rfl (by decide) (hts _ (List.mem_cons_of_mem _ wd_784)) (fun _ h => h) rfl rfl t_M t_M_ok n_M rfl (by decide +kernel) rfl d_M_count_2 h, List.forall_mem_cons.mpr ⟨fun S h => bs_iload_n (Z := Z) hx hb rfl d_M_count_5 h, List.forall_mem_cons.mpr ⟨fun S h => bs_tsw (Z := Z) hx hb d_M_count_6 (by decide) (by decide +kernel) (bh_sw_M_count_6) h, List.forall_mem_cons.mpr ⟨fun S h => bs_aload_n (Z := Z) hx hb rfl d_M_count_44 h, List.forall_mem_cons.mpr ⟨fun S h => bs_gI (Z := Z) (C := R_M) (T := F_M) (N := 40) (t := 40) (j := 39) hx hb hK hts (fun w h => List.mem_cons_of_mem _ (iw_M w h)) hown rfl rfl (by decide) (hts _ (List.mem_cons_of_mem _ wd_823)) (fun _ h => h) rfl rfl rfl d_M_count_45 h, List.forall_mem_cons.mpr ⟨fun S h => bs_iret (Z := Z) hx hb hr hlocks d_M_count_48 h, List.forall_mem_cons.mpr ⟨fun S h => bs_aload_n (Z := Z) hx hb rfl d_M_count_49 h, List.forall_mem_cons.mpr ⟨fun S h => bs_gI (Z := Z) (C := R_M) (T := F_M) (N := 40) (t := 40) (j := 34) hx hb hK hts (fun w h => List.mem_cons_of_mem _ (iw_M w h)) hown rfl rfl (by decide) (hts _ (List.mem_cons_of_mem _ wd_818)) (fun _ h => h) rfl rfl rfl d_M_count_50 h, List.forall_mem_cons.mpr ⟨fun S h => bs_iret (Z := Z) hx hb hr hlocks d_M_count_53 h, List.forall_mem_cons.mpr ⟨fun S h => bs_aload_n (Z := Z) hx hb rfl d_M_count_54 h, List.forall_mem_cons.mpr ⟨fun S h => bs_gI (Z := Z) (C := R_M) (T := F_M) (N := 40) (t := 40) (j := 37) hx hb hK hts (fun w h => List.mem_cons_of_mem _ (iw_M w h)) hown rfl rfl (by decide) (hts _ (List.mem_cons_of_mem _ wd_821)) (fun _ h => h) rfl rfl rfl d_M_count_55 h, List.forall_mem_cons.mpr ⟨fun S h => bs_iret (Z := Z) hx hb hr hlocks d_M_count_58 h, List.forall_mem_cons.mpr ⟨fun S h => bs_aload_n (Z := Z) hx hb rfl d_M_count_59 h, List.forall_mem_cons.mpr ⟨fun S h => bs_gI (Z := Z) (C := R_M) (T := F_M) (N := 40) (t := 40) (j := 38) hx hb hK hts (fun w h => List.mem_cons_of_mem _ (iw_M w h)) hown rfl rfl (by decide) (hts _ (List.mem_cons_of_mem _ wd_822)) (fun _ h => h) rfl rfl rfl d_M_count_60 h, List.forall_mem_cons.mpr ⟨fun S h => bs_iret (Z := Z) hx hb hr hlocks d_M_count_63 h, List.forall_mem_cons.mpr ⟨fun S h => bs_aload_n (Z := Z) hx hb rfl d_M_count_64 h, List.forall_mem_cons.mpr ⟨fun S h => bs_gI (Z := Z) (C := R_M) (T := F_M) (N := 40) (t := 40) (j := 27) hx hb hK hts (fun w h => List.mem_cons_of_mem _ (iw_M w h)) hown rfl rfl (by decide) (hts _ (List.mem_cons_of_mem _ wd_811)) (fun _ h => h) rfl rfl rfl d_M_count_65 h, List.forall_mem_cons.mpr ⟨fun S h => bs_iret (Z := Z) hx hb hr hlocks d_M_count_68 h, List.forall_mem_cons.mpr ⟨fun S h => bs_aload_n (Z := Z) hx hb rfl d_M_count_69 h, List.forall_mem_cons.mpr ⟨fun S h => bs_gI (Z := Z) (C := R_M) (T := F_M) (N := 40) (t := 40) (j := 28) hx hb hK hts (fun w h => List.mem_cons_of_mem _ (iw_M w h)) hown rfl rfl (by decide) (hts _ (List.mem_cons_of_mem _ wd_812)) (fun _ h => h) rfl rfl rfl d_M_count_70 h, List.forall_mem_cons.mpr ⟨fun S h => bs_iret (Z := Z) hx hb hr hlocks d_M_count_73 h, List.forall_mem_cons.mpr ⟨fun S h => bs_aload_n (Z := Z) hx hb rfl d_M_count_74 h, List.forall_mem_cons.mpr ⟨fun S h => bs_iconst (Z := Z) hx hb (by decide) d_M_count_75 h, List.forall_mem_cons.mpr ⟨fun S h => bs_callV (Z := Z) (C := R_M) hBg hbs hB X0 hK (cn_M_raise htr (d + 0)) (cl_M_raise _ _ hw) (hts _ (List.mem_cons_of_mem _ wd_921)) (hts _ (List.mem_cons_of_mem _ wd_923)) (hts _ (List.mem_cons_of_mem _ ws_25)) rfl rfl rfl rfl rfl (Nat.le_refl _) (Nat.le_refl _) d_M_count_76 (bs_out htab hlocks) h, List.forall_mem_cons.mpr ⟨fun S h => bs_iret (Z := Z) hx hb hr hlocks d_M_count_79 h, fun _ h => absurd h List.not_mem_nil⟩⟩⟩⟩⟩⟩⟩⟩⟩⟩⟩⟩⟩⟩⟩⟩⟩⟩⟩⟩⟩⟩⟩⟩⟩⟩⟩
