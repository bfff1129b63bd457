abbrev c_R_keyOf : ByteArray := prog_6_method_7_code
def y_R_keyOf : MethodName := ⟨"BundleHall$Resolver", "keyOf", "(LBundleHall$Bundle;LBundleHall$Manifest;I)I"⟩
theorem d_R_keyOf_0 : decode c_R_keyOf 0 = .ok (.aload_n 0, 1) := by decide +kernel
theorem d_R_keyOf_1 : decode c_R_keyOf 1 = .ok (.getfield 65, 3) := by decide +kernel
theorem d_R_keyOf_4 : decode c_R_keyOf 4 = .ok (.aload_n 1, 1) := by decide +kernel
theorem d_R_keyOf_5 : decode c_R_keyOf 5 = .ok (.iload_n 2, 1) := by decide +kernel
theorem d_R_keyOf_6 : decode c_R_keyOf 6 = .ok (.invokevirtual 106, 3) := by decide +kernel
theorem d_R_keyOf_9 : decode c_R_keyOf 9 = .ok (.istore_n 3, 1) := by decide +kernel
theorem d_R_keyOf_10 : decode c_R_keyOf 10 = .ok (.aload_n 0, 1) := by decide +kernel
theorem d_R_keyOf_11 : decode c_R_keyOf 11 = .ok (.getfield 87, 3) := by decide +kernel
theorem d_R_keyOf_14 : decode c_R_keyOf 14 = .ok (.ifCond .eq 8, 3) := by decide +kernel
theorem d_R_keyOf_17 : decode c_R_keyOf 17 = .ok (.iload_n 3, 1) := by decide +kernel
theorem d_R_keyOf_18 : decode c_R_keyOf 18 = .ok (.iconst (-1), 1) := by decide +kernel
theorem d_R_keyOf_19 : decode c_R_keyOf 19 = .ok (.if_icmp .ne 7, 3) := by decide +kernel
theorem d_R_keyOf_22 : decode c_R_keyOf 22 = .ok (.sipush 160, 3) := by decide +kernel
theorem d_R_keyOf_25 : decode c_R_keyOf 25 = .ok (.ireturn, 1) := by decide +kernel
theorem d_R_keyOf_26 : decode c_R_keyOf 26 = .ok (.aload_n 0, 1) := by decide +kernel
theorem d_R_keyOf_27 : decode c_R_keyOf 27 = .ok (.invokevirtual 102, 3) := by decide +kernel
theorem d_R_keyOf_30 : decode c_R_keyOf 30 = .ok (.ifCond .eq 7, 3) := by decide +kernel
theorem d_R_keyOf_33 : decode c_R_keyOf 33 = .ok (.iconst 0, 1) := by decide +kernel
theorem d_R_keyOf_34 : decode c_R_keyOf 34 = .ok (.goto 4, 3) := by decide +kernel
theorem d_R_keyOf_37 : decode c_R_keyOf 37 = .ok (.iconst 1, 1) := by decide +kernel
theorem d_R_keyOf_38 : decode c_R_keyOf 38 = .ok (.istore 4, 2) := by decide +kernel
theorem d_R_keyOf_40 : decode c_R_keyOf 40 = .ok (.iload 4, 2) := by decide +kernel
theorem d_R_keyOf_42 : decode c_R_keyOf 42 = .ok (.bipush 10, 2) := by decide +kernel
theorem d_R_keyOf_44 : decode c_R_keyOf 44 = .ok (.imul, 1) := by decide +kernel
theorem d_R_keyOf_45 : decode c_R_keyOf 45 = .ok (.bipush 10, 2) := by decide +kernel
theorem d_R_keyOf_47 : decode c_R_keyOf 47 = .ok (.iadd, 1) := by decide +kernel
theorem d_R_keyOf_48 : decode c_R_keyOf 48 = .ok (.iconst 1, 1) := by decide +kernel
theorem d_R_keyOf_49 : decode c_R_keyOf 49 = .ok (.isub, 1) := by decide +kernel
theorem d_R_keyOf_50 : decode c_R_keyOf 50 = .ok (.iload_n 3, 1) := by decide +kernel
theorem d_R_keyOf_51 : decode c_R_keyOf 51 = .ok (.isub, 1) := by decide +kernel
theorem d_R_keyOf_52 : decode c_R_keyOf 52 = .ok (.bipush 8, 2) := by decide +kernel
theorem d_R_keyOf_54 : decode c_R_keyOf 54 = .ok (.imul, 1) := by decide +kernel
theorem d_R_keyOf_55 : decode c_R_keyOf 55 = .ok (.aload_n 0, 1) := by decide +kernel
theorem d_R_keyOf_56 : decode c_R_keyOf 56 = .ok (.getfield 60, 3) := by decide +kernel
theorem d_R_keyOf_59 : decode c_R_keyOf 59 = .ok (.iadd, 1) := by decide +kernel
theorem d_R_keyOf_60 : decode c_R_keyOf 60 = .ok (.ireturn, 1) := by decide +kernel
def T_R_keyOf_0 : List (Nat × bh_Op) := [(0, bo_ald 1 0),
  (1, bo_gR 4 5 1 7),
  (4, bo_ald 5 1),
  (5, bo_ild 6 2),
  (6, bo_callV 9 3 0 0 7 F_F_versionFor),
  (9, bo_ist 10 3),
  (10, bo_ald 11 0),
  (11, bo_gI 14 5 3),
  (14, bo_if1 17 22 (fun x => x = 0)),
  (17, bo_ild 18 3),
  (18, bo_st 19 (bg_push (.inl (.int (-1))))),
  (19, bo_if2 22 26 (fun x y => ¬ x = y)),
  (22, bo_st 25 (bg_push (.inl (.int 160)))),
  (25, bo_iret 0),
  (26, bo_ald 27 0),
  (27, bo_callV 30 1 0 0 5 F_B_isResolved),
  (30, bo_if1 33 37 (fun x => x = 0)),
  (33, bo_st 34 (bg_push (.inl (.int 0)))),
  (34, bo_go 38),
  (37, bo_st 38 (bg_push (.inl (.int 1)))),
  (38, bo_ist 40 4),
  (40, bo_ild 42 4),
  (42, bo_st 44 (bg_push (.inl (.int 10)))),
  (44, bo_st 45 (bg_ii (fun x y => x * y))),
  (45, bo_st 47 (bg_push (.inl (.int 10)))),
  (47, bo_st 48 (bg_ii (fun x y => x + y))),
  (48, bo_st 49 (bg_push (.inl (.int 1)))),
  (49, bo_st 50 (bg_ii (fun x y => x - y))),
  (50, bo_ild 51 3),
  (51, bo_st 52 (bg_ii (fun x y => x - y))),
  (52, bo_st 54 (bg_push (.inl (.int 8)))),
  (54, bo_st 55 (bg_ii (fun x y => x * y))),
  (55, bo_ald 56 0),
  (56, bo_gI 59 5 0),
  (59, bo_st 60 (bg_ii (fun x y => x + y))),
  (60, bo_iret 0)]
def T_R_keyOf : List (Nat × bh_Op) := T_R_keyOf_0
set_option maxRecDepth 20000 in
theorem mT_R_keyOf_0 : ∀ q ∈ T_R_keyOf_0, bh_mono q.2 := List.forall_mem_cons.mpr ⟨bo_ald_m _ _, List.forall_mem_cons.mpr ⟨bo_gR_m _ _ _ _, List.forall_mem_cons.mpr ⟨bo_ald_m _ _, List.forall_mem_cons.mpr ⟨bo_ild_m _ _, List.forall_mem_cons.mpr ⟨bo_callV_m (mF_F_versionFor) _ _ _ _ _, List.forall_mem_cons.mpr ⟨bo_ist_m _ _, List.forall_mem_cons.mpr ⟨bo_ald_m _ _, List.forall_mem_cons.mpr ⟨bo_gI_m _ _ _, List.forall_mem_cons.mpr ⟨bo_if1_m _ _ _, List.forall_mem_cons.mpr ⟨bo_ild_m _ _, List.forall_mem_cons.mpr ⟨bo_st_mono (bg_push_m _), List.forall_mem_cons.mpr ⟨bo_if2_m _ _ _, List.forall_mem_cons.mpr ⟨bo_st_mono (bg_push_m _), List.forall_mem_cons.mpr ⟨bo_iret_m _, List.forall_mem_cons.mpr ⟨bo_ald_m _ _, List.forall_mem_cons.mpr ⟨bo_callV_m (mF_B_isResolved) _ _ _ _ _, List.forall_mem_cons.mpr ⟨bo_if1_m _ _ _, List.forall_mem_cons.mpr ⟨bo_st_mono (bg_push_m _), List.forall_mem_cons.mpr ⟨bo_go_m _, List.forall_mem_cons.mpr ⟨bo_st_mono (bg_push_m _), List.forall_mem_cons.mpr ⟨bo_ist_m _ _, List.forall_mem_cons.mpr ⟨bo_ild_m _ _, List.forall_mem_cons.mpr ⟨bo_st_mono (bg_push_m _), List.forall_mem_cons.mpr ⟨bo_st_mono (bg_ii_m _), List.forall_mem_cons.mpr ⟨bo_st_mono (bg_push_m _), List.forall_mem_cons.mpr ⟨bo_st_mono (bg_ii_m _), List.forall_mem_cons.mpr ⟨bo_st_mono (bg_push_m _), List.forall_mem_cons.mpr ⟨bo_st_mono (bg_ii_m _), List.forall_mem_cons.mpr ⟨bo_ild_m _ _, List.forall_mem_cons.mpr ⟨bo_st_mono (bg_ii_m _), List.forall_mem_cons.mpr ⟨bo_st_mono (bg_push_m _), List.forall_mem_cons.mpr ⟨bo_st_mono (bg_ii_m _), List.forall_mem_cons.mpr ⟨bo_ald_m _ _, List.forall_mem_cons.mpr ⟨bo_gI_m _ _ _, List.forall_mem_cons.mpr ⟨bo_st_mono (bg_ii_m _), List.forall_mem_cons.mpr ⟨bo_iret_m _, fun _ h => absurd h List.not_mem_nil⟩⟩⟩⟩⟩⟩⟩⟩⟩⟩⟩⟩⟩⟩⟩⟩⟩⟩⟩⟩⟩⟩⟩⟩⟩⟩⟩⟩⟩⟩⟩⟩⟩⟩⟩⟩
theorem m_R_keyOf : ∀ pc, bh_mono (bh_tb (T_R_keyOf) pc) := bh_tb_m mT_R_keyOf_0
def F_R_keyOf : bh_Fn := bh_fn 5 (bh_tb T_R_keyOf)
theorem mF_R_keyOf : bh_monoF F_R_keyOf := bh_fn_m m_R_keyOf
theorem cl_R_keyOf {s : State} {args : Array Value} (d B : Nat) (hts : ∀ w ∈ bh_ws, w.before args s = true) : bh_Cal (bh_rm (d + 1) B) s y_R_keyOf 5 (.code y_R_keyOf c_R_keyOf 5 (some .int) :: bh_ws) (bh_rm d 0) 0 3 := bh_cal d B hts wd_322 wd_5 (by decide) (by decide +kernel)
set_option maxHeartbeats 4000000 in
set_option maxRecDepth 100000 in
theorem cn_R_keyOf {l : Launch} {G : bh_G} {base sb L : Nat} {xs : Nat → Int32} (htr : l.stackTraces = false) (d : Nat) : bh_Con l G base (bh_Bg G base sb L xs) y_R_keyOf (.code y_R_keyOf c_R_keyOf 5 (some .int) :: bh_ws) (bh_rm (d + 2) 0) 0 false F_R_keyOf := by
  refine bh_method (cc := c_R_keyOf) (ret := (some .int)) (by decide +kernel) rfl ?_
  intro p e s m args below meth c ad0 M0 Z X0 hr hlocks hname htab hbs hB
  obtain ⟨hx, hb, hml, hown, hts⟩ := id X0
  have hw : ∀ w ∈ bh_ws, w.before args s = true := fun w h => hts w (List.mem_cons_of_mem _ h)
  have hBg := bh_BgK (G := G) (base := base) (sb := sb) (L := L) (xs := xs)
  obtain ⟨hK, hAr, hen, hinj, hu1, hu2, hstr, hX, hsb, hsc, hxw, hao, hnc⟩ := id hB
  obtain ⟨ha1, ha2, ha3, ha4, ha5, ha6, ha0⟩ := bh_arr hAr
  exact List.forall_mem_cons.mpr ⟨fun S h => bs_aload_n (Z := Z) hx hb rfl d_R_keyOf_0 h, List.forall_mem_cons.mpr ⟨fun S h => bs_gR (Z := Z) (C := R_B) (T := F_B) (N := 10) (t := 5) (j := 1) hx hb hK hts (fun w h => List.mem_cons_of_mem _ (iw_B w h)) hown rfl rfl (by decide) (hts _ (List.mem_cons_of_mem _ wd_89)) (fun _ h => h) rfl rfl rfl d_R_keyOf_1 h, List.forall_mem_cons.mpr ⟨fun S h => bs_aload_n (Z := Z) hx hb rfl d_R_keyOf_4 h, List.forall_mem_cons.mpr ⟨fun S h => bs_iload_n (Z := Z) hx hb rfl d_R_keyOf_5 h, List.forall_mem_cons.mpr ⟨fun S h => bs_callV (Z := Z) (C := R_F) hBg hbs hB X0 hK (cn_F_versionFor htr (d + 0)) (cl_F_versionFor _ _ hw) (hts _ (List.mem_cons_of_mem _ wd_323)) (hts _ (List.mem_cons_of_mem _ wd_324)) (hts _ (List.mem_cons_of_mem _ wd_325)) rfl rfl rfl rfl rfl (Nat.le_refl _) (Nat.le_refl _) d_R_keyOf_6 (bs_out htab hlocks) h, List.forall_mem_cons.mpr ⟨fun S h => bs_istore_n (Z := Z) hx hb rfl d_R_keyOf_9 h, List.forall_mem_cons.mpr ⟨fun S h => bs_aload_n (Z := Z) hx hb rfl d_R_keyOf_10 h, List.forall_mem_cons.mpr ⟨fun S h => bs_gI (Z := Z) (C := R_B) (T := F_B) (N := 10) (t := 5) (j := 3) hx hb hK hts (fun w h => List.mem_cons_of_mem _ (iw_B w h)) hown rfl rfl (by decide) (hts _ (List.mem_cons_of_mem _ wd_96)) (fun _ h => h) rfl rfl rfl d_R_keyOf_11 h, List.forall_mem_cons.mpr ⟨fun S h => bs_if_eq (Z := Z) hx hb d_R_keyOf_14 (by decide) h, List.forall_mem_cons.mpr ⟨fun S h => bs_iload_n (Z := Z) hx hb rfl d_R_keyOf_17 h, List.forall_mem_cons.mpr ⟨fun S h => bs_iconst (Z := Z) hx hb (by decide) d_R_keyOf_18 h, List.forall_mem_cons.mpr ⟨fun S h => bs_icmp_ne (Z := Z) hx hb d_R_keyOf_19 (by decide) h, List.forall_mem_cons.mpr ⟨fun S h => bs_sipush (Z := Z) hx hb (by decide) d_R_keyOf_22 h, List.forall_mem_cons.mpr ⟨fun S h => bs_iret (Z := Z) hx hb hr hlocks d_R_keyOf_25 h, List.forall_mem_cons.mpr ⟨fun S h => bs_aload_n (Z := Z) hx hb rfl d_R_keyOf_26 h, List.forall_mem_cons.mpr ⟨fun S h => bs_callV (Z := Z) (C := R_B) hBg hbs hB X0 hK (cn_B_isResolved htr (d + 0)) (cl_B_isResolved _ _ hw) (hts _ (List.mem_cons_of_mem _ wd_305)) (hts _ (List.mem_cons_of_mem _ wd_263)) (hts _ (List.mem_cons_of_mem _ wd_264)) rfl rfl rfl rfl rfl (Nat.le_refl _) (Nat.le_refl _) d_R_keyOf_27 (bs_out htab hlocks) h, List.forall_mem_cons.mpr ⟨fun S h => bs_if_eq (Z := Z) hx hb d_R_keyOf_30 (by decide) h, List.forall_mem_cons.mpr ⟨fun S h => bs_iconst (Z := Z) hx hb (by decide) d_R_keyOf_33 h, List.forall_mem_cons.mpr ⟨fun S h => bs_goto (Z := Z) hx hb d_R_keyOf_34 (by decide) h, List.forall_mem_cons.mpr ⟨fun S h => bs_iconst (Z := Z) hx hb (by decide) d_R_keyOf_37 h, List.forall_mem_cons.mpr ⟨fun S h => bs_istore (Z := Z) hx hb d_R_keyOf_38 h, List.forall_mem_cons.mpr ⟨fun S h => bs_iload (Z := Z) hx hb d_R_keyOf_40 h, List.forall_mem_cons.mpr ⟨fun S h => bs_bipush (Z := Z) hx hb (by decide) d_R_keyOf_42 h, List.forall_mem_cons.mpr ⟨fun S h => bs_imul (Z := Z) hx hb d_R_keyOf_44 h, List.forall_mem_cons.mpr ⟨fun S h => bs_bipush (Z := Z) hx hb (by decide) d_R_keyOf_45 h, List.forall_mem_cons.mpr ⟨fun S h => bs_iadd (Z := Z) hx hb d_R_keyOf_47 h, List.forall_mem_cons.mpr ⟨fun S h => bs_iconst (Z := Z) hx hb (by decide) d_R_keyOf_48 h, List.forall_mem_cons.mpr ⟨fun S h => bs_isub (Z := Z) hx hb d_R_keyOf_49 h, List.forall_mem_cons.mpr ⟨fun S h => bs_iload_n (Z := Z) hx hb rfl d_R_keyOf_50 h, List.forall_mem_cons.mpr ⟨fun S h => bs_isub (Z := Z) hx hb d_R_keyOf_51 h, List.forall_mem_cons.mpr ⟨fun S h => bs_bipush (Z := Z) hx hb (by decide) d_R_keyOf_52 h, List.forall_mem_cons.mpr ⟨fun S h => bs_imul (Z := Z) hx hb d_R_keyOf_54 h, List.forall_mem_cons.mpr ⟨fun S h => bs_aload_n (Z := Z) hx hb rfl d_R_keyOf_55 h, List.forall_mem_cons.mpr ⟨fun S h => bs_gI (Z := Z) (C := R_B) (T := F_B) (N := 10) (t := 5) (j := 0) hx hb hK hts (fun w h => List.mem_cons_of_mem _ (iw_B w h)) hown rfl rfl (by decide) (hts _ (List.mem_cons_of_mem _ wd_86)) (fun _ h => h) rfl rfl rfl d_R_keyOf_56 h, List.forall_mem_cons.mpr ⟨fun S h => bs_iadd (Z := Z) hx hb d_R_keyOf_59 h, List.forall_mem_cons.mpr ⟨fun S h => bs_iret (Z := Z) hx hb hr hlocks d_R_keyOf_60 h, fun _ h => absurd h List.not_mem_nil⟩⟩⟩⟩⟩⟩⟩⟩⟩⟩⟩⟩⟩⟩⟩⟩⟩⟩⟩⟩⟩⟩⟩⟩⟩⟩⟩⟩⟩⟩⟩⟩⟩⟩⟩⟩
abbrev c_R_candidateAfter : ByteArray := prog_6_method_6_code
def y_R_candidateAfter : MethodName := ⟨"BundleHall$Resolver", "candidateAfter", "(I[LBundleHall$Bundle;LBundleHall$Manifest;IZ)I"⟩
theorem d_R_candidateAfter_0 : decode c_R_candidateAfter 0 = .ok (.sipush 160, 3) := by decide +kernel
theorem d_R_candidateAfter_3 : decode c_R_candidateAfter 3 = .ok (.istore 6, 2) := by decide +kernel
theorem d_R_candidateAfter_5 : decode c_R_candidateAfter 5 = .ok (.iconst 0, 1) := by decide +kernel
theorem d_R_candidateAfter_6 : decode c_R_candidateAfter 6 = .ok (.istore 7, 2) := by decide +kernel
theorem d_R_candidateAfter_8 : decode c_R_candidateAfter 8 = .ok (.iload 7, 2) := by decide +kernel
theorem d_R_candidateAfter_10 : decode c_R_candidateAfter 10 = .ok (.bipush 8, 2) := by decide +kernel
theorem d_R_candidateAfter_12 : decode c_R_candidateAfter 12 = .ok (.if_icmp .ge 82, 3) := by decide +kernel
theorem d_R_candidateAfter_15 : decode c_R_candidateAfter 15 = .ok (.aload_n 2, 1) := by decide +kernel
theorem d_R_candidateAfter_16 : decode c_R_candidateAfter 16 = .ok (.iload 7, 2) := by decide +kernel
theorem d_R_candidateAfter_18 : decode c_R_candidateAfter 18 = .ok (.aaload, 1) := by decide +kernel
theorem d_R_candidateAfter_19 : decode c_R_candidateAfter 19 = .ok (.aload_n 3, 1) := by decide +kernel
theorem d_R_candidateAfter_20 : decode c_R_candidateAfter 20 = .ok (.iload 4, 2) := by decide +kernel
theorem d_R_candidateAfter_22 : decode c_R_candidateAfter 22 = .ok (.invokestatic 98, 3) := by decide +kernel
theorem d_R_candidateAfter_25 : decode c_R_candidateAfter 25 = .ok (.istore 8, 2) := by decide +kernel
theorem d_R_candidateAfter_27 : decode c_R_candidateAfter 27 = .ok (.iload 8, 2) := by decide +kernel
theorem d_R_candidateAfter_29 : decode c_R_candidateAfter 29 = .ok (.iload_n 1, 1) := by decide +kernel
theorem d_R_candidateAfter_30 : decode c_R_candidateAfter 30 = .ok (.if_icmp .le 58, 3) := by decide +kernel
theorem d_R_candidateAfter_33 : decode c_R_candidateAfter 33 = .ok (.iload 8, 2) := by decide +kernel
theorem d_R_candidateAfter_35 : decode c_R_candidateAfter 35 = .ok (.iload 6, 2) := by decide +kernel
theorem d_R_candidateAfter_37 : decode c_R_candidateAfter 37 = .ok (.if_icmp .ge 51, 3) := by decide +kernel
theorem d_R_candidateAfter_40 : decode c_R_candidateAfter 40 = .ok (.iload 5, 2) := by decide +kernel
theorem d_R_candidateAfter_42 : decode c_R_candidateAfter 42 = .ok (.ifCond .eq 13, 3) := by decide +kernel
theorem d_R_candidateAfter_45 : decode c_R_candidateAfter 45 = .ok (.aload_n 2, 1) := by decide +kernel
theorem d_R_candidateAfter_46 : decode c_R_candidateAfter 46 = .ok (.iload 7, 2) := by decide +kernel
theorem d_R_candidateAfter_48 : decode c_R_candidateAfter 48 = .ok (.aaload, 1) := by decide +kernel
theorem d_R_candidateAfter_49 : decode c_R_candidateAfter 49 = .ok (.invokevirtual 102, 3) := by decide +kernel
theorem d_R_candidateAfter_52 : decode c_R_candidateAfter 52 = .ok (.goto 20, 3) := by decide +kernel
theorem d_R_candidateAfter_55 : decode c_R_candidateAfter 55 = .ok (.aload_n 0, 1) := by decide +kernel
theorem d_R_candidateAfter_56 : decode c_R_candidateAfter 56 = .ok (.aload_n 2, 1) := by decide +kernel
theorem d_R_candidateAfter_57 : decode c_R_candidateAfter 57 = .ok (.aload_n 2, 1) := by decide +kernel
theorem d_R_candidateAfter_58 : decode c_R_candidateAfter 58 = .ok (.iload 7, 2) := by decide +kernel
theorem d_R_candidateAfter_60 : decode c_R_candidateAfter 60 = .ok (.aaload, 1) := by decide +kernel
theorem d_R_candidateAfter_61 : decode c_R_candidateAfter 61 = .ok (.invokevirtual 32, 3) := by decide +kernel
theorem d_R_candidateAfter_64 : decode c_R_candidateAfter 64 = .ok (.ifCond .ne 7, 3) := by decide +kernel
theorem d_R_candidateAfter_67 : decode c_R_candidateAfter 67 = .ok (.iconst 1, 1) := by decide +kernel
theorem d_R_candidateAfter_68 : decode c_R_candidateAfter 68 = .ok (.goto 4, 3) := by decide +kernel
theorem d_R_candidateAfter_71 : decode c_R_candidateAfter 71 = .ok (.iconst 0, 1) := by decide +kernel
theorem d_R_candidateAfter_72 : decode c_R_candidateAfter 72 = .ok (.istore 9, 2) := by decide +kernel
theorem d_R_candidateAfter_74 : decode c_R_candidateAfter 74 = .ok (.iload 9, 2) := by decide +kernel
theorem d_R_candidateAfter_76 : decode c_R_candidateAfter 76 = .ok (.ifCond .eq 8, 3) := by decide +kernel
theorem d_R_candidateAfter_79 : decode c_R_candidateAfter 79 = .ok (.iload 8, 2) := by decide +kernel
theorem d_R_candidateAfter_81 : decode c_R_candidateAfter 81 = .ok (.goto 5, 3) := by decide +kernel
theorem d_R_candidateAfter_84 : decode c_R_candidateAfter 84 = .ok (.iload 6, 2) := by decide +kernel
theorem d_R_candidateAfter_86 : decode c_R_candidateAfter 86 = .ok (.istore 6, 2) := by decide +kernel
theorem d_R_candidateAfter_88 : decode c_R_candidateAfter 88 = .ok (.iinc 7 1, 3) := by decide +kernel
theorem d_R_candidateAfter_91 : decode c_R_candidateAfter 91 = .ok (.goto (-83), 3) := by decide +kernel
theorem d_R_candidateAfter_94 : decode c_R_candidateAfter 94 = .ok (.iload 6, 2) := by decide +kernel
theorem d_R_candidateAfter_96 : decode c_R_candidateAfter 96 = .ok (.ireturn, 1) := by decide +kernel
def T_R_candidateAfter_0 : List (Nat × bh_Op) := [(0, bo_st 3 (bg_push (.inl (.int 160)))),
  (3, bo_ist 5 6),
  (5, bo_st 6 (bg_push (.inl (.int 0)))),
  (6, bo_ist 8 7),
  (8, bo_ild 10 7),
  (10, bo_st 12 (bg_push (.inl (.int 8)))),
  (12, bo_if2 15 94 (fun x y => y ≤ x)),
  (15, bo_ald 16 2),
  (16, bo_ild 18 7),
  (18, bo_Rald bh_ak bh_al 19),
  (19, bo_ald 20 3),
  (20, bo_ild 22 4),
  (22, bo_callS 25 3 0 0 F_R_keyOf),
  (25, bo_ist 27 8),
  (27, bo_ild 29 8),
  (29, bo_ild 30 1),
  (30, bo_if2 33 88 (fun x y => x ≤ y)),
  (33, bo_ild 35 8),
  (35, bo_ild 37 6),
  (37, bo_if2 40 88 (fun x y => y ≤ x)),
  (40, bo_ild 42 5),
  (42, bo_if1 45 55 (fun x => x = 0)),
  (45, bo_ald 46 2),
  (46, bo_ild 48 7),
  (48, bo_Rald bh_ak bh_al 49),
  (49, bo_callV 52 1 0 0 5 F_B_isResolved),
  (52, bo_go 72),
  (55, bo_ald 56 0),
  (56, bo_ald 57 2),
  (57, bo_ald 58 2),
  (58, bo_ild 60 7),
  (60, bo_Rald bh_ak bh_al 61),
  (61, bo_callV 64 3 0 0 15 F_R_nameIsTaken),
  (64, bo_if1 67 71 (fun x => ¬ x = 0)),
  (67, bo_st 68 (bg_push (.inl (.int 1)))),
  (68, bo_go 72),
  (71, bo_st 72 (bg_push (.inl (.int 0)))),
  (72, bo_ist 74 9),
  (74, bo_ild 76 9),
  (76, bo_if1 79 84 (fun x => x = 0))]
def T_R_candidateAfter_1 : List (Nat × bh_Op) := [(79, bo_ild 81 8),
  (81, bo_go 86),
  (84, bo_ild 86 6),
  (86, bo_ist 88 6),
  (88, bo_inc 91 7 1),
  (91, bo_go 8),
  (94, bo_ild 96 6),
  (96, bo_iret 0)]
def T_R_candidateAfter : List (Nat × bh_Op) := T_R_candidateAfter_0 ++ T_R_candidateAfter_1
set_option maxRecDepth 20000 in
theorem mT_R_candidateAfter_0 : ∀ q ∈ T_R_candidateAfter_0, bh_mono q.2 := List.forall_mem_cons.mpr ⟨bo_st_mono (bg_push_m _), List.forall_mem_cons.mpr ⟨bo_ist_m _ _, List.forall_mem_cons.mpr ⟨bo_st_mono (bg_push_m _), List.forall_mem_cons.mpr ⟨bo_ist_m _ _, List.forall_mem_cons.mpr ⟨bo_ild_m _ _, List.forall_mem_cons.mpr ⟨bo_st_mono (bg_push_m _), List.forall_mem_cons.mpr ⟨bo_if2_m _ _ _, List.forall_mem_cons.mpr ⟨bo_ald_m _ _, List.forall_mem_cons.mpr ⟨bo_ild_m _ _, List.forall_mem_cons.mpr ⟨bo_Rald_m _ _ _, List.forall_mem_cons.mpr ⟨bo_ald_m _ _, List.forall_mem_cons.mpr ⟨bo_ild_m _ _, List.forall_mem_cons.mpr ⟨bo_callS_m (mF_R_keyOf) _ _ _ _, List.forall_mem_cons.mpr ⟨bo_ist_m _ _, List.forall_mem_cons.mpr ⟨bo_ild_m _ _, List.forall_mem_cons.mpr ⟨bo_ild_m _ _, List.forall_mem_cons.mpr ⟨bo_if2_m _ _ _, List.forall_mem_cons.mpr ⟨bo_ild_m _ _, List.forall_mem_cons.mpr ⟨bo_ild_m _ _, List.forall_mem_cons.mpr ⟨bo_if2_m _ _ _, List.forall_mem_cons.mpr ⟨bo_ild_m _ _, List.forall_mem_cons.mpr ⟨bo_if1_m _ _ _, List.forall_mem_cons.mpr ⟨bo_ald_m _ _, List.forall_mem_cons.mpr ⟨bo_ild_m _ _, List.forall_mem_cons.mpr ⟨bo_Rald_m _ _ _, List.forall_mem_cons.mpr ⟨bo_callV_m (mF_B_isResolved) _ _ _ _ _, List.forall_mem_cons.mpr ⟨bo_go_m _, List.forall_mem_cons.mpr ⟨bo_ald_m _ _, List.forall_mem_cons.mpr ⟨bo_ald_m _ _, List.forall_mem_cons.mpr ⟨bo_ald_m _ _, List.forall_mem_cons.mpr ⟨bo_ild_m _ _, List.forall_mem_cons.mpr ⟨bo_Rald_m _ _ _, List.forall_mem_cons.mpr ⟨bo_callV_m (mF_R_nameIsTaken) _ _ _ _ _, List.forall_mem_cons.mpr ⟨bo_if1_m _ _ _, List.forall_mem_cons.mpr ⟨bo_st_mono (bg_push_m _), List.forall_mem_cons.mpr ⟨bo_go_m _, List.forall_mem_cons.mpr ⟨bo_st_mono (bg_push_m _), List.forall_mem_cons.mpr ⟨bo_ist_m _ _, List.forall_mem_cons.mpr ⟨bo_ild_m _ _, List.forall_mem_cons.mpr ⟨bo_if1_m _ _ _, fun _ h => absurd h List.not_mem_nil⟩⟩⟩⟩⟩⟩⟩⟩⟩⟩⟩⟩⟩⟩⟩⟩⟩⟩⟩⟩⟩⟩⟩⟩⟩⟩⟩⟩⟩⟩⟩⟩⟩⟩⟩⟩⟩⟩⟩⟩
set_option maxRecDepth 20000 in
theorem mT_R_candidateAfter_1 : ∀ q ∈ T_R_candidateAfter_1, bh_mono q.2 := List.forall_mem_cons.mpr ⟨bo_ild_m _ _, List.forall_mem_cons.mpr ⟨bo_go_m _, List.forall_mem_cons.mpr ⟨bo_ild_m _ _, List.forall_mem_cons.mpr ⟨bo_ist_m _ _, List.forall_mem_cons.mpr ⟨bo_inc_m _ _ _, List.forall_mem_cons.mpr ⟨bo_go_m _, List.forall_mem_cons.mpr ⟨bo_ild_m _ _, List.forall_mem_cons.mpr ⟨bo_iret_m _, fun _ h => absurd h List.not_mem_nil⟩⟩⟩⟩⟩⟩⟩⟩
theorem m_R_candidateAfter : ∀ pc, bh_mono (bh_tb (T_R_candidateAfter) pc) := bh_tb_m (List.forall_mem_append.mpr ⟨mT_R_candidateAfter_0, mT_R_candidateAfter_1⟩)
def F_R_candidateAfter : bh_Fn := bh_fn 10 (bh_tb T_R_candidateAfter)
theorem mF_R_candidateAfter : bh_monoF F_R_candidateAfter := bh_fn_m m_R_candidateAfter
theorem cl_R_candidateAfter {s : State} {args : Array Value} (d B : Nat) (hts : ∀ w ∈ bh_ws, w.before args s = true) : bh_Cal (bh_rm (d + 1) B) s y_R_candidateAfter 10 (.code y_R_candidateAfter c_R_candidateAfter 10 (some .int) :: bh_ws) (bh_rm d 0) 0 5 := bh_cal d B hts wd_319 wd_5 (by decide) (by decide +kernel)
set_option maxHeartbeats 4000000 in
set_option maxRecDepth 100000 in
theorem cn_R_candidateAfter {l : Launch} {G : bh_G} {base sb L : Nat} {xs : Nat → Int32} (htr : l.stackTraces = false) (d : Nat) : bh_Con l G base (bh_Bg G base sb L xs) y_R_candidateAfter (.code y_R_candidateAfter c_R_candidateAfter 10 (some .int) :: bh_ws) (bh_rm (d + 3) 0) 0 false F_R_candidateAfter := by
  refine bh_method (cc := c_R_candidateAfter) (ret := (some .int)) (by decide +kernel) rfl ?_
  intro p e s m args below meth c ad0 M0 Z X0 hr hlocks hname htab hbs hB
  obtain ⟨hx, hb, hml, hown, hts⟩ := id X0
  have hw : ∀ w ∈ bh_ws, w.before args s = true := fun w h => hts w (List.mem_cons_of_mem _ h)
  have hBg := bh_BgK (G := G) (base := base) (sb := sb) (L := L) (xs := xs)
  obtain ⟨hK, hAr, hen, hinj, hu1, hu2, hstr, hX, hsb, hsc, hxw, hao, hnc⟩ := id hB
  obtain ⟨ha1, ha2, ha3, ha4, ha5, ha6, ha0⟩ := bh_arr hAr
  refine List.forall_mem_append.mpr ⟨?_, List.forall_mem_cons.mpr ⟨fun S h => bs_iload (Z := Z) hx hb d_R_candidateAfter_79 h, List.forall_mem_cons.mpr ⟨fun S h => bs_goto (Z := Z) hx hb d_R_candidateAfter_81 (by decide) h, List.forall_mem_cons.mpr ⟨fun S h => bs_iload (Z := Z) hx hb d_R_candidateAfter_84 h, List.forall_mem_cons.mpr ⟨fun S h => bs_istore (Z := Z) hx hb d_R_candidateAfter_86 h, List.forall_mem_cons.mpr ⟨fun S h => bs_iinc (Z := Z) hx hb (by decide) d_R_candidateAfter_88 h, List.forall_mem_cons.mpr ⟨fun S h => bs_goto (Z := Z) hx hb d_R_candidateAfter_91 (by decide) h, List.forall_mem_cons.mpr ⟨fun S h => bs_iload (Z := Z) hx hb d_R_candidateAfter_94 h, List.forall_mem_cons.mpr ⟨fun S h => bs_iret (Z := Z) hx hb hr hlocks d_R_candidateAfter_96 h, fun _ h => absurd h List.not_mem_nil⟩⟩⟩⟩⟩⟩⟩⟩⟩
  exact List.forall_mem_cons.mpr ⟨fun S h => bs_sipush (Z := Z) hx hb (by decide) d_R_candidateAfter_0 h, List.forall_mem_cons.mpr ⟨fun S h => bs_istore (Z := Z) hx hb d_R_candidateAfter_3 h, List.forall_mem_cons.mpr ⟨fun S h => bs_iconst (Z := Z) hx hb (by decide) d_R_candidateAfter_5 h, List.forall_mem_cons.mpr ⟨fun S h => bs_istore (Z := Z) hx hb d_R_candidateAfter_6 h, List.forall_mem_cons.mpr ⟨fun S h => bs_iload (Z := Z) hx hb d_R_candidateAfter_8 h, List.forall_mem_cons.mpr ⟨fun S h => bs_bipush (Z := Z) hx hb (by decide) d_R_candidateAfter_10 h, List.forall_mem_cons.mpr ⟨fun S h => bs_icmp_ge (Z := Z) hx hb d_R_candidateAfter_12 (by decide) h, List.forall_mem_cons.mpr ⟨fun S h => bs_aload_n (Z := Z) hx hb rfl d_R_candidateAfter_15 h, List.forall_mem_cons.mpr ⟨fun S h => bs_iload (Z := Z) hx hb d_R_candidateAfter_16 h, List.forall_mem_cons.mpr ⟨fun S h => bs_Rald (Z := Z) hx hb ha5 d_R_candidateAfter_18 h, List.forall_mem_cons.mpr ⟨fun S h => bs_aload_n (Z := Z) hx hb rfl d_R_candidateAfter_19 h, List.forall_mem_cons.mpr ⟨fun S h => bs_iload (Z := Z) hx hb d_R_candidateAfter_20 h, List.forall_mem_cons.mpr ⟨fun S h => bs_callS (Z := Z) hBg hbs hB X0 (cn_R_keyOf htr (d + 0)) (cl_R_keyOf _ _ hw) (hts _ (List.mem_cons_of_mem _ wd_320)) (hts _ (List.mem_cons_of_mem _ wd_321)) (Nat.le_refl _) (Nat.le_refl _) d_R_candidateAfter_22 (bs_out htab hlocks) h, List.forall_mem_cons.mpr ⟨fun S h => bs_istore (Z := Z) hx hb d_R_candidateAfter_25 h, List.forall_mem_cons.mpr ⟨fun S h => bs_iload (Z := Z) hx hb d_R_candidateAfter_27 h, List.forall_mem_cons.mpr ⟨fun S h => bs_iload_n (Z := Z) hx hb rfl d_R_candidateAfter_29 h, List.forall_mem_cons.mpr ⟨fun S h => bs_icmp_le (Z := Z) hx hb d_R_candidateAfter_30 (by decide) h, List.forall_mem_cons.mpr ⟨fun S h => bs_iload (Z := Z) hx hb d_R_candidateAfter_33 h, List.forall_mem_cons.mpr ⟨fun S h => bs_iload (Z := Z) hx hb d_R_candidateAfter_35 h, List.forall_mem_cons.mpr ⟨fun S h => bs_icmp_ge (Z := Z) hx hb d_R_candidateAfter_37 (by decide) h, List.forall_mem_cons.mpr ⟨fun S h => bs_iload (Z := Z) hx hb d_R_candidateAfter_40 h, List.forall_mem_cons.mpr ⟨fun S h => bs_if_eq (Z := Z) hx hb d_R_candidateAfter_42 (by decide) h, List.forall_mem_cons.mpr ⟨fun S h => bs_aload_n (Z := Z) hx hb rfl d_R_candidateAfter_45 h, List.forall_mem_cons.mpr ⟨fun S h => bs_iload (Z := Z) hx hb d_R_candidateAfter_46 h, List.forall_mem_cons.mpr ⟨fun S h => bs_Rald (Z := Z) hx hb ha5 d_R_candidateAfter_48 h, List.forall_mem_cons.mpr ⟨fun S h => bs_callV (Z := Z) (C := R_B) hBg hbs hB X0 hK (cn_B_isResolved htr (d + 1)) (cl_B_isResolved _ _ hw) (hts _ (List.mem_cons_of_mem _ wd_305)) (hts _ (List.mem_cons_of_mem _ wd_263)) (hts _ (List.mem_cons_of_mem _ wd_264)) rfl rfl rfl rfl rfl (Nat.le_refl _) (Nat.le_refl _) d_R_candidateAfter_49 (bs_out htab hlocks) h, List.forall_mem_cons.mpr ⟨fun S h => bs_goto (Z := Z) hx hb d_R_candidateAfter_52 (by decide) h, List.forall_mem_cons.mpr ⟨fun S h => bs_aload_n (Z := Z) hx hb rfl d_R_candidateAfter_55 h, List.forall_mem_cons.mpr ⟨fun S h => bs_aload_n (Z := Z) hx hb rfl d_R_candidateAfter_56 h, List.forall_mem_cons.mpr ⟨fun S h => bs_aload_n (Z := Z) hx hb rfl d_R_candidateAfter_57 h, List.forall_mem_cons.mpr ⟨fun S h => bs_iload (Z := Z) hx hb d_R_candidateAfter_58 h, List.forall_mem_cons.mpr ⟨fun S h => bs_Rald (Z := Z) hx hb ha5 d_R_candidateAfter_60 h, List.forall_mem_cons.mpr ⟨fun S h => bs_callV (Z := Z) (C := R_R) hBg hbs hB X0 hK (cn_R_nameIsTaken htr (d + 0)) (cl_R_nameIsTaken _ _ hw) (hts _ (List.mem_cons_of_mem _ wd_301)) (hts _ (List.mem_cons_of_mem _ wd_303)) (hts _ (List.mem_cons_of_mem _ ws_6)) rfl rfl rfl rfl rfl (Nat.le_refl _) (Nat.le_refl _) d_R_candidateAfter_61 (bs_out htab hlocks) h, List.forall_mem_cons.mpr ⟨fun S h => bs_if_ne (Z := Z) hx hb d_R_candidateAfter_64 (by decide) h, List.forall_mem_cons.mpr ⟨fun S h => bs_iconst (Z := Z) hx hb (by decide) d_R_candidateAfter_67 h, List.forall_mem_cons.mpr ⟨fun S h => bs_goto (Z := Z) hx hb d_R_candidateAfter_68 (by decide) h, List.forall_mem_cons.mpr ⟨fun S h => bs_iconst (Z := Z) hx hb (by decide) d_R_candidateAfter_71 h, List.forall_mem_cons.mpr ⟨fun S h => bs_istore (Z := Z) hx hb d_R_candidateAfter_72 h, List.forall_mem_cons.mpr ⟨fun S h => bs_iload (Z := Z) hx hb d_R_candidateAfter_74 h, List.forall_mem_cons.mpr ⟨fun S h => bs_if_eq (Z := Z) hx hb d_R_candidateAfter_76 (by decide) h, fun _ h => absurd h List.not_mem_nil⟩⟩⟩⟩⟩⟩⟩⟩⟩⟩⟩⟩⟩⟩⟩⟩⟩⟩⟩⟩⟩⟩⟩⟩⟩⟩⟩⟩⟩⟩⟩⟩⟩⟩⟩⟩⟩⟩⟩⟩
abbrev c_B_sourceOf : ByteArray := prog_2_method_9_code
def y_B_sourceOf : MethodName := ⟨"BundleHall$Bundle", "sourceOf", "(I)I"⟩
theorem d_B_sourceOf_0 : decode c_B_sourceOf 0 = .ok (.aload_n 0, 1) := by decide +kernel
theorem d_B_sourceOf_1 : decode c_B_sourceOf 1 = .ok (.getfield 21, 3) := by decide +kernel
theorem d_B_sourceOf_4 : decode c_B_sourceOf 4 = .ok (.getfield 67, 3) := by decide +kernel
theorem d_B_sourceOf_7 : decode c_B_sourceOf 7 = .ok (.iload_n 1, 1) := by decide +kernel
theorem d_B_sourceOf_8 : decode c_B_sourceOf 8 = .ok (.iaload, 1) := by decide +kernel
theorem d_B_sourceOf_9 : decode c_B_sourceOf 9 = .ok (.iconst (-1), 1) := by decide +kernel
theorem d_B_sourceOf_10 : decode c_B_sourceOf 10 = .ok (.if_icmp .eq 8, 3) := by decide +kernel
theorem d_B_sourceOf_13 : decode c_B_sourceOf 13 = .ok (.aload_n 0, 1) := by decide +kernel
theorem d_B_sourceOf_14 : decode c_B_sourceOf 14 = .ok (.getfield 15, 3) := by decide +kernel
theorem d_B_sourceOf_17 : decode c_B_sourceOf 17 = .ok (.ireturn, 1) := by decide +kernel
theorem d_B_sourceOf_18 : decode c_B_sourceOf 18 = .ok (.aload_n 0, 1) := by decide +kernel
theorem d_B_sourceOf_19 : decode c_B_sourceOf 19 = .ok (.getfield 21, 3) := by decide +kernel
theorem d_B_sourceOf_22 : decode c_B_sourceOf 22 = .ok (.getfield 70, 3) := by decide +kernel
theorem d_B_sourceOf_25 : decode c_B_sourceOf 25 = .ok (.iload_n 1, 1) := by decide +kernel
theorem d_B_sourceOf_26 : decode c_B_sourceOf 26 = .ok (.iaload, 1) := by decide +kernel
theorem d_B_sourceOf_27 : decode c_B_sourceOf 27 = .ok (.istore_n 2, 1) := by decide +kernel
theorem d_B_sourceOf_28 : decode c_B_sourceOf 28 = .ok (.iload_n 2, 1) := by decide +kernel
theorem d_B_sourceOf_29 : decode c_B_sourceOf 29 = .ok (.iconst (-1), 1) := by decide +kernel
theorem d_B_sourceOf_30 : decode c_B_sourceOf 30 = .ok (.if_icmp .ne 7, 3) := by decide +kernel
theorem d_B_sourceOf_33 : decode c_B_sourceOf 33 = .ok (.iconst (-1), 1) := by decide +kernel
theorem d_B_sourceOf_34 : decode c_B_sourceOf 34 = .ok (.goto 9, 3) := by decide +kernel
theorem d_B_sourceOf_37 : decode c_B_sourceOf 37 = .ok (.aload_n 0, 1) := by decide +kernel
theorem d_B_sourceOf_38 : decode c_B_sourceOf 38 = .ok (.getfield 25, 3) := by decide +kernel
theorem d_B_sourceOf_41 : decode c_B_sourceOf 41 = .ok (.iload_n 2, 1) := by decide +kernel
theorem d_B_sourceOf_42 : decode c_B_sourceOf 42 = .ok (.iaload, 1) := by decide +kernel
theorem d_B_sourceOf_43 : decode c_B_sourceOf 43 = .ok (.ireturn, 1) := by decide +kernel
def T_B_sourceOf_0 : List (Nat × bh_Op) := [(0, bo_ald 1 0),
  (1, bo_gR 4 5 1 7),
  (4, bo_gR 7 7 0 8),
  (7, bo_ild 8 1),
  (8, bo_Iald bh_ak bh_al 9),
  (9, bo_st 10 (bg_push (.inl (.int (-1))))),
  (10, bo_if2 13 18 (fun x y => x = y)),
  (13, bo_ald 14 0),
  (14, bo_gI 17 5 9),
  (17, bo_iret 0),
  (18, bo_ald 19 0),
  (19, bo_gR 22 5 1 7),
  (22, bo_gR 25 7 2 10),
  (25, bo_ild 26 1),
  (26, bo_Iald bh_ak bh_al 27),
  (27, bo_ist 28 2),
  (28, bo_ild 29 2),
  (29, bo_st 30 (bg_push (.inl (.int (-1))))),
  (30, bo_if2 33 37 (fun x y => ¬ x = y)),
  (33, bo_st 34 (bg_push (.inl (.int (-1))))),
  (34, bo_go 43),
  (37, bo_ald 38 0),
  (38, bo_gR 41 5 2 6),
  (41, bo_ild 42 2),
  (42, bo_Iald bh_ak bh_al 43),
  (43, bo_iret 0)]
def T_B_sourceOf : List (Nat × bh_Op) := T_B_sourceOf_0
set_option maxRecDepth 20000 in
theorem mT_B_sourceOf_0 : ∀ q ∈ T_B_sourceOf_0, bh_mono q.2 := List.forall_mem_cons.mpr ⟨bo_ald_m _ _, List.forall_mem_cons.mpr ⟨bo_gR_m _ _ _ _, List.forall_mem_cons.mpr ⟨bo_gR_m _ _ _ _, List.forall_mem_cons.mpr ⟨bo_ild_m _ _, List.forall_mem_cons.mpr ⟨bo_Iald_m _ _ _, List.forall_mem_cons.mpr ⟨bo_st_mono (bg_push_m _), List.forall_mem_cons.mpr ⟨bo_if2_m _ _ _, List.forall_mem_cons.mpr ⟨bo_ald_m _ _, List.forall_mem_cons.mpr ⟨bo_gI_m _ _ _, List.forall_mem_cons.mpr ⟨bo_iret_m _, List.forall_mem_cons.mpr ⟨bo_ald_m _ _, List.forall_mem_cons.mpr ⟨bo_gR_m _ _ _ _, List.forall_mem_cons.mpr ⟨bo_gR_m _ _ _ _, List.forall_mem_cons.mpr ⟨bo_ild_m _ _, List.forall_mem_cons.mpr ⟨bo_Iald_m _ _ _, List.forall_mem_cons.mpr ⟨bo_ist_m _ _, List.forall_mem_cons.mpr ⟨bo_ild_m _ _, List.forall_mem_cons.mpr ⟨bo_st_mono (bg_push_m _), List.forall_mem_cons.mpr ⟨bo_if2_m _ _ _, List.forall_mem_cons.mpr ⟨bo_st_mono (bg_push_m _), List.forall_mem_cons.mpr ⟨bo_go_m _, List.forall_mem_cons.mpr ⟨bo_ald_m _ _, List.forall_mem_cons.mpr ⟨bo_gR_m _ _ _ _, List.forall_mem_cons.mpr ⟨bo_ild_m _ _, List.forall_mem_cons.mpr ⟨bo_Iald_m _ _ _, List.forall_mem_cons.mpr ⟨bo_iret_m _, fun _ h => absurd h List.not_mem_nil⟩⟩⟩⟩⟩⟩⟩⟩⟩⟩⟩⟩⟩⟩⟩⟩⟩⟩⟩⟩⟩⟩⟩⟩⟩⟩
theorem m_B_sourceOf : ∀ pc, bh_mono (bh_tb (T_B_sourceOf) pc) := bh_tb_m mT_B_sourceOf_0
def F_B_sourceOf : bh_Fn := bh_fn 3 (bh_tb T_B_sourceOf)
theorem mF_B_sourceOf : bh_monoF F_B_sourceOf := bh_fn_m m_B_sourceOf
theorem cl_B_sourceOf {s : State} {args : Array Value} (d B : Nat) (hts : ∀ w ∈ bh_ws, w.before args s = true) : bh_Cal (bh_rm (d + 1) B) s y_B_sourceOf 3 (.code y_B_sourceOf c_B_sourceOf 3 (some .int) :: bh_ws) (bh_rm d 0) 0 1 := bh_cal d B hts wd_339 wd_2 (by decide) (by decide +kernel)
set_option maxHeartbeats 4000000 in
set_option maxRecDepth 100000 in
theorem cn_B_sourceOf {l : Launch} {G : bh_G} {base sb L : Nat} {xs : Nat → Int32} (htr : l.stackTraces = false) (d : Nat) : bh_Con l G base (bh_Bg G base sb L xs) y_B_sourceOf (.code y_B_sourceOf c_B_sourceOf 3 (some .int) :: bh_ws) (bh_rm (d + 1) 0) 0 false F_B_sourceOf := by
  refine bh_method (cc := c_B_sourceOf) (ret := (some .int)) (by decide +kernel) rfl ?_
  intro p e s m args below meth c ad0 M0 Z X0 hr hlocks hname htab hbs hB
  obtain ⟨hx, hb, hml, hown, hts⟩ := id X0
  have hw : ∀ w ∈ bh_ws, w.before args s = true := fun w h => hts w (List.mem_cons_of_mem _ h)
  have hBg := bh_BgK (G := G) (base := base) (sb := sb) (L := L) (xs := xs)
  obtain ⟨hK, hAr, hen, hinj, hu1, hu2, hstr, hX, hsb, hsc, hxw, hao, hnc⟩ := id hB
  obtain ⟨ha1, ha2, ha3, ha4, ha5, ha6, ha0⟩ := bh_arr hAr
  exact List.forall_mem_cons.mpr ⟨fun S h => bs_aload_n (Z := Z) hx hb rfl d_B_sourceOf_0 h, List.forall_mem_cons.mpr ⟨fun S h => bs_gR (Z := Z) (C := R_B) (T := F_B) (N := 10) (t := 5) (j := 1) hx hb hK hts (fun w h => List.mem_cons_of_mem _ (iw_B w h)) hown rfl rfl (by decide) (hts _ (List.mem_cons_of_mem _ wd_88)) (fun _ h => h) rfl rfl rfl d_B_sourceOf_1 h, List.forall_mem_cons.mpr ⟨fun S h => bs_gR (Z := Z) (C := R_F) (T := F_F) (N := 9) (t := 7) (j := 0) hx hb hK hts (fun w h => List.mem_cons_of_mem _ (iw_F w h)) hown rfl rfl (by decide) (hts _ (List.mem_cons_of_mem _ wd_47)) (fun _ h => h) rfl rfl rfl d_B_sourceOf_4 h, List.forall_mem_cons.mpr ⟨fun S h => bs_iload_n (Z := Z) hx hb rfl d_B_sourceOf_7 h, List.forall_mem_cons.mpr ⟨fun S h => bs_Iald (Z := Z) hx hb ha1 d_B_sourceOf_8 h, List.forall_mem_cons.mpr ⟨fun S h => bs_iconst (Z := Z) hx hb (by decide) d_B_sourceOf_9 h, List.forall_mem_cons.mpr ⟨fun S h => bs_icmp_eq (Z := Z) hx hb d_B_sourceOf_10 (by decide) h, List.forall_mem_cons.mpr ⟨fun S h => bs_aload_n (Z := Z) hx hb rfl d_B_sourceOf_13 h, List.forall_mem_cons.mpr ⟨fun S h => bs_gI (Z := Z) (C := R_B) (T := F_B) (N := 10) (t := 5) (j := 9) hx hb hK hts (fun w h => List.mem_cons_of_mem _ (iw_B w h)) hown rfl rfl (by decide) (hts _ (List.mem_cons_of_mem _ wd_107)) (fun _ h => h) rfl rfl rfl d_B_sourceOf_14 h, List.forall_mem_cons.mpr ⟨fun S h => bs_iret (Z := Z) hx hb hr hlocks d_B_sourceOf_17 h, List.forall_mem_cons.mpr ⟨fun S h => bs_aload_n (Z := Z) hx hb rfl d_B_sourceOf_18 h, List.forall_mem_cons.mpr ⟨fun S h => bs_gR (Z := Z) (C := R_B) (T := F_B) (N := 10) (t := 5) (j := 1) hx hb hK hts (fun w h => List.mem_cons_of_mem _ (iw_B w h)) hown rfl rfl (by decide) (hts _ (List.mem_cons_of_mem _ wd_88)) (fun _ h => h) rfl rfl rfl d_B_sourceOf_19 h, List.forall_mem_cons.mpr ⟨fun S h => bs_gR (Z := Z) (C := R_F) (T := F_F) (N := 9) (t := 7) (j := 2) hx hb hK hts (fun w h => List.mem_cons_of_mem _ (iw_F w h)) hown rfl rfl (by decide) (hts _ (List.mem_cons_of_mem _ wd_51)) (fun _ h => h) rfl rfl rfl d_B_sourceOf_22 h, List.forall_mem_cons.mpr ⟨fun S h => bs_iload_n (Z := Z) hx hb rfl d_B_sourceOf_25 h, List.forall_mem_cons.mpr ⟨fun S h => bs_Iald (Z := Z) hx hb ha1 d_B_sourceOf_26 h, List.forall_mem_cons.mpr ⟨fun S h => bs_istore_n (Z := Z) hx hb rfl d_B_sourceOf_27 h, List.forall_mem_cons.mpr ⟨fun S h => bs_iload_n (Z := Z) hx hb rfl d_B_sourceOf_28 h, List.forall_mem_cons.mpr ⟨fun S h => bs_iconst (Z := Z) hx hb (by decide) d_B_sourceOf_29 h, List.forall_mem_cons.mpr ⟨fun S h => bs_icmp_ne (Z := Z) hx hb d_B_sourceOf_30 (by decide) h, List.forall_mem_cons.mpr ⟨fun S h => bs_iconst (Z := Z) hx hb (by decide) d_B_sourceOf_33 h, List.forall_mem_cons.mpr ⟨fun S h => bs_goto (Z := Z) hx hb d_B_sourceOf_34 (by decide) h, List.forall_mem_cons.mpr ⟨fun S h => bs_aload_n (Z := Z) hx hb rfl d_B_sourceOf_37 h, List.forall_mem_cons.mpr ⟨fun S h => bs_gR (Z := Z) (C := R_B) (T := F_B) (N := 10) (t := 5) (j := 2) hx hb hK hts (fun w h => List.mem_cons_of_mem _ (iw_B w h)) hown rfl rfl (by decide) (hts _ (List.mem_cons_of_mem _ wd_91)) (fun _ h => h) rfl rfl rfl d_B_sourceOf_38 h, List.forall_mem_cons.mpr ⟨fun S h => bs_iload_n (Z := Z) hx hb rfl d_B_sourceOf_41 h, List.forall_mem_cons.mpr ⟨fun S h => bs_Iald (Z := Z) hx hb ha1 d_B_sourceOf_42 h, List.forall_mem_cons.mpr ⟨fun S h => bs_iret (Z := Z) hx hb hr hlocks d_B_sourceOf_43 h, fun _ h => absurd h List.not_mem_nil⟩⟩⟩⟩⟩⟩⟩⟩⟩⟩⟩⟩⟩⟩⟩⟩⟩⟩⟩⟩⟩⟩⟩⟩⟩⟩
abbrev c_R_sourcesDiffer : ByteArray := prog_6_method_10_code
def y_R_sourcesDiffer : MethodName := ⟨"BundleHall$Resolver", "sourcesDiffer", "(LBundleHall$Bundle;LBundleHall$Bundle;I)Z"⟩
theorem d_R_sourcesDiffer_0 : decode c_R_sourcesDiffer 0 = .ok (.iconst 0, 1) := by decide +kernel
theorem d_R_sourcesDiffer_1 : decode c_R_sourcesDiffer 1 = .ok (.istore_n 3, 1) := by decide +kernel
theorem d_R_sourcesDiffer_2 : decode c_R_sourcesDiffer 2 = .ok (.iload_n 3, 1) := by decide +kernel
theorem d_R_sourcesDiffer_3 : decode c_R_sourcesDiffer 3 = .ok (.bipush 8, 2) := by decide +kernel
theorem d_R_sourcesDiffer_5 : decode c_R_sourcesDiffer 5 = .ok (.if_icmp .ge 52, 3) := by decide +kernel
theorem d_R_sourcesDiffer_8 : decode c_R_sourcesDiffer 8 = .ok (.iload_n 2, 1) := by decide +kernel
theorem d_R_sourcesDiffer_9 : decode c_R_sourcesDiffer 9 = .ok (.iload_n 3, 1) := by decide +kernel
theorem d_R_sourcesDiffer_10 : decode c_R_sourcesDiffer 10 = .ok (.invokestatic 127, 3) := by decide +kernel
theorem d_R_sourcesDiffer_13 : decode c_R_sourcesDiffer 13 = .ok (.ifCond .eq 38, 3) := by decide +kernel
theorem d_R_sourcesDiffer_16 : decode c_R_sourcesDiffer 16 = .ok (.aload_n 0, 1) := by decide +kernel
theorem d_R_sourcesDiffer_17 : decode c_R_sourcesDiffer 17 = .ok (.iload_n 3, 1) := by decide +kernel
theorem d_R_sourcesDiffer_18 : decode c_R_sourcesDiffer 18 = .ok (.invokevirtual 131, 3) := by decide +kernel
theorem d_R_sourcesDiffer_21 : decode c_R_sourcesDiffer 21 = .ok (.istore 4, 2) := by decide +kernel
theorem d_R_sourcesDiffer_23 : decode c_R_sourcesDiffer 23 = .ok (.aload_n 1, 1) := by decide +kernel
theorem d_R_sourcesDiffer_24 : decode c_R_sourcesDiffer 24 = .ok (.iload_n 3, 1) := by decide +kernel
theorem d_R_sourcesDiffer_25 : decode c_R_sourcesDiffer 25 = .ok (.invokevirtual 131, 3) := by decide +kernel
theorem d_R_sourcesDiffer_28 : decode c_R_sourcesDiffer 28 = .ok (.istore 5, 2) := by decide +kernel
theorem d_R_sourcesDiffer_30 : decode c_R_sourcesDiffer 30 = .ok (.iload 4, 2) := by decide +kernel
theorem d_R_sourcesDiffer_32 : decode c_R_sourcesDiffer 32 = .ok (.iconst (-1), 1) := by decide +kernel
theorem d_R_sourcesDiffer_33 : decode c_R_sourcesDiffer 33 = .ok (.if_icmp .eq 18, 3) := by decide +kernel
theorem d_R_sourcesDiffer_36 : decode c_R_sourcesDiffer 36 = .ok (.iload 5, 2) := by decide +kernel
theorem d_R_sourcesDiffer_38 : decode c_R_sourcesDiffer 38 = .ok (.iconst (-1), 1) := by decide +kernel
theorem d_R_sourcesDiffer_39 : decode c_R_sourcesDiffer 39 = .ok (.if_icmp .eq 12, 3) := by decide +kernel
theorem d_R_sourcesDiffer_42 : decode c_R_sourcesDiffer 42 = .ok (.iload 4, 2) := by decide +kernel
theorem d_R_sourcesDiffer_44 : decode c_R_sourcesDiffer 44 = .ok (.iload 5, 2) := by decide +kernel
theorem d_R_sourcesDiffer_46 : decode c_R_sourcesDiffer 46 = .ok (.if_icmp .eq 5, 3) := by decide +kernel
theorem d_R_sourcesDiffer_49 : decode c_R_sourcesDiffer 49 = .ok (.iconst 1, 1) := by decide +kernel
theorem d_R_sourcesDiffer_50 : decode c_R_sourcesDiffer 50 = .ok (.ireturn, 1) := by decide +kernel
theorem d_R_sourcesDiffer_51 : decode c_R_sourcesDiffer 51 = .ok (.iinc 3 1, 3) := by decide +kernel
theorem d_R_sourcesDiffer_54 : decode c_R_sourcesDiffer 54 = .ok (.goto (-52), 3) := by decide +kernel
theorem d_R_sourcesDiffer_57 : decode c_R_sourcesDiffer 57 = .ok (.iconst 0, 1) := by decide +kernel
theorem d_R_sourcesDiffer_58 : decode c_R_sourcesDiffer 58 = .ok (.ireturn, 1) := by decide +kernel
def T_R_sourcesDiffer_0 : List (Nat × bh_Op) := [(0, bo_st 1 (bg_push (.inl (.int 0)))),
  (1, bo_ist 2 3),
  (2, bo_ild 3 3),
  (3, bo_st 5 (bg_push (.inl (.int 8)))),
  (5, bo_if2 8 57 (fun x y => y ≤ x)),
  (8, bo_ild 9 2),
  (9, bo_ild 10 3),
  (10, bo_callS 13 2 0 0 F_H_isIn),
  (13, bo_if1 16 51 (fun x => x = 0)),
  (16, bo_ald 17 0),
  (17, bo_ild 18 3),
  (18, bo_callV 21 2 0 0 5 F_B_sourceOf),
  (21, bo_ist 23 4),
  (23, bo_ald 24 1),
  (24, bo_ild 25 3),
  (25, bo_callV 28 2 0 0 5 F_B_sourceOf),
  (28, bo_ist 30 5),
  (30, bo_ild 32 4),
  (32, bo_st 33 (bg_push (.inl (.int (-1))))),
  (33, bo_if2 36 51 (fun x y => x = y)),
  (36, bo_ild 38 5),
  (38, bo_st 39 (bg_push (.inl (.int (-1))))),
  (39, bo_if2 42 51 (fun x y => x = y)),
  (42, bo_ild 44 4),
  (44, bo_ild 46 5),
  (46, bo_if2 49 51 (fun x y => x = y)),
  (49, bo_st 50 (bg_push (.inl (.int 1)))),
  (50, bo_zret 0),
  (51, bo_inc 54 3 1),
  (54, bo_go 2),
  (57, bo_st 58 (bg_push (.inl (.int 0)))),
  (58, bo_zret 0)]
def T_R_sourcesDiffer : List (Nat × bh_Op) := T_R_sourcesDiffer_0
set_option maxRecDepth 20000 in
theorem mT_R_sourcesDiffer_0 : ∀ q ∈ T_R_sourcesDiffer_0, bh_mono q.2 := List.forall_mem_cons.mpr ⟨bo_st_mono (bg_push_m _), List.forall_mem_cons.mpr ⟨bo_ist_m _ _, List.forall_mem_cons.mpr ⟨bo_ild_m _ _, List.forall_mem_cons.mpr ⟨bo_st_mono (bg_push_m _), List.forall_mem_cons.mpr ⟨bo_if2_m _ _ _, List.forall_mem_cons.mpr ⟨bo_ild_m _ _, List.forall_mem_cons.mpr ⟨bo_ild_m _ _, List.forall_mem_cons.mpr ⟨bo_callS_m (mF_H_isIn) _ _ _ _, List.forall_mem_cons.mpr ⟨bo_if1_m _ _ _, List.forall_mem_cons.mpr ⟨bo_ald_m _ _, List.forall_mem_cons.mpr ⟨bo_ild_m _ _, List.forall_mem_cons.mpr ⟨bo_callV_m (mF_B_sourceOf) _ _ _ _ _, List.forall_mem_cons.mpr ⟨bo_ist_m _ _, List.forall_mem_cons.mpr ⟨bo_ald_m _ _, List.forall_mem_cons.mpr ⟨bo_ild_m _ _, List.forall_mem_cons.mpr ⟨bo_callV_m (mF_B_sourceOf) _ _ _ _ _, List.forall_mem_cons.mpr ⟨bo_ist_m _ _, List.forall_mem_cons.mpr ⟨bo_ild_m _ _, List.forall_mem_cons.mpr ⟨bo_st_mono (bg_push_m _), List.forall_mem_cons.mpr ⟨bo_if2_m _ _ _, List.forall_mem_cons.mpr ⟨bo_ild_m _ _, List.forall_mem_cons.mpr ⟨bo_st_mono (bg_push_m _), List.forall_mem_cons.mpr ⟨bo_if2_m _ _ _, List.forall_mem_cons.mpr ⟨bo_ild_m _ _, List.forall_mem_cons.mpr ⟨bo_ild_m _ _, List.forall_mem_cons.mpr ⟨bo_if2_m _ _ _, List.forall_mem_cons.mpr ⟨bo_st_mono (bg_push_m _), List.forall_mem_cons.mpr ⟨bo_zret_m _, List.forall_mem_cons.mpr ⟨bo_inc_m _ _ _, List.forall_mem_cons.mpr ⟨bo_go_m _, List.forall_mem_cons.mpr ⟨bo_st_mono (bg_push_m _), List.forall_mem_cons.mpr ⟨bo_zret_m _, fun _ h => absurd h List.not_mem_nil⟩⟩⟩⟩⟩⟩⟩⟩⟩⟩⟩⟩⟩⟩⟩⟩⟩⟩⟩⟩⟩⟩⟩⟩⟩⟩⟩⟩⟩⟩⟩⟩
theorem m_R_sourcesDiffer : ∀ pc, bh_mono (bh_tb (T_R_sourcesDiffer) pc) := bh_tb_m mT_R_sourcesDiffer_0
def F_R_sourcesDiffer : bh_Fn := bh_fn 6 (bh_tb T_R_sourcesDiffer)
theorem mF_R_sourcesDiffer : bh_monoF F_R_sourcesDiffer := bh_fn_m m_R_sourcesDiffer
theorem cl_R_sourcesDiffer {s : State} {args : Array Value} (d B : Nat) (hts : ∀ w ∈ bh_ws, w.before args s = true) : bh_Cal (bh_rm (d + 1) B) s y_R_sourcesDiffer 6 (.code y_R_sourcesDiffer c_R_sourcesDiffer 6 (some .boolean) :: bh_ws) (bh_rm d 0) 0 3 := bh_cal d B hts wd_334 wd_5 (by decide) (by decide +kernel)
set_option maxHeartbeats 4000000 in
set_option maxRecDepth 100000 in
theorem cn_R_sourcesDiffer {l : Launch} {G : bh_G} {base sb L : Nat} {xs : Nat → Int32} (htr : l.stackTraces = false) (d : Nat) : bh_Con l G base (bh_Bg G base sb L xs) y_R_sourcesDiffer (.code y_R_sourcesDiffer c_R_sourcesDiffer 6 (some .boolean) :: bh_ws) (bh_rm (d + 2) 0) 0 false F_R_sourcesDiffer := by
  refine bh_method (cc := c_R_sourcesDiffer) (ret := (some .boolean)) (by decide +kernel) rfl ?_
  intro p e s m args below meth c ad0 M0 Z X0 hr hlocks hname htab hbs hB
  obtain ⟨hx, hb, hml, hown, hts⟩ := id X0
  have hw : ∀ w ∈ bh_ws, w.before args s = true := fun w h => hts w (List.mem_cons_of_mem _ h)
  have hBg := bh_BgK (G := G) (base := base) (sb := sb) (L := L) (xs := xs)
  obtain ⟨hK, hAr, hen, hinj, hu1, hu2, hstr, hX, hsb, hsc, hxw, hao, hnc⟩ := id hB
  obtain ⟨ha1, ha2, ha3, ha4, ha5, ha6, ha0⟩ := bh_arr hAr
  exact List.forall_mem_cons.mpr ⟨fun S h => bs_iconst (Z := Z) hx hb (by decide) d_R_sourcesDiffer_0 h, List.forall_mem_cons.mpr ⟨fun S h => bs_istore_n (Z := Z) hx hb rfl d_R_sourcesDiffer_1 h, List.forall_mem_cons.mpr ⟨fun S h => bs_iload_n (Z := Z) hx hb rfl d_R_sourcesDiffer_2 h, List.forall_mem_cons.mpr ⟨fun S h => bs_bipush (Z := Z) hx hb (by decide) d_R_sourcesDiffer_3 h, List.forall_mem_cons.mpr ⟨fun S h => bs_icmp_ge (Z := Z) hx hb d_R_sourcesDiffer_5 (by decide) h, List.forall_mem_cons.mpr ⟨fun S h => bs_iload_n (Z := Z) hx hb rfl d_R_sourcesDiffer_8 h, List.forall_mem_cons.mpr ⟨fun S h => bs_iload_n (Z := Z) hx hb rfl d_R_sourcesDiffer_9 h, List.forall_mem_cons.mpr ⟨fun S h => bs_callSN (Z := Z) hBg hbs hB X0 (cn_H_isIn htr (d + 0)) (cl_H_isIn _ _ hw) (hxw (.methodLinkNest "BundleHall$Resolver" 127 ⟨"BundleHall", "isIn", "(II)Z"⟩ "BundleHall") (by decide)) (hts _ (List.mem_cons_of_mem _ wd_267)) (Nat.le_refl _) (Nat.le_refl _) d_R_sourcesDiffer_10 (bs_out htab hlocks) h, List.forall_mem_cons.mpr ⟨fun S h => bs_if_eq (Z := Z) hx hb d_R_sourcesDiffer_13 (by decide) h, List.forall_mem_cons.mpr ⟨fun S h => bs_aload_n (Z := Z) hx hb rfl d_R_sourcesDiffer_16 h, List.forall_mem_cons.mpr ⟨fun S h => bs_iload_n (Z := Z) hx hb rfl d_R_sourcesDiffer_17 h, List.forall_mem_cons.mpr ⟨fun S h => bs_callV (Z := Z) (C := R_B) hBg hbs hB X0 hK (cn_B_sourceOf htr (d + 0)) (cl_B_sourceOf _ _ hw) (hts _ (List.mem_cons_of_mem _ wd_336)) (hts _ (List.mem_cons_of_mem _ wd_337)) (hts _ (List.mem_cons_of_mem _ wd_338)) rfl rfl rfl rfl rfl (Nat.le_refl _) (Nat.le_refl _) d_R_sourcesDiffer_18 (bs_out htab hlocks) h, List.forall_mem_cons.mpr ⟨fun S h => bs_istore (Z := Z) hx hb d_R_sourcesDiffer_21 h, List.forall_mem_cons.mpr ⟨fun S h => bs_aload_n (Z := Z) hx hb rfl d_R_sourcesDiffer_23 h, List.forall_mem_cons.mpr ⟨fun S h => bs_iload_n (Z := Z) hx hb rfl d_R_sourcesDiffer_24 h, List.forall_mem_cons.mpr ⟨fun S h => bs_callV (Z := Z) (C := R_B) hBg hbs hB X0 hK (cn_B_sourceOf htr (d + 0)) (cl_B_sourceOf _ _ hw) (hts _ (List.mem_cons_of_mem _ wd_336)) (hts _ (List.mem_cons_of_mem _ wd_337)) (hts _ (List.mem_cons_of_mem _ wd_338)) rfl rfl rfl rfl rfl (Nat.le_refl _) (Nat.le_refl _) d_R_sourcesDiffer_25 (bs_out htab hlocks) h, List.forall_mem_cons.mpr ⟨fun S h => bs_istore (Z := Z) hx hb d_R_sourcesDiffer_28 h, List.forall_mem_cons.mpr ⟨fun S h => bs_iload (Z := Z) hx hb d_R_sourcesDiffer_30 h, List.forall_mem_cons.mpr ⟨fun S h => bs_iconst (Z := Z) hx hb (by decide) d_R_sourcesDiffer_32 h, List.forall_mem_cons.mpr ⟨fun S h => bs_icmp_eq (Z := Z) hx hb d_R_sourcesDiffer_33 (by decide) h, List.forall_mem_cons.mpr ⟨fun S h => bs_iload (Z := Z) hx hb d_R_sourcesDiffer_36 h, List.forall_mem_cons.mpr ⟨fun S h => bs_iconst (Z := Z) hx hb (by decide) d_R_sourcesDiffer_38 h, List.forall_mem_cons.mpr ⟨fun S h => bs_icmp_eq (Z := Z) hx hb d_R_sourcesDiffer_39 (by decide) h, List.forall_mem_cons.mpr ⟨fun S h => bs_iload (Z := Z) hx hb d_R_sourcesDiffer_42 h, List.forall_mem_cons.mpr ⟨fun S h => bs_iload (Z := Z) hx hb d_R_sourcesDiffer_44 h, List.forall_mem_cons.mpr ⟨fun S h => bs_icmp_eq (Z := Z) hx hb d_R_sourcesDiffer_46 (by decide) h, List.forall_mem_cons.mpr ⟨fun S h => bs_iconst (Z := Z) hx hb (by decide) d_R_sourcesDiffer_49 h, List.forall_mem_cons.mpr ⟨fun S h => bs_zret (Z := Z) hx hb hr hlocks d_R_sourcesDiffer_50 h, List.forall_mem_cons.mpr ⟨fun S h => bs_iinc (Z := Z) hx hb (by decide) d_R_sourcesDiffer_51 h, List.forall_mem_cons.mpr ⟨fun S h => bs_goto (Z := Z) hx hb d_R_sourcesDiffer_54 (by decide) h, List.forall_mem_cons.mpr ⟨fun S h => bs_iconst (Z := Z) hx hb (by decide) d_R_sourcesDiffer_57 h, List.forall_mem_cons.mpr ⟨fun S h => bs_zret (Z := Z) hx hb hr hlocks d_R_sourcesDiffer_58 h, fun _ h => absurd h List.not_mem_nil⟩⟩⟩⟩⟩⟩⟩⟩⟩⟩⟩⟩⟩⟩⟩⟩⟩⟩⟩⟩⟩⟩⟩⟩⟩⟩⟩⟩⟩⟩⟩⟩
abbrev c_R_hasClash : ByteArray := prog_6_method_9_code
def y_R_hasClash : MethodName := ⟨"BundleHall$Resolver", "hasClash", "([LBundleHall$Bundle;)Z"⟩
theorem d_R_hasClash_0 : decode c_R_hasClash 0 = .ok (.iconst 0, 1) := by decide +kernel
theorem d_R_hasClash_1 : decode c_R_hasClash 1 = .ok (.istore_n 2, 1) := by decide +kernel
theorem d_R_hasClash_2 : decode c_R_hasClash 2 = .ok (.iload_n 2, 1) := by decide +kernel
theorem d_R_hasClash_3 : decode c_R_hasClash 3 = .ok (.bipush 8, 2) := by decide +kernel
theorem d_R_hasClash_5 : decode c_R_hasClash 5 = .ok (.if_icmp .ge 101, 3) := by decide +kernel
theorem d_R_hasClash_8 : decode c_R_hasClash 8 = .ok (.aload_n 1, 1) := by decide +kernel
theorem d_R_hasClash_9 : decode c_R_hasClash 9 = .ok (.iload_n 2, 1) := by decide +kernel
theorem d_R_hasClash_10 : decode c_R_hasClash 10 = .ok (.aaload, 1) := by decide +kernel
theorem d_R_hasClash_11 : decode c_R_hasClash 11 = .ok (.astore_n 3, 1) := by decide +kernel
theorem d_R_hasClash_12 : decode c_R_hasClash 12 = .ok (.iconst 0, 1) := by decide +kernel
theorem d_R_hasClash_13 : decode c_R_hasClash 13 = .ok (.istore 4, 2) := by decide +kernel
theorem d_R_hasClash_15 : decode c_R_hasClash 15 = .ok (.aload_n 0, 1) := by decide +kernel
theorem d_R_hasClash_16 : decode c_R_hasClash 16 = .ok (.getfield 18, 3) := by decide +kernel
theorem d_R_hasClash_19 : decode c_R_hasClash 19 = .ok (.iload_n 2, 1) := by decide +kernel
theorem d_R_hasClash_20 : decode c_R_hasClash 20 = .ok (.baload, 1) := by decide +kernel
theorem d_R_hasClash_21 : decode c_R_hasClash 21 = .ok (.ifCond .eq 79, 3) := by decide +kernel
theorem d_R_hasClash_24 : decode c_R_hasClash 24 = .ok (.iload 4, 2) := by decide +kernel
theorem d_R_hasClash_26 : decode c_R_hasClash 26 = .ok (.aload_n 3, 1) := by decide +kernel
theorem d_R_hasClash_27 : decode c_R_hasClash 27 = .ok (.getfield 65, 3) := by decide +kernel
theorem d_R_hasClash_30 : decode c_R_hasClash 30 = .ok (.getfield 69, 3) := by decide +kernel
theorem d_R_hasClash_33 : decode c_R_hasClash 33 = .ok (.if_icmp .ge 67, 3) := by decide +kernel
theorem d_R_hasClash_36 : decode c_R_hasClash 36 = .ok (.aload_n 3, 1) := by decide +kernel
theorem d_R_hasClash_37 : decode c_R_hasClash 37 = .ok (.getfield 81, 3) := by decide +kernel
theorem d_R_hasClash_40 : decode c_R_hasClash 40 = .ok (.iload 4, 2) := by decide +kernel
theorem d_R_hasClash_42 : decode c_R_hasClash 42 = .ok (.iaload, 1) := by decide +kernel
theorem d_R_hasClash_43 : decode c_R_hasClash 43 = .ok (.istore 5, 2) := by decide +kernel
theorem d_R_hasClash_45 : decode c_R_hasClash 45 = .ok (.iload 5, 2) := by decide +kernel
theorem d_R_hasClash_47 : decode c_R_hasClash 47 = .ok (.iconst (-1), 1) := by decide +kernel
theorem d_R_hasClash_48 : decode c_R_hasClash 48 = .ok (.if_icmp .eq 46, 3) := by decide +kernel
theorem d_R_hasClash_51 : decode c_R_hasClash 51 = .ok (.aload_n 1, 1) := by decide +kernel
theorem d_R_hasClash_52 : decode c_R_hasClash 52 = .ok (.iload 5, 2) := by decide +kernel
theorem d_R_hasClash_54 : decode c_R_hasClash 54 = .ok (.invokestatic 113, 3) := by decide +kernel
theorem d_R_hasClash_57 : decode c_R_hasClash 57 = .ok (.aaload, 1) := by decide +kernel
theorem d_R_hasClash_58 : decode c_R_hasClash 58 = .ok (.astore 6, 2) := by decide +kernel
theorem d_R_hasClash_60 : decode c_R_hasClash 60 = .ok (.aload 6, 2) := by decide +kernel
theorem d_R_hasClash_62 : decode c_R_hasClash 62 = .ok (.getfield 65, 3) := by decide +kernel
theorem d_R_hasClash_65 : decode c_R_hasClash 65 = .ok (.getfield 117, 3) := by decide +kernel
theorem d_R_hasClash_68 : decode c_R_hasClash 68 = .ok (.aload_n 3, 1) := by decide +kernel
theorem d_R_hasClash_69 : decode c_R_hasClash 69 = .ok (.getfield 65, 3) := by decide +kernel
theorem d_R_hasClash_72 : decode c_R_hasClash 72 = .ok (.getfield 120, 3) := by decide +kernel
theorem d_R_hasClash_75 : decode c_R_hasClash 75 = .ok (.iload 4, 2) := by decide +kernel
theorem d_R_hasClash_77 : decode c_R_hasClash 77 = .ok (.iaload, 1) := by decide +kernel
theorem d_R_hasClash_78 : decode c_R_hasClash 78 = .ok (.iaload, 1) := by decide +kernel
theorem d_R_hasClash_79 : decode c_R_hasClash 79 = .ok (.istore 7, 2) := by decide +kernel
theorem d_R_hasClash_81 : decode c_R_hasClash 81 = .ok (.aload_n 3, 1) := by decide +kernel
theorem d_R_hasClash_82 : decode c_R_hasClash 82 = .ok (.aload 6, 2) := by decide +kernel
theorem d_R_hasClash_84 : decode c_R_hasClash 84 = .ok (.iload 7, 2) := by decide +kernel
theorem d_R_hasClash_86 : decode c_R_hasClash 86 = .ok (.invokestatic 123, 3) := by decide +kernel
theorem d_R_hasClash_89 : decode c_R_hasClash 89 = .ok (.ifCond .eq 5, 3) := by decide +kernel
theorem d_R_hasClash_92 : decode c_R_hasClash 92 = .ok (.iconst 1, 1) := by decide +kernel
theorem d_R_hasClash_93 : decode c_R_hasClash 93 = .ok (.ireturn, 1) := by decide +kernel
theorem d_R_hasClash_94 : decode c_R_hasClash 94 = .ok (.iinc 4 1, 3) := by decide +kernel
theorem d_R_hasClash_97 : decode c_R_hasClash 97 = .ok (.goto (-82), 3) := by decide +kernel
theorem d_R_hasClash_100 : decode c_R_hasClash 100 = .ok (.iinc 2 1, 3) := by decide +kernel
theorem d_R_hasClash_103 : decode c_R_hasClash 103 = .ok (.goto (-101), 3) := by decide +kernel
theorem d_R_hasClash_106 : decode c_R_hasClash 106 = .ok (.iconst 0, 1) := by decide +kernel
theorem d_R_hasClash_107 : decode c_R_hasClash 107 = .ok (.ireturn, 1) := by decide +kernel
def T_R_hasClash_0 : List (Nat × bh_Op) := [(0, bo_st 1 (bg_push (.inl (.int 0)))),
  (1, bo_ist 2 2),
  (2, bo_ild 3 2),
  (3, bo_st 5 (bg_push (.inl (.int 8)))),
  (5, bo_if2 8 106 (fun x y => y ≤ x)),
  (8, bo_ald 9 1),
  (9, bo_ild 10 2),
  (10, bo_Rald bh_ak bh_al 11),
  (11, bo_ast 12 3),
  (12, bo_st 13 (bg_push (.inl (.int 0)))),
  (13, bo_ist 15 4),
  (15, bo_ald 16 0),
  (16, bo_gR 19 15 2 18),
  (19, bo_ild 20 2),
  (20, bo_Zald bh_ak bh_al 21),
  (21, bo_if1 24 100 (fun x => x = 0)),
  (24, bo_ild 26 4),
  (26, bo_ald 27 3),
  (27, bo_gR 30 5 1 7),
  (30, bo_gI 33 7 8),
  (33, bo_if2 36 100 (fun x y => y ≤ x)),
  (36, bo_ald 37 3),
  (37, bo_gR 40 5 2 6),
  (40, bo_ild 42 4),
  (42, bo_Iald bh_ak bh_al 43),
  (43, bo_ist 45 5),
  (45, bo_ild 47 5),
  (47, bo_st 48 (bg_push (.inl (.int (-1))))),
  (48, bo_if2 51 94 (fun x y => x = y)),
  (51, bo_ald 52 1),
  (52, bo_ild 54 5),
  (54, bo_callS 57 1 0 0 F_H_ownerOf),
  (57, bo_Rald bh_ak bh_al 58),
  (58, bo_ast 60 6),
  (60, bo_ald 62 6),
  (62, bo_gR 65 5 1 7),
  (65, bo_gR 68 7 1 9),
  (68, bo_ald 69 3),
  (69, bo_gR 72 5 1 7),
  (72, bo_gR 75 7 3 11)]
def T_R_hasClash_1 : List (Nat × bh_Op) := [(75, bo_ild 77 4),
  (77, bo_Iald bh_ak bh_al 78),
  (78, bo_Iald bh_ak bh_al 79),
  (79, bo_ist 81 7),
  (81, bo_ald 82 3),
  (82, bo_ald 84 6),
  (84, bo_ild 86 7),
  (86, bo_callS 89 3 0 0 F_R_sourcesDiffer),
  (89, bo_if1 92 94 (fun x => x = 0)),
  (92, bo_st 93 (bg_push (.inl (.int 1)))),
  (93, bo_zret 0),
  (94, bo_inc 97 4 1),
  (97, bo_go 15),
  (100, bo_inc 103 2 1),
  (103, bo_go 2),
  (106, bo_st 107 (bg_push (.inl (.int 0)))),
  (107, bo_zret 0)]
def T_R_hasClash : List (Nat × bh_Op) := T_R_hasClash_0 ++ T_R_hasClash_1
set_option maxRecDepth 20000 in
theorem mT_R_hasClash_0 : ∀ q ∈ T_R_hasClash_0, bh_mono q.2 := List.forall_mem_cons.mpr ⟨bo_st_mono (bg_push_m _), List.forall_mem_cons.mpr ⟨bo_ist_m _ _, List.forall_mem_cons.mpr ⟨bo_ild_m _ _, List.forall_mem_cons.mpr ⟨bo_st_mono (bg_push_m _), List.forall_mem_cons.mpr ⟨bo_if2_m _ _ _, List.forall_mem_cons.mpr ⟨bo_ald_m _ _, List.forall_mem_cons.mpr ⟨bo_ild_m _ _, List.forall_mem_cons.mpr ⟨bo_Rald_m _ _ _, List.forall_mem_cons.mpr ⟨bo_ast_m _ _, List.forall_mem_cons.mpr ⟨bo_st_mono (bg_push_m _), List.forall_mem_cons.mpr ⟨bo_ist_m _ _, List.forall_mem_cons.mpr ⟨bo_ald_m _ _, List.forall_mem_cons.mpr ⟨bo_gR_m _ _ _ _, List.forall_mem_cons.mpr ⟨bo_ild_m _ _, List.forall_mem_cons.mpr ⟨bo_Zald_m _ _ _, List.forall_mem_cons.mpr ⟨bo_if1_m _ _ _, List.forall_mem_cons.mpr ⟨bo_ild_m _ _, List.forall_mem_cons.mpr ⟨bo_ald_m _ _, List.forall_mem_cons.mpr ⟨bo_gR_m _ _ _ _, List.forall_mem_cons.mpr ⟨bo_gI_m _ _ _, List.forall_mem_cons.mpr ⟨bo_if2_m _ _ _, List.forall_mem_cons.mpr ⟨bo_ald_m _ _, List.forall_mem_cons.mpr ⟨bo_gR_m _ _ _ _, List.forall_mem_cons.mpr ⟨bo_ild_m _ _, List.forall_mem_cons.mpr ⟨bo_Iald_m _ _ _, List.forall_mem_cons.mpr ⟨bo_ist_m _ _, List.forall_mem_cons.mpr ⟨bo_ild_m _ _, List.forall_mem_cons.mpr ⟨bo_st_mono (bg_push_m _), List.forall_mem_cons.mpr ⟨bo_if2_m _ _ _, List.forall_mem_cons.mpr ⟨bo_ald_m _ _, List.forall_mem_cons.mpr ⟨bo_ild_m _ _, List.forall_mem_cons.mpr ⟨bo_callS_m (mF_H_ownerOf) _ _ _ _, List.forall_mem_cons.mpr ⟨bo_Rald_m _ _ _, List.forall_mem_cons.mpr ⟨bo_ast_m _ _, List.forall_mem_cons.mpr ⟨bo_ald_m _ _, List.forall_mem_cons.mpr ⟨bo_gR_m _ _ _ _, List.forall_mem_cons.mpr ⟨bo_gR_m _ _ _ _, List.forall_mem_cons.mpr ⟨bo_ald_m _ _, List.forall_mem_cons.mpr ⟨bo_gR_m _ _ _ _, List.forall_mem_cons.mpr ⟨bo_gR_m _ _ _ _, fun _ h => absurd h List.not_mem_nil⟩⟩⟩⟩⟩⟩⟩⟩⟩⟩⟩⟩⟩⟩⟩⟩⟩⟩⟩⟩⟩⟩⟩⟩⟩⟩⟩⟩⟩⟩⟩⟩⟩⟩⟩⟩⟩⟩⟩⟩
set_option maxRecDepth 20000 in
theorem mT_R_hasClash_1 : ∀ q ∈ T_R_hasClash_1, bh_mono q.2 := List.forall_mem_cons.mpr ⟨bo_ild_m _ _, List.forall_mem_cons.mpr ⟨bo_Iald_m _ _ _, List.forall_mem_cons.mpr ⟨bo_Iald_m _ _ _, List.forall_mem_cons.mpr ⟨bo_ist_m _ _, List.forall_mem_cons.mpr ⟨bo_ald_m _ _, List.forall_mem_cons.mpr ⟨bo_ald_m _ _, List.forall_mem_cons.mpr ⟨bo_ild_m _ _, List.forall_mem_cons.mpr ⟨bo_callS_m (mF_R_sourcesDiffer) _ _ _ _, List.forall_mem_cons.mpr ⟨bo_if1_m _ _ _, List.forall_mem_cons.mpr ⟨bo_st_mono (bg_push_m _), List.forall_mem_cons.mpr ⟨bo_zret_m _, List.forall_mem_cons.mpr ⟨bo_inc_m _ _ _, List.forall_mem_cons.mpr ⟨bo_go_m _, List.forall_mem_cons.mpr ⟨bo_inc_m _ _ _, List.forall_mem_cons.mpr ⟨bo_go_m _, List.forall_mem_cons.mpr ⟨bo_st_mono (bg_push_m _), List.forall_mem_cons.mpr ⟨bo_zret_m _, fun _ h => absurd h List.not_mem_nil⟩⟩⟩⟩⟩⟩⟩⟩⟩⟩⟩⟩⟩⟩⟩⟩⟩
theorem m_R_hasClash : ∀ pc, bh_mono (bh_tb (T_R_hasClash) pc) := bh_tb_m (List.forall_mem_append.mpr ⟨mT_R_hasClash_0, mT_R_hasClash_1⟩)
def F_R_hasClash : bh_Fn := bh_fn 8 (bh_tb T_R_hasClash)
theorem mF_R_hasClash : bh_monoF F_R_hasClash := bh_fn_m m_R_hasClash
theorem cl_R_hasClash {s : State} {args : Array Value} (d B : Nat) (hts : ∀ w ∈ bh_ws, w.before args s = true) : bh_Cal (bh_rm (d + 1) B) s y_R_hasClash 8 (.code y_R_hasClash c_R_hasClash 8 (some .boolean) :: bh_ws) (bh_rm d 0) 0 1 := bh_cal d B hts wd_330 wd_5 (by decide) (by decide +kernel)
set_option maxHeartbeats 4000000 in
set_option maxRecDepth 100000 in
theorem cn_R_hasClash {l : Launch} {G : bh_G} {base sb L : Nat} {xs : Nat → Int32} (htr : l.stackTraces = false) (d : Nat) : bh_Con l G base (bh_Bg G base sb L xs) y_R_hasClash (.code y_R_hasClash c_R_hasClash 8 (some .boolean) :: bh_ws) (bh_rm (d + 3) 0) 0 false F_R_hasClash := by
  refine bh_method (cc := c_R_hasClash) (ret := (some .boolean)) (by decide +kernel) rfl ?_
  intro p e s m args below meth c ad0 M0 Z X0 hr hlocks hname htab hbs hB
  obtain ⟨hx, hb, hml, hown, hts⟩ := id X0
  have hw : ∀ w ∈ bh_ws, w.before args s = true := fun w h => hts w (List.mem_cons_of_mem _ h)
  have hBg := bh_BgK (G := G) (base := base) (sb := sb) (L := L) (xs := xs)
  obtain ⟨hK, hAr, hen, hinj, hu1, hu2, hstr, hX, hsb, hsc, hxw, hao, hnc⟩ := id hB
  obtain ⟨ha1, ha2, ha3, ha4, ha5, ha6, ha0⟩ := bh_arr hAr
  refine List.forall_mem_append.mpr ⟨?_, List.forall_mem_cons.mpr ⟨fun S h => bs_iload (Z := Z) hx hb d_R_hasClash_75 h, List.forall_mem_cons.mpr ⟨fun S h => bs_Iald (Z := Z) hx hb ha1 d_R_hasClash_77 h, List.forall_mem_cons.mpr ⟨fun S h => bs_Iald (Z := Z) hx hb ha1 d_R_hasClash_78 h, List.forall_mem_cons.mpr ⟨fun S h => bs_istore (Z := Z) hx hb d_R_hasClash_79 h, List.forall_mem_cons.mpr ⟨fun S h => bs_aload_n (Z := Z) hx hb rfl d_R_hasClash_81 h, List.forall_mem_cons.mpr ⟨fun S h => bs_aload (Z := Z) hx hb d_R_hasClash_82 h, List.forall_mem_cons.mpr ⟨fun S h => bs_iload (Z := Z) hx hb d_R_hasClash_84 h, List.forall_mem_cons.mpr ⟨fun S h => bs_callS (Z := Z) hBg hbs hB X0 (cn_R_sourcesDiffer htr (d + 0)) (cl_R_sourcesDiffer _ _ hw) (hts _ (List.mem_cons_of_mem _ wd_332)) (hts _ (List.mem_cons_of_mem _ wd_333)) (Nat.le_refl _) (Nat.le_refl _) d_R_hasClash_86 (bs_out htab hlocks) h, List.forall_mem_cons.mpr ⟨fun S h => bs_if_eq (Z := Z) hx hb d_R_hasClash_89 (by decide) h, List.forall_mem_cons.mpr ⟨fun S h => bs_iconst (Z := Z) hx hb (by decide) d_R_hasClash_92 h, List.forall_mem_cons.mpr ⟨fun S h => bs_zret (Z := Z) hx hb hr hlocks d_R_hasClash_93 h, List.forall_mem_cons.mpr ⟨fun S h => bs_iinc (Z := Z) hx hb (by decide) d_R_hasClash_94 h, List.forall_mem_cons.mpr ⟨fun S h => bs_goto (Z := Z) hx hb d_R_hasClash_97 (by decide) h, List.forall_mem_cons.mpr ⟨fun S h => bs_iinc (Z := Z) hx hb (by decide) d_R_hasClash_100 h, List.forall_mem_cons.mpr ⟨fun S h => bs_goto (Z := Z) hx hb d_R_hasClash_103 (by decide) h, List.forall_mem_cons.mpr ⟨fun S h => bs_iconst (Z := Z) hx hb (by decide) d_R_hasClash_106 h, List.forall_mem_cons.mpr ⟨fun S h => bs_zret (Z := Z) hx hb hr hlocks d_R_hasClash_107 h, fun _ h => absurd h List.not_mem_nil⟩⟩⟩⟩⟩⟩⟩⟩⟩⟩⟩⟩⟩⟩⟩⟩⟩⟩
  exact List.forall_mem_cons.mpr ⟨fun S h => bs_iconst (Z := Z) hx hb (by decide) d_R_hasClash_0 h, List.forall_mem_cons.mpr ⟨fun S h => bs_istore_n (Z := Z) hx hb rfl d_R_hasClash_1 h, List.forall_mem_cons.mpr ⟨fun S h => bs_iload_n (Z := Z) hx hb rfl d_R_hasClash_2 h, List.forall_mem_cons.mpr ⟨fun S h => bs_bipush (Z := Z) hx hb (by decide) d_R_hasClash_3 h, List.forall_mem_cons.mpr ⟨fun S h => bs_icmp_ge (Z := Z) hx hb d_R_hasClash_5 (by decide) h, List.forall_mem_cons.mpr ⟨fun S h => bs_aload_n (Z := Z) hx hb rfl d_R_hasClash_8 h, List.forall_mem_cons.mpr ⟨fun S h => bs_iload_n (Z := Z) hx hb rfl d_R_hasClash_9 h, List.forall_mem_cons.mpr ⟨fun S h => bs_Rald (Z := Z) hx hb ha5 d_R_hasClash_10 h, List.forall_mem_cons.mpr ⟨fun S h => bs_astore_n (Z := Z) hx hb rfl d_R_hasClash_11 h, List.forall_mem_cons.mpr ⟨fun S h => bs_iconst (Z := Z) hx hb (by decide) d_R_hasClash_12 h, List.forall_mem_cons.mpr ⟨fun S h => bs_istore (Z := Z) hx hb d_R_hasClash_13 h, List.forall_mem_cons.mpr ⟨fun S h => bs_aload_n (Z := Z) hx hb rfl d_R_hasClash_15 h, List.forall_mem_cons.mpr ⟨fun S h => bs_gR (Z := Z) (C := R_R) (T := F_R) (N := 6) (t := 15) (j := 2) hx hb hK hts (fun w h => List.mem_cons_of_mem _ (iw_R w h)) hown rfl rfl (by decide) (hts _ (List.mem_cons_of_mem _ wd_139)) (fun _ h => h) rfl rfl rfl d_R_hasClash_16 h, List.forall_mem_cons.mpr ⟨fun S h => bs_iload_n (Z := Z) hx hb rfl d_R_hasClash_19 h, List.forall_mem_cons.mpr ⟨fun S h => bs_Zald (Z := Z) hx hb ha2 d_R_hasClash_20 h, List.forall_mem_cons.mpr ⟨fun S h => bs_if_eq (Z := Z) hx hb d_R_hasClash_21 (by decide) h, List.forall_mem_cons.mpr ⟨fun S h => bs_iload (Z := Z) hx hb d_R_hasClash_24 h, List.forall_mem_cons.mpr ⟨fun S h => bs_aload_n (Z := Z) hx hb rfl d_R_hasClash_26 h, List.forall_mem_cons.mpr ⟨fun S h => bs_gR (Z := Z) (C := R_B) (T := F_B) (N := 10) (t := 5) (j := 1) hx hb hK hts (fun w h => List.mem_cons_of_mem _ (iw_B w h)) hown rfl rfl (by decide) (hts _ (List.mem_cons_of_mem _ wd_89)) (fun _ h => h) rfl rfl rfl d_R_hasClash_27 h, List.forall_mem_cons.mpr ⟨fun S h => bs_gI (Z := Z) (C := R_F) (T := F_F) (N := 9) (t := 7) (j := 8) hx hb hK hts (fun w h => List.mem_cons_of_mem _ (iw_F w h)) hown rfl rfl (by decide) (hts _ (List.mem_cons_of_mem _ wd_61)) (fun _ h => h) rfl rfl rfl d_R_hasClash_30 h, List.forall_mem_cons.mpr ⟨fun S h => bs_icmp_ge (Z := Z) hx hb d_R_hasClash_33 (by decide) h, List.forall_mem_cons.mpr ⟨fun S h => bs_aload_n (Z := Z) hx hb rfl d_R_hasClash_36 h, List.forall_mem_cons.mpr ⟨fun S h => bs_gR (Z := Z) (C := R_B) (T := F_B) (N := 10) (t := 5) (j := 2) hx hb hK hts (fun w h => List.mem_cons_of_mem _ (iw_B w h)) hown rfl rfl (by decide) (hts _ (List.mem_cons_of_mem _ wd_92)) (fun _ h => h) rfl rfl rfl d_R_hasClash_37 h, List.forall_mem_cons.mpr ⟨fun S h => bs_iload (Z := Z) hx hb d_R_hasClash_40 h, List.forall_mem_cons.mpr ⟨fun S h => bs_Iald (Z := Z) hx hb ha1 d_R_hasClash_42 h, List.forall_mem_cons.mpr ⟨fun S h => bs_istore (Z := Z) hx hb d_R_hasClash_43 h, List.forall_mem_cons.mpr ⟨fun S h => bs_iload (Z := Z) hx hb d_R_hasClash_45 h, List.forall_mem_cons.mpr ⟨fun S h => bs_iconst (Z := Z) hx hb (by decide) d_R_hasClash_47 h, List.forall_mem_cons.mpr ⟨fun S h => bs_icmp_eq (Z := Z) hx hb d_R_hasClash_48 (by decide) h, List.forall_mem_cons.mpr ⟨fun S h => bs_aload_n (Z := Z) hx hb rfl d_R_hasClash_51 h, List.forall_mem_cons.mpr ⟨fun S h => bs_iload (Z := Z) hx hb d_R_hasClash_52 h, List.forall_mem_cons.mpr ⟨fun S h => bs_callSN (Z := Z) hBg hbs hB X0 (cn_H_ownerOf htr (d + 0)) (cl_H_ownerOf _ _ hw) (hxw (.methodLinkNest "BundleHall$Resolver" 113 ⟨"BundleHall", "ownerOf", "(I)I"⟩ "BundleHall") (by decide)) (hts _ (List.mem_cons_of_mem _ wd_257)) (Nat.le_refl _) (Nat.le_refl _) d_R_hasClash_54 (bs_out htab hlocks) h, List.forall_mem_cons.mpr ⟨fun S h => bs_Rald (Z := Z) hx hb ha5 d_R_hasClash_57 h, List.forall_mem_cons.mpr ⟨fun S h => bs_astore (Z := Z) hx hb d_R_hasClash_58 h, List.forall_mem_cons.mpr ⟨fun S h => bs_aload (Z := Z) hx hb d_R_hasClash_60 h, List.forall_mem_cons.mpr ⟨fun S h => bs_gR (Z := Z) (C := R_B) (T := F_B) (N := 10) (t := 5) (j := 1) hx hb hK hts (fun w h => List.mem_cons_of_mem _ (iw_B w h)) hown rfl rfl (by decide) (hts _ (List.mem_cons_of_mem _ wd_89)) (fun _ h => h) rfl rfl rfl d_R_hasClash_62 h, List.forall_mem_cons.mpr ⟨fun S h => bs_gR (Z := Z) (C := R_F) (T := F_F) (N := 9) (t := 7) (j := 1) hx hb hK hts (fun w h => List.mem_cons_of_mem _ (iw_F w h)) hown rfl rfl (by decide) (hts _ (List.mem_cons_of_mem _ wd_49)) (fun _ h => h) rfl rfl rfl d_R_hasClash_65 h, List.forall_mem_cons.mpr ⟨fun S h => bs_aload_n (Z := Z) hx hb rfl d_R_hasClash_68 h, List.forall_mem_cons.mpr ⟨fun S h => bs_gR (Z := Z) (C := R_B) (T := F_B) (N := 10) (t := 5) (j := 1) hx hb hK hts (fun w h => List.mem_cons_of_mem _ (iw_B w h)) hown rfl rfl (by decide) (hts _ (List.mem_cons_of_mem _ wd_89)) (fun _ h => h) rfl rfl rfl d_R_hasClash_69 h, List.forall_mem_cons.mpr ⟨fun S h => bs_gR (Z := Z) (C := R_F) (T := F_F) (N := 9) (t := 7) (j := 3) hx hb hK hts (fun w h => List.mem_cons_of_mem _ (iw_F w h)) hown rfl rfl (by decide) (hts _ (List.mem_cons_of_mem _ wd_53)) (fun _ h => h) rfl rfl rfl d_R_hasClash_72 h, fun _ h => absurd h List.not_mem_nil⟩⟩⟩⟩⟩⟩⟩⟩⟩⟩⟩⟩⟩⟩⟩⟩⟩⟩⟩⟩⟩⟩⟩⟩⟩⟩⟩⟩⟩⟩⟩⟩⟩⟩⟩⟩⟩⟩⟩⟩
abbrev c_R_putOut : ByteArray := prog_6_method_5_code
def y_R_putOut : MethodName := ⟨"BundleHall$Resolver", "putOut", "(LBundleHall$Bundle;I)V"⟩
theorem d_R_putOut_0 : decode c_R_putOut 0 = .ok (.aload_n 0, 1) := by decide +kernel
theorem d_R_putOut_1 : decode c_R_putOut 1 = .ok (.getfield 18, 3) := by decide +kernel
theorem d_R_putOut_4 : decode c_R_putOut 4 = .ok (.aload_n 1, 1) := by decide +kernel
theorem d_R_putOut_5 : decode c_R_putOut 5 = .ok (.getfield 60, 3) := by decide +kernel
theorem d_R_putOut_8 : decode c_R_putOut 8 = .ok (.iconst 0, 1) := by decide +kernel
theorem d_R_putOut_9 : decode c_R_putOut 9 = .ok (.bastore, 1) := by decide +kernel
theorem d_R_putOut_10 : decode c_R_putOut 10 = .ok (.aload_n 0, 1) := by decide +kernel
theorem d_R_putOut_11 : decode c_R_putOut 11 = .ok (.dup, 1) := by decide +kernel
theorem d_R_putOut_12 : decode c_R_putOut 12 = .ok (.getfield 29, 3) := by decide +kernel
theorem d_R_putOut_15 : decode c_R_putOut 15 = .ok (.iconst 1, 1) := by decide +kernel
theorem d_R_putOut_16 : decode c_R_putOut 16 = .ok (.isub, 1) := by decide +kernel
theorem d_R_putOut_17 : decode c_R_putOut 17 = .ok (.putfield 29, 3) := by decide +kernel
theorem d_R_putOut_20 : decode c_R_putOut 20 = .ok (.aload_n 0, 1) := by decide +kernel
theorem d_R_putOut_21 : decode c_R_putOut 21 = .ok (.iload_n 2, 1) := by decide +kernel
theorem d_R_putOut_22 : decode c_R_putOut 22 = .ok (.putfield 22, 3) := by decide +kernel
theorem d_R_putOut_25 : decode c_R_putOut 25 = .ok (.return_, 1) := by decide +kernel
def T_R_putOut_0 : List (Nat × bh_Op) := [(0, bo_ald 1 0),
  (1, bo_gR 4 15 2 18),
  (4, bo_ald 5 1),
  (5, bo_gI 8 5 0),
  (8, bo_st 9 (bg_push (.inl (.int 0)))),
  (9, bo_Zast bh_ak bh_al 10),
  (10, bo_ald 11 0),
  (11, bo_st 12 bg_dup),
  (12, bo_gI 15 15 5),
  (15, bo_st 16 (bg_push (.inl (.int 1)))),
  (16, bo_st 17 (bg_ii (fun x y => x - y))),
  (17, bo_pI 20 15 5),
  (20, bo_ald 21 0),
  (21, bo_ild 22 2),
  (22, bo_pI 25 15 3),
  (25, bo_vret 0)]
def T_R_putOut : List (Nat × bh_Op) := T_R_putOut_0
set_option maxRecDepth 20000 in
theorem mT_R_putOut_0 : ∀ q ∈ T_R_putOut_0, bh_mono q.2 := List.forall_mem_cons.mpr ⟨bo_ald_m _ _, List.forall_mem_cons.mpr ⟨bo_gR_m _ _ _ _, List.forall_mem_cons.mpr ⟨bo_ald_m _ _, List.forall_mem_cons.mpr ⟨bo_gI_m _ _ _, List.forall_mem_cons.mpr ⟨bo_st_mono (bg_push_m _), List.forall_mem_cons.mpr ⟨bo_Zast_m _ _ _, List.forall_mem_cons.mpr ⟨bo_ald_m _ _, List.forall_mem_cons.mpr ⟨bo_st_mono bg_dup_m, List.forall_mem_cons.mpr ⟨bo_gI_m _ _ _, List.forall_mem_cons.mpr ⟨bo_st_mono (bg_push_m _), List.forall_mem_cons.mpr ⟨bo_st_mono (bg_ii_m _), List.forall_mem_cons.mpr ⟨bo_pI_m _ _ _, List.forall_mem_cons.mpr ⟨bo_ald_m _ _, List.forall_mem_cons.mpr ⟨bo_ild_m _ _, List.forall_mem_cons.mpr ⟨bo_pI_m _ _ _, List.forall_mem_cons.mpr ⟨bo_vret_m _, fun _ h => absurd h List.not_mem_nil⟩⟩⟩⟩⟩⟩⟩⟩⟩⟩⟩⟩⟩⟩⟩⟩
theorem m_R_putOut : ∀ pc, bh_mono (bh_tb (T_R_putOut) pc) := bh_tb_m mT_R_putOut_0
def F_R_putOut : bh_Fn := bh_fn 3 (bh_tb T_R_putOut)
theorem mF_R_putOut : bh_monoF F_R_putOut := bh_fn_m m_R_putOut
theorem cl_R_putOut {s : State} {args : Array Value} (d B : Nat) (hts : ∀ w ∈ bh_ws, w.before args s = true) : bh_Cal (bh_rm (d + 1) B) s y_R_putOut 3 (.code y_R_putOut c_R_putOut 3 none :: bh_ws) (bh_rm d 0) 0 2 := bh_cal d B hts wd_343 wd_5 (by decide) (by decide +kernel)
set_option maxHeartbeats 4000000 in
set_option maxRecDepth 100000 in
theorem cn_R_putOut {l : Launch} {G : bh_G} {base sb L : Nat} {xs : Nat → Int32} (htr : l.stackTraces = false) (d : Nat) : bh_Con l G base (bh_Bg G base sb L xs) y_R_putOut (.code y_R_putOut c_R_putOut 3 none :: bh_ws) (bh_rm (d + 1) 0) 0 false F_R_putOut := by
  refine bh_method (cc := c_R_putOut) (ret := none) (by decide +kernel) rfl ?_
  intro p e s m args below meth c ad0 M0 Z X0 hr hlocks hname htab hbs hB
  obtain ⟨hx, hb, hml, hown, hts⟩ := id X0
  have hw : ∀ w ∈ bh_ws, w.before args s = true := fun w h => hts w (List.mem_cons_of_mem _ h)
  have hBg := bh_BgK (G := G) (base := base) (sb := sb) (L := L) (xs := xs)
  obtain ⟨hK, hAr, hen, hinj, hu1, hu2, hstr, hX, hsb, hsc, hxw, hao, hnc⟩ := id hB
  obtain ⟨ha1, ha2, ha3, ha4, ha5, ha6, ha0⟩ := bh_arr hAr
  exact List.forall_mem_cons.mpr ⟨fun S h => bs_aload_n (Z := Z) hx hb rfl d_R_putOut_0 h, List.forall_mem_cons.mpr ⟨fun S h => bs_gR (Z := Z) (C := R_R) (T := F_R) (N := 6) (t := 15) (j := 2) hx hb hK hts (fun w h => List.mem_cons_of_mem _ (iw_R w h)) hown rfl rfl (by decide) (hts _ (List.mem_cons_of_mem _ wd_139)) (fun _ h => h) rfl rfl rfl d_R_putOut_1 h, List.forall_mem_cons.mpr ⟨fun S h => bs_aload_n (Z := Z) hx hb rfl d_R_putOut_4 h, List.forall_mem_cons.mpr ⟨fun S h => bs_gI (Z := Z) (C := R_B) (T := F_B) (N := 10) (t := 5) (j := 0) hx hb hK hts (fun w h => List.mem_cons_of_mem _ (iw_B w h)) hown rfl rfl (by decide) (hts _ (List.mem_cons_of_mem _ wd_86)) (fun _ h => h) rfl rfl rfl d_R_putOut_5 h, List.forall_mem_cons.mpr ⟨fun S h => bs_iconst (Z := Z) hx hb (by decide) d_R_putOut_8 h, List.forall_mem_cons.mpr ⟨fun S h => bs_Zast (Z := Z) hx hb ha2 d_R_putOut_9 h, List.forall_mem_cons.mpr ⟨fun S h => bs_aload_n (Z := Z) hx hb rfl d_R_putOut_10 h, List.forall_mem_cons.mpr ⟨fun S h => bs_dup (Z := Z) hx hb d_R_putOut_11 h, List.forall_mem_cons.mpr ⟨fun S h => bs_gI (Z := Z) (C := R_R) (T := F_R) (N := 6) (t := 15) (j := 5) hx hb hK hts (fun w h => List.mem_cons_of_mem _ (iw_R w h)) hown rfl rfl (by decide) (hts _ (List.mem_cons_of_mem _ wd_143)) (fun _ h => h) rfl rfl rfl d_R_putOut_12 h, List.forall_mem_cons.mpr ⟨fun S h => bs_iconst (Z := Z) hx hb (by decide) d_R_putOut_15 h, List.forall_mem_cons.mpr ⟨fun S h => bs_isub (Z := Z) hx hb d_R_putOut_16 h, List.forall_mem_cons.mpr ⟨fun S h => bs_pI (Z := Z) (C := R_R) (T := F_R) (N := 6) (t := 15) (j := 5) hx hb hK hts (fun w h => List.mem_cons_of_mem _ (iw_R w h)) hown rfl rfl (by decide) (hts _ (List.mem_cons_of_mem _ wd_143)) (fun _ h => h) rfl rfl t_R t_R_ok n_R rfl (by decide +kernel) rfl d_R_putOut_17 h, List.forall_mem_cons.mpr ⟨fun S h => bs_aload_n (Z := Z) hx hb rfl d_R_putOut_20 h, List.forall_mem_cons.mpr ⟨fun S h => bs_iload_n (Z := Z) hx hb rfl d_R_putOut_21 h, List.forall_mem_cons.mpr ⟨fun S h => bs_pI (Z := Z) (C := R_R) (T := F_R) (N := 6) (t := 15) (j := 3) hx hb hK hts (fun w h => List.mem_cons_of_mem _ (iw_R w h)) hown rfl rfl (by decide) (hts _ (List.mem_cons_of_mem _ wd_140)) (fun _ h => h) rfl rfl t_R t_R_ok n_R rfl (by decide +kernel) rfl d_R_putOut_22 h, List.forall_mem_cons.mpr ⟨fun S h => bs_vret (Z := Z) hx hb hr hlocks d_R_putOut_25 h, fun _ h => absurd h List.not_mem_nil⟩⟩⟩⟩⟩⟩⟩⟩⟩⟩⟩⟩⟩⟩⟩⟩
abbrev c_R_solveFrom : ByteArray := prog_6_method_4_code
def y_R_solveFrom : MethodName := ⟨"BundleHall$Resolver", "solveFrom", "([LBundleHall$Bundle;I)Z"⟩
theorem d_R_solveFrom_0 : decode c_R_solveFrom 0 = .ok (.iload_n 2, 1) := by decide +kernel
theorem d_R_solveFrom_1 : decode c_R_solveFrom 1 = .ok (.aload_n 0, 1) := by decide +kernel
theorem d_R_solveFrom_2 : decode c_R_solveFrom 2 = .ok (.getfield 22, 3) := by decide +kernel
theorem d_R_solveFrom_5 : decode c_R_solveFrom 5 = .ok (.if_icmp .lt 5, 3) := by decide +kernel
theorem d_R_solveFrom_8 : decode c_R_solveFrom 8 = .ok (.iconst 1, 1) := by decide +kernel
theorem d_R_solveFrom_9 : decode c_R_solveFrom 9 = .ok (.ireturn, 1) := by decide +kernel
theorem d_R_solveFrom_10 : decode c_R_solveFrom 10 = .ok (.aload_n 1, 1) := by decide +kernel
theorem d_R_solveFrom_11 : decode c_R_solveFrom 11 = .ok (.aload_n 0, 1) := by decide +kernel
theorem d_R_solveFrom_12 : decode c_R_solveFrom 12 = .ok (.getfield 9, 3) := by decide +kernel
theorem d_R_solveFrom_15 : decode c_R_solveFrom 15 = .ok (.iload_n 2, 1) := by decide +kernel
theorem d_R_solveFrom_16 : decode c_R_solveFrom 16 = .ok (.iaload, 1) := by decide +kernel
theorem d_R_solveFrom_17 : decode c_R_solveFrom 17 = .ok (.aaload, 1) := by decide +kernel
theorem d_R_solveFrom_18 : decode c_R_solveFrom 18 = .ok (.astore_n 3, 1) := by decide +kernel
theorem d_R_solveFrom_19 : decode c_R_solveFrom 19 = .ok (.aload_n 0, 1) := by decide +kernel
theorem d_R_solveFrom_20 : decode c_R_solveFrom 20 = .ok (.getfield 15, 3) := by decide +kernel
theorem d_R_solveFrom_23 : decode c_R_solveFrom 23 = .ok (.iload_n 2, 1) := by decide +kernel
theorem d_R_solveFrom_24 : decode c_R_solveFrom 24 = .ok (.iaload, 1) := by decide +kernel
theorem d_R_solveFrom_25 : decode c_R_solveFrom 25 = .ok (.istore 4, 2) := by decide +kernel
theorem d_R_solveFrom_27 : decode c_R_solveFrom 27 = .ok (.aload_n 0, 1) := by decide +kernel
theorem d_R_solveFrom_28 : decode c_R_solveFrom 28 = .ok (.getfield 22, 3) := by decide +kernel
theorem d_R_solveFrom_31 : decode c_R_solveFrom 31 = .ok (.istore 5, 2) := by decide +kernel
theorem d_R_solveFrom_33 : decode c_R_solveFrom 33 = .ok (.iconst (-1), 1) := by decide +kernel
theorem d_R_solveFrom_34 : decode c_R_solveFrom 34 = .ok (.istore 6, 2) := by decide +kernel
theorem d_R_solveFrom_36 : decode c_R_solveFrom 36 = .ok (.iconst 0, 1) := by decide +kernel
theorem d_R_solveFrom_37 : decode c_R_solveFrom 37 = .ok (.istore 7, 2) := by decide +kernel
theorem d_R_solveFrom_39 : decode c_R_solveFrom 39 = .ok (.iload 7, 2) := by decide +kernel
theorem d_R_solveFrom_41 : decode c_R_solveFrom 41 = .ok (.bipush 8, 2) := by decide +kernel
theorem d_R_solveFrom_43 : decode c_R_solveFrom 43 = .ok (.if_icmp .ge 170, 3) := by decide +kernel
theorem d_R_solveFrom_46 : decode c_R_solveFrom 46 = .ok (.aload_n 0, 1) := by decide +kernel
theorem d_R_solveFrom_47 : decode c_R_solveFrom 47 = .ok (.getfield 26, 3) := by decide +kernel
theorem d_R_solveFrom_50 : decode c_R_solveFrom 50 = .ok (.sipush 300, 3) := by decide +kernel
theorem d_R_solveFrom_53 : decode c_R_solveFrom 53 = .ok (.if_icmp .gt 160, 3) := by decide +kernel
theorem d_R_solveFrom_56 : decode c_R_solveFrom 56 = .ok (.aload_n 0, 1) := by decide +kernel
theorem d_R_solveFrom_57 : decode c_R_solveFrom 57 = .ok (.iload 6, 2) := by decide +kernel
theorem d_R_solveFrom_59 : decode c_R_solveFrom 59 = .ok (.aload_n 1, 1) := by decide +kernel
theorem d_R_solveFrom_60 : decode c_R_solveFrom 60 = .ok (.aload_n 3, 1) := by decide +kernel
theorem d_R_solveFrom_61 : decode c_R_solveFrom 61 = .ok (.getfield 65, 3) := by decide +kernel
theorem d_R_solveFrom_64 : decode c_R_solveFrom 64 = .ok (.iload 4, 2) := by decide +kernel
theorem d_R_solveFrom_66 : decode c_R_solveFrom 66 = .ok (.iconst 0, 1) := by decide +kernel
theorem d_R_solveFrom_67 : decode c_R_solveFrom 67 = .ok (.invokevirtual 77, 3) := by decide +kernel
theorem d_R_solveFrom_70 : decode c_R_solveFrom 70 = .ok (.istore 6, 2) := by decide +kernel
theorem d_R_solveFrom_72 : decode c_R_solveFrom 72 = .ok (.iload 6, 2) := by decide +kernel
theorem d_R_solveFrom_74 : decode c_R_solveFrom 74 = .ok (.sipush 160, 3) := by decide +kernel
theorem d_R_solveFrom_77 : decode c_R_solveFrom 77 = .ok (.if_icmp .ne 5, 3) := by decide +kernel
theorem d_R_solveFrom_80 : decode c_R_solveFrom 80 = .ok (.iconst 0, 1) := by decide +kernel
theorem d_R_solveFrom_81 : decode c_R_solveFrom 81 = .ok (.ireturn, 1) := by decide +kernel
theorem d_R_solveFrom_82 : decode c_R_solveFrom 82 = .ok (.aload_n 0, 1) := by decide +kernel
theorem d_R_solveFrom_83 : decode c_R_solveFrom 83 = .ok (.dup, 1) := by decide +kernel
theorem d_R_solveFrom_84 : decode c_R_solveFrom 84 = .ok (.getfield 26, 3) := by decide +kernel
theorem d_R_solveFrom_87 : decode c_R_solveFrom 87 = .ok (.iconst 1, 1) := by decide +kernel
theorem d_R_solveFrom_88 : decode c_R_solveFrom 88 = .ok (.iadd, 1) := by decide +kernel
theorem d_R_solveFrom_89 : decode c_R_solveFrom 89 = .ok (.putfield 26, 3) := by decide +kernel
theorem d_R_solveFrom_92 : decode c_R_solveFrom 92 = .ok (.aload_n 0, 1) := by decide +kernel
theorem d_R_solveFrom_93 : decode c_R_solveFrom 93 = .ok (.getfield 26, 3) := by decide +kernel
theorem d_R_solveFrom_96 : decode c_R_solveFrom 96 = .ok (.sipush 300, 3) := by decide +kernel
theorem d_R_solveFrom_99 : decode c_R_solveFrom 99 = .ok (.if_icmp .le 5, 3) := by decide +kernel
theorem d_R_solveFrom_102 : decode c_R_solveFrom 102 = .ok (.iconst 0, 1) := by decide +kernel
theorem d_R_solveFrom_103 : decode c_R_solveFrom 103 = .ok (.ireturn, 1) := by decide +kernel
theorem d_R_solveFrom_104 : decode c_R_solveFrom 104 = .ok (.aload_n 1, 1) := by decide +kernel
theorem d_R_solveFrom_105 : decode c_R_solveFrom 105 = .ok (.iload 6, 2) := by decide +kernel
theorem d_R_solveFrom_107 : decode c_R_solveFrom 107 = .ok (.bipush 8, 2) := by decide +kernel
theorem d_R_solveFrom_109 : decode c_R_solveFrom 109 = .ok (.irem, 1) := by decide +kernel
theorem d_R_solveFrom_110 : decode c_R_solveFrom 110 = .ok (.aaload, 1) := by decide +kernel
theorem d_R_solveFrom_111 : decode c_R_solveFrom 111 = .ok (.astore 8, 2) := by decide +kernel
theorem d_R_solveFrom_113 : decode c_R_solveFrom 113 = .ok (.aload_n 3, 1) := by decide +kernel
theorem d_R_solveFrom_114 : decode c_R_solveFrom 114 = .ok (.getfield 81, 3) := by decide +kernel
theorem d_R_solveFrom_117 : decode c_R_solveFrom 117 = .ok (.iload 4, 2) := by decide +kernel
theorem d_R_solveFrom_119 : decode c_R_solveFrom 119 = .ok (.aload 8, 2) := by decide +kernel
theorem d_R_solveFrom_121 : decode c_R_solveFrom 121 = .ok (.getfield 84, 3) := by decide +kernel
theorem d_R_solveFrom_124 : decode c_R_solveFrom 124 = .ok (.iastore, 1) := by decide +kernel
theorem d_R_solveFrom_125 : decode c_R_solveFrom 125 = .ok (.aload 8, 2) := by decide +kernel
theorem d_R_solveFrom_127 : decode c_R_solveFrom 127 = .ok (.getfield 87, 3) := by decide +kernel
theorem d_R_solveFrom_130 : decode c_R_solveFrom 130 = .ok (.iconst 1, 1) := by decide +kernel
theorem d_R_solveFrom_131 : decode c_R_solveFrom 131 = .ok (.if_icmp .ne 20, 3) := by decide +kernel
theorem d_R_solveFrom_134 : decode c_R_solveFrom 134 = .ok (.aload_n 0, 1) := by decide +kernel
theorem d_R_solveFrom_135 : decode c_R_solveFrom 135 = .ok (.getfield 18, 3) := by decide +kernel
theorem d_R_solveFrom_138 : decode c_R_solveFrom 138 = .ok (.aload 8, 2) := by decide +kernel
theorem d_R_solveFrom_140 : decode c_R_solveFrom 140 = .ok (.getfield 60, 3) := by decide +kernel
theorem d_R_solveFrom_143 : decode c_R_solveFrom 143 = .ok (.baload, 1) := by decide +kernel
theorem d_R_solveFrom_144 : decode c_R_solveFrom 144 = .ok (.ifCond .ne 7, 3) := by decide +kernel
theorem d_R_solveFrom_147 : decode c_R_solveFrom 147 = .ok (.iconst 1, 1) := by decide +kernel
theorem d_R_solveFrom_148 : decode c_R_solveFrom 148 = .ok (.goto 4, 3) := by decide +kernel
theorem d_R_solveFrom_151 : decode c_R_solveFrom 151 = .ok (.iconst 0, 1) := by decide +kernel
theorem d_R_solveFrom_152 : decode c_R_solveFrom 152 = .ok (.istore 9, 2) := by decide +kernel
theorem d_R_solveFrom_154 : decode c_R_solveFrom 154 = .ok (.iload 9, 2) := by decide +kernel
theorem d_R_solveFrom_156 : decode c_R_solveFrom 156 = .ok (.ifCond .eq 9, 3) := by decide +kernel
theorem d_R_solveFrom_159 : decode c_R_solveFrom 159 = .ok (.aload_n 0, 1) := by decide +kernel
theorem d_R_solveFrom_160 : decode c_R_solveFrom 160 = .ok (.aload 8, 2) := by decide +kernel
theorem d_R_solveFrom_162 : decode c_R_solveFrom 162 = .ok (.invokevirtual 42, 3) := by decide +kernel
theorem d_R_solveFrom_165 : decode c_R_solveFrom 165 = .ok (.aload_n 0, 1) := by decide +kernel
theorem d_R_solveFrom_166 : decode c_R_solveFrom 166 = .ok (.aload_n 1, 1) := by decide +kernel
theorem d_R_solveFrom_167 : decode c_R_solveFrom 167 = .ok (.invokevirtual 90, 3) := by decide +kernel
theorem d_R_solveFrom_170 : decode c_R_solveFrom 170 = .ok (.ifCond .ne 16, 3) := by decide +kernel
theorem d_R_solveFrom_173 : decode c_R_solveFrom 173 = .ok (.aload_n 0, 1) := by decide +kernel
theorem d_R_solveFrom_174 : decode c_R_solveFrom 174 = .ok (.aload_n 1, 1) := by decide +kernel
theorem d_R_solveFrom_175 : decode c_R_solveFrom 175 = .ok (.iload_n 2, 1) := by decide +kernel
theorem d_R_solveFrom_176 : decode c_R_solveFrom 176 = .ok (.iconst 1, 1) := by decide +kernel
theorem d_R_solveFrom_177 : decode c_R_solveFrom 177 = .ok (.iadd, 1) := by decide +kernel
theorem d_R_solveFrom_178 : decode c_R_solveFrom 178 = .ok (.invokevirtual 46, 3) := by decide +kernel
theorem d_R_solveFrom_181 : decode c_R_solveFrom 181 = .ok (.ifCond .eq 5, 3) := by decide +kernel
theorem d_R_solveFrom_184 : decode c_R_solveFrom 184 = .ok (.iconst 1, 1) := by decide +kernel
theorem d_R_solveFrom_185 : decode c_R_solveFrom 185 = .ok (.ireturn, 1) := by decide +kernel
theorem d_R_solveFrom_186 : decode c_R_solveFrom 186 = .ok (.aload_n 3, 1) := by decide +kernel
theorem d_R_solveFrom_187 : decode c_R_solveFrom 187 = .ok (.getfield 81, 3) := by decide +kernel
theorem d_R_solveFrom_190 : decode c_R_solveFrom 190 = .ok (.iload 4, 2) := by decide +kernel
theorem d_R_solveFrom_192 : decode c_R_solveFrom 192 = .ok (.iconst (-1), 1) := by decide +kernel
theorem d_R_solveFrom_193 : decode c_R_solveFrom 193 = .ok (.iastore, 1) := by decide +kernel
theorem d_R_solveFrom_194 : decode c_R_solveFrom 194 = .ok (.iload 9, 2) := by decide +kernel
theorem d_R_solveFrom_196 : decode c_R_solveFrom 196 = .ok (.ifCond .eq 11, 3) := by decide +kernel
theorem d_R_solveFrom_199 : decode c_R_solveFrom 199 = .ok (.aload_n 0, 1) := by decide +kernel
theorem d_R_solveFrom_200 : decode c_R_solveFrom 200 = .ok (.aload 8, 2) := by decide +kernel
theorem d_R_solveFrom_202 : decode c_R_solveFrom 202 = .ok (.iload 5, 2) := by decide +kernel
theorem d_R_solveFrom_204 : decode c_R_solveFrom 204 = .ok (.invokevirtual 94, 3) := by decide +kernel
theorem d_R_solveFrom_207 : decode c_R_solveFrom 207 = .ok (.iinc 7 1, 3) := by decide +kernel
theorem d_R_solveFrom_210 : decode c_R_solveFrom 210 = .ok (.goto (-171), 3) := by decide +kernel
theorem d_R_solveFrom_213 : decode c_R_solveFrom 213 = .ok (.iconst 0, 1) := by decide +kernel
theorem d_R_solveFrom_214 : decode c_R_solveFrom 214 = .ok (.ireturn, 1) := by decide +kernel
def T_R_solveFrom_0 (F : bh_Fn) : List (Nat × bh_Op) := [(0, bo_ild 1 2),
  (1, bo_ald 2 0),
  (2, bo_gI 5 15 3),
  (5, bo_if2 8 10 (fun x y => x < y)),
  (8, bo_st 9 (bg_push (.inl (.int 1)))),
  (9, bo_zret 0),
  (10, bo_ald 11 1),
  (11, bo_ald 12 0),
  (12, bo_gR 15 15 0 16),
  (15, bo_ild 16 2),
  (16, bo_Iald bh_ak bh_al 17),
  (17, bo_Rald bh_ak bh_al 18),
  (18, bo_ast 19 3),
  (19, bo_ald 20 0),
  (20, bo_gR 23 15 1 17),
  (23, bo_ild 24 2),
  (24, bo_Iald bh_ak bh_al 25),
  (25, bo_ist 27 4),
  (27, bo_ald 28 0),
  (28, bo_gI 31 15 3),
  (31, bo_ist 33 5),
  (33, bo_st 34 (bg_push (.inl (.int (-1))))),
  (34, bo_ist 36 6),
  (36, bo_st 37 (bg_push (.inl (.int 0)))),
  (37, bo_ist 39 7),
  (39, bo_ild 41 7),
  (41, bo_st 43 (bg_push (.inl (.int 8)))),
  (43, bo_if2 46 213 (fun x y => y ≤ x)),
  (46, bo_ald 47 0),
  (47, bo_gI 50 15 4),
  (50, bo_st 53 (bg_push (.inl (.int 300)))),
  (53, bo_if2 56 213 (fun x y => y < x)),
  (56, bo_ald 57 0),
  (57, bo_ild 59 6),
  (59, bo_ald 60 1),
  (60, bo_ald 61 3),
  (61, bo_gR 64 5 1 7),
  (64, bo_ild 66 4),
  (66, bo_st 67 (bg_push (.inl (.int 0)))),
  (67, bo_callV 70 6 0 0 15 F_R_candidateAfter)]
def T_R_solveFrom_1 (F : bh_Fn) : List (Nat × bh_Op) := [(70, bo_ist 72 6),
  (72, bo_ild 74 6),
  (74, bo_st 77 (bg_push (.inl (.int 160)))),
  (77, bo_if2 80 82 (fun x y => ¬ x = y)),
  (80, bo_st 81 (bg_push (.inl (.int 0)))),
  (81, bo_zret 0),
  (82, bo_ald 83 0),
  (83, bo_st 84 bg_dup),
  (84, bo_gI 87 15 4),
  (87, bo_st 88 (bg_push (.inl (.int 1)))),
  (88, bo_st 89 (bg_ii (fun x y => x + y))),
  (89, bo_pI 92 15 4),
  (92, bo_ald 93 0),
  (93, bo_gI 96 15 4),
  (96, bo_st 99 (bg_push (.inl (.int 300)))),
  (99, bo_if2 102 104 (fun x y => x ≤ y)),
  (102, bo_st 103 (bg_push (.inl (.int 0)))),
  (103, bo_zret 0),
  (104, bo_ald 105 1),
  (105, bo_ild 107 6),
  (107, bo_st 109 (bg_push (.inl (.int 8)))),
  (109, bo_st 110 (bg_dv (fun x y => x - x / y * y))),
  (110, bo_Rald bh_ak bh_al 111),
  (111, bo_ast 113 8),
  (113, bo_ald 114 3),
  (114, bo_gR 117 5 2 6),
  (117, bo_ild 119 4),
  (119, bo_ald 121 8),
  (121, bo_gI 124 5 9),
  (124, bo_Iast bh_ak bh_al 125),
  (125, bo_ald 127 8),
  (127, bo_gI 130 5 3),
  (130, bo_st 131 (bg_push (.inl (.int 1)))),
  (131, bo_if2 134 151 (fun x y => ¬ x = y)),
  (134, bo_ald 135 0),
  (135, bo_gR 138 15 2 18),
  (138, bo_ald 140 8),
  (140, bo_gI 143 5 0),
  (143, bo_Zald bh_ak bh_al 144),
  (144, bo_if1 147 151 (fun x => ¬ x = 0))]
def T_R_solveFrom_2 (F : bh_Fn) : List (Nat × bh_Op) := [(147, bo_st 148 (bg_push (.inl (.int 1)))),
  (148, bo_go 152),
  (151, bo_st 152 (bg_push (.inl (.int 0)))),
  (152, bo_ist 154 9),
  (154, bo_ild 156 9),
  (156, bo_if1 159 165 (fun x => x = 0)),
  (159, bo_ald 160 0),
  (160, bo_ald 162 8),
  (162, bo_callV 165 2 0 0 15 F_R_takeIn),
  (165, bo_ald 166 0),
  (166, bo_ald 167 1),
  (167, bo_callV 170 2 0 0 15 F_R_hasClash),
  (170, bo_if1 173 186 (fun x => ¬ x = 0)),
  (173, bo_ald 174 0),
  (174, bo_ald 175 1),
  (175, bo_ild 176 2),
  (176, bo_st 177 (bg_push (.inl (.int 1)))),
  (177, bo_st 178 (bg_ii (fun x y => x + y))),
  (178, bo_callV 181 3 0 0 15 F),
  (181, bo_if1 184 186 (fun x => x = 0)),
  (184, bo_st 185 (bg_push (.inl (.int 1)))),
  (185, bo_zret 0),
  (186, bo_ald 187 3),
  (187, bo_gR 190 5 2 6),
  (190, bo_ild 192 4),
  (192, bo_st 193 (bg_push (.inl (.int (-1))))),
  (193, bo_Iast bh_ak bh_al 194),
  (194, bo_ild 196 9),
  (196, bo_if1 199 207 (fun x => x = 0)),
  (199, bo_ald 200 0),
  (200, bo_ald 202 8),
  (202, bo_ild 204 5),
  (204, bo_callV 207 3 0 0 15 F_R_putOut),
  (207, bo_inc 210 7 1),
  (210, bo_go 39),
  (213, bo_st 214 (bg_push (.inl (.int 0)))),
  (214, bo_zret 0)]
def T_R_solveFrom (F : bh_Fn) : List (Nat × bh_Op) := T_R_solveFrom_0 F ++ T_R_solveFrom_1 F ++ T_R_solveFrom_2 F
set_option maxRecDepth 20000 in
theorem mT_R_solveFrom_0 {F : bh_Fn} (hFm : bh_monoF F) : ∀ q ∈ T_R_solveFrom_0 F, bh_mono q.2 := List.forall_mem_cons.mpr ⟨bo_ild_m _ _, List.forall_mem_cons.mpr ⟨bo_ald_m _ _, List.forall_mem_cons.mpr ⟨bo_gI_m _ _ _, List.forall_mem_cons.mpr ⟨bo_if2_m _ _ _, List.forall_mem_cons.mpr ⟨bo_st_mono (bg_push_m _), List.forall_mem_cons.mpr ⟨bo_zret_m _, List.forall_mem_cons.mpr ⟨bo_ald_m _ _, List.forall_mem_cons.mpr ⟨bo_ald_m _ _, List.forall_mem_cons.mpr ⟨bo_gR_m _ _ _ _, List.forall_mem_cons.mpr ⟨bo_ild_m _ _, List.forall_mem_cons.mpr ⟨bo_Iald_m _ _ _, List.forall_mem_cons.mpr ⟨bo_Rald_m _ _ _, List.forall_mem_cons.mpr ⟨bo_ast_m _ _, List.forall_mem_cons.mpr ⟨bo_ald_m _ _, List.forall_mem_cons.mpr ⟨bo_gR_m _ _ _ _, List.forall_mem_cons.mpr ⟨bo_ild_m _ _, List.forall_mem_cons.mpr ⟨bo_Iald_m _ _ _, List.forall_mem_cons.mpr ⟨bo_ist_m _ _, List.forall_mem_cons.mpr ⟨bo_ald_m _ _, List.forall_mem_cons.mpr ⟨bo_gI_m _ _ _, List.forall_mem_cons.mpr ⟨bo_ist_m _ _, List.forall_mem_cons.mpr ⟨bo_st_mono (bg_push_m _), List.forall_mem_cons.mpr ⟨bo_ist_m _ _, List.forall_mem_cons.mpr ⟨bo_st_mono (bg_push_m _), List.forall_mem_cons.mpr ⟨bo_ist_m _ _, List.forall_mem_cons.mpr ⟨bo_ild_m _ _, List.forall_mem_cons.mpr ⟨bo_st_mono (bg_push_m _), List.forall_mem_cons.mpr ⟨bo_if2_m _ _ _, List.forall_mem_cons.mpr ⟨bo_ald_m _ _, List.forall_mem_cons.mpr ⟨bo_gI_m _ _ _, List.forall_mem_cons.mpr ⟨bo_st_mono (bg_push_m _), List.forall_mem_cons.mpr ⟨bo_if2_m _ _ _, List.forall_mem_cons.mpr ⟨bo_ald_m _ _, List.forall_mem_cons.mpr ⟨bo_ild_m _ _, List.forall_mem_cons.mpr ⟨bo_ald_m _ _, List.forall_mem_cons.mpr ⟨bo_ald_m _ _, List.forall_mem_cons.mpr ⟨bo_gR_m _ _ _ _, List.forall_mem_cons.mpr ⟨bo_ild_m _ _, List.forall_mem_cons.mpr ⟨bo_st_mono (bg_push_m _), List.forall_mem_cons.mpr ⟨bo_callV_m (mF_R_candidateAfter) _ _ _ _ _, fun _ h => absurd h List.not_mem_nil⟩⟩⟩⟩⟩⟩⟩⟩⟩⟩⟩⟩⟩⟩⟩⟩⟩⟩⟩⟩⟩⟩⟩⟩⟩⟩⟩⟩⟩⟩⟩⟩⟩⟩⟩⟩⟩⟩⟩⟩
set_option maxRecDepth 20000 in
theorem mT_R_solveFrom_1 {F : bh_Fn} (hFm : bh_monoF F) : ∀ q ∈ T_R_solveFrom_1 F, bh_mono q.2 := List.forall_mem_cons.mpr ⟨bo_ist_m _ _, List.forall_mem_cons.mpr ⟨bo_ild_m _ _, List.forall_mem_cons.mpr ⟨bo_st_mono (bg_push_m _), List.forall_mem_cons.mpr ⟨bo_if2_m _ _ _, List.forall_mem_cons.mpr ⟨bo_st_mono (bg_push_m _), List.forall_mem_cons.mpr ⟨bo_zret_m _, List.forall_mem_cons.mpr ⟨bo_ald_m _ _, List.forall_mem_cons.mpr ⟨bo_st_mono bg_dup_m, List.forall_mem_cons.mpr ⟨bo_gI_m _ _ _, List.forall_mem_cons.mpr ⟨bo_st_mono (bg_push_m _), List.forall_mem_cons.mpr ⟨bo_st_mono (bg_ii_m _), List.forall_mem_cons.mpr ⟨bo_pI_m _ _ _, List.forall_mem_cons.mpr ⟨bo_ald_m _ _, List.forall_mem_cons.mpr ⟨bo_gI_m _ _ _, List.forall_mem_cons.mpr ⟨bo_st_mono (bg_push_m _), List.forall_mem_cons.mpr ⟨bo_if2_m _ _ _, List.forall_mem_cons.mpr ⟨bo_st_mono (bg_push_m _), List.forall_mem_cons.mpr ⟨bo_zret_m _, List.forall_mem_cons.mpr ⟨bo_ald_m _ _, List.forall_mem_cons.mpr ⟨bo_ild_m _ _, List.forall_mem_cons.mpr ⟨bo_st_mono (bg_push_m _), List.forall_mem_cons.mpr ⟨bo_st_mono (bg_dv_m _), List.forall_mem_cons.mpr ⟨bo_Rald_m _ _ _, List.forall_mem_cons.mpr ⟨bo_ast_m _ _, List.forall_mem_cons.mpr ⟨bo_ald_m _ _, List.forall_mem_cons.mpr ⟨bo_gR_m _ _ _ _, List.forall_mem_cons.mpr ⟨bo_ild_m _ _, List.forall_mem_cons.mpr ⟨bo_ald_m _ _, List.forall_mem_cons.mpr ⟨bo_gI_m _ _ _, List.forall_mem_cons.mpr ⟨bo_Iast_m _ _ _, List.forall_mem_cons.mpr ⟨bo_ald_m _ _, List.forall_mem_cons.mpr ⟨bo_gI_m _ _ _, List.forall_mem_cons.mpr ⟨bo_st_mono (bg_push_m _), List.forall_mem_cons.mpr ⟨bo_if2_m _ _ _, List.forall_mem_cons.mpr ⟨bo_ald_m _ _, List.forall_mem_cons.mpr ⟨bo_gR_m _ _ _ _, List.forall_mem_cons.mpr ⟨bo_ald_m _ _, List.forall_mem_cons.mpr ⟨bo_gI_m _ _ _, List.forall_mem_cons.mpr ⟨bo_Zald_m _ _ _, List.forall_mem_cons.mpr ⟨bo_if1_m _ _ _, fun _ h => absurd h List.not_mem_nil⟩⟩⟩⟩⟩⟩⟩⟩⟩⟩⟩⟩⟩⟩⟩⟩⟩⟩⟩⟩⟩⟩⟩⟩⟩⟩⟩⟩⟩⟩⟩⟩⟩⟩⟩⟩⟩⟩⟩⟩
set_option maxRecDepth 20000 in
theorem mT_R_solveFrom_2 {F : bh_Fn} (hFm : bh_monoF F) : ∀ q ∈ T_R_solveFrom_2 F, bh_mono q.2 := List.forall_mem_cons.mpr ⟨bo_st_mono (bg_push_m _), List.forall_mem_cons.mpr ⟨bo_go_m _, List.forall_mem_cons.mpr ⟨bo_st_mono (bg_push_m _), List.forall_mem_cons.mpr ⟨bo_ist_m _ _, List.forall_mem_cons.mpr ⟨bo_ild_m _ _, List.forall_mem_cons.mpr ⟨bo_if1_m _ _ _, List.forall_mem_cons.mpr ⟨bo_ald_m _ _, List.forall_mem_cons.mpr ⟨bo_ald_m _ _, List.forall_mem_cons.mpr ⟨bo_callV_m (mF_R_takeIn) _ _ _ _ _, List.forall_mem_cons.mpr ⟨bo_ald_m _ _, List.forall_mem_cons.mpr ⟨bo_ald_m _ _, List.forall_mem_cons.mpr ⟨bo_callV_m (mF_R_hasClash) _ _ _ _ _, List.forall_mem_cons.mpr ⟨bo_if1_m _ _ _, List.forall_mem_cons.mpr ⟨bo_ald_m _ _, List.forall_mem_cons.mpr ⟨bo_ald_m _ _, List.forall_mem_cons.mpr ⟨bo_ild_m _ _, List.forall_mem_cons.mpr ⟨bo_st_mono (bg_push_m _), List.forall_mem_cons.mpr ⟨bo_st_mono (bg_ii_m _), List.forall_mem_cons.mpr ⟨bo_callV_m hFm _ _ _ _ _, List.forall_mem_cons.mpr ⟨bo_if1_m _ _ _, List.forall_mem_cons.mpr ⟨bo_st_mono (bg_push_m _), List.forall_mem_cons.mpr ⟨bo_zret_m _, List.forall_mem_cons.mpr ⟨bo_ald_m _ _, List.forall_mem_cons.mpr ⟨bo_gR_m _ _ _ _, List.forall_mem_cons.mpr ⟨bo_ild_m _ _, List.forall_mem_cons.mpr ⟨bo_st_mono (bg_push_m _), List.forall_mem_cons.mpr ⟨bo_Iast_m _ _ _, List.forall_mem_cons.mpr ⟨bo_ild_m _ _, List.forall_mem_cons.mpr ⟨bo_if1_m _ _ _, List.forall_mem_cons.mpr ⟨bo_ald_m _ _, List.forall_mem_cons.mpr ⟨bo_ald_m _ _, List.forall_mem_cons.mpr ⟨bo_ild_m _ _, List.forall_mem_cons.mpr ⟨bo_callV_m (mF_R_putOut) _ _ _ _ _, List.forall_mem_cons.mpr ⟨bo_inc_m _ _ _, List.forall_mem_cons.mpr ⟨bo_go_m _, List.forall_mem_cons.mpr ⟨bo_st_mono (bg_push_m _), List.forall_mem_cons.mpr ⟨bo_zret_m _, fun _ h => absurd h List.not_mem_nil⟩⟩⟩⟩⟩⟩⟩⟩⟩⟩⟩⟩⟩⟩⟩⟩⟩⟩⟩⟩⟩⟩⟩⟩⟩⟩⟩⟩⟩⟩⟩⟩⟩⟩⟩⟩⟩
theorem m_R_solveFrom {F : bh_Fn} (hFm : bh_monoF F) : ∀ pc, bh_mono (bh_tb (T_R_solveFrom F) pc) := bh_tb_m (List.forall_mem_append.mpr ⟨(List.forall_mem_append.mpr ⟨mT_R_solveFrom_0 hFm, mT_R_solveFrom_1 hFm⟩), mT_R_solveFrom_2 hFm⟩)
def F_R_solveFrom : Nat → bh_Fn
  | 0 => fun _ _ _ => False
  | n + 1 => bh_fn 10 (bh_tb (T_R_solveFrom (F_R_solveFrom n)))
theorem mF_R_solveFrom : ∀ n, bh_monoF (F_R_solveFrom n)
  | 0 => fun _ _ _ _ _ h => h
  | n + 1 => bh_fn_m (m_R_solveFrom (mF_R_solveFrom n))
theorem cl_R_solveFrom {s : State} {args : Array Value} (d B : Nat) (hts : ∀ w ∈ bh_ws, w.before args s = true) : bh_Cal (bh_rm (d + 1) B) s y_R_solveFrom 10 (.code y_R_solveFrom c_R_solveFrom 10 (some .boolean) :: bh_ws) (bh_rm d 0) 0 2 := bh_cal d B hts wd_315 wd_5 (by decide) (by decide +kernel)
set_option maxHeartbeats 4000000 in
set_option maxRecDepth 100000 in
theorem sd_R_solveFrom {l : Launch} {G : bh_G} {base sb L : Nat} {xs : Nat → Int32} (htr : l.stackTraces = false) (n d : Nat) (F : bh_Fn) (hF : bh_Con l G base (bh_Bg G base sb L xs) y_R_solveFrom (.code y_R_solveFrom c_R_solveFrom 10 (some .boolean) :: bh_ws) (bh_rm (d + n + 3) 0) 0 false F) : bh_Con l G base (bh_Bg G base sb L xs) y_R_solveFrom (.code y_R_solveFrom c_R_solveFrom 10 (some .boolean) :: bh_ws) (bh_rm (d + n + 4) 0) 0 false (bh_fn 10 (bh_tb (T_R_solveFrom F))) := by
  refine bh_method (cc := c_R_solveFrom) (ret := (some .boolean)) (by decide +kernel) rfl ?_
  intro p e s m args below meth c ad0 M0 Z X0 hr hlocks hname htab hbs hB
  obtain ⟨hx, hb, hml, hown, hts⟩ := id X0
  have hw : ∀ w ∈ bh_ws, w.before args s = true := fun w h => hts w (List.mem_cons_of_mem _ h)
  have hBg := bh_BgK (G := G) (base := base) (sb := sb) (L := L) (xs := xs)
  obtain ⟨hK, hAr, hen, hinj, hu1, hu2, hstr, hX, hsb, hsc, hxw, hao, hnc⟩ := id hB
  obtain ⟨ha1, ha2, ha3, ha4, ha5, ha6, ha0⟩ := bh_arr hAr
  refine List.forall_mem_append.mpr ⟨?_, List.forall_mem_cons.mpr ⟨fun S h => bs_iconst (Z := Z) hx hb (by decide) d_R_solveFrom_147 h, List.forall_mem_cons.mpr ⟨fun S h => bs_goto (Z := Z) hx hb d_R_solveFrom_148 (by decide) h, List.forall_mem_cons.mpr ⟨fun S h => bs_iconst (Z := Z) hx hb (by decide) d_R_solveFrom_151 h, List.forall_mem_cons.mpr ⟨fun S h => bs_istore (Z := Z) hx hb d_R_solveFrom_152 h, List.forall_mem_cons.mpr ⟨fun S h => bs_iload (Z := Z) hx hb d_R_solveFrom_154 h, List.forall_mem_cons.mpr ⟨fun S h => bs_if_eq (Z := Z) hx hb d_R_solveFrom_156 (by decide) h, List.forall_mem_cons.mpr ⟨fun S h => bs_aload_n (Z := Z) hx hb rfl d_R_solveFrom_159 h, List.forall_mem_cons.mpr ⟨fun S h => bs_aload (Z := Z) hx hb d_R_solveFrom_160 h, List.forall_mem_cons.mpr ⟨fun S h => bs_callV (Z := Z) (C := R_R) hBg hbs hB X0 hK (cn_R_takeIn htr (d + n + 2)) (cl_R_takeIn _ _ hw) (hts _ (List.mem_cons_of_mem _ wd_308)) (hts _ (List.mem_cons_of_mem _ wd_310)) (hts _ (List.mem_cons_of_mem _ ws_7)) rfl rfl rfl rfl rfl (Nat.le_refl _) (Nat.le_refl _) d_R_solveFrom_162 (bs_out htab hlocks) h, List.forall_mem_cons.mpr ⟨fun S h => bs_aload_n (Z := Z) hx hb rfl d_R_solveFrom_165 h, List.forall_mem_cons.mpr ⟨fun S h => bs_aload_n (Z := Z) hx hb rfl d_R_solveFrom_166 h, List.forall_mem_cons.mpr ⟨fun S h => bs_callV (Z := Z) (C := R_R) hBg hbs hB X0 hK (cn_R_hasClash htr (d + n + 0)) (cl_R_hasClash _ _ hw) (hts _ (List.mem_cons_of_mem _ wd_327)) (hts _ (List.mem_cons_of_mem _ wd_329)) (hts _ (List.mem_cons_of_mem _ ws_10)) rfl rfl rfl rfl rfl (Nat.le_refl _) (Nat.le_refl _) d_R_solveFrom_167 (bs_out htab hlocks) h, List.forall_mem_cons.mpr ⟨fun S h => bs_if_ne (Z := Z) hx hb d_R_solveFrom_170 (by decide) h, List.forall_mem_cons.mpr ⟨fun S h => bs_aload_n (Z := Z) hx hb rfl d_R_solveFrom_173 h, List.forall_mem_cons.mpr ⟨fun S h => bs_aload_n (Z := Z) hx hb rfl d_R_solveFrom_174 h, List.forall_mem_cons.mpr ⟨fun S h => bs_iload_n (Z := Z) hx hb rfl d_R_solveFrom_175 h, List.forall_mem_cons.mpr ⟨fun S h => bs_iconst (Z := Z) hx hb (by decide) d_R_solveFrom_176 h, List.forall_mem_cons.mpr ⟨fun S h => bs_iadd (Z := Z) hx hb d_R_solveFrom_177 h, List.forall_mem_cons.mpr ⟨fun S h => bs_callV (Z := Z) (C := R_R) hBg hbs hB X0 hK hF (cl_R_solveFrom _ _ hw) (hts _ (List.mem_cons_of_mem _ wd_312)) (hts _ (List.mem_cons_of_mem _ wd_314)) (hts _ (List.mem_cons_of_mem _ ws_8)) rfl rfl rfl rfl rfl (Nat.le_refl _) (Nat.le_refl _) d_R_solveFrom_178 (bs_out htab hlocks) h, List.forall_mem_cons.mpr ⟨fun S h => bs_if_eq (Z := Z) hx hb d_R_solveFrom_181 (by decide) h, List.forall_mem_cons.mpr ⟨fun S h => bs_iconst (Z := Z) hx hb (by decide) d_R_solveFrom_184 h, List.forall_mem_cons.mpr ⟨fun S h => bs_zret (Z := Z) hx hb hr hlocks d_R_solveFrom_185 h, List.forall_mem_cons.mpr ⟨fun S h => bs_aload_n (Z := Z) hx hb rfl d_R_solveFrom_186 h, List.forall_mem_cons.mpr ⟨fun S h => bs_gR (Z := Z) (C := R_B) (T := F_B) (N := 10) (t := 5) (j := 2) hx hb hK hts (fun w h => List.mem_cons_of_mem _ (iw_B w h)) hown rfl rfl (by decide) (hts _ (List.mem_cons_of_mem _ wd_92)) (fun _ h => h) rfl rfl rfl d_R_solveFrom_187 h, List.forall_mem_cons.mpr ⟨fun S h => bs_iload (Z := Z) hx hb d_R_solveFrom_190 h, List.forall_mem_cons.mpr ⟨fun S h => bs_iconst (Z := Z) hx hb (by decide) d_R_solveFrom_192 h, List.forall_mem_cons.mpr ⟨fun S h => bs_Iast (Z := Z) hx hb ha1 d_R_solveFrom_193 h, List.forall_mem_cons.mpr ⟨fun S h => bs_iload (Z := Z) hx hb d_R_solveFrom_194 h, List.forall_mem_cons.mpr ⟨fun S h => bs_if_eq (Z := Z) hx hb d_R_solveFrom_196 (by decide) h, List.forall_mem_cons.mpr ⟨fun S h => bs_aload_n (Z := Z) hx hb rfl d_R_solveFrom_199 h, List.forall_mem_cons.mpr ⟨fun S h => bs_aload (Z := Z) hx hb d_R_solveFrom_200 h, List.forall_mem_cons.mpr ⟨fun S h => bs_iload (Z := Z) hx hb d_R_solveFrom_202 h, List.forall_mem_cons.mpr ⟨fun S h => bs_callV (Z := Z) (C := R_R) hBg hbs hB X0 hK (cn_R_putOut htr (d + n + 2)) (cl_R_putOut _ _ hw) (hts _ (List.mem_cons_of_mem _ wd_340)) (hts _ (List.mem_cons_of_mem _ wd_342)) (hts _ (List.mem_cons_of_mem _ ws_11)) rfl rfl rfl rfl rfl (Nat.le_refl _) (Nat.le_refl _) d_R_solveFrom_204 (bs_out htab hlocks) h, List.forall_mem_cons.mpr ⟨fun S h => bs_iinc (Z := Z) hx hb (by decide) d_R_solveFrom_207 h, List.forall_mem_cons.mpr ⟨fun S h => bs_goto (Z := Z) hx hb d_R_solveFrom_210 (by decide) h, List.forall_mem_cons.mpr ⟨fun S h => bs_iconst (Z := Z) hx hb (by decide) d_R_solveFrom_213 h, List.forall_mem_cons.mpr ⟨fun S h => bs_zret (Z := Z) hx hb hr hlocks d_R_solveFrom_214 h, fun _ h => absurd h List.not_mem_nil⟩⟩⟩⟩⟩⟩⟩⟩⟩⟩⟩⟩⟩⟩⟩⟩⟩⟩⟩⟩⟩⟩⟩⟩⟩⟩⟩⟩⟩⟩⟩⟩⟩⟩⟩⟩⟩⟩
  refine List.forall_mem_append.mpr ⟨?_, List.forall_mem_cons.mpr ⟨fun S h => bs_istore (Z := Z) hx hb d_R_solveFrom_70 h, List.forall_mem_cons.mpr ⟨fun S h => bs_iload (Z := Z) hx hb d_R_solveFrom_72 h, List.forall_mem_cons.mpr ⟨fun S h => bs_sipush (Z := Z) hx hb (by decide) d_R_solveFrom_74 h, List.forall_mem_cons.mpr ⟨fun S h => bs_icmp_ne (Z := Z) hx hb d_R_solveFrom_77 (by decide) h, List.forall_mem_cons.mpr ⟨fun S h => bs_iconst (Z := Z) hx hb (by decide) d_R_solveFrom_80 h, List.forall_mem_cons.mpr ⟨fun S h => bs_zret (Z := Z) hx hb hr hlocks d_R_solveFrom_81 h, List.forall_mem_cons.mpr ⟨fun S h => bs_aload_n (Z := Z) hx hb rfl d_R_solveFrom_82 h, List.forall_mem_cons.mpr ⟨fun S h => bs_dup (Z := Z) hx hb d_R_solveFrom_83 h, List.forall_mem_cons.mpr ⟨fun S h => bs_gI (Z := Z) (C := R_R) (T := F_R) (N := 6) (t := 15) (j := 4) hx hb hK hts (fun w h => List.mem_cons_of_mem _ (iw_R w h)) hown rfl rfl (by decide) (hts _ (List.mem_cons_of_mem _ wd_141)) (fun _ h => h) rfl rfl rfl d_R_solveFrom_84 h, List.forall_mem_cons.mpr ⟨fun S h => bs_iconst (Z := Z) hx hb (by decide) d_R_solveFrom_87 h, List.forall_mem_cons.mpr ⟨fun S h => bs_iadd (Z := Z) hx hb d_R_solveFrom_88 h, List.forall_mem_cons.mpr ⟨fun S h => bs_pI (Z := Z) (C := R_R) (T := F_R) (N := 6) (t := 15) (j := 4) hx hb hK hts (fun w h => List.mem_cons_of_mem _ (iw_R w h)) hown rfl rfl (by decide) (hts _ (List.mem_cons_of_mem _ wd_141)) (fun _ h => h) rfl rfl t_R t_R_ok n_R rfl (by decide +kernel) rfl d_R_solveFrom_89 h, List.forall_mem_cons.mpr ⟨fun S h => bs_aload_n (Z := Z) hx hb rfl d_R_solveFrom_92 h, List.forall_mem_cons.mpr ⟨fun S h => bs_gI (Z := Z) (C := R_R) (T := F_R) (N := 6) (t := 15) (j := 4) hx hb hK hts (fun w h => List.mem_cons_of_mem _ (iw_R w h)) hown rfl rfl (by decide) (hts _ (List.mem_cons_of_mem _ wd_141)) (fun _ h => h) rfl rfl rfl d_R_solveFrom_93 h, List.forall_mem_cons.mpr ⟨fun S h => bs_sipush (Z := Z) hx hb (by decide) d_R_solveFrom_96 h, List.forall_mem_cons.mpr ⟨fun S h => bs_icmp_le (Z := Z) hx hb d_R_solveFrom_99 (by decide) h, List.forall_mem_cons.mpr ⟨fun S h => bs_iconst (Z := Z) hx hb (by decide) d_R_solveFrom_102 h, List.forall_mem_cons.mpr ⟨fun S h => bs_zret (Z := Z) hx hb hr hlocks d_R_solveFrom_103 h, List.forall_mem_cons.mpr ⟨fun S h => bs_aload_n (Z := Z) hx hb rfl d_R_solveFrom_104 h, List.forall_mem_cons.mpr ⟨fun S h => bs_iload (Z := Z) hx hb d_R_solveFrom_105 h, List.forall_mem_cons.mpr ⟨fun S h => bs_bipush (Z := Z) hx hb (by decide) d_R_solveFrom_107 h, List.forall_mem_cons.mpr ⟨fun S h => bs_irem (Z := Z) hx hb d_R_solveFrom_109 h, List.forall_mem_cons.mpr ⟨fun S h => bs_Rald (Z := Z) hx hb ha5 d_R_solveFrom_110 h, List.forall_mem_cons.mpr ⟨fun S h => bs_astore (Z := Z) hx hb d_R_solveFrom_111 h, List.forall_mem_cons.mpr ⟨fun S h => bs_aload_n (Z := Z) hx hb rfl d_R_solveFrom_113 h, List.forall_mem_cons.mpr ⟨fun S h => bs_gR (Z := Z) (C := R_B) (T := F_B) (N := 10) (t := 5) (j := 2) hx hb hK hts (fun w h => List.mem_cons_of_mem _ (iw_B w h)) hown rfl rfl (by decide) (hts _ (List.mem_cons_of_mem _ wd_92)) (fun _ h => h) rfl rfl rfl d_R_solveFrom_114 h, List.forall_mem_cons.mpr ⟨fun S h => bs_iload (Z := Z) hx hb d_R_solveFrom_117 h, List.forall_mem_cons.mpr ⟨fun S h => bs_aload (Z := Z) hx hb d_R_solveFrom_119 h, List.forall_mem_cons.mpr ⟨fun S h => bs_gI (Z := Z) (C := R_B) (T := F_B) (N := 10) (t := 5) (j := 9) hx hb hK hts (fun w h => List.mem_cons_of_mem _ (iw_B w h)) hown rfl rfl (by decide) (hts _ (List.mem_cons_of_mem _ wd_108)) (fun _ h => h) rfl rfl rfl d_R_solveFrom_121 h, List.forall_mem_cons.mpr ⟨fun S h => bs_Iast (Z := Z) hx hb ha1 d_R_solveFrom_124 h, List.forall_mem_cons.mpr ⟨fun S h => bs_aload (Z := Z) hx hb d_R_solveFrom_125 h, List.forall_mem_cons.mpr ⟨fun S h => bs_gI (Z := Z) (C := R_B) (T := F_B) (N := 10) (t := 5) (j := 3) hx hb hK hts (fun w h => List.mem_cons_of_mem _ (iw_B w h)) hown rfl rfl (by decide) (hts _ (List.mem_cons_of_mem _ wd_96)) (fun _ h => h) rfl rfl rfl d_R_solveFrom_127 h, List.forall_mem_cons.mpr ⟨fun S h => bs_iconst (Z := Z) hx hb (by decide) d_R_solveFrom_130 h, List.forall_mem_cons.mpr ⟨fun S h => bs_icmp_ne (Z := Z) hx hb d_R_solveFrom_131 (by decide) h, List.forall_mem_cons.mpr ⟨fun S h => bs_aload_n (Z := Z) hx hb rfl d_R_solveFrom_134 h, List.forall_mem_cons.mpr ⟨fun S h => bs_gR (Z := Z) (C := R_R) (T := F_R) (N := 6) (t := 15) (j := 2) hx hb hK hts (fun w h => List.mem_cons_of_mem _ (iw_R w h)) hown rfl rfl (by decide) (hts _ (List.mem_cons_of_mem _ wd_139)) (fun _ h => h) rfl rfl rfl d_R_solveFrom_135 h, List.forall_mem_cons.mpr ⟨fun S h => bs_aload (Z := Z) hx hb d_R_solveFrom_138 h, List.forall_mem_cons.mpr ⟨fun S h => bs_gI (Z := Z) (C := R_B) (T := F_B) (N := 10) (t := 5) (j := 0) hx hb hK hts (fun w h => List.mem_cons_of_mem _ (iw_B w h)) hown rfl rfl (by decide) (hts _ (List.mem_cons_of_mem _ wd_86)) (fun _ h => h) rfl rfl rfl d_R_solveFrom_140 h, List.forall_mem_cons.mpr ⟨fun S h => bs_Zald (Z := Z) hx hb ha2 d_R_solveFrom_143 h, List.forall_mem_cons.mpr ⟨fun S h => bs_if_ne (Z := Z) hx hb d_R_solveFrom_144 (by decide) h, fun _ h => absurd h List.not_mem_nil⟩⟩⟩⟩⟩⟩⟩⟩⟩⟩⟩⟩⟩⟩⟩⟩⟩⟩⟩⟩⟩⟩⟩⟩⟩⟩⟩⟩⟩⟩⟩⟩⟩⟩⟩⟩⟩⟩⟩⟩⟩
  exact List.forall_mem_cons.mpr ⟨fun S h => bs_iload_n (Z := Z) hx hb rfl d_R_solveFrom_0 h, List.forall_mem_cons.mpr ⟨fun S h => bs_aload_n (Z := Z) hx hb rfl d_R_solveFrom_1 h, List.forall_mem_cons.mpr ⟨fun S h => bs_gI (Z := Z) (C := R_R) (T := F_R) (N := 6) (t := 15) (j := 3) hx hb hK hts (fun w h => List.mem_cons_of_mem _ (iw_R w h)) hown rfl rfl (by decide) (hts _ (List.mem_cons_of_mem _ wd_140)) (fun _ h => h) rfl rfl rfl d_R_solveFrom_2 h, List.forall_mem_cons.mpr ⟨fun S h => bs_icmp_lt (Z := Z) hx hb d_R_solveFrom_5 (by decide) h, List.forall_mem_cons.mpr ⟨fun S h => bs_iconst (Z := Z) hx hb (by decide) d_R_solveFrom_8 h, List.forall_mem_cons.mpr ⟨fun S h => bs_zret (Z := Z) hx hb hr hlocks d_R_solveFrom_9 h, List.forall_mem_cons.mpr ⟨fun S h => bs_aload_n (Z := Z) hx hb rfl d_R_solveFrom_10 h, List.forall_mem_cons.mpr ⟨fun S h => bs_aload_n (Z := Z) hx hb rfl d_R_solveFrom_11 h, List.forall_mem_cons.mpr ⟨fun S h => bs_gR (Z := Z) (C := R_R) (T := F_R) (N := 6) (t := 15) (j := 0) hx hb hK hts (fun w h => List.mem_cons_of_mem _ (iw_R w h)) hown rfl rfl (by decide) (hts _ (List.mem_cons_of_mem _ wd_137)) (fun _ h => h) rfl rfl rfl d_R_solveFrom_12 h, List.forall_mem_cons.mpr ⟨fun S h => bs_iload_n (Z := Z) hx hb rfl d_R_solveFrom_15 h, List.forall_mem_cons.mpr ⟨fun S h => bs_Iald (Z := Z) hx hb ha1 d_R_solveFrom_16 h, List.forall_mem_cons.mpr ⟨fun S h => bs_Rald (Z := Z) hx hb ha5 d_R_solveFrom_17 h, List.forall_mem_cons.mpr ⟨fun S h => bs_astore_n (Z := Z) hx hb rfl d_R_solveFrom_18 h, List.forall_mem_cons.mpr ⟨fun S h => bs_aload_n (Z := Z) hx hb rfl d_R_solveFrom_19 h, List.forall_mem_cons.mpr ⟨fun S h => bs_gR (Z := Z) (C := R_R) (T := F_R) (N := 6) (t := 15) (j := 1) hx hb hK hts (fun w h => List.mem_cons_of_mem _ (iw_R w h)) hown rfl rfl (by decide) (hts _ (List.mem_cons_of_mem _ wd_138)) (fun _ h => h) rfl rfl rfl d_R_solveFrom_20 h, List.forall_mem_cons.mpr ⟨fun S h => bs_iload_n (Z := Z) hx hb rfl d_R_solveFrom_23 h, List.forall_mem_cons.mpr ⟨fun S h => bs_Iald (Z := Z) hx hb ha1 d_R_solveFrom_24 h, List.forall_mem_cons.mpr ⟨fun S h => bs_istore (Z := Z) hx hb d_R_solveFrom_25 h, List.forall_mem_cons.mpr ⟨fun S h => bs_aload_n (Z := Z) hx hb rfl d_R_solveFrom_27 h, List.forall_mem_cons.mpr ⟨fun S h => bs_gI (Z := Z) (C := R_R) (T := F_R) (N := 6) (t := 15) (j := 3) hx hb hK hts (fun w h => List.mem_cons_of_mem _ (iw_R w h)) hown rfl rfl (by decide) (hts _ (List.mem_cons_of_mem _ wd_140)) (fun _ h => h) rfl rfl rfl d_R_solveFrom_28 h, List.forall_mem_cons.mpr ⟨fun S h => bs_istore (Z := Z) hx hb d_R_solveFrom_31 h, List.forall_mem_cons.mpr ⟨fun S h => bs_iconst (Z := Z) hx hb (by decide) d_R_solveFrom_33 h, List.forall_mem_cons.mpr ⟨fun S h => bs_istore (Z := Z) hx hb d_R_solveFrom_34 h, List.forall_mem_cons.mpr ⟨fun S h => bs_iconst (Z := Z) hx hb (by decide) d_R_solveFrom_36 h, List.forall_mem_cons.mpr ⟨fun S h => bs_istore (Z := Z) hx hb d_R_solveFrom_37 h, List.forall_mem_cons.mpr ⟨fun S h => bs_iload (Z := Z) hx hb d_R_solveFrom_39 h, List.forall_mem_cons.mpr ⟨fun S h => bs_bipush (Z := Z) hx hb (by decide) d_R_solveFrom_41 h, List.forall_mem_cons.mpr ⟨fun S h => bs_icmp_ge (Z := Z) hx hb d_R_solveFrom_43 (by decide) h, List.forall_mem_cons.mpr ⟨fun S h => bs_aload_n (Z := Z) hx hb rfl d_R_solveFrom_46 h, List.forall_mem_cons.mpr ⟨fun S h => bs_gI (Z := Z) (C := R_R) (T := F_R) (N := 6) (t := 15) (j := 4) hx hb hK hts (fun w h => List.mem_cons_of_mem _ (iw_R w h)) hown rfl rfl (by decide) (hts _ (List.mem_cons_of_mem _ wd_141)) (fun _ h => h) rfl rfl rfl d_R_solveFrom_47 h, List.forall_mem_cons.mpr ⟨fun S h => bs_sipush (Z := Z) hx hb (by decide) d_R_solveFrom_50 h, List.forall_mem_cons.mpr ⟨fun S h => bs_icmp_gt (Z := Z) hx hb d_R_solveFrom_53 (by decide) h, List.forall_mem_cons.mpr ⟨fun S h => bs_aload_n (Z := Z) hx hb rfl d_R_solveFrom_56 h, List.forall_mem_cons.mpr ⟨fun S h => bs_iload (Z := Z) hx hb d_R_solveFrom_57 h, List.forall_mem_cons.mpr ⟨fun S h => bs_aload_n (Z := Z) hx hb rfl d_R_solveFrom_59 h, List.forall_mem_cons.mpr ⟨fun S h => bs_aload_n (Z := Z) hx hb rfl d_R_solveFrom_60 h, List.forall_mem_cons.mpr ⟨fun S h => bs_gR (Z := Z) (C := R_B) (T := F_B) (N := 10) (t := 5) (j := 1) hx hb hK hts (fun w h => List.mem_cons_of_mem _ (iw_B w h)) hown rfl rfl (by decide) (hts _ (List.mem_cons_of_mem _ wd_89)) (fun _ h => h) rfl rfl rfl d_R_solveFrom_61 h, List.forall_mem_cons.mpr ⟨fun S h => bs_iload (Z := Z) hx hb d_R_solveFrom_64 h, List.forall_mem_cons.mpr ⟨fun S h => bs_iconst (Z := Z) hx hb (by decide) d_R_solveFrom_66 h, List.forall_mem_cons.mpr ⟨fun S h => bs_callV (Z := Z) (C := R_R) hBg hbs hB X0 hK (cn_R_candidateAfter htr (d + n + 0)) (cl_R_candidateAfter _ _ hw) (hts _ (List.mem_cons_of_mem _ wd_316)) (hts _ (List.mem_cons_of_mem _ wd_318)) (hts _ (List.mem_cons_of_mem _ ws_9)) rfl rfl rfl rfl rfl (Nat.le_refl _) (Nat.le_refl _) d_R_solveFrom_67 (bs_out htab hlocks) h, fun _ h => absurd h List.not_mem_nil⟩⟩⟩⟩⟩⟩⟩⟩⟩⟩⟩⟩⟩⟩⟩⟩⟩⟩⟩⟩⟩⟩⟩⟩⟩⟩⟩⟩⟩⟩⟩⟩⟩⟩⟩⟩⟩⟩⟩⟩
theorem cn_R_solveFrom {l : Launch} {G : bh_G} {base sb L : Nat} {xs : Nat → Int32} (htr : l.stackTraces = false) : ∀ (n d : Nat), bh_Con l G base (bh_Bg G base sb L xs) y_R_solveFrom (.code y_R_solveFrom c_R_solveFrom 10 (some .boolean) :: bh_ws) (bh_rm (d + n + 4) 0) 0 false (F_R_solveFrom (n + 1))
  | 0, d => sd_R_solveFrom htr 0 d _ (fun _ _ _ _ h => h.elim)
  | n + 1, d => sd_R_solveFrom htr (n + 1) d _ (cn_R_solveFrom htr n d)
abbrev c_R_wireOptional : ByteArray := prog_6_method_12_code
def y_R_wireOptional : MethodName := ⟨"BundleHall$Resolver", "wireOptional", "([LBundleHall$Bundle;LBundleHall$Bundle;I)V"⟩
theorem d_R_wireOptional_0 : decode c_R_wireOptional 0 = .ok (.iconst (-1), 1) := by decide +kernel
theorem d_R_wireOptional_1 : decode c_R_wireOptional 1 = .ok (.istore 4, 2) := by decide +kernel
theorem d_R_wireOptional_3 : decode c_R_wireOptional 3 = .ok (.iconst 0, 1) := by decide +kernel
theorem d_R_wireOptional_4 : decode c_R_wireOptional 4 = .ok (.istore 5, 2) := by decide +kernel
theorem d_R_wireOptional_6 : decode c_R_wireOptional 6 = .ok (.iload 5, 2) := by decide +kernel
theorem d_R_wireOptional_8 : decode c_R_wireOptional 8 = .ok (.bipush 8, 2) := by decide +kernel
theorem d_R_wireOptional_10 : decode c_R_wireOptional 10 = .ok (.if_icmp .ge 65, 3) := by decide +kernel
theorem d_R_wireOptional_13 : decode c_R_wireOptional 13 = .ok (.aload_n 0, 1) := by decide +kernel
theorem d_R_wireOptional_14 : decode c_R_wireOptional 14 = .ok (.iload 4, 2) := by decide +kernel
theorem d_R_wireOptional_16 : decode c_R_wireOptional 16 = .ok (.aload_n 1, 1) := by decide +kernel
theorem d_R_wireOptional_17 : decode c_R_wireOptional 17 = .ok (.aload_n 2, 1) := by decide +kernel
theorem d_R_wireOptional_18 : decode c_R_wireOptional 18 = .ok (.getfield 65, 3) := by decide +kernel
theorem d_R_wireOptional_21 : decode c_R_wireOptional 21 = .ok (.iload_n 3, 1) := by decide +kernel
theorem d_R_wireOptional_22 : decode c_R_wireOptional 22 = .ok (.iconst 1, 1) := by decide +kernel
theorem d_R_wireOptional_23 : decode c_R_wireOptional 23 = .ok (.invokevirtual 77, 3) := by decide +kernel
theorem d_R_wireOptional_26 : decode c_R_wireOptional 26 = .ok (.istore 4, 2) := by decide +kernel
theorem d_R_wireOptional_28 : decode c_R_wireOptional 28 = .ok (.iload 4, 2) := by decide +kernel
theorem d_R_wireOptional_30 : decode c_R_wireOptional 30 = .ok (.sipush 160, 3) := by decide +kernel
theorem d_R_wireOptional_33 : decode c_R_wireOptional 33 = .ok (.if_icmp .ne 4, 3) := by decide +kernel
theorem d_R_wireOptional_36 : decode c_R_wireOptional 36 = .ok (.return_, 1) := by decide +kernel
theorem d_R_wireOptional_37 : decode c_R_wireOptional 37 = .ok (.aload_n 2, 1) := by decide +kernel
theorem d_R_wireOptional_38 : decode c_R_wireOptional 38 = .ok (.getfield 81, 3) := by decide +kernel
theorem d_R_wireOptional_41 : decode c_R_wireOptional 41 = .ok (.iload_n 3, 1) := by decide +kernel
theorem d_R_wireOptional_42 : decode c_R_wireOptional 42 = .ok (.aload_n 1, 1) := by decide +kernel
theorem d_R_wireOptional_43 : decode c_R_wireOptional 43 = .ok (.iload 4, 2) := by decide +kernel
theorem d_R_wireOptional_45 : decode c_R_wireOptional 45 = .ok (.bipush 8, 2) := by decide +kernel
theorem d_R_wireOptional_47 : decode c_R_wireOptional 47 = .ok (.irem, 1) := by decide +kernel
theorem d_R_wireOptional_48 : decode c_R_wireOptional 48 = .ok (.aaload, 1) := by decide +kernel
theorem d_R_wireOptional_49 : decode c_R_wireOptional 49 = .ok (.getfield 84, 3) := by decide +kernel
theorem d_R_wireOptional_52 : decode c_R_wireOptional 52 = .ok (.iastore, 1) := by decide +kernel
theorem d_R_wireOptional_53 : decode c_R_wireOptional 53 = .ok (.aload_n 0, 1) := by decide +kernel
theorem d_R_wireOptional_54 : decode c_R_wireOptional 54 = .ok (.aload_n 1, 1) := by decide +kernel
theorem d_R_wireOptional_55 : decode c_R_wireOptional 55 = .ok (.invokevirtual 90, 3) := by decide +kernel
theorem d_R_wireOptional_58 : decode c_R_wireOptional 58 = .ok (.ifCond .ne 4, 3) := by decide +kernel
theorem d_R_wireOptional_61 : decode c_R_wireOptional 61 = .ok (.return_, 1) := by decide +kernel
theorem d_R_wireOptional_62 : decode c_R_wireOptional 62 = .ok (.aload_n 2, 1) := by decide +kernel
theorem d_R_wireOptional_63 : decode c_R_wireOptional 63 = .ok (.getfield 81, 3) := by decide +kernel
theorem d_R_wireOptional_66 : decode c_R_wireOptional 66 = .ok (.iload_n 3, 1) := by decide +kernel
theorem d_R_wireOptional_67 : decode c_R_wireOptional 67 = .ok (.iconst (-1), 1) := by decide +kernel
theorem d_R_wireOptional_68 : decode c_R_wireOptional 68 = .ok (.iastore, 1) := by decide +kernel
theorem d_R_wireOptional_69 : decode c_R_wireOptional 69 = .ok (.iinc 5 1, 3) := by decide +kernel
theorem d_R_wireOptional_72 : decode c_R_wireOptional 72 = .ok (.goto (-66), 3) := by decide +kernel
theorem d_R_wireOptional_75 : decode c_R_wireOptional 75 = .ok (.return_, 1) := by decide +kernel
def T_R_wireOptional_0 : List (Nat × bh_Op) := [(0, bo_st 1 (bg_push (.inl (.int (-1))))),
  (1, bo_ist 3 4),
  (3, bo_st 4 (bg_push (.inl (.int 0)))),
  (4, bo_ist 6 5),
  (6, bo_ild 8 5),
  (8, bo_st 10 (bg_push (.inl (.int 8)))),
  (10, bo_if2 13 75 (fun x y => y ≤ x)),
  (13, bo_ald 14 0),
  (14, bo_ild 16 4),
  (16, bo_ald 17 1),
  (17, bo_ald 18 2),
  (18, bo_gR 21 5 1 7),
  (21, bo_ild 22 3),
  (22, bo_st 23 (bg_push (.inl (.int 1)))),
  (23, bo_callV 26 6 0 0 15 F_R_candidateAfter),
  (26, bo_ist 28 4),
  (28, bo_ild 30 4),
  (30, bo_st 33 (bg_push (.inl (.int 160)))),
  (33, bo_if2 36 37 (fun x y => ¬ x = y)),
  (36, bo_vret 0),
  (37, bo_ald 38 2),
  (38, bo_gR 41 5 2 6),
  (41, bo_ild 42 3),
  (42, bo_ald 43 1),
  (43, bo_ild 45 4),
  (45, bo_st 47 (bg_push (.inl (.int 8)))),
  (47, bo_st 48 (bg_dv (fun x y => x - x / y * y))),
  (48, bo_Rald bh_ak bh_al 49),
  (49, bo_gI 52 5 9),
  (52, bo_Iast bh_ak bh_al 53),
  (53, bo_ald 54 0),
  (54, bo_ald 55 1),
  (55, bo_callV 58 2 0 0 15 F_R_hasClash),
  (58, bo_if1 61 62 (fun x => ¬ x = 0)),
  (61, bo_vret 0),
  (62, bo_ald 63 2),
  (63, bo_gR 66 5 2 6),
  (66, bo_ild 67 3),
  (67, bo_st 68 (bg_push (.inl (.int (-1))))),
  (68, bo_Iast bh_ak bh_al 69)]
def T_R_wireOptional_1 : List (Nat × bh_Op) := [(69, bo_inc 72 5 1),
  (72, bo_go 6),
  (75, bo_vret 0)]
def T_R_wireOptional : List (Nat × bh_Op) := T_R_wireOptional_0 ++ T_R_wireOptional_1
set_option maxRecDepth 20000 in
theorem mT_R_wireOptional_0 : ∀ q ∈ T_R_wireOptional_0, bh_mono q.2 := List.forall_mem_cons.mpr ⟨bo_st_mono (bg_push_m _), List.forall_mem_cons.mpr ⟨bo_ist_m _ _, List.forall_mem_cons.mpr ⟨bo_st_mono (bg_push_m _), List.forall_mem_cons.mpr ⟨bo_ist_m _ _, List.forall_mem_cons.mpr ⟨bo_ild_m _ _, List.forall_mem_cons.mpr ⟨bo_st_mono (bg_push_m _), List.forall_mem_cons.mpr ⟨bo_if2_m _ _ _, List.forall_mem_cons.mpr ⟨bo_ald_m _ _, List.forall_mem_cons.mpr ⟨bo_ild_m _ _, List.forall_mem_cons.mpr ⟨bo_ald_m _ _, List.forall_mem_cons.mpr ⟨bo_ald_m _ _, List.forall_mem_cons.mpr ⟨bo_gR_m _ _ _ _, List.forall_mem_cons.mpr ⟨bo_ild_m _ _, List.forall_mem_cons.mpr ⟨bo_st_mono (bg_push_m _), List.forall_mem_cons.mpr ⟨bo_callV_m (mF_R_candidateAfter) _ _ _ _ _, List.forall_mem_cons.mpr ⟨bo_ist_m _ _, List.forall_mem_cons.mpr ⟨bo_ild_m _ _, List.forall_mem_cons.mpr ⟨bo_st_mono (bg_push_m _), List.forall_mem_cons.mpr ⟨bo_if2_m _ _ _, List.forall_mem_cons.mpr ⟨bo_vret_m _, List.forall_mem_cons.mpr ⟨bo_ald_m _ _, List.forall_mem_cons.mpr ⟨bo_gR_m _ _ _ _, List.forall_mem_cons.mpr ⟨bo_ild_m _ _, List.forall_mem_cons.mpr ⟨bo_ald_m _ _, List.forall_mem_cons.mpr ⟨bo_ild_m _ _, List.forall_mem_cons.mpr ⟨bo_st_mono (bg_push_m _), List.forall_mem_cons.mpr ⟨bo_st_mono (bg_dv_m _), List.forall_mem_cons.mpr ⟨bo_Rald_m _ _ _, List.forall_mem_cons.mpr ⟨bo_gI_m _ _ _, List.forall_mem_cons.mpr ⟨bo_Iast_m _ _ _, List.forall_mem_cons.mpr ⟨bo_ald_m _ _, List.forall_mem_cons.mpr ⟨bo_ald_m _ _, List.forall_mem_cons.mpr ⟨bo_callV_m (mF_R_hasClash) _ _ _ _ _, List.forall_mem_cons.mpr ⟨bo_if1_m _ _ _, List.forall_mem_cons.mpr ⟨bo_vret_m _, List.forall_mem_cons.mpr ⟨bo_ald_m _ _, List.forall_mem_cons.mpr ⟨bo_gR_m _ _ _ _, List.forall_mem_cons.mpr ⟨bo_ild_m _ _, List.forall_mem_cons.mpr ⟨bo_st_mono (bg_push_m _), List.forall_mem_cons.mpr ⟨bo_Iast_m _ _ _, fun _ h => absurd h List.not_mem_nil⟩⟩⟩⟩⟩⟩⟩⟩⟩⟩⟩⟩⟩⟩⟩⟩⟩⟩⟩⟩⟩⟩⟩⟩⟩⟩⟩⟩⟩⟩⟩⟩⟩⟩⟩⟩⟩⟩⟩⟩
set_option maxRecDepth 20000 in
theorem mT_R_wireOptional_1 : ∀ q ∈ T_R_wireOptional_1, bh_mono q.2 := List.forall_mem_cons.mpr ⟨bo_inc_m _ _ _, List.forall_mem_cons.mpr ⟨bo_go_m _, List.forall_mem_cons.mpr ⟨bo_vret_m _, fun _ h => absurd h List.not_mem_nil⟩⟩⟩
theorem m_R_wireOptional : ∀ pc, bh_mono (bh_tb (T_R_wireOptional) pc) := bh_tb_m (List.forall_mem_append.mpr ⟨mT_R_wireOptional_0, mT_R_wireOptional_1⟩)
def F_R_wireOptional : bh_Fn := bh_fn 6 (bh_tb T_R_wireOptional)
theorem mF_R_wireOptional : bh_monoF F_R_wireOptional := bh_fn_m m_R_wireOptional
theorem cl_R_wireOptional {s : State} {args : Array Value} (d B : Nat) (hts : ∀ w ∈ bh_ws, w.before args s = true) : bh_Cal (bh_rm (d + 1) B) s y_R_wireOptional 6 (.code y_R_wireOptional c_R_wireOptional 6 none :: bh_ws) (bh_rm d 0) 0 3 := bh_cal d B hts wd_353 wd_5 (by decide) (by decide +kernel)
set_option maxHeartbeats 4000000 in
set_option maxRecDepth 100000 in
theorem cn_R_wireOptional {l : Launch} {G : bh_G} {base sb L : Nat} {xs : Nat → Int32} (htr : l.stackTraces = false) (d : Nat) : bh_Con l G base (bh_Bg G base sb L xs) y_R_wireOptional (.code y_R_wireOptional c_R_wireOptional 6 none :: bh_ws) (bh_rm (d + 4) 0) 0 false F_R_wireOptional := by
  refine bh_method (cc := c_R_wireOptional) (ret := none) (by decide +kernel) rfl ?_
  intro p e s m args below meth c ad0 M0 Z X0 hr hlocks hname htab hbs hB
  obtain ⟨hx, hb, hml, hown, hts⟩ := id X0
  have hw : ∀ w ∈ bh_ws, w.before args s = true := fun w h => hts w (List.mem_cons_of_mem _ h)
  have hBg := bh_BgK (G := G) (base := base) (sb := sb) (L := L) (xs := xs)
  obtain ⟨hK, hAr, hen, hinj, hu1, hu2, hstr, hX, hsb, hsc, hxw, hao, hnc⟩ := id hB
  obtain ⟨ha1, ha2, ha3, ha4, ha5, ha6, ha0⟩ := bh_arr hAr
  refine List.forall_mem_append.mpr ⟨?_, List.forall_mem_cons.mpr ⟨fun S h => bs_iinc (Z := Z) hx hb (by decide) d_R_wireOptional_69 h, List.forall_mem_cons.mpr ⟨fun S h => bs_goto (Z := Z) hx hb d_R_wireOptional_72 (by decide) h, List.forall_mem_cons.mpr ⟨fun S h => bs_vret (Z := Z) hx hb hr hlocks d_R_wireOptional_75 h, fun _ h => absurd h List.not_mem_nil⟩⟩⟩⟩
  exact List.forall_mem_cons.mpr ⟨fun S h => bs_iconst (Z := Z) hx hb (by decide) d_R_wireOptional_0 h, List.forall_mem_cons.mpr ⟨fun S h => bs_istore (Z := Z) hx hb d_R_wireOptional_1 h, List.forall_mem_cons.mpr ⟨fun S h => bs_iconst (Z := Z) hx hb (by decide) d_R_wireOptional_3 h, List.forall_mem_cons.mpr ⟨fun S h => bs_istore (Z := Z) hx hb d_R_wireOptional_4 h, List.forall_mem_cons.mpr ⟨fun S h => bs_iload (Z := Z) hx hb d_R_wireOptional_6 h, List.forall_mem_cons.mpr ⟨fun S h => bs_bipush (Z := Z) hx hb (by decide) d_R_wireOptional_8 h, List.forall_mem_cons.mpr ⟨fun S h => bs_icmp_ge (Z := Z) hx hb d_R_wireOptional_10 (by decide) h, List.forall_mem_cons.mpr ⟨fun S h => bs_aload_n (Z := Z) hx hb rfl d_R_wireOptional_13 h, List.forall_mem_cons.mpr ⟨fun S h => bs_iload (Z := Z) hx hb d_R_wireOptional_14 h, List.forall_mem_cons.mpr ⟨fun S h => bs_aload_n (Z := Z) hx hb rfl d_R_wireOptional_16 h, List.forall_mem_cons.mpr ⟨fun S h => bs_aload_n (Z := Z) hx hb rfl d_R_wireOptional_17 h, List.forall_mem_cons.mpr ⟨fun S h => bs_gR (Z := Z) (C := R_B) (T := F_B) (N := 10) (t := 5) (j := 1) hx hb hK hts (fun w h => List.mem_cons_of_mem _ (iw_B w h)) hown rfl rfl (by decide) (hts _ (List.mem_cons_of_mem _ wd_89)) (fun _ h => h) rfl rfl rfl d_R_wireOptional_18 h, List.forall_mem_cons.mpr ⟨fun S h => bs_iload_n (Z := Z) hx hb rfl d_R_wireOptional_21 h, List.forall_mem_cons.mpr ⟨fun S h => bs_iconst (Z := Z) hx hb (by decide) d_R_wireOptional_22 h, List.forall_mem_cons.mpr ⟨fun S h => bs_callV (Z := Z) (C := R_R) hBg hbs hB X0 hK (cn_R_candidateAfter htr (d + 0)) (cl_R_candidateAfter _ _ hw) (hts _ (List.mem_cons_of_mem _ wd_316)) (hts _ (List.mem_cons_of_mem _ wd_318)) (hts _ (List.mem_cons_of_mem _ ws_9)) rfl rfl rfl rfl rfl (Nat.le_refl _) (Nat.le_refl _) d_R_wireOptional_23 (bs_out htab hlocks) h, List.forall_mem_cons.mpr ⟨fun S h => bs_istore (Z := Z) hx hb d_R_wireOptional_26 h, List.forall_mem_cons.mpr ⟨fun S h => bs_iload (Z := Z) hx hb d_R_wireOptional_28 h, List.forall_mem_cons.mpr ⟨fun S h => bs_sipush (Z := Z) hx hb (by decide) d_R_wireOptional_30 h, List.forall_mem_cons.mpr ⟨fun S h => bs_icmp_ne (Z := Z) hx hb d_R_wireOptional_33 (by decide) h, List.forall_mem_cons.mpr ⟨fun S h => bs_vret (Z := Z) hx hb hr hlocks d_R_wireOptional_36 h, List.forall_mem_cons.mpr ⟨fun S h => bs_aload_n (Z := Z) hx hb rfl d_R_wireOptional_37 h, List.forall_mem_cons.mpr ⟨fun S h => bs_gR (Z := Z) (C := R_B) (T := F_B) (N := 10) (t := 5) (j := 2) hx hb hK hts (fun w h => List.mem_cons_of_mem _ (iw_B w h)) hown rfl rfl (by decide) (hts _ (List.mem_cons_of_mem _ wd_92)) (fun _ h => h) rfl rfl rfl d_R_wireOptional_38 h, List.forall_mem_cons.mpr ⟨fun S h => bs_iload_n (Z := Z) hx hb rfl d_R_wireOptional_41 h, List.forall_mem_cons.mpr ⟨fun S h => bs_aload_n (Z := Z) hx hb rfl d_R_wireOptional_42 h, List.forall_mem_cons.mpr ⟨fun S h => bs_iload (Z := Z) hx hb d_R_wireOptional_43 h, List.forall_mem_cons.mpr ⟨fun S h => bs_bipush (Z := Z) hx hb (by decide) d_R_wireOptional_45 h, List.forall_mem_cons.mpr ⟨fun S h => bs_irem (Z := Z) hx hb d_R_wireOptional_47 h, List.forall_mem_cons.mpr ⟨fun S h => bs_Rald (Z := Z) hx hb ha5 d_R_wireOptional_48 h, List.forall_mem_cons.mpr ⟨fun S h => bs_gI (Z := Z) (C := R_B) (T := F_B) (N := 10) (t := 5) (j := 9) hx hb hK hts (fun w h => List.mem_cons_of_mem _ (iw_B w h)) hown rfl rfl (by decide) (hts _ (List.mem_cons_of_mem _ wd_108)) (fun _ h => h) rfl rfl rfl d_R_wireOptional_49 h, List.forall_mem_cons.mpr ⟨fun S h => bs_Iast (Z := Z) hx hb ha1 d_R_wireOptional_52 h, List.forall_mem_cons.mpr ⟨fun S h => bs_aload_n (Z := Z) hx hb rfl d_R_wireOptional_53 h, List.forall_mem_cons.mpr ⟨fun S h => bs_aload_n (Z := Z) hx hb rfl d_R_wireOptional_54 h, List.forall_mem_cons.mpr ⟨fun S h => bs_callV (Z := Z) (C := R_R) hBg hbs hB X0 hK (cn_R_hasClash htr (d + 0)) (cl_R_hasClash _ _ hw) (hts _ (List.mem_cons_of_mem _ wd_327)) (hts _ (List.mem_cons_of_mem _ wd_329)) (hts _ (List.mem_cons_of_mem _ ws_10)) rfl rfl rfl rfl rfl (Nat.le_refl _) (Nat.le_refl _) d_R_wireOptional_55 (bs_out htab hlocks) h, List.forall_mem_cons.mpr ⟨fun S h => bs_if_ne (Z := Z) hx hb d_R_wireOptional_58 (by decide) h, List.forall_mem_cons.mpr ⟨fun S h => bs_vret (Z := Z) hx hb hr hlocks d_R_wireOptional_61 h, List.forall_mem_cons.mpr ⟨fun S h => bs_aload_n (Z := Z) hx hb rfl d_R_wireOptional_62 h, List.forall_mem_cons.mpr ⟨fun S h => bs_gR (Z := Z) (C := R_B) (T := F_B) (N := 10) (t := 5) (j := 2) hx hb hK hts (fun w h => List.mem_cons_of_mem _ (iw_B w h)) hown rfl rfl (by decide) (hts _ (List.mem_cons_of_mem _ wd_92)) (fun _ h => h) rfl rfl rfl d_R_wireOptional_63 h, List.forall_mem_cons.mpr ⟨fun S h => bs_iload_n (Z := Z) hx hb rfl d_R_wireOptional_66 h, List.forall_mem_cons.mpr ⟨fun S h => bs_iconst (Z := Z) hx hb (by decide) d_R_wireOptional_67 h, List.forall_mem_cons.mpr ⟨fun S h => bs_Iast (Z := Z) hx hb ha1 d_R_wireOptional_68 h, fun _ h => absurd h List.not_mem_nil⟩⟩⟩⟩⟩⟩⟩⟩⟩⟩⟩⟩⟩⟩⟩⟩⟩⟩⟩⟩⟩⟩⟩⟩⟩⟩⟩⟩⟩⟩⟩⟩⟩⟩⟩⟩⟩⟩⟩⟩
abbrev c_R_settle : ByteArray := prog_6_method_11_code
def y_R_settle : MethodName := ⟨"BundleHall$Resolver", "settle", "([LBundleHall$Bundle;)V"⟩
theorem d_R_settle_0 : decode c_R_settle 0 = .ok (.iconst 0, 1) := by decide +kernel
theorem d_R_settle_1 : decode c_R_settle 1 = .ok (.istore_n 2, 1) := by decide +kernel
theorem d_R_settle_2 : decode c_R_settle 2 = .ok (.iload_n 2, 1) := by decide +kernel
theorem d_R_settle_3 : decode c_R_settle 3 = .ok (.bipush 8, 2) := by decide +kernel
theorem d_R_settle_5 : decode c_R_settle 5 = .ok (.if_icmp .ge 25, 3) := by decide +kernel
theorem d_R_settle_8 : decode c_R_settle 8 = .ok (.aload_n 0, 1) := by decide +kernel
theorem d_R_settle_9 : decode c_R_settle 9 = .ok (.getfield 18, 3) := by decide +kernel
theorem d_R_settle_12 : decode c_R_settle 12 = .ok (.iload_n 2, 1) := by decide +kernel
theorem d_R_settle_13 : decode c_R_settle 13 = .ok (.baload, 1) := by decide +kernel
theorem d_R_settle_14 : decode c_R_settle 14 = .ok (.ifCond .eq 10, 3) := by decide +kernel
theorem d_R_settle_17 : decode c_R_settle 17 = .ok (.aload_n 1, 1) := by decide +kernel
theorem d_R_settle_18 : decode c_R_settle 18 = .ok (.iload_n 2, 1) := by decide +kernel
theorem d_R_settle_19 : decode c_R_settle 19 = .ok (.aaload, 1) := by decide +kernel
theorem d_R_settle_20 : decode c_R_settle 20 = .ok (.iconst 2, 1) := by decide +kernel
theorem d_R_settle_21 : decode c_R_settle 21 = .ok (.putfield 87, 3) := by decide +kernel
theorem d_R_settle_24 : decode c_R_settle 24 = .ok (.iinc 2 1, 3) := by decide +kernel
theorem d_R_settle_27 : decode c_R_settle 27 = .ok (.goto (-25), 3) := by decide +kernel
theorem d_R_settle_30 : decode c_R_settle 30 = .ok (.iconst 0, 1) := by decide +kernel
theorem d_R_settle_31 : decode c_R_settle 31 = .ok (.istore_n 2, 1) := by decide +kernel
theorem d_R_settle_32 : decode c_R_settle 32 = .ok (.iload_n 2, 1) := by decide +kernel
theorem d_R_settle_33 : decode c_R_settle 33 = .ok (.bipush 8, 2) := by decide +kernel
theorem d_R_settle_35 : decode c_R_settle 35 = .ok (.if_icmp .ge 64, 3) := by decide +kernel
theorem d_R_settle_38 : decode c_R_settle 38 = .ok (.aload_n 1, 1) := by decide +kernel
theorem d_R_settle_39 : decode c_R_settle 39 = .ok (.iload_n 2, 1) := by decide +kernel
theorem d_R_settle_40 : decode c_R_settle 40 = .ok (.aaload, 1) := by decide +kernel
theorem d_R_settle_41 : decode c_R_settle 41 = .ok (.astore_n 3, 1) := by decide +kernel
theorem d_R_settle_42 : decode c_R_settle 42 = .ok (.iconst 0, 1) := by decide +kernel
theorem d_R_settle_43 : decode c_R_settle 43 = .ok (.istore 4, 2) := by decide +kernel
theorem d_R_settle_45 : decode c_R_settle 45 = .ok (.aload_n 0, 1) := by decide +kernel
theorem d_R_settle_46 : decode c_R_settle 46 = .ok (.getfield 18, 3) := by decide +kernel
theorem d_R_settle_49 : decode c_R_settle 49 = .ok (.iload_n 2, 1) := by decide +kernel
theorem d_R_settle_50 : decode c_R_settle 50 = .ok (.baload, 1) := by decide +kernel
theorem d_R_settle_51 : decode c_R_settle 51 = .ok (.ifCond .eq 42, 3) := by decide +kernel
theorem d_R_settle_54 : decode c_R_settle 54 = .ok (.iload 4, 2) := by decide +kernel
theorem d_R_settle_56 : decode c_R_settle 56 = .ok (.aload_n 3, 1) := by decide +kernel
theorem d_R_settle_57 : decode c_R_settle 57 = .ok (.getfield 65, 3) := by decide +kernel
theorem d_R_settle_60 : decode c_R_settle 60 = .ok (.getfield 69, 3) := by decide +kernel
theorem d_R_settle_63 : decode c_R_settle 63 = .ok (.if_icmp .ge 30, 3) := by decide +kernel
theorem d_R_settle_66 : decode c_R_settle 66 = .ok (.aload_n 3, 1) := by decide +kernel
theorem d_R_settle_67 : decode c_R_settle 67 = .ok (.getfield 65, 3) := by decide +kernel
theorem d_R_settle_70 : decode c_R_settle 70 = .ok (.getfield 74, 3) := by decide +kernel
theorem d_R_settle_73 : decode c_R_settle 73 = .ok (.iload 4, 2) := by decide +kernel
theorem d_R_settle_75 : decode c_R_settle 75 = .ok (.baload, 1) := by decide +kernel
theorem d_R_settle_76 : decode c_R_settle 76 = .ok (.ifCond .eq 11, 3) := by decide +kernel
theorem d_R_settle_79 : decode c_R_settle 79 = .ok (.aload_n 0, 1) := by decide +kernel
theorem d_R_settle_80 : decode c_R_settle 80 = .ok (.aload_n 1, 1) := by decide +kernel
theorem d_R_settle_81 : decode c_R_settle 81 = .ok (.aload_n 3, 1) := by decide +kernel
theorem d_R_settle_82 : decode c_R_settle 82 = .ok (.iload 4, 2) := by decide +kernel
theorem d_R_settle_84 : decode c_R_settle 84 = .ok (.invokevirtual 134, 3) := by decide +kernel
theorem d_R_settle_87 : decode c_R_settle 87 = .ok (.iinc 4 1, 3) := by decide +kernel
theorem d_R_settle_90 : decode c_R_settle 90 = .ok (.goto (-45), 3) := by decide +kernel
theorem d_R_settle_93 : decode c_R_settle 93 = .ok (.iinc 2 1, 3) := by decide +kernel
theorem d_R_settle_96 : decode c_R_settle 96 = .ok (.goto (-64), 3) := by decide +kernel
theorem d_R_settle_99 : decode c_R_settle 99 = .ok (.return_, 1) := by decide +kernel
def T_R_settle_0 : List (Nat × bh_Op) := [(0, bo_st 1 (bg_push (.inl (.int 0)))),
  (1, bo_ist 2 2),
  (2, bo_ild 3 2),
  (3, bo_st 5 (bg_push (.inl (.int 8)))),
  (5, bo_if2 8 30 (fun x y => y ≤ x)),
  (8, bo_ald 9 0),
  (9, bo_gR 12 15 2 18),
  (12, bo_ild 13 2),
  (13, bo_Zald bh_ak bh_al 14),
  (14, bo_if1 17 24 (fun x => x = 0)),
  (17, bo_ald 18 1),
  (18, bo_ild 19 2),
  (19, bo_Rald bh_ak bh_al 20),
  (20, bo_st 21 (bg_push (.inl (.int 2)))),
  (21, bo_pI 24 5 3),
  (24, bo_inc 27 2 1),
  (27, bo_go 2),
  (30, bo_st 31 (bg_push (.inl (.int 0)))),
  (31, bo_ist 32 2),
  (32, bo_ild 33 2),
  (33, bo_st 35 (bg_push (.inl (.int 8)))),
  (35, bo_if2 38 99 (fun x y => y ≤ x)),
  (38, bo_ald 39 1),
  (39, bo_ild 40 2),
  (40, bo_Rald bh_ak bh_al 41),
  (41, bo_ast 42 3),
  (42, bo_st 43 (bg_push (.inl (.int 0)))),
  (43, bo_ist 45 4),
  (45, bo_ald 46 0),
  (46, bo_gR 49 15 2 18),
  (49, bo_ild 50 2),
  (50, bo_Zald bh_ak bh_al 51),
  (51, bo_if1 54 93 (fun x => x = 0)),
  (54, bo_ild 56 4),
  (56, bo_ald 57 3),
  (57, bo_gR 60 5 1 7),
  (60, bo_gI 63 7 8),
  (63, bo_if2 66 93 (fun x y => y ≤ x)),
  (66, bo_ald 67 3),
  (67, bo_gR 70 5 1 7)]
def T_R_settle_1 : List (Nat × bh_Op) := [(70, bo_gR 73 7 6 14),
  (73, bo_ild 75 4),
  (75, bo_Zald bh_ak bh_al 76),
  (76, bo_if1 79 87 (fun x => x = 0)),
  (79, bo_ald 80 0),
  (80, bo_ald 81 1),
  (81, bo_ald 82 3),
  (82, bo_ild 84 4),
  (84, bo_callV 87 4 0 0 15 F_R_wireOptional),
  (87, bo_inc 90 4 1),
  (90, bo_go 45),
  (93, bo_inc 96 2 1),
  (96, bo_go 32),
  (99, bo_vret 0)]
def T_R_settle : List (Nat × bh_Op) := T_R_settle_0 ++ T_R_settle_1
set_option maxRecDepth 20000 in
theorem mT_R_settle_0 : ∀ q ∈ T_R_settle_0, bh_mono q.2 := List.forall_mem_cons.mpr ⟨bo_st_mono (bg_push_m _), List.forall_mem_cons.mpr ⟨bo_ist_m _ _, List.forall_mem_cons.mpr ⟨bo_ild_m _ _, List.forall_mem_cons.mpr ⟨bo_st_mono (bg_push_m _), List.forall_mem_cons.mpr ⟨bo_if2_m _ _ _, List.forall_mem_cons.mpr ⟨bo_ald_m _ _, List.forall_mem_cons.mpr ⟨bo_gR_m _ _ _ _, List.forall_mem_cons.mpr ⟨bo_ild_m _ _, List.forall_mem_cons.mpr ⟨bo_Zald_m _ _ _, List.forall_mem_cons.mpr ⟨bo_if1_m _ _ _, List.forall_mem_cons.mpr ⟨bo_ald_m _ _, List.forall_mem_cons.mpr ⟨bo_ild_m _ _, List.forall_mem_cons.mpr ⟨bo_Rald_m _ _ _, List.forall_mem_cons.mpr ⟨bo_st_mono (bg_push_m _), List.forall_mem_cons.mpr ⟨bo_pI_m _ _ _, List.forall_mem_cons.mpr ⟨bo_inc_m _ _ _, List.forall_mem_cons.mpr ⟨bo_go_m _, List.forall_mem_cons.mpr ⟨bo_st_mono (bg_push_m _), List.forall_mem_cons.mpr ⟨bo_ist_m _ _, List.forall_mem_cons.mpr ⟨bo_ild_m _ _, List.forall_mem_cons.mpr ⟨bo_st_mono (bg_push_m _), List.forall_mem_cons.mpr ⟨bo_if2_m _ _ _, List.forall_mem_cons.mpr ⟨bo_ald_m _ _, List.forall_mem_cons.mpr ⟨bo_ild_m _ _, List.forall_mem_cons.mpr ⟨bo_Rald_m _ _ _, List.forall_mem_cons.mpr ⟨bo_ast_m _ _, List.forall_mem_cons.mpr ⟨bo_st_mono (bg_push_m _), List.forall_mem_cons.mpr ⟨bo_ist_m _ _, List.forall_mem_cons.mpr ⟨bo_ald_m _ _, List.forall_mem_cons.mpr ⟨bo_gR_m _ _ _ _, List.forall_mem_cons.mpr ⟨bo_ild_m _ _, List.forall_mem_cons.mpr ⟨bo_Zald_m _ _ _, List.forall_mem_cons.mpr ⟨bo_if1_m _ _ _, List.forall_mem_cons.mpr ⟨bo_ild_m _ _, List.forall_mem_cons.mpr ⟨bo_ald_m _ _, List.forall_mem_cons.mpr ⟨bo_gR_m _ _ _ _, List.forall_mem_cons.mpr ⟨bo_gI_m _ _ _, List.forall_mem_cons.mpr ⟨bo_if2_m _ _ _, List.forall_mem_cons.mpr ⟨bo_ald_m _ _, List.forall_mem_cons.mpr ⟨bo_gR_m _ _ _ _, fun _ h => absurd h List.not_mem_nil⟩⟩⟩⟩⟩⟩⟩⟩⟩⟩⟩⟩⟩⟩⟩⟩⟩⟩⟩⟩⟩⟩⟩⟩⟩⟩⟩⟩⟩⟩⟩⟩⟩⟩⟩⟩⟩⟩⟩⟩
set_option maxRecDepth 20000 in
theorem mT_R_settle_1 : ∀ q ∈ T_R_settle_1, bh_mono q.2 := List.forall_mem_cons.mpr ⟨bo_gR_m _ _ _ _, List.forall_mem_cons.mpr ⟨bo_ild_m _ _, List.forall_mem_cons.mpr ⟨bo_Zald_m _ _ _, List.forall_mem_cons.mpr ⟨bo_if1_m _ _ _, List.forall_mem_cons.mpr ⟨bo_ald_m _ _, List.forall_mem_cons.mpr ⟨bo_ald_m _ _, List.forall_mem_cons.mpr ⟨bo_ald_m _ _, List.forall_mem_cons.mpr ⟨bo_ild_m _ _, List.forall_mem_cons.mpr ⟨bo_callV_m (mF_R_wireOptional) _ _ _ _ _, List.forall_mem_cons.mpr ⟨bo_inc_m _ _ _, List.forall_mem_cons.mpr ⟨bo_go_m _, List.forall_mem_cons.mpr ⟨bo_inc_m _ _ _, List.forall_mem_cons.mpr ⟨bo_go_m _, List.forall_mem_cons.mpr ⟨bo_vret_m _, fun _ h => absurd h List.not_mem_nil⟩⟩⟩⟩⟩⟩⟩⟩⟩⟩⟩⟩⟩⟩
theorem m_R_settle : ∀ pc, bh_mono (bh_tb (T_R_settle) pc) := bh_tb_m (List.forall_mem_append.mpr ⟨mT_R_settle_0, mT_R_settle_1⟩)
def F_R_settle : bh_Fn := bh_fn 5 (bh_tb T_R_settle)
theorem mF_R_settle : bh_monoF F_R_settle := bh_fn_m m_R_settle
theorem cl_R_settle {s : State} {args : Array Value} (d B : Nat) (hts : ∀ w ∈ bh_ws, w.before args s = true) : bh_Cal (bh_rm (d + 1) B) s y_R_settle 5 (.code y_R_settle c_R_settle 5 none :: bh_ws) (bh_rm d 0) 0 1 := bh_cal d B hts wd_349 wd_5 (by decide) (by decide +kernel)
set_option maxHeartbeats 4000000 in
set_option maxRecDepth 100000 in
theorem cn_R_settle {l : Launch} {G : bh_G} {base sb L : Nat} {xs : Nat → Int32} (htr : l.stackTraces = false) (d : Nat) : bh_Con l G base (bh_Bg G base sb L xs) y_R_settle (.code y_R_settle c_R_settle 5 none :: bh_ws) (bh_rm (d + 5) 0) 0 false F_R_settle := by
  refine bh_method (cc := c_R_settle) (ret := none) (by decide +kernel) rfl ?_
  intro p e s m args below meth c ad0 M0 Z X0 hr hlocks hname htab hbs hB
  obtain ⟨hx, hb, hml, hown, hts⟩ := id X0
  have hw : ∀ w ∈ bh_ws, w.before args s = true := fun w h => hts w (List.mem_cons_of_mem _ h)
  have hBg := bh_BgK (G := G) (base := base) (sb := sb) (L := L) (xs := xs)
  obtain ⟨hK, hAr, hen, hinj, hu1, hu2, hstr, hX, hsb, hsc, hxw, hao, hnc⟩ := id hB
  obtain ⟨ha1, ha2, ha3, ha4, ha5, ha6, ha0⟩ := bh_arr hAr
  refine List.forall_mem_append.mpr ⟨?_, List.forall_mem_cons.mpr ⟨fun S h => bs_gR (Z := Z) (C := R_F) (T := F_F) (N := 9) (t := 7) (j := 6) hx hb hK hts (fun w h => List.mem_cons_of_mem _ (iw_F w h)) hown rfl rfl (by decide) (hts _ (List.mem_cons_of_mem _ wd_57)) (fun _ h => h) rfl rfl rfl d_R_settle_70 h, List.forall_mem_cons.mpr ⟨fun S h => bs_iload (Z := Z) hx hb d_R_settle_73 h, List.forall_mem_cons.mpr ⟨fun S h => bs_Zald (Z := Z) hx hb ha2 d_R_settle_75 h, List.forall_mem_cons.mpr ⟨fun S h => bs_if_eq (Z := Z) hx hb d_R_settle_76 (by decide) h, List.forall_mem_cons.mpr ⟨fun S h => bs_aload_n (Z := Z) hx hb rfl d_R_settle_79 h, List.forall_mem_cons.mpr ⟨fun S h => bs_aload_n (Z := Z) hx hb rfl d_R_settle_80 h, List.forall_mem_cons.mpr ⟨fun S h => bs_aload_n (Z := Z) hx hb rfl d_R_settle_81 h, List.forall_mem_cons.mpr ⟨fun S h => bs_iload (Z := Z) hx hb d_R_settle_82 h, List.forall_mem_cons.mpr ⟨fun S h => bs_callV (Z := Z) (C := R_R) hBg hbs hB X0 hK (cn_R_wireOptional htr (d + 0)) (cl_R_wireOptional _ _ hw) (hts _ (List.mem_cons_of_mem _ wd_350)) (hts _ (List.mem_cons_of_mem _ wd_352)) (hts _ (List.mem_cons_of_mem _ ws_13)) rfl rfl rfl rfl rfl (Nat.le_refl _) (Nat.le_refl _) d_R_settle_84 (bs_out htab hlocks) h, List.forall_mem_cons.mpr ⟨fun S h => bs_iinc (Z := Z) hx hb (by decide) d_R_settle_87 h, List.forall_mem_cons.mpr ⟨fun S h => bs_goto (Z := Z) hx hb d_R_settle_90 (by decide) h, List.forall_mem_cons.mpr ⟨fun S h => bs_iinc (Z := Z) hx hb (by decide) d_R_settle_93 h, List.forall_mem_cons.mpr ⟨fun S h => bs_goto (Z := Z) hx hb d_R_settle_96 (by decide) h, List.forall_mem_cons.mpr ⟨fun S h => bs_vret (Z := Z) hx hb hr hlocks d_R_settle_99 h, fun _ h => absurd h List.not_mem_nil⟩⟩⟩⟩⟩⟩⟩⟩⟩⟩⟩⟩⟩⟩⟩
  exact List.forall_mem_cons.mpr ⟨fun S h => bs_iconst (Z := Z) hx hb (by decide) d_R_settle_0 h, List.forall_mem_cons.mpr ⟨fun S h => bs_istore_n (Z := Z) hx hb rfl d_R_settle_1 h, List.forall_mem_cons.mpr ⟨fun S h => bs_iload_n (Z := Z) hx hb rfl d_R_settle_2 h, List.forall_mem_cons.mpr ⟨fun S h => bs_bipush (Z := Z) hx hb (by decide) d_R_settle_3 h, List.forall_mem_cons.mpr ⟨fun S h => bs_icmp_ge (Z := Z) hx hb d_R_settle_5 (by decide) h, List.forall_mem_cons.mpr ⟨fun S h => bs_aload_n (Z := Z) hx hb rfl d_R_settle_8 h, List.forall_mem_cons.mpr ⟨fun S h => bs_gR (Z := Z) (C := R_R) (T := F_R) (N := 6) (t := 15) (j := 2) hx hb hK hts (fun w h => List.mem_cons_of_mem _ (iw_R w h)) hown rfl rfl (by decide) (hts _ (List.mem_cons_of_mem _ wd_139)) (fun _ h => h) rfl rfl rfl d_R_settle_9 h, List.forall_mem_cons.mpr ⟨fun S h => bs_iload_n (Z := Z) hx hb rfl d_R_settle_12 h, List.forall_mem_cons.mpr ⟨fun S h => bs_Zald (Z := Z) hx hb ha2 d_R_settle_13 h, List.forall_mem_cons.mpr ⟨fun S h => bs_if_eq (Z := Z) hx hb d_R_settle_14 (by decide) h, List.forall_mem_cons.mpr ⟨fun S h => bs_aload_n (Z := Z) hx hb rfl d_R_settle_17 h, List.forall_mem_cons.mpr ⟨fun S h => bs_iload_n (Z := Z) hx hb rfl d_R_settle_18 h, List.forall_mem_cons.mpr ⟨fun S h => bs_Rald (Z := Z) hx hb ha5 d_R_settle_19 h, List.forall_mem_cons.mpr ⟨fun S h => bs_iconst (Z := Z) hx hb (by decide) d_R_settle_20 h, List.forall_mem_cons.mpr ⟨fun S h => bs_pI (Z := Z) (C := R_B) (T := F_B) (N := 10) (t := 5) (j := 3) hx hb hK hts (fun w h => List.mem_cons_of_mem _ (iw_B w h)) hown rfl rfl (by decide) (hts _ (List.mem_cons_of_mem _ wd_96)) (fun _ h => h) rfl rfl t_B t_B_ok n_B rfl (by decide +kernel) rfl d_R_settle_21 h, List.forall_mem_cons.mpr ⟨fun S h => bs_iinc (Z := Z) hx hb (by decide) d_R_settle_24 h, List.forall_mem_cons.mpr ⟨fun S h => bs_goto (Z := Z) hx hb d_R_settle_27 (by decide) h, List.forall_mem_cons.mpr ⟨fun S h => bs_iconst (Z := Z) hx hb (by decide) d_R_settle_30 h, List.forall_mem_cons.mpr ⟨fun S h => bs_istore_n (Z := Z) hx hb rfl d_R_settle_31 h, List.forall_mem_cons.mpr ⟨fun S h => bs_iload_n (Z := Z) hx hb rfl d_R_settle_32 h, List.forall_mem_cons.mpr ⟨fun S h => bs_bipush (Z := Z) hx hb (by decide) d_R_settle_33 h, List.forall_mem_cons.mpr ⟨fun S h => bs_icmp_ge (Z := Z) hx hb d_R_settle_35 (by decide) h, List.forall_mem_cons.mpr ⟨fun S h => bs_aload_n (Z := Z) hx hb rfl d_R_settle_38 h, List.forall_mem_cons.mpr ⟨fun S h => bs_iload_n (Z := Z) hx hb rfl d_R_settle_39 h, List.forall_mem_cons.mpr ⟨fun S h => bs_Rald (Z := Z) hx hb ha5 d_R_settle_40 h, List.forall_mem_cons.mpr ⟨fun S h => bs_astore_n (Z := Z) hx hb rfl d_R_settle_41 h, List.forall_mem_cons.mpr ⟨fun S h => bs_iconst (Z := Z) hx hb (by decide) d_R_settle_42 h, List.forall_mem_cons.mpr ⟨fun S h => bs_istore (Z := Z) hx hb d_R_settle_43 h, List.forall_mem_cons.mpr ⟨fun S h => bs_aload_n (Z := Z) hx hb rfl d_R_settle_45 h, List.forall_mem_cons.mpr ⟨fun S h => bs_gR (Z := Z) (C := R_R) (T := F_R) (N := 6) (t := 15) (j := 2) hx hb hK hts (fun w h => List.mem_cons_of_mem _ (iw_R w h)) hown rfl rfl (by decide) (hts _ (List.mem_cons_of_mem _ wd_139)) (fun _ h => h) rfl rfl rfl d_R_settle_46 h, List.forall_mem_cons.mpr ⟨fun S h => bs_iload_n (Z := Z) hx hb rfl d_R_settle_49 h, List.forall_mem_cons.mpr ⟨fun S h => bs_Zald (Z := Z) hx hb ha2 d_R_settle_50 h, List.forall_mem_cons.mpr ⟨fun S h => bs_if_eq (Z := Z) hx hb d_R_settle_51 (by decide) h, List.forall_mem_cons.mpr ⟨fun S h => bs_iload (Z := Z) hx hb d_R_settle_54 h, List.forall_mem_cons.mpr ⟨fun S h => bs_aload_n (Z := Z) hx hb rfl d_R_settle_56 h, List.forall_mem_cons.mpr ⟨fun S h => bs_gR (Z := Z) (C := R_B) (T := F_B) (N := 10) (t := 5) (j := 1) hx hb hK hts (fun w h => List.mem_cons_of_mem _ (iw_B w h)) hown rfl rfl (by decide) (hts _ (List.mem_cons_of_mem _ wd_89)) (fun _ h => h) rfl rfl rfl d_R_settle_57 h, List.forall_mem_cons.mpr ⟨fun S h => bs_gI (Z := Z) (C := R_F) (T := F_F) (N := 9) (t := 7) (j := 8) hx hb hK hts (fun w h => List.mem_cons_of_mem _ (iw_F w h)) hown rfl rfl (by decide) (hts _ (List.mem_cons_of_mem _ wd_61)) (fun _ h => h) rfl rfl rfl d_R_settle_60 h, List.forall_mem_cons.mpr ⟨fun S h => bs_icmp_ge (Z := Z) hx hb d_R_settle_63 (by decide) h, List.forall_mem_cons.mpr ⟨fun S h => bs_aload_n (Z := Z) hx hb rfl d_R_settle_66 h, List.forall_mem_cons.mpr ⟨fun S h => bs_gR (Z := Z) (C := R_B) (T := F_B) (N := 10) (t := 5) (j := 1) hx hb hK hts (fun w h => List.mem_cons_of_mem _ (iw_B w h)) hown rfl rfl (by decide) (hts _ (List.mem_cons_of_mem _ wd_89)) (fun _ h => h) rfl rfl rfl d_R_settle_67 h, fun _ h => absurd h List.not_mem_nil⟩⟩⟩⟩⟩⟩⟩⟩⟩⟩⟩⟩⟩⟩⟩⟩⟩⟩⟩⟩⟩⟩⟩⟩⟩⟩⟩⟩⟩⟩⟩⟩⟩⟩⟩⟩⟩⟩⟩⟩
abbrev c_R_run : ByteArray := prog_6_method_2_code
def y_R_run : MethodName := ⟨"BundleHall$Resolver", "run", "([LBundleHall$Bundle;LBundleHall$Bundle;)LBundleHall$Outcome;"⟩
theorem d_R_run_0 : decode c_R_run 0 = .ok (.iconst 0, 1) := by decide +kernel
theorem d_R_run_1 : decode c_R_run 1 = .ok (.istore_n 3, 1) := by decide +kernel
theorem d_R_run_2 : decode c_R_run 2 = .ok (.iload_n 3, 1) := by decide +kernel
theorem d_R_run_3 : decode c_R_run 3 = .ok (.bipush 8, 2) := by decide +kernel
theorem d_R_run_5 : decode c_R_run 5 = .ok (.if_icmp .ge 16, 3) := by decide +kernel
theorem d_R_run_8 : decode c_R_run 8 = .ok (.aload_n 0, 1) := by decide +kernel
theorem d_R_run_9 : decode c_R_run 9 = .ok (.getfield 18, 3) := by decide +kernel
theorem d_R_run_12 : decode c_R_run 12 = .ok (.iload_n 3, 1) := by decide +kernel
theorem d_R_run_13 : decode c_R_run 13 = .ok (.iconst 0, 1) := by decide +kernel
theorem d_R_run_14 : decode c_R_run 14 = .ok (.bastore, 1) := by decide +kernel
theorem d_R_run_15 : decode c_R_run 15 = .ok (.iinc 3 1, 3) := by decide +kernel
theorem d_R_run_18 : decode c_R_run 18 = .ok (.goto (-16), 3) := by decide +kernel
theorem d_R_run_21 : decode c_R_run 21 = .ok (.aload_n 0, 1) := by decide +kernel
theorem d_R_run_22 : decode c_R_run 22 = .ok (.iconst 0, 1) := by decide +kernel
theorem d_R_run_23 : decode c_R_run 23 = .ok (.putfield 22, 3) := by decide +kernel
theorem d_R_run_26 : decode c_R_run 26 = .ok (.aload_n 0, 1) := by decide +kernel
theorem d_R_run_27 : decode c_R_run 27 = .ok (.iconst 0, 1) := by decide +kernel
theorem d_R_run_28 : decode c_R_run 28 = .ok (.putfield 26, 3) := by decide +kernel
theorem d_R_run_31 : decode c_R_run 31 = .ok (.aload_n 0, 1) := by decide +kernel
theorem d_R_run_32 : decode c_R_run 32 = .ok (.iconst 0, 1) := by decide +kernel
theorem d_R_run_33 : decode c_R_run 33 = .ok (.putfield 29, 3) := by decide +kernel
theorem d_R_run_36 : decode c_R_run 36 = .ok (.aload_n 0, 1) := by decide +kernel
theorem d_R_run_37 : decode c_R_run 37 = .ok (.aload_n 1, 1) := by decide +kernel
theorem d_R_run_38 : decode c_R_run 38 = .ok (.aload_n 2, 1) := by decide +kernel
theorem d_R_run_39 : decode c_R_run 39 = .ok (.invokevirtual 32, 3) := by decide +kernel
theorem d_R_run_42 : decode c_R_run 42 = .ok (.ifCond .eq 7, 3) := by decide +kernel
theorem d_R_run_45 : decode c_R_run 45 = .ok (.getstatic 36, 3) := by decide +kernel
theorem d_R_run_48 : decode c_R_run 48 = .ok (.areturn, 1) := by decide +kernel
theorem d_R_run_49 : decode c_R_run 49 = .ok (.aload_n 0, 1) := by decide +kernel
theorem d_R_run_50 : decode c_R_run 50 = .ok (.aload_n 2, 1) := by decide +kernel
theorem d_R_run_51 : decode c_R_run 51 = .ok (.invokevirtual 42, 3) := by decide +kernel
theorem d_R_run_54 : decode c_R_run 54 = .ok (.aload_n 0, 1) := by decide +kernel
theorem d_R_run_55 : decode c_R_run 55 = .ok (.aload_n 1, 1) := by decide +kernel
theorem d_R_run_56 : decode c_R_run 56 = .ok (.iconst 0, 1) := by decide +kernel
theorem d_R_run_57 : decode c_R_run 57 = .ok (.invokevirtual 46, 3) := by decide +kernel
theorem d_R_run_60 : decode c_R_run 60 = .ok (.ifCond .ne 28, 3) := by decide +kernel
theorem d_R_run_63 : decode c_R_run 63 = .ok (.aload_n 0, 1) := by decide +kernel
theorem d_R_run_64 : decode c_R_run 64 = .ok (.iconst 0, 1) := by decide +kernel
theorem d_R_run_65 : decode c_R_run 65 = .ok (.putfield 29, 3) := by decide +kernel
theorem d_R_run_68 : decode c_R_run 68 = .ok (.aload_n 0, 1) := by decide +kernel
theorem d_R_run_69 : decode c_R_run 69 = .ok (.getfield 26, 3) := by decide +kernel
theorem d_R_run_72 : decode c_R_run 72 = .ok (.sipush 300, 3) := by decide +kernel
theorem d_R_run_75 : decode c_R_run 75 = .ok (.if_icmp .le 9, 3) := by decide +kernel
theorem d_R_run_78 : decode c_R_run 78 = .ok (.getstatic 50, 3) := by decide +kernel
theorem d_R_run_81 : decode c_R_run 81 = .ok (.goto 6, 3) := by decide +kernel
theorem d_R_run_84 : decode c_R_run 84 = .ok (.getstatic 36, 3) := by decide +kernel
theorem d_R_run_87 : decode c_R_run 87 = .ok (.areturn, 1) := by decide +kernel
theorem d_R_run_88 : decode c_R_run 88 = .ok (.aload_n 0, 1) := by decide +kernel
theorem d_R_run_89 : decode c_R_run 89 = .ok (.aload_n 1, 1) := by decide +kernel
theorem d_R_run_90 : decode c_R_run 90 = .ok (.invokevirtual 53, 3) := by decide +kernel
theorem d_R_run_93 : decode c_R_run 93 = .ok (.getstatic 57, 3) := by decide +kernel
theorem d_R_run_96 : decode c_R_run 96 = .ok (.areturn, 1) := by decide +kernel
def T_R_run_0 : List (Nat × bh_Op) := [(0, bo_st 1 (bg_push (.inl (.int 0)))),
  (1, bo_ist 2 3),
  (2, bo_ild 3 3),
  (3, bo_st 5 (bg_push (.inl (.int 8)))),
  (5, bo_if2 8 21 (fun x y => y ≤ x)),
  (8, bo_ald 9 0),
  (9, bo_gR 12 15 2 18),
  (12, bo_ild 13 3),
  (13, bo_st 14 (bg_push (.inl (.int 0)))),
  (14, bo_Zast bh_ak bh_al 15),
  (15, bo_inc 18 3 1),
  (18, bo_go 2),
  (21, bo_ald 22 0),
  (22, bo_st 23 (bg_push (.inl (.int 0)))),
  (23, bo_pI 26 15 3),
  (26, bo_ald 27 0),
  (27, bo_st 28 (bg_push (.inl (.int 0)))),
  (28, bo_pI 31 15 4),
  (31, bo_ald 32 0),
  (32, bo_st 33 (bg_push (.inl (.int 0)))),
  (33, bo_pI 36 15 5),
  (36, bo_ald 37 0),
  (37, bo_ald 38 1),
  (38, bo_ald 39 2),
  (39, bo_callV 42 3 0 0 15 F_R_nameIsTaken),
  (42, bo_if1 45 49 (fun x => x = 0)),
  (45, bo_st 48 (bg_push (.inr (2, 2)))),
  (48, bo_aret 0),
  (49, bo_ald 50 0),
  (50, bo_ald 51 2),
  (51, bo_callV 54 2 0 0 15 F_R_takeIn),
  (54, bo_ald 55 0),
  (55, bo_ald 56 1),
  (56, bo_st 57 (bg_push (.inl (.int 0)))),
  (57, bo_callV 60 3 0 0 15 (F_R_solveFrom 26)),
  (60, bo_if1 63 88 (fun x => ¬ x = 0)),
  (63, bo_ald 64 0),
  (64, bo_st 65 (bg_push (.inl (.int 0)))),
  (65, bo_pI 68 15 5),
  (68, bo_ald 69 0)]
def T_R_run_1 : List (Nat × bh_Op) := [(69, bo_gI 72 15 4),
  (72, bo_st 75 (bg_push (.inl (.int 300)))),
  (75, bo_if2 78 84 (fun x y => x ≤ y)),
  (78, bo_st 81 (bg_push (.inr (2, 3)))),
  (81, bo_go 87),
  (84, bo_st 87 (bg_push (.inr (2, 2)))),
  (87, bo_aret 0),
  (88, bo_ald 89 0),
  (89, bo_ald 90 1),
  (90, bo_callV 93 2 0 0 15 F_R_settle),
  (93, bo_st 96 (bg_push (.inr (2, 1)))),
  (96, bo_aret 0)]
def T_R_run : List (Nat × bh_Op) := T_R_run_0 ++ T_R_run_1
set_option maxRecDepth 20000 in
theorem mT_R_run_0 : ∀ q ∈ T_R_run_0, bh_mono q.2 := List.forall_mem_cons.mpr ⟨bo_st_mono (bg_push_m _), List.forall_mem_cons.mpr ⟨bo_ist_m _ _, List.forall_mem_cons.mpr ⟨bo_ild_m _ _, List.forall_mem_cons.mpr ⟨bo_st_mono (bg_push_m _), List.forall_mem_cons.mpr ⟨bo_if2_m _ _ _, List.forall_mem_cons.mpr ⟨bo_ald_m _ _, List.forall_mem_cons.mpr ⟨bo_gR_m _ _ _ _, List.forall_mem_cons.mpr ⟨bo_ild_m _ _, List.forall_mem_cons.mpr ⟨bo_st_mono (bg_push_m _), List.forall_mem_cons.mpr ⟨bo_Zast_m _ _ _, List.forall_mem_cons.mpr ⟨bo_inc_m _ _ _, List.forall_mem_cons.mpr ⟨bo_go_m _, List.forall_mem_cons.mpr ⟨bo_ald_m _ _, List.forall_mem_cons.mpr ⟨bo_st_mono (bg_push_m _), List.forall_mem_cons.mpr ⟨bo_pI_m _ _ _, List.forall_mem_cons.mpr ⟨bo_ald_m _ _, List.forall_mem_cons.mpr ⟨bo_st_mono (bg_push_m _), List.forall_mem_cons.mpr ⟨bo_pI_m _ _ _, List.forall_mem_cons.mpr ⟨bo_ald_m _ _, List.forall_mem_cons.mpr ⟨bo_st_mono (bg_push_m _), List.forall_mem_cons.mpr ⟨bo_pI_m _ _ _, List.forall_mem_cons.mpr ⟨bo_ald_m _ _, List.forall_mem_cons.mpr ⟨bo_ald_m _ _, List.forall_mem_cons.mpr ⟨bo_ald_m _ _, List.forall_mem_cons.mpr ⟨bo_callV_m (mF_R_nameIsTaken) _ _ _ _ _, List.forall_mem_cons.mpr ⟨bo_if1_m _ _ _, List.forall_mem_cons.mpr ⟨bo_st_mono (bg_push_m _), List.forall_mem_cons.mpr ⟨bo_aret_m _, List.forall_mem_cons.mpr ⟨bo_ald_m _ _, List.forall_mem_cons.mpr ⟨bo_ald_m _ _, List.forall_mem_cons.mpr ⟨bo_callV_m (mF_R_takeIn) _ _ _ _ _, List.forall_mem_cons.mpr ⟨bo_ald_m _ _, List.forall_mem_cons.mpr ⟨bo_ald_m _ _, List.forall_mem_cons.mpr ⟨bo_st_mono (bg_push_m _), List.forall_mem_cons.mpr ⟨bo_callV_m (mF_R_solveFrom 26) _ _ _ _ _, List.forall_mem_cons.mpr ⟨bo_if1_m _ _ _, List.forall_mem_cons.mpr ⟨bo_ald_m _ _, List.forall_mem_cons.mpr ⟨bo_st_mono (bg_push_m _), List.forall_mem_cons.mpr ⟨bo_pI_m _ _ _, List.forall_mem_cons.mpr ⟨bo_ald_m _ _, fun _ h => absurd h List.not_mem_nil⟩⟩⟩⟩⟩⟩⟩⟩⟩⟩⟩⟩⟩⟩⟩⟩⟩⟩⟩⟩⟩⟩⟩⟩⟩⟩⟩⟩⟩⟩⟩⟩⟩⟩⟩⟩⟩⟩⟩⟩
set_option maxRecDepth 20000 in
theorem mT_R_run_1 : ∀ q ∈ T_R_run_1, bh_mono q.2 := List.forall_mem_cons.mpr ⟨bo_gI_m _ _ _, List.forall_mem_cons.mpr ⟨bo_st_mono (bg_push_m _), List.forall_mem_cons.mpr ⟨bo_if2_m _ _ _, List.forall_mem_cons.mpr ⟨bo_st_mono (bg_push_m _), List.forall_mem_cons.mpr ⟨bo_go_m _, List.forall_mem_cons.mpr ⟨bo_st_mono (bg_push_m _), List.forall_mem_cons.mpr ⟨bo_aret_m _, List.forall_mem_cons.mpr ⟨bo_ald_m _ _, List.forall_mem_cons.mpr ⟨bo_ald_m _ _, List.forall_mem_cons.mpr ⟨bo_callV_m (mF_R_settle) _ _ _ _ _, List.forall_mem_cons.mpr ⟨bo_st_mono (bg_push_m _), List.forall_mem_cons.mpr ⟨bo_aret_m _, fun _ h => absurd h List.not_mem_nil⟩⟩⟩⟩⟩⟩⟩⟩⟩⟩⟩⟩
theorem m_R_run : ∀ pc, bh_mono (bh_tb (T_R_run) pc) := bh_tb_m (List.forall_mem_append.mpr ⟨mT_R_run_0, mT_R_run_1⟩)
def F_R_run : bh_Fn := bh_fn 4 (bh_tb T_R_run)
theorem mF_R_run : bh_monoF F_R_run := bh_fn_m m_R_run
theorem cl_R_run {s : State} {args : Array Value} (d B : Nat) (hts : ∀ w ∈ bh_ws, w.before args s = true) : bh_Cal (bh_rm (d + 1) B) s y_R_run 4 (.code y_R_run c_R_run 4 (some (.object "BundleHall$Outcome")) :: bh_ws) (bh_rm d 0) 0 2 := bh_cal d B hts wd_300 wd_5 (by decide) (by decide +kernel)
set_option maxHeartbeats 4000000 in
set_option maxRecDepth 100000 in
theorem cn_R_run {l : Launch} {G : bh_G} {base sb L : Nat} {xs : Nat → Int32} (htr : l.stackTraces = false) (d : Nat) : bh_Con l G base (bh_Bg G base sb L xs) y_R_run (.code y_R_run c_R_run 4 (some (.object "BundleHall$Outcome")) :: bh_ws) (bh_rm (d + 31) 0) 0 false F_R_run := by
  refine bh_method (cc := c_R_run) (ret := (some (.object "BundleHall$Outcome"))) (by decide +kernel) rfl ?_
  intro p e s m args below meth c ad0 M0 Z X0 hr hlocks hname htab hbs hB
  obtain ⟨hx, hb, hml, hown, hts⟩ := id X0
  have hw : ∀ w ∈ bh_ws, w.before args s = true := fun w h => hts w (List.mem_cons_of_mem _ h)
  have hBg := bh_BgK (G := G) (base := base) (sb := sb) (L := L) (xs := xs)
  obtain ⟨hK, hAr, hen, hinj, hu1, hu2, hstr, hX, hsb, hsc, hxw, hao, hnc⟩ := id hB
  obtain ⟨ha1, ha2, ha3, ha4, ha5, ha6, ha0⟩ := bh_arr hAr
  refine List.forall_mem_append.mpr ⟨?_, List.forall_mem_cons.mpr ⟨fun S h => bs_gI (Z := Z) (C := R_R) (T := F_R) (N := 6) (t := 15) (j := 4) hx hb hK hts (fun w h => List.mem_cons_of_mem _ (iw_R w h)) hown rfl rfl (by decide) (hts _ (List.mem_cons_of_mem _ wd_141)) (fun _ h => h) rfl rfl rfl d_R_run_69 h, List.forall_mem_cons.mpr ⟨fun S h => bs_sipush (Z := Z) hx hb (by decide) d_R_run_72 h, List.forall_mem_cons.mpr ⟨fun S h => bs_icmp_le (Z := Z) hx hb d_R_run_75 (by decide) h, List.forall_mem_cons.mpr ⟨fun S h => bs_getst (Z := Z) hx hb (by decide) (hen 3 (by decide) (by decide)) hown (hts _ (List.mem_cons_of_mem _ wd_344)) (fun _ h => h) d_R_run_78 h, List.forall_mem_cons.mpr ⟨fun S h => bs_goto (Z := Z) hx hb d_R_run_81 (by decide) h, List.forall_mem_cons.mpr ⟨fun S h => bs_getst (Z := Z) hx hb (by decide) (hen 2 (by decide) (by decide)) hown (hts _ (List.mem_cons_of_mem _ wd_306)) (fun _ h => h) d_R_run_84 h, List.forall_mem_cons.mpr ⟨fun S h => bs_aret (Z := Z) hx hb hr (Or.inl ⟨_, rfl⟩) hlocks d_R_run_87 h, List.forall_mem_cons.mpr ⟨fun S h => bs_aload_n (Z := Z) hx hb rfl d_R_run_88 h, List.forall_mem_cons.mpr ⟨fun S h => bs_aload_n (Z := Z) hx hb rfl d_R_run_89 h, List.forall_mem_cons.mpr ⟨fun S h => bs_callV (Z := Z) (C := R_R) hBg hbs hB X0 hK (cn_R_settle htr (d + 25)) (cl_R_settle _ _ hw) (hts _ (List.mem_cons_of_mem _ wd_346)) (hts _ (List.mem_cons_of_mem _ wd_348)) (hts _ (List.mem_cons_of_mem _ ws_12)) rfl rfl rfl rfl rfl (Nat.le_refl _) (Nat.le_refl _) d_R_run_90 (bs_out htab hlocks) h, List.forall_mem_cons.mpr ⟨fun S h => bs_getst (Z := Z) hx hb (by decide) (hen 1 (by decide) (by decide)) hown (hts _ (List.mem_cons_of_mem _ wd_354)) (fun _ h => h) d_R_run_93 h, List.forall_mem_cons.mpr ⟨fun S h => bs_aret (Z := Z) hx hb hr (Or.inl ⟨_, rfl⟩) hlocks d_R_run_96 h, fun _ h => absurd h List.not_mem_nil⟩⟩⟩⟩⟩⟩⟩⟩⟩⟩⟩⟩⟩
  exact List.forall_mem_cons.mpr ⟨fun S h => bs_iconst (Z := Z) hx hb (by decide) d_R_run_0 h, List.forall_mem_cons.mpr ⟨fun S h => bs_istore_n (Z := Z) hx hb rfl d_R_run_1 h, List.forall_mem_cons.mpr ⟨fun S h => bs_iload_n (Z := Z) hx hb rfl d_R_run_2 h, List.forall_mem_cons.mpr ⟨fun S h => bs_bipush (Z := Z) hx hb (by decide) d_R_run_3 h, List.forall_mem_cons.mpr ⟨fun S h => bs_icmp_ge (Z := Z) hx hb d_R_run_5 (by decide) h, List.forall_mem_cons.mpr ⟨fun S h => bs_aload_n (Z := Z) hx hb rfl d_R_run_8 h, List.forall_mem_cons.mpr ⟨fun S h => bs_gR (Z := Z) (C := R_R) (T := F_R) (N := 6) (t := 15) (j := 2) hx hb hK hts (fun w h => List.mem_cons_of_mem _ (iw_R w h)) hown rfl rfl (by decide) (hts _ (List.mem_cons_of_mem _ wd_139)) (fun _ h => h) rfl rfl rfl d_R_run_9 h, List.forall_mem_cons.mpr ⟨fun S h => bs_iload_n (Z := Z) hx hb rfl d_R_run_12 h, List.forall_mem_cons.mpr ⟨fun S h => bs_iconst (Z := Z) hx hb (by decide) d_R_run_13 h, List.forall_mem_cons.mpr ⟨fun S h => bs_Zast (Z := Z) hx hb ha2 d_R_run_14 h, List.forall_mem_cons.mpr ⟨fun S h => bs_iinc (Z := Z) hx hb (by decide) d_R_run_15 h, List.forall_mem_cons.mpr ⟨fun S h => bs_goto (Z := Z) hx hb d_R_run_18 (by decide) h, List.forall_mem_cons.mpr ⟨fun S h => bs_aload_n (Z := Z) hx hb rfl d_R_run_21 h, List.forall_mem_cons.mpr ⟨fun S h => bs_iconst (Z := Z) hx hb (by decide) d_R_run_22 h, List.forall_mem_cons.mpr ⟨fun S h => bs_pI (Z := Z) (C := R_R) (T := F_R) (N := 6) (t := 15) (j := 3) hx hb hK hts (fun w h => List.mem_cons_of_mem _ (iw_R w h)) hown rfl rfl (by decide) (hts _ (List.mem_cons_of_mem _ wd_140)) (fun _ h => h) rfl rfl t_R t_R_ok n_R rfl (by decide +kernel) rfl d_R_run_23 h, List.forall_mem_cons.mpr ⟨fun S h => bs_aload_n (Z := Z) hx hb rfl d_R_run_26 h, List.forall_mem_cons.mpr ⟨fun S h => bs_iconst (Z := Z) hx hb (by decide) d_R_run_27 h, List.forall_mem_cons.mpr ⟨fun S h => bs_pI (Z := Z) (C := R_R) (T := F_R) (N := 6) (t := 15) (j := 4) hx hb hK hts (fun w h => List.mem_cons_of_mem _ (iw_R w h)) hown rfl rfl (by decide) (hts _ (List.mem_cons_of_mem _ wd_141)) (fun _ h => h) rfl rfl t_R t_R_ok n_R rfl (by decide +kernel) rfl d_R_run_28 h, List.forall_mem_cons.mpr ⟨fun S h => bs_aload_n (Z := Z) hx hb rfl d_R_run_31 h, List.forall_mem_cons.mpr ⟨fun S h => bs_iconst (Z := Z) hx hb (by decide) d_R_run_32 h, List.forall_mem_cons.mpr ⟨fun S h => bs_pI (Z := Z) (C := R_R) (T := F_R) (N := 6) (t := 15) (j := 5) hx hb hK hts (fun w h => List.mem_cons_of_mem _ (iw_R w h)) hown rfl rfl (by decide) (hts _ (List.mem_cons_of_mem _ wd_143)) (fun _ h => h) rfl rfl t_R t_R_ok n_R rfl (by decide +kernel) rfl d_R_run_33 h, List.forall_mem_cons.mpr ⟨fun S h => bs_aload_n (Z := Z) hx hb rfl d_R_run_36 h, List.forall_mem_cons.mpr ⟨fun S h => bs_aload_n (Z := Z) hx hb rfl d_R_run_37 h, List.forall_mem_cons.mpr ⟨fun S h => bs_aload_n (Z := Z) hx hb rfl d_R_run_38 h, List.forall_mem_cons.mpr ⟨fun S h => bs_callV (Z := Z) (C := R_R) hBg hbs hB X0 hK (cn_R_nameIsTaken htr (d + 28)) (cl_R_nameIsTaken _ _ hw) (hts _ (List.mem_cons_of_mem _ wd_301)) (hts _ (List.mem_cons_of_mem _ wd_303)) (hts _ (List.mem_cons_of_mem _ ws_6)) rfl rfl rfl rfl rfl (Nat.le_refl _) (Nat.le_refl _) d_R_run_39 (bs_out htab hlocks) h, List.forall_mem_cons.mpr ⟨fun S h => bs_if_eq (Z := Z) hx hb d_R_run_42 (by decide) h, List.forall_mem_cons.mpr ⟨fun S h => bs_getst (Z := Z) hx hb (by decide) (hen 2 (by decide) (by decide)) hown (hts _ (List.mem_cons_of_mem _ wd_306)) (fun _ h => h) d_R_run_45 h, List.forall_mem_cons.mpr ⟨fun S h => bs_aret (Z := Z) hx hb hr (Or.inl ⟨_, rfl⟩) hlocks d_R_run_48 h, List.forall_mem_cons.mpr ⟨fun S h => bs_aload_n (Z := Z) hx hb rfl d_R_run_49 h, List.forall_mem_cons.mpr ⟨fun S h => bs_aload_n (Z := Z) hx hb rfl d_R_run_50 h, List.forall_mem_cons.mpr ⟨fun S h => bs_callV (Z := Z) (C := R_R) hBg hbs hB X0 hK (cn_R_takeIn htr (d + 29)) (cl_R_takeIn _ _ hw) (hts _ (List.mem_cons_of_mem _ wd_308)) (hts _ (List.mem_cons_of_mem _ wd_310)) (hts _ (List.mem_cons_of_mem _ ws_7)) rfl rfl rfl rfl rfl (Nat.le_refl _) (Nat.le_refl _) d_R_run_51 (bs_out htab hlocks) h, List.forall_mem_cons.mpr ⟨fun S h => bs_aload_n (Z := Z) hx hb rfl d_R_run_54 h, List.forall_mem_cons.mpr ⟨fun S h => bs_aload_n (Z := Z) hx hb rfl d_R_run_55 h, List.forall_mem_cons.mpr ⟨fun S h => bs_iconst (Z := Z) hx hb (by decide) d_R_run_56 h, List.forall_mem_cons.mpr ⟨fun S h => bs_callV (Z := Z) (C := R_R) hBg hbs hB X0 hK (cn_R_solveFrom htr 25 (d + 1)) (cl_R_solveFrom _ _ hw) (hts _ (List.mem_cons_of_mem _ wd_312)) (hts _ (List.mem_cons_of_mem _ wd_314)) (hts _ (List.mem_cons_of_mem _ ws_8)) rfl rfl rfl rfl rfl (Nat.le_refl _) (Nat.le_refl _) d_R_run_57 (bs_out htab hlocks) h, List.forall_mem_cons.mpr ⟨fun S h => bs_if_ne (Z := Z) hx hb d_R_run_60 (by decide) h, List.forall_mem_cons.mpr ⟨fun S h => bs_aload_n (Z := Z) hx hb rfl d_R_run_63 h, List.forall_mem_cons.mpr ⟨fun S h => bs_iconst (Z := Z) hx hb (by decide) d_R_run_64 h, List.forall_mem_cons.mpr ⟨fun S h => bs_pI (Z := Z) (C := R_R) (T := F_R) (N := 6) (t := 15) (j := 5) hx hb hK hts (fun w h => List.mem_cons_of_mem _ (iw_R w h)) hown rfl rfl (by decide) (hts _ (List.mem_cons_of_mem _ wd_143)) (fun _ h => h) rfl rfl t_R t_R_ok n_R rfl (by decide +kernel) rfl d_R_run_65 h, List.forall_mem_cons.mpr ⟨fun S h => bs_aload_n (Z := Z) hx hb rfl d_R_run_68 h, fun _ h => absurd h List.not_mem_nil⟩⟩⟩⟩⟩⟩⟩⟩⟩⟩⟩⟩⟩⟩⟩⟩⟩⟩⟩⟩⟩⟩⟩⟩⟩⟩⟩⟩⟩⟩⟩⟩⟩⟩⟩⟩⟩⟩⟩⟩
abbrev c_V_isFull : ByteArray := prog_8_method_2_code
def y_V_isFull : MethodName := ⟨"BundleHall$Services", "isFull", "()Z"⟩
theorem d_V_isFull_0 : decode c_V_isFull 0 = .ok (.aload_n 0, 1) := by decide +kernel
theorem d_V_isFull_1 : decode c_V_isFull 1 = .ok (.getfield 18, 3) := by decide +kernel
theorem d_V_isFull_4 : decode c_V_isFull 4 = .ok (.bipush 20, 2) := by decide +kernel
theorem d_V_isFull_6 : decode c_V_isFull 6 = .ok (.if_icmp .lt 7, 3) := by decide +kernel
theorem d_V_isFull_9 : decode c_V_isFull 9 = .ok (.iconst 1, 1) := by decide +kernel
theorem d_V_isFull_10 : decode c_V_isFull 10 = .ok (.goto 4, 3) := by decide +kernel
theorem d_V_isFull_13 : decode c_V_isFull 13 = .ok (.iconst 0, 1) := by decide +kernel
theorem d_V_isFull_14 : decode c_V_isFull 14 = .ok (.ireturn, 1) := by decide +kernel
def T_V_isFull_0 : List (Nat × bh_Op) := [(0, bo_ald 1 0),
  (1, bo_gI 4 19 1),
  (4, bo_st 6 (bg_push (.inl (.int 20)))),
  (6, bo_if2 9 13 (fun x y => x < y)),
  (9, bo_st 10 (bg_push (.inl (.int 1)))),
  (10, bo_go 14),
  (13, bo_st 14 (bg_push (.inl (.int 0)))),
  (14, bo_zret 0)]
def T_V_isFull : List (Nat × bh_Op) := T_V_isFull_0
set_option maxRecDepth 20000 in
theorem mT_V_isFull_0 : ∀ q ∈ T_V_isFull_0, bh_mono q.2 := List.forall_mem_cons.mpr ⟨bo_ald_m _ _, List.forall_mem_cons.mpr ⟨bo_gI_m _ _ _, List.forall_mem_cons.mpr ⟨bo_st_mono (bg_push_m _), List.forall_mem_cons.mpr ⟨bo_if2_m _ _ _, List.forall_mem_cons.mpr ⟨bo_st_mono (bg_push_m _), List.forall_mem_cons.mpr ⟨bo_go_m _, List.forall_mem_cons.mpr ⟨bo_st_mono (bg_push_m _), List.forall_mem_cons.mpr ⟨bo_zret_m _, fun _ h => absurd h List.not_mem_nil⟩⟩⟩⟩⟩⟩⟩⟩
theorem m_V_isFull : ∀ pc, bh_mono (bh_tb (T_V_isFull) pc) := bh_tb_m mT_V_isFull_0
def F_V_isFull : bh_Fn := bh_fn 1 (bh_tb T_V_isFull)
theorem mF_V_isFull : bh_monoF F_V_isFull := bh_fn_m m_V_isFull
theorem cl_V_isFull {s : State} {args : Array Value} (d B : Nat) (hts : ∀ w ∈ bh_ws, w.before args s = true) : bh_Cal (bh_rm (d + 1) B) s y_V_isFull 1 (.code y_V_isFull c_V_isFull 1 (some .boolean) :: bh_ws) (bh_rm d 0) 0 0 := bh_cal d B hts wd_368 wd_6 (by decide) (by decide +kernel)
set_option maxHeartbeats 4000000 in
set_option maxRecDepth 100000 in
theorem cn_V_isFull {l : Launch} {G : bh_G} {base sb L : Nat} {xs : Nat → Int32} (htr : l.stackTraces = false) (d : Nat) : bh_Con l G base (bh_Bg G base sb L xs) y_V_isFull (.code y_V_isFull c_V_isFull 1 (some .boolean) :: bh_ws) (bh_rm (d + 1) 0) 0 false F_V_isFull := by
  refine bh_method (cc := c_V_isFull) (ret := (some .boolean)) (by decide +kernel) rfl ?_
  intro p e s m args below meth c ad0 M0 Z X0 hr hlocks hname htab hbs hB
  obtain ⟨hx, hb, hml, hown, hts⟩ := id X0
  have hw : ∀ w ∈ bh_ws, w.before args s = true := fun w h => hts w (List.mem_cons_of_mem _ h)
  have hBg := bh_BgK (G := G) (base := base) (sb := sb) (L := L) (xs := xs)
  obtain ⟨hK, hAr, hen, hinj, hu1, hu2, hstr, hX, hsb, hsc, hxw, hao, hnc⟩ := id hB
  obtain ⟨ha1, ha2, ha3, ha4, ha5, ha6, ha0⟩ := bh_arr hAr
  exact List.forall_mem_cons.mpr ⟨fun S h => bs_aload_n (Z := Z) hx hb rfl d_V_isFull_0 h, List.forall_mem_cons.mpr ⟨fun S h => bs_gI (Z := Z) (C := R_V) (T := F_V) (N := 3) (t := 19) (j := 1) hx hb hK hts (fun w h => List.mem_cons_of_mem _ (iw_V w h)) hown rfl rfl (by decide) (hts _ (List.mem_cons_of_mem _ wd_193)) (fun _ h => h) rfl rfl rfl d_V_isFull_1 h, List.forall_mem_cons.mpr ⟨fun S h => bs_bipush (Z := Z) hx hb (by decide) d_V_isFull_4 h, List.forall_mem_cons.mpr ⟨fun S h => bs_icmp_lt (Z := Z) hx hb d_V_isFull_6 (by decide) h, List.forall_mem_cons.mpr ⟨fun S h => bs_iconst (Z := Z) hx hb (by decide) d_V_isFull_9 h, List.forall_mem_cons.mpr ⟨fun S h => bs_goto (Z := Z) hx hb d_V_isFull_10 (by decide) h, List.forall_mem_cons.mpr ⟨fun S h => bs_iconst (Z := Z) hx hb (by decide) d_V_isFull_13 h, List.forall_mem_cons.mpr ⟨fun S h => bs_zret (Z := Z) hx hb hr hlocks d_V_isFull_14 h, fun _ h => absurd h List.not_mem_nil⟩⟩⟩⟩⟩⟩⟩⟩
abbrev c_V_add : ByteArray := prog_8_method_3_code
def y_V_add : MethodName := ⟨"BundleHall$Services", "add", "(IID)I"⟩
theorem d_V_add_0 : decode c_V_add 0 = .ok (.aload_n 0, 1) := by decide +kernel
theorem d_V_add_1 : decode c_V_add 1 = .ok (.getfield 11, 3) := by decide +kernel
theorem d_V_add_4 : decode c_V_add 4 = .ok (.aload_n 0, 1) := by decide +kernel
theorem d_V_add_5 : decode c_V_add 5 = .ok (.getfield 18, 3) := by decide +kernel
theorem d_V_add_8 : decode c_V_add 8 = .ok (.aaload, 1) := by decide +kernel
theorem d_V_add_9 : decode c_V_add 9 = .ok (.astore 5, 2) := by decide +kernel
theorem d_V_add_11 : decode c_V_add 11 = .ok (.aload 5, 2) := by decide +kernel
theorem d_V_add_13 : decode c_V_add 13 = .ok (.aload_n 0, 1) := by decide +kernel
theorem d_V_add_14 : decode c_V_add 14 = .ok (.getfield 22, 3) := by decide +kernel
theorem d_V_add_17 : decode c_V_add 17 = .ok (.putfield 25, 3) := by decide +kernel
theorem d_V_add_20 : decode c_V_add 20 = .ok (.aload 5, 2) := by decide +kernel
theorem d_V_add_22 : decode c_V_add 22 = .ok (.iload_n 1, 1) := by decide +kernel
theorem d_V_add_23 : decode c_V_add 23 = .ok (.putfield 28, 3) := by decide +kernel
theorem d_V_add_26 : decode c_V_add 26 = .ok (.aload 5, 2) := by decide +kernel
theorem d_V_add_28 : decode c_V_add 28 = .ok (.iload_n 2, 1) := by decide +kernel
theorem d_V_add_29 : decode c_V_add 29 = .ok (.putfield 31, 3) := by decide +kernel
theorem d_V_add_32 : decode c_V_add 32 = .ok (.aload 5, 2) := by decide +kernel
theorem d_V_add_34 : decode c_V_add 34 = .ok (.dload_n 3, 1) := by decide +kernel
theorem d_V_add_35 : decode c_V_add 35 = .ok (.putfield 34, 3) := by decide +kernel
theorem d_V_add_38 : decode c_V_add 38 = .ok (.aload 5, 2) := by decide +kernel
theorem d_V_add_40 : decode c_V_add 40 = .ok (.getfield 38, 3) := by decide +kernel
theorem d_V_add_43 : decode c_V_add 43 = .ok (.iconst 0, 1) := by decide +kernel
theorem d_V_add_44 : decode c_V_add 44 = .ok (.invokestatic 42, 3) := by decide +kernel
theorem d_V_add_47 : decode c_V_add 47 = .ok (.aload_n 0, 1) := by decide +kernel
theorem d_V_add_48 : decode c_V_add 48 = .ok (.dup, 1) := by decide +kernel
theorem d_V_add_49 : decode c_V_add 49 = .ok (.getfield 18, 3) := by decide +kernel
theorem d_V_add_52 : decode c_V_add 52 = .ok (.iconst 1, 1) := by decide +kernel
theorem d_V_add_53 : decode c_V_add 53 = .ok (.iadd, 1) := by decide +kernel
theorem d_V_add_54 : decode c_V_add 54 = .ok (.putfield 18, 3) := by decide +kernel
theorem d_V_add_57 : decode c_V_add 57 = .ok (.aload_n 0, 1) := by decide +kernel
theorem d_V_add_58 : decode c_V_add 58 = .ok (.dup, 1) := by decide +kernel
theorem d_V_add_59 : decode c_V_add 59 = .ok (.getfield 22, 3) := by decide +kernel
theorem d_V_add_62 : decode c_V_add 62 = .ok (.iconst 1, 1) := by decide +kernel
theorem d_V_add_63 : decode c_V_add 63 = .ok (.iadd, 1) := by decide +kernel
theorem d_V_add_64 : decode c_V_add 64 = .ok (.putfield 22, 3) := by decide +kernel
theorem d_V_add_67 : decode c_V_add 67 = .ok (.aload 5, 2) := by decide +kernel
theorem d_V_add_69 : decode c_V_add 69 = .ok (.getfield 25, 3) := by decide +kernel
theorem d_V_add_72 : decode c_V_add 72 = .ok (.ireturn, 1) := by decide +kernel
def T_V_add_0 : List (Nat × bh_Op) := [(0, bo_ald 1 0),
  (1, bo_gR 4 19 0 20),
  (4, bo_ald 5 0),
  (5, bo_gI 8 19 1),
  (8, bo_Rald bh_ak bh_al 9),
  (9, bo_ast 11 5),
  (11, bo_ald 13 5),
  (13, bo_ald 14 0),
  (14, bo_gI 17 19 2),
  (17, bo_pI 20 21 1),
  (20, bo_ald 22 5),
  (22, bo_ild 23 1),
  (23, bo_pI 26 21 2),
  (26, bo_ald 28 5),
  (28, bo_ild 29 2),
  (29, bo_pI 32 21 3),
  (32, bo_ald 34 5),
  (34, bo_dld 35 3),
  (35, bo_pD 38 21 4),
  (38, bo_ald 40 5),
  (40, bo_gR 43 21 0 22),
  (43, bo_st 44 (bg_push (.inl (.int 0)))),
  (44, bo_callS 47 2 0 0 F_A_fill),
  (47, bo_ald 48 0),
  (48, bo_st 49 bg_dup),
  (49, bo_gI 52 19 1),
  (52, bo_st 53 (bg_push (.inl (.int 1)))),
  (53, bo_st 54 (bg_ii (fun x y => x + y))),
  (54, bo_pI 57 19 1),
  (57, bo_ald 58 0),
  (58, bo_st 59 bg_dup),
  (59, bo_gI 62 19 2),
  (62, bo_st 63 (bg_push (.inl (.int 1)))),
  (63, bo_st 64 (bg_ii (fun x y => x + y))),
  (64, bo_pI 67 19 2),
  (67, bo_ald 69 5),
  (69, bo_gI 72 21 1),
  (72, bo_iret 0)]
def T_V_add : List (Nat × bh_Op) := T_V_add_0
set_option maxRecDepth 20000 in
theorem mT_V_add_0 : ∀ q ∈ T_V_add_0, bh_mono q.2 := List.forall_mem_cons.mpr ⟨bo_ald_m _ _, List.forall_mem_cons.mpr ⟨bo_gR_m _ _ _ _, List.forall_mem_cons.mpr ⟨bo_ald_m _ _, List.forall_mem_cons.mpr ⟨bo_gI_m _ _ _, List.forall_mem_cons.mpr ⟨bo_Rald_m _ _ _, List.forall_mem_cons.mpr ⟨bo_ast_m _ _, List.forall_mem_cons.mpr ⟨bo_ald_m _ _, List.forall_mem_cons.mpr ⟨bo_ald_m _ _, List.forall_mem_cons.mpr ⟨bo_gI_m _ _ _, List.forall_mem_cons.mpr ⟨bo_pI_m _ _ _, List.forall_mem_cons.mpr ⟨bo_ald_m _ _, List.forall_mem_cons.mpr ⟨bo_ild_m _ _, List.forall_mem_cons.mpr ⟨bo_pI_m _ _ _, List.forall_mem_cons.mpr ⟨bo_ald_m _ _, List.forall_mem_cons.mpr ⟨bo_ild_m _ _, List.forall_mem_cons.mpr ⟨bo_pI_m _ _ _, List.forall_mem_cons.mpr ⟨bo_ald_m _ _, List.forall_mem_cons.mpr ⟨bo_dld_m _ _, List.forall_mem_cons.mpr ⟨bo_pD_m _ _ _, List.forall_mem_cons.mpr ⟨bo_ald_m _ _, List.forall_mem_cons.mpr ⟨bo_gR_m _ _ _ _, List.forall_mem_cons.mpr ⟨bo_st_mono (bg_push_m _), List.forall_mem_cons.mpr ⟨bo_callS_m (mF_A_fill) _ _ _ _, List.forall_mem_cons.mpr ⟨bo_ald_m _ _, List.forall_mem_cons.mpr ⟨bo_st_mono bg_dup_m, List.forall_mem_cons.mpr ⟨bo_gI_m _ _ _, List.forall_mem_cons.mpr ⟨bo_st_mono (bg_push_m _), List.forall_mem_cons.mpr ⟨bo_st_mono (bg_ii_m _), List.forall_mem_cons.mpr ⟨bo_pI_m _ _ _, List.forall_mem_cons.mpr ⟨bo_ald_m _ _, List.forall_mem_cons.mpr ⟨bo_st_mono bg_dup_m, List.forall_mem_cons.mpr ⟨bo_gI_m _ _ _, List.forall_mem_cons.mpr ⟨bo_st_mono (bg_push_m _), List.forall_mem_cons.mpr ⟨bo_st_mono (bg_ii_m _), List.forall_mem_cons.mpr ⟨bo_pI_m _ _ _, List.forall_mem_cons.mpr ⟨bo_ald_m _ _, List.forall_mem_cons.mpr ⟨bo_gI_m _ _ _, List.forall_mem_cons.mpr ⟨bo_iret_m _, fun _ h => absurd h List.not_mem_nil⟩⟩⟩⟩⟩⟩⟩⟩⟩⟩⟩⟩⟩⟩⟩⟩⟩⟩⟩⟩⟩⟩⟩⟩⟩⟩⟩⟩⟩⟩⟩⟩⟩⟩⟩⟩⟩⟩
theorem m_V_add : ∀ pc, bh_mono (bh_tb (T_V_add) pc) := bh_tb_m mT_V_add_0
def F_V_add : bh_Fn := bh_fn 6 (bh_tb T_V_add)
theorem mF_V_add : bh_monoF F_V_add := bh_fn_m m_V_add
theorem cl_V_add {s : State} {args : Array Value} (d B : Nat) (hts : ∀ w ∈ bh_ws, w.before args s = true) : bh_Cal (bh_rm (d + 1) B) s y_V_add 6 (.code y_V_add c_V_add 6 (some .int) :: bh_ws) (bh_rm d 0) 0 3 := bh_cal d B hts wd_376 wd_6 (by decide) (by decide +kernel)
set_option maxHeartbeats 4000000 in
set_option maxRecDepth 100000 in
theorem cn_V_add {l : Launch} {G : bh_G} {base sb L : Nat} {xs : Nat → Int32} (htr : l.stackTraces = false) (d : Nat) : bh_Con l G base (bh_Bg G base sb L xs) y_V_add (.code y_V_add c_V_add 6 (some .int) :: bh_ws) (bh_rm (d + 2) 0) 0 false F_V_add := by
  refine bh_method (cc := c_V_add) (ret := (some .int)) (by decide +kernel) rfl ?_
  intro p e s m args below meth c ad0 M0 Z X0 hr hlocks hname htab hbs hB
  obtain ⟨hx, hb, hml, hown, hts⟩ := id X0
  have hw : ∀ w ∈ bh_ws, w.before args s = true := fun w h => hts w (List.mem_cons_of_mem _ h)
  have hBg := bh_BgK (G := G) (base := base) (sb := sb) (L := L) (xs := xs)
  obtain ⟨hK, hAr, hen, hinj, hu1, hu2, hstr, hX, hsb, hsc, hxw, hao, hnc⟩ := id hB
  obtain ⟨ha1, ha2, ha3, ha4, ha5, ha6, ha0⟩ := bh_arr hAr
  exact List.forall_mem_cons.mpr ⟨fun S h => bs_aload_n (Z := Z) hx hb rfl d_V_add_0 h, List.forall_mem_cons.mpr ⟨fun S h => bs_gR (Z := Z) (C := R_V) (T := F_V) (N := 3) (t := 19) (j := 0) hx hb hK hts (fun w h => List.mem_cons_of_mem _ (iw_V w h)) hown rfl rfl (by decide) (hts _ (List.mem_cons_of_mem _ wd_191)) (fun _ h => h) rfl rfl rfl d_V_add_1 h, List.forall_mem_cons.mpr ⟨fun S h => bs_aload_n (Z := Z) hx hb rfl d_V_add_4 h, List.forall_mem_cons.mpr ⟨fun S h => bs_gI (Z := Z) (C := R_V) (T := F_V) (N := 3) (t := 19) (j := 1) hx hb hK hts (fun w h => List.mem_cons_of_mem _ (iw_V w h)) hown rfl rfl (by decide) (hts _ (List.mem_cons_of_mem _ wd_193)) (fun _ h => h) rfl rfl rfl d_V_add_5 h, List.forall_mem_cons.mpr ⟨fun S h => bs_Rald (Z := Z) hx hb ha5 d_V_add_8 h, List.forall_mem_cons.mpr ⟨fun S h => bs_astore (Z := Z) hx hb d_V_add_9 h, List.forall_mem_cons.mpr ⟨fun S h => bs_aload (Z := Z) hx hb d_V_add_11 h, List.forall_mem_cons.mpr ⟨fun S h => bs_aload_n (Z := Z) hx hb rfl d_V_add_13 h, List.forall_mem_cons.mpr ⟨fun S h => bs_gI (Z := Z) (C := R_V) (T := F_V) (N := 3) (t := 19) (j := 2) hx hb hK hts (fun w h => List.mem_cons_of_mem _ (iw_V w h)) hown rfl rfl (by decide) (hts _ (List.mem_cons_of_mem _ wd_195)) (fun _ h => h) rfl rfl rfl d_V_add_14 h, List.forall_mem_cons.mpr ⟨fun S h => bs_pI (Z := Z) (C := R_S) (T := F_S) (N := 5) (t := 21) (j := 1) hx hb hK hts (fun w h => List.mem_cons_of_mem _ (iw_S w h)) hown rfl rfl (by decide) (hts _ (List.mem_cons_of_mem _ wd_174)) (fun _ h => h) rfl rfl t_S t_S_ok n_S rfl (by decide +kernel) rfl d_V_add_17 h, List.forall_mem_cons.mpr ⟨fun S h => bs_aload (Z := Z) hx hb d_V_add_20 h, List.forall_mem_cons.mpr ⟨fun S h => bs_iload_n (Z := Z) hx hb rfl d_V_add_22 h, List.forall_mem_cons.mpr ⟨fun S h => bs_pI (Z := Z) (C := R_S) (T := F_S) (N := 5) (t := 21) (j := 2) hx hb hK hts (fun w h => List.mem_cons_of_mem _ (iw_S w h)) hown rfl rfl (by decide) (hts _ (List.mem_cons_of_mem _ wd_176)) (fun _ h => h) rfl rfl t_S t_S_ok n_S rfl (by decide +kernel) rfl d_V_add_23 h, List.forall_mem_cons.mpr ⟨fun S h => bs_aload (Z := Z) hx hb d_V_add_26 h, List.forall_mem_cons.mpr ⟨fun S h => bs_iload_n (Z := Z) hx hb rfl d_V_add_28 h, List.forall_mem_cons.mpr ⟨fun S h => bs_pI (Z := Z) (C := R_S) (T := F_S) (N := 5) (t := 21) (j := 3) hx hb hK hts (fun w h => List.mem_cons_of_mem _ (iw_S w h)) hown rfl rfl (by decide) (hts _ (List.mem_cons_of_mem _ wd_178)) (fun _ h => h) rfl rfl t_S t_S_ok n_S rfl (by decide +kernel) rfl d_V_add_29 h, List.forall_mem_cons.mpr ⟨fun S h => bs_aload (Z := Z) hx hb d_V_add_32 h, List.forall_mem_cons.mpr ⟨fun S h => bs_dload_n (Z := Z) hx hb rfl d_V_add_34 h, List.forall_mem_cons.mpr ⟨fun S h => bs_pD (Z := Z) (C := R_S) (T := F_S) (N := 5) (t := 21) (j := 4) hx hb hK hts (fun w h => List.mem_cons_of_mem _ (iw_S w h)) hown rfl rfl (by decide) (hts _ (List.mem_cons_of_mem _ wd_179)) (fun _ h => h) rfl rfl t_S t_S_ok n_S rfl (by decide +kernel) rfl d_V_add_35 h, List.forall_mem_cons.mpr ⟨fun S h => bs_aload (Z := Z) hx hb d_V_add_38 h, List.forall_mem_cons.mpr ⟨fun S h => bs_gR (Z := Z) (C := R_S) (T := F_S) (N := 5) (t := 21) (j := 0) hx hb hK hts (fun w h => List.mem_cons_of_mem _ (iw_S w h)) hown rfl rfl (by decide) (hts _ (List.mem_cons_of_mem _ wd_172)) (fun _ h => h) rfl rfl rfl d_V_add_40 h, List.forall_mem_cons.mpr ⟨fun S h => bs_iconst (Z := Z) hx hb (by decide) d_V_add_43 h, List.forall_mem_cons.mpr ⟨fun S h => bs_callS (Z := Z) hBg hbs hB X0 (cn_A_fill htr (d + 0)) (cl_A_fill _ _ hw) (hts _ (List.mem_cons_of_mem _ wd_377)) (hts _ (List.mem_cons_of_mem _ wd_44)) (Nat.le_refl _) (Nat.le_refl _) d_V_add_44 (bs_out htab hlocks) h, List.forall_mem_cons.mpr ⟨fun S h => bs_aload_n (Z := Z) hx hb rfl d_V_add_47 h, List.forall_mem_cons.mpr ⟨fun S h => bs_dup (Z := Z) hx hb d_V_add_48 h, List.forall_mem_cons.mpr ⟨fun S h => bs_gI (Z := Z) (C := R_V) (T := F_V) (N := 3) (t := 19) (j := 1) hx hb hK hts (fun w h => List.mem_cons_of_mem _ (iw_V w h)) hown rfl rfl (by decide) (hts _ (List.mem_cons_of_mem _ wd_193)) (fun _ h => h) rfl rfl rfl d_V_add_49 h, List.forall_mem_cons.mpr ⟨fun S h => bs_iconst (Z := Z) hx hb (by decide) d_V_add_52 h, List.forall_mem_cons.mpr ⟨fun S h => bs_iadd (Z := Z) hx hb d_V_add_53 h, List.forall_mem_cons.mpr ⟨fun S h => bs_pI (Z := Z) (C := R_V) (T := F_V) (N := 3) (t := 19) (j := 1) hx hb hK hts (fun w h => List.mem_cons_of_mem _ (iw_V w h)) hown rfl rfl (by decide) (hts _ (List.mem_cons_of_mem _ wd_193)) (fun _ h => h) rfl rfl t_V t_V_ok n_V rfl (by decide +kernel) rfl d_V_add_54 h, List.forall_mem_cons.mpr ⟨fun S h => bs_aload_n (Z := Z) hx hb rfl d_V_add_57 h, List.forall_mem_cons.mpr ⟨fun S h => bs_dup (Z := Z) hx hb d_V_add_58 h, List.forall_mem_cons.mpr ⟨fun S h => bs_gI (Z := Z) (C := R_V) (T := F_V) (N := 3) (t := 19) (j := 2) hx hb hK hts (fun w h => List.mem_cons_of_mem _ (iw_V w h)) hown rfl rfl (by decide) (hts _ (List.mem_cons_of_mem _ wd_195)) (fun _ h => h) rfl rfl rfl d_V_add_59 h, List.forall_mem_cons.mpr ⟨fun S h => bs_iconst (Z := Z) hx hb (by decide) d_V_add_62 h, List.forall_mem_cons.mpr ⟨fun S h => bs_iadd (Z := Z) hx hb d_V_add_63 h, List.forall_mem_cons.mpr ⟨fun S h => bs_pI (Z := Z) (C := R_V) (T := F_V) (N := 3) (t := 19) (j := 2) hx hb hK hts (fun w h => List.mem_cons_of_mem _ (iw_V w h)) hown rfl rfl (by decide) (hts _ (List.mem_cons_of_mem _ wd_195)) (fun _ h => h) rfl rfl t_V t_V_ok n_V rfl (by decide +kernel) rfl d_V_add_64 h, List.forall_mem_cons.mpr ⟨fun S h => bs_aload (Z := Z) hx hb d_V_add_67 h, List.forall_mem_cons.mpr ⟨fun S h => bs_gI (Z := Z) (C := R_S) (T := F_S) (N := 5) (t := 21) (j := 1) hx hb hK hts (fun w h => List.mem_cons_of_mem _ (iw_S w h)) hown rfl rfl (by decide) (hts _ (List.mem_cons_of_mem _ wd_174)) (fun _ h => h) rfl rfl rfl d_V_add_69 h, List.forall_mem_cons.mpr ⟨fun S h => bs_iret (Z := Z) hx hb hr hlocks d_V_add_72 h, fun _ h => absurd h List.not_mem_nil⟩⟩⟩⟩⟩⟩⟩⟩⟩⟩⟩⟩⟩⟩⟩⟩⟩⟩⟩⟩⟩⟩⟩⟩⟩⟩⟩⟩⟩⟩⟩⟩⟩⟩⟩⟩⟩⟩
