abbrev c_M_live : ByteArray := prog_10_method_12_code
def y_M_live : MethodName := ⟨"BundleHallModel", "live", "(I)Z"⟩
theorem d_M_live_0 : decode c_M_live 0 = .ok (.aload_n 0, 1) := by decide +kernel
theorem d_M_live_1 : decode c_M_live 1 = .ok (.getfield 7, 3) := by decide +kernel
theorem d_M_live_4 : decode c_M_live 4 = .ok (.iload_n 1, 1) := by decide +kernel
theorem d_M_live_5 : decode c_M_live 5 = .ok (.iaload, 1) := by decide +kernel
theorem d_M_live_6 : decode c_M_live 6 = .ok (.iconst 1, 1) := by decide +kernel
theorem d_M_live_7 : decode c_M_live 7 = .ok (.if_icmp .le 7, 3) := by decide +kernel
theorem d_M_live_10 : decode c_M_live 10 = .ok (.iconst 1, 1) := by decide +kernel
theorem d_M_live_11 : decode c_M_live 11 = .ok (.goto 4, 3) := by decide +kernel
theorem d_M_live_14 : decode c_M_live 14 = .ok (.iconst 0, 1) := by decide +kernel
theorem d_M_live_15 : decode c_M_live 15 = .ok (.ireturn, 1) := by decide +kernel
def T_M_live_0 : List (Nat × bh_Op) := [(0, bo_ald 1 0),
  (1, bo_gR 4 40 1 41),
  (4, bo_ild 5 1),
  (5, bo_Iald bh_ak bh_al 6),
  (6, bo_st 7 (bg_push (.inl (.int 1)))),
  (7, bo_if2 10 14 (fun x y => x ≤ y)),
  (10, bo_st 11 (bg_push (.inl (.int 1)))),
  (11, bo_go 15),
  (14, bo_st 15 (bg_push (.inl (.int 0)))),
  (15, bo_zret 0)]
def T_M_live : List (Nat × bh_Op) := T_M_live_0
set_option maxRecDepth 20000 in
theorem mT_M_live_0 : ∀ q ∈ T_M_live_0, bh_mono q.2 := List.forall_mem_cons.mpr ⟨bo_ald_m _ _, List.forall_mem_cons.mpr ⟨bo_gR_m _ _ _ _, List.forall_mem_cons.mpr ⟨bo_ild_m _ _, List.forall_mem_cons.mpr ⟨bo_Iald_m _ _ _, List.forall_mem_cons.mpr ⟨bo_st_mono (bg_push_m _), List.forall_mem_cons.mpr ⟨bo_if2_m _ _ _, List.forall_mem_cons.mpr ⟨bo_st_mono (bg_push_m _), List.forall_mem_cons.mpr ⟨bo_go_m _, List.forall_mem_cons.mpr ⟨bo_st_mono (bg_push_m _), List.forall_mem_cons.mpr ⟨bo_zret_m _, fun _ h => absurd h List.not_mem_nil⟩⟩⟩⟩⟩⟩⟩⟩⟩⟩
theorem m_M_live : ∀ pc, bh_mono (bh_tb (T_M_live) pc) := bh_tb_m mT_M_live_0
def F_M_live : bh_Fn := bh_fn 2 (bh_tb T_M_live)
theorem mF_M_live : bh_monoF F_M_live := bh_fn_m m_M_live
theorem cl_M_live {s : State} {args : Array Value} (d B : Nat) (hts : ∀ w ∈ bh_ws, w.before args s = true) : bh_Cal (bh_rm (d + 1) B) s y_M_live 2 (.code y_M_live c_M_live 2 (some .boolean) :: bh_ws) (bh_rm d 0) 0 1 := bh_cal d B hts wd_948 wd_9 (by decide) (by decide +kernel)
set_option maxHeartbeats 4000000 in
set_option maxRecDepth 100000 in
theorem cn_M_live {l : Launch} {G : bh_G} {base sb L : Nat} {xs : Nat → Int32} (htr : l.stackTraces = false) (d : Nat) : bh_Con l G base (bh_Bg G base sb L xs) y_M_live (.code y_M_live c_M_live 2 (some .boolean) :: bh_ws) (bh_rm (d + 1) 0) 0 false F_M_live := by
  refine bh_method (cc := c_M_live) (ret := (some .boolean)) (by decide +kernel) rfl ?_
  intro p e s m args below meth c ad0 M0 Z X0 hr hlocks hname htab hbs hB
  obtain ⟨hx, hb, hml, hown, hts⟩ := id X0
  have hw : ∀ w ∈ bh_ws, w.before args s = true := fun w h => hts w (List.mem_cons_of_mem _ h)
  have hBg := bh_BgK (G := G) (base := base) (sb := sb) (L := L) (xs := xs)
  obtain ⟨hK, hAr, hen, hinj, hu1, hu2, hstr, hX, hsb, hsc, hxw, hao, hnc⟩ := id hB
  obtain ⟨ha1, ha2, ha3, ha4, ha5, ha6, ha0⟩ := bh_arr hAr
  exact List.forall_mem_cons.mpr ⟨fun S h => bs_aload_n (Z := Z) hx hb rfl d_M_live_0 h, List.forall_mem_cons.mpr ⟨fun S h => bs_gR (Z := Z) (C := R_M) (T := F_M) (N := 40) (t := 40) (j := 1) hx hb hK hts (fun w h => List.mem_cons_of_mem _ (iw_M w h)) hown rfl rfl (by decide) (hts _ (List.mem_cons_of_mem _ wd_785)) (fun _ h => h) rfl rfl rfl d_M_live_1 h, List.forall_mem_cons.mpr ⟨fun S h => bs_iload_n (Z := Z) hx hb rfl d_M_live_4 h, List.forall_mem_cons.mpr ⟨fun S h => bs_Iald (Z := Z) hx hb ha1 d_M_live_5 h, List.forall_mem_cons.mpr ⟨fun S h => bs_iconst (Z := Z) hx hb (by decide) d_M_live_6 h, List.forall_mem_cons.mpr ⟨fun S h => bs_icmp_le (Z := Z) hx hb d_M_live_7 (by decide) h, List.forall_mem_cons.mpr ⟨fun S h => bs_iconst (Z := Z) hx hb (by decide) d_M_live_10 h, List.forall_mem_cons.mpr ⟨fun S h => bs_goto (Z := Z) hx hb d_M_live_11 (by decide) h, List.forall_mem_cons.mpr ⟨fun S h => bs_iconst (Z := Z) hx hb (by decide) d_M_live_14 h, List.forall_mem_cons.mpr ⟨fun S h => bs_zret (Z := Z) hx hb hr hlocks d_M_live_15 h, fun _ h => absurd h List.not_mem_nil⟩⟩⟩⟩⟩⟩⟩⟩⟩⟩
abbrev c_M_named : ByteArray := prog_10_method_14_code
def y_M_named : MethodName := ⟨"BundleHallModel", "named", "(I)Z"⟩
theorem d_M_named_0 : decode c_M_named 0 = .ok (.iconst 0, 1) := by decide +kernel
theorem d_M_named_1 : decode c_M_named 1 = .ok (.istore_n 2, 1) := by decide +kernel
theorem d_M_named_2 : decode c_M_named 2 = .ok (.iload_n 2, 1) := by decide +kernel
theorem d_M_named_3 : decode c_M_named 3 = .ok (.bipush 8, 2) := by decide +kernel
theorem d_M_named_5 : decode c_M_named 5 = .ok (.if_icmp .ge 48, 3) := by decide +kernel
theorem d_M_named_8 : decode c_M_named 8 = .ok (.iload_n 2, 1) := by decide +kernel
theorem d_M_named_9 : decode c_M_named 9 = .ok (.iload_n 1, 1) := by decide +kernel
theorem d_M_named_10 : decode c_M_named 10 = .ok (.if_icmp .eq 37, 3) := by decide +kernel
theorem d_M_named_13 : decode c_M_named 13 = .ok (.aload_n 0, 1) := by decide +kernel
theorem d_M_named_14 : decode c_M_named 14 = .ok (.iload_n 2, 1) := by decide +kernel
theorem d_M_named_15 : decode c_M_named 15 = .ok (.invokevirtual 139, 3) := by decide +kernel
theorem d_M_named_18 : decode c_M_named 18 = .ok (.ifCond .ne 12, 3) := by decide +kernel
theorem d_M_named_21 : decode c_M_named 21 = .ok (.aload_n 0, 1) := by decide +kernel
theorem d_M_named_22 : decode c_M_named 22 = .ok (.getfield 78, 3) := by decide +kernel
theorem d_M_named_25 : decode c_M_named 25 = .ok (.iload_n 2, 1) := by decide +kernel
theorem d_M_named_26 : decode c_M_named 26 = .ok (.baload, 1) := by decide +kernel
theorem d_M_named_27 : decode c_M_named 27 = .ok (.ifCond .eq 20, 3) := by decide +kernel
theorem d_M_named_30 : decode c_M_named 30 = .ok (.aload_n 0, 1) := by decide +kernel
theorem d_M_named_31 : decode c_M_named 31 = .ok (.getfield 13, 3) := by decide +kernel
theorem d_M_named_34 : decode c_M_named 34 = .ok (.iload_n 2, 1) := by decide +kernel
theorem d_M_named_35 : decode c_M_named 35 = .ok (.iaload, 1) := by decide +kernel
theorem d_M_named_36 : decode c_M_named 36 = .ok (.aload_n 0, 1) := by decide +kernel
theorem d_M_named_37 : decode c_M_named 37 = .ok (.getfield 13, 3) := by decide +kernel
theorem d_M_named_40 : decode c_M_named 40 = .ok (.iload_n 1, 1) := by decide +kernel
theorem d_M_named_41 : decode c_M_named 41 = .ok (.iaload, 1) := by decide +kernel
theorem d_M_named_42 : decode c_M_named 42 = .ok (.if_icmp .ne 5, 3) := by decide +kernel
theorem d_M_named_45 : decode c_M_named 45 = .ok (.iconst 1, 1) := by decide +kernel
theorem d_M_named_46 : decode c_M_named 46 = .ok (.ireturn, 1) := by decide +kernel
theorem d_M_named_47 : decode c_M_named 47 = .ok (.iinc 2 1, 3) := by decide +kernel
theorem d_M_named_50 : decode c_M_named 50 = .ok (.goto (-48), 3) := by decide +kernel
theorem d_M_named_53 : decode c_M_named 53 = .ok (.iconst 0, 1) := by decide +kernel
theorem d_M_named_54 : decode c_M_named 54 = .ok (.ireturn, 1) := by decide +kernel
def T_M_named_0 : List (Nat × bh_Op) := [(0, bo_st 1 (bg_push (.inl (.int 0)))),
  (1, bo_ist 2 2),
  (2, bo_ild 3 2),
  (3, bo_st 5 (bg_push (.inl (.int 8)))),
  (5, bo_if2 8 53 (fun x y => y ≤ x)),
  (8, bo_ild 9 2),
  (9, bo_ild 10 1),
  (10, bo_if2 13 47 (fun x y => x = y)),
  (13, bo_ald 14 0),
  (14, bo_ild 15 2),
  (15, bo_callV 18 2 0 0 40 F_M_live),
  (18, bo_if1 21 30 (fun x => ¬ x = 0)),
  (21, bo_ald 22 0),
  (22, bo_gR 25 40 24 63),
  (25, bo_ild 26 2),
  (26, bo_Zald bh_ak bh_al 27),
  (27, bo_if1 30 47 (fun x => x = 0)),
  (30, bo_ald 31 0),
  (31, bo_gR 34 40 2 42),
  (34, bo_ild 35 2),
  (35, bo_Iald bh_ak bh_al 36),
  (36, bo_ald 37 0),
  (37, bo_gR 40 40 2 42),
  (40, bo_ild 41 1),
  (41, bo_Iald bh_ak bh_al 42),
  (42, bo_if2 45 47 (fun x y => ¬ x = y)),
  (45, bo_st 46 (bg_push (.inl (.int 1)))),
  (46, bo_zret 0),
  (47, bo_inc 50 2 1),
  (50, bo_go 2),
  (53, bo_st 54 (bg_push (.inl (.int 0)))),
  (54, bo_zret 0)]
def T_M_named : List (Nat × bh_Op) := T_M_named_0
set_option maxRecDepth 20000 in
theorem mT_M_named_0 : ∀ q ∈ T_M_named_0, bh_mono q.2 := List.forall_mem_cons.mpr ⟨bo_st_mono (bg_push_m _), List.forall_mem_cons.mpr ⟨bo_ist_m _ _, List.forall_mem_cons.mpr ⟨bo_ild_m _ _, List.forall_mem_cons.mpr ⟨bo_st_mono (bg_push_m _), List.forall_mem_cons.mpr ⟨bo_if2_m _ _ _, List.forall_mem_cons.mpr ⟨bo_ild_m _ _, List.forall_mem_cons.mpr ⟨bo_ild_m _ _, List.forall_mem_cons.mpr ⟨bo_if2_m _ _ _, List.forall_mem_cons.mpr ⟨bo_ald_m _ _, List.forall_mem_cons.mpr ⟨bo_ild_m _ _, List.forall_mem_cons.mpr ⟨bo_callV_m (mF_M_live) _ _ _ _ _, List.forall_mem_cons.mpr ⟨bo_if1_m _ _ _, List.forall_mem_cons.mpr ⟨bo_ald_m _ _, List.forall_mem_cons.mpr ⟨bo_gR_m _ _ _ _, List.forall_mem_cons.mpr ⟨bo_ild_m _ _, List.forall_mem_cons.mpr ⟨bo_Zald_m _ _ _, List.forall_mem_cons.mpr ⟨bo_if1_m _ _ _, List.forall_mem_cons.mpr ⟨bo_ald_m _ _, List.forall_mem_cons.mpr ⟨bo_gR_m _ _ _ _, List.forall_mem_cons.mpr ⟨bo_ild_m _ _, List.forall_mem_cons.mpr ⟨bo_Iald_m _ _ _, List.forall_mem_cons.mpr ⟨bo_ald_m _ _, List.forall_mem_cons.mpr ⟨bo_gR_m _ _ _ _, List.forall_mem_cons.mpr ⟨bo_ild_m _ _, List.forall_mem_cons.mpr ⟨bo_Iald_m _ _ _, List.forall_mem_cons.mpr ⟨bo_if2_m _ _ _, List.forall_mem_cons.mpr ⟨bo_st_mono (bg_push_m _), List.forall_mem_cons.mpr ⟨bo_zret_m _, List.forall_mem_cons.mpr ⟨bo_inc_m _ _ _, List.forall_mem_cons.mpr ⟨bo_go_m _, List.forall_mem_cons.mpr ⟨bo_st_mono (bg_push_m _), List.forall_mem_cons.mpr ⟨bo_zret_m _, fun _ h => absurd h List.not_mem_nil⟩⟩⟩⟩⟩⟩⟩⟩⟩⟩⟩⟩⟩⟩⟩⟩⟩⟩⟩⟩⟩⟩⟩⟩⟩⟩⟩⟩⟩⟩⟩⟩
theorem m_M_named : ∀ pc, bh_mono (bh_tb (T_M_named) pc) := bh_tb_m mT_M_named_0
def F_M_named : bh_Fn := bh_fn 3 (bh_tb T_M_named)
theorem mF_M_named : bh_monoF F_M_named := bh_fn_m m_M_named
theorem cl_M_named {s : State} {args : Array Value} (d B : Nat) (hts : ∀ w ∈ bh_ws, w.before args s = true) : bh_Cal (bh_rm (d + 1) B) s y_M_named 3 (.code y_M_named c_M_named 3 (some .boolean) :: bh_ws) (bh_rm d 0) 0 1 := bh_cal d B hts wd_956 wd_9 (by decide) (by decide +kernel)
set_option maxHeartbeats 4000000 in
set_option maxRecDepth 100000 in
theorem cn_M_named {l : Launch} {G : bh_G} {base sb L : Nat} {xs : Nat → Int32} (htr : l.stackTraces = false) (d : Nat) : bh_Con l G base (bh_Bg G base sb L xs) y_M_named (.code y_M_named c_M_named 3 (some .boolean) :: bh_ws) (bh_rm (d + 2) 0) 0 false F_M_named := by
  refine bh_method (cc := c_M_named) (ret := (some .boolean)) (by decide +kernel) rfl ?_
  intro p e s m args below meth c ad0 M0 Z X0 hr hlocks hname htab hbs hB
  obtain ⟨hx, hb, hml, hown, hts⟩ := id X0
  have hw : ∀ w ∈ bh_ws, w.before args s = true := fun w h => hts w (List.mem_cons_of_mem _ h)
  have hBg := bh_BgK (G := G) (base := base) (sb := sb) (L := L) (xs := xs)
  obtain ⟨hK, hAr, hen, hinj, hu1, hu2, hstr, hX, hsb, hsc, hxw, hao, hnc⟩ := id hB
  obtain ⟨ha1, ha2, ha3, ha4, ha5, ha6, ha0⟩ := bh_arr hAr
  exact List.forall_mem_cons.mpr ⟨fun S h => bs_iconst (Z := Z) hx hb (by decide) d_M_named_0 h, List.forall_mem_cons.mpr ⟨fun S h => bs_istore_n (Z := Z) hx hb rfl d_M_named_1 h, List.forall_mem_cons.mpr ⟨fun S h => bs_iload_n (Z := Z) hx hb rfl d_M_named_2 h, List.forall_mem_cons.mpr ⟨fun S h => bs_bipush (Z := Z) hx hb (by decide) d_M_named_3 h, List.forall_mem_cons.mpr ⟨fun S h => bs_icmp_ge (Z := Z) hx hb d_M_named_5 (by decide) h, List.forall_mem_cons.mpr ⟨fun S h => bs_iload_n (Z := Z) hx hb rfl d_M_named_8 h, List.forall_mem_cons.mpr ⟨fun S h => bs_iload_n (Z := Z) hx hb rfl d_M_named_9 h, List.forall_mem_cons.mpr ⟨fun S h => bs_icmp_eq (Z := Z) hx hb d_M_named_10 (by decide) h, List.forall_mem_cons.mpr ⟨fun S h => bs_aload_n (Z := Z) hx hb rfl d_M_named_13 h, List.forall_mem_cons.mpr ⟨fun S h => bs_iload_n (Z := Z) hx hb rfl d_M_named_14 h, List.forall_mem_cons.mpr ⟨fun S h => bs_callV (Z := Z) (C := R_M) hBg hbs hB X0 hK (cn_M_live htr (d + 0)) (cl_M_live _ _ hw) (hts _ (List.mem_cons_of_mem _ wd_945)) (hts _ (List.mem_cons_of_mem _ wd_947)) (hts _ (List.mem_cons_of_mem _ ws_28)) rfl rfl rfl rfl rfl (Nat.le_refl _) (Nat.le_refl _) d_M_named_15 (bs_out htab hlocks) h, List.forall_mem_cons.mpr ⟨fun S h => bs_if_ne (Z := Z) hx hb d_M_named_18 (by decide) h, List.forall_mem_cons.mpr ⟨fun S h => bs_aload_n (Z := Z) hx hb rfl d_M_named_21 h, List.forall_mem_cons.mpr ⟨fun S h => bs_gR (Z := Z) (C := R_M) (T := F_M) (N := 40) (t := 40) (j := 24) hx hb hK hts (fun w h => List.mem_cons_of_mem _ (iw_M w h)) hown rfl rfl (by decide) (hts _ (List.mem_cons_of_mem _ wd_808)) (fun _ h => h) rfl rfl rfl d_M_named_22 h, List.forall_mem_cons.mpr ⟨fun S h => bs_iload_n (Z := Z) hx hb rfl d_M_named_25 h, List.forall_mem_cons.mpr ⟨fun S h => bs_Zald (Z := Z) hx hb ha2 d_M_named_26 h, List.forall_mem_cons.mpr ⟨fun S h => bs_if_eq (Z := Z) hx hb d_M_named_27 (by decide) h, List.forall_mem_cons.mpr ⟨fun S h => bs_aload_n (Z := Z) hx hb rfl d_M_named_30 h, List.forall_mem_cons.mpr ⟨fun S h => bs_gR (Z := Z) (C := R_M) (T := F_M) (N := 40) (t := 40) (j := 2) hx hb hK hts (fun w h => List.mem_cons_of_mem _ (iw_M w h)) hown rfl rfl (by decide) (hts _ (List.mem_cons_of_mem _ wd_786)) (fun _ h => h) rfl rfl rfl d_M_named_31 h, List.forall_mem_cons.mpr ⟨fun S h => bs_iload_n (Z := Z) hx hb rfl d_M_named_34 h, List.forall_mem_cons.mpr ⟨fun S h => bs_Iald (Z := Z) hx hb ha1 d_M_named_35 h, List.forall_mem_cons.mpr ⟨fun S h => bs_aload_n (Z := Z) hx hb rfl d_M_named_36 h, List.forall_mem_cons.mpr ⟨fun S h => bs_gR (Z := Z) (C := R_M) (T := F_M) (N := 40) (t := 40) (j := 2) hx hb hK hts (fun w h => List.mem_cons_of_mem _ (iw_M w h)) hown rfl rfl (by decide) (hts _ (List.mem_cons_of_mem _ wd_786)) (fun _ h => h) rfl rfl rfl d_M_named_37 h, List.forall_mem_cons.mpr ⟨fun S h => bs_iload_n (Z := Z) hx hb rfl d_M_named_40 h, List.forall_mem_cons.mpr ⟨fun S h => bs_Iald (Z := Z) hx hb ha1 d_M_named_41 h, List.forall_mem_cons.mpr ⟨fun S h => bs_icmp_ne (Z := Z) hx hb d_M_named_42 (by decide) h, List.forall_mem_cons.mpr ⟨fun S h => bs_iconst (Z := Z) hx hb (by decide) d_M_named_45 h, List.forall_mem_cons.mpr ⟨fun S h => bs_zret (Z := Z) hx hb hr hlocks d_M_named_46 h, List.forall_mem_cons.mpr ⟨fun S h => bs_iinc (Z := Z) hx hb (by decide) d_M_named_47 h, List.forall_mem_cons.mpr ⟨fun S h => bs_goto (Z := Z) hx hb d_M_named_50 (by decide) h, List.forall_mem_cons.mpr ⟨fun S h => bs_iconst (Z := Z) hx hb (by decide) d_M_named_53 h, List.forall_mem_cons.mpr ⟨fun S h => bs_zret (Z := Z) hx hb hr hlocks d_M_named_54 h, fun _ h => absurd h List.not_mem_nil⟩⟩⟩⟩⟩⟩⟩⟩⟩⟩⟩⟩⟩⟩⟩⟩⟩⟩⟩⟩⟩⟩⟩⟩⟩⟩⟩⟩⟩⟩⟩⟩
abbrev c_M_takeIn : ByteArray := prog_10_method_21_code
def y_M_takeIn : MethodName := ⟨"BundleHallModel", "takeIn", "(II)V"⟩
theorem d_M_takeIn_0 : decode c_M_takeIn 0 = .ok (.aload_n 0, 1) := by decide +kernel
theorem d_M_takeIn_1 : decode c_M_takeIn 1 = .ok (.getfield 78, 3) := by decide +kernel
theorem d_M_takeIn_4 : decode c_M_takeIn 4 = .ok (.iload_n 1, 1) := by decide +kernel
theorem d_M_takeIn_5 : decode c_M_takeIn 5 = .ok (.iconst 1, 1) := by decide +kernel
theorem d_M_takeIn_6 : decode c_M_takeIn 6 = .ok (.bastore, 1) := by decide +kernel
theorem d_M_takeIn_7 : decode c_M_takeIn 7 = .ok (.aload_n 0, 1) := by decide +kernel
theorem d_M_takeIn_8 : decode c_M_takeIn 8 = .ok (.getfield 81, 3) := by decide +kernel
theorem d_M_takeIn_11 : decode c_M_takeIn 11 = .ok (.iload_n 1, 1) := by decide +kernel
theorem d_M_takeIn_12 : decode c_M_takeIn 12 = .ok (.iload_n 2, 1) := by decide +kernel
theorem d_M_takeIn_13 : decode c_M_takeIn 13 = .ok (.iastore, 1) := by decide +kernel
theorem d_M_takeIn_14 : decode c_M_takeIn 14 = .ok (.iconst 3, 1) := by decide +kernel
theorem d_M_takeIn_15 : decode c_M_takeIn 15 = .ok (.iload_n 1, 1) := by decide +kernel
theorem d_M_takeIn_16 : decode c_M_takeIn 16 = .ok (.imul, 1) := by decide +kernel
theorem d_M_takeIn_17 : decode c_M_takeIn 17 = .ok (.istore_n 3, 1) := by decide +kernel
theorem d_M_takeIn_18 : decode c_M_takeIn 18 = .ok (.iload_n 3, 1) := by decide +kernel
theorem d_M_takeIn_19 : decode c_M_takeIn 19 = .ok (.iconst 3, 1) := by decide +kernel
theorem d_M_takeIn_20 : decode c_M_takeIn 20 = .ok (.iload_n 1, 1) := by decide +kernel
theorem d_M_takeIn_21 : decode c_M_takeIn 21 = .ok (.imul, 1) := by decide +kernel
theorem d_M_takeIn_22 : decode c_M_takeIn 22 = .ok (.aload_n 0, 1) := by decide +kernel
theorem d_M_takeIn_23 : decode c_M_takeIn 23 = .ok (.getfield 45, 3) := by decide +kernel
theorem d_M_takeIn_26 : decode c_M_takeIn 26 = .ok (.iload_n 1, 1) := by decide +kernel
theorem d_M_takeIn_27 : decode c_M_takeIn 27 = .ok (.iaload, 1) := by decide +kernel
theorem d_M_takeIn_28 : decode c_M_takeIn 28 = .ok (.iadd, 1) := by decide +kernel
theorem d_M_takeIn_29 : decode c_M_takeIn 29 = .ok (.if_icmp .ge 41, 3) := by decide +kernel
theorem d_M_takeIn_32 : decode c_M_takeIn 32 = .ok (.aload_n 0, 1) := by decide +kernel
theorem d_M_takeIn_33 : decode c_M_takeIn 33 = .ok (.getfield 57, 3) := by decide +kernel
theorem d_M_takeIn_36 : decode c_M_takeIn 36 = .ok (.iload_n 3, 1) := by decide +kernel
theorem d_M_takeIn_37 : decode c_M_takeIn 37 = .ok (.baload, 1) := by decide +kernel
theorem d_M_takeIn_38 : decode c_M_takeIn 38 = .ok (.ifCond .eq 6, 3) := by decide +kernel
theorem d_M_takeIn_41 : decode c_M_takeIn 41 = .ok (.goto 23, 3) := by decide +kernel
theorem d_M_takeIn_44 : decode c_M_takeIn 44 = .ok (.aload_n 0, 1) := by decide +kernel
theorem d_M_takeIn_45 : decode c_M_takeIn 45 = .ok (.getfield 63, 3) := by decide +kernel
theorem d_M_takeIn_48 : decode c_M_takeIn 48 = .ok (.aload_n 0, 1) := by decide +kernel
theorem d_M_takeIn_49 : decode c_M_takeIn 49 = .ok (.getfield 166, 3) := by decide +kernel
theorem d_M_takeIn_52 : decode c_M_takeIn 52 = .ok (.iload_n 3, 1) := by decide +kernel
theorem d_M_takeIn_53 : decode c_M_takeIn 53 = .ok (.iastore, 1) := by decide +kernel
theorem d_M_takeIn_54 : decode c_M_takeIn 54 = .ok (.aload_n 0, 1) := by decide +kernel
theorem d_M_takeIn_55 : decode c_M_takeIn 55 = .ok (.dup, 1) := by decide +kernel
theorem d_M_takeIn_56 : decode c_M_takeIn 56 = .ok (.getfield 166, 3) := by decide +kernel
theorem d_M_takeIn_59 : decode c_M_takeIn 59 = .ok (.iconst 1, 1) := by decide +kernel
theorem d_M_takeIn_60 : decode c_M_takeIn 60 = .ok (.iadd, 1) := by decide +kernel
theorem d_M_takeIn_61 : decode c_M_takeIn 61 = .ok (.putfield 166, 3) := by decide +kernel
theorem d_M_takeIn_64 : decode c_M_takeIn 64 = .ok (.iinc 3 1, 3) := by decide +kernel
theorem d_M_takeIn_67 : decode c_M_takeIn 67 = .ok (.goto (-49), 3) := by decide +kernel
theorem d_M_takeIn_70 : decode c_M_takeIn 70 = .ok (.return_, 1) := by decide +kernel
def T_M_takeIn_0 : List (Nat × bh_Op) := [(0, bo_ald 1 0),
  (1, bo_gR 4 40 24 63),
  (4, bo_ild 5 1),
  (5, bo_st 6 (bg_push (.inl (.int 1)))),
  (6, bo_Zast bh_ak bh_al 7),
  (7, bo_ald 8 0),
  (8, bo_gR 11 40 25 64),
  (11, bo_ild 12 1),
  (12, bo_ild 13 2),
  (13, bo_Iast bh_ak bh_al 14),
  (14, bo_st 15 (bg_push (.inl (.int 3)))),
  (15, bo_ild 16 1),
  (16, bo_st 17 (bg_ii (fun x y => x * y))),
  (17, bo_ist 18 3),
  (18, bo_ild 19 3),
  (19, bo_st 20 (bg_push (.inl (.int 3)))),
  (20, bo_ild 21 1),
  (21, bo_st 22 (bg_ii (fun x y => x * y))),
  (22, bo_ald 23 0),
  (23, bo_gR 26 40 12 52),
  (26, bo_ild 27 1),
  (27, bo_Iald bh_ak bh_al 28),
  (28, bo_st 29 (bg_ii (fun x y => x + y))),
  (29, bo_if2 32 70 (fun x y => y ≤ x)),
  (32, bo_ald 33 0),
  (33, bo_gR 36 40 16 56),
  (36, bo_ild 37 3),
  (37, bo_Zald bh_ak bh_al 38),
  (38, bo_if1 41 44 (fun x => x = 0)),
  (41, bo_go 64),
  (44, bo_ald 45 0),
  (45, bo_gR 48 40 18 58),
  (48, bo_ald 49 0),
  (49, bo_gI 52 40 19),
  (52, bo_ild 53 3),
  (53, bo_Iast bh_ak bh_al 54),
  (54, bo_ald 55 0),
  (55, bo_st 56 bg_dup),
  (56, bo_gI 59 40 19),
  (59, bo_st 60 (bg_push (.inl (.int 1))))]
def T_M_takeIn_1 : List (Nat × bh_Op) := [(60, bo_st 61 (bg_ii (fun x y => x + y))),
  (61, bo_pI 64 40 19),
  (64, bo_inc 67 3 1),
  (67, bo_go 18),
  (70, bo_vret 0)]
def T_M_takeIn : List (Nat × bh_Op) := T_M_takeIn_0 ++ T_M_takeIn_1
set_option maxRecDepth 20000 in
theorem mT_M_takeIn_0 : ∀ q ∈ T_M_takeIn_0, bh_mono q.2 := List.forall_mem_cons.mpr ⟨bo_ald_m _ _, List.forall_mem_cons.mpr ⟨bo_gR_m _ _ _ _, List.forall_mem_cons.mpr ⟨bo_ild_m _ _, List.forall_mem_cons.mpr ⟨bo_st_mono (bg_push_m _), List.forall_mem_cons.mpr ⟨bo_Zast_m _ _ _, List.forall_mem_cons.mpr ⟨bo_ald_m _ _, List.forall_mem_cons.mpr ⟨bo_gR_m _ _ _ _, List.forall_mem_cons.mpr ⟨bo_ild_m _ _, List.forall_mem_cons.mpr ⟨bo_ild_m _ _, List.forall_mem_cons.mpr ⟨bo_Iast_m _ _ _, List.forall_mem_cons.mpr ⟨bo_st_mono (bg_push_m _), List.forall_mem_cons.mpr ⟨bo_ild_m _ _, List.forall_mem_cons.mpr ⟨bo_st_mono (bg_ii_m _), List.forall_mem_cons.mpr ⟨bo_ist_m _ _, List.forall_mem_cons.mpr ⟨bo_ild_m _ _, List.forall_mem_cons.mpr ⟨bo_st_mono (bg_push_m _), List.forall_mem_cons.mpr ⟨bo_ild_m _ _, List.forall_mem_cons.mpr ⟨bo_st_mono (bg_ii_m _), List.forall_mem_cons.mpr ⟨bo_ald_m _ _, List.forall_mem_cons.mpr ⟨bo_gR_m _ _ _ _, List.forall_mem_cons.mpr ⟨bo_ild_m _ _, List.forall_mem_cons.mpr ⟨bo_Iald_m _ _ _, List.forall_mem_cons.mpr ⟨bo_st_mono (bg_ii_m _), List.forall_mem_cons.mpr ⟨bo_if2_m _ _ _, List.forall_mem_cons.mpr ⟨bo_ald_m _ _, List.forall_mem_cons.mpr ⟨bo_gR_m _ _ _ _, List.forall_mem_cons.mpr ⟨bo_ild_m _ _, List.forall_mem_cons.mpr ⟨bo_Zald_m _ _ _, List.forall_mem_cons.mpr ⟨bo_if1_m _ _ _, List.forall_mem_cons.mpr ⟨bo_go_m _, List.forall_mem_cons.mpr ⟨bo_ald_m _ _, List.forall_mem_cons.mpr ⟨bo_gR_m _ _ _ _, List.forall_mem_cons.mpr ⟨bo_ald_m _ _, List.forall_mem_cons.mpr ⟨bo_gI_m _ _ _, List.forall_mem_cons.mpr ⟨bo_ild_m _ _, List.forall_mem_cons.mpr ⟨bo_Iast_m _ _ _, List.forall_mem_cons.mpr ⟨bo_ald_m _ _, List.forall_mem_cons.mpr ⟨bo_st_mono bg_dup_m, List.forall_mem_cons.mpr ⟨bo_gI_m _ _ _, List.forall_mem_cons.mpr ⟨bo_st_mono (bg_push_m _), fun _ h => absurd h List.not_mem_nil⟩⟩⟩⟩⟩⟩⟩⟩⟩⟩⟩⟩⟩⟩⟩⟩⟩⟩⟩⟩⟩⟩⟩⟩⟩⟩⟩⟩⟩⟩⟩⟩⟩⟩⟩⟩⟩⟩⟩⟩
set_option maxRecDepth 20000 in
theorem mT_M_takeIn_1 : ∀ q ∈ T_M_takeIn_1, bh_mono q.2 := List.forall_mem_cons.mpr ⟨bo_st_mono (bg_ii_m _), List.forall_mem_cons.mpr ⟨bo_pI_m _ _ _, List.forall_mem_cons.mpr ⟨bo_inc_m _ _ _, List.forall_mem_cons.mpr ⟨bo_go_m _, List.forall_mem_cons.mpr ⟨bo_vret_m _, fun _ h => absurd h List.not_mem_nil⟩⟩⟩⟩⟩
theorem m_M_takeIn : ∀ pc, bh_mono (bh_tb (T_M_takeIn) pc) := bh_tb_m (List.forall_mem_append.mpr ⟨mT_M_takeIn_0, mT_M_takeIn_1⟩)
def F_M_takeIn : bh_Fn := bh_fn 4 (bh_tb T_M_takeIn)
theorem mF_M_takeIn : bh_monoF F_M_takeIn := bh_fn_m m_M_takeIn
theorem cl_M_takeIn {s : State} {args : Array Value} (d B : Nat) (hts : ∀ w ∈ bh_ws, w.before args s = true) : bh_Cal (bh_rm (d + 1) B) s y_M_takeIn 4 (.code y_M_takeIn c_M_takeIn 4 none :: bh_ws) (bh_rm d 0) 0 2 := bh_cal d B hts wd_960 wd_9 (by decide) (by decide +kernel)
set_option maxHeartbeats 4000000 in
set_option maxRecDepth 100000 in
theorem cn_M_takeIn {l : Launch} {G : bh_G} {base sb L : Nat} {xs : Nat → Int32} (htr : l.stackTraces = false) (d : Nat) : bh_Con l G base (bh_Bg G base sb L xs) y_M_takeIn (.code y_M_takeIn c_M_takeIn 4 none :: bh_ws) (bh_rm (d + 1) 0) 0 false F_M_takeIn := by
  refine bh_method (cc := c_M_takeIn) (ret := none) (by decide +kernel) rfl ?_
  intro p e s m args below meth c ad0 M0 Z X0 hr hlocks hname htab hbs hB
  obtain ⟨hx, hb, hml, hown, hts⟩ := id X0
  have hw : ∀ w ∈ bh_ws, w.before args s = true := fun w h => hts w (List.mem_cons_of_mem _ h)
  have hBg := bh_BgK (G := G) (base := base) (sb := sb) (L := L) (xs := xs)
  obtain ⟨hK, hAr, hen, hinj, hu1, hu2, hstr, hX, hsb, hsc, hxw, hao, hnc⟩ := id hB
  obtain ⟨ha1, ha2, ha3, ha4, ha5, ha6, ha0⟩ := bh_arr hAr
  refine List.forall_mem_append.mpr ⟨?_, List.forall_mem_cons.mpr ⟨fun S h => bs_iadd (Z := Z) hx hb d_M_takeIn_60 h, List.forall_mem_cons.mpr ⟨fun S h => bs_pI (Z := Z) (C := R_M) (T := F_M) (N := 40) (t := 40) (j := 19) hx hb hK hts (fun w h => List.mem_cons_of_mem _ (iw_M w h)) hown rfl rfl (by decide) (hts _ (List.mem_cons_of_mem _ wd_803)) (fun _ h => h) rfl rfl t_M t_M_ok n_M rfl (by decide +kernel) rfl d_M_takeIn_61 h, List.forall_mem_cons.mpr ⟨fun S h => bs_iinc (Z := Z) hx hb (by decide) d_M_takeIn_64 h, List.forall_mem_cons.mpr ⟨fun S h => bs_goto (Z := Z) hx hb d_M_takeIn_67 (by decide) h, List.forall_mem_cons.mpr ⟨fun S h => bs_vret (Z := Z) hx hb hr hlocks d_M_takeIn_70 h, fun _ h => absurd h List.not_mem_nil⟩⟩⟩⟩⟩⟩
  exact List.forall_mem_cons.mpr ⟨fun S h => bs_aload_n (Z := Z) hx hb rfl d_M_takeIn_0 h, List.forall_mem_cons.mpr ⟨fun S h => bs_gR (Z := Z) (C := R_M) (T := F_M) (N := 40) (t := 40) (j := 24) hx hb hK hts (fun w h => List.mem_cons_of_mem _ (iw_M w h)) hown rfl rfl (by decide) (hts _ (List.mem_cons_of_mem _ wd_808)) (fun _ h => h) rfl rfl rfl d_M_takeIn_1 h, List.forall_mem_cons.mpr ⟨fun S h => bs_iload_n (Z := Z) hx hb rfl d_M_takeIn_4 h, List.forall_mem_cons.mpr ⟨fun S h => bs_iconst (Z := Z) hx hb (by decide) d_M_takeIn_5 h, List.forall_mem_cons.mpr ⟨fun S h => bs_Zast (Z := Z) hx hb ha2 d_M_takeIn_6 h, List.forall_mem_cons.mpr ⟨fun S h => bs_aload_n (Z := Z) hx hb rfl d_M_takeIn_7 h, List.forall_mem_cons.mpr ⟨fun S h => bs_gR (Z := Z) (C := R_M) (T := F_M) (N := 40) (t := 40) (j := 25) hx hb hK hts (fun w h => List.mem_cons_of_mem _ (iw_M w h)) hown rfl rfl (by decide) (hts _ (List.mem_cons_of_mem _ wd_809)) (fun _ h => h) rfl rfl rfl d_M_takeIn_8 h, List.forall_mem_cons.mpr ⟨fun S h => bs_iload_n (Z := Z) hx hb rfl d_M_takeIn_11 h, List.forall_mem_cons.mpr ⟨fun S h => bs_iload_n (Z := Z) hx hb rfl d_M_takeIn_12 h, List.forall_mem_cons.mpr ⟨fun S h => bs_Iast (Z := Z) hx hb ha1 d_M_takeIn_13 h, List.forall_mem_cons.mpr ⟨fun S h => bs_iconst (Z := Z) hx hb (by decide) d_M_takeIn_14 h, List.forall_mem_cons.mpr ⟨fun S h => bs_iload_n (Z := Z) hx hb rfl d_M_takeIn_15 h, List.forall_mem_cons.mpr ⟨fun S h => bs_imul (Z := Z) hx hb d_M_takeIn_16 h, List.forall_mem_cons.mpr ⟨fun S h => bs_istore_n (Z := Z) hx hb rfl d_M_takeIn_17 h, List.forall_mem_cons.mpr ⟨fun S h => bs_iload_n (Z := Z) hx hb rfl d_M_takeIn_18 h, List.forall_mem_cons.mpr ⟨fun S h => bs_iconst (Z := Z) hx hb (by decide) d_M_takeIn_19 h, List.forall_mem_cons.mpr ⟨fun S h => bs_iload_n (Z := Z) hx hb rfl d_M_takeIn_20 h, List.forall_mem_cons.mpr ⟨fun S h => bs_imul (Z := Z) hx hb d_M_takeIn_21 h, List.forall_mem_cons.mpr ⟨fun S h => bs_aload_n (Z := Z) hx hb rfl d_M_takeIn_22 h, List.forall_mem_cons.mpr ⟨fun S h => bs_gR (Z := Z) (C := R_M) (T := F_M) (N := 40) (t := 40) (j := 12) hx hb hK hts (fun w h => List.mem_cons_of_mem _ (iw_M w h)) hown rfl rfl (by decide) (hts _ (List.mem_cons_of_mem _ wd_796)) (fun _ h => h) rfl rfl rfl d_M_takeIn_23 h, List.forall_mem_cons.mpr ⟨fun S h => bs_iload_n (Z := Z) hx hb rfl d_M_takeIn_26 h, List.forall_mem_cons.mpr ⟨fun S h => bs_Iald (Z := Z) hx hb ha1 d_M_takeIn_27 h, List.forall_mem_cons.mpr ⟨fun S h => bs_iadd (Z := Z) hx hb d_M_takeIn_28 h, List.forall_mem_cons.mpr ⟨fun S h => bs_icmp_ge (Z := Z) hx hb d_M_takeIn_29 (by decide) h, List.forall_mem_cons.mpr ⟨fun S h => bs_aload_n (Z := Z) hx hb rfl d_M_takeIn_32 h, List.forall_mem_cons.mpr ⟨fun S h => bs_gR (Z := Z) (C := R_M) (T := F_M) (N := 40) (t := 40) (j := 16) hx hb hK hts (fun w h => List.mem_cons_of_mem _ (iw_M w h)) hown rfl rfl (by decide) (hts _ (List.mem_cons_of_mem _ wd_800)) (fun _ h => h) rfl rfl rfl d_M_takeIn_33 h, List.forall_mem_cons.mpr ⟨fun S h => bs_iload_n (Z := Z) hx hb rfl d_M_takeIn_36 h, List.forall_mem_cons.mpr ⟨fun S h => bs_Zald (Z := Z) hx hb ha2 d_M_takeIn_37 h, List.forall_mem_cons.mpr ⟨fun S h => bs_if_eq (Z := Z) hx hb d_M_takeIn_38 (by decide) h, List.forall_mem_cons.mpr ⟨fun S h => bs_goto (Z := Z) hx hb d_M_takeIn_41 (by decide) h, List.forall_mem_cons.mpr ⟨fun S h => bs_aload_n (Z := Z) hx hb rfl d_M_takeIn_44 h, List.forall_mem_cons.mpr ⟨fun S h => bs_gR (Z := Z) (C := R_M) (T := F_M) (N := 40) (t := 40) (j := 18) hx hb hK hts (fun w h => List.mem_cons_of_mem _ (iw_M w h)) hown rfl rfl (by decide) (hts _ (List.mem_cons_of_mem _ wd_802)) (fun _ h => h) rfl rfl rfl d_M_takeIn_45 h, List.forall_mem_cons.mpr ⟨fun S h => bs_aload_n (Z := Z) hx hb rfl d_M_takeIn_48 h, List.forall_mem_cons.mpr ⟨fun S h => bs_gI (Z := Z) (C := R_M) (T := F_M) (N := 40) (t := 40) (j := 19) hx hb hK hts (fun w h => List.mem_cons_of_mem _ (iw_M w h)) hown rfl rfl (by decide) (hts _ (List.mem_cons_of_mem _ wd_803)) (fun _ h => h) rfl rfl rfl d_M_takeIn_49 h, List.forall_mem_cons.mpr ⟨fun S h => bs_iload_n (Z := Z) hx hb rfl d_M_takeIn_52 h, List.forall_mem_cons.mpr ⟨fun S h => bs_Iast (Z := Z) hx hb ha1 d_M_takeIn_53 h, List.forall_mem_cons.mpr ⟨fun S h => bs_aload_n (Z := Z) hx hb rfl d_M_takeIn_54 h, List.forall_mem_cons.mpr ⟨fun S h => bs_dup (Z := Z) hx hb d_M_takeIn_55 h, List.forall_mem_cons.mpr ⟨fun S h => bs_gI (Z := Z) (C := R_M) (T := F_M) (N := 40) (t := 40) (j := 19) hx hb hK hts (fun w h => List.mem_cons_of_mem _ (iw_M w h)) hown rfl rfl (by decide) (hts _ (List.mem_cons_of_mem _ wd_803)) (fun _ h => h) rfl rfl rfl d_M_takeIn_56 h, List.forall_mem_cons.mpr ⟨fun S h => bs_iconst (Z := Z) hx hb (by decide) d_M_takeIn_59 h, fun _ h => absurd h List.not_mem_nil⟩⟩⟩⟩⟩⟩⟩⟩⟩⟩⟩⟩⟩⟩⟩⟩⟩⟩⟩⟩⟩⟩⟩⟩⟩⟩⟩⟩⟩⟩⟩⟩⟩⟩⟩⟩⟩⟩⟩⟩
abbrev c_M_fits : ByteArray := prog_10_method_15_code
def y_M_fits : MethodName := ⟨"BundleHallModel", "fits", "(II)Z"⟩
theorem d_M_fits_0 : decode c_M_fits 0 = .ok (.aload_n 0, 1) := by decide +kernel
theorem d_M_fits_1 : decode c_M_fits 1 = .ok (.getfield 36, 3) := by decide +kernel
theorem d_M_fits_4 : decode c_M_fits 4 = .ok (.iload_n 1, 1) := by decide +kernel
theorem d_M_fits_5 : decode c_M_fits 5 = .ok (.iaload, 1) := by decide +kernel
theorem d_M_fits_6 : decode c_M_fits 6 = .ok (.aload_n 0, 1) := by decide +kernel
theorem d_M_fits_7 : decode c_M_fits 7 = .ok (.getfield 48, 3) := by decide +kernel
theorem d_M_fits_10 : decode c_M_fits 10 = .ok (.iload_n 2, 1) := by decide +kernel
theorem d_M_fits_11 : decode c_M_fits 11 = .ok (.iaload, 1) := by decide +kernel
theorem d_M_fits_12 : decode c_M_fits 12 = .ok (.if_icmp .ne 37, 3) := by decide +kernel
theorem d_M_fits_15 : decode c_M_fits 15 = .ok (.aload_n 0, 1) := by decide +kernel
theorem d_M_fits_16 : decode c_M_fits 16 = .ok (.getfield 39, 3) := by decide +kernel
theorem d_M_fits_19 : decode c_M_fits 19 = .ok (.iload_n 1, 1) := by decide +kernel
theorem d_M_fits_20 : decode c_M_fits 20 = .ok (.iaload, 1) := by decide +kernel
theorem d_M_fits_21 : decode c_M_fits 21 = .ok (.aload_n 0, 1) := by decide +kernel
theorem d_M_fits_22 : decode c_M_fits 22 = .ok (.getfield 51, 3) := by decide +kernel
theorem d_M_fits_25 : decode c_M_fits 25 = .ok (.iload_n 2, 1) := by decide +kernel
theorem d_M_fits_26 : decode c_M_fits 26 = .ok (.iaload, 1) := by decide +kernel
theorem d_M_fits_27 : decode c_M_fits 27 = .ok (.if_icmp .lt 22, 3) := by decide +kernel
theorem d_M_fits_30 : decode c_M_fits 30 = .ok (.aload_n 0, 1) := by decide +kernel
theorem d_M_fits_31 : decode c_M_fits 31 = .ok (.getfield 39, 3) := by decide +kernel
theorem d_M_fits_34 : decode c_M_fits 34 = .ok (.iload_n 1, 1) := by decide +kernel
theorem d_M_fits_35 : decode c_M_fits 35 = .ok (.iaload, 1) := by decide +kernel
theorem d_M_fits_36 : decode c_M_fits 36 = .ok (.aload_n 0, 1) := by decide +kernel
theorem d_M_fits_37 : decode c_M_fits 37 = .ok (.getfield 54, 3) := by decide +kernel
theorem d_M_fits_40 : decode c_M_fits 40 = .ok (.iload_n 2, 1) := by decide +kernel
theorem d_M_fits_41 : decode c_M_fits 41 = .ok (.iaload, 1) := by decide +kernel
theorem d_M_fits_42 : decode c_M_fits 42 = .ok (.if_icmp .gt 7, 3) := by decide +kernel
theorem d_M_fits_45 : decode c_M_fits 45 = .ok (.iconst 1, 1) := by decide +kernel
theorem d_M_fits_46 : decode c_M_fits 46 = .ok (.goto 4, 3) := by decide +kernel
theorem d_M_fits_49 : decode c_M_fits 49 = .ok (.iconst 0, 1) := by decide +kernel
theorem d_M_fits_50 : decode c_M_fits 50 = .ok (.ireturn, 1) := by decide +kernel
def T_M_fits_0 : List (Nat × bh_Op) := [(0, bo_ald 1 0),
  (1, bo_gR 4 40 9 49),
  (4, bo_ild 5 1),
  (5, bo_Iald bh_ak bh_al 6),
  (6, bo_ald 7 0),
  (7, bo_gR 10 40 13 53),
  (10, bo_ild 11 2),
  (11, bo_Iald bh_ak bh_al 12),
  (12, bo_if2 15 49 (fun x y => ¬ x = y)),
  (15, bo_ald 16 0),
  (16, bo_gR 19 40 10 50),
  (19, bo_ild 20 1),
  (20, bo_Iald bh_ak bh_al 21),
  (21, bo_ald 22 0),
  (22, bo_gR 25 40 14 54),
  (25, bo_ild 26 2),
  (26, bo_Iald bh_ak bh_al 27),
  (27, bo_if2 30 49 (fun x y => x < y)),
  (30, bo_ald 31 0),
  (31, bo_gR 34 40 10 50),
  (34, bo_ild 35 1),
  (35, bo_Iald bh_ak bh_al 36),
  (36, bo_ald 37 0),
  (37, bo_gR 40 40 15 55),
  (40, bo_ild 41 2),
  (41, bo_Iald bh_ak bh_al 42),
  (42, bo_if2 45 49 (fun x y => y < x)),
  (45, bo_st 46 (bg_push (.inl (.int 1)))),
  (46, bo_go 50),
  (49, bo_st 50 (bg_push (.inl (.int 0)))),
  (50, bo_zret 0)]
def T_M_fits : List (Nat × bh_Op) := T_M_fits_0
set_option maxRecDepth 20000 in
theorem mT_M_fits_0 : ∀ q ∈ T_M_fits_0, bh_mono q.2 := List.forall_mem_cons.mpr ⟨bo_ald_m _ _, List.forall_mem_cons.mpr ⟨bo_gR_m _ _ _ _, List.forall_mem_cons.mpr ⟨bo_ild_m _ _, List.forall_mem_cons.mpr ⟨bo_Iald_m _ _ _, List.forall_mem_cons.mpr ⟨bo_ald_m _ _, List.forall_mem_cons.mpr ⟨bo_gR_m _ _ _ _, List.forall_mem_cons.mpr ⟨bo_ild_m _ _, List.forall_mem_cons.mpr ⟨bo_Iald_m _ _ _, List.forall_mem_cons.mpr ⟨bo_if2_m _ _ _, List.forall_mem_cons.mpr ⟨bo_ald_m _ _, List.forall_mem_cons.mpr ⟨bo_gR_m _ _ _ _, List.forall_mem_cons.mpr ⟨bo_ild_m _ _, List.forall_mem_cons.mpr ⟨bo_Iald_m _ _ _, List.forall_mem_cons.mpr ⟨bo_ald_m _ _, List.forall_mem_cons.mpr ⟨bo_gR_m _ _ _ _, List.forall_mem_cons.mpr ⟨bo_ild_m _ _, List.forall_mem_cons.mpr ⟨bo_Iald_m _ _ _, List.forall_mem_cons.mpr ⟨bo_if2_m _ _ _, List.forall_mem_cons.mpr ⟨bo_ald_m _ _, List.forall_mem_cons.mpr ⟨bo_gR_m _ _ _ _, List.forall_mem_cons.mpr ⟨bo_ild_m _ _, List.forall_mem_cons.mpr ⟨bo_Iald_m _ _ _, List.forall_mem_cons.mpr ⟨bo_ald_m _ _, List.forall_mem_cons.mpr ⟨bo_gR_m _ _ _ _, List.forall_mem_cons.mpr ⟨bo_ild_m _ _, List.forall_mem_cons.mpr ⟨bo_Iald_m _ _ _, List.forall_mem_cons.mpr ⟨bo_if2_m _ _ _, List.forall_mem_cons.mpr ⟨bo_st_mono (bg_push_m _), List.forall_mem_cons.mpr ⟨bo_go_m _, List.forall_mem_cons.mpr ⟨bo_st_mono (bg_push_m _), List.forall_mem_cons.mpr ⟨bo_zret_m _, fun _ h => absurd h List.not_mem_nil⟩⟩⟩⟩⟩⟩⟩⟩⟩⟩⟩⟩⟩⟩⟩⟩⟩⟩⟩⟩⟩⟩⟩⟩⟩⟩⟩⟩⟩⟩⟩
theorem m_M_fits : ∀ pc, bh_mono (bh_tb (T_M_fits) pc) := bh_tb_m mT_M_fits_0
def F_M_fits : bh_Fn := bh_fn 3 (bh_tb T_M_fits)
theorem mF_M_fits : bh_monoF F_M_fits := bh_fn_m m_M_fits
theorem cl_M_fits {s : State} {args : Array Value} (d B : Nat) (hts : ∀ w ∈ bh_ws, w.before args s = true) : bh_Cal (bh_rm (d + 1) B) s y_M_fits 3 (.code y_M_fits c_M_fits 3 (some .boolean) :: bh_ws) (bh_rm d 0) 0 2 := bh_cal d B hts wd_972 wd_9 (by decide) (by decide +kernel)
set_option maxHeartbeats 4000000 in
set_option maxRecDepth 100000 in
theorem cn_M_fits {l : Launch} {G : bh_G} {base sb L : Nat} {xs : Nat → Int32} (htr : l.stackTraces = false) (d : Nat) : bh_Con l G base (bh_Bg G base sb L xs) y_M_fits (.code y_M_fits c_M_fits 3 (some .boolean) :: bh_ws) (bh_rm (d + 1) 0) 0 false F_M_fits := by
  refine bh_method (cc := c_M_fits) (ret := (some .boolean)) (by decide +kernel) rfl ?_
  intro p e s m args below meth c ad0 M0 Z X0 hr hlocks hname htab hbs hB
  obtain ⟨hx, hb, hml, hown, hts⟩ := id X0
  have hw : ∀ w ∈ bh_ws, w.before args s = true := fun w h => hts w (List.mem_cons_of_mem _ h)
  have hBg := bh_BgK (G := G) (base := base) (sb := sb) (L := L) (xs := xs)
  obtain ⟨hK, hAr, hen, hinj, hu1, hu2, hstr, hX, hsb, hsc, hxw, hao, hnc⟩ := id hB
  obtain ⟨ha1, ha2, ha3, ha4, ha5, ha6, ha0⟩ := bh_arr hAr
  exact List.forall_mem_cons.mpr ⟨fun S h => bs_aload_n (Z := Z) hx hb rfl d_M_fits_0 h, List.forall_mem_cons.mpr ⟨fun S h => bs_gR (Z := Z) (C := R_M) (T := F_M) (N := 40) (t := 40) (j := 9) hx hb hK hts (fun w h => List.mem_cons_of_mem _ (iw_M w h)) hown rfl rfl (by decide) (hts _ (List.mem_cons_of_mem _ wd_793)) (fun _ h => h) rfl rfl rfl d_M_fits_1 h, List.forall_mem_cons.mpr ⟨fun S h => bs_iload_n (Z := Z) hx hb rfl d_M_fits_4 h, List.forall_mem_cons.mpr ⟨fun S h => bs_Iald (Z := Z) hx hb ha1 d_M_fits_5 h, List.forall_mem_cons.mpr ⟨fun S h => bs_aload_n (Z := Z) hx hb rfl d_M_fits_6 h, List.forall_mem_cons.mpr ⟨fun S h => bs_gR (Z := Z) (C := R_M) (T := F_M) (N := 40) (t := 40) (j := 13) hx hb hK hts (fun w h => List.mem_cons_of_mem _ (iw_M w h)) hown rfl rfl (by decide) (hts _ (List.mem_cons_of_mem _ wd_797)) (fun _ h => h) rfl rfl rfl d_M_fits_7 h, List.forall_mem_cons.mpr ⟨fun S h => bs_iload_n (Z := Z) hx hb rfl d_M_fits_10 h, List.forall_mem_cons.mpr ⟨fun S h => bs_Iald (Z := Z) hx hb ha1 d_M_fits_11 h, List.forall_mem_cons.mpr ⟨fun S h => bs_icmp_ne (Z := Z) hx hb d_M_fits_12 (by decide) h, List.forall_mem_cons.mpr ⟨fun S h => bs_aload_n (Z := Z) hx hb rfl d_M_fits_15 h, List.forall_mem_cons.mpr ⟨fun S h => bs_gR (Z := Z) (C := R_M) (T := F_M) (N := 40) (t := 40) (j := 10) hx hb hK hts (fun w h => List.mem_cons_of_mem _ (iw_M w h)) hown rfl rfl (by decide) (hts _ (List.mem_cons_of_mem _ wd_794)) (fun _ h => h) rfl rfl rfl d_M_fits_16 h, List.forall_mem_cons.mpr ⟨fun S h => bs_iload_n (Z := Z) hx hb rfl d_M_fits_19 h, List.forall_mem_cons.mpr ⟨fun S h => bs_Iald (Z := Z) hx hb ha1 d_M_fits_20 h, List.forall_mem_cons.mpr ⟨fun S h => bs_aload_n (Z := Z) hx hb rfl d_M_fits_21 h, List.forall_mem_cons.mpr ⟨fun S h => bs_gR (Z := Z) (C := R_M) (T := F_M) (N := 40) (t := 40) (j := 14) hx hb hK hts (fun w h => List.mem_cons_of_mem _ (iw_M w h)) hown rfl rfl (by decide) (hts _ (List.mem_cons_of_mem _ wd_798)) (fun _ h => h) rfl rfl rfl d_M_fits_22 h, List.forall_mem_cons.mpr ⟨fun S h => bs_iload_n (Z := Z) hx hb rfl d_M_fits_25 h, List.forall_mem_cons.mpr ⟨fun S h => bs_Iald (Z := Z) hx hb ha1 d_M_fits_26 h, List.forall_mem_cons.mpr ⟨fun S h => bs_icmp_lt (Z := Z) hx hb d_M_fits_27 (by decide) h, List.forall_mem_cons.mpr ⟨fun S h => bs_aload_n (Z := Z) hx hb rfl d_M_fits_30 h, List.forall_mem_cons.mpr ⟨fun S h => bs_gR (Z := Z) (C := R_M) (T := F_M) (N := 40) (t := 40) (j := 10) hx hb hK hts (fun w h => List.mem_cons_of_mem _ (iw_M w h)) hown rfl rfl (by decide) (hts _ (List.mem_cons_of_mem _ wd_794)) (fun _ h => h) rfl rfl rfl d_M_fits_31 h, List.forall_mem_cons.mpr ⟨fun S h => bs_iload_n (Z := Z) hx hb rfl d_M_fits_34 h, List.forall_mem_cons.mpr ⟨fun S h => bs_Iald (Z := Z) hx hb ha1 d_M_fits_35 h, List.forall_mem_cons.mpr ⟨fun S h => bs_aload_n (Z := Z) hx hb rfl d_M_fits_36 h, List.forall_mem_cons.mpr ⟨fun S h => bs_gR (Z := Z) (C := R_M) (T := F_M) (N := 40) (t := 40) (j := 15) hx hb hK hts (fun w h => List.mem_cons_of_mem _ (iw_M w h)) hown rfl rfl (by decide) (hts _ (List.mem_cons_of_mem _ wd_799)) (fun _ h => h) rfl rfl rfl d_M_fits_37 h, List.forall_mem_cons.mpr ⟨fun S h => bs_iload_n (Z := Z) hx hb rfl d_M_fits_40 h, List.forall_mem_cons.mpr ⟨fun S h => bs_Iald (Z := Z) hx hb ha1 d_M_fits_41 h, List.forall_mem_cons.mpr ⟨fun S h => bs_icmp_gt (Z := Z) hx hb d_M_fits_42 (by decide) h, List.forall_mem_cons.mpr ⟨fun S h => bs_iconst (Z := Z) hx hb (by decide) d_M_fits_45 h, List.forall_mem_cons.mpr ⟨fun S h => bs_goto (Z := Z) hx hb d_M_fits_46 (by decide) h, List.forall_mem_cons.mpr ⟨fun S h => bs_iconst (Z := Z) hx hb (by decide) d_M_fits_49 h, List.forall_mem_cons.mpr ⟨fun S h => bs_zret (Z := Z) hx hb hr hlocks d_M_fits_50 h, fun _ h => absurd h List.not_mem_nil⟩⟩⟩⟩⟩⟩⟩⟩⟩⟩⟩⟩⟩⟩⟩⟩⟩⟩⟩⟩⟩⟩⟩⟩⟩⟩⟩⟩⟩⟩⟩
abbrev c_M_find : ByteArray := prog_10_method_16_code
def y_M_find : MethodName := ⟨"BundleHallModel", "find", "(IZ)V"⟩
theorem d_M_find_0 : decode c_M_find 0 = .ok (.aload_n 0, 1) := by decide +kernel
theorem d_M_find_1 : decode c_M_find 1 = .ok (.getfield 69, 3) := by decide +kernel
theorem d_M_find_4 : decode c_M_find 4 = .ok (.iload_n 1, 1) := by decide +kernel
theorem d_M_find_5 : decode c_M_find 5 = .ok (.iconst 0, 1) := by decide +kernel
theorem d_M_find_6 : decode c_M_find 6 = .ok (.iastore, 1) := by decide +kernel
theorem d_M_find_7 : decode c_M_find 7 = .ok (.iconst 0, 1) := by decide +kernel
theorem d_M_find_8 : decode c_M_find 8 = .ok (.istore_n 3, 1) := by decide +kernel
theorem d_M_find_9 : decode c_M_find 9 = .ok (.iload_n 3, 1) := by decide +kernel
theorem d_M_find_10 : decode c_M_find 10 = .ok (.iload_n 2, 1) := by decide +kernel
theorem d_M_find_11 : decode c_M_find 11 = .ok (.ifCond .eq 7, 3) := by decide +kernel
theorem d_M_find_14 : decode c_M_find 14 = .ok (.iconst 1, 1) := by decide +kernel
theorem d_M_find_15 : decode c_M_find 15 = .ok (.goto 4, 3) := by decide +kernel
theorem d_M_find_18 : decode c_M_find 18 = .ok (.iconst 2, 1) := by decide +kernel
theorem d_M_find_19 : decode c_M_find 19 = .ok (.if_icmp .ge 179, 3) := by decide +kernel
theorem d_M_find_22 : decode c_M_find 22 = .ok (.bipush 9, 2) := by decide +kernel
theorem d_M_find_24 : decode c_M_find 24 = .ok (.istore 4, 2) := by decide +kernel
theorem d_M_find_26 : decode c_M_find 26 = .ok (.iload 4, 2) := by decide +kernel
theorem d_M_find_28 : decode c_M_find 28 = .ok (.ifCond .lt 164, 3) := by decide +kernel
theorem d_M_find_31 : decode c_M_find 31 = .ok (.iconst 0, 1) := by decide +kernel
theorem d_M_find_32 : decode c_M_find 32 = .ok (.istore 5, 2) := by decide +kernel
theorem d_M_find_34 : decode c_M_find 34 = .ok (.iload 5, 2) := by decide +kernel
theorem d_M_find_36 : decode c_M_find 36 = .ok (.bipush 8, 2) := by decide +kernel
theorem d_M_find_38 : decode c_M_find 38 = .ok (.if_icmp .ge 148, 3) := by decide +kernel
theorem d_M_find_41 : decode c_M_find 41 = .ok (.iload_n 3, 1) := by decide +kernel
theorem d_M_find_42 : decode c_M_find 42 = .ok (.ifCond .ne 12, 3) := by decide +kernel
theorem d_M_find_45 : decode c_M_find 45 = .ok (.aload_n 0, 1) := by decide +kernel
theorem d_M_find_46 : decode c_M_find 46 = .ok (.iload 5, 2) := by decide +kernel
theorem d_M_find_48 : decode c_M_find 48 = .ok (.invokevirtual 139, 3) := by decide +kernel
theorem d_M_find_51 : decode c_M_find 51 = .ok (.goto 19, 3) := by decide +kernel
theorem d_M_find_54 : decode c_M_find 54 = .ok (.aload_n 0, 1) := by decide +kernel
theorem d_M_find_55 : decode c_M_find 55 = .ok (.getfield 7, 3) := by decide +kernel
theorem d_M_find_58 : decode c_M_find 58 = .ok (.iload 5, 2) := by decide +kernel
theorem d_M_find_60 : decode c_M_find 60 = .ok (.iaload, 1) := by decide +kernel
theorem d_M_find_61 : decode c_M_find 61 = .ok (.iconst 1, 1) := by decide +kernel
theorem d_M_find_62 : decode c_M_find 62 = .ok (.if_icmp .ne 7, 3) := by decide +kernel
theorem d_M_find_65 : decode c_M_find 65 = .ok (.iconst 1, 1) := by decide +kernel
theorem d_M_find_66 : decode c_M_find 66 = .ok (.goto 4, 3) := by decide +kernel
theorem d_M_find_69 : decode c_M_find 69 = .ok (.iconst 0, 1) := by decide +kernel
theorem d_M_find_70 : decode c_M_find 70 = .ok (.istore 6, 2) := by decide +kernel
theorem d_M_find_72 : decode c_M_find 72 = .ok (.iload 6, 2) := by decide +kernel
theorem d_M_find_74 : decode c_M_find 74 = .ok (.ifCond .eq 106, 3) := by decide +kernel
theorem d_M_find_77 : decode c_M_find 77 = .ok (.iload_n 2, 1) := by decide +kernel
theorem d_M_find_78 : decode c_M_find 78 = .ok (.ifCond .ne 15, 3) := by decide +kernel
theorem d_M_find_81 : decode c_M_find 81 = .ok (.aload_n 0, 1) := by decide +kernel
theorem d_M_find_82 : decode c_M_find 82 = .ok (.iload 5, 2) := by decide +kernel
theorem d_M_find_84 : decode c_M_find 84 = .ok (.invokevirtual 142, 3) := by decide +kernel
theorem d_M_find_87 : decode c_M_find 87 = .ok (.ifCond .eq 6, 3) := by decide +kernel
theorem d_M_find_90 : decode c_M_find 90 = .ok (.goto 90, 3) := by decide +kernel
theorem d_M_find_93 : decode c_M_find 93 = .ok (.iconst 3, 1) := by decide +kernel
theorem d_M_find_94 : decode c_M_find 94 = .ok (.iload 5, 2) := by decide +kernel
theorem d_M_find_96 : decode c_M_find 96 = .ok (.imul, 1) := by decide +kernel
theorem d_M_find_97 : decode c_M_find 97 = .ok (.istore 7, 2) := by decide +kernel
theorem d_M_find_99 : decode c_M_find 99 = .ok (.iload 7, 2) := by decide +kernel
theorem d_M_find_101 : decode c_M_find 101 = .ok (.iconst 3, 1) := by decide +kernel
theorem d_M_find_102 : decode c_M_find 102 = .ok (.iload 5, 2) := by decide +kernel
theorem d_M_find_104 : decode c_M_find 104 = .ok (.imul, 1) := by decide +kernel
theorem d_M_find_105 : decode c_M_find 105 = .ok (.aload_n 0, 1) := by decide +kernel
theorem d_M_find_106 : decode c_M_find 106 = .ok (.getfield 33, 3) := by decide +kernel
theorem d_M_find_109 : decode c_M_find 109 = .ok (.iload 5, 2) := by decide +kernel
theorem d_M_find_111 : decode c_M_find 111 = .ok (.iaload, 1) := by decide +kernel
theorem d_M_find_112 : decode c_M_find 112 = .ok (.iadd, 1) := by decide +kernel
theorem d_M_find_113 : decode c_M_find 113 = .ok (.if_icmp .ge 67, 3) := by decide +kernel
theorem d_M_find_116 : decode c_M_find 116 = .ok (.aload_n 0, 1) := by decide +kernel
theorem d_M_find_117 : decode c_M_find 117 = .ok (.getfield 39, 3) := by decide +kernel
theorem d_M_find_120 : decode c_M_find 120 = .ok (.iload 7, 2) := by decide +kernel
theorem d_M_find_122 : decode c_M_find 122 = .ok (.iaload, 1) := by decide +kernel
theorem d_M_find_123 : decode c_M_find 123 = .ok (.iload 4, 2) := by decide +kernel
theorem d_M_find_125 : decode c_M_find 125 = .ok (.if_icmp .ne 49, 3) := by decide +kernel
theorem d_M_find_128 : decode c_M_find 128 = .ok (.aload_n 0, 1) := by decide +kernel
theorem d_M_find_129 : decode c_M_find 129 = .ok (.iload 7, 2) := by decide +kernel
theorem d_M_find_131 : decode c_M_find 131 = .ok (.aload_n 0, 1) := by decide +kernel
theorem d_M_find_132 : decode c_M_find 132 = .ok (.getfield 63, 3) := by decide +kernel
theorem d_M_find_135 : decode c_M_find 135 = .ok (.iload_n 1, 1) := by decide +kernel
theorem d_M_find_136 : decode c_M_find 136 = .ok (.iaload, 1) := by decide +kernel
theorem d_M_find_137 : decode c_M_find 137 = .ok (.invokevirtual 145, 3) := by decide +kernel
theorem d_M_find_140 : decode c_M_find 140 = .ok (.ifCond .ne 6, 3) := by decide +kernel
theorem d_M_find_143 : decode c_M_find 143 = .ok (.goto 31, 3) := by decide +kernel
theorem d_M_find_146 : decode c_M_find 146 = .ok (.aload_n 0, 1) := by decide +kernel
theorem d_M_find_147 : decode c_M_find 147 = .ok (.getfield 66, 3) := by decide +kernel
theorem d_M_find_150 : decode c_M_find 150 = .ok (.bipush 8, 2) := by decide +kernel
theorem d_M_find_152 : decode c_M_find 152 = .ok (.iload_n 1, 1) := by decide +kernel
theorem d_M_find_153 : decode c_M_find 153 = .ok (.imul, 1) := by decide +kernel
theorem d_M_find_154 : decode c_M_find 154 = .ok (.aload_n 0, 1) := by decide +kernel
theorem d_M_find_155 : decode c_M_find 155 = .ok (.getfield 69, 3) := by decide +kernel
theorem d_M_find_158 : decode c_M_find 158 = .ok (.iload_n 1, 1) := by decide +kernel
theorem d_M_find_159 : decode c_M_find 159 = .ok (.iaload, 1) := by decide +kernel
theorem d_M_find_160 : decode c_M_find 160 = .ok (.iadd, 1) := by decide +kernel
theorem d_M_find_161 : decode c_M_find 161 = .ok (.iload 7, 2) := by decide +kernel
theorem d_M_find_163 : decode c_M_find 163 = .ok (.iastore, 1) := by decide +kernel
theorem d_M_find_164 : decode c_M_find 164 = .ok (.aload_n 0, 1) := by decide +kernel
theorem d_M_find_165 : decode c_M_find 165 = .ok (.getfield 69, 3) := by decide +kernel
theorem d_M_find_168 : decode c_M_find 168 = .ok (.iload_n 1, 1) := by decide +kernel
theorem d_M_find_169 : decode c_M_find 169 = .ok (.dup2, 1) := by decide +kernel
theorem d_M_find_170 : decode c_M_find 170 = .ok (.iaload, 1) := by decide +kernel
theorem d_M_find_171 : decode c_M_find 171 = .ok (.iconst 1, 1) := by decide +kernel
theorem d_M_find_172 : decode c_M_find 172 = .ok (.iadd, 1) := by decide +kernel
theorem d_M_find_173 : decode c_M_find 173 = .ok (.iastore, 1) := by decide +kernel
theorem d_M_find_174 : decode c_M_find 174 = .ok (.iinc 7 1, 3) := by decide +kernel
theorem d_M_find_177 : decode c_M_find 177 = .ok (.goto (-78), 3) := by decide +kernel
theorem d_M_find_180 : decode c_M_find 180 = .ok (.iinc 5 1, 3) := by decide +kernel
theorem d_M_find_183 : decode c_M_find 183 = .ok (.goto (-149), 3) := by decide +kernel
theorem d_M_find_186 : decode c_M_find 186 = .ok (.iinc 4 (-1), 3) := by decide +kernel
theorem d_M_find_189 : decode c_M_find 189 = .ok (.goto (-163), 3) := by decide +kernel
theorem d_M_find_192 : decode c_M_find 192 = .ok (.iinc 3 1, 3) := by decide +kernel
theorem d_M_find_195 : decode c_M_find 195 = .ok (.goto (-186), 3) := by decide +kernel
theorem d_M_find_198 : decode c_M_find 198 = .ok (.aload_n 0, 1) := by decide +kernel
theorem d_M_find_199 : decode c_M_find 199 = .ok (.getfield 72, 3) := by decide +kernel
theorem d_M_find_202 : decode c_M_find 202 = .ok (.iload_n 1, 1) := by decide +kernel
theorem d_M_find_203 : decode c_M_find 203 = .ok (.iconst 0, 1) := by decide +kernel
theorem d_M_find_204 : decode c_M_find 204 = .ok (.iastore, 1) := by decide +kernel
theorem d_M_find_205 : decode c_M_find 205 = .ok (.return_, 1) := by decide +kernel
def T_M_find_0 : List (Nat × bh_Op) := [(0, bo_ald 1 0),
  (1, bo_gR 4 40 21 60),
  (4, bo_ild 5 1),
  (5, bo_st 6 (bg_push (.inl (.int 0)))),
  (6, bo_Iast bh_ak bh_al 7),
  (7, bo_st 8 (bg_push (.inl (.int 0)))),
  (8, bo_ist 9 3),
  (9, bo_ild 10 3),
  (10, bo_ild 11 2),
  (11, bo_if1 14 18 (fun x => x = 0)),
  (14, bo_st 15 (bg_push (.inl (.int 1)))),
  (15, bo_go 19),
  (18, bo_st 19 (bg_push (.inl (.int 2)))),
  (19, bo_if2 22 198 (fun x y => y ≤ x)),
  (22, bo_st 24 (bg_push (.inl (.int 9)))),
  (24, bo_ist 26 4),
  (26, bo_ild 28 4),
  (28, bo_if1 31 192 (fun x => x < 0)),
  (31, bo_st 32 (bg_push (.inl (.int 0)))),
  (32, bo_ist 34 5),
  (34, bo_ild 36 5),
  (36, bo_st 38 (bg_push (.inl (.int 8)))),
  (38, bo_if2 41 186 (fun x y => y ≤ x)),
  (41, bo_ild 42 3),
  (42, bo_if1 45 54 (fun x => ¬ x = 0)),
  (45, bo_ald 46 0),
  (46, bo_ild 48 5),
  (48, bo_callV 51 2 0 0 40 F_M_live),
  (51, bo_go 70),
  (54, bo_ald 55 0),
  (55, bo_gR 58 40 1 41),
  (58, bo_ild 60 5),
  (60, bo_Iald bh_ak bh_al 61),
  (61, bo_st 62 (bg_push (.inl (.int 1)))),
  (62, bo_if2 65 69 (fun x y => ¬ x = y)),
  (65, bo_st 66 (bg_push (.inl (.int 1)))),
  (66, bo_go 70),
  (69, bo_st 70 (bg_push (.inl (.int 0)))),
  (70, bo_ist 72 6),
  (72, bo_ild 74 6)]
def T_M_find_1 : List (Nat × bh_Op) := [(74, bo_if1 77 180 (fun x => x = 0)),
  (77, bo_ild 78 2),
  (78, bo_if1 81 93 (fun x => ¬ x = 0)),
  (81, bo_ald 82 0),
  (82, bo_ild 84 5),
  (84, bo_callV 87 2 0 0 40 F_M_named),
  (87, bo_if1 90 93 (fun x => x = 0)),
  (90, bo_go 180),
  (93, bo_st 94 (bg_push (.inl (.int 3)))),
  (94, bo_ild 96 5),
  (96, bo_st 97 (bg_ii (fun x y => x * y))),
  (97, bo_ist 99 7),
  (99, bo_ild 101 7),
  (101, bo_st 102 (bg_push (.inl (.int 3)))),
  (102, bo_ild 104 5),
  (104, bo_st 105 (bg_ii (fun x y => x * y))),
  (105, bo_ald 106 0),
  (106, bo_gR 109 40 8 48),
  (109, bo_ild 111 5),
  (111, bo_Iald bh_ak bh_al 112),
  (112, bo_st 113 (bg_ii (fun x y => x + y))),
  (113, bo_if2 116 180 (fun x y => y ≤ x)),
  (116, bo_ald 117 0),
  (117, bo_gR 120 40 10 50),
  (120, bo_ild 122 7),
  (122, bo_Iald bh_ak bh_al 123),
  (123, bo_ild 125 4),
  (125, bo_if2 128 174 (fun x y => ¬ x = y)),
  (128, bo_ald 129 0),
  (129, bo_ild 131 7),
  (131, bo_ald 132 0),
  (132, bo_gR 135 40 18 58),
  (135, bo_ild 136 1),
  (136, bo_Iald bh_ak bh_al 137),
  (137, bo_callV 140 3 0 0 40 F_M_fits),
  (140, bo_if1 143 146 (fun x => ¬ x = 0)),
  (143, bo_go 174),
  (146, bo_ald 147 0),
  (147, bo_gR 150 40 20 59),
  (150, bo_st 152 (bg_push (.inl (.int 8))))]
def T_M_find_2 : List (Nat × bh_Op) := [(152, bo_ild 153 1),
  (153, bo_st 154 (bg_ii (fun x y => x * y))),
  (154, bo_ald 155 0),
  (155, bo_gR 158 40 21 60),
  (158, bo_ild 159 1),
  (159, bo_Iald bh_ak bh_al 160),
  (160, bo_st 161 (bg_ii (fun x y => x + y))),
  (161, bo_ild 163 7),
  (163, bo_Iast bh_ak bh_al 164),
  (164, bo_ald 165 0),
  (165, bo_gR 168 40 21 60),
  (168, bo_ild 169 1),
  (169, bo_st 170 bg_dup2),
  (170, bo_Iald bh_ak bh_al 171),
  (171, bo_st 172 (bg_push (.inl (.int 1)))),
  (172, bo_st 173 (bg_ii (fun x y => x + y))),
  (173, bo_Iast bh_ak bh_al 174),
  (174, bo_inc 177 7 1),
  (177, bo_go 99),
  (180, bo_inc 183 5 1),
  (183, bo_go 34),
  (186, bo_inc 189 4 (-1)),
  (189, bo_go 26),
  (192, bo_inc 195 3 1),
  (195, bo_go 9),
  (198, bo_ald 199 0),
  (199, bo_gR 202 40 22 61),
  (202, bo_ild 203 1),
  (203, bo_st 204 (bg_push (.inl (.int 0)))),
  (204, bo_Iast bh_ak bh_al 205),
  (205, bo_vret 0)]
def T_M_find : List (Nat × bh_Op) := T_M_find_0 ++ T_M_find_1 ++ T_M_find_2
set_option maxRecDepth 20000 in
theorem mT_M_find_0 : ∀ q ∈ T_M_find_0, bh_mono q.2 := List.forall_mem_cons.mpr ⟨bo_ald_m _ _, List.forall_mem_cons.mpr ⟨bo_gR_m _ _ _ _, List.forall_mem_cons.mpr ⟨bo_ild_m _ _, List.forall_mem_cons.mpr ⟨bo_st_mono (bg_push_m _), List.forall_mem_cons.mpr ⟨bo_Iast_m _ _ _, List.forall_mem_cons.mpr ⟨bo_st_mono (bg_push_m _), List.forall_mem_cons.mpr ⟨bo_ist_m _ _, List.forall_mem_cons.mpr ⟨bo_ild_m _ _, List.forall_mem_cons.mpr ⟨bo_ild_m _ _, List.forall_mem_cons.mpr ⟨bo_if1_m _ _ _, List.forall_mem_cons.mpr ⟨bo_st_mono (bg_push_m _), List.forall_mem_cons.mpr ⟨bo_go_m _, List.forall_mem_cons.mpr ⟨bo_st_mono (bg_push_m _), List.forall_mem_cons.mpr ⟨bo_if2_m _ _ _, List.forall_mem_cons.mpr ⟨bo_st_mono (bg_push_m _), List.forall_mem_cons.mpr ⟨bo_ist_m _ _, List.forall_mem_cons.mpr ⟨bo_ild_m _ _, List.forall_mem_cons.mpr ⟨bo_if1_m _ _ _, List.forall_mem_cons.mpr ⟨bo_st_mono (bg_push_m _), List.forall_mem_cons.mpr ⟨bo_ist_m _ _, List.forall_mem_cons.mpr ⟨bo_ild_m _ _, List.forall_mem_cons.mpr ⟨bo_st_mono (bg_push_m _), List.forall_mem_cons.mpr ⟨bo_if2_m _ _ _, List.forall_mem_cons.mpr ⟨bo_ild_m _ _, List.forall_mem_cons.mpr ⟨bo_if1_m _ _ _, List.forall_mem_cons.mpr ⟨bo_ald_m _ _, List.forall_mem_cons.mpr ⟨bo_ild_m _ _, List.forall_mem_cons.mpr ⟨bo_callV_m (mF_M_live) _ _ _ _ _, List.forall_mem_cons.mpr ⟨bo_go_m _, List.forall_mem_cons.mpr ⟨bo_ald_m _ _, List.forall_mem_cons.mpr ⟨bo_gR_m _ _ _ _, List.forall_mem_cons.mpr ⟨bo_ild_m _ _, List.forall_mem_cons.mpr ⟨bo_Iald_m _ _ _, List.forall_mem_cons.mpr ⟨bo_st_mono (bg_push_m _), List.forall_mem_cons.mpr ⟨bo_if2_m _ _ _, List.forall_mem_cons.mpr ⟨bo_st_mono (bg_push_m _), List.forall_mem_cons.mpr ⟨bo_go_m _, List.forall_mem_cons.mpr ⟨bo_st_mono (bg_push_m _), List.forall_mem_cons.mpr ⟨bo_ist_m _ _, List.forall_mem_cons.mpr ⟨bo_ild_m _ _, fun _ h => absurd h List.not_mem_nil⟩⟩⟩⟩⟩⟩⟩⟩⟩⟩⟩⟩⟩⟩⟩⟩⟩⟩⟩⟩⟩⟩⟩⟩⟩⟩⟩⟩⟩⟩⟩⟩⟩⟩⟩⟩⟩⟩⟩⟩
set_option maxRecDepth 20000 in
theorem mT_M_find_1 : ∀ q ∈ T_M_find_1, bh_mono q.2 := List.forall_mem_cons.mpr ⟨bo_if1_m _ _ _, List.forall_mem_cons.mpr ⟨bo_ild_m _ _, List.forall_mem_cons.mpr ⟨bo_if1_m _ _ _, List.forall_mem_cons.mpr ⟨bo_ald_m _ _, List.forall_mem_cons.mpr ⟨bo_ild_m _ _, List.forall_mem_cons.mpr ⟨bo_callV_m (mF_M_named) _ _ _ _ _, List.forall_mem_cons.mpr ⟨bo_if1_m _ _ _, List.forall_mem_cons.mpr ⟨bo_go_m _, List.forall_mem_cons.mpr ⟨bo_st_mono (bg_push_m _), List.forall_mem_cons.mpr ⟨bo_ild_m _ _, List.forall_mem_cons.mpr ⟨bo_st_mono (bg_ii_m _), List.forall_mem_cons.mpr ⟨bo_ist_m _ _, List.forall_mem_cons.mpr ⟨bo_ild_m _ _, List.forall_mem_cons.mpr ⟨bo_st_mono (bg_push_m _), List.forall_mem_cons.mpr ⟨bo_ild_m _ _, List.forall_mem_cons.mpr ⟨bo_st_mono (bg_ii_m _), List.forall_mem_cons.mpr ⟨bo_ald_m _ _, List.forall_mem_cons.mpr ⟨bo_gR_m _ _ _ _, List.forall_mem_cons.mpr ⟨bo_ild_m _ _, List.forall_mem_cons.mpr ⟨bo_Iald_m _ _ _, List.forall_mem_cons.mpr ⟨bo_st_mono (bg_ii_m _), List.forall_mem_cons.mpr ⟨bo_if2_m _ _ _, List.forall_mem_cons.mpr ⟨bo_ald_m _ _, List.forall_mem_cons.mpr ⟨bo_gR_m _ _ _ _, List.forall_mem_cons.mpr ⟨bo_ild_m _ _, List.forall_mem_cons.mpr ⟨bo_Iald_m _ _ _, List.forall_mem_cons.mpr ⟨bo_ild_m _ _, List.forall_mem_cons.mpr ⟨bo_if2_m _ _ _, List.forall_mem_cons.mpr ⟨bo_ald_m _ _, List.forall_mem_cons.mpr ⟨bo_ild_m _ _, List.forall_mem_cons.mpr ⟨bo_ald_m _ _, List.forall_mem_cons.mpr ⟨bo_gR_m _ _ _ _, List.forall_mem_cons.mpr ⟨bo_ild_m _ _, List.forall_mem_cons.mpr ⟨bo_Iald_m _ _ _, List.forall_mem_cons.mpr ⟨bo_callV_m (mF_M_fits) _ _ _ _ _, List.forall_mem_cons.mpr ⟨bo_if1_m _ _ _, List.forall_mem_cons.mpr ⟨bo_go_m _, List.forall_mem_cons.mpr ⟨bo_ald_m _ _, List.forall_mem_cons.mpr ⟨bo_gR_m _ _ _ _, List.forall_mem_cons.mpr ⟨bo_st_mono (bg_push_m _), fun _ h => absurd h List.not_mem_nil⟩⟩⟩⟩⟩⟩⟩⟩⟩⟩⟩⟩⟩⟩⟩⟩⟩⟩⟩⟩⟩⟩⟩⟩⟩⟩⟩⟩⟩⟩⟩⟩⟩⟩⟩⟩⟩⟩⟩⟩
set_option maxRecDepth 20000 in
theorem mT_M_find_2 : ∀ q ∈ T_M_find_2, bh_mono q.2 := List.forall_mem_cons.mpr ⟨bo_ild_m _ _, List.forall_mem_cons.mpr ⟨bo_st_mono (bg_ii_m _), List.forall_mem_cons.mpr ⟨bo_ald_m _ _, List.forall_mem_cons.mpr ⟨bo_gR_m _ _ _ _, List.forall_mem_cons.mpr ⟨bo_ild_m _ _, List.forall_mem_cons.mpr ⟨bo_Iald_m _ _ _, List.forall_mem_cons.mpr ⟨bo_st_mono (bg_ii_m _), List.forall_mem_cons.mpr ⟨bo_ild_m _ _, List.forall_mem_cons.mpr ⟨bo_Iast_m _ _ _, List.forall_mem_cons.mpr ⟨bo_ald_m _ _, List.forall_mem_cons.mpr ⟨bo_gR_m _ _ _ _, List.forall_mem_cons.mpr ⟨bo_ild_m _ _, List.forall_mem_cons.mpr ⟨bo_st_mono bg_dup2_m, List.forall_mem_cons.mpr ⟨bo_Iald_m _ _ _, List.forall_mem_cons.mpr ⟨bo_st_mono (bg_push_m _), List.forall_mem_cons.mpr ⟨bo_st_mono (bg_ii_m _), List.forall_mem_cons.mpr ⟨bo_Iast_m _ _ _, List.forall_mem_cons.mpr ⟨bo_inc_m _ _ _, List.forall_mem_cons.mpr ⟨bo_go_m _, List.forall_mem_cons.mpr ⟨bo_inc_m _ _ _, List.forall_mem_cons.mpr ⟨bo_go_m _, List.forall_mem_cons.mpr ⟨bo_inc_m _ _ _, List.forall_mem_cons.mpr ⟨bo_go_m _, List.forall_mem_cons.mpr ⟨bo_inc_m _ _ _, List.forall_mem_cons.mpr ⟨bo_go_m _, List.forall_mem_cons.mpr ⟨bo_ald_m _ _, List.forall_mem_cons.mpr ⟨bo_gR_m _ _ _ _, List.forall_mem_cons.mpr ⟨bo_ild_m _ _, List.forall_mem_cons.mpr ⟨bo_st_mono (bg_push_m _), List.forall_mem_cons.mpr ⟨bo_Iast_m _ _ _, List.forall_mem_cons.mpr ⟨bo_vret_m _, fun _ h => absurd h List.not_mem_nil⟩⟩⟩⟩⟩⟩⟩⟩⟩⟩⟩⟩⟩⟩⟩⟩⟩⟩⟩⟩⟩⟩⟩⟩⟩⟩⟩⟩⟩⟩⟩
theorem m_M_find : ∀ pc, bh_mono (bh_tb (T_M_find) pc) := bh_tb_m (List.forall_mem_append.mpr ⟨(List.forall_mem_append.mpr ⟨mT_M_find_0, mT_M_find_1⟩), mT_M_find_2⟩)
def F_M_find : bh_Fn := bh_fn 8 (bh_tb T_M_find)
theorem mF_M_find : bh_monoF F_M_find := bh_fn_m m_M_find
theorem cl_M_find {s : State} {args : Array Value} (d B : Nat) (hts : ∀ w ∈ bh_ws, w.before args s = true) : bh_Cal (bh_rm (d + 1) B) s y_M_find 8 (.code y_M_find c_M_find 8 none :: bh_ws) (bh_rm d 0) 0 2 := bh_cal d B hts wd_968 wd_9 (by decide) (by decide +kernel)
set_option maxHeartbeats 4000000 in
set_option maxRecDepth 100000 in
theorem cn_M_find {l : Launch} {G : bh_G} {base sb L : Nat} {xs : Nat → Int32} (htr : l.stackTraces = false) (d : Nat) : bh_Con l G base (bh_Bg G base sb L xs) y_M_find (.code y_M_find c_M_find 8 none :: bh_ws) (bh_rm (d + 3) 0) 0 false F_M_find := by
  refine bh_method (cc := c_M_find) (ret := none) (by decide +kernel) rfl ?_
  intro p e s m args below meth c ad0 M0 Z X0 hr hlocks hname htab hbs hB
  obtain ⟨hx, hb, hml, hown, hts⟩ := id X0
  have hw : ∀ w ∈ bh_ws, w.before args s = true := fun w h => hts w (List.mem_cons_of_mem _ h)
  have hBg := bh_BgK (G := G) (base := base) (sb := sb) (L := L) (xs := xs)
  obtain ⟨hK, hAr, hen, hinj, hu1, hu2, hstr, hX, hsb, hsc, hxw, hao, hnc⟩ := id hB
  obtain ⟨ha1, ha2, ha3, ha4, ha5, ha6, ha0⟩ := bh_arr hAr
  refine List.forall_mem_append.mpr ⟨?_, List.forall_mem_cons.mpr ⟨fun S h => bs_iload_n (Z := Z) hx hb rfl d_M_find_152 h, List.forall_mem_cons.mpr ⟨fun S h => bs_imul (Z := Z) hx hb d_M_find_153 h, List.forall_mem_cons.mpr ⟨fun S h => bs_aload_n (Z := Z) hx hb rfl d_M_find_154 h, List.forall_mem_cons.mpr ⟨fun S h => bs_gR (Z := Z) (C := R_M) (T := F_M) (N := 40) (t := 40) (j := 21) hx hb hK hts (fun w h => List.mem_cons_of_mem _ (iw_M w h)) hown rfl rfl (by decide) (hts _ (List.mem_cons_of_mem _ wd_805)) (fun _ h => h) rfl rfl rfl d_M_find_155 h, List.forall_mem_cons.mpr ⟨fun S h => bs_iload_n (Z := Z) hx hb rfl d_M_find_158 h, List.forall_mem_cons.mpr ⟨fun S h => bs_Iald (Z := Z) hx hb ha1 d_M_find_159 h, List.forall_mem_cons.mpr ⟨fun S h => bs_iadd (Z := Z) hx hb d_M_find_160 h, List.forall_mem_cons.mpr ⟨fun S h => bs_iload (Z := Z) hx hb d_M_find_161 h, List.forall_mem_cons.mpr ⟨fun S h => bs_Iast (Z := Z) hx hb ha1 d_M_find_163 h, List.forall_mem_cons.mpr ⟨fun S h => bs_aload_n (Z := Z) hx hb rfl d_M_find_164 h, List.forall_mem_cons.mpr ⟨fun S h => bs_gR (Z := Z) (C := R_M) (T := F_M) (N := 40) (t := 40) (j := 21) hx hb hK hts (fun w h => List.mem_cons_of_mem _ (iw_M w h)) hown rfl rfl (by decide) (hts _ (List.mem_cons_of_mem _ wd_805)) (fun _ h => h) rfl rfl rfl d_M_find_165 h, List.forall_mem_cons.mpr ⟨fun S h => bs_iload_n (Z := Z) hx hb rfl d_M_find_168 h, List.forall_mem_cons.mpr ⟨fun S h => bs_dup2 (Z := Z) hx hb d_M_find_169 h, List.forall_mem_cons.mpr ⟨fun S h => bs_Iald (Z := Z) hx hb ha1 d_M_find_170 h, List.forall_mem_cons.mpr ⟨fun S h => bs_iconst (Z := Z) hx hb (by decide) d_M_find_171 h, List.forall_mem_cons.mpr ⟨fun S h => bs_iadd (Z := Z) hx hb d_M_find_172 h, List.forall_mem_cons.mpr ⟨fun S h => bs_Iast (Z := Z) hx hb ha1 d_M_find_173 h, List.forall_mem_cons.mpr ⟨fun S h => bs_iinc (Z := Z) hx hb (by decide) d_M_find_174 h, List.forall_mem_cons.mpr ⟨fun S h => bs_goto (Z := Z) hx hb d_M_find_177 (by decide) h, List.forall_mem_cons.mpr ⟨fun S h => bs_iinc (Z := Z) hx hb (by decide) d_M_find_180 h, List.forall_mem_cons.mpr ⟨fun S h => bs_goto (Z := Z) hx hb d_M_find_183 (by decide) h, List.forall_mem_cons.mpr ⟨fun S h => bs_iinc (Z := Z) hx hb (by decide) d_M_find_186 h, List.forall_mem_cons.mpr ⟨fun S h => bs_goto (Z := Z) hx hb d_M_find_189 (by decide) h, List.forall_mem_cons.mpr ⟨fun S h => bs_iinc (Z := Z) hx hb (by decide) d_M_find_192 h, List.forall_mem_cons.mpr ⟨fun S h => bs_goto (Z := Z) hx hb d_M_find_195 (by decide) h, List.forall_mem_cons.mpr ⟨fun S h => bs_aload_n (Z := Z) hx hb rfl d_M_find_198 h, List.forall_mem_cons.mpr ⟨fun S h => bs_gR (Z := Z) (C := R_M) (T := F_M) (N := 40) (t := 40) (j := 22) hx hb hK hts (fun w h => List.mem_cons_of_mem _ (iw_M w h)) hown rfl rfl (by decide) (hts _ (List.mem_cons_of_mem _ wd_806)) (fun _ h => h) rfl rfl rfl d_M_find_199 h, List.forall_mem_cons.mpr ⟨fun S h => bs_iload_n (Z := Z) hx hb rfl d_M_find_202 h, List.forall_mem_cons.mpr ⟨fun S h => bs_iconst (Z := Z) hx hb (by decide) d_M_find_203 h, List.forall_mem_cons.mpr ⟨fun S h => bs_Iast (Z := Z) hx hb ha1 d_M_find_204 h, List.forall_mem_cons.mpr ⟨fun S h => bs_vret (Z := Z) hx hb hr hlocks d_M_find_205 h, fun _ h => absurd h List.not_mem_nil⟩⟩⟩⟩⟩⟩⟩⟩⟩⟩⟩⟩⟩⟩⟩⟩⟩⟩⟩⟩⟩⟩⟩⟩⟩⟩⟩⟩⟩⟩⟩⟩
  refine List.forall_mem_append.mpr ⟨?_, List.forall_mem_cons.mpr ⟨fun S h => bs_if_eq (Z := Z) hx hb d_M_find_74 (by decide) h, List.forall_mem_cons.mpr ⟨fun S h => bs_iload_n (Z := Z) hx hb rfl d_M_find_77 h, List.forall_mem_cons.mpr ⟨fun S h => bs_if_ne (Z := Z) hx hb d_M_find_78 (by decide) h, List.forall_mem_cons.mpr ⟨fun S h => bs_aload_n (Z := Z) hx hb rfl d_M_find_81 h, List.forall_mem_cons.mpr ⟨fun S h => bs_iload (Z := Z) hx hb d_M_find_82 h, List.forall_mem_cons.mpr ⟨fun S h => bs_callV (Z := Z) (C := R_M) hBg hbs hB X0 hK (cn_M_named htr (d + 0)) (cl_M_named _ _ hw) (hts _ (List.mem_cons_of_mem _ wd_953)) (hts _ (List.mem_cons_of_mem _ wd_955)) (hts _ (List.mem_cons_of_mem _ ws_30)) rfl rfl rfl rfl rfl (Nat.le_refl _) (Nat.le_refl _) d_M_find_84 (bs_out htab hlocks) h, List.forall_mem_cons.mpr ⟨fun S h => bs_if_eq (Z := Z) hx hb d_M_find_87 (by decide) h, List.forall_mem_cons.mpr ⟨fun S h => bs_goto (Z := Z) hx hb d_M_find_90 (by decide) h, List.forall_mem_cons.mpr ⟨fun S h => bs_iconst (Z := Z) hx hb (by decide) d_M_find_93 h, List.forall_mem_cons.mpr ⟨fun S h => bs_iload (Z := Z) hx hb d_M_find_94 h, List.forall_mem_cons.mpr ⟨fun S h => bs_imul (Z := Z) hx hb d_M_find_96 h, List.forall_mem_cons.mpr ⟨fun S h => bs_istore (Z := Z) hx hb d_M_find_97 h, List.forall_mem_cons.mpr ⟨fun S h => bs_iload (Z := Z) hx hb d_M_find_99 h, List.forall_mem_cons.mpr ⟨fun S h => bs_iconst (Z := Z) hx hb (by decide) d_M_find_101 h, List.forall_mem_cons.mpr ⟨fun S h => bs_iload (Z := Z) hx hb d_M_find_102 h, List.forall_mem_cons.mpr ⟨fun S h => bs_imul (Z := Z) hx hb d_M_find_104 h, List.forall_mem_cons.mpr ⟨fun S h => bs_aload_n (Z := Z) hx hb rfl d_M_find_105 h, List.forall_mem_cons.mpr ⟨fun S h => bs_gR (Z := Z) (C := R_M) (T := F_M) (N := 40) (t := 40) (j := 8) hx hb hK hts (fun w h => List.mem_cons_of_mem _ (iw_M w h)) hown rfl rfl (by decide) (hts _ (List.mem_cons_of_mem _ wd_792)) (fun _ h => h) rfl rfl rfl d_M_find_106 h, List.forall_mem_cons.mpr ⟨fun S h => bs_iload (Z := Z) hx hb d_M_find_109 h, List.forall_mem_cons.mpr ⟨fun S h => bs_Iald (Z := Z) hx hb ha1 d_M_find_111 h, List.forall_mem_cons.mpr ⟨fun S h => bs_iadd (Z := Z) hx hb d_M_find_112 h, List.forall_mem_cons.mpr ⟨fun S h => bs_icmp_ge (Z := Z) hx hb d_M_find_113 (by decide) h, List.forall_mem_cons.mpr ⟨fun S h => bs_aload_n (Z := Z) hx hb rfl d_M_find_116 h, List.forall_mem_cons.mpr ⟨fun S h => bs_gR (Z := Z) (C := R_M) (T := F_M) (N := 40) (t := 40) (j := 10) hx hb hK hts (fun w h => List.mem_cons_of_mem _ (iw_M w h)) hown rfl rfl (by decide) (hts _ (List.mem_cons_of_mem _ wd_794)) (fun _ h => h) rfl rfl rfl d_M_find_117 h, List.forall_mem_cons.mpr ⟨fun S h => bs_iload (Z := Z) hx hb d_M_find_120 h, List.forall_mem_cons.mpr ⟨fun S h => bs_Iald (Z := Z) hx hb ha1 d_M_find_122 h, List.forall_mem_cons.mpr ⟨fun S h => bs_iload (Z := Z) hx hb d_M_find_123 h, List.forall_mem_cons.mpr ⟨fun S h => bs_icmp_ne (Z := Z) hx hb d_M_find_125 (by decide) h, List.forall_mem_cons.mpr ⟨fun S h => bs_aload_n (Z := Z) hx hb rfl d_M_find_128 h, List.forall_mem_cons.mpr ⟨fun S h => bs_iload (Z := Z) hx hb d_M_find_129 h, List.forall_mem_cons.mpr ⟨fun S h => bs_aload_n (Z := Z) hx hb rfl d_M_find_131 h, List.forall_mem_cons.mpr ⟨fun S h => bs_gR (Z := Z) (C := R_M) (T := F_M) (N := 40) (t := 40) (j := 18) hx hb hK hts (fun w h => List.mem_cons_of_mem _ (iw_M w h)) hown rfl rfl (by decide) (hts _ (List.mem_cons_of_mem _ wd_802)) (fun _ h => h) rfl rfl rfl d_M_find_132 h, List.forall_mem_cons.mpr ⟨fun S h => bs_iload_n (Z := Z) hx hb rfl d_M_find_135 h, List.forall_mem_cons.mpr ⟨fun S h => bs_Iald (Z := Z) hx hb ha1 d_M_find_136 h, List.forall_mem_cons.mpr ⟨fun S h => bs_callV (Z := Z) (C := R_M) hBg hbs hB X0 hK (cn_M_fits htr (d + 1)) (cl_M_fits _ _ hw) (hts _ (List.mem_cons_of_mem _ wd_969)) (hts _ (List.mem_cons_of_mem _ wd_971)) (hts _ (List.mem_cons_of_mem _ ws_34)) rfl rfl rfl rfl rfl (Nat.le_refl _) (Nat.le_refl _) d_M_find_137 (bs_out htab hlocks) h, List.forall_mem_cons.mpr ⟨fun S h => bs_if_ne (Z := Z) hx hb d_M_find_140 (by decide) h, List.forall_mem_cons.mpr ⟨fun S h => bs_goto (Z := Z) hx hb d_M_find_143 (by decide) h, List.forall_mem_cons.mpr ⟨fun S h => bs_aload_n (Z := Z) hx hb rfl d_M_find_146 h, List.forall_mem_cons.mpr ⟨fun S h => bs_gR (Z := Z) (C := R_M) (T := F_M) (N := 40) (t := 40) (j := 20) hx hb hK hts (fun w h => List.mem_cons_of_mem _ (iw_M w h)) hown rfl rfl (by decide) (hts _ (List.mem_cons_of_mem _ wd_804)) (fun _ h => h) rfl rfl rfl d_M_find_147 h, List.forall_mem_cons.mpr ⟨fun S h => bs_bipush (Z := Z) hx hb (by decide) d_M_find_150 h, fun _ h => absurd h List.not_mem_nil⟩⟩⟩⟩⟩⟩⟩⟩⟩⟩⟩⟩⟩⟩⟩⟩⟩⟩⟩⟩⟩⟩⟩⟩⟩⟩⟩⟩⟩⟩⟩⟩⟩⟩⟩⟩⟩⟩⟩⟩⟩
  exact List.forall_mem_cons.mpr ⟨fun S h => bs_aload_n (Z := Z) hx hb rfl d_M_find_0 h, List.forall_mem_cons.mpr ⟨fun S h => bs_gR (Z := Z) (C := R_M) (T := F_M) (N := 40) (t := 40) (j := 21) hx hb hK hts (fun w h => List.mem_cons_of_mem _ (iw_M w h)) hown rfl rfl (by decide) (hts _ (List.mem_cons_of_mem _ wd_805)) (fun _ h => h) rfl rfl rfl d_M_find_1 h, List.forall_mem_cons.mpr ⟨fun S h => bs_iload_n (Z := Z) hx hb rfl d_M_find_4 h, List.forall_mem_cons.mpr ⟨fun S h => bs_iconst (Z := Z) hx hb (by decide) d_M_find_5 h, List.forall_mem_cons.mpr ⟨fun S h => bs_Iast (Z := Z) hx hb ha1 d_M_find_6 h, List.forall_mem_cons.mpr ⟨fun S h => bs_iconst (Z := Z) hx hb (by decide) d_M_find_7 h, List.forall_mem_cons.mpr ⟨fun S h => bs_istore_n (Z := Z) hx hb rfl d_M_find_8 h, List.forall_mem_cons.mpr ⟨fun S h => bs_iload_n (Z := Z) hx hb rfl d_M_find_9 h, List.forall_mem_cons.mpr ⟨fun S h => bs_iload_n (Z := Z) hx hb rfl d_M_find_10 h, List.forall_mem_cons.mpr ⟨fun S h => bs_if_eq (Z := Z) hx hb d_M_find_11 (by decide) h, List.forall_mem_cons.mpr ⟨fun S h => bs_iconst (Z := Z) hx hb (by decide) d_M_find_14 h, List.forall_mem_cons.mpr ⟨fun S h => bs_goto (Z := Z) hx hb d_M_find_15 (by decide) h, List.forall_mem_cons.mpr ⟨fun S h => bs_iconst (Z := Z) hx hb (by decide) d_M_find_18 h, List.forall_mem_cons.mpr ⟨fun S h => bs_icmp_ge (Z := Z) hx hb d_M_find_19 (by decide) h, List.forall_mem_cons.mpr ⟨fun S h => bs_bipush (Z := Z) hx hb (by decide) d_M_find_22 h, List.forall_mem_cons.mpr ⟨fun S h => bs_istore (Z := Z) hx hb d_M_find_24 h, List.forall_mem_cons.mpr ⟨fun S h => bs_iload (Z := Z) hx hb d_M_find_26 h, List.forall_mem_cons.mpr ⟨fun S h => bs_if_lt (Z := Z) hx hb d_M_find_28 (by decide) h, List.forall_mem_cons.mpr ⟨fun S h => bs_iconst (Z := Z) hx hb (by decide) d_M_find_31 h, List.forall_mem_cons.mpr ⟨fun S h => bs_istore (Z := Z) hx hb d_M_find_32 h, List.forall_mem_cons.mpr ⟨fun S h => bs_iload (Z := Z) hx hb d_M_find_34 h, List.forall_mem_cons.mpr ⟨fun S h => bs_bipush (Z := Z) hx hb (by decide) d_M_find_36 h, List.forall_mem_cons.mpr ⟨fun S h => bs_icmp_ge (Z := Z) hx hb d_M_find_38 (by decide) h, List.forall_mem_cons.mpr ⟨fun S h => bs_iload_n (Z := Z) hx hb rfl d_M_find_41 h, List.forall_mem_cons.mpr ⟨fun S h => bs_if_ne (Z := Z) hx hb d_M_find_42 (by decide) h, List.forall_mem_cons.mpr ⟨fun S h => bs_aload_n (Z := Z) hx hb rfl d_M_find_45 h, List.forall_mem_cons.mpr ⟨fun S h => bs_iload (Z := Z) hx hb d_M_find_46 h, List.forall_mem_cons.mpr ⟨fun S h => bs_callV (Z := Z) (C := R_M) hBg hbs hB X0 hK (cn_M_live htr (d + 1)) (cl_M_live _ _ hw) (hts _ (List.mem_cons_of_mem _ wd_945)) (hts _ (List.mem_cons_of_mem _ wd_947)) (hts _ (List.mem_cons_of_mem _ ws_28)) rfl rfl rfl rfl rfl (Nat.le_refl _) (Nat.le_refl _) d_M_find_48 (bs_out htab hlocks) h, List.forall_mem_cons.mpr ⟨fun S h => bs_goto (Z := Z) hx hb d_M_find_51 (by decide) h, List.forall_mem_cons.mpr ⟨fun S h => bs_aload_n (Z := Z) hx hb rfl d_M_find_54 h, List.forall_mem_cons.mpr ⟨fun S h => bs_gR (Z := Z) (C := R_M) (T := F_M) (N := 40) (t := 40) (j := 1) hx hb hK hts (fun w h => List.mem_cons_of_mem _ (iw_M w h)) hown rfl rfl (by decide) (hts _ (List.mem_cons_of_mem _ wd_785)) (fun _ h => h) rfl rfl rfl d_M_find_55 h, List.forall_mem_cons.mpr ⟨fun S h => bs_iload (Z := Z) hx hb d_M_find_58 h, List.forall_mem_cons.mpr ⟨fun S h => bs_Iald (Z := Z) hx hb ha1 d_M_find_60 h, List.forall_mem_cons.mpr ⟨fun S h => bs_iconst (Z := Z) hx hb (by decide) d_M_find_61 h, List.forall_mem_cons.mpr ⟨fun S h => bs_icmp_ne (Z := Z) hx hb d_M_find_62 (by decide) h, List.forall_mem_cons.mpr ⟨fun S h => bs_iconst (Z := Z) hx hb (by decide) d_M_find_65 h, List.forall_mem_cons.mpr ⟨fun S h => bs_goto (Z := Z) hx hb d_M_find_66 (by decide) h, List.forall_mem_cons.mpr ⟨fun S h => bs_iconst (Z := Z) hx hb (by decide) d_M_find_69 h, List.forall_mem_cons.mpr ⟨fun S h => bs_istore (Z := Z) hx hb d_M_find_70 h, List.forall_mem_cons.mpr ⟨fun S h => bs_iload (Z := Z) hx hb d_M_find_72 h, fun _ h => absurd h List.not_mem_nil⟩⟩⟩⟩⟩⟩⟩⟩⟩⟩⟩⟩⟩⟩⟩⟩⟩⟩⟩⟩⟩⟩⟩⟩⟩⟩⟩⟩⟩⟩⟩⟩⟩⟩⟩⟩⟩⟩⟩⟩
abbrev c_M_undo : ByteArray := prog_10_method_22_code
def y_M_undo : MethodName := ⟨"BundleHallModel", "undo", "(I)V"⟩
theorem d_M_undo_0 : decode c_M_undo 0 = .ok (.aload_n 0, 1) := by decide +kernel
theorem d_M_undo_1 : decode c_M_undo 1 = .ok (.iload_n 1, 1) := by decide +kernel
theorem d_M_undo_2 : decode c_M_undo 2 = .ok (.putfield 153, 3) := by decide +kernel
theorem d_M_undo_5 : decode c_M_undo 5 = .ok (.aload_n 0, 1) := by decide +kernel
theorem d_M_undo_6 : decode c_M_undo 6 = .ok (.aload_n 0, 1) := by decide +kernel
theorem d_M_undo_7 : decode c_M_undo 7 = .ok (.getfield 75, 3) := by decide +kernel
theorem d_M_undo_10 : decode c_M_undo 10 = .ok (.iload_n 1, 1) := by decide +kernel
theorem d_M_undo_11 : decode c_M_undo 11 = .ok (.iaload, 1) := by decide +kernel
theorem d_M_undo_12 : decode c_M_undo 12 = .ok (.putfield 166, 3) := by decide +kernel
theorem d_M_undo_15 : decode c_M_undo 15 = .ok (.iconst 0, 1) := by decide +kernel
theorem d_M_undo_16 : decode c_M_undo 16 = .ok (.istore_n 2, 1) := by decide +kernel
theorem d_M_undo_17 : decode c_M_undo 17 = .ok (.iload_n 2, 1) := by decide +kernel
theorem d_M_undo_18 : decode c_M_undo 18 = .ok (.bipush 8, 2) := by decide +kernel
theorem d_M_undo_20 : decode c_M_undo 20 = .ok (.if_icmp .ge 35, 3) := by decide +kernel
theorem d_M_undo_23 : decode c_M_undo 23 = .ok (.aload_n 0, 1) := by decide +kernel
theorem d_M_undo_24 : decode c_M_undo 24 = .ok (.getfield 78, 3) := by decide +kernel
theorem d_M_undo_27 : decode c_M_undo 27 = .ok (.iload_n 2, 1) := by decide +kernel
theorem d_M_undo_28 : decode c_M_undo 28 = .ok (.baload, 1) := by decide +kernel
theorem d_M_undo_29 : decode c_M_undo 29 = .ok (.ifCond .eq 20, 3) := by decide +kernel
theorem d_M_undo_32 : decode c_M_undo 32 = .ok (.aload_n 0, 1) := by decide +kernel
theorem d_M_undo_33 : decode c_M_undo 33 = .ok (.getfield 81, 3) := by decide +kernel
theorem d_M_undo_36 : decode c_M_undo 36 = .ok (.iload_n 2, 1) := by decide +kernel
theorem d_M_undo_37 : decode c_M_undo 37 = .ok (.iaload, 1) := by decide +kernel
theorem d_M_undo_38 : decode c_M_undo 38 = .ok (.iload_n 1, 1) := by decide +kernel
theorem d_M_undo_39 : decode c_M_undo 39 = .ok (.if_icmp .ne 10, 3) := by decide +kernel
theorem d_M_undo_42 : decode c_M_undo 42 = .ok (.aload_n 0, 1) := by decide +kernel
theorem d_M_undo_43 : decode c_M_undo 43 = .ok (.getfield 78, 3) := by decide +kernel
theorem d_M_undo_46 : decode c_M_undo 46 = .ok (.iload_n 2, 1) := by decide +kernel
theorem d_M_undo_47 : decode c_M_undo 47 = .ok (.iconst 0, 1) := by decide +kernel
theorem d_M_undo_48 : decode c_M_undo 48 = .ok (.bastore, 1) := by decide +kernel
theorem d_M_undo_49 : decode c_M_undo 49 = .ok (.iinc 2 1, 3) := by decide +kernel
theorem d_M_undo_52 : decode c_M_undo 52 = .ok (.goto (-35), 3) := by decide +kernel
theorem d_M_undo_55 : decode c_M_undo 55 = .ok (.aload_n 0, 1) := by decide +kernel
theorem d_M_undo_56 : decode c_M_undo 56 = .ok (.getfield 72, 3) := by decide +kernel
theorem d_M_undo_59 : decode c_M_undo 59 = .ok (.iload_n 1, 1) := by decide +kernel
theorem d_M_undo_60 : decode c_M_undo 60 = .ok (.dup2, 1) := by decide +kernel
theorem d_M_undo_61 : decode c_M_undo 61 = .ok (.iaload, 1) := by decide +kernel
theorem d_M_undo_62 : decode c_M_undo 62 = .ok (.iconst 1, 1) := by decide +kernel
theorem d_M_undo_63 : decode c_M_undo 63 = .ok (.iadd, 1) := by decide +kernel
theorem d_M_undo_64 : decode c_M_undo 64 = .ok (.iastore, 1) := by decide +kernel
theorem d_M_undo_65 : decode c_M_undo 65 = .ok (.return_, 1) := by decide +kernel
def T_M_undo_0 : List (Nat × bh_Op) := [(0, bo_ald 1 0),
  (1, bo_ild 2 1),
  (2, bo_pI 5 40 26),
  (5, bo_ald 6 0),
  (6, bo_ald 7 0),
  (7, bo_gR 10 40 23 62),
  (10, bo_ild 11 1),
  (11, bo_Iald bh_ak bh_al 12),
  (12, bo_pI 15 40 19),
  (15, bo_st 16 (bg_push (.inl (.int 0)))),
  (16, bo_ist 17 2),
  (17, bo_ild 18 2),
  (18, bo_st 20 (bg_push (.inl (.int 8)))),
  (20, bo_if2 23 55 (fun x y => y ≤ x)),
  (23, bo_ald 24 0),
  (24, bo_gR 27 40 24 63),
  (27, bo_ild 28 2),
  (28, bo_Zald bh_ak bh_al 29),
  (29, bo_if1 32 49 (fun x => x = 0)),
  (32, bo_ald 33 0),
  (33, bo_gR 36 40 25 64),
  (36, bo_ild 37 2),
  (37, bo_Iald bh_ak bh_al 38),
  (38, bo_ild 39 1),
  (39, bo_if2 42 49 (fun x y => ¬ x = y)),
  (42, bo_ald 43 0),
  (43, bo_gR 46 40 24 63),
  (46, bo_ild 47 2),
  (47, bo_st 48 (bg_push (.inl (.int 0)))),
  (48, bo_Zast bh_ak bh_al 49),
  (49, bo_inc 52 2 1),
  (52, bo_go 17),
  (55, bo_ald 56 0),
  (56, bo_gR 59 40 22 61),
  (59, bo_ild 60 1),
  (60, bo_st 61 bg_dup2),
  (61, bo_Iald bh_ak bh_al 62),
  (62, bo_st 63 (bg_push (.inl (.int 1)))),
  (63, bo_st 64 (bg_ii (fun x y => x + y))),
  (64, bo_Iast bh_ak bh_al 65)]
def T_M_undo_1 : List (Nat × bh_Op) := [(65, bo_vret 0)]
def T_M_undo : List (Nat × bh_Op) := T_M_undo_0 ++ T_M_undo_1
set_option maxRecDepth 20000 in
theorem mT_M_undo_0 : ∀ q ∈ T_M_undo_0, bh_mono q.2 := List.forall_mem_cons.mpr ⟨bo_ald_m _ _, List.forall_mem_cons.mpr ⟨bo_ild_m _ _, List.forall_mem_cons.mpr ⟨bo_pI_m _ _ _, List.forall_mem_cons.mpr ⟨bo_ald_m _ _, List.forall_mem_cons.mpr ⟨bo_ald_m _ _, List.forall_mem_cons.mpr ⟨bo_gR_m _ _ _ _, List.forall_mem_cons.mpr ⟨bo_ild_m _ _, List.forall_mem_cons.mpr ⟨bo_Iald_m _ _ _, List.forall_mem_cons.mpr ⟨bo_pI_m _ _ _, List.forall_mem_cons.mpr ⟨bo_st_mono (bg_push_m _), List.forall_mem_cons.mpr ⟨bo_ist_m _ _, List.forall_mem_cons.mpr ⟨bo_ild_m _ _, List.forall_mem_cons.mpr ⟨bo_st_mono (bg_push_m _), List.forall_mem_cons.mpr ⟨bo_if2_m _ _ _, List.forall_mem_cons.mpr ⟨bo_ald_m _ _, List.forall_mem_cons.mpr ⟨bo_gR_m _ _ _ _, List.forall_mem_cons.mpr ⟨bo_ild_m _ _, List.forall_mem_cons.mpr ⟨bo_Zald_m _ _ _, List.forall_mem_cons.mpr ⟨bo_if1_m _ _ _, List.forall_mem_cons.mpr ⟨bo_ald_m _ _, List.forall_mem_cons.mpr ⟨bo_gR_m _ _ _ _, List.forall_mem_cons.mpr ⟨bo_ild_m _ _, List.forall_mem_cons.mpr ⟨bo_Iald_m _ _ _, List.forall_mem_cons.mpr ⟨bo_ild_m _ _, List.forall_mem_cons.mpr ⟨bo_if2_m _ _ _, List.forall_mem_cons.mpr ⟨bo_ald_m _ _, List.forall_mem_cons.mpr ⟨bo_gR_m _ _ _ _, List.forall_mem_cons.mpr ⟨bo_ild_m _ _, List.forall_mem_cons.mpr ⟨bo_st_mono (bg_push_m _), List.forall_mem_cons.mpr ⟨bo_Zast_m _ _ _, List.forall_mem_cons.mpr ⟨bo_inc_m _ _ _, List.forall_mem_cons.mpr ⟨bo_go_m _, List.forall_mem_cons.mpr ⟨bo_ald_m _ _, List.forall_mem_cons.mpr ⟨bo_gR_m _ _ _ _, List.forall_mem_cons.mpr ⟨bo_ild_m _ _, List.forall_mem_cons.mpr ⟨bo_st_mono bg_dup2_m, List.forall_mem_cons.mpr ⟨bo_Iald_m _ _ _, List.forall_mem_cons.mpr ⟨bo_st_mono (bg_push_m _), List.forall_mem_cons.mpr ⟨bo_st_mono (bg_ii_m _), List.forall_mem_cons.mpr ⟨bo_Iast_m _ _ _, fun _ h => absurd h List.not_mem_nil⟩⟩⟩⟩⟩⟩⟩⟩⟩⟩⟩⟩⟩⟩⟩⟩⟩⟩⟩⟩⟩⟩⟩⟩⟩⟩⟩⟩⟩⟩⟩⟩⟩⟩⟩⟩⟩⟩⟩⟩
set_option maxRecDepth 20000 in
theorem mT_M_undo_1 : ∀ q ∈ T_M_undo_1, bh_mono q.2 := List.forall_mem_cons.mpr ⟨bo_vret_m _, fun _ h => absurd h List.not_mem_nil⟩
theorem m_M_undo : ∀ pc, bh_mono (bh_tb (T_M_undo) pc) := bh_tb_m (List.forall_mem_append.mpr ⟨mT_M_undo_0, mT_M_undo_1⟩)
def F_M_undo : bh_Fn := bh_fn 3 (bh_tb T_M_undo)
theorem mF_M_undo : bh_monoF F_M_undo := bh_fn_m m_M_undo
theorem cl_M_undo {s : State} {args : Array Value} (d B : Nat) (hts : ∀ w ∈ bh_ws, w.before args s = true) : bh_Cal (bh_rm (d + 1) B) s y_M_undo 3 (.code y_M_undo c_M_undo 3 none :: bh_ws) (bh_rm d 0) 0 1 := bh_cal d B hts wd_976 wd_9 (by decide) (by decide +kernel)
set_option maxHeartbeats 4000000 in
set_option maxRecDepth 100000 in
theorem cn_M_undo {l : Launch} {G : bh_G} {base sb L : Nat} {xs : Nat → Int32} (htr : l.stackTraces = false) (d : Nat) : bh_Con l G base (bh_Bg G base sb L xs) y_M_undo (.code y_M_undo c_M_undo 3 none :: bh_ws) (bh_rm (d + 1) 0) 0 false F_M_undo := by
  refine bh_method (cc := c_M_undo) (ret := none) (by decide +kernel) rfl ?_
  intro p e s m args below meth c ad0 M0 Z X0 hr hlocks hname htab hbs hB
  obtain ⟨hx, hb, hml, hown, hts⟩ := id X0
  have hw : ∀ w ∈ bh_ws, w.before args s = true := fun w h => hts w (List.mem_cons_of_mem _ h)
  have hBg := bh_BgK (G := G) (base := base) (sb := sb) (L := L) (xs := xs)
  obtain ⟨hK, hAr, hen, hinj, hu1, hu2, hstr, hX, hsb, hsc, hxw, hao, hnc⟩ := id hB
  obtain ⟨ha1, ha2, ha3, ha4, ha5, ha6, ha0⟩ := bh_arr hAr
  refine List.forall_mem_append.mpr ⟨?_, List.forall_mem_cons.mpr ⟨fun S h => bs_vret (Z := Z) hx hb hr hlocks d_M_undo_65 h, fun _ h => absurd h List.not_mem_nil⟩⟩
  exact List.forall_mem_cons.mpr ⟨fun S h => bs_aload_n (Z := Z) hx hb rfl d_M_undo_0 h, List.forall_mem_cons.mpr ⟨fun S h => bs_iload_n (Z := Z) hx hb rfl d_M_undo_1 h, List.forall_mem_cons.mpr ⟨fun S h => bs_pI (Z := Z) (C := R_M) (T := F_M) (N := 40) (t := 40) (j := 26) hx hb hK hts (fun w h => List.mem_cons_of_mem _ (iw_M w h)) hown rfl rfl (by decide) (hts _ (List.mem_cons_of_mem _ wd_810)) (fun _ h => h) rfl rfl t_M t_M_ok n_M rfl (by decide +kernel) rfl d_M_undo_2 h, List.forall_mem_cons.mpr ⟨fun S h => bs_aload_n (Z := Z) hx hb rfl d_M_undo_5 h, List.forall_mem_cons.mpr ⟨fun S h => bs_aload_n (Z := Z) hx hb rfl d_M_undo_6 h, List.forall_mem_cons.mpr ⟨fun S h => bs_gR (Z := Z) (C := R_M) (T := F_M) (N := 40) (t := 40) (j := 23) hx hb hK hts (fun w h => List.mem_cons_of_mem _ (iw_M w h)) hown rfl rfl (by decide) (hts _ (List.mem_cons_of_mem _ wd_807)) (fun _ h => h) rfl rfl rfl d_M_undo_7 h, List.forall_mem_cons.mpr ⟨fun S h => bs_iload_n (Z := Z) hx hb rfl d_M_undo_10 h, List.forall_mem_cons.mpr ⟨fun S h => bs_Iald (Z := Z) hx hb ha1 d_M_undo_11 h, List.forall_mem_cons.mpr ⟨fun S h => bs_pI (Z := Z) (C := R_M) (T := F_M) (N := 40) (t := 40) (j := 19) hx hb hK hts (fun w h => List.mem_cons_of_mem _ (iw_M w h)) hown rfl rfl (by decide) (hts _ (List.mem_cons_of_mem _ wd_803)) (fun _ h => h) rfl rfl t_M t_M_ok n_M rfl (by decide +kernel) rfl d_M_undo_12 h, List.forall_mem_cons.mpr ⟨fun S h => bs_iconst (Z := Z) hx hb (by decide) d_M_undo_15 h, List.forall_mem_cons.mpr ⟨fun S h => bs_istore_n (Z := Z) hx hb rfl d_M_undo_16 h, List.forall_mem_cons.mpr ⟨fun S h => bs_iload_n (Z := Z) hx hb rfl d_M_undo_17 h, List.forall_mem_cons.mpr ⟨fun S h => bs_bipush (Z := Z) hx hb (by decide) d_M_undo_18 h, List.forall_mem_cons.mpr ⟨fun S h => bs_icmp_ge (Z := Z) hx hb d_M_undo_20 (by decide) h, List.forall_mem_cons.mpr ⟨fun S h => bs_aload_n (Z := Z) hx hb rfl d_M_undo_23 h, List.forall_mem_cons.mpr ⟨fun S h => bs_gR (Z := Z) (C := R_M) (T := F_M) (N := 40) (t := 40) (j := 24) hx hb hK hts (fun w h => List.mem_cons_of_mem _ (iw_M w h)) hown rfl rfl (by decide) (hts _ (List.mem_cons_of_mem _ wd_808)) (fun _ h => h) rfl rfl rfl d_M_undo_24 h, List.forall_mem_cons.mpr ⟨fun S h => bs_iload_n (Z := Z) hx hb rfl d_M_undo_27 h, List.forall_mem_cons.mpr ⟨fun S h => bs_Zald (Z := Z) hx hb ha2 d_M_undo_28 h, List.forall_mem_cons.mpr ⟨fun S h => bs_if_eq (Z := Z) hx hb d_M_undo_29 (by decide) h, List.forall_mem_cons.mpr ⟨fun S h => bs_aload_n (Z := Z) hx hb rfl d_M_undo_32 h, List.forall_mem_cons.mpr ⟨fun S h => bs_gR (Z := Z) (C := R_M) (T := F_M) (N := 40) (t := 40) (j := 25) hx hb hK hts (fun w h => List.mem_cons_of_mem _ (iw_M w h)) hown rfl rfl (by decide) (hts _ (List.mem_cons_of_mem _ wd_809)) (fun _ h => h) rfl rfl rfl d_M_undo_33 h, List.forall_mem_cons.mpr ⟨fun S h => bs_iload_n (Z := Z) hx hb rfl d_M_undo_36 h, List.forall_mem_cons.mpr ⟨fun S h => bs_Iald (Z := Z) hx hb ha1 d_M_undo_37 h, List.forall_mem_cons.mpr ⟨fun S h => bs_iload_n (Z := Z) hx hb rfl d_M_undo_38 h, List.forall_mem_cons.mpr ⟨fun S h => bs_icmp_ne (Z := Z) hx hb d_M_undo_39 (by decide) h, List.forall_mem_cons.mpr ⟨fun S h => bs_aload_n (Z := Z) hx hb rfl d_M_undo_42 h, List.forall_mem_cons.mpr ⟨fun S h => bs_gR (Z := Z) (C := R_M) (T := F_M) (N := 40) (t := 40) (j := 24) hx hb hK hts (fun w h => List.mem_cons_of_mem _ (iw_M w h)) hown rfl rfl (by decide) (hts _ (List.mem_cons_of_mem _ wd_808)) (fun _ h => h) rfl rfl rfl d_M_undo_43 h, List.forall_mem_cons.mpr ⟨fun S h => bs_iload_n (Z := Z) hx hb rfl d_M_undo_46 h, List.forall_mem_cons.mpr ⟨fun S h => bs_iconst (Z := Z) hx hb (by decide) d_M_undo_47 h, List.forall_mem_cons.mpr ⟨fun S h => bs_Zast (Z := Z) hx hb ha2 d_M_undo_48 h, List.forall_mem_cons.mpr ⟨fun S h => bs_iinc (Z := Z) hx hb (by decide) d_M_undo_49 h, List.forall_mem_cons.mpr ⟨fun S h => bs_goto (Z := Z) hx hb d_M_undo_52 (by decide) h, List.forall_mem_cons.mpr ⟨fun S h => bs_aload_n (Z := Z) hx hb rfl d_M_undo_55 h, List.forall_mem_cons.mpr ⟨fun S h => bs_gR (Z := Z) (C := R_M) (T := F_M) (N := 40) (t := 40) (j := 22) hx hb hK hts (fun w h => List.mem_cons_of_mem _ (iw_M w h)) hown rfl rfl (by decide) (hts _ (List.mem_cons_of_mem _ wd_806)) (fun _ h => h) rfl rfl rfl d_M_undo_56 h, List.forall_mem_cons.mpr ⟨fun S h => bs_iload_n (Z := Z) hx hb rfl d_M_undo_59 h, List.forall_mem_cons.mpr ⟨fun S h => bs_dup2 (Z := Z) hx hb d_M_undo_60 h, List.forall_mem_cons.mpr ⟨fun S h => bs_Iald (Z := Z) hx hb ha1 d_M_undo_61 h, List.forall_mem_cons.mpr ⟨fun S h => bs_iconst (Z := Z) hx hb (by decide) d_M_undo_62 h, List.forall_mem_cons.mpr ⟨fun S h => bs_iadd (Z := Z) hx hb d_M_undo_63 h, List.forall_mem_cons.mpr ⟨fun S h => bs_Iast (Z := Z) hx hb ha1 d_M_undo_64 h, fun _ h => absurd h List.not_mem_nil⟩⟩⟩⟩⟩⟩⟩⟩⟩⟩⟩⟩⟩⟩⟩⟩⟩⟩⟩⟩⟩⟩⟩⟩⟩⟩⟩⟩⟩⟩⟩⟩⟩⟩⟩⟩⟩⟩⟩⟩
abbrev c_M_choice : ByteArray := prog_10_method_17_code
def y_M_choice : MethodName := ⟨"BundleHallModel", "choice", "(I)I"⟩
theorem d_M_choice_0 : decode c_M_choice 0 = .ok (.aload_n 0, 1) := by decide +kernel
theorem d_M_choice_1 : decode c_M_choice 1 = .ok (.getfield 66, 3) := by decide +kernel
theorem d_M_choice_4 : decode c_M_choice 4 = .ok (.bipush 8, 2) := by decide +kernel
theorem d_M_choice_6 : decode c_M_choice 6 = .ok (.iload_n 1, 1) := by decide +kernel
theorem d_M_choice_7 : decode c_M_choice 7 = .ok (.imul, 1) := by decide +kernel
theorem d_M_choice_8 : decode c_M_choice 8 = .ok (.aload_n 0, 1) := by decide +kernel
theorem d_M_choice_9 : decode c_M_choice 9 = .ok (.getfield 72, 3) := by decide +kernel
theorem d_M_choice_12 : decode c_M_choice 12 = .ok (.iload_n 1, 1) := by decide +kernel
theorem d_M_choice_13 : decode c_M_choice 13 = .ok (.iaload, 1) := by decide +kernel
theorem d_M_choice_14 : decode c_M_choice 14 = .ok (.iadd, 1) := by decide +kernel
theorem d_M_choice_15 : decode c_M_choice 15 = .ok (.iaload, 1) := by decide +kernel
theorem d_M_choice_16 : decode c_M_choice 16 = .ok (.ireturn, 1) := by decide +kernel
def T_M_choice_0 : List (Nat × bh_Op) := [(0, bo_ald 1 0),
  (1, bo_gR 4 40 20 59),
  (4, bo_st 6 (bg_push (.inl (.int 8)))),
  (6, bo_ild 7 1),
  (7, bo_st 8 (bg_ii (fun x y => x * y))),
  (8, bo_ald 9 0),
  (9, bo_gR 12 40 22 61),
  (12, bo_ild 13 1),
  (13, bo_Iald bh_ak bh_al 14),
  (14, bo_st 15 (bg_ii (fun x y => x + y))),
  (15, bo_Iald bh_ak bh_al 16),
  (16, bo_iret 0)]
def T_M_choice : List (Nat × bh_Op) := T_M_choice_0
set_option maxRecDepth 20000 in
theorem mT_M_choice_0 : ∀ q ∈ T_M_choice_0, bh_mono q.2 := List.forall_mem_cons.mpr ⟨bo_ald_m _ _, List.forall_mem_cons.mpr ⟨bo_gR_m _ _ _ _, List.forall_mem_cons.mpr ⟨bo_st_mono (bg_push_m _), List.forall_mem_cons.mpr ⟨bo_ild_m _ _, List.forall_mem_cons.mpr ⟨bo_st_mono (bg_ii_m _), List.forall_mem_cons.mpr ⟨bo_ald_m _ _, List.forall_mem_cons.mpr ⟨bo_gR_m _ _ _ _, List.forall_mem_cons.mpr ⟨bo_ild_m _ _, List.forall_mem_cons.mpr ⟨bo_Iald_m _ _ _, List.forall_mem_cons.mpr ⟨bo_st_mono (bg_ii_m _), List.forall_mem_cons.mpr ⟨bo_Iald_m _ _ _, List.forall_mem_cons.mpr ⟨bo_iret_m _, fun _ h => absurd h List.not_mem_nil⟩⟩⟩⟩⟩⟩⟩⟩⟩⟩⟩⟩
theorem m_M_choice : ∀ pc, bh_mono (bh_tb (T_M_choice) pc) := bh_tb_m mT_M_choice_0
def F_M_choice : bh_Fn := bh_fn 2 (bh_tb T_M_choice)
theorem mF_M_choice : bh_monoF F_M_choice := bh_fn_m m_M_choice
theorem cl_M_choice {s : State} {args : Array Value} (d B : Nat) (hts : ∀ w ∈ bh_ws, w.before args s = true) : bh_Cal (bh_rm (d + 1) B) s y_M_choice 2 (.code y_M_choice c_M_choice 2 (some .int) :: bh_ws) (bh_rm d 0) 0 1 := bh_cal d B hts wd_980 wd_9 (by decide) (by decide +kernel)
set_option maxHeartbeats 4000000 in
set_option maxRecDepth 100000 in
theorem cn_M_choice {l : Launch} {G : bh_G} {base sb L : Nat} {xs : Nat → Int32} (htr : l.stackTraces = false) (d : Nat) : bh_Con l G base (bh_Bg G base sb L xs) y_M_choice (.code y_M_choice c_M_choice 2 (some .int) :: bh_ws) (bh_rm (d + 1) 0) 0 false F_M_choice := by
  refine bh_method (cc := c_M_choice) (ret := (some .int)) (by decide +kernel) rfl ?_
  intro p e s m args below meth c ad0 M0 Z X0 hr hlocks hname htab hbs hB
  obtain ⟨hx, hb, hml, hown, hts⟩ := id X0
  have hw : ∀ w ∈ bh_ws, w.before args s = true := fun w h => hts w (List.mem_cons_of_mem _ h)
  have hBg := bh_BgK (G := G) (base := base) (sb := sb) (L := L) (xs := xs)
  obtain ⟨hK, hAr, hen, hinj, hu1, hu2, hstr, hX, hsb, hsc, hxw, hao, hnc⟩ := id hB
  obtain ⟨ha1, ha2, ha3, ha4, ha5, ha6, ha0⟩ := bh_arr hAr
  exact List.forall_mem_cons.mpr ⟨fun S h => bs_aload_n (Z := Z) hx hb rfl d_M_choice_0 h, List.forall_mem_cons.mpr ⟨fun S h => bs_gR (Z := Z) (C := R_M) (T := F_M) (N := 40) (t := 40) (j := 20) hx hb hK hts (fun w h => List.mem_cons_of_mem _ (iw_M w h)) hown rfl rfl (by decide) (hts _ (List.mem_cons_of_mem _ wd_804)) (fun _ h => h) rfl rfl rfl d_M_choice_1 h, List.forall_mem_cons.mpr ⟨fun S h => bs_bipush (Z := Z) hx hb (by decide) d_M_choice_4 h, List.forall_mem_cons.mpr ⟨fun S h => bs_iload_n (Z := Z) hx hb rfl d_M_choice_6 h, List.forall_mem_cons.mpr ⟨fun S h => bs_imul (Z := Z) hx hb d_M_choice_7 h, List.forall_mem_cons.mpr ⟨fun S h => bs_aload_n (Z := Z) hx hb rfl d_M_choice_8 h, List.forall_mem_cons.mpr ⟨fun S h => bs_gR (Z := Z) (C := R_M) (T := F_M) (N := 40) (t := 40) (j := 22) hx hb hK hts (fun w h => List.mem_cons_of_mem _ (iw_M w h)) hown rfl rfl (by decide) (hts _ (List.mem_cons_of_mem _ wd_806)) (fun _ h => h) rfl rfl rfl d_M_choice_9 h, List.forall_mem_cons.mpr ⟨fun S h => bs_iload_n (Z := Z) hx hb rfl d_M_choice_12 h, List.forall_mem_cons.mpr ⟨fun S h => bs_Iald (Z := Z) hx hb ha1 d_M_choice_13 h, List.forall_mem_cons.mpr ⟨fun S h => bs_iadd (Z := Z) hx hb d_M_choice_14 h, List.forall_mem_cons.mpr ⟨fun S h => bs_Iald (Z := Z) hx hb ha1 d_M_choice_15 h, List.forall_mem_cons.mpr ⟨fun S h => bs_iret (Z := Z) hx hb hr hlocks d_M_choice_16 h, fun _ h => absurd h List.not_mem_nil⟩⟩⟩⟩⟩⟩⟩⟩⟩⟩⟩⟩
abbrev c_M_port : ByteArray := prog_10_method_13_code
def y_M_port : MethodName := ⟨"BundleHallModel", "port", "(I)J"⟩
theorem d_M_port_0 : decode c_M_port 0 = .ok (.aload_n 0, 1) := by decide +kernel
theorem d_M_port_1 : decode c_M_port 1 = .ok (.getfield 29, 3) := by decide +kernel
theorem d_M_port_4 : decode c_M_port 4 = .ok (.iload_n 1, 1) := by decide +kernel
theorem d_M_port_5 : decode c_M_port 5 = .ok (.iconst 3, 1) := by decide +kernel
theorem d_M_port_6 : decode c_M_port 6 = .ok (.idiv, 1) := by decide +kernel
theorem d_M_port_7 : decode c_M_port 7 = .ok (.laload, 1) := by decide +kernel
theorem d_M_port_8 : decode c_M_port 8 = .ok (.ldc2_w 137, 3) := by decide +kernel
theorem d_M_port_11 : decode c_M_port 11 = .ok (.lmul, 1) := by decide +kernel
theorem d_M_port_12 : decode c_M_port 12 = .ok (.iload_n 1, 1) := by decide +kernel
theorem d_M_port_13 : decode c_M_port 13 = .ok (.iconst 3, 1) := by decide +kernel
theorem d_M_port_14 : decode c_M_port 14 = .ok (.idiv, 1) := by decide +kernel
theorem d_M_port_15 : decode c_M_port 15 = .ok (.i2l, 1) := by decide +kernel
theorem d_M_port_16 : decode c_M_port 16 = .ok (.ladd, 1) := by decide +kernel
theorem d_M_port_17 : decode c_M_port 17 = .ok (.ldc2_w 137, 3) := by decide +kernel
theorem d_M_port_20 : decode c_M_port 20 = .ok (.lmul, 1) := by decide +kernel
theorem d_M_port_21 : decode c_M_port 21 = .ok (.aload_n 0, 1) := by decide +kernel
theorem d_M_port_22 : decode c_M_port 22 = .ok (.getfield 36, 3) := by decide +kernel
theorem d_M_port_25 : decode c_M_port 25 = .ok (.iload_n 1, 1) := by decide +kernel
theorem d_M_port_26 : decode c_M_port 26 = .ok (.iaload, 1) := by decide +kernel
theorem d_M_port_27 : decode c_M_port 27 = .ok (.i2l, 1) := by decide +kernel
theorem d_M_port_28 : decode c_M_port 28 = .ok (.ladd, 1) := by decide +kernel
theorem d_M_port_29 : decode c_M_port 29 = .ok (.lreturn, 1) := by decide +kernel
def T_M_port_0 : List (Nat × bh_Op) := [(0, bo_ald 1 0),
  (1, bo_gR 4 40 7 47),
  (4, bo_ild 5 1),
  (5, bo_st 6 (bg_push (.inl (.int 3)))),
  (6, bo_st 7 (bg_dv (fun x y => x / y))),
  (7, bo_Jald bh_ak bh_al 8),
  (8, bo_st 11 (bg_push (.inl (.long 8)))),
  (11, bo_st 12 (bg_ll (fun x y => x * y))),
  (12, bo_ild 13 1),
  (13, bo_st 14 (bg_push (.inl (.int 3)))),
  (14, bo_st 15 (bg_dv (fun x y => x / y))),
  (15, bo_st 16 (bg_i1 (fun x => .inl (.long x.toInt64)))),
  (16, bo_st 17 (bg_ll (fun x y => x + y))),
  (17, bo_st 20 (bg_push (.inl (.long 8)))),
  (20, bo_st 21 (bg_ll (fun x y => x * y))),
  (21, bo_ald 22 0),
  (22, bo_gR 25 40 9 49),
  (25, bo_ild 26 1),
  (26, bo_Iald bh_ak bh_al 27),
  (27, bo_st 28 (bg_i1 (fun x => .inl (.long x.toInt64)))),
  (28, bo_st 29 (bg_ll (fun x y => x + y))),
  (29, bo_jret 0)]
def T_M_port : List (Nat × bh_Op) := T_M_port_0
set_option maxRecDepth 20000 in
theorem mT_M_port_0 : ∀ q ∈ T_M_port_0, bh_mono q.2 := List.forall_mem_cons.mpr ⟨bo_ald_m _ _, List.forall_mem_cons.mpr ⟨bo_gR_m _ _ _ _, List.forall_mem_cons.mpr ⟨bo_ild_m _ _, List.forall_mem_cons.mpr ⟨bo_st_mono (bg_push_m _), List.forall_mem_cons.mpr ⟨bo_st_mono (bg_dv_m _), List.forall_mem_cons.mpr ⟨bo_Jald_m _ _ _, List.forall_mem_cons.mpr ⟨bo_st_mono (bg_push_m _), List.forall_mem_cons.mpr ⟨bo_st_mono (bg_ll_m _), List.forall_mem_cons.mpr ⟨bo_ild_m _ _, List.forall_mem_cons.mpr ⟨bo_st_mono (bg_push_m _), List.forall_mem_cons.mpr ⟨bo_st_mono (bg_dv_m _), List.forall_mem_cons.mpr ⟨bo_st_mono (bg_i1_m _), List.forall_mem_cons.mpr ⟨bo_st_mono (bg_ll_m _), List.forall_mem_cons.mpr ⟨bo_st_mono (bg_push_m _), List.forall_mem_cons.mpr ⟨bo_st_mono (bg_ll_m _), List.forall_mem_cons.mpr ⟨bo_ald_m _ _, List.forall_mem_cons.mpr ⟨bo_gR_m _ _ _ _, List.forall_mem_cons.mpr ⟨bo_ild_m _ _, List.forall_mem_cons.mpr ⟨bo_Iald_m _ _ _, List.forall_mem_cons.mpr ⟨bo_st_mono (bg_i1_m _), List.forall_mem_cons.mpr ⟨bo_st_mono (bg_ll_m _), List.forall_mem_cons.mpr ⟨bo_jret_m _, fun _ h => absurd h List.not_mem_nil⟩⟩⟩⟩⟩⟩⟩⟩⟩⟩⟩⟩⟩⟩⟩⟩⟩⟩⟩⟩⟩⟩
theorem m_M_port : ∀ pc, bh_mono (bh_tb (T_M_port) pc) := bh_tb_m mT_M_port_0
def F_M_port : bh_Fn := bh_fn 2 (bh_tb T_M_port)
theorem mF_M_port : bh_monoF F_M_port := bh_fn_m m_M_port
theorem cl_M_port {s : State} {args : Array Value} (d B : Nat) (hts : ∀ w ∈ bh_ws, w.before args s = true) : bh_Cal (bh_rm (d + 1) B) s y_M_port 2 (.code y_M_port c_M_port 2 (some .long) :: bh_ws) (bh_rm d 0) 0 1 := bh_cal d B hts wd_996 wd_9 (by decide) (by decide +kernel)
set_option maxHeartbeats 4000000 in
set_option maxRecDepth 100000 in
theorem cn_M_port {l : Launch} {G : bh_G} {base sb L : Nat} {xs : Nat → Int32} (htr : l.stackTraces = false) (d : Nat) : bh_Con l G base (bh_Bg G base sb L xs) y_M_port (.code y_M_port c_M_port 2 (some .long) :: bh_ws) (bh_rm (d + 1) 0) 0 false F_M_port := by
  refine bh_method (cc := c_M_port) (ret := (some .long)) (by decide +kernel) rfl ?_
  intro p e s m args below meth c ad0 M0 Z X0 hr hlocks hname htab hbs hB
  obtain ⟨hx, hb, hml, hown, hts⟩ := id X0
  have hw : ∀ w ∈ bh_ws, w.before args s = true := fun w h => hts w (List.mem_cons_of_mem _ h)
  have hBg := bh_BgK (G := G) (base := base) (sb := sb) (L := L) (xs := xs)
  obtain ⟨hK, hAr, hen, hinj, hu1, hu2, hstr, hX, hsb, hsc, hxw, hao, hnc⟩ := id hB
  obtain ⟨ha1, ha2, ha3, ha4, ha5, ha6, ha0⟩ := bh_arr hAr
  exact List.forall_mem_cons.mpr ⟨fun S h => bs_aload_n (Z := Z) hx hb rfl d_M_port_0 h, List.forall_mem_cons.mpr ⟨fun S h => bs_gR (Z := Z) (C := R_M) (T := F_M) (N := 40) (t := 40) (j := 7) hx hb hK hts (fun w h => List.mem_cons_of_mem _ (iw_M w h)) hown rfl rfl (by decide) (hts _ (List.mem_cons_of_mem _ wd_791)) (fun _ h => h) rfl rfl rfl d_M_port_1 h, List.forall_mem_cons.mpr ⟨fun S h => bs_iload_n (Z := Z) hx hb rfl d_M_port_4 h, List.forall_mem_cons.mpr ⟨fun S h => bs_iconst (Z := Z) hx hb (by decide) d_M_port_5 h, List.forall_mem_cons.mpr ⟨fun S h => bs_idiv (Z := Z) hx hb d_M_port_6 h, List.forall_mem_cons.mpr ⟨fun S h => bs_Jald (Z := Z) hx hb ha3 d_M_port_7 h, List.forall_mem_cons.mpr ⟨fun S h => bs_ldcl (Z := Z) hx hb hown (hts _ (List.mem_cons_of_mem _ wd_997)) d_M_port_8 h, List.forall_mem_cons.mpr ⟨fun S h => bs_lmul (Z := Z) hx hb d_M_port_11 h, List.forall_mem_cons.mpr ⟨fun S h => bs_iload_n (Z := Z) hx hb rfl d_M_port_12 h, List.forall_mem_cons.mpr ⟨fun S h => bs_iconst (Z := Z) hx hb (by decide) d_M_port_13 h, List.forall_mem_cons.mpr ⟨fun S h => bs_idiv (Z := Z) hx hb d_M_port_14 h, List.forall_mem_cons.mpr ⟨fun S h => bs_i2l (Z := Z) hx hb d_M_port_15 h, List.forall_mem_cons.mpr ⟨fun S h => bs_ladd (Z := Z) hx hb d_M_port_16 h, List.forall_mem_cons.mpr ⟨fun S h => bs_ldcl (Z := Z) hx hb hown (hts _ (List.mem_cons_of_mem _ wd_997)) d_M_port_17 h, List.forall_mem_cons.mpr ⟨fun S h => bs_lmul (Z := Z) hx hb d_M_port_20 h, List.forall_mem_cons.mpr ⟨fun S h => bs_aload_n (Z := Z) hx hb rfl d_M_port_21 h, List.forall_mem_cons.mpr ⟨fun S h => bs_gR (Z := Z) (C := R_M) (T := F_M) (N := 40) (t := 40) (j := 9) hx hb hK hts (fun w h => List.mem_cons_of_mem _ (iw_M w h)) hown rfl rfl (by decide) (hts _ (List.mem_cons_of_mem _ wd_793)) (fun _ h => h) rfl rfl rfl d_M_port_22 h, List.forall_mem_cons.mpr ⟨fun S h => bs_iload_n (Z := Z) hx hb rfl d_M_port_25 h, List.forall_mem_cons.mpr ⟨fun S h => bs_Iald (Z := Z) hx hb ha1 d_M_port_26 h, List.forall_mem_cons.mpr ⟨fun S h => bs_i2l (Z := Z) hx hb d_M_port_27 h, List.forall_mem_cons.mpr ⟨fun S h => bs_ladd (Z := Z) hx hb d_M_port_28 h, List.forall_mem_cons.mpr ⟨fun S h => bs_jret (Z := Z) hx hb hr hlocks d_M_port_29 h, fun _ h => absurd h List.not_mem_nil⟩⟩⟩⟩⟩⟩⟩⟩⟩⟩⟩⟩⟩⟩⟩⟩⟩⟩⟩⟩⟩⟩
abbrev c_M_source : ByteArray := prog_10_method_18_code
def y_M_source : MethodName := ⟨"BundleHallModel", "source", "(II)J"⟩
theorem d_M_source_0 : decode c_M_source 0 = .ok (.iconst 3, 1) := by decide +kernel
theorem d_M_source_1 : decode c_M_source 1 = .ok (.iload_n 1, 1) := by decide +kernel
theorem d_M_source_2 : decode c_M_source 2 = .ok (.imul, 1) := by decide +kernel
theorem d_M_source_3 : decode c_M_source 3 = .ok (.istore_n 3, 1) := by decide +kernel
theorem d_M_source_4 : decode c_M_source 4 = .ok (.iload_n 3, 1) := by decide +kernel
theorem d_M_source_5 : decode c_M_source 5 = .ok (.iconst 3, 1) := by decide +kernel
theorem d_M_source_6 : decode c_M_source 6 = .ok (.iload_n 1, 1) := by decide +kernel
theorem d_M_source_7 : decode c_M_source 7 = .ok (.imul, 1) := by decide +kernel
theorem d_M_source_8 : decode c_M_source 8 = .ok (.aload_n 0, 1) := by decide +kernel
theorem d_M_source_9 : decode c_M_source 9 = .ok (.getfield 33, 3) := by decide +kernel
theorem d_M_source_12 : decode c_M_source 12 = .ok (.iload_n 1, 1) := by decide +kernel
theorem d_M_source_13 : decode c_M_source 13 = .ok (.iaload, 1) := by decide +kernel
theorem d_M_source_14 : decode c_M_source 14 = .ok (.iadd, 1) := by decide +kernel
theorem d_M_source_15 : decode c_M_source 15 = .ok (.if_icmp .ge 25, 3) := by decide +kernel
theorem d_M_source_18 : decode c_M_source 18 = .ok (.aload_n 0, 1) := by decide +kernel
theorem d_M_source_19 : decode c_M_source 19 = .ok (.getfield 36, 3) := by decide +kernel
theorem d_M_source_22 : decode c_M_source 22 = .ok (.iload_n 3, 1) := by decide +kernel
theorem d_M_source_23 : decode c_M_source 23 = .ok (.iaload, 1) := by decide +kernel
theorem d_M_source_24 : decode c_M_source 24 = .ok (.iload_n 2, 1) := by decide +kernel
theorem d_M_source_25 : decode c_M_source 25 = .ok (.if_icmp .ne 9, 3) := by decide +kernel
theorem d_M_source_28 : decode c_M_source 28 = .ok (.aload_n 0, 1) := by decide +kernel
theorem d_M_source_29 : decode c_M_source 29 = .ok (.iload_n 3, 1) := by decide +kernel
theorem d_M_source_30 : decode c_M_source 30 = .ok (.invokevirtual 149, 3) := by decide +kernel
theorem d_M_source_33 : decode c_M_source 33 = .ok (.lreturn, 1) := by decide +kernel
theorem d_M_source_34 : decode c_M_source 34 = .ok (.iinc 3 1, 3) := by decide +kernel
theorem d_M_source_37 : decode c_M_source 37 = .ok (.goto (-33), 3) := by decide +kernel
theorem d_M_source_40 : decode c_M_source 40 = .ok (.iconst 3, 1) := by decide +kernel
theorem d_M_source_41 : decode c_M_source 41 = .ok (.iload_n 1, 1) := by decide +kernel
theorem d_M_source_42 : decode c_M_source 42 = .ok (.imul, 1) := by decide +kernel
theorem d_M_source_43 : decode c_M_source 43 = .ok (.istore_n 3, 1) := by decide +kernel
theorem d_M_source_44 : decode c_M_source 44 = .ok (.iload_n 3, 1) := by decide +kernel
theorem d_M_source_45 : decode c_M_source 45 = .ok (.iconst 3, 1) := by decide +kernel
theorem d_M_source_46 : decode c_M_source 46 = .ok (.iload_n 1, 1) := by decide +kernel
theorem d_M_source_47 : decode c_M_source 47 = .ok (.imul, 1) := by decide +kernel
theorem d_M_source_48 : decode c_M_source 48 = .ok (.aload_n 0, 1) := by decide +kernel
theorem d_M_source_49 : decode c_M_source 49 = .ok (.getfield 45, 3) := by decide +kernel
theorem d_M_source_52 : decode c_M_source 52 = .ok (.iload_n 1, 1) := by decide +kernel
theorem d_M_source_53 : decode c_M_source 53 = .ok (.iaload, 1) := by decide +kernel
theorem d_M_source_54 : decode c_M_source 54 = .ok (.iadd, 1) := by decide +kernel
theorem d_M_source_55 : decode c_M_source 55 = .ok (.if_icmp .ge 77, 3) := by decide +kernel
theorem d_M_source_58 : decode c_M_source 58 = .ok (.aload_n 0, 1) := by decide +kernel
theorem d_M_source_59 : decode c_M_source 59 = .ok (.getfield 48, 3) := by decide +kernel
theorem d_M_source_62 : decode c_M_source 62 = .ok (.iload_n 3, 1) := by decide +kernel
theorem d_M_source_63 : decode c_M_source 63 = .ok (.iaload, 1) := by decide +kernel
theorem d_M_source_64 : decode c_M_source 64 = .ok (.iload_n 2, 1) := by decide +kernel
theorem d_M_source_65 : decode c_M_source 65 = .ok (.if_icmp .eq 6, 3) := by decide +kernel
theorem d_M_source_68 : decode c_M_source 68 = .ok (.goto 58, 3) := by decide +kernel
theorem d_M_source_71 : decode c_M_source 71 = .ok (.aload_n 0, 1) := by decide +kernel
theorem d_M_source_72 : decode c_M_source 72 = .ok (.iload_n 1, 1) := by decide +kernel
theorem d_M_source_73 : decode c_M_source 73 = .ok (.invokevirtual 139, 3) := by decide +kernel
theorem d_M_source_76 : decode c_M_source 76 = .ok (.ifCond .eq 10, 3) := by decide +kernel
theorem d_M_source_79 : decode c_M_source 79 = .ok (.aload_n 0, 1) := by decide +kernel
theorem d_M_source_80 : decode c_M_source 80 = .ok (.getfield 60, 3) := by decide +kernel
theorem d_M_source_83 : decode c_M_source 83 = .ok (.iload_n 3, 1) := by decide +kernel
theorem d_M_source_84 : decode c_M_source 84 = .ok (.laload, 1) := by decide +kernel
theorem d_M_source_85 : decode c_M_source 85 = .ok (.lreturn, 1) := by decide +kernel
theorem d_M_source_86 : decode c_M_source 86 = .ok (.iconst 0, 1) := by decide +kernel
theorem d_M_source_87 : decode c_M_source 87 = .ok (.istore 4, 2) := by decide +kernel
theorem d_M_source_89 : decode c_M_source 89 = .ok (.iload 4, 2) := by decide +kernel
theorem d_M_source_91 : decode c_M_source 91 = .ok (.aload_n 0, 1) := by decide +kernel
theorem d_M_source_92 : decode c_M_source 92 = .ok (.getfield 153, 3) := by decide +kernel
theorem d_M_source_95 : decode c_M_source 95 = .ok (.if_icmp .ge 31, 3) := by decide +kernel
theorem d_M_source_98 : decode c_M_source 98 = .ok (.aload_n 0, 1) := by decide +kernel
theorem d_M_source_99 : decode c_M_source 99 = .ok (.getfield 63, 3) := by decide +kernel
theorem d_M_source_102 : decode c_M_source 102 = .ok (.iload 4, 2) := by decide +kernel
theorem d_M_source_104 : decode c_M_source 104 = .ok (.iaload, 1) := by decide +kernel
theorem d_M_source_105 : decode c_M_source 105 = .ok (.iload_n 3, 1) := by decide +kernel
theorem d_M_source_106 : decode c_M_source 106 = .ok (.if_icmp .ne 14, 3) := by decide +kernel
theorem d_M_source_109 : decode c_M_source 109 = .ok (.aload_n 0, 1) := by decide +kernel
theorem d_M_source_110 : decode c_M_source 110 = .ok (.aload_n 0, 1) := by decide +kernel
theorem d_M_source_111 : decode c_M_source 111 = .ok (.iload 4, 2) := by decide +kernel
theorem d_M_source_113 : decode c_M_source 113 = .ok (.invokevirtual 156, 3) := by decide +kernel
theorem d_M_source_116 : decode c_M_source 116 = .ok (.invokevirtual 149, 3) := by decide +kernel
theorem d_M_source_119 : decode c_M_source 119 = .ok (.lreturn, 1) := by decide +kernel
theorem d_M_source_120 : decode c_M_source 120 = .ok (.iinc 4 1, 3) := by decide +kernel
theorem d_M_source_123 : decode c_M_source 123 = .ok (.goto (-34), 3) := by decide +kernel
theorem d_M_source_126 : decode c_M_source 126 = .ok (.iinc 3 1, 3) := by decide +kernel
theorem d_M_source_129 : decode c_M_source 129 = .ok (.goto (-85), 3) := by decide +kernel
theorem d_M_source_132 : decode c_M_source 132 = .ok (.ldc2_w 107, 3) := by decide +kernel
theorem d_M_source_135 : decode c_M_source 135 = .ok (.lreturn, 1) := by decide +kernel
def T_M_source_0 : List (Nat × bh_Op) := [(0, bo_st 1 (bg_push (.inl (.int 3)))),
  (1, bo_ild 2 1),
  (2, bo_st 3 (bg_ii (fun x y => x * y))),
  (3, bo_ist 4 3),
  (4, bo_ild 5 3),
  (5, bo_st 6 (bg_push (.inl (.int 3)))),
  (6, bo_ild 7 1),
  (7, bo_st 8 (bg_ii (fun x y => x * y))),
  (8, bo_ald 9 0),
  (9, bo_gR 12 40 8 48),
  (12, bo_ild 13 1),
  (13, bo_Iald bh_ak bh_al 14),
  (14, bo_st 15 (bg_ii (fun x y => x + y))),
  (15, bo_if2 18 40 (fun x y => y ≤ x)),
  (18, bo_ald 19 0),
  (19, bo_gR 22 40 9 49),
  (22, bo_ild 23 3),
  (23, bo_Iald bh_ak bh_al 24),
  (24, bo_ild 25 2),
  (25, bo_if2 28 34 (fun x y => ¬ x = y)),
  (28, bo_ald 29 0),
  (29, bo_ild 30 3),
  (30, bo_callV 33 2 0 0 40 F_M_port),
  (33, bo_jret 0),
  (34, bo_inc 37 3 1),
  (37, bo_go 4),
  (40, bo_st 41 (bg_push (.inl (.int 3)))),
  (41, bo_ild 42 1),
  (42, bo_st 43 (bg_ii (fun x y => x * y))),
  (43, bo_ist 44 3),
  (44, bo_ild 45 3),
  (45, bo_st 46 (bg_push (.inl (.int 3)))),
  (46, bo_ild 47 1),
  (47, bo_st 48 (bg_ii (fun x y => x * y))),
  (48, bo_ald 49 0),
  (49, bo_gR 52 40 12 52),
  (52, bo_ild 53 1),
  (53, bo_Iald bh_ak bh_al 54),
  (54, bo_st 55 (bg_ii (fun x y => x + y))),
  (55, bo_if2 58 132 (fun x y => y ≤ x))]
def T_M_source_1 : List (Nat × bh_Op) := [(58, bo_ald 59 0),
  (59, bo_gR 62 40 13 53),
  (62, bo_ild 63 3),
  (63, bo_Iald bh_ak bh_al 64),
  (64, bo_ild 65 2),
  (65, bo_if2 68 71 (fun x y => x = y)),
  (68, bo_go 126),
  (71, bo_ald 72 0),
  (72, bo_ild 73 1),
  (73, bo_callV 76 2 0 0 40 F_M_live),
  (76, bo_if1 79 86 (fun x => x = 0)),
  (79, bo_ald 80 0),
  (80, bo_gR 83 40 17 57),
  (83, bo_ild 84 3),
  (84, bo_Jald bh_ak bh_al 85),
  (85, bo_jret 0),
  (86, bo_st 87 (bg_push (.inl (.int 0)))),
  (87, bo_ist 89 4),
  (89, bo_ild 91 4),
  (91, bo_ald 92 0),
  (92, bo_gI 95 40 26),
  (95, bo_if2 98 126 (fun x y => y ≤ x)),
  (98, bo_ald 99 0),
  (99, bo_gR 102 40 18 58),
  (102, bo_ild 104 4),
  (104, bo_Iald bh_ak bh_al 105),
  (105, bo_ild 106 3),
  (106, bo_if2 109 120 (fun x y => ¬ x = y)),
  (109, bo_ald 110 0),
  (110, bo_ald 111 0),
  (111, bo_ild 113 4),
  (113, bo_callV 116 2 0 0 40 F_M_choice),
  (116, bo_callV 119 2 0 0 40 F_M_port),
  (119, bo_jret 0),
  (120, bo_inc 123 4 1),
  (123, bo_go 89),
  (126, bo_inc 129 3 1),
  (129, bo_go 44),
  (132, bo_st 135 (bg_push (.inl (.long (-1))))),
  (135, bo_jret 0)]
def T_M_source : List (Nat × bh_Op) := T_M_source_0 ++ T_M_source_1
set_option maxRecDepth 20000 in
theorem mT_M_source_0 : ∀ q ∈ T_M_source_0, bh_mono q.2 := List.forall_mem_cons.mpr ⟨bo_st_mono (bg_push_m _), List.forall_mem_cons.mpr ⟨bo_ild_m _ _, List.forall_mem_cons.mpr ⟨bo_st_mono (bg_ii_m _), List.forall_mem_cons.mpr ⟨bo_ist_m _ _, List.forall_mem_cons.mpr ⟨bo_ild_m _ _, List.forall_mem_cons.mpr ⟨bo_st_mono (bg_push_m _), List.forall_mem_cons.mpr ⟨bo_ild_m _ _, List.forall_mem_cons.mpr ⟨bo_st_mono (bg_ii_m _), List.forall_mem_cons.mpr ⟨bo_ald_m _ _, List.forall_mem_cons.mpr ⟨bo_gR_m _ _ _ _, List.forall_mem_cons.mpr ⟨bo_ild_m _ _, List.forall_mem_cons.mpr ⟨bo_Iald_m _ _ _, List.forall_mem_cons.mpr ⟨bo_st_mono (bg_ii_m _), List.forall_mem_cons.mpr ⟨bo_if2_m _ _ _, List.forall_mem_cons.mpr ⟨bo_ald_m _ _, List.forall_mem_cons.mpr ⟨bo_gR_m _ _ _ _, List.forall_mem_cons.mpr ⟨bo_ild_m _ _, List.forall_mem_cons.mpr ⟨bo_Iald_m _ _ _, List.forall_mem_cons.mpr ⟨bo_ild_m _ _, List.forall_mem_cons.mpr ⟨bo_if2_m _ _ _, List.forall_mem_cons.mpr ⟨bo_ald_m _ _, List.forall_mem_cons.mpr ⟨bo_ild_m _ _, List.forall_mem_cons.mpr ⟨bo_callV_m (mF_M_port) _ _ _ _ _, List.forall_mem_cons.mpr ⟨bo_jret_m _, List.forall_mem_cons.mpr ⟨bo_inc_m _ _ _, List.forall_mem_cons.mpr ⟨bo_go_m _, List.forall_mem_cons.mpr ⟨bo_st_mono (bg_push_m _), List.forall_mem_cons.mpr ⟨bo_ild_m _ _, List.forall_mem_cons.mpr ⟨bo_st_mono (bg_ii_m _), List.forall_mem_cons.mpr ⟨bo_ist_m _ _, List.forall_mem_cons.mpr ⟨bo_ild_m _ _, List.forall_mem_cons.mpr ⟨bo_st_mono (bg_push_m _), List.forall_mem_cons.mpr ⟨bo_ild_m _ _, List.forall_mem_cons.mpr ⟨bo_st_mono (bg_ii_m _), List.forall_mem_cons.mpr ⟨bo_ald_m _ _, List.forall_mem_cons.mpr ⟨bo_gR_m _ _ _ _, List.forall_mem_cons.mpr ⟨bo_ild_m _ _, List.forall_mem_cons.mpr ⟨bo_Iald_m _ _ _, List.forall_mem_cons.mpr ⟨bo_st_mono (bg_ii_m _), List.forall_mem_cons.mpr ⟨bo_if2_m _ _ _, fun _ h => absurd h List.not_mem_nil⟩⟩⟩⟩⟩⟩⟩⟩⟩⟩⟩⟩⟩⟩⟩⟩⟩⟩⟩⟩⟩⟩⟩⟩⟩⟩⟩⟩⟩⟩⟩⟩⟩⟩⟩⟩⟩⟩⟩⟩
set_option maxRecDepth 20000 in
theorem mT_M_source_1 : ∀ q ∈ T_M_source_1, bh_mono q.2 := List.forall_mem_cons.mpr ⟨bo_ald_m _ _, List.forall_mem_cons.mpr ⟨bo_gR_m _ _ _ _, List.forall_mem_cons.mpr ⟨bo_ild_m _ _, List.forall_mem_cons.mpr ⟨bo_Iald_m _ _ _, List.forall_mem_cons.mpr ⟨bo_ild_m _ _, List.forall_mem_cons.mpr ⟨bo_if2_m _ _ _, List.forall_mem_cons.mpr ⟨bo_go_m _, List.forall_mem_cons.mpr ⟨bo_ald_m _ _, List.forall_mem_cons.mpr ⟨bo_ild_m _ _, List.forall_mem_cons.mpr ⟨bo_callV_m (mF_M_live) _ _ _ _ _, List.forall_mem_cons.mpr ⟨bo_if1_m _ _ _, List.forall_mem_cons.mpr ⟨bo_ald_m _ _, List.forall_mem_cons.mpr ⟨bo_gR_m _ _ _ _, List.forall_mem_cons.mpr ⟨bo_ild_m _ _, List.forall_mem_cons.mpr ⟨bo_Jald_m _ _ _, List.forall_mem_cons.mpr ⟨bo_jret_m _, List.forall_mem_cons.mpr ⟨bo_st_mono (bg_push_m _), List.forall_mem_cons.mpr ⟨bo_ist_m _ _, List.forall_mem_cons.mpr ⟨bo_ild_m _ _, List.forall_mem_cons.mpr ⟨bo_ald_m _ _, List.forall_mem_cons.mpr ⟨bo_gI_m _ _ _, List.forall_mem_cons.mpr ⟨bo_if2_m _ _ _, List.forall_mem_cons.mpr ⟨bo_ald_m _ _, List.forall_mem_cons.mpr ⟨bo_gR_m _ _ _ _, List.forall_mem_cons.mpr ⟨bo_ild_m _ _, List.forall_mem_cons.mpr ⟨bo_Iald_m _ _ _, List.forall_mem_cons.mpr ⟨bo_ild_m _ _, List.forall_mem_cons.mpr ⟨bo_if2_m _ _ _, List.forall_mem_cons.mpr ⟨bo_ald_m _ _, List.forall_mem_cons.mpr ⟨bo_ald_m _ _, List.forall_mem_cons.mpr ⟨bo_ild_m _ _, List.forall_mem_cons.mpr ⟨bo_callV_m (mF_M_choice) _ _ _ _ _, List.forall_mem_cons.mpr ⟨bo_callV_m (mF_M_port) _ _ _ _ _, List.forall_mem_cons.mpr ⟨bo_jret_m _, List.forall_mem_cons.mpr ⟨bo_inc_m _ _ _, List.forall_mem_cons.mpr ⟨bo_go_m _, List.forall_mem_cons.mpr ⟨bo_inc_m _ _ _, List.forall_mem_cons.mpr ⟨bo_go_m _, List.forall_mem_cons.mpr ⟨bo_st_mono (bg_push_m _), List.forall_mem_cons.mpr ⟨bo_jret_m _, fun _ h => absurd h List.not_mem_nil⟩⟩⟩⟩⟩⟩⟩⟩⟩⟩⟩⟩⟩⟩⟩⟩⟩⟩⟩⟩⟩⟩⟩⟩⟩⟩⟩⟩⟩⟩⟩⟩⟩⟩⟩⟩⟩⟩⟩⟩
theorem m_M_source : ∀ pc, bh_mono (bh_tb (T_M_source) pc) := bh_tb_m (List.forall_mem_append.mpr ⟨mT_M_source_0, mT_M_source_1⟩)
def F_M_source : bh_Fn := bh_fn 5 (bh_tb T_M_source)
theorem mF_M_source : bh_monoF F_M_source := bh_fn_m m_M_source
theorem cl_M_source {s : State} {args : Array Value} (d B : Nat) (hts : ∀ w ∈ bh_ws, w.before args s = true) : bh_Cal (bh_rm (d + 1) B) s y_M_source 5 (.code y_M_source c_M_source 5 (some .long) :: bh_ws) (bh_rm d 0) 0 2 := bh_cal d B hts wd_992 wd_9 (by decide) (by decide +kernel)
set_option maxHeartbeats 4000000 in
set_option maxRecDepth 100000 in
theorem cn_M_source {l : Launch} {G : bh_G} {base sb L : Nat} {xs : Nat → Int32} (htr : l.stackTraces = false) (d : Nat) : bh_Con l G base (bh_Bg G base sb L xs) y_M_source (.code y_M_source c_M_source 5 (some .long) :: bh_ws) (bh_rm (d + 2) 0) 0 false F_M_source := by
  refine bh_method (cc := c_M_source) (ret := (some .long)) (by decide +kernel) rfl ?_
  intro p e s m args below meth c ad0 M0 Z X0 hr hlocks hname htab hbs hB
  obtain ⟨hx, hb, hml, hown, hts⟩ := id X0
  have hw : ∀ w ∈ bh_ws, w.before args s = true := fun w h => hts w (List.mem_cons_of_mem _ h)
  have hBg := bh_BgK (G := G) (base := base) (sb := sb) (L := L) (xs := xs)
  obtain ⟨hK, hAr, hen, hinj, hu1, hu2, hstr, hX, hsb, hsc, hxw, hao, hnc⟩ := id hB
  obtain ⟨ha1, ha2, ha3, ha4, ha5, ha6, ha0⟩ := bh_arr hAr
  refine List.forall_mem_append.mpr ⟨?_, List.forall_mem_cons.mpr ⟨fun S h => bs_aload_n (Z := Z) hx hb rfl d_M_source_58 h, List.forall_mem_cons.mpr ⟨fun S h => bs_gR (Z := Z) (C := R_M) (T := F_M) (N := 40) (t := 40) (j := 13) hx hb hK hts (fun w h => List.mem_cons_of_mem _ (iw_M w h)) hown rfl rfl (by decide) (hts _ (List.mem_cons_of_mem _ wd_797)) (fun _ h => h) rfl rfl rfl d_M_source_59 h, List.forall_mem_cons.mpr ⟨fun S h => bs_iload_n (Z := Z) hx hb rfl d_M_source_62 h, List.forall_mem_cons.mpr ⟨fun S h => bs_Iald (Z := Z) hx hb ha1 d_M_source_63 h, List.forall_mem_cons.mpr ⟨fun S h => bs_iload_n (Z := Z) hx hb rfl d_M_source_64 h, List.forall_mem_cons.mpr ⟨fun S h => bs_icmp_eq (Z := Z) hx hb d_M_source_65 (by decide) h, List.forall_mem_cons.mpr ⟨fun S h => bs_goto (Z := Z) hx hb d_M_source_68 (by decide) h, List.forall_mem_cons.mpr ⟨fun S h => bs_aload_n (Z := Z) hx hb rfl d_M_source_71 h, List.forall_mem_cons.mpr ⟨fun S h => bs_iload_n (Z := Z) hx hb rfl d_M_source_72 h, List.forall_mem_cons.mpr ⟨fun S h => bs_callV (Z := Z) (C := R_M) hBg hbs hB X0 hK (cn_M_live htr (d + 0)) (cl_M_live _ _ hw) (hts _ (List.mem_cons_of_mem _ wd_945)) (hts _ (List.mem_cons_of_mem _ wd_947)) (hts _ (List.mem_cons_of_mem _ ws_28)) rfl rfl rfl rfl rfl (Nat.le_refl _) (Nat.le_refl _) d_M_source_73 (bs_out htab hlocks) h, List.forall_mem_cons.mpr ⟨fun S h => bs_if_eq (Z := Z) hx hb d_M_source_76 (by decide) h, List.forall_mem_cons.mpr ⟨fun S h => bs_aload_n (Z := Z) hx hb rfl d_M_source_79 h, List.forall_mem_cons.mpr ⟨fun S h => bs_gR (Z := Z) (C := R_M) (T := F_M) (N := 40) (t := 40) (j := 17) hx hb hK hts (fun w h => List.mem_cons_of_mem _ (iw_M w h)) hown rfl rfl (by decide) (hts _ (List.mem_cons_of_mem _ wd_801)) (fun _ h => h) rfl rfl rfl d_M_source_80 h, List.forall_mem_cons.mpr ⟨fun S h => bs_iload_n (Z := Z) hx hb rfl d_M_source_83 h, List.forall_mem_cons.mpr ⟨fun S h => bs_Jald (Z := Z) hx hb ha3 d_M_source_84 h, List.forall_mem_cons.mpr ⟨fun S h => bs_jret (Z := Z) hx hb hr hlocks d_M_source_85 h, List.forall_mem_cons.mpr ⟨fun S h => bs_iconst (Z := Z) hx hb (by decide) d_M_source_86 h, List.forall_mem_cons.mpr ⟨fun S h => bs_istore (Z := Z) hx hb d_M_source_87 h, List.forall_mem_cons.mpr ⟨fun S h => bs_iload (Z := Z) hx hb d_M_source_89 h, List.forall_mem_cons.mpr ⟨fun S h => bs_aload_n (Z := Z) hx hb rfl d_M_source_91 h, List.forall_mem_cons.mpr ⟨fun S h => bs_gI (Z := Z) (C := R_M) (T := F_M) (N := 40) (t := 40) (j := 26) hx hb hK hts (fun w h => List.mem_cons_of_mem _ (iw_M w h)) hown rfl rfl (by decide) (hts _ (List.mem_cons_of_mem _ wd_810)) (fun _ h => h) rfl rfl rfl d_M_source_92 h, List.forall_mem_cons.mpr ⟨fun S h => bs_icmp_ge (Z := Z) hx hb d_M_source_95 (by decide) h, List.forall_mem_cons.mpr ⟨fun S h => bs_aload_n (Z := Z) hx hb rfl d_M_source_98 h, List.forall_mem_cons.mpr ⟨fun S h => bs_gR (Z := Z) (C := R_M) (T := F_M) (N := 40) (t := 40) (j := 18) hx hb hK hts (fun w h => List.mem_cons_of_mem _ (iw_M w h)) hown rfl rfl (by decide) (hts _ (List.mem_cons_of_mem _ wd_802)) (fun _ h => h) rfl rfl rfl d_M_source_99 h, List.forall_mem_cons.mpr ⟨fun S h => bs_iload (Z := Z) hx hb d_M_source_102 h, List.forall_mem_cons.mpr ⟨fun S h => bs_Iald (Z := Z) hx hb ha1 d_M_source_104 h, List.forall_mem_cons.mpr ⟨fun S h => bs_iload_n (Z := Z) hx hb rfl d_M_source_105 h, List.forall_mem_cons.mpr ⟨fun S h => bs_icmp_ne (Z := Z) hx hb d_M_source_106 (by decide) h, List.forall_mem_cons.mpr ⟨fun S h => bs_aload_n (Z := Z) hx hb rfl d_M_source_109 h, List.forall_mem_cons.mpr ⟨fun S h => bs_aload_n (Z := Z) hx hb rfl d_M_source_110 h, List.forall_mem_cons.mpr ⟨fun S h => bs_iload (Z := Z) hx hb d_M_source_111 h, List.forall_mem_cons.mpr ⟨fun S h => bs_callV (Z := Z) (C := R_M) hBg hbs hB X0 hK (cn_M_choice htr (d + 0)) (cl_M_choice _ _ hw) (hts _ (List.mem_cons_of_mem _ wd_977)) (hts _ (List.mem_cons_of_mem _ wd_979)) (hts _ (List.mem_cons_of_mem _ ws_36)) rfl rfl rfl rfl rfl (Nat.le_refl _) (Nat.le_refl _) d_M_source_113 (bs_out htab hlocks) h, List.forall_mem_cons.mpr ⟨fun S h => bs_callV (Z := Z) (C := R_M) hBg hbs hB X0 hK (cn_M_port htr (d + 0)) (cl_M_port _ _ hw) (hts _ (List.mem_cons_of_mem _ wd_993)) (hts _ (List.mem_cons_of_mem _ wd_995)) (hts _ (List.mem_cons_of_mem _ ws_40)) rfl rfl rfl rfl rfl (Nat.le_refl _) (Nat.le_refl _) d_M_source_116 (bs_out htab hlocks) h, List.forall_mem_cons.mpr ⟨fun S h => bs_jret (Z := Z) hx hb hr hlocks d_M_source_119 h, List.forall_mem_cons.mpr ⟨fun S h => bs_iinc (Z := Z) hx hb (by decide) d_M_source_120 h, List.forall_mem_cons.mpr ⟨fun S h => bs_goto (Z := Z) hx hb d_M_source_123 (by decide) h, List.forall_mem_cons.mpr ⟨fun S h => bs_iinc (Z := Z) hx hb (by decide) d_M_source_126 h, List.forall_mem_cons.mpr ⟨fun S h => bs_goto (Z := Z) hx hb d_M_source_129 (by decide) h, List.forall_mem_cons.mpr ⟨fun S h => bs_ldcl (Z := Z) hx hb hown (hts _ (List.mem_cons_of_mem _ wd_783)) d_M_source_132 h, List.forall_mem_cons.mpr ⟨fun S h => bs_jret (Z := Z) hx hb hr hlocks d_M_source_135 h, fun _ h => absurd h List.not_mem_nil⟩⟩⟩⟩⟩⟩⟩⟩⟩⟩⟩⟩⟩⟩⟩⟩⟩⟩⟩⟩⟩⟩⟩⟩⟩⟩⟩⟩⟩⟩⟩⟩⟩⟩⟩⟩⟩⟩⟩⟩⟩
  exact List.forall_mem_cons.mpr ⟨fun S h => bs_iconst (Z := Z) hx hb (by decide) d_M_source_0 h, List.forall_mem_cons.mpr ⟨fun S h => bs_iload_n (Z := Z) hx hb rfl d_M_source_1 h, List.forall_mem_cons.mpr ⟨fun S h => bs_imul (Z := Z) hx hb d_M_source_2 h, List.forall_mem_cons.mpr ⟨fun S h => bs_istore_n (Z := Z) hx hb rfl d_M_source_3 h, List.forall_mem_cons.mpr ⟨fun S h => bs_iload_n (Z := Z) hx hb rfl d_M_source_4 h, List.forall_mem_cons.mpr ⟨fun S h => bs_iconst (Z := Z) hx hb (by decide) d_M_source_5 h, List.forall_mem_cons.mpr ⟨fun S h => bs_iload_n (Z := Z) hx hb rfl d_M_source_6 h, List.forall_mem_cons.mpr ⟨fun S h => bs_imul (Z := Z) hx hb d_M_source_7 h, List.forall_mem_cons.mpr ⟨fun S h => bs_aload_n (Z := Z) hx hb rfl d_M_source_8 h, List.forall_mem_cons.mpr ⟨fun S h => bs_gR (Z := Z) (C := R_M) (T := F_M) (N := 40) (t := 40) (j := 8) hx hb hK hts (fun w h => List.mem_cons_of_mem _ (iw_M w h)) hown rfl rfl (by decide) (hts _ (List.mem_cons_of_mem _ wd_792)) (fun _ h => h) rfl rfl rfl d_M_source_9 h, List.forall_mem_cons.mpr ⟨fun S h => bs_iload_n (Z := Z) hx hb rfl d_M_source_12 h, List.forall_mem_cons.mpr ⟨fun S h => bs_Iald (Z := Z) hx hb ha1 d_M_source_13 h, List.forall_mem_cons.mpr ⟨fun S h => bs_iadd (Z := Z) hx hb d_M_source_14 h, List.forall_mem_cons.mpr ⟨fun S h => bs_icmp_ge (Z := Z) hx hb d_M_source_15 (by decide) h, List.forall_mem_cons.mpr ⟨fun S h => bs_aload_n (Z := Z) hx hb rfl d_M_source_18 h, List.forall_mem_cons.mpr ⟨fun S h => bs_gR (Z := Z) (C := R_M) (T := F_M) (N := 40) (t := 40) (j := 9) hx hb hK hts (fun w h => List.mem_cons_of_mem _ (iw_M w h)) hown rfl rfl (by decide) (hts _ (List.mem_cons_of_mem _ wd_793)) (fun _ h => h) rfl rfl rfl d_M_source_19 h, List.forall_mem_cons.mpr ⟨fun S h => bs_iload_n (Z := Z) hx hb rfl d_M_source_22 h, List.forall_mem_cons.mpr ⟨fun S h => bs_Iald (Z := Z) hx hb ha1 d_M_source_23 h, List.forall_mem_cons.mpr ⟨fun S h => bs_iload_n (Z := Z) hx hb rfl d_M_source_24 h, List.forall_mem_cons.mpr ⟨fun S h => bs_icmp_ne (Z := Z) hx hb d_M_source_25 (by decide) h, List.forall_mem_cons.mpr ⟨fun S h => bs_aload_n (Z := Z) hx hb rfl d_M_source_28 h, List.forall_mem_cons.mpr ⟨fun S h => bs_iload_n (Z := Z) hx hb rfl d_M_source_29 h, List.forall_mem_cons.mpr ⟨fun S h => bs_callV (Z := Z) (C := R_M) hBg hbs hB X0 hK (cn_M_port htr (d + 0)) (cl_M_port _ _ hw) (hts _ (List.mem_cons_of_mem _ wd_993)) (hts _ (List.mem_cons_of_mem _ wd_995)) (hts _ (List.mem_cons_of_mem _ ws_40)) rfl rfl rfl rfl rfl (Nat.le_refl _) (Nat.le_refl _) d_M_source_30 (bs_out htab hlocks) h, List.forall_mem_cons.mpr ⟨fun S h => bs_jret (Z := Z) hx hb hr hlocks d_M_source_33 h, List.forall_mem_cons.mpr ⟨fun S h => bs_iinc (Z := Z) hx hb (by decide) d_M_source_34 h, List.forall_mem_cons.mpr ⟨fun S h => bs_goto (Z := Z) hx hb d_M_source_37 (by decide) h, List.forall_mem_cons.mpr ⟨fun S h => bs_iconst (Z := Z) hx hb (by decide) d_M_source_40 h, List.forall_mem_cons.mpr ⟨fun S h => bs_iload_n (Z := Z) hx hb rfl d_M_source_41 h, List.forall_mem_cons.mpr ⟨fun S h => bs_imul (Z := Z) hx hb d_M_source_42 h, List.forall_mem_cons.mpr ⟨fun S h => bs_istore_n (Z := Z) hx hb rfl d_M_source_43 h, List.forall_mem_cons.mpr ⟨fun S h => bs_iload_n (Z := Z) hx hb rfl d_M_source_44 h, List.forall_mem_cons.mpr ⟨fun S h => bs_iconst (Z := Z) hx hb (by decide) d_M_source_45 h, List.forall_mem_cons.mpr ⟨fun S h => bs_iload_n (Z := Z) hx hb rfl d_M_source_46 h, List.forall_mem_cons.mpr ⟨fun S h => bs_imul (Z := Z) hx hb d_M_source_47 h, List.forall_mem_cons.mpr ⟨fun S h => bs_aload_n (Z := Z) hx hb rfl d_M_source_48 h, List.forall_mem_cons.mpr ⟨fun S h => bs_gR (Z := Z) (C := R_M) (T := F_M) (N := 40) (t := 40) (j := 12) hx hb hK hts (fun w h => List.mem_cons_of_mem _ (iw_M w h)) hown rfl rfl (by decide) (hts _ (List.mem_cons_of_mem _ wd_796)) (fun _ h => h) rfl rfl rfl d_M_source_49 h, List.forall_mem_cons.mpr ⟨fun S h => bs_iload_n (Z := Z) hx hb rfl d_M_source_52 h, List.forall_mem_cons.mpr ⟨fun S h => bs_Iald (Z := Z) hx hb ha1 d_M_source_53 h, List.forall_mem_cons.mpr ⟨fun S h => bs_iadd (Z := Z) hx hb d_M_source_54 h, List.forall_mem_cons.mpr ⟨fun S h => bs_icmp_ge (Z := Z) hx hb d_M_source_55 (by decide) h, fun _ h => absurd h List.not_mem_nil⟩⟩⟩⟩⟩⟩⟩⟩⟩⟩⟩⟩⟩⟩⟩⟩⟩⟩⟩⟩⟩⟩⟩⟩⟩⟩⟩⟩⟩⟩⟩⟩⟩⟩⟩⟩⟩⟩⟩⟩
abbrev c_M_clash : ByteArray := prog_10_method_19_code
def y_M_clash : MethodName := ⟨"BundleHallModel", "clash", "(II)Z"⟩
theorem d_M_clash_0 : decode c_M_clash 0 = .ok (.iconst 0, 1) := by decide +kernel
theorem d_M_clash_1 : decode c_M_clash 1 = .ok (.istore_n 3, 1) := by decide +kernel
theorem d_M_clash_2 : decode c_M_clash 2 = .ok (.iload_n 3, 1) := by decide +kernel
theorem d_M_clash_3 : decode c_M_clash 3 = .ok (.bipush 8, 2) := by decide +kernel
theorem d_M_clash_5 : decode c_M_clash 5 = .ok (.if_icmp .ge 67, 3) := by decide +kernel
theorem d_M_clash_8 : decode c_M_clash 8 = .ok (.aload_n 0, 1) := by decide +kernel
theorem d_M_clash_9 : decode c_M_clash 9 = .ok (.getfield 42, 3) := by decide +kernel
theorem d_M_clash_12 : decode c_M_clash 12 = .ok (.iload_n 2, 1) := by decide +kernel
theorem d_M_clash_13 : decode c_M_clash 13 = .ok (.iaload, 1) := by decide +kernel
theorem d_M_clash_14 : decode c_M_clash 14 = .ok (.iload_n 3, 1) := by decide +kernel
theorem d_M_clash_15 : decode c_M_clash 15 = .ok (.ishr, 1) := by decide +kernel
theorem d_M_clash_16 : decode c_M_clash 16 = .ok (.iconst 1, 1) := by decide +kernel
theorem d_M_clash_17 : decode c_M_clash 17 = .ok (.iand, 1) := by decide +kernel
theorem d_M_clash_18 : decode c_M_clash 18 = .ok (.ifCond .ne 6, 3) := by decide +kernel
theorem d_M_clash_21 : decode c_M_clash 21 = .ok (.goto 45, 3) := by decide +kernel
theorem d_M_clash_24 : decode c_M_clash 24 = .ok (.aload_n 0, 1) := by decide +kernel
theorem d_M_clash_25 : decode c_M_clash 25 = .ok (.iload_n 1, 1) := by decide +kernel
theorem d_M_clash_26 : decode c_M_clash 26 = .ok (.iload_n 3, 1) := by decide +kernel
theorem d_M_clash_27 : decode c_M_clash 27 = .ok (.invokevirtual 159, 3) := by decide +kernel
theorem d_M_clash_30 : decode c_M_clash 30 = .ok (.lstore 4, 2) := by decide +kernel
theorem d_M_clash_32 : decode c_M_clash 32 = .ok (.aload_n 0, 1) := by decide +kernel
theorem d_M_clash_33 : decode c_M_clash 33 = .ok (.iload_n 2, 1) := by decide +kernel
theorem d_M_clash_34 : decode c_M_clash 34 = .ok (.iconst 3, 1) := by decide +kernel
theorem d_M_clash_35 : decode c_M_clash 35 = .ok (.idiv, 1) := by decide +kernel
theorem d_M_clash_36 : decode c_M_clash 36 = .ok (.iload_n 3, 1) := by decide +kernel
theorem d_M_clash_37 : decode c_M_clash 37 = .ok (.invokevirtual 159, 3) := by decide +kernel
theorem d_M_clash_40 : decode c_M_clash 40 = .ok (.lstore 6, 2) := by decide +kernel
theorem d_M_clash_42 : decode c_M_clash 42 = .ok (.lload 4, 2) := by decide +kernel
theorem d_M_clash_44 : decode c_M_clash 44 = .ok (.lconst 0, 1) := by decide +kernel
theorem d_M_clash_45 : decode c_M_clash 45 = .ok (.lcmp, 1) := by decide +kernel
theorem d_M_clash_46 : decode c_M_clash 46 = .ok (.ifCond .lt 20, 3) := by decide +kernel
theorem d_M_clash_49 : decode c_M_clash 49 = .ok (.lload 6, 2) := by decide +kernel
theorem d_M_clash_51 : decode c_M_clash 51 = .ok (.lconst 0, 1) := by decide +kernel
theorem d_M_clash_52 : decode c_M_clash 52 = .ok (.lcmp, 1) := by decide +kernel
theorem d_M_clash_53 : decode c_M_clash 53 = .ok (.ifCond .lt 13, 3) := by decide +kernel
theorem d_M_clash_56 : decode c_M_clash 56 = .ok (.lload 4, 2) := by decide +kernel
theorem d_M_clash_58 : decode c_M_clash 58 = .ok (.lload 6, 2) := by decide +kernel
theorem d_M_clash_60 : decode c_M_clash 60 = .ok (.lcmp, 1) := by decide +kernel
theorem d_M_clash_61 : decode c_M_clash 61 = .ok (.ifCond .eq 5, 3) := by decide +kernel
theorem d_M_clash_64 : decode c_M_clash 64 = .ok (.iconst 1, 1) := by decide +kernel
theorem d_M_clash_65 : decode c_M_clash 65 = .ok (.ireturn, 1) := by decide +kernel
theorem d_M_clash_66 : decode c_M_clash 66 = .ok (.iinc 3 1, 3) := by decide +kernel
theorem d_M_clash_69 : decode c_M_clash 69 = .ok (.goto (-67), 3) := by decide +kernel
theorem d_M_clash_72 : decode c_M_clash 72 = .ok (.iconst 0, 1) := by decide +kernel
theorem d_M_clash_73 : decode c_M_clash 73 = .ok (.ireturn, 1) := by decide +kernel
def T_M_clash_0 : List (Nat × bh_Op) := [(0, bo_st 1 (bg_push (.inl (.int 0)))),
  (1, bo_ist 2 3),
  (2, bo_ild 3 3),
  (3, bo_st 5 (bg_push (.inl (.int 8)))),
  (5, bo_if2 8 72 (fun x y => y ≤ x)),
  (8, bo_ald 9 0),
  (9, bo_gR 12 40 11 51),
  (12, bo_ild 13 2),
  (13, bo_Iald bh_ak bh_al 14),
  (14, bo_ild 15 3),
  (15, bo_st 16 (bg_ii (fun x y => x >>> (y &&& 31)))),
  (16, bo_st 17 (bg_push (.inl (.int 1)))),
  (17, bo_st 18 (bg_ii (fun x y => x &&& y))),
  (18, bo_if1 21 24 (fun x => ¬ x = 0)),
  (21, bo_go 66),
  (24, bo_ald 25 0),
  (25, bo_ild 26 1),
  (26, bo_ild 27 3),
  (27, bo_callV 30 3 0 0 40 F_M_source),
  (30, bo_lst 32 4),
  (32, bo_ald 33 0),
  (33, bo_ild 34 2),
  (34, bo_st 35 (bg_push (.inl (.int 3)))),
  (35, bo_st 36 (bg_dv (fun x y => x / y))),
  (36, bo_ild 37 3),
  (37, bo_callV 40 3 0 0 40 F_M_source),
  (40, bo_lst 42 6),
  (42, bo_lld 44 4),
  (44, bo_st 45 (bg_push (.inl (.long 0)))),
  (45, bo_st 46 (bg_lc lg_cmp)),
  (46, bo_if1 49 66 (fun x => x < 0)),
  (49, bo_lld 51 6),
  (51, bo_st 52 (bg_push (.inl (.long 0)))),
  (52, bo_st 53 (bg_lc lg_cmp)),
  (53, bo_if1 56 66 (fun x => x < 0)),
  (56, bo_lld 58 4),
  (58, bo_lld 60 6),
  (60, bo_st 61 (bg_lc lg_cmp)),
  (61, bo_if1 64 66 (fun x => x = 0)),
  (64, bo_st 65 (bg_push (.inl (.int 1))))]
def T_M_clash_1 : List (Nat × bh_Op) := [(65, bo_zret 0),
  (66, bo_inc 69 3 1),
  (69, bo_go 2),
  (72, bo_st 73 (bg_push (.inl (.int 0)))),
  (73, bo_zret 0)]
def T_M_clash : List (Nat × bh_Op) := T_M_clash_0 ++ T_M_clash_1
set_option maxRecDepth 20000 in
theorem mT_M_clash_0 : ∀ q ∈ T_M_clash_0, bh_mono q.2 := List.forall_mem_cons.mpr ⟨bo_st_mono (bg_push_m _), List.forall_mem_cons.mpr ⟨bo_ist_m _ _, List.forall_mem_cons.mpr ⟨bo_ild_m _ _, List.forall_mem_cons.mpr ⟨bo_st_mono (bg_push_m _), List.forall_mem_cons.mpr ⟨bo_if2_m _ _ _, List.forall_mem_cons.mpr ⟨bo_ald_m _ _, List.forall_mem_cons.mpr ⟨bo_gR_m _ _ _ _, List.forall_mem_cons.mpr ⟨bo_ild_m _ _, List.forall_mem_cons.mpr ⟨bo_Iald_m _ _ _, List.forall_mem_cons.mpr ⟨bo_ild_m _ _, List.forall_mem_cons.mpr ⟨bo_st_mono (bg_ii_m _), List.forall_mem_cons.mpr ⟨bo_st_mono (bg_push_m _), List.forall_mem_cons.mpr ⟨bo_st_mono (bg_ii_m _), List.forall_mem_cons.mpr ⟨bo_if1_m _ _ _, List.forall_mem_cons.mpr ⟨bo_go_m _, List.forall_mem_cons.mpr ⟨bo_ald_m _ _, List.forall_mem_cons.mpr ⟨bo_ild_m _ _, List.forall_mem_cons.mpr ⟨bo_ild_m _ _, List.forall_mem_cons.mpr ⟨bo_callV_m (mF_M_source) _ _ _ _ _, List.forall_mem_cons.mpr ⟨bo_lst_m _ _, List.forall_mem_cons.mpr ⟨bo_ald_m _ _, List.forall_mem_cons.mpr ⟨bo_ild_m _ _, List.forall_mem_cons.mpr ⟨bo_st_mono (bg_push_m _), List.forall_mem_cons.mpr ⟨bo_st_mono (bg_dv_m _), List.forall_mem_cons.mpr ⟨bo_ild_m _ _, List.forall_mem_cons.mpr ⟨bo_callV_m (mF_M_source) _ _ _ _ _, List.forall_mem_cons.mpr ⟨bo_lst_m _ _, List.forall_mem_cons.mpr ⟨bo_lld_m _ _, List.forall_mem_cons.mpr ⟨bo_st_mono (bg_push_m _), List.forall_mem_cons.mpr ⟨bo_st_mono (bg_lc_m _), List.forall_mem_cons.mpr ⟨bo_if1_m _ _ _, List.forall_mem_cons.mpr ⟨bo_lld_m _ _, List.forall_mem_cons.mpr ⟨bo_st_mono (bg_push_m _), List.forall_mem_cons.mpr ⟨bo_st_mono (bg_lc_m _), List.forall_mem_cons.mpr ⟨bo_if1_m _ _ _, List.forall_mem_cons.mpr ⟨bo_lld_m _ _, List.forall_mem_cons.mpr ⟨bo_lld_m _ _, List.forall_mem_cons.mpr ⟨bo_st_mono (bg_lc_m _), List.forall_mem_cons.mpr ⟨bo_if1_m _ _ _, List.forall_mem_cons.mpr ⟨bo_st_mono (bg_push_m _), fun _ h => absurd h List.not_mem_nil⟩⟩⟩⟩⟩⟩⟩⟩⟩⟩⟩⟩⟩⟩⟩⟩⟩⟩⟩⟩⟩⟩⟩⟩⟩⟩⟩⟩⟩⟩⟩⟩⟩⟩⟩⟩⟩⟩⟩⟩
set_option maxRecDepth 20000 in
theorem mT_M_clash_1 : ∀ q ∈ T_M_clash_1, bh_mono q.2 := List.forall_mem_cons.mpr ⟨bo_zret_m _, List.forall_mem_cons.mpr ⟨bo_inc_m _ _ _, List.forall_mem_cons.mpr ⟨bo_go_m _, List.forall_mem_cons.mpr ⟨bo_st_mono (bg_push_m _), List.forall_mem_cons.mpr ⟨bo_zret_m _, fun _ h => absurd h List.not_mem_nil⟩⟩⟩⟩⟩
theorem m_M_clash : ∀ pc, bh_mono (bh_tb (T_M_clash) pc) := bh_tb_m (List.forall_mem_append.mpr ⟨mT_M_clash_0, mT_M_clash_1⟩)
def F_M_clash : bh_Fn := bh_fn 8 (bh_tb T_M_clash)
theorem mF_M_clash : bh_monoF F_M_clash := bh_fn_m m_M_clash
theorem cl_M_clash {s : State} {args : Array Value} (d B : Nat) (hts : ∀ w ∈ bh_ws, w.before args s = true) : bh_Cal (bh_rm (d + 1) B) s y_M_clash 8 (.code y_M_clash c_M_clash 8 (some .boolean) :: bh_ws) (bh_rm d 0) 0 2 := bh_cal d B hts wd_988 wd_9 (by decide) (by decide +kernel)
set_option maxHeartbeats 4000000 in
set_option maxRecDepth 100000 in
theorem cn_M_clash {l : Launch} {G : bh_G} {base sb L : Nat} {xs : Nat → Int32} (htr : l.stackTraces = false) (d : Nat) : bh_Con l G base (bh_Bg G base sb L xs) y_M_clash (.code y_M_clash c_M_clash 8 (some .boolean) :: bh_ws) (bh_rm (d + 3) 0) 0 false F_M_clash := by
  refine bh_method (cc := c_M_clash) (ret := (some .boolean)) (by decide +kernel) rfl ?_
  intro p e s m args below meth c ad0 M0 Z X0 hr hlocks hname htab hbs hB
  obtain ⟨hx, hb, hml, hown, hts⟩ := id X0
  have hw : ∀ w ∈ bh_ws, w.before args s = true := fun w h => hts w (List.mem_cons_of_mem _ h)
  have hBg := bh_BgK (G := G) (base := base) (sb := sb) (L := L) (xs := xs)
  obtain ⟨hK, hAr, hen, hinj, hu1, hu2, hstr, hX, hsb, hsc, hxw, hao, hnc⟩ := id hB
  obtain ⟨ha1, ha2, ha3, ha4, ha5, ha6, ha0⟩ := bh_arr hAr
  refine List.forall_mem_append.mpr ⟨?_, List.forall_mem_cons.mpr ⟨fun S h => bs_zret (Z := Z) hx hb hr hlocks d_M_clash_65 h, List.forall_mem_cons.mpr ⟨fun S h => bs_iinc (Z := Z) hx hb (by decide) d_M_clash_66 h, List.forall_mem_cons.mpr ⟨fun S h => bs_goto (Z := Z) hx hb d_M_clash_69 (by decide) h, List.forall_mem_cons.mpr ⟨fun S h => bs_iconst (Z := Z) hx hb (by decide) d_M_clash_72 h, List.forall_mem_cons.mpr ⟨fun S h => bs_zret (Z := Z) hx hb hr hlocks d_M_clash_73 h, fun _ h => absurd h List.not_mem_nil⟩⟩⟩⟩⟩⟩
  exact List.forall_mem_cons.mpr ⟨fun S h => bs_iconst (Z := Z) hx hb (by decide) d_M_clash_0 h, List.forall_mem_cons.mpr ⟨fun S h => bs_istore_n (Z := Z) hx hb rfl d_M_clash_1 h, List.forall_mem_cons.mpr ⟨fun S h => bs_iload_n (Z := Z) hx hb rfl d_M_clash_2 h, List.forall_mem_cons.mpr ⟨fun S h => bs_bipush (Z := Z) hx hb (by decide) d_M_clash_3 h, List.forall_mem_cons.mpr ⟨fun S h => bs_icmp_ge (Z := Z) hx hb d_M_clash_5 (by decide) h, List.forall_mem_cons.mpr ⟨fun S h => bs_aload_n (Z := Z) hx hb rfl d_M_clash_8 h, List.forall_mem_cons.mpr ⟨fun S h => bs_gR (Z := Z) (C := R_M) (T := F_M) (N := 40) (t := 40) (j := 11) hx hb hK hts (fun w h => List.mem_cons_of_mem _ (iw_M w h)) hown rfl rfl (by decide) (hts _ (List.mem_cons_of_mem _ wd_795)) (fun _ h => h) rfl rfl rfl d_M_clash_9 h, List.forall_mem_cons.mpr ⟨fun S h => bs_iload_n (Z := Z) hx hb rfl d_M_clash_12 h, List.forall_mem_cons.mpr ⟨fun S h => bs_Iald (Z := Z) hx hb ha1 d_M_clash_13 h, List.forall_mem_cons.mpr ⟨fun S h => bs_iload_n (Z := Z) hx hb rfl d_M_clash_14 h, List.forall_mem_cons.mpr ⟨fun S h => bs_ishr (Z := Z) hx hb d_M_clash_15 h, List.forall_mem_cons.mpr ⟨fun S h => bs_iconst (Z := Z) hx hb (by decide) d_M_clash_16 h, List.forall_mem_cons.mpr ⟨fun S h => bs_iand (Z := Z) hx hb d_M_clash_17 h, List.forall_mem_cons.mpr ⟨fun S h => bs_if_ne (Z := Z) hx hb d_M_clash_18 (by decide) h, List.forall_mem_cons.mpr ⟨fun S h => bs_goto (Z := Z) hx hb d_M_clash_21 (by decide) h, List.forall_mem_cons.mpr ⟨fun S h => bs_aload_n (Z := Z) hx hb rfl d_M_clash_24 h, List.forall_mem_cons.mpr ⟨fun S h => bs_iload_n (Z := Z) hx hb rfl d_M_clash_25 h, List.forall_mem_cons.mpr ⟨fun S h => bs_iload_n (Z := Z) hx hb rfl d_M_clash_26 h, List.forall_mem_cons.mpr ⟨fun S h => bs_callV (Z := Z) (C := R_M) hBg hbs hB X0 hK (cn_M_source htr (d + 0)) (cl_M_source _ _ hw) (hts _ (List.mem_cons_of_mem _ wd_989)) (hts _ (List.mem_cons_of_mem _ wd_991)) (hts _ (List.mem_cons_of_mem _ ws_39)) rfl rfl rfl rfl rfl (Nat.le_refl _) (Nat.le_refl _) d_M_clash_27 (bs_out htab hlocks) h, List.forall_mem_cons.mpr ⟨fun S h => bs_lstore (Z := Z) hx hb d_M_clash_30 h, List.forall_mem_cons.mpr ⟨fun S h => bs_aload_n (Z := Z) hx hb rfl d_M_clash_32 h, List.forall_mem_cons.mpr ⟨fun S h => bs_iload_n (Z := Z) hx hb rfl d_M_clash_33 h, List.forall_mem_cons.mpr ⟨fun S h => bs_iconst (Z := Z) hx hb (by decide) d_M_clash_34 h, List.forall_mem_cons.mpr ⟨fun S h => bs_idiv (Z := Z) hx hb d_M_clash_35 h, List.forall_mem_cons.mpr ⟨fun S h => bs_iload_n (Z := Z) hx hb rfl d_M_clash_36 h, List.forall_mem_cons.mpr ⟨fun S h => bs_callV (Z := Z) (C := R_M) hBg hbs hB X0 hK (cn_M_source htr (d + 0)) (cl_M_source _ _ hw) (hts _ (List.mem_cons_of_mem _ wd_989)) (hts _ (List.mem_cons_of_mem _ wd_991)) (hts _ (List.mem_cons_of_mem _ ws_39)) rfl rfl rfl rfl rfl (Nat.le_refl _) (Nat.le_refl _) d_M_clash_37 (bs_out htab hlocks) h, List.forall_mem_cons.mpr ⟨fun S h => bs_lstore (Z := Z) hx hb d_M_clash_40 h, List.forall_mem_cons.mpr ⟨fun S h => bs_lload (Z := Z) hx hb d_M_clash_42 h, List.forall_mem_cons.mpr ⟨fun S h => bs_lconst (Z := Z) hx hb (by decide) d_M_clash_44 h, List.forall_mem_cons.mpr ⟨fun S h => bs_lcmp (Z := Z) hx hb d_M_clash_45 h, List.forall_mem_cons.mpr ⟨fun S h => bs_if_lt (Z := Z) hx hb d_M_clash_46 (by decide) h, List.forall_mem_cons.mpr ⟨fun S h => bs_lload (Z := Z) hx hb d_M_clash_49 h, List.forall_mem_cons.mpr ⟨fun S h => bs_lconst (Z := Z) hx hb (by decide) d_M_clash_51 h, List.forall_mem_cons.mpr ⟨fun S h => bs_lcmp (Z := Z) hx hb d_M_clash_52 h, List.forall_mem_cons.mpr ⟨fun S h => bs_if_lt (Z := Z) hx hb d_M_clash_53 (by decide) h, List.forall_mem_cons.mpr ⟨fun S h => bs_lload (Z := Z) hx hb d_M_clash_56 h, List.forall_mem_cons.mpr ⟨fun S h => bs_lload (Z := Z) hx hb d_M_clash_58 h, List.forall_mem_cons.mpr ⟨fun S h => bs_lcmp (Z := Z) hx hb d_M_clash_60 h, List.forall_mem_cons.mpr ⟨fun S h => bs_if_eq (Z := Z) hx hb d_M_clash_61 (by decide) h, List.forall_mem_cons.mpr ⟨fun S h => bs_iconst (Z := Z) hx hb (by decide) d_M_clash_64 h, fun _ h => absurd h List.not_mem_nil⟩⟩⟩⟩⟩⟩⟩⟩⟩⟩⟩⟩⟩⟩⟩⟩⟩⟩⟩⟩⟩⟩⟩⟩⟩⟩⟩⟩⟩⟩⟩⟩⟩⟩⟩⟩⟩⟩⟩⟩
abbrev c_M_holds : ByteArray := prog_10_method_20_code
def y_M_holds : MethodName := ⟨"BundleHallModel", "holds", "()Z"⟩
theorem d_M_holds_0 : decode c_M_holds 0 = .ok (.iconst 0, 1) := by decide +kernel
theorem d_M_holds_1 : decode c_M_holds 1 = .ok (.istore_n 1, 1) := by decide +kernel
theorem d_M_holds_2 : decode c_M_holds 2 = .ok (.iload_n 1, 1) := by decide +kernel
theorem d_M_holds_3 : decode c_M_holds 3 = .ok (.aload_n 0, 1) := by decide +kernel
theorem d_M_holds_4 : decode c_M_holds 4 = .ok (.getfield 153, 3) := by decide +kernel
theorem d_M_holds_7 : decode c_M_holds 7 = .ok (.if_icmp .ge 31, 3) := by decide +kernel
theorem d_M_holds_10 : decode c_M_holds 10 = .ok (.aload_n 0, 1) := by decide +kernel
theorem d_M_holds_11 : decode c_M_holds 11 = .ok (.aload_n 0, 1) := by decide +kernel
theorem d_M_holds_12 : decode c_M_holds 12 = .ok (.getfield 63, 3) := by decide +kernel
theorem d_M_holds_15 : decode c_M_holds 15 = .ok (.iload_n 1, 1) := by decide +kernel
theorem d_M_holds_16 : decode c_M_holds 16 = .ok (.iaload, 1) := by decide +kernel
theorem d_M_holds_17 : decode c_M_holds 17 = .ok (.iconst 3, 1) := by decide +kernel
theorem d_M_holds_18 : decode c_M_holds 18 = .ok (.idiv, 1) := by decide +kernel
theorem d_M_holds_19 : decode c_M_holds 19 = .ok (.aload_n 0, 1) := by decide +kernel
theorem d_M_holds_20 : decode c_M_holds 20 = .ok (.iload_n 1, 1) := by decide +kernel
theorem d_M_holds_21 : decode c_M_holds 21 = .ok (.invokevirtual 156, 3) := by decide +kernel
theorem d_M_holds_24 : decode c_M_holds 24 = .ok (.invokevirtual 163, 3) := by decide +kernel
theorem d_M_holds_27 : decode c_M_holds 27 = .ok (.ifCond .eq 5, 3) := by decide +kernel
theorem d_M_holds_30 : decode c_M_holds 30 = .ok (.iconst 0, 1) := by decide +kernel
theorem d_M_holds_31 : decode c_M_holds 31 = .ok (.ireturn, 1) := by decide +kernel
theorem d_M_holds_32 : decode c_M_holds 32 = .ok (.iinc 1 1, 3) := by decide +kernel
theorem d_M_holds_35 : decode c_M_holds 35 = .ok (.goto (-33), 3) := by decide +kernel
theorem d_M_holds_38 : decode c_M_holds 38 = .ok (.iconst 1, 1) := by decide +kernel
theorem d_M_holds_39 : decode c_M_holds 39 = .ok (.ireturn, 1) := by decide +kernel
def T_M_holds_0 : List (Nat × bh_Op) := [(0, bo_st 1 (bg_push (.inl (.int 0)))),
  (1, bo_ist 2 1),
  (2, bo_ild 3 1),
  (3, bo_ald 4 0),
  (4, bo_gI 7 40 26),
  (7, bo_if2 10 38 (fun x y => y ≤ x)),
  (10, bo_ald 11 0),
  (11, bo_ald 12 0),
  (12, bo_gR 15 40 18 58),
  (15, bo_ild 16 1),
  (16, bo_Iald bh_ak bh_al 17),
  (17, bo_st 18 (bg_push (.inl (.int 3)))),
  (18, bo_st 19 (bg_dv (fun x y => x / y))),
  (19, bo_ald 20 0),
  (20, bo_ild 21 1),
  (21, bo_callV 24 2 0 0 40 F_M_choice),
  (24, bo_callV 27 3 0 0 40 F_M_clash),
  (27, bo_if1 30 32 (fun x => x = 0)),
  (30, bo_st 31 (bg_push (.inl (.int 0)))),
  (31, bo_zret 0),
  (32, bo_inc 35 1 1),
  (35, bo_go 2),
  (38, bo_st 39 (bg_push (.inl (.int 1)))),
  (39, bo_zret 0)]
def T_M_holds : List (Nat × bh_Op) := T_M_holds_0
set_option maxRecDepth 20000 in
theorem mT_M_holds_0 : ∀ q ∈ T_M_holds_0, bh_mono q.2 := List.forall_mem_cons.mpr ⟨bo_st_mono (bg_push_m _), List.forall_mem_cons.mpr ⟨bo_ist_m _ _, List.forall_mem_cons.mpr ⟨bo_ild_m _ _, List.forall_mem_cons.mpr ⟨bo_ald_m _ _, List.forall_mem_cons.mpr ⟨bo_gI_m _ _ _, List.forall_mem_cons.mpr ⟨bo_if2_m _ _ _, List.forall_mem_cons.mpr ⟨bo_ald_m _ _, List.forall_mem_cons.mpr ⟨bo_ald_m _ _, List.forall_mem_cons.mpr ⟨bo_gR_m _ _ _ _, List.forall_mem_cons.mpr ⟨bo_ild_m _ _, List.forall_mem_cons.mpr ⟨bo_Iald_m _ _ _, List.forall_mem_cons.mpr ⟨bo_st_mono (bg_push_m _), List.forall_mem_cons.mpr ⟨bo_st_mono (bg_dv_m _), List.forall_mem_cons.mpr ⟨bo_ald_m _ _, List.forall_mem_cons.mpr ⟨bo_ild_m _ _, List.forall_mem_cons.mpr ⟨bo_callV_m (mF_M_choice) _ _ _ _ _, List.forall_mem_cons.mpr ⟨bo_callV_m (mF_M_clash) _ _ _ _ _, List.forall_mem_cons.mpr ⟨bo_if1_m _ _ _, List.forall_mem_cons.mpr ⟨bo_st_mono (bg_push_m _), List.forall_mem_cons.mpr ⟨bo_zret_m _, List.forall_mem_cons.mpr ⟨bo_inc_m _ _ _, List.forall_mem_cons.mpr ⟨bo_go_m _, List.forall_mem_cons.mpr ⟨bo_st_mono (bg_push_m _), List.forall_mem_cons.mpr ⟨bo_zret_m _, fun _ h => absurd h List.not_mem_nil⟩⟩⟩⟩⟩⟩⟩⟩⟩⟩⟩⟩⟩⟩⟩⟩⟩⟩⟩⟩⟩⟩⟩⟩
theorem m_M_holds : ∀ pc, bh_mono (bh_tb (T_M_holds) pc) := bh_tb_m mT_M_holds_0
def F_M_holds : bh_Fn := bh_fn 2 (bh_tb T_M_holds)
theorem mF_M_holds : bh_monoF F_M_holds := bh_fn_m m_M_holds
theorem cl_M_holds {s : State} {args : Array Value} (d B : Nat) (hts : ∀ w ∈ bh_ws, w.before args s = true) : bh_Cal (bh_rm (d + 1) B) s y_M_holds 2 (.code y_M_holds c_M_holds 2 (some .boolean) :: bh_ws) (bh_rm d 0) 0 0 := bh_cal d B hts wd_984 wd_9 (by decide) (by decide +kernel)
set_option maxHeartbeats 4000000 in
set_option maxRecDepth 100000 in
theorem cn_M_holds {l : Launch} {G : bh_G} {base sb L : Nat} {xs : Nat → Int32} (htr : l.stackTraces = false) (d : Nat) : bh_Con l G base (bh_Bg G base sb L xs) y_M_holds (.code y_M_holds c_M_holds 2 (some .boolean) :: bh_ws) (bh_rm (d + 4) 0) 0 false F_M_holds := by
  refine bh_method (cc := c_M_holds) (ret := (some .boolean)) (by decide +kernel) rfl ?_
  intro p e s m args below meth c ad0 M0 Z X0 hr hlocks hname htab hbs hB
  obtain ⟨hx, hb, hml, hown, hts⟩ := id X0
  have hw : ∀ w ∈ bh_ws, w.before args s = true := fun w h => hts w (List.mem_cons_of_mem _ h)
  have hBg := bh_BgK (G := G) (base := base) (sb := sb) (L := L) (xs := xs)
  obtain ⟨hK, hAr, hen, hinj, hu1, hu2, hstr, hX, hsb, hsc, hxw, hao, hnc⟩ := id hB
  obtain ⟨ha1, ha2, ha3, ha4, ha5, ha6, ha0⟩ := bh_arr hAr
  exact List.forall_mem_cons.mpr ⟨fun S h => bs_iconst (Z := Z) hx hb (by decide) d_M_holds_0 h, List.forall_mem_cons.mpr ⟨fun S h => bs_istore_n (Z := Z) hx hb rfl d_M_holds_1 h, List.forall_mem_cons.mpr ⟨fun S h => bs_iload_n (Z := Z) hx hb rfl d_M_holds_2 h, List.forall_mem_cons.mpr ⟨fun S h => bs_aload_n (Z := Z) hx hb rfl d_M_holds_3 h, List.forall_mem_cons.mpr ⟨fun S h => bs_gI (Z := Z) (C := R_M) (T := F_M) (N := 40) (t := 40) (j := 26) hx hb hK hts (fun w h => List.mem_cons_of_mem _ (iw_M w h)) hown rfl rfl (by decide) (hts _ (List.mem_cons_of_mem _ wd_810)) (fun _ h => h) rfl rfl rfl d_M_holds_4 h, List.forall_mem_cons.mpr ⟨fun S h => bs_icmp_ge (Z := Z) hx hb d_M_holds_7 (by decide) h, List.forall_mem_cons.mpr ⟨fun S h => bs_aload_n (Z := Z) hx hb rfl d_M_holds_10 h, List.forall_mem_cons.mpr ⟨fun S h => bs_aload_n (Z := Z) hx hb rfl d_M_holds_11 h, List.forall_mem_cons.mpr ⟨fun S h => bs_gR (Z := Z) (C := R_M) (T := F_M) (N := 40) (t := 40) (j := 18) hx hb hK hts (fun w h => List.mem_cons_of_mem _ (iw_M w h)) hown rfl rfl (by decide) (hts _ (List.mem_cons_of_mem _ wd_802)) (fun _ h => h) rfl rfl rfl d_M_holds_12 h, List.forall_mem_cons.mpr ⟨fun S h => bs_iload_n (Z := Z) hx hb rfl d_M_holds_15 h, List.forall_mem_cons.mpr ⟨fun S h => bs_Iald (Z := Z) hx hb ha1 d_M_holds_16 h, List.forall_mem_cons.mpr ⟨fun S h => bs_iconst (Z := Z) hx hb (by decide) d_M_holds_17 h, List.forall_mem_cons.mpr ⟨fun S h => bs_idiv (Z := Z) hx hb d_M_holds_18 h, List.forall_mem_cons.mpr ⟨fun S h => bs_aload_n (Z := Z) hx hb rfl d_M_holds_19 h, List.forall_mem_cons.mpr ⟨fun S h => bs_iload_n (Z := Z) hx hb rfl d_M_holds_20 h, List.forall_mem_cons.mpr ⟨fun S h => bs_callV (Z := Z) (C := R_M) hBg hbs hB X0 hK (cn_M_choice htr (d + 2)) (cl_M_choice _ _ hw) (hts _ (List.mem_cons_of_mem _ wd_977)) (hts _ (List.mem_cons_of_mem _ wd_979)) (hts _ (List.mem_cons_of_mem _ ws_36)) rfl rfl rfl rfl rfl (Nat.le_refl _) (Nat.le_refl _) d_M_holds_21 (bs_out htab hlocks) h, List.forall_mem_cons.mpr ⟨fun S h => bs_callV (Z := Z) (C := R_M) hBg hbs hB X0 hK (cn_M_clash htr (d + 0)) (cl_M_clash _ _ hw) (hts _ (List.mem_cons_of_mem _ wd_985)) (hts _ (List.mem_cons_of_mem _ wd_987)) (hts _ (List.mem_cons_of_mem _ ws_38)) rfl rfl rfl rfl rfl (Nat.le_refl _) (Nat.le_refl _) d_M_holds_24 (bs_out htab hlocks) h, List.forall_mem_cons.mpr ⟨fun S h => bs_if_eq (Z := Z) hx hb d_M_holds_27 (by decide) h, List.forall_mem_cons.mpr ⟨fun S h => bs_iconst (Z := Z) hx hb (by decide) d_M_holds_30 h, List.forall_mem_cons.mpr ⟨fun S h => bs_zret (Z := Z) hx hb hr hlocks d_M_holds_31 h, List.forall_mem_cons.mpr ⟨fun S h => bs_iinc (Z := Z) hx hb (by decide) d_M_holds_32 h, List.forall_mem_cons.mpr ⟨fun S h => bs_goto (Z := Z) hx hb d_M_holds_35 (by decide) h, List.forall_mem_cons.mpr ⟨fun S h => bs_iconst (Z := Z) hx hb (by decide) d_M_holds_38 h, List.forall_mem_cons.mpr ⟨fun S h => bs_zret (Z := Z) hx hb hr hlocks d_M_holds_39 h, fun _ h => absurd h List.not_mem_nil⟩⟩⟩⟩⟩⟩⟩⟩⟩⟩⟩⟩⟩⟩⟩⟩⟩⟩⟩⟩⟩⟩⟩⟩
abbrev c_M_solve : ByteArray := prog_10_method_23_code
def y_M_solve : MethodName := ⟨"BundleHallModel", "solve", "()I"⟩
theorem d_M_solve_0 : decode c_M_solve 0 = .ok (.iconst 0, 1) := by decide +kernel
theorem d_M_solve_1 : decode c_M_solve 1 = .ok (.istore_n 1, 1) := by decide +kernel
theorem d_M_solve_2 : decode c_M_solve 2 = .ok (.aload_n 0, 1) := by decide +kernel
theorem d_M_solve_3 : decode c_M_solve 3 = .ok (.iconst 0, 1) := by decide +kernel
theorem d_M_solve_4 : decode c_M_solve 4 = .ok (.putfield 153, 3) := by decide +kernel
theorem d_M_solve_7 : decode c_M_solve 7 = .ok (.aload_n 0, 1) := by decide +kernel
theorem d_M_solve_8 : decode c_M_solve 8 = .ok (.getfield 166, 3) := by decide +kernel
theorem d_M_solve_11 : decode c_M_solve 11 = .ok (.ifCond .le 9, 3) := by decide +kernel
theorem d_M_solve_14 : decode c_M_solve 14 = .ok (.aload_n 0, 1) := by decide +kernel
theorem d_M_solve_15 : decode c_M_solve 15 = .ok (.iconst 0, 1) := by decide +kernel
theorem d_M_solve_16 : decode c_M_solve 16 = .ok (.iconst 0, 1) := by decide +kernel
theorem d_M_solve_17 : decode c_M_solve 17 = .ok (.invokevirtual 169, 3) := by decide +kernel
theorem d_M_solve_20 : decode c_M_solve 20 = .ok (.iload_n 1, 1) := by decide +kernel
theorem d_M_solve_21 : decode c_M_solve 21 = .ok (.aload_n 0, 1) := by decide +kernel
theorem d_M_solve_22 : decode c_M_solve 22 = .ok (.getfield 166, 3) := by decide +kernel
theorem d_M_solve_25 : decode c_M_solve 25 = .ok (.if_icmp .ge 142, 3) := by decide +kernel
theorem d_M_solve_28 : decode c_M_solve 28 = .ok (.aload_n 0, 1) := by decide +kernel
theorem d_M_solve_29 : decode c_M_solve 29 = .ok (.getfield 72, 3) := by decide +kernel
theorem d_M_solve_32 : decode c_M_solve 32 = .ok (.iload_n 1, 1) := by decide +kernel
theorem d_M_solve_33 : decode c_M_solve 33 = .ok (.iaload, 1) := by decide +kernel
theorem d_M_solve_34 : decode c_M_solve 34 = .ok (.aload_n 0, 1) := by decide +kernel
theorem d_M_solve_35 : decode c_M_solve 35 = .ok (.getfield 69, 3) := by decide +kernel
theorem d_M_solve_38 : decode c_M_solve 38 = .ok (.iload_n 1, 1) := by decide +kernel
theorem d_M_solve_39 : decode c_M_solve 39 = .ok (.iaload, 1) := by decide +kernel
theorem d_M_solve_40 : decode c_M_solve 40 = .ok (.if_icmp .ne 20, 3) := by decide +kernel
theorem d_M_solve_43 : decode c_M_solve 43 = .ok (.iinc 1 (-1), 3) := by decide +kernel
theorem d_M_solve_46 : decode c_M_solve 46 = .ok (.iload_n 1, 1) := by decide +kernel
theorem d_M_solve_47 : decode c_M_solve 47 = .ok (.ifCond .ge 5, 3) := by decide +kernel
theorem d_M_solve_50 : decode c_M_solve 50 = .ok (.iconst 3, 1) := by decide +kernel
theorem d_M_solve_51 : decode c_M_solve 51 = .ok (.ireturn, 1) := by decide +kernel
theorem d_M_solve_52 : decode c_M_solve 52 = .ok (.aload_n 0, 1) := by decide +kernel
theorem d_M_solve_53 : decode c_M_solve 53 = .ok (.iload_n 1, 1) := by decide +kernel
theorem d_M_solve_54 : decode c_M_solve 54 = .ok (.invokevirtual 173, 3) := by decide +kernel
theorem d_M_solve_57 : decode c_M_solve 57 = .ok (.goto (-37), 3) := by decide +kernel
theorem d_M_solve_60 : decode c_M_solve 60 = .ok (.aload_n 0, 1) := by decide +kernel
theorem d_M_solve_61 : decode c_M_solve 61 = .ok (.dup, 1) := by decide +kernel
theorem d_M_solve_62 : decode c_M_solve 62 = .ok (.getfield 176, 3) := by decide +kernel
theorem d_M_solve_65 : decode c_M_solve 65 = .ok (.iconst 1, 1) := by decide +kernel
theorem d_M_solve_66 : decode c_M_solve 66 = .ok (.iadd, 1) := by decide +kernel
theorem d_M_solve_67 : decode c_M_solve 67 = .ok (.putfield 176, 3) := by decide +kernel
theorem d_M_solve_70 : decode c_M_solve 70 = .ok (.aload_n 0, 1) := by decide +kernel
theorem d_M_solve_71 : decode c_M_solve 71 = .ok (.getfield 176, 3) := by decide +kernel
theorem d_M_solve_74 : decode c_M_solve 74 = .ok (.sipush 300, 3) := by decide +kernel
theorem d_M_solve_77 : decode c_M_solve 77 = .ok (.if_icmp .le 5, 3) := by decide +kernel
theorem d_M_solve_80 : decode c_M_solve 80 = .ok (.iconst 4, 1) := by decide +kernel
theorem d_M_solve_81 : decode c_M_solve 81 = .ok (.ireturn, 1) := by decide +kernel
theorem d_M_solve_82 : decode c_M_solve 82 = .ok (.aload_n 0, 1) := by decide +kernel
theorem d_M_solve_83 : decode c_M_solve 83 = .ok (.getfield 75, 3) := by decide +kernel
theorem d_M_solve_86 : decode c_M_solve 86 = .ok (.iload_n 1, 1) := by decide +kernel
theorem d_M_solve_87 : decode c_M_solve 87 = .ok (.aload_n 0, 1) := by decide +kernel
theorem d_M_solve_88 : decode c_M_solve 88 = .ok (.getfield 166, 3) := by decide +kernel
theorem d_M_solve_91 : decode c_M_solve 91 = .ok (.iastore, 1) := by decide +kernel
theorem d_M_solve_92 : decode c_M_solve 92 = .ok (.aload_n 0, 1) := by decide +kernel
theorem d_M_solve_93 : decode c_M_solve 93 = .ok (.iload_n 1, 1) := by decide +kernel
theorem d_M_solve_94 : decode c_M_solve 94 = .ok (.iconst 1, 1) := by decide +kernel
theorem d_M_solve_95 : decode c_M_solve 95 = .ok (.iadd, 1) := by decide +kernel
theorem d_M_solve_96 : decode c_M_solve 96 = .ok (.putfield 153, 3) := by decide +kernel
theorem d_M_solve_99 : decode c_M_solve 99 = .ok (.aload_n 0, 1) := by decide +kernel
theorem d_M_solve_100 : decode c_M_solve 100 = .ok (.iload_n 1, 1) := by decide +kernel
theorem d_M_solve_101 : decode c_M_solve 101 = .ok (.invokevirtual 156, 3) := by decide +kernel
theorem d_M_solve_104 : decode c_M_solve 104 = .ok (.iconst 3, 1) := by decide +kernel
theorem d_M_solve_105 : decode c_M_solve 105 = .ok (.idiv, 1) := by decide +kernel
theorem d_M_solve_106 : decode c_M_solve 106 = .ok (.istore_n 2, 1) := by decide +kernel
theorem d_M_solve_107 : decode c_M_solve 107 = .ok (.aload_n 0, 1) := by decide +kernel
theorem d_M_solve_108 : decode c_M_solve 108 = .ok (.getfield 7, 3) := by decide +kernel
theorem d_M_solve_111 : decode c_M_solve 111 = .ok (.iload_n 2, 1) := by decide +kernel
theorem d_M_solve_112 : decode c_M_solve 112 = .ok (.iaload, 1) := by decide +kernel
theorem d_M_solve_113 : decode c_M_solve 113 = .ok (.iconst 1, 1) := by decide +kernel
theorem d_M_solve_114 : decode c_M_solve 114 = .ok (.if_icmp .ne 18, 3) := by decide +kernel
theorem d_M_solve_117 : decode c_M_solve 117 = .ok (.aload_n 0, 1) := by decide +kernel
theorem d_M_solve_118 : decode c_M_solve 118 = .ok (.getfield 78, 3) := by decide +kernel
theorem d_M_solve_121 : decode c_M_solve 121 = .ok (.iload_n 2, 1) := by decide +kernel
theorem d_M_solve_122 : decode c_M_solve 122 = .ok (.baload, 1) := by decide +kernel
theorem d_M_solve_123 : decode c_M_solve 123 = .ok (.ifCond .ne 9, 3) := by decide +kernel
theorem d_M_solve_126 : decode c_M_solve 126 = .ok (.aload_n 0, 1) := by decide +kernel
theorem d_M_solve_127 : decode c_M_solve 127 = .ok (.iload_n 2, 1) := by decide +kernel
theorem d_M_solve_128 : decode c_M_solve 128 = .ok (.iload_n 1, 1) := by decide +kernel
theorem d_M_solve_129 : decode c_M_solve 129 = .ok (.invokevirtual 179, 3) := by decide +kernel
theorem d_M_solve_132 : decode c_M_solve 132 = .ok (.aload_n 0, 1) := by decide +kernel
theorem d_M_solve_133 : decode c_M_solve 133 = .ok (.invokevirtual 183, 3) := by decide +kernel
theorem d_M_solve_136 : decode c_M_solve 136 = .ok (.ifCond .ne 11, 3) := by decide +kernel
theorem d_M_solve_139 : decode c_M_solve 139 = .ok (.aload_n 0, 1) := by decide +kernel
theorem d_M_solve_140 : decode c_M_solve 140 = .ok (.iload_n 1, 1) := by decide +kernel
theorem d_M_solve_141 : decode c_M_solve 141 = .ok (.invokevirtual 173, 3) := by decide +kernel
theorem d_M_solve_144 : decode c_M_solve 144 = .ok (.goto (-124), 3) := by decide +kernel
theorem d_M_solve_147 : decode c_M_solve 147 = .ok (.iinc 1 1, 3) := by decide +kernel
theorem d_M_solve_150 : decode c_M_solve 150 = .ok (.iload_n 1, 1) := by decide +kernel
theorem d_M_solve_151 : decode c_M_solve 151 = .ok (.aload_n 0, 1) := by decide +kernel
theorem d_M_solve_152 : decode c_M_solve 152 = .ok (.getfield 166, 3) := by decide +kernel
theorem d_M_solve_155 : decode c_M_solve 155 = .ok (.if_icmp .ge 9, 3) := by decide +kernel
theorem d_M_solve_158 : decode c_M_solve 158 = .ok (.aload_n 0, 1) := by decide +kernel
theorem d_M_solve_159 : decode c_M_solve 159 = .ok (.iload_n 1, 1) := by decide +kernel
theorem d_M_solve_160 : decode c_M_solve 160 = .ok (.iconst 0, 1) := by decide +kernel
theorem d_M_solve_161 : decode c_M_solve 161 = .ok (.invokevirtual 169, 3) := by decide +kernel
theorem d_M_solve_164 : decode c_M_solve 164 = .ok (.goto (-144), 3) := by decide +kernel
theorem d_M_solve_167 : decode c_M_solve 167 = .ok (.iconst 0, 1) := by decide +kernel
theorem d_M_solve_168 : decode c_M_solve 168 = .ok (.ireturn, 1) := by decide +kernel
def T_M_solve_0 : List (Nat × bh_Op) := [(0, bo_st 1 (bg_push (.inl (.int 0)))),
  (1, bo_ist 2 1),
  (2, bo_ald 3 0),
  (3, bo_st 4 (bg_push (.inl (.int 0)))),
  (4, bo_pI 7 40 26),
  (7, bo_ald 8 0),
  (8, bo_gI 11 40 19),
  (11, bo_if1 14 20 (fun x => x ≤ 0)),
  (14, bo_ald 15 0),
  (15, bo_st 16 (bg_push (.inl (.int 0)))),
  (16, bo_st 17 (bg_push (.inl (.int 0)))),
  (17, bo_callV 20 3 0 0 40 F_M_find),
  (20, bo_ild 21 1),
  (21, bo_ald 22 0),
  (22, bo_gI 25 40 19),
  (25, bo_if2 28 167 (fun x y => y ≤ x)),
  (28, bo_ald 29 0),
  (29, bo_gR 32 40 22 61),
  (32, bo_ild 33 1),
  (33, bo_Iald bh_ak bh_al 34),
  (34, bo_ald 35 0),
  (35, bo_gR 38 40 21 60),
  (38, bo_ild 39 1),
  (39, bo_Iald bh_ak bh_al 40),
  (40, bo_if2 43 60 (fun x y => ¬ x = y)),
  (43, bo_inc 46 1 (-1)),
  (46, bo_ild 47 1),
  (47, bo_if1 50 52 (fun x => 0 ≤ x)),
  (50, bo_st 51 (bg_push (.inl (.int 3)))),
  (51, bo_iret 0),
  (52, bo_ald 53 0),
  (53, bo_ild 54 1),
  (54, bo_callV 57 2 0 0 40 F_M_undo),
  (57, bo_go 20),
  (60, bo_ald 61 0),
  (61, bo_st 62 bg_dup),
  (62, bo_gI 65 40 27),
  (65, bo_st 66 (bg_push (.inl (.int 1)))),
  (66, bo_st 67 (bg_ii (fun x y => x + y))),
  (67, bo_pI 70 40 27)]
def T_M_solve_1 : List (Nat × bh_Op) := [(70, bo_ald 71 0),
  (71, bo_gI 74 40 27),
  (74, bo_st 77 (bg_push (.inl (.int 300)))),
  (77, bo_if2 80 82 (fun x y => x ≤ y)),
  (80, bo_st 81 (bg_push (.inl (.int 4)))),
  (81, bo_iret 0),
  (82, bo_ald 83 0),
  (83, bo_gR 86 40 23 62),
  (86, bo_ild 87 1),
  (87, bo_ald 88 0),
  (88, bo_gI 91 40 19),
  (91, bo_Iast bh_ak bh_al 92),
  (92, bo_ald 93 0),
  (93, bo_ild 94 1),
  (94, bo_st 95 (bg_push (.inl (.int 1)))),
  (95, bo_st 96 (bg_ii (fun x y => x + y))),
  (96, bo_pI 99 40 26),
  (99, bo_ald 100 0),
  (100, bo_ild 101 1),
  (101, bo_callV 104 2 0 0 40 F_M_choice),
  (104, bo_st 105 (bg_push (.inl (.int 3)))),
  (105, bo_st 106 (bg_dv (fun x y => x / y))),
  (106, bo_ist 107 2),
  (107, bo_ald 108 0),
  (108, bo_gR 111 40 1 41),
  (111, bo_ild 112 2),
  (112, bo_Iald bh_ak bh_al 113),
  (113, bo_st 114 (bg_push (.inl (.int 1)))),
  (114, bo_if2 117 132 (fun x y => ¬ x = y)),
  (117, bo_ald 118 0),
  (118, bo_gR 121 40 24 63),
  (121, bo_ild 122 2),
  (122, bo_Zald bh_ak bh_al 123),
  (123, bo_if1 126 132 (fun x => ¬ x = 0)),
  (126, bo_ald 127 0),
  (127, bo_ild 128 2),
  (128, bo_ild 129 1),
  (129, bo_callV 132 3 0 0 40 F_M_takeIn),
  (132, bo_ald 133 0),
  (133, bo_callV 136 1 0 0 40 F_M_holds)]
def T_M_solve_2 : List (Nat × bh_Op) := [(136, bo_if1 139 147 (fun x => ¬ x = 0)),
  (139, bo_ald 140 0),
  (140, bo_ild 141 1),
  (141, bo_callV 144 2 0 0 40 F_M_undo),
  (144, bo_go 20),
  (147, bo_inc 150 1 1),
  (150, bo_ild 151 1),
  (151, bo_ald 152 0),
  (152, bo_gI 155 40 19),
  (155, bo_if2 158 164 (fun x y => y ≤ x)),
  (158, bo_ald 159 0),
  (159, bo_ild 160 1),
  (160, bo_st 161 (bg_push (.inl (.int 0)))),
  (161, bo_callV 164 3 0 0 40 F_M_find),
  (164, bo_go 20),
  (167, bo_st 168 (bg_push (.inl (.int 0)))),
  (168, bo_iret 0)]
def T_M_solve : List (Nat × bh_Op) := T_M_solve_0 ++ T_M_solve_1 ++ T_M_solve_2
set_option maxRecDepth 20000 in
theorem mT_M_solve_0 : ∀ q ∈ T_M_solve_0, bh_mono q.2 := List.forall_mem_cons.mpr ⟨bo_st_mono (bg_push_m _), List.forall_mem_cons.mpr ⟨bo_ist_m _ _, List.forall_mem_cons.mpr ⟨bo_ald_m _ _, List.forall_mem_cons.mpr ⟨bo_st_mono (bg_push_m _), List.forall_mem_cons.mpr ⟨bo_pI_m _ _ _, List.forall_mem_cons.mpr ⟨bo_ald_m _ _, List.forall_mem_cons.mpr ⟨bo_gI_m _ _ _, List.forall_mem_cons.mpr ⟨bo_if1_m _ _ _, List.forall_mem_cons.mpr ⟨bo_ald_m _ _, List.forall_mem_cons.mpr ⟨bo_st_mono (bg_push_m _), List.forall_mem_cons.mpr ⟨bo_st_mono (bg_push_m _), List.forall_mem_cons.mpr ⟨bo_callV_m (mF_M_find) _ _ _ _ _, List.forall_mem_cons.mpr ⟨bo_ild_m _ _, List.forall_mem_cons.mpr ⟨bo_ald_m _ _, List.forall_mem_cons.mpr ⟨bo_gI_m _ _ _, List.forall_mem_cons.mpr ⟨bo_if2_m _ _ _, List.forall_mem_cons.mpr ⟨bo_ald_m _ _, List.forall_mem_cons.mpr ⟨bo_gR_m _ _ _ _, List.forall_mem_cons.mpr ⟨bo_ild_m _ _, List.forall_mem_cons.mpr ⟨bo_Iald_m _ _ _, List.forall_mem_cons.mpr ⟨bo_ald_m _ _, List.forall_mem_cons.mpr ⟨bo_gR_m _ _ _ _, List.forall_mem_cons.mpr ⟨bo_ild_m _ _, List.forall_mem_cons.mpr ⟨bo_Iald_m _ _ _, List.forall_mem_cons.mpr ⟨bo_if2_m _ _ _, List.forall_mem_cons.mpr ⟨bo_inc_m _ _ _, List.forall_mem_cons.mpr ⟨bo_ild_m _ _, List.forall_mem_cons.mpr ⟨bo_if1_m _ _ _, List.forall_mem_cons.mpr ⟨bo_st_mono (bg_push_m _), List.forall_mem_cons.mpr ⟨bo_iret_m _, List.forall_mem_cons.mpr ⟨bo_ald_m _ _, List.forall_mem_cons.mpr ⟨bo_ild_m _ _, List.forall_mem_cons.mpr ⟨bo_callV_m (mF_M_undo) _ _ _ _ _, List.forall_mem_cons.mpr ⟨bo_go_m _, List.forall_mem_cons.mpr ⟨bo_ald_m _ _, List.forall_mem_cons.mpr ⟨bo_st_mono bg_dup_m, List.forall_mem_cons.mpr ⟨bo_gI_m _ _ _, List.forall_mem_cons.mpr ⟨bo_st_mono (bg_push_m _), List.forall_mem_cons.mpr ⟨bo_st_mono (bg_ii_m _), List.forall_mem_cons.mpr ⟨bo_pI_m _ _ _, fun _ h => absurd h List.not_mem_nil⟩⟩⟩⟩⟩⟩⟩⟩⟩⟩⟩⟩⟩⟩⟩⟩⟩⟩⟩⟩⟩⟩⟩⟩⟩⟩⟩⟩⟩⟩⟩⟩⟩⟩⟩⟩⟩⟩⟩⟩
set_option maxRecDepth 20000 in
theorem mT_M_solve_1 : ∀ q ∈ T_M_solve_1, bh_mono q.2 := List.forall_mem_cons.mpr ⟨bo_ald_m _ _, List.forall_mem_cons.mpr ⟨bo_gI_m _ _ _, List.forall_mem_cons.mpr ⟨bo_st_mono (bg_push_m _), List.forall_mem_cons.mpr ⟨bo_if2_m _ _ _, List.forall_mem_cons.mpr ⟨bo_st_mono (bg_push_m _), List.forall_mem_cons.mpr ⟨bo_iret_m _, List.forall_mem_cons.mpr ⟨bo_ald_m _ _, List.forall_mem_cons.mpr ⟨bo_gR_m _ _ _ _, List.forall_mem_cons.mpr ⟨bo_ild_m _ _, List.forall_mem_cons.mpr ⟨bo_ald_m _ _, List.forall_mem_cons.mpr ⟨bo_gI_m _ _ _, List.forall_mem_cons.mpr ⟨bo_Iast_m _ _ _, List.forall_mem_cons.mpr ⟨bo_ald_m _ _, List.forall_mem_cons.mpr ⟨bo_ild_m _ _, List.forall_mem_cons.mpr ⟨bo_st_mono (bg_push_m _), List.forall_mem_cons.mpr ⟨bo_st_mono (bg_ii_m _), List.forall_mem_cons.mpr ⟨bo_pI_m _ _ _, List.forall_mem_cons.mpr ⟨bo_ald_m _ _, List.forall_mem_cons.mpr ⟨bo_ild_m _ _, List.forall_mem_cons.mpr ⟨bo_callV_m (mF_M_choice) _ _ _ _ _, List.forall_mem_cons.mpr ⟨bo_st_mono (bg_push_m _), List.forall_mem_cons.mpr ⟨bo_st_mono (bg_dv_m _), List.forall_mem_cons.mpr ⟨bo_ist_m _ _, List.forall_mem_cons.mpr ⟨bo_ald_m _ _, List.forall_mem_cons.mpr ⟨bo_gR_m _ _ _ _, List.forall_mem_cons.mpr ⟨bo_ild_m _ _, List.forall_mem_cons.mpr ⟨bo_Iald_m _ _ _, List.forall_mem_cons.mpr ⟨bo_st_mono (bg_push_m _), List.forall_mem_cons.mpr ⟨bo_if2_m _ _ _, List.forall_mem_cons.mpr ⟨bo_ald_m _ _, List.forall_mem_cons.mpr ⟨bo_gR_m _ _ _ _, List.forall_mem_cons.mpr ⟨bo_ild_m _ _, List.forall_mem_cons.mpr ⟨bo_Zald_m _ _ _, List.forall_mem_cons.mpr ⟨bo_if1_m _ _ _, List.forall_mem_cons.mpr ⟨bo_ald_m _ _, List.forall_mem_cons.mpr ⟨bo_ild_m _ _, List.forall_mem_cons.mpr ⟨bo_ild_m _ _, List.forall_mem_cons.mpr ⟨bo_callV_m (mF_M_takeIn) _ _ _ _ _, List.forall_mem_cons.mpr ⟨bo_ald_m _ _, List.forall_mem_cons.mpr ⟨bo_callV_m (mF_M_holds) _ _ _ _ _, fun _ h => absurd h List.not_mem_nil⟩⟩⟩⟩⟩⟩⟩⟩⟩⟩⟩⟩⟩⟩⟩⟩⟩⟩⟩⟩⟩⟩⟩⟩⟩⟩⟩⟩⟩⟩⟩⟩⟩⟩⟩⟩⟩⟩⟩⟩
set_option maxRecDepth 20000 in
theorem mT_M_solve_2 : ∀ q ∈ T_M_solve_2, bh_mono q.2 := List.forall_mem_cons.mpr ⟨bo_if1_m _ _ _, List.forall_mem_cons.mpr ⟨bo_ald_m _ _, List.forall_mem_cons.mpr ⟨bo_ild_m _ _, List.forall_mem_cons.mpr ⟨bo_callV_m (mF_M_undo) _ _ _ _ _, List.forall_mem_cons.mpr ⟨bo_go_m _, List.forall_mem_cons.mpr ⟨bo_inc_m _ _ _, List.forall_mem_cons.mpr ⟨bo_ild_m _ _, List.forall_mem_cons.mpr ⟨bo_ald_m _ _, List.forall_mem_cons.mpr ⟨bo_gI_m _ _ _, List.forall_mem_cons.mpr ⟨bo_if2_m _ _ _, List.forall_mem_cons.mpr ⟨bo_ald_m _ _, List.forall_mem_cons.mpr ⟨bo_ild_m _ _, List.forall_mem_cons.mpr ⟨bo_st_mono (bg_push_m _), List.forall_mem_cons.mpr ⟨bo_callV_m (mF_M_find) _ _ _ _ _, List.forall_mem_cons.mpr ⟨bo_go_m _, List.forall_mem_cons.mpr ⟨bo_st_mono (bg_push_m _), List.forall_mem_cons.mpr ⟨bo_iret_m _, fun _ h => absurd h List.not_mem_nil⟩⟩⟩⟩⟩⟩⟩⟩⟩⟩⟩⟩⟩⟩⟩⟩⟩
theorem m_M_solve : ∀ pc, bh_mono (bh_tb (T_M_solve) pc) := bh_tb_m (List.forall_mem_append.mpr ⟨(List.forall_mem_append.mpr ⟨mT_M_solve_0, mT_M_solve_1⟩), mT_M_solve_2⟩)
def F_M_solve : bh_Fn := bh_fn 3 (bh_tb T_M_solve)
theorem mF_M_solve : bh_monoF F_M_solve := bh_fn_m m_M_solve
theorem cl_M_solve {s : State} {args : Array Value} (d B : Nat) (hts : ∀ w ∈ bh_ws, w.before args s = true) : bh_Cal (bh_rm (d + 1) B) s y_M_solve 3 (.code y_M_solve c_M_solve 3 (some .int) :: bh_ws) (bh_rm d 0) 0 0 := bh_cal d B hts wd_964 wd_9 (by decide) (by decide +kernel)
set_option maxHeartbeats 4000000 in
set_option maxRecDepth 100000 in
theorem cn_M_solve {l : Launch} {G : bh_G} {base sb L : Nat} {xs : Nat → Int32} (htr : l.stackTraces = false) (d : Nat) : bh_Con l G base (bh_Bg G base sb L xs) y_M_solve (.code y_M_solve c_M_solve 3 (some .int) :: bh_ws) (bh_rm (d + 5) 0) 0 false F_M_solve := by
  refine bh_method (cc := c_M_solve) (ret := (some .int)) (by decide +kernel) rfl ?_
  intro p e s m args below meth c ad0 M0 Z X0 hr hlocks hname htab hbs hB
  obtain ⟨hx, hb, hml, hown, hts⟩ := id X0
  have hw : ∀ w ∈ bh_ws, w.before args s = true := fun w h => hts w (List.mem_cons_of_mem _ h)
  have hBg := bh_BgK (G := G) (base := base) (sb := sb) (L := L) (xs := xs)
  obtain ⟨hK, hAr, hen, hinj, hu1, hu2, hstr, hX, hsb, hsc, hxw, hao, hnc⟩ := id hB
  obtain ⟨ha1, ha2, ha3, ha4, ha5, ha6, ha0⟩ := bh_arr hAr
  refine List.forall_mem_append.mpr ⟨?_, List.forall_mem_cons.mpr ⟨fun S h => bs_if_ne (Z := Z) hx hb d_M_solve_136 (by decide) h, List.forall_mem_cons.mpr ⟨fun S h => bs_aload_n (Z := Z) hx hb rfl d_M_solve_139 h, List.forall_mem_cons.mpr ⟨fun S h => bs_iload_n (Z := Z) hx hb rfl d_M_solve_140 h, List.forall_mem_cons.mpr ⟨fun S h => bs_callV (Z := Z) (C := R_M) hBg hbs hB X0 hK (cn_M_undo htr (d + 3)) (cl_M_undo _ _ hw) (hts _ (List.mem_cons_of_mem _ wd_973)) (hts _ (List.mem_cons_of_mem _ wd_975)) (hts _ (List.mem_cons_of_mem _ ws_35)) rfl rfl rfl rfl rfl (Nat.le_refl _) (Nat.le_refl _) d_M_solve_141 (bs_out htab hlocks) h, List.forall_mem_cons.mpr ⟨fun S h => bs_goto (Z := Z) hx hb d_M_solve_144 (by decide) h, List.forall_mem_cons.mpr ⟨fun S h => bs_iinc (Z := Z) hx hb (by decide) d_M_solve_147 h, List.forall_mem_cons.mpr ⟨fun S h => bs_iload_n (Z := Z) hx hb rfl d_M_solve_150 h, List.forall_mem_cons.mpr ⟨fun S h => bs_aload_n (Z := Z) hx hb rfl d_M_solve_151 h, List.forall_mem_cons.mpr ⟨fun S h => bs_gI (Z := Z) (C := R_M) (T := F_M) (N := 40) (t := 40) (j := 19) hx hb hK hts (fun w h => List.mem_cons_of_mem _ (iw_M w h)) hown rfl rfl (by decide) (hts _ (List.mem_cons_of_mem _ wd_803)) (fun _ h => h) rfl rfl rfl d_M_solve_152 h, List.forall_mem_cons.mpr ⟨fun S h => bs_icmp_ge (Z := Z) hx hb d_M_solve_155 (by decide) h, List.forall_mem_cons.mpr ⟨fun S h => bs_aload_n (Z := Z) hx hb rfl d_M_solve_158 h, List.forall_mem_cons.mpr ⟨fun S h => bs_iload_n (Z := Z) hx hb rfl d_M_solve_159 h, List.forall_mem_cons.mpr ⟨fun S h => bs_iconst (Z := Z) hx hb (by decide) d_M_solve_160 h, List.forall_mem_cons.mpr ⟨fun S h => bs_callV (Z := Z) (C := R_M) hBg hbs hB X0 hK (cn_M_find htr (d + 1)) (cl_M_find _ _ hw) (hts _ (List.mem_cons_of_mem _ wd_965)) (hts _ (List.mem_cons_of_mem _ wd_967)) (hts _ (List.mem_cons_of_mem _ ws_33)) rfl rfl rfl rfl rfl (Nat.le_refl _) (Nat.le_refl _) d_M_solve_161 (bs_out htab hlocks) h, List.forall_mem_cons.mpr ⟨fun S h => bs_goto (Z := Z) hx hb d_M_solve_164 (by decide) h, List.forall_mem_cons.mpr ⟨fun S h => bs_iconst (Z := Z) hx hb (by decide) d_M_solve_167 h, List.forall_mem_cons.mpr ⟨fun S h => bs_iret (Z := Z) hx hb hr hlocks d_M_solve_168 h, fun _ h => absurd h List.not_mem_nil⟩⟩⟩⟩⟩⟩⟩⟩⟩⟩⟩⟩⟩⟩⟩⟩⟩⟩
  refine List.forall_mem_append.mpr ⟨?_, List.forall_mem_cons.mpr ⟨fun S h => bs_aload_n (Z := Z) hx hb rfl d_M_solve_70 h, List.forall_mem_cons.mpr ⟨fun S h => bs_gI (Z := Z) (C := R_M) (T := F_M) (N := 40) (t := 40) (j := 27) hx hb hK hts (fun w h => List.mem_cons_of_mem _ (iw_M w h)) hown rfl rfl (by decide) (hts _ (List.mem_cons_of_mem _ wd_811)) (fun _ h => h) rfl rfl rfl d_M_solve_71 h, List.forall_mem_cons.mpr ⟨fun S h => bs_sipush (Z := Z) hx hb (by decide) d_M_solve_74 h, List.forall_mem_cons.mpr ⟨fun S h => bs_icmp_le (Z := Z) hx hb d_M_solve_77 (by decide) h, List.forall_mem_cons.mpr ⟨fun S h => bs_iconst (Z := Z) hx hb (by decide) d_M_solve_80 h, List.forall_mem_cons.mpr ⟨fun S h => bs_iret (Z := Z) hx hb hr hlocks d_M_solve_81 h, List.forall_mem_cons.mpr ⟨fun S h => bs_aload_n (Z := Z) hx hb rfl d_M_solve_82 h, List.forall_mem_cons.mpr ⟨fun S h => bs_gR (Z := Z) (C := R_M) (T := F_M) (N := 40) (t := 40) (j := 23) hx hb hK hts (fun w h => List.mem_cons_of_mem _ (iw_M w h)) hown rfl rfl (by decide) (hts _ (List.mem_cons_of_mem _ wd_807)) (fun _ h => h) rfl rfl rfl d_M_solve_83 h, List.forall_mem_cons.mpr ⟨fun S h => bs_iload_n (Z := Z) hx hb rfl d_M_solve_86 h, List.forall_mem_cons.mpr ⟨fun S h => bs_aload_n (Z := Z) hx hb rfl d_M_solve_87 h, List.forall_mem_cons.mpr ⟨fun S h => bs_gI (Z := Z) (C := R_M) (T := F_M) (N := 40) (t := 40) (j := 19) hx hb hK hts (fun w h => List.mem_cons_of_mem _ (iw_M w h)) hown rfl rfl (by decide) (hts _ (List.mem_cons_of_mem _ wd_803)) (fun _ h => h) rfl rfl rfl d_M_solve_88 h, List.forall_mem_cons.mpr ⟨fun S h => bs_Iast (Z := Z) hx hb ha1 d_M_solve_91 h, List.forall_mem_cons.mpr ⟨fun S h => bs_aload_n (Z := Z) hx hb rfl d_M_solve_92 h, List.forall_mem_cons.mpr ⟨fun S h => bs_iload_n (Z := Z) hx hb rfl d_M_solve_93 h, List.forall_mem_cons.mpr ⟨fun S h => bs_iconst (Z := Z) hx hb (by decide) d_M_solve_94 h, List.forall_mem_cons.mpr ⟨fun S h => bs_iadd (Z := Z) hx hb d_M_solve_95 h, List.forall_mem_cons.mpr ⟨fun S h => bs_pI (Z := Z) (C := R_M) (T := F_M) (N := 40) (t := 40) (j := 26) hx hb hK hts (fun w h => List.mem_cons_of_mem _ (iw_M w h)) hown rfl rfl (by decide) (hts _ (List.mem_cons_of_mem _ wd_810)) (fun _ h => h) rfl rfl t_M t_M_ok n_M rfl (by decide +kernel) rfl d_M_solve_96 h, List.forall_mem_cons.mpr ⟨fun S h => bs_aload_n (Z := Z) hx hb rfl d_M_solve_99 h, List.forall_mem_cons.mpr ⟨fun S h => bs_iload_n (Z := Z) hx hb rfl d_M_solve_100 h, List.forall_mem_cons.mpr ⟨fun S h => bs_callV (Z := Z) (C := R_M) hBg hbs hB X0 hK (cn_M_choice htr (d + 3)) (cl_M_choice _ _ hw) (hts _ (List.mem_cons_of_mem _ wd_977)) (hts _ (List.mem_cons_of_mem _ wd_979)) (hts _ (List.mem_cons_of_mem _ ws_36)) rfl rfl rfl rfl rfl (Nat.le_refl _) (Nat.le_refl _) d_M_solve_101 (bs_out htab hlocks) h, List.forall_mem_cons.mpr ⟨fun S h => bs_iconst (Z := Z) hx hb (by decide) d_M_solve_104 h, List.forall_mem_cons.mpr ⟨fun S h => bs_idiv (Z := Z) hx hb d_M_solve_105 h, List.forall_mem_cons.mpr ⟨fun S h => bs_istore_n (Z := Z) hx hb rfl d_M_solve_106 h, List.forall_mem_cons.mpr ⟨fun S h => bs_aload_n (Z := Z) hx hb rfl d_M_solve_107 h, List.forall_mem_cons.mpr ⟨fun S h => bs_gR (Z := Z) (C := R_M) (T := F_M) (N := 40) (t := 40) (j := 1) hx hb hK hts (fun w h => List.mem_cons_of_mem _ (iw_M w h)) hown rfl rfl (by decide) (hts _ (List.mem_cons_of_mem _ wd_785)) (fun _ h => h) rfl rfl rfl d_M_solve_108 h, List.forall_mem_cons.mpr ⟨fun S h => bs_iload_n (Z := Z) hx hb rfl d_M_solve_111 h, List.forall_mem_cons.mpr ⟨fun S h => bs_Iald (Z := Z) hx hb ha1 d_M_solve_112 h, List.forall_mem_cons.mpr ⟨fun S h => bs_iconst (Z := Z) hx hb (by decide) d_M_solve_113 h, List.forall_mem_cons.mpr ⟨fun S h => bs_icmp_ne (Z := Z) hx hb d_M_solve_114 (by decide) h, List.forall_mem_cons.mpr ⟨fun S h => bs_aload_n (Z := Z) hx hb rfl d_M_solve_117 h, List.forall_mem_cons.mpr ⟨fun S h => bs_gR (Z := Z) (C := R_M) (T := F_M) (N := 40) (t := 40) (j := 24) hx hb hK hts (fun w h => List.mem_cons_of_mem _ (iw_M w h)) hown rfl rfl (by decide) (hts _ (List.mem_cons_of_mem _ wd_808)) (fun _ h => h) rfl rfl rfl d_M_solve_118 h, List.forall_mem_cons.mpr ⟨fun S h => bs_iload_n (Z := Z) hx hb rfl d_M_solve_121 h, List.forall_mem_cons.mpr ⟨fun S h => bs_Zald (Z := Z) hx hb ha2 d_M_solve_122 h, List.forall_mem_cons.mpr ⟨fun S h => bs_if_ne (Z := Z) hx hb d_M_solve_123 (by decide) h, List.forall_mem_cons.mpr ⟨fun S h => bs_aload_n (Z := Z) hx hb rfl d_M_solve_126 h, List.forall_mem_cons.mpr ⟨fun S h => bs_iload_n (Z := Z) hx hb rfl d_M_solve_127 h, List.forall_mem_cons.mpr ⟨fun S h => bs_iload_n (Z := Z) hx hb rfl d_M_solve_128 h, List.forall_mem_cons.mpr ⟨fun S h => bs_callV (Z := Z) (C := R_M) hBg hbs hB X0 hK (cn_M_takeIn htr (d + 3)) (cl_M_takeIn _ _ hw) (hts _ (List.mem_cons_of_mem _ wd_957)) (hts _ (List.mem_cons_of_mem _ wd_959)) (hts _ (List.mem_cons_of_mem _ ws_31)) rfl rfl rfl rfl rfl (Nat.le_refl _) (Nat.le_refl _) d_M_solve_129 (bs_out htab hlocks) h, List.forall_mem_cons.mpr ⟨fun S h => bs_aload_n (Z := Z) hx hb rfl d_M_solve_132 h, List.forall_mem_cons.mpr ⟨fun S h => bs_callV (Z := Z) (C := R_M) hBg hbs hB X0 hK (cn_M_holds htr (d + 0)) (cl_M_holds _ _ hw) (hts _ (List.mem_cons_of_mem _ wd_981)) (hts _ (List.mem_cons_of_mem _ wd_983)) (hts _ (List.mem_cons_of_mem _ ws_37)) rfl rfl rfl rfl rfl (Nat.le_refl _) (Nat.le_refl _) d_M_solve_133 (bs_out htab hlocks) h, fun _ h => absurd h List.not_mem_nil⟩⟩⟩⟩⟩⟩⟩⟩⟩⟩⟩⟩⟩⟩⟩⟩⟩⟩⟩⟩⟩⟩⟩⟩⟩⟩⟩⟩⟩⟩⟩⟩⟩⟩⟩⟩⟩⟩⟩⟩⟩
  exact List.forall_mem_cons.mpr ⟨fun S h => bs_iconst (Z := Z) hx hb (by decide) d_M_solve_0 h, List.forall_mem_cons.mpr ⟨fun S h => bs_istore_n (Z := Z) hx hb rfl d_M_solve_1 h, List.forall_mem_cons.mpr ⟨fun S h => bs_aload_n (Z := Z) hx hb rfl d_M_solve_2 h, List.forall_mem_cons.mpr ⟨fun S h => bs_iconst (Z := Z) hx hb (by decide) d_M_solve_3 h, List.forall_mem_cons.mpr ⟨fun S h => bs_pI (Z := Z) (C := R_M) (T := F_M) (N := 40) (t := 40) (j := 26) hx hb hK hts (fun w h => List.mem_cons_of_mem _ (iw_M w h)) hown rfl rfl (by decide) (hts _ (List.mem_cons_of_mem _ wd_810)) (fun _ h => h) rfl rfl t_M t_M_ok n_M rfl (by decide +kernel) rfl d_M_solve_4 h, List.forall_mem_cons.mpr ⟨fun S h => bs_aload_n (Z := Z) hx hb rfl d_M_solve_7 h, List.forall_mem_cons.mpr ⟨fun S h => bs_gI (Z := Z) (C := R_M) (T := F_M) (N := 40) (t := 40) (j := 19) hx hb hK hts (fun w h => List.mem_cons_of_mem _ (iw_M w h)) hown rfl rfl (by decide) (hts _ (List.mem_cons_of_mem _ wd_803)) (fun _ h => h) rfl rfl rfl d_M_solve_8 h, List.forall_mem_cons.mpr ⟨fun S h => bs_if_le (Z := Z) hx hb d_M_solve_11 (by decide) h, List.forall_mem_cons.mpr ⟨fun S h => bs_aload_n (Z := Z) hx hb rfl d_M_solve_14 h, List.forall_mem_cons.mpr ⟨fun S h => bs_iconst (Z := Z) hx hb (by decide) d_M_solve_15 h, List.forall_mem_cons.mpr ⟨fun S h => bs_iconst (Z := Z) hx hb (by decide) d_M_solve_16 h, List.forall_mem_cons.mpr ⟨fun S h => bs_callV (Z := Z) (C := R_M) hBg hbs hB X0 hK (cn_M_find htr (d + 1)) (cl_M_find _ _ hw) (hts _ (List.mem_cons_of_mem _ wd_965)) (hts _ (List.mem_cons_of_mem _ wd_967)) (hts _ (List.mem_cons_of_mem _ ws_33)) rfl rfl rfl rfl rfl (Nat.le_refl _) (Nat.le_refl _) d_M_solve_17 (bs_out htab hlocks) h, List.forall_mem_cons.mpr ⟨fun S h => bs_iload_n (Z := Z) hx hb rfl d_M_solve_20 h, List.forall_mem_cons.mpr ⟨fun S h => bs_aload_n (Z := Z) hx hb rfl d_M_solve_21 h, List.forall_mem_cons.mpr ⟨fun S h => bs_gI (Z := Z) (C := R_M) (T := F_M) (N := 40) (t := 40) (j := 19) hx hb hK hts (fun w h => List.mem_cons_of_mem _ (iw_M w h)) hown rfl rfl (by decide) (hts _ (List.mem_cons_of_mem _ wd_803)) (fun _ h => h) rfl rfl rfl d_M_solve_22 h, List.forall_mem_cons.mpr ⟨fun S h => bs_icmp_ge (Z := Z) hx hb d_M_solve_25 (by decide) h, List.forall_mem_cons.mpr ⟨fun S h => bs_aload_n (Z := Z) hx hb rfl d_M_solve_28 h, List.forall_mem_cons.mpr ⟨fun S h => bs_gR (Z := Z) (C := R_M) (T := F_M) (N := 40) (t := 40) (j := 22) hx hb hK hts (fun w h => List.mem_cons_of_mem _ (iw_M w h)) hown rfl rfl (by decide) (hts _ (List.mem_cons_of_mem _ wd_806)) (fun _ h => h) rfl rfl rfl d_M_solve_29 h, List.forall_mem_cons.mpr ⟨fun S h => bs_iload_n (Z := Z) hx hb rfl d_M_solve_32 h, List.forall_mem_cons.mpr ⟨fun S h => bs_Iald (Z := Z) hx hb ha1 d_M_solve_33 h, List.forall_mem_cons.mpr ⟨fun S h => bs_aload_n (Z := Z) hx hb rfl d_M_solve_34 h, List.forall_mem_cons.mpr ⟨fun S h => bs_gR (Z := Z) (C := R_M) (T := F_M) (N := 40) (t := 40) (j := 21) hx hb hK hts (fun w h => List.mem_cons_of_mem _ (iw_M w h)) hown rfl rfl (by decide) (hts _ (List.mem_cons_of_mem _ wd_805)) (fun _ h => h) rfl rfl rfl d_M_solve_35 h, List.forall_mem_cons.mpr ⟨fun S h => bs_iload_n (Z := Z) hx hb rfl d_M_solve_38 h, List.forall_mem_cons.mpr ⟨fun S h => bs_Iald (Z := Z) hx hb ha1 d_M_solve_39 h, List.forall_mem_cons.mpr ⟨fun S h => bs_icmp_ne (Z := Z) hx hb d_M_solve_40 (by decide) h, List.forall_mem_cons.mpr ⟨fun S h => bs_iinc (Z := Z) hx hb (by decide) d_M_solve_43 h, List.forall_mem_cons.mpr ⟨fun S h => bs_iload_n (Z := Z) hx hb rfl d_M_solve_46 h, List.forall_mem_cons.mpr ⟨fun S h => bs_if_ge (Z := Z) hx hb d_M_solve_47 (by decide) h, List.forall_mem_cons.mpr ⟨fun S h => bs_iconst (Z := Z) hx hb (by decide) d_M_solve_50 h, List.forall_mem_cons.mpr ⟨fun S h => bs_iret (Z := Z) hx hb hr hlocks d_M_solve_51 h, List.forall_mem_cons.mpr ⟨fun S h => bs_aload_n (Z := Z) hx hb rfl d_M_solve_52 h, List.forall_mem_cons.mpr ⟨fun S h => bs_iload_n (Z := Z) hx hb rfl d_M_solve_53 h, List.forall_mem_cons.mpr ⟨fun S h => bs_callV (Z := Z) (C := R_M) hBg hbs hB X0 hK (cn_M_undo htr (d + 3)) (cl_M_undo _ _ hw) (hts _ (List.mem_cons_of_mem _ wd_973)) (hts _ (List.mem_cons_of_mem _ wd_975)) (hts _ (List.mem_cons_of_mem _ ws_35)) rfl rfl rfl rfl rfl (Nat.le_refl _) (Nat.le_refl _) d_M_solve_54 (bs_out htab hlocks) h, List.forall_mem_cons.mpr ⟨fun S h => bs_goto (Z := Z) hx hb d_M_solve_57 (by decide) h, List.forall_mem_cons.mpr ⟨fun S h => bs_aload_n (Z := Z) hx hb rfl d_M_solve_60 h, List.forall_mem_cons.mpr ⟨fun S h => bs_dup (Z := Z) hx hb d_M_solve_61 h, List.forall_mem_cons.mpr ⟨fun S h => bs_gI (Z := Z) (C := R_M) (T := F_M) (N := 40) (t := 40) (j := 27) hx hb hK hts (fun w h => List.mem_cons_of_mem _ (iw_M w h)) hown rfl rfl (by decide) (hts _ (List.mem_cons_of_mem _ wd_811)) (fun _ h => h) rfl rfl rfl d_M_solve_62 h, List.forall_mem_cons.mpr ⟨fun S h => bs_iconst (Z := Z) hx hb (by decide) d_M_solve_65 h, List.forall_mem_cons.mpr ⟨fun S h => bs_iadd (Z := Z) hx hb d_M_solve_66 h, List.forall_mem_cons.mpr ⟨fun S h => bs_pI (Z := Z) (C := R_M) (T := F_M) (N := 40) (t := 40) (j := 27) hx hb hK hts (fun w h => List.mem_cons_of_mem _ (iw_M w h)) hown rfl rfl (by decide) (hts _ (List.mem_cons_of_mem _ wd_811)) (fun _ h => h) rfl rfl t_M t_M_ok n_M rfl (by decide +kernel) rfl d_M_solve_67 h, fun _ h => absurd h List.not_mem_nil⟩⟩⟩⟩⟩⟩⟩⟩⟩⟩⟩⟩⟩⟩⟩⟩⟩⟩⟩⟩⟩⟩⟩⟩⟩⟩⟩⟩⟩⟩⟩⟩⟩⟩⟩⟩⟩⟩⟩⟩
