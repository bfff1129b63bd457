abbrev c_H_resolve : ByteArray := prog_1_method_5_code
def y_H_resolve : MethodName := ⟨"BundleHall", "resolve", "(I)I"⟩
theorem d_H_resolve_0 : decode c_H_resolve 0 = .ok (.iload_n 1, 1) := by decide +kernel
theorem d_H_resolve_1 : decode c_H_resolve 1 = .ok (.invokestatic 43, 3) := by decide +kernel
theorem d_H_resolve_4 : decode c_H_resolve 4 = .ok (.aload_n 0, 1) := by decide +kernel
theorem d_H_resolve_5 : decode c_H_resolve 5 = .ok (.iload_n 1, 1) := by decide +kernel
theorem d_H_resolve_6 : decode c_H_resolve 6 = .ok (.invokevirtual 100, 3) := by decide +kernel
theorem d_H_resolve_9 : decode c_H_resolve 9 = .ok (.astore_n 2, 1) := by decide +kernel
theorem d_H_resolve_10 : decode c_H_resolve 10 = .ok (.aload_n 2, 1) := by decide +kernel
theorem d_H_resolve_11 : decode c_H_resolve 11 = .ok (.invokevirtual 104, 3) := by decide +kernel
theorem d_H_resolve_14 : decode c_H_resolve 14 = .ok (.ifCond .eq 5, 3) := by decide +kernel
theorem d_H_resolve_17 : decode c_H_resolve 17 = .ok (.iconst 0, 1) := by decide +kernel
theorem d_H_resolve_18 : decode c_H_resolve 18 = .ok (.ireturn, 1) := by decide +kernel
theorem d_H_resolve_19 : decode c_H_resolve 19 = .ok (.aload_n 0, 1) := by decide +kernel
theorem d_H_resolve_20 : decode c_H_resolve 20 = .ok (.getfield 21, 3) := by decide +kernel
theorem d_H_resolve_23 : decode c_H_resolve 23 = .ok (.aload_n 0, 1) := by decide +kernel
theorem d_H_resolve_24 : decode c_H_resolve 24 = .ok (.getfield 11, 3) := by decide +kernel
theorem d_H_resolve_27 : decode c_H_resolve 27 = .ok (.aload_n 2, 1) := by decide +kernel
theorem d_H_resolve_28 : decode c_H_resolve 28 = .ok (.invokevirtual 108, 3) := by decide +kernel
theorem d_H_resolve_31 : decode c_H_resolve 31 = .ok (.invokestatic 112, 3) := by decide +kernel
theorem d_H_resolve_34 : decode c_H_resolve 34 = .ok (.aload_n 0, 1) := by decide +kernel
theorem d_H_resolve_35 : decode c_H_resolve 35 = .ok (.getfield 21, 3) := by decide +kernel
theorem d_H_resolve_38 : decode c_H_resolve 38 = .ok (.getfield 116, 3) := by decide +kernel
theorem d_H_resolve_41 : decode c_H_resolve 41 = .ok (.ireturn, 1) := by decide +kernel
def T_H_resolve_0 : List (Nat × bh_Op) := [(0, bo_ild 1 1),
  (1, bo_callS 4 1 1 5 F_H_checkBundle),
  (4, bo_ald 5 0),
  (5, bo_ild 6 1),
  (6, bo_callV 9 2 1 5 3 F_H_present),
  (9, bo_ast 10 2),
  (10, bo_ald 11 2),
  (11, bo_callV 14 1 0 5 5 F_B_isResolved),
  (14, bo_if1 17 19 (fun x => x = 0)),
  (17, bo_st 18 (bg_push (.inl (.int 0)))),
  (18, bo_iret 5),
  (19, bo_ald 20 0),
  (20, bo_gR 23 3 1 15),
  (23, bo_ald 24 0),
  (24, bo_gR 27 3 0 4),
  (27, bo_ald 28 2),
  (28, bo_callV 31 3 0 5 15 F_R_run),
  (31, bo_callS 34 1 3 5 F_H_throwUnlessDone),
  (34, bo_ald 35 0),
  (35, bo_gR 38 3 1 15),
  (38, bo_gI 41 15 5),
  (41, bo_iret 5)]
def T_H_resolve : List (Nat × bh_Op) := T_H_resolve_0
set_option maxRecDepth 20000 in
theorem mT_H_resolve_0 : ∀ q ∈ T_H_resolve_0, bh_mono q.2 := List.forall_mem_cons.mpr ⟨bo_ild_m _ _, List.forall_mem_cons.mpr ⟨bo_callS_m (mF_H_checkBundle) _ _ _ _, List.forall_mem_cons.mpr ⟨bo_ald_m _ _, List.forall_mem_cons.mpr ⟨bo_ild_m _ _, List.forall_mem_cons.mpr ⟨bo_callV_m (mF_H_present) _ _ _ _ _, List.forall_mem_cons.mpr ⟨bo_ast_m _ _, List.forall_mem_cons.mpr ⟨bo_ald_m _ _, List.forall_mem_cons.mpr ⟨bo_callV_m (mF_B_isResolved) _ _ _ _ _, List.forall_mem_cons.mpr ⟨bo_if1_m _ _ _, List.forall_mem_cons.mpr ⟨bo_st_mono (bg_push_m _), List.forall_mem_cons.mpr ⟨bo_iret_m _, List.forall_mem_cons.mpr ⟨bo_ald_m _ _, List.forall_mem_cons.mpr ⟨bo_gR_m _ _ _ _, List.forall_mem_cons.mpr ⟨bo_ald_m _ _, List.forall_mem_cons.mpr ⟨bo_gR_m _ _ _ _, List.forall_mem_cons.mpr ⟨bo_ald_m _ _, List.forall_mem_cons.mpr ⟨bo_callV_m (mF_R_run) _ _ _ _ _, List.forall_mem_cons.mpr ⟨bo_callS_m (mF_H_throwUnlessDone) _ _ _ _, List.forall_mem_cons.mpr ⟨bo_ald_m _ _, List.forall_mem_cons.mpr ⟨bo_gR_m _ _ _ _, List.forall_mem_cons.mpr ⟨bo_gI_m _ _ _, List.forall_mem_cons.mpr ⟨bo_iret_m _, fun _ h => absurd h List.not_mem_nil⟩⟩⟩⟩⟩⟩⟩⟩⟩⟩⟩⟩⟩⟩⟩⟩⟩⟩⟩⟩⟩⟩
theorem m_H_resolve : ∀ pc, bh_mono (bh_tb (T_H_resolve) pc) := bh_tb_m mT_H_resolve_0
def F_H_resolve : bh_Fn := bh_fn 3 (bh_tb T_H_resolve)
theorem mF_H_resolve : bh_monoF F_H_resolve := bh_fn_m m_H_resolve
theorem cl_H_resolve {s : State} {args : Array Value} (d B : Nat) (hts : ∀ w ∈ bh_ws, w.before args s = true) : bh_Cal (bh_rm (d + 1) B) s y_H_resolve 3 (.code y_H_resolve c_H_resolve 3 (some .int) :: bh_ws) (bh_rm d 5) 5 1 := bh_cal d B hts wd_593 wd_1 (by decide) (by decide +kernel)
set_option maxHeartbeats 4000000 in
set_option maxRecDepth 100000 in
theorem cn_H_resolve {l : Launch} {G : bh_G} {base sb L : Nat} {xs : Nat → Int32} (htr : l.stackTraces = false) (d : Nat) : bh_Con l G base (bh_Bg G base sb L xs) y_H_resolve (.code y_H_resolve c_H_resolve 3 (some .int) :: bh_ws) (bh_rm (d + 32) 5) 5 false F_H_resolve := by
  refine bh_method (cc := c_H_resolve) (ret := (some .int)) (by decide +kernel) rfl ?_
  intro p e s m args below meth c ad0 M0 Z X0 hr hlocks hname htab hbs hB
  obtain ⟨hx, hb, hml, hown, hts⟩ := id X0
  have hw : ∀ w ∈ bh_ws, w.before args s = true := fun w h => hts w (List.mem_cons_of_mem _ h)
  have hBg := bh_BgK (G := G) (base := base) (sb := sb) (L := L) (xs := xs)
  obtain ⟨hK, hAr, hen, hinj, hu1, hu2, hstr, hX, hsb, hsc, hxw, hao, hnc⟩ := id hB
  obtain ⟨ha1, ha2, ha3, ha4, ha5, ha6, ha0⟩ := bh_arr hAr
  exact List.forall_mem_cons.mpr ⟨fun S h => bs_iload_n (Z := Z) hx hb rfl d_H_resolve_0 h, List.forall_mem_cons.mpr ⟨fun S h => bs_callS (Z := Z) hBg hbs hB X0 (cn_H_checkBundle htr (d + 29)) (cl_H_checkBundle _ _ hw) (hts _ (List.mem_cons_of_mem _ wd_403)) (hts _ (List.mem_cons_of_mem _ wd_404)) (Nat.le_refl _) (Nat.le_refl _) d_H_resolve_1 (bs_out htab hlocks) h, List.forall_mem_cons.mpr ⟨fun S h => bs_aload_n (Z := Z) hx hb rfl d_H_resolve_4 h, List.forall_mem_cons.mpr ⟨fun S h => bs_iload_n (Z := Z) hx hb rfl d_H_resolve_5 h, List.forall_mem_cons.mpr ⟨fun S h => bs_callV (Z := Z) (C := R_H) hBg hbs hB X0 hK (cn_H_present htr (d + 30)) (cl_H_present _ _ hw) (hts _ (List.mem_cons_of_mem _ wd_525)) (hts _ (List.mem_cons_of_mem _ wd_527)) (hts _ (List.mem_cons_of_mem _ ws_21)) rfl rfl rfl rfl rfl (Nat.le_refl _) (Nat.le_refl _) d_H_resolve_6 (bs_out htab hlocks) h, List.forall_mem_cons.mpr ⟨fun S h => bs_astore_n (Z := Z) hx hb rfl d_H_resolve_9 h, List.forall_mem_cons.mpr ⟨fun S h => bs_aload_n (Z := Z) hx hb rfl d_H_resolve_10 h, List.forall_mem_cons.mpr ⟨fun S h => bs_callV (Z := Z) (C := R_B) hBg hbs hB X0 hK (cn_B_isResolved htr (d + 30)) (cl_B_isResolved _ _ hw) (hts _ (List.mem_cons_of_mem _ wd_262)) (hts _ (List.mem_cons_of_mem _ wd_263)) (hts _ (List.mem_cons_of_mem _ wd_264)) rfl rfl rfl rfl rfl (Nat.le_refl _) (Nat.le_refl _) d_H_resolve_11 (bs_out htab hlocks) h, List.forall_mem_cons.mpr ⟨fun S h => bs_if_eq (Z := Z) hx hb d_H_resolve_14 (by decide) h, List.forall_mem_cons.mpr ⟨fun S h => bs_iconst (Z := Z) hx hb (by decide) d_H_resolve_17 h, List.forall_mem_cons.mpr ⟨fun S h => bs_iret (Z := Z) hx hb hr hlocks d_H_resolve_18 h, List.forall_mem_cons.mpr ⟨fun S h => bs_aload_n (Z := Z) hx hb rfl d_H_resolve_19 h, List.forall_mem_cons.mpr ⟨fun S h => bs_gR (Z := Z) (C := R_H) (T := F_H) (N := 5) (t := 3) (j := 1) hx hb hK hts (fun w h => List.mem_cons_of_mem _ (iw_H w h)) hown rfl rfl (by decide) (hts _ (List.mem_cons_of_mem _ wd_225)) (fun _ h => h) rfl rfl rfl d_H_resolve_20 h, List.forall_mem_cons.mpr ⟨fun S h => bs_aload_n (Z := Z) hx hb rfl d_H_resolve_23 h, List.forall_mem_cons.mpr ⟨fun S h => bs_gR (Z := Z) (C := R_H) (T := F_H) (N := 5) (t := 3) (j := 0) hx hb hK hts (fun w h => List.mem_cons_of_mem _ (iw_H w h)) hown rfl rfl (by decide) (hts _ (List.mem_cons_of_mem _ wd_224)) (fun _ h => h) rfl rfl rfl d_H_resolve_24 h, List.forall_mem_cons.mpr ⟨fun S h => bs_aload_n (Z := Z) hx hb rfl d_H_resolve_27 h, List.forall_mem_cons.mpr ⟨fun S h => bs_callV (Z := Z) (C := R_R) hBg hbs hB X0 hK (cn_R_run htr (d + 0)) (cl_R_run _ _ hw) (hts _ (List.mem_cons_of_mem _ wd_297)) (hts _ (List.mem_cons_of_mem _ wd_298)) (hts _ (List.mem_cons_of_mem _ wd_299)) rfl rfl rfl rfl rfl (Nat.le_refl _) (Nat.le_refl _) d_H_resolve_28 (bs_out htab hlocks) h, List.forall_mem_cons.mpr ⟨fun S h => bs_callS (Z := Z) hBg hbs hB X0 (cn_H_throwUnlessDone htr (d + 30)) (cl_H_throwUnlessDone _ _ hw) (hts _ (List.mem_cons_of_mem _ wd_594)) (hts _ (List.mem_cons_of_mem _ wd_595)) (Nat.le_refl _) (Nat.le_refl _) d_H_resolve_31 (bs_out htab hlocks) h, List.forall_mem_cons.mpr ⟨fun S h => bs_aload_n (Z := Z) hx hb rfl d_H_resolve_34 h, List.forall_mem_cons.mpr ⟨fun S h => bs_gR (Z := Z) (C := R_H) (T := F_H) (N := 5) (t := 3) (j := 1) hx hb hK hts (fun w h => List.mem_cons_of_mem _ (iw_H w h)) hown rfl rfl (by decide) (hts _ (List.mem_cons_of_mem _ wd_225)) (fun _ h => h) rfl rfl rfl d_H_resolve_35 h, List.forall_mem_cons.mpr ⟨fun S h => bs_gI (Z := Z) (C := R_R) (T := F_R) (N := 6) (t := 15) (j := 5) hx hb hK hts (fun w h => List.mem_cons_of_mem _ (iw_R w h)) hown rfl rfl (by decide) (hts _ (List.mem_cons_of_mem _ wd_144)) (fun _ h => h) rfl rfl rfl d_H_resolve_38 h, List.forall_mem_cons.mpr ⟨fun S h => bs_iret (Z := Z) hx hb hr hlocks d_H_resolve_41 h, fun _ h => absurd h List.not_mem_nil⟩⟩⟩⟩⟩⟩⟩⟩⟩⟩⟩⟩⟩⟩⟩⟩⟩⟩⟩⟩⟩⟩
abbrev c_H_start : ByteArray := prog_1_method_6_code
def y_H_start : MethodName := ⟨"BundleHall", "start", "(I)I"⟩
theorem d_H_start_0 : decode c_H_start 0 = .ok (.iload_n 1, 1) := by decide +kernel
theorem d_H_start_1 : decode c_H_start 1 = .ok (.invokestatic 43, 3) := by decide +kernel
theorem d_H_start_4 : decode c_H_start 4 = .ok (.aload_n 0, 1) := by decide +kernel
theorem d_H_start_5 : decode c_H_start 5 = .ok (.iload_n 1, 1) := by decide +kernel
theorem d_H_start_6 : decode c_H_start 6 = .ok (.invokevirtual 100, 3) := by decide +kernel
theorem d_H_start_9 : decode c_H_start 9 = .ok (.astore_n 2, 1) := by decide +kernel
theorem d_H_start_10 : decode c_H_start 10 = .ok (.aload_n 2, 1) := by decide +kernel
theorem d_H_start_11 : decode c_H_start 11 = .ok (.iconst 1, 1) := by decide +kernel
theorem d_H_start_12 : decode c_H_start 12 = .ok (.putfield 119, 3) := by decide +kernel
theorem d_H_start_15 : decode c_H_start 15 = .ok (.aload_n 2, 1) := by decide +kernel
theorem d_H_start_16 : decode c_H_start 16 = .ok (.getfield 50, 3) := by decide +kernel
theorem d_H_start_19 : decode c_H_start 19 = .ok (.iconst 3, 1) := by decide +kernel
theorem d_H_start_20 : decode c_H_start 20 = .ok (.if_icmp .eq 22, 3) := by decide +kernel
theorem d_H_start_23 : decode c_H_start 23 = .ok (.aload_n 2, 1) := by decide +kernel
theorem d_H_start_24 : decode c_H_start 24 = .ok (.getfield 123, 3) := by decide +kernel
theorem d_H_start_27 : decode c_H_start 27 = .ok (.aload_n 0, 1) := by decide +kernel
theorem d_H_start_28 : decode c_H_start 28 = .ok (.getfield 39, 3) := by decide +kernel
theorem d_H_start_31 : decode c_H_start 31 = .ok (.if_icmp .gt 11, 3) := by decide +kernel
theorem d_H_start_34 : decode c_H_start 34 = .ok (.aload_n 0, 1) := by decide +kernel
theorem d_H_start_35 : decode c_H_start 35 = .ok (.aload_n 2, 1) := by decide +kernel
theorem d_H_start_36 : decode c_H_start 36 = .ok (.invokevirtual 126, 3) := by decide +kernel
theorem d_H_start_39 : decode c_H_start 39 = .ok (.invokestatic 112, 3) := by decide +kernel
theorem d_H_start_42 : decode c_H_start 42 = .ok (.aload_n 2, 1) := by decide +kernel
theorem d_H_start_43 : decode c_H_start 43 = .ok (.getfield 50, 3) := by decide +kernel
theorem d_H_start_46 : decode c_H_start 46 = .ok (.iconst 3, 1) := by decide +kernel
theorem d_H_start_47 : decode c_H_start 47 = .ok (.if_icmp .ne 7, 3) := by decide +kernel
theorem d_H_start_50 : decode c_H_start 50 = .ok (.iconst 1, 1) := by decide +kernel
theorem d_H_start_51 : decode c_H_start 51 = .ok (.goto 4, 3) := by decide +kernel
theorem d_H_start_54 : decode c_H_start 54 = .ok (.iconst 0, 1) := by decide +kernel
theorem d_H_start_55 : decode c_H_start 55 = .ok (.ireturn, 1) := by decide +kernel
def T_H_start_0 : List (Nat × bh_Op) := [(0, bo_ild 1 1),
  (1, bo_callS 4 1 1 5 F_H_checkBundle),
  (4, bo_ald 5 0),
  (5, bo_ild 6 1),
  (6, bo_callV 9 2 1 5 3 F_H_present),
  (9, bo_ast 10 2),
  (10, bo_ald 11 2),
  (11, bo_st 12 (bg_push (.inl (.int 1)))),
  (12, bo_pZ 15 5 7),
  (15, bo_ald 16 2),
  (16, bo_gI 19 5 3),
  (19, bo_st 20 (bg_push (.inl (.int 3)))),
  (20, bo_if2 23 42 (fun x y => x = y)),
  (23, bo_ald 24 2),
  (24, bo_gI 27 5 5),
  (27, bo_ald 28 0),
  (28, bo_gI 31 3 4),
  (31, bo_if2 34 42 (fun x y => y < x)),
  (34, bo_ald 35 0),
  (35, bo_ald 36 2),
  (36, bo_callV 39 2 0 5 3 F_H_activate),
  (39, bo_callS 42 1 3 5 F_H_throwUnlessDone),
  (42, bo_ald 43 2),
  (43, bo_gI 46 5 3),
  (46, bo_st 47 (bg_push (.inl (.int 3)))),
  (47, bo_if2 50 54 (fun x y => ¬ x = y)),
  (50, bo_st 51 (bg_push (.inl (.int 1)))),
  (51, bo_go 55),
  (54, bo_st 55 (bg_push (.inl (.int 0)))),
  (55, bo_iret 5)]
def T_H_start : List (Nat × bh_Op) := T_H_start_0
set_option maxRecDepth 20000 in
theorem mT_H_start_0 : ∀ q ∈ T_H_start_0, bh_mono q.2 := List.forall_mem_cons.mpr ⟨bo_ild_m _ _, List.forall_mem_cons.mpr ⟨bo_callS_m (mF_H_checkBundle) _ _ _ _, List.forall_mem_cons.mpr ⟨bo_ald_m _ _, List.forall_mem_cons.mpr ⟨bo_ild_m _ _, List.forall_mem_cons.mpr ⟨bo_callV_m (mF_H_present) _ _ _ _ _, List.forall_mem_cons.mpr ⟨bo_ast_m _ _, List.forall_mem_cons.mpr ⟨bo_ald_m _ _, List.forall_mem_cons.mpr ⟨bo_st_mono (bg_push_m _), List.forall_mem_cons.mpr ⟨bo_pZ_m _ _ _, List.forall_mem_cons.mpr ⟨bo_ald_m _ _, List.forall_mem_cons.mpr ⟨bo_gI_m _ _ _, List.forall_mem_cons.mpr ⟨bo_st_mono (bg_push_m _), List.forall_mem_cons.mpr ⟨bo_if2_m _ _ _, List.forall_mem_cons.mpr ⟨bo_ald_m _ _, List.forall_mem_cons.mpr ⟨bo_gI_m _ _ _, List.forall_mem_cons.mpr ⟨bo_ald_m _ _, List.forall_mem_cons.mpr ⟨bo_gI_m _ _ _, List.forall_mem_cons.mpr ⟨bo_if2_m _ _ _, List.forall_mem_cons.mpr ⟨bo_ald_m _ _, List.forall_mem_cons.mpr ⟨bo_ald_m _ _, List.forall_mem_cons.mpr ⟨bo_callV_m (mF_H_activate) _ _ _ _ _, List.forall_mem_cons.mpr ⟨bo_callS_m (mF_H_throwUnlessDone) _ _ _ _, List.forall_mem_cons.mpr ⟨bo_ald_m _ _, List.forall_mem_cons.mpr ⟨bo_gI_m _ _ _, List.forall_mem_cons.mpr ⟨bo_st_mono (bg_push_m _), List.forall_mem_cons.mpr ⟨bo_if2_m _ _ _, List.forall_mem_cons.mpr ⟨bo_st_mono (bg_push_m _), List.forall_mem_cons.mpr ⟨bo_go_m _, List.forall_mem_cons.mpr ⟨bo_st_mono (bg_push_m _), List.forall_mem_cons.mpr ⟨bo_iret_m _, fun _ h => absurd h List.not_mem_nil⟩⟩⟩⟩⟩⟩⟩⟩⟩⟩⟩⟩⟩⟩⟩⟩⟩⟩⟩⟩⟩⟩⟩⟩⟩⟩⟩⟩⟩⟩
theorem m_H_start : ∀ pc, bh_mono (bh_tb (T_H_start) pc) := bh_tb_m mT_H_start_0
def F_H_start : bh_Fn := bh_fn 3 (bh_tb T_H_start)
theorem mF_H_start : bh_monoF F_H_start := bh_fn_m m_H_start
theorem cl_H_start {s : State} {args : Array Value} (d B : Nat) (hts : ∀ w ∈ bh_ws, w.before args s = true) : bh_Cal (bh_rm (d + 1) B) s y_H_start 3 (.code y_H_start c_H_start 3 (some .int) :: bh_ws) (bh_rm d 5) 5 1 := bh_cal d B hts wd_623 wd_1 (by decide) (by decide +kernel)
set_option maxHeartbeats 4000000 in
set_option maxRecDepth 100000 in
theorem cn_H_start {l : Launch} {G : bh_G} {base sb L : Nat} {xs : Nat → Int32} (htr : l.stackTraces = false) (d : Nat) : bh_Con l G base (bh_Bg G base sb L xs) y_H_start (.code y_H_start c_H_start 3 (some .int) :: bh_ws) (bh_rm (d + 33) 5) 5 false F_H_start := by
  refine bh_method (cc := c_H_start) (ret := (some .int)) (by decide +kernel) rfl ?_
  intro p e s m args below meth c ad0 M0 Z X0 hr hlocks hname htab hbs hB
  obtain ⟨hx, hb, hml, hown, hts⟩ := id X0
  have hw : ∀ w ∈ bh_ws, w.before args s = true := fun w h => hts w (List.mem_cons_of_mem _ h)
  have hBg := bh_BgK (G := G) (base := base) (sb := sb) (L := L) (xs := xs)
  obtain ⟨hK, hAr, hen, hinj, hu1, hu2, hstr, hX, hsb, hsc, hxw, hao, hnc⟩ := id hB
  obtain ⟨ha1, ha2, ha3, ha4, ha5, ha6, ha0⟩ := bh_arr hAr
  exact List.forall_mem_cons.mpr ⟨fun S h => bs_iload_n (Z := Z) hx hb rfl d_H_start_0 h, List.forall_mem_cons.mpr ⟨fun S h => bs_callS (Z := Z) hBg hbs hB X0 (cn_H_checkBundle htr (d + 30)) (cl_H_checkBundle _ _ hw) (hts _ (List.mem_cons_of_mem _ wd_403)) (hts _ (List.mem_cons_of_mem _ wd_404)) (Nat.le_refl _) (Nat.le_refl _) d_H_start_1 (bs_out htab hlocks) h, List.forall_mem_cons.mpr ⟨fun S h => bs_aload_n (Z := Z) hx hb rfl d_H_start_4 h, List.forall_mem_cons.mpr ⟨fun S h => bs_iload_n (Z := Z) hx hb rfl d_H_start_5 h, List.forall_mem_cons.mpr ⟨fun S h => bs_callV (Z := Z) (C := R_H) hBg hbs hB X0 hK (cn_H_present htr (d + 31)) (cl_H_present _ _ hw) (hts _ (List.mem_cons_of_mem _ wd_525)) (hts _ (List.mem_cons_of_mem _ wd_527)) (hts _ (List.mem_cons_of_mem _ ws_21)) rfl rfl rfl rfl rfl (Nat.le_refl _) (Nat.le_refl _) d_H_start_6 (bs_out htab hlocks) h, List.forall_mem_cons.mpr ⟨fun S h => bs_astore_n (Z := Z) hx hb rfl d_H_start_9 h, List.forall_mem_cons.mpr ⟨fun S h => bs_aload_n (Z := Z) hx hb rfl d_H_start_10 h, List.forall_mem_cons.mpr ⟨fun S h => bs_iconst (Z := Z) hx hb (by decide) d_H_start_11 h, List.forall_mem_cons.mpr ⟨fun S h => bs_pZ (Z := Z) (C := R_B) (T := F_B) (N := 10) (t := 5) (j := 7) hx hb hK hts (fun w h => List.mem_cons_of_mem _ (iw_B w h)) hown rfl rfl (by decide) (hts _ (List.mem_cons_of_mem _ wd_104)) (fun _ h => h) rfl rfl t_B t_B_ok n_B rfl (by decide +kernel) rfl d_H_start_12 h, List.forall_mem_cons.mpr ⟨fun S h => bs_aload_n (Z := Z) hx hb rfl d_H_start_15 h, List.forall_mem_cons.mpr ⟨fun S h => bs_gI (Z := Z) (C := R_B) (T := F_B) (N := 10) (t := 5) (j := 3) hx hb hK hts (fun w h => List.mem_cons_of_mem _ (iw_B w h)) hown rfl rfl (by decide) (hts _ (List.mem_cons_of_mem _ wd_95)) (fun _ h => h) rfl rfl rfl d_H_start_16 h, List.forall_mem_cons.mpr ⟨fun S h => bs_iconst (Z := Z) hx hb (by decide) d_H_start_19 h, List.forall_mem_cons.mpr ⟨fun S h => bs_icmp_eq (Z := Z) hx hb d_H_start_20 (by decide) h, List.forall_mem_cons.mpr ⟨fun S h => bs_aload_n (Z := Z) hx hb rfl d_H_start_23 h, List.forall_mem_cons.mpr ⟨fun S h => bs_gI (Z := Z) (C := R_B) (T := F_B) (N := 10) (t := 5) (j := 5) hx hb hK hts (fun w h => List.mem_cons_of_mem _ (iw_B w h)) hown rfl rfl (by decide) (hts _ (List.mem_cons_of_mem _ wd_100)) (fun _ h => h) rfl rfl rfl d_H_start_24 h, List.forall_mem_cons.mpr ⟨fun S h => bs_aload_n (Z := Z) hx hb rfl d_H_start_27 h, List.forall_mem_cons.mpr ⟨fun S h => bs_gI (Z := Z) (C := R_H) (T := F_H) (N := 5) (t := 3) (j := 4) hx hb hK hts (fun w h => List.mem_cons_of_mem _ (iw_H w h)) hown rfl rfl (by decide) (hts _ (List.mem_cons_of_mem _ wd_228)) (fun _ h => h) rfl rfl rfl d_H_start_28 h, List.forall_mem_cons.mpr ⟨fun S h => bs_icmp_gt (Z := Z) hx hb d_H_start_31 (by decide) h, List.forall_mem_cons.mpr ⟨fun S h => bs_aload_n (Z := Z) hx hb rfl d_H_start_34 h, List.forall_mem_cons.mpr ⟨fun S h => bs_aload_n (Z := Z) hx hb rfl d_H_start_35 h, List.forall_mem_cons.mpr ⟨fun S h => bs_callV (Z := Z) (C := R_H) hBg hbs hB X0 hK (cn_H_activate htr (d + 0)) (cl_H_activate _ _ hw) (hts _ (List.mem_cons_of_mem _ wd_293)) (hts _ (List.mem_cons_of_mem _ wd_295)) (hts _ (List.mem_cons_of_mem _ ws_5)) rfl rfl rfl rfl rfl (Nat.le_refl _) (Nat.le_refl _) d_H_start_36 (bs_out htab hlocks) h, List.forall_mem_cons.mpr ⟨fun S h => bs_callS (Z := Z) hBg hbs hB X0 (cn_H_throwUnlessDone htr (d + 31)) (cl_H_throwUnlessDone _ _ hw) (hts _ (List.mem_cons_of_mem _ wd_594)) (hts _ (List.mem_cons_of_mem _ wd_595)) (Nat.le_refl _) (Nat.le_refl _) d_H_start_39 (bs_out htab hlocks) h, List.forall_mem_cons.mpr ⟨fun S h => bs_aload_n (Z := Z) hx hb rfl d_H_start_42 h, List.forall_mem_cons.mpr ⟨fun S h => bs_gI (Z := Z) (C := R_B) (T := F_B) (N := 10) (t := 5) (j := 3) hx hb hK hts (fun w h => List.mem_cons_of_mem _ (iw_B w h)) hown rfl rfl (by decide) (hts _ (List.mem_cons_of_mem _ wd_95)) (fun _ h => h) rfl rfl rfl d_H_start_43 h, List.forall_mem_cons.mpr ⟨fun S h => bs_iconst (Z := Z) hx hb (by decide) d_H_start_46 h, List.forall_mem_cons.mpr ⟨fun S h => bs_icmp_ne (Z := Z) hx hb d_H_start_47 (by decide) h, List.forall_mem_cons.mpr ⟨fun S h => bs_iconst (Z := Z) hx hb (by decide) d_H_start_50 h, List.forall_mem_cons.mpr ⟨fun S h => bs_goto (Z := Z) hx hb d_H_start_51 (by decide) h, List.forall_mem_cons.mpr ⟨fun S h => bs_iconst (Z := Z) hx hb (by decide) d_H_start_54 h, List.forall_mem_cons.mpr ⟨fun S h => bs_iret (Z := Z) hx hb hr hlocks d_H_start_55 h, fun _ h => absurd h List.not_mem_nil⟩⟩⟩⟩⟩⟩⟩⟩⟩⟩⟩⟩⟩⟩⟩⟩⟩⟩⟩⟩⟩⟩⟩⟩⟩⟩⟩⟩⟩⟩
abbrev c_V_ownedBy : ByteArray := prog_8_method_7_code
def y_V_ownedBy : MethodName := ⟨"BundleHall$Services", "ownedBy", "(I)I"⟩
theorem d_V_ownedBy_0 : decode c_V_ownedBy 0 = .ok (.iconst 0, 1) := by decide +kernel
theorem d_V_ownedBy_1 : decode c_V_ownedBy 1 = .ok (.istore_n 2, 1) := by decide +kernel
theorem d_V_ownedBy_2 : decode c_V_ownedBy 2 = .ok (.iconst 0, 1) := by decide +kernel
theorem d_V_ownedBy_3 : decode c_V_ownedBy 3 = .ok (.istore_n 3, 1) := by decide +kernel
theorem d_V_ownedBy_4 : decode c_V_ownedBy 4 = .ok (.iload_n 3, 1) := by decide +kernel
theorem d_V_ownedBy_5 : decode c_V_ownedBy 5 = .ok (.aload_n 0, 1) := by decide +kernel
theorem d_V_ownedBy_6 : decode c_V_ownedBy 6 = .ok (.getfield 18, 3) := by decide +kernel
theorem d_V_ownedBy_9 : decode c_V_ownedBy 9 = .ok (.if_icmp .ge 25, 3) := by decide +kernel
theorem d_V_ownedBy_12 : decode c_V_ownedBy 12 = .ok (.aload_n 0, 1) := by decide +kernel
theorem d_V_ownedBy_13 : decode c_V_ownedBy 13 = .ok (.getfield 11, 3) := by decide +kernel
theorem d_V_ownedBy_16 : decode c_V_ownedBy 16 = .ok (.iload_n 3, 1) := by decide +kernel
theorem d_V_ownedBy_17 : decode c_V_ownedBy 17 = .ok (.aaload, 1) := by decide +kernel
theorem d_V_ownedBy_18 : decode c_V_ownedBy 18 = .ok (.getfield 28, 3) := by decide +kernel
theorem d_V_ownedBy_21 : decode c_V_ownedBy 21 = .ok (.iload_n 1, 1) := by decide +kernel
theorem d_V_ownedBy_22 : decode c_V_ownedBy 22 = .ok (.if_icmp .ne 6, 3) := by decide +kernel
theorem d_V_ownedBy_25 : decode c_V_ownedBy 25 = .ok (.iinc 2 1, 3) := by decide +kernel
theorem d_V_ownedBy_28 : decode c_V_ownedBy 28 = .ok (.iinc 3 1, 3) := by decide +kernel
theorem d_V_ownedBy_31 : decode c_V_ownedBy 31 = .ok (.goto (-27), 3) := by decide +kernel
theorem d_V_ownedBy_34 : decode c_V_ownedBy 34 = .ok (.iload_n 2, 1) := by decide +kernel
theorem d_V_ownedBy_35 : decode c_V_ownedBy 35 = .ok (.ireturn, 1) := by decide +kernel
def T_V_ownedBy_0 : List (Nat × bh_Op) := [(0, bo_st 1 (bg_push (.inl (.int 0)))),
  (1, bo_ist 2 2),
  (2, bo_st 3 (bg_push (.inl (.int 0)))),
  (3, bo_ist 4 3),
  (4, bo_ild 5 3),
  (5, bo_ald 6 0),
  (6, bo_gI 9 19 1),
  (9, bo_if2 12 34 (fun x y => y ≤ x)),
  (12, bo_ald 13 0),
  (13, bo_gR 16 19 0 20),
  (16, bo_ild 17 3),
  (17, bo_Rald bh_ak bh_al 18),
  (18, bo_gI 21 21 2),
  (21, bo_ild 22 1),
  (22, bo_if2 25 28 (fun x y => ¬ x = y)),
  (25, bo_inc 28 2 1),
  (28, bo_inc 31 3 1),
  (31, bo_go 4),
  (34, bo_ild 35 2),
  (35, bo_iret 0)]
def T_V_ownedBy : List (Nat × bh_Op) := T_V_ownedBy_0
set_option maxRecDepth 20000 in
theorem mT_V_ownedBy_0 : ∀ q ∈ T_V_ownedBy_0, bh_mono q.2 := List.forall_mem_cons.mpr ⟨bo_st_mono (bg_push_m _), List.forall_mem_cons.mpr ⟨bo_ist_m _ _, List.forall_mem_cons.mpr ⟨bo_st_mono (bg_push_m _), List.forall_mem_cons.mpr ⟨bo_ist_m _ _, List.forall_mem_cons.mpr ⟨bo_ild_m _ _, List.forall_mem_cons.mpr ⟨bo_ald_m _ _, List.forall_mem_cons.mpr ⟨bo_gI_m _ _ _, List.forall_mem_cons.mpr ⟨bo_if2_m _ _ _, List.forall_mem_cons.mpr ⟨bo_ald_m _ _, List.forall_mem_cons.mpr ⟨bo_gR_m _ _ _ _, List.forall_mem_cons.mpr ⟨bo_ild_m _ _, List.forall_mem_cons.mpr ⟨bo_Rald_m _ _ _, List.forall_mem_cons.mpr ⟨bo_gI_m _ _ _, List.forall_mem_cons.mpr ⟨bo_ild_m _ _, List.forall_mem_cons.mpr ⟨bo_if2_m _ _ _, List.forall_mem_cons.mpr ⟨bo_inc_m _ _ _, List.forall_mem_cons.mpr ⟨bo_inc_m _ _ _, List.forall_mem_cons.mpr ⟨bo_go_m _, List.forall_mem_cons.mpr ⟨bo_ild_m _ _, List.forall_mem_cons.mpr ⟨bo_iret_m _, fun _ h => absurd h List.not_mem_nil⟩⟩⟩⟩⟩⟩⟩⟩⟩⟩⟩⟩⟩⟩⟩⟩⟩⟩⟩⟩
theorem m_V_ownedBy : ∀ pc, bh_mono (bh_tb (T_V_ownedBy) pc) := bh_tb_m mT_V_ownedBy_0
def F_V_ownedBy : bh_Fn := bh_fn 4 (bh_tb T_V_ownedBy)
theorem mF_V_ownedBy : bh_monoF F_V_ownedBy := bh_fn_m m_V_ownedBy
theorem cl_V_ownedBy {s : State} {args : Array Value} (d B : Nat) (hts : ∀ w ∈ bh_ws, w.before args s = true) : bh_Cal (bh_rm (d + 1) B) s y_V_ownedBy 4 (.code y_V_ownedBy c_V_ownedBy 4 (some .int) :: bh_ws) (bh_rm d 0) 0 1 := bh_cal d B hts wd_634 wd_6 (by decide) (by decide +kernel)
set_option maxHeartbeats 4000000 in
set_option maxRecDepth 100000 in
theorem cn_V_ownedBy {l : Launch} {G : bh_G} {base sb L : Nat} {xs : Nat → Int32} (htr : l.stackTraces = false) (d : Nat) : bh_Con l G base (bh_Bg G base sb L xs) y_V_ownedBy (.code y_V_ownedBy c_V_ownedBy 4 (some .int) :: bh_ws) (bh_rm (d + 1) 0) 0 false F_V_ownedBy := by
  refine bh_method (cc := c_V_ownedBy) (ret := (some .int)) (by decide +kernel) rfl ?_
  intro p e s m args below meth c ad0 M0 Z X0 hr hlocks hname htab hbs hB
  obtain ⟨hx, hb, hml, hown, hts⟩ := id X0
  have hw : ∀ w ∈ bh_ws, w.before args s = true := fun w h => hts w (List.mem_cons_of_mem _ h)
  have hBg := bh_BgK (G := G) (base := base) (sb := sb) (L := L) (xs := xs)
  obtain ⟨hK, hAr, hen, hinj, hu1, hu2, hstr, hX, hsb, hsc, hxw, hao, hnc⟩ := id hB
  obtain ⟨ha1, ha2, ha3, ha4, ha5, ha6, ha0⟩ := bh_arr hAr
  exact List.forall_mem_cons.mpr ⟨fun S h => bs_iconst (Z := Z) hx hb (by decide) d_V_ownedBy_0 h, List.forall_mem_cons.mpr ⟨fun S h => bs_istore_n (Z := Z) hx hb rfl d_V_ownedBy_1 h, List.forall_mem_cons.mpr ⟨fun S h => bs_iconst (Z := Z) hx hb (by decide) d_V_ownedBy_2 h, List.forall_mem_cons.mpr ⟨fun S h => bs_istore_n (Z := Z) hx hb rfl d_V_ownedBy_3 h, List.forall_mem_cons.mpr ⟨fun S h => bs_iload_n (Z := Z) hx hb rfl d_V_ownedBy_4 h, List.forall_mem_cons.mpr ⟨fun S h => bs_aload_n (Z := Z) hx hb rfl d_V_ownedBy_5 h, List.forall_mem_cons.mpr ⟨fun S h => bs_gI (Z := Z) (C := R_V) (T := F_V) (N := 3) (t := 19) (j := 1) hx hb hK hts (fun w h => List.mem_cons_of_mem _ (iw_V w h)) hown rfl rfl (by decide) (hts _ (List.mem_cons_of_mem _ wd_193)) (fun _ h => h) rfl rfl rfl d_V_ownedBy_6 h, List.forall_mem_cons.mpr ⟨fun S h => bs_icmp_ge (Z := Z) hx hb d_V_ownedBy_9 (by decide) h, List.forall_mem_cons.mpr ⟨fun S h => bs_aload_n (Z := Z) hx hb rfl d_V_ownedBy_12 h, List.forall_mem_cons.mpr ⟨fun S h => bs_gR (Z := Z) (C := R_V) (T := F_V) (N := 3) (t := 19) (j := 0) hx hb hK hts (fun w h => List.mem_cons_of_mem _ (iw_V w h)) hown rfl rfl (by decide) (hts _ (List.mem_cons_of_mem _ wd_191)) (fun _ h => h) rfl rfl rfl d_V_ownedBy_13 h, List.forall_mem_cons.mpr ⟨fun S h => bs_iload_n (Z := Z) hx hb rfl d_V_ownedBy_16 h, List.forall_mem_cons.mpr ⟨fun S h => bs_Rald (Z := Z) hx hb ha5 d_V_ownedBy_17 h, List.forall_mem_cons.mpr ⟨fun S h => bs_gI (Z := Z) (C := R_S) (T := F_S) (N := 5) (t := 21) (j := 2) hx hb hK hts (fun w h => List.mem_cons_of_mem _ (iw_S w h)) hown rfl rfl (by decide) (hts _ (List.mem_cons_of_mem _ wd_176)) (fun _ h => h) rfl rfl rfl d_V_ownedBy_18 h, List.forall_mem_cons.mpr ⟨fun S h => bs_iload_n (Z := Z) hx hb rfl d_V_ownedBy_21 h, List.forall_mem_cons.mpr ⟨fun S h => bs_icmp_ne (Z := Z) hx hb d_V_ownedBy_22 (by decide) h, List.forall_mem_cons.mpr ⟨fun S h => bs_iinc (Z := Z) hx hb (by decide) d_V_ownedBy_25 h, List.forall_mem_cons.mpr ⟨fun S h => bs_iinc (Z := Z) hx hb (by decide) d_V_ownedBy_28 h, List.forall_mem_cons.mpr ⟨fun S h => bs_goto (Z := Z) hx hb d_V_ownedBy_31 (by decide) h, List.forall_mem_cons.mpr ⟨fun S h => bs_iload_n (Z := Z) hx hb rfl d_V_ownedBy_34 h, List.forall_mem_cons.mpr ⟨fun S h => bs_iret (Z := Z) hx hb hr hlocks d_V_ownedBy_35 h, fun _ h => absurd h List.not_mem_nil⟩⟩⟩⟩⟩⟩⟩⟩⟩⟩⟩⟩⟩⟩⟩⟩⟩⟩⟩⟩
abbrev c_H_stop : ByteArray := prog_1_method_7_code
def y_H_stop : MethodName := ⟨"BundleHall", "stop", "(I)I"⟩
theorem d_H_stop_0 : decode c_H_stop 0 = .ok (.iload_n 1, 1) := by decide +kernel
theorem d_H_stop_1 : decode c_H_stop 1 = .ok (.invokestatic 43, 3) := by decide +kernel
theorem d_H_stop_4 : decode c_H_stop 4 = .ok (.aload_n 0, 1) := by decide +kernel
theorem d_H_stop_5 : decode c_H_stop 5 = .ok (.iload_n 1, 1) := by decide +kernel
theorem d_H_stop_6 : decode c_H_stop 6 = .ok (.invokevirtual 100, 3) := by decide +kernel
theorem d_H_stop_9 : decode c_H_stop 9 = .ok (.astore_n 2, 1) := by decide +kernel
theorem d_H_stop_10 : decode c_H_stop 10 = .ok (.aload_n 0, 1) := by decide +kernel
theorem d_H_stop_11 : decode c_H_stop 11 = .ok (.getfield 28, 3) := by decide +kernel
theorem d_H_stop_14 : decode c_H_stop 14 = .ok (.iload_n 1, 1) := by decide +kernel
theorem d_H_stop_15 : decode c_H_stop 15 = .ok (.invokevirtual 130, 3) := by decide +kernel
theorem d_H_stop_18 : decode c_H_stop 18 = .ok (.istore_n 3, 1) := by decide +kernel
theorem d_H_stop_19 : decode c_H_stop 19 = .ok (.aload_n 2, 1) := by decide +kernel
theorem d_H_stop_20 : decode c_H_stop 20 = .ok (.iconst 0, 1) := by decide +kernel
theorem d_H_stop_21 : decode c_H_stop 21 = .ok (.putfield 119, 3) := by decide +kernel
theorem d_H_stop_24 : decode c_H_stop 24 = .ok (.aload_n 0, 1) := by decide +kernel
theorem d_H_stop_25 : decode c_H_stop 25 = .ok (.aload_n 2, 1) := by decide +kernel
theorem d_H_stop_26 : decode c_H_stop 26 = .ok (.invokevirtual 134, 3) := by decide +kernel
theorem d_H_stop_29 : decode c_H_stop 29 = .ok (.iload_n 3, 1) := by decide +kernel
theorem d_H_stop_30 : decode c_H_stop 30 = .ok (.ireturn, 1) := by decide +kernel
def T_H_stop_0 : List (Nat × bh_Op) := [(0, bo_ild 1 1),
  (1, bo_callS 4 1 1 2 F_H_checkBundle),
  (4, bo_ald 5 0),
  (5, bo_ild 6 1),
  (6, bo_callV 9 2 1 2 3 F_H_present),
  (9, bo_ast 10 2),
  (10, bo_ald 11 0),
  (11, bo_gR 14 3 2 19),
  (14, bo_ild 15 1),
  (15, bo_callV 18 2 0 2 19 F_V_ownedBy),
  (18, bo_ist 19 3),
  (19, bo_ald 20 2),
  (20, bo_st 21 (bg_push (.inl (.int 0)))),
  (21, bo_pZ 24 5 7),
  (24, bo_ald 25 0),
  (25, bo_ald 26 2),
  (26, bo_callV 29 2 0 2 3 F_H_deactivate),
  (29, bo_ild 30 3),
  (30, bo_iret 2)]
def T_H_stop : List (Nat × bh_Op) := T_H_stop_0
set_option maxRecDepth 20000 in
theorem mT_H_stop_0 : ∀ q ∈ T_H_stop_0, bh_mono q.2 := List.forall_mem_cons.mpr ⟨bo_ild_m _ _, List.forall_mem_cons.mpr ⟨bo_callS_m (mF_H_checkBundle) _ _ _ _, List.forall_mem_cons.mpr ⟨bo_ald_m _ _, List.forall_mem_cons.mpr ⟨bo_ild_m _ _, List.forall_mem_cons.mpr ⟨bo_callV_m (mF_H_present) _ _ _ _ _, List.forall_mem_cons.mpr ⟨bo_ast_m _ _, List.forall_mem_cons.mpr ⟨bo_ald_m _ _, List.forall_mem_cons.mpr ⟨bo_gR_m _ _ _ _, List.forall_mem_cons.mpr ⟨bo_ild_m _ _, List.forall_mem_cons.mpr ⟨bo_callV_m (mF_V_ownedBy) _ _ _ _ _, List.forall_mem_cons.mpr ⟨bo_ist_m _ _, List.forall_mem_cons.mpr ⟨bo_ald_m _ _, List.forall_mem_cons.mpr ⟨bo_st_mono (bg_push_m _), List.forall_mem_cons.mpr ⟨bo_pZ_m _ _ _, List.forall_mem_cons.mpr ⟨bo_ald_m _ _, List.forall_mem_cons.mpr ⟨bo_ald_m _ _, List.forall_mem_cons.mpr ⟨bo_callV_m (mF_H_deactivate) _ _ _ _ _, List.forall_mem_cons.mpr ⟨bo_ild_m _ _, List.forall_mem_cons.mpr ⟨bo_iret_m _, fun _ h => absurd h List.not_mem_nil⟩⟩⟩⟩⟩⟩⟩⟩⟩⟩⟩⟩⟩⟩⟩⟩⟩⟩⟩
theorem m_H_stop : ∀ pc, bh_mono (bh_tb (T_H_stop) pc) := bh_tb_m mT_H_stop_0
def F_H_stop : bh_Fn := bh_fn 4 (bh_tb T_H_stop)
theorem mF_H_stop : bh_monoF F_H_stop := bh_fn_m m_H_stop
theorem cl_H_stop {s : State} {args : Array Value} (d B : Nat) (hts : ∀ w ∈ bh_ws, w.before args s = true) : bh_Cal (bh_rm (d + 1) B) s y_H_stop 4 (.code y_H_stop c_H_stop 4 (some .int) :: bh_ws) (bh_rm d 2) 2 1 := bh_cal d B hts wd_630 wd_1 (by decide) (by decide +kernel)
set_option maxHeartbeats 4000000 in
set_option maxRecDepth 100000 in
theorem cn_H_stop {l : Launch} {G : bh_G} {base sb L : Nat} {xs : Nat → Int32} (htr : l.stackTraces = false) (d : Nat) : bh_Con l G base (bh_Bg G base sb L xs) y_H_stop (.code y_H_stop c_H_stop 4 (some .int) :: bh_ws) (bh_rm (d + 4) 2) 2 false F_H_stop := by
  refine bh_method (cc := c_H_stop) (ret := (some .int)) (by decide +kernel) rfl ?_
  intro p e s m args below meth c ad0 M0 Z X0 hr hlocks hname htab hbs hB
  obtain ⟨hx, hb, hml, hown, hts⟩ := id X0
  have hw : ∀ w ∈ bh_ws, w.before args s = true := fun w h => hts w (List.mem_cons_of_mem _ h)
  have hBg := bh_BgK (G := G) (base := base) (sb := sb) (L := L) (xs := xs)
  obtain ⟨hK, hAr, hen, hinj, hu1, hu2, hstr, hX, hsb, hsc, hxw, hao, hnc⟩ := id hB
  obtain ⟨ha1, ha2, ha3, ha4, ha5, ha6, ha0⟩ := bh_arr hAr
  exact List.forall_mem_cons.mpr ⟨fun S h => bs_iload_n (Z := Z) hx hb rfl d_H_stop_0 h, List.forall_mem_cons.mpr ⟨fun S h => bs_callS (Z := Z) hBg hbs hB X0 (cn_H_checkBundle htr (d + 1)) (cl_H_checkBundle _ _ hw) (hts _ (List.mem_cons_of_mem _ wd_403)) (hts _ (List.mem_cons_of_mem _ wd_404)) (Nat.le_refl _) (Nat.le_refl _) d_H_stop_1 (bs_out htab hlocks) h, List.forall_mem_cons.mpr ⟨fun S h => bs_aload_n (Z := Z) hx hb rfl d_H_stop_4 h, List.forall_mem_cons.mpr ⟨fun S h => bs_iload_n (Z := Z) hx hb rfl d_H_stop_5 h, List.forall_mem_cons.mpr ⟨fun S h => bs_callV (Z := Z) (C := R_H) hBg hbs hB X0 hK (cn_H_present htr (d + 2)) (cl_H_present _ _ hw) (hts _ (List.mem_cons_of_mem _ wd_525)) (hts _ (List.mem_cons_of_mem _ wd_527)) (hts _ (List.mem_cons_of_mem _ ws_21)) rfl rfl rfl rfl rfl (Nat.le_refl _) (Nat.le_refl _) d_H_stop_6 (bs_out htab hlocks) h, List.forall_mem_cons.mpr ⟨fun S h => bs_astore_n (Z := Z) hx hb rfl d_H_stop_9 h, List.forall_mem_cons.mpr ⟨fun S h => bs_aload_n (Z := Z) hx hb rfl d_H_stop_10 h, List.forall_mem_cons.mpr ⟨fun S h => bs_gR (Z := Z) (C := R_H) (T := F_H) (N := 5) (t := 3) (j := 2) hx hb hK hts (fun w h => List.mem_cons_of_mem _ (iw_H w h)) hown rfl rfl (by decide) (hts _ (List.mem_cons_of_mem _ wd_226)) (fun _ h => h) rfl rfl rfl d_H_stop_11 h, List.forall_mem_cons.mpr ⟨fun S h => bs_iload_n (Z := Z) hx hb rfl d_H_stop_14 h, List.forall_mem_cons.mpr ⟨fun S h => bs_callV (Z := Z) (C := R_V) hBg hbs hB X0 hK (cn_V_ownedBy htr (d + 2)) (cl_V_ownedBy _ _ hw) (hts _ (List.mem_cons_of_mem _ wd_631)) (hts _ (List.mem_cons_of_mem _ wd_632)) (hts _ (List.mem_cons_of_mem _ wd_633)) rfl rfl rfl rfl rfl (Nat.le_refl _) (Nat.le_refl _) d_H_stop_15 (bs_out htab hlocks) h, List.forall_mem_cons.mpr ⟨fun S h => bs_istore_n (Z := Z) hx hb rfl d_H_stop_18 h, List.forall_mem_cons.mpr ⟨fun S h => bs_aload_n (Z := Z) hx hb rfl d_H_stop_19 h, List.forall_mem_cons.mpr ⟨fun S h => bs_iconst (Z := Z) hx hb (by decide) d_H_stop_20 h, List.forall_mem_cons.mpr ⟨fun S h => bs_pZ (Z := Z) (C := R_B) (T := F_B) (N := 10) (t := 5) (j := 7) hx hb hK hts (fun w h => List.mem_cons_of_mem _ (iw_B w h)) hown rfl rfl (by decide) (hts _ (List.mem_cons_of_mem _ wd_104)) (fun _ h => h) rfl rfl t_B t_B_ok n_B rfl (by decide +kernel) rfl d_H_stop_21 h, List.forall_mem_cons.mpr ⟨fun S h => bs_aload_n (Z := Z) hx hb rfl d_H_stop_24 h, List.forall_mem_cons.mpr ⟨fun S h => bs_aload_n (Z := Z) hx hb rfl d_H_stop_25 h, List.forall_mem_cons.mpr ⟨fun S h => bs_callV (Z := Z) (C := R_H) hBg hbs hB X0 hK (cn_H_deactivate htr (d + 0)) (cl_H_deactivate _ _ hw) (hts _ (List.mem_cons_of_mem _ wd_269)) (hts _ (List.mem_cons_of_mem _ wd_271)) (hts _ (List.mem_cons_of_mem _ ws_3)) rfl rfl rfl rfl rfl (Nat.le_refl _) (Nat.le_refl _) d_H_stop_26 (bs_out htab hlocks) h, List.forall_mem_cons.mpr ⟨fun S h => bs_iload_n (Z := Z) hx hb rfl d_H_stop_29 h, List.forall_mem_cons.mpr ⟨fun S h => bs_iret (Z := Z) hx hb hr hlocks d_H_stop_30 h, fun _ h => absurd h List.not_mem_nil⟩⟩⟩⟩⟩⟩⟩⟩⟩⟩⟩⟩⟩⟩⟩⟩⟩⟩⟩
abbrev c_B_isDueAt : ByteArray := prog_2_method_3_code
def y_B_isDueAt : MethodName := ⟨"BundleHall$Bundle", "isDueAt", "(I)Z"⟩
theorem d_B_isDueAt_0 : decode c_B_isDueAt 0 = .ok (.aload_n 0, 1) := by decide +kernel
theorem d_B_isDueAt_1 : decode c_B_isDueAt 1 = .ok (.getfield 38, 3) := by decide +kernel
theorem d_B_isDueAt_4 : decode c_B_isDueAt 4 = .ok (.ifCond .eq 23, 3) := by decide +kernel
theorem d_B_isDueAt_7 : decode c_B_isDueAt 7 = .ok (.aload_n 0, 1) := by decide +kernel
theorem d_B_isDueAt_8 : decode c_B_isDueAt 8 = .ok (.getfield 42, 3) := by decide +kernel
theorem d_B_isDueAt_11 : decode c_B_isDueAt 11 = .ok (.iload_n 1, 1) := by decide +kernel
theorem d_B_isDueAt_12 : decode c_B_isDueAt 12 = .ok (.if_icmp .ne 15, 3) := by decide +kernel
theorem d_B_isDueAt_15 : decode c_B_isDueAt 15 = .ok (.aload_n 0, 1) := by decide +kernel
theorem d_B_isDueAt_16 : decode c_B_isDueAt 16 = .ok (.getfield 35, 3) := by decide +kernel
theorem d_B_isDueAt_19 : decode c_B_isDueAt 19 = .ok (.iconst 3, 1) := by decide +kernel
theorem d_B_isDueAt_20 : decode c_B_isDueAt 20 = .ok (.if_icmp .eq 7, 3) := by decide +kernel
theorem d_B_isDueAt_23 : decode c_B_isDueAt 23 = .ok (.iconst 1, 1) := by decide +kernel
theorem d_B_isDueAt_24 : decode c_B_isDueAt 24 = .ok (.goto 4, 3) := by decide +kernel
theorem d_B_isDueAt_27 : decode c_B_isDueAt 27 = .ok (.iconst 0, 1) := by decide +kernel
theorem d_B_isDueAt_28 : decode c_B_isDueAt 28 = .ok (.ireturn, 1) := by decide +kernel
def T_B_isDueAt_0 : List (Nat × bh_Op) := [(0, bo_ald 1 0),
  (1, bo_gI 4 5 7),
  (4, bo_if1 7 27 (fun x => x = 0)),
  (7, bo_ald 8 0),
  (8, bo_gI 11 5 5),
  (11, bo_ild 12 1),
  (12, bo_if2 15 27 (fun x y => ¬ x = y)),
  (15, bo_ald 16 0),
  (16, bo_gI 19 5 3),
  (19, bo_st 20 (bg_push (.inl (.int 3)))),
  (20, bo_if2 23 27 (fun x y => x = y)),
  (23, bo_st 24 (bg_push (.inl (.int 1)))),
  (24, bo_go 28),
  (27, bo_st 28 (bg_push (.inl (.int 0)))),
  (28, bo_zret 0)]
def T_B_isDueAt : List (Nat × bh_Op) := T_B_isDueAt_0
set_option maxRecDepth 20000 in
theorem mT_B_isDueAt_0 : ∀ q ∈ T_B_isDueAt_0, bh_mono q.2 := List.forall_mem_cons.mpr ⟨bo_ald_m _ _, List.forall_mem_cons.mpr ⟨bo_gI_m _ _ _, List.forall_mem_cons.mpr ⟨bo_if1_m _ _ _, List.forall_mem_cons.mpr ⟨bo_ald_m _ _, List.forall_mem_cons.mpr ⟨bo_gI_m _ _ _, List.forall_mem_cons.mpr ⟨bo_ild_m _ _, List.forall_mem_cons.mpr ⟨bo_if2_m _ _ _, List.forall_mem_cons.mpr ⟨bo_ald_m _ _, List.forall_mem_cons.mpr ⟨bo_gI_m _ _ _, List.forall_mem_cons.mpr ⟨bo_st_mono (bg_push_m _), List.forall_mem_cons.mpr ⟨bo_if2_m _ _ _, List.forall_mem_cons.mpr ⟨bo_st_mono (bg_push_m _), List.forall_mem_cons.mpr ⟨bo_go_m _, List.forall_mem_cons.mpr ⟨bo_st_mono (bg_push_m _), List.forall_mem_cons.mpr ⟨bo_zret_m _, fun _ h => absurd h List.not_mem_nil⟩⟩⟩⟩⟩⟩⟩⟩⟩⟩⟩⟩⟩⟩⟩
theorem m_B_isDueAt : ∀ pc, bh_mono (bh_tb (T_B_isDueAt) pc) := bh_tb_m mT_B_isDueAt_0
def F_B_isDueAt : bh_Fn := bh_fn 2 (bh_tb T_B_isDueAt)
theorem mF_B_isDueAt : bh_monoF F_B_isDueAt := bh_fn_m m_B_isDueAt
theorem cl_B_isDueAt {s : State} {args : Array Value} (d B : Nat) (hts : ∀ w ∈ bh_ws, w.before args s = true) : bh_Cal (bh_rm (d + 1) B) s y_B_isDueAt 2 (.code y_B_isDueAt c_B_isDueAt 2 (some .boolean) :: bh_ws) (bh_rm d 0) 0 1 := bh_cal d B hts wd_645 wd_2 (by decide) (by decide +kernel)
set_option maxHeartbeats 4000000 in
set_option maxRecDepth 100000 in
theorem cn_B_isDueAt {l : Launch} {G : bh_G} {base sb L : Nat} {xs : Nat → Int32} (htr : l.stackTraces = false) (d : Nat) : bh_Con l G base (bh_Bg G base sb L xs) y_B_isDueAt (.code y_B_isDueAt c_B_isDueAt 2 (some .boolean) :: bh_ws) (bh_rm (d + 1) 0) 0 false F_B_isDueAt := by
  refine bh_method (cc := c_B_isDueAt) (ret := (some .boolean)) (by decide +kernel) rfl ?_
  intro p e s m args below meth c ad0 M0 Z X0 hr hlocks hname htab hbs hB
  obtain ⟨hx, hb, hml, hown, hts⟩ := id X0
  have hw : ∀ w ∈ bh_ws, w.before args s = true := fun w h => hts w (List.mem_cons_of_mem _ h)
  have hBg := bh_BgK (G := G) (base := base) (sb := sb) (L := L) (xs := xs)
  obtain ⟨hK, hAr, hen, hinj, hu1, hu2, hstr, hX, hsb, hsc, hxw, hao, hnc⟩ := id hB
  obtain ⟨ha1, ha2, ha3, ha4, ha5, ha6, ha0⟩ := bh_arr hAr
  exact List.forall_mem_cons.mpr ⟨fun S h => bs_aload_n (Z := Z) hx hb rfl d_B_isDueAt_0 h, List.forall_mem_cons.mpr ⟨fun S h => bs_gI (Z := Z) (C := R_B) (T := F_B) (N := 10) (t := 5) (j := 7) hx hb hK hts (fun w h => List.mem_cons_of_mem _ (iw_B w h)) hown rfl rfl (by decide) (hts _ (List.mem_cons_of_mem _ wd_103)) (fun _ h => h) rfl rfl rfl d_B_isDueAt_1 h, List.forall_mem_cons.mpr ⟨fun S h => bs_if_eq (Z := Z) hx hb d_B_isDueAt_4 (by decide) h, List.forall_mem_cons.mpr ⟨fun S h => bs_aload_n (Z := Z) hx hb rfl d_B_isDueAt_7 h, List.forall_mem_cons.mpr ⟨fun S h => bs_gI (Z := Z) (C := R_B) (T := F_B) (N := 10) (t := 5) (j := 5) hx hb hK hts (fun w h => List.mem_cons_of_mem _ (iw_B w h)) hown rfl rfl (by decide) (hts _ (List.mem_cons_of_mem _ wd_99)) (fun _ h => h) rfl rfl rfl d_B_isDueAt_8 h, List.forall_mem_cons.mpr ⟨fun S h => bs_iload_n (Z := Z) hx hb rfl d_B_isDueAt_11 h, List.forall_mem_cons.mpr ⟨fun S h => bs_icmp_ne (Z := Z) hx hb d_B_isDueAt_12 (by decide) h, List.forall_mem_cons.mpr ⟨fun S h => bs_aload_n (Z := Z) hx hb rfl d_B_isDueAt_15 h, List.forall_mem_cons.mpr ⟨fun S h => bs_gI (Z := Z) (C := R_B) (T := F_B) (N := 10) (t := 5) (j := 3) hx hb hK hts (fun w h => List.mem_cons_of_mem _ (iw_B w h)) hown rfl rfl (by decide) (hts _ (List.mem_cons_of_mem _ wd_94)) (fun _ h => h) rfl rfl rfl d_B_isDueAt_16 h, List.forall_mem_cons.mpr ⟨fun S h => bs_iconst (Z := Z) hx hb (by decide) d_B_isDueAt_19 h, List.forall_mem_cons.mpr ⟨fun S h => bs_icmp_eq (Z := Z) hx hb d_B_isDueAt_20 (by decide) h, List.forall_mem_cons.mpr ⟨fun S h => bs_iconst (Z := Z) hx hb (by decide) d_B_isDueAt_23 h, List.forall_mem_cons.mpr ⟨fun S h => bs_goto (Z := Z) hx hb d_B_isDueAt_24 (by decide) h, List.forall_mem_cons.mpr ⟨fun S h => bs_iconst (Z := Z) hx hb (by decide) d_B_isDueAt_27 h, List.forall_mem_cons.mpr ⟨fun S h => bs_zret (Z := Z) hx hb hr hlocks d_B_isDueAt_28 h, fun _ h => absurd h List.not_mem_nil⟩⟩⟩⟩⟩⟩⟩⟩⟩⟩⟩⟩⟩⟩⟩
abbrev c_H_deactivateLevel : ByteArray := prog_1_method_34_code
def y_H_deactivateLevel : MethodName := ⟨"BundleHall", "deactivateLevel", "(I)I"⟩
theorem d_H_deactivateLevel_0 : decode c_H_deactivateLevel 0 = .ok (.iconst 0, 1) := by decide +kernel
theorem d_H_deactivateLevel_1 : decode c_H_deactivateLevel 1 = .ok (.istore_n 2, 1) := by decide +kernel
theorem d_H_deactivateLevel_2 : decode c_H_deactivateLevel 2 = .ok (.bipush 7, 2) := by decide +kernel
theorem d_H_deactivateLevel_4 : decode c_H_deactivateLevel 4 = .ok (.istore_n 3, 1) := by decide +kernel
theorem d_H_deactivateLevel_5 : decode c_H_deactivateLevel 5 = .ok (.iload_n 3, 1) := by decide +kernel
theorem d_H_deactivateLevel_6 : decode c_H_deactivateLevel 6 = .ok (.ifCond .lt 48, 3) := by decide +kernel
theorem d_H_deactivateLevel_9 : decode c_H_deactivateLevel 9 = .ok (.aload_n 0, 1) := by decide +kernel
theorem d_H_deactivateLevel_10 : decode c_H_deactivateLevel 10 = .ok (.getfield 11, 3) := by decide +kernel
theorem d_H_deactivateLevel_13 : decode c_H_deactivateLevel 13 = .ok (.iload_n 3, 1) := by decide +kernel
theorem d_H_deactivateLevel_14 : decode c_H_deactivateLevel 14 = .ok (.aaload, 1) := by decide +kernel
theorem d_H_deactivateLevel_15 : decode c_H_deactivateLevel 15 = .ok (.getfield 50, 3) := by decide +kernel
theorem d_H_deactivateLevel_18 : decode c_H_deactivateLevel 18 = .ok (.iconst 3, 1) := by decide +kernel
theorem d_H_deactivateLevel_19 : decode c_H_deactivateLevel 19 = .ok (.if_icmp .ne 29, 3) := by decide +kernel
theorem d_H_deactivateLevel_22 : decode c_H_deactivateLevel 22 = .ok (.aload_n 0, 1) := by decide +kernel
theorem d_H_deactivateLevel_23 : decode c_H_deactivateLevel 23 = .ok (.getfield 11, 3) := by decide +kernel
theorem d_H_deactivateLevel_26 : decode c_H_deactivateLevel 26 = .ok (.iload_n 3, 1) := by decide +kernel
theorem d_H_deactivateLevel_27 : decode c_H_deactivateLevel 27 = .ok (.aaload, 1) := by decide +kernel
theorem d_H_deactivateLevel_28 : decode c_H_deactivateLevel 28 = .ok (.getfield 123, 3) := by decide +kernel
theorem d_H_deactivateLevel_31 : decode c_H_deactivateLevel 31 = .ok (.iload_n 1, 1) := by decide +kernel
theorem d_H_deactivateLevel_32 : decode c_H_deactivateLevel 32 = .ok (.if_icmp .ne 16, 3) := by decide +kernel
theorem d_H_deactivateLevel_35 : decode c_H_deactivateLevel 35 = .ok (.aload_n 0, 1) := by decide +kernel
theorem d_H_deactivateLevel_36 : decode c_H_deactivateLevel 36 = .ok (.aload_n 0, 1) := by decide +kernel
theorem d_H_deactivateLevel_37 : decode c_H_deactivateLevel 37 = .ok (.getfield 11, 3) := by decide +kernel
theorem d_H_deactivateLevel_40 : decode c_H_deactivateLevel 40 = .ok (.iload_n 3, 1) := by decide +kernel
theorem d_H_deactivateLevel_41 : decode c_H_deactivateLevel 41 = .ok (.aaload, 1) := by decide +kernel
theorem d_H_deactivateLevel_42 : decode c_H_deactivateLevel 42 = .ok (.invokevirtual 134, 3) := by decide +kernel
theorem d_H_deactivateLevel_45 : decode c_H_deactivateLevel 45 = .ok (.iinc 2 1, 3) := by decide +kernel
theorem d_H_deactivateLevel_48 : decode c_H_deactivateLevel 48 = .ok (.iinc 3 (-1), 3) := by decide +kernel
theorem d_H_deactivateLevel_51 : decode c_H_deactivateLevel 51 = .ok (.goto (-46), 3) := by decide +kernel
theorem d_H_deactivateLevel_54 : decode c_H_deactivateLevel 54 = .ok (.iload_n 2, 1) := by decide +kernel
theorem d_H_deactivateLevel_55 : decode c_H_deactivateLevel 55 = .ok (.ireturn, 1) := by decide +kernel
def T_H_deactivateLevel_0 : List (Nat × bh_Op) := [(0, bo_st 1 (bg_push (.inl (.int 0)))),
  (1, bo_ist 2 2),
  (2, bo_st 4 (bg_push (.inl (.int 7)))),
  (4, bo_ist 5 3),
  (5, bo_ild 6 3),
  (6, bo_if1 9 54 (fun x => x < 0)),
  (9, bo_ald 10 0),
  (10, bo_gR 13 3 0 4),
  (13, bo_ild 14 3),
  (14, bo_Rald bh_ak bh_al 15),
  (15, bo_gI 18 5 3),
  (18, bo_st 19 (bg_push (.inl (.int 3)))),
  (19, bo_if2 22 48 (fun x y => ¬ x = y)),
  (22, bo_ald 23 0),
  (23, bo_gR 26 3 0 4),
  (26, bo_ild 27 3),
  (27, bo_Rald bh_ak bh_al 28),
  (28, bo_gI 31 5 5),
  (31, bo_ild 32 1),
  (32, bo_if2 35 48 (fun x y => ¬ x = y)),
  (35, bo_ald 36 0),
  (36, bo_ald 37 0),
  (37, bo_gR 40 3 0 4),
  (40, bo_ild 41 3),
  (41, bo_Rald bh_ak bh_al 42),
  (42, bo_callV 45 2 0 0 3 F_H_deactivate),
  (45, bo_inc 48 2 1),
  (48, bo_inc 51 3 (-1)),
  (51, bo_go 5),
  (54, bo_ild 55 2),
  (55, bo_iret 0)]
def T_H_deactivateLevel : List (Nat × bh_Op) := T_H_deactivateLevel_0
set_option maxRecDepth 20000 in
theorem mT_H_deactivateLevel_0 : ∀ q ∈ T_H_deactivateLevel_0, bh_mono q.2 := List.forall_mem_cons.mpr ⟨bo_st_mono (bg_push_m _), List.forall_mem_cons.mpr ⟨bo_ist_m _ _, List.forall_mem_cons.mpr ⟨bo_st_mono (bg_push_m _), List.forall_mem_cons.mpr ⟨bo_ist_m _ _, List.forall_mem_cons.mpr ⟨bo_ild_m _ _, List.forall_mem_cons.mpr ⟨bo_if1_m _ _ _, List.forall_mem_cons.mpr ⟨bo_ald_m _ _, List.forall_mem_cons.mpr ⟨bo_gR_m _ _ _ _, List.forall_mem_cons.mpr ⟨bo_ild_m _ _, List.forall_mem_cons.mpr ⟨bo_Rald_m _ _ _, List.forall_mem_cons.mpr ⟨bo_gI_m _ _ _, List.forall_mem_cons.mpr ⟨bo_st_mono (bg_push_m _), List.forall_mem_cons.mpr ⟨bo_if2_m _ _ _, List.forall_mem_cons.mpr ⟨bo_ald_m _ _, List.forall_mem_cons.mpr ⟨bo_gR_m _ _ _ _, List.forall_mem_cons.mpr ⟨bo_ild_m _ _, List.forall_mem_cons.mpr ⟨bo_Rald_m _ _ _, List.forall_mem_cons.mpr ⟨bo_gI_m _ _ _, List.forall_mem_cons.mpr ⟨bo_ild_m _ _, List.forall_mem_cons.mpr ⟨bo_if2_m _ _ _, List.forall_mem_cons.mpr ⟨bo_ald_m _ _, List.forall_mem_cons.mpr ⟨bo_ald_m _ _, List.forall_mem_cons.mpr ⟨bo_gR_m _ _ _ _, List.forall_mem_cons.mpr ⟨bo_ild_m _ _, List.forall_mem_cons.mpr ⟨bo_Rald_m _ _ _, List.forall_mem_cons.mpr ⟨bo_callV_m (mF_H_deactivate) _ _ _ _ _, List.forall_mem_cons.mpr ⟨bo_inc_m _ _ _, List.forall_mem_cons.mpr ⟨bo_inc_m _ _ _, List.forall_mem_cons.mpr ⟨bo_go_m _, List.forall_mem_cons.mpr ⟨bo_ild_m _ _, List.forall_mem_cons.mpr ⟨bo_iret_m _, fun _ h => absurd h List.not_mem_nil⟩⟩⟩⟩⟩⟩⟩⟩⟩⟩⟩⟩⟩⟩⟩⟩⟩⟩⟩⟩⟩⟩⟩⟩⟩⟩⟩⟩⟩⟩⟩
theorem m_H_deactivateLevel : ∀ pc, bh_mono (bh_tb (T_H_deactivateLevel) pc) := bh_tb_m mT_H_deactivateLevel_0
def F_H_deactivateLevel : bh_Fn := bh_fn 4 (bh_tb T_H_deactivateLevel)
theorem mF_H_deactivateLevel : bh_monoF F_H_deactivateLevel := bh_fn_m m_H_deactivateLevel
theorem cl_H_deactivateLevel {s : State} {args : Array Value} (d B : Nat) (hts : ∀ w ∈ bh_ws, w.before args s = true) : bh_Cal (bh_rm (d + 1) B) s y_H_deactivateLevel 4 (.code y_H_deactivateLevel c_H_deactivateLevel 4 (some .int) :: bh_ws) (bh_rm d 0) 0 1 := bh_cal d B hts wd_649 wd_1 (by decide) (by decide +kernel)
set_option maxHeartbeats 4000000 in
set_option maxRecDepth 100000 in
theorem cn_H_deactivateLevel {l : Launch} {G : bh_G} {base sb L : Nat} {xs : Nat → Int32} (htr : l.stackTraces = false) (d : Nat) : bh_Con l G base (bh_Bg G base sb L xs) y_H_deactivateLevel (.code y_H_deactivateLevel c_H_deactivateLevel 4 (some .int) :: bh_ws) (bh_rm (d + 4) 0) 0 false F_H_deactivateLevel := by
  refine bh_method (cc := c_H_deactivateLevel) (ret := (some .int)) (by decide +kernel) rfl ?_
  intro p e s m args below meth c ad0 M0 Z X0 hr hlocks hname htab hbs hB
  obtain ⟨hx, hb, hml, hown, hts⟩ := id X0
  have hw : ∀ w ∈ bh_ws, w.before args s = true := fun w h => hts w (List.mem_cons_of_mem _ h)
  have hBg := bh_BgK (G := G) (base := base) (sb := sb) (L := L) (xs := xs)
  obtain ⟨hK, hAr, hen, hinj, hu1, hu2, hstr, hX, hsb, hsc, hxw, hao, hnc⟩ := id hB
  obtain ⟨ha1, ha2, ha3, ha4, ha5, ha6, ha0⟩ := bh_arr hAr
  exact List.forall_mem_cons.mpr ⟨fun S h => bs_iconst (Z := Z) hx hb (by decide) d_H_deactivateLevel_0 h, List.forall_mem_cons.mpr ⟨fun S h => bs_istore_n (Z := Z) hx hb rfl d_H_deactivateLevel_1 h, List.forall_mem_cons.mpr ⟨fun S h => bs_bipush (Z := Z) hx hb (by decide) d_H_deactivateLevel_2 h, List.forall_mem_cons.mpr ⟨fun S h => bs_istore_n (Z := Z) hx hb rfl d_H_deactivateLevel_4 h, List.forall_mem_cons.mpr ⟨fun S h => bs_iload_n (Z := Z) hx hb rfl d_H_deactivateLevel_5 h, List.forall_mem_cons.mpr ⟨fun S h => bs_if_lt (Z := Z) hx hb d_H_deactivateLevel_6 (by decide) h, List.forall_mem_cons.mpr ⟨fun S h => bs_aload_n (Z := Z) hx hb rfl d_H_deactivateLevel_9 h, List.forall_mem_cons.mpr ⟨fun S h => bs_gR (Z := Z) (C := R_H) (T := F_H) (N := 5) (t := 3) (j := 0) hx hb hK hts (fun w h => List.mem_cons_of_mem _ (iw_H w h)) hown rfl rfl (by decide) (hts _ (List.mem_cons_of_mem _ wd_224)) (fun _ h => h) rfl rfl rfl d_H_deactivateLevel_10 h, List.forall_mem_cons.mpr ⟨fun S h => bs_iload_n (Z := Z) hx hb rfl d_H_deactivateLevel_13 h, List.forall_mem_cons.mpr ⟨fun S h => bs_Rald (Z := Z) hx hb ha5 d_H_deactivateLevel_14 h, List.forall_mem_cons.mpr ⟨fun S h => bs_gI (Z := Z) (C := R_B) (T := F_B) (N := 10) (t := 5) (j := 3) hx hb hK hts (fun w h => List.mem_cons_of_mem _ (iw_B w h)) hown rfl rfl (by decide) (hts _ (List.mem_cons_of_mem _ wd_95)) (fun _ h => h) rfl rfl rfl d_H_deactivateLevel_15 h, List.forall_mem_cons.mpr ⟨fun S h => bs_iconst (Z := Z) hx hb (by decide) d_H_deactivateLevel_18 h, List.forall_mem_cons.mpr ⟨fun S h => bs_icmp_ne (Z := Z) hx hb d_H_deactivateLevel_19 (by decide) h, List.forall_mem_cons.mpr ⟨fun S h => bs_aload_n (Z := Z) hx hb rfl d_H_deactivateLevel_22 h, List.forall_mem_cons.mpr ⟨fun S h => bs_gR (Z := Z) (C := R_H) (T := F_H) (N := 5) (t := 3) (j := 0) hx hb hK hts (fun w h => List.mem_cons_of_mem _ (iw_H w h)) hown rfl rfl (by decide) (hts _ (List.mem_cons_of_mem _ wd_224)) (fun _ h => h) rfl rfl rfl d_H_deactivateLevel_23 h, List.forall_mem_cons.mpr ⟨fun S h => bs_iload_n (Z := Z) hx hb rfl d_H_deactivateLevel_26 h, List.forall_mem_cons.mpr ⟨fun S h => bs_Rald (Z := Z) hx hb ha5 d_H_deactivateLevel_27 h, List.forall_mem_cons.mpr ⟨fun S h => bs_gI (Z := Z) (C := R_B) (T := F_B) (N := 10) (t := 5) (j := 5) hx hb hK hts (fun w h => List.mem_cons_of_mem _ (iw_B w h)) hown rfl rfl (by decide) (hts _ (List.mem_cons_of_mem _ wd_100)) (fun _ h => h) rfl rfl rfl d_H_deactivateLevel_28 h, List.forall_mem_cons.mpr ⟨fun S h => bs_iload_n (Z := Z) hx hb rfl d_H_deactivateLevel_31 h, List.forall_mem_cons.mpr ⟨fun S h => bs_icmp_ne (Z := Z) hx hb d_H_deactivateLevel_32 (by decide) h, List.forall_mem_cons.mpr ⟨fun S h => bs_aload_n (Z := Z) hx hb rfl d_H_deactivateLevel_35 h, List.forall_mem_cons.mpr ⟨fun S h => bs_aload_n (Z := Z) hx hb rfl d_H_deactivateLevel_36 h, List.forall_mem_cons.mpr ⟨fun S h => bs_gR (Z := Z) (C := R_H) (T := F_H) (N := 5) (t := 3) (j := 0) hx hb hK hts (fun w h => List.mem_cons_of_mem _ (iw_H w h)) hown rfl rfl (by decide) (hts _ (List.mem_cons_of_mem _ wd_224)) (fun _ h => h) rfl rfl rfl d_H_deactivateLevel_37 h, List.forall_mem_cons.mpr ⟨fun S h => bs_iload_n (Z := Z) hx hb rfl d_H_deactivateLevel_40 h, List.forall_mem_cons.mpr ⟨fun S h => bs_Rald (Z := Z) hx hb ha5 d_H_deactivateLevel_41 h, List.forall_mem_cons.mpr ⟨fun S h => bs_callV (Z := Z) (C := R_H) hBg hbs hB X0 hK (cn_H_deactivate htr (d + 0)) (cl_H_deactivate _ _ hw) (hts _ (List.mem_cons_of_mem _ wd_269)) (hts _ (List.mem_cons_of_mem _ wd_271)) (hts _ (List.mem_cons_of_mem _ ws_3)) rfl rfl rfl rfl rfl (Nat.le_refl _) (Nat.le_refl _) d_H_deactivateLevel_42 (bs_out htab hlocks) h, List.forall_mem_cons.mpr ⟨fun S h => bs_iinc (Z := Z) hx hb (by decide) d_H_deactivateLevel_45 h, List.forall_mem_cons.mpr ⟨fun S h => bs_iinc (Z := Z) hx hb (by decide) d_H_deactivateLevel_48 h, List.forall_mem_cons.mpr ⟨fun S h => bs_goto (Z := Z) hx hb d_H_deactivateLevel_51 (by decide) h, List.forall_mem_cons.mpr ⟨fun S h => bs_iload_n (Z := Z) hx hb rfl d_H_deactivateLevel_54 h, List.forall_mem_cons.mpr ⟨fun S h => bs_iret (Z := Z) hx hb hr hlocks d_H_deactivateLevel_55 h, fun _ h => absurd h List.not_mem_nil⟩⟩⟩⟩⟩⟩⟩⟩⟩⟩⟩⟩⟩⟩⟩⟩⟩⟩⟩⟩⟩⟩⟩⟩⟩⟩⟩⟩⟩⟩⟩
abbrev c_H_level : ByteArray := prog_1_method_8_code
def y_H_level : MethodName := ⟨"BundleHall", "level", "(I)I"⟩
theorem d_H_level_0 : decode c_H_level 0 = .ok (.iload_n 1, 1) := by decide +kernel
theorem d_H_level_1 : decode c_H_level 1 = .ok (.iconst 1, 1) := by decide +kernel
theorem d_H_level_2 : decode c_H_level 2 = .ok (.iconst 5, 1) := by decide +kernel
theorem d_H_level_3 : decode c_H_level 3 = .ok (.invokestatic 46, 3) := by decide +kernel
theorem d_H_level_6 : decode c_H_level 6 = .ok (.aload_n 0, 1) := by decide +kernel
theorem d_H_level_7 : decode c_H_level 7 = .ok (.getfield 39, 3) := by decide +kernel
theorem d_H_level_10 : decode c_H_level 10 = .ok (.istore_n 2, 1) := by decide +kernel
theorem d_H_level_11 : decode c_H_level 11 = .ok (.aload_n 0, 1) := by decide +kernel
theorem d_H_level_12 : decode c_H_level 12 = .ok (.iload_n 1, 1) := by decide +kernel
theorem d_H_level_13 : decode c_H_level 13 = .ok (.putfield 39, 3) := by decide +kernel
theorem d_H_level_16 : decode c_H_level 16 = .ok (.iconst 0, 1) := by decide +kernel
theorem d_H_level_17 : decode c_H_level 17 = .ok (.istore_n 3, 1) := by decide +kernel
theorem d_H_level_18 : decode c_H_level 18 = .ok (.iload_n 2, 1) := by decide +kernel
theorem d_H_level_19 : decode c_H_level 19 = .ok (.iconst 1, 1) := by decide +kernel
theorem d_H_level_20 : decode c_H_level 20 = .ok (.iadd, 1) := by decide +kernel
theorem d_H_level_21 : decode c_H_level 21 = .ok (.istore 4, 2) := by decide +kernel
theorem d_H_level_23 : decode c_H_level 23 = .ok (.iload 4, 2) := by decide +kernel
theorem d_H_level_25 : decode c_H_level 25 = .ok (.iload_n 1, 1) := by decide +kernel
theorem d_H_level_26 : decode c_H_level 26 = .ok (.if_icmp .gt 60, 3) := by decide +kernel
theorem d_H_level_29 : decode c_H_level 29 = .ok (.iconst 0, 1) := by decide +kernel
theorem d_H_level_30 : decode c_H_level 30 = .ok (.istore 5, 2) := by decide +kernel
theorem d_H_level_32 : decode c_H_level 32 = .ok (.iload 5, 2) := by decide +kernel
theorem d_H_level_34 : decode c_H_level 34 = .ok (.bipush 8, 2) := by decide +kernel
theorem d_H_level_36 : decode c_H_level 36 = .ok (.if_icmp .ge 44, 3) := by decide +kernel
theorem d_H_level_39 : decode c_H_level 39 = .ok (.aload_n 0, 1) := by decide +kernel
theorem d_H_level_40 : decode c_H_level 40 = .ok (.getfield 11, 3) := by decide +kernel
theorem d_H_level_43 : decode c_H_level 43 = .ok (.iload 5, 2) := by decide +kernel
theorem d_H_level_45 : decode c_H_level 45 = .ok (.aaload, 1) := by decide +kernel
theorem d_H_level_46 : decode c_H_level 46 = .ok (.iload 4, 2) := by decide +kernel
theorem d_H_level_48 : decode c_H_level 48 = .ok (.invokevirtual 138, 3) := by decide +kernel
theorem d_H_level_51 : decode c_H_level 51 = .ok (.ifCond .eq 23, 3) := by decide +kernel
theorem d_H_level_54 : decode c_H_level 54 = .ok (.aload_n 0, 1) := by decide +kernel
theorem d_H_level_55 : decode c_H_level 55 = .ok (.aload_n 0, 1) := by decide +kernel
theorem d_H_level_56 : decode c_H_level 56 = .ok (.getfield 11, 3) := by decide +kernel
theorem d_H_level_59 : decode c_H_level 59 = .ok (.iload 5, 2) := by decide +kernel
theorem d_H_level_61 : decode c_H_level 61 = .ok (.aaload, 1) := by decide +kernel
theorem d_H_level_62 : decode c_H_level 62 = .ok (.invokevirtual 126, 3) := by decide +kernel
theorem d_H_level_65 : decode c_H_level 65 = .ok (.getstatic 141, 3) := by decide +kernel
theorem d_H_level_68 : decode c_H_level 68 = .ok (.if_acmp .ne 6, 3) := by decide +kernel
theorem d_H_level_71 : decode c_H_level 71 = .ok (.iinc 3 1, 3) := by decide +kernel
theorem d_H_level_74 : decode c_H_level 74 = .ok (.iinc 5 1, 3) := by decide +kernel
theorem d_H_level_77 : decode c_H_level 77 = .ok (.goto (-45), 3) := by decide +kernel
theorem d_H_level_80 : decode c_H_level 80 = .ok (.iinc 4 1, 3) := by decide +kernel
theorem d_H_level_83 : decode c_H_level 83 = .ok (.goto (-60), 3) := by decide +kernel
theorem d_H_level_86 : decode c_H_level 86 = .ok (.iload_n 2, 1) := by decide +kernel
theorem d_H_level_87 : decode c_H_level 87 = .ok (.istore 4, 2) := by decide +kernel
theorem d_H_level_89 : decode c_H_level 89 = .ok (.iload 4, 2) := by decide +kernel
theorem d_H_level_91 : decode c_H_level 91 = .ok (.iload_n 1, 1) := by decide +kernel
theorem d_H_level_92 : decode c_H_level 92 = .ok (.if_icmp .le 18, 3) := by decide +kernel
theorem d_H_level_95 : decode c_H_level 95 = .ok (.iload_n 3, 1) := by decide +kernel
theorem d_H_level_96 : decode c_H_level 96 = .ok (.aload_n 0, 1) := by decide +kernel
theorem d_H_level_97 : decode c_H_level 97 = .ok (.iload 4, 2) := by decide +kernel
theorem d_H_level_99 : decode c_H_level 99 = .ok (.invokevirtual 147, 3) := by decide +kernel
theorem d_H_level_102 : decode c_H_level 102 = .ok (.iadd, 1) := by decide +kernel
theorem d_H_level_103 : decode c_H_level 103 = .ok (.istore_n 3, 1) := by decide +kernel
theorem d_H_level_104 : decode c_H_level 104 = .ok (.iinc 4 (-1), 3) := by decide +kernel
theorem d_H_level_107 : decode c_H_level 107 = .ok (.goto (-18), 3) := by decide +kernel
theorem d_H_level_110 : decode c_H_level 110 = .ok (.iload_n 3, 1) := by decide +kernel
theorem d_H_level_111 : decode c_H_level 111 = .ok (.ireturn, 1) := by decide +kernel
def T_H_level_0 : List (Nat × bh_Op) := [(0, bo_ild 1 1),
  (1, bo_st 2 (bg_push (.inl (.int 1)))),
  (2, bo_st 3 (bg_push (.inl (.int 5)))),
  (3, bo_callS 6 3 1 1 F_H_checkRange),
  (6, bo_ald 7 0),
  (7, bo_gI 10 3 4),
  (10, bo_ist 11 2),
  (11, bo_ald 12 0),
  (12, bo_ild 13 1),
  (13, bo_pI 16 3 4),
  (16, bo_st 17 (bg_push (.inl (.int 0)))),
  (17, bo_ist 18 3),
  (18, bo_ild 19 2),
  (19, bo_st 20 (bg_push (.inl (.int 1)))),
  (20, bo_st 21 (bg_ii (fun x y => x + y))),
  (21, bo_ist 23 4),
  (23, bo_ild 25 4),
  (25, bo_ild 26 1),
  (26, bo_if2 29 86 (fun x y => y < x)),
  (29, bo_st 30 (bg_push (.inl (.int 0)))),
  (30, bo_ist 32 5),
  (32, bo_ild 34 5),
  (34, bo_st 36 (bg_push (.inl (.int 8)))),
  (36, bo_if2 39 80 (fun x y => y ≤ x)),
  (39, bo_ald 40 0),
  (40, bo_gR 43 3 0 4),
  (43, bo_ild 45 5),
  (45, bo_Rald bh_ak bh_al 46),
  (46, bo_ild 48 4),
  (48, bo_callV 51 2 0 1 5 F_B_isDueAt),
  (51, bo_if1 54 74 (fun x => x = 0)),
  (54, bo_ald 55 0),
  (55, bo_ald 56 0),
  (56, bo_gR 59 3 0 4),
  (59, bo_ild 61 5),
  (61, bo_Rald bh_ak bh_al 62),
  (62, bo_callV 65 2 0 1 3 F_H_activate),
  (65, bo_st 68 (bg_push (.inr (2, 1)))),
  (68, bo_acmp 71 74 false),
  (71, bo_inc 74 3 1)]
def T_H_level_1 : List (Nat × bh_Op) := [(74, bo_inc 77 5 1),
  (77, bo_go 32),
  (80, bo_inc 83 4 1),
  (83, bo_go 23),
  (86, bo_ild 87 2),
  (87, bo_ist 89 4),
  (89, bo_ild 91 4),
  (91, bo_ild 92 1),
  (92, bo_if2 95 110 (fun x y => x ≤ y)),
  (95, bo_ild 96 3),
  (96, bo_ald 97 0),
  (97, bo_ild 99 4),
  (99, bo_callV 102 2 0 1 3 F_H_deactivateLevel),
  (102, bo_st 103 (bg_ii (fun x y => x + y))),
  (103, bo_ist 104 3),
  (104, bo_inc 107 4 (-1)),
  (107, bo_go 89),
  (110, bo_ild 111 3),
  (111, bo_iret 1)]
def T_H_level : List (Nat × bh_Op) := T_H_level_0 ++ T_H_level_1
set_option maxRecDepth 20000 in
theorem mT_H_level_0 : ∀ q ∈ T_H_level_0, bh_mono q.2 := List.forall_mem_cons.mpr ⟨bo_ild_m _ _, List.forall_mem_cons.mpr ⟨bo_st_mono (bg_push_m _), List.forall_mem_cons.mpr ⟨bo_st_mono (bg_push_m _), List.forall_mem_cons.mpr ⟨bo_callS_m (mF_H_checkRange) _ _ _ _, List.forall_mem_cons.mpr ⟨bo_ald_m _ _, List.forall_mem_cons.mpr ⟨bo_gI_m _ _ _, List.forall_mem_cons.mpr ⟨bo_ist_m _ _, List.forall_mem_cons.mpr ⟨bo_ald_m _ _, List.forall_mem_cons.mpr ⟨bo_ild_m _ _, List.forall_mem_cons.mpr ⟨bo_pI_m _ _ _, List.forall_mem_cons.mpr ⟨bo_st_mono (bg_push_m _), List.forall_mem_cons.mpr ⟨bo_ist_m _ _, List.forall_mem_cons.mpr ⟨bo_ild_m _ _, List.forall_mem_cons.mpr ⟨bo_st_mono (bg_push_m _), List.forall_mem_cons.mpr ⟨bo_st_mono (bg_ii_m _), List.forall_mem_cons.mpr ⟨bo_ist_m _ _, List.forall_mem_cons.mpr ⟨bo_ild_m _ _, List.forall_mem_cons.mpr ⟨bo_ild_m _ _, List.forall_mem_cons.mpr ⟨bo_if2_m _ _ _, List.forall_mem_cons.mpr ⟨bo_st_mono (bg_push_m _), List.forall_mem_cons.mpr ⟨bo_ist_m _ _, List.forall_mem_cons.mpr ⟨bo_ild_m _ _, List.forall_mem_cons.mpr ⟨bo_st_mono (bg_push_m _), List.forall_mem_cons.mpr ⟨bo_if2_m _ _ _, List.forall_mem_cons.mpr ⟨bo_ald_m _ _, List.forall_mem_cons.mpr ⟨bo_gR_m _ _ _ _, List.forall_mem_cons.mpr ⟨bo_ild_m _ _, List.forall_mem_cons.mpr ⟨bo_Rald_m _ _ _, List.forall_mem_cons.mpr ⟨bo_ild_m _ _, List.forall_mem_cons.mpr ⟨bo_callV_m (mF_B_isDueAt) _ _ _ _ _, List.forall_mem_cons.mpr ⟨bo_if1_m _ _ _, List.forall_mem_cons.mpr ⟨bo_ald_m _ _, List.forall_mem_cons.mpr ⟨bo_ald_m _ _, List.forall_mem_cons.mpr ⟨bo_gR_m _ _ _ _, List.forall_mem_cons.mpr ⟨bo_ild_m _ _, List.forall_mem_cons.mpr ⟨bo_Rald_m _ _ _, List.forall_mem_cons.mpr ⟨bo_callV_m (mF_H_activate) _ _ _ _ _, List.forall_mem_cons.mpr ⟨bo_st_mono (bg_push_m _), List.forall_mem_cons.mpr ⟨bo_acmp_m _ _ _, List.forall_mem_cons.mpr ⟨bo_inc_m _ _ _, fun _ h => absurd h List.not_mem_nil⟩⟩⟩⟩⟩⟩⟩⟩⟩⟩⟩⟩⟩⟩⟩⟩⟩⟩⟩⟩⟩⟩⟩⟩⟩⟩⟩⟩⟩⟩⟩⟩⟩⟩⟩⟩⟩⟩⟩⟩
set_option maxRecDepth 20000 in
theorem mT_H_level_1 : ∀ q ∈ T_H_level_1, bh_mono q.2 := List.forall_mem_cons.mpr ⟨bo_inc_m _ _ _, List.forall_mem_cons.mpr ⟨bo_go_m _, List.forall_mem_cons.mpr ⟨bo_inc_m _ _ _, List.forall_mem_cons.mpr ⟨bo_go_m _, List.forall_mem_cons.mpr ⟨bo_ild_m _ _, List.forall_mem_cons.mpr ⟨bo_ist_m _ _, List.forall_mem_cons.mpr ⟨bo_ild_m _ _, List.forall_mem_cons.mpr ⟨bo_ild_m _ _, List.forall_mem_cons.mpr ⟨bo_if2_m _ _ _, List.forall_mem_cons.mpr ⟨bo_ild_m _ _, List.forall_mem_cons.mpr ⟨bo_ald_m _ _, List.forall_mem_cons.mpr ⟨bo_ild_m _ _, List.forall_mem_cons.mpr ⟨bo_callV_m (mF_H_deactivateLevel) _ _ _ _ _, List.forall_mem_cons.mpr ⟨bo_st_mono (bg_ii_m _), List.forall_mem_cons.mpr ⟨bo_ist_m _ _, List.forall_mem_cons.mpr ⟨bo_inc_m _ _ _, List.forall_mem_cons.mpr ⟨bo_go_m _, List.forall_mem_cons.mpr ⟨bo_ild_m _ _, List.forall_mem_cons.mpr ⟨bo_iret_m _, fun _ h => absurd h List.not_mem_nil⟩⟩⟩⟩⟩⟩⟩⟩⟩⟩⟩⟩⟩⟩⟩⟩⟩⟩⟩
theorem m_H_level : ∀ pc, bh_mono (bh_tb (T_H_level) pc) := bh_tb_m (List.forall_mem_append.mpr ⟨mT_H_level_0, mT_H_level_1⟩)
def F_H_level : bh_Fn := bh_fn 6 (bh_tb T_H_level)
theorem mF_H_level : bh_monoF F_H_level := bh_fn_m m_H_level
theorem cl_H_level {s : State} {args : Array Value} (d B : Nat) (hts : ∀ w ∈ bh_ws, w.before args s = true) : bh_Cal (bh_rm (d + 1) B) s y_H_level 6 (.code y_H_level c_H_level 6 (some .int) :: bh_ws) (bh_rm d 1) 1 1 := bh_cal d B hts wd_641 wd_1 (by decide) (by decide +kernel)
set_option maxHeartbeats 4000000 in
set_option maxRecDepth 100000 in
theorem cn_H_level {l : Launch} {G : bh_G} {base sb L : Nat} {xs : Nat → Int32} (htr : l.stackTraces = false) (d : Nat) : bh_Con l G base (bh_Bg G base sb L xs) y_H_level (.code y_H_level c_H_level 6 (some .int) :: bh_ws) (bh_rm (d + 33) 1) 1 false F_H_level := by
  refine bh_method (cc := c_H_level) (ret := (some .int)) (by decide +kernel) rfl ?_
  intro p e s m args below meth c ad0 M0 Z X0 hr hlocks hname htab hbs hB
  obtain ⟨hx, hb, hml, hown, hts⟩ := id X0
  have hw : ∀ w ∈ bh_ws, w.before args s = true := fun w h => hts w (List.mem_cons_of_mem _ h)
  have hBg := bh_BgK (G := G) (base := base) (sb := sb) (L := L) (xs := xs)
  obtain ⟨hK, hAr, hen, hinj, hu1, hu2, hstr, hX, hsb, hsc, hxw, hao, hnc⟩ := id hB
  obtain ⟨ha1, ha2, ha3, ha4, ha5, ha6, ha0⟩ := bh_arr hAr
  refine List.forall_mem_append.mpr ⟨?_, List.forall_mem_cons.mpr ⟨fun S h => bs_iinc (Z := Z) hx hb (by decide) d_H_level_74 h, List.forall_mem_cons.mpr ⟨fun S h => bs_goto (Z := Z) hx hb d_H_level_77 (by decide) h, List.forall_mem_cons.mpr ⟨fun S h => bs_iinc (Z := Z) hx hb (by decide) d_H_level_80 h, List.forall_mem_cons.mpr ⟨fun S h => bs_goto (Z := Z) hx hb d_H_level_83 (by decide) h, List.forall_mem_cons.mpr ⟨fun S h => bs_iload_n (Z := Z) hx hb rfl d_H_level_86 h, List.forall_mem_cons.mpr ⟨fun S h => bs_istore (Z := Z) hx hb d_H_level_87 h, List.forall_mem_cons.mpr ⟨fun S h => bs_iload (Z := Z) hx hb d_H_level_89 h, List.forall_mem_cons.mpr ⟨fun S h => bs_iload_n (Z := Z) hx hb rfl d_H_level_91 h, List.forall_mem_cons.mpr ⟨fun S h => bs_icmp_le (Z := Z) hx hb d_H_level_92 (by decide) h, List.forall_mem_cons.mpr ⟨fun S h => bs_iload_n (Z := Z) hx hb rfl d_H_level_95 h, List.forall_mem_cons.mpr ⟨fun S h => bs_aload_n (Z := Z) hx hb rfl d_H_level_96 h, List.forall_mem_cons.mpr ⟨fun S h => bs_iload (Z := Z) hx hb d_H_level_97 h, List.forall_mem_cons.mpr ⟨fun S h => bs_callV (Z := Z) (C := R_H) hBg hbs hB X0 hK (cn_H_deactivateLevel htr (d + 28)) (cl_H_deactivateLevel _ _ hw) (hts _ (List.mem_cons_of_mem _ wd_646)) (hts _ (List.mem_cons_of_mem _ wd_648)) (hts _ (List.mem_cons_of_mem _ ws_22)) rfl rfl rfl rfl rfl (Nat.le_refl _) (Nat.le_refl _) d_H_level_99 (bs_out htab hlocks) h, List.forall_mem_cons.mpr ⟨fun S h => bs_iadd (Z := Z) hx hb d_H_level_102 h, List.forall_mem_cons.mpr ⟨fun S h => bs_istore_n (Z := Z) hx hb rfl d_H_level_103 h, List.forall_mem_cons.mpr ⟨fun S h => bs_iinc (Z := Z) hx hb (by decide) d_H_level_104 h, List.forall_mem_cons.mpr ⟨fun S h => bs_goto (Z := Z) hx hb d_H_level_107 (by decide) h, List.forall_mem_cons.mpr ⟨fun S h => bs_iload_n (Z := Z) hx hb rfl d_H_level_110 h, List.forall_mem_cons.mpr ⟨fun S h => bs_iret (Z := Z) hx hb hr hlocks d_H_level_111 h, fun _ h => absurd h List.not_mem_nil⟩⟩⟩⟩⟩⟩⟩⟩⟩⟩⟩⟩⟩⟩⟩⟩⟩⟩⟩⟩
  exact List.forall_mem_cons.mpr ⟨fun S h => bs_iload_n (Z := Z) hx hb rfl d_H_level_0 h, List.forall_mem_cons.mpr ⟨fun S h => bs_iconst (Z := Z) hx hb (by decide) d_H_level_1 h, List.forall_mem_cons.mpr ⟨fun S h => bs_iconst (Z := Z) hx hb (by decide) d_H_level_2 h, List.forall_mem_cons.mpr ⟨fun S h => bs_callS (Z := Z) hBg hbs hB X0 (cn_H_checkRange htr (d + 31)) (cl_H_checkRange _ _ hw) (hts _ (List.mem_cons_of_mem _ wd_406)) (hts _ (List.mem_cons_of_mem _ wd_407)) (Nat.le_refl _) (Nat.le_refl _) d_H_level_3 (bs_out htab hlocks) h, List.forall_mem_cons.mpr ⟨fun S h => bs_aload_n (Z := Z) hx hb rfl d_H_level_6 h, List.forall_mem_cons.mpr ⟨fun S h => bs_gI (Z := Z) (C := R_H) (T := F_H) (N := 5) (t := 3) (j := 4) hx hb hK hts (fun w h => List.mem_cons_of_mem _ (iw_H w h)) hown rfl rfl (by decide) (hts _ (List.mem_cons_of_mem _ wd_228)) (fun _ h => h) rfl rfl rfl d_H_level_7 h, List.forall_mem_cons.mpr ⟨fun S h => bs_istore_n (Z := Z) hx hb rfl d_H_level_10 h, List.forall_mem_cons.mpr ⟨fun S h => bs_aload_n (Z := Z) hx hb rfl d_H_level_11 h, List.forall_mem_cons.mpr ⟨fun S h => bs_iload_n (Z := Z) hx hb rfl d_H_level_12 h, List.forall_mem_cons.mpr ⟨fun S h => bs_pI (Z := Z) (C := R_H) (T := F_H) (N := 5) (t := 3) (j := 4) hx hb hK hts (fun w h => List.mem_cons_of_mem _ (iw_H w h)) hown rfl rfl (by decide) (hts _ (List.mem_cons_of_mem _ wd_228)) (fun _ h => h) rfl rfl t_H t_H_ok n_H rfl (by decide +kernel) rfl d_H_level_13 h, List.forall_mem_cons.mpr ⟨fun S h => bs_iconst (Z := Z) hx hb (by decide) d_H_level_16 h, List.forall_mem_cons.mpr ⟨fun S h => bs_istore_n (Z := Z) hx hb rfl d_H_level_17 h, List.forall_mem_cons.mpr ⟨fun S h => bs_iload_n (Z := Z) hx hb rfl d_H_level_18 h, List.forall_mem_cons.mpr ⟨fun S h => bs_iconst (Z := Z) hx hb (by decide) d_H_level_19 h, List.forall_mem_cons.mpr ⟨fun S h => bs_iadd (Z := Z) hx hb d_H_level_20 h, List.forall_mem_cons.mpr ⟨fun S h => bs_istore (Z := Z) hx hb d_H_level_21 h, List.forall_mem_cons.mpr ⟨fun S h => bs_iload (Z := Z) hx hb d_H_level_23 h, List.forall_mem_cons.mpr ⟨fun S h => bs_iload_n (Z := Z) hx hb rfl d_H_level_25 h, List.forall_mem_cons.mpr ⟨fun S h => bs_icmp_gt (Z := Z) hx hb d_H_level_26 (by decide) h, List.forall_mem_cons.mpr ⟨fun S h => bs_iconst (Z := Z) hx hb (by decide) d_H_level_29 h, List.forall_mem_cons.mpr ⟨fun S h => bs_istore (Z := Z) hx hb d_H_level_30 h, List.forall_mem_cons.mpr ⟨fun S h => bs_iload (Z := Z) hx hb d_H_level_32 h, List.forall_mem_cons.mpr ⟨fun S h => bs_bipush (Z := Z) hx hb (by decide) d_H_level_34 h, List.forall_mem_cons.mpr ⟨fun S h => bs_icmp_ge (Z := Z) hx hb d_H_level_36 (by decide) h, List.forall_mem_cons.mpr ⟨fun S h => bs_aload_n (Z := Z) hx hb rfl d_H_level_39 h, List.forall_mem_cons.mpr ⟨fun S h => bs_gR (Z := Z) (C := R_H) (T := F_H) (N := 5) (t := 3) (j := 0) hx hb hK hts (fun w h => List.mem_cons_of_mem _ (iw_H w h)) hown rfl rfl (by decide) (hts _ (List.mem_cons_of_mem _ wd_224)) (fun _ h => h) rfl rfl rfl d_H_level_40 h, List.forall_mem_cons.mpr ⟨fun S h => bs_iload (Z := Z) hx hb d_H_level_43 h, List.forall_mem_cons.mpr ⟨fun S h => bs_Rald (Z := Z) hx hb ha5 d_H_level_45 h, List.forall_mem_cons.mpr ⟨fun S h => bs_iload (Z := Z) hx hb d_H_level_46 h, List.forall_mem_cons.mpr ⟨fun S h => bs_callV (Z := Z) (C := R_B) hBg hbs hB X0 hK (cn_B_isDueAt htr (d + 31)) (cl_B_isDueAt _ _ hw) (hts _ (List.mem_cons_of_mem _ wd_642)) (hts _ (List.mem_cons_of_mem _ wd_643)) (hts _ (List.mem_cons_of_mem _ wd_644)) rfl rfl rfl rfl rfl (Nat.le_refl _) (Nat.le_refl _) d_H_level_48 (bs_out htab hlocks) h, List.forall_mem_cons.mpr ⟨fun S h => bs_if_eq (Z := Z) hx hb d_H_level_51 (by decide) h, List.forall_mem_cons.mpr ⟨fun S h => bs_aload_n (Z := Z) hx hb rfl d_H_level_54 h, List.forall_mem_cons.mpr ⟨fun S h => bs_aload_n (Z := Z) hx hb rfl d_H_level_55 h, List.forall_mem_cons.mpr ⟨fun S h => bs_gR (Z := Z) (C := R_H) (T := F_H) (N := 5) (t := 3) (j := 0) hx hb hK hts (fun w h => List.mem_cons_of_mem _ (iw_H w h)) hown rfl rfl (by decide) (hts _ (List.mem_cons_of_mem _ wd_224)) (fun _ h => h) rfl rfl rfl d_H_level_56 h, List.forall_mem_cons.mpr ⟨fun S h => bs_iload (Z := Z) hx hb d_H_level_59 h, List.forall_mem_cons.mpr ⟨fun S h => bs_Rald (Z := Z) hx hb ha5 d_H_level_61 h, List.forall_mem_cons.mpr ⟨fun S h => bs_callV (Z := Z) (C := R_H) hBg hbs hB X0 hK (cn_H_activate htr (d + 0)) (cl_H_activate _ _ hw) (hts _ (List.mem_cons_of_mem _ wd_293)) (hts _ (List.mem_cons_of_mem _ wd_295)) (hts _ (List.mem_cons_of_mem _ ws_5)) rfl rfl rfl rfl rfl (Nat.le_refl _) (Nat.le_refl _) d_H_level_62 (bs_out htab hlocks) h, List.forall_mem_cons.mpr ⟨fun S h => bs_getst (Z := Z) hx hb (by decide) (hen 1 (by decide) (by decide)) hown (hts _ (List.mem_cons_of_mem _ wd_356)) (fun _ h => h) d_H_level_65 h, List.forall_mem_cons.mpr ⟨fun S h => bs_acmp_ne (Z := Z) hx hb hinj d_H_level_68 (by decide) h, List.forall_mem_cons.mpr ⟨fun S h => bs_iinc (Z := Z) hx hb (by decide) d_H_level_71 h, fun _ h => absurd h List.not_mem_nil⟩⟩⟩⟩⟩⟩⟩⟩⟩⟩⟩⟩⟩⟩⟩⟩⟩⟩⟩⟩⟩⟩⟩⟩⟩⟩⟩⟩⟩⟩⟩⟩⟩⟩⟩⟩⟩⟩⟩⟩
abbrev c_B_leave : ByteArray := prog_2_method_7_code
def y_B_leave : MethodName := ⟨"BundleHall$Bundle", "leave", "()V"⟩
theorem d_B_leave_0 : decode c_B_leave 0 = .ok (.aload_n 0, 1) := by decide +kernel
theorem d_B_leave_1 : decode c_B_leave 1 = .ok (.getfield 21, 3) := by decide +kernel
theorem d_B_leave_4 : decode c_B_leave 4 = .ok (.invokevirtual 54, 3) := by decide +kernel
theorem d_B_leave_7 : decode c_B_leave 7 = .ok (.aload_n 0, 1) := by decide +kernel
theorem d_B_leave_8 : decode c_B_leave 8 = .ok (.invokevirtual 60, 3) := by decide +kernel
theorem d_B_leave_11 : decode c_B_leave 11 = .ok (.aload_n 0, 1) := by decide +kernel
theorem d_B_leave_12 : decode c_B_leave 12 = .ok (.iconst 0, 1) := by decide +kernel
theorem d_B_leave_13 : decode c_B_leave 13 = .ok (.putfield 38, 3) := by decide +kernel
theorem d_B_leave_16 : decode c_B_leave 16 = .ok (.aload_n 0, 1) := by decide +kernel
theorem d_B_leave_17 : decode c_B_leave 17 = .ok (.iconst 0, 1) := by decide +kernel
theorem d_B_leave_18 : decode c_B_leave 18 = .ok (.putfield 35, 3) := by decide +kernel
theorem d_B_leave_21 : decode c_B_leave 21 = .ok (.return_, 1) := by decide +kernel
def T_B_leave_0 : List (Nat × bh_Op) := [(0, bo_ald 1 0),
  (1, bo_gR 4 5 1 7),
  (4, bo_callV 7 1 0 0 7 F_F_clear),
  (7, bo_ald 8 0),
  (8, bo_callV 11 1 0 0 5 F_B_beUnresolved),
  (11, bo_ald 12 0),
  (12, bo_st 13 (bg_push (.inl (.int 0)))),
  (13, bo_pZ 16 5 7),
  (16, bo_ald 17 0),
  (17, bo_st 18 (bg_push (.inl (.int 0)))),
  (18, bo_pI 21 5 3),
  (21, bo_vret 0)]
def T_B_leave : List (Nat × bh_Op) := T_B_leave_0
set_option maxRecDepth 20000 in
theorem mT_B_leave_0 : ∀ q ∈ T_B_leave_0, bh_mono q.2 := List.forall_mem_cons.mpr ⟨bo_ald_m _ _, List.forall_mem_cons.mpr ⟨bo_gR_m _ _ _ _, List.forall_mem_cons.mpr ⟨bo_callV_m (mF_F_clear) _ _ _ _ _, List.forall_mem_cons.mpr ⟨bo_ald_m _ _, List.forall_mem_cons.mpr ⟨bo_callV_m (mF_B_beUnresolved) _ _ _ _ _, List.forall_mem_cons.mpr ⟨bo_ald_m _ _, List.forall_mem_cons.mpr ⟨bo_st_mono (bg_push_m _), List.forall_mem_cons.mpr ⟨bo_pZ_m _ _ _, List.forall_mem_cons.mpr ⟨bo_ald_m _ _, List.forall_mem_cons.mpr ⟨bo_st_mono (bg_push_m _), List.forall_mem_cons.mpr ⟨bo_pI_m _ _ _, List.forall_mem_cons.mpr ⟨bo_vret_m _, fun _ h => absurd h List.not_mem_nil⟩⟩⟩⟩⟩⟩⟩⟩⟩⟩⟩⟩
theorem m_B_leave : ∀ pc, bh_mono (bh_tb (T_B_leave) pc) := bh_tb_m mT_B_leave_0
def F_B_leave : bh_Fn := bh_fn 1 (bh_tb T_B_leave)
theorem mF_B_leave : bh_monoF F_B_leave := bh_fn_m m_B_leave
theorem cl_B_leave {s : State} {args : Array Value} (d B : Nat) (hts : ∀ w ∈ bh_ws, w.before args s = true) : bh_Cal (bh_rm (d + 1) B) s y_B_leave 1 (.code y_B_leave c_B_leave 1 none :: bh_ws) (bh_rm d 0) 0 0 := bh_cal d B hts wd_660 wd_2 (by decide) (by decide +kernel)
set_option maxHeartbeats 4000000 in
set_option maxRecDepth 100000 in
theorem cn_B_leave {l : Launch} {G : bh_G} {base sb L : Nat} {xs : Nat → Int32} (htr : l.stackTraces = false) (d : Nat) : bh_Con l G base (bh_Bg G base sb L xs) y_B_leave (.code y_B_leave c_B_leave 1 none :: bh_ws) (bh_rm (d + 3) 0) 0 false F_B_leave := by
  refine bh_method (cc := c_B_leave) (ret := none) (by decide +kernel) rfl ?_
  intro p e s m args below meth c ad0 M0 Z X0 hr hlocks hname htab hbs hB
  obtain ⟨hx, hb, hml, hown, hts⟩ := id X0
  have hw : ∀ w ∈ bh_ws, w.before args s = true := fun w h => hts w (List.mem_cons_of_mem _ h)
  have hBg := bh_BgK (G := G) (base := base) (sb := sb) (L := L) (xs := xs)
  obtain ⟨hK, hAr, hen, hinj, hu1, hu2, hstr, hX, hsb, hsc, hxw, hao, hnc⟩ := id hB
  obtain ⟨ha1, ha2, ha3, ha4, ha5, ha6, ha0⟩ := bh_arr hAr
  exact List.forall_mem_cons.mpr ⟨fun S h => bs_aload_n (Z := Z) hx hb rfl d_B_leave_0 h, List.forall_mem_cons.mpr ⟨fun S h => bs_gR (Z := Z) (C := R_B) (T := F_B) (N := 10) (t := 5) (j := 1) hx hb hK hts (fun w h => List.mem_cons_of_mem _ (iw_B w h)) hown rfl rfl (by decide) (hts _ (List.mem_cons_of_mem _ wd_88)) (fun _ h => h) rfl rfl rfl d_B_leave_1 h, List.forall_mem_cons.mpr ⟨fun S h => bs_callV (Z := Z) (C := R_F) hBg hbs hB X0 hK (cn_F_clear htr (d + 0)) (cl_F_clear _ _ hw) (hts _ (List.mem_cons_of_mem _ wd_503)) (hts _ (List.mem_cons_of_mem _ wd_504)) (hts _ (List.mem_cons_of_mem _ wd_505)) rfl rfl rfl rfl rfl (Nat.le_refl _) (Nat.le_refl _) d_B_leave_4 (bs_out htab hlocks) h, List.forall_mem_cons.mpr ⟨fun S h => bs_aload_n (Z := Z) hx hb rfl d_B_leave_7 h, List.forall_mem_cons.mpr ⟨fun S h => bs_callV (Z := Z) (C := R_B) hBg hbs hB X0 hK (cn_B_beUnresolved htr (d + 0)) (cl_B_beUnresolved _ _ hw) (hts _ (List.mem_cons_of_mem _ wd_507)) (hts _ (List.mem_cons_of_mem _ wd_290)) (hts _ (List.mem_cons_of_mem _ wd_291)) rfl rfl rfl rfl rfl (Nat.le_refl _) (Nat.le_refl _) d_B_leave_8 (bs_out htab hlocks) h, List.forall_mem_cons.mpr ⟨fun S h => bs_aload_n (Z := Z) hx hb rfl d_B_leave_11 h, List.forall_mem_cons.mpr ⟨fun S h => bs_iconst (Z := Z) hx hb (by decide) d_B_leave_12 h, List.forall_mem_cons.mpr ⟨fun S h => bs_pZ (Z := Z) (C := R_B) (T := F_B) (N := 10) (t := 5) (j := 7) hx hb hK hts (fun w h => List.mem_cons_of_mem _ (iw_B w h)) hown rfl rfl (by decide) (hts _ (List.mem_cons_of_mem _ wd_103)) (fun _ h => h) rfl rfl t_B t_B_ok n_B rfl (by decide +kernel) rfl d_B_leave_13 h, List.forall_mem_cons.mpr ⟨fun S h => bs_aload_n (Z := Z) hx hb rfl d_B_leave_16 h, List.forall_mem_cons.mpr ⟨fun S h => bs_iconst (Z := Z) hx hb (by decide) d_B_leave_17 h, List.forall_mem_cons.mpr ⟨fun S h => bs_pI (Z := Z) (C := R_B) (T := F_B) (N := 10) (t := 5) (j := 3) hx hb hK hts (fun w h => List.mem_cons_of_mem _ (iw_B w h)) hown rfl rfl (by decide) (hts _ (List.mem_cons_of_mem _ wd_94)) (fun _ h => h) rfl rfl t_B t_B_ok n_B rfl (by decide +kernel) rfl d_B_leave_18 h, List.forall_mem_cons.mpr ⟨fun S h => bs_vret (Z := Z) hx hb hr hlocks d_B_leave_21 h, fun _ h => absurd h List.not_mem_nil⟩⟩⟩⟩⟩⟩⟩⟩⟩⟩⟩⟩
abbrev c_B_wiresTo : ByteArray := prog_2_method_8_code
def y_B_wiresTo : MethodName := ⟨"BundleHall$Bundle", "wiresTo", "(I)I"⟩
theorem d_B_wiresTo_0 : decode c_B_wiresTo 0 = .ok (.iconst 0, 1) := by decide +kernel
theorem d_B_wiresTo_1 : decode c_B_wiresTo 1 = .ok (.istore_n 2, 1) := by decide +kernel
theorem d_B_wiresTo_2 : decode c_B_wiresTo 2 = .ok (.iconst 0, 1) := by decide +kernel
theorem d_B_wiresTo_3 : decode c_B_wiresTo 3 = .ok (.istore_n 3, 1) := by decide +kernel
theorem d_B_wiresTo_4 : decode c_B_wiresTo 4 = .ok (.iload_n 3, 1) := by decide +kernel
theorem d_B_wiresTo_5 : decode c_B_wiresTo 5 = .ok (.iconst 3, 1) := by decide +kernel
theorem d_B_wiresTo_6 : decode c_B_wiresTo 6 = .ok (.if_icmp .ge 35, 3) := by decide +kernel
theorem d_B_wiresTo_9 : decode c_B_wiresTo 9 = .ok (.aload_n 0, 1) := by decide +kernel
theorem d_B_wiresTo_10 : decode c_B_wiresTo 10 = .ok (.getfield 25, 3) := by decide +kernel
theorem d_B_wiresTo_13 : decode c_B_wiresTo 13 = .ok (.iload_n 3, 1) := by decide +kernel
theorem d_B_wiresTo_14 : decode c_B_wiresTo 14 = .ok (.iaload, 1) := by decide +kernel
theorem d_B_wiresTo_15 : decode c_B_wiresTo 15 = .ok (.iconst (-1), 1) := by decide +kernel
theorem d_B_wiresTo_16 : decode c_B_wiresTo 16 = .ok (.if_icmp .eq 19, 3) := by decide +kernel
theorem d_B_wiresTo_19 : decode c_B_wiresTo 19 = .ok (.aload_n 0, 1) := by decide +kernel
theorem d_B_wiresTo_20 : decode c_B_wiresTo 20 = .ok (.getfield 25, 3) := by decide +kernel
theorem d_B_wiresTo_23 : decode c_B_wiresTo 23 = .ok (.iload_n 3, 1) := by decide +kernel
theorem d_B_wiresTo_24 : decode c_B_wiresTo 24 = .ok (.iaload, 1) := by decide +kernel
theorem d_B_wiresTo_25 : decode c_B_wiresTo 25 = .ok (.invokestatic 63, 3) := by decide +kernel
theorem d_B_wiresTo_28 : decode c_B_wiresTo 28 = .ok (.iload_n 1, 1) := by decide +kernel
theorem d_B_wiresTo_29 : decode c_B_wiresTo 29 = .ok (.if_icmp .ne 6, 3) := by decide +kernel
theorem d_B_wiresTo_32 : decode c_B_wiresTo 32 = .ok (.iinc 2 1, 3) := by decide +kernel
theorem d_B_wiresTo_35 : decode c_B_wiresTo 35 = .ok (.iinc 3 1, 3) := by decide +kernel
theorem d_B_wiresTo_38 : decode c_B_wiresTo 38 = .ok (.goto (-34), 3) := by decide +kernel
theorem d_B_wiresTo_41 : decode c_B_wiresTo 41 = .ok (.iload_n 2, 1) := by decide +kernel
theorem d_B_wiresTo_42 : decode c_B_wiresTo 42 = .ok (.ireturn, 1) := by decide +kernel
def T_B_wiresTo_0 : List (Nat × bh_Op) := [(0, bo_st 1 (bg_push (.inl (.int 0)))),
  (1, bo_ist 2 2),
  (2, bo_st 3 (bg_push (.inl (.int 0)))),
  (3, bo_ist 4 3),
  (4, bo_ild 5 3),
  (5, bo_st 6 (bg_push (.inl (.int 3)))),
  (6, bo_if2 9 41 (fun x y => y ≤ x)),
  (9, bo_ald 10 0),
  (10, bo_gR 13 5 2 6),
  (13, bo_ild 14 3),
  (14, bo_Iald bh_ak bh_al 15),
  (15, bo_st 16 (bg_push (.inl (.int (-1))))),
  (16, bo_if2 19 35 (fun x y => x = y)),
  (19, bo_ald 20 0),
  (20, bo_gR 23 5 2 6),
  (23, bo_ild 24 3),
  (24, bo_Iald bh_ak bh_al 25),
  (25, bo_callS 28 1 0 0 F_H_ownerOf),
  (28, bo_ild 29 1),
  (29, bo_if2 32 35 (fun x y => ¬ x = y)),
  (32, bo_inc 35 2 1),
  (35, bo_inc 38 3 1),
  (38, bo_go 4),
  (41, bo_ild 42 2),
  (42, bo_iret 0)]
def T_B_wiresTo : List (Nat × bh_Op) := T_B_wiresTo_0
set_option maxRecDepth 20000 in
theorem mT_B_wiresTo_0 : ∀ q ∈ T_B_wiresTo_0, bh_mono q.2 := List.forall_mem_cons.mpr ⟨bo_st_mono (bg_push_m _), List.forall_mem_cons.mpr ⟨bo_ist_m _ _, List.forall_mem_cons.mpr ⟨bo_st_mono (bg_push_m _), List.forall_mem_cons.mpr ⟨bo_ist_m _ _, List.forall_mem_cons.mpr ⟨bo_ild_m _ _, List.forall_mem_cons.mpr ⟨bo_st_mono (bg_push_m _), List.forall_mem_cons.mpr ⟨bo_if2_m _ _ _, List.forall_mem_cons.mpr ⟨bo_ald_m _ _, List.forall_mem_cons.mpr ⟨bo_gR_m _ _ _ _, List.forall_mem_cons.mpr ⟨bo_ild_m _ _, List.forall_mem_cons.mpr ⟨bo_Iald_m _ _ _, List.forall_mem_cons.mpr ⟨bo_st_mono (bg_push_m _), List.forall_mem_cons.mpr ⟨bo_if2_m _ _ _, List.forall_mem_cons.mpr ⟨bo_ald_m _ _, List.forall_mem_cons.mpr ⟨bo_gR_m _ _ _ _, List.forall_mem_cons.mpr ⟨bo_ild_m _ _, List.forall_mem_cons.mpr ⟨bo_Iald_m _ _ _, List.forall_mem_cons.mpr ⟨bo_callS_m (mF_H_ownerOf) _ _ _ _, List.forall_mem_cons.mpr ⟨bo_ild_m _ _, List.forall_mem_cons.mpr ⟨bo_if2_m _ _ _, List.forall_mem_cons.mpr ⟨bo_inc_m _ _ _, List.forall_mem_cons.mpr ⟨bo_inc_m _ _ _, List.forall_mem_cons.mpr ⟨bo_go_m _, List.forall_mem_cons.mpr ⟨bo_ild_m _ _, List.forall_mem_cons.mpr ⟨bo_iret_m _, fun _ h => absurd h List.not_mem_nil⟩⟩⟩⟩⟩⟩⟩⟩⟩⟩⟩⟩⟩⟩⟩⟩⟩⟩⟩⟩⟩⟩⟩⟩⟩
theorem m_B_wiresTo : ∀ pc, bh_mono (bh_tb (T_B_wiresTo) pc) := bh_tb_m mT_B_wiresTo_0
def F_B_wiresTo : bh_Fn := bh_fn 4 (bh_tb T_B_wiresTo)
theorem mF_B_wiresTo : bh_monoF F_B_wiresTo := bh_fn_m m_B_wiresTo
theorem cl_B_wiresTo {s : State} {args : Array Value} (d B : Nat) (hts : ∀ w ∈ bh_ws, w.before args s = true) : bh_Cal (bh_rm (d + 1) B) s y_B_wiresTo 4 (.code y_B_wiresTo c_B_wiresTo 4 (some .int) :: bh_ws) (bh_rm d 0) 0 1 := bh_cal d B hts wd_668 wd_2 (by decide) (by decide +kernel)
set_option maxHeartbeats 4000000 in
set_option maxRecDepth 100000 in
theorem cn_B_wiresTo {l : Launch} {G : bh_G} {base sb L : Nat} {xs : Nat → Int32} (htr : l.stackTraces = false) (d : Nat) : bh_Con l G base (bh_Bg G base sb L xs) y_B_wiresTo (.code y_B_wiresTo c_B_wiresTo 4 (some .int) :: bh_ws) (bh_rm (d + 3) 0) 0 false F_B_wiresTo := by
  refine bh_method (cc := c_B_wiresTo) (ret := (some .int)) (by decide +kernel) rfl ?_
  intro p e s m args below meth c ad0 M0 Z X0 hr hlocks hname htab hbs hB
  obtain ⟨hx, hb, hml, hown, hts⟩ := id X0
  have hw : ∀ w ∈ bh_ws, w.before args s = true := fun w h => hts w (List.mem_cons_of_mem _ h)
  have hBg := bh_BgK (G := G) (base := base) (sb := sb) (L := L) (xs := xs)
  obtain ⟨hK, hAr, hen, hinj, hu1, hu2, hstr, hX, hsb, hsc, hxw, hao, hnc⟩ := id hB
  obtain ⟨ha1, ha2, ha3, ha4, ha5, ha6, ha0⟩ := bh_arr hAr
  exact List.forall_mem_cons.mpr ⟨fun S h => bs_iconst (Z := Z) hx hb (by decide) d_B_wiresTo_0 h, List.forall_mem_cons.mpr ⟨fun S h => bs_istore_n (Z := Z) hx hb rfl d_B_wiresTo_1 h, List.forall_mem_cons.mpr ⟨fun S h => bs_iconst (Z := Z) hx hb (by decide) d_B_wiresTo_2 h, List.forall_mem_cons.mpr ⟨fun S h => bs_istore_n (Z := Z) hx hb rfl d_B_wiresTo_3 h, List.forall_mem_cons.mpr ⟨fun S h => bs_iload_n (Z := Z) hx hb rfl d_B_wiresTo_4 h, List.forall_mem_cons.mpr ⟨fun S h => bs_iconst (Z := Z) hx hb (by decide) d_B_wiresTo_5 h, List.forall_mem_cons.mpr ⟨fun S h => bs_icmp_ge (Z := Z) hx hb d_B_wiresTo_6 (by decide) h, List.forall_mem_cons.mpr ⟨fun S h => bs_aload_n (Z := Z) hx hb rfl d_B_wiresTo_9 h, List.forall_mem_cons.mpr ⟨fun S h => bs_gR (Z := Z) (C := R_B) (T := F_B) (N := 10) (t := 5) (j := 2) hx hb hK hts (fun w h => List.mem_cons_of_mem _ (iw_B w h)) hown rfl rfl (by decide) (hts _ (List.mem_cons_of_mem _ wd_91)) (fun _ h => h) rfl rfl rfl d_B_wiresTo_10 h, List.forall_mem_cons.mpr ⟨fun S h => bs_iload_n (Z := Z) hx hb rfl d_B_wiresTo_13 h, List.forall_mem_cons.mpr ⟨fun S h => bs_Iald (Z := Z) hx hb ha1 d_B_wiresTo_14 h, List.forall_mem_cons.mpr ⟨fun S h => bs_iconst (Z := Z) hx hb (by decide) d_B_wiresTo_15 h, List.forall_mem_cons.mpr ⟨fun S h => bs_icmp_eq (Z := Z) hx hb d_B_wiresTo_16 (by decide) h, List.forall_mem_cons.mpr ⟨fun S h => bs_aload_n (Z := Z) hx hb rfl d_B_wiresTo_19 h, List.forall_mem_cons.mpr ⟨fun S h => bs_gR (Z := Z) (C := R_B) (T := F_B) (N := 10) (t := 5) (j := 2) hx hb hK hts (fun w h => List.mem_cons_of_mem _ (iw_B w h)) hown rfl rfl (by decide) (hts _ (List.mem_cons_of_mem _ wd_91)) (fun _ h => h) rfl rfl rfl d_B_wiresTo_20 h, List.forall_mem_cons.mpr ⟨fun S h => bs_iload_n (Z := Z) hx hb rfl d_B_wiresTo_23 h, List.forall_mem_cons.mpr ⟨fun S h => bs_Iald (Z := Z) hx hb ha1 d_B_wiresTo_24 h, List.forall_mem_cons.mpr ⟨fun S h => bs_callSN (Z := Z) hBg hbs hB X0 (cn_H_ownerOf htr (d + 0)) (cl_H_ownerOf _ _ hw) (hxw (.methodLinkNest "BundleHall$Bundle" 63 ⟨"BundleHall", "ownerOf", "(I)I"⟩ "BundleHall") (by decide)) (hts _ (List.mem_cons_of_mem _ wd_257)) (Nat.le_refl _) (Nat.le_refl _) d_B_wiresTo_25 (bs_out htab hlocks) h, List.forall_mem_cons.mpr ⟨fun S h => bs_iload_n (Z := Z) hx hb rfl d_B_wiresTo_28 h, List.forall_mem_cons.mpr ⟨fun S h => bs_icmp_ne (Z := Z) hx hb d_B_wiresTo_29 (by decide) h, List.forall_mem_cons.mpr ⟨fun S h => bs_iinc (Z := Z) hx hb (by decide) d_B_wiresTo_32 h, List.forall_mem_cons.mpr ⟨fun S h => bs_iinc (Z := Z) hx hb (by decide) d_B_wiresTo_35 h, List.forall_mem_cons.mpr ⟨fun S h => bs_goto (Z := Z) hx hb d_B_wiresTo_38 (by decide) h, List.forall_mem_cons.mpr ⟨fun S h => bs_iload_n (Z := Z) hx hb rfl d_B_wiresTo_41 h, List.forall_mem_cons.mpr ⟨fun S h => bs_iret (Z := Z) hx hb hr hlocks d_B_wiresTo_42 h, fun _ h => absurd h List.not_mem_nil⟩⟩⟩⟩⟩⟩⟩⟩⟩⟩⟩⟩⟩⟩⟩⟩⟩⟩⟩⟩⟩⟩⟩⟩⟩
abbrev c_H_wiresOfOthersTo : ByteArray := prog_1_method_40_code
def y_H_wiresOfOthersTo : MethodName := ⟨"BundleHall", "wiresOfOthersTo", "(I)I"⟩
theorem d_H_wiresOfOthersTo_0 : decode c_H_wiresOfOthersTo 0 = .ok (.iconst 0, 1) := by decide +kernel
theorem d_H_wiresOfOthersTo_1 : decode c_H_wiresOfOthersTo 1 = .ok (.istore_n 2, 1) := by decide +kernel
theorem d_H_wiresOfOthersTo_2 : decode c_H_wiresOfOthersTo 2 = .ok (.iconst 0, 1) := by decide +kernel
theorem d_H_wiresOfOthersTo_3 : decode c_H_wiresOfOthersTo 3 = .ok (.istore_n 3, 1) := by decide +kernel
theorem d_H_wiresOfOthersTo_4 : decode c_H_wiresOfOthersTo 4 = .ok (.iload_n 3, 1) := by decide +kernel
theorem d_H_wiresOfOthersTo_5 : decode c_H_wiresOfOthersTo 5 = .ok (.bipush 8, 2) := by decide +kernel
theorem d_H_wiresOfOthersTo_7 : decode c_H_wiresOfOthersTo 7 = .ok (.if_icmp .ge 27, 3) := by decide +kernel
theorem d_H_wiresOfOthersTo_10 : decode c_H_wiresOfOthersTo 10 = .ok (.iload_n 3, 1) := by decide +kernel
theorem d_H_wiresOfOthersTo_11 : decode c_H_wiresOfOthersTo 11 = .ok (.iload_n 1, 1) := by decide +kernel
theorem d_H_wiresOfOthersTo_12 : decode c_H_wiresOfOthersTo 12 = .ok (.if_icmp .eq 16, 3) := by decide +kernel
theorem d_H_wiresOfOthersTo_15 : decode c_H_wiresOfOthersTo 15 = .ok (.iload_n 2, 1) := by decide +kernel
theorem d_H_wiresOfOthersTo_16 : decode c_H_wiresOfOthersTo 16 = .ok (.aload_n 0, 1) := by decide +kernel
theorem d_H_wiresOfOthersTo_17 : decode c_H_wiresOfOthersTo 17 = .ok (.getfield 11, 3) := by decide +kernel
theorem d_H_wiresOfOthersTo_20 : decode c_H_wiresOfOthersTo 20 = .ok (.iload_n 3, 1) := by decide +kernel
theorem d_H_wiresOfOthersTo_21 : decode c_H_wiresOfOthersTo 21 = .ok (.aaload, 1) := by decide +kernel
theorem d_H_wiresOfOthersTo_22 : decode c_H_wiresOfOthersTo 22 = .ok (.iload_n 1, 1) := by decide +kernel
theorem d_H_wiresOfOthersTo_23 : decode c_H_wiresOfOthersTo 23 = .ok (.invokevirtual 344, 3) := by decide +kernel
theorem d_H_wiresOfOthersTo_26 : decode c_H_wiresOfOthersTo 26 = .ok (.iadd, 1) := by decide +kernel
theorem d_H_wiresOfOthersTo_27 : decode c_H_wiresOfOthersTo 27 = .ok (.istore_n 2, 1) := by decide +kernel
theorem d_H_wiresOfOthersTo_28 : decode c_H_wiresOfOthersTo 28 = .ok (.iinc 3 1, 3) := by decide +kernel
theorem d_H_wiresOfOthersTo_31 : decode c_H_wiresOfOthersTo 31 = .ok (.goto (-27), 3) := by decide +kernel
theorem d_H_wiresOfOthersTo_34 : decode c_H_wiresOfOthersTo 34 = .ok (.iload_n 2, 1) := by decide +kernel
theorem d_H_wiresOfOthersTo_35 : decode c_H_wiresOfOthersTo 35 = .ok (.ireturn, 1) := by decide +kernel
def T_H_wiresOfOthersTo_0 : List (Nat × bh_Op) := [(0, bo_st 1 (bg_push (.inl (.int 0)))),
  (1, bo_ist 2 2),
  (2, bo_st 3 (bg_push (.inl (.int 0)))),
  (3, bo_ist 4 3),
  (4, bo_ild 5 3),
  (5, bo_st 7 (bg_push (.inl (.int 8)))),
  (7, bo_if2 10 34 (fun x y => y ≤ x)),
  (10, bo_ild 11 3),
  (11, bo_ild 12 1),
  (12, bo_if2 15 28 (fun x y => x = y)),
  (15, bo_ild 16 2),
  (16, bo_ald 17 0),
  (17, bo_gR 20 3 0 4),
  (20, bo_ild 21 3),
  (21, bo_Rald bh_ak bh_al 22),
  (22, bo_ild 23 1),
  (23, bo_callV 26 2 0 0 5 F_B_wiresTo),
  (26, bo_st 27 (bg_ii (fun x y => x + y))),
  (27, bo_ist 28 2),
  (28, bo_inc 31 3 1),
  (31, bo_go 4),
  (34, bo_ild 35 2),
  (35, bo_iret 0)]
def T_H_wiresOfOthersTo : List (Nat × bh_Op) := T_H_wiresOfOthersTo_0
set_option maxRecDepth 20000 in
theorem mT_H_wiresOfOthersTo_0 : ∀ q ∈ T_H_wiresOfOthersTo_0, bh_mono q.2 := List.forall_mem_cons.mpr ⟨bo_st_mono (bg_push_m _), List.forall_mem_cons.mpr ⟨bo_ist_m _ _, List.forall_mem_cons.mpr ⟨bo_st_mono (bg_push_m _), List.forall_mem_cons.mpr ⟨bo_ist_m _ _, List.forall_mem_cons.mpr ⟨bo_ild_m _ _, List.forall_mem_cons.mpr ⟨bo_st_mono (bg_push_m _), List.forall_mem_cons.mpr ⟨bo_if2_m _ _ _, List.forall_mem_cons.mpr ⟨bo_ild_m _ _, List.forall_mem_cons.mpr ⟨bo_ild_m _ _, List.forall_mem_cons.mpr ⟨bo_if2_m _ _ _, List.forall_mem_cons.mpr ⟨bo_ild_m _ _, List.forall_mem_cons.mpr ⟨bo_ald_m _ _, List.forall_mem_cons.mpr ⟨bo_gR_m _ _ _ _, List.forall_mem_cons.mpr ⟨bo_ild_m _ _, List.forall_mem_cons.mpr ⟨bo_Rald_m _ _ _, List.forall_mem_cons.mpr ⟨bo_ild_m _ _, List.forall_mem_cons.mpr ⟨bo_callV_m (mF_B_wiresTo) _ _ _ _ _, List.forall_mem_cons.mpr ⟨bo_st_mono (bg_ii_m _), List.forall_mem_cons.mpr ⟨bo_ist_m _ _, List.forall_mem_cons.mpr ⟨bo_inc_m _ _ _, List.forall_mem_cons.mpr ⟨bo_go_m _, List.forall_mem_cons.mpr ⟨bo_ild_m _ _, List.forall_mem_cons.mpr ⟨bo_iret_m _, fun _ h => absurd h List.not_mem_nil⟩⟩⟩⟩⟩⟩⟩⟩⟩⟩⟩⟩⟩⟩⟩⟩⟩⟩⟩⟩⟩⟩⟩
theorem m_H_wiresOfOthersTo : ∀ pc, bh_mono (bh_tb (T_H_wiresOfOthersTo) pc) := bh_tb_m mT_H_wiresOfOthersTo_0
def F_H_wiresOfOthersTo : bh_Fn := bh_fn 4 (bh_tb T_H_wiresOfOthersTo)
theorem mF_H_wiresOfOthersTo : bh_monoF F_H_wiresOfOthersTo := bh_fn_m m_H_wiresOfOthersTo
theorem cl_H_wiresOfOthersTo {s : State} {args : Array Value} (d B : Nat) (hts : ∀ w ∈ bh_ws, w.before args s = true) : bh_Cal (bh_rm (d + 1) B) s y_H_wiresOfOthersTo 4 (.code y_H_wiresOfOthersTo c_H_wiresOfOthersTo 4 (some .int) :: bh_ws) (bh_rm d 0) 0 1 := bh_cal d B hts wd_664 wd_1 (by decide) (by decide +kernel)
set_option maxHeartbeats 4000000 in
set_option maxRecDepth 100000 in
theorem cn_H_wiresOfOthersTo {l : Launch} {G : bh_G} {base sb L : Nat} {xs : Nat → Int32} (htr : l.stackTraces = false) (d : Nat) : bh_Con l G base (bh_Bg G base sb L xs) y_H_wiresOfOthersTo (.code y_H_wiresOfOthersTo c_H_wiresOfOthersTo 4 (some .int) :: bh_ws) (bh_rm (d + 4) 0) 0 false F_H_wiresOfOthersTo := by
  refine bh_method (cc := c_H_wiresOfOthersTo) (ret := (some .int)) (by decide +kernel) rfl ?_
  intro p e s m args below meth c ad0 M0 Z X0 hr hlocks hname htab hbs hB
  obtain ⟨hx, hb, hml, hown, hts⟩ := id X0
  have hw : ∀ w ∈ bh_ws, w.before args s = true := fun w h => hts w (List.mem_cons_of_mem _ h)
  have hBg := bh_BgK (G := G) (base := base) (sb := sb) (L := L) (xs := xs)
  obtain ⟨hK, hAr, hen, hinj, hu1, hu2, hstr, hX, hsb, hsc, hxw, hao, hnc⟩ := id hB
  obtain ⟨ha1, ha2, ha3, ha4, ha5, ha6, ha0⟩ := bh_arr hAr
  exact List.forall_mem_cons.mpr ⟨fun S h => bs_iconst (Z := Z) hx hb (by decide) d_H_wiresOfOthersTo_0 h, List.forall_mem_cons.mpr ⟨fun S h => bs_istore_n (Z := Z) hx hb rfl d_H_wiresOfOthersTo_1 h, List.forall_mem_cons.mpr ⟨fun S h => bs_iconst (Z := Z) hx hb (by decide) d_H_wiresOfOthersTo_2 h, List.forall_mem_cons.mpr ⟨fun S h => bs_istore_n (Z := Z) hx hb rfl d_H_wiresOfOthersTo_3 h, List.forall_mem_cons.mpr ⟨fun S h => bs_iload_n (Z := Z) hx hb rfl d_H_wiresOfOthersTo_4 h, List.forall_mem_cons.mpr ⟨fun S h => bs_bipush (Z := Z) hx hb (by decide) d_H_wiresOfOthersTo_5 h, List.forall_mem_cons.mpr ⟨fun S h => bs_icmp_ge (Z := Z) hx hb d_H_wiresOfOthersTo_7 (by decide) h, List.forall_mem_cons.mpr ⟨fun S h => bs_iload_n (Z := Z) hx hb rfl d_H_wiresOfOthersTo_10 h, List.forall_mem_cons.mpr ⟨fun S h => bs_iload_n (Z := Z) hx hb rfl d_H_wiresOfOthersTo_11 h, List.forall_mem_cons.mpr ⟨fun S h => bs_icmp_eq (Z := Z) hx hb d_H_wiresOfOthersTo_12 (by decide) h, List.forall_mem_cons.mpr ⟨fun S h => bs_iload_n (Z := Z) hx hb rfl d_H_wiresOfOthersTo_15 h, List.forall_mem_cons.mpr ⟨fun S h => bs_aload_n (Z := Z) hx hb rfl d_H_wiresOfOthersTo_16 h, List.forall_mem_cons.mpr ⟨fun S h => bs_gR (Z := Z) (C := R_H) (T := F_H) (N := 5) (t := 3) (j := 0) hx hb hK hts (fun w h => List.mem_cons_of_mem _ (iw_H w h)) hown rfl rfl (by decide) (hts _ (List.mem_cons_of_mem _ wd_224)) (fun _ h => h) rfl rfl rfl d_H_wiresOfOthersTo_17 h, List.forall_mem_cons.mpr ⟨fun S h => bs_iload_n (Z := Z) hx hb rfl d_H_wiresOfOthersTo_20 h, List.forall_mem_cons.mpr ⟨fun S h => bs_Rald (Z := Z) hx hb ha5 d_H_wiresOfOthersTo_21 h, List.forall_mem_cons.mpr ⟨fun S h => bs_iload_n (Z := Z) hx hb rfl d_H_wiresOfOthersTo_22 h, List.forall_mem_cons.mpr ⟨fun S h => bs_callV (Z := Z) (C := R_B) hBg hbs hB X0 hK (cn_B_wiresTo htr (d + 0)) (cl_B_wiresTo _ _ hw) (hts _ (List.mem_cons_of_mem _ wd_665)) (hts _ (List.mem_cons_of_mem _ wd_666)) (hts _ (List.mem_cons_of_mem _ wd_667)) rfl rfl rfl rfl rfl (Nat.le_refl _) (Nat.le_refl _) d_H_wiresOfOthersTo_23 (bs_out htab hlocks) h, List.forall_mem_cons.mpr ⟨fun S h => bs_iadd (Z := Z) hx hb d_H_wiresOfOthersTo_26 h, List.forall_mem_cons.mpr ⟨fun S h => bs_istore_n (Z := Z) hx hb rfl d_H_wiresOfOthersTo_27 h, List.forall_mem_cons.mpr ⟨fun S h => bs_iinc (Z := Z) hx hb (by decide) d_H_wiresOfOthersTo_28 h, List.forall_mem_cons.mpr ⟨fun S h => bs_goto (Z := Z) hx hb d_H_wiresOfOthersTo_31 (by decide) h, List.forall_mem_cons.mpr ⟨fun S h => bs_iload_n (Z := Z) hx hb rfl d_H_wiresOfOthersTo_34 h, List.forall_mem_cons.mpr ⟨fun S h => bs_iret (Z := Z) hx hb hr hlocks d_H_wiresOfOthersTo_35 h, fun _ h => absurd h List.not_mem_nil⟩⟩⟩⟩⟩⟩⟩⟩⟩⟩⟩⟩⟩⟩⟩⟩⟩⟩⟩⟩⟩⟩⟩
abbrev c_H_uninstall : ByteArray := prog_1_method_9_code
def y_H_uninstall : MethodName := ⟨"BundleHall", "uninstall", "(I)I"⟩
theorem d_H_uninstall_0 : decode c_H_uninstall 0 = .ok (.iload_n 1, 1) := by decide +kernel
theorem d_H_uninstall_1 : decode c_H_uninstall 1 = .ok (.invokestatic 43, 3) := by decide +kernel
theorem d_H_uninstall_4 : decode c_H_uninstall 4 = .ok (.aload_n 0, 1) := by decide +kernel
theorem d_H_uninstall_5 : decode c_H_uninstall 5 = .ok (.iload_n 1, 1) := by decide +kernel
theorem d_H_uninstall_6 : decode c_H_uninstall 6 = .ok (.invokevirtual 100, 3) := by decide +kernel
theorem d_H_uninstall_9 : decode c_H_uninstall 9 = .ok (.astore_n 2, 1) := by decide +kernel
theorem d_H_uninstall_10 : decode c_H_uninstall 10 = .ok (.aload_n 0, 1) := by decide +kernel
theorem d_H_uninstall_11 : decode c_H_uninstall 11 = .ok (.aload_n 2, 1) := by decide +kernel
theorem d_H_uninstall_12 : decode c_H_uninstall 12 = .ok (.invokevirtual 134, 3) := by decide +kernel
theorem d_H_uninstall_15 : decode c_H_uninstall 15 = .ok (.aload_n 2, 1) := by decide +kernel
theorem d_H_uninstall_16 : decode c_H_uninstall 16 = .ok (.invokevirtual 150, 3) := by decide +kernel
theorem d_H_uninstall_19 : decode c_H_uninstall 19 = .ok (.aload_n 0, 1) := by decide +kernel
theorem d_H_uninstall_20 : decode c_H_uninstall 20 = .ok (.iload_n 1, 1) := by decide +kernel
theorem d_H_uninstall_21 : decode c_H_uninstall 21 = .ok (.invokevirtual 153, 3) := by decide +kernel
theorem d_H_uninstall_24 : decode c_H_uninstall 24 = .ok (.ireturn, 1) := by decide +kernel
def T_H_uninstall_0 : List (Nat × bh_Op) := [(0, bo_ild 1 1),
  (1, bo_callS 4 1 1 2 F_H_checkBundle),
  (4, bo_ald 5 0),
  (5, bo_ild 6 1),
  (6, bo_callV 9 2 1 2 3 F_H_present),
  (9, bo_ast 10 2),
  (10, bo_ald 11 0),
  (11, bo_ald 12 2),
  (12, bo_callV 15 2 0 2 3 F_H_deactivate),
  (15, bo_ald 16 2),
  (16, bo_callV 19 1 0 2 5 F_B_leave),
  (19, bo_ald 20 0),
  (20, bo_ild 21 1),
  (21, bo_callV 24 2 0 2 3 F_H_wiresOfOthersTo),
  (24, bo_iret 2)]
def T_H_uninstall : List (Nat × bh_Op) := T_H_uninstall_0
set_option maxRecDepth 20000 in
theorem mT_H_uninstall_0 : ∀ q ∈ T_H_uninstall_0, bh_mono q.2 := List.forall_mem_cons.mpr ⟨bo_ild_m _ _, List.forall_mem_cons.mpr ⟨bo_callS_m (mF_H_checkBundle) _ _ _ _, List.forall_mem_cons.mpr ⟨bo_ald_m _ _, List.forall_mem_cons.mpr ⟨bo_ild_m _ _, List.forall_mem_cons.mpr ⟨bo_callV_m (mF_H_present) _ _ _ _ _, List.forall_mem_cons.mpr ⟨bo_ast_m _ _, List.forall_mem_cons.mpr ⟨bo_ald_m _ _, List.forall_mem_cons.mpr ⟨bo_ald_m _ _, List.forall_mem_cons.mpr ⟨bo_callV_m (mF_H_deactivate) _ _ _ _ _, List.forall_mem_cons.mpr ⟨bo_ald_m _ _, List.forall_mem_cons.mpr ⟨bo_callV_m (mF_B_leave) _ _ _ _ _, List.forall_mem_cons.mpr ⟨bo_ald_m _ _, List.forall_mem_cons.mpr ⟨bo_ild_m _ _, List.forall_mem_cons.mpr ⟨bo_callV_m (mF_H_wiresOfOthersTo) _ _ _ _ _, List.forall_mem_cons.mpr ⟨bo_iret_m _, fun _ h => absurd h List.not_mem_nil⟩⟩⟩⟩⟩⟩⟩⟩⟩⟩⟩⟩⟩⟩⟩
theorem m_H_uninstall : ∀ pc, bh_mono (bh_tb (T_H_uninstall) pc) := bh_tb_m mT_H_uninstall_0
def F_H_uninstall : bh_Fn := bh_fn 3 (bh_tb T_H_uninstall)
theorem mF_H_uninstall : bh_monoF F_H_uninstall := bh_fn_m m_H_uninstall
theorem cl_H_uninstall {s : State} {args : Array Value} (d B : Nat) (hts : ∀ w ∈ bh_ws, w.before args s = true) : bh_Cal (bh_rm (d + 1) B) s y_H_uninstall 3 (.code y_H_uninstall c_H_uninstall 3 (some .int) :: bh_ws) (bh_rm d 2) 2 1 := bh_cal d B hts wd_656 wd_1 (by decide) (by decide +kernel)
set_option maxHeartbeats 4000000 in
set_option maxRecDepth 100000 in
theorem cn_H_uninstall {l : Launch} {G : bh_G} {base sb L : Nat} {xs : Nat → Int32} (htr : l.stackTraces = false) (d : Nat) : bh_Con l G base (bh_Bg G base sb L xs) y_H_uninstall (.code y_H_uninstall c_H_uninstall 3 (some .int) :: bh_ws) (bh_rm (d + 5) 2) 2 false F_H_uninstall := by
  refine bh_method (cc := c_H_uninstall) (ret := (some .int)) (by decide +kernel) rfl ?_
  intro p e s m args below meth c ad0 M0 Z X0 hr hlocks hname htab hbs hB
  obtain ⟨hx, hb, hml, hown, hts⟩ := id X0
  have hw : ∀ w ∈ bh_ws, w.before args s = true := fun w h => hts w (List.mem_cons_of_mem _ h)
  have hBg := bh_BgK (G := G) (base := base) (sb := sb) (L := L) (xs := xs)
  obtain ⟨hK, hAr, hen, hinj, hu1, hu2, hstr, hX, hsb, hsc, hxw, hao, hnc⟩ := id hB
  obtain ⟨ha1, ha2, ha3, ha4, ha5, ha6, ha0⟩ := bh_arr hAr
  exact List.forall_mem_cons.mpr ⟨fun S h => bs_iload_n (Z := Z) hx hb rfl d_H_uninstall_0 h, List.forall_mem_cons.mpr ⟨fun S h => bs_callS (Z := Z) hBg hbs hB X0 (cn_H_checkBundle htr (d + 2)) (cl_H_checkBundle _ _ hw) (hts _ (List.mem_cons_of_mem _ wd_403)) (hts _ (List.mem_cons_of_mem _ wd_404)) (Nat.le_refl _) (Nat.le_refl _) d_H_uninstall_1 (bs_out htab hlocks) h, List.forall_mem_cons.mpr ⟨fun S h => bs_aload_n (Z := Z) hx hb rfl d_H_uninstall_4 h, List.forall_mem_cons.mpr ⟨fun S h => bs_iload_n (Z := Z) hx hb rfl d_H_uninstall_5 h, List.forall_mem_cons.mpr ⟨fun S h => bs_callV (Z := Z) (C := R_H) hBg hbs hB X0 hK (cn_H_present htr (d + 3)) (cl_H_present _ _ hw) (hts _ (List.mem_cons_of_mem _ wd_525)) (hts _ (List.mem_cons_of_mem _ wd_527)) (hts _ (List.mem_cons_of_mem _ ws_21)) rfl rfl rfl rfl rfl (Nat.le_refl _) (Nat.le_refl _) d_H_uninstall_6 (bs_out htab hlocks) h, List.forall_mem_cons.mpr ⟨fun S h => bs_astore_n (Z := Z) hx hb rfl d_H_uninstall_9 h, List.forall_mem_cons.mpr ⟨fun S h => bs_aload_n (Z := Z) hx hb rfl d_H_uninstall_10 h, List.forall_mem_cons.mpr ⟨fun S h => bs_aload_n (Z := Z) hx hb rfl d_H_uninstall_11 h, List.forall_mem_cons.mpr ⟨fun S h => bs_callV (Z := Z) (C := R_H) hBg hbs hB X0 hK (cn_H_deactivate htr (d + 1)) (cl_H_deactivate _ _ hw) (hts _ (List.mem_cons_of_mem _ wd_269)) (hts _ (List.mem_cons_of_mem _ wd_271)) (hts _ (List.mem_cons_of_mem _ ws_3)) rfl rfl rfl rfl rfl (Nat.le_refl _) (Nat.le_refl _) d_H_uninstall_12 (bs_out htab hlocks) h, List.forall_mem_cons.mpr ⟨fun S h => bs_aload_n (Z := Z) hx hb rfl d_H_uninstall_15 h, List.forall_mem_cons.mpr ⟨fun S h => bs_callV (Z := Z) (C := R_B) hBg hbs hB X0 hK (cn_B_leave htr (d + 1)) (cl_B_leave _ _ hw) (hts _ (List.mem_cons_of_mem _ wd_657)) (hts _ (List.mem_cons_of_mem _ wd_658)) (hts _ (List.mem_cons_of_mem _ wd_659)) rfl rfl rfl rfl rfl (Nat.le_refl _) (Nat.le_refl _) d_H_uninstall_16 (bs_out htab hlocks) h, List.forall_mem_cons.mpr ⟨fun S h => bs_aload_n (Z := Z) hx hb rfl d_H_uninstall_19 h, List.forall_mem_cons.mpr ⟨fun S h => bs_iload_n (Z := Z) hx hb rfl d_H_uninstall_20 h, List.forall_mem_cons.mpr ⟨fun S h => bs_callV (Z := Z) (C := R_H) hBg hbs hB X0 hK (cn_H_wiresOfOthersTo htr (d + 0)) (cl_H_wiresOfOthersTo _ _ hw) (hts _ (List.mem_cons_of_mem _ wd_661)) (hts _ (List.mem_cons_of_mem _ wd_663)) (hts _ (List.mem_cons_of_mem _ ws_23)) rfl rfl rfl rfl rfl (Nat.le_refl _) (Nat.le_refl _) d_H_uninstall_21 (bs_out htab hlocks) h, List.forall_mem_cons.mpr ⟨fun S h => bs_iret (Z := Z) hx hb hr hlocks d_H_uninstall_24 h, fun _ h => absurd h List.not_mem_nil⟩⟩⟩⟩⟩⟩⟩⟩⟩⟩⟩⟩⟩⟩⟩
abbrev c_H_update : ByteArray := prog_1_method_10_code
def y_H_update : MethodName := ⟨"BundleHall", "update", "(I)I"⟩
theorem d_H_update_0 : decode c_H_update 0 = .ok (.iload_n 1, 1) := by decide +kernel
theorem d_H_update_1 : decode c_H_update 1 = .ok (.invokestatic 43, 3) := by decide +kernel
theorem d_H_update_4 : decode c_H_update 4 = .ok (.aload_n 0, 1) := by decide +kernel
theorem d_H_update_5 : decode c_H_update 5 = .ok (.iload_n 1, 1) := by decide +kernel
theorem d_H_update_6 : decode c_H_update 6 = .ok (.invokevirtual 100, 3) := by decide +kernel
theorem d_H_update_9 : decode c_H_update 9 = .ok (.astore_n 2, 1) := by decide +kernel
theorem d_H_update_10 : decode c_H_update 10 = .ok (.aload_n 0, 1) := by decide +kernel
theorem d_H_update_11 : decode c_H_update 11 = .ok (.aload_n 2, 1) := by decide +kernel
theorem d_H_update_12 : decode c_H_update 12 = .ok (.invokevirtual 134, 3) := by decide +kernel
theorem d_H_update_15 : decode c_H_update 15 = .ok (.aload_n 2, 1) := by decide +kernel
theorem d_H_update_16 : decode c_H_update 16 = .ok (.invokevirtual 156, 3) := by decide +kernel
theorem d_H_update_19 : decode c_H_update 19 = .ok (.aload_n 0, 1) := by decide +kernel
theorem d_H_update_20 : decode c_H_update 20 = .ok (.iload_n 1, 1) := by decide +kernel
theorem d_H_update_21 : decode c_H_update 21 = .ok (.invokevirtual 153, 3) := by decide +kernel
theorem d_H_update_24 : decode c_H_update 24 = .ok (.ireturn, 1) := by decide +kernel
def T_H_update_0 : List (Nat × bh_Op) := [(0, bo_ild 1 1),
  (1, bo_callS 4 1 1 2 F_H_checkBundle),
  (4, bo_ald 5 0),
  (5, bo_ild 6 1),
  (6, bo_callV 9 2 1 2 3 F_H_present),
  (9, bo_ast 10 2),
  (10, bo_ald 11 0),
  (11, bo_ald 12 2),
  (12, bo_callV 15 2 0 2 3 F_H_deactivate),
  (15, bo_ald 16 2),
  (16, bo_callV 19 1 0 2 5 F_B_beginNewLife),
  (19, bo_ald 20 0),
  (20, bo_ild 21 1),
  (21, bo_callV 24 2 0 2 3 F_H_wiresOfOthersTo),
  (24, bo_iret 2)]
def T_H_update : List (Nat × bh_Op) := T_H_update_0
set_option maxRecDepth 20000 in
theorem mT_H_update_0 : ∀ q ∈ T_H_update_0, bh_mono q.2 := List.forall_mem_cons.mpr ⟨bo_ild_m _ _, List.forall_mem_cons.mpr ⟨bo_callS_m (mF_H_checkBundle) _ _ _ _, List.forall_mem_cons.mpr ⟨bo_ald_m _ _, List.forall_mem_cons.mpr ⟨bo_ild_m _ _, List.forall_mem_cons.mpr ⟨bo_callV_m (mF_H_present) _ _ _ _ _, List.forall_mem_cons.mpr ⟨bo_ast_m _ _, List.forall_mem_cons.mpr ⟨bo_ald_m _ _, List.forall_mem_cons.mpr ⟨bo_ald_m _ _, List.forall_mem_cons.mpr ⟨bo_callV_m (mF_H_deactivate) _ _ _ _ _, List.forall_mem_cons.mpr ⟨bo_ald_m _ _, List.forall_mem_cons.mpr ⟨bo_callV_m (mF_B_beginNewLife) _ _ _ _ _, List.forall_mem_cons.mpr ⟨bo_ald_m _ _, List.forall_mem_cons.mpr ⟨bo_ild_m _ _, List.forall_mem_cons.mpr ⟨bo_callV_m (mF_H_wiresOfOthersTo) _ _ _ _ _, List.forall_mem_cons.mpr ⟨bo_iret_m _, fun _ h => absurd h List.not_mem_nil⟩⟩⟩⟩⟩⟩⟩⟩⟩⟩⟩⟩⟩⟩⟩
theorem m_H_update : ∀ pc, bh_mono (bh_tb (T_H_update) pc) := bh_tb_m mT_H_update_0
def F_H_update : bh_Fn := bh_fn 3 (bh_tb T_H_update)
theorem mF_H_update : bh_monoF F_H_update := bh_fn_m m_H_update
theorem cl_H_update {s : State} {args : Array Value} (d B : Nat) (hts : ∀ w ∈ bh_ws, w.before args s = true) : bh_Cal (bh_rm (d + 1) B) s y_H_update 3 (.code y_H_update c_H_update 3 (some .int) :: bh_ws) (bh_rm d 2) 2 1 := bh_cal d B hts wd_676 wd_1 (by decide) (by decide +kernel)
set_option maxHeartbeats 4000000 in
set_option maxRecDepth 100000 in
theorem cn_H_update {l : Launch} {G : bh_G} {base sb L : Nat} {xs : Nat → Int32} (htr : l.stackTraces = false) (d : Nat) : bh_Con l G base (bh_Bg G base sb L xs) y_H_update (.code y_H_update c_H_update 3 (some .int) :: bh_ws) (bh_rm (d + 5) 2) 2 false F_H_update := by
  refine bh_method (cc := c_H_update) (ret := (some .int)) (by decide +kernel) rfl ?_
  intro p e s m args below meth c ad0 M0 Z X0 hr hlocks hname htab hbs hB
  obtain ⟨hx, hb, hml, hown, hts⟩ := id X0
  have hw : ∀ w ∈ bh_ws, w.before args s = true := fun w h => hts w (List.mem_cons_of_mem _ h)
  have hBg := bh_BgK (G := G) (base := base) (sb := sb) (L := L) (xs := xs)
  obtain ⟨hK, hAr, hen, hinj, hu1, hu2, hstr, hX, hsb, hsc, hxw, hao, hnc⟩ := id hB
  obtain ⟨ha1, ha2, ha3, ha4, ha5, ha6, ha0⟩ := bh_arr hAr
  exact List.forall_mem_cons.mpr ⟨fun S h => bs_iload_n (Z := Z) hx hb rfl d_H_update_0 h, List.forall_mem_cons.mpr ⟨fun S h => bs_callS (Z := Z) hBg hbs hB X0 (cn_H_checkBundle htr (d + 2)) (cl_H_checkBundle _ _ hw) (hts _ (List.mem_cons_of_mem _ wd_403)) (hts _ (List.mem_cons_of_mem _ wd_404)) (Nat.le_refl _) (Nat.le_refl _) d_H_update_1 (bs_out htab hlocks) h, List.forall_mem_cons.mpr ⟨fun S h => bs_aload_n (Z := Z) hx hb rfl d_H_update_4 h, List.forall_mem_cons.mpr ⟨fun S h => bs_iload_n (Z := Z) hx hb rfl d_H_update_5 h, List.forall_mem_cons.mpr ⟨fun S h => bs_callV (Z := Z) (C := R_H) hBg hbs hB X0 hK (cn_H_present htr (d + 3)) (cl_H_present _ _ hw) (hts _ (List.mem_cons_of_mem _ wd_525)) (hts _ (List.mem_cons_of_mem _ wd_527)) (hts _ (List.mem_cons_of_mem _ ws_21)) rfl rfl rfl rfl rfl (Nat.le_refl _) (Nat.le_refl _) d_H_update_6 (bs_out htab hlocks) h, List.forall_mem_cons.mpr ⟨fun S h => bs_astore_n (Z := Z) hx hb rfl d_H_update_9 h, List.forall_mem_cons.mpr ⟨fun S h => bs_aload_n (Z := Z) hx hb rfl d_H_update_10 h, List.forall_mem_cons.mpr ⟨fun S h => bs_aload_n (Z := Z) hx hb rfl d_H_update_11 h, List.forall_mem_cons.mpr ⟨fun S h => bs_callV (Z := Z) (C := R_H) hBg hbs hB X0 hK (cn_H_deactivate htr (d + 1)) (cl_H_deactivate _ _ hw) (hts _ (List.mem_cons_of_mem _ wd_269)) (hts _ (List.mem_cons_of_mem _ wd_271)) (hts _ (List.mem_cons_of_mem _ ws_3)) rfl rfl rfl rfl rfl (Nat.le_refl _) (Nat.le_refl _) d_H_update_12 (bs_out htab hlocks) h, List.forall_mem_cons.mpr ⟨fun S h => bs_aload_n (Z := Z) hx hb rfl d_H_update_15 h, List.forall_mem_cons.mpr ⟨fun S h => bs_callV (Z := Z) (C := R_B) hBg hbs hB X0 hK (cn_B_beginNewLife htr (d + 1)) (cl_B_beginNewLife _ _ hw) (hts _ (List.mem_cons_of_mem _ wd_677)) (hts _ (List.mem_cons_of_mem _ wd_500)) (hts _ (List.mem_cons_of_mem _ wd_501)) rfl rfl rfl rfl rfl (Nat.le_refl _) (Nat.le_refl _) d_H_update_16 (bs_out htab hlocks) h, List.forall_mem_cons.mpr ⟨fun S h => bs_aload_n (Z := Z) hx hb rfl d_H_update_19 h, List.forall_mem_cons.mpr ⟨fun S h => bs_iload_n (Z := Z) hx hb rfl d_H_update_20 h, List.forall_mem_cons.mpr ⟨fun S h => bs_callV (Z := Z) (C := R_H) hBg hbs hB X0 hK (cn_H_wiresOfOthersTo htr (d + 0)) (cl_H_wiresOfOthersTo _ _ hw) (hts _ (List.mem_cons_of_mem _ wd_661)) (hts _ (List.mem_cons_of_mem _ wd_663)) (hts _ (List.mem_cons_of_mem _ ws_23)) rfl rfl rfl rfl rfl (Nat.le_refl _) (Nat.le_refl _) d_H_update_21 (bs_out htab hlocks) h, List.forall_mem_cons.mpr ⟨fun S h => bs_iret (Z := Z) hx hb hr hlocks d_H_update_24 h, fun _ h => absurd h List.not_mem_nil⟩⟩⟩⟩⟩⟩⟩⟩⟩⟩⟩⟩⟩⟩⟩
abbrev c_H_checkRank : ByteArray := prog_1_method_23_code
def y_H_checkRank : MethodName := ⟨"BundleHall", "checkRank", "(D)V"⟩
theorem d_H_checkRank_0 : decode c_H_checkRank 0 = .ok (.dload_n 0, 1) := by decide +kernel
theorem d_H_checkRank_1 : decode c_H_checkRank 1 = .ok (.ldc2_w 271, 3) := by decide +kernel
theorem d_H_checkRank_4 : decode c_H_checkRank 4 = .ok (.dcmp .l, 1) := by decide +kernel
theorem d_H_checkRank_5 : decode c_H_checkRank 5 = .ok (.ifCond .lt 11, 3) := by decide +kernel
theorem d_H_checkRank_8 : decode c_H_checkRank 8 = .ok (.dload_n 0, 1) := by decide +kernel
theorem d_H_checkRank_9 : decode c_H_checkRank 9 = .ok (.ldc2_w 273, 3) := by decide +kernel
theorem d_H_checkRank_12 : decode c_H_checkRank 12 = .ok (.dcmp .g, 1) := by decide +kernel
theorem d_H_checkRank_13 : decode c_H_checkRank 13 = .ok (.ifCond .le 14, 3) := by decide +kernel
theorem d_H_checkRank_16 : decode c_H_checkRank 16 = .ok (.new 264, 3) := by decide +kernel
theorem d_H_checkRank_19 : decode c_H_checkRank 19 = .ok (.dup, 1) := by decide +kernel
theorem d_H_checkRank_20 : decode c_H_checkRank 20 = .ok (.ldc_w 275, 3) := by decide +kernel
theorem d_H_checkRank_23 : decode c_H_checkRank 23 = .ok (.invokespecial 268, 3) := by decide +kernel
theorem d_H_checkRank_26 : decode c_H_checkRank 26 = .ok (.athrow, 1) := by decide +kernel
theorem d_H_checkRank_27 : decode c_H_checkRank 27 = .ok (.return_, 1) := by decide +kernel
def T_H_checkRank_0 : List (Nat × bh_Op) := [(0, bo_dld 1 0),
  (1, bo_st 4 (bg_push (.inl (.double 13875379345695965184)))),
  (4, bo_st 5 (bg_dc (fun x y => Op.cmpValue (FP.dcmp x y) .l))),
  (5, bo_if1 8 16 (fun x => x < 0)),
  (8, bo_dld 9 0),
  (9, bo_st 12 (bg_push (.inl (.double 4652007308841189376)))),
  (12, bo_st 13 (bg_dc (fun x y => Op.cmpValue (FP.dcmp x y) .g))),
  (13, bo_if1 16 27 (fun x => x ≤ 0)),
  (16, bo_thr 1 "java/lang/IllegalArgumentException"),
  (27, bo_vret 1)]
def T_H_checkRank : List (Nat × bh_Op) := T_H_checkRank_0
set_option maxRecDepth 20000 in
theorem mT_H_checkRank_0 : ∀ q ∈ T_H_checkRank_0, bh_mono q.2 := List.forall_mem_cons.mpr ⟨bo_dld_m _ _, List.forall_mem_cons.mpr ⟨bo_st_mono (bg_push_m _), List.forall_mem_cons.mpr ⟨bo_st_mono (bg_dc_m _), List.forall_mem_cons.mpr ⟨bo_if1_m _ _ _, List.forall_mem_cons.mpr ⟨bo_dld_m _ _, List.forall_mem_cons.mpr ⟨bo_st_mono (bg_push_m _), List.forall_mem_cons.mpr ⟨bo_st_mono (bg_dc_m _), List.forall_mem_cons.mpr ⟨bo_if1_m _ _ _, List.forall_mem_cons.mpr ⟨bo_thr_m _ _, List.forall_mem_cons.mpr ⟨bo_vret_m _, fun _ h => absurd h List.not_mem_nil⟩⟩⟩⟩⟩⟩⟩⟩⟩⟩
theorem m_H_checkRank : ∀ pc, bh_mono (bh_tb (T_H_checkRank) pc) := bh_tb_m mT_H_checkRank_0
def F_H_checkRank : bh_Fn := bh_fn 2 (bh_tb T_H_checkRank)
theorem mF_H_checkRank : bh_monoF F_H_checkRank := bh_fn_m m_H_checkRank
theorem cl_H_checkRank {s : State} {args : Array Value} (d B : Nat) (hts : ∀ w ∈ bh_ws, w.before args s = true) : bh_Cal (bh_rm (d + 1) B) s y_H_checkRank 2 (.code y_H_checkRank c_H_checkRank 2 none :: bh_ws) (bh_rm d 1) 1 1 := bh_cal d B hts wd_687 wd_1 (by decide) (by decide +kernel)
set_option maxHeartbeats 4000000 in
set_option maxRecDepth 100000 in
theorem cn_H_checkRank {l : Launch} {G : bh_G} {base sb L : Nat} {xs : Nat → Int32} (htr : l.stackTraces = false) (d : Nat) : bh_Con l G base (bh_Bg G base sb L xs) y_H_checkRank (.code y_H_checkRank c_H_checkRank 2 none :: bh_ws) (bh_rm (d + 1) 1) 1 false F_H_checkRank := by
  refine bh_method (cc := c_H_checkRank) (ret := none) (by decide +kernel) rfl ?_
  intro p e s m args below meth c ad0 M0 Z X0 hr hlocks hname htab hbs hB
  obtain ⟨hx, hb, hml, hown, hts⟩ := id X0
  have hw : ∀ w ∈ bh_ws, w.before args s = true := fun w h => hts w (List.mem_cons_of_mem _ h)
  have hBg := bh_BgK (G := G) (base := base) (sb := sb) (L := L) (xs := xs)
  obtain ⟨hK, hAr, hen, hinj, hu1, hu2, hstr, hX, hsb, hsc, hxw, hao, hnc⟩ := id hB
  obtain ⟨ha1, ha2, ha3, ha4, ha5, ha6, ha0⟩ := bh_arr hAr
  exact List.forall_mem_cons.mpr ⟨fun S h => bs_dload_n (Z := Z) hx hb rfl d_H_checkRank_0 h, List.forall_mem_cons.mpr ⟨fun S h => bs_ldcd (Z := Z) hx hb hown (hts _ (List.mem_cons_of_mem _ wd_688)) d_H_checkRank_1 h, List.forall_mem_cons.mpr ⟨fun S h => bs_dcmp (Z := Z) hx hb d_H_checkRank_4 h, List.forall_mem_cons.mpr ⟨fun S h => bs_if_lt (Z := Z) hx hb d_H_checkRank_5 (by decide) h, List.forall_mem_cons.mpr ⟨fun S h => bs_dload_n (Z := Z) hx hb rfl d_H_checkRank_8 h, List.forall_mem_cons.mpr ⟨fun S h => bs_ldcd (Z := Z) hx hb hown (hts _ (List.mem_cons_of_mem _ wd_689)) d_H_checkRank_9 h, List.forall_mem_cons.mpr ⟨fun S h => bs_dcmp (Z := Z) hx hb d_H_checkRank_12 h, List.forall_mem_cons.mpr ⟨fun S h => bs_if_le (Z := Z) hx hb d_H_checkRank_13 (by decide) h, List.forall_mem_cons.mpr ⟨fun S h => (let ⟨_, hst⟩ := hstr 275 "the rank is out of range" st_275; bs_thr (Z := Z) hx hb hml htr htab hlocks bh_x0_IllegalArgumentException bh_x1_IllegalArgumentException bh_x2_IllegalArgumentException bh_x5_IllegalArgumentException hown (by decide +kernel) ⟨rfl, (hts _ (List.mem_cons_of_mem _ wd_409))⟩ ⟨rfl, (hts _ (List.mem_cons_of_mem _ wd_13))⟩ hst hbs (bh_at_IllegalArgumentException hw hB) d_H_checkRank_16 d_H_checkRank_19 (Or.inr ⟨rfl, d_H_checkRank_20⟩) d_H_checkRank_23 d_H_checkRank_26 (by show 2 + 3 < _ + 12; omega) (by show 13 * (2 + 1) + 43 ≤ 80 * _ + 200; omega) (Nat.le_refl _) (Nat.le_refl _) h), List.forall_mem_cons.mpr ⟨fun S h => bs_vret (Z := Z) hx hb hr hlocks d_H_checkRank_27 h, fun _ h => absurd h List.not_mem_nil⟩⟩⟩⟩⟩⟩⟩⟩⟩⟩
abbrev c_H_checkActive : ByteArray := prog_1_method_24_code
def y_H_checkActive : MethodName := ⟨"BundleHall", "checkActive", "(LBundleHall$Bundle;)V"⟩
theorem d_H_checkActive_0 : decode c_H_checkActive 0 = .ok (.aload_n 0, 1) := by decide +kernel
theorem d_H_checkActive_1 : decode c_H_checkActive 1 = .ok (.getfield 50, 3) := by decide +kernel
theorem d_H_checkActive_4 : decode c_H_checkActive 4 = .ok (.iconst 3, 1) := by decide +kernel
theorem d_H_checkActive_5 : decode c_H_checkActive 5 = .ok (.if_icmp .eq 14, 3) := by decide +kernel
theorem d_H_checkActive_8 : decode c_H_checkActive 8 = .ok (.new 53, 3) := by decide +kernel
theorem d_H_checkActive_11 : decode c_H_checkActive 11 = .ok (.dup, 1) := by decide +kernel
theorem d_H_checkActive_12 : decode c_H_checkActive 12 = .ok (.ldc_w 277, 3) := by decide +kernel
theorem d_H_checkActive_15 : decode c_H_checkActive 15 = .ok (.invokespecial 57, 3) := by decide +kernel
theorem d_H_checkActive_18 : decode c_H_checkActive 18 = .ok (.athrow, 1) := by decide +kernel
theorem d_H_checkActive_19 : decode c_H_checkActive 19 = .ok (.return_, 1) := by decide +kernel
def T_H_checkActive_0 : List (Nat × bh_Op) := [(0, bo_ald 1 0),
  (1, bo_gI 4 5 3),
  (4, bo_st 5 (bg_push (.inl (.int 3)))),
  (5, bo_if2 8 19 (fun x y => x = y)),
  (8, bo_thr 1 "java/lang/IllegalStateException"),
  (19, bo_vret 1)]
def T_H_checkActive : List (Nat × bh_Op) := T_H_checkActive_0
set_option maxRecDepth 20000 in
theorem mT_H_checkActive_0 : ∀ q ∈ T_H_checkActive_0, bh_mono q.2 := List.forall_mem_cons.mpr ⟨bo_ald_m _ _, List.forall_mem_cons.mpr ⟨bo_gI_m _ _ _, List.forall_mem_cons.mpr ⟨bo_st_mono (bg_push_m _), List.forall_mem_cons.mpr ⟨bo_if2_m _ _ _, List.forall_mem_cons.mpr ⟨bo_thr_m _ _, List.forall_mem_cons.mpr ⟨bo_vret_m _, fun _ h => absurd h List.not_mem_nil⟩⟩⟩⟩⟩⟩
theorem m_H_checkActive : ∀ pc, bh_mono (bh_tb (T_H_checkActive) pc) := bh_tb_m mT_H_checkActive_0
def F_H_checkActive : bh_Fn := bh_fn 1 (bh_tb T_H_checkActive)
theorem mF_H_checkActive : bh_monoF F_H_checkActive := bh_fn_m m_H_checkActive
theorem cl_H_checkActive {s : State} {args : Array Value} (d B : Nat) (hts : ∀ w ∈ bh_ws, w.before args s = true) : bh_Cal (bh_rm (d + 1) B) s y_H_checkActive 1 (.code y_H_checkActive c_H_checkActive 1 none :: bh_ws) (bh_rm d 1) 1 1 := bh_cal d B hts wd_693 wd_1 (by decide) (by decide +kernel)
set_option maxHeartbeats 4000000 in
set_option maxRecDepth 100000 in
theorem cn_H_checkActive {l : Launch} {G : bh_G} {base sb L : Nat} {xs : Nat → Int32} (htr : l.stackTraces = false) (d : Nat) : bh_Con l G base (bh_Bg G base sb L xs) y_H_checkActive (.code y_H_checkActive c_H_checkActive 1 none :: bh_ws) (bh_rm (d + 1) 1) 1 false F_H_checkActive := by
  refine bh_method (cc := c_H_checkActive) (ret := none) (by decide +kernel) rfl ?_
  intro p e s m args below meth c ad0 M0 Z X0 hr hlocks hname htab hbs hB
  obtain ⟨hx, hb, hml, hown, hts⟩ := id X0
  have hw : ∀ w ∈ bh_ws, w.before args s = true := fun w h => hts w (List.mem_cons_of_mem _ h)
  have hBg := bh_BgK (G := G) (base := base) (sb := sb) (L := L) (xs := xs)
  obtain ⟨hK, hAr, hen, hinj, hu1, hu2, hstr, hX, hsb, hsc, hxw, hao, hnc⟩ := id hB
  obtain ⟨ha1, ha2, ha3, ha4, ha5, ha6, ha0⟩ := bh_arr hAr
  exact List.forall_mem_cons.mpr ⟨fun S h => bs_aload_n (Z := Z) hx hb rfl d_H_checkActive_0 h, List.forall_mem_cons.mpr ⟨fun S h => bs_gI (Z := Z) (C := R_B) (T := F_B) (N := 10) (t := 5) (j := 3) hx hb hK hts (fun w h => List.mem_cons_of_mem _ (iw_B w h)) hown rfl rfl (by decide) (hts _ (List.mem_cons_of_mem _ wd_95)) (fun _ h => h) rfl rfl rfl d_H_checkActive_1 h, List.forall_mem_cons.mpr ⟨fun S h => bs_iconst (Z := Z) hx hb (by decide) d_H_checkActive_4 h, List.forall_mem_cons.mpr ⟨fun S h => bs_icmp_eq (Z := Z) hx hb d_H_checkActive_5 (by decide) h, List.forall_mem_cons.mpr ⟨fun S h => (let ⟨_, hst⟩ := hstr 277 "the bundle is not active" st_277; bs_thr (Z := Z) hx hb hml htr htab hlocks bh_x0_IllegalStateException bh_x1_IllegalStateException bh_x2_IllegalStateException bh_x5_IllegalStateException hown (by decide +kernel) ⟨rfl, (hts _ (List.mem_cons_of_mem _ wd_479))⟩ ⟨rfl, (hts _ (List.mem_cons_of_mem _ wd_14))⟩ hst hbs (bh_at_IllegalStateException hw hB) d_H_checkActive_8 d_H_checkActive_11 (Or.inr ⟨rfl, d_H_checkActive_12⟩) d_H_checkActive_15 d_H_checkActive_18 (by show 2 + 3 < _ + 12; omega) (by show 13 * (2 + 1) + 43 ≤ 80 * _ + 200; omega) (Nat.le_refl _) (Nat.le_refl _) h), List.forall_mem_cons.mpr ⟨fun S h => bs_vret (Z := Z) hx hb hr hlocks d_H_checkActive_19 h, fun _ h => absurd h List.not_mem_nil⟩⟩⟩⟩⟩⟩
abbrev c_H_register : ByteArray := prog_1_method_12_code
def y_H_register : MethodName := ⟨"BundleHall", "register", "(IID)I"⟩
theorem d_H_register_0 : decode c_H_register 0 = .ok (.iload_n 1, 1) := by decide +kernel
theorem d_H_register_1 : decode c_H_register 1 = .ok (.invokestatic 43, 3) := by decide +kernel
theorem d_H_register_4 : decode c_H_register 4 = .ok (.iload_n 2, 1) := by decide +kernel
theorem d_H_register_5 : decode c_H_register 5 = .ok (.iconst 0, 1) := by decide +kernel
theorem d_H_register_6 : decode c_H_register 6 = .ok (.iconst 3, 1) := by decide +kernel
theorem d_H_register_7 : decode c_H_register 7 = .ok (.invokestatic 46, 3) := by decide +kernel
theorem d_H_register_10 : decode c_H_register 10 = .ok (.dload_n 3, 1) := by decide +kernel
theorem d_H_register_11 : decode c_H_register 11 = .ok (.invokestatic 174, 3) := by decide +kernel
theorem d_H_register_14 : decode c_H_register 14 = .ok (.aload_n 0, 1) := by decide +kernel
theorem d_H_register_15 : decode c_H_register 15 = .ok (.iload_n 1, 1) := by decide +kernel
theorem d_H_register_16 : decode c_H_register 16 = .ok (.invokevirtual 100, 3) := by decide +kernel
theorem d_H_register_19 : decode c_H_register 19 = .ok (.invokestatic 178, 3) := by decide +kernel
theorem d_H_register_22 : decode c_H_register 22 = .ok (.aload_n 0, 1) := by decide +kernel
theorem d_H_register_23 : decode c_H_register 23 = .ok (.getfield 28, 3) := by decide +kernel
theorem d_H_register_26 : decode c_H_register 26 = .ok (.invokevirtual 181, 3) := by decide +kernel
theorem d_H_register_29 : decode c_H_register 29 = .ok (.ifCond .eq 13, 3) := by decide +kernel
theorem d_H_register_32 : decode c_H_register 32 = .ok (.new 77, 3) := by decide +kernel
theorem d_H_register_35 : decode c_H_register 35 = .ok (.dup, 1) := by decide +kernel
theorem d_H_register_36 : decode c_H_register 36 = .ok (.ldc 184, 2) := by decide +kernel
theorem d_H_register_38 : decode c_H_register 38 = .ok (.invokespecial 81, 3) := by decide +kernel
theorem d_H_register_41 : decode c_H_register 41 = .ok (.athrow, 1) := by decide +kernel
theorem d_H_register_42 : decode c_H_register 42 = .ok (.aload_n 0, 1) := by decide +kernel
theorem d_H_register_43 : decode c_H_register 43 = .ok (.iload_n 1, 1) := by decide +kernel
theorem d_H_register_44 : decode c_H_register 44 = .ok (.iload_n 2, 1) := by decide +kernel
theorem d_H_register_45 : decode c_H_register 45 = .ok (.dload_n 3, 1) := by decide +kernel
theorem d_H_register_46 : decode c_H_register 46 = .ok (.invokevirtual 186, 3) := by decide +kernel
theorem d_H_register_49 : decode c_H_register 49 = .ok (.ireturn, 1) := by decide +kernel
def T_H_register_0 : List (Nat × bh_Op) := [(0, bo_ild 1 1),
  (1, bo_callS 4 1 1 6 F_H_checkBundle),
  (4, bo_ild 5 2),
  (5, bo_st 6 (bg_push (.inl (.int 0)))),
  (6, bo_st 7 (bg_push (.inl (.int 3)))),
  (7, bo_callS 10 3 1 6 F_H_checkRange),
  (10, bo_dld 11 3),
  (11, bo_callS 14 1 1 6 F_H_checkRank),
  (14, bo_ald 15 0),
  (15, bo_ild 16 1),
  (16, bo_callV 19 2 1 6 3 F_H_present),
  (19, bo_callS 22 1 1 6 F_H_checkActive),
  (22, bo_ald 23 0),
  (23, bo_gR 26 3 2 19),
  (26, bo_callV 29 1 0 6 19 F_V_isFull),
  (29, bo_if1 32 42 (fun x => x = 0)),
  (32, bo_thr 6 "java/lang/UnsupportedOperationException"),
  (42, bo_ald 43 0),
  (43, bo_ild 44 1),
  (44, bo_ild 45 2),
  (45, bo_dld 46 3),
  (46, bo_callV 49 4 0 6 3 F_H_addService),
  (49, bo_iret 6)]
def T_H_register : List (Nat × bh_Op) := T_H_register_0
set_option maxRecDepth 20000 in
theorem mT_H_register_0 : ∀ q ∈ T_H_register_0, bh_mono q.2 := List.forall_mem_cons.mpr ⟨bo_ild_m _ _, List.forall_mem_cons.mpr ⟨bo_callS_m (mF_H_checkBundle) _ _ _ _, List.forall_mem_cons.mpr ⟨bo_ild_m _ _, List.forall_mem_cons.mpr ⟨bo_st_mono (bg_push_m _), List.forall_mem_cons.mpr ⟨bo_st_mono (bg_push_m _), List.forall_mem_cons.mpr ⟨bo_callS_m (mF_H_checkRange) _ _ _ _, List.forall_mem_cons.mpr ⟨bo_dld_m _ _, List.forall_mem_cons.mpr ⟨bo_callS_m (mF_H_checkRank) _ _ _ _, List.forall_mem_cons.mpr ⟨bo_ald_m _ _, List.forall_mem_cons.mpr ⟨bo_ild_m _ _, List.forall_mem_cons.mpr ⟨bo_callV_m (mF_H_present) _ _ _ _ _, List.forall_mem_cons.mpr ⟨bo_callS_m (mF_H_checkActive) _ _ _ _, List.forall_mem_cons.mpr ⟨bo_ald_m _ _, List.forall_mem_cons.mpr ⟨bo_gR_m _ _ _ _, List.forall_mem_cons.mpr ⟨bo_callV_m (mF_V_isFull) _ _ _ _ _, List.forall_mem_cons.mpr ⟨bo_if1_m _ _ _, List.forall_mem_cons.mpr ⟨bo_thr_m _ _, List.forall_mem_cons.mpr ⟨bo_ald_m _ _, List.forall_mem_cons.mpr ⟨bo_ild_m _ _, List.forall_mem_cons.mpr ⟨bo_ild_m _ _, List.forall_mem_cons.mpr ⟨bo_dld_m _ _, List.forall_mem_cons.mpr ⟨bo_callV_m (mF_H_addService) _ _ _ _ _, List.forall_mem_cons.mpr ⟨bo_iret_m _, fun _ h => absurd h List.not_mem_nil⟩⟩⟩⟩⟩⟩⟩⟩⟩⟩⟩⟩⟩⟩⟩⟩⟩⟩⟩⟩⟩⟩⟩
theorem m_H_register : ∀ pc, bh_mono (bh_tb (T_H_register) pc) := bh_tb_m mT_H_register_0
def F_H_register : bh_Fn := bh_fn 5 (bh_tb T_H_register)
theorem mF_H_register : bh_monoF F_H_register := bh_fn_m m_H_register
theorem cl_H_register {s : State} {args : Array Value} (d B : Nat) (hts : ∀ w ∈ bh_ws, w.before args s = true) : bh_Cal (bh_rm (d + 1) B) s y_H_register 5 (.code y_H_register c_H_register 5 (some .int) :: bh_ws) (bh_rm d 6) 6 3 := bh_cal d B hts wd_684 wd_1 (by decide) (by decide +kernel)
set_option maxHeartbeats 4000000 in
set_option maxRecDepth 100000 in
theorem cn_H_register {l : Launch} {G : bh_G} {base sb L : Nat} {xs : Nat → Int32} (htr : l.stackTraces = false) (d : Nat) : bh_Con l G base (bh_Bg G base sb L xs) y_H_register (.code y_H_register c_H_register 5 (some .int) :: bh_ws) (bh_rm (d + 4) 6) 6 false F_H_register := by
  refine bh_method (cc := c_H_register) (ret := (some .int)) (by decide +kernel) rfl ?_
  intro p e s m args below meth c ad0 M0 Z X0 hr hlocks hname htab hbs hB
  obtain ⟨hx, hb, hml, hown, hts⟩ := id X0
  have hw : ∀ w ∈ bh_ws, w.before args s = true := fun w h => hts w (List.mem_cons_of_mem _ h)
  have hBg := bh_BgK (G := G) (base := base) (sb := sb) (L := L) (xs := xs)
  obtain ⟨hK, hAr, hen, hinj, hu1, hu2, hstr, hX, hsb, hsc, hxw, hao, hnc⟩ := id hB
  obtain ⟨ha1, ha2, ha3, ha4, ha5, ha6, ha0⟩ := bh_arr hAr
  exact List.forall_mem_cons.mpr ⟨fun S h => bs_iload_n (Z := Z) hx hb rfl d_H_register_0 h, List.forall_mem_cons.mpr ⟨fun S h => bs_callS (Z := Z) hBg hbs hB X0 (cn_H_checkBundle htr (d + 1)) (cl_H_checkBundle _ _ hw) (hts _ (List.mem_cons_of_mem _ wd_403)) (hts _ (List.mem_cons_of_mem _ wd_404)) (Nat.le_refl _) (Nat.le_refl _) d_H_register_1 (bs_out htab hlocks) h, List.forall_mem_cons.mpr ⟨fun S h => bs_iload_n (Z := Z) hx hb rfl d_H_register_4 h, List.forall_mem_cons.mpr ⟨fun S h => bs_iconst (Z := Z) hx hb (by decide) d_H_register_5 h, List.forall_mem_cons.mpr ⟨fun S h => bs_iconst (Z := Z) hx hb (by decide) d_H_register_6 h, List.forall_mem_cons.mpr ⟨fun S h => bs_callS (Z := Z) hBg hbs hB X0 (cn_H_checkRange htr (d + 2)) (cl_H_checkRange _ _ hw) (hts _ (List.mem_cons_of_mem _ wd_406)) (hts _ (List.mem_cons_of_mem _ wd_407)) (Nat.le_refl _) (Nat.le_refl _) d_H_register_7 (bs_out htab hlocks) h, List.forall_mem_cons.mpr ⟨fun S h => bs_dload_n (Z := Z) hx hb rfl d_H_register_10 h, List.forall_mem_cons.mpr ⟨fun S h => bs_callS (Z := Z) hBg hbs hB X0 (cn_H_checkRank htr (d + 2)) (cl_H_checkRank _ _ hw) (hts _ (List.mem_cons_of_mem _ wd_685)) (hts _ (List.mem_cons_of_mem _ wd_686)) (Nat.le_refl _) (Nat.le_refl _) d_H_register_11 (bs_out htab hlocks) h, List.forall_mem_cons.mpr ⟨fun S h => bs_aload_n (Z := Z) hx hb rfl d_H_register_14 h, List.forall_mem_cons.mpr ⟨fun S h => bs_iload_n (Z := Z) hx hb rfl d_H_register_15 h, List.forall_mem_cons.mpr ⟨fun S h => bs_callV (Z := Z) (C := R_H) hBg hbs hB X0 hK (cn_H_present htr (d + 2)) (cl_H_present _ _ hw) (hts _ (List.mem_cons_of_mem _ wd_525)) (hts _ (List.mem_cons_of_mem _ wd_527)) (hts _ (List.mem_cons_of_mem _ ws_21)) rfl rfl rfl rfl rfl (Nat.le_refl _) (Nat.le_refl _) d_H_register_16 (bs_out htab hlocks) h, List.forall_mem_cons.mpr ⟨fun S h => bs_callS (Z := Z) hBg hbs hB X0 (cn_H_checkActive htr (d + 2)) (cl_H_checkActive _ _ hw) (hts _ (List.mem_cons_of_mem _ wd_691)) (hts _ (List.mem_cons_of_mem _ wd_692)) (Nat.le_refl _) (Nat.le_refl _) d_H_register_19 (bs_out htab hlocks) h, List.forall_mem_cons.mpr ⟨fun S h => bs_aload_n (Z := Z) hx hb rfl d_H_register_22 h, List.forall_mem_cons.mpr ⟨fun S h => bs_gR (Z := Z) (C := R_H) (T := F_H) (N := 5) (t := 3) (j := 2) hx hb hK hts (fun w h => List.mem_cons_of_mem _ (iw_H w h)) hown rfl rfl (by decide) (hts _ (List.mem_cons_of_mem _ wd_226)) (fun _ h => h) rfl rfl rfl d_H_register_23 h, List.forall_mem_cons.mpr ⟨fun S h => bs_callV (Z := Z) (C := R_V) hBg hbs hB X0 hK (cn_V_isFull htr (d + 2)) (cl_V_isFull _ _ hw) (hts _ (List.mem_cons_of_mem _ wd_365)) (hts _ (List.mem_cons_of_mem _ wd_366)) (hts _ (List.mem_cons_of_mem _ wd_367)) rfl rfl rfl rfl rfl (Nat.le_refl _) (Nat.le_refl _) d_H_register_26 (bs_out htab hlocks) h, List.forall_mem_cons.mpr ⟨fun S h => bs_if_eq (Z := Z) hx hb d_H_register_29 (by decide) h, List.forall_mem_cons.mpr ⟨fun S h => (let ⟨_, hst⟩ := hstr 184 "no room for another service" st_184; bs_thr (Z := Z) hx hb hml htr htab hlocks bh_x0_UnsupportedOperationException bh_x1_UnsupportedOperationException bh_x2_UnsupportedOperationException bh_x5_UnsupportedOperationException hown (by decide +kernel) ⟨rfl, (hts _ (List.mem_cons_of_mem _ wd_550))⟩ ⟨rfl, (hts _ (List.mem_cons_of_mem _ wd_16))⟩ hst hbs (bh_at_UnsupportedOperationException hw hB) d_H_register_32 d_H_register_35 (Or.inl ⟨rfl, d_H_register_36⟩) d_H_register_38 d_H_register_41 (by show 2 + 3 < _ + 12; omega) (by show 13 * (2 + 1) + 43 ≤ 80 * _ + 200; omega) (Nat.le_refl _) (Nat.le_refl _) h), List.forall_mem_cons.mpr ⟨fun S h => bs_aload_n (Z := Z) hx hb rfl d_H_register_42 h, List.forall_mem_cons.mpr ⟨fun S h => bs_iload_n (Z := Z) hx hb rfl d_H_register_43 h, List.forall_mem_cons.mpr ⟨fun S h => bs_iload_n (Z := Z) hx hb rfl d_H_register_44 h, List.forall_mem_cons.mpr ⟨fun S h => bs_dload_n (Z := Z) hx hb rfl d_H_register_45 h, List.forall_mem_cons.mpr ⟨fun S h => bs_callV (Z := Z) (C := R_H) hBg hbs hB X0 hK (cn_H_addService htr (d + 0)) (cl_H_addService _ _ hw) (hts _ (List.mem_cons_of_mem _ wd_369)) (hts _ (List.mem_cons_of_mem _ wd_371)) (hts _ (List.mem_cons_of_mem _ ws_16)) rfl rfl rfl rfl rfl (Nat.le_refl _) (Nat.le_refl _) d_H_register_46 (bs_out htab hlocks) h, List.forall_mem_cons.mpr ⟨fun S h => bs_iret (Z := Z) hx hb hr hlocks d_H_register_49 h, fun _ h => absurd h List.not_mem_nil⟩⟩⟩⟩⟩⟩⟩⟩⟩⟩⟩⟩⟩⟩⟩⟩⟩⟩⟩⟩⟩⟩⟩
abbrev c_H_get : ByteArray := prog_1_method_13_code
def y_H_get : MethodName := ⟨"BundleHall", "get", "(II)I"⟩
theorem d_H_get_0 : decode c_H_get 0 = .ok (.iload_n 1, 1) := by decide +kernel
theorem d_H_get_1 : decode c_H_get 1 = .ok (.invokestatic 43, 3) := by decide +kernel
theorem d_H_get_4 : decode c_H_get 4 = .ok (.iload_n 2, 1) := by decide +kernel
theorem d_H_get_5 : decode c_H_get 5 = .ok (.iconst 0, 1) := by decide +kernel
theorem d_H_get_6 : decode c_H_get 6 = .ok (.iconst 3, 1) := by decide +kernel
theorem d_H_get_7 : decode c_H_get 7 = .ok (.invokestatic 46, 3) := by decide +kernel
theorem d_H_get_10 : decode c_H_get 10 = .ok (.aload_n 0, 1) := by decide +kernel
theorem d_H_get_11 : decode c_H_get 11 = .ok (.iload_n 1, 1) := by decide +kernel
theorem d_H_get_12 : decode c_H_get 12 = .ok (.invokevirtual 100, 3) := by decide +kernel
theorem d_H_get_15 : decode c_H_get 15 = .ok (.invokestatic 178, 3) := by decide +kernel
theorem d_H_get_18 : decode c_H_get 18 = .ok (.aload_n 0, 1) := by decide +kernel
theorem d_H_get_19 : decode c_H_get 19 = .ok (.getfield 28, 3) := by decide +kernel
theorem d_H_get_22 : decode c_H_get 22 = .ok (.iload_n 2, 1) := by decide +kernel
theorem d_H_get_23 : decode c_H_get 23 = .ok (.invokevirtual 190, 3) := by decide +kernel
theorem d_H_get_26 : decode c_H_get 26 = .ok (.istore_n 3, 1) := by decide +kernel
theorem d_H_get_27 : decode c_H_get 27 = .ok (.iload_n 3, 1) := by decide +kernel
theorem d_H_get_28 : decode c_H_get 28 = .ok (.iconst (-1), 1) := by decide +kernel
theorem d_H_get_29 : decode c_H_get 29 = .ok (.if_icmp .ne 13, 3) := by decide +kernel
theorem d_H_get_32 : decode c_H_get 32 = .ok (.new 77, 3) := by decide +kernel
theorem d_H_get_35 : decode c_H_get 35 = .ok (.dup, 1) := by decide +kernel
theorem d_H_get_36 : decode c_H_get 36 = .ok (.ldc 193, 2) := by decide +kernel
theorem d_H_get_38 : decode c_H_get 38 = .ok (.invokespecial 81, 3) := by decide +kernel
theorem d_H_get_41 : decode c_H_get 41 = .ok (.athrow, 1) := by decide +kernel
theorem d_H_get_42 : decode c_H_get 42 = .ok (.aload_n 0, 1) := by decide +kernel
theorem d_H_get_43 : decode c_H_get 43 = .ok (.getfield 28, 3) := by decide +kernel
theorem d_H_get_46 : decode c_H_get 46 = .ok (.getfield 195, 3) := by decide +kernel
theorem d_H_get_49 : decode c_H_get 49 = .ok (.iload_n 3, 1) := by decide +kernel
theorem d_H_get_50 : decode c_H_get 50 = .ok (.aaload, 1) := by decide +kernel
theorem d_H_get_51 : decode c_H_get 51 = .ok (.getfield 199, 3) := by decide +kernel
theorem d_H_get_54 : decode c_H_get 54 = .ok (.iload_n 1, 1) := by decide +kernel
theorem d_H_get_55 : decode c_H_get 55 = .ok (.dup2, 1) := by decide +kernel
theorem d_H_get_56 : decode c_H_get 56 = .ok (.iaload, 1) := by decide +kernel
theorem d_H_get_57 : decode c_H_get 57 = .ok (.iconst 1, 1) := by decide +kernel
theorem d_H_get_58 : decode c_H_get 58 = .ok (.iadd, 1) := by decide +kernel
theorem d_H_get_59 : decode c_H_get 59 = .ok (.iastore, 1) := by decide +kernel
theorem d_H_get_60 : decode c_H_get 60 = .ok (.aload_n 0, 1) := by decide +kernel
theorem d_H_get_61 : decode c_H_get 61 = .ok (.getfield 28, 3) := by decide +kernel
theorem d_H_get_64 : decode c_H_get 64 = .ok (.getfield 195, 3) := by decide +kernel
theorem d_H_get_67 : decode c_H_get 67 = .ok (.iload_n 3, 1) := by decide +kernel
theorem d_H_get_68 : decode c_H_get 68 = .ok (.aaload, 1) := by decide +kernel
theorem d_H_get_69 : decode c_H_get 69 = .ok (.getfield 205, 3) := by decide +kernel
theorem d_H_get_72 : decode c_H_get 72 = .ok (.ireturn, 1) := by decide +kernel
def T_H_get_0 : List (Nat × bh_Op) := [(0, bo_ild 1 1),
  (1, bo_callS 4 1 1 5 F_H_checkBundle),
  (4, bo_ild 5 2),
  (5, bo_st 6 (bg_push (.inl (.int 0)))),
  (6, bo_st 7 (bg_push (.inl (.int 3)))),
  (7, bo_callS 10 3 1 5 F_H_checkRange),
  (10, bo_ald 11 0),
  (11, bo_ild 12 1),
  (12, bo_callV 15 2 1 5 3 F_H_present),
  (15, bo_callS 18 1 1 5 F_H_checkActive),
  (18, bo_ald 19 0),
  (19, bo_gR 22 3 2 19),
  (22, bo_ild 23 2),
  (23, bo_callV 26 2 0 5 19 F_V_bestRow),
  (26, bo_ist 27 3),
  (27, bo_ild 28 3),
  (28, bo_st 29 (bg_push (.inl (.int (-1))))),
  (29, bo_if2 32 42 (fun x y => ¬ x = y)),
  (32, bo_thr 5 "java/lang/UnsupportedOperationException"),
  (42, bo_ald 43 0),
  (43, bo_gR 46 3 2 19),
  (46, bo_gR 49 19 0 20),
  (49, bo_ild 50 3),
  (50, bo_Rald bh_ak bh_al 51),
  (51, bo_gR 54 21 0 22),
  (54, bo_ild 55 1),
  (55, bo_st 56 bg_dup2),
  (56, bo_Iald bh_ak bh_al 57),
  (57, bo_st 58 (bg_push (.inl (.int 1)))),
  (58, bo_st 59 (bg_ii (fun x y => x + y))),
  (59, bo_Iast bh_ak bh_al 60),
  (60, bo_ald 61 0),
  (61, bo_gR 64 3 2 19),
  (64, bo_gR 67 19 0 20),
  (67, bo_ild 68 3),
  (68, bo_Rald bh_ak bh_al 69),
  (69, bo_gI 72 21 1),
  (72, bo_iret 5)]
def T_H_get : List (Nat × bh_Op) := T_H_get_0
set_option maxRecDepth 20000 in
theorem mT_H_get_0 : ∀ q ∈ T_H_get_0, bh_mono q.2 := List.forall_mem_cons.mpr ⟨bo_ild_m _ _, List.forall_mem_cons.mpr ⟨bo_callS_m (mF_H_checkBundle) _ _ _ _, List.forall_mem_cons.mpr ⟨bo_ild_m _ _, List.forall_mem_cons.mpr ⟨bo_st_mono (bg_push_m _), List.forall_mem_cons.mpr ⟨bo_st_mono (bg_push_m _), List.forall_mem_cons.mpr ⟨bo_callS_m (mF_H_checkRange) _ _ _ _, List.forall_mem_cons.mpr ⟨bo_ald_m _ _, List.forall_mem_cons.mpr ⟨bo_ild_m _ _, List.forall_mem_cons.mpr ⟨bo_callV_m (mF_H_present) _ _ _ _ _, List.forall_mem_cons.mpr ⟨bo_callS_m (mF_H_checkActive) _ _ _ _, List.forall_mem_cons.mpr ⟨bo_ald_m _ _, List.forall_mem_cons.mpr ⟨bo_gR_m _ _ _ _, List.forall_mem_cons.mpr ⟨bo_ild_m _ _, List.forall_mem_cons.mpr ⟨bo_callV_m (mF_V_bestRow) _ _ _ _ _, List.forall_mem_cons.mpr ⟨bo_ist_m _ _, List.forall_mem_cons.mpr ⟨bo_ild_m _ _, List.forall_mem_cons.mpr ⟨bo_st_mono (bg_push_m _), List.forall_mem_cons.mpr ⟨bo_if2_m _ _ _, List.forall_mem_cons.mpr ⟨bo_thr_m _ _, List.forall_mem_cons.mpr ⟨bo_ald_m _ _, List.forall_mem_cons.mpr ⟨bo_gR_m _ _ _ _, List.forall_mem_cons.mpr ⟨bo_gR_m _ _ _ _, List.forall_mem_cons.mpr ⟨bo_ild_m _ _, List.forall_mem_cons.mpr ⟨bo_Rald_m _ _ _, List.forall_mem_cons.mpr ⟨bo_gR_m _ _ _ _, List.forall_mem_cons.mpr ⟨bo_ild_m _ _, List.forall_mem_cons.mpr ⟨bo_st_mono bg_dup2_m, List.forall_mem_cons.mpr ⟨bo_Iald_m _ _ _, List.forall_mem_cons.mpr ⟨bo_st_mono (bg_push_m _), List.forall_mem_cons.mpr ⟨bo_st_mono (bg_ii_m _), List.forall_mem_cons.mpr ⟨bo_Iast_m _ _ _, List.forall_mem_cons.mpr ⟨bo_ald_m _ _, List.forall_mem_cons.mpr ⟨bo_gR_m _ _ _ _, List.forall_mem_cons.mpr ⟨bo_gR_m _ _ _ _, List.forall_mem_cons.mpr ⟨bo_ild_m _ _, List.forall_mem_cons.mpr ⟨bo_Rald_m _ _ _, List.forall_mem_cons.mpr ⟨bo_gI_m _ _ _, List.forall_mem_cons.mpr ⟨bo_iret_m _, fun _ h => absurd h List.not_mem_nil⟩⟩⟩⟩⟩⟩⟩⟩⟩⟩⟩⟩⟩⟩⟩⟩⟩⟩⟩⟩⟩⟩⟩⟩⟩⟩⟩⟩⟩⟩⟩⟩⟩⟩⟩⟩⟩⟩
theorem m_H_get : ∀ pc, bh_mono (bh_tb (T_H_get) pc) := bh_tb_m mT_H_get_0
def F_H_get : bh_Fn := bh_fn 4 (bh_tb T_H_get)
theorem mF_H_get : bh_monoF F_H_get := bh_fn_m m_H_get
theorem cl_H_get {s : State} {args : Array Value} (d B : Nat) (hts : ∀ w ∈ bh_ws, w.before args s = true) : bh_Cal (bh_rm (d + 1) B) s y_H_get 4 (.code y_H_get c_H_get 4 (some .int) :: bh_ws) (bh_rm d 5) 5 2 := bh_cal d B hts wd_702 wd_1 (by decide) (by decide +kernel)
set_option maxHeartbeats 4000000 in
set_option maxRecDepth 100000 in
theorem cn_H_get {l : Launch} {G : bh_G} {base sb L : Nat} {xs : Nat → Int32} (htr : l.stackTraces = false) (d : Nat) : bh_Con l G base (bh_Bg G base sb L xs) y_H_get (.code y_H_get c_H_get 4 (some .int) :: bh_ws) (bh_rm (d + 3) 5) 5 false F_H_get := by
  refine bh_method (cc := c_H_get) (ret := (some .int)) (by decide +kernel) rfl ?_
  intro p e s m args below meth c ad0 M0 Z X0 hr hlocks hname htab hbs hB
  obtain ⟨hx, hb, hml, hown, hts⟩ := id X0
  have hw : ∀ w ∈ bh_ws, w.before args s = true := fun w h => hts w (List.mem_cons_of_mem _ h)
  have hBg := bh_BgK (G := G) (base := base) (sb := sb) (L := L) (xs := xs)
  obtain ⟨hK, hAr, hen, hinj, hu1, hu2, hstr, hX, hsb, hsc, hxw, hao, hnc⟩ := id hB
  obtain ⟨ha1, ha2, ha3, ha4, ha5, ha6, ha0⟩ := bh_arr hAr
  exact List.forall_mem_cons.mpr ⟨fun S h => bs_iload_n (Z := Z) hx hb rfl d_H_get_0 h, List.forall_mem_cons.mpr ⟨fun S h => bs_callS (Z := Z) hBg hbs hB X0 (cn_H_checkBundle htr (d + 0)) (cl_H_checkBundle _ _ hw) (hts _ (List.mem_cons_of_mem _ wd_403)) (hts _ (List.mem_cons_of_mem _ wd_404)) (Nat.le_refl _) (Nat.le_refl _) d_H_get_1 (bs_out htab hlocks) h, List.forall_mem_cons.mpr ⟨fun S h => bs_iload_n (Z := Z) hx hb rfl d_H_get_4 h, List.forall_mem_cons.mpr ⟨fun S h => bs_iconst (Z := Z) hx hb (by decide) d_H_get_5 h, List.forall_mem_cons.mpr ⟨fun S h => bs_iconst (Z := Z) hx hb (by decide) d_H_get_6 h, List.forall_mem_cons.mpr ⟨fun S h => bs_callS (Z := Z) hBg hbs hB X0 (cn_H_checkRange htr (d + 1)) (cl_H_checkRange _ _ hw) (hts _ (List.mem_cons_of_mem _ wd_406)) (hts _ (List.mem_cons_of_mem _ wd_407)) (Nat.le_refl _) (Nat.le_refl _) d_H_get_7 (bs_out htab hlocks) h, List.forall_mem_cons.mpr ⟨fun S h => bs_aload_n (Z := Z) hx hb rfl d_H_get_10 h, List.forall_mem_cons.mpr ⟨fun S h => bs_iload_n (Z := Z) hx hb rfl d_H_get_11 h, List.forall_mem_cons.mpr ⟨fun S h => bs_callV (Z := Z) (C := R_H) hBg hbs hB X0 hK (cn_H_present htr (d + 1)) (cl_H_present _ _ hw) (hts _ (List.mem_cons_of_mem _ wd_525)) (hts _ (List.mem_cons_of_mem _ wd_527)) (hts _ (List.mem_cons_of_mem _ ws_21)) rfl rfl rfl rfl rfl (Nat.le_refl _) (Nat.le_refl _) d_H_get_12 (bs_out htab hlocks) h, List.forall_mem_cons.mpr ⟨fun S h => bs_callS (Z := Z) hBg hbs hB X0 (cn_H_checkActive htr (d + 1)) (cl_H_checkActive _ _ hw) (hts _ (List.mem_cons_of_mem _ wd_691)) (hts _ (List.mem_cons_of_mem _ wd_692)) (Nat.le_refl _) (Nat.le_refl _) d_H_get_15 (bs_out htab hlocks) h, List.forall_mem_cons.mpr ⟨fun S h => bs_aload_n (Z := Z) hx hb rfl d_H_get_18 h, List.forall_mem_cons.mpr ⟨fun S h => bs_gR (Z := Z) (C := R_H) (T := F_H) (N := 5) (t := 3) (j := 2) hx hb hK hts (fun w h => List.mem_cons_of_mem _ (iw_H w h)) hown rfl rfl (by decide) (hts _ (List.mem_cons_of_mem _ wd_226)) (fun _ h => h) rfl rfl rfl d_H_get_19 h, List.forall_mem_cons.mpr ⟨fun S h => bs_iload_n (Z := Z) hx hb rfl d_H_get_22 h, List.forall_mem_cons.mpr ⟨fun S h => bs_callV (Z := Z) (C := R_V) hBg hbs hB X0 hK (cn_V_bestRow htr (d + 1)) (cl_V_bestRow _ _ hw) (hts _ (List.mem_cons_of_mem _ wd_382)) (hts _ (List.mem_cons_of_mem _ wd_383)) (hts _ (List.mem_cons_of_mem _ wd_384)) rfl rfl rfl rfl rfl (Nat.le_refl _) (Nat.le_refl _) d_H_get_23 (bs_out htab hlocks) h, List.forall_mem_cons.mpr ⟨fun S h => bs_istore_n (Z := Z) hx hb rfl d_H_get_26 h, List.forall_mem_cons.mpr ⟨fun S h => bs_iload_n (Z := Z) hx hb rfl d_H_get_27 h, List.forall_mem_cons.mpr ⟨fun S h => bs_iconst (Z := Z) hx hb (by decide) d_H_get_28 h, List.forall_mem_cons.mpr ⟨fun S h => bs_icmp_ne (Z := Z) hx hb d_H_get_29 (by decide) h, List.forall_mem_cons.mpr ⟨fun S h => (let ⟨_, hst⟩ := hstr 193 "no service of this kind" st_193; bs_thr (Z := Z) hx hb hml htr htab hlocks bh_x0_UnsupportedOperationException bh_x1_UnsupportedOperationException bh_x2_UnsupportedOperationException bh_x5_UnsupportedOperationException hown (by decide +kernel) ⟨rfl, (hts _ (List.mem_cons_of_mem _ wd_550))⟩ ⟨rfl, (hts _ (List.mem_cons_of_mem _ wd_16))⟩ hst hbs (bh_at_UnsupportedOperationException hw hB) d_H_get_32 d_H_get_35 (Or.inl ⟨rfl, d_H_get_36⟩) d_H_get_38 d_H_get_41 (by show 2 + 3 < _ + 12; omega) (by show 13 * (2 + 1) + 43 ≤ 80 * _ + 200; omega) (Nat.le_refl _) (Nat.le_refl _) h), List.forall_mem_cons.mpr ⟨fun S h => bs_aload_n (Z := Z) hx hb rfl d_H_get_42 h, List.forall_mem_cons.mpr ⟨fun S h => bs_gR (Z := Z) (C := R_H) (T := F_H) (N := 5) (t := 3) (j := 2) hx hb hK hts (fun w h => List.mem_cons_of_mem _ (iw_H w h)) hown rfl rfl (by decide) (hts _ (List.mem_cons_of_mem _ wd_226)) (fun _ h => h) rfl rfl rfl d_H_get_43 h, List.forall_mem_cons.mpr ⟨fun S h => bs_gR (Z := Z) (C := R_V) (T := F_V) (N := 3) (t := 19) (j := 0) hx hb hK hts (fun w h => List.mem_cons_of_mem _ (iw_V w h)) hown rfl rfl (by decide) (hts _ (List.mem_cons_of_mem _ wd_192)) (fun _ h => h) rfl rfl rfl d_H_get_46 h, List.forall_mem_cons.mpr ⟨fun S h => bs_iload_n (Z := Z) hx hb rfl d_H_get_49 h, List.forall_mem_cons.mpr ⟨fun S h => bs_Rald (Z := Z) hx hb ha5 d_H_get_50 h, List.forall_mem_cons.mpr ⟨fun S h => bs_gR (Z := Z) (C := R_S) (T := F_S) (N := 5) (t := 21) (j := 0) hx hb hK hts (fun w h => List.mem_cons_of_mem _ (iw_S w h)) hown rfl rfl (by decide) (hts _ (List.mem_cons_of_mem _ wd_173)) (fun _ h => h) rfl rfl rfl d_H_get_51 h, List.forall_mem_cons.mpr ⟨fun S h => bs_iload_n (Z := Z) hx hb rfl d_H_get_54 h, List.forall_mem_cons.mpr ⟨fun S h => bs_dup2 (Z := Z) hx hb d_H_get_55 h, List.forall_mem_cons.mpr ⟨fun S h => bs_Iald (Z := Z) hx hb ha1 d_H_get_56 h, List.forall_mem_cons.mpr ⟨fun S h => bs_iconst (Z := Z) hx hb (by decide) d_H_get_57 h, List.forall_mem_cons.mpr ⟨fun S h => bs_iadd (Z := Z) hx hb d_H_get_58 h, List.forall_mem_cons.mpr ⟨fun S h => bs_Iast (Z := Z) hx hb ha1 d_H_get_59 h, List.forall_mem_cons.mpr ⟨fun S h => bs_aload_n (Z := Z) hx hb rfl d_H_get_60 h, List.forall_mem_cons.mpr ⟨fun S h => bs_gR (Z := Z) (C := R_H) (T := F_H) (N := 5) (t := 3) (j := 2) hx hb hK hts (fun w h => List.mem_cons_of_mem _ (iw_H w h)) hown rfl rfl (by decide) (hts _ (List.mem_cons_of_mem _ wd_226)) (fun _ h => h) rfl rfl rfl d_H_get_61 h, List.forall_mem_cons.mpr ⟨fun S h => bs_gR (Z := Z) (C := R_V) (T := F_V) (N := 3) (t := 19) (j := 0) hx hb hK hts (fun w h => List.mem_cons_of_mem _ (iw_V w h)) hown rfl rfl (by decide) (hts _ (List.mem_cons_of_mem _ wd_192)) (fun _ h => h) rfl rfl rfl d_H_get_64 h, List.forall_mem_cons.mpr ⟨fun S h => bs_iload_n (Z := Z) hx hb rfl d_H_get_67 h, List.forall_mem_cons.mpr ⟨fun S h => bs_Rald (Z := Z) hx hb ha5 d_H_get_68 h, List.forall_mem_cons.mpr ⟨fun S h => bs_gI (Z := Z) (C := R_S) (T := F_S) (N := 5) (t := 21) (j := 1) hx hb hK hts (fun w h => List.mem_cons_of_mem _ (iw_S w h)) hown rfl rfl (by decide) (hts _ (List.mem_cons_of_mem _ wd_175)) (fun _ h => h) rfl rfl rfl d_H_get_69 h, List.forall_mem_cons.mpr ⟨fun S h => bs_iret (Z := Z) hx hb hr hlocks d_H_get_72 h, fun _ h => absurd h List.not_mem_nil⟩⟩⟩⟩⟩⟩⟩⟩⟩⟩⟩⟩⟩⟩⟩⟩⟩⟩⟩⟩⟩⟩⟩⟩⟩⟩⟩⟩⟩⟩⟩⟩⟩⟩⟩⟩⟩⟩
abbrev c_H_checkService : ByteArray := prog_1_method_22_code
def y_H_checkService : MethodName := ⟨"BundleHall", "checkService", "(I)V"⟩
theorem d_H_checkService_0 : decode c_H_checkService 0 = .ok (.iload_n 0, 1) := by decide +kernel
theorem d_H_checkService_1 : decode c_H_checkService 1 = .ok (.ifCond .ge 14, 3) := by decide +kernel
theorem d_H_checkService_4 : decode c_H_checkService 4 = .ok (.new 264, 3) := by decide +kernel
theorem d_H_checkService_7 : decode c_H_checkService 7 = .ok (.dup, 1) := by decide +kernel
theorem d_H_checkService_8 : decode c_H_checkService 8 = .ok (.ldc_w 269, 3) := by decide +kernel
theorem d_H_checkService_11 : decode c_H_checkService 11 = .ok (.invokespecial 268, 3) := by decide +kernel
theorem d_H_checkService_14 : decode c_H_checkService 14 = .ok (.athrow, 1) := by decide +kernel
theorem d_H_checkService_15 : decode c_H_checkService 15 = .ok (.return_, 1) := by decide +kernel
def T_H_checkService_0 : List (Nat × bh_Op) := [(0, bo_ild 1 0),
  (1, bo_if1 4 15 (fun x => 0 ≤ x)),
  (4, bo_thr 1 "java/lang/IllegalArgumentException"),
  (15, bo_vret 1)]
def T_H_checkService : List (Nat × bh_Op) := T_H_checkService_0
set_option maxRecDepth 20000 in
theorem mT_H_checkService_0 : ∀ q ∈ T_H_checkService_0, bh_mono q.2 := List.forall_mem_cons.mpr ⟨bo_ild_m _ _, List.forall_mem_cons.mpr ⟨bo_if1_m _ _ _, List.forall_mem_cons.mpr ⟨bo_thr_m _ _, List.forall_mem_cons.mpr ⟨bo_vret_m _, fun _ h => absurd h List.not_mem_nil⟩⟩⟩⟩
theorem m_H_checkService : ∀ pc, bh_mono (bh_tb (T_H_checkService) pc) := bh_tb_m mT_H_checkService_0
def F_H_checkService : bh_Fn := bh_fn 1 (bh_tb T_H_checkService)
theorem mF_H_checkService : bh_monoF F_H_checkService := bh_fn_m m_H_checkService
theorem cl_H_checkService {s : State} {args : Array Value} (d B : Nat) (hts : ∀ w ∈ bh_ws, w.before args s = true) : bh_Cal (bh_rm (d + 1) B) s y_H_checkService 1 (.code y_H_checkService c_H_checkService 1 none :: bh_ws) (bh_rm d 1) 1 1 := bh_cal d B hts wd_713 wd_1 (by decide) (by decide +kernel)
set_option maxHeartbeats 4000000 in
set_option maxRecDepth 100000 in
theorem cn_H_checkService {l : Launch} {G : bh_G} {base sb L : Nat} {xs : Nat → Int32} (htr : l.stackTraces = false) (d : Nat) : bh_Con l G base (bh_Bg G base sb L xs) y_H_checkService (.code y_H_checkService c_H_checkService 1 none :: bh_ws) (bh_rm (d + 1) 1) 1 false F_H_checkService := by
  refine bh_method (cc := c_H_checkService) (ret := none) (by decide +kernel) rfl ?_
  intro p e s m args below meth c ad0 M0 Z X0 hr hlocks hname htab hbs hB
  obtain ⟨hx, hb, hml, hown, hts⟩ := id X0
  have hw : ∀ w ∈ bh_ws, w.before args s = true := fun w h => hts w (List.mem_cons_of_mem _ h)
  have hBg := bh_BgK (G := G) (base := base) (sb := sb) (L := L) (xs := xs)
  obtain ⟨hK, hAr, hen, hinj, hu1, hu2, hstr, hX, hsb, hsc, hxw, hao, hnc⟩ := id hB
  obtain ⟨ha1, ha2, ha3, ha4, ha5, ha6, ha0⟩ := bh_arr hAr
  exact List.forall_mem_cons.mpr ⟨fun S h => bs_iload_n (Z := Z) hx hb rfl d_H_checkService_0 h, List.forall_mem_cons.mpr ⟨fun S h => bs_if_ge (Z := Z) hx hb d_H_checkService_1 (by decide) h, List.forall_mem_cons.mpr ⟨fun S h => (let ⟨_, hst⟩ := hstr 269 "the service number is below 0" st_269; bs_thr (Z := Z) hx hb hml htr htab hlocks bh_x0_IllegalArgumentException bh_x1_IllegalArgumentException bh_x2_IllegalArgumentException bh_x5_IllegalArgumentException hown (by decide +kernel) ⟨rfl, (hts _ (List.mem_cons_of_mem _ wd_409))⟩ ⟨rfl, (hts _ (List.mem_cons_of_mem _ wd_13))⟩ hst hbs (bh_at_IllegalArgumentException hw hB) d_H_checkService_4 d_H_checkService_7 (Or.inr ⟨rfl, d_H_checkService_8⟩) d_H_checkService_11 d_H_checkService_14 (by show 2 + 3 < _ + 12; omega) (by show 13 * (2 + 1) + 43 ≤ 80 * _ + 200; omega) (Nat.le_refl _) (Nat.le_refl _) h), List.forall_mem_cons.mpr ⟨fun S h => bs_vret (Z := Z) hx hb hr hlocks d_H_checkService_15 h, fun _ h => absurd h List.not_mem_nil⟩⟩⟩⟩
abbrev c_V_rowOf : ByteArray := prog_8_method_5_code
def y_V_rowOf : MethodName := ⟨"BundleHall$Services", "rowOf", "(I)I"⟩
theorem d_V_rowOf_0 : decode c_V_rowOf 0 = .ok (.iconst 0, 1) := by decide +kernel
theorem d_V_rowOf_1 : decode c_V_rowOf 1 = .ok (.istore_n 2, 1) := by decide +kernel
theorem d_V_rowOf_2 : decode c_V_rowOf 2 = .ok (.iload_n 2, 1) := by decide +kernel
theorem d_V_rowOf_3 : decode c_V_rowOf 3 = .ok (.aload_n 0, 1) := by decide +kernel
theorem d_V_rowOf_4 : decode c_V_rowOf 4 = .ok (.getfield 18, 3) := by decide +kernel
theorem d_V_rowOf_7 : decode c_V_rowOf 7 = .ok (.if_icmp .ge 24, 3) := by decide +kernel
theorem d_V_rowOf_10 : decode c_V_rowOf 10 = .ok (.aload_n 0, 1) := by decide +kernel
theorem d_V_rowOf_11 : decode c_V_rowOf 11 = .ok (.getfield 11, 3) := by decide +kernel
theorem d_V_rowOf_14 : decode c_V_rowOf 14 = .ok (.iload_n 2, 1) := by decide +kernel
theorem d_V_rowOf_15 : decode c_V_rowOf 15 = .ok (.aaload, 1) := by decide +kernel
theorem d_V_rowOf_16 : decode c_V_rowOf 16 = .ok (.getfield 25, 3) := by decide +kernel
theorem d_V_rowOf_19 : decode c_V_rowOf 19 = .ok (.iload_n 1, 1) := by decide +kernel
theorem d_V_rowOf_20 : decode c_V_rowOf 20 = .ok (.if_icmp .ne 5, 3) := by decide +kernel
theorem d_V_rowOf_23 : decode c_V_rowOf 23 = .ok (.iload_n 2, 1) := by decide +kernel
theorem d_V_rowOf_24 : decode c_V_rowOf 24 = .ok (.ireturn, 1) := by decide +kernel
theorem d_V_rowOf_25 : decode c_V_rowOf 25 = .ok (.iinc 2 1, 3) := by decide +kernel
theorem d_V_rowOf_28 : decode c_V_rowOf 28 = .ok (.goto (-26), 3) := by decide +kernel
theorem d_V_rowOf_31 : decode c_V_rowOf 31 = .ok (.iconst (-1), 1) := by decide +kernel
theorem d_V_rowOf_32 : decode c_V_rowOf 32 = .ok (.ireturn, 1) := by decide +kernel
def T_V_rowOf_0 : List (Nat × bh_Op) := [(0, bo_st 1 (bg_push (.inl (.int 0)))),
  (1, bo_ist 2 2),
  (2, bo_ild 3 2),
  (3, bo_ald 4 0),
  (4, bo_gI 7 19 1),
  (7, bo_if2 10 31 (fun x y => y ≤ x)),
  (10, bo_ald 11 0),
  (11, bo_gR 14 19 0 20),
  (14, bo_ild 15 2),
  (15, bo_Rald bh_ak bh_al 16),
  (16, bo_gI 19 21 1),
  (19, bo_ild 20 1),
  (20, bo_if2 23 25 (fun x y => ¬ x = y)),
  (23, bo_ild 24 2),
  (24, bo_iret 0),
  (25, bo_inc 28 2 1),
  (28, bo_go 2),
  (31, bo_st 32 (bg_push (.inl (.int (-1))))),
  (32, bo_iret 0)]
def T_V_rowOf : List (Nat × bh_Op) := T_V_rowOf_0
set_option maxRecDepth 20000 in
theorem mT_V_rowOf_0 : ∀ q ∈ T_V_rowOf_0, bh_mono q.2 := List.forall_mem_cons.mpr ⟨bo_st_mono (bg_push_m _), List.forall_mem_cons.mpr ⟨bo_ist_m _ _, List.forall_mem_cons.mpr ⟨bo_ild_m _ _, List.forall_mem_cons.mpr ⟨bo_ald_m _ _, List.forall_mem_cons.mpr ⟨bo_gI_m _ _ _, List.forall_mem_cons.mpr ⟨bo_if2_m _ _ _, List.forall_mem_cons.mpr ⟨bo_ald_m _ _, List.forall_mem_cons.mpr ⟨bo_gR_m _ _ _ _, List.forall_mem_cons.mpr ⟨bo_ild_m _ _, List.forall_mem_cons.mpr ⟨bo_Rald_m _ _ _, List.forall_mem_cons.mpr ⟨bo_gI_m _ _ _, List.forall_mem_cons.mpr ⟨bo_ild_m _ _, List.forall_mem_cons.mpr ⟨bo_if2_m _ _ _, List.forall_mem_cons.mpr ⟨bo_ild_m _ _, List.forall_mem_cons.mpr ⟨bo_iret_m _, List.forall_mem_cons.mpr ⟨bo_inc_m _ _ _, List.forall_mem_cons.mpr ⟨bo_go_m _, List.forall_mem_cons.mpr ⟨bo_st_mono (bg_push_m _), List.forall_mem_cons.mpr ⟨bo_iret_m _, fun _ h => absurd h List.not_mem_nil⟩⟩⟩⟩⟩⟩⟩⟩⟩⟩⟩⟩⟩⟩⟩⟩⟩⟩⟩
theorem m_V_rowOf : ∀ pc, bh_mono (bh_tb (T_V_rowOf) pc) := bh_tb_m mT_V_rowOf_0
def F_V_rowOf : bh_Fn := bh_fn 3 (bh_tb T_V_rowOf)
theorem mF_V_rowOf : bh_monoF F_V_rowOf := bh_fn_m m_V_rowOf
theorem cl_V_rowOf {s : State} {args : Array Value} (d B : Nat) (hts : ∀ w ∈ bh_ws, w.before args s = true) : bh_Cal (bh_rm (d + 1) B) s y_V_rowOf 3 (.code y_V_rowOf c_V_rowOf 3 (some .int) :: bh_ws) (bh_rm d 0) 0 1 := bh_cal d B hts wd_718 wd_6 (by decide) (by decide +kernel)
set_option maxHeartbeats 4000000 in
set_option maxRecDepth 100000 in
theorem cn_V_rowOf {l : Launch} {G : bh_G} {base sb L : Nat} {xs : Nat → Int32} (htr : l.stackTraces = false) (d : Nat) : bh_Con l G base (bh_Bg G base sb L xs) y_V_rowOf (.code y_V_rowOf c_V_rowOf 3 (some .int) :: bh_ws) (bh_rm (d + 1) 0) 0 false F_V_rowOf := by
  refine bh_method (cc := c_V_rowOf) (ret := (some .int)) (by decide +kernel) rfl ?_
  intro p e s m args below meth c ad0 M0 Z X0 hr hlocks hname htab hbs hB
  obtain ⟨hx, hb, hml, hown, hts⟩ := id X0
  have hw : ∀ w ∈ bh_ws, w.before args s = true := fun w h => hts w (List.mem_cons_of_mem _ h)
  have hBg := bh_BgK (G := G) (base := base) (sb := sb) (L := L) (xs := xs)
  obtain ⟨hK, hAr, hen, hinj, hu1, hu2, hstr, hX, hsb, hsc, hxw, hao, hnc⟩ := id hB
  obtain ⟨ha1, ha2, ha3, ha4, ha5, ha6, ha0⟩ := bh_arr hAr
  exact List.forall_mem_cons.mpr ⟨fun S h => bs_iconst (Z := Z) hx hb (by decide) d_V_rowOf_0 h, List.forall_mem_cons.mpr ⟨fun S h => bs_istore_n (Z := Z) hx hb rfl d_V_rowOf_1 h, List.forall_mem_cons.mpr ⟨fun S h => bs_iload_n (Z := Z) hx hb rfl d_V_rowOf_2 h, List.forall_mem_cons.mpr ⟨fun S h => bs_aload_n (Z := Z) hx hb rfl d_V_rowOf_3 h, List.forall_mem_cons.mpr ⟨fun S h => bs_gI (Z := Z) (C := R_V) (T := F_V) (N := 3) (t := 19) (j := 1) hx hb hK hts (fun w h => List.mem_cons_of_mem _ (iw_V w h)) hown rfl rfl (by decide) (hts _ (List.mem_cons_of_mem _ wd_193)) (fun _ h => h) rfl rfl rfl d_V_rowOf_4 h, List.forall_mem_cons.mpr ⟨fun S h => bs_icmp_ge (Z := Z) hx hb d_V_rowOf_7 (by decide) h, List.forall_mem_cons.mpr ⟨fun S h => bs_aload_n (Z := Z) hx hb rfl d_V_rowOf_10 h, List.forall_mem_cons.mpr ⟨fun S h => bs_gR (Z := Z) (C := R_V) (T := F_V) (N := 3) (t := 19) (j := 0) hx hb hK hts (fun w h => List.mem_cons_of_mem _ (iw_V w h)) hown rfl rfl (by decide) (hts _ (List.mem_cons_of_mem _ wd_191)) (fun _ h => h) rfl rfl rfl d_V_rowOf_11 h, List.forall_mem_cons.mpr ⟨fun S h => bs_iload_n (Z := Z) hx hb rfl d_V_rowOf_14 h, List.forall_mem_cons.mpr ⟨fun S h => bs_Rald (Z := Z) hx hb ha5 d_V_rowOf_15 h, List.forall_mem_cons.mpr ⟨fun S h => bs_gI (Z := Z) (C := R_S) (T := F_S) (N := 5) (t := 21) (j := 1) hx hb hK hts (fun w h => List.mem_cons_of_mem _ (iw_S w h)) hown rfl rfl (by decide) (hts _ (List.mem_cons_of_mem _ wd_174)) (fun _ h => h) rfl rfl rfl d_V_rowOf_16 h, List.forall_mem_cons.mpr ⟨fun S h => bs_iload_n (Z := Z) hx hb rfl d_V_rowOf_19 h, List.forall_mem_cons.mpr ⟨fun S h => bs_icmp_ne (Z := Z) hx hb d_V_rowOf_20 (by decide) h, List.forall_mem_cons.mpr ⟨fun S h => bs_iload_n (Z := Z) hx hb rfl d_V_rowOf_23 h, List.forall_mem_cons.mpr ⟨fun S h => bs_iret (Z := Z) hx hb hr hlocks d_V_rowOf_24 h, List.forall_mem_cons.mpr ⟨fun S h => bs_iinc (Z := Z) hx hb (by decide) d_V_rowOf_25 h, List.forall_mem_cons.mpr ⟨fun S h => bs_goto (Z := Z) hx hb d_V_rowOf_28 (by decide) h, List.forall_mem_cons.mpr ⟨fun S h => bs_iconst (Z := Z) hx hb (by decide) d_V_rowOf_31 h, List.forall_mem_cons.mpr ⟨fun S h => bs_iret (Z := Z) hx hb hr hlocks d_V_rowOf_32 h, fun _ h => absurd h List.not_mem_nil⟩⟩⟩⟩⟩⟩⟩⟩⟩⟩⟩⟩⟩⟩⟩⟩⟩⟩⟩
abbrev c_H_giveBack : ByteArray := prog_1_method_14_code
def y_H_giveBack : MethodName := ⟨"BundleHall", "giveBack", "(II)I"⟩
theorem d_H_giveBack_0 : decode c_H_giveBack 0 = .ok (.iload_n 1, 1) := by decide +kernel
theorem d_H_giveBack_1 : decode c_H_giveBack 1 = .ok (.invokestatic 43, 3) := by decide +kernel
theorem d_H_giveBack_4 : decode c_H_giveBack 4 = .ok (.iload_n 2, 1) := by decide +kernel
theorem d_H_giveBack_5 : decode c_H_giveBack 5 = .ok (.invokestatic 208, 3) := by decide +kernel
theorem d_H_giveBack_8 : decode c_H_giveBack 8 = .ok (.aload_n 0, 1) := by decide +kernel
theorem d_H_giveBack_9 : decode c_H_giveBack 9 = .ok (.iload_n 1, 1) := by decide +kernel
theorem d_H_giveBack_10 : decode c_H_giveBack 10 = .ok (.invokevirtual 100, 3) := by decide +kernel
theorem d_H_giveBack_13 : decode c_H_giveBack 13 = .ok (.pop, 1) := by decide +kernel
theorem d_H_giveBack_14 : decode c_H_giveBack 14 = .ok (.aload_n 0, 1) := by decide +kernel
theorem d_H_giveBack_15 : decode c_H_giveBack 15 = .ok (.getfield 28, 3) := by decide +kernel
theorem d_H_giveBack_18 : decode c_H_giveBack 18 = .ok (.iload_n 2, 1) := by decide +kernel
theorem d_H_giveBack_19 : decode c_H_giveBack 19 = .ok (.invokevirtual 211, 3) := by decide +kernel
theorem d_H_giveBack_22 : decode c_H_giveBack 22 = .ok (.istore_n 3, 1) := by decide +kernel
theorem d_H_giveBack_23 : decode c_H_giveBack 23 = .ok (.iload_n 3, 1) := by decide +kernel
theorem d_H_giveBack_24 : decode c_H_giveBack 24 = .ok (.iconst (-1), 1) := by decide +kernel
theorem d_H_giveBack_25 : decode c_H_giveBack 25 = .ok (.if_icmp .eq 20, 3) := by decide +kernel
theorem d_H_giveBack_28 : decode c_H_giveBack 28 = .ok (.aload_n 0, 1) := by decide +kernel
theorem d_H_giveBack_29 : decode c_H_giveBack 29 = .ok (.getfield 28, 3) := by decide +kernel
theorem d_H_giveBack_32 : decode c_H_giveBack 32 = .ok (.getfield 195, 3) := by decide +kernel
theorem d_H_giveBack_35 : decode c_H_giveBack 35 = .ok (.iload_n 3, 1) := by decide +kernel
theorem d_H_giveBack_36 : decode c_H_giveBack 36 = .ok (.aaload, 1) := by decide +kernel
theorem d_H_giveBack_37 : decode c_H_giveBack 37 = .ok (.getfield 199, 3) := by decide +kernel
theorem d_H_giveBack_40 : decode c_H_giveBack 40 = .ok (.iload_n 1, 1) := by decide +kernel
theorem d_H_giveBack_41 : decode c_H_giveBack 41 = .ok (.iaload, 1) := by decide +kernel
theorem d_H_giveBack_42 : decode c_H_giveBack 42 = .ok (.ifCond .ne 13, 3) := by decide +kernel
theorem d_H_giveBack_45 : decode c_H_giveBack 45 = .ok (.new 77, 3) := by decide +kernel
theorem d_H_giveBack_48 : decode c_H_giveBack 48 = .ok (.dup, 1) := by decide +kernel
theorem d_H_giveBack_49 : decode c_H_giveBack 49 = .ok (.ldc 214, 2) := by decide +kernel
theorem d_H_giveBack_51 : decode c_H_giveBack 51 = .ok (.invokespecial 81, 3) := by decide +kernel
theorem d_H_giveBack_54 : decode c_H_giveBack 54 = .ok (.athrow, 1) := by decide +kernel
theorem d_H_giveBack_55 : decode c_H_giveBack 55 = .ok (.aload_n 0, 1) := by decide +kernel
theorem d_H_giveBack_56 : decode c_H_giveBack 56 = .ok (.getfield 28, 3) := by decide +kernel
theorem d_H_giveBack_59 : decode c_H_giveBack 59 = .ok (.getfield 195, 3) := by decide +kernel
theorem d_H_giveBack_62 : decode c_H_giveBack 62 = .ok (.iload_n 3, 1) := by decide +kernel
theorem d_H_giveBack_63 : decode c_H_giveBack 63 = .ok (.aaload, 1) := by decide +kernel
theorem d_H_giveBack_64 : decode c_H_giveBack 64 = .ok (.getfield 199, 3) := by decide +kernel
theorem d_H_giveBack_67 : decode c_H_giveBack 67 = .ok (.iload_n 1, 1) := by decide +kernel
theorem d_H_giveBack_68 : decode c_H_giveBack 68 = .ok (.dup2, 1) := by decide +kernel
theorem d_H_giveBack_69 : decode c_H_giveBack 69 = .ok (.iaload, 1) := by decide +kernel
theorem d_H_giveBack_70 : decode c_H_giveBack 70 = .ok (.iconst 1, 1) := by decide +kernel
theorem d_H_giveBack_71 : decode c_H_giveBack 71 = .ok (.isub, 1) := by decide +kernel
theorem d_H_giveBack_72 : decode c_H_giveBack 72 = .ok (.iastore, 1) := by decide +kernel
theorem d_H_giveBack_73 : decode c_H_giveBack 73 = .ok (.aload_n 0, 1) := by decide +kernel
theorem d_H_giveBack_74 : decode c_H_giveBack 74 = .ok (.getfield 28, 3) := by decide +kernel
theorem d_H_giveBack_77 : decode c_H_giveBack 77 = .ok (.getfield 195, 3) := by decide +kernel
theorem d_H_giveBack_80 : decode c_H_giveBack 80 = .ok (.iload_n 3, 1) := by decide +kernel
theorem d_H_giveBack_81 : decode c_H_giveBack 81 = .ok (.aaload, 1) := by decide +kernel
theorem d_H_giveBack_82 : decode c_H_giveBack 82 = .ok (.getfield 199, 3) := by decide +kernel
theorem d_H_giveBack_85 : decode c_H_giveBack 85 = .ok (.iload_n 1, 1) := by decide +kernel
theorem d_H_giveBack_86 : decode c_H_giveBack 86 = .ok (.iaload, 1) := by decide +kernel
theorem d_H_giveBack_87 : decode c_H_giveBack 87 = .ok (.ireturn, 1) := by decide +kernel
def T_H_giveBack_0 : List (Nat × bh_Op) := [(0, bo_ild 1 1),
  (1, bo_callS 4 1 1 4 F_H_checkBundle),
  (4, bo_ild 5 2),
  (5, bo_callS 8 1 1 4 F_H_checkService),
  (8, bo_ald 9 0),
  (9, bo_ild 10 1),
  (10, bo_callV 13 2 1 4 3 F_H_present),
  (13, bo_st 14 bg_pop),
  (14, bo_ald 15 0),
  (15, bo_gR 18 3 2 19),
  (18, bo_ild 19 2),
  (19, bo_callV 22 2 0 4 19 F_V_rowOf),
  (22, bo_ist 23 3),
  (23, bo_ild 24 3),
  (24, bo_st 25 (bg_push (.inl (.int (-1))))),
  (25, bo_if2 28 45 (fun x y => x = y)),
  (28, bo_ald 29 0),
  (29, bo_gR 32 3 2 19),
  (32, bo_gR 35 19 0 20),
  (35, bo_ild 36 3),
  (36, bo_Rald bh_ak bh_al 37),
  (37, bo_gR 40 21 0 22),
  (40, bo_ild 41 1),
  (41, bo_Iald bh_ak bh_al 42),
  (42, bo_if1 45 55 (fun x => ¬ x = 0)),
  (45, bo_thr 4 "java/lang/UnsupportedOperationException"),
  (55, bo_ald 56 0),
  (56, bo_gR 59 3 2 19),
  (59, bo_gR 62 19 0 20),
  (62, bo_ild 63 3),
  (63, bo_Rald bh_ak bh_al 64),
  (64, bo_gR 67 21 0 22),
  (67, bo_ild 68 1),
  (68, bo_st 69 bg_dup2),
  (69, bo_Iald bh_ak bh_al 70),
  (70, bo_st 71 (bg_push (.inl (.int 1)))),
  (71, bo_st 72 (bg_ii (fun x y => x - y))),
  (72, bo_Iast bh_ak bh_al 73),
  (73, bo_ald 74 0),
  (74, bo_gR 77 3 2 19)]
def T_H_giveBack_1 : List (Nat × bh_Op) := [(77, bo_gR 80 19 0 20),
  (80, bo_ild 81 3),
  (81, bo_Rald bh_ak bh_al 82),
  (82, bo_gR 85 21 0 22),
  (85, bo_ild 86 1),
  (86, bo_Iald bh_ak bh_al 87),
  (87, bo_iret 4)]
def T_H_giveBack : List (Nat × bh_Op) := T_H_giveBack_0 ++ T_H_giveBack_1
set_option maxRecDepth 20000 in
theorem mT_H_giveBack_0 : ∀ q ∈ T_H_giveBack_0, bh_mono q.2 := List.forall_mem_cons.mpr ⟨bo_ild_m _ _, List.forall_mem_cons.mpr ⟨bo_callS_m (mF_H_checkBundle) _ _ _ _, List.forall_mem_cons.mpr ⟨bo_ild_m _ _, List.forall_mem_cons.mpr ⟨bo_callS_m (mF_H_checkService) _ _ _ _, List.forall_mem_cons.mpr ⟨bo_ald_m _ _, List.forall_mem_cons.mpr ⟨bo_ild_m _ _, List.forall_mem_cons.mpr ⟨bo_callV_m (mF_H_present) _ _ _ _ _, List.forall_mem_cons.mpr ⟨bo_st_mono bg_pop_m, List.forall_mem_cons.mpr ⟨bo_ald_m _ _, List.forall_mem_cons.mpr ⟨bo_gR_m _ _ _ _, List.forall_mem_cons.mpr ⟨bo_ild_m _ _, List.forall_mem_cons.mpr ⟨bo_callV_m (mF_V_rowOf) _ _ _ _ _, List.forall_mem_cons.mpr ⟨bo_ist_m _ _, List.forall_mem_cons.mpr ⟨bo_ild_m _ _, List.forall_mem_cons.mpr ⟨bo_st_mono (bg_push_m _), List.forall_mem_cons.mpr ⟨bo_if2_m _ _ _, List.forall_mem_cons.mpr ⟨bo_ald_m _ _, List.forall_mem_cons.mpr ⟨bo_gR_m _ _ _ _, List.forall_mem_cons.mpr ⟨bo_gR_m _ _ _ _, List.forall_mem_cons.mpr ⟨bo_ild_m _ _, List.forall_mem_cons.mpr ⟨bo_Rald_m _ _ _, List.forall_mem_cons.mpr ⟨bo_gR_m _ _ _ _, List.forall_mem_cons.mpr ⟨bo_ild_m _ _, List.forall_mem_cons.mpr ⟨bo_Iald_m _ _ _, List.forall_mem_cons.mpr ⟨bo_if1_m _ _ _, List.forall_mem_cons.mpr ⟨bo_thr_m _ _, List.forall_mem_cons.mpr ⟨bo_ald_m _ _, List.forall_mem_cons.mpr ⟨bo_gR_m _ _ _ _, List.forall_mem_cons.mpr ⟨bo_gR_m _ _ _ _, List.forall_mem_cons.mpr ⟨bo_ild_m _ _, List.forall_mem_cons.mpr ⟨bo_Rald_m _ _ _, List.forall_mem_cons.mpr ⟨bo_gR_m _ _ _ _, List.forall_mem_cons.mpr ⟨bo_ild_m _ _, List.forall_mem_cons.mpr ⟨bo_st_mono bg_dup2_m, List.forall_mem_cons.mpr ⟨bo_Iald_m _ _ _, List.forall_mem_cons.mpr ⟨bo_st_mono (bg_push_m _), List.forall_mem_cons.mpr ⟨bo_st_mono (bg_ii_m _), List.forall_mem_cons.mpr ⟨bo_Iast_m _ _ _, List.forall_mem_cons.mpr ⟨bo_ald_m _ _, List.forall_mem_cons.mpr ⟨bo_gR_m _ _ _ _, fun _ h => absurd h List.not_mem_nil⟩⟩⟩⟩⟩⟩⟩⟩⟩⟩⟩⟩⟩⟩⟩⟩⟩⟩⟩⟩⟩⟩⟩⟩⟩⟩⟩⟩⟩⟩⟩⟩⟩⟩⟩⟩⟩⟩⟩⟩
set_option maxRecDepth 20000 in
theorem mT_H_giveBack_1 : ∀ q ∈ T_H_giveBack_1, bh_mono q.2 := List.forall_mem_cons.mpr ⟨bo_gR_m _ _ _ _, List.forall_mem_cons.mpr ⟨bo_ild_m _ _, List.forall_mem_cons.mpr ⟨bo_Rald_m _ _ _, List.forall_mem_cons.mpr ⟨bo_gR_m _ _ _ _, List.forall_mem_cons.mpr ⟨bo_ild_m _ _, List.forall_mem_cons.mpr ⟨bo_Iald_m _ _ _, List.forall_mem_cons.mpr ⟨bo_iret_m _, fun _ h => absurd h List.not_mem_nil⟩⟩⟩⟩⟩⟩⟩
theorem m_H_giveBack : ∀ pc, bh_mono (bh_tb (T_H_giveBack) pc) := bh_tb_m (List.forall_mem_append.mpr ⟨mT_H_giveBack_0, mT_H_giveBack_1⟩)
def F_H_giveBack : bh_Fn := bh_fn 4 (bh_tb T_H_giveBack)
theorem mF_H_giveBack : bh_monoF F_H_giveBack := bh_fn_m m_H_giveBack
theorem cl_H_giveBack {s : State} {args : Array Value} (d B : Nat) (hts : ∀ w ∈ bh_ws, w.before args s = true) : bh_Cal (bh_rm (d + 1) B) s y_H_giveBack 4 (.code y_H_giveBack c_H_giveBack 4 (some .int) :: bh_ws) (bh_rm d 4) 4 2 := bh_cal d B hts wd_710 wd_1 (by decide) (by decide +kernel)
set_option maxHeartbeats 4000000 in
set_option maxRecDepth 100000 in
theorem cn_H_giveBack {l : Launch} {G : bh_G} {base sb L : Nat} {xs : Nat → Int32} (htr : l.stackTraces = false) (d : Nat) : bh_Con l G base (bh_Bg G base sb L xs) y_H_giveBack (.code y_H_giveBack c_H_giveBack 4 (some .int) :: bh_ws) (bh_rm (d + 3) 4) 4 false F_H_giveBack := by
  refine bh_method (cc := c_H_giveBack) (ret := (some .int)) (by decide +kernel) rfl ?_
  intro p e s m args below meth c ad0 M0 Z X0 hr hlocks hname htab hbs hB
  obtain ⟨hx, hb, hml, hown, hts⟩ := id X0
  have hw : ∀ w ∈ bh_ws, w.before args s = true := fun w h => hts w (List.mem_cons_of_mem _ h)
  have hBg := bh_BgK (G := G) (base := base) (sb := sb) (L := L) (xs := xs)
  obtain ⟨hK, hAr, hen, hinj, hu1, hu2, hstr, hX, hsb, hsc, hxw, hao, hnc⟩ := id hB
  obtain ⟨ha1, ha2, ha3, ha4, ha5, ha6, ha0⟩ := bh_arr hAr
  refine List.forall_mem_append.mpr ⟨?_, List.forall_mem_cons.mpr ⟨fun S h => bs_gR (Z := Z) (C := R_V) (T := F_V) (N := 3) (t := 19) (j := 0) hx hb hK hts (fun w h => List.mem_cons_of_mem _ (iw_V w h)) hown rfl rfl (by decide) (hts _ (List.mem_cons_of_mem _ wd_192)) (fun _ h => h) rfl rfl rfl d_H_giveBack_77 h, List.forall_mem_cons.mpr ⟨fun S h => bs_iload_n (Z := Z) hx hb rfl d_H_giveBack_80 h, List.forall_mem_cons.mpr ⟨fun S h => bs_Rald (Z := Z) hx hb ha5 d_H_giveBack_81 h, List.forall_mem_cons.mpr ⟨fun S h => bs_gR (Z := Z) (C := R_S) (T := F_S) (N := 5) (t := 21) (j := 0) hx hb hK hts (fun w h => List.mem_cons_of_mem _ (iw_S w h)) hown rfl rfl (by decide) (hts _ (List.mem_cons_of_mem _ wd_173)) (fun _ h => h) rfl rfl rfl d_H_giveBack_82 h, List.forall_mem_cons.mpr ⟨fun S h => bs_iload_n (Z := Z) hx hb rfl d_H_giveBack_85 h, List.forall_mem_cons.mpr ⟨fun S h => bs_Iald (Z := Z) hx hb ha1 d_H_giveBack_86 h, List.forall_mem_cons.mpr ⟨fun S h => bs_iret (Z := Z) hx hb hr hlocks d_H_giveBack_87 h, fun _ h => absurd h List.not_mem_nil⟩⟩⟩⟩⟩⟩⟩⟩
  exact List.forall_mem_cons.mpr ⟨fun S h => bs_iload_n (Z := Z) hx hb rfl d_H_giveBack_0 h, List.forall_mem_cons.mpr ⟨fun S h => bs_callS (Z := Z) hBg hbs hB X0 (cn_H_checkBundle htr (d + 0)) (cl_H_checkBundle _ _ hw) (hts _ (List.mem_cons_of_mem _ wd_403)) (hts _ (List.mem_cons_of_mem _ wd_404)) (Nat.le_refl _) (Nat.le_refl _) d_H_giveBack_1 (bs_out htab hlocks) h, List.forall_mem_cons.mpr ⟨fun S h => bs_iload_n (Z := Z) hx hb rfl d_H_giveBack_4 h, List.forall_mem_cons.mpr ⟨fun S h => bs_callS (Z := Z) hBg hbs hB X0 (cn_H_checkService htr (d + 1)) (cl_H_checkService _ _ hw) (hts _ (List.mem_cons_of_mem _ wd_711)) (hts _ (List.mem_cons_of_mem _ wd_712)) (Nat.le_refl _) (Nat.le_refl _) d_H_giveBack_5 (bs_out htab hlocks) h, List.forall_mem_cons.mpr ⟨fun S h => bs_aload_n (Z := Z) hx hb rfl d_H_giveBack_8 h, List.forall_mem_cons.mpr ⟨fun S h => bs_iload_n (Z := Z) hx hb rfl d_H_giveBack_9 h, List.forall_mem_cons.mpr ⟨fun S h => bs_callV (Z := Z) (C := R_H) hBg hbs hB X0 hK (cn_H_present htr (d + 1)) (cl_H_present _ _ hw) (hts _ (List.mem_cons_of_mem _ wd_525)) (hts _ (List.mem_cons_of_mem _ wd_527)) (hts _ (List.mem_cons_of_mem _ ws_21)) rfl rfl rfl rfl rfl (Nat.le_refl _) (Nat.le_refl _) d_H_giveBack_10 (bs_out htab hlocks) h, List.forall_mem_cons.mpr ⟨fun S h => bs_pop (Z := Z) hx hb d_H_giveBack_13 h, List.forall_mem_cons.mpr ⟨fun S h => bs_aload_n (Z := Z) hx hb rfl d_H_giveBack_14 h, List.forall_mem_cons.mpr ⟨fun S h => bs_gR (Z := Z) (C := R_H) (T := F_H) (N := 5) (t := 3) (j := 2) hx hb hK hts (fun w h => List.mem_cons_of_mem _ (iw_H w h)) hown rfl rfl (by decide) (hts _ (List.mem_cons_of_mem _ wd_226)) (fun _ h => h) rfl rfl rfl d_H_giveBack_15 h, List.forall_mem_cons.mpr ⟨fun S h => bs_iload_n (Z := Z) hx hb rfl d_H_giveBack_18 h, List.forall_mem_cons.mpr ⟨fun S h => bs_callV (Z := Z) (C := R_V) hBg hbs hB X0 hK (cn_V_rowOf htr (d + 1)) (cl_V_rowOf _ _ hw) (hts _ (List.mem_cons_of_mem _ wd_715)) (hts _ (List.mem_cons_of_mem _ wd_716)) (hts _ (List.mem_cons_of_mem _ wd_717)) rfl rfl rfl rfl rfl (Nat.le_refl _) (Nat.le_refl _) d_H_giveBack_19 (bs_out htab hlocks) h, List.forall_mem_cons.mpr ⟨fun S h => bs_istore_n (Z := Z) hx hb rfl d_H_giveBack_22 h, List.forall_mem_cons.mpr ⟨fun S h => bs_iload_n (Z := Z) hx hb rfl d_H_giveBack_23 h, List.forall_mem_cons.mpr ⟨fun S h => bs_iconst (Z := Z) hx hb (by decide) d_H_giveBack_24 h, List.forall_mem_cons.mpr ⟨fun S h => bs_icmp_eq (Z := Z) hx hb d_H_giveBack_25 (by decide) h, List.forall_mem_cons.mpr ⟨fun S h => bs_aload_n (Z := Z) hx hb rfl d_H_giveBack_28 h, List.forall_mem_cons.mpr ⟨fun S h => bs_gR (Z := Z) (C := R_H) (T := F_H) (N := 5) (t := 3) (j := 2) hx hb hK hts (fun w h => List.mem_cons_of_mem _ (iw_H w h)) hown rfl rfl (by decide) (hts _ (List.mem_cons_of_mem _ wd_226)) (fun _ h => h) rfl rfl rfl d_H_giveBack_29 h, List.forall_mem_cons.mpr ⟨fun S h => bs_gR (Z := Z) (C := R_V) (T := F_V) (N := 3) (t := 19) (j := 0) hx hb hK hts (fun w h => List.mem_cons_of_mem _ (iw_V w h)) hown rfl rfl (by decide) (hts _ (List.mem_cons_of_mem _ wd_192)) (fun _ h => h) rfl rfl rfl d_H_giveBack_32 h, List.forall_mem_cons.mpr ⟨fun S h => bs_iload_n (Z := Z) hx hb rfl d_H_giveBack_35 h, List.forall_mem_cons.mpr ⟨fun S h => bs_Rald (Z := Z) hx hb ha5 d_H_giveBack_36 h, List.forall_mem_cons.mpr ⟨fun S h => bs_gR (Z := Z) (C := R_S) (T := F_S) (N := 5) (t := 21) (j := 0) hx hb hK hts (fun w h => List.mem_cons_of_mem _ (iw_S w h)) hown rfl rfl (by decide) (hts _ (List.mem_cons_of_mem _ wd_173)) (fun _ h => h) rfl rfl rfl d_H_giveBack_37 h, List.forall_mem_cons.mpr ⟨fun S h => bs_iload_n (Z := Z) hx hb rfl d_H_giveBack_40 h, List.forall_mem_cons.mpr ⟨fun S h => bs_Iald (Z := Z) hx hb ha1 d_H_giveBack_41 h, List.forall_mem_cons.mpr ⟨fun S h => bs_if_ne (Z := Z) hx hb d_H_giveBack_42 (by decide) h, List.forall_mem_cons.mpr ⟨fun S h => (let ⟨_, hst⟩ := hstr 214 "the bundle has not got this service" st_214; bs_thr (Z := Z) hx hb hml htr htab hlocks bh_x0_UnsupportedOperationException bh_x1_UnsupportedOperationException bh_x2_UnsupportedOperationException bh_x5_UnsupportedOperationException hown (by decide +kernel) ⟨rfl, (hts _ (List.mem_cons_of_mem _ wd_550))⟩ ⟨rfl, (hts _ (List.mem_cons_of_mem _ wd_16))⟩ hst hbs (bh_at_UnsupportedOperationException hw hB) d_H_giveBack_45 d_H_giveBack_48 (Or.inl ⟨rfl, d_H_giveBack_49⟩) d_H_giveBack_51 d_H_giveBack_54 (by show 2 + 3 < _ + 12; omega) (by show 13 * (2 + 1) + 43 ≤ 80 * _ + 200; omega) (Nat.le_refl _) (Nat.le_refl _) h), List.forall_mem_cons.mpr ⟨fun S h => bs_aload_n (Z := Z) hx hb rfl d_H_giveBack_55 h, List.forall_mem_cons.mpr ⟨fun S h => bs_gR (Z := Z) (C := R_H) (T := F_H) (N := 5) (t := 3) (j := 2) hx hb hK hts (fun w h => List.mem_cons_of_mem _ (iw_H w h)) hown rfl rfl (by decide) (hts _ (List.mem_cons_of_mem _ wd_226)) (fun _ h => h) rfl rfl rfl d_H_giveBack_56 h, List.forall_mem_cons.mpr ⟨fun S h => bs_gR (Z := Z) (C := R_V) (T := F_V) (N := 3) (t := 19) (j := 0) hx hb hK hts (fun w h => List.mem_cons_of_mem _ (iw_V w h)) hown rfl rfl (by decide) (hts _ (List.mem_cons_of_mem _ wd_192)) (fun _ h => h) rfl rfl rfl d_H_giveBack_59 h, List.forall_mem_cons.mpr ⟨fun S h => bs_iload_n (Z := Z) hx hb rfl d_H_giveBack_62 h, List.forall_mem_cons.mpr ⟨fun S h => bs_Rald (Z := Z) hx hb ha5 d_H_giveBack_63 h, List.forall_mem_cons.mpr ⟨fun S h => bs_gR (Z := Z) (C := R_S) (T := F_S) (N := 5) (t := 21) (j := 0) hx hb hK hts (fun w h => List.mem_cons_of_mem _ (iw_S w h)) hown rfl rfl (by decide) (hts _ (List.mem_cons_of_mem _ wd_173)) (fun _ h => h) rfl rfl rfl d_H_giveBack_64 h, List.forall_mem_cons.mpr ⟨fun S h => bs_iload_n (Z := Z) hx hb rfl d_H_giveBack_67 h, List.forall_mem_cons.mpr ⟨fun S h => bs_dup2 (Z := Z) hx hb d_H_giveBack_68 h, List.forall_mem_cons.mpr ⟨fun S h => bs_Iald (Z := Z) hx hb ha1 d_H_giveBack_69 h, List.forall_mem_cons.mpr ⟨fun S h => bs_iconst (Z := Z) hx hb (by decide) d_H_giveBack_70 h, List.forall_mem_cons.mpr ⟨fun S h => bs_isub (Z := Z) hx hb d_H_giveBack_71 h, List.forall_mem_cons.mpr ⟨fun S h => bs_Iast (Z := Z) hx hb ha1 d_H_giveBack_72 h, List.forall_mem_cons.mpr ⟨fun S h => bs_aload_n (Z := Z) hx hb rfl d_H_giveBack_73 h, List.forall_mem_cons.mpr ⟨fun S h => bs_gR (Z := Z) (C := R_H) (T := F_H) (N := 5) (t := 3) (j := 2) hx hb hK hts (fun w h => List.mem_cons_of_mem _ (iw_H w h)) hown rfl rfl (by decide) (hts _ (List.mem_cons_of_mem _ wd_226)) (fun _ h => h) rfl rfl rfl d_H_giveBack_74 h, fun _ h => absurd h List.not_mem_nil⟩⟩⟩⟩⟩⟩⟩⟩⟩⟩⟩⟩⟩⟩⟩⟩⟩⟩⟩⟩⟩⟩⟩⟩⟩⟩⟩⟩⟩⟩⟩⟩⟩⟩⟩⟩⟩⟩⟩⟩
abbrev c_S_gotByAll : ByteArray := prog_7_method_2_code
def y_S_gotByAll : MethodName := ⟨"BundleHall$Service", "gotByAll", "()I"⟩
theorem d_S_gotByAll_0 : decode c_S_gotByAll 0 = .ok (.iconst 0, 1) := by decide +kernel
theorem d_S_gotByAll_1 : decode c_S_gotByAll 1 = .ok (.istore_n 1, 1) := by decide +kernel
theorem d_S_gotByAll_2 : decode c_S_gotByAll 2 = .ok (.iconst 0, 1) := by decide +kernel
theorem d_S_gotByAll_3 : decode c_S_gotByAll 3 = .ok (.istore_n 2, 1) := by decide +kernel
theorem d_S_gotByAll_4 : decode c_S_gotByAll 4 = .ok (.iload_n 2, 1) := by decide +kernel
theorem d_S_gotByAll_5 : decode c_S_gotByAll 5 = .ok (.bipush 8, 2) := by decide +kernel
theorem d_S_gotByAll_7 : decode c_S_gotByAll 7 = .ok (.if_icmp .ge 18, 3) := by decide +kernel
theorem d_S_gotByAll_10 : decode c_S_gotByAll 10 = .ok (.iload_n 1, 1) := by decide +kernel
theorem d_S_gotByAll_11 : decode c_S_gotByAll 11 = .ok (.aload_n 0, 1) := by decide +kernel
theorem d_S_gotByAll_12 : decode c_S_gotByAll 12 = .ok (.getfield 9, 3) := by decide +kernel
theorem d_S_gotByAll_15 : decode c_S_gotByAll 15 = .ok (.iload_n 2, 1) := by decide +kernel
theorem d_S_gotByAll_16 : decode c_S_gotByAll 16 = .ok (.iaload, 1) := by decide +kernel
theorem d_S_gotByAll_17 : decode c_S_gotByAll 17 = .ok (.iadd, 1) := by decide +kernel
theorem d_S_gotByAll_18 : decode c_S_gotByAll 18 = .ok (.istore_n 1, 1) := by decide +kernel
theorem d_S_gotByAll_19 : decode c_S_gotByAll 19 = .ok (.iinc 2 1, 3) := by decide +kernel
theorem d_S_gotByAll_22 : decode c_S_gotByAll 22 = .ok (.goto (-18), 3) := by decide +kernel
theorem d_S_gotByAll_25 : decode c_S_gotByAll 25 = .ok (.iload_n 1, 1) := by decide +kernel
theorem d_S_gotByAll_26 : decode c_S_gotByAll 26 = .ok (.ireturn, 1) := by decide +kernel
def T_S_gotByAll_0 : List (Nat × bh_Op) := [(0, bo_st 1 (bg_push (.inl (.int 0)))),
  (1, bo_ist 2 1),
  (2, bo_st 3 (bg_push (.inl (.int 0)))),
  (3, bo_ist 4 2),
  (4, bo_ild 5 2),
  (5, bo_st 7 (bg_push (.inl (.int 8)))),
  (7, bo_if2 10 25 (fun x y => y ≤ x)),
  (10, bo_ild 11 1),
  (11, bo_ald 12 0),
  (12, bo_gR 15 21 0 22),
  (15, bo_ild 16 2),
  (16, bo_Iald bh_ak bh_al 17),
  (17, bo_st 18 (bg_ii (fun x y => x + y))),
  (18, bo_ist 19 1),
  (19, bo_inc 22 2 1),
  (22, bo_go 4),
  (25, bo_ild 26 1),
  (26, bo_iret 0)]
def T_S_gotByAll : List (Nat × bh_Op) := T_S_gotByAll_0
set_option maxRecDepth 20000 in
theorem mT_S_gotByAll_0 : ∀ q ∈ T_S_gotByAll_0, bh_mono q.2 := List.forall_mem_cons.mpr ⟨bo_st_mono (bg_push_m _), List.forall_mem_cons.mpr ⟨bo_ist_m _ _, List.forall_mem_cons.mpr ⟨bo_st_mono (bg_push_m _), List.forall_mem_cons.mpr ⟨bo_ist_m _ _, List.forall_mem_cons.mpr ⟨bo_ild_m _ _, List.forall_mem_cons.mpr ⟨bo_st_mono (bg_push_m _), List.forall_mem_cons.mpr ⟨bo_if2_m _ _ _, List.forall_mem_cons.mpr ⟨bo_ild_m _ _, List.forall_mem_cons.mpr ⟨bo_ald_m _ _, List.forall_mem_cons.mpr ⟨bo_gR_m _ _ _ _, List.forall_mem_cons.mpr ⟨bo_ild_m _ _, List.forall_mem_cons.mpr ⟨bo_Iald_m _ _ _, List.forall_mem_cons.mpr ⟨bo_st_mono (bg_ii_m _), List.forall_mem_cons.mpr ⟨bo_ist_m _ _, List.forall_mem_cons.mpr ⟨bo_inc_m _ _ _, List.forall_mem_cons.mpr ⟨bo_go_m _, List.forall_mem_cons.mpr ⟨bo_ild_m _ _, List.forall_mem_cons.mpr ⟨bo_iret_m _, fun _ h => absurd h List.not_mem_nil⟩⟩⟩⟩⟩⟩⟩⟩⟩⟩⟩⟩⟩⟩⟩⟩⟩⟩
theorem m_S_gotByAll : ∀ pc, bh_mono (bh_tb (T_S_gotByAll) pc) := bh_tb_m mT_S_gotByAll_0
def F_S_gotByAll : bh_Fn := bh_fn 3 (bh_tb T_S_gotByAll)
theorem mF_S_gotByAll : bh_monoF F_S_gotByAll := bh_fn_m m_S_gotByAll
theorem cl_S_gotByAll {s : State} {args : Array Value} (d B : Nat) (hts : ∀ w ∈ bh_ws, w.before args s = true) : bh_Cal (bh_rm (d + 1) B) s y_S_gotByAll 3 (.code y_S_gotByAll c_S_gotByAll 3 (some .int) :: bh_ws) (bh_rm d 0) 0 0 := bh_cal d B hts wd_731 wd_7 (by decide) (by decide +kernel)
set_option maxHeartbeats 4000000 in
set_option maxRecDepth 100000 in
theorem cn_S_gotByAll {l : Launch} {G : bh_G} {base sb L : Nat} {xs : Nat → Int32} (htr : l.stackTraces = false) (d : Nat) : bh_Con l G base (bh_Bg G base sb L xs) y_S_gotByAll (.code y_S_gotByAll c_S_gotByAll 3 (some .int) :: bh_ws) (bh_rm (d + 1) 0) 0 false F_S_gotByAll := by
  refine bh_method (cc := c_S_gotByAll) (ret := (some .int)) (by decide +kernel) rfl ?_
  intro p e s m args below meth c ad0 M0 Z X0 hr hlocks hname htab hbs hB
  obtain ⟨hx, hb, hml, hown, hts⟩ := id X0
  have hw : ∀ w ∈ bh_ws, w.before args s = true := fun w h => hts w (List.mem_cons_of_mem _ h)
  have hBg := bh_BgK (G := G) (base := base) (sb := sb) (L := L) (xs := xs)
  obtain ⟨hK, hAr, hen, hinj, hu1, hu2, hstr, hX, hsb, hsc, hxw, hao, hnc⟩ := id hB
  obtain ⟨ha1, ha2, ha3, ha4, ha5, ha6, ha0⟩ := bh_arr hAr
  exact List.forall_mem_cons.mpr ⟨fun S h => bs_iconst (Z := Z) hx hb (by decide) d_S_gotByAll_0 h, List.forall_mem_cons.mpr ⟨fun S h => bs_istore_n (Z := Z) hx hb rfl d_S_gotByAll_1 h, List.forall_mem_cons.mpr ⟨fun S h => bs_iconst (Z := Z) hx hb (by decide) d_S_gotByAll_2 h, List.forall_mem_cons.mpr ⟨fun S h => bs_istore_n (Z := Z) hx hb rfl d_S_gotByAll_3 h, List.forall_mem_cons.mpr ⟨fun S h => bs_iload_n (Z := Z) hx hb rfl d_S_gotByAll_4 h, List.forall_mem_cons.mpr ⟨fun S h => bs_bipush (Z := Z) hx hb (by decide) d_S_gotByAll_5 h, List.forall_mem_cons.mpr ⟨fun S h => bs_icmp_ge (Z := Z) hx hb d_S_gotByAll_7 (by decide) h, List.forall_mem_cons.mpr ⟨fun S h => bs_iload_n (Z := Z) hx hb rfl d_S_gotByAll_10 h, List.forall_mem_cons.mpr ⟨fun S h => bs_aload_n (Z := Z) hx hb rfl d_S_gotByAll_11 h, List.forall_mem_cons.mpr ⟨fun S h => bs_gR (Z := Z) (C := R_S) (T := F_S) (N := 5) (t := 21) (j := 0) hx hb hK hts (fun w h => List.mem_cons_of_mem _ (iw_S w h)) hown rfl rfl (by decide) (hts _ (List.mem_cons_of_mem _ wd_171)) (fun _ h => h) rfl rfl rfl d_S_gotByAll_12 h, List.forall_mem_cons.mpr ⟨fun S h => bs_iload_n (Z := Z) hx hb rfl d_S_gotByAll_15 h, List.forall_mem_cons.mpr ⟨fun S h => bs_Iald (Z := Z) hx hb ha1 d_S_gotByAll_16 h, List.forall_mem_cons.mpr ⟨fun S h => bs_iadd (Z := Z) hx hb d_S_gotByAll_17 h, List.forall_mem_cons.mpr ⟨fun S h => bs_istore_n (Z := Z) hx hb rfl d_S_gotByAll_18 h, List.forall_mem_cons.mpr ⟨fun S h => bs_iinc (Z := Z) hx hb (by decide) d_S_gotByAll_19 h, List.forall_mem_cons.mpr ⟨fun S h => bs_goto (Z := Z) hx hb d_S_gotByAll_22 (by decide) h, List.forall_mem_cons.mpr ⟨fun S h => bs_iload_n (Z := Z) hx hb rfl d_S_gotByAll_25 h, List.forall_mem_cons.mpr ⟨fun S h => bs_iret (Z := Z) hx hb hr hlocks d_S_gotByAll_26 h, fun _ h => absurd h List.not_mem_nil⟩⟩⟩⟩⟩⟩⟩⟩⟩⟩⟩⟩⟩⟩⟩⟩⟩⟩
abbrev c_H_unregister : ByteArray := prog_1_method_15_code
def y_H_unregister : MethodName := ⟨"BundleHall", "unregister", "(II)I"⟩
theorem d_H_unregister_0 : decode c_H_unregister 0 = .ok (.iload_n 1, 1) := by decide +kernel
theorem d_H_unregister_1 : decode c_H_unregister 1 = .ok (.invokestatic 43, 3) := by decide +kernel
theorem d_H_unregister_4 : decode c_H_unregister 4 = .ok (.iload_n 2, 1) := by decide +kernel
theorem d_H_unregister_5 : decode c_H_unregister 5 = .ok (.invokestatic 208, 3) := by decide +kernel
theorem d_H_unregister_8 : decode c_H_unregister 8 = .ok (.aload_n 0, 1) := by decide +kernel
theorem d_H_unregister_9 : decode c_H_unregister 9 = .ok (.iload_n 1, 1) := by decide +kernel
theorem d_H_unregister_10 : decode c_H_unregister 10 = .ok (.invokevirtual 100, 3) := by decide +kernel
theorem d_H_unregister_13 : decode c_H_unregister 13 = .ok (.pop, 1) := by decide +kernel
theorem d_H_unregister_14 : decode c_H_unregister 14 = .ok (.aload_n 0, 1) := by decide +kernel
theorem d_H_unregister_15 : decode c_H_unregister 15 = .ok (.getfield 28, 3) := by decide +kernel
theorem d_H_unregister_18 : decode c_H_unregister 18 = .ok (.iload_n 2, 1) := by decide +kernel
theorem d_H_unregister_19 : decode c_H_unregister 19 = .ok (.invokevirtual 211, 3) := by decide +kernel
theorem d_H_unregister_22 : decode c_H_unregister 22 = .ok (.istore_n 3, 1) := by decide +kernel
theorem d_H_unregister_23 : decode c_H_unregister 23 = .ok (.iload_n 3, 1) := by decide +kernel
theorem d_H_unregister_24 : decode c_H_unregister 24 = .ok (.iconst (-1), 1) := by decide +kernel
theorem d_H_unregister_25 : decode c_H_unregister 25 = .ok (.if_icmp .eq 19, 3) := by decide +kernel
theorem d_H_unregister_28 : decode c_H_unregister 28 = .ok (.aload_n 0, 1) := by decide +kernel
theorem d_H_unregister_29 : decode c_H_unregister 29 = .ok (.getfield 28, 3) := by decide +kernel
theorem d_H_unregister_32 : decode c_H_unregister 32 = .ok (.getfield 195, 3) := by decide +kernel
theorem d_H_unregister_35 : decode c_H_unregister 35 = .ok (.iload_n 3, 1) := by decide +kernel
theorem d_H_unregister_36 : decode c_H_unregister 36 = .ok (.aaload, 1) := by decide +kernel
theorem d_H_unregister_37 : decode c_H_unregister 37 = .ok (.getfield 216, 3) := by decide +kernel
theorem d_H_unregister_40 : decode c_H_unregister 40 = .ok (.iload_n 1, 1) := by decide +kernel
theorem d_H_unregister_41 : decode c_H_unregister 41 = .ok (.if_icmp .eq 13, 3) := by decide +kernel
theorem d_H_unregister_44 : decode c_H_unregister 44 = .ok (.new 77, 3) := by decide +kernel
theorem d_H_unregister_47 : decode c_H_unregister 47 = .ok (.dup, 1) := by decide +kernel
theorem d_H_unregister_48 : decode c_H_unregister 48 = .ok (.ldc 219, 2) := by decide +kernel
theorem d_H_unregister_50 : decode c_H_unregister 50 = .ok (.invokespecial 81, 3) := by decide +kernel
theorem d_H_unregister_53 : decode c_H_unregister 53 = .ok (.athrow, 1) := by decide +kernel
theorem d_H_unregister_54 : decode c_H_unregister 54 = .ok (.aload_n 0, 1) := by decide +kernel
theorem d_H_unregister_55 : decode c_H_unregister 55 = .ok (.getfield 28, 3) := by decide +kernel
theorem d_H_unregister_58 : decode c_H_unregister 58 = .ok (.getfield 195, 3) := by decide +kernel
theorem d_H_unregister_61 : decode c_H_unregister 61 = .ok (.iload_n 3, 1) := by decide +kernel
theorem d_H_unregister_62 : decode c_H_unregister 62 = .ok (.aaload, 1) := by decide +kernel
theorem d_H_unregister_63 : decode c_H_unregister 63 = .ok (.invokevirtual 221, 3) := by decide +kernel
theorem d_H_unregister_66 : decode c_H_unregister 66 = .ok (.istore 4, 2) := by decide +kernel
theorem d_H_unregister_68 : decode c_H_unregister 68 = .ok (.aload_n 0, 1) := by decide +kernel
theorem d_H_unregister_69 : decode c_H_unregister 69 = .ok (.iload_n 3, 1) := by decide +kernel
theorem d_H_unregister_70 : decode c_H_unregister 70 = .ok (.invokevirtual 224, 3) := by decide +kernel
theorem d_H_unregister_73 : decode c_H_unregister 73 = .ok (.iload 4, 2) := by decide +kernel
theorem d_H_unregister_75 : decode c_H_unregister 75 = .ok (.ireturn, 1) := by decide +kernel
def T_H_unregister_0 : List (Nat × bh_Op) := [(0, bo_ild 1 1),
  (1, bo_callS 4 1 1 4 F_H_checkBundle),
  (4, bo_ild 5 2),
  (5, bo_callS 8 1 1 4 F_H_checkService),
  (8, bo_ald 9 0),
  (9, bo_ild 10 1),
  (10, bo_callV 13 2 1 4 3 F_H_present),
  (13, bo_st 14 bg_pop),
  (14, bo_ald 15 0),
  (15, bo_gR 18 3 2 19),
  (18, bo_ild 19 2),
  (19, bo_callV 22 2 0 4 19 F_V_rowOf),
  (22, bo_ist 23 3),
  (23, bo_ild 24 3),
  (24, bo_st 25 (bg_push (.inl (.int (-1))))),
  (25, bo_if2 28 44 (fun x y => x = y)),
  (28, bo_ald 29 0),
  (29, bo_gR 32 3 2 19),
  (32, bo_gR 35 19 0 20),
  (35, bo_ild 36 3),
  (36, bo_Rald bh_ak bh_al 37),
  (37, bo_gI 40 21 2),
  (40, bo_ild 41 1),
  (41, bo_if2 44 54 (fun x y => x = y)),
  (44, bo_thr 4 "java/lang/UnsupportedOperationException"),
  (54, bo_ald 55 0),
  (55, bo_gR 58 3 2 19),
  (58, bo_gR 61 19 0 20),
  (61, bo_ild 62 3),
  (62, bo_Rald bh_ak bh_al 63),
  (63, bo_callV 66 1 0 4 21 F_S_gotByAll),
  (66, bo_ist 68 4),
  (68, bo_ald 69 0),
  (69, bo_ild 70 3),
  (70, bo_callV 73 2 0 4 3 F_H_dropService),
  (73, bo_ild 75 4),
  (75, bo_iret 4)]
def T_H_unregister : List (Nat × bh_Op) := T_H_unregister_0
set_option maxRecDepth 20000 in
theorem mT_H_unregister_0 : ∀ q ∈ T_H_unregister_0, bh_mono q.2 := List.forall_mem_cons.mpr ⟨bo_ild_m _ _, List.forall_mem_cons.mpr ⟨bo_callS_m (mF_H_checkBundle) _ _ _ _, List.forall_mem_cons.mpr ⟨bo_ild_m _ _, List.forall_mem_cons.mpr ⟨bo_callS_m (mF_H_checkService) _ _ _ _, List.forall_mem_cons.mpr ⟨bo_ald_m _ _, List.forall_mem_cons.mpr ⟨bo_ild_m _ _, List.forall_mem_cons.mpr ⟨bo_callV_m (mF_H_present) _ _ _ _ _, List.forall_mem_cons.mpr ⟨bo_st_mono bg_pop_m, List.forall_mem_cons.mpr ⟨bo_ald_m _ _, List.forall_mem_cons.mpr ⟨bo_gR_m _ _ _ _, List.forall_mem_cons.mpr ⟨bo_ild_m _ _, List.forall_mem_cons.mpr ⟨bo_callV_m (mF_V_rowOf) _ _ _ _ _, List.forall_mem_cons.mpr ⟨bo_ist_m _ _, List.forall_mem_cons.mpr ⟨bo_ild_m _ _, List.forall_mem_cons.mpr ⟨bo_st_mono (bg_push_m _), List.forall_mem_cons.mpr ⟨bo_if2_m _ _ _, List.forall_mem_cons.mpr ⟨bo_ald_m _ _, List.forall_mem_cons.mpr ⟨bo_gR_m _ _ _ _, List.forall_mem_cons.mpr ⟨bo_gR_m _ _ _ _, List.forall_mem_cons.mpr ⟨bo_ild_m _ _, List.forall_mem_cons.mpr ⟨bo_Rald_m _ _ _, List.forall_mem_cons.mpr ⟨bo_gI_m _ _ _, List.forall_mem_cons.mpr ⟨bo_ild_m _ _, List.forall_mem_cons.mpr ⟨bo_if2_m _ _ _, List.forall_mem_cons.mpr ⟨bo_thr_m _ _, List.forall_mem_cons.mpr ⟨bo_ald_m _ _, List.forall_mem_cons.mpr ⟨bo_gR_m _ _ _ _, List.forall_mem_cons.mpr ⟨bo_gR_m _ _ _ _, List.forall_mem_cons.mpr ⟨bo_ild_m _ _, List.forall_mem_cons.mpr ⟨bo_Rald_m _ _ _, List.forall_mem_cons.mpr ⟨bo_callV_m (mF_S_gotByAll) _ _ _ _ _, List.forall_mem_cons.mpr ⟨bo_ist_m _ _, List.forall_mem_cons.mpr ⟨bo_ald_m _ _, List.forall_mem_cons.mpr ⟨bo_ild_m _ _, List.forall_mem_cons.mpr ⟨bo_callV_m (mF_H_dropService) _ _ _ _ _, List.forall_mem_cons.mpr ⟨bo_ild_m _ _, List.forall_mem_cons.mpr ⟨bo_iret_m _, fun _ h => absurd h List.not_mem_nil⟩⟩⟩⟩⟩⟩⟩⟩⟩⟩⟩⟩⟩⟩⟩⟩⟩⟩⟩⟩⟩⟩⟩⟩⟩⟩⟩⟩⟩⟩⟩⟩⟩⟩⟩⟩⟩
theorem m_H_unregister : ∀ pc, bh_mono (bh_tb (T_H_unregister) pc) := bh_tb_m mT_H_unregister_0
def F_H_unregister : bh_Fn := bh_fn 5 (bh_tb T_H_unregister)
theorem mF_H_unregister : bh_monoF F_H_unregister := bh_fn_m m_H_unregister
theorem cl_H_unregister {s : State} {args : Array Value} (d B : Nat) (hts : ∀ w ∈ bh_ws, w.before args s = true) : bh_Cal (bh_rm (d + 1) B) s y_H_unregister 5 (.code y_H_unregister c_H_unregister 5 (some .int) :: bh_ws) (bh_rm d 4) 4 2 := bh_cal d B hts wd_726 wd_1 (by decide) (by decide +kernel)
set_option maxHeartbeats 4000000 in
set_option maxRecDepth 100000 in
theorem cn_H_unregister {l : Launch} {G : bh_G} {base sb L : Nat} {xs : Nat → Int32} (htr : l.stackTraces = false) (d : Nat) : bh_Con l G base (bh_Bg G base sb L xs) y_H_unregister (.code y_H_unregister c_H_unregister 5 (some .int) :: bh_ws) (bh_rm (d + 3) 4) 4 false F_H_unregister := by
  refine bh_method (cc := c_H_unregister) (ret := (some .int)) (by decide +kernel) rfl ?_
  intro p e s m args below meth c ad0 M0 Z X0 hr hlocks hname htab hbs hB
  obtain ⟨hx, hb, hml, hown, hts⟩ := id X0
  have hw : ∀ w ∈ bh_ws, w.before args s = true := fun w h => hts w (List.mem_cons_of_mem _ h)
  have hBg := bh_BgK (G := G) (base := base) (sb := sb) (L := L) (xs := xs)
  obtain ⟨hK, hAr, hen, hinj, hu1, hu2, hstr, hX, hsb, hsc, hxw, hao, hnc⟩ := id hB
  obtain ⟨ha1, ha2, ha3, ha4, ha5, ha6, ha0⟩ := bh_arr hAr
  exact List.forall_mem_cons.mpr ⟨fun S h => bs_iload_n (Z := Z) hx hb rfl d_H_unregister_0 h, List.forall_mem_cons.mpr ⟨fun S h => bs_callS (Z := Z) hBg hbs hB X0 (cn_H_checkBundle htr (d + 0)) (cl_H_checkBundle _ _ hw) (hts _ (List.mem_cons_of_mem _ wd_403)) (hts _ (List.mem_cons_of_mem _ wd_404)) (Nat.le_refl _) (Nat.le_refl _) d_H_unregister_1 (bs_out htab hlocks) h, List.forall_mem_cons.mpr ⟨fun S h => bs_iload_n (Z := Z) hx hb rfl d_H_unregister_4 h, List.forall_mem_cons.mpr ⟨fun S h => bs_callS (Z := Z) hBg hbs hB X0 (cn_H_checkService htr (d + 1)) (cl_H_checkService _ _ hw) (hts _ (List.mem_cons_of_mem _ wd_711)) (hts _ (List.mem_cons_of_mem _ wd_712)) (Nat.le_refl _) (Nat.le_refl _) d_H_unregister_5 (bs_out htab hlocks) h, List.forall_mem_cons.mpr ⟨fun S h => bs_aload_n (Z := Z) hx hb rfl d_H_unregister_8 h, List.forall_mem_cons.mpr ⟨fun S h => bs_iload_n (Z := Z) hx hb rfl d_H_unregister_9 h, List.forall_mem_cons.mpr ⟨fun S h => bs_callV (Z := Z) (C := R_H) hBg hbs hB X0 hK (cn_H_present htr (d + 1)) (cl_H_present _ _ hw) (hts _ (List.mem_cons_of_mem _ wd_525)) (hts _ (List.mem_cons_of_mem _ wd_527)) (hts _ (List.mem_cons_of_mem _ ws_21)) rfl rfl rfl rfl rfl (Nat.le_refl _) (Nat.le_refl _) d_H_unregister_10 (bs_out htab hlocks) h, List.forall_mem_cons.mpr ⟨fun S h => bs_pop (Z := Z) hx hb d_H_unregister_13 h, List.forall_mem_cons.mpr ⟨fun S h => bs_aload_n (Z := Z) hx hb rfl d_H_unregister_14 h, List.forall_mem_cons.mpr ⟨fun S h => bs_gR (Z := Z) (C := R_H) (T := F_H) (N := 5) (t := 3) (j := 2) hx hb hK hts (fun w h => List.mem_cons_of_mem _ (iw_H w h)) hown rfl rfl (by decide) (hts _ (List.mem_cons_of_mem _ wd_226)) (fun _ h => h) rfl rfl rfl d_H_unregister_15 h, List.forall_mem_cons.mpr ⟨fun S h => bs_iload_n (Z := Z) hx hb rfl d_H_unregister_18 h, List.forall_mem_cons.mpr ⟨fun S h => bs_callV (Z := Z) (C := R_V) hBg hbs hB X0 hK (cn_V_rowOf htr (d + 1)) (cl_V_rowOf _ _ hw) (hts _ (List.mem_cons_of_mem _ wd_715)) (hts _ (List.mem_cons_of_mem _ wd_716)) (hts _ (List.mem_cons_of_mem _ wd_717)) rfl rfl rfl rfl rfl (Nat.le_refl _) (Nat.le_refl _) d_H_unregister_19 (bs_out htab hlocks) h, List.forall_mem_cons.mpr ⟨fun S h => bs_istore_n (Z := Z) hx hb rfl d_H_unregister_22 h, List.forall_mem_cons.mpr ⟨fun S h => bs_iload_n (Z := Z) hx hb rfl d_H_unregister_23 h, List.forall_mem_cons.mpr ⟨fun S h => bs_iconst (Z := Z) hx hb (by decide) d_H_unregister_24 h, List.forall_mem_cons.mpr ⟨fun S h => bs_icmp_eq (Z := Z) hx hb d_H_unregister_25 (by decide) h, List.forall_mem_cons.mpr ⟨fun S h => bs_aload_n (Z := Z) hx hb rfl d_H_unregister_28 h, List.forall_mem_cons.mpr ⟨fun S h => bs_gR (Z := Z) (C := R_H) (T := F_H) (N := 5) (t := 3) (j := 2) hx hb hK hts (fun w h => List.mem_cons_of_mem _ (iw_H w h)) hown rfl rfl (by decide) (hts _ (List.mem_cons_of_mem _ wd_226)) (fun _ h => h) rfl rfl rfl d_H_unregister_29 h, List.forall_mem_cons.mpr ⟨fun S h => bs_gR (Z := Z) (C := R_V) (T := F_V) (N := 3) (t := 19) (j := 0) hx hb hK hts (fun w h => List.mem_cons_of_mem _ (iw_V w h)) hown rfl rfl (by decide) (hts _ (List.mem_cons_of_mem _ wd_192)) (fun _ h => h) rfl rfl rfl d_H_unregister_32 h, List.forall_mem_cons.mpr ⟨fun S h => bs_iload_n (Z := Z) hx hb rfl d_H_unregister_35 h, List.forall_mem_cons.mpr ⟨fun S h => bs_Rald (Z := Z) hx hb ha5 d_H_unregister_36 h, List.forall_mem_cons.mpr ⟨fun S h => bs_gI (Z := Z) (C := R_S) (T := F_S) (N := 5) (t := 21) (j := 2) hx hb hK hts (fun w h => List.mem_cons_of_mem _ (iw_S w h)) hown rfl rfl (by decide) (hts _ (List.mem_cons_of_mem _ wd_177)) (fun _ h => h) rfl rfl rfl d_H_unregister_37 h, List.forall_mem_cons.mpr ⟨fun S h => bs_iload_n (Z := Z) hx hb rfl d_H_unregister_40 h, List.forall_mem_cons.mpr ⟨fun S h => bs_icmp_eq (Z := Z) hx hb d_H_unregister_41 (by decide) h, List.forall_mem_cons.mpr ⟨fun S h => (let ⟨_, hst⟩ := hstr 219 "the bundle has no such service" st_219; bs_thr (Z := Z) hx hb hml htr htab hlocks bh_x0_UnsupportedOperationException bh_x1_UnsupportedOperationException bh_x2_UnsupportedOperationException bh_x5_UnsupportedOperationException hown (by decide +kernel) ⟨rfl, (hts _ (List.mem_cons_of_mem _ wd_550))⟩ ⟨rfl, (hts _ (List.mem_cons_of_mem _ wd_16))⟩ hst hbs (bh_at_UnsupportedOperationException hw hB) d_H_unregister_44 d_H_unregister_47 (Or.inl ⟨rfl, d_H_unregister_48⟩) d_H_unregister_50 d_H_unregister_53 (by show 2 + 3 < _ + 12; omega) (by show 13 * (2 + 1) + 43 ≤ 80 * _ + 200; omega) (Nat.le_refl _) (Nat.le_refl _) h), List.forall_mem_cons.mpr ⟨fun S h => bs_aload_n (Z := Z) hx hb rfl d_H_unregister_54 h, List.forall_mem_cons.mpr ⟨fun S h => bs_gR (Z := Z) (C := R_H) (T := F_H) (N := 5) (t := 3) (j := 2) hx hb hK hts (fun w h => List.mem_cons_of_mem _ (iw_H w h)) hown rfl rfl (by decide) (hts _ (List.mem_cons_of_mem _ wd_226)) (fun _ h => h) rfl rfl rfl d_H_unregister_55 h, List.forall_mem_cons.mpr ⟨fun S h => bs_gR (Z := Z) (C := R_V) (T := F_V) (N := 3) (t := 19) (j := 0) hx hb hK hts (fun w h => List.mem_cons_of_mem _ (iw_V w h)) hown rfl rfl (by decide) (hts _ (List.mem_cons_of_mem _ wd_192)) (fun _ h => h) rfl rfl rfl d_H_unregister_58 h, List.forall_mem_cons.mpr ⟨fun S h => bs_iload_n (Z := Z) hx hb rfl d_H_unregister_61 h, List.forall_mem_cons.mpr ⟨fun S h => bs_Rald (Z := Z) hx hb ha5 d_H_unregister_62 h, List.forall_mem_cons.mpr ⟨fun S h => bs_callV (Z := Z) (C := R_S) hBg hbs hB X0 hK (cn_S_gotByAll htr (d + 1)) (cl_S_gotByAll _ _ hw) (hts _ (List.mem_cons_of_mem _ wd_728)) (hts _ (List.mem_cons_of_mem _ wd_729)) (hts _ (List.mem_cons_of_mem _ wd_730)) rfl rfl rfl rfl rfl (Nat.le_refl _) (Nat.le_refl _) d_H_unregister_63 (bs_out htab hlocks) h, List.forall_mem_cons.mpr ⟨fun S h => bs_istore (Z := Z) hx hb d_H_unregister_66 h, List.forall_mem_cons.mpr ⟨fun S h => bs_aload_n (Z := Z) hx hb rfl d_H_unregister_68 h, List.forall_mem_cons.mpr ⟨fun S h => bs_iload_n (Z := Z) hx hb rfl d_H_unregister_69 h, List.forall_mem_cons.mpr ⟨fun S h => bs_callV (Z := Z) (C := R_H) hBg hbs hB X0 hK (cn_H_dropService htr (d + 0)) (cl_H_dropService _ _ hw) (hts _ (List.mem_cons_of_mem _ wd_273)) (hts _ (List.mem_cons_of_mem _ wd_275)) (hts _ (List.mem_cons_of_mem _ ws_4)) rfl rfl rfl rfl rfl (Nat.le_refl _) (Nat.le_refl _) d_H_unregister_70 (bs_out htab hlocks) h, List.forall_mem_cons.mpr ⟨fun S h => bs_iload (Z := Z) hx hb d_H_unregister_73 h, List.forall_mem_cons.mpr ⟨fun S h => bs_iret (Z := Z) hx hb hr hlocks d_H_unregister_75 h, fun _ h => absurd h List.not_mem_nil⟩⟩⟩⟩⟩⟩⟩⟩⟩⟩⟩⟩⟩⟩⟩⟩⟩⟩⟩⟩⟩⟩⟩⟩⟩⟩⟩⟩⟩⟩⟩⟩⟩⟩⟩⟩⟩
abbrev c_V_ofKind : ByteArray := prog_8_method_8_code
def y_V_ofKind : MethodName := ⟨"BundleHall$Services", "ofKind", "(I)I"⟩
theorem d_V_ofKind_0 : decode c_V_ofKind 0 = .ok (.iconst 0, 1) := by decide +kernel
theorem d_V_ofKind_1 : decode c_V_ofKind 1 = .ok (.istore_n 2, 1) := by decide +kernel
theorem d_V_ofKind_2 : decode c_V_ofKind 2 = .ok (.iconst 0, 1) := by decide +kernel
theorem d_V_ofKind_3 : decode c_V_ofKind 3 = .ok (.istore_n 3, 1) := by decide +kernel
theorem d_V_ofKind_4 : decode c_V_ofKind 4 = .ok (.iload_n 3, 1) := by decide +kernel
theorem d_V_ofKind_5 : decode c_V_ofKind 5 = .ok (.aload_n 0, 1) := by decide +kernel
theorem d_V_ofKind_6 : decode c_V_ofKind 6 = .ok (.getfield 18, 3) := by decide +kernel
theorem d_V_ofKind_9 : decode c_V_ofKind 9 = .ok (.if_icmp .ge 25, 3) := by decide +kernel
theorem d_V_ofKind_12 : decode c_V_ofKind 12 = .ok (.aload_n 0, 1) := by decide +kernel
theorem d_V_ofKind_13 : decode c_V_ofKind 13 = .ok (.getfield 11, 3) := by decide +kernel
theorem d_V_ofKind_16 : decode c_V_ofKind 16 = .ok (.iload_n 3, 1) := by decide +kernel
theorem d_V_ofKind_17 : decode c_V_ofKind 17 = .ok (.aaload, 1) := by decide +kernel
theorem d_V_ofKind_18 : decode c_V_ofKind 18 = .ok (.getfield 31, 3) := by decide +kernel
theorem d_V_ofKind_21 : decode c_V_ofKind 21 = .ok (.iload_n 1, 1) := by decide +kernel
theorem d_V_ofKind_22 : decode c_V_ofKind 22 = .ok (.if_icmp .ne 6, 3) := by decide +kernel
theorem d_V_ofKind_25 : decode c_V_ofKind 25 = .ok (.iinc 2 1, 3) := by decide +kernel
theorem d_V_ofKind_28 : decode c_V_ofKind 28 = .ok (.iinc 3 1, 3) := by decide +kernel
theorem d_V_ofKind_31 : decode c_V_ofKind 31 = .ok (.goto (-27), 3) := by decide +kernel
theorem d_V_ofKind_34 : decode c_V_ofKind 34 = .ok (.iload_n 2, 1) := by decide +kernel
theorem d_V_ofKind_35 : decode c_V_ofKind 35 = .ok (.ireturn, 1) := by decide +kernel
def T_V_ofKind_0 : List (Nat × bh_Op) := [(0, bo_st 1 (bg_push (.inl (.int 0)))),
  (1, bo_ist 2 2),
  (2, bo_st 3 (bg_push (.inl (.int 0)))),
  (3, bo_ist 4 3),
  (4, bo_ild 5 3),
  (5, bo_ald 6 0),
  (6, bo_gI 9 19 1),
  (9, bo_if2 12 34 (fun x y => y ≤ x)),
  (12, bo_ald 13 0),
  (13, bo_gR 16 19 0 20),
  (16, bo_ild 17 3),
  (17, bo_Rald bh_ak bh_al 18),
  (18, bo_gI 21 21 3),
  (21, bo_ild 22 1),
  (22, bo_if2 25 28 (fun x y => ¬ x = y)),
  (25, bo_inc 28 2 1),
  (28, bo_inc 31 3 1),
  (31, bo_go 4),
  (34, bo_ild 35 2),
  (35, bo_iret 0)]
def T_V_ofKind : List (Nat × bh_Op) := T_V_ofKind_0
set_option maxRecDepth 20000 in
theorem mT_V_ofKind_0 : ∀ q ∈ T_V_ofKind_0, bh_mono q.2 := List.forall_mem_cons.mpr ⟨bo_st_mono (bg_push_m _), List.forall_mem_cons.mpr ⟨bo_ist_m _ _, List.forall_mem_cons.mpr ⟨bo_st_mono (bg_push_m _), List.forall_mem_cons.mpr ⟨bo_ist_m _ _, List.forall_mem_cons.mpr ⟨bo_ild_m _ _, List.forall_mem_cons.mpr ⟨bo_ald_m _ _, List.forall_mem_cons.mpr ⟨bo_gI_m _ _ _, List.forall_mem_cons.mpr ⟨bo_if2_m _ _ _, List.forall_mem_cons.mpr ⟨bo_ald_m _ _, List.forall_mem_cons.mpr ⟨bo_gR_m _ _ _ _, List.forall_mem_cons.mpr ⟨bo_ild_m _ _, List.forall_mem_cons.mpr ⟨bo_Rald_m _ _ _, List.forall_mem_cons.mpr ⟨bo_gI_m _ _ _, List.forall_mem_cons.mpr ⟨bo_ild_m _ _, List.forall_mem_cons.mpr ⟨bo_if2_m _ _ _, List.forall_mem_cons.mpr ⟨bo_inc_m _ _ _, List.forall_mem_cons.mpr ⟨bo_inc_m _ _ _, List.forall_mem_cons.mpr ⟨bo_go_m _, List.forall_mem_cons.mpr ⟨bo_ild_m _ _, List.forall_mem_cons.mpr ⟨bo_iret_m _, fun _ h => absurd h List.not_mem_nil⟩⟩⟩⟩⟩⟩⟩⟩⟩⟩⟩⟩⟩⟩⟩⟩⟩⟩⟩⟩
theorem m_V_ofKind : ∀ pc, bh_mono (bh_tb (T_V_ofKind) pc) := bh_tb_m mT_V_ofKind_0
def F_V_ofKind : bh_Fn := bh_fn 4 (bh_tb T_V_ofKind)
theorem mF_V_ofKind : bh_monoF F_V_ofKind := bh_fn_m m_V_ofKind
theorem cl_V_ofKind {s : State} {args : Array Value} (d B : Nat) (hts : ∀ w ∈ bh_ws, w.before args s = true) : bh_Cal (bh_rm (d + 1) B) s y_V_ofKind 4 (.code y_V_ofKind c_V_ofKind 4 (some .int) :: bh_ws) (bh_rm d 0) 0 1 := bh_cal d B hts wd_742 wd_6 (by decide) (by decide +kernel)
set_option maxHeartbeats 4000000 in
set_option maxRecDepth 100000 in
theorem cn_V_ofKind {l : Launch} {G : bh_G} {base sb L : Nat} {xs : Nat → Int32} (htr : l.stackTraces = false) (d : Nat) : bh_Con l G base (bh_Bg G base sb L xs) y_V_ofKind (.code y_V_ofKind c_V_ofKind 4 (some .int) :: bh_ws) (bh_rm (d + 1) 0) 0 false F_V_ofKind := by
  refine bh_method (cc := c_V_ofKind) (ret := (some .int)) (by decide +kernel) rfl ?_
  intro p e s m args below meth c ad0 M0 Z X0 hr hlocks hname htab hbs hB
  obtain ⟨hx, hb, hml, hown, hts⟩ := id X0
  have hw : ∀ w ∈ bh_ws, w.before args s = true := fun w h => hts w (List.mem_cons_of_mem _ h)
  have hBg := bh_BgK (G := G) (base := base) (sb := sb) (L := L) (xs := xs)
  obtain ⟨hK, hAr, hen, hinj, hu1, hu2, hstr, hX, hsb, hsc, hxw, hao, hnc⟩ := id hB
  obtain ⟨ha1, ha2, ha3, ha4, ha5, ha6, ha0⟩ := bh_arr hAr
  exact List.forall_mem_cons.mpr ⟨fun S h => bs_iconst (Z := Z) hx hb (by decide) d_V_ofKind_0 h, List.forall_mem_cons.mpr ⟨fun S h => bs_istore_n (Z := Z) hx hb rfl d_V_ofKind_1 h, List.forall_mem_cons.mpr ⟨fun S h => bs_iconst (Z := Z) hx hb (by decide) d_V_ofKind_2 h, List.forall_mem_cons.mpr ⟨fun S h => bs_istore_n (Z := Z) hx hb rfl d_V_ofKind_3 h, List.forall_mem_cons.mpr ⟨fun S h => bs_iload_n (Z := Z) hx hb rfl d_V_ofKind_4 h, List.forall_mem_cons.mpr ⟨fun S h => bs_aload_n (Z := Z) hx hb rfl d_V_ofKind_5 h, List.forall_mem_cons.mpr ⟨fun S h => bs_gI (Z := Z) (C := R_V) (T := F_V) (N := 3) (t := 19) (j := 1) hx hb hK hts (fun w h => List.mem_cons_of_mem _ (iw_V w h)) hown rfl rfl (by decide) (hts _ (List.mem_cons_of_mem _ wd_193)) (fun _ h => h) rfl rfl rfl d_V_ofKind_6 h, List.forall_mem_cons.mpr ⟨fun S h => bs_icmp_ge (Z := Z) hx hb d_V_ofKind_9 (by decide) h, List.forall_mem_cons.mpr ⟨fun S h => bs_aload_n (Z := Z) hx hb rfl d_V_ofKind_12 h, List.forall_mem_cons.mpr ⟨fun S h => bs_gR (Z := Z) (C := R_V) (T := F_V) (N := 3) (t := 19) (j := 0) hx hb hK hts (fun w h => List.mem_cons_of_mem _ (iw_V w h)) hown rfl rfl (by decide) (hts _ (List.mem_cons_of_mem _ wd_191)) (fun _ h => h) rfl rfl rfl d_V_ofKind_13 h, List.forall_mem_cons.mpr ⟨fun S h => bs_iload_n (Z := Z) hx hb rfl d_V_ofKind_16 h, List.forall_mem_cons.mpr ⟨fun S h => bs_Rald (Z := Z) hx hb ha5 d_V_ofKind_17 h, List.forall_mem_cons.mpr ⟨fun S h => bs_gI (Z := Z) (C := R_S) (T := F_S) (N := 5) (t := 21) (j := 3) hx hb hK hts (fun w h => List.mem_cons_of_mem _ (iw_S w h)) hown rfl rfl (by decide) (hts _ (List.mem_cons_of_mem _ wd_178)) (fun _ h => h) rfl rfl rfl d_V_ofKind_18 h, List.forall_mem_cons.mpr ⟨fun S h => bs_iload_n (Z := Z) hx hb rfl d_V_ofKind_21 h, List.forall_mem_cons.mpr ⟨fun S h => bs_icmp_ne (Z := Z) hx hb d_V_ofKind_22 (by decide) h, List.forall_mem_cons.mpr ⟨fun S h => bs_iinc (Z := Z) hx hb (by decide) d_V_ofKind_25 h, List.forall_mem_cons.mpr ⟨fun S h => bs_iinc (Z := Z) hx hb (by decide) d_V_ofKind_28 h, List.forall_mem_cons.mpr ⟨fun S h => bs_goto (Z := Z) hx hb d_V_ofKind_31 (by decide) h, List.forall_mem_cons.mpr ⟨fun S h => bs_iload_n (Z := Z) hx hb rfl d_V_ofKind_34 h, List.forall_mem_cons.mpr ⟨fun S h => bs_iret (Z := Z) hx hb hr hlocks d_V_ofKind_35 h, fun _ h => absurd h List.not_mem_nil⟩⟩⟩⟩⟩⟩⟩⟩⟩⟩⟩⟩⟩⟩⟩⟩⟩⟩⟩⟩
