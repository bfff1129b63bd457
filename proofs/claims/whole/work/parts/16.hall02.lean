abbrev c_H_addService : ByteArray := prog_1_method_35_code
def y_H_addService : MethodName := ⟨"BundleHall", "addService", "(IID)I"⟩
theorem d_H_addService_0 : decode c_H_addService 0 = .ok (.aload_n 0, 1) := by decide +kernel
theorem d_H_addService_1 : decode c_H_addService 1 = .ok (.getfield 28, 3) := by decide +kernel
theorem d_H_addService_4 : decode c_H_addService 4 = .ok (.iload_n 1, 1) := by decide +kernel
theorem d_H_addService_5 : decode c_H_addService 5 = .ok (.iload_n 2, 1) := by decide +kernel
theorem d_H_addService_6 : decode c_H_addService 6 = .ok (.dload_n 3, 1) := by decide +kernel
theorem d_H_addService_7 : decode c_H_addService 7 = .ok (.invokevirtual 324, 3) := by decide +kernel
theorem d_H_addService_10 : decode c_H_addService 10 = .ok (.istore 5, 2) := by decide +kernel
theorem d_H_addService_12 : decode c_H_addService 12 = .ok (.aload_n 0, 1) := by decide +kernel
theorem d_H_addService_13 : decode c_H_addService 13 = .ok (.getfield 35, 3) := by decide +kernel
theorem d_H_addService_16 : decode c_H_addService 16 = .ok (.sipush 300, 3) := by decide +kernel
theorem d_H_addService_19 : decode c_H_addService 19 = .ok (.iload 5, 2) := by decide +kernel
theorem d_H_addService_21 : decode c_H_addService 21 = .ok (.bipush 100, 2) := by decide +kernel
theorem d_H_addService_23 : decode c_H_addService 23 = .ok (.irem, 1) := by decide +kernel
theorem d_H_addService_24 : decode c_H_addService 24 = .ok (.iadd, 1) := by decide +kernel
theorem d_H_addService_25 : decode c_H_addService 25 = .ok (.invokevirtual 309, 3) := by decide +kernel
theorem d_H_addService_28 : decode c_H_addService 28 = .ok (.iload 5, 2) := by decide +kernel
theorem d_H_addService_30 : decode c_H_addService 30 = .ok (.ireturn, 1) := by decide +kernel
def T_H_addService_0 : List (Nat × bh_Op) := [(0, bo_ald 1 0),
  (1, bo_gR 4 3 2 19),
  (4, bo_ild 5 1),
  (5, bo_ild 6 2),
  (6, bo_dld 7 3),
  (7, bo_callV 10 4 0 0 19 F_V_add),
  (10, bo_ist 12 5),
  (12, bo_ald 13 0),
  (13, bo_gR 16 3 3 23),
  (16, bo_st 19 (bg_push (.inl (.int 300)))),
  (19, bo_ild 21 5),
  (21, bo_st 23 (bg_push (.inl (.int 100)))),
  (23, bo_st 24 (bg_dv (fun x y => x - x / y * y))),
  (24, bo_st 25 (bg_ii (fun x y => x + y))),
  (25, bo_callV 28 2 0 0 23 F_E_add),
  (28, bo_ild 30 5),
  (30, bo_iret 0)]
def T_H_addService : List (Nat × bh_Op) := T_H_addService_0
set_option maxRecDepth 20000 in
theorem mT_H_addService_0 : ∀ q ∈ T_H_addService_0, bh_mono q.2 := List.forall_mem_cons.mpr ⟨bo_ald_m _ _, List.forall_mem_cons.mpr ⟨bo_gR_m _ _ _ _, List.forall_mem_cons.mpr ⟨bo_ild_m _ _, List.forall_mem_cons.mpr ⟨bo_ild_m _ _, List.forall_mem_cons.mpr ⟨bo_dld_m _ _, List.forall_mem_cons.mpr ⟨bo_callV_m (mF_V_add) _ _ _ _ _, List.forall_mem_cons.mpr ⟨bo_ist_m _ _, List.forall_mem_cons.mpr ⟨bo_ald_m _ _, List.forall_mem_cons.mpr ⟨bo_gR_m _ _ _ _, List.forall_mem_cons.mpr ⟨bo_st_mono (bg_push_m _), List.forall_mem_cons.mpr ⟨bo_ild_m _ _, List.forall_mem_cons.mpr ⟨bo_st_mono (bg_push_m _), List.forall_mem_cons.mpr ⟨bo_st_mono (bg_dv_m _), List.forall_mem_cons.mpr ⟨bo_st_mono (bg_ii_m _), List.forall_mem_cons.mpr ⟨bo_callV_m (mF_E_add) _ _ _ _ _, List.forall_mem_cons.mpr ⟨bo_ild_m _ _, List.forall_mem_cons.mpr ⟨bo_iret_m _, fun _ h => absurd h List.not_mem_nil⟩⟩⟩⟩⟩⟩⟩⟩⟩⟩⟩⟩⟩⟩⟩⟩⟩
theorem m_H_addService : ∀ pc, bh_mono (bh_tb (T_H_addService) pc) := bh_tb_m mT_H_addService_0
def F_H_addService : bh_Fn := bh_fn 6 (bh_tb T_H_addService)
theorem mF_H_addService : bh_monoF F_H_addService := bh_fn_m m_H_addService
theorem cl_H_addService {s : State} {args : Array Value} (d B : Nat) (hts : ∀ w ∈ bh_ws, w.before args s = true) : bh_Cal (bh_rm (d + 1) B) s y_H_addService 6 (.code y_H_addService c_H_addService 6 (some .int) :: bh_ws) (bh_rm d 0) 0 3 := bh_cal d B hts wd_372 wd_1 (by decide) (by decide +kernel)
set_option maxHeartbeats 4000000 in
set_option maxRecDepth 100000 in
theorem cn_H_addService {l : Launch} {G : bh_G} {base sb L : Nat} {xs : Nat → Int32} (htr : l.stackTraces = false) (d : Nat) : bh_Con l G base (bh_Bg G base sb L xs) y_H_addService (.code y_H_addService c_H_addService 6 (some .int) :: bh_ws) (bh_rm (d + 3) 0) 0 false F_H_addService := by
  refine bh_method (cc := c_H_addService) (ret := (some .int)) (by decide +kernel) rfl ?_
  intro p e s m args below meth c ad0 M0 Z X0 hr hlocks hname htab hbs hB
  obtain ⟨hx, hb, hml, hown, hts⟩ := id X0
  have hw : ∀ w ∈ bh_ws, w.before args s = true := fun w h => hts w (List.mem_cons_of_mem _ h)
  have hBg := bh_BgK (G := G) (base := base) (sb := sb) (L := L) (xs := xs)
  obtain ⟨hK, hAr, hen, hinj, hu1, hu2, hstr, hX, hsb, hsc, hxw, hao, hnc⟩ := id hB
  obtain ⟨ha1, ha2, ha3, ha4, ha5, ha6, ha0⟩ := bh_arr hAr
  exact List.forall_mem_cons.mpr ⟨fun S h => bs_aload_n (Z := Z) hx hb rfl d_H_addService_0 h, List.forall_mem_cons.mpr ⟨fun S h => bs_gR (Z := Z) (C := R_H) (T := F_H) (N := 5) (t := 3) (j := 2) hx hb hK hts (fun w h => List.mem_cons_of_mem _ (iw_H w h)) hown rfl rfl (by decide) (hts _ (List.mem_cons_of_mem _ wd_226)) (fun _ h => h) rfl rfl rfl d_H_addService_1 h, List.forall_mem_cons.mpr ⟨fun S h => bs_iload_n (Z := Z) hx hb rfl d_H_addService_4 h, List.forall_mem_cons.mpr ⟨fun S h => bs_iload_n (Z := Z) hx hb rfl d_H_addService_5 h, List.forall_mem_cons.mpr ⟨fun S h => bs_dload_n (Z := Z) hx hb rfl d_H_addService_6 h, List.forall_mem_cons.mpr ⟨fun S h => bs_callV (Z := Z) (C := R_V) hBg hbs hB X0 hK (cn_V_add htr (d + 0)) (cl_V_add _ _ hw) (hts _ (List.mem_cons_of_mem _ wd_373)) (hts _ (List.mem_cons_of_mem _ wd_374)) (hts _ (List.mem_cons_of_mem _ wd_375)) rfl rfl rfl rfl rfl (Nat.le_refl _) (Nat.le_refl _) d_H_addService_7 (bs_out htab hlocks) h, List.forall_mem_cons.mpr ⟨fun S h => bs_istore (Z := Z) hx hb d_H_addService_10 h, List.forall_mem_cons.mpr ⟨fun S h => bs_aload_n (Z := Z) hx hb rfl d_H_addService_12 h, List.forall_mem_cons.mpr ⟨fun S h => bs_gR (Z := Z) (C := R_H) (T := F_H) (N := 5) (t := 3) (j := 3) hx hb hK hts (fun w h => List.mem_cons_of_mem _ (iw_H w h)) hown rfl rfl (by decide) (hts _ (List.mem_cons_of_mem _ wd_227)) (fun _ h => h) rfl rfl rfl d_H_addService_13 h, List.forall_mem_cons.mpr ⟨fun S h => bs_sipush (Z := Z) hx hb (by decide) d_H_addService_16 h, List.forall_mem_cons.mpr ⟨fun S h => bs_iload (Z := Z) hx hb d_H_addService_19 h, List.forall_mem_cons.mpr ⟨fun S h => bs_bipush (Z := Z) hx hb (by decide) d_H_addService_21 h, List.forall_mem_cons.mpr ⟨fun S h => bs_irem (Z := Z) hx hb d_H_addService_23 h, List.forall_mem_cons.mpr ⟨fun S h => bs_iadd (Z := Z) hx hb d_H_addService_24 h, List.forall_mem_cons.mpr ⟨fun S h => bs_callV (Z := Z) (C := R_E) hBg hbs hB X0 hK (cn_E_add htr (d + 1)) (cl_E_add _ _ hw) (hts _ (List.mem_cons_of_mem _ wd_277)) (hts _ (List.mem_cons_of_mem _ wd_278)) (hts _ (List.mem_cons_of_mem _ wd_279)) rfl rfl rfl rfl rfl (Nat.le_refl _) (Nat.le_refl _) d_H_addService_25 (bs_out htab hlocks) h, List.forall_mem_cons.mpr ⟨fun S h => bs_iload (Z := Z) hx hb d_H_addService_28 h, List.forall_mem_cons.mpr ⟨fun S h => bs_iret (Z := Z) hx hb hr hlocks d_H_addService_30 h, fun _ h => absurd h List.not_mem_nil⟩⟩⟩⟩⟩⟩⟩⟩⟩⟩⟩⟩⟩⟩⟩⟩⟩
abbrev c_H_activatorRegisters : ByteArray := prog_1_method_31_code
def y_H_activatorRegisters : MethodName := ⟨"BundleHall", "activatorRegisters", "(I)Z"⟩
theorem d_H_activatorRegisters_0 : decode c_H_activatorRegisters 0 = .ok (.aload_n 0, 1) := by decide +kernel
theorem d_H_activatorRegisters_1 : decode c_H_activatorRegisters 1 = .ok (.getfield 28, 3) := by decide +kernel
theorem d_H_activatorRegisters_4 : decode c_H_activatorRegisters 4 = .ok (.invokevirtual 181, 3) := by decide +kernel
theorem d_H_activatorRegisters_7 : decode c_H_activatorRegisters 7 = .ok (.ifCond .eq 5, 3) := by decide +kernel
theorem d_H_activatorRegisters_10 : decode c_H_activatorRegisters 10 = .ok (.iconst 0, 1) := by decide +kernel
theorem d_H_activatorRegisters_11 : decode c_H_activatorRegisters 11 = .ok (.ireturn, 1) := by decide +kernel
theorem d_H_activatorRegisters_12 : decode c_H_activatorRegisters 12 = .ok (.aload_n 0, 1) := by decide +kernel
theorem d_H_activatorRegisters_13 : decode c_H_activatorRegisters 13 = .ok (.iload_n 1, 1) := by decide +kernel
theorem d_H_activatorRegisters_14 : decode c_H_activatorRegisters 14 = .ok (.iconst 0, 1) := by decide +kernel
theorem d_H_activatorRegisters_15 : decode c_H_activatorRegisters 15 = .ok (.iload_n 1, 1) := by decide +kernel
theorem d_H_activatorRegisters_16 : decode c_H_activatorRegisters 16 = .ok (.i2d, 1) := by decide +kernel
theorem d_H_activatorRegisters_17 : decode c_H_activatorRegisters 17 = .ok (.invokevirtual 186, 3) := by decide +kernel
theorem d_H_activatorRegisters_20 : decode c_H_activatorRegisters 20 = .ok (.pop, 1) := by decide +kernel
theorem d_H_activatorRegisters_21 : decode c_H_activatorRegisters 21 = .ok (.iconst 1, 1) := by decide +kernel
theorem d_H_activatorRegisters_22 : decode c_H_activatorRegisters 22 = .ok (.ireturn, 1) := by decide +kernel
def T_H_activatorRegisters_0 : List (Nat × bh_Op) := [(0, bo_ald 1 0),
  (1, bo_gR 4 3 2 19),
  (4, bo_callV 7 1 0 0 19 F_V_isFull),
  (7, bo_if1 10 12 (fun x => x = 0)),
  (10, bo_st 11 (bg_push (.inl (.int 0)))),
  (11, bo_zret 0),
  (12, bo_ald 13 0),
  (13, bo_ild 14 1),
  (14, bo_st 15 (bg_push (.inl (.int 0)))),
  (15, bo_ild 16 1),
  (16, bo_st 17 (bg_i1 (fun x => .inl (.double (FP.i2d x))))),
  (17, bo_callV 20 4 0 0 3 F_H_addService),
  (20, bo_st 21 bg_pop),
  (21, bo_st 22 (bg_push (.inl (.int 1)))),
  (22, bo_zret 0)]
def T_H_activatorRegisters : List (Nat × bh_Op) := T_H_activatorRegisters_0
set_option maxRecDepth 20000 in
theorem mT_H_activatorRegisters_0 : ∀ q ∈ T_H_activatorRegisters_0, bh_mono q.2 := List.forall_mem_cons.mpr ⟨bo_ald_m _ _, List.forall_mem_cons.mpr ⟨bo_gR_m _ _ _ _, List.forall_mem_cons.mpr ⟨bo_callV_m (mF_V_isFull) _ _ _ _ _, List.forall_mem_cons.mpr ⟨bo_if1_m _ _ _, List.forall_mem_cons.mpr ⟨bo_st_mono (bg_push_m _), List.forall_mem_cons.mpr ⟨bo_zret_m _, List.forall_mem_cons.mpr ⟨bo_ald_m _ _, List.forall_mem_cons.mpr ⟨bo_ild_m _ _, List.forall_mem_cons.mpr ⟨bo_st_mono (bg_push_m _), List.forall_mem_cons.mpr ⟨bo_ild_m _ _, List.forall_mem_cons.mpr ⟨bo_st_mono (bg_i1_m _), List.forall_mem_cons.mpr ⟨bo_callV_m (mF_H_addService) _ _ _ _ _, List.forall_mem_cons.mpr ⟨bo_st_mono bg_pop_m, List.forall_mem_cons.mpr ⟨bo_st_mono (bg_push_m _), List.forall_mem_cons.mpr ⟨bo_zret_m _, fun _ h => absurd h List.not_mem_nil⟩⟩⟩⟩⟩⟩⟩⟩⟩⟩⟩⟩⟩⟩⟩
theorem m_H_activatorRegisters : ∀ pc, bh_mono (bh_tb (T_H_activatorRegisters) pc) := bh_tb_m mT_H_activatorRegisters_0
def F_H_activatorRegisters : bh_Fn := bh_fn 2 (bh_tb T_H_activatorRegisters)
theorem mF_H_activatorRegisters : bh_monoF F_H_activatorRegisters := bh_fn_m m_H_activatorRegisters
theorem cl_H_activatorRegisters {s : State} {args : Array Value} (d B : Nat) (hts : ∀ w ∈ bh_ws, w.before args s = true) : bh_Cal (bh_rm (d + 1) B) s y_H_activatorRegisters 2 (.code y_H_activatorRegisters c_H_activatorRegisters 2 (some .boolean) :: bh_ws) (bh_rm d 0) 0 1 := bh_cal d B hts wd_364 wd_1 (by decide) (by decide +kernel)
set_option maxHeartbeats 4000000 in
set_option maxRecDepth 100000 in
theorem cn_H_activatorRegisters {l : Launch} {G : bh_G} {base sb L : Nat} {xs : Nat → Int32} (htr : l.stackTraces = false) (d : Nat) : bh_Con l G base (bh_Bg G base sb L xs) y_H_activatorRegisters (.code y_H_activatorRegisters c_H_activatorRegisters 2 (some .boolean) :: bh_ws) (bh_rm (d + 4) 0) 0 false F_H_activatorRegisters := by
  refine bh_method (cc := c_H_activatorRegisters) (ret := (some .boolean)) (by decide +kernel) rfl ?_
  intro p e s m args below meth c ad0 M0 Z X0 hr hlocks hname htab hbs hB
  obtain ⟨hx, hb, hml, hown, hts⟩ := id X0
  have hw : ∀ w ∈ bh_ws, w.before args s = true := fun w h => hts w (List.mem_cons_of_mem _ h)
  have hBg := bh_BgK (G := G) (base := base) (sb := sb) (L := L) (xs := xs)
  obtain ⟨hK, hAr, hen, hinj, hu1, hu2, hstr, hX, hsb, hsc, hxw, hao, hnc⟩ := id hB
  obtain ⟨ha1, ha2, ha3, ha4, ha5, ha6, ha0⟩ := bh_arr hAr
  exact List.forall_mem_cons.mpr ⟨fun S h => bs_aload_n (Z := Z) hx hb rfl d_H_activatorRegisters_0 h, List.forall_mem_cons.mpr ⟨fun S h => bs_gR (Z := Z) (C := R_H) (T := F_H) (N := 5) (t := 3) (j := 2) hx hb hK hts (fun w h => List.mem_cons_of_mem _ (iw_H w h)) hown rfl rfl (by decide) (hts _ (List.mem_cons_of_mem _ wd_226)) (fun _ h => h) rfl rfl rfl d_H_activatorRegisters_1 h, List.forall_mem_cons.mpr ⟨fun S h => bs_callV (Z := Z) (C := R_V) hBg hbs hB X0 hK (cn_V_isFull htr (d + 2)) (cl_V_isFull _ _ hw) (hts _ (List.mem_cons_of_mem _ wd_365)) (hts _ (List.mem_cons_of_mem _ wd_366)) (hts _ (List.mem_cons_of_mem _ wd_367)) rfl rfl rfl rfl rfl (Nat.le_refl _) (Nat.le_refl _) d_H_activatorRegisters_4 (bs_out htab hlocks) h, List.forall_mem_cons.mpr ⟨fun S h => bs_if_eq (Z := Z) hx hb d_H_activatorRegisters_7 (by decide) h, List.forall_mem_cons.mpr ⟨fun S h => bs_iconst (Z := Z) hx hb (by decide) d_H_activatorRegisters_10 h, List.forall_mem_cons.mpr ⟨fun S h => bs_zret (Z := Z) hx hb hr hlocks d_H_activatorRegisters_11 h, List.forall_mem_cons.mpr ⟨fun S h => bs_aload_n (Z := Z) hx hb rfl d_H_activatorRegisters_12 h, List.forall_mem_cons.mpr ⟨fun S h => bs_iload_n (Z := Z) hx hb rfl d_H_activatorRegisters_13 h, List.forall_mem_cons.mpr ⟨fun S h => bs_iconst (Z := Z) hx hb (by decide) d_H_activatorRegisters_14 h, List.forall_mem_cons.mpr ⟨fun S h => bs_iload_n (Z := Z) hx hb rfl d_H_activatorRegisters_15 h, List.forall_mem_cons.mpr ⟨fun S h => bs_i2d (Z := Z) hx hb d_H_activatorRegisters_16 h, List.forall_mem_cons.mpr ⟨fun S h => bs_callV (Z := Z) (C := R_H) hBg hbs hB X0 hK (cn_H_addService htr (d + 0)) (cl_H_addService _ _ hw) (hts _ (List.mem_cons_of_mem _ wd_369)) (hts _ (List.mem_cons_of_mem _ wd_371)) (hts _ (List.mem_cons_of_mem _ ws_16)) rfl rfl rfl rfl rfl (Nat.le_refl _) (Nat.le_refl _) d_H_activatorRegisters_17 (bs_out htab hlocks) h, List.forall_mem_cons.mpr ⟨fun S h => bs_pop (Z := Z) hx hb d_H_activatorRegisters_20 h, List.forall_mem_cons.mpr ⟨fun S h => bs_iconst (Z := Z) hx hb (by decide) d_H_activatorRegisters_21 h, List.forall_mem_cons.mpr ⟨fun S h => bs_zret (Z := Z) hx hb hr hlocks d_H_activatorRegisters_22 h, fun _ h => absurd h List.not_mem_nil⟩⟩⟩⟩⟩⟩⟩⟩⟩⟩⟩⟩⟩⟩⟩
abbrev c_V_bestRow : ByteArray := prog_8_method_6_code
def y_V_bestRow : MethodName := ⟨"BundleHall$Services", "bestRow", "(I)I"⟩
theorem d_V_bestRow_0 : decode c_V_bestRow 0 = .ok (.iconst (-1), 1) := by decide +kernel
theorem d_V_bestRow_1 : decode c_V_bestRow 1 = .ok (.istore_n 2, 1) := by decide +kernel
theorem d_V_bestRow_2 : decode c_V_bestRow 2 = .ok (.iconst 0, 1) := by decide +kernel
theorem d_V_bestRow_3 : decode c_V_bestRow 3 = .ok (.istore_n 3, 1) := by decide +kernel
theorem d_V_bestRow_4 : decode c_V_bestRow 4 = .ok (.iload_n 3, 1) := by decide +kernel
theorem d_V_bestRow_5 : decode c_V_bestRow 5 = .ok (.aload_n 0, 1) := by decide +kernel
theorem d_V_bestRow_6 : decode c_V_bestRow 6 = .ok (.getfield 18, 3) := by decide +kernel
theorem d_V_bestRow_9 : decode c_V_bestRow 9 = .ok (.if_icmp .ge 51, 3) := by decide +kernel
theorem d_V_bestRow_12 : decode c_V_bestRow 12 = .ok (.aload_n 0, 1) := by decide +kernel
theorem d_V_bestRow_13 : decode c_V_bestRow 13 = .ok (.getfield 11, 3) := by decide +kernel
theorem d_V_bestRow_16 : decode c_V_bestRow 16 = .ok (.iload_n 3, 1) := by decide +kernel
theorem d_V_bestRow_17 : decode c_V_bestRow 17 = .ok (.aaload, 1) := by decide +kernel
theorem d_V_bestRow_18 : decode c_V_bestRow 18 = .ok (.getfield 31, 3) := by decide +kernel
theorem d_V_bestRow_21 : decode c_V_bestRow 21 = .ok (.iload_n 1, 1) := by decide +kernel
theorem d_V_bestRow_22 : decode c_V_bestRow 22 = .ok (.if_icmp .ne 32, 3) := by decide +kernel
theorem d_V_bestRow_25 : decode c_V_bestRow 25 = .ok (.iload_n 2, 1) := by decide +kernel
theorem d_V_bestRow_26 : decode c_V_bestRow 26 = .ok (.iconst (-1), 1) := by decide +kernel
theorem d_V_bestRow_27 : decode c_V_bestRow 27 = .ok (.if_icmp .eq 25, 3) := by decide +kernel
theorem d_V_bestRow_30 : decode c_V_bestRow 30 = .ok (.aload_n 0, 1) := by decide +kernel
theorem d_V_bestRow_31 : decode c_V_bestRow 31 = .ok (.getfield 11, 3) := by decide +kernel
theorem d_V_bestRow_34 : decode c_V_bestRow 34 = .ok (.iload_n 3, 1) := by decide +kernel
theorem d_V_bestRow_35 : decode c_V_bestRow 35 = .ok (.aaload, 1) := by decide +kernel
theorem d_V_bestRow_36 : decode c_V_bestRow 36 = .ok (.getfield 34, 3) := by decide +kernel
theorem d_V_bestRow_39 : decode c_V_bestRow 39 = .ok (.aload_n 0, 1) := by decide +kernel
theorem d_V_bestRow_40 : decode c_V_bestRow 40 = .ok (.getfield 11, 3) := by decide +kernel
theorem d_V_bestRow_43 : decode c_V_bestRow 43 = .ok (.iload_n 2, 1) := by decide +kernel
theorem d_V_bestRow_44 : decode c_V_bestRow 44 = .ok (.aaload, 1) := by decide +kernel
theorem d_V_bestRow_45 : decode c_V_bestRow 45 = .ok (.getfield 34, 3) := by decide +kernel
theorem d_V_bestRow_48 : decode c_V_bestRow 48 = .ok (.dcmp .l, 1) := by decide +kernel
theorem d_V_bestRow_49 : decode c_V_bestRow 49 = .ok (.ifCond .le 5, 3) := by decide +kernel
theorem d_V_bestRow_52 : decode c_V_bestRow 52 = .ok (.iload_n 3, 1) := by decide +kernel
theorem d_V_bestRow_53 : decode c_V_bestRow 53 = .ok (.istore_n 2, 1) := by decide +kernel
theorem d_V_bestRow_54 : decode c_V_bestRow 54 = .ok (.iinc 3 1, 3) := by decide +kernel
theorem d_V_bestRow_57 : decode c_V_bestRow 57 = .ok (.goto (-53), 3) := by decide +kernel
theorem d_V_bestRow_60 : decode c_V_bestRow 60 = .ok (.iload_n 2, 1) := by decide +kernel
theorem d_V_bestRow_61 : decode c_V_bestRow 61 = .ok (.ireturn, 1) := by decide +kernel
def T_V_bestRow_0 : List (Nat × bh_Op) := [(0, bo_st 1 (bg_push (.inl (.int (-1))))),
  (1, bo_ist 2 2),
  (2, bo_st 3 (bg_push (.inl (.int 0)))),
  (3, bo_ist 4 3),
  (4, bo_ild 5 3),
  (5, bo_ald 6 0),
  (6, bo_gI 9 19 1),
  (9, bo_if2 12 60 (fun x y => y ≤ x)),
  (12, bo_ald 13 0),
  (13, bo_gR 16 19 0 20),
  (16, bo_ild 17 3),
  (17, bo_Rald bh_ak bh_al 18),
  (18, bo_gI 21 21 3),
  (21, bo_ild 22 1),
  (22, bo_if2 25 54 (fun x y => ¬ x = y)),
  (25, bo_ild 26 2),
  (26, bo_st 27 (bg_push (.inl (.int (-1))))),
  (27, bo_if2 30 52 (fun x y => x = y)),
  (30, bo_ald 31 0),
  (31, bo_gR 34 19 0 20),
  (34, bo_ild 35 3),
  (35, bo_Rald bh_ak bh_al 36),
  (36, bo_gD 39 21 4),
  (39, bo_ald 40 0),
  (40, bo_gR 43 19 0 20),
  (43, bo_ild 44 2),
  (44, bo_Rald bh_ak bh_al 45),
  (45, bo_gD 48 21 4),
  (48, bo_st 49 (bg_dc (fun x y => Op.cmpValue (FP.dcmp x y) .l))),
  (49, bo_if1 52 54 (fun x => x ≤ 0)),
  (52, bo_ild 53 3),
  (53, bo_ist 54 2),
  (54, bo_inc 57 3 1),
  (57, bo_go 4),
  (60, bo_ild 61 2),
  (61, bo_iret 0)]
def T_V_bestRow : List (Nat × bh_Op) := T_V_bestRow_0
set_option maxRecDepth 20000 in
theorem mT_V_bestRow_0 : ∀ q ∈ T_V_bestRow_0, bh_mono q.2 := List.forall_mem_cons.mpr ⟨bo_st_mono (bg_push_m _), List.forall_mem_cons.mpr ⟨bo_ist_m _ _, List.forall_mem_cons.mpr ⟨bo_st_mono (bg_push_m _), List.forall_mem_cons.mpr ⟨bo_ist_m _ _, List.forall_mem_cons.mpr ⟨bo_ild_m _ _, List.forall_mem_cons.mpr ⟨bo_ald_m _ _, List.forall_mem_cons.mpr ⟨bo_gI_m _ _ _, List.forall_mem_cons.mpr ⟨bo_if2_m _ _ _, List.forall_mem_cons.mpr ⟨bo_ald_m _ _, List.forall_mem_cons.mpr ⟨bo_gR_m _ _ _ _, List.forall_mem_cons.mpr ⟨bo_ild_m _ _, List.forall_mem_cons.mpr ⟨bo_Rald_m _ _ _, List.forall_mem_cons.mpr ⟨bo_gI_m _ _ _, List.forall_mem_cons.mpr ⟨bo_ild_m _ _, List.forall_mem_cons.mpr ⟨bo_if2_m _ _ _, List.forall_mem_cons.mpr ⟨bo_ild_m _ _, List.forall_mem_cons.mpr ⟨bo_st_mono (bg_push_m _), List.forall_mem_cons.mpr ⟨bo_if2_m _ _ _, List.forall_mem_cons.mpr ⟨bo_ald_m _ _, List.forall_mem_cons.mpr ⟨bo_gR_m _ _ _ _, List.forall_mem_cons.mpr ⟨bo_ild_m _ _, List.forall_mem_cons.mpr ⟨bo_Rald_m _ _ _, List.forall_mem_cons.mpr ⟨bo_gD_m _ _ _, List.forall_mem_cons.mpr ⟨bo_ald_m _ _, List.forall_mem_cons.mpr ⟨bo_gR_m _ _ _ _, List.forall_mem_cons.mpr ⟨bo_ild_m _ _, List.forall_mem_cons.mpr ⟨bo_Rald_m _ _ _, List.forall_mem_cons.mpr ⟨bo_gD_m _ _ _, List.forall_mem_cons.mpr ⟨bo_st_mono (bg_dc_m _), List.forall_mem_cons.mpr ⟨bo_if1_m _ _ _, List.forall_mem_cons.mpr ⟨bo_ild_m _ _, List.forall_mem_cons.mpr ⟨bo_ist_m _ _, List.forall_mem_cons.mpr ⟨bo_inc_m _ _ _, List.forall_mem_cons.mpr ⟨bo_go_m _, List.forall_mem_cons.mpr ⟨bo_ild_m _ _, List.forall_mem_cons.mpr ⟨bo_iret_m _, fun _ h => absurd h List.not_mem_nil⟩⟩⟩⟩⟩⟩⟩⟩⟩⟩⟩⟩⟩⟩⟩⟩⟩⟩⟩⟩⟩⟩⟩⟩⟩⟩⟩⟩⟩⟩⟩⟩⟩⟩⟩⟩
theorem m_V_bestRow : ∀ pc, bh_mono (bh_tb (T_V_bestRow) pc) := bh_tb_m mT_V_bestRow_0
def F_V_bestRow : bh_Fn := bh_fn 4 (bh_tb T_V_bestRow)
theorem mF_V_bestRow : bh_monoF F_V_bestRow := bh_fn_m m_V_bestRow
theorem cl_V_bestRow {s : State} {args : Array Value} (d B : Nat) (hts : ∀ w ∈ bh_ws, w.before args s = true) : bh_Cal (bh_rm (d + 1) B) s y_V_bestRow 4 (.code y_V_bestRow c_V_bestRow 4 (some .int) :: bh_ws) (bh_rm d 0) 0 1 := bh_cal d B hts wd_385 wd_6 (by decide) (by decide +kernel)
set_option maxHeartbeats 4000000 in
set_option maxRecDepth 100000 in
theorem cn_V_bestRow {l : Launch} {G : bh_G} {base sb L : Nat} {xs : Nat → Int32} (htr : l.stackTraces = false) (d : Nat) : bh_Con l G base (bh_Bg G base sb L xs) y_V_bestRow (.code y_V_bestRow c_V_bestRow 4 (some .int) :: bh_ws) (bh_rm (d + 1) 0) 0 false F_V_bestRow := by
  refine bh_method (cc := c_V_bestRow) (ret := (some .int)) (by decide +kernel) rfl ?_
  intro p e s m args below meth c ad0 M0 Z X0 hr hlocks hname htab hbs hB
  obtain ⟨hx, hb, hml, hown, hts⟩ := id X0
  have hw : ∀ w ∈ bh_ws, w.before args s = true := fun w h => hts w (List.mem_cons_of_mem _ h)
  have hBg := bh_BgK (G := G) (base := base) (sb := sb) (L := L) (xs := xs)
  obtain ⟨hK, hAr, hen, hinj, hu1, hu2, hstr, hX, hsb, hsc, hxw, hao, hnc⟩ := id hB
  obtain ⟨ha1, ha2, ha3, ha4, ha5, ha6, ha0⟩ := bh_arr hAr
  exact List.forall_mem_cons.mpr ⟨fun S h => bs_iconst (Z := Z) hx hb (by decide) d_V_bestRow_0 h, List.forall_mem_cons.mpr ⟨fun S h => bs_istore_n (Z := Z) hx hb rfl d_V_bestRow_1 h, List.forall_mem_cons.mpr ⟨fun S h => bs_iconst (Z := Z) hx hb (by decide) d_V_bestRow_2 h, List.forall_mem_cons.mpr ⟨fun S h => bs_istore_n (Z := Z) hx hb rfl d_V_bestRow_3 h, List.forall_mem_cons.mpr ⟨fun S h => bs_iload_n (Z := Z) hx hb rfl d_V_bestRow_4 h, List.forall_mem_cons.mpr ⟨fun S h => bs_aload_n (Z := Z) hx hb rfl d_V_bestRow_5 h, List.forall_mem_cons.mpr ⟨fun S h => bs_gI (Z := Z) (C := R_V) (T := F_V) (N := 3) (t := 19) (j := 1) hx hb hK hts (fun w h => List.mem_cons_of_mem _ (iw_V w h)) hown rfl rfl (by decide) (hts _ (List.mem_cons_of_mem _ wd_193)) (fun _ h => h) rfl rfl rfl d_V_bestRow_6 h, List.forall_mem_cons.mpr ⟨fun S h => bs_icmp_ge (Z := Z) hx hb d_V_bestRow_9 (by decide) h, List.forall_mem_cons.mpr ⟨fun S h => bs_aload_n (Z := Z) hx hb rfl d_V_bestRow_12 h, List.forall_mem_cons.mpr ⟨fun S h => bs_gR (Z := Z) (C := R_V) (T := F_V) (N := 3) (t := 19) (j := 0) hx hb hK hts (fun w h => List.mem_cons_of_mem _ (iw_V w h)) hown rfl rfl (by decide) (hts _ (List.mem_cons_of_mem _ wd_191)) (fun _ h => h) rfl rfl rfl d_V_bestRow_13 h, List.forall_mem_cons.mpr ⟨fun S h => bs_iload_n (Z := Z) hx hb rfl d_V_bestRow_16 h, List.forall_mem_cons.mpr ⟨fun S h => bs_Rald (Z := Z) hx hb ha5 d_V_bestRow_17 h, List.forall_mem_cons.mpr ⟨fun S h => bs_gI (Z := Z) (C := R_S) (T := F_S) (N := 5) (t := 21) (j := 3) hx hb hK hts (fun w h => List.mem_cons_of_mem _ (iw_S w h)) hown rfl rfl (by decide) (hts _ (List.mem_cons_of_mem _ wd_178)) (fun _ h => h) rfl rfl rfl d_V_bestRow_18 h, List.forall_mem_cons.mpr ⟨fun S h => bs_iload_n (Z := Z) hx hb rfl d_V_bestRow_21 h, List.forall_mem_cons.mpr ⟨fun S h => bs_icmp_ne (Z := Z) hx hb d_V_bestRow_22 (by decide) h, List.forall_mem_cons.mpr ⟨fun S h => bs_iload_n (Z := Z) hx hb rfl d_V_bestRow_25 h, List.forall_mem_cons.mpr ⟨fun S h => bs_iconst (Z := Z) hx hb (by decide) d_V_bestRow_26 h, List.forall_mem_cons.mpr ⟨fun S h => bs_icmp_eq (Z := Z) hx hb d_V_bestRow_27 (by decide) h, List.forall_mem_cons.mpr ⟨fun S h => bs_aload_n (Z := Z) hx hb rfl d_V_bestRow_30 h, List.forall_mem_cons.mpr ⟨fun S h => bs_gR (Z := Z) (C := R_V) (T := F_V) (N := 3) (t := 19) (j := 0) hx hb hK hts (fun w h => List.mem_cons_of_mem _ (iw_V w h)) hown rfl rfl (by decide) (hts _ (List.mem_cons_of_mem _ wd_191)) (fun _ h => h) rfl rfl rfl d_V_bestRow_31 h, List.forall_mem_cons.mpr ⟨fun S h => bs_iload_n (Z := Z) hx hb rfl d_V_bestRow_34 h, List.forall_mem_cons.mpr ⟨fun S h => bs_Rald (Z := Z) hx hb ha5 d_V_bestRow_35 h, List.forall_mem_cons.mpr ⟨fun S h => bs_gD (Z := Z) (C := R_S) (T := F_S) (N := 5) (t := 21) (j := 4) hx hb hK hts (fun w h => List.mem_cons_of_mem _ (iw_S w h)) hown rfl rfl (by decide) (hts _ (List.mem_cons_of_mem _ wd_179)) (fun _ h => h) rfl rfl rfl d_V_bestRow_36 h, List.forall_mem_cons.mpr ⟨fun S h => bs_aload_n (Z := Z) hx hb rfl d_V_bestRow_39 h, List.forall_mem_cons.mpr ⟨fun S h => bs_gR (Z := Z) (C := R_V) (T := F_V) (N := 3) (t := 19) (j := 0) hx hb hK hts (fun w h => List.mem_cons_of_mem _ (iw_V w h)) hown rfl rfl (by decide) (hts _ (List.mem_cons_of_mem _ wd_191)) (fun _ h => h) rfl rfl rfl d_V_bestRow_40 h, List.forall_mem_cons.mpr ⟨fun S h => bs_iload_n (Z := Z) hx hb rfl d_V_bestRow_43 h, List.forall_mem_cons.mpr ⟨fun S h => bs_Rald (Z := Z) hx hb ha5 d_V_bestRow_44 h, List.forall_mem_cons.mpr ⟨fun S h => bs_gD (Z := Z) (C := R_S) (T := F_S) (N := 5) (t := 21) (j := 4) hx hb hK hts (fun w h => List.mem_cons_of_mem _ (iw_S w h)) hown rfl rfl (by decide) (hts _ (List.mem_cons_of_mem _ wd_179)) (fun _ h => h) rfl rfl rfl d_V_bestRow_45 h, List.forall_mem_cons.mpr ⟨fun S h => bs_dcmp (Z := Z) hx hb d_V_bestRow_48 h, List.forall_mem_cons.mpr ⟨fun S h => bs_if_le (Z := Z) hx hb d_V_bestRow_49 (by decide) h, List.forall_mem_cons.mpr ⟨fun S h => bs_iload_n (Z := Z) hx hb rfl d_V_bestRow_52 h, List.forall_mem_cons.mpr ⟨fun S h => bs_istore_n (Z := Z) hx hb rfl d_V_bestRow_53 h, List.forall_mem_cons.mpr ⟨fun S h => bs_iinc (Z := Z) hx hb (by decide) d_V_bestRow_54 h, List.forall_mem_cons.mpr ⟨fun S h => bs_goto (Z := Z) hx hb d_V_bestRow_57 (by decide) h, List.forall_mem_cons.mpr ⟨fun S h => bs_iload_n (Z := Z) hx hb rfl d_V_bestRow_60 h, List.forall_mem_cons.mpr ⟨fun S h => bs_iret (Z := Z) hx hb hr hlocks d_V_bestRow_61 h, fun _ h => absurd h List.not_mem_nil⟩⟩⟩⟩⟩⟩⟩⟩⟩⟩⟩⟩⟩⟩⟩⟩⟩⟩⟩⟩⟩⟩⟩⟩⟩⟩⟩⟩⟩⟩⟩⟩⟩⟩⟩⟩
abbrev c_H_activatorGets : ByteArray := prog_1_method_32_code
def y_H_activatorGets : MethodName := ⟨"BundleHall", "activatorGets", "(I)Z"⟩
theorem d_H_activatorGets_0 : decode c_H_activatorGets 0 = .ok (.aload_n 0, 1) := by decide +kernel
theorem d_H_activatorGets_1 : decode c_H_activatorGets 1 = .ok (.getfield 28, 3) := by decide +kernel
theorem d_H_activatorGets_4 : decode c_H_activatorGets 4 = .ok (.iconst 0, 1) := by decide +kernel
theorem d_H_activatorGets_5 : decode c_H_activatorGets 5 = .ok (.invokevirtual 190, 3) := by decide +kernel
theorem d_H_activatorGets_8 : decode c_H_activatorGets 8 = .ok (.istore_n 2, 1) := by decide +kernel
theorem d_H_activatorGets_9 : decode c_H_activatorGets 9 = .ok (.iload_n 2, 1) := by decide +kernel
theorem d_H_activatorGets_10 : decode c_H_activatorGets 10 = .ok (.iconst (-1), 1) := by decide +kernel
theorem d_H_activatorGets_11 : decode c_H_activatorGets 11 = .ok (.if_icmp .ne 5, 3) := by decide +kernel
theorem d_H_activatorGets_14 : decode c_H_activatorGets 14 = .ok (.iconst 0, 1) := by decide +kernel
theorem d_H_activatorGets_15 : decode c_H_activatorGets 15 = .ok (.ireturn, 1) := by decide +kernel
theorem d_H_activatorGets_16 : decode c_H_activatorGets 16 = .ok (.aload_n 0, 1) := by decide +kernel
theorem d_H_activatorGets_17 : decode c_H_activatorGets 17 = .ok (.getfield 28, 3) := by decide +kernel
theorem d_H_activatorGets_20 : decode c_H_activatorGets 20 = .ok (.getfield 195, 3) := by decide +kernel
theorem d_H_activatorGets_23 : decode c_H_activatorGets 23 = .ok (.iload_n 2, 1) := by decide +kernel
theorem d_H_activatorGets_24 : decode c_H_activatorGets 24 = .ok (.aaload, 1) := by decide +kernel
theorem d_H_activatorGets_25 : decode c_H_activatorGets 25 = .ok (.getfield 199, 3) := by decide +kernel
theorem d_H_activatorGets_28 : decode c_H_activatorGets 28 = .ok (.iload_n 1, 1) := by decide +kernel
theorem d_H_activatorGets_29 : decode c_H_activatorGets 29 = .ok (.dup2, 1) := by decide +kernel
theorem d_H_activatorGets_30 : decode c_H_activatorGets 30 = .ok (.iaload, 1) := by decide +kernel
theorem d_H_activatorGets_31 : decode c_H_activatorGets 31 = .ok (.iconst 1, 1) := by decide +kernel
theorem d_H_activatorGets_32 : decode c_H_activatorGets 32 = .ok (.iadd, 1) := by decide +kernel
theorem d_H_activatorGets_33 : decode c_H_activatorGets 33 = .ok (.iastore, 1) := by decide +kernel
theorem d_H_activatorGets_34 : decode c_H_activatorGets 34 = .ok (.iconst 1, 1) := by decide +kernel
theorem d_H_activatorGets_35 : decode c_H_activatorGets 35 = .ok (.ireturn, 1) := by decide +kernel
def T_H_activatorGets_0 : List (Nat × bh_Op) := [(0, bo_ald 1 0),
  (1, bo_gR 4 3 2 19),
  (4, bo_st 5 (bg_push (.inl (.int 0)))),
  (5, bo_callV 8 2 0 0 19 F_V_bestRow),
  (8, bo_ist 9 2),
  (9, bo_ild 10 2),
  (10, bo_st 11 (bg_push (.inl (.int (-1))))),
  (11, bo_if2 14 16 (fun x y => ¬ x = y)),
  (14, bo_st 15 (bg_push (.inl (.int 0)))),
  (15, bo_zret 0),
  (16, bo_ald 17 0),
  (17, bo_gR 20 3 2 19),
  (20, bo_gR 23 19 0 20),
  (23, bo_ild 24 2),
  (24, bo_Rald bh_ak bh_al 25),
  (25, bo_gR 28 21 0 22),
  (28, bo_ild 29 1),
  (29, bo_st 30 bg_dup2),
  (30, bo_Iald bh_ak bh_al 31),
  (31, bo_st 32 (bg_push (.inl (.int 1)))),
  (32, bo_st 33 (bg_ii (fun x y => x + y))),
  (33, bo_Iast bh_ak bh_al 34),
  (34, bo_st 35 (bg_push (.inl (.int 1)))),
  (35, bo_zret 0)]
def T_H_activatorGets : List (Nat × bh_Op) := T_H_activatorGets_0
set_option maxRecDepth 20000 in
theorem mT_H_activatorGets_0 : ∀ q ∈ T_H_activatorGets_0, bh_mono q.2 := List.forall_mem_cons.mpr ⟨bo_ald_m _ _, List.forall_mem_cons.mpr ⟨bo_gR_m _ _ _ _, List.forall_mem_cons.mpr ⟨bo_st_mono (bg_push_m _), List.forall_mem_cons.mpr ⟨bo_callV_m (mF_V_bestRow) _ _ _ _ _, List.forall_mem_cons.mpr ⟨bo_ist_m _ _, List.forall_mem_cons.mpr ⟨bo_ild_m _ _, List.forall_mem_cons.mpr ⟨bo_st_mono (bg_push_m _), List.forall_mem_cons.mpr ⟨bo_if2_m _ _ _, List.forall_mem_cons.mpr ⟨bo_st_mono (bg_push_m _), List.forall_mem_cons.mpr ⟨bo_zret_m _, List.forall_mem_cons.mpr ⟨bo_ald_m _ _, List.forall_mem_cons.mpr ⟨bo_gR_m _ _ _ _, List.forall_mem_cons.mpr ⟨bo_gR_m _ _ _ _, List.forall_mem_cons.mpr ⟨bo_ild_m _ _, List.forall_mem_cons.mpr ⟨bo_Rald_m _ _ _, List.forall_mem_cons.mpr ⟨bo_gR_m _ _ _ _, List.forall_mem_cons.mpr ⟨bo_ild_m _ _, List.forall_mem_cons.mpr ⟨bo_st_mono bg_dup2_m, List.forall_mem_cons.mpr ⟨bo_Iald_m _ _ _, List.forall_mem_cons.mpr ⟨bo_st_mono (bg_push_m _), List.forall_mem_cons.mpr ⟨bo_st_mono (bg_ii_m _), List.forall_mem_cons.mpr ⟨bo_Iast_m _ _ _, List.forall_mem_cons.mpr ⟨bo_st_mono (bg_push_m _), List.forall_mem_cons.mpr ⟨bo_zret_m _, fun _ h => absurd h List.not_mem_nil⟩⟩⟩⟩⟩⟩⟩⟩⟩⟩⟩⟩⟩⟩⟩⟩⟩⟩⟩⟩⟩⟩⟩⟩
theorem m_H_activatorGets : ∀ pc, bh_mono (bh_tb (T_H_activatorGets) pc) := bh_tb_m mT_H_activatorGets_0
def F_H_activatorGets : bh_Fn := bh_fn 3 (bh_tb T_H_activatorGets)
theorem mF_H_activatorGets : bh_monoF F_H_activatorGets := bh_fn_m m_H_activatorGets
theorem cl_H_activatorGets {s : State} {args : Array Value} (d B : Nat) (hts : ∀ w ∈ bh_ws, w.before args s = true) : bh_Cal (bh_rm (d + 1) B) s y_H_activatorGets 3 (.code y_H_activatorGets c_H_activatorGets 3 (some .boolean) :: bh_ws) (bh_rm d 0) 0 1 := bh_cal d B hts wd_381 wd_1 (by decide) (by decide +kernel)
set_option maxHeartbeats 4000000 in
set_option maxRecDepth 100000 in
theorem cn_H_activatorGets {l : Launch} {G : bh_G} {base sb L : Nat} {xs : Nat → Int32} (htr : l.stackTraces = false) (d : Nat) : bh_Con l G base (bh_Bg G base sb L xs) y_H_activatorGets (.code y_H_activatorGets c_H_activatorGets 3 (some .boolean) :: bh_ws) (bh_rm (d + 2) 0) 0 false F_H_activatorGets := by
  refine bh_method (cc := c_H_activatorGets) (ret := (some .boolean)) (by decide +kernel) rfl ?_
  intro p e s m args below meth c ad0 M0 Z X0 hr hlocks hname htab hbs hB
  obtain ⟨hx, hb, hml, hown, hts⟩ := id X0
  have hw : ∀ w ∈ bh_ws, w.before args s = true := fun w h => hts w (List.mem_cons_of_mem _ h)
  have hBg := bh_BgK (G := G) (base := base) (sb := sb) (L := L) (xs := xs)
  obtain ⟨hK, hAr, hen, hinj, hu1, hu2, hstr, hX, hsb, hsc, hxw, hao, hnc⟩ := id hB
  obtain ⟨ha1, ha2, ha3, ha4, ha5, ha6, ha0⟩ := bh_arr hAr
  exact List.forall_mem_cons.mpr ⟨fun S h => bs_aload_n (Z := Z) hx hb rfl d_H_activatorGets_0 h, List.forall_mem_cons.mpr ⟨fun S h => bs_gR (Z := Z) (C := R_H) (T := F_H) (N := 5) (t := 3) (j := 2) hx hb hK hts (fun w h => List.mem_cons_of_mem _ (iw_H w h)) hown rfl rfl (by decide) (hts _ (List.mem_cons_of_mem _ wd_226)) (fun _ h => h) rfl rfl rfl d_H_activatorGets_1 h, List.forall_mem_cons.mpr ⟨fun S h => bs_iconst (Z := Z) hx hb (by decide) d_H_activatorGets_4 h, List.forall_mem_cons.mpr ⟨fun S h => bs_callV (Z := Z) (C := R_V) hBg hbs hB X0 hK (cn_V_bestRow htr (d + 0)) (cl_V_bestRow _ _ hw) (hts _ (List.mem_cons_of_mem _ wd_382)) (hts _ (List.mem_cons_of_mem _ wd_383)) (hts _ (List.mem_cons_of_mem _ wd_384)) rfl rfl rfl rfl rfl (Nat.le_refl _) (Nat.le_refl _) d_H_activatorGets_5 (bs_out htab hlocks) h, List.forall_mem_cons.mpr ⟨fun S h => bs_istore_n (Z := Z) hx hb rfl d_H_activatorGets_8 h, List.forall_mem_cons.mpr ⟨fun S h => bs_iload_n (Z := Z) hx hb rfl d_H_activatorGets_9 h, List.forall_mem_cons.mpr ⟨fun S h => bs_iconst (Z := Z) hx hb (by decide) d_H_activatorGets_10 h, List.forall_mem_cons.mpr ⟨fun S h => bs_icmp_ne (Z := Z) hx hb d_H_activatorGets_11 (by decide) h, List.forall_mem_cons.mpr ⟨fun S h => bs_iconst (Z := Z) hx hb (by decide) d_H_activatorGets_14 h, List.forall_mem_cons.mpr ⟨fun S h => bs_zret (Z := Z) hx hb hr hlocks d_H_activatorGets_15 h, List.forall_mem_cons.mpr ⟨fun S h => bs_aload_n (Z := Z) hx hb rfl d_H_activatorGets_16 h, List.forall_mem_cons.mpr ⟨fun S h => bs_gR (Z := Z) (C := R_H) (T := F_H) (N := 5) (t := 3) (j := 2) hx hb hK hts (fun w h => List.mem_cons_of_mem _ (iw_H w h)) hown rfl rfl (by decide) (hts _ (List.mem_cons_of_mem _ wd_226)) (fun _ h => h) rfl rfl rfl d_H_activatorGets_17 h, List.forall_mem_cons.mpr ⟨fun S h => bs_gR (Z := Z) (C := R_V) (T := F_V) (N := 3) (t := 19) (j := 0) hx hb hK hts (fun w h => List.mem_cons_of_mem _ (iw_V w h)) hown rfl rfl (by decide) (hts _ (List.mem_cons_of_mem _ wd_192)) (fun _ h => h) rfl rfl rfl d_H_activatorGets_20 h, List.forall_mem_cons.mpr ⟨fun S h => bs_iload_n (Z := Z) hx hb rfl d_H_activatorGets_23 h, List.forall_mem_cons.mpr ⟨fun S h => bs_Rald (Z := Z) hx hb ha5 d_H_activatorGets_24 h, List.forall_mem_cons.mpr ⟨fun S h => bs_gR (Z := Z) (C := R_S) (T := F_S) (N := 5) (t := 21) (j := 0) hx hb hK hts (fun w h => List.mem_cons_of_mem _ (iw_S w h)) hown rfl rfl (by decide) (hts _ (List.mem_cons_of_mem _ wd_173)) (fun _ h => h) rfl rfl rfl d_H_activatorGets_25 h, List.forall_mem_cons.mpr ⟨fun S h => bs_iload_n (Z := Z) hx hb rfl d_H_activatorGets_28 h, List.forall_mem_cons.mpr ⟨fun S h => bs_dup2 (Z := Z) hx hb d_H_activatorGets_29 h, List.forall_mem_cons.mpr ⟨fun S h => bs_Iald (Z := Z) hx hb ha1 d_H_activatorGets_30 h, List.forall_mem_cons.mpr ⟨fun S h => bs_iconst (Z := Z) hx hb (by decide) d_H_activatorGets_31 h, List.forall_mem_cons.mpr ⟨fun S h => bs_iadd (Z := Z) hx hb d_H_activatorGets_32 h, List.forall_mem_cons.mpr ⟨fun S h => bs_Iast (Z := Z) hx hb ha1 d_H_activatorGets_33 h, List.forall_mem_cons.mpr ⟨fun S h => bs_iconst (Z := Z) hx hb (by decide) d_H_activatorGets_34 h, List.forall_mem_cons.mpr ⟨fun S h => bs_zret (Z := Z) hx hb hr hlocks d_H_activatorGets_35 h, fun _ h => absurd h List.not_mem_nil⟩⟩⟩⟩⟩⟩⟩⟩⟩⟩⟩⟩⟩⟩⟩⟩⟩⟩⟩⟩⟩⟩⟩⟩
abbrev c_H_runActivator : ByteArray := prog_1_method_30_code
def y_H_runActivator : MethodName := ⟨"BundleHall", "runActivator", "(LBundleHall$Bundle;)Z"⟩
theorem d_H_runActivator_0 : decode c_H_runActivator 0 = .ok (.aload_n 1, 1) := by decide +kernel
theorem d_H_runActivator_1 : decode c_H_runActivator 1 = .ok (.getfield 312, 3) := by decide +kernel
theorem d_H_runActivator_4 : decode c_H_runActivator 4 = .ok (.tableswitch 65 1 4 #[32, 34, 43, 52], 32) := by decide +kernel
theorem d_H_runActivator_36 : decode c_H_runActivator 36 = .ok (.iconst 0, 1) := by decide +kernel
theorem d_H_runActivator_37 : decode c_H_runActivator 37 = .ok (.ireturn, 1) := by decide +kernel
theorem d_H_runActivator_38 : decode c_H_runActivator 38 = .ok (.aload_n 0, 1) := by decide +kernel
theorem d_H_runActivator_39 : decode c_H_runActivator 39 = .ok (.aload_n 1, 1) := by decide +kernel
theorem d_H_runActivator_40 : decode c_H_runActivator 40 = .ok (.getfield 308, 3) := by decide +kernel
theorem d_H_runActivator_43 : decode c_H_runActivator 43 = .ok (.invokevirtual 315, 3) := by decide +kernel
theorem d_H_runActivator_46 : decode c_H_runActivator 46 = .ok (.ireturn, 1) := by decide +kernel
theorem d_H_runActivator_47 : decode c_H_runActivator 47 = .ok (.aload_n 0, 1) := by decide +kernel
theorem d_H_runActivator_48 : decode c_H_runActivator 48 = .ok (.aload_n 1, 1) := by decide +kernel
theorem d_H_runActivator_49 : decode c_H_runActivator 49 = .ok (.getfield 308, 3) := by decide +kernel
theorem d_H_runActivator_52 : decode c_H_runActivator 52 = .ok (.invokevirtual 318, 3) := by decide +kernel
theorem d_H_runActivator_55 : decode c_H_runActivator 55 = .ok (.ireturn, 1) := by decide +kernel
theorem d_H_runActivator_56 : decode c_H_runActivator 56 = .ok (.aload_n 1, 1) := by decide +kernel
theorem d_H_runActivator_57 : decode c_H_runActivator 57 = .ok (.getfield 305, 3) := by decide +kernel
theorem d_H_runActivator_60 : decode c_H_runActivator 60 = .ok (.ifCond .ne 7, 3) := by decide +kernel
theorem d_H_runActivator_63 : decode c_H_runActivator 63 = .ok (.iconst 1, 1) := by decide +kernel
theorem d_H_runActivator_64 : decode c_H_runActivator 64 = .ok (.goto 4, 3) := by decide +kernel
theorem d_H_runActivator_67 : decode c_H_runActivator 67 = .ok (.iconst 0, 1) := by decide +kernel
theorem d_H_runActivator_68 : decode c_H_runActivator 68 = .ok (.ireturn, 1) := by decide +kernel
theorem d_H_runActivator_69 : decode c_H_runActivator 69 = .ok (.iconst 1, 1) := by decide +kernel
theorem d_H_runActivator_70 : decode c_H_runActivator 70 = .ok (.ireturn, 1) := by decide +kernel
theorem bh_sw_H_runActivator_4 : ∀ z : Int32, (1 : Int) ≤ z.toInt → z.toInt ≤ (4 : Int) → ∃ q ∈ ([(1, 36), (2, 38), (3, 47), (4, 56)] : List (Int32 × Nat)), q.1 = z := by
  intro z h1 h2
  have h3 : z.toInt = 1 ∨ z.toInt = 2 ∨ z.toInt = 3 ∨ z.toInt = 4 := by omega
  rcases h3 with h | h | h | h
  · exact ⟨(1, 36), List.mem_of_getElem? (i := 0) rfl, Int32.toInt_inj.mp (by rw [h]; decide)⟩
  · exact ⟨(2, 38), List.mem_of_getElem? (i := 1) rfl, Int32.toInt_inj.mp (by rw [h]; decide)⟩
  · exact ⟨(3, 47), List.mem_of_getElem? (i := 2) rfl, Int32.toInt_inj.mp (by rw [h]; decide)⟩
  · exact ⟨(4, 56), List.mem_of_getElem? (i := 3) rfl, Int32.toInt_inj.mp (by rw [h]; decide)⟩
def T_H_runActivator_0 : List (Nat × bh_Op) := [(0, bo_ald 1 1),
  (1, bo_gI 4 5 6),
  (4, bo_sw [(1, 36), (2, 38), (3, 47), (4, 56)] 69),
  (36, bo_st 37 (bg_push (.inl (.int 0)))),
  (37, bo_zret 0),
  (38, bo_ald 39 0),
  (39, bo_ald 40 1),
  (40, bo_gI 43 5 0),
  (43, bo_callV 46 2 0 0 3 F_H_activatorRegisters),
  (46, bo_zret 0),
  (47, bo_ald 48 0),
  (48, bo_ald 49 1),
  (49, bo_gI 52 5 0),
  (52, bo_callV 55 2 0 0 3 F_H_activatorGets),
  (55, bo_zret 0),
  (56, bo_ald 57 1),
  (57, bo_gI 60 5 8),
  (60, bo_if1 63 67 (fun x => ¬ x = 0)),
  (63, bo_st 64 (bg_push (.inl (.int 1)))),
  (64, bo_go 68),
  (67, bo_st 68 (bg_push (.inl (.int 0)))),
  (68, bo_zret 0),
  (69, bo_st 70 (bg_push (.inl (.int 1)))),
  (70, bo_zret 0)]
def T_H_runActivator : List (Nat × bh_Op) := T_H_runActivator_0
set_option maxRecDepth 20000 in
theorem mT_H_runActivator_0 : ∀ q ∈ T_H_runActivator_0, bh_mono q.2 := List.forall_mem_cons.mpr ⟨bo_ald_m _ _, List.forall_mem_cons.mpr ⟨bo_gI_m _ _ _, List.forall_mem_cons.mpr ⟨bo_sw_m _ _, List.forall_mem_cons.mpr ⟨bo_st_mono (bg_push_m _), List.forall_mem_cons.mpr ⟨bo_zret_m _, List.forall_mem_cons.mpr ⟨bo_ald_m _ _, List.forall_mem_cons.mpr ⟨bo_ald_m _ _, List.forall_mem_cons.mpr ⟨bo_gI_m _ _ _, List.forall_mem_cons.mpr ⟨bo_callV_m (mF_H_activatorRegisters) _ _ _ _ _, List.forall_mem_cons.mpr ⟨bo_zret_m _, List.forall_mem_cons.mpr ⟨bo_ald_m _ _, List.forall_mem_cons.mpr ⟨bo_ald_m _ _, List.forall_mem_cons.mpr ⟨bo_gI_m _ _ _, List.forall_mem_cons.mpr ⟨bo_callV_m (mF_H_activatorGets) _ _ _ _ _, List.forall_mem_cons.mpr ⟨bo_zret_m _, List.forall_mem_cons.mpr ⟨bo_ald_m _ _, List.forall_mem_cons.mpr ⟨bo_gI_m _ _ _, List.forall_mem_cons.mpr ⟨bo_if1_m _ _ _, List.forall_mem_cons.mpr ⟨bo_st_mono (bg_push_m _), List.forall_mem_cons.mpr ⟨bo_go_m _, List.forall_mem_cons.mpr ⟨bo_st_mono (bg_push_m _), List.forall_mem_cons.mpr ⟨bo_zret_m _, List.forall_mem_cons.mpr ⟨bo_st_mono (bg_push_m _), List.forall_mem_cons.mpr ⟨bo_zret_m _, fun _ h => absurd h List.not_mem_nil⟩⟩⟩⟩⟩⟩⟩⟩⟩⟩⟩⟩⟩⟩⟩⟩⟩⟩⟩⟩⟩⟩⟩⟩
theorem m_H_runActivator : ∀ pc, bh_mono (bh_tb (T_H_runActivator) pc) := bh_tb_m mT_H_runActivator_0
def F_H_runActivator : bh_Fn := bh_fn 2 (bh_tb T_H_runActivator)
theorem mF_H_runActivator : bh_monoF F_H_runActivator := bh_fn_m m_H_runActivator
theorem cl_H_runActivator {s : State} {args : Array Value} (d B : Nat) (hts : ∀ w ∈ bh_ws, w.before args s = true) : bh_Cal (bh_rm (d + 1) B) s y_H_runActivator 2 (.code y_H_runActivator c_H_runActivator 2 (some .boolean) :: bh_ws) (bh_rm d 0) 0 1 := bh_cal d B hts wd_360 wd_1 (by decide) (by decide +kernel)
set_option maxHeartbeats 4000000 in
set_option maxRecDepth 100000 in
theorem cn_H_runActivator {l : Launch} {G : bh_G} {base sb L : Nat} {xs : Nat → Int32} (htr : l.stackTraces = false) (d : Nat) : bh_Con l G base (bh_Bg G base sb L xs) y_H_runActivator (.code y_H_runActivator c_H_runActivator 2 (some .boolean) :: bh_ws) (bh_rm (d + 5) 0) 0 false F_H_runActivator := by
  refine bh_method (cc := c_H_runActivator) (ret := (some .boolean)) (by decide +kernel) rfl ?_
  intro p e s m args below meth c ad0 M0 Z X0 hr hlocks hname htab hbs hB
  obtain ⟨hx, hb, hml, hown, hts⟩ := id X0
  have hw : ∀ w ∈ bh_ws, w.before args s = true := fun w h => hts w (List.mem_cons_of_mem _ h)
  have hBg := bh_BgK (G := G) (base := base) (sb := sb) (L := L) (xs := xs)
  obtain ⟨hK, hAr, hen, hinj, hu1, hu2, hstr, hX, hsb, hsc, hxw, hao, hnc⟩ := id hB
  obtain ⟨ha1, ha2, ha3, ha4, ha5, ha6, ha0⟩ := bh_arr hAr
  exact List.forall_mem_cons.mpr ⟨fun S h => bs_aload_n (Z := Z) hx hb rfl d_H_runActivator_0 h, List.forall_mem_cons.mpr ⟨fun S h => bs_gI (Z := Z) (C := R_B) (T := F_B) (N := 10) (t := 5) (j := 6) hx hb hK hts (fun w h => List.mem_cons_of_mem _ (iw_B w h)) hown rfl rfl (by decide) (hts _ (List.mem_cons_of_mem _ wd_102)) (fun _ h => h) rfl rfl rfl d_H_runActivator_1 h, List.forall_mem_cons.mpr ⟨fun S h => bs_tsw (Z := Z) hx hb d_H_runActivator_4 (by decide) (by decide +kernel) (bh_sw_H_runActivator_4) h, List.forall_mem_cons.mpr ⟨fun S h => bs_iconst (Z := Z) hx hb (by decide) d_H_runActivator_36 h, List.forall_mem_cons.mpr ⟨fun S h => bs_zret (Z := Z) hx hb hr hlocks d_H_runActivator_37 h, List.forall_mem_cons.mpr ⟨fun S h => bs_aload_n (Z := Z) hx hb rfl d_H_runActivator_38 h, List.forall_mem_cons.mpr ⟨fun S h => bs_aload_n (Z := Z) hx hb rfl d_H_runActivator_39 h, List.forall_mem_cons.mpr ⟨fun S h => bs_gI (Z := Z) (C := R_B) (T := F_B) (N := 10) (t := 5) (j := 0) hx hb hK hts (fun w h => List.mem_cons_of_mem _ (iw_B w h)) hown rfl rfl (by decide) (hts _ (List.mem_cons_of_mem _ wd_87)) (fun _ h => h) rfl rfl rfl d_H_runActivator_40 h, List.forall_mem_cons.mpr ⟨fun S h => bs_callV (Z := Z) (C := R_H) hBg hbs hB X0 hK (cn_H_activatorRegisters htr (d + 0)) (cl_H_activatorRegisters _ _ hw) (hts _ (List.mem_cons_of_mem _ wd_361)) (hts _ (List.mem_cons_of_mem _ wd_363)) (hts _ (List.mem_cons_of_mem _ ws_15)) rfl rfl rfl rfl rfl (Nat.le_refl _) (Nat.le_refl _) d_H_runActivator_43 (bs_out htab hlocks) h, List.forall_mem_cons.mpr ⟨fun S h => bs_zret (Z := Z) hx hb hr hlocks d_H_runActivator_46 h, List.forall_mem_cons.mpr ⟨fun S h => bs_aload_n (Z := Z) hx hb rfl d_H_runActivator_47 h, List.forall_mem_cons.mpr ⟨fun S h => bs_aload_n (Z := Z) hx hb rfl d_H_runActivator_48 h, List.forall_mem_cons.mpr ⟨fun S h => bs_gI (Z := Z) (C := R_B) (T := F_B) (N := 10) (t := 5) (j := 0) hx hb hK hts (fun w h => List.mem_cons_of_mem _ (iw_B w h)) hown rfl rfl (by decide) (hts _ (List.mem_cons_of_mem _ wd_87)) (fun _ h => h) rfl rfl rfl d_H_runActivator_49 h, List.forall_mem_cons.mpr ⟨fun S h => bs_callV (Z := Z) (C := R_H) hBg hbs hB X0 hK (cn_H_activatorGets htr (d + 2)) (cl_H_activatorGets _ _ hw) (hts _ (List.mem_cons_of_mem _ wd_378)) (hts _ (List.mem_cons_of_mem _ wd_380)) (hts _ (List.mem_cons_of_mem _ ws_17)) rfl rfl rfl rfl rfl (Nat.le_refl _) (Nat.le_refl _) d_H_runActivator_52 (bs_out htab hlocks) h, List.forall_mem_cons.mpr ⟨fun S h => bs_zret (Z := Z) hx hb hr hlocks d_H_runActivator_55 h, List.forall_mem_cons.mpr ⟨fun S h => bs_aload_n (Z := Z) hx hb rfl d_H_runActivator_56 h, List.forall_mem_cons.mpr ⟨fun S h => bs_gI (Z := Z) (C := R_B) (T := F_B) (N := 10) (t := 5) (j := 8) hx hb hK hts (fun w h => List.mem_cons_of_mem _ (iw_B w h)) hown rfl rfl (by decide) (hts _ (List.mem_cons_of_mem _ wd_106)) (fun _ h => h) rfl rfl rfl d_H_runActivator_57 h, List.forall_mem_cons.mpr ⟨fun S h => bs_if_ne (Z := Z) hx hb d_H_runActivator_60 (by decide) h, List.forall_mem_cons.mpr ⟨fun S h => bs_iconst (Z := Z) hx hb (by decide) d_H_runActivator_63 h, List.forall_mem_cons.mpr ⟨fun S h => bs_goto (Z := Z) hx hb d_H_runActivator_64 (by decide) h, List.forall_mem_cons.mpr ⟨fun S h => bs_iconst (Z := Z) hx hb (by decide) d_H_runActivator_67 h, List.forall_mem_cons.mpr ⟨fun S h => bs_zret (Z := Z) hx hb hr hlocks d_H_runActivator_68 h, List.forall_mem_cons.mpr ⟨fun S h => bs_iconst (Z := Z) hx hb (by decide) d_H_runActivator_69 h, List.forall_mem_cons.mpr ⟨fun S h => bs_zret (Z := Z) hx hb hr hlocks d_H_runActivator_70 h, fun _ h => absurd h List.not_mem_nil⟩⟩⟩⟩⟩⟩⟩⟩⟩⟩⟩⟩⟩⟩⟩⟩⟩⟩⟩⟩⟩⟩⟩⟩
abbrev c_H_activate : ByteArray := prog_1_method_29_code
def y_H_activate : MethodName := ⟨"BundleHall", "activate", "(LBundleHall$Bundle;)LBundleHall$Outcome;"⟩
theorem d_H_activate_0 : decode c_H_activate 0 = .ok (.aload_n 1, 1) := by decide +kernel
theorem d_H_activate_1 : decode c_H_activate 1 = .ok (.getfield 50, 3) := by decide +kernel
theorem d_H_activate_4 : decode c_H_activate 4 = .ok (.iconst 1, 1) := by decide +kernel
theorem d_H_activate_5 : decode c_H_activate 5 = .ok (.if_icmp .ne 25, 3) := by decide +kernel
theorem d_H_activate_8 : decode c_H_activate 8 = .ok (.aload_n 0, 1) := by decide +kernel
theorem d_H_activate_9 : decode c_H_activate 9 = .ok (.getfield 21, 3) := by decide +kernel
theorem d_H_activate_12 : decode c_H_activate 12 = .ok (.aload_n 0, 1) := by decide +kernel
theorem d_H_activate_13 : decode c_H_activate 13 = .ok (.getfield 11, 3) := by decide +kernel
theorem d_H_activate_16 : decode c_H_activate 16 = .ok (.aload_n 1, 1) := by decide +kernel
theorem d_H_activate_17 : decode c_H_activate 17 = .ok (.invokevirtual 108, 3) := by decide +kernel
theorem d_H_activate_20 : decode c_H_activate 20 = .ok (.astore_n 2, 1) := by decide +kernel
theorem d_H_activate_21 : decode c_H_activate 21 = .ok (.aload_n 2, 1) := by decide +kernel
theorem d_H_activate_22 : decode c_H_activate 22 = .ok (.getstatic 141, 3) := by decide +kernel
theorem d_H_activate_25 : decode c_H_activate 25 = .ok (.if_acmp .eq 5, 3) := by decide +kernel
theorem d_H_activate_28 : decode c_H_activate 28 = .ok (.aload_n 2, 1) := by decide +kernel
theorem d_H_activate_29 : decode c_H_activate 29 = .ok (.areturn, 1) := by decide +kernel
theorem d_H_activate_30 : decode c_H_activate 30 = .ok (.aload_n 0, 1) := by decide +kernel
theorem d_H_activate_31 : decode c_H_activate 31 = .ok (.aload_n 1, 1) := by decide +kernel
theorem d_H_activate_32 : decode c_H_activate 32 = .ok (.invokevirtual 301, 3) := by decide +kernel
theorem d_H_activate_35 : decode c_H_activate 35 = .ok (.ifCond .ne 7, 3) := by decide +kernel
theorem d_H_activate_38 : decode c_H_activate 38 = .ok (.getstatic 296, 3) := by decide +kernel
theorem d_H_activate_41 : decode c_H_activate 41 = .ok (.areturn, 1) := by decide +kernel
theorem d_H_activate_42 : decode c_H_activate 42 = .ok (.aload_n 1, 1) := by decide +kernel
theorem d_H_activate_43 : decode c_H_activate 43 = .ok (.iconst 1, 1) := by decide +kernel
theorem d_H_activate_44 : decode c_H_activate 44 = .ok (.putfield 305, 3) := by decide +kernel
theorem d_H_activate_47 : decode c_H_activate 47 = .ok (.aload_n 1, 1) := by decide +kernel
theorem d_H_activate_48 : decode c_H_activate 48 = .ok (.iconst 3, 1) := by decide +kernel
theorem d_H_activate_49 : decode c_H_activate 49 = .ok (.putfield 50, 3) := by decide +kernel
theorem d_H_activate_52 : decode c_H_activate 52 = .ok (.aload_n 0, 1) := by decide +kernel
theorem d_H_activate_53 : decode c_H_activate 53 = .ok (.getfield 35, 3) := by decide +kernel
theorem d_H_activate_56 : decode c_H_activate 56 = .ok (.bipush 100, 2) := by decide +kernel
theorem d_H_activate_58 : decode c_H_activate 58 = .ok (.aload_n 1, 1) := by decide +kernel
theorem d_H_activate_59 : decode c_H_activate 59 = .ok (.getfield 308, 3) := by decide +kernel
theorem d_H_activate_62 : decode c_H_activate 62 = .ok (.iadd, 1) := by decide +kernel
theorem d_H_activate_63 : decode c_H_activate 63 = .ok (.invokevirtual 309, 3) := by decide +kernel
theorem d_H_activate_66 : decode c_H_activate 66 = .ok (.getstatic 141, 3) := by decide +kernel
theorem d_H_activate_69 : decode c_H_activate 69 = .ok (.areturn, 1) := by decide +kernel
def T_H_activate_0 : List (Nat × bh_Op) := [(0, bo_ald 1 1),
  (1, bo_gI 4 5 3),
  (4, bo_st 5 (bg_push (.inl (.int 1)))),
  (5, bo_if2 8 30 (fun x y => ¬ x = y)),
  (8, bo_ald 9 0),
  (9, bo_gR 12 3 1 15),
  (12, bo_ald 13 0),
  (13, bo_gR 16 3 0 4),
  (16, bo_ald 17 1),
  (17, bo_callV 20 3 0 0 15 F_R_run),
  (20, bo_ast 21 2),
  (21, bo_ald 22 2),
  (22, bo_st 25 (bg_push (.inr (2, 1)))),
  (25, bo_acmp 28 30 true),
  (28, bo_ald 29 2),
  (29, bo_aret 0),
  (30, bo_ald 31 0),
  (31, bo_ald 32 1),
  (32, bo_callV 35 2 0 0 3 F_H_runActivator),
  (35, bo_if1 38 42 (fun x => ¬ x = 0)),
  (38, bo_st 41 (bg_push (.inr (2, 4)))),
  (41, bo_aret 0),
  (42, bo_ald 43 1),
  (43, bo_st 44 (bg_push (.inl (.int 1)))),
  (44, bo_pZ 47 5 8),
  (47, bo_ald 48 1),
  (48, bo_st 49 (bg_push (.inl (.int 3)))),
  (49, bo_pI 52 5 3),
  (52, bo_ald 53 0),
  (53, bo_gR 56 3 3 23),
  (56, bo_st 58 (bg_push (.inl (.int 100)))),
  (58, bo_ald 59 1),
  (59, bo_gI 62 5 0),
  (62, bo_st 63 (bg_ii (fun x y => x + y))),
  (63, bo_callV 66 2 0 0 23 F_E_add),
  (66, bo_st 69 (bg_push (.inr (2, 1)))),
  (69, bo_aret 0)]
def T_H_activate : List (Nat × bh_Op) := T_H_activate_0
set_option maxRecDepth 20000 in
theorem mT_H_activate_0 : ∀ q ∈ T_H_activate_0, bh_mono q.2 := List.forall_mem_cons.mpr ⟨bo_ald_m _ _, List.forall_mem_cons.mpr ⟨bo_gI_m _ _ _, List.forall_mem_cons.mpr ⟨bo_st_mono (bg_push_m _), List.forall_mem_cons.mpr ⟨bo_if2_m _ _ _, List.forall_mem_cons.mpr ⟨bo_ald_m _ _, List.forall_mem_cons.mpr ⟨bo_gR_m _ _ _ _, List.forall_mem_cons.mpr ⟨bo_ald_m _ _, List.forall_mem_cons.mpr ⟨bo_gR_m _ _ _ _, List.forall_mem_cons.mpr ⟨bo_ald_m _ _, List.forall_mem_cons.mpr ⟨bo_callV_m (mF_R_run) _ _ _ _ _, List.forall_mem_cons.mpr ⟨bo_ast_m _ _, List.forall_mem_cons.mpr ⟨bo_ald_m _ _, List.forall_mem_cons.mpr ⟨bo_st_mono (bg_push_m _), List.forall_mem_cons.mpr ⟨bo_acmp_m _ _ _, List.forall_mem_cons.mpr ⟨bo_ald_m _ _, List.forall_mem_cons.mpr ⟨bo_aret_m _, List.forall_mem_cons.mpr ⟨bo_ald_m _ _, List.forall_mem_cons.mpr ⟨bo_ald_m _ _, List.forall_mem_cons.mpr ⟨bo_callV_m (mF_H_runActivator) _ _ _ _ _, List.forall_mem_cons.mpr ⟨bo_if1_m _ _ _, List.forall_mem_cons.mpr ⟨bo_st_mono (bg_push_m _), List.forall_mem_cons.mpr ⟨bo_aret_m _, List.forall_mem_cons.mpr ⟨bo_ald_m _ _, List.forall_mem_cons.mpr ⟨bo_st_mono (bg_push_m _), List.forall_mem_cons.mpr ⟨bo_pZ_m _ _ _, List.forall_mem_cons.mpr ⟨bo_ald_m _ _, List.forall_mem_cons.mpr ⟨bo_st_mono (bg_push_m _), List.forall_mem_cons.mpr ⟨bo_pI_m _ _ _, List.forall_mem_cons.mpr ⟨bo_ald_m _ _, List.forall_mem_cons.mpr ⟨bo_gR_m _ _ _ _, List.forall_mem_cons.mpr ⟨bo_st_mono (bg_push_m _), List.forall_mem_cons.mpr ⟨bo_ald_m _ _, List.forall_mem_cons.mpr ⟨bo_gI_m _ _ _, List.forall_mem_cons.mpr ⟨bo_st_mono (bg_ii_m _), List.forall_mem_cons.mpr ⟨bo_callV_m (mF_E_add) _ _ _ _ _, List.forall_mem_cons.mpr ⟨bo_st_mono (bg_push_m _), List.forall_mem_cons.mpr ⟨bo_aret_m _, fun _ h => absurd h List.not_mem_nil⟩⟩⟩⟩⟩⟩⟩⟩⟩⟩⟩⟩⟩⟩⟩⟩⟩⟩⟩⟩⟩⟩⟩⟩⟩⟩⟩⟩⟩⟩⟩⟩⟩⟩⟩⟩⟩
theorem m_H_activate : ∀ pc, bh_mono (bh_tb (T_H_activate) pc) := bh_tb_m mT_H_activate_0
def F_H_activate : bh_Fn := bh_fn 3 (bh_tb T_H_activate)
theorem mF_H_activate : bh_monoF F_H_activate := bh_fn_m m_H_activate
theorem cl_H_activate {s : State} {args : Array Value} (d B : Nat) (hts : ∀ w ∈ bh_ws, w.before args s = true) : bh_Cal (bh_rm (d + 1) B) s y_H_activate 3 (.code y_H_activate c_H_activate 3 (some (.object "BundleHall$Outcome")) :: bh_ws) (bh_rm d 0) 0 1 := bh_cal d B hts wd_296 wd_1 (by decide) (by decide +kernel)
set_option maxHeartbeats 4000000 in
set_option maxRecDepth 100000 in
theorem cn_H_activate {l : Launch} {G : bh_G} {base sb L : Nat} {xs : Nat → Int32} (htr : l.stackTraces = false) (d : Nat) : bh_Con l G base (bh_Bg G base sb L xs) y_H_activate (.code y_H_activate c_H_activate 3 (some (.object "BundleHall$Outcome")) :: bh_ws) (bh_rm (d + 32) 0) 0 false F_H_activate := by
  refine bh_method (cc := c_H_activate) (ret := (some (.object "BundleHall$Outcome"))) (by decide +kernel) rfl ?_
  intro p e s m args below meth c ad0 M0 Z X0 hr hlocks hname htab hbs hB
  obtain ⟨hx, hb, hml, hown, hts⟩ := id X0
  have hw : ∀ w ∈ bh_ws, w.before args s = true := fun w h => hts w (List.mem_cons_of_mem _ h)
  have hBg := bh_BgK (G := G) (base := base) (sb := sb) (L := L) (xs := xs)
  obtain ⟨hK, hAr, hen, hinj, hu1, hu2, hstr, hX, hsb, hsc, hxw, hao, hnc⟩ := id hB
  obtain ⟨ha1, ha2, ha3, ha4, ha5, ha6, ha0⟩ := bh_arr hAr
  exact List.forall_mem_cons.mpr ⟨fun S h => bs_aload_n (Z := Z) hx hb rfl d_H_activate_0 h, List.forall_mem_cons.mpr ⟨fun S h => bs_gI (Z := Z) (C := R_B) (T := F_B) (N := 10) (t := 5) (j := 3) hx hb hK hts (fun w h => List.mem_cons_of_mem _ (iw_B w h)) hown rfl rfl (by decide) (hts _ (List.mem_cons_of_mem _ wd_95)) (fun _ h => h) rfl rfl rfl d_H_activate_1 h, List.forall_mem_cons.mpr ⟨fun S h => bs_iconst (Z := Z) hx hb (by decide) d_H_activate_4 h, List.forall_mem_cons.mpr ⟨fun S h => bs_icmp_ne (Z := Z) hx hb d_H_activate_5 (by decide) h, List.forall_mem_cons.mpr ⟨fun S h => bs_aload_n (Z := Z) hx hb rfl d_H_activate_8 h, List.forall_mem_cons.mpr ⟨fun S h => bs_gR (Z := Z) (C := R_H) (T := F_H) (N := 5) (t := 3) (j := 1) hx hb hK hts (fun w h => List.mem_cons_of_mem _ (iw_H w h)) hown rfl rfl (by decide) (hts _ (List.mem_cons_of_mem _ wd_225)) (fun _ h => h) rfl rfl rfl d_H_activate_9 h, List.forall_mem_cons.mpr ⟨fun S h => bs_aload_n (Z := Z) hx hb rfl d_H_activate_12 h, List.forall_mem_cons.mpr ⟨fun S h => bs_gR (Z := Z) (C := R_H) (T := F_H) (N := 5) (t := 3) (j := 0) hx hb hK hts (fun w h => List.mem_cons_of_mem _ (iw_H w h)) hown rfl rfl (by decide) (hts _ (List.mem_cons_of_mem _ wd_224)) (fun _ h => h) rfl rfl rfl d_H_activate_13 h, List.forall_mem_cons.mpr ⟨fun S h => bs_aload_n (Z := Z) hx hb rfl d_H_activate_16 h, List.forall_mem_cons.mpr ⟨fun S h => bs_callV (Z := Z) (C := R_R) hBg hbs hB X0 hK (cn_R_run htr (d + 0)) (cl_R_run _ _ hw) (hts _ (List.mem_cons_of_mem _ wd_297)) (hts _ (List.mem_cons_of_mem _ wd_298)) (hts _ (List.mem_cons_of_mem _ wd_299)) rfl rfl rfl rfl rfl (Nat.le_refl _) (Nat.le_refl _) d_H_activate_17 (bs_out htab hlocks) h, List.forall_mem_cons.mpr ⟨fun S h => bs_astore_n (Z := Z) hx hb rfl d_H_activate_20 h, List.forall_mem_cons.mpr ⟨fun S h => bs_aload_n (Z := Z) hx hb rfl d_H_activate_21 h, List.forall_mem_cons.mpr ⟨fun S h => bs_getst (Z := Z) hx hb (by decide) (hen 1 (by decide) (by decide)) hown (hts _ (List.mem_cons_of_mem _ wd_356)) (fun _ h => h) d_H_activate_22 h, List.forall_mem_cons.mpr ⟨fun S h => bs_acmp_eq (Z := Z) hx hb hinj d_H_activate_25 (by decide) h, List.forall_mem_cons.mpr ⟨fun S h => bs_aload_n (Z := Z) hx hb rfl d_H_activate_28 h, List.forall_mem_cons.mpr ⟨fun S h => bs_aret (Z := Z) hx hb hr (Or.inl ⟨_, rfl⟩) hlocks d_H_activate_29 h, List.forall_mem_cons.mpr ⟨fun S h => bs_aload_n (Z := Z) hx hb rfl d_H_activate_30 h, List.forall_mem_cons.mpr ⟨fun S h => bs_aload_n (Z := Z) hx hb rfl d_H_activate_31 h, List.forall_mem_cons.mpr ⟨fun S h => bs_callV (Z := Z) (C := R_H) hBg hbs hB X0 hK (cn_H_runActivator htr (d + 26)) (cl_H_runActivator _ _ hw) (hts _ (List.mem_cons_of_mem _ wd_357)) (hts _ (List.mem_cons_of_mem _ wd_359)) (hts _ (List.mem_cons_of_mem _ ws_14)) rfl rfl rfl rfl rfl (Nat.le_refl _) (Nat.le_refl _) d_H_activate_32 (bs_out htab hlocks) h, List.forall_mem_cons.mpr ⟨fun S h => bs_if_ne (Z := Z) hx hb d_H_activate_35 (by decide) h, List.forall_mem_cons.mpr ⟨fun S h => bs_getst (Z := Z) hx hb (by decide) (hen 4 (by decide) (by decide)) hown (hts _ (List.mem_cons_of_mem _ wd_386)) (fun _ h => h) d_H_activate_38 h, List.forall_mem_cons.mpr ⟨fun S h => bs_aret (Z := Z) hx hb hr (Or.inl ⟨_, rfl⟩) hlocks d_H_activate_41 h, List.forall_mem_cons.mpr ⟨fun S h => bs_aload_n (Z := Z) hx hb rfl d_H_activate_42 h, List.forall_mem_cons.mpr ⟨fun S h => bs_iconst (Z := Z) hx hb (by decide) d_H_activate_43 h, List.forall_mem_cons.mpr ⟨fun S h => bs_pZ (Z := Z) (C := R_B) (T := F_B) (N := 10) (t := 5) (j := 8) hx hb hK hts (fun w h => List.mem_cons_of_mem _ (iw_B w h)) hown rfl rfl (by decide) (hts _ (List.mem_cons_of_mem _ wd_106)) (fun _ h => h) rfl rfl t_B t_B_ok n_B rfl (by decide +kernel) rfl d_H_activate_44 h, List.forall_mem_cons.mpr ⟨fun S h => bs_aload_n (Z := Z) hx hb rfl d_H_activate_47 h, List.forall_mem_cons.mpr ⟨fun S h => bs_iconst (Z := Z) hx hb (by decide) d_H_activate_48 h, List.forall_mem_cons.mpr ⟨fun S h => bs_pI (Z := Z) (C := R_B) (T := F_B) (N := 10) (t := 5) (j := 3) hx hb hK hts (fun w h => List.mem_cons_of_mem _ (iw_B w h)) hown rfl rfl (by decide) (hts _ (List.mem_cons_of_mem _ wd_95)) (fun _ h => h) rfl rfl t_B t_B_ok n_B rfl (by decide +kernel) rfl d_H_activate_49 h, List.forall_mem_cons.mpr ⟨fun S h => bs_aload_n (Z := Z) hx hb rfl d_H_activate_52 h, List.forall_mem_cons.mpr ⟨fun S h => bs_gR (Z := Z) (C := R_H) (T := F_H) (N := 5) (t := 3) (j := 3) hx hb hK hts (fun w h => List.mem_cons_of_mem _ (iw_H w h)) hown rfl rfl (by decide) (hts _ (List.mem_cons_of_mem _ wd_227)) (fun _ h => h) rfl rfl rfl d_H_activate_53 h, List.forall_mem_cons.mpr ⟨fun S h => bs_bipush (Z := Z) hx hb (by decide) d_H_activate_56 h, List.forall_mem_cons.mpr ⟨fun S h => bs_aload_n (Z := Z) hx hb rfl d_H_activate_58 h, List.forall_mem_cons.mpr ⟨fun S h => bs_gI (Z := Z) (C := R_B) (T := F_B) (N := 10) (t := 5) (j := 0) hx hb hK hts (fun w h => List.mem_cons_of_mem _ (iw_B w h)) hown rfl rfl (by decide) (hts _ (List.mem_cons_of_mem _ wd_87)) (fun _ h => h) rfl rfl rfl d_H_activate_59 h, List.forall_mem_cons.mpr ⟨fun S h => bs_iadd (Z := Z) hx hb d_H_activate_62 h, List.forall_mem_cons.mpr ⟨fun S h => bs_callV (Z := Z) (C := R_E) hBg hbs hB X0 hK (cn_E_add htr (d + 30)) (cl_E_add _ _ hw) (hts _ (List.mem_cons_of_mem _ wd_277)) (hts _ (List.mem_cons_of_mem _ wd_278)) (hts _ (List.mem_cons_of_mem _ wd_279)) rfl rfl rfl rfl rfl (Nat.le_refl _) (Nat.le_refl _) d_H_activate_63 (bs_out htab hlocks) h, List.forall_mem_cons.mpr ⟨fun S h => bs_getst (Z := Z) hx hb (by decide) (hen 1 (by decide) (by decide)) hown (hts _ (List.mem_cons_of_mem _ wd_356)) (fun _ h => h) d_H_activate_66 h, List.forall_mem_cons.mpr ⟨fun S h => bs_aret (Z := Z) hx hb hr (Or.inl ⟨_, rfl⟩) hlocks d_H_activate_69 h, fun _ h => absurd h List.not_mem_nil⟩⟩⟩⟩⟩⟩⟩⟩⟩⟩⟩⟩⟩⟩⟩⟩⟩⟩⟩⟩⟩⟩⟩⟩⟩⟩⟩⟩⟩⟩⟩⟩⟩⟩⟩⟩⟩
abbrev c_H_refresh : ByteArray := prog_1_method_11_code
def y_H_refresh : MethodName := ⟨"BundleHall", "refresh", "()I"⟩
theorem d_H_refresh_0 : decode c_H_refresh 0 = .ok (.aload_n 0, 1) := by decide +kernel
theorem d_H_refresh_1 : decode c_H_refresh 1 = .ok (.invokevirtual 159, 3) := by decide +kernel
theorem d_H_refresh_4 : decode c_H_refresh 4 = .ok (.istore_n 1, 1) := by decide +kernel
theorem d_H_refresh_5 : decode c_H_refresh 5 = .ok (.bipush 7, 2) := by decide +kernel
theorem d_H_refresh_7 : decode c_H_refresh 7 = .ok (.istore_n 2, 1) := by decide +kernel
theorem d_H_refresh_8 : decode c_H_refresh 8 = .ok (.iload_n 2, 1) := by decide +kernel
theorem d_H_refresh_9 : decode c_H_refresh 9 = .ok (.ifCond .lt 27, 3) := by decide +kernel
theorem d_H_refresh_12 : decode c_H_refresh 12 = .ok (.iload_n 1, 1) := by decide +kernel
theorem d_H_refresh_13 : decode c_H_refresh 13 = .ok (.iload_n 2, 1) := by decide +kernel
theorem d_H_refresh_14 : decode c_H_refresh 14 = .ok (.invokestatic 162, 3) := by decide +kernel
theorem d_H_refresh_17 : decode c_H_refresh 17 = .ok (.ifCond .eq 13, 3) := by decide +kernel
theorem d_H_refresh_20 : decode c_H_refresh 20 = .ok (.aload_n 0, 1) := by decide +kernel
theorem d_H_refresh_21 : decode c_H_refresh 21 = .ok (.aload_n 0, 1) := by decide +kernel
theorem d_H_refresh_22 : decode c_H_refresh 22 = .ok (.getfield 11, 3) := by decide +kernel
theorem d_H_refresh_25 : decode c_H_refresh 25 = .ok (.iload_n 2, 1) := by decide +kernel
theorem d_H_refresh_26 : decode c_H_refresh 26 = .ok (.aaload, 1) := by decide +kernel
theorem d_H_refresh_27 : decode c_H_refresh 27 = .ok (.invokevirtual 134, 3) := by decide +kernel
theorem d_H_refresh_30 : decode c_H_refresh 30 = .ok (.iinc 2 (-1), 3) := by decide +kernel
theorem d_H_refresh_33 : decode c_H_refresh 33 = .ok (.goto (-25), 3) := by decide +kernel
theorem d_H_refresh_36 : decode c_H_refresh 36 = .ok (.iconst 0, 1) := by decide +kernel
theorem d_H_refresh_37 : decode c_H_refresh 37 = .ok (.istore_n 2, 1) := by decide +kernel
theorem d_H_refresh_38 : decode c_H_refresh 38 = .ok (.iload_n 2, 1) := by decide +kernel
theorem d_H_refresh_39 : decode c_H_refresh 39 = .ok (.bipush 8, 2) := by decide +kernel
theorem d_H_refresh_41 : decode c_H_refresh 41 = .ok (.if_icmp .ge 26, 3) := by decide +kernel
theorem d_H_refresh_44 : decode c_H_refresh 44 = .ok (.iload_n 1, 1) := by decide +kernel
theorem d_H_refresh_45 : decode c_H_refresh 45 = .ok (.iload_n 2, 1) := by decide +kernel
theorem d_H_refresh_46 : decode c_H_refresh 46 = .ok (.invokestatic 162, 3) := by decide +kernel
theorem d_H_refresh_49 : decode c_H_refresh 49 = .ok (.ifCond .eq 12, 3) := by decide +kernel
theorem d_H_refresh_52 : decode c_H_refresh 52 = .ok (.aload_n 0, 1) := by decide +kernel
theorem d_H_refresh_53 : decode c_H_refresh 53 = .ok (.getfield 11, 3) := by decide +kernel
theorem d_H_refresh_56 : decode c_H_refresh 56 = .ok (.iload_n 2, 1) := by decide +kernel
theorem d_H_refresh_57 : decode c_H_refresh 57 = .ok (.aaload, 1) := by decide +kernel
theorem d_H_refresh_58 : decode c_H_refresh 58 = .ok (.invokevirtual 166, 3) := by decide +kernel
theorem d_H_refresh_61 : decode c_H_refresh 61 = .ok (.iinc 2 1, 3) := by decide +kernel
theorem d_H_refresh_64 : decode c_H_refresh 64 = .ok (.goto (-26), 3) := by decide +kernel
theorem d_H_refresh_67 : decode c_H_refresh 67 = .ok (.iconst 0, 1) := by decide +kernel
theorem d_H_refresh_68 : decode c_H_refresh 68 = .ok (.istore_n 2, 1) := by decide +kernel
theorem d_H_refresh_69 : decode c_H_refresh 69 = .ok (.iload_n 2, 1) := by decide +kernel
theorem d_H_refresh_70 : decode c_H_refresh 70 = .ok (.bipush 8, 2) := by decide +kernel
theorem d_H_refresh_72 : decode c_H_refresh 72 = .ok (.if_icmp .ge 56, 3) := by decide +kernel
theorem d_H_refresh_75 : decode c_H_refresh 75 = .ok (.iload_n 1, 1) := by decide +kernel
theorem d_H_refresh_76 : decode c_H_refresh 76 = .ok (.iload_n 2, 1) := by decide +kernel
theorem d_H_refresh_77 : decode c_H_refresh 77 = .ok (.invokestatic 162, 3) := by decide +kernel
theorem d_H_refresh_80 : decode c_H_refresh 80 = .ok (.ifCond .eq 42, 3) := by decide +kernel
theorem d_H_refresh_83 : decode c_H_refresh 83 = .ok (.aload_n 0, 1) := by decide +kernel
theorem d_H_refresh_84 : decode c_H_refresh 84 = .ok (.getfield 11, 3) := by decide +kernel
theorem d_H_refresh_87 : decode c_H_refresh 87 = .ok (.iload_n 2, 1) := by decide +kernel
theorem d_H_refresh_88 : decode c_H_refresh 88 = .ok (.aaload, 1) := by decide +kernel
theorem d_H_refresh_89 : decode c_H_refresh 89 = .ok (.getfield 119, 3) := by decide +kernel
theorem d_H_refresh_92 : decode c_H_refresh 92 = .ok (.ifCond .eq 30, 3) := by decide +kernel
theorem d_H_refresh_95 : decode c_H_refresh 95 = .ok (.aload_n 0, 1) := by decide +kernel
theorem d_H_refresh_96 : decode c_H_refresh 96 = .ok (.getfield 11, 3) := by decide +kernel
theorem d_H_refresh_99 : decode c_H_refresh 99 = .ok (.iload_n 2, 1) := by decide +kernel
theorem d_H_refresh_100 : decode c_H_refresh 100 = .ok (.aaload, 1) := by decide +kernel
theorem d_H_refresh_101 : decode c_H_refresh 101 = .ok (.getfield 123, 3) := by decide +kernel
theorem d_H_refresh_104 : decode c_H_refresh 104 = .ok (.aload_n 0, 1) := by decide +kernel
theorem d_H_refresh_105 : decode c_H_refresh 105 = .ok (.getfield 39, 3) := by decide +kernel
theorem d_H_refresh_108 : decode c_H_refresh 108 = .ok (.if_icmp .gt 14, 3) := by decide +kernel
theorem d_H_refresh_111 : decode c_H_refresh 111 = .ok (.aload_n 0, 1) := by decide +kernel
theorem d_H_refresh_112 : decode c_H_refresh 112 = .ok (.aload_n 0, 1) := by decide +kernel
theorem d_H_refresh_113 : decode c_H_refresh 113 = .ok (.getfield 11, 3) := by decide +kernel
theorem d_H_refresh_116 : decode c_H_refresh 116 = .ok (.iload_n 2, 1) := by decide +kernel
theorem d_H_refresh_117 : decode c_H_refresh 117 = .ok (.aaload, 1) := by decide +kernel
theorem d_H_refresh_118 : decode c_H_refresh 118 = .ok (.invokevirtual 126, 3) := by decide +kernel
theorem d_H_refresh_121 : decode c_H_refresh 121 = .ok (.pop, 1) := by decide +kernel
theorem d_H_refresh_122 : decode c_H_refresh 122 = .ok (.iinc 2 1, 3) := by decide +kernel
theorem d_H_refresh_125 : decode c_H_refresh 125 = .ok (.goto (-56), 3) := by decide +kernel
theorem d_H_refresh_128 : decode c_H_refresh 128 = .ok (.iload_n 1, 1) := by decide +kernel
theorem d_H_refresh_129 : decode c_H_refresh 129 = .ok (.invokestatic 169, 3) := by decide +kernel
theorem d_H_refresh_132 : decode c_H_refresh 132 = .ok (.ireturn, 1) := by decide +kernel
def T_H_refresh_0 : List (Nat × bh_Op) := [(0, bo_ald 1 0),
  (1, bo_callV 4 1 0 0 3 F_H_staleBundles),
  (4, bo_ist 5 1),
  (5, bo_st 7 (bg_push (.inl (.int 7)))),
  (7, bo_ist 8 2),
  (8, bo_ild 9 2),
  (9, bo_if1 12 36 (fun x => x < 0)),
  (12, bo_ild 13 1),
  (13, bo_ild 14 2),
  (14, bo_callS 17 2 0 0 F_H_isIn),
  (17, bo_if1 20 30 (fun x => x = 0)),
  (20, bo_ald 21 0),
  (21, bo_ald 22 0),
  (22, bo_gR 25 3 0 4),
  (25, bo_ild 26 2),
  (26, bo_Rald bh_ak bh_al 27),
  (27, bo_callV 30 2 0 0 3 F_H_deactivate),
  (30, bo_inc 33 2 (-1)),
  (33, bo_go 8),
  (36, bo_st 37 (bg_push (.inl (.int 0)))),
  (37, bo_ist 38 2),
  (38, bo_ild 39 2),
  (39, bo_st 41 (bg_push (.inl (.int 8)))),
  (41, bo_if2 44 67 (fun x y => y ≤ x)),
  (44, bo_ild 45 1),
  (45, bo_ild 46 2),
  (46, bo_callS 49 2 0 0 F_H_isIn),
  (49, bo_if1 52 61 (fun x => x = 0)),
  (52, bo_ald 53 0),
  (53, bo_gR 56 3 0 4),
  (56, bo_ild 57 2),
  (57, bo_Rald bh_ak bh_al 58),
  (58, bo_callV 61 1 0 0 5 F_B_beUnresolved),
  (61, bo_inc 64 2 1),
  (64, bo_go 38),
  (67, bo_st 68 (bg_push (.inl (.int 0)))),
  (68, bo_ist 69 2),
  (69, bo_ild 70 2),
  (70, bo_st 72 (bg_push (.inl (.int 8)))),
  (72, bo_if2 75 128 (fun x y => y ≤ x))]
def T_H_refresh_1 : List (Nat × bh_Op) := [(75, bo_ild 76 1),
  (76, bo_ild 77 2),
  (77, bo_callS 80 2 0 0 F_H_isIn),
  (80, bo_if1 83 122 (fun x => x = 0)),
  (83, bo_ald 84 0),
  (84, bo_gR 87 3 0 4),
  (87, bo_ild 88 2),
  (88, bo_Rald bh_ak bh_al 89),
  (89, bo_gI 92 5 7),
  (92, bo_if1 95 122 (fun x => x = 0)),
  (95, bo_ald 96 0),
  (96, bo_gR 99 3 0 4),
  (99, bo_ild 100 2),
  (100, bo_Rald bh_ak bh_al 101),
  (101, bo_gI 104 5 5),
  (104, bo_ald 105 0),
  (105, bo_gI 108 3 4),
  (108, bo_if2 111 122 (fun x y => y < x)),
  (111, bo_ald 112 0),
  (112, bo_ald 113 0),
  (113, bo_gR 116 3 0 4),
  (116, bo_ild 117 2),
  (117, bo_Rald bh_ak bh_al 118),
  (118, bo_callV 121 2 0 0 3 F_H_activate),
  (121, bo_st 122 bg_pop),
  (122, bo_inc 125 2 1),
  (125, bo_go 69),
  (128, bo_ild 129 1),
  (129, bo_callS 132 1 0 0 F_A_bitCount),
  (132, bo_iret 0)]
def T_H_refresh : List (Nat × bh_Op) := T_H_refresh_0 ++ T_H_refresh_1
set_option maxRecDepth 20000 in
theorem mT_H_refresh_0 : ∀ q ∈ T_H_refresh_0, bh_mono q.2 := List.forall_mem_cons.mpr ⟨bo_ald_m _ _, List.forall_mem_cons.mpr ⟨bo_callV_m (mF_H_staleBundles) _ _ _ _ _, List.forall_mem_cons.mpr ⟨bo_ist_m _ _, List.forall_mem_cons.mpr ⟨bo_st_mono (bg_push_m _), List.forall_mem_cons.mpr ⟨bo_ist_m _ _, List.forall_mem_cons.mpr ⟨bo_ild_m _ _, List.forall_mem_cons.mpr ⟨bo_if1_m _ _ _, List.forall_mem_cons.mpr ⟨bo_ild_m _ _, List.forall_mem_cons.mpr ⟨bo_ild_m _ _, List.forall_mem_cons.mpr ⟨bo_callS_m (mF_H_isIn) _ _ _ _, List.forall_mem_cons.mpr ⟨bo_if1_m _ _ _, List.forall_mem_cons.mpr ⟨bo_ald_m _ _, List.forall_mem_cons.mpr ⟨bo_ald_m _ _, List.forall_mem_cons.mpr ⟨bo_gR_m _ _ _ _, List.forall_mem_cons.mpr ⟨bo_ild_m _ _, List.forall_mem_cons.mpr ⟨bo_Rald_m _ _ _, List.forall_mem_cons.mpr ⟨bo_callV_m (mF_H_deactivate) _ _ _ _ _, List.forall_mem_cons.mpr ⟨bo_inc_m _ _ _, List.forall_mem_cons.mpr ⟨bo_go_m _, List.forall_mem_cons.mpr ⟨bo_st_mono (bg_push_m _), List.forall_mem_cons.mpr ⟨bo_ist_m _ _, List.forall_mem_cons.mpr ⟨bo_ild_m _ _, List.forall_mem_cons.mpr ⟨bo_st_mono (bg_push_m _), List.forall_mem_cons.mpr ⟨bo_if2_m _ _ _, List.forall_mem_cons.mpr ⟨bo_ild_m _ _, List.forall_mem_cons.mpr ⟨bo_ild_m _ _, List.forall_mem_cons.mpr ⟨bo_callS_m (mF_H_isIn) _ _ _ _, List.forall_mem_cons.mpr ⟨bo_if1_m _ _ _, List.forall_mem_cons.mpr ⟨bo_ald_m _ _, List.forall_mem_cons.mpr ⟨bo_gR_m _ _ _ _, List.forall_mem_cons.mpr ⟨bo_ild_m _ _, List.forall_mem_cons.mpr ⟨bo_Rald_m _ _ _, List.forall_mem_cons.mpr ⟨bo_callV_m (mF_B_beUnresolved) _ _ _ _ _, List.forall_mem_cons.mpr ⟨bo_inc_m _ _ _, List.forall_mem_cons.mpr ⟨bo_go_m _, List.forall_mem_cons.mpr ⟨bo_st_mono (bg_push_m _), List.forall_mem_cons.mpr ⟨bo_ist_m _ _, List.forall_mem_cons.mpr ⟨bo_ild_m _ _, List.forall_mem_cons.mpr ⟨bo_st_mono (bg_push_m _), List.forall_mem_cons.mpr ⟨bo_if2_m _ _ _, fun _ h => absurd h List.not_mem_nil⟩⟩⟩⟩⟩⟩⟩⟩⟩⟩⟩⟩⟩⟩⟩⟩⟩⟩⟩⟩⟩⟩⟩⟩⟩⟩⟩⟩⟩⟩⟩⟩⟩⟩⟩⟩⟩⟩⟩⟩
set_option maxRecDepth 20000 in
theorem mT_H_refresh_1 : ∀ q ∈ T_H_refresh_1, bh_mono q.2 := List.forall_mem_cons.mpr ⟨bo_ild_m _ _, List.forall_mem_cons.mpr ⟨bo_ild_m _ _, List.forall_mem_cons.mpr ⟨bo_callS_m (mF_H_isIn) _ _ _ _, List.forall_mem_cons.mpr ⟨bo_if1_m _ _ _, List.forall_mem_cons.mpr ⟨bo_ald_m _ _, List.forall_mem_cons.mpr ⟨bo_gR_m _ _ _ _, List.forall_mem_cons.mpr ⟨bo_ild_m _ _, List.forall_mem_cons.mpr ⟨bo_Rald_m _ _ _, List.forall_mem_cons.mpr ⟨bo_gI_m _ _ _, List.forall_mem_cons.mpr ⟨bo_if1_m _ _ _, List.forall_mem_cons.mpr ⟨bo_ald_m _ _, List.forall_mem_cons.mpr ⟨bo_gR_m _ _ _ _, List.forall_mem_cons.mpr ⟨bo_ild_m _ _, List.forall_mem_cons.mpr ⟨bo_Rald_m _ _ _, List.forall_mem_cons.mpr ⟨bo_gI_m _ _ _, List.forall_mem_cons.mpr ⟨bo_ald_m _ _, List.forall_mem_cons.mpr ⟨bo_gI_m _ _ _, List.forall_mem_cons.mpr ⟨bo_if2_m _ _ _, List.forall_mem_cons.mpr ⟨bo_ald_m _ _, List.forall_mem_cons.mpr ⟨bo_ald_m _ _, List.forall_mem_cons.mpr ⟨bo_gR_m _ _ _ _, List.forall_mem_cons.mpr ⟨bo_ild_m _ _, List.forall_mem_cons.mpr ⟨bo_Rald_m _ _ _, List.forall_mem_cons.mpr ⟨bo_callV_m (mF_H_activate) _ _ _ _ _, List.forall_mem_cons.mpr ⟨bo_st_mono bg_pop_m, List.forall_mem_cons.mpr ⟨bo_inc_m _ _ _, List.forall_mem_cons.mpr ⟨bo_go_m _, List.forall_mem_cons.mpr ⟨bo_ild_m _ _, List.forall_mem_cons.mpr ⟨bo_callS_m (mF_A_bitCount) _ _ _ _, List.forall_mem_cons.mpr ⟨bo_iret_m _, fun _ h => absurd h List.not_mem_nil⟩⟩⟩⟩⟩⟩⟩⟩⟩⟩⟩⟩⟩⟩⟩⟩⟩⟩⟩⟩⟩⟩⟩⟩⟩⟩⟩⟩⟩⟩
theorem m_H_refresh : ∀ pc, bh_mono (bh_tb (T_H_refresh) pc) := bh_tb_m (List.forall_mem_append.mpr ⟨mT_H_refresh_0, mT_H_refresh_1⟩)
def F_H_refresh : bh_Fn := bh_fn 3 (bh_tb T_H_refresh)
theorem mF_H_refresh : bh_monoF F_H_refresh := bh_fn_m m_H_refresh
theorem cl_H_refresh {s : State} {args : Array Value} (d B : Nat) (hts : ∀ w ∈ bh_ws, w.before args s = true) : bh_Cal (bh_rm (d + 1) B) s y_H_refresh 3 (.code y_H_refresh c_H_refresh 3 (some .int) :: bh_ws) (bh_rm d 0) 0 0 := bh_cal d B hts wd_243 wd_1 (by decide) (by decide +kernel)
set_option maxHeartbeats 4000000 in
set_option maxRecDepth 100000 in
theorem cn_H_refresh {l : Launch} {G : bh_G} {base sb L : Nat} {xs : Nat → Int32} (htr : l.stackTraces = false) (d : Nat) : bh_Con l G base (bh_Bg G base sb L xs) y_H_refresh (.code y_H_refresh c_H_refresh 3 (some .int) :: bh_ws) (bh_rm (d + 33) 0) 0 false F_H_refresh := by
  refine bh_method (cc := c_H_refresh) (ret := (some .int)) (by decide +kernel) rfl ?_
  intro p e s m args below meth c ad0 M0 Z X0 hr hlocks hname htab hbs hB
  obtain ⟨hx, hb, hml, hown, hts⟩ := id X0
  have hw : ∀ w ∈ bh_ws, w.before args s = true := fun w h => hts w (List.mem_cons_of_mem _ h)
  have hBg := bh_BgK (G := G) (base := base) (sb := sb) (L := L) (xs := xs)
  obtain ⟨hK, hAr, hen, hinj, hu1, hu2, hstr, hX, hsb, hsc, hxw, hao, hnc⟩ := id hB
  obtain ⟨ha1, ha2, ha3, ha4, ha5, ha6, ha0⟩ := bh_arr hAr
  refine List.forall_mem_append.mpr ⟨?_, List.forall_mem_cons.mpr ⟨fun S h => bs_iload_n (Z := Z) hx hb rfl d_H_refresh_75 h, List.forall_mem_cons.mpr ⟨fun S h => bs_iload_n (Z := Z) hx hb rfl d_H_refresh_76 h, List.forall_mem_cons.mpr ⟨fun S h => bs_callS (Z := Z) hBg hbs hB X0 (cn_H_isIn htr (d + 31)) (cl_H_isIn _ _ hw) (hts _ (List.mem_cons_of_mem _ wd_266)) (hts _ (List.mem_cons_of_mem _ wd_267)) (Nat.le_refl _) (Nat.le_refl _) d_H_refresh_77 (bs_out htab hlocks) h, List.forall_mem_cons.mpr ⟨fun S h => bs_if_eq (Z := Z) hx hb d_H_refresh_80 (by decide) h, List.forall_mem_cons.mpr ⟨fun S h => bs_aload_n (Z := Z) hx hb rfl d_H_refresh_83 h, List.forall_mem_cons.mpr ⟨fun S h => bs_gR (Z := Z) (C := R_H) (T := F_H) (N := 5) (t := 3) (j := 0) hx hb hK hts (fun w h => List.mem_cons_of_mem _ (iw_H w h)) hown rfl rfl (by decide) (hts _ (List.mem_cons_of_mem _ wd_224)) (fun _ h => h) rfl rfl rfl d_H_refresh_84 h, List.forall_mem_cons.mpr ⟨fun S h => bs_iload_n (Z := Z) hx hb rfl d_H_refresh_87 h, List.forall_mem_cons.mpr ⟨fun S h => bs_Rald (Z := Z) hx hb ha5 d_H_refresh_88 h, List.forall_mem_cons.mpr ⟨fun S h => bs_gI (Z := Z) (C := R_B) (T := F_B) (N := 10) (t := 5) (j := 7) hx hb hK hts (fun w h => List.mem_cons_of_mem _ (iw_B w h)) hown rfl rfl (by decide) (hts _ (List.mem_cons_of_mem _ wd_104)) (fun _ h => h) rfl rfl rfl d_H_refresh_89 h, List.forall_mem_cons.mpr ⟨fun S h => bs_if_eq (Z := Z) hx hb d_H_refresh_92 (by decide) h, List.forall_mem_cons.mpr ⟨fun S h => bs_aload_n (Z := Z) hx hb rfl d_H_refresh_95 h, List.forall_mem_cons.mpr ⟨fun S h => bs_gR (Z := Z) (C := R_H) (T := F_H) (N := 5) (t := 3) (j := 0) hx hb hK hts (fun w h => List.mem_cons_of_mem _ (iw_H w h)) hown rfl rfl (by decide) (hts _ (List.mem_cons_of_mem _ wd_224)) (fun _ h => h) rfl rfl rfl d_H_refresh_96 h, List.forall_mem_cons.mpr ⟨fun S h => bs_iload_n (Z := Z) hx hb rfl d_H_refresh_99 h, List.forall_mem_cons.mpr ⟨fun S h => bs_Rald (Z := Z) hx hb ha5 d_H_refresh_100 h, List.forall_mem_cons.mpr ⟨fun S h => bs_gI (Z := Z) (C := R_B) (T := F_B) (N := 10) (t := 5) (j := 5) hx hb hK hts (fun w h => List.mem_cons_of_mem _ (iw_B w h)) hown rfl rfl (by decide) (hts _ (List.mem_cons_of_mem _ wd_100)) (fun _ h => h) rfl rfl rfl d_H_refresh_101 h, List.forall_mem_cons.mpr ⟨fun S h => bs_aload_n (Z := Z) hx hb rfl d_H_refresh_104 h, List.forall_mem_cons.mpr ⟨fun S h => bs_gI (Z := Z) (C := R_H) (T := F_H) (N := 5) (t := 3) (j := 4) hx hb hK hts (fun w h => List.mem_cons_of_mem _ (iw_H w h)) hown rfl rfl (by decide) (hts _ (List.mem_cons_of_mem _ wd_228)) (fun _ h => h) rfl rfl rfl d_H_refresh_105 h, List.forall_mem_cons.mpr ⟨fun S h => bs_icmp_gt (Z := Z) hx hb d_H_refresh_108 (by decide) h, List.forall_mem_cons.mpr ⟨fun S h => bs_aload_n (Z := Z) hx hb rfl d_H_refresh_111 h, List.forall_mem_cons.mpr ⟨fun S h => bs_aload_n (Z := Z) hx hb rfl d_H_refresh_112 h, List.forall_mem_cons.mpr ⟨fun S h => bs_gR (Z := Z) (C := R_H) (T := F_H) (N := 5) (t := 3) (j := 0) hx hb hK hts (fun w h => List.mem_cons_of_mem _ (iw_H w h)) hown rfl rfl (by decide) (hts _ (List.mem_cons_of_mem _ wd_224)) (fun _ h => h) rfl rfl rfl d_H_refresh_113 h, List.forall_mem_cons.mpr ⟨fun S h => bs_iload_n (Z := Z) hx hb rfl d_H_refresh_116 h, List.forall_mem_cons.mpr ⟨fun S h => bs_Rald (Z := Z) hx hb ha5 d_H_refresh_117 h, List.forall_mem_cons.mpr ⟨fun S h => bs_callV (Z := Z) (C := R_H) hBg hbs hB X0 hK (cn_H_activate htr (d + 0)) (cl_H_activate _ _ hw) (hts _ (List.mem_cons_of_mem _ wd_293)) (hts _ (List.mem_cons_of_mem _ wd_295)) (hts _ (List.mem_cons_of_mem _ ws_5)) rfl rfl rfl rfl rfl (Nat.le_refl _) (Nat.le_refl _) d_H_refresh_118 (bs_out htab hlocks) h, List.forall_mem_cons.mpr ⟨fun S h => bs_pop (Z := Z) hx hb d_H_refresh_121 h, List.forall_mem_cons.mpr ⟨fun S h => bs_iinc (Z := Z) hx hb (by decide) d_H_refresh_122 h, List.forall_mem_cons.mpr ⟨fun S h => bs_goto (Z := Z) hx hb d_H_refresh_125 (by decide) h, List.forall_mem_cons.mpr ⟨fun S h => bs_iload_n (Z := Z) hx hb rfl d_H_refresh_128 h, List.forall_mem_cons.mpr ⟨fun S h => bs_callS (Z := Z) hBg hbs hB X0 (cn_A_bitCount htr (d + 31)) (cl_A_bitCount _ _ hw) (hts _ (List.mem_cons_of_mem _ wd_388)) (hts _ (List.mem_cons_of_mem _ wd_389)) (Nat.le_refl _) (Nat.le_refl _) d_H_refresh_129 (bs_out htab hlocks) h, List.forall_mem_cons.mpr ⟨fun S h => bs_iret (Z := Z) hx hb hr hlocks d_H_refresh_132 h, fun _ h => absurd h List.not_mem_nil⟩⟩⟩⟩⟩⟩⟩⟩⟩⟩⟩⟩⟩⟩⟩⟩⟩⟩⟩⟩⟩⟩⟩⟩⟩⟩⟩⟩⟩⟩⟩
  exact List.forall_mem_cons.mpr ⟨fun S h => bs_aload_n (Z := Z) hx hb rfl d_H_refresh_0 h, List.forall_mem_cons.mpr ⟨fun S h => bs_callV (Z := Z) (C := R_H) hBg hbs hB X0 hK (cn_H_staleBundles htr (d + 27)) (cl_H_staleBundles _ _ hw) (hts _ (List.mem_cons_of_mem _ wd_244)) (hts _ (List.mem_cons_of_mem _ wd_246)) (hts _ (List.mem_cons_of_mem _ ws_0)) rfl rfl rfl rfl rfl (Nat.le_refl _) (Nat.le_refl _) d_H_refresh_1 (bs_out htab hlocks) h, List.forall_mem_cons.mpr ⟨fun S h => bs_istore_n (Z := Z) hx hb rfl d_H_refresh_4 h, List.forall_mem_cons.mpr ⟨fun S h => bs_bipush (Z := Z) hx hb (by decide) d_H_refresh_5 h, List.forall_mem_cons.mpr ⟨fun S h => bs_istore_n (Z := Z) hx hb rfl d_H_refresh_7 h, List.forall_mem_cons.mpr ⟨fun S h => bs_iload_n (Z := Z) hx hb rfl d_H_refresh_8 h, List.forall_mem_cons.mpr ⟨fun S h => bs_if_lt (Z := Z) hx hb d_H_refresh_9 (by decide) h, List.forall_mem_cons.mpr ⟨fun S h => bs_iload_n (Z := Z) hx hb rfl d_H_refresh_12 h, List.forall_mem_cons.mpr ⟨fun S h => bs_iload_n (Z := Z) hx hb rfl d_H_refresh_13 h, List.forall_mem_cons.mpr ⟨fun S h => bs_callS (Z := Z) hBg hbs hB X0 (cn_H_isIn htr (d + 31)) (cl_H_isIn _ _ hw) (hts _ (List.mem_cons_of_mem _ wd_266)) (hts _ (List.mem_cons_of_mem _ wd_267)) (Nat.le_refl _) (Nat.le_refl _) d_H_refresh_14 (bs_out htab hlocks) h, List.forall_mem_cons.mpr ⟨fun S h => bs_if_eq (Z := Z) hx hb d_H_refresh_17 (by decide) h, List.forall_mem_cons.mpr ⟨fun S h => bs_aload_n (Z := Z) hx hb rfl d_H_refresh_20 h, List.forall_mem_cons.mpr ⟨fun S h => bs_aload_n (Z := Z) hx hb rfl d_H_refresh_21 h, List.forall_mem_cons.mpr ⟨fun S h => bs_gR (Z := Z) (C := R_H) (T := F_H) (N := 5) (t := 3) (j := 0) hx hb hK hts (fun w h => List.mem_cons_of_mem _ (iw_H w h)) hown rfl rfl (by decide) (hts _ (List.mem_cons_of_mem _ wd_224)) (fun _ h => h) rfl rfl rfl d_H_refresh_22 h, List.forall_mem_cons.mpr ⟨fun S h => bs_iload_n (Z := Z) hx hb rfl d_H_refresh_25 h, List.forall_mem_cons.mpr ⟨fun S h => bs_Rald (Z := Z) hx hb ha5 d_H_refresh_26 h, List.forall_mem_cons.mpr ⟨fun S h => bs_callV (Z := Z) (C := R_H) hBg hbs hB X0 hK (cn_H_deactivate htr (d + 29)) (cl_H_deactivate _ _ hw) (hts _ (List.mem_cons_of_mem _ wd_269)) (hts _ (List.mem_cons_of_mem _ wd_271)) (hts _ (List.mem_cons_of_mem _ ws_3)) rfl rfl rfl rfl rfl (Nat.le_refl _) (Nat.le_refl _) d_H_refresh_27 (bs_out htab hlocks) h, List.forall_mem_cons.mpr ⟨fun S h => bs_iinc (Z := Z) hx hb (by decide) d_H_refresh_30 h, List.forall_mem_cons.mpr ⟨fun S h => bs_goto (Z := Z) hx hb d_H_refresh_33 (by decide) h, List.forall_mem_cons.mpr ⟨fun S h => bs_iconst (Z := Z) hx hb (by decide) d_H_refresh_36 h, List.forall_mem_cons.mpr ⟨fun S h => bs_istore_n (Z := Z) hx hb rfl d_H_refresh_37 h, List.forall_mem_cons.mpr ⟨fun S h => bs_iload_n (Z := Z) hx hb rfl d_H_refresh_38 h, List.forall_mem_cons.mpr ⟨fun S h => bs_bipush (Z := Z) hx hb (by decide) d_H_refresh_39 h, List.forall_mem_cons.mpr ⟨fun S h => bs_icmp_ge (Z := Z) hx hb d_H_refresh_41 (by decide) h, List.forall_mem_cons.mpr ⟨fun S h => bs_iload_n (Z := Z) hx hb rfl d_H_refresh_44 h, List.forall_mem_cons.mpr ⟨fun S h => bs_iload_n (Z := Z) hx hb rfl d_H_refresh_45 h, List.forall_mem_cons.mpr ⟨fun S h => bs_callS (Z := Z) hBg hbs hB X0 (cn_H_isIn htr (d + 31)) (cl_H_isIn _ _ hw) (hts _ (List.mem_cons_of_mem _ wd_266)) (hts _ (List.mem_cons_of_mem _ wd_267)) (Nat.le_refl _) (Nat.le_refl _) d_H_refresh_46 (bs_out htab hlocks) h, List.forall_mem_cons.mpr ⟨fun S h => bs_if_eq (Z := Z) hx hb d_H_refresh_49 (by decide) h, List.forall_mem_cons.mpr ⟨fun S h => bs_aload_n (Z := Z) hx hb rfl d_H_refresh_52 h, List.forall_mem_cons.mpr ⟨fun S h => bs_gR (Z := Z) (C := R_H) (T := F_H) (N := 5) (t := 3) (j := 0) hx hb hK hts (fun w h => List.mem_cons_of_mem _ (iw_H w h)) hown rfl rfl (by decide) (hts _ (List.mem_cons_of_mem _ wd_224)) (fun _ h => h) rfl rfl rfl d_H_refresh_53 h, List.forall_mem_cons.mpr ⟨fun S h => bs_iload_n (Z := Z) hx hb rfl d_H_refresh_56 h, List.forall_mem_cons.mpr ⟨fun S h => bs_Rald (Z := Z) hx hb ha5 d_H_refresh_57 h, List.forall_mem_cons.mpr ⟨fun S h => bs_callV (Z := Z) (C := R_B) hBg hbs hB X0 hK (cn_B_beUnresolved htr (d + 30)) (cl_B_beUnresolved _ _ hw) (hts _ (List.mem_cons_of_mem _ wd_289)) (hts _ (List.mem_cons_of_mem _ wd_290)) (hts _ (List.mem_cons_of_mem _ wd_291)) rfl rfl rfl rfl rfl (Nat.le_refl _) (Nat.le_refl _) d_H_refresh_58 (bs_out htab hlocks) h, List.forall_mem_cons.mpr ⟨fun S h => bs_iinc (Z := Z) hx hb (by decide) d_H_refresh_61 h, List.forall_mem_cons.mpr ⟨fun S h => bs_goto (Z := Z) hx hb d_H_refresh_64 (by decide) h, List.forall_mem_cons.mpr ⟨fun S h => bs_iconst (Z := Z) hx hb (by decide) d_H_refresh_67 h, List.forall_mem_cons.mpr ⟨fun S h => bs_istore_n (Z := Z) hx hb rfl d_H_refresh_68 h, List.forall_mem_cons.mpr ⟨fun S h => bs_iload_n (Z := Z) hx hb rfl d_H_refresh_69 h, List.forall_mem_cons.mpr ⟨fun S h => bs_bipush (Z := Z) hx hb (by decide) d_H_refresh_70 h, List.forall_mem_cons.mpr ⟨fun S h => bs_icmp_ge (Z := Z) hx hb d_H_refresh_72 (by decide) h, fun _ h => absurd h List.not_mem_nil⟩⟩⟩⟩⟩⟩⟩⟩⟩⟩⟩⟩⟩⟩⟩⟩⟩⟩⟩⟩⟩⟩⟩⟩⟩⟩⟩⟩⟩⟩⟩⟩⟩⟩⟩⟩⟩⟩⟩⟩
abbrev c_H_checkRange : ByteArray := prog_1_method_20_code
def y_H_checkRange : MethodName := ⟨"BundleHall", "checkRange", "(III)V"⟩
theorem d_H_checkRange_0 : decode c_H_checkRange 0 = .ok (.iload_n 0, 1) := by decide +kernel
theorem d_H_checkRange_1 : decode c_H_checkRange 1 = .ok (.iload_n 1, 1) := by decide +kernel
theorem d_H_checkRange_2 : decode c_H_checkRange 2 = .ok (.if_icmp .lt 8, 3) := by decide +kernel
theorem d_H_checkRange_5 : decode c_H_checkRange 5 = .ok (.iload_n 0, 1) := by decide +kernel
theorem d_H_checkRange_6 : decode c_H_checkRange 6 = .ok (.iload_n 2, 1) := by decide +kernel
theorem d_H_checkRange_7 : decode c_H_checkRange 7 = .ok (.if_icmp .le 14, 3) := by decide +kernel
theorem d_H_checkRange_10 : decode c_H_checkRange 10 = .ok (.new 264, 3) := by decide +kernel
theorem d_H_checkRange_13 : decode c_H_checkRange 13 = .ok (.dup, 1) := by decide +kernel
theorem d_H_checkRange_14 : decode c_H_checkRange 14 = .ok (.ldc_w 266, 3) := by decide +kernel
theorem d_H_checkRange_17 : decode c_H_checkRange 17 = .ok (.invokespecial 268, 3) := by decide +kernel
theorem d_H_checkRange_20 : decode c_H_checkRange 20 = .ok (.athrow, 1) := by decide +kernel
theorem d_H_checkRange_21 : decode c_H_checkRange 21 = .ok (.return_, 1) := by decide +kernel
def T_H_checkRange_0 : List (Nat × bh_Op) := [(0, bo_ild 1 0),
  (1, bo_ild 2 1),
  (2, bo_if2 5 10 (fun x y => x < y)),
  (5, bo_ild 6 0),
  (6, bo_ild 7 2),
  (7, bo_if2 10 21 (fun x y => x ≤ y)),
  (10, bo_thr 1 "java/lang/IllegalArgumentException"),
  (21, bo_vret 1)]
def T_H_checkRange : List (Nat × bh_Op) := T_H_checkRange_0
set_option maxRecDepth 20000 in
theorem mT_H_checkRange_0 : ∀ q ∈ T_H_checkRange_0, bh_mono q.2 := List.forall_mem_cons.mpr ⟨bo_ild_m _ _, List.forall_mem_cons.mpr ⟨bo_ild_m _ _, List.forall_mem_cons.mpr ⟨bo_if2_m _ _ _, List.forall_mem_cons.mpr ⟨bo_ild_m _ _, List.forall_mem_cons.mpr ⟨bo_ild_m _ _, List.forall_mem_cons.mpr ⟨bo_if2_m _ _ _, List.forall_mem_cons.mpr ⟨bo_thr_m _ _, List.forall_mem_cons.mpr ⟨bo_vret_m _, fun _ h => absurd h List.not_mem_nil⟩⟩⟩⟩⟩⟩⟩⟩
theorem m_H_checkRange : ∀ pc, bh_mono (bh_tb (T_H_checkRange) pc) := bh_tb_m mT_H_checkRange_0
def F_H_checkRange : bh_Fn := bh_fn 3 (bh_tb T_H_checkRange)
theorem mF_H_checkRange : bh_monoF F_H_checkRange := bh_fn_m m_H_checkRange
theorem cl_H_checkRange {s : State} {args : Array Value} (d B : Nat) (hts : ∀ w ∈ bh_ws, w.before args s = true) : bh_Cal (bh_rm (d + 1) B) s y_H_checkRange 3 (.code y_H_checkRange c_H_checkRange 3 none :: bh_ws) (bh_rm d 1) 1 3 := bh_cal d B hts wd_408 wd_1 (by decide) (by decide +kernel)
set_option maxHeartbeats 4000000 in
set_option maxRecDepth 100000 in
theorem cn_H_checkRange {l : Launch} {G : bh_G} {base sb L : Nat} {xs : Nat → Int32} (htr : l.stackTraces = false) (d : Nat) : bh_Con l G base (bh_Bg G base sb L xs) y_H_checkRange (.code y_H_checkRange c_H_checkRange 3 none :: bh_ws) (bh_rm (d + 1) 1) 1 false F_H_checkRange := by
  refine bh_method (cc := c_H_checkRange) (ret := none) (by decide +kernel) rfl ?_
  intro p e s m args below meth c ad0 M0 Z X0 hr hlocks hname htab hbs hB
  obtain ⟨hx, hb, hml, hown, hts⟩ := id X0
  have hw : ∀ w ∈ bh_ws, w.before args s = true := fun w h => hts w (List.mem_cons_of_mem _ h)
  have hBg := bh_BgK (G := G) (base := base) (sb := sb) (L := L) (xs := xs)
  obtain ⟨hK, hAr, hen, hinj, hu1, hu2, hstr, hX, hsb, hsc, hxw, hao, hnc⟩ := id hB
  obtain ⟨ha1, ha2, ha3, ha4, ha5, ha6, ha0⟩ := bh_arr hAr
  exact List.forall_mem_cons.mpr ⟨fun S h => bs_iload_n (Z := Z) hx hb rfl d_H_checkRange_0 h, List.forall_mem_cons.mpr ⟨fun S h => bs_iload_n (Z := Z) hx hb rfl d_H_checkRange_1 h, List.forall_mem_cons.mpr ⟨fun S h => bs_icmp_lt (Z := Z) hx hb d_H_checkRange_2 (by decide) h, List.forall_mem_cons.mpr ⟨fun S h => bs_iload_n (Z := Z) hx hb rfl d_H_checkRange_5 h, List.forall_mem_cons.mpr ⟨fun S h => bs_iload_n (Z := Z) hx hb rfl d_H_checkRange_6 h, List.forall_mem_cons.mpr ⟨fun S h => bs_icmp_le (Z := Z) hx hb d_H_checkRange_7 (by decide) h, List.forall_mem_cons.mpr ⟨fun S h => (let ⟨_, hst⟩ := hstr 266 "a number is out of range" st_266; bs_thr (Z := Z) hx hb hml htr htab hlocks bh_x0_IllegalArgumentException bh_x1_IllegalArgumentException bh_x2_IllegalArgumentException bh_x5_IllegalArgumentException hown (by decide +kernel) ⟨rfl, (hts _ (List.mem_cons_of_mem _ wd_409))⟩ ⟨rfl, (hts _ (List.mem_cons_of_mem _ wd_13))⟩ hst hbs (bh_at_IllegalArgumentException hw hB) d_H_checkRange_10 d_H_checkRange_13 (Or.inr ⟨rfl, d_H_checkRange_14⟩) d_H_checkRange_17 d_H_checkRange_20 (by show 2 + 3 < _ + 12; omega) (by show 13 * (2 + 1) + 43 ≤ 80 * _ + 200; omega) (Nat.le_refl _) (Nat.le_refl _) h), List.forall_mem_cons.mpr ⟨fun S h => bs_vret (Z := Z) hx hb hr hlocks d_H_checkRange_21 h, fun _ h => absurd h List.not_mem_nil⟩⟩⟩⟩⟩⟩⟩⟩
abbrev c_H_checkBundle : ByteArray := prog_1_method_21_code
def y_H_checkBundle : MethodName := ⟨"BundleHall", "checkBundle", "(I)V"⟩
theorem d_H_checkBundle_0 : decode c_H_checkBundle 0 = .ok (.iload_n 0, 1) := by decide +kernel
theorem d_H_checkBundle_1 : decode c_H_checkBundle 1 = .ok (.iconst 0, 1) := by decide +kernel
theorem d_H_checkBundle_2 : decode c_H_checkBundle 2 = .ok (.bipush 7, 2) := by decide +kernel
theorem d_H_checkBundle_4 : decode c_H_checkBundle 4 = .ok (.invokestatic 46, 3) := by decide +kernel
theorem d_H_checkBundle_7 : decode c_H_checkBundle 7 = .ok (.return_, 1) := by decide +kernel
def T_H_checkBundle_0 : List (Nat × bh_Op) := [(0, bo_ild 1 0),
  (1, bo_st 2 (bg_push (.inl (.int 0)))),
  (2, bo_st 4 (bg_push (.inl (.int 7)))),
  (4, bo_callS 7 3 1 1 F_H_checkRange),
  (7, bo_vret 1)]
def T_H_checkBundle : List (Nat × bh_Op) := T_H_checkBundle_0
set_option maxRecDepth 20000 in
theorem mT_H_checkBundle_0 : ∀ q ∈ T_H_checkBundle_0, bh_mono q.2 := List.forall_mem_cons.mpr ⟨bo_ild_m _ _, List.forall_mem_cons.mpr ⟨bo_st_mono (bg_push_m _), List.forall_mem_cons.mpr ⟨bo_st_mono (bg_push_m _), List.forall_mem_cons.mpr ⟨bo_callS_m (mF_H_checkRange) _ _ _ _, List.forall_mem_cons.mpr ⟨bo_vret_m _, fun _ h => absurd h List.not_mem_nil⟩⟩⟩⟩⟩
theorem m_H_checkBundle : ∀ pc, bh_mono (bh_tb (T_H_checkBundle) pc) := bh_tb_m mT_H_checkBundle_0
def F_H_checkBundle : bh_Fn := bh_fn 1 (bh_tb T_H_checkBundle)
theorem mF_H_checkBundle : bh_monoF F_H_checkBundle := bh_fn_m m_H_checkBundle
theorem cl_H_checkBundle {s : State} {args : Array Value} (d B : Nat) (hts : ∀ w ∈ bh_ws, w.before args s = true) : bh_Cal (bh_rm (d + 1) B) s y_H_checkBundle 1 (.code y_H_checkBundle c_H_checkBundle 1 none :: bh_ws) (bh_rm d 1) 1 1 := bh_cal d B hts wd_405 wd_1 (by decide) (by decide +kernel)
set_option maxHeartbeats 4000000 in
set_option maxRecDepth 100000 in
theorem cn_H_checkBundle {l : Launch} {G : bh_G} {base sb L : Nat} {xs : Nat → Int32} (htr : l.stackTraces = false) (d : Nat) : bh_Con l G base (bh_Bg G base sb L xs) y_H_checkBundle (.code y_H_checkBundle c_H_checkBundle 1 none :: bh_ws) (bh_rm (d + 2) 1) 1 false F_H_checkBundle := by
  refine bh_method (cc := c_H_checkBundle) (ret := none) (by decide +kernel) rfl ?_
  intro p e s m args below meth c ad0 M0 Z X0 hr hlocks hname htab hbs hB
  obtain ⟨hx, hb, hml, hown, hts⟩ := id X0
  have hw : ∀ w ∈ bh_ws, w.before args s = true := fun w h => hts w (List.mem_cons_of_mem _ h)
  have hBg := bh_BgK (G := G) (base := base) (sb := sb) (L := L) (xs := xs)
  obtain ⟨hK, hAr, hen, hinj, hu1, hu2, hstr, hX, hsb, hsc, hxw, hao, hnc⟩ := id hB
  obtain ⟨ha1, ha2, ha3, ha4, ha5, ha6, ha0⟩ := bh_arr hAr
  exact List.forall_mem_cons.mpr ⟨fun S h => bs_iload_n (Z := Z) hx hb rfl d_H_checkBundle_0 h, List.forall_mem_cons.mpr ⟨fun S h => bs_iconst (Z := Z) hx hb (by decide) d_H_checkBundle_1 h, List.forall_mem_cons.mpr ⟨fun S h => bs_bipush (Z := Z) hx hb (by decide) d_H_checkBundle_2 h, List.forall_mem_cons.mpr ⟨fun S h => bs_callS (Z := Z) hBg hbs hB X0 (cn_H_checkRange htr (d + 0)) (cl_H_checkRange _ _ hw) (hts _ (List.mem_cons_of_mem _ wd_406)) (hts _ (List.mem_cons_of_mem _ wd_407)) (Nat.le_refl _) (Nat.le_refl _) d_H_checkBundle_4 (bs_out htab hlocks) h, List.forall_mem_cons.mpr ⟨fun S h => bs_vret (Z := Z) hx hb hr hlocks d_H_checkBundle_7 h, fun _ h => absurd h List.not_mem_nil⟩⟩⟩⟩⟩
abbrev c_F_clear : ByteArray := prog_4_method_2_code
def y_F_clear : MethodName := ⟨"BundleHall$Manifest", "clear", "()V"⟩
theorem d_F_clear_0 : decode c_F_clear 0 = .ok (.aload_n 0, 1) := by decide +kernel
theorem d_F_clear_1 : decode c_F_clear 1 = .ok (.getfield 9, 3) := by decide +kernel
theorem d_F_clear_4 : decode c_F_clear 4 = .ok (.iconst (-1), 1) := by decide +kernel
theorem d_F_clear_5 : decode c_F_clear 5 = .ok (.invokestatic 34, 3) := by decide +kernel
theorem d_F_clear_8 : decode c_F_clear 8 = .ok (.aload_n 0, 1) := by decide +kernel
theorem d_F_clear_9 : decode c_F_clear 9 = .ok (.getfield 18, 3) := by decide +kernel
theorem d_F_clear_12 : decode c_F_clear 12 = .ok (.iconst (-1), 1) := by decide +kernel
theorem d_F_clear_13 : decode c_F_clear 13 = .ok (.invokestatic 34, 3) := by decide +kernel
theorem d_F_clear_16 : decode c_F_clear 16 = .ok (.aload_n 0, 1) := by decide +kernel
theorem d_F_clear_17 : decode c_F_clear 17 = .ok (.iconst 0, 1) := by decide +kernel
theorem d_F_clear_18 : decode c_F_clear 18 = .ok (.putfield 40, 3) := by decide +kernel
theorem d_F_clear_21 : decode c_F_clear 21 = .ok (.aload_n 0, 1) := by decide +kernel
theorem d_F_clear_22 : decode c_F_clear 22 = .ok (.iconst 0, 1) := by decide +kernel
theorem d_F_clear_23 : decode c_F_clear 23 = .ok (.putfield 44, 3) := by decide +kernel
theorem d_F_clear_26 : decode c_F_clear 26 = .ok (.return_, 1) := by decide +kernel
def T_F_clear_0 : List (Nat × bh_Op) := [(0, bo_ald 1 0),
  (1, bo_gR 4 7 0 8),
  (4, bo_st 5 (bg_push (.inl (.int (-1))))),
  (5, bo_callS 8 2 0 0 F_A_fill),
  (8, bo_ald 9 0),
  (9, bo_gR 12 7 2 10),
  (12, bo_st 13 (bg_push (.inl (.int (-1))))),
  (13, bo_callS 16 2 0 0 F_A_fill),
  (16, bo_ald 17 0),
  (17, bo_st 18 (bg_push (.inl (.int 0)))),
  (18, bo_pI 21 7 7),
  (21, bo_ald 22 0),
  (22, bo_st 23 (bg_push (.inl (.int 0)))),
  (23, bo_pI 26 7 8),
  (26, bo_vret 0)]
def T_F_clear : List (Nat × bh_Op) := T_F_clear_0
set_option maxRecDepth 20000 in
theorem mT_F_clear_0 : ∀ q ∈ T_F_clear_0, bh_mono q.2 := List.forall_mem_cons.mpr ⟨bo_ald_m _ _, List.forall_mem_cons.mpr ⟨bo_gR_m _ _ _ _, List.forall_mem_cons.mpr ⟨bo_st_mono (bg_push_m _), List.forall_mem_cons.mpr ⟨bo_callS_m (mF_A_fill) _ _ _ _, List.forall_mem_cons.mpr ⟨bo_ald_m _ _, List.forall_mem_cons.mpr ⟨bo_gR_m _ _ _ _, List.forall_mem_cons.mpr ⟨bo_st_mono (bg_push_m _), List.forall_mem_cons.mpr ⟨bo_callS_m (mF_A_fill) _ _ _ _, List.forall_mem_cons.mpr ⟨bo_ald_m _ _, List.forall_mem_cons.mpr ⟨bo_st_mono (bg_push_m _), List.forall_mem_cons.mpr ⟨bo_pI_m _ _ _, List.forall_mem_cons.mpr ⟨bo_ald_m _ _, List.forall_mem_cons.mpr ⟨bo_st_mono (bg_push_m _), List.forall_mem_cons.mpr ⟨bo_pI_m _ _ _, List.forall_mem_cons.mpr ⟨bo_vret_m _, fun _ h => absurd h List.not_mem_nil⟩⟩⟩⟩⟩⟩⟩⟩⟩⟩⟩⟩⟩⟩⟩
theorem m_F_clear : ∀ pc, bh_mono (bh_tb (T_F_clear) pc) := bh_tb_m mT_F_clear_0
def F_F_clear : bh_Fn := bh_fn 1 (bh_tb T_F_clear)
theorem mF_F_clear : bh_monoF F_F_clear := bh_fn_m m_F_clear
theorem cl_F_clear {s : State} {args : Array Value} (d B : Nat) (hts : ∀ w ∈ bh_ws, w.before args s = true) : bh_Cal (bh_rm (d + 1) B) s y_F_clear 1 (.code y_F_clear c_F_clear 1 none :: bh_ws) (bh_rm d 0) 0 0 := bh_cal d B hts wd_506 wd_3 (by decide) (by decide +kernel)
set_option maxHeartbeats 4000000 in
set_option maxRecDepth 100000 in
theorem cn_F_clear {l : Launch} {G : bh_G} {base sb L : Nat} {xs : Nat → Int32} (htr : l.stackTraces = false) (d : Nat) : bh_Con l G base (bh_Bg G base sb L xs) y_F_clear (.code y_F_clear c_F_clear 1 none :: bh_ws) (bh_rm (d + 2) 0) 0 false F_F_clear := by
  refine bh_method (cc := c_F_clear) (ret := none) (by decide +kernel) rfl ?_
  intro p e s m args below meth c ad0 M0 Z X0 hr hlocks hname htab hbs hB
  obtain ⟨hx, hb, hml, hown, hts⟩ := id X0
  have hw : ∀ w ∈ bh_ws, w.before args s = true := fun w h => hts w (List.mem_cons_of_mem _ h)
  have hBg := bh_BgK (G := G) (base := base) (sb := sb) (L := L) (xs := xs)
  obtain ⟨hK, hAr, hen, hinj, hu1, hu2, hstr, hX, hsb, hsc, hxw, hao, hnc⟩ := id hB
  obtain ⟨ha1, ha2, ha3, ha4, ha5, ha6, ha0⟩ := bh_arr hAr
  exact List.forall_mem_cons.mpr ⟨fun S h => bs_aload_n (Z := Z) hx hb rfl d_F_clear_0 h, List.forall_mem_cons.mpr ⟨fun S h => bs_gR (Z := Z) (C := R_F) (T := F_F) (N := 9) (t := 7) (j := 0) hx hb hK hts (fun w h => List.mem_cons_of_mem _ (iw_F w h)) hown rfl rfl (by decide) (hts _ (List.mem_cons_of_mem _ wd_46)) (fun _ h => h) rfl rfl rfl d_F_clear_1 h, List.forall_mem_cons.mpr ⟨fun S h => bs_iconst (Z := Z) hx hb (by decide) d_F_clear_4 h, List.forall_mem_cons.mpr ⟨fun S h => bs_callS (Z := Z) hBg hbs hB X0 (cn_A_fill htr (d + 0)) (cl_A_fill _ _ hw) (hts _ (List.mem_cons_of_mem _ wd_43)) (hts _ (List.mem_cons_of_mem _ wd_44)) (Nat.le_refl _) (Nat.le_refl _) d_F_clear_5 (bs_out htab hlocks) h, List.forall_mem_cons.mpr ⟨fun S h => bs_aload_n (Z := Z) hx hb rfl d_F_clear_8 h, List.forall_mem_cons.mpr ⟨fun S h => bs_gR (Z := Z) (C := R_F) (T := F_F) (N := 9) (t := 7) (j := 2) hx hb hK hts (fun w h => List.mem_cons_of_mem _ (iw_F w h)) hown rfl rfl (by decide) (hts _ (List.mem_cons_of_mem _ wd_50)) (fun _ h => h) rfl rfl rfl d_F_clear_9 h, List.forall_mem_cons.mpr ⟨fun S h => bs_iconst (Z := Z) hx hb (by decide) d_F_clear_12 h, List.forall_mem_cons.mpr ⟨fun S h => bs_callS (Z := Z) hBg hbs hB X0 (cn_A_fill htr (d + 0)) (cl_A_fill _ _ hw) (hts _ (List.mem_cons_of_mem _ wd_43)) (hts _ (List.mem_cons_of_mem _ wd_44)) (Nat.le_refl _) (Nat.le_refl _) d_F_clear_13 (bs_out htab hlocks) h, List.forall_mem_cons.mpr ⟨fun S h => bs_aload_n (Z := Z) hx hb rfl d_F_clear_16 h, List.forall_mem_cons.mpr ⟨fun S h => bs_iconst (Z := Z) hx hb (by decide) d_F_clear_17 h, List.forall_mem_cons.mpr ⟨fun S h => bs_pI (Z := Z) (C := R_F) (T := F_F) (N := 9) (t := 7) (j := 7) hx hb hK hts (fun w h => List.mem_cons_of_mem _ (iw_F w h)) hown rfl rfl (by decide) (hts _ (List.mem_cons_of_mem _ wd_58)) (fun _ h => h) rfl rfl t_F t_F_ok n_F rfl (by decide +kernel) rfl d_F_clear_18 h, List.forall_mem_cons.mpr ⟨fun S h => bs_aload_n (Z := Z) hx hb rfl d_F_clear_21 h, List.forall_mem_cons.mpr ⟨fun S h => bs_iconst (Z := Z) hx hb (by decide) d_F_clear_22 h, List.forall_mem_cons.mpr ⟨fun S h => bs_pI (Z := Z) (C := R_F) (T := F_F) (N := 9) (t := 7) (j := 8) hx hb hK hts (fun w h => List.mem_cons_of_mem _ (iw_F w h)) hown rfl rfl (by decide) (hts _ (List.mem_cons_of_mem _ wd_60)) (fun _ h => h) rfl rfl t_F t_F_ok n_F rfl (by decide +kernel) rfl d_F_clear_23 h, List.forall_mem_cons.mpr ⟨fun S h => bs_vret (Z := Z) hx hb hr hlocks d_F_clear_26 h, fun _ h => absurd h List.not_mem_nil⟩⟩⟩⟩⟩⟩⟩⟩⟩⟩⟩⟩⟩⟩⟩
abbrev c_B_beginNewLife : ByteArray := prog_2_method_5_code
def y_B_beginNewLife : MethodName := ⟨"BundleHall$Bundle", "beginNewLife", "()V"⟩
theorem d_B_beginNewLife_0 : decode c_B_beginNewLife 0 = .ok (.aload_n 0, 1) := by decide +kernel
theorem d_B_beginNewLife_1 : decode c_B_beginNewLife 1 = .ok (.getfield 21, 3) := by decide +kernel
theorem d_B_beginNewLife_4 : decode c_B_beginNewLife 4 = .ok (.invokevirtual 54, 3) := by decide +kernel
theorem d_B_beginNewLife_7 : decode c_B_beginNewLife 7 = .ok (.aload_n 0, 1) := by decide +kernel
theorem d_B_beginNewLife_8 : decode c_B_beginNewLife 8 = .ok (.iconst 0, 1) := by decide +kernel
theorem d_B_beginNewLife_9 : decode c_B_beginNewLife 9 = .ok (.putfield 57, 3) := by decide +kernel
theorem d_B_beginNewLife_12 : decode c_B_beginNewLife 12 = .ok (.aload_n 0, 1) := by decide +kernel
theorem d_B_beginNewLife_13 : decode c_B_beginNewLife 13 = .ok (.dup, 1) := by decide +kernel
theorem d_B_beginNewLife_14 : decode c_B_beginNewLife 14 = .ok (.getfield 15, 3) := by decide +kernel
theorem d_B_beginNewLife_17 : decode c_B_beginNewLife 17 = .ok (.bipush 8, 2) := by decide +kernel
theorem d_B_beginNewLife_19 : decode c_B_beginNewLife 19 = .ok (.iadd, 1) := by decide +kernel
theorem d_B_beginNewLife_20 : decode c_B_beginNewLife 20 = .ok (.putfield 15, 3) := by decide +kernel
theorem d_B_beginNewLife_23 : decode c_B_beginNewLife 23 = .ok (.aload_n 0, 1) := by decide +kernel
theorem d_B_beginNewLife_24 : decode c_B_beginNewLife 24 = .ok (.invokevirtual 60, 3) := by decide +kernel
theorem d_B_beginNewLife_27 : decode c_B_beginNewLife 27 = .ok (.return_, 1) := by decide +kernel
def T_B_beginNewLife_0 : List (Nat × bh_Op) := [(0, bo_ald 1 0),
  (1, bo_gR 4 5 1 7),
  (4, bo_callV 7 1 0 0 7 F_F_clear),
  (7, bo_ald 8 0),
  (8, bo_st 9 (bg_push (.inl (.int 0)))),
  (9, bo_pZ 12 5 8),
  (12, bo_ald 13 0),
  (13, bo_st 14 bg_dup),
  (14, bo_gI 17 5 9),
  (17, bo_st 19 (bg_push (.inl (.int 8)))),
  (19, bo_st 20 (bg_ii (fun x y => x + y))),
  (20, bo_pI 23 5 9),
  (23, bo_ald 24 0),
  (24, bo_callV 27 1 0 0 5 F_B_beUnresolved),
  (27, bo_vret 0)]
def T_B_beginNewLife : List (Nat × bh_Op) := T_B_beginNewLife_0
set_option maxRecDepth 20000 in
theorem mT_B_beginNewLife_0 : ∀ q ∈ T_B_beginNewLife_0, bh_mono q.2 := List.forall_mem_cons.mpr ⟨bo_ald_m _ _, List.forall_mem_cons.mpr ⟨bo_gR_m _ _ _ _, List.forall_mem_cons.mpr ⟨bo_callV_m (mF_F_clear) _ _ _ _ _, List.forall_mem_cons.mpr ⟨bo_ald_m _ _, List.forall_mem_cons.mpr ⟨bo_st_mono (bg_push_m _), List.forall_mem_cons.mpr ⟨bo_pZ_m _ _ _, List.forall_mem_cons.mpr ⟨bo_ald_m _ _, List.forall_mem_cons.mpr ⟨bo_st_mono bg_dup_m, List.forall_mem_cons.mpr ⟨bo_gI_m _ _ _, List.forall_mem_cons.mpr ⟨bo_st_mono (bg_push_m _), List.forall_mem_cons.mpr ⟨bo_st_mono (bg_ii_m _), List.forall_mem_cons.mpr ⟨bo_pI_m _ _ _, List.forall_mem_cons.mpr ⟨bo_ald_m _ _, List.forall_mem_cons.mpr ⟨bo_callV_m (mF_B_beUnresolved) _ _ _ _ _, List.forall_mem_cons.mpr ⟨bo_vret_m _, fun _ h => absurd h List.not_mem_nil⟩⟩⟩⟩⟩⟩⟩⟩⟩⟩⟩⟩⟩⟩⟩
theorem m_B_beginNewLife : ∀ pc, bh_mono (bh_tb (T_B_beginNewLife) pc) := bh_tb_m mT_B_beginNewLife_0
def F_B_beginNewLife : bh_Fn := bh_fn 1 (bh_tb T_B_beginNewLife)
theorem mF_B_beginNewLife : bh_monoF F_B_beginNewLife := bh_fn_m m_B_beginNewLife
theorem cl_B_beginNewLife {s : State} {args : Array Value} (d B : Nat) (hts : ∀ w ∈ bh_ws, w.before args s = true) : bh_Cal (bh_rm (d + 1) B) s y_B_beginNewLife 1 (.code y_B_beginNewLife c_B_beginNewLife 1 none :: bh_ws) (bh_rm d 0) 0 0 := bh_cal d B hts wd_502 wd_2 (by decide) (by decide +kernel)
set_option maxHeartbeats 4000000 in
set_option maxRecDepth 100000 in
theorem cn_B_beginNewLife {l : Launch} {G : bh_G} {base sb L : Nat} {xs : Nat → Int32} (htr : l.stackTraces = false) (d : Nat) : bh_Con l G base (bh_Bg G base sb L xs) y_B_beginNewLife (.code y_B_beginNewLife c_B_beginNewLife 1 none :: bh_ws) (bh_rm (d + 3) 0) 0 false F_B_beginNewLife := by
  refine bh_method (cc := c_B_beginNewLife) (ret := none) (by decide +kernel) rfl ?_
  intro p e s m args below meth c ad0 M0 Z X0 hr hlocks hname htab hbs hB
  obtain ⟨hx, hb, hml, hown, hts⟩ := id X0
  have hw : ∀ w ∈ bh_ws, w.before args s = true := fun w h => hts w (List.mem_cons_of_mem _ h)
  have hBg := bh_BgK (G := G) (base := base) (sb := sb) (L := L) (xs := xs)
  obtain ⟨hK, hAr, hen, hinj, hu1, hu2, hstr, hX, hsb, hsc, hxw, hao, hnc⟩ := id hB
  obtain ⟨ha1, ha2, ha3, ha4, ha5, ha6, ha0⟩ := bh_arr hAr
  exact List.forall_mem_cons.mpr ⟨fun S h => bs_aload_n (Z := Z) hx hb rfl d_B_beginNewLife_0 h, List.forall_mem_cons.mpr ⟨fun S h => bs_gR (Z := Z) (C := R_B) (T := F_B) (N := 10) (t := 5) (j := 1) hx hb hK hts (fun w h => List.mem_cons_of_mem _ (iw_B w h)) hown rfl rfl (by decide) (hts _ (List.mem_cons_of_mem _ wd_88)) (fun _ h => h) rfl rfl rfl d_B_beginNewLife_1 h, List.forall_mem_cons.mpr ⟨fun S h => bs_callV (Z := Z) (C := R_F) hBg hbs hB X0 hK (cn_F_clear htr (d + 0)) (cl_F_clear _ _ hw) (hts _ (List.mem_cons_of_mem _ wd_503)) (hts _ (List.mem_cons_of_mem _ wd_504)) (hts _ (List.mem_cons_of_mem _ wd_505)) rfl rfl rfl rfl rfl (Nat.le_refl _) (Nat.le_refl _) d_B_beginNewLife_4 (bs_out htab hlocks) h, List.forall_mem_cons.mpr ⟨fun S h => bs_aload_n (Z := Z) hx hb rfl d_B_beginNewLife_7 h, List.forall_mem_cons.mpr ⟨fun S h => bs_iconst (Z := Z) hx hb (by decide) d_B_beginNewLife_8 h, List.forall_mem_cons.mpr ⟨fun S h => bs_pZ (Z := Z) (C := R_B) (T := F_B) (N := 10) (t := 5) (j := 8) hx hb hK hts (fun w h => List.mem_cons_of_mem _ (iw_B w h)) hown rfl rfl (by decide) (hts _ (List.mem_cons_of_mem _ wd_105)) (fun _ h => h) rfl rfl t_B t_B_ok n_B rfl (by decide +kernel) rfl d_B_beginNewLife_9 h, List.forall_mem_cons.mpr ⟨fun S h => bs_aload_n (Z := Z) hx hb rfl d_B_beginNewLife_12 h, List.forall_mem_cons.mpr ⟨fun S h => bs_dup (Z := Z) hx hb d_B_beginNewLife_13 h, List.forall_mem_cons.mpr ⟨fun S h => bs_gI (Z := Z) (C := R_B) (T := F_B) (N := 10) (t := 5) (j := 9) hx hb hK hts (fun w h => List.mem_cons_of_mem _ (iw_B w h)) hown rfl rfl (by decide) (hts _ (List.mem_cons_of_mem _ wd_107)) (fun _ h => h) rfl rfl rfl d_B_beginNewLife_14 h, List.forall_mem_cons.mpr ⟨fun S h => bs_bipush (Z := Z) hx hb (by decide) d_B_beginNewLife_17 h, List.forall_mem_cons.mpr ⟨fun S h => bs_iadd (Z := Z) hx hb d_B_beginNewLife_19 h, List.forall_mem_cons.mpr ⟨fun S h => bs_pI (Z := Z) (C := R_B) (T := F_B) (N := 10) (t := 5) (j := 9) hx hb hK hts (fun w h => List.mem_cons_of_mem _ (iw_B w h)) hown rfl rfl (by decide) (hts _ (List.mem_cons_of_mem _ wd_107)) (fun _ h => h) rfl rfl t_B t_B_ok n_B rfl (by decide +kernel) rfl d_B_beginNewLife_20 h, List.forall_mem_cons.mpr ⟨fun S h => bs_aload_n (Z := Z) hx hb rfl d_B_beginNewLife_23 h, List.forall_mem_cons.mpr ⟨fun S h => bs_callV (Z := Z) (C := R_B) hBg hbs hB X0 hK (cn_B_beUnresolved htr (d + 0)) (cl_B_beUnresolved _ _ hw) (hts _ (List.mem_cons_of_mem _ wd_507)) (hts _ (List.mem_cons_of_mem _ wd_290)) (hts _ (List.mem_cons_of_mem _ wd_291)) rfl rfl rfl rfl rfl (Nat.le_refl _) (Nat.le_refl _) d_B_beginNewLife_24 (bs_out htab hlocks) h, List.forall_mem_cons.mpr ⟨fun S h => bs_vret (Z := Z) hx hb hr hlocks d_B_beginNewLife_27 h, fun _ h => absurd h List.not_mem_nil⟩⟩⟩⟩⟩⟩⟩⟩⟩⟩⟩⟩⟩⟩⟩
abbrev c_B_enter : ByteArray := prog_2_method_4_code
def y_B_enter : MethodName := ⟨"BundleHall$Bundle", "enter", "(III)V"⟩
theorem d_B_enter_0 : decode c_B_enter 0 = .ok (.aload_n 0, 1) := by decide +kernel
theorem d_B_enter_1 : decode c_B_enter 1 = .ok (.iload_n 1, 1) := by decide +kernel
theorem d_B_enter_2 : decode c_B_enter 2 = .ok (.putfield 45, 3) := by decide +kernel
theorem d_B_enter_5 : decode c_B_enter 5 = .ok (.aload_n 0, 1) := by decide +kernel
theorem d_B_enter_6 : decode c_B_enter 6 = .ok (.iload_n 2, 1) := by decide +kernel
theorem d_B_enter_7 : decode c_B_enter 7 = .ok (.putfield 42, 3) := by decide +kernel
theorem d_B_enter_10 : decode c_B_enter 10 = .ok (.aload_n 0, 1) := by decide +kernel
theorem d_B_enter_11 : decode c_B_enter 11 = .ok (.iload_n 3, 1) := by decide +kernel
theorem d_B_enter_12 : decode c_B_enter 12 = .ok (.putfield 48, 3) := by decide +kernel
theorem d_B_enter_15 : decode c_B_enter 15 = .ok (.aload_n 0, 1) := by decide +kernel
theorem d_B_enter_16 : decode c_B_enter 16 = .ok (.invokevirtual 51, 3) := by decide +kernel
theorem d_B_enter_19 : decode c_B_enter 19 = .ok (.return_, 1) := by decide +kernel
def T_B_enter_0 : List (Nat × bh_Op) := [(0, bo_ald 1 0),
  (1, bo_ild 2 1),
  (2, bo_pI 5 5 4),
  (5, bo_ald 6 0),
  (6, bo_ild 7 2),
  (7, bo_pI 10 5 5),
  (10, bo_ald 11 0),
  (11, bo_ild 12 3),
  (12, bo_pI 15 5 6),
  (15, bo_ald 16 0),
  (16, bo_callV 19 1 0 0 5 F_B_beginNewLife),
  (19, bo_vret 0)]
def T_B_enter : List (Nat × bh_Op) := T_B_enter_0
set_option maxRecDepth 20000 in
theorem mT_B_enter_0 : ∀ q ∈ T_B_enter_0, bh_mono q.2 := List.forall_mem_cons.mpr ⟨bo_ald_m _ _, List.forall_mem_cons.mpr ⟨bo_ild_m _ _, List.forall_mem_cons.mpr ⟨bo_pI_m _ _ _, List.forall_mem_cons.mpr ⟨bo_ald_m _ _, List.forall_mem_cons.mpr ⟨bo_ild_m _ _, List.forall_mem_cons.mpr ⟨bo_pI_m _ _ _, List.forall_mem_cons.mpr ⟨bo_ald_m _ _, List.forall_mem_cons.mpr ⟨bo_ild_m _ _, List.forall_mem_cons.mpr ⟨bo_pI_m _ _ _, List.forall_mem_cons.mpr ⟨bo_ald_m _ _, List.forall_mem_cons.mpr ⟨bo_callV_m (mF_B_beginNewLife) _ _ _ _ _, List.forall_mem_cons.mpr ⟨bo_vret_m _, fun _ h => absurd h List.not_mem_nil⟩⟩⟩⟩⟩⟩⟩⟩⟩⟩⟩⟩
theorem m_B_enter : ∀ pc, bh_mono (bh_tb (T_B_enter) pc) := bh_tb_m mT_B_enter_0
def F_B_enter : bh_Fn := bh_fn 4 (bh_tb T_B_enter)
theorem mF_B_enter : bh_monoF F_B_enter := bh_fn_m m_B_enter
theorem cl_B_enter {s : State} {args : Array Value} (d B : Nat) (hts : ∀ w ∈ bh_ws, w.before args s = true) : bh_Cal (bh_rm (d + 1) B) s y_B_enter 4 (.code y_B_enter c_B_enter 4 none :: bh_ws) (bh_rm d 0) 0 3 := bh_cal d B hts wd_498 wd_2 (by decide) (by decide +kernel)
set_option maxHeartbeats 4000000 in
set_option maxRecDepth 100000 in
theorem cn_B_enter {l : Launch} {G : bh_G} {base sb L : Nat} {xs : Nat → Int32} (htr : l.stackTraces = false) (d : Nat) : bh_Con l G base (bh_Bg G base sb L xs) y_B_enter (.code y_B_enter c_B_enter 4 none :: bh_ws) (bh_rm (d + 4) 0) 0 false F_B_enter := by
  refine bh_method (cc := c_B_enter) (ret := none) (by decide +kernel) rfl ?_
  intro p e s m args below meth c ad0 M0 Z X0 hr hlocks hname htab hbs hB
  obtain ⟨hx, hb, hml, hown, hts⟩ := id X0
  have hw : ∀ w ∈ bh_ws, w.before args s = true := fun w h => hts w (List.mem_cons_of_mem _ h)
  have hBg := bh_BgK (G := G) (base := base) (sb := sb) (L := L) (xs := xs)
  obtain ⟨hK, hAr, hen, hinj, hu1, hu2, hstr, hX, hsb, hsc, hxw, hao, hnc⟩ := id hB
  obtain ⟨ha1, ha2, ha3, ha4, ha5, ha6, ha0⟩ := bh_arr hAr
  exact List.forall_mem_cons.mpr ⟨fun S h => bs_aload_n (Z := Z) hx hb rfl d_B_enter_0 h, List.forall_mem_cons.mpr ⟨fun S h => bs_iload_n (Z := Z) hx hb rfl d_B_enter_1 h, List.forall_mem_cons.mpr ⟨fun S h => bs_pI (Z := Z) (C := R_B) (T := F_B) (N := 10) (t := 5) (j := 4) hx hb hK hts (fun w h => List.mem_cons_of_mem _ (iw_B w h)) hown rfl rfl (by decide) (hts _ (List.mem_cons_of_mem _ wd_97)) (fun _ h => h) rfl rfl t_B t_B_ok n_B rfl (by decide +kernel) rfl d_B_enter_2 h, List.forall_mem_cons.mpr ⟨fun S h => bs_aload_n (Z := Z) hx hb rfl d_B_enter_5 h, List.forall_mem_cons.mpr ⟨fun S h => bs_iload_n (Z := Z) hx hb rfl d_B_enter_6 h, List.forall_mem_cons.mpr ⟨fun S h => bs_pI (Z := Z) (C := R_B) (T := F_B) (N := 10) (t := 5) (j := 5) hx hb hK hts (fun w h => List.mem_cons_of_mem _ (iw_B w h)) hown rfl rfl (by decide) (hts _ (List.mem_cons_of_mem _ wd_99)) (fun _ h => h) rfl rfl t_B t_B_ok n_B rfl (by decide +kernel) rfl d_B_enter_7 h, List.forall_mem_cons.mpr ⟨fun S h => bs_aload_n (Z := Z) hx hb rfl d_B_enter_10 h, List.forall_mem_cons.mpr ⟨fun S h => bs_iload_n (Z := Z) hx hb rfl d_B_enter_11 h, List.forall_mem_cons.mpr ⟨fun S h => bs_pI (Z := Z) (C := R_B) (T := F_B) (N := 10) (t := 5) (j := 6) hx hb hK hts (fun w h => List.mem_cons_of_mem _ (iw_B w h)) hown rfl rfl (by decide) (hts _ (List.mem_cons_of_mem _ wd_101)) (fun _ h => h) rfl rfl t_B t_B_ok n_B rfl (by decide +kernel) rfl d_B_enter_12 h, List.forall_mem_cons.mpr ⟨fun S h => bs_aload_n (Z := Z) hx hb rfl d_B_enter_15 h, List.forall_mem_cons.mpr ⟨fun S h => bs_callV (Z := Z) (C := R_B) hBg hbs hB X0 hK (cn_B_beginNewLife htr (d + 0)) (cl_B_beginNewLife _ _ hw) (hts _ (List.mem_cons_of_mem _ wd_499)) (hts _ (List.mem_cons_of_mem _ wd_500)) (hts _ (List.mem_cons_of_mem _ wd_501)) rfl rfl rfl rfl rfl (Nat.le_refl _) (Nat.le_refl _) d_B_enter_16 (bs_out htab hlocks) h, List.forall_mem_cons.mpr ⟨fun S h => bs_vret (Z := Z) hx hb hr hlocks d_B_enter_19 h, fun _ h => absurd h List.not_mem_nil⟩⟩⟩⟩⟩⟩⟩⟩⟩⟩⟩⟩
abbrev c_H_bundlesThere : ByteArray := prog_1_method_28_code
def y_H_bundlesThere : MethodName := ⟨"BundleHall", "bundlesThere", "()I"⟩
theorem d_H_bundlesThere_0 : decode c_H_bundlesThere 0 = .ok (.iconst 0, 1) := by decide +kernel
theorem d_H_bundlesThere_1 : decode c_H_bundlesThere 1 = .ok (.istore_n 1, 1) := by decide +kernel
theorem d_H_bundlesThere_2 : decode c_H_bundlesThere 2 = .ok (.iconst 0, 1) := by decide +kernel
theorem d_H_bundlesThere_3 : decode c_H_bundlesThere 3 = .ok (.istore_n 2, 1) := by decide +kernel
theorem d_H_bundlesThere_4 : decode c_H_bundlesThere 4 = .ok (.iload_n 2, 1) := by decide +kernel
theorem d_H_bundlesThere_5 : decode c_H_bundlesThere 5 = .ok (.bipush 8, 2) := by decide +kernel
theorem d_H_bundlesThere_7 : decode c_H_bundlesThere 7 = .ok (.if_icmp .ge 24, 3) := by decide +kernel
theorem d_H_bundlesThere_10 : decode c_H_bundlesThere 10 = .ok (.aload_n 0, 1) := by decide +kernel
theorem d_H_bundlesThere_11 : decode c_H_bundlesThere 11 = .ok (.getfield 11, 3) := by decide +kernel
theorem d_H_bundlesThere_14 : decode c_H_bundlesThere 14 = .ok (.iload_n 2, 1) := by decide +kernel
theorem d_H_bundlesThere_15 : decode c_H_bundlesThere 15 = .ok (.aaload, 1) := by decide +kernel
theorem d_H_bundlesThere_16 : decode c_H_bundlesThere 16 = .ok (.getfield 50, 3) := by decide +kernel
theorem d_H_bundlesThere_19 : decode c_H_bundlesThere 19 = .ok (.ifCond .eq 6, 3) := by decide +kernel
theorem d_H_bundlesThere_22 : decode c_H_bundlesThere 22 = .ok (.iinc 1 1, 3) := by decide +kernel
theorem d_H_bundlesThere_25 : decode c_H_bundlesThere 25 = .ok (.iinc 2 1, 3) := by decide +kernel
theorem d_H_bundlesThere_28 : decode c_H_bundlesThere 28 = .ok (.goto (-24), 3) := by decide +kernel
theorem d_H_bundlesThere_31 : decode c_H_bundlesThere 31 = .ok (.iload_n 1, 1) := by decide +kernel
theorem d_H_bundlesThere_32 : decode c_H_bundlesThere 32 = .ok (.ireturn, 1) := by decide +kernel
def T_H_bundlesThere_0 : List (Nat × bh_Op) := [(0, bo_st 1 (bg_push (.inl (.int 0)))),
  (1, bo_ist 2 1),
  (2, bo_st 3 (bg_push (.inl (.int 0)))),
  (3, bo_ist 4 2),
  (4, bo_ild 5 2),
  (5, bo_st 7 (bg_push (.inl (.int 8)))),
  (7, bo_if2 10 31 (fun x y => y ≤ x)),
  (10, bo_ald 11 0),
  (11, bo_gR 14 3 0 4),
  (14, bo_ild 15 2),
  (15, bo_Rald bh_ak bh_al 16),
  (16, bo_gI 19 5 3),
  (19, bo_if1 22 25 (fun x => x = 0)),
  (22, bo_inc 25 1 1),
  (25, bo_inc 28 2 1),
  (28, bo_go 4),
  (31, bo_ild 32 1),
  (32, bo_iret 0)]
def T_H_bundlesThere : List (Nat × bh_Op) := T_H_bundlesThere_0
set_option maxRecDepth 20000 in
theorem mT_H_bundlesThere_0 : ∀ q ∈ T_H_bundlesThere_0, bh_mono q.2 := List.forall_mem_cons.mpr ⟨bo_st_mono (bg_push_m _), List.forall_mem_cons.mpr ⟨bo_ist_m _ _, List.forall_mem_cons.mpr ⟨bo_st_mono (bg_push_m _), List.forall_mem_cons.mpr ⟨bo_ist_m _ _, List.forall_mem_cons.mpr ⟨bo_ild_m _ _, List.forall_mem_cons.mpr ⟨bo_st_mono (bg_push_m _), List.forall_mem_cons.mpr ⟨bo_if2_m _ _ _, List.forall_mem_cons.mpr ⟨bo_ald_m _ _, List.forall_mem_cons.mpr ⟨bo_gR_m _ _ _ _, List.forall_mem_cons.mpr ⟨bo_ild_m _ _, List.forall_mem_cons.mpr ⟨bo_Rald_m _ _ _, List.forall_mem_cons.mpr ⟨bo_gI_m _ _ _, List.forall_mem_cons.mpr ⟨bo_if1_m _ _ _, List.forall_mem_cons.mpr ⟨bo_inc_m _ _ _, List.forall_mem_cons.mpr ⟨bo_inc_m _ _ _, List.forall_mem_cons.mpr ⟨bo_go_m _, List.forall_mem_cons.mpr ⟨bo_ild_m _ _, List.forall_mem_cons.mpr ⟨bo_iret_m _, fun _ h => absurd h List.not_mem_nil⟩⟩⟩⟩⟩⟩⟩⟩⟩⟩⟩⟩⟩⟩⟩⟩⟩⟩
theorem m_H_bundlesThere : ∀ pc, bh_mono (bh_tb (T_H_bundlesThere) pc) := bh_tb_m mT_H_bundlesThere_0
def F_H_bundlesThere : bh_Fn := bh_fn 3 (bh_tb T_H_bundlesThere)
theorem mF_H_bundlesThere : bh_monoF F_H_bundlesThere := bh_fn_m m_H_bundlesThere
theorem cl_H_bundlesThere {s : State} {args : Array Value} (d B : Nat) (hts : ∀ w ∈ bh_ws, w.before args s = true) : bh_Cal (bh_rm (d + 1) B) s y_H_bundlesThere 3 (.code y_H_bundlesThere c_H_bundlesThere 3 (some .int) :: bh_ws) (bh_rm d 0) 0 0 := bh_cal d B hts wd_511 wd_1 (by decide) (by decide +kernel)
set_option maxHeartbeats 4000000 in
set_option maxRecDepth 100000 in
theorem cn_H_bundlesThere {l : Launch} {G : bh_G} {base sb L : Nat} {xs : Nat → Int32} (htr : l.stackTraces = false) (d : Nat) : bh_Con l G base (bh_Bg G base sb L xs) y_H_bundlesThere (.code y_H_bundlesThere c_H_bundlesThere 3 (some .int) :: bh_ws) (bh_rm (d + 1) 0) 0 false F_H_bundlesThere := by
  refine bh_method (cc := c_H_bundlesThere) (ret := (some .int)) (by decide +kernel) rfl ?_
  intro p e s m args below meth c ad0 M0 Z X0 hr hlocks hname htab hbs hB
  obtain ⟨hx, hb, hml, hown, hts⟩ := id X0
  have hw : ∀ w ∈ bh_ws, w.before args s = true := fun w h => hts w (List.mem_cons_of_mem _ h)
  have hBg := bh_BgK (G := G) (base := base) (sb := sb) (L := L) (xs := xs)
  obtain ⟨hK, hAr, hen, hinj, hu1, hu2, hstr, hX, hsb, hsc, hxw, hao, hnc⟩ := id hB
  obtain ⟨ha1, ha2, ha3, ha4, ha5, ha6, ha0⟩ := bh_arr hAr
  exact List.forall_mem_cons.mpr ⟨fun S h => bs_iconst (Z := Z) hx hb (by decide) d_H_bundlesThere_0 h, List.forall_mem_cons.mpr ⟨fun S h => bs_istore_n (Z := Z) hx hb rfl d_H_bundlesThere_1 h, List.forall_mem_cons.mpr ⟨fun S h => bs_iconst (Z := Z) hx hb (by decide) d_H_bundlesThere_2 h, List.forall_mem_cons.mpr ⟨fun S h => bs_istore_n (Z := Z) hx hb rfl d_H_bundlesThere_3 h, List.forall_mem_cons.mpr ⟨fun S h => bs_iload_n (Z := Z) hx hb rfl d_H_bundlesThere_4 h, List.forall_mem_cons.mpr ⟨fun S h => bs_bipush (Z := Z) hx hb (by decide) d_H_bundlesThere_5 h, List.forall_mem_cons.mpr ⟨fun S h => bs_icmp_ge (Z := Z) hx hb d_H_bundlesThere_7 (by decide) h, List.forall_mem_cons.mpr ⟨fun S h => bs_aload_n (Z := Z) hx hb rfl d_H_bundlesThere_10 h, List.forall_mem_cons.mpr ⟨fun S h => bs_gR (Z := Z) (C := R_H) (T := F_H) (N := 5) (t := 3) (j := 0) hx hb hK hts (fun w h => List.mem_cons_of_mem _ (iw_H w h)) hown rfl rfl (by decide) (hts _ (List.mem_cons_of_mem _ wd_224)) (fun _ h => h) rfl rfl rfl d_H_bundlesThere_11 h, List.forall_mem_cons.mpr ⟨fun S h => bs_iload_n (Z := Z) hx hb rfl d_H_bundlesThere_14 h, List.forall_mem_cons.mpr ⟨fun S h => bs_Rald (Z := Z) hx hb ha5 d_H_bundlesThere_15 h, List.forall_mem_cons.mpr ⟨fun S h => bs_gI (Z := Z) (C := R_B) (T := F_B) (N := 10) (t := 5) (j := 3) hx hb hK hts (fun w h => List.mem_cons_of_mem _ (iw_B w h)) hown rfl rfl (by decide) (hts _ (List.mem_cons_of_mem _ wd_95)) (fun _ h => h) rfl rfl rfl d_H_bundlesThere_16 h, List.forall_mem_cons.mpr ⟨fun S h => bs_if_eq (Z := Z) hx hb d_H_bundlesThere_19 (by decide) h, List.forall_mem_cons.mpr ⟨fun S h => bs_iinc (Z := Z) hx hb (by decide) d_H_bundlesThere_22 h, List.forall_mem_cons.mpr ⟨fun S h => bs_iinc (Z := Z) hx hb (by decide) d_H_bundlesThere_25 h, List.forall_mem_cons.mpr ⟨fun S h => bs_goto (Z := Z) hx hb d_H_bundlesThere_28 (by decide) h, List.forall_mem_cons.mpr ⟨fun S h => bs_iload_n (Z := Z) hx hb rfl d_H_bundlesThere_31 h, List.forall_mem_cons.mpr ⟨fun S h => bs_iret (Z := Z) hx hb hr hlocks d_H_bundlesThere_32 h, fun _ h => absurd h List.not_mem_nil⟩⟩⟩⟩⟩⟩⟩⟩⟩⟩⟩⟩⟩⟩⟩⟩⟩⟩
abbrev c_H_install : ByteArray := prog_1_method_2_code
def y_H_install : MethodName := ⟨"BundleHall", "install", "(IIII)I"⟩
theorem d_H_install_0 : decode c_H_install 0 = .ok (.iload_n 1, 1) := by decide +kernel
theorem d_H_install_1 : decode c_H_install 1 = .ok (.invokestatic 43, 3) := by decide +kernel
theorem d_H_install_4 : decode c_H_install 4 = .ok (.iload_n 2, 1) := by decide +kernel
theorem d_H_install_5 : decode c_H_install 5 = .ok (.iconst 0, 1) := by decide +kernel
theorem d_H_install_6 : decode c_H_install 6 = .ok (.iconst 5, 1) := by decide +kernel
theorem d_H_install_7 : decode c_H_install 7 = .ok (.invokestatic 46, 3) := by decide +kernel
theorem d_H_install_10 : decode c_H_install 10 = .ok (.iload_n 3, 1) := by decide +kernel
theorem d_H_install_11 : decode c_H_install 11 = .ok (.iconst 1, 1) := by decide +kernel
theorem d_H_install_12 : decode c_H_install 12 = .ok (.iconst 5, 1) := by decide +kernel
theorem d_H_install_13 : decode c_H_install 13 = .ok (.invokestatic 46, 3) := by decide +kernel
theorem d_H_install_16 : decode c_H_install 16 = .ok (.iload 4, 2) := by decide +kernel
theorem d_H_install_18 : decode c_H_install 18 = .ok (.iconst 0, 1) := by decide +kernel
theorem d_H_install_19 : decode c_H_install 19 = .ok (.iconst 4, 1) := by decide +kernel
theorem d_H_install_20 : decode c_H_install 20 = .ok (.invokestatic 46, 3) := by decide +kernel
theorem d_H_install_23 : decode c_H_install 23 = .ok (.aload_n 0, 1) := by decide +kernel
theorem d_H_install_24 : decode c_H_install 24 = .ok (.getfield 11, 3) := by decide +kernel
theorem d_H_install_27 : decode c_H_install 27 = .ok (.iload_n 1, 1) := by decide +kernel
theorem d_H_install_28 : decode c_H_install 28 = .ok (.aaload, 1) := by decide +kernel
theorem d_H_install_29 : decode c_H_install 29 = .ok (.astore 5, 2) := by decide +kernel
theorem d_H_install_31 : decode c_H_install 31 = .ok (.aload 5, 2) := by decide +kernel
theorem d_H_install_33 : decode c_H_install 33 = .ok (.getfield 50, 3) := by decide +kernel
theorem d_H_install_36 : decode c_H_install 36 = .ok (.ifCond .eq 13, 3) := by decide +kernel
theorem d_H_install_39 : decode c_H_install 39 = .ok (.new 53, 3) := by decide +kernel
theorem d_H_install_42 : decode c_H_install 42 = .ok (.dup, 1) := by decide +kernel
theorem d_H_install_43 : decode c_H_install 43 = .ok (.ldc 55, 2) := by decide +kernel
theorem d_H_install_45 : decode c_H_install 45 = .ok (.invokespecial 57, 3) := by decide +kernel
theorem d_H_install_48 : decode c_H_install 48 = .ok (.athrow, 1) := by decide +kernel
theorem d_H_install_49 : decode c_H_install 49 = .ok (.aload 5, 2) := by decide +kernel
theorem d_H_install_51 : decode c_H_install 51 = .ok (.iload_n 2, 1) := by decide +kernel
theorem d_H_install_52 : decode c_H_install 52 = .ok (.iload_n 3, 1) := by decide +kernel
theorem d_H_install_53 : decode c_H_install 53 = .ok (.iload 4, 2) := by decide +kernel
theorem d_H_install_55 : decode c_H_install 55 = .ok (.invokevirtual 60, 3) := by decide +kernel
theorem d_H_install_58 : decode c_H_install 58 = .ok (.aload_n 0, 1) := by decide +kernel
theorem d_H_install_59 : decode c_H_install 59 = .ok (.invokevirtual 63, 3) := by decide +kernel
theorem d_H_install_62 : decode c_H_install 62 = .ok (.ireturn, 1) := by decide +kernel
def T_H_install_0 : List (Nat × bh_Op) := [(0, bo_ild 1 1),
  (1, bo_callS 4 1 1 5 F_H_checkBundle),
  (4, bo_ild 5 2),
  (5, bo_st 6 (bg_push (.inl (.int 0)))),
  (6, bo_st 7 (bg_push (.inl (.int 5)))),
  (7, bo_callS 10 3 1 5 F_H_checkRange),
  (10, bo_ild 11 3),
  (11, bo_st 12 (bg_push (.inl (.int 1)))),
  (12, bo_st 13 (bg_push (.inl (.int 5)))),
  (13, bo_callS 16 3 1 5 F_H_checkRange),
  (16, bo_ild 18 4),
  (18, bo_st 19 (bg_push (.inl (.int 0)))),
  (19, bo_st 20 (bg_push (.inl (.int 4)))),
  (20, bo_callS 23 3 1 5 F_H_checkRange),
  (23, bo_ald 24 0),
  (24, bo_gR 27 3 0 4),
  (27, bo_ild 28 1),
  (28, bo_Rald bh_ak bh_al 29),
  (29, bo_ast 31 5),
  (31, bo_ald 33 5),
  (33, bo_gI 36 5 3),
  (36, bo_if1 39 49 (fun x => x = 0)),
  (39, bo_thr 5 "java/lang/IllegalStateException"),
  (49, bo_ald 51 5),
  (51, bo_ild 52 2),
  (52, bo_ild 53 3),
  (53, bo_ild 55 4),
  (55, bo_callV 58 4 0 5 5 F_B_enter),
  (58, bo_ald 59 0),
  (59, bo_callV 62 1 0 5 3 F_H_bundlesThere),
  (62, bo_iret 5)]
def T_H_install : List (Nat × bh_Op) := T_H_install_0
set_option maxRecDepth 20000 in
theorem mT_H_install_0 : ∀ q ∈ T_H_install_0, bh_mono q.2 := List.forall_mem_cons.mpr ⟨bo_ild_m _ _, List.forall_mem_cons.mpr ⟨bo_callS_m (mF_H_checkBundle) _ _ _ _, List.forall_mem_cons.mpr ⟨bo_ild_m _ _, List.forall_mem_cons.mpr ⟨bo_st_mono (bg_push_m _), List.forall_mem_cons.mpr ⟨bo_st_mono (bg_push_m _), List.forall_mem_cons.mpr ⟨bo_callS_m (mF_H_checkRange) _ _ _ _, List.forall_mem_cons.mpr ⟨bo_ild_m _ _, List.forall_mem_cons.mpr ⟨bo_st_mono (bg_push_m _), List.forall_mem_cons.mpr ⟨bo_st_mono (bg_push_m _), List.forall_mem_cons.mpr ⟨bo_callS_m (mF_H_checkRange) _ _ _ _, List.forall_mem_cons.mpr ⟨bo_ild_m _ _, List.forall_mem_cons.mpr ⟨bo_st_mono (bg_push_m _), List.forall_mem_cons.mpr ⟨bo_st_mono (bg_push_m _), List.forall_mem_cons.mpr ⟨bo_callS_m (mF_H_checkRange) _ _ _ _, List.forall_mem_cons.mpr ⟨bo_ald_m _ _, List.forall_mem_cons.mpr ⟨bo_gR_m _ _ _ _, List.forall_mem_cons.mpr ⟨bo_ild_m _ _, List.forall_mem_cons.mpr ⟨bo_Rald_m _ _ _, List.forall_mem_cons.mpr ⟨bo_ast_m _ _, List.forall_mem_cons.mpr ⟨bo_ald_m _ _, List.forall_mem_cons.mpr ⟨bo_gI_m _ _ _, List.forall_mem_cons.mpr ⟨bo_if1_m _ _ _, List.forall_mem_cons.mpr ⟨bo_thr_m _ _, List.forall_mem_cons.mpr ⟨bo_ald_m _ _, List.forall_mem_cons.mpr ⟨bo_ild_m _ _, List.forall_mem_cons.mpr ⟨bo_ild_m _ _, List.forall_mem_cons.mpr ⟨bo_ild_m _ _, List.forall_mem_cons.mpr ⟨bo_callV_m (mF_B_enter) _ _ _ _ _, List.forall_mem_cons.mpr ⟨bo_ald_m _ _, List.forall_mem_cons.mpr ⟨bo_callV_m (mF_H_bundlesThere) _ _ _ _ _, List.forall_mem_cons.mpr ⟨bo_iret_m _, fun _ h => absurd h List.not_mem_nil⟩⟩⟩⟩⟩⟩⟩⟩⟩⟩⟩⟩⟩⟩⟩⟩⟩⟩⟩⟩⟩⟩⟩⟩⟩⟩⟩⟩⟩⟩⟩
theorem m_H_install : ∀ pc, bh_mono (bh_tb (T_H_install) pc) := bh_tb_m mT_H_install_0
def F_H_install : bh_Fn := bh_fn 6 (bh_tb T_H_install)
theorem mF_H_install : bh_monoF F_H_install := bh_fn_m m_H_install
theorem cl_H_install {s : State} {args : Array Value} (d B : Nat) (hts : ∀ w ∈ bh_ws, w.before args s = true) : bh_Cal (bh_rm (d + 1) B) s y_H_install 6 (.code y_H_install c_H_install 6 (some .int) :: bh_ws) (bh_rm d 5) 5 4 := bh_cal d B hts wd_402 wd_1 (by decide) (by decide +kernel)
set_option maxHeartbeats 4000000 in
set_option maxRecDepth 100000 in
theorem cn_H_install {l : Launch} {G : bh_G} {base sb L : Nat} {xs : Nat → Int32} (htr : l.stackTraces = false) (d : Nat) : bh_Con l G base (bh_Bg G base sb L xs) y_H_install (.code y_H_install c_H_install 6 (some .int) :: bh_ws) (bh_rm (d + 5) 5) 5 false F_H_install := by
  refine bh_method (cc := c_H_install) (ret := (some .int)) (by decide +kernel) rfl ?_
  intro p e s m args below meth c ad0 M0 Z X0 hr hlocks hname htab hbs hB
  obtain ⟨hx, hb, hml, hown, hts⟩ := id X0
  have hw : ∀ w ∈ bh_ws, w.before args s = true := fun w h => hts w (List.mem_cons_of_mem _ h)
  have hBg := bh_BgK (G := G) (base := base) (sb := sb) (L := L) (xs := xs)
  obtain ⟨hK, hAr, hen, hinj, hu1, hu2, hstr, hX, hsb, hsc, hxw, hao, hnc⟩ := id hB
  obtain ⟨ha1, ha2, ha3, ha4, ha5, ha6, ha0⟩ := bh_arr hAr
  exact List.forall_mem_cons.mpr ⟨fun S h => bs_iload_n (Z := Z) hx hb rfl d_H_install_0 h, List.forall_mem_cons.mpr ⟨fun S h => bs_callS (Z := Z) hBg hbs hB X0 (cn_H_checkBundle htr (d + 2)) (cl_H_checkBundle _ _ hw) (hts _ (List.mem_cons_of_mem _ wd_403)) (hts _ (List.mem_cons_of_mem _ wd_404)) (Nat.le_refl _) (Nat.le_refl _) d_H_install_1 (bs_out htab hlocks) h, List.forall_mem_cons.mpr ⟨fun S h => bs_iload_n (Z := Z) hx hb rfl d_H_install_4 h, List.forall_mem_cons.mpr ⟨fun S h => bs_iconst (Z := Z) hx hb (by decide) d_H_install_5 h, List.forall_mem_cons.mpr ⟨fun S h => bs_iconst (Z := Z) hx hb (by decide) d_H_install_6 h, List.forall_mem_cons.mpr ⟨fun S h => bs_callS (Z := Z) hBg hbs hB X0 (cn_H_checkRange htr (d + 3)) (cl_H_checkRange _ _ hw) (hts _ (List.mem_cons_of_mem _ wd_406)) (hts _ (List.mem_cons_of_mem _ wd_407)) (Nat.le_refl _) (Nat.le_refl _) d_H_install_7 (bs_out htab hlocks) h, List.forall_mem_cons.mpr ⟨fun S h => bs_iload_n (Z := Z) hx hb rfl d_H_install_10 h, List.forall_mem_cons.mpr ⟨fun S h => bs_iconst (Z := Z) hx hb (by decide) d_H_install_11 h, List.forall_mem_cons.mpr ⟨fun S h => bs_iconst (Z := Z) hx hb (by decide) d_H_install_12 h, List.forall_mem_cons.mpr ⟨fun S h => bs_callS (Z := Z) hBg hbs hB X0 (cn_H_checkRange htr (d + 3)) (cl_H_checkRange _ _ hw) (hts _ (List.mem_cons_of_mem _ wd_406)) (hts _ (List.mem_cons_of_mem _ wd_407)) (Nat.le_refl _) (Nat.le_refl _) d_H_install_13 (bs_out htab hlocks) h, List.forall_mem_cons.mpr ⟨fun S h => bs_iload (Z := Z) hx hb d_H_install_16 h, List.forall_mem_cons.mpr ⟨fun S h => bs_iconst (Z := Z) hx hb (by decide) d_H_install_18 h, List.forall_mem_cons.mpr ⟨fun S h => bs_iconst (Z := Z) hx hb (by decide) d_H_install_19 h, List.forall_mem_cons.mpr ⟨fun S h => bs_callS (Z := Z) hBg hbs hB X0 (cn_H_checkRange htr (d + 3)) (cl_H_checkRange _ _ hw) (hts _ (List.mem_cons_of_mem _ wd_406)) (hts _ (List.mem_cons_of_mem _ wd_407)) (Nat.le_refl _) (Nat.le_refl _) d_H_install_20 (bs_out htab hlocks) h, List.forall_mem_cons.mpr ⟨fun S h => bs_aload_n (Z := Z) hx hb rfl d_H_install_23 h, List.forall_mem_cons.mpr ⟨fun S h => bs_gR (Z := Z) (C := R_H) (T := F_H) (N := 5) (t := 3) (j := 0) hx hb hK hts (fun w h => List.mem_cons_of_mem _ (iw_H w h)) hown rfl rfl (by decide) (hts _ (List.mem_cons_of_mem _ wd_224)) (fun _ h => h) rfl rfl rfl d_H_install_24 h, List.forall_mem_cons.mpr ⟨fun S h => bs_iload_n (Z := Z) hx hb rfl d_H_install_27 h, List.forall_mem_cons.mpr ⟨fun S h => bs_Rald (Z := Z) hx hb ha5 d_H_install_28 h, List.forall_mem_cons.mpr ⟨fun S h => bs_astore (Z := Z) hx hb d_H_install_29 h, List.forall_mem_cons.mpr ⟨fun S h => bs_aload (Z := Z) hx hb d_H_install_31 h, List.forall_mem_cons.mpr ⟨fun S h => bs_gI (Z := Z) (C := R_B) (T := F_B) (N := 10) (t := 5) (j := 3) hx hb hK hts (fun w h => List.mem_cons_of_mem _ (iw_B w h)) hown rfl rfl (by decide) (hts _ (List.mem_cons_of_mem _ wd_95)) (fun _ h => h) rfl rfl rfl d_H_install_33 h, List.forall_mem_cons.mpr ⟨fun S h => bs_if_eq (Z := Z) hx hb d_H_install_36 (by decide) h, List.forall_mem_cons.mpr ⟨fun S h => (let ⟨_, hst⟩ := hstr 55 "the bundle is there already" st_55; bs_thr (Z := Z) hx hb hml htr htab hlocks bh_x0_IllegalStateException bh_x1_IllegalStateException bh_x2_IllegalStateException bh_x5_IllegalStateException hown (by decide +kernel) ⟨rfl, (hts _ (List.mem_cons_of_mem _ wd_479))⟩ ⟨rfl, (hts _ (List.mem_cons_of_mem _ wd_14))⟩ hst hbs (bh_at_IllegalStateException hw hB) d_H_install_39 d_H_install_42 (Or.inl ⟨rfl, d_H_install_43⟩) d_H_install_45 d_H_install_48 (by show 2 + 3 < _ + 12; omega) (by show 13 * (2 + 1) + 43 ≤ 80 * _ + 200; omega) (Nat.le_refl _) (Nat.le_refl _) h), List.forall_mem_cons.mpr ⟨fun S h => bs_aload (Z := Z) hx hb d_H_install_49 h, List.forall_mem_cons.mpr ⟨fun S h => bs_iload_n (Z := Z) hx hb rfl d_H_install_51 h, List.forall_mem_cons.mpr ⟨fun S h => bs_iload_n (Z := Z) hx hb rfl d_H_install_52 h, List.forall_mem_cons.mpr ⟨fun S h => bs_iload (Z := Z) hx hb d_H_install_53 h, List.forall_mem_cons.mpr ⟨fun S h => bs_callV (Z := Z) (C := R_B) hBg hbs hB X0 hK (cn_B_enter htr (d + 0)) (cl_B_enter _ _ hw) (hts _ (List.mem_cons_of_mem _ wd_495)) (hts _ (List.mem_cons_of_mem _ wd_496)) (hts _ (List.mem_cons_of_mem _ wd_497)) rfl rfl rfl rfl rfl (Nat.le_refl _) (Nat.le_refl _) d_H_install_55 (bs_out htab hlocks) h, List.forall_mem_cons.mpr ⟨fun S h => bs_aload_n (Z := Z) hx hb rfl d_H_install_58 h, List.forall_mem_cons.mpr ⟨fun S h => bs_callV (Z := Z) (C := R_H) hBg hbs hB X0 hK (cn_H_bundlesThere htr (d + 3)) (cl_H_bundlesThere _ _ hw) (hts _ (List.mem_cons_of_mem _ wd_508)) (hts _ (List.mem_cons_of_mem _ wd_510)) (hts _ (List.mem_cons_of_mem _ ws_19)) rfl rfl rfl rfl rfl (Nat.le_refl _) (Nat.le_refl _) d_H_install_59 (bs_out htab hlocks) h, List.forall_mem_cons.mpr ⟨fun S h => bs_iret (Z := Z) hx hb hr hlocks d_H_install_62 h, fun _ h => absurd h List.not_mem_nil⟩⟩⟩⟩⟩⟩⟩⟩⟩⟩⟩⟩⟩⟩⟩⟩⟩⟩⟩⟩⟩⟩⟩⟩⟩⟩⟩⟩⟩⟩⟩
abbrev c_H_present : ByteArray := prog_1_method_25_code
def y_H_present : MethodName := ⟨"BundleHall", "present", "(I)LBundleHall$Bundle;"⟩
theorem d_H_present_0 : decode c_H_present 0 = .ok (.aload_n 0, 1) := by decide +kernel
theorem d_H_present_1 : decode c_H_present 1 = .ok (.getfield 11, 3) := by decide +kernel
theorem d_H_present_4 : decode c_H_present 4 = .ok (.iload_n 1, 1) := by decide +kernel
theorem d_H_present_5 : decode c_H_present 5 = .ok (.aaload, 1) := by decide +kernel
theorem d_H_present_6 : decode c_H_present 6 = .ok (.astore_n 2, 1) := by decide +kernel
theorem d_H_present_7 : decode c_H_present 7 = .ok (.aload_n 2, 1) := by decide +kernel
theorem d_H_present_8 : decode c_H_present 8 = .ok (.getfield 50, 3) := by decide +kernel
theorem d_H_present_11 : decode c_H_present 11 = .ok (.ifCond .ne 14, 3) := by decide +kernel
theorem d_H_present_14 : decode c_H_present 14 = .ok (.new 279, 3) := by decide +kernel
theorem d_H_present_17 : decode c_H_present 17 = .ok (.dup, 1) := by decide +kernel
theorem d_H_present_18 : decode c_H_present 18 = .ok (.ldc_w 281, 3) := by decide +kernel
theorem d_H_present_21 : decode c_H_present 21 = .ok (.invokespecial 283, 3) := by decide +kernel
theorem d_H_present_24 : decode c_H_present 24 = .ok (.athrow, 1) := by decide +kernel
theorem d_H_present_25 : decode c_H_present 25 = .ok (.aload_n 2, 1) := by decide +kernel
theorem d_H_present_26 : decode c_H_present 26 = .ok (.areturn, 1) := by decide +kernel
def T_H_present_0 : List (Nat × bh_Op) := [(0, bo_ald 1 0),
  (1, bo_gR 4 3 0 4),
  (4, bo_ild 5 1),
  (5, bo_Rald bh_ak bh_al 6),
  (6, bo_ast 7 2),
  (7, bo_ald 8 2),
  (8, bo_gI 11 5 3),
  (11, bo_if1 14 25 (fun x => ¬ x = 0)),
  (14, bo_thr 1 "java/util/NoSuchElementException"),
  (25, bo_ald 26 2),
  (26, bo_aret 1)]
def T_H_present : List (Nat × bh_Op) := T_H_present_0
set_option maxRecDepth 20000 in
theorem mT_H_present_0 : ∀ q ∈ T_H_present_0, bh_mono q.2 := List.forall_mem_cons.mpr ⟨bo_ald_m _ _, List.forall_mem_cons.mpr ⟨bo_gR_m _ _ _ _, List.forall_mem_cons.mpr ⟨bo_ild_m _ _, List.forall_mem_cons.mpr ⟨bo_Rald_m _ _ _, List.forall_mem_cons.mpr ⟨bo_ast_m _ _, List.forall_mem_cons.mpr ⟨bo_ald_m _ _, List.forall_mem_cons.mpr ⟨bo_gI_m _ _ _, List.forall_mem_cons.mpr ⟨bo_if1_m _ _ _, List.forall_mem_cons.mpr ⟨bo_thr_m _ _, List.forall_mem_cons.mpr ⟨bo_ald_m _ _, List.forall_mem_cons.mpr ⟨bo_aret_m _, fun _ h => absurd h List.not_mem_nil⟩⟩⟩⟩⟩⟩⟩⟩⟩⟩⟩
theorem m_H_present : ∀ pc, bh_mono (bh_tb (T_H_present) pc) := bh_tb_m mT_H_present_0
def F_H_present : bh_Fn := bh_fn 3 (bh_tb T_H_present)
theorem mF_H_present : bh_monoF F_H_present := bh_fn_m m_H_present
theorem cl_H_present {s : State} {args : Array Value} (d B : Nat) (hts : ∀ w ∈ bh_ws, w.before args s = true) : bh_Cal (bh_rm (d + 1) B) s y_H_present 3 (.code y_H_present c_H_present 3 (some (.object "BundleHall$Bundle")) :: bh_ws) (bh_rm d 1) 1 1 := bh_cal d B hts wd_528 wd_1 (by decide) (by decide +kernel)
set_option maxHeartbeats 4000000 in
set_option maxRecDepth 100000 in
theorem cn_H_present {l : Launch} {G : bh_G} {base sb L : Nat} {xs : Nat → Int32} (htr : l.stackTraces = false) (d : Nat) : bh_Con l G base (bh_Bg G base sb L xs) y_H_present (.code y_H_present c_H_present 3 (some (.object "BundleHall$Bundle")) :: bh_ws) (bh_rm (d + 1) 1) 1 false F_H_present := by
  refine bh_method (cc := c_H_present) (ret := (some (.object "BundleHall$Bundle"))) (by decide +kernel) rfl ?_
  intro p e s m args below meth c ad0 M0 Z X0 hr hlocks hname htab hbs hB
  obtain ⟨hx, hb, hml, hown, hts⟩ := id X0
  have hw : ∀ w ∈ bh_ws, w.before args s = true := fun w h => hts w (List.mem_cons_of_mem _ h)
  have hBg := bh_BgK (G := G) (base := base) (sb := sb) (L := L) (xs := xs)
  obtain ⟨hK, hAr, hen, hinj, hu1, hu2, hstr, hX, hsb, hsc, hxw, hao, hnc⟩ := id hB
  obtain ⟨ha1, ha2, ha3, ha4, ha5, ha6, ha0⟩ := bh_arr hAr
  exact List.forall_mem_cons.mpr ⟨fun S h => bs_aload_n (Z := Z) hx hb rfl d_H_present_0 h, List.forall_mem_cons.mpr ⟨fun S h => bs_gR (Z := Z) (C := R_H) (T := F_H) (N := 5) (t := 3) (j := 0) hx hb hK hts (fun w h => List.mem_cons_of_mem _ (iw_H w h)) hown rfl rfl (by decide) (hts _ (List.mem_cons_of_mem _ wd_224)) (fun _ h => h) rfl rfl rfl d_H_present_1 h, List.forall_mem_cons.mpr ⟨fun S h => bs_iload_n (Z := Z) hx hb rfl d_H_present_4 h, List.forall_mem_cons.mpr ⟨fun S h => bs_Rald (Z := Z) hx hb ha5 d_H_present_5 h, List.forall_mem_cons.mpr ⟨fun S h => bs_astore_n (Z := Z) hx hb rfl d_H_present_6 h, List.forall_mem_cons.mpr ⟨fun S h => bs_aload_n (Z := Z) hx hb rfl d_H_present_7 h, List.forall_mem_cons.mpr ⟨fun S h => bs_gI (Z := Z) (C := R_B) (T := F_B) (N := 10) (t := 5) (j := 3) hx hb hK hts (fun w h => List.mem_cons_of_mem _ (iw_B w h)) hown rfl rfl (by decide) (hts _ (List.mem_cons_of_mem _ wd_95)) (fun _ h => h) rfl rfl rfl d_H_present_8 h, List.forall_mem_cons.mpr ⟨fun S h => bs_if_ne (Z := Z) hx hb d_H_present_11 (by decide) h, List.forall_mem_cons.mpr ⟨fun S h => (let ⟨_, hst⟩ := hstr 281 "the bundle is not there" st_281; bs_thr (Z := Z) hx hb hml htr htab hlocks bh_x0_NoSuchElementException bh_x1_NoSuchElementException bh_x2_NoSuchElementException bh_x5_NoSuchElementException hown (by decide +kernel) ⟨rfl, (hts _ (List.mem_cons_of_mem _ wd_529))⟩ ⟨rfl, (hts _ (List.mem_cons_of_mem _ wd_15))⟩ hst hbs (bh_at_NoSuchElementException hw hB) d_H_present_14 d_H_present_17 (Or.inr ⟨rfl, d_H_present_18⟩) d_H_present_21 d_H_present_24 (by show 2 + 3 < _ + 12; omega) (by show 13 * (2 + 1) + 43 ≤ 80 * _ + 200; omega) (Nat.le_refl _) (Nat.le_refl _) h), List.forall_mem_cons.mpr ⟨fun S h => bs_aload_n (Z := Z) hx hb rfl d_H_present_25 h, List.forall_mem_cons.mpr ⟨fun S h => bs_aret (Z := Z) hx hb hr (Or.inl ⟨_, rfl⟩) hlocks d_H_present_26 h, fun _ h => absurd h List.not_mem_nil⟩⟩⟩⟩⟩⟩⟩⟩⟩⟩⟩
abbrev c_H_openManifest : ByteArray := prog_1_method_26_code
def y_H_openManifest : MethodName := ⟨"BundleHall", "openManifest", "(I)LBundleHall$Manifest;"⟩
theorem d_H_openManifest_0 : decode c_H_openManifest 0 = .ok (.aload_n 0, 1) := by decide +kernel
theorem d_H_openManifest_1 : decode c_H_openManifest 1 = .ok (.iload_n 1, 1) := by decide +kernel
theorem d_H_openManifest_2 : decode c_H_openManifest 2 = .ok (.invokevirtual 100, 3) := by decide +kernel
theorem d_H_openManifest_5 : decode c_H_openManifest 5 = .ok (.astore_n 2, 1) := by decide +kernel
theorem d_H_openManifest_6 : decode c_H_openManifest 6 = .ok (.aload_n 2, 1) := by decide +kernel
theorem d_H_openManifest_7 : decode c_H_openManifest 7 = .ok (.getfield 50, 3) := by decide +kernel
theorem d_H_openManifest_10 : decode c_H_openManifest 10 = .ok (.iconst 1, 1) := by decide +kernel
theorem d_H_openManifest_11 : decode c_H_openManifest 11 = .ok (.if_icmp .eq 14, 3) := by decide +kernel
theorem d_H_openManifest_14 : decode c_H_openManifest 14 = .ok (.new 53, 3) := by decide +kernel
theorem d_H_openManifest_17 : decode c_H_openManifest 17 = .ok (.dup, 1) := by decide +kernel
theorem d_H_openManifest_18 : decode c_H_openManifest 18 = .ok (.ldc_w 284, 3) := by decide +kernel
theorem d_H_openManifest_21 : decode c_H_openManifest 21 = .ok (.invokespecial 57, 3) := by decide +kernel
theorem d_H_openManifest_24 : decode c_H_openManifest 24 = .ok (.athrow, 1) := by decide +kernel
theorem d_H_openManifest_25 : decode c_H_openManifest 25 = .ok (.aload_n 2, 1) := by decide +kernel
theorem d_H_openManifest_26 : decode c_H_openManifest 26 = .ok (.getfield 245, 3) := by decide +kernel
theorem d_H_openManifest_29 : decode c_H_openManifest 29 = .ok (.areturn, 1) := by decide +kernel
def T_H_openManifest_0 : List (Nat × bh_Op) := [(0, bo_ald 1 0),
  (1, bo_ild 2 1),
  (2, bo_callV 5 2 1 2 3 F_H_present),
  (5, bo_ast 6 2),
  (6, bo_ald 7 2),
  (7, bo_gI 10 5 3),
  (10, bo_st 11 (bg_push (.inl (.int 1)))),
  (11, bo_if2 14 25 (fun x y => x = y)),
  (14, bo_thr 2 "java/lang/IllegalStateException"),
  (25, bo_ald 26 2),
  (26, bo_gR 29 5 1 7),
  (29, bo_aret 2)]
def T_H_openManifest : List (Nat × bh_Op) := T_H_openManifest_0
set_option maxRecDepth 20000 in
theorem mT_H_openManifest_0 : ∀ q ∈ T_H_openManifest_0, bh_mono q.2 := List.forall_mem_cons.mpr ⟨bo_ald_m _ _, List.forall_mem_cons.mpr ⟨bo_ild_m _ _, List.forall_mem_cons.mpr ⟨bo_callV_m (mF_H_present) _ _ _ _ _, List.forall_mem_cons.mpr ⟨bo_ast_m _ _, List.forall_mem_cons.mpr ⟨bo_ald_m _ _, List.forall_mem_cons.mpr ⟨bo_gI_m _ _ _, List.forall_mem_cons.mpr ⟨bo_st_mono (bg_push_m _), List.forall_mem_cons.mpr ⟨bo_if2_m _ _ _, List.forall_mem_cons.mpr ⟨bo_thr_m _ _, List.forall_mem_cons.mpr ⟨bo_ald_m _ _, List.forall_mem_cons.mpr ⟨bo_gR_m _ _ _ _, List.forall_mem_cons.mpr ⟨bo_aret_m _, fun _ h => absurd h List.not_mem_nil⟩⟩⟩⟩⟩⟩⟩⟩⟩⟩⟩⟩
theorem m_H_openManifest : ∀ pc, bh_mono (bh_tb (T_H_openManifest) pc) := bh_tb_m mT_H_openManifest_0
def F_H_openManifest : bh_Fn := bh_fn 3 (bh_tb T_H_openManifest)
theorem mF_H_openManifest : bh_monoF F_H_openManifest := bh_fn_m m_H_openManifest
theorem cl_H_openManifest {s : State} {args : Array Value} (d B : Nat) (hts : ∀ w ∈ bh_ws, w.before args s = true) : bh_Cal (bh_rm (d + 1) B) s y_H_openManifest 3 (.code y_H_openManifest c_H_openManifest 3 (some (.object "BundleHall$Manifest")) :: bh_ws) (bh_rm d 2) 2 1 := bh_cal d B hts wd_524 wd_1 (by decide) (by decide +kernel)
set_option maxHeartbeats 4000000 in
set_option maxRecDepth 100000 in
theorem cn_H_openManifest {l : Launch} {G : bh_G} {base sb L : Nat} {xs : Nat → Int32} (htr : l.stackTraces = false) (d : Nat) : bh_Con l G base (bh_Bg G base sb L xs) y_H_openManifest (.code y_H_openManifest c_H_openManifest 3 (some (.object "BundleHall$Manifest")) :: bh_ws) (bh_rm (d + 2) 2) 2 false F_H_openManifest := by
  refine bh_method (cc := c_H_openManifest) (ret := (some (.object "BundleHall$Manifest"))) (by decide +kernel) rfl ?_
  intro p e s m args below meth c ad0 M0 Z X0 hr hlocks hname htab hbs hB
  obtain ⟨hx, hb, hml, hown, hts⟩ := id X0
  have hw : ∀ w ∈ bh_ws, w.before args s = true := fun w h => hts w (List.mem_cons_of_mem _ h)
  have hBg := bh_BgK (G := G) (base := base) (sb := sb) (L := L) (xs := xs)
  obtain ⟨hK, hAr, hen, hinj, hu1, hu2, hstr, hX, hsb, hsc, hxw, hao, hnc⟩ := id hB
  obtain ⟨ha1, ha2, ha3, ha4, ha5, ha6, ha0⟩ := bh_arr hAr
  exact List.forall_mem_cons.mpr ⟨fun S h => bs_aload_n (Z := Z) hx hb rfl d_H_openManifest_0 h, List.forall_mem_cons.mpr ⟨fun S h => bs_iload_n (Z := Z) hx hb rfl d_H_openManifest_1 h, List.forall_mem_cons.mpr ⟨fun S h => bs_callV (Z := Z) (C := R_H) hBg hbs hB X0 hK (cn_H_present htr (d + 0)) (cl_H_present _ _ hw) (hts _ (List.mem_cons_of_mem _ wd_525)) (hts _ (List.mem_cons_of_mem _ wd_527)) (hts _ (List.mem_cons_of_mem _ ws_21)) rfl rfl rfl rfl rfl (Nat.le_refl _) (Nat.le_refl _) d_H_openManifest_2 (bs_out htab hlocks) h, List.forall_mem_cons.mpr ⟨fun S h => bs_astore_n (Z := Z) hx hb rfl d_H_openManifest_5 h, List.forall_mem_cons.mpr ⟨fun S h => bs_aload_n (Z := Z) hx hb rfl d_H_openManifest_6 h, List.forall_mem_cons.mpr ⟨fun S h => bs_gI (Z := Z) (C := R_B) (T := F_B) (N := 10) (t := 5) (j := 3) hx hb hK hts (fun w h => List.mem_cons_of_mem _ (iw_B w h)) hown rfl rfl (by decide) (hts _ (List.mem_cons_of_mem _ wd_95)) (fun _ h => h) rfl rfl rfl d_H_openManifest_7 h, List.forall_mem_cons.mpr ⟨fun S h => bs_iconst (Z := Z) hx hb (by decide) d_H_openManifest_10 h, List.forall_mem_cons.mpr ⟨fun S h => bs_icmp_eq (Z := Z) hx hb d_H_openManifest_11 (by decide) h, List.forall_mem_cons.mpr ⟨fun S h => (let ⟨_, hst⟩ := hstr 284 "the bundle is resolved" st_284; bs_thr (Z := Z) hx hb hml htr htab hlocks bh_x0_IllegalStateException bh_x1_IllegalStateException bh_x2_IllegalStateException bh_x5_IllegalStateException hown (by decide +kernel) ⟨rfl, (hts _ (List.mem_cons_of_mem _ wd_479))⟩ ⟨rfl, (hts _ (List.mem_cons_of_mem _ wd_14))⟩ hst hbs (bh_at_IllegalStateException hw hB) d_H_openManifest_14 d_H_openManifest_17 (Or.inr ⟨rfl, d_H_openManifest_18⟩) d_H_openManifest_21 d_H_openManifest_24 (by show 2 + 3 < _ + 12; omega) (by show 13 * (2 + 1) + 43 ≤ 80 * _ + 200; omega) (Nat.le_refl _) (Nat.le_refl _) h), List.forall_mem_cons.mpr ⟨fun S h => bs_aload_n (Z := Z) hx hb rfl d_H_openManifest_25 h, List.forall_mem_cons.mpr ⟨fun S h => bs_gR (Z := Z) (C := R_B) (T := F_B) (N := 10) (t := 5) (j := 1) hx hb hK hts (fun w h => List.mem_cons_of_mem _ (iw_B w h)) hown rfl rfl (by decide) (hts _ (List.mem_cons_of_mem _ wd_90)) (fun _ h => h) rfl rfl rfl d_H_openManifest_26 h, List.forall_mem_cons.mpr ⟨fun S h => bs_aret (Z := Z) hx hb hr (Or.inl ⟨_, rfl⟩) hlocks d_H_openManifest_29 h, fun _ h => absurd h List.not_mem_nil⟩⟩⟩⟩⟩⟩⟩⟩⟩⟩⟩⟩
abbrev c_F_canExport : ByteArray := prog_4_method_3_code
def y_F_canExport : MethodName := ⟨"BundleHall$Manifest", "canExport", "(I)Z"⟩
theorem d_F_canExport_0 : decode c_F_canExport 0 = .ok (.aload_n 0, 1) := by decide +kernel
theorem d_F_canExport_1 : decode c_F_canExport 1 = .ok (.getfield 40, 3) := by decide +kernel
theorem d_F_canExport_4 : decode c_F_canExport 4 = .ok (.iconst 3, 1) := by decide +kernel
theorem d_F_canExport_5 : decode c_F_canExport 5 = .ok (.if_icmp .ge 17, 3) := by decide +kernel
theorem d_F_canExport_8 : decode c_F_canExport 8 = .ok (.aload_n 0, 1) := by decide +kernel
theorem d_F_canExport_9 : decode c_F_canExport 9 = .ok (.getfield 9, 3) := by decide +kernel
theorem d_F_canExport_12 : decode c_F_canExport 12 = .ok (.iload_n 1, 1) := by decide +kernel
theorem d_F_canExport_13 : decode c_F_canExport 13 = .ok (.iaload, 1) := by decide +kernel
theorem d_F_canExport_14 : decode c_F_canExport 14 = .ok (.iconst (-1), 1) := by decide +kernel
theorem d_F_canExport_15 : decode c_F_canExport 15 = .ok (.if_icmp .ne 7, 3) := by decide +kernel
theorem d_F_canExport_18 : decode c_F_canExport 18 = .ok (.iconst 1, 1) := by decide +kernel
theorem d_F_canExport_19 : decode c_F_canExport 19 = .ok (.goto 4, 3) := by decide +kernel
theorem d_F_canExport_22 : decode c_F_canExport 22 = .ok (.iconst 0, 1) := by decide +kernel
theorem d_F_canExport_23 : decode c_F_canExport 23 = .ok (.ireturn, 1) := by decide +kernel
def T_F_canExport_0 : List (Nat × bh_Op) := [(0, bo_ald 1 0),
  (1, bo_gI 4 7 7),
  (4, bo_st 5 (bg_push (.inl (.int 3)))),
  (5, bo_if2 8 22 (fun x y => y ≤ x)),
  (8, bo_ald 9 0),
  (9, bo_gR 12 7 0 8),
  (12, bo_ild 13 1),
  (13, bo_Iald bh_ak bh_al 14),
  (14, bo_st 15 (bg_push (.inl (.int (-1))))),
  (15, bo_if2 18 22 (fun x y => ¬ x = y)),
  (18, bo_st 19 (bg_push (.inl (.int 1)))),
  (19, bo_go 23),
  (22, bo_st 23 (bg_push (.inl (.int 0)))),
  (23, bo_zret 0)]
def T_F_canExport : List (Nat × bh_Op) := T_F_canExport_0
set_option maxRecDepth 20000 in
theorem mT_F_canExport_0 : ∀ q ∈ T_F_canExport_0, bh_mono q.2 := List.forall_mem_cons.mpr ⟨bo_ald_m _ _, List.forall_mem_cons.mpr ⟨bo_gI_m _ _ _, List.forall_mem_cons.mpr ⟨bo_st_mono (bg_push_m _), List.forall_mem_cons.mpr ⟨bo_if2_m _ _ _, List.forall_mem_cons.mpr ⟨bo_ald_m _ _, List.forall_mem_cons.mpr ⟨bo_gR_m _ _ _ _, List.forall_mem_cons.mpr ⟨bo_ild_m _ _, List.forall_mem_cons.mpr ⟨bo_Iald_m _ _ _, List.forall_mem_cons.mpr ⟨bo_st_mono (bg_push_m _), List.forall_mem_cons.mpr ⟨bo_if2_m _ _ _, List.forall_mem_cons.mpr ⟨bo_st_mono (bg_push_m _), List.forall_mem_cons.mpr ⟨bo_go_m _, List.forall_mem_cons.mpr ⟨bo_st_mono (bg_push_m _), List.forall_mem_cons.mpr ⟨bo_zret_m _, fun _ h => absurd h List.not_mem_nil⟩⟩⟩⟩⟩⟩⟩⟩⟩⟩⟩⟩⟩⟩
theorem m_F_canExport : ∀ pc, bh_mono (bh_tb (T_F_canExport) pc) := bh_tb_m mT_F_canExport_0
def F_F_canExport : bh_Fn := bh_fn 2 (bh_tb T_F_canExport)
theorem mF_F_canExport : bh_monoF F_F_canExport := bh_fn_m m_F_canExport
theorem cl_F_canExport {s : State} {args : Array Value} (d B : Nat) (hts : ∀ w ∈ bh_ws, w.before args s = true) : bh_Cal (bh_rm (d + 1) B) s y_F_canExport 2 (.code y_F_canExport c_F_canExport 2 (some .boolean) :: bh_ws) (bh_rm d 0) 0 1 := bh_cal d B hts wd_549 wd_3 (by decide) (by decide +kernel)
set_option maxHeartbeats 4000000 in
set_option maxRecDepth 100000 in
theorem cn_F_canExport {l : Launch} {G : bh_G} {base sb L : Nat} {xs : Nat → Int32} (htr : l.stackTraces = false) (d : Nat) : bh_Con l G base (bh_Bg G base sb L xs) y_F_canExport (.code y_F_canExport c_F_canExport 2 (some .boolean) :: bh_ws) (bh_rm (d + 1) 0) 0 false F_F_canExport := by
  refine bh_method (cc := c_F_canExport) (ret := (some .boolean)) (by decide +kernel) rfl ?_
  intro p e s m args below meth c ad0 M0 Z X0 hr hlocks hname htab hbs hB
  obtain ⟨hx, hb, hml, hown, hts⟩ := id X0
  have hw : ∀ w ∈ bh_ws, w.before args s = true := fun w h => hts w (List.mem_cons_of_mem _ h)
  have hBg := bh_BgK (G := G) (base := base) (sb := sb) (L := L) (xs := xs)
  obtain ⟨hK, hAr, hen, hinj, hu1, hu2, hstr, hX, hsb, hsc, hxw, hao, hnc⟩ := id hB
  obtain ⟨ha1, ha2, ha3, ha4, ha5, ha6, ha0⟩ := bh_arr hAr
  exact List.forall_mem_cons.mpr ⟨fun S h => bs_aload_n (Z := Z) hx hb rfl d_F_canExport_0 h, List.forall_mem_cons.mpr ⟨fun S h => bs_gI (Z := Z) (C := R_F) (T := F_F) (N := 9) (t := 7) (j := 7) hx hb hK hts (fun w h => List.mem_cons_of_mem _ (iw_F w h)) hown rfl rfl (by decide) (hts _ (List.mem_cons_of_mem _ wd_58)) (fun _ h => h) rfl rfl rfl d_F_canExport_1 h, List.forall_mem_cons.mpr ⟨fun S h => bs_iconst (Z := Z) hx hb (by decide) d_F_canExport_4 h, List.forall_mem_cons.mpr ⟨fun S h => bs_icmp_ge (Z := Z) hx hb d_F_canExport_5 (by decide) h, List.forall_mem_cons.mpr ⟨fun S h => bs_aload_n (Z := Z) hx hb rfl d_F_canExport_8 h, List.forall_mem_cons.mpr ⟨fun S h => bs_gR (Z := Z) (C := R_F) (T := F_F) (N := 9) (t := 7) (j := 0) hx hb hK hts (fun w h => List.mem_cons_of_mem _ (iw_F w h)) hown rfl rfl (by decide) (hts _ (List.mem_cons_of_mem _ wd_46)) (fun _ h => h) rfl rfl rfl d_F_canExport_9 h, List.forall_mem_cons.mpr ⟨fun S h => bs_iload_n (Z := Z) hx hb rfl d_F_canExport_12 h, List.forall_mem_cons.mpr ⟨fun S h => bs_Iald (Z := Z) hx hb ha1 d_F_canExport_13 h, List.forall_mem_cons.mpr ⟨fun S h => bs_iconst (Z := Z) hx hb (by decide) d_F_canExport_14 h, List.forall_mem_cons.mpr ⟨fun S h => bs_icmp_ne (Z := Z) hx hb d_F_canExport_15 (by decide) h, List.forall_mem_cons.mpr ⟨fun S h => bs_iconst (Z := Z) hx hb (by decide) d_F_canExport_18 h, List.forall_mem_cons.mpr ⟨fun S h => bs_goto (Z := Z) hx hb d_F_canExport_19 (by decide) h, List.forall_mem_cons.mpr ⟨fun S h => bs_iconst (Z := Z) hx hb (by decide) d_F_canExport_22 h, List.forall_mem_cons.mpr ⟨fun S h => bs_zret (Z := Z) hx hb hr hlocks d_F_canExport_23 h, fun _ h => absurd h List.not_mem_nil⟩⟩⟩⟩⟩⟩⟩⟩⟩⟩⟩⟩⟩⟩
abbrev c_F_addExport : ByteArray := prog_4_method_4_code
def y_F_addExport : MethodName := ⟨"BundleHall$Manifest", "addExport", "(III)V"⟩
theorem d_F_addExport_0 : decode c_F_addExport 0 = .ok (.aload_n 0, 1) := by decide +kernel
theorem d_F_addExport_1 : decode c_F_addExport 1 = .ok (.getfield 9, 3) := by decide +kernel
theorem d_F_addExport_4 : decode c_F_addExport 4 = .ok (.iload_n 1, 1) := by decide +kernel
theorem d_F_addExport_5 : decode c_F_addExport 5 = .ok (.iload_n 2, 1) := by decide +kernel
theorem d_F_addExport_6 : decode c_F_addExport 6 = .ok (.iastore, 1) := by decide +kernel
theorem d_F_addExport_7 : decode c_F_addExport 7 = .ok (.aload_n 0, 1) := by decide +kernel
theorem d_F_addExport_8 : decode c_F_addExport 8 = .ok (.getfield 15, 3) := by decide +kernel
theorem d_F_addExport_11 : decode c_F_addExport 11 = .ok (.iload_n 1, 1) := by decide +kernel
theorem d_F_addExport_12 : decode c_F_addExport 12 = .ok (.iload_n 3, 1) := by decide +kernel
theorem d_F_addExport_13 : decode c_F_addExport 13 = .ok (.iastore, 1) := by decide +kernel
theorem d_F_addExport_14 : decode c_F_addExport 14 = .ok (.aload_n 0, 1) := by decide +kernel
theorem d_F_addExport_15 : decode c_F_addExport 15 = .ok (.dup, 1) := by decide +kernel
theorem d_F_addExport_16 : decode c_F_addExport 16 = .ok (.getfield 40, 3) := by decide +kernel
theorem d_F_addExport_19 : decode c_F_addExport 19 = .ok (.iconst 1, 1) := by decide +kernel
theorem d_F_addExport_20 : decode c_F_addExport 20 = .ok (.iadd, 1) := by decide +kernel
theorem d_F_addExport_21 : decode c_F_addExport 21 = .ok (.putfield 40, 3) := by decide +kernel
theorem d_F_addExport_24 : decode c_F_addExport 24 = .ok (.return_, 1) := by decide +kernel
def T_F_addExport_0 : List (Nat × bh_Op) := [(0, bo_ald 1 0),
  (1, bo_gR 4 7 0 8),
  (4, bo_ild 5 1),
  (5, bo_ild 6 2),
  (6, bo_Iast bh_ak bh_al 7),
  (7, bo_ald 8 0),
  (8, bo_gR 11 7 1 9),
  (11, bo_ild 12 1),
  (12, bo_ild 13 3),
  (13, bo_Iast bh_ak bh_al 14),
  (14, bo_ald 15 0),
  (15, bo_st 16 bg_dup),
  (16, bo_gI 19 7 7),
  (19, bo_st 20 (bg_push (.inl (.int 1)))),
  (20, bo_st 21 (bg_ii (fun x y => x + y))),
  (21, bo_pI 24 7 7),
  (24, bo_vret 0)]
def T_F_addExport : List (Nat × bh_Op) := T_F_addExport_0
set_option maxRecDepth 20000 in
theorem mT_F_addExport_0 : ∀ q ∈ T_F_addExport_0, bh_mono q.2 := List.forall_mem_cons.mpr ⟨bo_ald_m _ _, List.forall_mem_cons.mpr ⟨bo_gR_m _ _ _ _, List.forall_mem_cons.mpr ⟨bo_ild_m _ _, List.forall_mem_cons.mpr ⟨bo_ild_m _ _, List.forall_mem_cons.mpr ⟨bo_Iast_m _ _ _, List.forall_mem_cons.mpr ⟨bo_ald_m _ _, List.forall_mem_cons.mpr ⟨bo_gR_m _ _ _ _, List.forall_mem_cons.mpr ⟨bo_ild_m _ _, List.forall_mem_cons.mpr ⟨bo_ild_m _ _, List.forall_mem_cons.mpr ⟨bo_Iast_m _ _ _, List.forall_mem_cons.mpr ⟨bo_ald_m _ _, List.forall_mem_cons.mpr ⟨bo_st_mono bg_dup_m, List.forall_mem_cons.mpr ⟨bo_gI_m _ _ _, List.forall_mem_cons.mpr ⟨bo_st_mono (bg_push_m _), List.forall_mem_cons.mpr ⟨bo_st_mono (bg_ii_m _), List.forall_mem_cons.mpr ⟨bo_pI_m _ _ _, List.forall_mem_cons.mpr ⟨bo_vret_m _, fun _ h => absurd h List.not_mem_nil⟩⟩⟩⟩⟩⟩⟩⟩⟩⟩⟩⟩⟩⟩⟩⟩⟩
theorem m_F_addExport : ∀ pc, bh_mono (bh_tb (T_F_addExport) pc) := bh_tb_m mT_F_addExport_0
def F_F_addExport : bh_Fn := bh_fn 4 (bh_tb T_F_addExport)
theorem mF_F_addExport : bh_monoF F_F_addExport := bh_fn_m m_F_addExport
theorem cl_F_addExport {s : State} {args : Array Value} (d B : Nat) (hts : ∀ w ∈ bh_ws, w.before args s = true) : bh_Cal (bh_rm (d + 1) B) s y_F_addExport 4 (.code y_F_addExport c_F_addExport 4 none :: bh_ws) (bh_rm d 0) 0 3 := bh_cal d B hts wd_569 wd_3 (by decide) (by decide +kernel)
set_option maxHeartbeats 4000000 in
set_option maxRecDepth 100000 in
theorem cn_F_addExport {l : Launch} {G : bh_G} {base sb L : Nat} {xs : Nat → Int32} (htr : l.stackTraces = false) (d : Nat) : bh_Con l G base (bh_Bg G base sb L xs) y_F_addExport (.code y_F_addExport c_F_addExport 4 none :: bh_ws) (bh_rm (d + 1) 0) 0 false F_F_addExport := by
  refine bh_method (cc := c_F_addExport) (ret := none) (by decide +kernel) rfl ?_
  intro p e s m args below meth c ad0 M0 Z X0 hr hlocks hname htab hbs hB
  obtain ⟨hx, hb, hml, hown, hts⟩ := id X0
  have hw : ∀ w ∈ bh_ws, w.before args s = true := fun w h => hts w (List.mem_cons_of_mem _ h)
  have hBg := bh_BgK (G := G) (base := base) (sb := sb) (L := L) (xs := xs)
  obtain ⟨hK, hAr, hen, hinj, hu1, hu2, hstr, hX, hsb, hsc, hxw, hao, hnc⟩ := id hB
  obtain ⟨ha1, ha2, ha3, ha4, ha5, ha6, ha0⟩ := bh_arr hAr
  exact List.forall_mem_cons.mpr ⟨fun S h => bs_aload_n (Z := Z) hx hb rfl d_F_addExport_0 h, List.forall_mem_cons.mpr ⟨fun S h => bs_gR (Z := Z) (C := R_F) (T := F_F) (N := 9) (t := 7) (j := 0) hx hb hK hts (fun w h => List.mem_cons_of_mem _ (iw_F w h)) hown rfl rfl (by decide) (hts _ (List.mem_cons_of_mem _ wd_46)) (fun _ h => h) rfl rfl rfl d_F_addExport_1 h, List.forall_mem_cons.mpr ⟨fun S h => bs_iload_n (Z := Z) hx hb rfl d_F_addExport_4 h, List.forall_mem_cons.mpr ⟨fun S h => bs_iload_n (Z := Z) hx hb rfl d_F_addExport_5 h, List.forall_mem_cons.mpr ⟨fun S h => bs_Iast (Z := Z) hx hb ha1 d_F_addExport_6 h, List.forall_mem_cons.mpr ⟨fun S h => bs_aload_n (Z := Z) hx hb rfl d_F_addExport_7 h, List.forall_mem_cons.mpr ⟨fun S h => bs_gR (Z := Z) (C := R_F) (T := F_F) (N := 9) (t := 7) (j := 1) hx hb hK hts (fun w h => List.mem_cons_of_mem _ (iw_F w h)) hown rfl rfl (by decide) (hts _ (List.mem_cons_of_mem _ wd_48)) (fun _ h => h) rfl rfl rfl d_F_addExport_8 h, List.forall_mem_cons.mpr ⟨fun S h => bs_iload_n (Z := Z) hx hb rfl d_F_addExport_11 h, List.forall_mem_cons.mpr ⟨fun S h => bs_iload_n (Z := Z) hx hb rfl d_F_addExport_12 h, List.forall_mem_cons.mpr ⟨fun S h => bs_Iast (Z := Z) hx hb ha1 d_F_addExport_13 h, List.forall_mem_cons.mpr ⟨fun S h => bs_aload_n (Z := Z) hx hb rfl d_F_addExport_14 h, List.forall_mem_cons.mpr ⟨fun S h => bs_dup (Z := Z) hx hb d_F_addExport_15 h, List.forall_mem_cons.mpr ⟨fun S h => bs_gI (Z := Z) (C := R_F) (T := F_F) (N := 9) (t := 7) (j := 7) hx hb hK hts (fun w h => List.mem_cons_of_mem _ (iw_F w h)) hown rfl rfl (by decide) (hts _ (List.mem_cons_of_mem _ wd_58)) (fun _ h => h) rfl rfl rfl d_F_addExport_16 h, List.forall_mem_cons.mpr ⟨fun S h => bs_iconst (Z := Z) hx hb (by decide) d_F_addExport_19 h, List.forall_mem_cons.mpr ⟨fun S h => bs_iadd (Z := Z) hx hb d_F_addExport_20 h, List.forall_mem_cons.mpr ⟨fun S h => bs_pI (Z := Z) (C := R_F) (T := F_F) (N := 9) (t := 7) (j := 7) hx hb hK hts (fun w h => List.mem_cons_of_mem _ (iw_F w h)) hown rfl rfl (by decide) (hts _ (List.mem_cons_of_mem _ wd_58)) (fun _ h => h) rfl rfl t_F t_F_ok n_F rfl (by decide +kernel) rfl d_F_addExport_21 h, List.forall_mem_cons.mpr ⟨fun S h => bs_vret (Z := Z) hx hb hr hlocks d_F_addExport_24 h, fun _ h => absurd h List.not_mem_nil⟩⟩⟩⟩⟩⟩⟩⟩⟩⟩⟩⟩⟩⟩⟩⟩⟩
abbrev c_H_export : ByteArray := prog_1_method_3_code
def y_H_export : MethodName := ⟨"BundleHall", "export", "(III)I"⟩
theorem d_H_export_0 : decode c_H_export 0 = .ok (.iload_n 1, 1) := by decide +kernel
theorem d_H_export_1 : decode c_H_export 1 = .ok (.invokestatic 43, 3) := by decide +kernel
theorem d_H_export_4 : decode c_H_export 4 = .ok (.iload_n 2, 1) := by decide +kernel
theorem d_H_export_5 : decode c_H_export 5 = .ok (.iconst 0, 1) := by decide +kernel
theorem d_H_export_6 : decode c_H_export 6 = .ok (.bipush 79, 2) := by decide +kernel
theorem d_H_export_8 : decode c_H_export 8 = .ok (.invokestatic 46, 3) := by decide +kernel
theorem d_H_export_11 : decode c_H_export 11 = .ok (.iload_n 3, 1) := by decide +kernel
theorem d_H_export_12 : decode c_H_export 12 = .ok (.iconst 0, 1) := by decide +kernel
theorem d_H_export_13 : decode c_H_export 13 = .ok (.sipush 255, 3) := by decide +kernel
theorem d_H_export_16 : decode c_H_export 16 = .ok (.invokestatic 46, 3) := by decide +kernel
theorem d_H_export_19 : decode c_H_export 19 = .ok (.aload_n 0, 1) := by decide +kernel
theorem d_H_export_20 : decode c_H_export 20 = .ok (.iload_n 1, 1) := by decide +kernel
theorem d_H_export_21 : decode c_H_export 21 = .ok (.invokevirtual 67, 3) := by decide +kernel
theorem d_H_export_24 : decode c_H_export 24 = .ok (.astore 4, 2) := by decide +kernel
theorem d_H_export_26 : decode c_H_export 26 = .ok (.iload_n 2, 1) := by decide +kernel
theorem d_H_export_27 : decode c_H_export 27 = .ok (.bipush 8, 2) := by decide +kernel
theorem d_H_export_29 : decode c_H_export 29 = .ok (.irem, 1) := by decide +kernel
theorem d_H_export_30 : decode c_H_export 30 = .ok (.istore 5, 2) := by decide +kernel
theorem d_H_export_32 : decode c_H_export 32 = .ok (.aload 4, 2) := by decide +kernel
theorem d_H_export_34 : decode c_H_export 34 = .ok (.iload 5, 2) := by decide +kernel
theorem d_H_export_36 : decode c_H_export 36 = .ok (.invokevirtual 71, 3) := by decide +kernel
theorem d_H_export_39 : decode c_H_export 39 = .ok (.ifCond .ne 13, 3) := by decide +kernel
theorem d_H_export_42 : decode c_H_export 42 = .ok (.new 77, 3) := by decide +kernel
theorem d_H_export_45 : decode c_H_export 45 = .ok (.dup, 1) := by decide +kernel
theorem d_H_export_46 : decode c_H_export 46 = .ok (.ldc 79, 2) := by decide +kernel
theorem d_H_export_48 : decode c_H_export 48 = .ok (.invokespecial 81, 3) := by decide +kernel
theorem d_H_export_51 : decode c_H_export 51 = .ok (.athrow, 1) := by decide +kernel
theorem d_H_export_52 : decode c_H_export 52 = .ok (.aload 4, 2) := by decide +kernel
theorem d_H_export_54 : decode c_H_export 54 = .ok (.iload 5, 2) := by decide +kernel
theorem d_H_export_56 : decode c_H_export 56 = .ok (.iload_n 2, 1) := by decide +kernel
theorem d_H_export_57 : decode c_H_export 57 = .ok (.bipush 8, 2) := by decide +kernel
theorem d_H_export_59 : decode c_H_export 59 = .ok (.idiv, 1) := by decide +kernel
theorem d_H_export_60 : decode c_H_export 60 = .ok (.iload_n 3, 1) := by decide +kernel
theorem d_H_export_61 : decode c_H_export 61 = .ok (.invokevirtual 82, 3) := by decide +kernel
theorem d_H_export_64 : decode c_H_export 64 = .ok (.aload 4, 2) := by decide +kernel
theorem d_H_export_66 : decode c_H_export 66 = .ok (.getfield 85, 3) := by decide +kernel
theorem d_H_export_69 : decode c_H_export 69 = .ok (.ireturn, 1) := by decide +kernel
def T_H_export_0 : List (Nat × bh_Op) := [(0, bo_ild 1 1),
  (1, bo_callS 4 1 1 6 F_H_checkBundle),
  (4, bo_ild 5 2),
  (5, bo_st 6 (bg_push (.inl (.int 0)))),
  (6, bo_st 8 (bg_push (.inl (.int 79)))),
  (8, bo_callS 11 3 1 6 F_H_checkRange),
  (11, bo_ild 12 3),
  (12, bo_st 13 (bg_push (.inl (.int 0)))),
  (13, bo_st 16 (bg_push (.inl (.int 255)))),
  (16, bo_callS 19 3 1 6 F_H_checkRange),
  (19, bo_ald 20 0),
  (20, bo_ild 21 1),
  (21, bo_callV 24 2 2 6 3 F_H_openManifest),
  (24, bo_ast 26 4),
  (26, bo_ild 27 2),
  (27, bo_st 29 (bg_push (.inl (.int 8)))),
  (29, bo_st 30 (bg_dv (fun x y => x - x / y * y))),
  (30, bo_ist 32 5),
  (32, bo_ald 34 4),
  (34, bo_ild 36 5),
  (36, bo_callV 39 2 0 6 7 F_F_canExport),
  (39, bo_if1 42 52 (fun x => ¬ x = 0)),
  (42, bo_thr 6 "java/lang/UnsupportedOperationException"),
  (52, bo_ald 54 4),
  (54, bo_ild 56 5),
  (56, bo_ild 57 2),
  (57, bo_st 59 (bg_push (.inl (.int 8)))),
  (59, bo_st 60 (bg_dv (fun x y => x / y))),
  (60, bo_ild 61 3),
  (61, bo_callV 64 4 0 6 7 F_F_addExport),
  (64, bo_ald 66 4),
  (66, bo_gI 69 7 7),
  (69, bo_iret 6)]
def T_H_export : List (Nat × bh_Op) := T_H_export_0
set_option maxRecDepth 20000 in
theorem mT_H_export_0 : ∀ q ∈ T_H_export_0, bh_mono q.2 := List.forall_mem_cons.mpr ⟨bo_ild_m _ _, List.forall_mem_cons.mpr ⟨bo_callS_m (mF_H_checkBundle) _ _ _ _, List.forall_mem_cons.mpr ⟨bo_ild_m _ _, List.forall_mem_cons.mpr ⟨bo_st_mono (bg_push_m _), List.forall_mem_cons.mpr ⟨bo_st_mono (bg_push_m _), List.forall_mem_cons.mpr ⟨bo_callS_m (mF_H_checkRange) _ _ _ _, List.forall_mem_cons.mpr ⟨bo_ild_m _ _, List.forall_mem_cons.mpr ⟨bo_st_mono (bg_push_m _), List.forall_mem_cons.mpr ⟨bo_st_mono (bg_push_m _), List.forall_mem_cons.mpr ⟨bo_callS_m (mF_H_checkRange) _ _ _ _, List.forall_mem_cons.mpr ⟨bo_ald_m _ _, List.forall_mem_cons.mpr ⟨bo_ild_m _ _, List.forall_mem_cons.mpr ⟨bo_callV_m (mF_H_openManifest) _ _ _ _ _, List.forall_mem_cons.mpr ⟨bo_ast_m _ _, List.forall_mem_cons.mpr ⟨bo_ild_m _ _, List.forall_mem_cons.mpr ⟨bo_st_mono (bg_push_m _), List.forall_mem_cons.mpr ⟨bo_st_mono (bg_dv_m _), List.forall_mem_cons.mpr ⟨bo_ist_m _ _, List.forall_mem_cons.mpr ⟨bo_ald_m _ _, List.forall_mem_cons.mpr ⟨bo_ild_m _ _, List.forall_mem_cons.mpr ⟨bo_callV_m (mF_F_canExport) _ _ _ _ _, List.forall_mem_cons.mpr ⟨bo_if1_m _ _ _, List.forall_mem_cons.mpr ⟨bo_thr_m _ _, List.forall_mem_cons.mpr ⟨bo_ald_m _ _, List.forall_mem_cons.mpr ⟨bo_ild_m _ _, List.forall_mem_cons.mpr ⟨bo_ild_m _ _, List.forall_mem_cons.mpr ⟨bo_st_mono (bg_push_m _), List.forall_mem_cons.mpr ⟨bo_st_mono (bg_dv_m _), List.forall_mem_cons.mpr ⟨bo_ild_m _ _, List.forall_mem_cons.mpr ⟨bo_callV_m (mF_F_addExport) _ _ _ _ _, List.forall_mem_cons.mpr ⟨bo_ald_m _ _, List.forall_mem_cons.mpr ⟨bo_gI_m _ _ _, List.forall_mem_cons.mpr ⟨bo_iret_m _, fun _ h => absurd h List.not_mem_nil⟩⟩⟩⟩⟩⟩⟩⟩⟩⟩⟩⟩⟩⟩⟩⟩⟩⟩⟩⟩⟩⟩⟩⟩⟩⟩⟩⟩⟩⟩⟩⟩⟩
theorem m_H_export : ∀ pc, bh_mono (bh_tb (T_H_export) pc) := bh_tb_m mT_H_export_0
def F_H_export : bh_Fn := bh_fn 6 (bh_tb T_H_export)
theorem mF_H_export : bh_monoF F_H_export := bh_fn_m m_H_export
theorem cl_H_export {s : State} {args : Array Value} (d B : Nat) (hts : ∀ w ∈ bh_ws, w.before args s = true) : bh_Cal (bh_rm (d + 1) B) s y_H_export 6 (.code y_H_export c_H_export 6 (some .int) :: bh_ws) (bh_rm d 6) 6 3 := bh_cal d B hts wd_520 wd_1 (by decide) (by decide +kernel)
set_option maxHeartbeats 4000000 in
set_option maxRecDepth 100000 in
theorem cn_H_export {l : Launch} {G : bh_G} {base sb L : Nat} {xs : Nat → Int32} (htr : l.stackTraces = false) (d : Nat) : bh_Con l G base (bh_Bg G base sb L xs) y_H_export (.code y_H_export c_H_export 6 (some .int) :: bh_ws) (bh_rm (d + 3) 6) 6 false F_H_export := by
  refine bh_method (cc := c_H_export) (ret := (some .int)) (by decide +kernel) rfl ?_
  intro p e s m args below meth c ad0 M0 Z X0 hr hlocks hname htab hbs hB
  obtain ⟨hx, hb, hml, hown, hts⟩ := id X0
  have hw : ∀ w ∈ bh_ws, w.before args s = true := fun w h => hts w (List.mem_cons_of_mem _ h)
  have hBg := bh_BgK (G := G) (base := base) (sb := sb) (L := L) (xs := xs)
  obtain ⟨hK, hAr, hen, hinj, hu1, hu2, hstr, hX, hsb, hsc, hxw, hao, hnc⟩ := id hB
  obtain ⟨ha1, ha2, ha3, ha4, ha5, ha6, ha0⟩ := bh_arr hAr
  exact List.forall_mem_cons.mpr ⟨fun S h => bs_iload_n (Z := Z) hx hb rfl d_H_export_0 h, List.forall_mem_cons.mpr ⟨fun S h => bs_callS (Z := Z) hBg hbs hB X0 (cn_H_checkBundle htr (d + 0)) (cl_H_checkBundle _ _ hw) (hts _ (List.mem_cons_of_mem _ wd_403)) (hts _ (List.mem_cons_of_mem _ wd_404)) (Nat.le_refl _) (Nat.le_refl _) d_H_export_1 (bs_out htab hlocks) h, List.forall_mem_cons.mpr ⟨fun S h => bs_iload_n (Z := Z) hx hb rfl d_H_export_4 h, List.forall_mem_cons.mpr ⟨fun S h => bs_iconst (Z := Z) hx hb (by decide) d_H_export_5 h, List.forall_mem_cons.mpr ⟨fun S h => bs_bipush (Z := Z) hx hb (by decide) d_H_export_6 h, List.forall_mem_cons.mpr ⟨fun S h => bs_callS (Z := Z) hBg hbs hB X0 (cn_H_checkRange htr (d + 1)) (cl_H_checkRange _ _ hw) (hts _ (List.mem_cons_of_mem _ wd_406)) (hts _ (List.mem_cons_of_mem _ wd_407)) (Nat.le_refl _) (Nat.le_refl _) d_H_export_8 (bs_out htab hlocks) h, List.forall_mem_cons.mpr ⟨fun S h => bs_iload_n (Z := Z) hx hb rfl d_H_export_11 h, List.forall_mem_cons.mpr ⟨fun S h => bs_iconst (Z := Z) hx hb (by decide) d_H_export_12 h, List.forall_mem_cons.mpr ⟨fun S h => bs_sipush (Z := Z) hx hb (by decide) d_H_export_13 h, List.forall_mem_cons.mpr ⟨fun S h => bs_callS (Z := Z) hBg hbs hB X0 (cn_H_checkRange htr (d + 1)) (cl_H_checkRange _ _ hw) (hts _ (List.mem_cons_of_mem _ wd_406)) (hts _ (List.mem_cons_of_mem _ wd_407)) (Nat.le_refl _) (Nat.le_refl _) d_H_export_16 (bs_out htab hlocks) h, List.forall_mem_cons.mpr ⟨fun S h => bs_aload_n (Z := Z) hx hb rfl d_H_export_19 h, List.forall_mem_cons.mpr ⟨fun S h => bs_iload_n (Z := Z) hx hb rfl d_H_export_20 h, List.forall_mem_cons.mpr ⟨fun S h => bs_callV (Z := Z) (C := R_H) hBg hbs hB X0 hK (cn_H_openManifest htr (d + 0)) (cl_H_openManifest _ _ hw) (hts _ (List.mem_cons_of_mem _ wd_521)) (hts _ (List.mem_cons_of_mem _ wd_523)) (hts _ (List.mem_cons_of_mem _ ws_20)) rfl rfl rfl rfl rfl (Nat.le_refl _) (Nat.le_refl _) d_H_export_21 (bs_out htab hlocks) h, List.forall_mem_cons.mpr ⟨fun S h => bs_astore (Z := Z) hx hb d_H_export_24 h, List.forall_mem_cons.mpr ⟨fun S h => bs_iload_n (Z := Z) hx hb rfl d_H_export_26 h, List.forall_mem_cons.mpr ⟨fun S h => bs_bipush (Z := Z) hx hb (by decide) d_H_export_27 h, List.forall_mem_cons.mpr ⟨fun S h => bs_irem (Z := Z) hx hb d_H_export_29 h, List.forall_mem_cons.mpr ⟨fun S h => bs_istore (Z := Z) hx hb d_H_export_30 h, List.forall_mem_cons.mpr ⟨fun S h => bs_aload (Z := Z) hx hb d_H_export_32 h, List.forall_mem_cons.mpr ⟨fun S h => bs_iload (Z := Z) hx hb d_H_export_34 h, List.forall_mem_cons.mpr ⟨fun S h => bs_callV (Z := Z) (C := R_F) hBg hbs hB X0 hK (cn_F_canExport htr (d + 1)) (cl_F_canExport _ _ hw) (hts _ (List.mem_cons_of_mem _ wd_546)) (hts _ (List.mem_cons_of_mem _ wd_547)) (hts _ (List.mem_cons_of_mem _ wd_548)) rfl rfl rfl rfl rfl (Nat.le_refl _) (Nat.le_refl _) d_H_export_36 (bs_out htab hlocks) h, List.forall_mem_cons.mpr ⟨fun S h => bs_if_ne (Z := Z) hx hb d_H_export_39 (by decide) h, List.forall_mem_cons.mpr ⟨fun S h => (let ⟨_, hst⟩ := hstr 79 "no room for this export" st_79; bs_thr (Z := Z) hx hb hml htr htab hlocks bh_x0_UnsupportedOperationException bh_x1_UnsupportedOperationException bh_x2_UnsupportedOperationException bh_x5_UnsupportedOperationException hown (by decide +kernel) ⟨rfl, (hts _ (List.mem_cons_of_mem _ wd_550))⟩ ⟨rfl, (hts _ (List.mem_cons_of_mem _ wd_16))⟩ hst hbs (bh_at_UnsupportedOperationException hw hB) d_H_export_42 d_H_export_45 (Or.inl ⟨rfl, d_H_export_46⟩) d_H_export_48 d_H_export_51 (by show 2 + 3 < _ + 12; omega) (by show 13 * (2 + 1) + 43 ≤ 80 * _ + 200; omega) (Nat.le_refl _) (Nat.le_refl _) h), List.forall_mem_cons.mpr ⟨fun S h => bs_aload (Z := Z) hx hb d_H_export_52 h, List.forall_mem_cons.mpr ⟨fun S h => bs_iload (Z := Z) hx hb d_H_export_54 h, List.forall_mem_cons.mpr ⟨fun S h => bs_iload_n (Z := Z) hx hb rfl d_H_export_56 h, List.forall_mem_cons.mpr ⟨fun S h => bs_bipush (Z := Z) hx hb (by decide) d_H_export_57 h, List.forall_mem_cons.mpr ⟨fun S h => bs_idiv (Z := Z) hx hb d_H_export_59 h, List.forall_mem_cons.mpr ⟨fun S h => bs_iload_n (Z := Z) hx hb rfl d_H_export_60 h, List.forall_mem_cons.mpr ⟨fun S h => bs_callV (Z := Z) (C := R_F) hBg hbs hB X0 hK (cn_F_addExport htr (d + 1)) (cl_F_addExport _ _ hw) (hts _ (List.mem_cons_of_mem _ wd_566)) (hts _ (List.mem_cons_of_mem _ wd_567)) (hts _ (List.mem_cons_of_mem _ wd_568)) rfl rfl rfl rfl rfl (Nat.le_refl _) (Nat.le_refl _) d_H_export_61 (bs_out htab hlocks) h, List.forall_mem_cons.mpr ⟨fun S h => bs_aload (Z := Z) hx hb d_H_export_64 h, List.forall_mem_cons.mpr ⟨fun S h => bs_gI (Z := Z) (C := R_F) (T := F_F) (N := 9) (t := 7) (j := 7) hx hb hK hts (fun w h => List.mem_cons_of_mem _ (iw_F w h)) hown rfl rfl (by decide) (hts _ (List.mem_cons_of_mem _ wd_59)) (fun _ h => h) rfl rfl rfl d_H_export_66 h, List.forall_mem_cons.mpr ⟨fun S h => bs_iret (Z := Z) hx hb hr hlocks d_H_export_69 h, fun _ h => absurd h List.not_mem_nil⟩⟩⟩⟩⟩⟩⟩⟩⟩⟩⟩⟩⟩⟩⟩⟩⟩⟩⟩⟩⟩⟩⟩⟩⟩⟩⟩⟩⟩⟩⟩⟩⟩
abbrev c_F_canImport : ByteArray := prog_4_method_5_code
def y_F_canImport : MethodName := ⟨"BundleHall$Manifest", "canImport", "(I)Z"⟩
theorem d_F_canImport_0 : decode c_F_canImport 0 = .ok (.aload_n 0, 1) := by decide +kernel
theorem d_F_canImport_1 : decode c_F_canImport 1 = .ok (.getfield 44, 3) := by decide +kernel
theorem d_F_canImport_4 : decode c_F_canImport 4 = .ok (.iconst 3, 1) := by decide +kernel
theorem d_F_canImport_5 : decode c_F_canImport 5 = .ok (.if_icmp .ge 17, 3) := by decide +kernel
theorem d_F_canImport_8 : decode c_F_canImport 8 = .ok (.aload_n 0, 1) := by decide +kernel
theorem d_F_canImport_9 : decode c_F_canImport 9 = .ok (.getfield 18, 3) := by decide +kernel
theorem d_F_canImport_12 : decode c_F_canImport 12 = .ok (.iload_n 1, 1) := by decide +kernel
theorem d_F_canImport_13 : decode c_F_canImport 13 = .ok (.iaload, 1) := by decide +kernel
theorem d_F_canImport_14 : decode c_F_canImport 14 = .ok (.iconst (-1), 1) := by decide +kernel
theorem d_F_canImport_15 : decode c_F_canImport 15 = .ok (.if_icmp .ne 7, 3) := by decide +kernel
theorem d_F_canImport_18 : decode c_F_canImport 18 = .ok (.iconst 1, 1) := by decide +kernel
theorem d_F_canImport_19 : decode c_F_canImport 19 = .ok (.goto 4, 3) := by decide +kernel
theorem d_F_canImport_22 : decode c_F_canImport 22 = .ok (.iconst 0, 1) := by decide +kernel
theorem d_F_canImport_23 : decode c_F_canImport 23 = .ok (.ireturn, 1) := by decide +kernel
def T_F_canImport_0 : List (Nat × bh_Op) := [(0, bo_ald 1 0),
  (1, bo_gI 4 7 8),
  (4, bo_st 5 (bg_push (.inl (.int 3)))),
  (5, bo_if2 8 22 (fun x y => y ≤ x)),
  (8, bo_ald 9 0),
  (9, bo_gR 12 7 2 10),
  (12, bo_ild 13 1),
  (13, bo_Iald bh_ak bh_al 14),
  (14, bo_st 15 (bg_push (.inl (.int (-1))))),
  (15, bo_if2 18 22 (fun x y => ¬ x = y)),
  (18, bo_st 19 (bg_push (.inl (.int 1)))),
  (19, bo_go 23),
  (22, bo_st 23 (bg_push (.inl (.int 0)))),
  (23, bo_zret 0)]
def T_F_canImport : List (Nat × bh_Op) := T_F_canImport_0
set_option maxRecDepth 20000 in
theorem mT_F_canImport_0 : ∀ q ∈ T_F_canImport_0, bh_mono q.2 := List.forall_mem_cons.mpr ⟨bo_ald_m _ _, List.forall_mem_cons.mpr ⟨bo_gI_m _ _ _, List.forall_mem_cons.mpr ⟨bo_st_mono (bg_push_m _), List.forall_mem_cons.mpr ⟨bo_if2_m _ _ _, List.forall_mem_cons.mpr ⟨bo_ald_m _ _, List.forall_mem_cons.mpr ⟨bo_gR_m _ _ _ _, List.forall_mem_cons.mpr ⟨bo_ild_m _ _, List.forall_mem_cons.mpr ⟨bo_Iald_m _ _ _, List.forall_mem_cons.mpr ⟨bo_st_mono (bg_push_m _), List.forall_mem_cons.mpr ⟨bo_if2_m _ _ _, List.forall_mem_cons.mpr ⟨bo_st_mono (bg_push_m _), List.forall_mem_cons.mpr ⟨bo_go_m _, List.forall_mem_cons.mpr ⟨bo_st_mono (bg_push_m _), List.forall_mem_cons.mpr ⟨bo_zret_m _, fun _ h => absurd h List.not_mem_nil⟩⟩⟩⟩⟩⟩⟩⟩⟩⟩⟩⟩⟩⟩
theorem m_F_canImport : ∀ pc, bh_mono (bh_tb (T_F_canImport) pc) := bh_tb_m mT_F_canImport_0
def F_F_canImport : bh_Fn := bh_fn 2 (bh_tb T_F_canImport)
theorem mF_F_canImport : bh_monoF F_F_canImport := bh_fn_m m_F_canImport
theorem cl_F_canImport {s : State} {args : Array Value} (d B : Nat) (hts : ∀ w ∈ bh_ws, w.before args s = true) : bh_Cal (bh_rm (d + 1) B) s y_F_canImport 2 (.code y_F_canImport c_F_canImport 2 (some .boolean) :: bh_ws) (bh_rm d 0) 0 1 := bh_cal d B hts wd_580 wd_3 (by decide) (by decide +kernel)
set_option maxHeartbeats 4000000 in
set_option maxRecDepth 100000 in
theorem cn_F_canImport {l : Launch} {G : bh_G} {base sb L : Nat} {xs : Nat → Int32} (htr : l.stackTraces = false) (d : Nat) : bh_Con l G base (bh_Bg G base sb L xs) y_F_canImport (.code y_F_canImport c_F_canImport 2 (some .boolean) :: bh_ws) (bh_rm (d + 1) 0) 0 false F_F_canImport := by
  refine bh_method (cc := c_F_canImport) (ret := (some .boolean)) (by decide +kernel) rfl ?_
  intro p e s m args below meth c ad0 M0 Z X0 hr hlocks hname htab hbs hB
  obtain ⟨hx, hb, hml, hown, hts⟩ := id X0
  have hw : ∀ w ∈ bh_ws, w.before args s = true := fun w h => hts w (List.mem_cons_of_mem _ h)
  have hBg := bh_BgK (G := G) (base := base) (sb := sb) (L := L) (xs := xs)
  obtain ⟨hK, hAr, hen, hinj, hu1, hu2, hstr, hX, hsb, hsc, hxw, hao, hnc⟩ := id hB
  obtain ⟨ha1, ha2, ha3, ha4, ha5, ha6, ha0⟩ := bh_arr hAr
  exact List.forall_mem_cons.mpr ⟨fun S h => bs_aload_n (Z := Z) hx hb rfl d_F_canImport_0 h, List.forall_mem_cons.mpr ⟨fun S h => bs_gI (Z := Z) (C := R_F) (T := F_F) (N := 9) (t := 7) (j := 8) hx hb hK hts (fun w h => List.mem_cons_of_mem _ (iw_F w h)) hown rfl rfl (by decide) (hts _ (List.mem_cons_of_mem _ wd_60)) (fun _ h => h) rfl rfl rfl d_F_canImport_1 h, List.forall_mem_cons.mpr ⟨fun S h => bs_iconst (Z := Z) hx hb (by decide) d_F_canImport_4 h, List.forall_mem_cons.mpr ⟨fun S h => bs_icmp_ge (Z := Z) hx hb d_F_canImport_5 (by decide) h, List.forall_mem_cons.mpr ⟨fun S h => bs_aload_n (Z := Z) hx hb rfl d_F_canImport_8 h, List.forall_mem_cons.mpr ⟨fun S h => bs_gR (Z := Z) (C := R_F) (T := F_F) (N := 9) (t := 7) (j := 2) hx hb hK hts (fun w h => List.mem_cons_of_mem _ (iw_F w h)) hown rfl rfl (by decide) (hts _ (List.mem_cons_of_mem _ wd_50)) (fun _ h => h) rfl rfl rfl d_F_canImport_9 h, List.forall_mem_cons.mpr ⟨fun S h => bs_iload_n (Z := Z) hx hb rfl d_F_canImport_12 h, List.forall_mem_cons.mpr ⟨fun S h => bs_Iald (Z := Z) hx hb ha1 d_F_canImport_13 h, List.forall_mem_cons.mpr ⟨fun S h => bs_iconst (Z := Z) hx hb (by decide) d_F_canImport_14 h, List.forall_mem_cons.mpr ⟨fun S h => bs_icmp_ne (Z := Z) hx hb d_F_canImport_15 (by decide) h, List.forall_mem_cons.mpr ⟨fun S h => bs_iconst (Z := Z) hx hb (by decide) d_F_canImport_18 h, List.forall_mem_cons.mpr ⟨fun S h => bs_goto (Z := Z) hx hb d_F_canImport_19 (by decide) h, List.forall_mem_cons.mpr ⟨fun S h => bs_iconst (Z := Z) hx hb (by decide) d_F_canImport_22 h, List.forall_mem_cons.mpr ⟨fun S h => bs_zret (Z := Z) hx hb hr hlocks d_F_canImport_23 h, fun _ h => absurd h List.not_mem_nil⟩⟩⟩⟩⟩⟩⟩⟩⟩⟩⟩⟩⟩⟩
abbrev c_F_addImport : ByteArray := prog_4_method_6_code
def y_F_addImport : MethodName := ⟨"BundleHall$Manifest", "addImport", "(IIIZ)V"⟩
theorem d_F_addImport_0 : decode c_F_addImport 0 = .ok (.aload_n 0, 1) := by decide +kernel
theorem d_F_addImport_1 : decode c_F_addImport 1 = .ok (.getfield 18, 3) := by decide +kernel
theorem d_F_addImport_4 : decode c_F_addImport 4 = .ok (.iload_n 1, 1) := by decide +kernel
theorem d_F_addImport_5 : decode c_F_addImport 5 = .ok (.aload_n 0, 1) := by decide +kernel
theorem d_F_addImport_6 : decode c_F_addImport 6 = .ok (.getfield 44, 3) := by decide +kernel
theorem d_F_addImport_9 : decode c_F_addImport 9 = .ok (.iastore, 1) := by decide +kernel
theorem d_F_addImport_10 : decode c_F_addImport 10 = .ok (.aload_n 0, 1) := by decide +kernel
theorem d_F_addImport_11 : decode c_F_addImport 11 = .ok (.getfield 21, 3) := by decide +kernel
theorem d_F_addImport_14 : decode c_F_addImport 14 = .ok (.aload_n 0, 1) := by decide +kernel
theorem d_F_addImport_15 : decode c_F_addImport 15 = .ok (.getfield 44, 3) := by decide +kernel
theorem d_F_addImport_18 : decode c_F_addImport 18 = .ok (.iload_n 1, 1) := by decide +kernel
theorem d_F_addImport_19 : decode c_F_addImport 19 = .ok (.iastore, 1) := by decide +kernel
theorem d_F_addImport_20 : decode c_F_addImport 20 = .ok (.aload_n 0, 1) := by decide +kernel
theorem d_F_addImport_21 : decode c_F_addImport 21 = .ok (.getfield 24, 3) := by decide +kernel
theorem d_F_addImport_24 : decode c_F_addImport 24 = .ok (.aload_n 0, 1) := by decide +kernel
theorem d_F_addImport_25 : decode c_F_addImport 25 = .ok (.getfield 44, 3) := by decide +kernel
theorem d_F_addImport_28 : decode c_F_addImport 28 = .ok (.iload_n 2, 1) := by decide +kernel
theorem d_F_addImport_29 : decode c_F_addImport 29 = .ok (.iastore, 1) := by decide +kernel
theorem d_F_addImport_30 : decode c_F_addImport 30 = .ok (.aload_n 0, 1) := by decide +kernel
theorem d_F_addImport_31 : decode c_F_addImport 31 = .ok (.getfield 27, 3) := by decide +kernel
theorem d_F_addImport_34 : decode c_F_addImport 34 = .ok (.aload_n 0, 1) := by decide +kernel
theorem d_F_addImport_35 : decode c_F_addImport 35 = .ok (.getfield 44, 3) := by decide +kernel
theorem d_F_addImport_38 : decode c_F_addImport 38 = .ok (.iload_n 3, 1) := by decide +kernel
theorem d_F_addImport_39 : decode c_F_addImport 39 = .ok (.iastore, 1) := by decide +kernel
theorem d_F_addImport_40 : decode c_F_addImport 40 = .ok (.aload_n 0, 1) := by decide +kernel
theorem d_F_addImport_41 : decode c_F_addImport 41 = .ok (.getfield 30, 3) := by decide +kernel
theorem d_F_addImport_44 : decode c_F_addImport 44 = .ok (.aload_n 0, 1) := by decide +kernel
theorem d_F_addImport_45 : decode c_F_addImport 45 = .ok (.getfield 44, 3) := by decide +kernel
theorem d_F_addImport_48 : decode c_F_addImport 48 = .ok (.iload 4, 2) := by decide +kernel
theorem d_F_addImport_50 : decode c_F_addImport 50 = .ok (.bastore, 1) := by decide +kernel
theorem d_F_addImport_51 : decode c_F_addImport 51 = .ok (.aload_n 0, 1) := by decide +kernel
theorem d_F_addImport_52 : decode c_F_addImport 52 = .ok (.dup, 1) := by decide +kernel
theorem d_F_addImport_53 : decode c_F_addImport 53 = .ok (.getfield 44, 3) := by decide +kernel
theorem d_F_addImport_56 : decode c_F_addImport 56 = .ok (.iconst 1, 1) := by decide +kernel
theorem d_F_addImport_57 : decode c_F_addImport 57 = .ok (.iadd, 1) := by decide +kernel
theorem d_F_addImport_58 : decode c_F_addImport 58 = .ok (.putfield 44, 3) := by decide +kernel
theorem d_F_addImport_61 : decode c_F_addImport 61 = .ok (.return_, 1) := by decide +kernel
def T_F_addImport_0 : List (Nat × bh_Op) := [(0, bo_ald 1 0),
  (1, bo_gR 4 7 2 10),
  (4, bo_ild 5 1),
  (5, bo_ald 6 0),
  (6, bo_gI 9 7 8),
  (9, bo_Iast bh_ak bh_al 10),
  (10, bo_ald 11 0),
  (11, bo_gR 14 7 3 11),
  (14, bo_ald 15 0),
  (15, bo_gI 18 7 8),
  (18, bo_ild 19 1),
  (19, bo_Iast bh_ak bh_al 20),
  (20, bo_ald 21 0),
  (21, bo_gR 24 7 4 12),
  (24, bo_ald 25 0),
  (25, bo_gI 28 7 8),
  (28, bo_ild 29 2),
  (29, bo_Iast bh_ak bh_al 30),
  (30, bo_ald 31 0),
  (31, bo_gR 34 7 5 13),
  (34, bo_ald 35 0),
  (35, bo_gI 38 7 8),
  (38, bo_ild 39 3),
  (39, bo_Iast bh_ak bh_al 40),
  (40, bo_ald 41 0),
  (41, bo_gR 44 7 6 14),
  (44, bo_ald 45 0),
  (45, bo_gI 48 7 8),
  (48, bo_ild 50 4),
  (50, bo_Zast bh_ak bh_al 51),
  (51, bo_ald 52 0),
  (52, bo_st 53 bg_dup),
  (53, bo_gI 56 7 8),
  (56, bo_st 57 (bg_push (.inl (.int 1)))),
  (57, bo_st 58 (bg_ii (fun x y => x + y))),
  (58, bo_pI 61 7 8),
  (61, bo_vret 0)]
def T_F_addImport : List (Nat × bh_Op) := T_F_addImport_0
set_option maxRecDepth 20000 in
theorem mT_F_addImport_0 : ∀ q ∈ T_F_addImport_0, bh_mono q.2 := List.forall_mem_cons.mpr ⟨bo_ald_m _ _, List.forall_mem_cons.mpr ⟨bo_gR_m _ _ _ _, List.forall_mem_cons.mpr ⟨bo_ild_m _ _, List.forall_mem_cons.mpr ⟨bo_ald_m _ _, List.forall_mem_cons.mpr ⟨bo_gI_m _ _ _, List.forall_mem_cons.mpr ⟨bo_Iast_m _ _ _, List.forall_mem_cons.mpr ⟨bo_ald_m _ _, List.forall_mem_cons.mpr ⟨bo_gR_m _ _ _ _, List.forall_mem_cons.mpr ⟨bo_ald_m _ _, List.forall_mem_cons.mpr ⟨bo_gI_m _ _ _, List.forall_mem_cons.mpr ⟨bo_ild_m _ _, List.forall_mem_cons.mpr ⟨bo_Iast_m _ _ _, List.forall_mem_cons.mpr ⟨bo_ald_m _ _, List.forall_mem_cons.mpr ⟨bo_gR_m _ _ _ _, List.forall_mem_cons.mpr ⟨bo_ald_m _ _, List.forall_mem_cons.mpr ⟨bo_gI_m _ _ _, List.forall_mem_cons.mpr ⟨bo_ild_m _ _, List.forall_mem_cons.mpr ⟨bo_Iast_m _ _ _, List.forall_mem_cons.mpr ⟨bo_ald_m _ _, List.forall_mem_cons.mpr ⟨bo_gR_m _ _ _ _, List.forall_mem_cons.mpr ⟨bo_ald_m _ _, List.forall_mem_cons.mpr ⟨bo_gI_m _ _ _, List.forall_mem_cons.mpr ⟨bo_ild_m _ _, List.forall_mem_cons.mpr ⟨bo_Iast_m _ _ _, List.forall_mem_cons.mpr ⟨bo_ald_m _ _, List.forall_mem_cons.mpr ⟨bo_gR_m _ _ _ _, List.forall_mem_cons.mpr ⟨bo_ald_m _ _, List.forall_mem_cons.mpr ⟨bo_gI_m _ _ _, List.forall_mem_cons.mpr ⟨bo_ild_m _ _, List.forall_mem_cons.mpr ⟨bo_Zast_m _ _ _, List.forall_mem_cons.mpr ⟨bo_ald_m _ _, List.forall_mem_cons.mpr ⟨bo_st_mono bg_dup_m, List.forall_mem_cons.mpr ⟨bo_gI_m _ _ _, List.forall_mem_cons.mpr ⟨bo_st_mono (bg_push_m _), List.forall_mem_cons.mpr ⟨bo_st_mono (bg_ii_m _), List.forall_mem_cons.mpr ⟨bo_pI_m _ _ _, List.forall_mem_cons.mpr ⟨bo_vret_m _, fun _ h => absurd h List.not_mem_nil⟩⟩⟩⟩⟩⟩⟩⟩⟩⟩⟩⟩⟩⟩⟩⟩⟩⟩⟩⟩⟩⟩⟩⟩⟩⟩⟩⟩⟩⟩⟩⟩⟩⟩⟩⟩⟩
theorem m_F_addImport : ∀ pc, bh_mono (bh_tb (T_F_addImport) pc) := bh_tb_m mT_F_addImport_0
def F_F_addImport : bh_Fn := bh_fn 5 (bh_tb T_F_addImport)
theorem mF_F_addImport : bh_monoF F_F_addImport := bh_fn_m m_F_addImport
theorem cl_F_addImport {s : State} {args : Array Value} (d B : Nat) (hts : ∀ w ∈ bh_ws, w.before args s = true) : bh_Cal (bh_rm (d + 1) B) s y_F_addImport 5 (.code y_F_addImport c_F_addImport 5 none :: bh_ws) (bh_rm d 0) 0 4 := bh_cal d B hts wd_585 wd_3 (by decide) (by decide +kernel)
set_option maxHeartbeats 4000000 in
set_option maxRecDepth 100000 in
theorem cn_F_addImport {l : Launch} {G : bh_G} {base sb L : Nat} {xs : Nat → Int32} (htr : l.stackTraces = false) (d : Nat) : bh_Con l G base (bh_Bg G base sb L xs) y_F_addImport (.code y_F_addImport c_F_addImport 5 none :: bh_ws) (bh_rm (d + 1) 0) 0 false F_F_addImport := by
  refine bh_method (cc := c_F_addImport) (ret := none) (by decide +kernel) rfl ?_
  intro p e s m args below meth c ad0 M0 Z X0 hr hlocks hname htab hbs hB
  obtain ⟨hx, hb, hml, hown, hts⟩ := id X0
  have hw : ∀ w ∈ bh_ws, w.before args s = true := fun w h => hts w (List.mem_cons_of_mem _ h)
  have hBg := bh_BgK (G := G) (base := base) (sb := sb) (L := L) (xs := xs)
  obtain ⟨hK, hAr, hen, hinj, hu1, hu2, hstr, hX, hsb, hsc, hxw, hao, hnc⟩ := id hB
  obtain ⟨ha1, ha2, ha3, ha4, ha5, ha6, ha0⟩ := bh_arr hAr
  exact List.forall_mem_cons.mpr ⟨fun S h => bs_aload_n (Z := Z) hx hb rfl d_F_addImport_0 h, List.forall_mem_cons.mpr ⟨fun S h => bs_gR (Z := Z) (C := R_F) (T := F_F) (N := 9) (t := 7) (j := 2) hx hb hK hts (fun w h => List.mem_cons_of_mem _ (iw_F w h)) hown rfl rfl (by decide) (hts _ (List.mem_cons_of_mem _ wd_50)) (fun _ h => h) rfl rfl rfl d_F_addImport_1 h, List.forall_mem_cons.mpr ⟨fun S h => bs_iload_n (Z := Z) hx hb rfl d_F_addImport_4 h, List.forall_mem_cons.mpr ⟨fun S h => bs_aload_n (Z := Z) hx hb rfl d_F_addImport_5 h, List.forall_mem_cons.mpr ⟨fun S h => bs_gI (Z := Z) (C := R_F) (T := F_F) (N := 9) (t := 7) (j := 8) hx hb hK hts (fun w h => List.mem_cons_of_mem _ (iw_F w h)) hown rfl rfl (by decide) (hts _ (List.mem_cons_of_mem _ wd_60)) (fun _ h => h) rfl rfl rfl d_F_addImport_6 h, List.forall_mem_cons.mpr ⟨fun S h => bs_Iast (Z := Z) hx hb ha1 d_F_addImport_9 h, List.forall_mem_cons.mpr ⟨fun S h => bs_aload_n (Z := Z) hx hb rfl d_F_addImport_10 h, List.forall_mem_cons.mpr ⟨fun S h => bs_gR (Z := Z) (C := R_F) (T := F_F) (N := 9) (t := 7) (j := 3) hx hb hK hts (fun w h => List.mem_cons_of_mem _ (iw_F w h)) hown rfl rfl (by decide) (hts _ (List.mem_cons_of_mem _ wd_52)) (fun _ h => h) rfl rfl rfl d_F_addImport_11 h, List.forall_mem_cons.mpr ⟨fun S h => bs_aload_n (Z := Z) hx hb rfl d_F_addImport_14 h, List.forall_mem_cons.mpr ⟨fun S h => bs_gI (Z := Z) (C := R_F) (T := F_F) (N := 9) (t := 7) (j := 8) hx hb hK hts (fun w h => List.mem_cons_of_mem _ (iw_F w h)) hown rfl rfl (by decide) (hts _ (List.mem_cons_of_mem _ wd_60)) (fun _ h => h) rfl rfl rfl d_F_addImport_15 h, List.forall_mem_cons.mpr ⟨fun S h => bs_iload_n (Z := Z) hx hb rfl d_F_addImport_18 h, List.forall_mem_cons.mpr ⟨fun S h => bs_Iast (Z := Z) hx hb ha1 d_F_addImport_19 h, List.forall_mem_cons.mpr ⟨fun S h => bs_aload_n (Z := Z) hx hb rfl d_F_addImport_20 h, List.forall_mem_cons.mpr ⟨fun S h => bs_gR (Z := Z) (C := R_F) (T := F_F) (N := 9) (t := 7) (j := 4) hx hb hK hts (fun w h => List.mem_cons_of_mem _ (iw_F w h)) hown rfl rfl (by decide) (hts _ (List.mem_cons_of_mem _ wd_54)) (fun _ h => h) rfl rfl rfl d_F_addImport_21 h, List.forall_mem_cons.mpr ⟨fun S h => bs_aload_n (Z := Z) hx hb rfl d_F_addImport_24 h, List.forall_mem_cons.mpr ⟨fun S h => bs_gI (Z := Z) (C := R_F) (T := F_F) (N := 9) (t := 7) (j := 8) hx hb hK hts (fun w h => List.mem_cons_of_mem _ (iw_F w h)) hown rfl rfl (by decide) (hts _ (List.mem_cons_of_mem _ wd_60)) (fun _ h => h) rfl rfl rfl d_F_addImport_25 h, List.forall_mem_cons.mpr ⟨fun S h => bs_iload_n (Z := Z) hx hb rfl d_F_addImport_28 h, List.forall_mem_cons.mpr ⟨fun S h => bs_Iast (Z := Z) hx hb ha1 d_F_addImport_29 h, List.forall_mem_cons.mpr ⟨fun S h => bs_aload_n (Z := Z) hx hb rfl d_F_addImport_30 h, List.forall_mem_cons.mpr ⟨fun S h => bs_gR (Z := Z) (C := R_F) (T := F_F) (N := 9) (t := 7) (j := 5) hx hb hK hts (fun w h => List.mem_cons_of_mem _ (iw_F w h)) hown rfl rfl (by decide) (hts _ (List.mem_cons_of_mem _ wd_55)) (fun _ h => h) rfl rfl rfl d_F_addImport_31 h, List.forall_mem_cons.mpr ⟨fun S h => bs_aload_n (Z := Z) hx hb rfl d_F_addImport_34 h, List.forall_mem_cons.mpr ⟨fun S h => bs_gI (Z := Z) (C := R_F) (T := F_F) (N := 9) (t := 7) (j := 8) hx hb hK hts (fun w h => List.mem_cons_of_mem _ (iw_F w h)) hown rfl rfl (by decide) (hts _ (List.mem_cons_of_mem _ wd_60)) (fun _ h => h) rfl rfl rfl d_F_addImport_35 h, List.forall_mem_cons.mpr ⟨fun S h => bs_iload_n (Z := Z) hx hb rfl d_F_addImport_38 h, List.forall_mem_cons.mpr ⟨fun S h => bs_Iast (Z := Z) hx hb ha1 d_F_addImport_39 h, List.forall_mem_cons.mpr ⟨fun S h => bs_aload_n (Z := Z) hx hb rfl d_F_addImport_40 h, List.forall_mem_cons.mpr ⟨fun S h => bs_gR (Z := Z) (C := R_F) (T := F_F) (N := 9) (t := 7) (j := 6) hx hb hK hts (fun w h => List.mem_cons_of_mem _ (iw_F w h)) hown rfl rfl (by decide) (hts _ (List.mem_cons_of_mem _ wd_56)) (fun _ h => h) rfl rfl rfl d_F_addImport_41 h, List.forall_mem_cons.mpr ⟨fun S h => bs_aload_n (Z := Z) hx hb rfl d_F_addImport_44 h, List.forall_mem_cons.mpr ⟨fun S h => bs_gI (Z := Z) (C := R_F) (T := F_F) (N := 9) (t := 7) (j := 8) hx hb hK hts (fun w h => List.mem_cons_of_mem _ (iw_F w h)) hown rfl rfl (by decide) (hts _ (List.mem_cons_of_mem _ wd_60)) (fun _ h => h) rfl rfl rfl d_F_addImport_45 h, List.forall_mem_cons.mpr ⟨fun S h => bs_iload (Z := Z) hx hb d_F_addImport_48 h, List.forall_mem_cons.mpr ⟨fun S h => bs_Zast (Z := Z) hx hb ha2 d_F_addImport_50 h, List.forall_mem_cons.mpr ⟨fun S h => bs_aload_n (Z := Z) hx hb rfl d_F_addImport_51 h, List.forall_mem_cons.mpr ⟨fun S h => bs_dup (Z := Z) hx hb d_F_addImport_52 h, List.forall_mem_cons.mpr ⟨fun S h => bs_gI (Z := Z) (C := R_F) (T := F_F) (N := 9) (t := 7) (j := 8) hx hb hK hts (fun w h => List.mem_cons_of_mem _ (iw_F w h)) hown rfl rfl (by decide) (hts _ (List.mem_cons_of_mem _ wd_60)) (fun _ h => h) rfl rfl rfl d_F_addImport_53 h, List.forall_mem_cons.mpr ⟨fun S h => bs_iconst (Z := Z) hx hb (by decide) d_F_addImport_56 h, List.forall_mem_cons.mpr ⟨fun S h => bs_iadd (Z := Z) hx hb d_F_addImport_57 h, List.forall_mem_cons.mpr ⟨fun S h => bs_pI (Z := Z) (C := R_F) (T := F_F) (N := 9) (t := 7) (j := 8) hx hb hK hts (fun w h => List.mem_cons_of_mem _ (iw_F w h)) hown rfl rfl (by decide) (hts _ (List.mem_cons_of_mem _ wd_60)) (fun _ h => h) rfl rfl t_F t_F_ok n_F rfl (by decide +kernel) rfl d_F_addImport_58 h, List.forall_mem_cons.mpr ⟨fun S h => bs_vret (Z := Z) hx hb hr hlocks d_F_addImport_61 h, fun _ h => absurd h List.not_mem_nil⟩⟩⟩⟩⟩⟩⟩⟩⟩⟩⟩⟩⟩⟩⟩⟩⟩⟩⟩⟩⟩⟩⟩⟩⟩⟩⟩⟩⟩⟩⟩⟩⟩⟩⟩⟩⟩
abbrev c_H_need : ByteArray := prog_1_method_4_code
def y_H_need : MethodName := ⟨"BundleHall", "need", "(IIIIZ)I"⟩
theorem d_H_need_0 : decode c_H_need 0 = .ok (.iload_n 1, 1) := by decide +kernel
theorem d_H_need_1 : decode c_H_need 1 = .ok (.invokestatic 43, 3) := by decide +kernel
theorem d_H_need_4 : decode c_H_need 4 = .ok (.iload_n 2, 1) := by decide +kernel
theorem d_H_need_5 : decode c_H_need 5 = .ok (.iconst 0, 1) := by decide +kernel
theorem d_H_need_6 : decode c_H_need 6 = .ok (.bipush 7, 2) := by decide +kernel
theorem d_H_need_8 : decode c_H_need 8 = .ok (.invokestatic 46, 3) := by decide +kernel
theorem d_H_need_11 : decode c_H_need 11 = .ok (.iload_n 3, 1) := by decide +kernel
theorem d_H_need_12 : decode c_H_need 12 = .ok (.iconst 0, 1) := by decide +kernel
theorem d_H_need_13 : decode c_H_need 13 = .ok (.bipush 9, 2) := by decide +kernel
theorem d_H_need_15 : decode c_H_need 15 = .ok (.invokestatic 46, 3) := by decide +kernel
theorem d_H_need_18 : decode c_H_need 18 = .ok (.iload 4, 2) := by decide +kernel
theorem d_H_need_20 : decode c_H_need 20 = .ok (.iconst 0, 1) := by decide +kernel
theorem d_H_need_21 : decode c_H_need 21 = .ok (.bipush 9, 2) := by decide +kernel
theorem d_H_need_23 : decode c_H_need 23 = .ok (.invokestatic 46, 3) := by decide +kernel
theorem d_H_need_26 : decode c_H_need 26 = .ok (.aload_n 0, 1) := by decide +kernel
theorem d_H_need_27 : decode c_H_need 27 = .ok (.iload_n 1, 1) := by decide +kernel
theorem d_H_need_28 : decode c_H_need 28 = .ok (.invokevirtual 67, 3) := by decide +kernel
theorem d_H_need_31 : decode c_H_need 31 = .ok (.astore 6, 2) := by decide +kernel
theorem d_H_need_33 : decode c_H_need 33 = .ok (.aload 6, 2) := by decide +kernel
theorem d_H_need_35 : decode c_H_need 35 = .ok (.iload_n 2, 1) := by decide +kernel
theorem d_H_need_36 : decode c_H_need 36 = .ok (.invokevirtual 88, 3) := by decide +kernel
theorem d_H_need_39 : decode c_H_need 39 = .ok (.ifCond .ne 13, 3) := by decide +kernel
theorem d_H_need_42 : decode c_H_need 42 = .ok (.new 77, 3) := by decide +kernel
theorem d_H_need_45 : decode c_H_need 45 = .ok (.dup, 1) := by decide +kernel
theorem d_H_need_46 : decode c_H_need 46 = .ok (.ldc 91, 2) := by decide +kernel
theorem d_H_need_48 : decode c_H_need 48 = .ok (.invokespecial 81, 3) := by decide +kernel
theorem d_H_need_51 : decode c_H_need 51 = .ok (.athrow, 1) := by decide +kernel
theorem d_H_need_52 : decode c_H_need 52 = .ok (.aload 6, 2) := by decide +kernel
theorem d_H_need_54 : decode c_H_need 54 = .ok (.iload_n 2, 1) := by decide +kernel
theorem d_H_need_55 : decode c_H_need 55 = .ok (.iload_n 3, 1) := by decide +kernel
theorem d_H_need_56 : decode c_H_need 56 = .ok (.iload 4, 2) := by decide +kernel
theorem d_H_need_58 : decode c_H_need 58 = .ok (.iload 5, 2) := by decide +kernel
theorem d_H_need_60 : decode c_H_need 60 = .ok (.invokevirtual 93, 3) := by decide +kernel
theorem d_H_need_63 : decode c_H_need 63 = .ok (.aload 6, 2) := by decide +kernel
theorem d_H_need_65 : decode c_H_need 65 = .ok (.getfield 97, 3) := by decide +kernel
theorem d_H_need_68 : decode c_H_need 68 = .ok (.ireturn, 1) := by decide +kernel
def T_H_need_0 : List (Nat × bh_Op) := [(0, bo_ild 1 1),
  (1, bo_callS 4 1 1 7 F_H_checkBundle),
  (4, bo_ild 5 2),
  (5, bo_st 6 (bg_push (.inl (.int 0)))),
  (6, bo_st 8 (bg_push (.inl (.int 7)))),
  (8, bo_callS 11 3 1 7 F_H_checkRange),
  (11, bo_ild 12 3),
  (12, bo_st 13 (bg_push (.inl (.int 0)))),
  (13, bo_st 15 (bg_push (.inl (.int 9)))),
  (15, bo_callS 18 3 1 7 F_H_checkRange),
  (18, bo_ild 20 4),
  (20, bo_st 21 (bg_push (.inl (.int 0)))),
  (21, bo_st 23 (bg_push (.inl (.int 9)))),
  (23, bo_callS 26 3 1 7 F_H_checkRange),
  (26, bo_ald 27 0),
  (27, bo_ild 28 1),
  (28, bo_callV 31 2 2 7 3 F_H_openManifest),
  (31, bo_ast 33 6),
  (33, bo_ald 35 6),
  (35, bo_ild 36 2),
  (36, bo_callV 39 2 0 7 7 F_F_canImport),
  (39, bo_if1 42 52 (fun x => ¬ x = 0)),
  (42, bo_thr 7 "java/lang/UnsupportedOperationException"),
  (52, bo_ald 54 6),
  (54, bo_ild 55 2),
  (55, bo_ild 56 3),
  (56, bo_ild 58 4),
  (58, bo_ild 60 5),
  (60, bo_callV 63 5 0 7 7 F_F_addImport),
  (63, bo_ald 65 6),
  (65, bo_gI 68 7 8),
  (68, bo_iret 7)]
def T_H_need : List (Nat × bh_Op) := T_H_need_0
set_option maxRecDepth 20000 in
theorem mT_H_need_0 : ∀ q ∈ T_H_need_0, bh_mono q.2 := List.forall_mem_cons.mpr ⟨bo_ild_m _ _, List.forall_mem_cons.mpr ⟨bo_callS_m (mF_H_checkBundle) _ _ _ _, List.forall_mem_cons.mpr ⟨bo_ild_m _ _, List.forall_mem_cons.mpr ⟨bo_st_mono (bg_push_m _), List.forall_mem_cons.mpr ⟨bo_st_mono (bg_push_m _), List.forall_mem_cons.mpr ⟨bo_callS_m (mF_H_checkRange) _ _ _ _, List.forall_mem_cons.mpr ⟨bo_ild_m _ _, List.forall_mem_cons.mpr ⟨bo_st_mono (bg_push_m _), List.forall_mem_cons.mpr ⟨bo_st_mono (bg_push_m _), List.forall_mem_cons.mpr ⟨bo_callS_m (mF_H_checkRange) _ _ _ _, List.forall_mem_cons.mpr ⟨bo_ild_m _ _, List.forall_mem_cons.mpr ⟨bo_st_mono (bg_push_m _), List.forall_mem_cons.mpr ⟨bo_st_mono (bg_push_m _), List.forall_mem_cons.mpr ⟨bo_callS_m (mF_H_checkRange) _ _ _ _, List.forall_mem_cons.mpr ⟨bo_ald_m _ _, List.forall_mem_cons.mpr ⟨bo_ild_m _ _, List.forall_mem_cons.mpr ⟨bo_callV_m (mF_H_openManifest) _ _ _ _ _, List.forall_mem_cons.mpr ⟨bo_ast_m _ _, List.forall_mem_cons.mpr ⟨bo_ald_m _ _, List.forall_mem_cons.mpr ⟨bo_ild_m _ _, List.forall_mem_cons.mpr ⟨bo_callV_m (mF_F_canImport) _ _ _ _ _, List.forall_mem_cons.mpr ⟨bo_if1_m _ _ _, List.forall_mem_cons.mpr ⟨bo_thr_m _ _, List.forall_mem_cons.mpr ⟨bo_ald_m _ _, List.forall_mem_cons.mpr ⟨bo_ild_m _ _, List.forall_mem_cons.mpr ⟨bo_ild_m _ _, List.forall_mem_cons.mpr ⟨bo_ild_m _ _, List.forall_mem_cons.mpr ⟨bo_ild_m _ _, List.forall_mem_cons.mpr ⟨bo_callV_m (mF_F_addImport) _ _ _ _ _, List.forall_mem_cons.mpr ⟨bo_ald_m _ _, List.forall_mem_cons.mpr ⟨bo_gI_m _ _ _, List.forall_mem_cons.mpr ⟨bo_iret_m _, fun _ h => absurd h List.not_mem_nil⟩⟩⟩⟩⟩⟩⟩⟩⟩⟩⟩⟩⟩⟩⟩⟩⟩⟩⟩⟩⟩⟩⟩⟩⟩⟩⟩⟩⟩⟩⟩⟩
theorem m_H_need : ∀ pc, bh_mono (bh_tb (T_H_need) pc) := bh_tb_m mT_H_need_0
def F_H_need : bh_Fn := bh_fn 7 (bh_tb T_H_need)
theorem mF_H_need : bh_monoF F_H_need := bh_fn_m m_H_need
theorem cl_H_need {s : State} {args : Array Value} (d B : Nat) (hts : ∀ w ∈ bh_ws, w.before args s = true) : bh_Cal (bh_rm (d + 1) B) s y_H_need 7 (.code y_H_need c_H_need 7 (some .int) :: bh_ws) (bh_rm d 7) 7 5 := bh_cal d B hts wd_576 wd_1 (by decide) (by decide +kernel)
set_option maxHeartbeats 4000000 in
set_option maxRecDepth 100000 in
theorem cn_H_need {l : Launch} {G : bh_G} {base sb L : Nat} {xs : Nat → Int32} (htr : l.stackTraces = false) (d : Nat) : bh_Con l G base (bh_Bg G base sb L xs) y_H_need (.code y_H_need c_H_need 7 (some .int) :: bh_ws) (bh_rm (d + 3) 7) 7 false F_H_need := by
  refine bh_method (cc := c_H_need) (ret := (some .int)) (by decide +kernel) rfl ?_
  intro p e s m args below meth c ad0 M0 Z X0 hr hlocks hname htab hbs hB
  obtain ⟨hx, hb, hml, hown, hts⟩ := id X0
  have hw : ∀ w ∈ bh_ws, w.before args s = true := fun w h => hts w (List.mem_cons_of_mem _ h)
  have hBg := bh_BgK (G := G) (base := base) (sb := sb) (L := L) (xs := xs)
  obtain ⟨hK, hAr, hen, hinj, hu1, hu2, hstr, hX, hsb, hsc, hxw, hao, hnc⟩ := id hB
  obtain ⟨ha1, ha2, ha3, ha4, ha5, ha6, ha0⟩ := bh_arr hAr
  exact List.forall_mem_cons.mpr ⟨fun S h => bs_iload_n (Z := Z) hx hb rfl d_H_need_0 h, List.forall_mem_cons.mpr ⟨fun S h => bs_callS (Z := Z) hBg hbs hB X0 (cn_H_checkBundle htr (d + 0)) (cl_H_checkBundle _ _ hw) (hts _ (List.mem_cons_of_mem _ wd_403)) (hts _ (List.mem_cons_of_mem _ wd_404)) (Nat.le_refl _) (Nat.le_refl _) d_H_need_1 (bs_out htab hlocks) h, List.forall_mem_cons.mpr ⟨fun S h => bs_iload_n (Z := Z) hx hb rfl d_H_need_4 h, List.forall_mem_cons.mpr ⟨fun S h => bs_iconst (Z := Z) hx hb (by decide) d_H_need_5 h, List.forall_mem_cons.mpr ⟨fun S h => bs_bipush (Z := Z) hx hb (by decide) d_H_need_6 h, List.forall_mem_cons.mpr ⟨fun S h => bs_callS (Z := Z) hBg hbs hB X0 (cn_H_checkRange htr (d + 1)) (cl_H_checkRange _ _ hw) (hts _ (List.mem_cons_of_mem _ wd_406)) (hts _ (List.mem_cons_of_mem _ wd_407)) (Nat.le_refl _) (Nat.le_refl _) d_H_need_8 (bs_out htab hlocks) h, List.forall_mem_cons.mpr ⟨fun S h => bs_iload_n (Z := Z) hx hb rfl d_H_need_11 h, List.forall_mem_cons.mpr ⟨fun S h => bs_iconst (Z := Z) hx hb (by decide) d_H_need_12 h, List.forall_mem_cons.mpr ⟨fun S h => bs_bipush (Z := Z) hx hb (by decide) d_H_need_13 h, List.forall_mem_cons.mpr ⟨fun S h => bs_callS (Z := Z) hBg hbs hB X0 (cn_H_checkRange htr (d + 1)) (cl_H_checkRange _ _ hw) (hts _ (List.mem_cons_of_mem _ wd_406)) (hts _ (List.mem_cons_of_mem _ wd_407)) (Nat.le_refl _) (Nat.le_refl _) d_H_need_15 (bs_out htab hlocks) h, List.forall_mem_cons.mpr ⟨fun S h => bs_iload (Z := Z) hx hb d_H_need_18 h, List.forall_mem_cons.mpr ⟨fun S h => bs_iconst (Z := Z) hx hb (by decide) d_H_need_20 h, List.forall_mem_cons.mpr ⟨fun S h => bs_bipush (Z := Z) hx hb (by decide) d_H_need_21 h, List.forall_mem_cons.mpr ⟨fun S h => bs_callS (Z := Z) hBg hbs hB X0 (cn_H_checkRange htr (d + 1)) (cl_H_checkRange _ _ hw) (hts _ (List.mem_cons_of_mem _ wd_406)) (hts _ (List.mem_cons_of_mem _ wd_407)) (Nat.le_refl _) (Nat.le_refl _) d_H_need_23 (bs_out htab hlocks) h, List.forall_mem_cons.mpr ⟨fun S h => bs_aload_n (Z := Z) hx hb rfl d_H_need_26 h, List.forall_mem_cons.mpr ⟨fun S h => bs_iload_n (Z := Z) hx hb rfl d_H_need_27 h, List.forall_mem_cons.mpr ⟨fun S h => bs_callV (Z := Z) (C := R_H) hBg hbs hB X0 hK (cn_H_openManifest htr (d + 0)) (cl_H_openManifest _ _ hw) (hts _ (List.mem_cons_of_mem _ wd_521)) (hts _ (List.mem_cons_of_mem _ wd_523)) (hts _ (List.mem_cons_of_mem _ ws_20)) rfl rfl rfl rfl rfl (Nat.le_refl _) (Nat.le_refl _) d_H_need_28 (bs_out htab hlocks) h, List.forall_mem_cons.mpr ⟨fun S h => bs_astore (Z := Z) hx hb d_H_need_31 h, List.forall_mem_cons.mpr ⟨fun S h => bs_aload (Z := Z) hx hb d_H_need_33 h, List.forall_mem_cons.mpr ⟨fun S h => bs_iload_n (Z := Z) hx hb rfl d_H_need_35 h, List.forall_mem_cons.mpr ⟨fun S h => bs_callV (Z := Z) (C := R_F) hBg hbs hB X0 hK (cn_F_canImport htr (d + 1)) (cl_F_canImport _ _ hw) (hts _ (List.mem_cons_of_mem _ wd_577)) (hts _ (List.mem_cons_of_mem _ wd_578)) (hts _ (List.mem_cons_of_mem _ wd_579)) rfl rfl rfl rfl rfl (Nat.le_refl _) (Nat.le_refl _) d_H_need_36 (bs_out htab hlocks) h, List.forall_mem_cons.mpr ⟨fun S h => bs_if_ne (Z := Z) hx hb d_H_need_39 (by decide) h, List.forall_mem_cons.mpr ⟨fun S h => (let ⟨_, hst⟩ := hstr 91 "no room for this import" st_91; bs_thr (Z := Z) hx hb hml htr htab hlocks bh_x0_UnsupportedOperationException bh_x1_UnsupportedOperationException bh_x2_UnsupportedOperationException bh_x5_UnsupportedOperationException hown (by decide +kernel) ⟨rfl, (hts _ (List.mem_cons_of_mem _ wd_550))⟩ ⟨rfl, (hts _ (List.mem_cons_of_mem _ wd_16))⟩ hst hbs (bh_at_UnsupportedOperationException hw hB) d_H_need_42 d_H_need_45 (Or.inl ⟨rfl, d_H_need_46⟩) d_H_need_48 d_H_need_51 (by show 2 + 3 < _ + 12; omega) (by show 13 * (2 + 1) + 43 ≤ 80 * _ + 200; omega) (Nat.le_refl _) (Nat.le_refl _) h), List.forall_mem_cons.mpr ⟨fun S h => bs_aload (Z := Z) hx hb d_H_need_52 h, List.forall_mem_cons.mpr ⟨fun S h => bs_iload_n (Z := Z) hx hb rfl d_H_need_54 h, List.forall_mem_cons.mpr ⟨fun S h => bs_iload_n (Z := Z) hx hb rfl d_H_need_55 h, List.forall_mem_cons.mpr ⟨fun S h => bs_iload (Z := Z) hx hb d_H_need_56 h, List.forall_mem_cons.mpr ⟨fun S h => bs_iload (Z := Z) hx hb d_H_need_58 h, List.forall_mem_cons.mpr ⟨fun S h => bs_callV (Z := Z) (C := R_F) hBg hbs hB X0 hK (cn_F_addImport htr (d + 1)) (cl_F_addImport _ _ hw) (hts _ (List.mem_cons_of_mem _ wd_582)) (hts _ (List.mem_cons_of_mem _ wd_583)) (hts _ (List.mem_cons_of_mem _ wd_584)) rfl rfl rfl rfl rfl (Nat.le_refl _) (Nat.le_refl _) d_H_need_60 (bs_out htab hlocks) h, List.forall_mem_cons.mpr ⟨fun S h => bs_aload (Z := Z) hx hb d_H_need_63 h, List.forall_mem_cons.mpr ⟨fun S h => bs_gI (Z := Z) (C := R_F) (T := F_F) (N := 9) (t := 7) (j := 8) hx hb hK hts (fun w h => List.mem_cons_of_mem _ (iw_F w h)) hown rfl rfl (by decide) (hts _ (List.mem_cons_of_mem _ wd_62)) (fun _ h => h) rfl rfl rfl d_H_need_65 h, List.forall_mem_cons.mpr ⟨fun S h => bs_iret (Z := Z) hx hb hr hlocks d_H_need_68 h, fun _ h => absurd h List.not_mem_nil⟩⟩⟩⟩⟩⟩⟩⟩⟩⟩⟩⟩⟩⟩⟩⟩⟩⟩⟩⟩⟩⟩⟩⟩⟩⟩⟩⟩⟩⟩⟩⟩
abbrev c_H_throwUnlessDone : ByteArray := prog_1_method_27_code
def y_H_throwUnlessDone : MethodName := ⟨"BundleHall", "throwUnlessDone", "(LBundleHall$Outcome;)V"⟩
theorem d_H_throwUnlessDone_0 : decode c_H_throwUnlessDone 0 = .ok (.aload_n 0, 1) := by decide +kernel
theorem d_H_throwUnlessDone_1 : decode c_H_throwUnlessDone 1 = .ok (.getstatic 286, 3) := by decide +kernel
theorem d_H_throwUnlessDone_4 : decode c_H_throwUnlessDone 4 = .ok (.if_acmp .ne 14, 3) := by decide +kernel
theorem d_H_throwUnlessDone_7 : decode c_H_throwUnlessDone 7 = .ok (.new 53, 3) := by decide +kernel
theorem d_H_throwUnlessDone_10 : decode c_H_throwUnlessDone 10 = .ok (.dup, 1) := by decide +kernel
theorem d_H_throwUnlessDone_11 : decode c_H_throwUnlessDone 11 = .ok (.ldc_w 289, 3) := by decide +kernel
theorem d_H_throwUnlessDone_14 : decode c_H_throwUnlessDone 14 = .ok (.invokespecial 57, 3) := by decide +kernel
theorem d_H_throwUnlessDone_17 : decode c_H_throwUnlessDone 17 = .ok (.athrow, 1) := by decide +kernel
theorem d_H_throwUnlessDone_18 : decode c_H_throwUnlessDone 18 = .ok (.aload_n 0, 1) := by decide +kernel
theorem d_H_throwUnlessDone_19 : decode c_H_throwUnlessDone 19 = .ok (.getstatic 291, 3) := by decide +kernel
theorem d_H_throwUnlessDone_22 : decode c_H_throwUnlessDone 22 = .ok (.if_acmp .ne 14, 3) := by decide +kernel
theorem d_H_throwUnlessDone_25 : decode c_H_throwUnlessDone 25 = .ok (.new 230, 3) := by decide +kernel
theorem d_H_throwUnlessDone_28 : decode c_H_throwUnlessDone 28 = .ok (.dup, 1) := by decide +kernel
theorem d_H_throwUnlessDone_29 : decode c_H_throwUnlessDone 29 = .ok (.ldc_w 294, 3) := by decide +kernel
theorem d_H_throwUnlessDone_32 : decode c_H_throwUnlessDone 32 = .ok (.invokespecial 232, 3) := by decide +kernel
theorem d_H_throwUnlessDone_35 : decode c_H_throwUnlessDone 35 = .ok (.athrow, 1) := by decide +kernel
theorem d_H_throwUnlessDone_36 : decode c_H_throwUnlessDone 36 = .ok (.aload_n 0, 1) := by decide +kernel
theorem d_H_throwUnlessDone_37 : decode c_H_throwUnlessDone 37 = .ok (.getstatic 296, 3) := by decide +kernel
theorem d_H_throwUnlessDone_40 : decode c_H_throwUnlessDone 40 = .ok (.if_acmp .ne 14, 3) := by decide +kernel
theorem d_H_throwUnlessDone_43 : decode c_H_throwUnlessDone 43 = .ok (.new 77, 3) := by decide +kernel
theorem d_H_throwUnlessDone_46 : decode c_H_throwUnlessDone 46 = .ok (.dup, 1) := by decide +kernel
theorem d_H_throwUnlessDone_47 : decode c_H_throwUnlessDone 47 = .ok (.ldc_w 299, 3) := by decide +kernel
theorem d_H_throwUnlessDone_50 : decode c_H_throwUnlessDone 50 = .ok (.invokespecial 81, 3) := by decide +kernel
theorem d_H_throwUnlessDone_53 : decode c_H_throwUnlessDone 53 = .ok (.athrow, 1) := by decide +kernel
theorem d_H_throwUnlessDone_54 : decode c_H_throwUnlessDone 54 = .ok (.return_, 1) := by decide +kernel
def T_H_throwUnlessDone_0 : List (Nat × bh_Op) := [(0, bo_ald 1 0),
  (1, bo_st 4 (bg_push (.inr (2, 2)))),
  (4, bo_acmp 7 18 false),
  (7, bo_thr 3 "java/lang/IllegalStateException"),
  (18, bo_ald 19 0),
  (19, bo_st 22 (bg_push (.inr (2, 3)))),
  (22, bo_acmp 25 36 false),
  (25, bo_thr 3 "java/lang/ArithmeticException"),
  (36, bo_ald 37 0),
  (37, bo_st 40 (bg_push (.inr (2, 4)))),
  (40, bo_acmp 43 54 false),
  (43, bo_thr 3 "java/lang/UnsupportedOperationException"),
  (54, bo_vret 3)]
def T_H_throwUnlessDone : List (Nat × bh_Op) := T_H_throwUnlessDone_0
set_option maxRecDepth 20000 in
theorem mT_H_throwUnlessDone_0 : ∀ q ∈ T_H_throwUnlessDone_0, bh_mono q.2 := List.forall_mem_cons.mpr ⟨bo_ald_m _ _, List.forall_mem_cons.mpr ⟨bo_st_mono (bg_push_m _), List.forall_mem_cons.mpr ⟨bo_acmp_m _ _ _, List.forall_mem_cons.mpr ⟨bo_thr_m _ _, List.forall_mem_cons.mpr ⟨bo_ald_m _ _, List.forall_mem_cons.mpr ⟨bo_st_mono (bg_push_m _), List.forall_mem_cons.mpr ⟨bo_acmp_m _ _ _, List.forall_mem_cons.mpr ⟨bo_thr_m _ _, List.forall_mem_cons.mpr ⟨bo_ald_m _ _, List.forall_mem_cons.mpr ⟨bo_st_mono (bg_push_m _), List.forall_mem_cons.mpr ⟨bo_acmp_m _ _ _, List.forall_mem_cons.mpr ⟨bo_thr_m _ _, List.forall_mem_cons.mpr ⟨bo_vret_m _, fun _ h => absurd h List.not_mem_nil⟩⟩⟩⟩⟩⟩⟩⟩⟩⟩⟩⟩⟩
theorem m_H_throwUnlessDone : ∀ pc, bh_mono (bh_tb (T_H_throwUnlessDone) pc) := bh_tb_m mT_H_throwUnlessDone_0
def F_H_throwUnlessDone : bh_Fn := bh_fn 1 (bh_tb T_H_throwUnlessDone)
theorem mF_H_throwUnlessDone : bh_monoF F_H_throwUnlessDone := bh_fn_m m_H_throwUnlessDone
theorem cl_H_throwUnlessDone {s : State} {args : Array Value} (d B : Nat) (hts : ∀ w ∈ bh_ws, w.before args s = true) : bh_Cal (bh_rm (d + 1) B) s y_H_throwUnlessDone 1 (.code y_H_throwUnlessDone c_H_throwUnlessDone 1 none :: bh_ws) (bh_rm d 3) 3 1 := bh_cal d B hts wd_596 wd_1 (by decide) (by decide +kernel)
set_option maxHeartbeats 4000000 in
set_option maxRecDepth 100000 in
theorem cn_H_throwUnlessDone {l : Launch} {G : bh_G} {base sb L : Nat} {xs : Nat → Int32} (htr : l.stackTraces = false) (d : Nat) : bh_Con l G base (bh_Bg G base sb L xs) y_H_throwUnlessDone (.code y_H_throwUnlessDone c_H_throwUnlessDone 1 none :: bh_ws) (bh_rm (d + 1) 3) 3 false F_H_throwUnlessDone := by
  refine bh_method (cc := c_H_throwUnlessDone) (ret := none) (by decide +kernel) rfl ?_
  intro p e s m args below meth c ad0 M0 Z X0 hr hlocks hname htab hbs hB
  obtain ⟨hx, hb, hml, hown, hts⟩ := id X0
  have hw : ∀ w ∈ bh_ws, w.before args s = true := fun w h => hts w (List.mem_cons_of_mem _ h)
  have hBg := bh_BgK (G := G) (base := base) (sb := sb) (L := L) (xs := xs)
  obtain ⟨hK, hAr, hen, hinj, hu1, hu2, hstr, hX, hsb, hsc, hxw, hao, hnc⟩ := id hB
  obtain ⟨ha1, ha2, ha3, ha4, ha5, ha6, ha0⟩ := bh_arr hAr
  exact List.forall_mem_cons.mpr ⟨fun S h => bs_aload_n (Z := Z) hx hb rfl d_H_throwUnlessDone_0 h, List.forall_mem_cons.mpr ⟨fun S h => bs_getst (Z := Z) hx hb (by decide) (hen 2 (by decide) (by decide)) hown (hts _ (List.mem_cons_of_mem _ wd_597)) (fun _ h => h) d_H_throwUnlessDone_1 h, List.forall_mem_cons.mpr ⟨fun S h => bs_acmp_ne (Z := Z) hx hb hinj d_H_throwUnlessDone_4 (by decide) h, List.forall_mem_cons.mpr ⟨fun S h => (let ⟨_, hst⟩ := hstr 289 "the bundle can\'t be resolved" st_289; bs_thr (Z := Z) hx hb hml htr htab hlocks bh_x0_IllegalStateException bh_x1_IllegalStateException bh_x2_IllegalStateException bh_x5_IllegalStateException hown (by decide +kernel) ⟨rfl, (hts _ (List.mem_cons_of_mem _ wd_479))⟩ ⟨rfl, (hts _ (List.mem_cons_of_mem _ wd_14))⟩ hst hbs (bh_at_IllegalStateException hw hB) d_H_throwUnlessDone_7 d_H_throwUnlessDone_10 (Or.inr ⟨rfl, d_H_throwUnlessDone_11⟩) d_H_throwUnlessDone_14 d_H_throwUnlessDone_17 (by show 2 + 3 < _ + 12; omega) (by show 13 * (2 + 1) + 43 ≤ 80 * _ + 200; omega) (Nat.le_refl _) (Nat.le_refl _) h), List.forall_mem_cons.mpr ⟨fun S h => bs_aload_n (Z := Z) hx hb rfl d_H_throwUnlessDone_18 h, List.forall_mem_cons.mpr ⟨fun S h => bs_getst (Z := Z) hx hb (by decide) (hen 3 (by decide) (by decide)) hown (hts _ (List.mem_cons_of_mem _ wd_599)) (fun _ h => h) d_H_throwUnlessDone_19 h, List.forall_mem_cons.mpr ⟨fun S h => bs_acmp_ne (Z := Z) hx hb hinj d_H_throwUnlessDone_22 (by decide) h, List.forall_mem_cons.mpr ⟨fun S h => (let ⟨_, hst⟩ := hstr 294 "resolving is too hard" st_294; bs_thr (Z := Z) hx hb hml htr htab hlocks bh_x0_ArithmeticException bh_x1_ArithmeticException bh_x2_ArithmeticException bh_x5_ArithmeticException hown (by decide +kernel) ⟨rfl, (hts _ (List.mem_cons_of_mem _ wd_600))⟩ ⟨rfl, (hts _ (List.mem_cons_of_mem _ wd_20))⟩ hst hbs (bh_at_ArithmeticException hw hB) d_H_throwUnlessDone_25 d_H_throwUnlessDone_28 (Or.inr ⟨rfl, d_H_throwUnlessDone_29⟩) d_H_throwUnlessDone_32 d_H_throwUnlessDone_35 (by show 2 + 3 < _ + 12; omega) (by show 13 * (2 + 1) + 43 ≤ 80 * _ + 200; omega) (Nat.le_refl _) (Nat.le_refl _) h), List.forall_mem_cons.mpr ⟨fun S h => bs_aload_n (Z := Z) hx hb rfl d_H_throwUnlessDone_36 h, List.forall_mem_cons.mpr ⟨fun S h => bs_getst (Z := Z) hx hb (by decide) (hen 4 (by decide) (by decide)) hown (hts _ (List.mem_cons_of_mem _ wd_386)) (fun _ h => h) d_H_throwUnlessDone_37 h, List.forall_mem_cons.mpr ⟨fun S h => bs_acmp_ne (Z := Z) hx hb hinj d_H_throwUnlessDone_40 (by decide) h, List.forall_mem_cons.mpr ⟨fun S h => (let ⟨_, hst⟩ := hstr 299 "the activator failed" st_299; bs_thr (Z := Z) hx hb hml htr htab hlocks bh_x0_UnsupportedOperationException bh_x1_UnsupportedOperationException bh_x2_UnsupportedOperationException bh_x5_UnsupportedOperationException hown (by decide +kernel) ⟨rfl, (hts _ (List.mem_cons_of_mem _ wd_550))⟩ ⟨rfl, (hts _ (List.mem_cons_of_mem _ wd_16))⟩ hst hbs (bh_at_UnsupportedOperationException hw hB) d_H_throwUnlessDone_43 d_H_throwUnlessDone_46 (Or.inr ⟨rfl, d_H_throwUnlessDone_47⟩) d_H_throwUnlessDone_50 d_H_throwUnlessDone_53 (by show 2 + 3 < _ + 12; omega) (by show 13 * (2 + 1) + 43 ≤ 80 * _ + 200; omega) (Nat.le_refl _) (Nat.le_refl _) h), List.forall_mem_cons.mpr ⟨fun S h => bs_vret (Z := Z) hx hb hr hlocks d_H_throwUnlessDone_54 h, fun _ h => absurd h List.not_mem_nil⟩⟩⟩⟩⟩⟩⟩⟩⟩⟩⟩⟩⟩
