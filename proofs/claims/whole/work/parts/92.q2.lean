abbrev c_L_install : ByteArray := method_3_code
def y_L_install : MethodName := ⟨"BundleHallLaw", "install", "(LBundleHall;IIII[J)I"⟩
theorem d_L_install_0 : decode c_L_install 0 = .ok (.aload 5, 2) := by decide +kernel
theorem d_L_install_2 : decode c_L_install 2 = .ok (.iconst 0, 1) := by decide +kernel
theorem d_L_install_3 : decode c_L_install 3 = .ok (.aload_n 0, 1) := by decide +kernel
theorem d_L_install_4 : decode c_L_install 4 = .ok (.iload_n 1, 1) := by decide +kernel
theorem d_L_install_5 : decode c_L_install 5 = .ok (.iload_n 2, 1) := by decide +kernel
theorem d_L_install_6 : decode c_L_install 6 = .ok (.iload_n 3, 1) := by decide +kernel
theorem d_L_install_7 : decode c_L_install 7 = .ok (.iload 4, 2) := by decide +kernel
theorem d_L_install_9 : decode c_L_install 9 = .ok (.invokevirtual 7, 3) := by decide +kernel
theorem d_L_install_12 : decode c_L_install 12 = .ok (.i2l, 1) := by decide +kernel
theorem d_L_install_13 : decode c_L_install 13 = .ok (.lastore, 1) := by decide +kernel
theorem d_L_install_14 : decode c_L_install 14 = .ok (.goto 11, 3) := by decide +kernel
theorem d_L_install_17 : decode c_L_install 17 = .ok (.astore 6, 2) := by decide +kernel
theorem d_L_install_19 : decode c_L_install 19 = .ok (.iconst 1, 1) := by decide +kernel
theorem d_L_install_20 : decode c_L_install 20 = .ok (.ireturn, 1) := by decide +kernel
theorem d_L_install_21 : decode c_L_install 21 = .ok (.astore 6, 2) := by decide +kernel
theorem d_L_install_23 : decode c_L_install 23 = .ok (.iconst 2, 1) := by decide +kernel
theorem d_L_install_24 : decode c_L_install 24 = .ok (.ireturn, 1) := by decide +kernel
theorem d_L_install_25 : decode c_L_install 25 = .ok (.iconst 0, 1) := by decide +kernel
theorem d_L_install_26 : decode c_L_install 26 = .ok (.ireturn, 1) := by decide +kernel
def T_L_install_0 : List (Nat × bh_Op) := [(0, bo_ald 2 5),
  (2, bo_st 3 (bg_push (.inl (.int 0)))),
  (3, bo_ald 4 0),
  (4, bo_ild 5 1),
  (5, bo_ild 6 2),
  (6, bo_ild 7 3),
  (7, bo_ild 9 4),
  (9, bo_callC 12 5 5 5 3 F_H_install [("java/lang/IllegalArgumentException", 1), ("java/lang/IllegalStateException", 2)]),
  (12, bo_st 13 (bg_i1 (fun x => .inl (.long x.toInt64)))),
  (13, bo_Jast bh_ak bh_al 14),
  (14, bo_go 25),
  (17, bo_ast 19 6),
  (19, bo_st 20 (bg_push (.inl (.int 1)))),
  (20, bo_iret 5),
  (21, bo_ast 23 6),
  (23, bo_st 24 (bg_push (.inl (.int 2)))),
  (24, bo_iret 5),
  (25, bo_st 26 (bg_push (.inl (.int 0)))),
  (26, bo_iret 5)]
def T_L_install : List (Nat × bh_Op) := T_L_install_0
set_option maxRecDepth 20000 in
theorem mT_L_install_0 : ∀ q ∈ T_L_install_0, bh_mono q.2 := List.forall_mem_cons.mpr ⟨bo_ald_m _ _, List.forall_mem_cons.mpr ⟨bo_st_mono (bg_push_m _), List.forall_mem_cons.mpr ⟨bo_ald_m _ _, List.forall_mem_cons.mpr ⟨bo_ild_m _ _, List.forall_mem_cons.mpr ⟨bo_ild_m _ _, List.forall_mem_cons.mpr ⟨bo_ild_m _ _, List.forall_mem_cons.mpr ⟨bo_ild_m _ _, List.forall_mem_cons.mpr ⟨bo_callC_m (mF_H_install) _ _ _ _ _ _, List.forall_mem_cons.mpr ⟨bo_st_mono (bg_i1_m _), List.forall_mem_cons.mpr ⟨bo_Jast_m _ _ _, List.forall_mem_cons.mpr ⟨bo_go_m _, List.forall_mem_cons.mpr ⟨bo_ast_m _ _, List.forall_mem_cons.mpr ⟨bo_st_mono (bg_push_m _), List.forall_mem_cons.mpr ⟨bo_iret_m _, List.forall_mem_cons.mpr ⟨bo_ast_m _ _, List.forall_mem_cons.mpr ⟨bo_st_mono (bg_push_m _), List.forall_mem_cons.mpr ⟨bo_iret_m _, List.forall_mem_cons.mpr ⟨bo_st_mono (bg_push_m _), List.forall_mem_cons.mpr ⟨bo_iret_m _, fun _ h => absurd h List.not_mem_nil⟩⟩⟩⟩⟩⟩⟩⟩⟩⟩⟩⟩⟩⟩⟩⟩⟩⟩⟩
theorem m_L_install : ∀ pc, bh_mono (bh_tb (T_L_install) pc) := bh_tb_m mT_L_install_0
def F_L_install : bh_Fn := bh_fn 7 (bh_tb T_L_install)
theorem mF_L_install : bh_monoF F_L_install := bh_fn_m m_L_install
theorem cl_L_install {s : State} {args : Array Value} (d B : Nat) (hts : ∀ w ∈ bh_ws, w.before args s = true) : bh_Cal (bh_rm (d + 1) B) s y_L_install 7 (.codeWith y_L_install c_L_install 7 (some .int) [(0, 14, 17, 13), (0, 14, 21, 15)] :: bh_ws) (bh_rm d 5) 5 6 := bh_calW d B hts wd_396 wd_0 (by decide) (by decide +kernel)
set_option maxHeartbeats 4000000 in
set_option maxRecDepth 100000 in
theorem cn_L_install {l : Launch} {G : bh_G} {base sb L : Nat} {xs : Nat → Int32} (htr : l.stackTraces = false) (d : Nat) : bh_Con l G base (bh_Bg G base sb L xs) y_L_install (.codeWith y_L_install c_L_install 7 (some .int) [(0, 14, 17, 13), (0, 14, 21, 15)] :: bh_ws) (bh_rm (d + 6) 5) 5 false F_L_install := by
  refine bh_methodW (cc := c_L_install) (ret := (some .int)) (hh := [(0, 14, 17, 13), (0, 14, 21, 15)]) (by decide +kernel) rfl ?_
  intro p e s m args below meth c ad0 M0 Z X0 hr hlocks hname htab hbs hB
  obtain ⟨hx, hb, hml, hown, hts⟩ := id X0
  have hw : ∀ w ∈ bh_ws, w.before args s = true := fun w h => hts w (List.mem_cons_of_mem _ h)
  have hBg := bh_BgK (G := G) (base := base) (sb := sb) (L := L) (xs := xs)
  obtain ⟨hK, hAr, hen, hinj, hu1, hu2, hstr, hX, hsb, hsc, hxw, hao, hnc⟩ := id hB
  obtain ⟨ha1, ha2, ha3, ha4, ha5, ha6, ha0⟩ := bh_arr hAr
  exact List.forall_mem_cons.mpr ⟨fun S h => bs_aload (Z := Z) hx hb d_L_install_0 h, List.forall_mem_cons.mpr ⟨fun S h => bs_iconst (Z := Z) hx hb (by decide) d_L_install_2 h, List.forall_mem_cons.mpr ⟨fun S h => bs_aload_n (Z := Z) hx hb rfl d_L_install_3 h, List.forall_mem_cons.mpr ⟨fun S h => bs_iload_n (Z := Z) hx hb rfl d_L_install_4 h, List.forall_mem_cons.mpr ⟨fun S h => bs_iload_n (Z := Z) hx hb rfl d_L_install_5 h, List.forall_mem_cons.mpr ⟨fun S h => bs_iload_n (Z := Z) hx hb rfl d_L_install_6 h, List.forall_mem_cons.mpr ⟨fun S h => bs_iload (Z := Z) hx hb d_L_install_7 h, List.forall_mem_cons.mpr ⟨fun S h => bs_callC (Z := Z) (C := R_H) hBg hbs hB X0 hK (cn_H_install htr (d + 0)) (cl_H_install _ _ hw) (hts _ (List.mem_cons_of_mem _ wd_399)) (hts _ (List.mem_cons_of_mem _ wd_400)) (hts _ (List.mem_cons_of_mem _ wd_401)) rfl rfl rfl rfl rfl (Nat.le_refl _) (Nat.le_refl _) hr hlocks (hl := [(17, 13, "java/lang/IllegalArgumentException", 1), (21, 15, "java/lang/IllegalStateException", 2)]) (pe := 14) htab (by decide) (by decide +kernel) (List.forall_mem_cons.mpr ⟨⟨by decide, (hts _ (List.mem_cons_of_mem _ wd_397)), va_Nw.use rfl (hxw _ xw_9)⟩, List.forall_mem_cons.mpr ⟨⟨by decide, (hts _ (List.mem_cons_of_mem _ wd_398)), va_Nw.use rfl (hxw _ xw_10)⟩, fun _ h => absurd h List.not_mem_nil⟩⟩) (bh_nco hnc (by decide +kernel)) (List.forall_mem_cons.mpr ⟨Or.inl ⟨6, 1, by decide, d_L_install_17, d_L_install_19, by decide, d_L_install_20⟩, List.forall_mem_cons.mpr ⟨Or.inl ⟨6, 2, by decide, d_L_install_21, d_L_install_23, by decide, d_L_install_24⟩, fun _ h => absurd h List.not_mem_nil⟩⟩) d_L_install_9 h, List.forall_mem_cons.mpr ⟨fun S h => bs_i2l (Z := Z) hx hb d_L_install_12 h, List.forall_mem_cons.mpr ⟨fun S h => bs_Jast (Z := Z) hx hb ha3 d_L_install_13 h, List.forall_mem_cons.mpr ⟨fun S h => bs_goto (Z := Z) hx hb d_L_install_14 (by decide) h, List.forall_mem_cons.mpr ⟨fun S h => bs_astore (Z := Z) hx hb d_L_install_17 h, List.forall_mem_cons.mpr ⟨fun S h => bs_iconst (Z := Z) hx hb (by decide) d_L_install_19 h, List.forall_mem_cons.mpr ⟨fun S h => bs_iret (Z := Z) hx hb hr hlocks d_L_install_20 h, List.forall_mem_cons.mpr ⟨fun S h => bs_astore (Z := Z) hx hb d_L_install_21 h, List.forall_mem_cons.mpr ⟨fun S h => bs_iconst (Z := Z) hx hb (by decide) d_L_install_23 h, List.forall_mem_cons.mpr ⟨fun S h => bs_iret (Z := Z) hx hb hr hlocks d_L_install_24 h, List.forall_mem_cons.mpr ⟨fun S h => bs_iconst (Z := Z) hx hb (by decide) d_L_install_25 h, List.forall_mem_cons.mpr ⟨fun S h => bs_iret (Z := Z) hx hb hr hlocks d_L_install_26 h, fun _ h => absurd h List.not_mem_nil⟩⟩⟩⟩⟩⟩⟩⟩⟩⟩⟩⟩⟩⟩⟩⟩⟩⟩⟩
abbrev c_L_export : ByteArray := method_4_code
def y_L_export : MethodName := ⟨"BundleHallLaw", "export", "(LBundleHall;III[J)I"⟩
theorem d_L_export_0 : decode c_L_export 0 = .ok (.aload 4, 2) := by decide +kernel
theorem d_L_export_2 : decode c_L_export 2 = .ok (.iconst 0, 1) := by decide +kernel
theorem d_L_export_3 : decode c_L_export 3 = .ok (.aload_n 0, 1) := by decide +kernel
theorem d_L_export_4 : decode c_L_export 4 = .ok (.iload_n 1, 1) := by decide +kernel
theorem d_L_export_5 : decode c_L_export 5 = .ok (.iload_n 2, 1) := by decide +kernel
theorem d_L_export_6 : decode c_L_export 6 = .ok (.iload_n 3, 1) := by decide +kernel
theorem d_L_export_7 : decode c_L_export 7 = .ok (.invokevirtual 17, 3) := by decide +kernel
theorem d_L_export_10 : decode c_L_export 10 = .ok (.i2l, 1) := by decide +kernel
theorem d_L_export_11 : decode c_L_export 11 = .ok (.lastore, 1) := by decide +kernel
theorem d_L_export_12 : decode c_L_export 12 = .ok (.goto 19, 3) := by decide +kernel
theorem d_L_export_15 : decode c_L_export 15 = .ok (.astore 5, 2) := by decide +kernel
theorem d_L_export_17 : decode c_L_export 17 = .ok (.iconst 1, 1) := by decide +kernel
theorem d_L_export_18 : decode c_L_export 18 = .ok (.ireturn, 1) := by decide +kernel
theorem d_L_export_19 : decode c_L_export 19 = .ok (.astore 5, 2) := by decide +kernel
theorem d_L_export_21 : decode c_L_export 21 = .ok (.iconst 2, 1) := by decide +kernel
theorem d_L_export_22 : decode c_L_export 22 = .ok (.ireturn, 1) := by decide +kernel
theorem d_L_export_23 : decode c_L_export 23 = .ok (.astore 5, 2) := by decide +kernel
theorem d_L_export_25 : decode c_L_export 25 = .ok (.iconst 3, 1) := by decide +kernel
theorem d_L_export_26 : decode c_L_export 26 = .ok (.ireturn, 1) := by decide +kernel
theorem d_L_export_27 : decode c_L_export 27 = .ok (.astore 5, 2) := by decide +kernel
theorem d_L_export_29 : decode c_L_export 29 = .ok (.iconst 4, 1) := by decide +kernel
theorem d_L_export_30 : decode c_L_export 30 = .ok (.ireturn, 1) := by decide +kernel
theorem d_L_export_31 : decode c_L_export 31 = .ok (.iconst 0, 1) := by decide +kernel
theorem d_L_export_32 : decode c_L_export 32 = .ok (.ireturn, 1) := by decide +kernel
def T_L_export_0 : List (Nat × bh_Op) := [(0, bo_ald 2 4),
  (2, bo_st 3 (bg_push (.inl (.int 0)))),
  (3, bo_ald 4 0),
  (4, bo_ild 5 1),
  (5, bo_ild 6 2),
  (6, bo_ild 7 3),
  (7, bo_callC 10 4 6 6 3 F_H_export [("java/lang/IllegalArgumentException", 1), ("java/util/NoSuchElementException", 2), ("java/lang/IllegalStateException", 3), ("java/lang/UnsupportedOperationException", 4)]),
  (10, bo_st 11 (bg_i1 (fun x => .inl (.long x.toInt64)))),
  (11, bo_Jast bh_ak bh_al 12),
  (12, bo_go 31),
  (15, bo_ast 17 5),
  (17, bo_st 18 (bg_push (.inl (.int 1)))),
  (18, bo_iret 6),
  (19, bo_ast 21 5),
  (21, bo_st 22 (bg_push (.inl (.int 2)))),
  (22, bo_iret 6),
  (23, bo_ast 25 5),
  (25, bo_st 26 (bg_push (.inl (.int 3)))),
  (26, bo_iret 6),
  (27, bo_ast 29 5),
  (29, bo_st 30 (bg_push (.inl (.int 4)))),
  (30, bo_iret 6),
  (31, bo_st 32 (bg_push (.inl (.int 0)))),
  (32, bo_iret 6)]
def T_L_export : List (Nat × bh_Op) := T_L_export_0
set_option maxRecDepth 20000 in
theorem mT_L_export_0 : ∀ q ∈ T_L_export_0, bh_mono q.2 := List.forall_mem_cons.mpr ⟨bo_ald_m _ _, List.forall_mem_cons.mpr ⟨bo_st_mono (bg_push_m _), List.forall_mem_cons.mpr ⟨bo_ald_m _ _, List.forall_mem_cons.mpr ⟨bo_ild_m _ _, List.forall_mem_cons.mpr ⟨bo_ild_m _ _, List.forall_mem_cons.mpr ⟨bo_ild_m _ _, List.forall_mem_cons.mpr ⟨bo_callC_m (mF_H_export) _ _ _ _ _ _, List.forall_mem_cons.mpr ⟨bo_st_mono (bg_i1_m _), List.forall_mem_cons.mpr ⟨bo_Jast_m _ _ _, List.forall_mem_cons.mpr ⟨bo_go_m _, List.forall_mem_cons.mpr ⟨bo_ast_m _ _, List.forall_mem_cons.mpr ⟨bo_st_mono (bg_push_m _), List.forall_mem_cons.mpr ⟨bo_iret_m _, List.forall_mem_cons.mpr ⟨bo_ast_m _ _, List.forall_mem_cons.mpr ⟨bo_st_mono (bg_push_m _), List.forall_mem_cons.mpr ⟨bo_iret_m _, List.forall_mem_cons.mpr ⟨bo_ast_m _ _, List.forall_mem_cons.mpr ⟨bo_st_mono (bg_push_m _), List.forall_mem_cons.mpr ⟨bo_iret_m _, List.forall_mem_cons.mpr ⟨bo_ast_m _ _, List.forall_mem_cons.mpr ⟨bo_st_mono (bg_push_m _), List.forall_mem_cons.mpr ⟨bo_iret_m _, List.forall_mem_cons.mpr ⟨bo_st_mono (bg_push_m _), List.forall_mem_cons.mpr ⟨bo_iret_m _, fun _ h => absurd h List.not_mem_nil⟩⟩⟩⟩⟩⟩⟩⟩⟩⟩⟩⟩⟩⟩⟩⟩⟩⟩⟩⟩⟩⟩⟩⟩
theorem m_L_export : ∀ pc, bh_mono (bh_tb (T_L_export) pc) := bh_tb_m mT_L_export_0
def F_L_export : bh_Fn := bh_fn 6 (bh_tb T_L_export)
theorem mF_L_export : bh_monoF F_L_export := bh_fn_m m_L_export
theorem cl_L_export {s : State} {args : Array Value} (d B : Nat) (hts : ∀ w ∈ bh_ws, w.before args s = true) : bh_Cal (bh_rm (d + 1) B) s y_L_export 6 (.codeWith y_L_export c_L_export 6 (some .int) [(0, 12, 15, 13), (0, 12, 19, 21), (0, 12, 23, 15), (0, 12, 27, 23)] :: bh_ws) (bh_rm d 6) 6 5 := bh_calW d B hts wd_514 wd_0 (by decide) (by decide +kernel)
set_option maxHeartbeats 4000000 in
set_option maxRecDepth 100000 in
theorem cn_L_export {l : Launch} {G : bh_G} {base sb L : Nat} {xs : Nat → Int32} (htr : l.stackTraces = false) (d : Nat) : bh_Con l G base (bh_Bg G base sb L xs) y_L_export (.codeWith y_L_export c_L_export 6 (some .int) [(0, 12, 15, 13), (0, 12, 19, 21), (0, 12, 23, 15), (0, 12, 27, 23)] :: bh_ws) (bh_rm (d + 4) 6) 6 false F_L_export := by
  refine bh_methodW (cc := c_L_export) (ret := (some .int)) (hh := [(0, 12, 15, 13), (0, 12, 19, 21), (0, 12, 23, 15), (0, 12, 27, 23)]) (by decide +kernel) rfl ?_
  intro p e s m args below meth c ad0 M0 Z X0 hr hlocks hname htab hbs hB
  obtain ⟨hx, hb, hml, hown, hts⟩ := id X0
  have hw : ∀ w ∈ bh_ws, w.before args s = true := fun w h => hts w (List.mem_cons_of_mem _ h)
  have hBg := bh_BgK (G := G) (base := base) (sb := sb) (L := L) (xs := xs)
  obtain ⟨hK, hAr, hen, hinj, hu1, hu2, hstr, hX, hsb, hsc, hxw, hao, hnc⟩ := id hB
  obtain ⟨ha1, ha2, ha3, ha4, ha5, ha6, ha0⟩ := bh_arr hAr
  exact List.forall_mem_cons.mpr ⟨fun S h => bs_aload (Z := Z) hx hb d_L_export_0 h, List.forall_mem_cons.mpr ⟨fun S h => bs_iconst (Z := Z) hx hb (by decide) d_L_export_2 h, List.forall_mem_cons.mpr ⟨fun S h => bs_aload_n (Z := Z) hx hb rfl d_L_export_3 h, List.forall_mem_cons.mpr ⟨fun S h => bs_iload_n (Z := Z) hx hb rfl d_L_export_4 h, List.forall_mem_cons.mpr ⟨fun S h => bs_iload_n (Z := Z) hx hb rfl d_L_export_5 h, List.forall_mem_cons.mpr ⟨fun S h => bs_iload_n (Z := Z) hx hb rfl d_L_export_6 h, List.forall_mem_cons.mpr ⟨fun S h => bs_callC (Z := Z) (C := R_H) hBg hbs hB X0 hK (cn_H_export htr (d + 0)) (cl_H_export _ _ hw) (hts _ (List.mem_cons_of_mem _ wd_517)) (hts _ (List.mem_cons_of_mem _ wd_518)) (hts _ (List.mem_cons_of_mem _ wd_519)) rfl rfl rfl rfl rfl (Nat.le_refl _) (Nat.le_refl _) hr hlocks (hl := [(15, 13, "java/lang/IllegalArgumentException", 1), (19, 21, "java/util/NoSuchElementException", 2), (23, 15, "java/lang/IllegalStateException", 3), (27, 23, "java/lang/UnsupportedOperationException", 4)]) (pe := 12) htab (by decide) (by decide +kernel) (List.forall_mem_cons.mpr ⟨⟨by decide, (hts _ (List.mem_cons_of_mem _ wd_397)), va_Nw.use rfl (hxw _ xw_9)⟩, List.forall_mem_cons.mpr ⟨⟨by decide, (hts _ (List.mem_cons_of_mem _ wd_515)), va_Nw.use rfl (hxw _ xw_11)⟩, List.forall_mem_cons.mpr ⟨⟨by decide, (hts _ (List.mem_cons_of_mem _ wd_398)), va_Nw.use rfl (hxw _ xw_10)⟩, List.forall_mem_cons.mpr ⟨⟨by decide, (hts _ (List.mem_cons_of_mem _ wd_516)), va_Nw.use rfl (hxw _ xw_12)⟩, fun _ h => absurd h List.not_mem_nil⟩⟩⟩⟩) (bh_nco hnc (by decide +kernel)) (List.forall_mem_cons.mpr ⟨Or.inl ⟨5, 1, by decide, d_L_export_15, d_L_export_17, by decide, d_L_export_18⟩, List.forall_mem_cons.mpr ⟨Or.inl ⟨5, 2, by decide, d_L_export_19, d_L_export_21, by decide, d_L_export_22⟩, List.forall_mem_cons.mpr ⟨Or.inl ⟨5, 3, by decide, d_L_export_23, d_L_export_25, by decide, d_L_export_26⟩, List.forall_mem_cons.mpr ⟨Or.inl ⟨5, 4, by decide, d_L_export_27, d_L_export_29, by decide, d_L_export_30⟩, fun _ h => absurd h List.not_mem_nil⟩⟩⟩⟩) d_L_export_7 h, List.forall_mem_cons.mpr ⟨fun S h => bs_i2l (Z := Z) hx hb d_L_export_10 h, List.forall_mem_cons.mpr ⟨fun S h => bs_Jast (Z := Z) hx hb ha3 d_L_export_11 h, List.forall_mem_cons.mpr ⟨fun S h => bs_goto (Z := Z) hx hb d_L_export_12 (by decide) h, List.forall_mem_cons.mpr ⟨fun S h => bs_astore (Z := Z) hx hb d_L_export_15 h, List.forall_mem_cons.mpr ⟨fun S h => bs_iconst (Z := Z) hx hb (by decide) d_L_export_17 h, List.forall_mem_cons.mpr ⟨fun S h => bs_iret (Z := Z) hx hb hr hlocks d_L_export_18 h, List.forall_mem_cons.mpr ⟨fun S h => bs_astore (Z := Z) hx hb d_L_export_19 h, List.forall_mem_cons.mpr ⟨fun S h => bs_iconst (Z := Z) hx hb (by decide) d_L_export_21 h, List.forall_mem_cons.mpr ⟨fun S h => bs_iret (Z := Z) hx hb hr hlocks d_L_export_22 h, List.forall_mem_cons.mpr ⟨fun S h => bs_astore (Z := Z) hx hb d_L_export_23 h, List.forall_mem_cons.mpr ⟨fun S h => bs_iconst (Z := Z) hx hb (by decide) d_L_export_25 h, List.forall_mem_cons.mpr ⟨fun S h => bs_iret (Z := Z) hx hb hr hlocks d_L_export_26 h, List.forall_mem_cons.mpr ⟨fun S h => bs_astore (Z := Z) hx hb d_L_export_27 h, List.forall_mem_cons.mpr ⟨fun S h => bs_iconst (Z := Z) hx hb (by decide) d_L_export_29 h, List.forall_mem_cons.mpr ⟨fun S h => bs_iret (Z := Z) hx hb hr hlocks d_L_export_30 h, List.forall_mem_cons.mpr ⟨fun S h => bs_iconst (Z := Z) hx hb (by decide) d_L_export_31 h, List.forall_mem_cons.mpr ⟨fun S h => bs_iret (Z := Z) hx hb hr hlocks d_L_export_32 h, fun _ h => absurd h List.not_mem_nil⟩⟩⟩⟩⟩⟩⟩⟩⟩⟩⟩⟩⟩⟩⟩⟩⟩⟩⟩⟩⟩⟩⟩⟩
abbrev c_L_need : ByteArray := method_5_code
def y_L_need : MethodName := ⟨"BundleHallLaw", "need", "(LBundleHall;IIIIZ[J)I"⟩
theorem d_L_need_0 : decode c_L_need 0 = .ok (.aload 6, 2) := by decide +kernel
theorem d_L_need_2 : decode c_L_need 2 = .ok (.iconst 0, 1) := by decide +kernel
theorem d_L_need_3 : decode c_L_need 3 = .ok (.aload_n 0, 1) := by decide +kernel
theorem d_L_need_4 : decode c_L_need 4 = .ok (.iload_n 1, 1) := by decide +kernel
theorem d_L_need_5 : decode c_L_need 5 = .ok (.iload_n 2, 1) := by decide +kernel
theorem d_L_need_6 : decode c_L_need 6 = .ok (.iload_n 3, 1) := by decide +kernel
theorem d_L_need_7 : decode c_L_need 7 = .ok (.iload 4, 2) := by decide +kernel
theorem d_L_need_9 : decode c_L_need 9 = .ok (.iload 5, 2) := by decide +kernel
theorem d_L_need_11 : decode c_L_need 11 = .ok (.invokevirtual 25, 3) := by decide +kernel
theorem d_L_need_14 : decode c_L_need 14 = .ok (.i2l, 1) := by decide +kernel
theorem d_L_need_15 : decode c_L_need 15 = .ok (.lastore, 1) := by decide +kernel
theorem d_L_need_16 : decode c_L_need 16 = .ok (.goto 19, 3) := by decide +kernel
theorem d_L_need_19 : decode c_L_need 19 = .ok (.astore 7, 2) := by decide +kernel
theorem d_L_need_21 : decode c_L_need 21 = .ok (.iconst 1, 1) := by decide +kernel
theorem d_L_need_22 : decode c_L_need 22 = .ok (.ireturn, 1) := by decide +kernel
theorem d_L_need_23 : decode c_L_need 23 = .ok (.astore 7, 2) := by decide +kernel
theorem d_L_need_25 : decode c_L_need 25 = .ok (.iconst 2, 1) := by decide +kernel
theorem d_L_need_26 : decode c_L_need 26 = .ok (.ireturn, 1) := by decide +kernel
theorem d_L_need_27 : decode c_L_need 27 = .ok (.astore 7, 2) := by decide +kernel
theorem d_L_need_29 : decode c_L_need 29 = .ok (.iconst 3, 1) := by decide +kernel
theorem d_L_need_30 : decode c_L_need 30 = .ok (.ireturn, 1) := by decide +kernel
theorem d_L_need_31 : decode c_L_need 31 = .ok (.astore 7, 2) := by decide +kernel
theorem d_L_need_33 : decode c_L_need 33 = .ok (.iconst 4, 1) := by decide +kernel
theorem d_L_need_34 : decode c_L_need 34 = .ok (.ireturn, 1) := by decide +kernel
theorem d_L_need_35 : decode c_L_need 35 = .ok (.iconst 0, 1) := by decide +kernel
theorem d_L_need_36 : decode c_L_need 36 = .ok (.ireturn, 1) := by decide +kernel
def T_L_need_0 : List (Nat × bh_Op) := [(0, bo_ald 2 6),
  (2, bo_st 3 (bg_push (.inl (.int 0)))),
  (3, bo_ald 4 0),
  (4, bo_ild 5 1),
  (5, bo_ild 6 2),
  (6, bo_ild 7 3),
  (7, bo_ild 9 4),
  (9, bo_ild 11 5),
  (11, bo_callC 14 6 7 7 3 F_H_need [("java/lang/IllegalArgumentException", 1), ("java/util/NoSuchElementException", 2), ("java/lang/IllegalStateException", 3), ("java/lang/UnsupportedOperationException", 4)]),
  (14, bo_st 15 (bg_i1 (fun x => .inl (.long x.toInt64)))),
  (15, bo_Jast bh_ak bh_al 16),
  (16, bo_go 35),
  (19, bo_ast 21 7),
  (21, bo_st 22 (bg_push (.inl (.int 1)))),
  (22, bo_iret 7),
  (23, bo_ast 25 7),
  (25, bo_st 26 (bg_push (.inl (.int 2)))),
  (26, bo_iret 7),
  (27, bo_ast 29 7),
  (29, bo_st 30 (bg_push (.inl (.int 3)))),
  (30, bo_iret 7),
  (31, bo_ast 33 7),
  (33, bo_st 34 (bg_push (.inl (.int 4)))),
  (34, bo_iret 7),
  (35, bo_st 36 (bg_push (.inl (.int 0)))),
  (36, bo_iret 7)]
def T_L_need : List (Nat × bh_Op) := T_L_need_0
set_option maxRecDepth 20000 in
theorem mT_L_need_0 : ∀ q ∈ T_L_need_0, bh_mono q.2 := List.forall_mem_cons.mpr ⟨bo_ald_m _ _, List.forall_mem_cons.mpr ⟨bo_st_mono (bg_push_m _), List.forall_mem_cons.mpr ⟨bo_ald_m _ _, List.forall_mem_cons.mpr ⟨bo_ild_m _ _, List.forall_mem_cons.mpr ⟨bo_ild_m _ _, List.forall_mem_cons.mpr ⟨bo_ild_m _ _, List.forall_mem_cons.mpr ⟨bo_ild_m _ _, List.forall_mem_cons.mpr ⟨bo_ild_m _ _, List.forall_mem_cons.mpr ⟨bo_callC_m (mF_H_need) _ _ _ _ _ _, List.forall_mem_cons.mpr ⟨bo_st_mono (bg_i1_m _), List.forall_mem_cons.mpr ⟨bo_Jast_m _ _ _, List.forall_mem_cons.mpr ⟨bo_go_m _, List.forall_mem_cons.mpr ⟨bo_ast_m _ _, List.forall_mem_cons.mpr ⟨bo_st_mono (bg_push_m _), List.forall_mem_cons.mpr ⟨bo_iret_m _, List.forall_mem_cons.mpr ⟨bo_ast_m _ _, List.forall_mem_cons.mpr ⟨bo_st_mono (bg_push_m _), List.forall_mem_cons.mpr ⟨bo_iret_m _, List.forall_mem_cons.mpr ⟨bo_ast_m _ _, List.forall_mem_cons.mpr ⟨bo_st_mono (bg_push_m _), List.forall_mem_cons.mpr ⟨bo_iret_m _, List.forall_mem_cons.mpr ⟨bo_ast_m _ _, List.forall_mem_cons.mpr ⟨bo_st_mono (bg_push_m _), List.forall_mem_cons.mpr ⟨bo_iret_m _, List.forall_mem_cons.mpr ⟨bo_st_mono (bg_push_m _), List.forall_mem_cons.mpr ⟨bo_iret_m _, fun _ h => absurd h List.not_mem_nil⟩⟩⟩⟩⟩⟩⟩⟩⟩⟩⟩⟩⟩⟩⟩⟩⟩⟩⟩⟩⟩⟩⟩⟩⟩⟩
theorem m_L_need : ∀ pc, bh_mono (bh_tb (T_L_need) pc) := bh_tb_m mT_L_need_0
def F_L_need : bh_Fn := bh_fn 8 (bh_tb T_L_need)
theorem mF_L_need : bh_monoF F_L_need := bh_fn_m m_L_need
theorem cl_L_need {s : State} {args : Array Value} (d B : Nat) (hts : ∀ w ∈ bh_ws, w.before args s = true) : bh_Cal (bh_rm (d + 1) B) s y_L_need 8 (.codeWith y_L_need c_L_need 8 (some .int) [(0, 16, 19, 13), (0, 16, 23, 21), (0, 16, 27, 15), (0, 16, 31, 23)] :: bh_ws) (bh_rm d 7) 7 7 := bh_calW d B hts wd_572 wd_0 (by decide) (by decide +kernel)
set_option maxHeartbeats 4000000 in
set_option maxRecDepth 100000 in
theorem cn_L_need {l : Launch} {G : bh_G} {base sb L : Nat} {xs : Nat → Int32} (htr : l.stackTraces = false) (d : Nat) : bh_Con l G base (bh_Bg G base sb L xs) y_L_need (.codeWith y_L_need c_L_need 8 (some .int) [(0, 16, 19, 13), (0, 16, 23, 21), (0, 16, 27, 15), (0, 16, 31, 23)] :: bh_ws) (bh_rm (d + 4) 7) 7 false F_L_need := by
  refine bh_methodW (cc := c_L_need) (ret := (some .int)) (hh := [(0, 16, 19, 13), (0, 16, 23, 21), (0, 16, 27, 15), (0, 16, 31, 23)]) (by decide +kernel) rfl ?_
  intro p e s m args below meth c ad0 M0 Z X0 hr hlocks hname htab hbs hB
  obtain ⟨hx, hb, hml, hown, hts⟩ := id X0
  have hw : ∀ w ∈ bh_ws, w.before args s = true := fun w h => hts w (List.mem_cons_of_mem _ h)
  have hBg := bh_BgK (G := G) (base := base) (sb := sb) (L := L) (xs := xs)
  obtain ⟨hK, hAr, hen, hinj, hu1, hu2, hstr, hX, hsb, hsc, hxw, hao, hnc⟩ := id hB
  obtain ⟨ha1, ha2, ha3, ha4, ha5, ha6, ha0⟩ := bh_arr hAr
  exact List.forall_mem_cons.mpr ⟨fun S h => bs_aload (Z := Z) hx hb d_L_need_0 h, List.forall_mem_cons.mpr ⟨fun S h => bs_iconst (Z := Z) hx hb (by decide) d_L_need_2 h, List.forall_mem_cons.mpr ⟨fun S h => bs_aload_n (Z := Z) hx hb rfl d_L_need_3 h, List.forall_mem_cons.mpr ⟨fun S h => bs_iload_n (Z := Z) hx hb rfl d_L_need_4 h, List.forall_mem_cons.mpr ⟨fun S h => bs_iload_n (Z := Z) hx hb rfl d_L_need_5 h, List.forall_mem_cons.mpr ⟨fun S h => bs_iload_n (Z := Z) hx hb rfl d_L_need_6 h, List.forall_mem_cons.mpr ⟨fun S h => bs_iload (Z := Z) hx hb d_L_need_7 h, List.forall_mem_cons.mpr ⟨fun S h => bs_iload (Z := Z) hx hb d_L_need_9 h, List.forall_mem_cons.mpr ⟨fun S h => bs_callC (Z := Z) (C := R_H) hBg hbs hB X0 hK (cn_H_need htr (d + 0)) (cl_H_need _ _ hw) (hts _ (List.mem_cons_of_mem _ wd_573)) (hts _ (List.mem_cons_of_mem _ wd_574)) (hts _ (List.mem_cons_of_mem _ wd_575)) rfl rfl rfl rfl rfl (Nat.le_refl _) (Nat.le_refl _) hr hlocks (hl := [(19, 13, "java/lang/IllegalArgumentException", 1), (23, 21, "java/util/NoSuchElementException", 2), (27, 15, "java/lang/IllegalStateException", 3), (31, 23, "java/lang/UnsupportedOperationException", 4)]) (pe := 16) htab (by decide) (by decide +kernel) (List.forall_mem_cons.mpr ⟨⟨by decide, (hts _ (List.mem_cons_of_mem _ wd_397)), va_Nw.use rfl (hxw _ xw_9)⟩, List.forall_mem_cons.mpr ⟨⟨by decide, (hts _ (List.mem_cons_of_mem _ wd_515)), va_Nw.use rfl (hxw _ xw_11)⟩, List.forall_mem_cons.mpr ⟨⟨by decide, (hts _ (List.mem_cons_of_mem _ wd_398)), va_Nw.use rfl (hxw _ xw_10)⟩, List.forall_mem_cons.mpr ⟨⟨by decide, (hts _ (List.mem_cons_of_mem _ wd_516)), va_Nw.use rfl (hxw _ xw_12)⟩, fun _ h => absurd h List.not_mem_nil⟩⟩⟩⟩) (bh_nco hnc (by decide +kernel)) (List.forall_mem_cons.mpr ⟨Or.inl ⟨7, 1, by decide, d_L_need_19, d_L_need_21, by decide, d_L_need_22⟩, List.forall_mem_cons.mpr ⟨Or.inl ⟨7, 2, by decide, d_L_need_23, d_L_need_25, by decide, d_L_need_26⟩, List.forall_mem_cons.mpr ⟨Or.inl ⟨7, 3, by decide, d_L_need_27, d_L_need_29, by decide, d_L_need_30⟩, List.forall_mem_cons.mpr ⟨Or.inl ⟨7, 4, by decide, d_L_need_31, d_L_need_33, by decide, d_L_need_34⟩, fun _ h => absurd h List.not_mem_nil⟩⟩⟩⟩) d_L_need_11 h, List.forall_mem_cons.mpr ⟨fun S h => bs_i2l (Z := Z) hx hb d_L_need_14 h, List.forall_mem_cons.mpr ⟨fun S h => bs_Jast (Z := Z) hx hb ha3 d_L_need_15 h, List.forall_mem_cons.mpr ⟨fun S h => bs_goto (Z := Z) hx hb d_L_need_16 (by decide) h, List.forall_mem_cons.mpr ⟨fun S h => bs_astore (Z := Z) hx hb d_L_need_19 h, List.forall_mem_cons.mpr ⟨fun S h => bs_iconst (Z := Z) hx hb (by decide) d_L_need_21 h, List.forall_mem_cons.mpr ⟨fun S h => bs_iret (Z := Z) hx hb hr hlocks d_L_need_22 h, List.forall_mem_cons.mpr ⟨fun S h => bs_astore (Z := Z) hx hb d_L_need_23 h, List.forall_mem_cons.mpr ⟨fun S h => bs_iconst (Z := Z) hx hb (by decide) d_L_need_25 h, List.forall_mem_cons.mpr ⟨fun S h => bs_iret (Z := Z) hx hb hr hlocks d_L_need_26 h, List.forall_mem_cons.mpr ⟨fun S h => bs_astore (Z := Z) hx hb d_L_need_27 h, List.forall_mem_cons.mpr ⟨fun S h => bs_iconst (Z := Z) hx hb (by decide) d_L_need_29 h, List.forall_mem_cons.mpr ⟨fun S h => bs_iret (Z := Z) hx hb hr hlocks d_L_need_30 h, List.forall_mem_cons.mpr ⟨fun S h => bs_astore (Z := Z) hx hb d_L_need_31 h, List.forall_mem_cons.mpr ⟨fun S h => bs_iconst (Z := Z) hx hb (by decide) d_L_need_33 h, List.forall_mem_cons.mpr ⟨fun S h => bs_iret (Z := Z) hx hb hr hlocks d_L_need_34 h, List.forall_mem_cons.mpr ⟨fun S h => bs_iconst (Z := Z) hx hb (by decide) d_L_need_35 h, List.forall_mem_cons.mpr ⟨fun S h => bs_iret (Z := Z) hx hb hr hlocks d_L_need_36 h, fun _ h => absurd h List.not_mem_nil⟩⟩⟩⟩⟩⟩⟩⟩⟩⟩⟩⟩⟩⟩⟩⟩⟩⟩⟩⟩⟩⟩⟩⟩⟩⟩
abbrev c_L_resolve : ByteArray := method_6_code
def y_L_resolve : MethodName := ⟨"BundleHallLaw", "resolve", "(LBundleHall;I[J)I"⟩
theorem d_L_resolve_0 : decode c_L_resolve 0 = .ok (.aload_n 2, 1) := by decide +kernel
theorem d_L_resolve_1 : decode c_L_resolve 1 = .ok (.iconst 0, 1) := by decide +kernel
theorem d_L_resolve_2 : decode c_L_resolve 2 = .ok (.aload_n 0, 1) := by decide +kernel
theorem d_L_resolve_3 : decode c_L_resolve 3 = .ok (.iload_n 1, 1) := by decide +kernel
theorem d_L_resolve_4 : decode c_L_resolve 4 = .ok (.invokevirtual 29, 3) := by decide +kernel
theorem d_L_resolve_7 : decode c_L_resolve 7 = .ok (.i2l, 1) := by decide +kernel
theorem d_L_resolve_8 : decode c_L_resolve 8 = .ok (.lastore, 1) := by decide +kernel
theorem d_L_resolve_9 : decode c_L_resolve 9 = .ok (.goto 15, 3) := by decide +kernel
theorem d_L_resolve_12 : decode c_L_resolve 12 = .ok (.astore_n 3, 1) := by decide +kernel
theorem d_L_resolve_13 : decode c_L_resolve 13 = .ok (.iconst 1, 1) := by decide +kernel
theorem d_L_resolve_14 : decode c_L_resolve 14 = .ok (.ireturn, 1) := by decide +kernel
theorem d_L_resolve_15 : decode c_L_resolve 15 = .ok (.astore_n 3, 1) := by decide +kernel
theorem d_L_resolve_16 : decode c_L_resolve 16 = .ok (.iconst 2, 1) := by decide +kernel
theorem d_L_resolve_17 : decode c_L_resolve 17 = .ok (.ireturn, 1) := by decide +kernel
theorem d_L_resolve_18 : decode c_L_resolve 18 = .ok (.astore_n 3, 1) := by decide +kernel
theorem d_L_resolve_19 : decode c_L_resolve 19 = .ok (.iconst 3, 1) := by decide +kernel
theorem d_L_resolve_20 : decode c_L_resolve 20 = .ok (.ireturn, 1) := by decide +kernel
theorem d_L_resolve_21 : decode c_L_resolve 21 = .ok (.astore_n 3, 1) := by decide +kernel
theorem d_L_resolve_22 : decode c_L_resolve 22 = .ok (.iconst 4, 1) := by decide +kernel
theorem d_L_resolve_23 : decode c_L_resolve 23 = .ok (.ireturn, 1) := by decide +kernel
theorem d_L_resolve_24 : decode c_L_resolve 24 = .ok (.iconst 0, 1) := by decide +kernel
theorem d_L_resolve_25 : decode c_L_resolve 25 = .ok (.ireturn, 1) := by decide +kernel
def T_L_resolve_0 : List (Nat × bh_Op) := [(0, bo_ald 1 2),
  (1, bo_st 2 (bg_push (.inl (.int 0)))),
  (2, bo_ald 3 0),
  (3, bo_ild 4 1),
  (4, bo_callC 7 2 5 5 3 F_H_resolve [("java/lang/IllegalArgumentException", 1), ("java/util/NoSuchElementException", 2), ("java/lang/IllegalStateException", 3), ("java/lang/ArithmeticException", 4)]),
  (7, bo_st 8 (bg_i1 (fun x => .inl (.long x.toInt64)))),
  (8, bo_Jast bh_ak bh_al 9),
  (9, bo_go 24),
  (12, bo_ast 13 3),
  (13, bo_st 14 (bg_push (.inl (.int 1)))),
  (14, bo_iret 5),
  (15, bo_ast 16 3),
  (16, bo_st 17 (bg_push (.inl (.int 2)))),
  (17, bo_iret 5),
  (18, bo_ast 19 3),
  (19, bo_st 20 (bg_push (.inl (.int 3)))),
  (20, bo_iret 5),
  (21, bo_ast 22 3),
  (22, bo_st 23 (bg_push (.inl (.int 4)))),
  (23, bo_iret 5),
  (24, bo_st 25 (bg_push (.inl (.int 0)))),
  (25, bo_iret 5)]
def T_L_resolve : List (Nat × bh_Op) := T_L_resolve_0
set_option maxRecDepth 20000 in
theorem mT_L_resolve_0 : ∀ q ∈ T_L_resolve_0, bh_mono q.2 := List.forall_mem_cons.mpr ⟨bo_ald_m _ _, List.forall_mem_cons.mpr ⟨bo_st_mono (bg_push_m _), List.forall_mem_cons.mpr ⟨bo_ald_m _ _, List.forall_mem_cons.mpr ⟨bo_ild_m _ _, List.forall_mem_cons.mpr ⟨bo_callC_m (mF_H_resolve) _ _ _ _ _ _, List.forall_mem_cons.mpr ⟨bo_st_mono (bg_i1_m _), List.forall_mem_cons.mpr ⟨bo_Jast_m _ _ _, List.forall_mem_cons.mpr ⟨bo_go_m _, List.forall_mem_cons.mpr ⟨bo_ast_m _ _, List.forall_mem_cons.mpr ⟨bo_st_mono (bg_push_m _), List.forall_mem_cons.mpr ⟨bo_iret_m _, List.forall_mem_cons.mpr ⟨bo_ast_m _ _, List.forall_mem_cons.mpr ⟨bo_st_mono (bg_push_m _), List.forall_mem_cons.mpr ⟨bo_iret_m _, List.forall_mem_cons.mpr ⟨bo_ast_m _ _, List.forall_mem_cons.mpr ⟨bo_st_mono (bg_push_m _), List.forall_mem_cons.mpr ⟨bo_iret_m _, List.forall_mem_cons.mpr ⟨bo_ast_m _ _, List.forall_mem_cons.mpr ⟨bo_st_mono (bg_push_m _), List.forall_mem_cons.mpr ⟨bo_iret_m _, List.forall_mem_cons.mpr ⟨bo_st_mono (bg_push_m _), List.forall_mem_cons.mpr ⟨bo_iret_m _, fun _ h => absurd h List.not_mem_nil⟩⟩⟩⟩⟩⟩⟩⟩⟩⟩⟩⟩⟩⟩⟩⟩⟩⟩⟩⟩⟩⟩
theorem m_L_resolve : ∀ pc, bh_mono (bh_tb (T_L_resolve) pc) := bh_tb_m mT_L_resolve_0
def F_L_resolve : bh_Fn := bh_fn 4 (bh_tb T_L_resolve)
theorem mF_L_resolve : bh_monoF F_L_resolve := bh_fn_m m_L_resolve
theorem cl_L_resolve {s : State} {args : Array Value} (d B : Nat) (hts : ∀ w ∈ bh_ws, w.before args s = true) : bh_Cal (bh_rm (d + 1) B) s y_L_resolve 4 (.codeWith y_L_resolve c_L_resolve 4 (some .int) [(0, 9, 12, 13), (0, 9, 15, 21), (0, 9, 18, 15), (0, 9, 21, 33)] :: bh_ws) (bh_rm d 5) 5 3 := bh_calW d B hts wd_588 wd_0 (by decide) (by decide +kernel)
set_option maxHeartbeats 4000000 in
set_option maxRecDepth 100000 in
theorem cn_L_resolve {l : Launch} {G : bh_G} {base sb L : Nat} {xs : Nat → Int32} (htr : l.stackTraces = false) (d : Nat) : bh_Con l G base (bh_Bg G base sb L xs) y_L_resolve (.codeWith y_L_resolve c_L_resolve 4 (some .int) [(0, 9, 12, 13), (0, 9, 15, 21), (0, 9, 18, 15), (0, 9, 21, 33)] :: bh_ws) (bh_rm (d + 33) 5) 5 false F_L_resolve := by
  refine bh_methodW (cc := c_L_resolve) (ret := (some .int)) (hh := [(0, 9, 12, 13), (0, 9, 15, 21), (0, 9, 18, 15), (0, 9, 21, 33)]) (by decide +kernel) rfl ?_
  intro p e s m args below meth c ad0 M0 Z X0 hr hlocks hname htab hbs hB
  obtain ⟨hx, hb, hml, hown, hts⟩ := id X0
  have hw : ∀ w ∈ bh_ws, w.before args s = true := fun w h => hts w (List.mem_cons_of_mem _ h)
  have hBg := bh_BgK (G := G) (base := base) (sb := sb) (L := L) (xs := xs)
  obtain ⟨hK, hAr, hen, hinj, hu1, hu2, hstr, hX, hsb, hsc, hxw, hao, hnc⟩ := id hB
  obtain ⟨ha1, ha2, ha3, ha4, ha5, ha6, ha0⟩ := bh_arr hAr
  exact List.forall_mem_cons.mpr ⟨fun S h => bs_aload_n (Z := Z) hx hb rfl d_L_resolve_0 h, List.forall_mem_cons.mpr ⟨fun S h => bs_iconst (Z := Z) hx hb (by decide) d_L_resolve_1 h, List.forall_mem_cons.mpr ⟨fun S h => bs_aload_n (Z := Z) hx hb rfl d_L_resolve_2 h, List.forall_mem_cons.mpr ⟨fun S h => bs_iload_n (Z := Z) hx hb rfl d_L_resolve_3 h, List.forall_mem_cons.mpr ⟨fun S h => bs_callC (Z := Z) (C := R_H) hBg hbs hB X0 hK (cn_H_resolve htr (d + 0)) (cl_H_resolve _ _ hw) (hts _ (List.mem_cons_of_mem _ wd_590)) (hts _ (List.mem_cons_of_mem _ wd_591)) (hts _ (List.mem_cons_of_mem _ wd_592)) rfl rfl rfl rfl rfl (Nat.le_refl _) (Nat.le_refl _) hr hlocks (hl := [(12, 13, "java/lang/IllegalArgumentException", 1), (15, 21, "java/util/NoSuchElementException", 2), (18, 15, "java/lang/IllegalStateException", 3), (21, 33, "java/lang/ArithmeticException", 4)]) (pe := 9) htab (by decide) (by decide +kernel) (List.forall_mem_cons.mpr ⟨⟨by decide, (hts _ (List.mem_cons_of_mem _ wd_397)), va_Nw.use rfl (hxw _ xw_9)⟩, List.forall_mem_cons.mpr ⟨⟨by decide, (hts _ (List.mem_cons_of_mem _ wd_515)), va_Nw.use rfl (hxw _ xw_11)⟩, List.forall_mem_cons.mpr ⟨⟨by decide, (hts _ (List.mem_cons_of_mem _ wd_398)), va_Nw.use rfl (hxw _ xw_10)⟩, List.forall_mem_cons.mpr ⟨⟨by decide, (hts _ (List.mem_cons_of_mem _ wd_589)), va_Nw.use rfl (hxw _ xw_13)⟩, fun _ h => absurd h List.not_mem_nil⟩⟩⟩⟩) (bh_nco hnc (by decide +kernel)) (List.forall_mem_cons.mpr ⟨Or.inr ⟨3, 1, by decide, d_L_resolve_12, d_L_resolve_13, by decide, d_L_resolve_14⟩, List.forall_mem_cons.mpr ⟨Or.inr ⟨3, 2, by decide, d_L_resolve_15, d_L_resolve_16, by decide, d_L_resolve_17⟩, List.forall_mem_cons.mpr ⟨Or.inr ⟨3, 3, by decide, d_L_resolve_18, d_L_resolve_19, by decide, d_L_resolve_20⟩, List.forall_mem_cons.mpr ⟨Or.inr ⟨3, 4, by decide, d_L_resolve_21, d_L_resolve_22, by decide, d_L_resolve_23⟩, fun _ h => absurd h List.not_mem_nil⟩⟩⟩⟩) d_L_resolve_4 h, List.forall_mem_cons.mpr ⟨fun S h => bs_i2l (Z := Z) hx hb d_L_resolve_7 h, List.forall_mem_cons.mpr ⟨fun S h => bs_Jast (Z := Z) hx hb ha3 d_L_resolve_8 h, List.forall_mem_cons.mpr ⟨fun S h => bs_goto (Z := Z) hx hb d_L_resolve_9 (by decide) h, List.forall_mem_cons.mpr ⟨fun S h => bs_astore_n (Z := Z) hx hb rfl d_L_resolve_12 h, List.forall_mem_cons.mpr ⟨fun S h => bs_iconst (Z := Z) hx hb (by decide) d_L_resolve_13 h, List.forall_mem_cons.mpr ⟨fun S h => bs_iret (Z := Z) hx hb hr hlocks d_L_resolve_14 h, List.forall_mem_cons.mpr ⟨fun S h => bs_astore_n (Z := Z) hx hb rfl d_L_resolve_15 h, List.forall_mem_cons.mpr ⟨fun S h => bs_iconst (Z := Z) hx hb (by decide) d_L_resolve_16 h, List.forall_mem_cons.mpr ⟨fun S h => bs_iret (Z := Z) hx hb hr hlocks d_L_resolve_17 h, List.forall_mem_cons.mpr ⟨fun S h => bs_astore_n (Z := Z) hx hb rfl d_L_resolve_18 h, List.forall_mem_cons.mpr ⟨fun S h => bs_iconst (Z := Z) hx hb (by decide) d_L_resolve_19 h, List.forall_mem_cons.mpr ⟨fun S h => bs_iret (Z := Z) hx hb hr hlocks d_L_resolve_20 h, List.forall_mem_cons.mpr ⟨fun S h => bs_astore_n (Z := Z) hx hb rfl d_L_resolve_21 h, List.forall_mem_cons.mpr ⟨fun S h => bs_iconst (Z := Z) hx hb (by decide) d_L_resolve_22 h, List.forall_mem_cons.mpr ⟨fun S h => bs_iret (Z := Z) hx hb hr hlocks d_L_resolve_23 h, List.forall_mem_cons.mpr ⟨fun S h => bs_iconst (Z := Z) hx hb (by decide) d_L_resolve_24 h, List.forall_mem_cons.mpr ⟨fun S h => bs_iret (Z := Z) hx hb hr hlocks d_L_resolve_25 h, fun _ h => absurd h List.not_mem_nil⟩⟩⟩⟩⟩⟩⟩⟩⟩⟩⟩⟩⟩⟩⟩⟩⟩⟩⟩⟩⟩⟩
abbrev c_L_start : ByteArray := method_7_code
def y_L_start : MethodName := ⟨"BundleHallLaw", "start", "(LBundleHall;I[J)I"⟩
theorem d_L_start_0 : decode c_L_start 0 = .ok (.aload_n 2, 1) := by decide +kernel
theorem d_L_start_1 : decode c_L_start 1 = .ok (.iconst 0, 1) := by decide +kernel
theorem d_L_start_2 : decode c_L_start 2 = .ok (.aload_n 0, 1) := by decide +kernel
theorem d_L_start_3 : decode c_L_start 3 = .ok (.iload_n 1, 1) := by decide +kernel
theorem d_L_start_4 : decode c_L_start 4 = .ok (.invokevirtual 35, 3) := by decide +kernel
theorem d_L_start_7 : decode c_L_start 7 = .ok (.i2l, 1) := by decide +kernel
theorem d_L_start_8 : decode c_L_start 8 = .ok (.lastore, 1) := by decide +kernel
theorem d_L_start_9 : decode c_L_start 9 = .ok (.goto 18, 3) := by decide +kernel
theorem d_L_start_12 : decode c_L_start 12 = .ok (.astore_n 3, 1) := by decide +kernel
theorem d_L_start_13 : decode c_L_start 13 = .ok (.iconst 1, 1) := by decide +kernel
theorem d_L_start_14 : decode c_L_start 14 = .ok (.ireturn, 1) := by decide +kernel
theorem d_L_start_15 : decode c_L_start 15 = .ok (.astore_n 3, 1) := by decide +kernel
theorem d_L_start_16 : decode c_L_start 16 = .ok (.iconst 2, 1) := by decide +kernel
theorem d_L_start_17 : decode c_L_start 17 = .ok (.ireturn, 1) := by decide +kernel
theorem d_L_start_18 : decode c_L_start 18 = .ok (.astore_n 3, 1) := by decide +kernel
theorem d_L_start_19 : decode c_L_start 19 = .ok (.iconst 3, 1) := by decide +kernel
theorem d_L_start_20 : decode c_L_start 20 = .ok (.ireturn, 1) := by decide +kernel
theorem d_L_start_21 : decode c_L_start 21 = .ok (.astore_n 3, 1) := by decide +kernel
theorem d_L_start_22 : decode c_L_start 22 = .ok (.iconst 4, 1) := by decide +kernel
theorem d_L_start_23 : decode c_L_start 23 = .ok (.ireturn, 1) := by decide +kernel
theorem d_L_start_24 : decode c_L_start 24 = .ok (.astore_n 3, 1) := by decide +kernel
theorem d_L_start_25 : decode c_L_start 25 = .ok (.iconst 5, 1) := by decide +kernel
theorem d_L_start_26 : decode c_L_start 26 = .ok (.ireturn, 1) := by decide +kernel
theorem d_L_start_27 : decode c_L_start 27 = .ok (.iconst 0, 1) := by decide +kernel
theorem d_L_start_28 : decode c_L_start 28 = .ok (.ireturn, 1) := by decide +kernel
def T_L_start_0 : List (Nat × bh_Op) := [(0, bo_ald 1 2),
  (1, bo_st 2 (bg_push (.inl (.int 0)))),
  (2, bo_ald 3 0),
  (3, bo_ild 4 1),
  (4, bo_callC 7 2 5 5 3 F_H_start [("java/lang/IllegalArgumentException", 1), ("java/util/NoSuchElementException", 2), ("java/lang/IllegalStateException", 3), ("java/lang/UnsupportedOperationException", 4), ("java/lang/ArithmeticException", 5)]),
  (7, bo_st 8 (bg_i1 (fun x => .inl (.long x.toInt64)))),
  (8, bo_Jast bh_ak bh_al 9),
  (9, bo_go 27),
  (12, bo_ast 13 3),
  (13, bo_st 14 (bg_push (.inl (.int 1)))),
  (14, bo_iret 5),
  (15, bo_ast 16 3),
  (16, bo_st 17 (bg_push (.inl (.int 2)))),
  (17, bo_iret 5),
  (18, bo_ast 19 3),
  (19, bo_st 20 (bg_push (.inl (.int 3)))),
  (20, bo_iret 5),
  (21, bo_ast 22 3),
  (22, bo_st 23 (bg_push (.inl (.int 4)))),
  (23, bo_iret 5),
  (24, bo_ast 25 3),
  (25, bo_st 26 (bg_push (.inl (.int 5)))),
  (26, bo_iret 5),
  (27, bo_st 28 (bg_push (.inl (.int 0)))),
  (28, bo_iret 5)]
def T_L_start : List (Nat × bh_Op) := T_L_start_0
set_option maxRecDepth 20000 in
theorem mT_L_start_0 : ∀ q ∈ T_L_start_0, bh_mono q.2 := List.forall_mem_cons.mpr ⟨bo_ald_m _ _, List.forall_mem_cons.mpr ⟨bo_st_mono (bg_push_m _), List.forall_mem_cons.mpr ⟨bo_ald_m _ _, List.forall_mem_cons.mpr ⟨bo_ild_m _ _, List.forall_mem_cons.mpr ⟨bo_callC_m (mF_H_start) _ _ _ _ _ _, List.forall_mem_cons.mpr ⟨bo_st_mono (bg_i1_m _), List.forall_mem_cons.mpr ⟨bo_Jast_m _ _ _, List.forall_mem_cons.mpr ⟨bo_go_m _, List.forall_mem_cons.mpr ⟨bo_ast_m _ _, List.forall_mem_cons.mpr ⟨bo_st_mono (bg_push_m _), List.forall_mem_cons.mpr ⟨bo_iret_m _, List.forall_mem_cons.mpr ⟨bo_ast_m _ _, List.forall_mem_cons.mpr ⟨bo_st_mono (bg_push_m _), List.forall_mem_cons.mpr ⟨bo_iret_m _, List.forall_mem_cons.mpr ⟨bo_ast_m _ _, List.forall_mem_cons.mpr ⟨bo_st_mono (bg_push_m _), List.forall_mem_cons.mpr ⟨bo_iret_m _, List.forall_mem_cons.mpr ⟨bo_ast_m _ _, List.forall_mem_cons.mpr ⟨bo_st_mono (bg_push_m _), List.forall_mem_cons.mpr ⟨bo_iret_m _, List.forall_mem_cons.mpr ⟨bo_ast_m _ _, List.forall_mem_cons.mpr ⟨bo_st_mono (bg_push_m _), List.forall_mem_cons.mpr ⟨bo_iret_m _, List.forall_mem_cons.mpr ⟨bo_st_mono (bg_push_m _), List.forall_mem_cons.mpr ⟨bo_iret_m _, fun _ h => absurd h List.not_mem_nil⟩⟩⟩⟩⟩⟩⟩⟩⟩⟩⟩⟩⟩⟩⟩⟩⟩⟩⟩⟩⟩⟩⟩⟩⟩
theorem m_L_start : ∀ pc, bh_mono (bh_tb (T_L_start) pc) := bh_tb_m mT_L_start_0
def F_L_start : bh_Fn := bh_fn 4 (bh_tb T_L_start)
theorem mF_L_start : bh_monoF F_L_start := bh_fn_m m_L_start
theorem cl_L_start {s : State} {args : Array Value} (d B : Nat) (hts : ∀ w ∈ bh_ws, w.before args s = true) : bh_Cal (bh_rm (d + 1) B) s y_L_start 4 (.codeWith y_L_start c_L_start 4 (some .int) [(0, 9, 12, 13), (0, 9, 15, 21), (0, 9, 18, 15), (0, 9, 21, 23), (0, 9, 24, 33)] :: bh_ws) (bh_rm d 5) 5 3 := bh_calW d B hts wd_619 wd_0 (by decide) (by decide +kernel)
set_option maxHeartbeats 4000000 in
set_option maxRecDepth 100000 in
theorem cn_L_start {l : Launch} {G : bh_G} {base sb L : Nat} {xs : Nat → Int32} (htr : l.stackTraces = false) (d : Nat) : bh_Con l G base (bh_Bg G base sb L xs) y_L_start (.codeWith y_L_start c_L_start 4 (some .int) [(0, 9, 12, 13), (0, 9, 15, 21), (0, 9, 18, 15), (0, 9, 21, 23), (0, 9, 24, 33)] :: bh_ws) (bh_rm (d + 34) 5) 5 false F_L_start := by
  refine bh_methodW (cc := c_L_start) (ret := (some .int)) (hh := [(0, 9, 12, 13), (0, 9, 15, 21), (0, 9, 18, 15), (0, 9, 21, 23), (0, 9, 24, 33)]) (by decide +kernel) rfl ?_
  intro p e s m args below meth c ad0 M0 Z X0 hr hlocks hname htab hbs hB
  obtain ⟨hx, hb, hml, hown, hts⟩ := id X0
  have hw : ∀ w ∈ bh_ws, w.before args s = true := fun w h => hts w (List.mem_cons_of_mem _ h)
  have hBg := bh_BgK (G := G) (base := base) (sb := sb) (L := L) (xs := xs)
  obtain ⟨hK, hAr, hen, hinj, hu1, hu2, hstr, hX, hsb, hsc, hxw, hao, hnc⟩ := id hB
  obtain ⟨ha1, ha2, ha3, ha4, ha5, ha6, ha0⟩ := bh_arr hAr
  exact List.forall_mem_cons.mpr ⟨fun S h => bs_aload_n (Z := Z) hx hb rfl d_L_start_0 h, List.forall_mem_cons.mpr ⟨fun S h => bs_iconst (Z := Z) hx hb (by decide) d_L_start_1 h, List.forall_mem_cons.mpr ⟨fun S h => bs_aload_n (Z := Z) hx hb rfl d_L_start_2 h, List.forall_mem_cons.mpr ⟨fun S h => bs_iload_n (Z := Z) hx hb rfl d_L_start_3 h, List.forall_mem_cons.mpr ⟨fun S h => bs_callC (Z := Z) (C := R_H) hBg hbs hB X0 hK (cn_H_start htr (d + 0)) (cl_H_start _ _ hw) (hts _ (List.mem_cons_of_mem _ wd_620)) (hts _ (List.mem_cons_of_mem _ wd_621)) (hts _ (List.mem_cons_of_mem _ wd_622)) rfl rfl rfl rfl rfl (Nat.le_refl _) (Nat.le_refl _) hr hlocks (hl := [(12, 13, "java/lang/IllegalArgumentException", 1), (15, 21, "java/util/NoSuchElementException", 2), (18, 15, "java/lang/IllegalStateException", 3), (21, 23, "java/lang/UnsupportedOperationException", 4), (24, 33, "java/lang/ArithmeticException", 5)]) (pe := 9) htab (by decide) (by decide +kernel) (List.forall_mem_cons.mpr ⟨⟨by decide, (hts _ (List.mem_cons_of_mem _ wd_397)), va_Nw.use rfl (hxw _ xw_9)⟩, List.forall_mem_cons.mpr ⟨⟨by decide, (hts _ (List.mem_cons_of_mem _ wd_515)), va_Nw.use rfl (hxw _ xw_11)⟩, List.forall_mem_cons.mpr ⟨⟨by decide, (hts _ (List.mem_cons_of_mem _ wd_398)), va_Nw.use rfl (hxw _ xw_10)⟩, List.forall_mem_cons.mpr ⟨⟨by decide, (hts _ (List.mem_cons_of_mem _ wd_516)), va_Nw.use rfl (hxw _ xw_12)⟩, List.forall_mem_cons.mpr ⟨⟨by decide, (hts _ (List.mem_cons_of_mem _ wd_589)), va_Nw.use rfl (hxw _ xw_13)⟩, fun _ h => absurd h List.not_mem_nil⟩⟩⟩⟩⟩) (bh_nco hnc (by decide +kernel)) (List.forall_mem_cons.mpr ⟨Or.inr ⟨3, 1, by decide, d_L_start_12, d_L_start_13, by decide, d_L_start_14⟩, List.forall_mem_cons.mpr ⟨Or.inr ⟨3, 2, by decide, d_L_start_15, d_L_start_16, by decide, d_L_start_17⟩, List.forall_mem_cons.mpr ⟨Or.inr ⟨3, 3, by decide, d_L_start_18, d_L_start_19, by decide, d_L_start_20⟩, List.forall_mem_cons.mpr ⟨Or.inr ⟨3, 4, by decide, d_L_start_21, d_L_start_22, by decide, d_L_start_23⟩, List.forall_mem_cons.mpr ⟨Or.inr ⟨3, 5, by decide, d_L_start_24, d_L_start_25, by decide, d_L_start_26⟩, fun _ h => absurd h List.not_mem_nil⟩⟩⟩⟩⟩) d_L_start_4 h, List.forall_mem_cons.mpr ⟨fun S h => bs_i2l (Z := Z) hx hb d_L_start_7 h, List.forall_mem_cons.mpr ⟨fun S h => bs_Jast (Z := Z) hx hb ha3 d_L_start_8 h, List.forall_mem_cons.mpr ⟨fun S h => bs_goto (Z := Z) hx hb d_L_start_9 (by decide) h, List.forall_mem_cons.mpr ⟨fun S h => bs_astore_n (Z := Z) hx hb rfl d_L_start_12 h, List.forall_mem_cons.mpr ⟨fun S h => bs_iconst (Z := Z) hx hb (by decide) d_L_start_13 h, List.forall_mem_cons.mpr ⟨fun S h => bs_iret (Z := Z) hx hb hr hlocks d_L_start_14 h, List.forall_mem_cons.mpr ⟨fun S h => bs_astore_n (Z := Z) hx hb rfl d_L_start_15 h, List.forall_mem_cons.mpr ⟨fun S h => bs_iconst (Z := Z) hx hb (by decide) d_L_start_16 h, List.forall_mem_cons.mpr ⟨fun S h => bs_iret (Z := Z) hx hb hr hlocks d_L_start_17 h, List.forall_mem_cons.mpr ⟨fun S h => bs_astore_n (Z := Z) hx hb rfl d_L_start_18 h, List.forall_mem_cons.mpr ⟨fun S h => bs_iconst (Z := Z) hx hb (by decide) d_L_start_19 h, List.forall_mem_cons.mpr ⟨fun S h => bs_iret (Z := Z) hx hb hr hlocks d_L_start_20 h, List.forall_mem_cons.mpr ⟨fun S h => bs_astore_n (Z := Z) hx hb rfl d_L_start_21 h, List.forall_mem_cons.mpr ⟨fun S h => bs_iconst (Z := Z) hx hb (by decide) d_L_start_22 h, List.forall_mem_cons.mpr ⟨fun S h => bs_iret (Z := Z) hx hb hr hlocks d_L_start_23 h, List.forall_mem_cons.mpr ⟨fun S h => bs_astore_n (Z := Z) hx hb rfl d_L_start_24 h, List.forall_mem_cons.mpr ⟨fun S h => bs_iconst (Z := Z) hx hb (by decide) d_L_start_25 h, List.forall_mem_cons.mpr ⟨fun S h => bs_iret (Z := Z) hx hb hr hlocks d_L_start_26 h, List.forall_mem_cons.mpr ⟨fun S h => bs_iconst (Z := Z) hx hb (by decide) d_L_start_27 h, List.forall_mem_cons.mpr ⟨fun S h => bs_iret (Z := Z) hx hb hr hlocks d_L_start_28 h, fun _ h => absurd h List.not_mem_nil⟩⟩⟩⟩⟩⟩⟩⟩⟩⟩⟩⟩⟩⟩⟩⟩⟩⟩⟩⟩⟩⟩⟩⟩⟩
abbrev c_L_stop : ByteArray := method_8_code
def y_L_stop : MethodName := ⟨"BundleHallLaw", "stop", "(LBundleHall;I[J)I"⟩
theorem d_L_stop_0 : decode c_L_stop 0 = .ok (.aload_n 2, 1) := by decide +kernel
theorem d_L_stop_1 : decode c_L_stop 1 = .ok (.iconst 0, 1) := by decide +kernel
theorem d_L_stop_2 : decode c_L_stop 2 = .ok (.aload_n 0, 1) := by decide +kernel
theorem d_L_stop_3 : decode c_L_stop 3 = .ok (.iload_n 1, 1) := by decide +kernel
theorem d_L_stop_4 : decode c_L_stop 4 = .ok (.invokevirtual 38, 3) := by decide +kernel
theorem d_L_stop_7 : decode c_L_stop 7 = .ok (.i2l, 1) := by decide +kernel
theorem d_L_stop_8 : decode c_L_stop 8 = .ok (.lastore, 1) := by decide +kernel
theorem d_L_stop_9 : decode c_L_stop 9 = .ok (.goto 9, 3) := by decide +kernel
theorem d_L_stop_12 : decode c_L_stop 12 = .ok (.astore_n 3, 1) := by decide +kernel
theorem d_L_stop_13 : decode c_L_stop 13 = .ok (.iconst 1, 1) := by decide +kernel
theorem d_L_stop_14 : decode c_L_stop 14 = .ok (.ireturn, 1) := by decide +kernel
theorem d_L_stop_15 : decode c_L_stop 15 = .ok (.astore_n 3, 1) := by decide +kernel
theorem d_L_stop_16 : decode c_L_stop 16 = .ok (.iconst 2, 1) := by decide +kernel
theorem d_L_stop_17 : decode c_L_stop 17 = .ok (.ireturn, 1) := by decide +kernel
theorem d_L_stop_18 : decode c_L_stop 18 = .ok (.iconst 0, 1) := by decide +kernel
theorem d_L_stop_19 : decode c_L_stop 19 = .ok (.ireturn, 1) := by decide +kernel
def T_L_stop_0 : List (Nat × bh_Op) := [(0, bo_ald 1 2),
  (1, bo_st 2 (bg_push (.inl (.int 0)))),
  (2, bo_ald 3 0),
  (3, bo_ild 4 1),
  (4, bo_callC 7 2 2 2 3 F_H_stop [("java/lang/IllegalArgumentException", 1), ("java/util/NoSuchElementException", 2)]),
  (7, bo_st 8 (bg_i1 (fun x => .inl (.long x.toInt64)))),
  (8, bo_Jast bh_ak bh_al 9),
  (9, bo_go 18),
  (12, bo_ast 13 3),
  (13, bo_st 14 (bg_push (.inl (.int 1)))),
  (14, bo_iret 2),
  (15, bo_ast 16 3),
  (16, bo_st 17 (bg_push (.inl (.int 2)))),
  (17, bo_iret 2),
  (18, bo_st 19 (bg_push (.inl (.int 0)))),
  (19, bo_iret 2)]
def T_L_stop : List (Nat × bh_Op) := T_L_stop_0
set_option maxRecDepth 20000 in
theorem mT_L_stop_0 : ∀ q ∈ T_L_stop_0, bh_mono q.2 := List.forall_mem_cons.mpr ⟨bo_ald_m _ _, List.forall_mem_cons.mpr ⟨bo_st_mono (bg_push_m _), List.forall_mem_cons.mpr ⟨bo_ald_m _ _, List.forall_mem_cons.mpr ⟨bo_ild_m _ _, List.forall_mem_cons.mpr ⟨bo_callC_m (mF_H_stop) _ _ _ _ _ _, List.forall_mem_cons.mpr ⟨bo_st_mono (bg_i1_m _), List.forall_mem_cons.mpr ⟨bo_Jast_m _ _ _, List.forall_mem_cons.mpr ⟨bo_go_m _, List.forall_mem_cons.mpr ⟨bo_ast_m _ _, List.forall_mem_cons.mpr ⟨bo_st_mono (bg_push_m _), List.forall_mem_cons.mpr ⟨bo_iret_m _, List.forall_mem_cons.mpr ⟨bo_ast_m _ _, List.forall_mem_cons.mpr ⟨bo_st_mono (bg_push_m _), List.forall_mem_cons.mpr ⟨bo_iret_m _, List.forall_mem_cons.mpr ⟨bo_st_mono (bg_push_m _), List.forall_mem_cons.mpr ⟨bo_iret_m _, fun _ h => absurd h List.not_mem_nil⟩⟩⟩⟩⟩⟩⟩⟩⟩⟩⟩⟩⟩⟩⟩⟩
theorem m_L_stop : ∀ pc, bh_mono (bh_tb (T_L_stop) pc) := bh_tb_m mT_L_stop_0
def F_L_stop : bh_Fn := bh_fn 4 (bh_tb T_L_stop)
theorem mF_L_stop : bh_monoF F_L_stop := bh_fn_m m_L_stop
theorem cl_L_stop {s : State} {args : Array Value} (d B : Nat) (hts : ∀ w ∈ bh_ws, w.before args s = true) : bh_Cal (bh_rm (d + 1) B) s y_L_stop 4 (.codeWith y_L_stop c_L_stop 4 (some .int) [(0, 9, 12, 13), (0, 9, 15, 21)] :: bh_ws) (bh_rm d 2) 2 3 := bh_calW d B hts wd_626 wd_0 (by decide) (by decide +kernel)
set_option maxHeartbeats 4000000 in
set_option maxRecDepth 100000 in
theorem cn_L_stop {l : Launch} {G : bh_G} {base sb L : Nat} {xs : Nat → Int32} (htr : l.stackTraces = false) (d : Nat) : bh_Con l G base (bh_Bg G base sb L xs) y_L_stop (.codeWith y_L_stop c_L_stop 4 (some .int) [(0, 9, 12, 13), (0, 9, 15, 21)] :: bh_ws) (bh_rm (d + 5) 2) 2 false F_L_stop := by
  refine bh_methodW (cc := c_L_stop) (ret := (some .int)) (hh := [(0, 9, 12, 13), (0, 9, 15, 21)]) (by decide +kernel) rfl ?_
  intro p e s m args below meth c ad0 M0 Z X0 hr hlocks hname htab hbs hB
  obtain ⟨hx, hb, hml, hown, hts⟩ := id X0
  have hw : ∀ w ∈ bh_ws, w.before args s = true := fun w h => hts w (List.mem_cons_of_mem _ h)
  have hBg := bh_BgK (G := G) (base := base) (sb := sb) (L := L) (xs := xs)
  obtain ⟨hK, hAr, hen, hinj, hu1, hu2, hstr, hX, hsb, hsc, hxw, hao, hnc⟩ := id hB
  obtain ⟨ha1, ha2, ha3, ha4, ha5, ha6, ha0⟩ := bh_arr hAr
  exact List.forall_mem_cons.mpr ⟨fun S h => bs_aload_n (Z := Z) hx hb rfl d_L_stop_0 h, List.forall_mem_cons.mpr ⟨fun S h => bs_iconst (Z := Z) hx hb (by decide) d_L_stop_1 h, List.forall_mem_cons.mpr ⟨fun S h => bs_aload_n (Z := Z) hx hb rfl d_L_stop_2 h, List.forall_mem_cons.mpr ⟨fun S h => bs_iload_n (Z := Z) hx hb rfl d_L_stop_3 h, List.forall_mem_cons.mpr ⟨fun S h => bs_callC (Z := Z) (C := R_H) hBg hbs hB X0 hK (cn_H_stop htr (d + 0)) (cl_H_stop _ _ hw) (hts _ (List.mem_cons_of_mem _ wd_627)) (hts _ (List.mem_cons_of_mem _ wd_628)) (hts _ (List.mem_cons_of_mem _ wd_629)) rfl rfl rfl rfl rfl (Nat.le_refl _) (Nat.le_refl _) hr hlocks (hl := [(12, 13, "java/lang/IllegalArgumentException", 1), (15, 21, "java/util/NoSuchElementException", 2)]) (pe := 9) htab (by decide) (by decide +kernel) (List.forall_mem_cons.mpr ⟨⟨by decide, (hts _ (List.mem_cons_of_mem _ wd_397)), va_Nw.use rfl (hxw _ xw_9)⟩, List.forall_mem_cons.mpr ⟨⟨by decide, (hts _ (List.mem_cons_of_mem _ wd_515)), va_Nw.use rfl (hxw _ xw_11)⟩, fun _ h => absurd h List.not_mem_nil⟩⟩) (bh_nco hnc (by decide +kernel)) (List.forall_mem_cons.mpr ⟨Or.inr ⟨3, 1, by decide, d_L_stop_12, d_L_stop_13, by decide, d_L_stop_14⟩, List.forall_mem_cons.mpr ⟨Or.inr ⟨3, 2, by decide, d_L_stop_15, d_L_stop_16, by decide, d_L_stop_17⟩, fun _ h => absurd h List.not_mem_nil⟩⟩) d_L_stop_4 h, List.forall_mem_cons.mpr ⟨fun S h => bs_i2l (Z := Z) hx hb d_L_stop_7 h, List.forall_mem_cons.mpr ⟨fun S h => bs_Jast (Z := Z) hx hb ha3 d_L_stop_8 h, List.forall_mem_cons.mpr ⟨fun S h => bs_goto (Z := Z) hx hb d_L_stop_9 (by decide) h, List.forall_mem_cons.mpr ⟨fun S h => bs_astore_n (Z := Z) hx hb rfl d_L_stop_12 h, List.forall_mem_cons.mpr ⟨fun S h => bs_iconst (Z := Z) hx hb (by decide) d_L_stop_13 h, List.forall_mem_cons.mpr ⟨fun S h => bs_iret (Z := Z) hx hb hr hlocks d_L_stop_14 h, List.forall_mem_cons.mpr ⟨fun S h => bs_astore_n (Z := Z) hx hb rfl d_L_stop_15 h, List.forall_mem_cons.mpr ⟨fun S h => bs_iconst (Z := Z) hx hb (by decide) d_L_stop_16 h, List.forall_mem_cons.mpr ⟨fun S h => bs_iret (Z := Z) hx hb hr hlocks d_L_stop_17 h, List.forall_mem_cons.mpr ⟨fun S h => bs_iconst (Z := Z) hx hb (by decide) d_L_stop_18 h, List.forall_mem_cons.mpr ⟨fun S h => bs_iret (Z := Z) hx hb hr hlocks d_L_stop_19 h, fun _ h => absurd h List.not_mem_nil⟩⟩⟩⟩⟩⟩⟩⟩⟩⟩⟩⟩⟩⟩⟩⟩
abbrev c_L_level : ByteArray := method_9_code
def y_L_level : MethodName := ⟨"BundleHallLaw", "level", "(LBundleHall;I[J)I"⟩
theorem d_L_level_0 : decode c_L_level 0 = .ok (.aload_n 2, 1) := by decide +kernel
theorem d_L_level_1 : decode c_L_level 1 = .ok (.iconst 0, 1) := by decide +kernel
theorem d_L_level_2 : decode c_L_level 2 = .ok (.aload_n 0, 1) := by decide +kernel
theorem d_L_level_3 : decode c_L_level 3 = .ok (.iload_n 1, 1) := by decide +kernel
theorem d_L_level_4 : decode c_L_level 4 = .ok (.invokevirtual 41, 3) := by decide +kernel
theorem d_L_level_7 : decode c_L_level 7 = .ok (.i2l, 1) := by decide +kernel
theorem d_L_level_8 : decode c_L_level 8 = .ok (.lastore, 1) := by decide +kernel
theorem d_L_level_9 : decode c_L_level 9 = .ok (.goto 6, 3) := by decide +kernel
theorem d_L_level_12 : decode c_L_level 12 = .ok (.astore_n 3, 1) := by decide +kernel
theorem d_L_level_13 : decode c_L_level 13 = .ok (.iconst 1, 1) := by decide +kernel
theorem d_L_level_14 : decode c_L_level 14 = .ok (.ireturn, 1) := by decide +kernel
theorem d_L_level_15 : decode c_L_level 15 = .ok (.iconst 0, 1) := by decide +kernel
theorem d_L_level_16 : decode c_L_level 16 = .ok (.ireturn, 1) := by decide +kernel
def T_L_level_0 : List (Nat × bh_Op) := [(0, bo_ald 1 2),
  (1, bo_st 2 (bg_push (.inl (.int 0)))),
  (2, bo_ald 3 0),
  (3, bo_ild 4 1),
  (4, bo_callC 7 2 1 1 3 F_H_level [("java/lang/IllegalArgumentException", 1)]),
  (7, bo_st 8 (bg_i1 (fun x => .inl (.long x.toInt64)))),
  (8, bo_Jast bh_ak bh_al 9),
  (9, bo_go 15),
  (12, bo_ast 13 3),
  (13, bo_st 14 (bg_push (.inl (.int 1)))),
  (14, bo_iret 1),
  (15, bo_st 16 (bg_push (.inl (.int 0)))),
  (16, bo_iret 1)]
def T_L_level : List (Nat × bh_Op) := T_L_level_0
set_option maxRecDepth 20000 in
theorem mT_L_level_0 : ∀ q ∈ T_L_level_0, bh_mono q.2 := List.forall_mem_cons.mpr ⟨bo_ald_m _ _, List.forall_mem_cons.mpr ⟨bo_st_mono (bg_push_m _), List.forall_mem_cons.mpr ⟨bo_ald_m _ _, List.forall_mem_cons.mpr ⟨bo_ild_m _ _, List.forall_mem_cons.mpr ⟨bo_callC_m (mF_H_level) _ _ _ _ _ _, List.forall_mem_cons.mpr ⟨bo_st_mono (bg_i1_m _), List.forall_mem_cons.mpr ⟨bo_Jast_m _ _ _, List.forall_mem_cons.mpr ⟨bo_go_m _, List.forall_mem_cons.mpr ⟨bo_ast_m _ _, List.forall_mem_cons.mpr ⟨bo_st_mono (bg_push_m _), List.forall_mem_cons.mpr ⟨bo_iret_m _, List.forall_mem_cons.mpr ⟨bo_st_mono (bg_push_m _), List.forall_mem_cons.mpr ⟨bo_iret_m _, fun _ h => absurd h List.not_mem_nil⟩⟩⟩⟩⟩⟩⟩⟩⟩⟩⟩⟩⟩
theorem m_L_level : ∀ pc, bh_mono (bh_tb (T_L_level) pc) := bh_tb_m mT_L_level_0
def F_L_level : bh_Fn := bh_fn 4 (bh_tb T_L_level)
theorem mF_L_level : bh_monoF F_L_level := bh_fn_m m_L_level
theorem cl_L_level {s : State} {args : Array Value} (d B : Nat) (hts : ∀ w ∈ bh_ws, w.before args s = true) : bh_Cal (bh_rm (d + 1) B) s y_L_level 4 (.codeWith y_L_level c_L_level 4 (some .int) [(0, 9, 12, 13)] :: bh_ws) (bh_rm d 1) 1 3 := bh_calW d B hts wd_637 wd_0 (by decide) (by decide +kernel)
set_option maxHeartbeats 4000000 in
set_option maxRecDepth 100000 in
theorem cn_L_level {l : Launch} {G : bh_G} {base sb L : Nat} {xs : Nat → Int32} (htr : l.stackTraces = false) (d : Nat) : bh_Con l G base (bh_Bg G base sb L xs) y_L_level (.codeWith y_L_level c_L_level 4 (some .int) [(0, 9, 12, 13)] :: bh_ws) (bh_rm (d + 34) 1) 1 false F_L_level := by
  refine bh_methodW (cc := c_L_level) (ret := (some .int)) (hh := [(0, 9, 12, 13)]) (by decide +kernel) rfl ?_
  intro p e s m args below meth c ad0 M0 Z X0 hr hlocks hname htab hbs hB
  obtain ⟨hx, hb, hml, hown, hts⟩ := id X0
  have hw : ∀ w ∈ bh_ws, w.before args s = true := fun w h => hts w (List.mem_cons_of_mem _ h)
  have hBg := bh_BgK (G := G) (base := base) (sb := sb) (L := L) (xs := xs)
  obtain ⟨hK, hAr, hen, hinj, hu1, hu2, hstr, hX, hsb, hsc, hxw, hao, hnc⟩ := id hB
  obtain ⟨ha1, ha2, ha3, ha4, ha5, ha6, ha0⟩ := bh_arr hAr
  exact List.forall_mem_cons.mpr ⟨fun S h => bs_aload_n (Z := Z) hx hb rfl d_L_level_0 h, List.forall_mem_cons.mpr ⟨fun S h => bs_iconst (Z := Z) hx hb (by decide) d_L_level_1 h, List.forall_mem_cons.mpr ⟨fun S h => bs_aload_n (Z := Z) hx hb rfl d_L_level_2 h, List.forall_mem_cons.mpr ⟨fun S h => bs_iload_n (Z := Z) hx hb rfl d_L_level_3 h, List.forall_mem_cons.mpr ⟨fun S h => bs_callC (Z := Z) (C := R_H) hBg hbs hB X0 hK (cn_H_level htr (d + 0)) (cl_H_level _ _ hw) (hts _ (List.mem_cons_of_mem _ wd_638)) (hts _ (List.mem_cons_of_mem _ wd_639)) (hts _ (List.mem_cons_of_mem _ wd_640)) rfl rfl rfl rfl rfl (Nat.le_refl _) (Nat.le_refl _) hr hlocks (hl := [(12, 13, "java/lang/IllegalArgumentException", 1)]) (pe := 9) htab (by decide) (by decide +kernel) (List.forall_mem_cons.mpr ⟨⟨by decide, (hts _ (List.mem_cons_of_mem _ wd_397)), va_Nw.use rfl (hxw _ xw_9)⟩, fun _ h => absurd h List.not_mem_nil⟩) (bh_nco hnc (by decide +kernel)) (List.forall_mem_cons.mpr ⟨Or.inr ⟨3, 1, by decide, d_L_level_12, d_L_level_13, by decide, d_L_level_14⟩, fun _ h => absurd h List.not_mem_nil⟩) d_L_level_4 h, List.forall_mem_cons.mpr ⟨fun S h => bs_i2l (Z := Z) hx hb d_L_level_7 h, List.forall_mem_cons.mpr ⟨fun S h => bs_Jast (Z := Z) hx hb ha3 d_L_level_8 h, List.forall_mem_cons.mpr ⟨fun S h => bs_goto (Z := Z) hx hb d_L_level_9 (by decide) h, List.forall_mem_cons.mpr ⟨fun S h => bs_astore_n (Z := Z) hx hb rfl d_L_level_12 h, List.forall_mem_cons.mpr ⟨fun S h => bs_iconst (Z := Z) hx hb (by decide) d_L_level_13 h, List.forall_mem_cons.mpr ⟨fun S h => bs_iret (Z := Z) hx hb hr hlocks d_L_level_14 h, List.forall_mem_cons.mpr ⟨fun S h => bs_iconst (Z := Z) hx hb (by decide) d_L_level_15 h, List.forall_mem_cons.mpr ⟨fun S h => bs_iret (Z := Z) hx hb hr hlocks d_L_level_16 h, fun _ h => absurd h List.not_mem_nil⟩⟩⟩⟩⟩⟩⟩⟩⟩⟩⟩⟩⟩
abbrev c_L_uninstall : ByteArray := method_10_code
def y_L_uninstall : MethodName := ⟨"BundleHallLaw", "uninstall", "(LBundleHall;I[J)I"⟩
theorem d_L_uninstall_0 : decode c_L_uninstall 0 = .ok (.aload_n 2, 1) := by decide +kernel
theorem d_L_uninstall_1 : decode c_L_uninstall 1 = .ok (.iconst 0, 1) := by decide +kernel
theorem d_L_uninstall_2 : decode c_L_uninstall 2 = .ok (.aload_n 0, 1) := by decide +kernel
theorem d_L_uninstall_3 : decode c_L_uninstall 3 = .ok (.iload_n 1, 1) := by decide +kernel
theorem d_L_uninstall_4 : decode c_L_uninstall 4 = .ok (.invokevirtual 44, 3) := by decide +kernel
theorem d_L_uninstall_7 : decode c_L_uninstall 7 = .ok (.i2l, 1) := by decide +kernel
theorem d_L_uninstall_8 : decode c_L_uninstall 8 = .ok (.lastore, 1) := by decide +kernel
theorem d_L_uninstall_9 : decode c_L_uninstall 9 = .ok (.goto 9, 3) := by decide +kernel
theorem d_L_uninstall_12 : decode c_L_uninstall 12 = .ok (.astore_n 3, 1) := by decide +kernel
theorem d_L_uninstall_13 : decode c_L_uninstall 13 = .ok (.iconst 1, 1) := by decide +kernel
theorem d_L_uninstall_14 : decode c_L_uninstall 14 = .ok (.ireturn, 1) := by decide +kernel
theorem d_L_uninstall_15 : decode c_L_uninstall 15 = .ok (.astore_n 3, 1) := by decide +kernel
theorem d_L_uninstall_16 : decode c_L_uninstall 16 = .ok (.iconst 2, 1) := by decide +kernel
theorem d_L_uninstall_17 : decode c_L_uninstall 17 = .ok (.ireturn, 1) := by decide +kernel
theorem d_L_uninstall_18 : decode c_L_uninstall 18 = .ok (.iconst 0, 1) := by decide +kernel
theorem d_L_uninstall_19 : decode c_L_uninstall 19 = .ok (.ireturn, 1) := by decide +kernel
def T_L_uninstall_0 : List (Nat × bh_Op) := [(0, bo_ald 1 2),
  (1, bo_st 2 (bg_push (.inl (.int 0)))),
  (2, bo_ald 3 0),
  (3, bo_ild 4 1),
  (4, bo_callC 7 2 2 2 3 F_H_uninstall [("java/lang/IllegalArgumentException", 1), ("java/util/NoSuchElementException", 2)]),
  (7, bo_st 8 (bg_i1 (fun x => .inl (.long x.toInt64)))),
  (8, bo_Jast bh_ak bh_al 9),
  (9, bo_go 18),
  (12, bo_ast 13 3),
  (13, bo_st 14 (bg_push (.inl (.int 1)))),
  (14, bo_iret 2),
  (15, bo_ast 16 3),
  (16, bo_st 17 (bg_push (.inl (.int 2)))),
  (17, bo_iret 2),
  (18, bo_st 19 (bg_push (.inl (.int 0)))),
  (19, bo_iret 2)]
def T_L_uninstall : List (Nat × bh_Op) := T_L_uninstall_0
set_option maxRecDepth 20000 in
theorem mT_L_uninstall_0 : ∀ q ∈ T_L_uninstall_0, bh_mono q.2 := List.forall_mem_cons.mpr ⟨bo_ald_m _ _, List.forall_mem_cons.mpr ⟨bo_st_mono (bg_push_m _), List.forall_mem_cons.mpr ⟨bo_ald_m _ _, List.forall_mem_cons.mpr ⟨bo_ild_m _ _, List.forall_mem_cons.mpr ⟨bo_callC_m (mF_H_uninstall) _ _ _ _ _ _, List.forall_mem_cons.mpr ⟨bo_st_mono (bg_i1_m _), List.forall_mem_cons.mpr ⟨bo_Jast_m _ _ _, List.forall_mem_cons.mpr ⟨bo_go_m _, List.forall_mem_cons.mpr ⟨bo_ast_m _ _, List.forall_mem_cons.mpr ⟨bo_st_mono (bg_push_m _), List.forall_mem_cons.mpr ⟨bo_iret_m _, List.forall_mem_cons.mpr ⟨bo_ast_m _ _, List.forall_mem_cons.mpr ⟨bo_st_mono (bg_push_m _), List.forall_mem_cons.mpr ⟨bo_iret_m _, List.forall_mem_cons.mpr ⟨bo_st_mono (bg_push_m _), List.forall_mem_cons.mpr ⟨bo_iret_m _, fun _ h => absurd h List.not_mem_nil⟩⟩⟩⟩⟩⟩⟩⟩⟩⟩⟩⟩⟩⟩⟩⟩
theorem m_L_uninstall : ∀ pc, bh_mono (bh_tb (T_L_uninstall) pc) := bh_tb_m mT_L_uninstall_0
def F_L_uninstall : bh_Fn := bh_fn 4 (bh_tb T_L_uninstall)
theorem mF_L_uninstall : bh_monoF F_L_uninstall := bh_fn_m m_L_uninstall
theorem cl_L_uninstall {s : State} {args : Array Value} (d B : Nat) (hts : ∀ w ∈ bh_ws, w.before args s = true) : bh_Cal (bh_rm (d + 1) B) s y_L_uninstall 4 (.codeWith y_L_uninstall c_L_uninstall 4 (some .int) [(0, 9, 12, 13), (0, 9, 15, 21)] :: bh_ws) (bh_rm d 2) 2 3 := bh_calW d B hts wd_652 wd_0 (by decide) (by decide +kernel)
set_option maxHeartbeats 4000000 in
set_option maxRecDepth 100000 in
theorem cn_L_uninstall {l : Launch} {G : bh_G} {base sb L : Nat} {xs : Nat → Int32} (htr : l.stackTraces = false) (d : Nat) : bh_Con l G base (bh_Bg G base sb L xs) y_L_uninstall (.codeWith y_L_uninstall c_L_uninstall 4 (some .int) [(0, 9, 12, 13), (0, 9, 15, 21)] :: bh_ws) (bh_rm (d + 6) 2) 2 false F_L_uninstall := by
  refine bh_methodW (cc := c_L_uninstall) (ret := (some .int)) (hh := [(0, 9, 12, 13), (0, 9, 15, 21)]) (by decide +kernel) rfl ?_
  intro p e s m args below meth c ad0 M0 Z X0 hr hlocks hname htab hbs hB
  obtain ⟨hx, hb, hml, hown, hts⟩ := id X0
  have hw : ∀ w ∈ bh_ws, w.before args s = true := fun w h => hts w (List.mem_cons_of_mem _ h)
  have hBg := bh_BgK (G := G) (base := base) (sb := sb) (L := L) (xs := xs)
  obtain ⟨hK, hAr, hen, hinj, hu1, hu2, hstr, hX, hsb, hsc, hxw, hao, hnc⟩ := id hB
  obtain ⟨ha1, ha2, ha3, ha4, ha5, ha6, ha0⟩ := bh_arr hAr
  exact List.forall_mem_cons.mpr ⟨fun S h => bs_aload_n (Z := Z) hx hb rfl d_L_uninstall_0 h, List.forall_mem_cons.mpr ⟨fun S h => bs_iconst (Z := Z) hx hb (by decide) d_L_uninstall_1 h, List.forall_mem_cons.mpr ⟨fun S h => bs_aload_n (Z := Z) hx hb rfl d_L_uninstall_2 h, List.forall_mem_cons.mpr ⟨fun S h => bs_iload_n (Z := Z) hx hb rfl d_L_uninstall_3 h, List.forall_mem_cons.mpr ⟨fun S h => bs_callC (Z := Z) (C := R_H) hBg hbs hB X0 hK (cn_H_uninstall htr (d + 0)) (cl_H_uninstall _ _ hw) (hts _ (List.mem_cons_of_mem _ wd_653)) (hts _ (List.mem_cons_of_mem _ wd_654)) (hts _ (List.mem_cons_of_mem _ wd_655)) rfl rfl rfl rfl rfl (Nat.le_refl _) (Nat.le_refl _) hr hlocks (hl := [(12, 13, "java/lang/IllegalArgumentException", 1), (15, 21, "java/util/NoSuchElementException", 2)]) (pe := 9) htab (by decide) (by decide +kernel) (List.forall_mem_cons.mpr ⟨⟨by decide, (hts _ (List.mem_cons_of_mem _ wd_397)), va_Nw.use rfl (hxw _ xw_9)⟩, List.forall_mem_cons.mpr ⟨⟨by decide, (hts _ (List.mem_cons_of_mem _ wd_515)), va_Nw.use rfl (hxw _ xw_11)⟩, fun _ h => absurd h List.not_mem_nil⟩⟩) (bh_nco hnc (by decide +kernel)) (List.forall_mem_cons.mpr ⟨Or.inr ⟨3, 1, by decide, d_L_uninstall_12, d_L_uninstall_13, by decide, d_L_uninstall_14⟩, List.forall_mem_cons.mpr ⟨Or.inr ⟨3, 2, by decide, d_L_uninstall_15, d_L_uninstall_16, by decide, d_L_uninstall_17⟩, fun _ h => absurd h List.not_mem_nil⟩⟩) d_L_uninstall_4 h, List.forall_mem_cons.mpr ⟨fun S h => bs_i2l (Z := Z) hx hb d_L_uninstall_7 h, List.forall_mem_cons.mpr ⟨fun S h => bs_Jast (Z := Z) hx hb ha3 d_L_uninstall_8 h, List.forall_mem_cons.mpr ⟨fun S h => bs_goto (Z := Z) hx hb d_L_uninstall_9 (by decide) h, List.forall_mem_cons.mpr ⟨fun S h => bs_astore_n (Z := Z) hx hb rfl d_L_uninstall_12 h, List.forall_mem_cons.mpr ⟨fun S h => bs_iconst (Z := Z) hx hb (by decide) d_L_uninstall_13 h, List.forall_mem_cons.mpr ⟨fun S h => bs_iret (Z := Z) hx hb hr hlocks d_L_uninstall_14 h, List.forall_mem_cons.mpr ⟨fun S h => bs_astore_n (Z := Z) hx hb rfl d_L_uninstall_15 h, List.forall_mem_cons.mpr ⟨fun S h => bs_iconst (Z := Z) hx hb (by decide) d_L_uninstall_16 h, List.forall_mem_cons.mpr ⟨fun S h => bs_iret (Z := Z) hx hb hr hlocks d_L_uninstall_17 h, List.forall_mem_cons.mpr ⟨fun S h => bs_iconst (Z := Z) hx hb (by decide) d_L_uninstall_18 h, List.forall_mem_cons.mpr ⟨fun S h => bs_iret (Z := Z) hx hb hr hlocks d_L_uninstall_19 h, fun _ h => absurd h List.not_mem_nil⟩⟩⟩⟩⟩⟩⟩⟩⟩⟩⟩⟩⟩⟩⟩⟩
abbrev c_L_update : ByteArray := method_11_code
def y_L_update : MethodName := ⟨"BundleHallLaw", "update", "(LBundleHall;I[J)I"⟩
theorem d_L_update_0 : decode c_L_update 0 = .ok (.aload_n 2, 1) := by decide +kernel
theorem d_L_update_1 : decode c_L_update 1 = .ok (.iconst 0, 1) := by decide +kernel
theorem d_L_update_2 : decode c_L_update 2 = .ok (.aload_n 0, 1) := by decide +kernel
theorem d_L_update_3 : decode c_L_update 3 = .ok (.iload_n 1, 1) := by decide +kernel
theorem d_L_update_4 : decode c_L_update 4 = .ok (.invokevirtual 47, 3) := by decide +kernel
theorem d_L_update_7 : decode c_L_update 7 = .ok (.i2l, 1) := by decide +kernel
theorem d_L_update_8 : decode c_L_update 8 = .ok (.lastore, 1) := by decide +kernel
theorem d_L_update_9 : decode c_L_update 9 = .ok (.goto 9, 3) := by decide +kernel
theorem d_L_update_12 : decode c_L_update 12 = .ok (.astore_n 3, 1) := by decide +kernel
theorem d_L_update_13 : decode c_L_update 13 = .ok (.iconst 1, 1) := by decide +kernel
theorem d_L_update_14 : decode c_L_update 14 = .ok (.ireturn, 1) := by decide +kernel
theorem d_L_update_15 : decode c_L_update 15 = .ok (.astore_n 3, 1) := by decide +kernel
theorem d_L_update_16 : decode c_L_update 16 = .ok (.iconst 2, 1) := by decide +kernel
theorem d_L_update_17 : decode c_L_update 17 = .ok (.ireturn, 1) := by decide +kernel
theorem d_L_update_18 : decode c_L_update 18 = .ok (.iconst 0, 1) := by decide +kernel
theorem d_L_update_19 : decode c_L_update 19 = .ok (.ireturn, 1) := by decide +kernel
def T_L_update_0 : List (Nat × bh_Op) := [(0, bo_ald 1 2),
  (1, bo_st 2 (bg_push (.inl (.int 0)))),
  (2, bo_ald 3 0),
  (3, bo_ild 4 1),
  (4, bo_callC 7 2 2 2 3 F_H_update [("java/lang/IllegalArgumentException", 1), ("java/util/NoSuchElementException", 2)]),
  (7, bo_st 8 (bg_i1 (fun x => .inl (.long x.toInt64)))),
  (8, bo_Jast bh_ak bh_al 9),
  (9, bo_go 18),
  (12, bo_ast 13 3),
  (13, bo_st 14 (bg_push (.inl (.int 1)))),
  (14, bo_iret 2),
  (15, bo_ast 16 3),
  (16, bo_st 17 (bg_push (.inl (.int 2)))),
  (17, bo_iret 2),
  (18, bo_st 19 (bg_push (.inl (.int 0)))),
  (19, bo_iret 2)]
def T_L_update : List (Nat × bh_Op) := T_L_update_0
set_option maxRecDepth 20000 in
theorem mT_L_update_0 : ∀ q ∈ T_L_update_0, bh_mono q.2 := List.forall_mem_cons.mpr ⟨bo_ald_m _ _, List.forall_mem_cons.mpr ⟨bo_st_mono (bg_push_m _), List.forall_mem_cons.mpr ⟨bo_ald_m _ _, List.forall_mem_cons.mpr ⟨bo_ild_m _ _, List.forall_mem_cons.mpr ⟨bo_callC_m (mF_H_update) _ _ _ _ _ _, List.forall_mem_cons.mpr ⟨bo_st_mono (bg_i1_m _), List.forall_mem_cons.mpr ⟨bo_Jast_m _ _ _, List.forall_mem_cons.mpr ⟨bo_go_m _, List.forall_mem_cons.mpr ⟨bo_ast_m _ _, List.forall_mem_cons.mpr ⟨bo_st_mono (bg_push_m _), List.forall_mem_cons.mpr ⟨bo_iret_m _, List.forall_mem_cons.mpr ⟨bo_ast_m _ _, List.forall_mem_cons.mpr ⟨bo_st_mono (bg_push_m _), List.forall_mem_cons.mpr ⟨bo_iret_m _, List.forall_mem_cons.mpr ⟨bo_st_mono (bg_push_m _), List.forall_mem_cons.mpr ⟨bo_iret_m _, fun _ h => absurd h List.not_mem_nil⟩⟩⟩⟩⟩⟩⟩⟩⟩⟩⟩⟩⟩⟩⟩⟩
theorem m_L_update : ∀ pc, bh_mono (bh_tb (T_L_update) pc) := bh_tb_m mT_L_update_0
def F_L_update : bh_Fn := bh_fn 4 (bh_tb T_L_update)
theorem mF_L_update : bh_monoF F_L_update := bh_fn_m m_L_update
theorem cl_L_update {s : State} {args : Array Value} (d B : Nat) (hts : ∀ w ∈ bh_ws, w.before args s = true) : bh_Cal (bh_rm (d + 1) B) s y_L_update 4 (.codeWith y_L_update c_L_update 4 (some .int) [(0, 9, 12, 13), (0, 9, 15, 21)] :: bh_ws) (bh_rm d 2) 2 3 := bh_calW d B hts wd_672 wd_0 (by decide) (by decide +kernel)
set_option maxHeartbeats 4000000 in
set_option maxRecDepth 100000 in
theorem cn_L_update {l : Launch} {G : bh_G} {base sb L : Nat} {xs : Nat → Int32} (htr : l.stackTraces = false) (d : Nat) : bh_Con l G base (bh_Bg G base sb L xs) y_L_update (.codeWith y_L_update c_L_update 4 (some .int) [(0, 9, 12, 13), (0, 9, 15, 21)] :: bh_ws) (bh_rm (d + 6) 2) 2 false F_L_update := by
  refine bh_methodW (cc := c_L_update) (ret := (some .int)) (hh := [(0, 9, 12, 13), (0, 9, 15, 21)]) (by decide +kernel) rfl ?_
  intro p e s m args below meth c ad0 M0 Z X0 hr hlocks hname htab hbs hB
  obtain ⟨hx, hb, hml, hown, hts⟩ := id X0
  have hw : ∀ w ∈ bh_ws, w.before args s = true := fun w h => hts w (List.mem_cons_of_mem _ h)
  have hBg := bh_BgK (G := G) (base := base) (sb := sb) (L := L) (xs := xs)
  obtain ⟨hK, hAr, hen, hinj, hu1, hu2, hstr, hX, hsb, hsc, hxw, hao, hnc⟩ := id hB
  obtain ⟨ha1, ha2, ha3, ha4, ha5, ha6, ha0⟩ := bh_arr hAr
  exact List.forall_mem_cons.mpr ⟨fun S h => bs_aload_n (Z := Z) hx hb rfl d_L_update_0 h, List.forall_mem_cons.mpr ⟨fun S h => bs_iconst (Z := Z) hx hb (by decide) d_L_update_1 h, List.forall_mem_cons.mpr ⟨fun S h => bs_aload_n (Z := Z) hx hb rfl d_L_update_2 h, List.forall_mem_cons.mpr ⟨fun S h => bs_iload_n (Z := Z) hx hb rfl d_L_update_3 h, List.forall_mem_cons.mpr ⟨fun S h => bs_callC (Z := Z) (C := R_H) hBg hbs hB X0 hK (cn_H_update htr (d + 0)) (cl_H_update _ _ hw) (hts _ (List.mem_cons_of_mem _ wd_673)) (hts _ (List.mem_cons_of_mem _ wd_674)) (hts _ (List.mem_cons_of_mem _ wd_675)) rfl rfl rfl rfl rfl (Nat.le_refl _) (Nat.le_refl _) hr hlocks (hl := [(12, 13, "java/lang/IllegalArgumentException", 1), (15, 21, "java/util/NoSuchElementException", 2)]) (pe := 9) htab (by decide) (by decide +kernel) (List.forall_mem_cons.mpr ⟨⟨by decide, (hts _ (List.mem_cons_of_mem _ wd_397)), va_Nw.use rfl (hxw _ xw_9)⟩, List.forall_mem_cons.mpr ⟨⟨by decide, (hts _ (List.mem_cons_of_mem _ wd_515)), va_Nw.use rfl (hxw _ xw_11)⟩, fun _ h => absurd h List.not_mem_nil⟩⟩) (bh_nco hnc (by decide +kernel)) (List.forall_mem_cons.mpr ⟨Or.inr ⟨3, 1, by decide, d_L_update_12, d_L_update_13, by decide, d_L_update_14⟩, List.forall_mem_cons.mpr ⟨Or.inr ⟨3, 2, by decide, d_L_update_15, d_L_update_16, by decide, d_L_update_17⟩, fun _ h => absurd h List.not_mem_nil⟩⟩) d_L_update_4 h, List.forall_mem_cons.mpr ⟨fun S h => bs_i2l (Z := Z) hx hb d_L_update_7 h, List.forall_mem_cons.mpr ⟨fun S h => bs_Jast (Z := Z) hx hb ha3 d_L_update_8 h, List.forall_mem_cons.mpr ⟨fun S h => bs_goto (Z := Z) hx hb d_L_update_9 (by decide) h, List.forall_mem_cons.mpr ⟨fun S h => bs_astore_n (Z := Z) hx hb rfl d_L_update_12 h, List.forall_mem_cons.mpr ⟨fun S h => bs_iconst (Z := Z) hx hb (by decide) d_L_update_13 h, List.forall_mem_cons.mpr ⟨fun S h => bs_iret (Z := Z) hx hb hr hlocks d_L_update_14 h, List.forall_mem_cons.mpr ⟨fun S h => bs_astore_n (Z := Z) hx hb rfl d_L_update_15 h, List.forall_mem_cons.mpr ⟨fun S h => bs_iconst (Z := Z) hx hb (by decide) d_L_update_16 h, List.forall_mem_cons.mpr ⟨fun S h => bs_iret (Z := Z) hx hb hr hlocks d_L_update_17 h, List.forall_mem_cons.mpr ⟨fun S h => bs_iconst (Z := Z) hx hb (by decide) d_L_update_18 h, List.forall_mem_cons.mpr ⟨fun S h => bs_iret (Z := Z) hx hb hr hlocks d_L_update_19 h, fun _ h => absurd h List.not_mem_nil⟩⟩⟩⟩⟩⟩⟩⟩⟩⟩⟩⟩⟩⟩⟩⟩
abbrev c_L_register : ByteArray := method_12_code
def y_L_register : MethodName := ⟨"BundleHallLaw", "register", "(LBundleHall;IID[J)I"⟩
theorem d_L_register_0 : decode c_L_register 0 = .ok (.aload 5, 2) := by decide +kernel
theorem d_L_register_2 : decode c_L_register 2 = .ok (.iconst 0, 1) := by decide +kernel
theorem d_L_register_3 : decode c_L_register 3 = .ok (.aload_n 0, 1) := by decide +kernel
theorem d_L_register_4 : decode c_L_register 4 = .ok (.iload_n 1, 1) := by decide +kernel
theorem d_L_register_5 : decode c_L_register 5 = .ok (.iload_n 2, 1) := by decide +kernel
theorem d_L_register_6 : decode c_L_register 6 = .ok (.dload_n 3, 1) := by decide +kernel
theorem d_L_register_7 : decode c_L_register 7 = .ok (.invokevirtual 50, 3) := by decide +kernel
theorem d_L_register_10 : decode c_L_register 10 = .ok (.i2l, 1) := by decide +kernel
theorem d_L_register_11 : decode c_L_register 11 = .ok (.lastore, 1) := by decide +kernel
theorem d_L_register_12 : decode c_L_register 12 = .ok (.goto 19, 3) := by decide +kernel
theorem d_L_register_15 : decode c_L_register 15 = .ok (.astore 6, 2) := by decide +kernel
theorem d_L_register_17 : decode c_L_register 17 = .ok (.iconst 1, 1) := by decide +kernel
theorem d_L_register_18 : decode c_L_register 18 = .ok (.ireturn, 1) := by decide +kernel
theorem d_L_register_19 : decode c_L_register 19 = .ok (.astore 6, 2) := by decide +kernel
theorem d_L_register_21 : decode c_L_register 21 = .ok (.iconst 2, 1) := by decide +kernel
theorem d_L_register_22 : decode c_L_register 22 = .ok (.ireturn, 1) := by decide +kernel
theorem d_L_register_23 : decode c_L_register 23 = .ok (.astore 6, 2) := by decide +kernel
theorem d_L_register_25 : decode c_L_register 25 = .ok (.iconst 3, 1) := by decide +kernel
theorem d_L_register_26 : decode c_L_register 26 = .ok (.ireturn, 1) := by decide +kernel
theorem d_L_register_27 : decode c_L_register 27 = .ok (.astore 6, 2) := by decide +kernel
theorem d_L_register_29 : decode c_L_register 29 = .ok (.iconst 4, 1) := by decide +kernel
theorem d_L_register_30 : decode c_L_register 30 = .ok (.ireturn, 1) := by decide +kernel
theorem d_L_register_31 : decode c_L_register 31 = .ok (.iconst 0, 1) := by decide +kernel
theorem d_L_register_32 : decode c_L_register 32 = .ok (.ireturn, 1) := by decide +kernel
def T_L_register_0 : List (Nat × bh_Op) := [(0, bo_ald 2 5),
  (2, bo_st 3 (bg_push (.inl (.int 0)))),
  (3, bo_ald 4 0),
  (4, bo_ild 5 1),
  (5, bo_ild 6 2),
  (6, bo_dld 7 3),
  (7, bo_callC 10 4 6 6 3 F_H_register [("java/lang/IllegalArgumentException", 1), ("java/util/NoSuchElementException", 2), ("java/lang/IllegalStateException", 3), ("java/lang/UnsupportedOperationException", 4)]),
  (10, bo_st 11 (bg_i1 (fun x => .inl (.long x.toInt64)))),
  (11, bo_Jast bh_ak bh_al 12),
  (12, bo_go 31),
  (15, bo_ast 17 6),
  (17, bo_st 18 (bg_push (.inl (.int 1)))),
  (18, bo_iret 6),
  (19, bo_ast 21 6),
  (21, bo_st 22 (bg_push (.inl (.int 2)))),
  (22, bo_iret 6),
  (23, bo_ast 25 6),
  (25, bo_st 26 (bg_push (.inl (.int 3)))),
  (26, bo_iret 6),
  (27, bo_ast 29 6),
  (29, bo_st 30 (bg_push (.inl (.int 4)))),
  (30, bo_iret 6),
  (31, bo_st 32 (bg_push (.inl (.int 0)))),
  (32, bo_iret 6)]
def T_L_register : List (Nat × bh_Op) := T_L_register_0
set_option maxRecDepth 20000 in
theorem mT_L_register_0 : ∀ q ∈ T_L_register_0, bh_mono q.2 := List.forall_mem_cons.mpr ⟨bo_ald_m _ _, List.forall_mem_cons.mpr ⟨bo_st_mono (bg_push_m _), List.forall_mem_cons.mpr ⟨bo_ald_m _ _, List.forall_mem_cons.mpr ⟨bo_ild_m _ _, List.forall_mem_cons.mpr ⟨bo_ild_m _ _, List.forall_mem_cons.mpr ⟨bo_dld_m _ _, List.forall_mem_cons.mpr ⟨bo_callC_m (mF_H_register) _ _ _ _ _ _, List.forall_mem_cons.mpr ⟨bo_st_mono (bg_i1_m _), List.forall_mem_cons.mpr ⟨bo_Jast_m _ _ _, List.forall_mem_cons.mpr ⟨bo_go_m _, List.forall_mem_cons.mpr ⟨bo_ast_m _ _, List.forall_mem_cons.mpr ⟨bo_st_mono (bg_push_m _), List.forall_mem_cons.mpr ⟨bo_iret_m _, List.forall_mem_cons.mpr ⟨bo_ast_m _ _, List.forall_mem_cons.mpr ⟨bo_st_mono (bg_push_m _), List.forall_mem_cons.mpr ⟨bo_iret_m _, List.forall_mem_cons.mpr ⟨bo_ast_m _ _, List.forall_mem_cons.mpr ⟨bo_st_mono (bg_push_m _), List.forall_mem_cons.mpr ⟨bo_iret_m _, List.forall_mem_cons.mpr ⟨bo_ast_m _ _, List.forall_mem_cons.mpr ⟨bo_st_mono (bg_push_m _), List.forall_mem_cons.mpr ⟨bo_iret_m _, List.forall_mem_cons.mpr ⟨bo_st_mono (bg_push_m _), List.forall_mem_cons.mpr ⟨bo_iret_m _, fun _ h => absurd h List.not_mem_nil⟩⟩⟩⟩⟩⟩⟩⟩⟩⟩⟩⟩⟩⟩⟩⟩⟩⟩⟩⟩⟩⟩⟩⟩
theorem m_L_register : ∀ pc, bh_mono (bh_tb (T_L_register) pc) := bh_tb_m mT_L_register_0
def F_L_register : bh_Fn := bh_fn 7 (bh_tb T_L_register)
theorem mF_L_register : bh_monoF F_L_register := bh_fn_m m_L_register
theorem cl_L_register {s : State} {args : Array Value} (d B : Nat) (hts : ∀ w ∈ bh_ws, w.before args s = true) : bh_Cal (bh_rm (d + 1) B) s y_L_register 7 (.codeWith y_L_register c_L_register 7 (some .int) [(0, 12, 15, 13), (0, 12, 19, 21), (0, 12, 23, 15), (0, 12, 27, 23)] :: bh_ws) (bh_rm d 6) 6 5 := bh_calW d B hts wd_680 wd_0 (by decide) (by decide +kernel)
set_option maxHeartbeats 4000000 in
set_option maxRecDepth 100000 in
theorem cn_L_register {l : Launch} {G : bh_G} {base sb L : Nat} {xs : Nat → Int32} (htr : l.stackTraces = false) (d : Nat) : bh_Con l G base (bh_Bg G base sb L xs) y_L_register (.codeWith y_L_register c_L_register 7 (some .int) [(0, 12, 15, 13), (0, 12, 19, 21), (0, 12, 23, 15), (0, 12, 27, 23)] :: bh_ws) (bh_rm (d + 5) 6) 6 false F_L_register := by
  refine bh_methodW (cc := c_L_register) (ret := (some .int)) (hh := [(0, 12, 15, 13), (0, 12, 19, 21), (0, 12, 23, 15), (0, 12, 27, 23)]) (by decide +kernel) rfl ?_
  intro p e s m args below meth c ad0 M0 Z X0 hr hlocks hname htab hbs hB
  obtain ⟨hx, hb, hml, hown, hts⟩ := id X0
  have hw : ∀ w ∈ bh_ws, w.before args s = true := fun w h => hts w (List.mem_cons_of_mem _ h)
  have hBg := bh_BgK (G := G) (base := base) (sb := sb) (L := L) (xs := xs)
  obtain ⟨hK, hAr, hen, hinj, hu1, hu2, hstr, hX, hsb, hsc, hxw, hao, hnc⟩ := id hB
  obtain ⟨ha1, ha2, ha3, ha4, ha5, ha6, ha0⟩ := bh_arr hAr
  exact List.forall_mem_cons.mpr ⟨fun S h => bs_aload (Z := Z) hx hb d_L_register_0 h, List.forall_mem_cons.mpr ⟨fun S h => bs_iconst (Z := Z) hx hb (by decide) d_L_register_2 h, List.forall_mem_cons.mpr ⟨fun S h => bs_aload_n (Z := Z) hx hb rfl d_L_register_3 h, List.forall_mem_cons.mpr ⟨fun S h => bs_iload_n (Z := Z) hx hb rfl d_L_register_4 h, List.forall_mem_cons.mpr ⟨fun S h => bs_iload_n (Z := Z) hx hb rfl d_L_register_5 h, List.forall_mem_cons.mpr ⟨fun S h => bs_dload_n (Z := Z) hx hb rfl d_L_register_6 h, List.forall_mem_cons.mpr ⟨fun S h => bs_callC (Z := Z) (C := R_H) hBg hbs hB X0 hK (cn_H_register htr (d + 0)) (cl_H_register _ _ hw) (hts _ (List.mem_cons_of_mem _ wd_681)) (hts _ (List.mem_cons_of_mem _ wd_682)) (hts _ (List.mem_cons_of_mem _ wd_683)) rfl rfl rfl rfl rfl (Nat.le_refl _) (Nat.le_refl _) hr hlocks (hl := [(15, 13, "java/lang/IllegalArgumentException", 1), (19, 21, "java/util/NoSuchElementException", 2), (23, 15, "java/lang/IllegalStateException", 3), (27, 23, "java/lang/UnsupportedOperationException", 4)]) (pe := 12) htab (by decide) (by decide +kernel) (List.forall_mem_cons.mpr ⟨⟨by decide, (hts _ (List.mem_cons_of_mem _ wd_397)), va_Nw.use rfl (hxw _ xw_9)⟩, List.forall_mem_cons.mpr ⟨⟨by decide, (hts _ (List.mem_cons_of_mem _ wd_515)), va_Nw.use rfl (hxw _ xw_11)⟩, List.forall_mem_cons.mpr ⟨⟨by decide, (hts _ (List.mem_cons_of_mem _ wd_398)), va_Nw.use rfl (hxw _ xw_10)⟩, List.forall_mem_cons.mpr ⟨⟨by decide, (hts _ (List.mem_cons_of_mem _ wd_516)), va_Nw.use rfl (hxw _ xw_12)⟩, fun _ h => absurd h List.not_mem_nil⟩⟩⟩⟩) (bh_nco hnc (by decide +kernel)) (List.forall_mem_cons.mpr ⟨Or.inl ⟨6, 1, by decide, d_L_register_15, d_L_register_17, by decide, d_L_register_18⟩, List.forall_mem_cons.mpr ⟨Or.inl ⟨6, 2, by decide, d_L_register_19, d_L_register_21, by decide, d_L_register_22⟩, List.forall_mem_cons.mpr ⟨Or.inl ⟨6, 3, by decide, d_L_register_23, d_L_register_25, by decide, d_L_register_26⟩, List.forall_mem_cons.mpr ⟨Or.inl ⟨6, 4, by decide, d_L_register_27, d_L_register_29, by decide, d_L_register_30⟩, fun _ h => absurd h List.not_mem_nil⟩⟩⟩⟩) d_L_register_7 h, List.forall_mem_cons.mpr ⟨fun S h => bs_i2l (Z := Z) hx hb d_L_register_10 h, List.forall_mem_cons.mpr ⟨fun S h => bs_Jast (Z := Z) hx hb ha3 d_L_register_11 h, List.forall_mem_cons.mpr ⟨fun S h => bs_goto (Z := Z) hx hb d_L_register_12 (by decide) h, List.forall_mem_cons.mpr ⟨fun S h => bs_astore (Z := Z) hx hb d_L_register_15 h, List.forall_mem_cons.mpr ⟨fun S h => bs_iconst (Z := Z) hx hb (by decide) d_L_register_17 h, List.forall_mem_cons.mpr ⟨fun S h => bs_iret (Z := Z) hx hb hr hlocks d_L_register_18 h, List.forall_mem_cons.mpr ⟨fun S h => bs_astore (Z := Z) hx hb d_L_register_19 h, List.forall_mem_cons.mpr ⟨fun S h => bs_iconst (Z := Z) hx hb (by decide) d_L_register_21 h, List.forall_mem_cons.mpr ⟨fun S h => bs_iret (Z := Z) hx hb hr hlocks d_L_register_22 h, List.forall_mem_cons.mpr ⟨fun S h => bs_astore (Z := Z) hx hb d_L_register_23 h, List.forall_mem_cons.mpr ⟨fun S h => bs_iconst (Z := Z) hx hb (by decide) d_L_register_25 h, List.forall_mem_cons.mpr ⟨fun S h => bs_iret (Z := Z) hx hb hr hlocks d_L_register_26 h, List.forall_mem_cons.mpr ⟨fun S h => bs_astore (Z := Z) hx hb d_L_register_27 h, List.forall_mem_cons.mpr ⟨fun S h => bs_iconst (Z := Z) hx hb (by decide) d_L_register_29 h, List.forall_mem_cons.mpr ⟨fun S h => bs_iret (Z := Z) hx hb hr hlocks d_L_register_30 h, List.forall_mem_cons.mpr ⟨fun S h => bs_iconst (Z := Z) hx hb (by decide) d_L_register_31 h, List.forall_mem_cons.mpr ⟨fun S h => bs_iret (Z := Z) hx hb hr hlocks d_L_register_32 h, fun _ h => absurd h List.not_mem_nil⟩⟩⟩⟩⟩⟩⟩⟩⟩⟩⟩⟩⟩⟩⟩⟩⟩⟩⟩⟩⟩⟩⟩⟩
abbrev c_L_get : ByteArray := method_13_code
def y_L_get : MethodName := ⟨"BundleHallLaw", "get", "(LBundleHall;II[J)I"⟩
theorem d_L_get_0 : decode c_L_get 0 = .ok (.aload_n 3, 1) := by decide +kernel
theorem d_L_get_1 : decode c_L_get 1 = .ok (.iconst 0, 1) := by decide +kernel
theorem d_L_get_2 : decode c_L_get 2 = .ok (.aload_n 0, 1) := by decide +kernel
theorem d_L_get_3 : decode c_L_get 3 = .ok (.iload_n 1, 1) := by decide +kernel
theorem d_L_get_4 : decode c_L_get 4 = .ok (.iload_n 2, 1) := by decide +kernel
theorem d_L_get_5 : decode c_L_get 5 = .ok (.invokevirtual 54, 3) := by decide +kernel
theorem d_L_get_8 : decode c_L_get 8 = .ok (.i2l, 1) := by decide +kernel
theorem d_L_get_9 : decode c_L_get 9 = .ok (.lastore, 1) := by decide +kernel
theorem d_L_get_10 : decode c_L_get 10 = .ok (.goto 19, 3) := by decide +kernel
theorem d_L_get_13 : decode c_L_get 13 = .ok (.astore 4, 2) := by decide +kernel
theorem d_L_get_15 : decode c_L_get 15 = .ok (.iconst 1, 1) := by decide +kernel
theorem d_L_get_16 : decode c_L_get 16 = .ok (.ireturn, 1) := by decide +kernel
theorem d_L_get_17 : decode c_L_get 17 = .ok (.astore 4, 2) := by decide +kernel
theorem d_L_get_19 : decode c_L_get 19 = .ok (.iconst 2, 1) := by decide +kernel
theorem d_L_get_20 : decode c_L_get 20 = .ok (.ireturn, 1) := by decide +kernel
theorem d_L_get_21 : decode c_L_get 21 = .ok (.astore 4, 2) := by decide +kernel
theorem d_L_get_23 : decode c_L_get 23 = .ok (.iconst 3, 1) := by decide +kernel
theorem d_L_get_24 : decode c_L_get 24 = .ok (.ireturn, 1) := by decide +kernel
theorem d_L_get_25 : decode c_L_get 25 = .ok (.astore 4, 2) := by decide +kernel
theorem d_L_get_27 : decode c_L_get 27 = .ok (.iconst 4, 1) := by decide +kernel
theorem d_L_get_28 : decode c_L_get 28 = .ok (.ireturn, 1) := by decide +kernel
theorem d_L_get_29 : decode c_L_get 29 = .ok (.iconst 0, 1) := by decide +kernel
theorem d_L_get_30 : decode c_L_get 30 = .ok (.ireturn, 1) := by decide +kernel
def T_L_get_0 : List (Nat × bh_Op) := [(0, bo_ald 1 3),
  (1, bo_st 2 (bg_push (.inl (.int 0)))),
  (2, bo_ald 3 0),
  (3, bo_ild 4 1),
  (4, bo_ild 5 2),
  (5, bo_callC 8 3 5 5 3 F_H_get [("java/lang/IllegalArgumentException", 1), ("java/util/NoSuchElementException", 2), ("java/lang/IllegalStateException", 3), ("java/lang/UnsupportedOperationException", 4)]),
  (8, bo_st 9 (bg_i1 (fun x => .inl (.long x.toInt64)))),
  (9, bo_Jast bh_ak bh_al 10),
  (10, bo_go 29),
  (13, bo_ast 15 4),
  (15, bo_st 16 (bg_push (.inl (.int 1)))),
  (16, bo_iret 5),
  (17, bo_ast 19 4),
  (19, bo_st 20 (bg_push (.inl (.int 2)))),
  (20, bo_iret 5),
  (21, bo_ast 23 4),
  (23, bo_st 24 (bg_push (.inl (.int 3)))),
  (24, bo_iret 5),
  (25, bo_ast 27 4),
  (27, bo_st 28 (bg_push (.inl (.int 4)))),
  (28, bo_iret 5),
  (29, bo_st 30 (bg_push (.inl (.int 0)))),
  (30, bo_iret 5)]
def T_L_get : List (Nat × bh_Op) := T_L_get_0
set_option maxRecDepth 20000 in
theorem mT_L_get_0 : ∀ q ∈ T_L_get_0, bh_mono q.2 := List.forall_mem_cons.mpr ⟨bo_ald_m _ _, List.forall_mem_cons.mpr ⟨bo_st_mono (bg_push_m _), List.forall_mem_cons.mpr ⟨bo_ald_m _ _, List.forall_mem_cons.mpr ⟨bo_ild_m _ _, List.forall_mem_cons.mpr ⟨bo_ild_m _ _, List.forall_mem_cons.mpr ⟨bo_callC_m (mF_H_get) _ _ _ _ _ _, List.forall_mem_cons.mpr ⟨bo_st_mono (bg_i1_m _), List.forall_mem_cons.mpr ⟨bo_Jast_m _ _ _, List.forall_mem_cons.mpr ⟨bo_go_m _, List.forall_mem_cons.mpr ⟨bo_ast_m _ _, List.forall_mem_cons.mpr ⟨bo_st_mono (bg_push_m _), List.forall_mem_cons.mpr ⟨bo_iret_m _, List.forall_mem_cons.mpr ⟨bo_ast_m _ _, List.forall_mem_cons.mpr ⟨bo_st_mono (bg_push_m _), List.forall_mem_cons.mpr ⟨bo_iret_m _, List.forall_mem_cons.mpr ⟨bo_ast_m _ _, List.forall_mem_cons.mpr ⟨bo_st_mono (bg_push_m _), List.forall_mem_cons.mpr ⟨bo_iret_m _, List.forall_mem_cons.mpr ⟨bo_ast_m _ _, List.forall_mem_cons.mpr ⟨bo_st_mono (bg_push_m _), List.forall_mem_cons.mpr ⟨bo_iret_m _, List.forall_mem_cons.mpr ⟨bo_st_mono (bg_push_m _), List.forall_mem_cons.mpr ⟨bo_iret_m _, fun _ h => absurd h List.not_mem_nil⟩⟩⟩⟩⟩⟩⟩⟩⟩⟩⟩⟩⟩⟩⟩⟩⟩⟩⟩⟩⟩⟩⟩
theorem m_L_get : ∀ pc, bh_mono (bh_tb (T_L_get) pc) := bh_tb_m mT_L_get_0
def F_L_get : bh_Fn := bh_fn 5 (bh_tb T_L_get)
theorem mF_L_get : bh_monoF F_L_get := bh_fn_m m_L_get
theorem cl_L_get {s : State} {args : Array Value} (d B : Nat) (hts : ∀ w ∈ bh_ws, w.before args s = true) : bh_Cal (bh_rm (d + 1) B) s y_L_get 5 (.codeWith y_L_get c_L_get 5 (some .int) [(0, 10, 13, 13), (0, 10, 17, 21), (0, 10, 21, 15), (0, 10, 25, 23)] :: bh_ws) (bh_rm d 5) 5 4 := bh_calW d B hts wd_698 wd_0 (by decide) (by decide +kernel)
set_option maxHeartbeats 4000000 in
set_option maxRecDepth 100000 in
theorem cn_L_get {l : Launch} {G : bh_G} {base sb L : Nat} {xs : Nat → Int32} (htr : l.stackTraces = false) (d : Nat) : bh_Con l G base (bh_Bg G base sb L xs) y_L_get (.codeWith y_L_get c_L_get 5 (some .int) [(0, 10, 13, 13), (0, 10, 17, 21), (0, 10, 21, 15), (0, 10, 25, 23)] :: bh_ws) (bh_rm (d + 4) 5) 5 false F_L_get := by
  refine bh_methodW (cc := c_L_get) (ret := (some .int)) (hh := [(0, 10, 13, 13), (0, 10, 17, 21), (0, 10, 21, 15), (0, 10, 25, 23)]) (by decide +kernel) rfl ?_
  intro p e s m args below meth c ad0 M0 Z X0 hr hlocks hname htab hbs hB
  obtain ⟨hx, hb, hml, hown, hts⟩ := id X0
  have hw : ∀ w ∈ bh_ws, w.before args s = true := fun w h => hts w (List.mem_cons_of_mem _ h)
  have hBg := bh_BgK (G := G) (base := base) (sb := sb) (L := L) (xs := xs)
  obtain ⟨hK, hAr, hen, hinj, hu1, hu2, hstr, hX, hsb, hsc, hxw, hao, hnc⟩ := id hB
  obtain ⟨ha1, ha2, ha3, ha4, ha5, ha6, ha0⟩ := bh_arr hAr
  exact List.forall_mem_cons.mpr ⟨fun S h => bs_aload_n (Z := Z) hx hb rfl d_L_get_0 h, List.forall_mem_cons.mpr ⟨fun S h => bs_iconst (Z := Z) hx hb (by decide) d_L_get_1 h, List.forall_mem_cons.mpr ⟨fun S h => bs_aload_n (Z := Z) hx hb rfl d_L_get_2 h, List.forall_mem_cons.mpr ⟨fun S h => bs_iload_n (Z := Z) hx hb rfl d_L_get_3 h, List.forall_mem_cons.mpr ⟨fun S h => bs_iload_n (Z := Z) hx hb rfl d_L_get_4 h, List.forall_mem_cons.mpr ⟨fun S h => bs_callC (Z := Z) (C := R_H) hBg hbs hB X0 hK (cn_H_get htr (d + 0)) (cl_H_get _ _ hw) (hts _ (List.mem_cons_of_mem _ wd_699)) (hts _ (List.mem_cons_of_mem _ wd_700)) (hts _ (List.mem_cons_of_mem _ wd_701)) rfl rfl rfl rfl rfl (Nat.le_refl _) (Nat.le_refl _) hr hlocks (hl := [(13, 13, "java/lang/IllegalArgumentException", 1), (17, 21, "java/util/NoSuchElementException", 2), (21, 15, "java/lang/IllegalStateException", 3), (25, 23, "java/lang/UnsupportedOperationException", 4)]) (pe := 10) htab (by decide) (by decide +kernel) (List.forall_mem_cons.mpr ⟨⟨by decide, (hts _ (List.mem_cons_of_mem _ wd_397)), va_Nw.use rfl (hxw _ xw_9)⟩, List.forall_mem_cons.mpr ⟨⟨by decide, (hts _ (List.mem_cons_of_mem _ wd_515)), va_Nw.use rfl (hxw _ xw_11)⟩, List.forall_mem_cons.mpr ⟨⟨by decide, (hts _ (List.mem_cons_of_mem _ wd_398)), va_Nw.use rfl (hxw _ xw_10)⟩, List.forall_mem_cons.mpr ⟨⟨by decide, (hts _ (List.mem_cons_of_mem _ wd_516)), va_Nw.use rfl (hxw _ xw_12)⟩, fun _ h => absurd h List.not_mem_nil⟩⟩⟩⟩) (bh_nco hnc (by decide +kernel)) (List.forall_mem_cons.mpr ⟨Or.inl ⟨4, 1, by decide, d_L_get_13, d_L_get_15, by decide, d_L_get_16⟩, List.forall_mem_cons.mpr ⟨Or.inl ⟨4, 2, by decide, d_L_get_17, d_L_get_19, by decide, d_L_get_20⟩, List.forall_mem_cons.mpr ⟨Or.inl ⟨4, 3, by decide, d_L_get_21, d_L_get_23, by decide, d_L_get_24⟩, List.forall_mem_cons.mpr ⟨Or.inl ⟨4, 4, by decide, d_L_get_25, d_L_get_27, by decide, d_L_get_28⟩, fun _ h => absurd h List.not_mem_nil⟩⟩⟩⟩) d_L_get_5 h, List.forall_mem_cons.mpr ⟨fun S h => bs_i2l (Z := Z) hx hb d_L_get_8 h, List.forall_mem_cons.mpr ⟨fun S h => bs_Jast (Z := Z) hx hb ha3 d_L_get_9 h, List.forall_mem_cons.mpr ⟨fun S h => bs_goto (Z := Z) hx hb d_L_get_10 (by decide) h, List.forall_mem_cons.mpr ⟨fun S h => bs_astore (Z := Z) hx hb d_L_get_13 h, List.forall_mem_cons.mpr ⟨fun S h => bs_iconst (Z := Z) hx hb (by decide) d_L_get_15 h, List.forall_mem_cons.mpr ⟨fun S h => bs_iret (Z := Z) hx hb hr hlocks d_L_get_16 h, List.forall_mem_cons.mpr ⟨fun S h => bs_astore (Z := Z) hx hb d_L_get_17 h, List.forall_mem_cons.mpr ⟨fun S h => bs_iconst (Z := Z) hx hb (by decide) d_L_get_19 h, List.forall_mem_cons.mpr ⟨fun S h => bs_iret (Z := Z) hx hb hr hlocks d_L_get_20 h, List.forall_mem_cons.mpr ⟨fun S h => bs_astore (Z := Z) hx hb d_L_get_21 h, List.forall_mem_cons.mpr ⟨fun S h => bs_iconst (Z := Z) hx hb (by decide) d_L_get_23 h, List.forall_mem_cons.mpr ⟨fun S h => bs_iret (Z := Z) hx hb hr hlocks d_L_get_24 h, List.forall_mem_cons.mpr ⟨fun S h => bs_astore (Z := Z) hx hb d_L_get_25 h, List.forall_mem_cons.mpr ⟨fun S h => bs_iconst (Z := Z) hx hb (by decide) d_L_get_27 h, List.forall_mem_cons.mpr ⟨fun S h => bs_iret (Z := Z) hx hb hr hlocks d_L_get_28 h, List.forall_mem_cons.mpr ⟨fun S h => bs_iconst (Z := Z) hx hb (by decide) d_L_get_29 h, List.forall_mem_cons.mpr ⟨fun S h => bs_iret (Z := Z) hx hb hr hlocks d_L_get_30 h, fun _ h => absurd h List.not_mem_nil⟩⟩⟩⟩⟩⟩⟩⟩⟩⟩⟩⟩⟩⟩⟩⟩⟩⟩⟩⟩⟩⟩⟩
abbrev c_L_giveBack : ByteArray := method_14_code
def y_L_giveBack : MethodName := ⟨"BundleHallLaw", "giveBack", "(LBundleHall;II[J)I"⟩
theorem d_L_giveBack_0 : decode c_L_giveBack 0 = .ok (.aload_n 3, 1) := by decide +kernel
theorem d_L_giveBack_1 : decode c_L_giveBack 1 = .ok (.iconst 0, 1) := by decide +kernel
theorem d_L_giveBack_2 : decode c_L_giveBack 2 = .ok (.aload_n 0, 1) := by decide +kernel
theorem d_L_giveBack_3 : decode c_L_giveBack 3 = .ok (.iload_n 1, 1) := by decide +kernel
theorem d_L_giveBack_4 : decode c_L_giveBack 4 = .ok (.iload_n 2, 1) := by decide +kernel
theorem d_L_giveBack_5 : decode c_L_giveBack 5 = .ok (.invokevirtual 58, 3) := by decide +kernel
theorem d_L_giveBack_8 : decode c_L_giveBack 8 = .ok (.i2l, 1) := by decide +kernel
theorem d_L_giveBack_9 : decode c_L_giveBack 9 = .ok (.lastore, 1) := by decide +kernel
theorem d_L_giveBack_10 : decode c_L_giveBack 10 = .ok (.goto 15, 3) := by decide +kernel
theorem d_L_giveBack_13 : decode c_L_giveBack 13 = .ok (.astore 4, 2) := by decide +kernel
theorem d_L_giveBack_15 : decode c_L_giveBack 15 = .ok (.iconst 1, 1) := by decide +kernel
theorem d_L_giveBack_16 : decode c_L_giveBack 16 = .ok (.ireturn, 1) := by decide +kernel
theorem d_L_giveBack_17 : decode c_L_giveBack 17 = .ok (.astore 4, 2) := by decide +kernel
theorem d_L_giveBack_19 : decode c_L_giveBack 19 = .ok (.iconst 2, 1) := by decide +kernel
theorem d_L_giveBack_20 : decode c_L_giveBack 20 = .ok (.ireturn, 1) := by decide +kernel
theorem d_L_giveBack_21 : decode c_L_giveBack 21 = .ok (.astore 4, 2) := by decide +kernel
theorem d_L_giveBack_23 : decode c_L_giveBack 23 = .ok (.iconst 3, 1) := by decide +kernel
theorem d_L_giveBack_24 : decode c_L_giveBack 24 = .ok (.ireturn, 1) := by decide +kernel
theorem d_L_giveBack_25 : decode c_L_giveBack 25 = .ok (.iconst 0, 1) := by decide +kernel
theorem d_L_giveBack_26 : decode c_L_giveBack 26 = .ok (.ireturn, 1) := by decide +kernel
def T_L_giveBack_0 : List (Nat × bh_Op) := [(0, bo_ald 1 3),
  (1, bo_st 2 (bg_push (.inl (.int 0)))),
  (2, bo_ald 3 0),
  (3, bo_ild 4 1),
  (4, bo_ild 5 2),
  (5, bo_callC 8 3 4 4 3 F_H_giveBack [("java/lang/IllegalArgumentException", 1), ("java/util/NoSuchElementException", 2), ("java/lang/UnsupportedOperationException", 3)]),
  (8, bo_st 9 (bg_i1 (fun x => .inl (.long x.toInt64)))),
  (9, bo_Jast bh_ak bh_al 10),
  (10, bo_go 25),
  (13, bo_ast 15 4),
  (15, bo_st 16 (bg_push (.inl (.int 1)))),
  (16, bo_iret 4),
  (17, bo_ast 19 4),
  (19, bo_st 20 (bg_push (.inl (.int 2)))),
  (20, bo_iret 4),
  (21, bo_ast 23 4),
  (23, bo_st 24 (bg_push (.inl (.int 3)))),
  (24, bo_iret 4),
  (25, bo_st 26 (bg_push (.inl (.int 0)))),
  (26, bo_iret 4)]
def T_L_giveBack : List (Nat × bh_Op) := T_L_giveBack_0
set_option maxRecDepth 20000 in
theorem mT_L_giveBack_0 : ∀ q ∈ T_L_giveBack_0, bh_mono q.2 := List.forall_mem_cons.mpr ⟨bo_ald_m _ _, List.forall_mem_cons.mpr ⟨bo_st_mono (bg_push_m _), List.forall_mem_cons.mpr ⟨bo_ald_m _ _, List.forall_mem_cons.mpr ⟨bo_ild_m _ _, List.forall_mem_cons.mpr ⟨bo_ild_m _ _, List.forall_mem_cons.mpr ⟨bo_callC_m (mF_H_giveBack) _ _ _ _ _ _, List.forall_mem_cons.mpr ⟨bo_st_mono (bg_i1_m _), List.forall_mem_cons.mpr ⟨bo_Jast_m _ _ _, List.forall_mem_cons.mpr ⟨bo_go_m _, List.forall_mem_cons.mpr ⟨bo_ast_m _ _, List.forall_mem_cons.mpr ⟨bo_st_mono (bg_push_m _), List.forall_mem_cons.mpr ⟨bo_iret_m _, List.forall_mem_cons.mpr ⟨bo_ast_m _ _, List.forall_mem_cons.mpr ⟨bo_st_mono (bg_push_m _), List.forall_mem_cons.mpr ⟨bo_iret_m _, List.forall_mem_cons.mpr ⟨bo_ast_m _ _, List.forall_mem_cons.mpr ⟨bo_st_mono (bg_push_m _), List.forall_mem_cons.mpr ⟨bo_iret_m _, List.forall_mem_cons.mpr ⟨bo_st_mono (bg_push_m _), List.forall_mem_cons.mpr ⟨bo_iret_m _, fun _ h => absurd h List.not_mem_nil⟩⟩⟩⟩⟩⟩⟩⟩⟩⟩⟩⟩⟩⟩⟩⟩⟩⟩⟩⟩
theorem m_L_giveBack : ∀ pc, bh_mono (bh_tb (T_L_giveBack) pc) := bh_tb_m mT_L_giveBack_0
def F_L_giveBack : bh_Fn := bh_fn 5 (bh_tb T_L_giveBack)
theorem mF_L_giveBack : bh_monoF F_L_giveBack := bh_fn_m m_L_giveBack
theorem cl_L_giveBack {s : State} {args : Array Value} (d B : Nat) (hts : ∀ w ∈ bh_ws, w.before args s = true) : bh_Cal (bh_rm (d + 1) B) s y_L_giveBack 5 (.codeWith y_L_giveBack c_L_giveBack 5 (some .int) [(0, 10, 13, 13), (0, 10, 17, 21), (0, 10, 21, 23)] :: bh_ws) (bh_rm d 4) 4 4 := bh_calW d B hts wd_706 wd_0 (by decide) (by decide +kernel)
set_option maxHeartbeats 4000000 in
set_option maxRecDepth 100000 in
theorem cn_L_giveBack {l : Launch} {G : bh_G} {base sb L : Nat} {xs : Nat → Int32} (htr : l.stackTraces = false) (d : Nat) : bh_Con l G base (bh_Bg G base sb L xs) y_L_giveBack (.codeWith y_L_giveBack c_L_giveBack 5 (some .int) [(0, 10, 13, 13), (0, 10, 17, 21), (0, 10, 21, 23)] :: bh_ws) (bh_rm (d + 4) 4) 4 false F_L_giveBack := by
  refine bh_methodW (cc := c_L_giveBack) (ret := (some .int)) (hh := [(0, 10, 13, 13), (0, 10, 17, 21), (0, 10, 21, 23)]) (by decide +kernel) rfl ?_
  intro p e s m args below meth c ad0 M0 Z X0 hr hlocks hname htab hbs hB
  obtain ⟨hx, hb, hml, hown, hts⟩ := id X0
  have hw : ∀ w ∈ bh_ws, w.before args s = true := fun w h => hts w (List.mem_cons_of_mem _ h)
  have hBg := bh_BgK (G := G) (base := base) (sb := sb) (L := L) (xs := xs)
  obtain ⟨hK, hAr, hen, hinj, hu1, hu2, hstr, hX, hsb, hsc, hxw, hao, hnc⟩ := id hB
  obtain ⟨ha1, ha2, ha3, ha4, ha5, ha6, ha0⟩ := bh_arr hAr
  exact List.forall_mem_cons.mpr ⟨fun S h => bs_aload_n (Z := Z) hx hb rfl d_L_giveBack_0 h, List.forall_mem_cons.mpr ⟨fun S h => bs_iconst (Z := Z) hx hb (by decide) d_L_giveBack_1 h, List.forall_mem_cons.mpr ⟨fun S h => bs_aload_n (Z := Z) hx hb rfl d_L_giveBack_2 h, List.forall_mem_cons.mpr ⟨fun S h => bs_iload_n (Z := Z) hx hb rfl d_L_giveBack_3 h, List.forall_mem_cons.mpr ⟨fun S h => bs_iload_n (Z := Z) hx hb rfl d_L_giveBack_4 h, List.forall_mem_cons.mpr ⟨fun S h => bs_callC (Z := Z) (C := R_H) hBg hbs hB X0 hK (cn_H_giveBack htr (d + 0)) (cl_H_giveBack _ _ hw) (hts _ (List.mem_cons_of_mem _ wd_707)) (hts _ (List.mem_cons_of_mem _ wd_708)) (hts _ (List.mem_cons_of_mem _ wd_709)) rfl rfl rfl rfl rfl (Nat.le_refl _) (Nat.le_refl _) hr hlocks (hl := [(13, 13, "java/lang/IllegalArgumentException", 1), (17, 21, "java/util/NoSuchElementException", 2), (21, 23, "java/lang/UnsupportedOperationException", 3)]) (pe := 10) htab (by decide) (by decide +kernel) (List.forall_mem_cons.mpr ⟨⟨by decide, (hts _ (List.mem_cons_of_mem _ wd_397)), va_Nw.use rfl (hxw _ xw_9)⟩, List.forall_mem_cons.mpr ⟨⟨by decide, (hts _ (List.mem_cons_of_mem _ wd_515)), va_Nw.use rfl (hxw _ xw_11)⟩, List.forall_mem_cons.mpr ⟨⟨by decide, (hts _ (List.mem_cons_of_mem _ wd_516)), va_Nw.use rfl (hxw _ xw_12)⟩, fun _ h => absurd h List.not_mem_nil⟩⟩⟩) (bh_nco hnc (by decide +kernel)) (List.forall_mem_cons.mpr ⟨Or.inl ⟨4, 1, by decide, d_L_giveBack_13, d_L_giveBack_15, by decide, d_L_giveBack_16⟩, List.forall_mem_cons.mpr ⟨Or.inl ⟨4, 2, by decide, d_L_giveBack_17, d_L_giveBack_19, by decide, d_L_giveBack_20⟩, List.forall_mem_cons.mpr ⟨Or.inl ⟨4, 3, by decide, d_L_giveBack_21, d_L_giveBack_23, by decide, d_L_giveBack_24⟩, fun _ h => absurd h List.not_mem_nil⟩⟩⟩) d_L_giveBack_5 h, List.forall_mem_cons.mpr ⟨fun S h => bs_i2l (Z := Z) hx hb d_L_giveBack_8 h, List.forall_mem_cons.mpr ⟨fun S h => bs_Jast (Z := Z) hx hb ha3 d_L_giveBack_9 h, List.forall_mem_cons.mpr ⟨fun S h => bs_goto (Z := Z) hx hb d_L_giveBack_10 (by decide) h, List.forall_mem_cons.mpr ⟨fun S h => bs_astore (Z := Z) hx hb d_L_giveBack_13 h, List.forall_mem_cons.mpr ⟨fun S h => bs_iconst (Z := Z) hx hb (by decide) d_L_giveBack_15 h, List.forall_mem_cons.mpr ⟨fun S h => bs_iret (Z := Z) hx hb hr hlocks d_L_giveBack_16 h, List.forall_mem_cons.mpr ⟨fun S h => bs_astore (Z := Z) hx hb d_L_giveBack_17 h, List.forall_mem_cons.mpr ⟨fun S h => bs_iconst (Z := Z) hx hb (by decide) d_L_giveBack_19 h, List.forall_mem_cons.mpr ⟨fun S h => bs_iret (Z := Z) hx hb hr hlocks d_L_giveBack_20 h, List.forall_mem_cons.mpr ⟨fun S h => bs_astore (Z := Z) hx hb d_L_giveBack_21 h, List.forall_mem_cons.mpr ⟨fun S h => bs_iconst (Z := Z) hx hb (by decide) d_L_giveBack_23 h, List.forall_mem_cons.mpr ⟨fun S h => bs_iret (Z := Z) hx hb hr hlocks d_L_giveBack_24 h, List.forall_mem_cons.mpr ⟨fun S h => bs_iconst (Z := Z) hx hb (by decide) d_L_giveBack_25 h, List.forall_mem_cons.mpr ⟨fun S h => bs_iret (Z := Z) hx hb hr hlocks d_L_giveBack_26 h, fun _ h => absurd h List.not_mem_nil⟩⟩⟩⟩⟩⟩⟩⟩⟩⟩⟩⟩⟩⟩⟩⟩⟩⟩⟩⟩
abbrev c_L_unregister : ByteArray := method_15_code
def y_L_unregister : MethodName := ⟨"BundleHallLaw", "unregister", "(LBundleHall;II[J)I"⟩
theorem d_L_unregister_0 : decode c_L_unregister 0 = .ok (.aload_n 3, 1) := by decide +kernel
theorem d_L_unregister_1 : decode c_L_unregister 1 = .ok (.iconst 0, 1) := by decide +kernel
theorem d_L_unregister_2 : decode c_L_unregister 2 = .ok (.aload_n 0, 1) := by decide +kernel
theorem d_L_unregister_3 : decode c_L_unregister 3 = .ok (.iload_n 1, 1) := by decide +kernel
theorem d_L_unregister_4 : decode c_L_unregister 4 = .ok (.iload_n 2, 1) := by decide +kernel
theorem d_L_unregister_5 : decode c_L_unregister 5 = .ok (.invokevirtual 61, 3) := by decide +kernel
theorem d_L_unregister_8 : decode c_L_unregister 8 = .ok (.i2l, 1) := by decide +kernel
theorem d_L_unregister_9 : decode c_L_unregister 9 = .ok (.lastore, 1) := by decide +kernel
theorem d_L_unregister_10 : decode c_L_unregister 10 = .ok (.goto 15, 3) := by decide +kernel
theorem d_L_unregister_13 : decode c_L_unregister 13 = .ok (.astore 4, 2) := by decide +kernel
theorem d_L_unregister_15 : decode c_L_unregister 15 = .ok (.iconst 1, 1) := by decide +kernel
theorem d_L_unregister_16 : decode c_L_unregister 16 = .ok (.ireturn, 1) := by decide +kernel
theorem d_L_unregister_17 : decode c_L_unregister 17 = .ok (.astore 4, 2) := by decide +kernel
theorem d_L_unregister_19 : decode c_L_unregister 19 = .ok (.iconst 2, 1) := by decide +kernel
theorem d_L_unregister_20 : decode c_L_unregister 20 = .ok (.ireturn, 1) := by decide +kernel
theorem d_L_unregister_21 : decode c_L_unregister 21 = .ok (.astore 4, 2) := by decide +kernel
theorem d_L_unregister_23 : decode c_L_unregister 23 = .ok (.iconst 3, 1) := by decide +kernel
theorem d_L_unregister_24 : decode c_L_unregister 24 = .ok (.ireturn, 1) := by decide +kernel
theorem d_L_unregister_25 : decode c_L_unregister 25 = .ok (.iconst 0, 1) := by decide +kernel
theorem d_L_unregister_26 : decode c_L_unregister 26 = .ok (.ireturn, 1) := by decide +kernel
def T_L_unregister_0 : List (Nat × bh_Op) := [(0, bo_ald 1 3),
  (1, bo_st 2 (bg_push (.inl (.int 0)))),
  (2, bo_ald 3 0),
  (3, bo_ild 4 1),
  (4, bo_ild 5 2),
  (5, bo_callC 8 3 4 4 3 F_H_unregister [("java/lang/IllegalArgumentException", 1), ("java/util/NoSuchElementException", 2), ("java/lang/UnsupportedOperationException", 3)]),
  (8, bo_st 9 (bg_i1 (fun x => .inl (.long x.toInt64)))),
  (9, bo_Jast bh_ak bh_al 10),
  (10, bo_go 25),
  (13, bo_ast 15 4),
  (15, bo_st 16 (bg_push (.inl (.int 1)))),
  (16, bo_iret 4),
  (17, bo_ast 19 4),
  (19, bo_st 20 (bg_push (.inl (.int 2)))),
  (20, bo_iret 4),
  (21, bo_ast 23 4),
  (23, bo_st 24 (bg_push (.inl (.int 3)))),
  (24, bo_iret 4),
  (25, bo_st 26 (bg_push (.inl (.int 0)))),
  (26, bo_iret 4)]
def T_L_unregister : List (Nat × bh_Op) := T_L_unregister_0
set_option maxRecDepth 20000 in
theorem mT_L_unregister_0 : ∀ q ∈ T_L_unregister_0, bh_mono q.2 := List.forall_mem_cons.mpr ⟨bo_ald_m _ _, List.forall_mem_cons.mpr ⟨bo_st_mono (bg_push_m _), List.forall_mem_cons.mpr ⟨bo_ald_m _ _, List.forall_mem_cons.mpr ⟨bo_ild_m _ _, List.forall_mem_cons.mpr ⟨bo_ild_m _ _, List.forall_mem_cons.mpr ⟨bo_callC_m (mF_H_unregister) _ _ _ _ _ _, List.forall_mem_cons.mpr ⟨bo_st_mono (bg_i1_m _), List.forall_mem_cons.mpr ⟨bo_Jast_m _ _ _, List.forall_mem_cons.mpr ⟨bo_go_m _, List.forall_mem_cons.mpr ⟨bo_ast_m _ _, List.forall_mem_cons.mpr ⟨bo_st_mono (bg_push_m _), List.forall_mem_cons.mpr ⟨bo_iret_m _, List.forall_mem_cons.mpr ⟨bo_ast_m _ _, List.forall_mem_cons.mpr ⟨bo_st_mono (bg_push_m _), List.forall_mem_cons.mpr ⟨bo_iret_m _, List.forall_mem_cons.mpr ⟨bo_ast_m _ _, List.forall_mem_cons.mpr ⟨bo_st_mono (bg_push_m _), List.forall_mem_cons.mpr ⟨bo_iret_m _, List.forall_mem_cons.mpr ⟨bo_st_mono (bg_push_m _), List.forall_mem_cons.mpr ⟨bo_iret_m _, fun _ h => absurd h List.not_mem_nil⟩⟩⟩⟩⟩⟩⟩⟩⟩⟩⟩⟩⟩⟩⟩⟩⟩⟩⟩⟩
theorem m_L_unregister : ∀ pc, bh_mono (bh_tb (T_L_unregister) pc) := bh_tb_m mT_L_unregister_0
def F_L_unregister : bh_Fn := bh_fn 5 (bh_tb T_L_unregister)
theorem mF_L_unregister : bh_monoF F_L_unregister := bh_fn_m m_L_unregister
theorem cl_L_unregister {s : State} {args : Array Value} (d B : Nat) (hts : ∀ w ∈ bh_ws, w.before args s = true) : bh_Cal (bh_rm (d + 1) B) s y_L_unregister 5 (.codeWith y_L_unregister c_L_unregister 5 (some .int) [(0, 10, 13, 13), (0, 10, 17, 21), (0, 10, 21, 23)] :: bh_ws) (bh_rm d 4) 4 4 := bh_calW d B hts wd_722 wd_0 (by decide) (by decide +kernel)
set_option maxHeartbeats 4000000 in
set_option maxRecDepth 100000 in
theorem cn_L_unregister {l : Launch} {G : bh_G} {base sb L : Nat} {xs : Nat → Int32} (htr : l.stackTraces = false) (d : Nat) : bh_Con l G base (bh_Bg G base sb L xs) y_L_unregister (.codeWith y_L_unregister c_L_unregister 5 (some .int) [(0, 10, 13, 13), (0, 10, 17, 21), (0, 10, 21, 23)] :: bh_ws) (bh_rm (d + 4) 4) 4 false F_L_unregister := by
  refine bh_methodW (cc := c_L_unregister) (ret := (some .int)) (hh := [(0, 10, 13, 13), (0, 10, 17, 21), (0, 10, 21, 23)]) (by decide +kernel) rfl ?_
  intro p e s m args below meth c ad0 M0 Z X0 hr hlocks hname htab hbs hB
  obtain ⟨hx, hb, hml, hown, hts⟩ := id X0
  have hw : ∀ w ∈ bh_ws, w.before args s = true := fun w h => hts w (List.mem_cons_of_mem _ h)
  have hBg := bh_BgK (G := G) (base := base) (sb := sb) (L := L) (xs := xs)
  obtain ⟨hK, hAr, hen, hinj, hu1, hu2, hstr, hX, hsb, hsc, hxw, hao, hnc⟩ := id hB
  obtain ⟨ha1, ha2, ha3, ha4, ha5, ha6, ha0⟩ := bh_arr hAr
  exact List.forall_mem_cons.mpr ⟨fun S h => bs_aload_n (Z := Z) hx hb rfl d_L_unregister_0 h, List.forall_mem_cons.mpr ⟨fun S h => bs_iconst (Z := Z) hx hb (by decide) d_L_unregister_1 h, List.forall_mem_cons.mpr ⟨fun S h => bs_aload_n (Z := Z) hx hb rfl d_L_unregister_2 h, List.forall_mem_cons.mpr ⟨fun S h => bs_iload_n (Z := Z) hx hb rfl d_L_unregister_3 h, List.forall_mem_cons.mpr ⟨fun S h => bs_iload_n (Z := Z) hx hb rfl d_L_unregister_4 h, List.forall_mem_cons.mpr ⟨fun S h => bs_callC (Z := Z) (C := R_H) hBg hbs hB X0 hK (cn_H_unregister htr (d + 0)) (cl_H_unregister _ _ hw) (hts _ (List.mem_cons_of_mem _ wd_723)) (hts _ (List.mem_cons_of_mem _ wd_724)) (hts _ (List.mem_cons_of_mem _ wd_725)) rfl rfl rfl rfl rfl (Nat.le_refl _) (Nat.le_refl _) hr hlocks (hl := [(13, 13, "java/lang/IllegalArgumentException", 1), (17, 21, "java/util/NoSuchElementException", 2), (21, 23, "java/lang/UnsupportedOperationException", 3)]) (pe := 10) htab (by decide) (by decide +kernel) (List.forall_mem_cons.mpr ⟨⟨by decide, (hts _ (List.mem_cons_of_mem _ wd_397)), va_Nw.use rfl (hxw _ xw_9)⟩, List.forall_mem_cons.mpr ⟨⟨by decide, (hts _ (List.mem_cons_of_mem _ wd_515)), va_Nw.use rfl (hxw _ xw_11)⟩, List.forall_mem_cons.mpr ⟨⟨by decide, (hts _ (List.mem_cons_of_mem _ wd_516)), va_Nw.use rfl (hxw _ xw_12)⟩, fun _ h => absurd h List.not_mem_nil⟩⟩⟩) (bh_nco hnc (by decide +kernel)) (List.forall_mem_cons.mpr ⟨Or.inl ⟨4, 1, by decide, d_L_unregister_13, d_L_unregister_15, by decide, d_L_unregister_16⟩, List.forall_mem_cons.mpr ⟨Or.inl ⟨4, 2, by decide, d_L_unregister_17, d_L_unregister_19, by decide, d_L_unregister_20⟩, List.forall_mem_cons.mpr ⟨Or.inl ⟨4, 3, by decide, d_L_unregister_21, d_L_unregister_23, by decide, d_L_unregister_24⟩, fun _ h => absurd h List.not_mem_nil⟩⟩⟩) d_L_unregister_5 h, List.forall_mem_cons.mpr ⟨fun S h => bs_i2l (Z := Z) hx hb d_L_unregister_8 h, List.forall_mem_cons.mpr ⟨fun S h => bs_Jast (Z := Z) hx hb ha3 d_L_unregister_9 h, List.forall_mem_cons.mpr ⟨fun S h => bs_goto (Z := Z) hx hb d_L_unregister_10 (by decide) h, List.forall_mem_cons.mpr ⟨fun S h => bs_astore (Z := Z) hx hb d_L_unregister_13 h, List.forall_mem_cons.mpr ⟨fun S h => bs_iconst (Z := Z) hx hb (by decide) d_L_unregister_15 h, List.forall_mem_cons.mpr ⟨fun S h => bs_iret (Z := Z) hx hb hr hlocks d_L_unregister_16 h, List.forall_mem_cons.mpr ⟨fun S h => bs_astore (Z := Z) hx hb d_L_unregister_17 h, List.forall_mem_cons.mpr ⟨fun S h => bs_iconst (Z := Z) hx hb (by decide) d_L_unregister_19 h, List.forall_mem_cons.mpr ⟨fun S h => bs_iret (Z := Z) hx hb hr hlocks d_L_unregister_20 h, List.forall_mem_cons.mpr ⟨fun S h => bs_astore (Z := Z) hx hb d_L_unregister_21 h, List.forall_mem_cons.mpr ⟨fun S h => bs_iconst (Z := Z) hx hb (by decide) d_L_unregister_23 h, List.forall_mem_cons.mpr ⟨fun S h => bs_iret (Z := Z) hx hb hr hlocks d_L_unregister_24 h, List.forall_mem_cons.mpr ⟨fun S h => bs_iconst (Z := Z) hx hb (by decide) d_L_unregister_25 h, List.forall_mem_cons.mpr ⟨fun S h => bs_iret (Z := Z) hx hb hr hlocks d_L_unregister_26 h, fun _ h => absurd h List.not_mem_nil⟩⟩⟩⟩⟩⟩⟩⟩⟩⟩⟩⟩⟩⟩⟩⟩⟩⟩⟩⟩
abbrev c_L_rank : ByteArray := method_16_code
def y_L_rank : MethodName := ⟨"BundleHallLaw", "rank", "(LBundleHall;I[D)I"⟩
theorem d_L_rank_0 : decode c_L_rank 0 = .ok (.aload_n 2, 1) := by decide +kernel
theorem d_L_rank_1 : decode c_L_rank 1 = .ok (.iconst 0, 1) := by decide +kernel
theorem d_L_rank_2 : decode c_L_rank 2 = .ok (.aload_n 0, 1) := by decide +kernel
theorem d_L_rank_3 : decode c_L_rank 3 = .ok (.iload_n 1, 1) := by decide +kernel
theorem d_L_rank_4 : decode c_L_rank 4 = .ok (.invokevirtual 64, 3) := by decide +kernel
theorem d_L_rank_7 : decode c_L_rank 7 = .ok (.dastore, 1) := by decide +kernel
theorem d_L_rank_8 : decode c_L_rank 8 = .ok (.goto 9, 3) := by decide +kernel
theorem d_L_rank_11 : decode c_L_rank 11 = .ok (.astore_n 3, 1) := by decide +kernel
theorem d_L_rank_12 : decode c_L_rank 12 = .ok (.iconst 1, 1) := by decide +kernel
theorem d_L_rank_13 : decode c_L_rank 13 = .ok (.ireturn, 1) := by decide +kernel
theorem d_L_rank_14 : decode c_L_rank 14 = .ok (.astore_n 3, 1) := by decide +kernel
theorem d_L_rank_15 : decode c_L_rank 15 = .ok (.iconst 2, 1) := by decide +kernel
theorem d_L_rank_16 : decode c_L_rank 16 = .ok (.ireturn, 1) := by decide +kernel
theorem d_L_rank_17 : decode c_L_rank 17 = .ok (.iconst 0, 1) := by decide +kernel
theorem d_L_rank_18 : decode c_L_rank 18 = .ok (.ireturn, 1) := by decide +kernel
def T_L_rank_0 : List (Nat × bh_Op) := [(0, bo_ald 1 2),
  (1, bo_st 2 (bg_push (.inl (.int 0)))),
  (2, bo_ald 3 0),
  (3, bo_ild 4 1),
  (4, bo_callC 7 2 2 2 3 F_H_rank [("java/lang/IllegalArgumentException", 1), ("java/lang/ArithmeticException", 2)]),
  (7, bo_Dast bh_ak bh_al 8),
  (8, bo_go 17),
  (11, bo_ast 12 3),
  (12, bo_st 13 (bg_push (.inl (.int 1)))),
  (13, bo_iret 2),
  (14, bo_ast 15 3),
  (15, bo_st 16 (bg_push (.inl (.int 2)))),
  (16, bo_iret 2),
  (17, bo_st 18 (bg_push (.inl (.int 0)))),
  (18, bo_iret 2)]
def T_L_rank : List (Nat × bh_Op) := T_L_rank_0
set_option maxRecDepth 20000 in
theorem mT_L_rank_0 : ∀ q ∈ T_L_rank_0, bh_mono q.2 := List.forall_mem_cons.mpr ⟨bo_ald_m _ _, List.forall_mem_cons.mpr ⟨bo_st_mono (bg_push_m _), List.forall_mem_cons.mpr ⟨bo_ald_m _ _, List.forall_mem_cons.mpr ⟨bo_ild_m _ _, List.forall_mem_cons.mpr ⟨bo_callC_m (mF_H_rank) _ _ _ _ _ _, List.forall_mem_cons.mpr ⟨bo_Dast_m _ _ _, List.forall_mem_cons.mpr ⟨bo_go_m _, List.forall_mem_cons.mpr ⟨bo_ast_m _ _, List.forall_mem_cons.mpr ⟨bo_st_mono (bg_push_m _), List.forall_mem_cons.mpr ⟨bo_iret_m _, List.forall_mem_cons.mpr ⟨bo_ast_m _ _, List.forall_mem_cons.mpr ⟨bo_st_mono (bg_push_m _), List.forall_mem_cons.mpr ⟨bo_iret_m _, List.forall_mem_cons.mpr ⟨bo_st_mono (bg_push_m _), List.forall_mem_cons.mpr ⟨bo_iret_m _, fun _ h => absurd h List.not_mem_nil⟩⟩⟩⟩⟩⟩⟩⟩⟩⟩⟩⟩⟩⟩⟩
theorem m_L_rank : ∀ pc, bh_mono (bh_tb (T_L_rank) pc) := bh_tb_m mT_L_rank_0
def F_L_rank : bh_Fn := bh_fn 4 (bh_tb T_L_rank)
theorem mF_L_rank : bh_monoF F_L_rank := bh_fn_m m_L_rank
theorem cl_L_rank {s : State} {args : Array Value} (d B : Nat) (hts : ∀ w ∈ bh_ws, w.before args s = true) : bh_Cal (bh_rm (d + 1) B) s y_L_rank 4 (.codeWith y_L_rank c_L_rank 4 (some .int) [(0, 8, 11, 13), (0, 8, 14, 33)] :: bh_ws) (bh_rm d 2) 2 3 := bh_calW d B hts wd_734 wd_0 (by decide) (by decide +kernel)
set_option maxHeartbeats 4000000 in
set_option maxRecDepth 100000 in
theorem cn_L_rank {l : Launch} {G : bh_G} {base sb L : Nat} {xs : Nat → Int32} (htr : l.stackTraces = false) (d : Nat) : bh_Con l G base (bh_Bg G base sb L xs) y_L_rank (.codeWith y_L_rank c_L_rank 4 (some .int) [(0, 8, 11, 13), (0, 8, 14, 33)] :: bh_ws) (bh_rm (d + 3) 2) 2 false F_L_rank := by
  refine bh_methodW (cc := c_L_rank) (ret := (some .int)) (hh := [(0, 8, 11, 13), (0, 8, 14, 33)]) (by decide +kernel) rfl ?_
  intro p e s m args below meth c ad0 M0 Z X0 hr hlocks hname htab hbs hB
  obtain ⟨hx, hb, hml, hown, hts⟩ := id X0
  have hw : ∀ w ∈ bh_ws, w.before args s = true := fun w h => hts w (List.mem_cons_of_mem _ h)
  have hBg := bh_BgK (G := G) (base := base) (sb := sb) (L := L) (xs := xs)
  obtain ⟨hK, hAr, hen, hinj, hu1, hu2, hstr, hX, hsb, hsc, hxw, hao, hnc⟩ := id hB
  obtain ⟨ha1, ha2, ha3, ha4, ha5, ha6, ha0⟩ := bh_arr hAr
  exact List.forall_mem_cons.mpr ⟨fun S h => bs_aload_n (Z := Z) hx hb rfl d_L_rank_0 h, List.forall_mem_cons.mpr ⟨fun S h => bs_iconst (Z := Z) hx hb (by decide) d_L_rank_1 h, List.forall_mem_cons.mpr ⟨fun S h => bs_aload_n (Z := Z) hx hb rfl d_L_rank_2 h, List.forall_mem_cons.mpr ⟨fun S h => bs_iload_n (Z := Z) hx hb rfl d_L_rank_3 h, List.forall_mem_cons.mpr ⟨fun S h => bs_callC (Z := Z) (C := R_H) hBg hbs hB X0 hK (cn_H_rank htr (d + 0)) (cl_H_rank _ _ hw) (hts _ (List.mem_cons_of_mem _ wd_735)) (hts _ (List.mem_cons_of_mem _ wd_736)) (hts _ (List.mem_cons_of_mem _ wd_737)) rfl rfl rfl rfl rfl (Nat.le_refl _) (Nat.le_refl _) hr hlocks (hl := [(11, 13, "java/lang/IllegalArgumentException", 1), (14, 33, "java/lang/ArithmeticException", 2)]) (pe := 8) htab (by decide) (by decide +kernel) (List.forall_mem_cons.mpr ⟨⟨by decide, (hts _ (List.mem_cons_of_mem _ wd_397)), va_Nw.use rfl (hxw _ xw_9)⟩, List.forall_mem_cons.mpr ⟨⟨by decide, (hts _ (List.mem_cons_of_mem _ wd_589)), va_Nw.use rfl (hxw _ xw_13)⟩, fun _ h => absurd h List.not_mem_nil⟩⟩) (bh_nco hnc (by decide +kernel)) (List.forall_mem_cons.mpr ⟨Or.inr ⟨3, 1, by decide, d_L_rank_11, d_L_rank_12, by decide, d_L_rank_13⟩, List.forall_mem_cons.mpr ⟨Or.inr ⟨3, 2, by decide, d_L_rank_14, d_L_rank_15, by decide, d_L_rank_16⟩, fun _ h => absurd h List.not_mem_nil⟩⟩) d_L_rank_4 h, List.forall_mem_cons.mpr ⟨fun S h => bs_Dast (Z := Z) hx hb ha4 d_L_rank_7 h, List.forall_mem_cons.mpr ⟨fun S h => bs_goto (Z := Z) hx hb d_L_rank_8 (by decide) h, List.forall_mem_cons.mpr ⟨fun S h => bs_astore_n (Z := Z) hx hb rfl d_L_rank_11 h, List.forall_mem_cons.mpr ⟨fun S h => bs_iconst (Z := Z) hx hb (by decide) d_L_rank_12 h, List.forall_mem_cons.mpr ⟨fun S h => bs_iret (Z := Z) hx hb hr hlocks d_L_rank_13 h, List.forall_mem_cons.mpr ⟨fun S h => bs_astore_n (Z := Z) hx hb rfl d_L_rank_14 h, List.forall_mem_cons.mpr ⟨fun S h => bs_iconst (Z := Z) hx hb (by decide) d_L_rank_15 h, List.forall_mem_cons.mpr ⟨fun S h => bs_iret (Z := Z) hx hb hr hlocks d_L_rank_16 h, List.forall_mem_cons.mpr ⟨fun S h => bs_iconst (Z := Z) hx hb (by decide) d_L_rank_17 h, List.forall_mem_cons.mpr ⟨fun S h => bs_iret (Z := Z) hx hb hr hlocks d_L_rank_18 h, fun _ h => absurd h List.not_mem_nil⟩⟩⟩⟩⟩⟩⟩⟩⟩⟩⟩⟩⟩⟩⟩
abbrev c_L_event : ByteArray := method_17_code
def y_L_event : MethodName := ⟨"BundleHallLaw", "event", "(LBundleHall;[J)I"⟩
theorem d_L_event_0 : decode c_L_event 0 = .ok (.aload_n 1, 1) := by decide +kernel
theorem d_L_event_1 : decode c_L_event 1 = .ok (.iconst 0, 1) := by decide +kernel
theorem d_L_event_2 : decode c_L_event 2 = .ok (.aload_n 0, 1) := by decide +kernel
theorem d_L_event_3 : decode c_L_event 3 = .ok (.invokevirtual 68, 3) := by decide +kernel
theorem d_L_event_6 : decode c_L_event 6 = .ok (.i2l, 1) := by decide +kernel
theorem d_L_event_7 : decode c_L_event 7 = .ok (.lastore, 1) := by decide +kernel
theorem d_L_event_8 : decode c_L_event 8 = .ok (.goto 6, 3) := by decide +kernel
theorem d_L_event_11 : decode c_L_event 11 = .ok (.astore_n 2, 1) := by decide +kernel
theorem d_L_event_12 : decode c_L_event 12 = .ok (.iconst 1, 1) := by decide +kernel
theorem d_L_event_13 : decode c_L_event 13 = .ok (.ireturn, 1) := by decide +kernel
theorem d_L_event_14 : decode c_L_event 14 = .ok (.iconst 0, 1) := by decide +kernel
theorem d_L_event_15 : decode c_L_event 15 = .ok (.ireturn, 1) := by decide +kernel
def T_L_event_0 : List (Nat × bh_Op) := [(0, bo_ald 1 1),
  (1, bo_st 2 (bg_push (.inl (.int 0)))),
  (2, bo_ald 3 0),
  (3, bo_callC 6 1 1 1 3 F_H_event [("java/lang/IllegalStateException", 1)]),
  (6, bo_st 7 (bg_i1 (fun x => .inl (.long x.toInt64)))),
  (7, bo_Jast bh_ak bh_al 8),
  (8, bo_go 14),
  (11, bo_ast 12 2),
  (12, bo_st 13 (bg_push (.inl (.int 1)))),
  (13, bo_iret 1),
  (14, bo_st 15 (bg_push (.inl (.int 0)))),
  (15, bo_iret 1)]
def T_L_event : List (Nat × bh_Op) := T_L_event_0
set_option maxRecDepth 20000 in
theorem mT_L_event_0 : ∀ q ∈ T_L_event_0, bh_mono q.2 := List.forall_mem_cons.mpr ⟨bo_ald_m _ _, List.forall_mem_cons.mpr ⟨bo_st_mono (bg_push_m _), List.forall_mem_cons.mpr ⟨bo_ald_m _ _, List.forall_mem_cons.mpr ⟨bo_callC_m (mF_H_event) _ _ _ _ _ _, List.forall_mem_cons.mpr ⟨bo_st_mono (bg_i1_m _), List.forall_mem_cons.mpr ⟨bo_Jast_m _ _ _, List.forall_mem_cons.mpr ⟨bo_go_m _, List.forall_mem_cons.mpr ⟨bo_ast_m _ _, List.forall_mem_cons.mpr ⟨bo_st_mono (bg_push_m _), List.forall_mem_cons.mpr ⟨bo_iret_m _, List.forall_mem_cons.mpr ⟨bo_st_mono (bg_push_m _), List.forall_mem_cons.mpr ⟨bo_iret_m _, fun _ h => absurd h List.not_mem_nil⟩⟩⟩⟩⟩⟩⟩⟩⟩⟩⟩⟩
theorem m_L_event : ∀ pc, bh_mono (bh_tb (T_L_event) pc) := bh_tb_m mT_L_event_0
def F_L_event : bh_Fn := bh_fn 3 (bh_tb T_L_event)
theorem mF_L_event : bh_monoF F_L_event := bh_fn_m m_L_event
theorem cl_L_event {s : State} {args : Array Value} (d B : Nat) (hts : ∀ w ∈ bh_ws, w.before args s = true) : bh_Cal (bh_rm (d + 1) B) s y_L_event 3 (.codeWith y_L_event c_L_event 3 (some .int) [(0, 8, 11, 15)] :: bh_ws) (bh_rm d 1) 1 2 := bh_calW d B hts wd_749 wd_0 (by decide) (by decide +kernel)
set_option maxHeartbeats 4000000 in
set_option maxRecDepth 100000 in
theorem cn_L_event {l : Launch} {G : bh_G} {base sb L : Nat} {xs : Nat → Int32} (htr : l.stackTraces = false) (d : Nat) : bh_Con l G base (bh_Bg G base sb L xs) y_L_event (.codeWith y_L_event c_L_event 3 (some .int) [(0, 8, 11, 15)] :: bh_ws) (bh_rm (d + 3) 1) 1 false F_L_event := by
  refine bh_methodW (cc := c_L_event) (ret := (some .int)) (hh := [(0, 8, 11, 15)]) (by decide +kernel) rfl ?_
  intro p e s m args below meth c ad0 M0 Z X0 hr hlocks hname htab hbs hB
  obtain ⟨hx, hb, hml, hown, hts⟩ := id X0
  have hw : ∀ w ∈ bh_ws, w.before args s = true := fun w h => hts w (List.mem_cons_of_mem _ h)
  have hBg := bh_BgK (G := G) (base := base) (sb := sb) (L := L) (xs := xs)
  obtain ⟨hK, hAr, hen, hinj, hu1, hu2, hstr, hX, hsb, hsc, hxw, hao, hnc⟩ := id hB
  obtain ⟨ha1, ha2, ha3, ha4, ha5, ha6, ha0⟩ := bh_arr hAr
  exact List.forall_mem_cons.mpr ⟨fun S h => bs_aload_n (Z := Z) hx hb rfl d_L_event_0 h, List.forall_mem_cons.mpr ⟨fun S h => bs_iconst (Z := Z) hx hb (by decide) d_L_event_1 h, List.forall_mem_cons.mpr ⟨fun S h => bs_aload_n (Z := Z) hx hb rfl d_L_event_2 h, List.forall_mem_cons.mpr ⟨fun S h => bs_callC (Z := Z) (C := R_H) hBg hbs hB X0 hK (cn_H_event htr (d + 0)) (cl_H_event _ _ hw) (hts _ (List.mem_cons_of_mem _ wd_750)) (hts _ (List.mem_cons_of_mem _ wd_751)) (hts _ (List.mem_cons_of_mem _ wd_752)) rfl rfl rfl rfl rfl (Nat.le_refl _) (Nat.le_refl _) hr hlocks (hl := [(11, 15, "java/lang/IllegalStateException", 1)]) (pe := 8) htab (by decide) (by decide +kernel) (List.forall_mem_cons.mpr ⟨⟨by decide, (hts _ (List.mem_cons_of_mem _ wd_398)), va_Nw.use rfl (hxw _ xw_10)⟩, fun _ h => absurd h List.not_mem_nil⟩) (bh_nco hnc (by decide +kernel)) (List.forall_mem_cons.mpr ⟨Or.inr ⟨2, 1, by decide, d_L_event_11, d_L_event_12, by decide, d_L_event_13⟩, fun _ h => absurd h List.not_mem_nil⟩) d_L_event_3 h, List.forall_mem_cons.mpr ⟨fun S h => bs_i2l (Z := Z) hx hb d_L_event_6 h, List.forall_mem_cons.mpr ⟨fun S h => bs_Jast (Z := Z) hx hb ha3 d_L_event_7 h, List.forall_mem_cons.mpr ⟨fun S h => bs_goto (Z := Z) hx hb d_L_event_8 (by decide) h, List.forall_mem_cons.mpr ⟨fun S h => bs_astore_n (Z := Z) hx hb rfl d_L_event_11 h, List.forall_mem_cons.mpr ⟨fun S h => bs_iconst (Z := Z) hx hb (by decide) d_L_event_12 h, List.forall_mem_cons.mpr ⟨fun S h => bs_iret (Z := Z) hx hb hr hlocks d_L_event_13 h, List.forall_mem_cons.mpr ⟨fun S h => bs_iconst (Z := Z) hx hb (by decide) d_L_event_14 h, List.forall_mem_cons.mpr ⟨fun S h => bs_iret (Z := Z) hx hb hr hlocks d_L_event_15 h, fun _ h => absurd h List.not_mem_nil⟩⟩⟩⟩⟩⟩⟩⟩⟩⟩⟩⟩
abbrev c_L_about : ByteArray := method_18_code
def y_L_about : MethodName := ⟨"BundleHallLaw", "about", "(LBundleHall;II[J)I"⟩
theorem d_L_about_0 : decode c_L_about 0 = .ok (.aload_n 3, 1) := by decide +kernel
theorem d_L_about_1 : decode c_L_about 1 = .ok (.iconst 0, 1) := by decide +kernel
theorem d_L_about_2 : decode c_L_about 2 = .ok (.aload_n 0, 1) := by decide +kernel
theorem d_L_about_3 : decode c_L_about 3 = .ok (.iload_n 1, 1) := by decide +kernel
theorem d_L_about_4 : decode c_L_about 4 = .ok (.iload_n 2, 1) := by decide +kernel
theorem d_L_about_5 : decode c_L_about 5 = .ok (.invokevirtual 72, 3) := by decide +kernel
theorem d_L_about_8 : decode c_L_about 8 = .ok (.i2l, 1) := by decide +kernel
theorem d_L_about_9 : decode c_L_about 9 = .ok (.lastore, 1) := by decide +kernel
theorem d_L_about_10 : decode c_L_about 10 = .ok (.goto 7, 3) := by decide +kernel
theorem d_L_about_13 : decode c_L_about 13 = .ok (.astore 4, 2) := by decide +kernel
theorem d_L_about_15 : decode c_L_about 15 = .ok (.iconst 1, 1) := by decide +kernel
theorem d_L_about_16 : decode c_L_about 16 = .ok (.ireturn, 1) := by decide +kernel
theorem d_L_about_17 : decode c_L_about 17 = .ok (.iconst 0, 1) := by decide +kernel
theorem d_L_about_18 : decode c_L_about 18 = .ok (.ireturn, 1) := by decide +kernel
def T_L_about_0 : List (Nat × bh_Op) := [(0, bo_ald 1 3),
  (1, bo_st 2 (bg_push (.inl (.int 0)))),
  (2, bo_ald 3 0),
  (3, bo_ild 4 1),
  (4, bo_ild 5 2),
  (5, bo_callC 8 3 2 2 3 F_H_about [("java/lang/IllegalArgumentException", 1)]),
  (8, bo_st 9 (bg_i1 (fun x => .inl (.long x.toInt64)))),
  (9, bo_Jast bh_ak bh_al 10),
  (10, bo_go 17),
  (13, bo_ast 15 4),
  (15, bo_st 16 (bg_push (.inl (.int 1)))),
  (16, bo_iret 2),
  (17, bo_st 18 (bg_push (.inl (.int 0)))),
  (18, bo_iret 2)]
def T_L_about : List (Nat × bh_Op) := T_L_about_0
set_option maxRecDepth 20000 in
theorem mT_L_about_0 : ∀ q ∈ T_L_about_0, bh_mono q.2 := List.forall_mem_cons.mpr ⟨bo_ald_m _ _, List.forall_mem_cons.mpr ⟨bo_st_mono (bg_push_m _), List.forall_mem_cons.mpr ⟨bo_ald_m _ _, List.forall_mem_cons.mpr ⟨bo_ild_m _ _, List.forall_mem_cons.mpr ⟨bo_ild_m _ _, List.forall_mem_cons.mpr ⟨bo_callC_m (mF_H_about) _ _ _ _ _ _, List.forall_mem_cons.mpr ⟨bo_st_mono (bg_i1_m _), List.forall_mem_cons.mpr ⟨bo_Jast_m _ _ _, List.forall_mem_cons.mpr ⟨bo_go_m _, List.forall_mem_cons.mpr ⟨bo_ast_m _ _, List.forall_mem_cons.mpr ⟨bo_st_mono (bg_push_m _), List.forall_mem_cons.mpr ⟨bo_iret_m _, List.forall_mem_cons.mpr ⟨bo_st_mono (bg_push_m _), List.forall_mem_cons.mpr ⟨bo_iret_m _, fun _ h => absurd h List.not_mem_nil⟩⟩⟩⟩⟩⟩⟩⟩⟩⟩⟩⟩⟩⟩
theorem m_L_about : ∀ pc, bh_mono (bh_tb (T_L_about) pc) := bh_tb_m mT_L_about_0
def F_L_about : bh_Fn := bh_fn 5 (bh_tb T_L_about)
theorem mF_L_about : bh_monoF F_L_about := bh_fn_m m_L_about
theorem cl_L_about {s : State} {args : Array Value} (d B : Nat) (hts : ∀ w ∈ bh_ws, w.before args s = true) : bh_Cal (bh_rm (d + 1) B) s y_L_about 5 (.codeWith y_L_about c_L_about 5 (some .int) [(0, 10, 13, 13)] :: bh_ws) (bh_rm d 2) 2 4 := bh_calW d B hts wd_761 wd_0 (by decide) (by decide +kernel)
set_option maxHeartbeats 4000000 in
set_option maxRecDepth 100000 in
theorem cn_L_about {l : Launch} {G : bh_G} {base sb L : Nat} {xs : Nat → Int32} (htr : l.stackTraces = false) (d : Nat) : bh_Con l G base (bh_Bg G base sb L xs) y_L_about (.codeWith y_L_about c_L_about 5 (some .int) [(0, 10, 13, 13)] :: bh_ws) (bh_rm (d + 6) 2) 2 false F_L_about := by
  refine bh_methodW (cc := c_L_about) (ret := (some .int)) (hh := [(0, 10, 13, 13)]) (by decide +kernel) rfl ?_
  intro p e s m args below meth c ad0 M0 Z X0 hr hlocks hname htab hbs hB
  obtain ⟨hx, hb, hml, hown, hts⟩ := id X0
  have hw : ∀ w ∈ bh_ws, w.before args s = true := fun w h => hts w (List.mem_cons_of_mem _ h)
  have hBg := bh_BgK (G := G) (base := base) (sb := sb) (L := L) (xs := xs)
  obtain ⟨hK, hAr, hen, hinj, hu1, hu2, hstr, hX, hsb, hsc, hxw, hao, hnc⟩ := id hB
  obtain ⟨ha1, ha2, ha3, ha4, ha5, ha6, ha0⟩ := bh_arr hAr
  exact List.forall_mem_cons.mpr ⟨fun S h => bs_aload_n (Z := Z) hx hb rfl d_L_about_0 h, List.forall_mem_cons.mpr ⟨fun S h => bs_iconst (Z := Z) hx hb (by decide) d_L_about_1 h, List.forall_mem_cons.mpr ⟨fun S h => bs_aload_n (Z := Z) hx hb rfl d_L_about_2 h, List.forall_mem_cons.mpr ⟨fun S h => bs_iload_n (Z := Z) hx hb rfl d_L_about_3 h, List.forall_mem_cons.mpr ⟨fun S h => bs_iload_n (Z := Z) hx hb rfl d_L_about_4 h, List.forall_mem_cons.mpr ⟨fun S h => bs_callC (Z := Z) (C := R_H) hBg hbs hB X0 hK (cn_H_about htr (d + 0)) (cl_H_about _ _ hw) (hts _ (List.mem_cons_of_mem _ wd_762)) (hts _ (List.mem_cons_of_mem _ wd_763)) (hts _ (List.mem_cons_of_mem _ wd_764)) rfl rfl rfl rfl rfl (Nat.le_refl _) (Nat.le_refl _) hr hlocks (hl := [(13, 13, "java/lang/IllegalArgumentException", 1)]) (pe := 10) htab (by decide) (by decide +kernel) (List.forall_mem_cons.mpr ⟨⟨by decide, (hts _ (List.mem_cons_of_mem _ wd_397)), va_Nw.use rfl (hxw _ xw_9)⟩, fun _ h => absurd h List.not_mem_nil⟩) (bh_nco hnc (by decide +kernel)) (List.forall_mem_cons.mpr ⟨Or.inl ⟨4, 1, by decide, d_L_about_13, d_L_about_15, by decide, d_L_about_16⟩, fun _ h => absurd h List.not_mem_nil⟩) d_L_about_5 h, List.forall_mem_cons.mpr ⟨fun S h => bs_i2l (Z := Z) hx hb d_L_about_8 h, List.forall_mem_cons.mpr ⟨fun S h => bs_Jast (Z := Z) hx hb ha3 d_L_about_9 h, List.forall_mem_cons.mpr ⟨fun S h => bs_goto (Z := Z) hx hb d_L_about_10 (by decide) h, List.forall_mem_cons.mpr ⟨fun S h => bs_astore (Z := Z) hx hb d_L_about_13 h, List.forall_mem_cons.mpr ⟨fun S h => bs_iconst (Z := Z) hx hb (by decide) d_L_about_15 h, List.forall_mem_cons.mpr ⟨fun S h => bs_iret (Z := Z) hx hb hr hlocks d_L_about_16 h, List.forall_mem_cons.mpr ⟨fun S h => bs_iconst (Z := Z) hx hb (by decide) d_L_about_17 h, List.forall_mem_cons.mpr ⟨fun S h => bs_iret (Z := Z) hx hb hr hlocks d_L_about_18 h, fun _ h => absurd h List.not_mem_nil⟩⟩⟩⟩⟩⟩⟩⟩⟩⟩⟩⟩⟩⟩
abbrev c_L_count : ByteArray := method_19_code
def y_L_count : MethodName := ⟨"BundleHallLaw", "count", "(LBundleHall;I[J)I"⟩
theorem d_L_count_0 : decode c_L_count 0 = .ok (.aload_n 2, 1) := by decide +kernel
theorem d_L_count_1 : decode c_L_count 1 = .ok (.iconst 0, 1) := by decide +kernel
theorem d_L_count_2 : decode c_L_count 2 = .ok (.aload_n 0, 1) := by decide +kernel
theorem d_L_count_3 : decode c_L_count 3 = .ok (.iload_n 1, 1) := by decide +kernel
theorem d_L_count_4 : decode c_L_count 4 = .ok (.invokevirtual 75, 3) := by decide +kernel
theorem d_L_count_7 : decode c_L_count 7 = .ok (.i2l, 1) := by decide +kernel
theorem d_L_count_8 : decode c_L_count 8 = .ok (.lastore, 1) := by decide +kernel
theorem d_L_count_9 : decode c_L_count 9 = .ok (.goto 6, 3) := by decide +kernel
theorem d_L_count_12 : decode c_L_count 12 = .ok (.astore_n 3, 1) := by decide +kernel
theorem d_L_count_13 : decode c_L_count 13 = .ok (.iconst 1, 1) := by decide +kernel
theorem d_L_count_14 : decode c_L_count 14 = .ok (.ireturn, 1) := by decide +kernel
theorem d_L_count_15 : decode c_L_count 15 = .ok (.iconst 0, 1) := by decide +kernel
theorem d_L_count_16 : decode c_L_count 16 = .ok (.ireturn, 1) := by decide +kernel
def T_L_count_0 : List (Nat × bh_Op) := [(0, bo_ald 1 2),
  (1, bo_st 2 (bg_push (.inl (.int 0)))),
  (2, bo_ald 3 0),
  (3, bo_ild 4 1),
  (4, bo_callC 7 2 1 1 3 F_H_count [("java/lang/IllegalArgumentException", 1)]),
  (7, bo_st 8 (bg_i1 (fun x => .inl (.long x.toInt64)))),
  (8, bo_Jast bh_ak bh_al 9),
  (9, bo_go 15),
  (12, bo_ast 13 3),
  (13, bo_st 14 (bg_push (.inl (.int 1)))),
  (14, bo_iret 1),
  (15, bo_st 16 (bg_push (.inl (.int 0)))),
  (16, bo_iret 1)]
def T_L_count : List (Nat × bh_Op) := T_L_count_0
set_option maxRecDepth 20000 in
theorem mT_L_count_0 : ∀ q ∈ T_L_count_0, bh_mono q.2 := List.forall_mem_cons.mpr ⟨bo_ald_m _ _, List.forall_mem_cons.mpr ⟨bo_st_mono (bg_push_m _), List.forall_mem_cons.mpr ⟨bo_ald_m _ _, List.forall_mem_cons.mpr ⟨bo_ild_m _ _, List.forall_mem_cons.mpr ⟨bo_callC_m (mF_H_count) _ _ _ _ _ _, List.forall_mem_cons.mpr ⟨bo_st_mono (bg_i1_m _), List.forall_mem_cons.mpr ⟨bo_Jast_m _ _ _, List.forall_mem_cons.mpr ⟨bo_go_m _, List.forall_mem_cons.mpr ⟨bo_ast_m _ _, List.forall_mem_cons.mpr ⟨bo_st_mono (bg_push_m _), List.forall_mem_cons.mpr ⟨bo_iret_m _, List.forall_mem_cons.mpr ⟨bo_st_mono (bg_push_m _), List.forall_mem_cons.mpr ⟨bo_iret_m _, fun _ h => absurd h List.not_mem_nil⟩⟩⟩⟩⟩⟩⟩⟩⟩⟩⟩⟩⟩
theorem m_L_count : ∀ pc, bh_mono (bh_tb (T_L_count) pc) := bh_tb_m mT_L_count_0
def F_L_count : bh_Fn := bh_fn 4 (bh_tb T_L_count)
theorem mF_L_count : bh_monoF F_L_count := bh_fn_m m_L_count
theorem cl_L_count {s : State} {args : Array Value} (d B : Nat) (hts : ∀ w ∈ bh_ws, w.before args s = true) : bh_Cal (bh_rm (d + 1) B) s y_L_count 4 (.codeWith y_L_count c_L_count 4 (some .int) [(0, 9, 12, 13)] :: bh_ws) (bh_rm d 1) 1 3 := bh_calW d B hts wd_772 wd_0 (by decide) (by decide +kernel)
set_option maxHeartbeats 4000000 in
set_option maxRecDepth 100000 in
theorem cn_L_count {l : Launch} {G : bh_G} {base sb L : Nat} {xs : Nat → Int32} (htr : l.stackTraces = false) (d : Nat) : bh_Con l G base (bh_Bg G base sb L xs) y_L_count (.codeWith y_L_count c_L_count 4 (some .int) [(0, 9, 12, 13)] :: bh_ws) (bh_rm (d + 3) 1) 1 false F_L_count := by
  refine bh_methodW (cc := c_L_count) (ret := (some .int)) (hh := [(0, 9, 12, 13)]) (by decide +kernel) rfl ?_
  intro p e s m args below meth c ad0 M0 Z X0 hr hlocks hname htab hbs hB
  obtain ⟨hx, hb, hml, hown, hts⟩ := id X0
  have hw : ∀ w ∈ bh_ws, w.before args s = true := fun w h => hts w (List.mem_cons_of_mem _ h)
  have hBg := bh_BgK (G := G) (base := base) (sb := sb) (L := L) (xs := xs)
  obtain ⟨hK, hAr, hen, hinj, hu1, hu2, hstr, hX, hsb, hsc, hxw, hao, hnc⟩ := id hB
  obtain ⟨ha1, ha2, ha3, ha4, ha5, ha6, ha0⟩ := bh_arr hAr
  exact List.forall_mem_cons.mpr ⟨fun S h => bs_aload_n (Z := Z) hx hb rfl d_L_count_0 h, List.forall_mem_cons.mpr ⟨fun S h => bs_iconst (Z := Z) hx hb (by decide) d_L_count_1 h, List.forall_mem_cons.mpr ⟨fun S h => bs_aload_n (Z := Z) hx hb rfl d_L_count_2 h, List.forall_mem_cons.mpr ⟨fun S h => bs_iload_n (Z := Z) hx hb rfl d_L_count_3 h, List.forall_mem_cons.mpr ⟨fun S h => bs_callC (Z := Z) (C := R_H) hBg hbs hB X0 hK (cn_H_count htr (d + 0)) (cl_H_count _ _ hw) (hts _ (List.mem_cons_of_mem _ wd_773)) (hts _ (List.mem_cons_of_mem _ wd_774)) (hts _ (List.mem_cons_of_mem _ wd_775)) rfl rfl rfl rfl rfl (Nat.le_refl _) (Nat.le_refl _) hr hlocks (hl := [(12, 13, "java/lang/IllegalArgumentException", 1)]) (pe := 9) htab (by decide) (by decide +kernel) (List.forall_mem_cons.mpr ⟨⟨by decide, (hts _ (List.mem_cons_of_mem _ wd_397)), va_Nw.use rfl (hxw _ xw_9)⟩, fun _ h => absurd h List.not_mem_nil⟩) (bh_nco hnc (by decide +kernel)) (List.forall_mem_cons.mpr ⟨Or.inr ⟨3, 1, by decide, d_L_count_12, d_L_count_13, by decide, d_L_count_14⟩, fun _ h => absurd h List.not_mem_nil⟩) d_L_count_4 h, List.forall_mem_cons.mpr ⟨fun S h => bs_i2l (Z := Z) hx hb d_L_count_7 h, List.forall_mem_cons.mpr ⟨fun S h => bs_Jast (Z := Z) hx hb ha3 d_L_count_8 h, List.forall_mem_cons.mpr ⟨fun S h => bs_goto (Z := Z) hx hb d_L_count_9 (by decide) h, List.forall_mem_cons.mpr ⟨fun S h => bs_astore_n (Z := Z) hx hb rfl d_L_count_12 h, List.forall_mem_cons.mpr ⟨fun S h => bs_iconst (Z := Z) hx hb (by decide) d_L_count_13 h, List.forall_mem_cons.mpr ⟨fun S h => bs_iret (Z := Z) hx hb hr hlocks d_L_count_14 h, List.forall_mem_cons.mpr ⟨fun S h => bs_iconst (Z := Z) hx hb (by decide) d_L_count_15 h, List.forall_mem_cons.mpr ⟨fun S h => bs_iret (Z := Z) hx hb hr hlocks d_L_count_16 h, fun _ h => absurd h List.not_mem_nil⟩⟩⟩⟩⟩⟩⟩⟩⟩⟩⟩⟩⟩
