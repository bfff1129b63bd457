abbrev c_F_init : ByteArray := prog_4_method_1_code
def y_F_init : MethodName := ⟨"BundleHall$Manifest", "<init>", "()V"⟩
theorem d_F_init_0 : decode c_F_init 0 = .ok (.aload_n 0, 1) := by decide +kernel
theorem d_F_init_1 : decode c_F_init 1 = .ok (.invokespecial 3, 3) := by decide +kernel
theorem d_F_init_4 : decode c_F_init 4 = .ok (.aload_n 0, 1) := by decide +kernel
theorem d_F_init_5 : decode c_F_init 5 = .ok (.bipush 8, 2) := by decide +kernel
theorem d_F_init_7 : decode c_F_init 7 = .ok (.newarray .int, 2) := by decide +kernel
theorem d_F_init_9 : decode c_F_init 9 = .ok (.putfield 9, 3) := by decide +kernel
theorem d_F_init_12 : decode c_F_init 12 = .ok (.aload_n 0, 1) := by decide +kernel
theorem d_F_init_13 : decode c_F_init 13 = .ok (.bipush 8, 2) := by decide +kernel
theorem d_F_init_15 : decode c_F_init 15 = .ok (.newarray .int, 2) := by decide +kernel
theorem d_F_init_17 : decode c_F_init 17 = .ok (.putfield 15, 3) := by decide +kernel
theorem d_F_init_20 : decode c_F_init 20 = .ok (.aload_n 0, 1) := by decide +kernel
theorem d_F_init_21 : decode c_F_init 21 = .ok (.bipush 8, 2) := by decide +kernel
theorem d_F_init_23 : decode c_F_init 23 = .ok (.newarray .int, 2) := by decide +kernel
theorem d_F_init_25 : decode c_F_init 25 = .ok (.putfield 18, 3) := by decide +kernel
theorem d_F_init_28 : decode c_F_init 28 = .ok (.aload_n 0, 1) := by decide +kernel
theorem d_F_init_29 : decode c_F_init 29 = .ok (.iconst 3, 1) := by decide +kernel
theorem d_F_init_30 : decode c_F_init 30 = .ok (.newarray .int, 2) := by decide +kernel
theorem d_F_init_32 : decode c_F_init 32 = .ok (.putfield 21, 3) := by decide +kernel
theorem d_F_init_35 : decode c_F_init 35 = .ok (.aload_n 0, 1) := by decide +kernel
theorem d_F_init_36 : decode c_F_init 36 = .ok (.iconst 3, 1) := by decide +kernel
theorem d_F_init_37 : decode c_F_init 37 = .ok (.newarray .int, 2) := by decide +kernel
theorem d_F_init_39 : decode c_F_init 39 = .ok (.putfield 24, 3) := by decide +kernel
theorem d_F_init_42 : decode c_F_init 42 = .ok (.aload_n 0, 1) := by decide +kernel
theorem d_F_init_43 : decode c_F_init 43 = .ok (.iconst 3, 1) := by decide +kernel
theorem d_F_init_44 : decode c_F_init 44 = .ok (.newarray .int, 2) := by decide +kernel
theorem d_F_init_46 : decode c_F_init 46 = .ok (.putfield 27, 3) := by decide +kernel
theorem d_F_init_49 : decode c_F_init 49 = .ok (.aload_n 0, 1) := by decide +kernel
theorem d_F_init_50 : decode c_F_init 50 = .ok (.iconst 3, 1) := by decide +kernel
theorem d_F_init_51 : decode c_F_init 51 = .ok (.newarray .boolean, 2) := by decide +kernel
theorem d_F_init_53 : decode c_F_init 53 = .ok (.putfield 30, 3) := by decide +kernel
theorem d_F_init_56 : decode c_F_init 56 = .ok (.aload_n 0, 1) := by decide +kernel
theorem d_F_init_57 : decode c_F_init 57 = .ok (.getfield 9, 3) := by decide +kernel
theorem d_F_init_60 : decode c_F_init 60 = .ok (.iconst (-1), 1) := by decide +kernel
theorem d_F_init_61 : decode c_F_init 61 = .ok (.invokestatic 34, 3) := by decide +kernel
theorem d_F_init_64 : decode c_F_init 64 = .ok (.aload_n 0, 1) := by decide +kernel
theorem d_F_init_65 : decode c_F_init 65 = .ok (.getfield 18, 3) := by decide +kernel
theorem d_F_init_68 : decode c_F_init 68 = .ok (.iconst (-1), 1) := by decide +kernel
theorem d_F_init_69 : decode c_F_init 69 = .ok (.invokestatic 34, 3) := by decide +kernel
theorem d_F_init_72 : decode c_F_init 72 = .ok (.return_, 1) := by decide +kernel
def T_F_init_0 : List (Nat × bh_Op) := [(0, bo_ald 1 0),
  (1, bo_obj 4),
  (4, bo_ald 5 0),
  (5, bo_st 7 (bg_push (.inl (.int 8)))),
  (7, bo_newa bh_al 9 8 7),
  (9, bo_pR 12 7 0 8),
  (12, bo_ald 13 0),
  (13, bo_st 15 (bg_push (.inl (.int 8)))),
  (15, bo_newa bh_al 17 9 7),
  (17, bo_pR 20 7 1 9),
  (20, bo_ald 21 0),
  (21, bo_st 23 (bg_push (.inl (.int 8)))),
  (23, bo_newa bh_al 25 10 7),
  (25, bo_pR 28 7 2 10),
  (28, bo_ald 29 0),
  (29, bo_st 30 (bg_push (.inl (.int 3)))),
  (30, bo_newa bh_al 32 11 7),
  (32, bo_pR 35 7 3 11),
  (35, bo_ald 36 0),
  (36, bo_st 37 (bg_push (.inl (.int 3)))),
  (37, bo_newa bh_al 39 12 7),
  (39, bo_pR 42 7 4 12),
  (42, bo_ald 43 0),
  (43, bo_st 44 (bg_push (.inl (.int 3)))),
  (44, bo_newa bh_al 46 13 7),
  (46, bo_pR 49 7 5 13),
  (49, bo_ald 50 0),
  (50, bo_st 51 (bg_push (.inl (.int 3)))),
  (51, bo_newa bh_al 53 14 7),
  (53, bo_pR 56 7 6 14),
  (56, bo_ald 57 0),
  (57, bo_gR 60 7 0 8),
  (60, bo_st 61 (bg_push (.inl (.int (-1))))),
  (61, bo_callS 64 2 0 7 F_A_fill),
  (64, bo_ald 65 0),
  (65, bo_gR 68 7 2 10),
  (68, bo_st 69 (bg_push (.inl (.int (-1))))),
  (69, bo_callS 72 2 0 7 F_A_fill),
  (72, bo_vret 7)]
def T_F_init : List (Nat × bh_Op) := T_F_init_0
set_option maxRecDepth 20000 in
theorem mT_F_init_0 : ∀ q ∈ T_F_init_0, bh_mono q.2 := List.forall_mem_cons.mpr ⟨bo_ald_m _ _, List.forall_mem_cons.mpr ⟨bo_obj_m _, List.forall_mem_cons.mpr ⟨bo_ald_m _ _, List.forall_mem_cons.mpr ⟨bo_st_mono (bg_push_m _), List.forall_mem_cons.mpr ⟨bo_newa_m _ _ _ _, List.forall_mem_cons.mpr ⟨bo_pR_m _ _ _ _, List.forall_mem_cons.mpr ⟨bo_ald_m _ _, List.forall_mem_cons.mpr ⟨bo_st_mono (bg_push_m _), List.forall_mem_cons.mpr ⟨bo_newa_m _ _ _ _, List.forall_mem_cons.mpr ⟨bo_pR_m _ _ _ _, List.forall_mem_cons.mpr ⟨bo_ald_m _ _, List.forall_mem_cons.mpr ⟨bo_st_mono (bg_push_m _), List.forall_mem_cons.mpr ⟨bo_newa_m _ _ _ _, List.forall_mem_cons.mpr ⟨bo_pR_m _ _ _ _, List.forall_mem_cons.mpr ⟨bo_ald_m _ _, List.forall_mem_cons.mpr ⟨bo_st_mono (bg_push_m _), List.forall_mem_cons.mpr ⟨bo_newa_m _ _ _ _, List.forall_mem_cons.mpr ⟨bo_pR_m _ _ _ _, List.forall_mem_cons.mpr ⟨bo_ald_m _ _, List.forall_mem_cons.mpr ⟨bo_st_mono (bg_push_m _), List.forall_mem_cons.mpr ⟨bo_newa_m _ _ _ _, List.forall_mem_cons.mpr ⟨bo_pR_m _ _ _ _, List.forall_mem_cons.mpr ⟨bo_ald_m _ _, List.forall_mem_cons.mpr ⟨bo_st_mono (bg_push_m _), List.forall_mem_cons.mpr ⟨bo_newa_m _ _ _ _, List.forall_mem_cons.mpr ⟨bo_pR_m _ _ _ _, List.forall_mem_cons.mpr ⟨bo_ald_m _ _, List.forall_mem_cons.mpr ⟨bo_st_mono (bg_push_m _), List.forall_mem_cons.mpr ⟨bo_newa_m _ _ _ _, List.forall_mem_cons.mpr ⟨bo_pR_m _ _ _ _, List.forall_mem_cons.mpr ⟨bo_ald_m _ _, List.forall_mem_cons.mpr ⟨bo_gR_m _ _ _ _, List.forall_mem_cons.mpr ⟨bo_st_mono (bg_push_m _), List.forall_mem_cons.mpr ⟨bo_callS_m (mF_A_fill) _ _ _ _, List.forall_mem_cons.mpr ⟨bo_ald_m _ _, List.forall_mem_cons.mpr ⟨bo_gR_m _ _ _ _, List.forall_mem_cons.mpr ⟨bo_st_mono (bg_push_m _), List.forall_mem_cons.mpr ⟨bo_callS_m (mF_A_fill) _ _ _ _, List.forall_mem_cons.mpr ⟨bo_vret_m _, fun _ h => absurd h List.not_mem_nil⟩⟩⟩⟩⟩⟩⟩⟩⟩⟩⟩⟩⟩⟩⟩⟩⟩⟩⟩⟩⟩⟩⟩⟩⟩⟩⟩⟩⟩⟩⟩⟩⟩⟩⟩⟩⟩⟩⟩
theorem m_F_init : ∀ pc, bh_mono (bh_tb (T_F_init) pc) := bh_tb_m mT_F_init_0
def F_F_init : bh_Fn := bh_fn 1 (bh_tb T_F_init)
theorem mF_F_init : bh_monoF F_F_init := bh_fn_m m_F_init
theorem cl_F_init {s : State} {args : Array Value} (d B : Nat) (hts : ∀ w ∈ bh_ws, w.before args s = true) : bh_Cal (bh_rm (d + 1) B) s y_F_init 1 (.code y_F_init c_F_init 1 none :: bh_ws) (bh_rm d 7) 7 0 := bh_cal d B hts wd_41 wd_3 (by decide) (by decide +kernel)
set_option maxHeartbeats 4000000 in
set_option maxRecDepth 100000 in
theorem cn_F_init {l : Launch} {G : bh_G} {base sb L : Nat} {xs : Nat → Int32} (htr : l.stackTraces = false) (d : Nat) : bh_Con l G base (bh_Bg G base sb L xs) y_F_init (.code y_F_init c_F_init 1 none :: bh_ws) (bh_rm (d + 2) 7) 7 true F_F_init := by
  refine bh_method (cc := c_F_init) (ret := none) (by decide +kernel) rfl ?_
  intro p e s m args below meth c ad0 M0 Z X0 hr hlocks hname htab hbs hB
  obtain ⟨hx, hb, hml, hown, hts⟩ := id X0
  have hw : ∀ w ∈ bh_ws, w.before args s = true := fun w h => hts w (List.mem_cons_of_mem _ h)
  have hBg := bh_BgK (G := G) (base := base) (sb := sb) (L := L) (xs := xs)
  obtain ⟨hK, hAr, hen, hinj, hu1, hu2, hstr, hX, hsb, hsc, hxw, hao, hnc⟩ := id hB
  obtain ⟨ha1, ha2, ha3, ha4, ha5, ha6, ha0⟩ := bh_arr hAr
  exact List.forall_mem_cons.mpr ⟨fun S h => bs_aload_n (Z := Z) hx hb rfl d_F_init_0 h, List.forall_mem_cons.mpr ⟨fun S h => bs_obj (Z := Z) hx hb hml hown (hts _ (List.mem_cons_of_mem _ wd_42)) (hts _ (List.mem_cons_of_mem _ wd_28)) (bh_objcode (hts _ (List.mem_cons_of_mem _ wd_29))) (by show 1 ≤ _ + 12; omega) (by show 20 ≤ 80 * _ + 200; omega) d_F_init_1 h, List.forall_mem_cons.mpr ⟨fun S h => bs_aload_n (Z := Z) hx hb rfl d_F_init_4 h, List.forall_mem_cons.mpr ⟨fun S h => bs_bipush (Z := Z) hx hb (by decide) d_F_init_5 h, List.forall_mem_cons.mpr ⟨fun S h => bs_newa (Z := Z) (atype := .int) hx hb rfl hbs (hts _ (List.mem_cons_of_mem _ wd_82)) (hAr 8 (by decide)).2 rfl (by decide) (by decide) (by decide) (fun _ => rfl) (Nat.le_refl _) (Nat.le_refl _) d_F_init_7 h, List.forall_mem_cons.mpr ⟨fun S h => bs_pRF (Z := Z) (C := R_F) (T := F_F) (N := 9) (t := 7) (j := 0) (ty := (.array .int)) hx hb hK hts (fun w h => List.mem_cons_of_mem _ (iw_F w h)) hown rfl rfl (by decide) (hts _ (List.mem_cons_of_mem _ wd_46)) (fun _ h => h) rfl rfl t_F t_F_ok n_F rfl hname rfl (by decide +kernel) (fun _ => rfl) (fun _ => rfl) rfl d_F_init_9 h, List.forall_mem_cons.mpr ⟨fun S h => bs_aload_n (Z := Z) hx hb rfl d_F_init_12 h, List.forall_mem_cons.mpr ⟨fun S h => bs_bipush (Z := Z) hx hb (by decide) d_F_init_13 h, List.forall_mem_cons.mpr ⟨fun S h => bs_newa (Z := Z) (atype := .int) hx hb rfl hbs (hts _ (List.mem_cons_of_mem _ wd_82)) (hAr 9 (by decide)).2 rfl (by decide) (by decide) (by decide) (fun _ => rfl) (Nat.le_refl _) (Nat.le_refl _) d_F_init_15 h, List.forall_mem_cons.mpr ⟨fun S h => bs_pRF (Z := Z) (C := R_F) (T := F_F) (N := 9) (t := 7) (j := 1) (ty := (.array .int)) hx hb hK hts (fun w h => List.mem_cons_of_mem _ (iw_F w h)) hown rfl rfl (by decide) (hts _ (List.mem_cons_of_mem _ wd_48)) (fun _ h => h) rfl rfl t_F t_F_ok n_F rfl hname rfl (by decide +kernel) (fun _ => rfl) (fun _ => rfl) rfl d_F_init_17 h, List.forall_mem_cons.mpr ⟨fun S h => bs_aload_n (Z := Z) hx hb rfl d_F_init_20 h, List.forall_mem_cons.mpr ⟨fun S h => bs_bipush (Z := Z) hx hb (by decide) d_F_init_21 h, List.forall_mem_cons.mpr ⟨fun S h => bs_newa (Z := Z) (atype := .int) hx hb rfl hbs (hts _ (List.mem_cons_of_mem _ wd_82)) (hAr 10 (by decide)).2 rfl (by decide) (by decide) (by decide) (fun _ => rfl) (Nat.le_refl _) (Nat.le_refl _) d_F_init_23 h, List.forall_mem_cons.mpr ⟨fun S h => bs_pRF (Z := Z) (C := R_F) (T := F_F) (N := 9) (t := 7) (j := 2) (ty := (.array .int)) hx hb hK hts (fun w h => List.mem_cons_of_mem _ (iw_F w h)) hown rfl rfl (by decide) (hts _ (List.mem_cons_of_mem _ wd_50)) (fun _ h => h) rfl rfl t_F t_F_ok n_F rfl hname rfl (by decide +kernel) (fun _ => rfl) (fun _ => rfl) rfl d_F_init_25 h, List.forall_mem_cons.mpr ⟨fun S h => bs_aload_n (Z := Z) hx hb rfl d_F_init_28 h, List.forall_mem_cons.mpr ⟨fun S h => bs_iconst (Z := Z) hx hb (by decide) d_F_init_29 h, List.forall_mem_cons.mpr ⟨fun S h => bs_newa (Z := Z) (atype := .int) hx hb rfl hbs (hts _ (List.mem_cons_of_mem _ wd_82)) (hAr 11 (by decide)).2 rfl (by decide) (by decide) (by decide) (fun _ => rfl) (Nat.le_refl _) (Nat.le_refl _) d_F_init_30 h, List.forall_mem_cons.mpr ⟨fun S h => bs_pRF (Z := Z) (C := R_F) (T := F_F) (N := 9) (t := 7) (j := 3) (ty := (.array .int)) hx hb hK hts (fun w h => List.mem_cons_of_mem _ (iw_F w h)) hown rfl rfl (by decide) (hts _ (List.mem_cons_of_mem _ wd_52)) (fun _ h => h) rfl rfl t_F t_F_ok n_F rfl hname rfl (by decide +kernel) (fun _ => rfl) (fun _ => rfl) rfl d_F_init_32 h, List.forall_mem_cons.mpr ⟨fun S h => bs_aload_n (Z := Z) hx hb rfl d_F_init_35 h, List.forall_mem_cons.mpr ⟨fun S h => bs_iconst (Z := Z) hx hb (by decide) d_F_init_36 h, List.forall_mem_cons.mpr ⟨fun S h => bs_newa (Z := Z) (atype := .int) hx hb rfl hbs (hts _ (List.mem_cons_of_mem _ wd_82)) (hAr 12 (by decide)).2 rfl (by decide) (by decide) (by decide) (fun _ => rfl) (Nat.le_refl _) (Nat.le_refl _) d_F_init_37 h, List.forall_mem_cons.mpr ⟨fun S h => bs_pRF (Z := Z) (C := R_F) (T := F_F) (N := 9) (t := 7) (j := 4) (ty := (.array .int)) hx hb hK hts (fun w h => List.mem_cons_of_mem _ (iw_F w h)) hown rfl rfl (by decide) (hts _ (List.mem_cons_of_mem _ wd_54)) (fun _ h => h) rfl rfl t_F t_F_ok n_F rfl hname rfl (by decide +kernel) (fun _ => rfl) (fun _ => rfl) rfl d_F_init_39 h, List.forall_mem_cons.mpr ⟨fun S h => bs_aload_n (Z := Z) hx hb rfl d_F_init_42 h, List.forall_mem_cons.mpr ⟨fun S h => bs_iconst (Z := Z) hx hb (by decide) d_F_init_43 h, List.forall_mem_cons.mpr ⟨fun S h => bs_newa (Z := Z) (atype := .int) hx hb rfl hbs (hts _ (List.mem_cons_of_mem _ wd_82)) (hAr 13 (by decide)).2 rfl (by decide) (by decide) (by decide) (fun _ => rfl) (Nat.le_refl _) (Nat.le_refl _) d_F_init_44 h, List.forall_mem_cons.mpr ⟨fun S h => bs_pRF (Z := Z) (C := R_F) (T := F_F) (N := 9) (t := 7) (j := 5) (ty := (.array .int)) hx hb hK hts (fun w h => List.mem_cons_of_mem _ (iw_F w h)) hown rfl rfl (by decide) (hts _ (List.mem_cons_of_mem _ wd_55)) (fun _ h => h) rfl rfl t_F t_F_ok n_F rfl hname rfl (by decide +kernel) (fun _ => rfl) (fun _ => rfl) rfl d_F_init_46 h, List.forall_mem_cons.mpr ⟨fun S h => bs_aload_n (Z := Z) hx hb rfl d_F_init_49 h, List.forall_mem_cons.mpr ⟨fun S h => bs_iconst (Z := Z) hx hb (by decide) d_F_init_50 h, List.forall_mem_cons.mpr ⟨fun S h => bs_newa (Z := Z) (atype := .boolean) hx hb rfl hbs (hts _ (List.mem_cons_of_mem _ wd_83)) (hAr 14 (by decide)).2 rfl (by decide) (by decide) (by decide) (fun _ => rfl) (Nat.le_refl _) (Nat.le_refl _) d_F_init_51 h, List.forall_mem_cons.mpr ⟨fun S h => bs_pRF (Z := Z) (C := R_F) (T := F_F) (N := 9) (t := 7) (j := 6) (ty := (.array .boolean)) hx hb hK hts (fun w h => List.mem_cons_of_mem _ (iw_F w h)) hown rfl rfl (by decide) (hts _ (List.mem_cons_of_mem _ wd_56)) (fun _ h => h) rfl rfl t_F t_F_ok n_F rfl hname rfl (by decide +kernel) (fun _ => rfl) (fun _ => rfl) rfl d_F_init_53 h, List.forall_mem_cons.mpr ⟨fun S h => bs_aload_n (Z := Z) hx hb rfl d_F_init_56 h, List.forall_mem_cons.mpr ⟨fun S h => bs_gR (Z := Z) (C := R_F) (T := F_F) (N := 9) (t := 7) (j := 0) hx hb hK hts (fun w h => List.mem_cons_of_mem _ (iw_F w h)) hown rfl rfl (by decide) (hts _ (List.mem_cons_of_mem _ wd_46)) (fun _ h => h) rfl rfl rfl d_F_init_57 h, List.forall_mem_cons.mpr ⟨fun S h => bs_iconst (Z := Z) hx hb (by decide) d_F_init_60 h, List.forall_mem_cons.mpr ⟨fun S h => bs_callS (Z := Z) hBg hbs hB X0 (cn_A_fill htr (d + 0)) (cl_A_fill _ _ hw) (hts _ (List.mem_cons_of_mem _ wd_43)) (hts _ (List.mem_cons_of_mem _ wd_44)) (Nat.le_refl _) (Nat.le_refl _) d_F_init_61 (bs_out htab hlocks) h, List.forall_mem_cons.mpr ⟨fun S h => bs_aload_n (Z := Z) hx hb rfl d_F_init_64 h, List.forall_mem_cons.mpr ⟨fun S h => bs_gR (Z := Z) (C := R_F) (T := F_F) (N := 9) (t := 7) (j := 2) hx hb hK hts (fun w h => List.mem_cons_of_mem _ (iw_F w h)) hown rfl rfl (by decide) (hts _ (List.mem_cons_of_mem _ wd_50)) (fun _ h => h) rfl rfl rfl d_F_init_65 h, List.forall_mem_cons.mpr ⟨fun S h => bs_iconst (Z := Z) hx hb (by decide) d_F_init_68 h, List.forall_mem_cons.mpr ⟨fun S h => bs_callS (Z := Z) hBg hbs hB X0 (cn_A_fill htr (d + 0)) (cl_A_fill _ _ hw) (hts _ (List.mem_cons_of_mem _ wd_43)) (hts _ (List.mem_cons_of_mem _ wd_44)) (Nat.le_refl _) (Nat.le_refl _) d_F_init_69 (bs_out htab hlocks) h, List.forall_mem_cons.mpr ⟨fun S h => bs_vret (Z := Z) hx hb hr hlocks d_F_init_72 h, fun _ h => absurd h List.not_mem_nil⟩⟩⟩⟩⟩⟩⟩⟩⟩⟩⟩⟩⟩⟩⟩⟩⟩⟩⟩⟩⟩⟩⟩⟩⟩⟩⟩⟩⟩⟩⟩⟩⟩⟩⟩⟩⟩⟩⟩
abbrev c_B_init : ByteArray := prog_2_method_1_code
def y_B_init : MethodName := ⟨"BundleHall$Bundle", "<init>", "(I)V"⟩
theorem d_B_init_0 : decode c_B_init 0 = .ok (.aload_n 0, 1) := by decide +kernel
theorem d_B_init_1 : decode c_B_init 1 = .ok (.invokespecial 3, 3) := by decide +kernel
theorem d_B_init_4 : decode c_B_init 4 = .ok (.aload_n 0, 1) := by decide +kernel
theorem d_B_init_5 : decode c_B_init 5 = .ok (.iload_n 1, 1) := by decide +kernel
theorem d_B_init_6 : decode c_B_init 6 = .ok (.putfield 9, 3) := by decide +kernel
theorem d_B_init_9 : decode c_B_init 9 = .ok (.aload_n 0, 1) := by decide +kernel
theorem d_B_init_10 : decode c_B_init 10 = .ok (.iload_n 1, 1) := by decide +kernel
theorem d_B_init_11 : decode c_B_init 11 = .ok (.putfield 15, 3) := by decide +kernel
theorem d_B_init_14 : decode c_B_init 14 = .ok (.aload_n 0, 1) := by decide +kernel
theorem d_B_init_15 : decode c_B_init 15 = .ok (.new 18, 3) := by decide +kernel
theorem d_B_init_18 : decode c_B_init 18 = .ok (.dup, 1) := by decide +kernel
theorem d_B_init_19 : decode c_B_init 19 = .ok (.invokespecial 20, 3) := by decide +kernel
theorem d_B_init_22 : decode c_B_init 22 = .ok (.putfield 21, 3) := by decide +kernel
theorem d_B_init_25 : decode c_B_init 25 = .ok (.aload_n 0, 1) := by decide +kernel
theorem d_B_init_26 : decode c_B_init 26 = .ok (.iconst 3, 1) := by decide +kernel
theorem d_B_init_27 : decode c_B_init 27 = .ok (.newarray .int, 2) := by decide +kernel
theorem d_B_init_29 : decode c_B_init 29 = .ok (.putfield 25, 3) := by decide +kernel
theorem d_B_init_32 : decode c_B_init 32 = .ok (.aload_n 0, 1) := by decide +kernel
theorem d_B_init_33 : decode c_B_init 33 = .ok (.getfield 25, 3) := by decide +kernel
theorem d_B_init_36 : decode c_B_init 36 = .ok (.iconst (-1), 1) := by decide +kernel
theorem d_B_init_37 : decode c_B_init 37 = .ok (.invokestatic 29, 3) := by decide +kernel
theorem d_B_init_40 : decode c_B_init 40 = .ok (.return_, 1) := by decide +kernel
def T_B_init_0 : List (Nat × bh_Op) := [(0, bo_ald 1 0),
  (1, bo_obj 4),
  (4, bo_ald 5 0),
  (5, bo_ild 6 1),
  (6, bo_pI 9 5 0),
  (9, bo_ald 10 0),
  (10, bo_ild 11 1),
  (11, bo_pI 14 5 9),
  (14, bo_ald 15 0),
  (15, bo_new 18 7 9),
  (18, bo_st 19 bg_dup),
  (19, bo_callA 22 1 7 9 7 F_F_init),
  (22, bo_pR 25 5 1 7),
  (25, bo_ald 26 0),
  (26, bo_st 27 (bg_push (.inl (.int 3)))),
  (27, bo_newa bh_al 29 6 9),
  (29, bo_pR 32 5 2 6),
  (32, bo_ald 33 0),
  (33, bo_gR 36 5 2 6),
  (36, bo_st 37 (bg_push (.inl (.int (-1))))),
  (37, bo_callS 40 2 0 9 F_A_fill),
  (40, bo_vret 9)]
def T_B_init : List (Nat × bh_Op) := T_B_init_0
set_option maxRecDepth 20000 in
theorem mT_B_init_0 : ∀ q ∈ T_B_init_0, bh_mono q.2 := List.forall_mem_cons.mpr ⟨bo_ald_m _ _, List.forall_mem_cons.mpr ⟨bo_obj_m _, List.forall_mem_cons.mpr ⟨bo_ald_m _ _, List.forall_mem_cons.mpr ⟨bo_ild_m _ _, List.forall_mem_cons.mpr ⟨bo_pI_m _ _ _, List.forall_mem_cons.mpr ⟨bo_ald_m _ _, List.forall_mem_cons.mpr ⟨bo_ild_m _ _, List.forall_mem_cons.mpr ⟨bo_pI_m _ _ _, List.forall_mem_cons.mpr ⟨bo_ald_m _ _, List.forall_mem_cons.mpr ⟨bo_new_m _ _ _, List.forall_mem_cons.mpr ⟨bo_st_mono bg_dup_m, List.forall_mem_cons.mpr ⟨bo_callA_m (mF_F_init) _ _ _ _ _, List.forall_mem_cons.mpr ⟨bo_pR_m _ _ _ _, List.forall_mem_cons.mpr ⟨bo_ald_m _ _, List.forall_mem_cons.mpr ⟨bo_st_mono (bg_push_m _), List.forall_mem_cons.mpr ⟨bo_newa_m _ _ _ _, List.forall_mem_cons.mpr ⟨bo_pR_m _ _ _ _, List.forall_mem_cons.mpr ⟨bo_ald_m _ _, List.forall_mem_cons.mpr ⟨bo_gR_m _ _ _ _, List.forall_mem_cons.mpr ⟨bo_st_mono (bg_push_m _), List.forall_mem_cons.mpr ⟨bo_callS_m (mF_A_fill) _ _ _ _, List.forall_mem_cons.mpr ⟨bo_vret_m _, fun _ h => absurd h List.not_mem_nil⟩⟩⟩⟩⟩⟩⟩⟩⟩⟩⟩⟩⟩⟩⟩⟩⟩⟩⟩⟩⟩⟩
theorem m_B_init : ∀ pc, bh_mono (bh_tb (T_B_init) pc) := bh_tb_m mT_B_init_0
def F_B_init : bh_Fn := bh_fn 2 (bh_tb T_B_init)
theorem mF_B_init : bh_monoF F_B_init := bh_fn_m m_B_init
theorem cl_B_init {s : State} {args : Array Value} (d B : Nat) (hts : ∀ w ∈ bh_ws, w.before args s = true) : bh_Cal (bh_rm (d + 1) B) s y_B_init 2 (.code y_B_init c_B_init 2 none :: bh_ws) (bh_rm d 9) 9 1 := bh_cal d B hts wd_35 wd_2 (by decide) (by decide +kernel)
set_option maxHeartbeats 4000000 in
set_option maxRecDepth 100000 in
theorem cn_B_init {l : Launch} {G : bh_G} {base sb L : Nat} {xs : Nat → Int32} (htr : l.stackTraces = false) (d : Nat) : bh_Con l G base (bh_Bg G base sb L xs) y_B_init (.code y_B_init c_B_init 2 none :: bh_ws) (bh_rm (d + 3) 9) 9 true F_B_init := by
  refine bh_method (cc := c_B_init) (ret := none) (by decide +kernel) rfl ?_
  intro p e s m args below meth c ad0 M0 Z X0 hr hlocks hname htab hbs hB
  obtain ⟨hx, hb, hml, hown, hts⟩ := id X0
  have hw : ∀ w ∈ bh_ws, w.before args s = true := fun w h => hts w (List.mem_cons_of_mem _ h)
  have hBg := bh_BgK (G := G) (base := base) (sb := sb) (L := L) (xs := xs)
  obtain ⟨hK, hAr, hen, hinj, hu1, hu2, hstr, hX, hsb, hsc, hxw, hao, hnc⟩ := id hB
  obtain ⟨ha1, ha2, ha3, ha4, ha5, ha6, ha0⟩ := bh_arr hAr
  exact List.forall_mem_cons.mpr ⟨fun S h => bs_aload_n (Z := Z) hx hb rfl d_B_init_0 h, List.forall_mem_cons.mpr ⟨fun S h => bs_obj (Z := Z) hx hb hml hown (hts _ (List.mem_cons_of_mem _ wd_36)) (hts _ (List.mem_cons_of_mem _ wd_28)) (bh_objcode (hts _ (List.mem_cons_of_mem _ wd_29))) (by show 1 ≤ _ + 12; omega) (by show 20 ≤ 80 * _ + 200; omega) d_B_init_1 h, List.forall_mem_cons.mpr ⟨fun S h => bs_aload_n (Z := Z) hx hb rfl d_B_init_4 h, List.forall_mem_cons.mpr ⟨fun S h => bs_iload_n (Z := Z) hx hb rfl d_B_init_5 h, List.forall_mem_cons.mpr ⟨fun S h => bs_pIF (Z := Z) (C := R_B) (T := F_B) (N := 10) (t := 5) (j := 0) hx hb hK hts (fun w h => List.mem_cons_of_mem _ (iw_B w h)) hown rfl rfl (by decide) (hts _ (List.mem_cons_of_mem _ wd_85)) (fun _ h => h) rfl rfl t_B t_B_ok n_B rfl hname rfl (by decide +kernel) rfl d_B_init_6 h, List.forall_mem_cons.mpr ⟨fun S h => bs_aload_n (Z := Z) hx hb rfl d_B_init_9 h, List.forall_mem_cons.mpr ⟨fun S h => bs_iload_n (Z := Z) hx hb rfl d_B_init_10 h, List.forall_mem_cons.mpr ⟨fun S h => bs_pI (Z := Z) (C := R_B) (T := F_B) (N := 10) (t := 5) (j := 9) hx hb hK hts (fun w h => List.mem_cons_of_mem _ (iw_B w h)) hown rfl rfl (by decide) (hts _ (List.mem_cons_of_mem _ wd_107)) (fun _ h => h) rfl rfl t_B t_B_ok n_B rfl (by decide +kernel) rfl d_B_init_11 h, List.forall_mem_cons.mpr ⟨fun S h => bs_aload_n (Z := Z) hx hb rfl d_B_init_14 h, List.forall_mem_cons.mpr ⟨fun S h => bs_new (Z := Z) (C := R_F) (T := F_F) (N := 9) hx hb rfl hbs hK hts (fun w h => List.mem_cons_of_mem _ (iw_F w h)) t_F t_F_ok hown (hts _ (List.mem_cons_of_mem _ wd_37)) (hts _ (List.mem_cons_of_mem _ wd_38)) (hts _ (List.mem_cons_of_mem _ wd_3)) rfl rfl (by decide) rfl rfl df_F (Nat.le_refl _) (Nat.le_refl _) d_B_init_15 h, List.forall_mem_cons.mpr ⟨fun S h => bs_dup (Z := Z) hx hb d_B_init_18 h, List.forall_mem_cons.mpr ⟨fun S h => bs_callI (Z := Z) hBg hbs hB X0 rfl (cn_F_init htr (d + 0)) (cl_F_init _ _ hw) rfl (hts _ (List.mem_cons_of_mem _ wd_39)) (hts _ (List.mem_cons_of_mem _ wd_40)) (hts _ (List.mem_cons_of_mem _ wd_41)) rfl (Nat.le_refl _) (Nat.le_refl _) d_B_init_19 (bs_out htab hlocks) h, List.forall_mem_cons.mpr ⟨fun S h => bs_pRF (Z := Z) (C := R_B) (T := F_B) (N := 10) (t := 5) (j := 1) (ty := (.object "BundleHall$Manifest")) hx hb hK hts (fun w h => List.mem_cons_of_mem _ (iw_B w h)) hown rfl rfl (by decide) (hts _ (List.mem_cons_of_mem _ wd_88)) (fun _ h => h) rfl rfl t_B t_B_ok n_B rfl hname rfl (by decide +kernel) (fun _ => rfl) (fun _ => rfl) rfl d_B_init_22 h, List.forall_mem_cons.mpr ⟨fun S h => bs_aload_n (Z := Z) hx hb rfl d_B_init_25 h, List.forall_mem_cons.mpr ⟨fun S h => bs_iconst (Z := Z) hx hb (by decide) d_B_init_26 h, List.forall_mem_cons.mpr ⟨fun S h => bs_newa (Z := Z) (atype := .int) hx hb rfl hbs (hts _ (List.mem_cons_of_mem _ wd_82)) (hAr 6 (by decide)).2 rfl (by decide) (by decide) (by decide) (fun _ => rfl) (Nat.le_refl _) (Nat.le_refl _) d_B_init_27 h, List.forall_mem_cons.mpr ⟨fun S h => bs_pRF (Z := Z) (C := R_B) (T := F_B) (N := 10) (t := 5) (j := 2) (ty := (.array .int)) hx hb hK hts (fun w h => List.mem_cons_of_mem _ (iw_B w h)) hown rfl rfl (by decide) (hts _ (List.mem_cons_of_mem _ wd_91)) (fun _ h => h) rfl rfl t_B t_B_ok n_B rfl hname rfl (by decide +kernel) (fun _ => rfl) (fun _ => rfl) rfl d_B_init_29 h, List.forall_mem_cons.mpr ⟨fun S h => bs_aload_n (Z := Z) hx hb rfl d_B_init_32 h, List.forall_mem_cons.mpr ⟨fun S h => bs_gR (Z := Z) (C := R_B) (T := F_B) (N := 10) (t := 5) (j := 2) hx hb hK hts (fun w h => List.mem_cons_of_mem _ (iw_B w h)) hown rfl rfl (by decide) (hts _ (List.mem_cons_of_mem _ wd_91)) (fun _ h => h) rfl rfl rfl d_B_init_33 h, List.forall_mem_cons.mpr ⟨fun S h => bs_iconst (Z := Z) hx hb (by decide) d_B_init_36 h, List.forall_mem_cons.mpr ⟨fun S h => bs_callS (Z := Z) hBg hbs hB X0 (cn_A_fill htr (d + 1)) (cl_A_fill _ _ hw) (hts _ (List.mem_cons_of_mem _ wd_84)) (hts _ (List.mem_cons_of_mem _ wd_44)) (Nat.le_refl _) (Nat.le_refl _) d_B_init_37 (bs_out htab hlocks) h, List.forall_mem_cons.mpr ⟨fun S h => bs_vret (Z := Z) hx hb hr hlocks d_B_init_40 h, fun _ h => absurd h List.not_mem_nil⟩⟩⟩⟩⟩⟩⟩⟩⟩⟩⟩⟩⟩⟩⟩⟩⟩⟩⟩⟩⟩⟩
abbrev c_R_init : ByteArray := prog_6_method_1_code
def y_R_init : MethodName := ⟨"BundleHall$Resolver", "<init>", "()V"⟩
theorem d_R_init_0 : decode c_R_init 0 = .ok (.aload_n 0, 1) := by decide +kernel
theorem d_R_init_1 : decode c_R_init 1 = .ok (.invokespecial 3, 3) := by decide +kernel
theorem d_R_init_4 : decode c_R_init 4 = .ok (.aload_n 0, 1) := by decide +kernel
theorem d_R_init_5 : decode c_R_init 5 = .ok (.bipush 24, 2) := by decide +kernel
theorem d_R_init_7 : decode c_R_init 7 = .ok (.newarray .int, 2) := by decide +kernel
theorem d_R_init_9 : decode c_R_init 9 = .ok (.putfield 9, 3) := by decide +kernel
theorem d_R_init_12 : decode c_R_init 12 = .ok (.aload_n 0, 1) := by decide +kernel
theorem d_R_init_13 : decode c_R_init 13 = .ok (.bipush 24, 2) := by decide +kernel
theorem d_R_init_15 : decode c_R_init 15 = .ok (.newarray .int, 2) := by decide +kernel
theorem d_R_init_17 : decode c_R_init 17 = .ok (.putfield 15, 3) := by decide +kernel
theorem d_R_init_20 : decode c_R_init 20 = .ok (.aload_n 0, 1) := by decide +kernel
theorem d_R_init_21 : decode c_R_init 21 = .ok (.bipush 8, 2) := by decide +kernel
theorem d_R_init_23 : decode c_R_init 23 = .ok (.newarray .boolean, 2) := by decide +kernel
theorem d_R_init_25 : decode c_R_init 25 = .ok (.putfield 18, 3) := by decide +kernel
theorem d_R_init_28 : decode c_R_init 28 = .ok (.return_, 1) := by decide +kernel
def T_R_init_0 : List (Nat × bh_Op) := [(0, bo_ald 1 0),
  (1, bo_obj 4),
  (4, bo_ald 5 0),
  (5, bo_st 7 (bg_push (.inl (.int 24)))),
  (7, bo_newa bh_al 9 16 3),
  (9, bo_pR 12 15 0 16),
  (12, bo_ald 13 0),
  (13, bo_st 15 (bg_push (.inl (.int 24)))),
  (15, bo_newa bh_al 17 17 3),
  (17, bo_pR 20 15 1 17),
  (20, bo_ald 21 0),
  (21, bo_st 23 (bg_push (.inl (.int 8)))),
  (23, bo_newa bh_al 25 18 3),
  (25, bo_pR 28 15 2 18),
  (28, bo_vret 3)]
def T_R_init : List (Nat × bh_Op) := T_R_init_0
set_option maxRecDepth 20000 in
theorem mT_R_init_0 : ∀ q ∈ T_R_init_0, bh_mono q.2 := List.forall_mem_cons.mpr ⟨bo_ald_m _ _, List.forall_mem_cons.mpr ⟨bo_obj_m _, List.forall_mem_cons.mpr ⟨bo_ald_m _ _, List.forall_mem_cons.mpr ⟨bo_st_mono (bg_push_m _), List.forall_mem_cons.mpr ⟨bo_newa_m _ _ _ _, List.forall_mem_cons.mpr ⟨bo_pR_m _ _ _ _, List.forall_mem_cons.mpr ⟨bo_ald_m _ _, List.forall_mem_cons.mpr ⟨bo_st_mono (bg_push_m _), List.forall_mem_cons.mpr ⟨bo_newa_m _ _ _ _, List.forall_mem_cons.mpr ⟨bo_pR_m _ _ _ _, List.forall_mem_cons.mpr ⟨bo_ald_m _ _, List.forall_mem_cons.mpr ⟨bo_st_mono (bg_push_m _), List.forall_mem_cons.mpr ⟨bo_newa_m _ _ _ _, List.forall_mem_cons.mpr ⟨bo_pR_m _ _ _ _, List.forall_mem_cons.mpr ⟨bo_vret_m _, fun _ h => absurd h List.not_mem_nil⟩⟩⟩⟩⟩⟩⟩⟩⟩⟩⟩⟩⟩⟩⟩
theorem m_R_init : ∀ pc, bh_mono (bh_tb (T_R_init) pc) := bh_tb_m mT_R_init_0
def F_R_init : bh_Fn := bh_fn 1 (bh_tb T_R_init)
theorem mF_R_init : bh_monoF F_R_init := bh_fn_m m_R_init
theorem cl_R_init {s : State} {args : Array Value} (d B : Nat) (hts : ∀ w ∈ bh_ws, w.before args s = true) : bh_Cal (bh_rm (d + 1) B) s y_R_init 1 (.code y_R_init c_R_init 1 none :: bh_ws) (bh_rm d 3) 3 0 := bh_cal d B hts wd_135 wd_5 (by decide) (by decide +kernel)
set_option maxHeartbeats 4000000 in
set_option maxRecDepth 100000 in
theorem cn_R_init {l : Launch} {G : bh_G} {base sb L : Nat} {xs : Nat → Int32} (htr : l.stackTraces = false) (d : Nat) : bh_Con l G base (bh_Bg G base sb L xs) y_R_init (.code y_R_init c_R_init 1 none :: bh_ws) (bh_rm (d + 1) 3) 3 true F_R_init := by
  refine bh_method (cc := c_R_init) (ret := none) (by decide +kernel) rfl ?_
  intro p e s m args below meth c ad0 M0 Z X0 hr hlocks hname htab hbs hB
  obtain ⟨hx, hb, hml, hown, hts⟩ := id X0
  have hw : ∀ w ∈ bh_ws, w.before args s = true := fun w h => hts w (List.mem_cons_of_mem _ h)
  have hBg := bh_BgK (G := G) (base := base) (sb := sb) (L := L) (xs := xs)
  obtain ⟨hK, hAr, hen, hinj, hu1, hu2, hstr, hX, hsb, hsc, hxw, hao, hnc⟩ := id hB
  obtain ⟨ha1, ha2, ha3, ha4, ha5, ha6, ha0⟩ := bh_arr hAr
  exact List.forall_mem_cons.mpr ⟨fun S h => bs_aload_n (Z := Z) hx hb rfl d_R_init_0 h, List.forall_mem_cons.mpr ⟨fun S h => bs_obj (Z := Z) hx hb hml hown (hts _ (List.mem_cons_of_mem _ wd_136)) (hts _ (List.mem_cons_of_mem _ wd_28)) (bh_objcode (hts _ (List.mem_cons_of_mem _ wd_29))) (by show 1 ≤ _ + 12; omega) (by show 20 ≤ 80 * _ + 200; omega) d_R_init_1 h, List.forall_mem_cons.mpr ⟨fun S h => bs_aload_n (Z := Z) hx hb rfl d_R_init_4 h, List.forall_mem_cons.mpr ⟨fun S h => bs_bipush (Z := Z) hx hb (by decide) d_R_init_5 h, List.forall_mem_cons.mpr ⟨fun S h => bs_newa (Z := Z) (atype := .int) hx hb rfl hbs (hts _ (List.mem_cons_of_mem _ wd_82)) (hAr 16 (by decide)).2 rfl (by decide) (by decide) (by decide) (fun _ => rfl) (Nat.le_refl _) (Nat.le_refl _) d_R_init_7 h, List.forall_mem_cons.mpr ⟨fun S h => bs_pRF (Z := Z) (C := R_R) (T := F_R) (N := 6) (t := 15) (j := 0) (ty := (.array .int)) hx hb hK hts (fun w h => List.mem_cons_of_mem _ (iw_R w h)) hown rfl rfl (by decide) (hts _ (List.mem_cons_of_mem _ wd_137)) (fun _ h => h) rfl rfl t_R t_R_ok n_R rfl hname rfl (by decide +kernel) (fun _ => rfl) (fun _ => rfl) rfl d_R_init_9 h, List.forall_mem_cons.mpr ⟨fun S h => bs_aload_n (Z := Z) hx hb rfl d_R_init_12 h, List.forall_mem_cons.mpr ⟨fun S h => bs_bipush (Z := Z) hx hb (by decide) d_R_init_13 h, List.forall_mem_cons.mpr ⟨fun S h => bs_newa (Z := Z) (atype := .int) hx hb rfl hbs (hts _ (List.mem_cons_of_mem _ wd_82)) (hAr 17 (by decide)).2 rfl (by decide) (by decide) (by decide) (fun _ => rfl) (Nat.le_refl _) (Nat.le_refl _) d_R_init_15 h, List.forall_mem_cons.mpr ⟨fun S h => bs_pRF (Z := Z) (C := R_R) (T := F_R) (N := 6) (t := 15) (j := 1) (ty := (.array .int)) hx hb hK hts (fun w h => List.mem_cons_of_mem _ (iw_R w h)) hown rfl rfl (by decide) (hts _ (List.mem_cons_of_mem _ wd_138)) (fun _ h => h) rfl rfl t_R t_R_ok n_R rfl hname rfl (by decide +kernel) (fun _ => rfl) (fun _ => rfl) rfl d_R_init_17 h, List.forall_mem_cons.mpr ⟨fun S h => bs_aload_n (Z := Z) hx hb rfl d_R_init_20 h, List.forall_mem_cons.mpr ⟨fun S h => bs_bipush (Z := Z) hx hb (by decide) d_R_init_21 h, List.forall_mem_cons.mpr ⟨fun S h => bs_newa (Z := Z) (atype := .boolean) hx hb rfl hbs (hts _ (List.mem_cons_of_mem _ wd_83)) (hAr 18 (by decide)).2 rfl (by decide) (by decide) (by decide) (fun _ => rfl) (Nat.le_refl _) (Nat.le_refl _) d_R_init_23 h, List.forall_mem_cons.mpr ⟨fun S h => bs_pRF (Z := Z) (C := R_R) (T := F_R) (N := 6) (t := 15) (j := 2) (ty := (.array .boolean)) hx hb hK hts (fun w h => List.mem_cons_of_mem _ (iw_R w h)) hown rfl rfl (by decide) (hts _ (List.mem_cons_of_mem _ wd_139)) (fun _ h => h) rfl rfl t_R t_R_ok n_R rfl hname rfl (by decide +kernel) (fun _ => rfl) (fun _ => rfl) rfl d_R_init_25 h, List.forall_mem_cons.mpr ⟨fun S h => bs_vret (Z := Z) hx hb hr hlocks d_R_init_28 h, fun _ h => absurd h List.not_mem_nil⟩⟩⟩⟩⟩⟩⟩⟩⟩⟩⟩⟩⟩⟩⟩
abbrev c_S_init : ByteArray := prog_7_method_1_code
def y_S_init : MethodName := ⟨"BundleHall$Service", "<init>", "()V"⟩
theorem d_S_init_0 : decode c_S_init 0 = .ok (.aload_n 0, 1) := by decide +kernel
theorem d_S_init_1 : decode c_S_init 1 = .ok (.invokespecial 3, 3) := by decide +kernel
theorem d_S_init_4 : decode c_S_init 4 = .ok (.aload_n 0, 1) := by decide +kernel
theorem d_S_init_5 : decode c_S_init 5 = .ok (.bipush 8, 2) := by decide +kernel
theorem d_S_init_7 : decode c_S_init 7 = .ok (.newarray .int, 2) := by decide +kernel
theorem d_S_init_9 : decode c_S_init 9 = .ok (.putfield 9, 3) := by decide +kernel
theorem d_S_init_12 : decode c_S_init 12 = .ok (.return_, 1) := by decide +kernel
def T_S_init_0 : List (Nat × bh_Op) := [(0, bo_ald 1 0),
  (1, bo_obj 4),
  (4, bo_ald 5 0),
  (5, bo_st 7 (bg_push (.inl (.int 8)))),
  (7, bo_newa bh_al 9 22 1),
  (9, bo_pR 12 21 0 22),
  (12, bo_vret 1)]
def T_S_init : List (Nat × bh_Op) := T_S_init_0
set_option maxRecDepth 20000 in
theorem mT_S_init_0 : ∀ q ∈ T_S_init_0, bh_mono q.2 := List.forall_mem_cons.mpr ⟨bo_ald_m _ _, List.forall_mem_cons.mpr ⟨bo_obj_m _, List.forall_mem_cons.mpr ⟨bo_ald_m _ _, List.forall_mem_cons.mpr ⟨bo_st_mono (bg_push_m _), List.forall_mem_cons.mpr ⟨bo_newa_m _ _ _ _, List.forall_mem_cons.mpr ⟨bo_pR_m _ _ _ _, List.forall_mem_cons.mpr ⟨bo_vret_m _, fun _ h => absurd h List.not_mem_nil⟩⟩⟩⟩⟩⟩⟩
theorem m_S_init : ∀ pc, bh_mono (bh_tb (T_S_init) pc) := bh_tb_m mT_S_init_0
def F_S_init : bh_Fn := bh_fn 1 (bh_tb T_S_init)
theorem mF_S_init : bh_monoF F_S_init := bh_fn_m m_S_init
theorem cl_S_init {s : State} {args : Array Value} (d B : Nat) (hts : ∀ w ∈ bh_ws, w.before args s = true) : bh_Cal (bh_rm (d + 1) B) s y_S_init 1 (.code y_S_init c_S_init 1 none :: bh_ws) (bh_rm d 1) 1 0 := bh_cal d B hts wd_169 wd_7 (by decide) (by decide +kernel)
set_option maxHeartbeats 4000000 in
set_option maxRecDepth 100000 in
theorem cn_S_init {l : Launch} {G : bh_G} {base sb L : Nat} {xs : Nat → Int32} (htr : l.stackTraces = false) (d : Nat) : bh_Con l G base (bh_Bg G base sb L xs) y_S_init (.code y_S_init c_S_init 1 none :: bh_ws) (bh_rm (d + 1) 1) 1 true F_S_init := by
  refine bh_method (cc := c_S_init) (ret := none) (by decide +kernel) rfl ?_
  intro p e s m args below meth c ad0 M0 Z X0 hr hlocks hname htab hbs hB
  obtain ⟨hx, hb, hml, hown, hts⟩ := id X0
  have hw : ∀ w ∈ bh_ws, w.before args s = true := fun w h => hts w (List.mem_cons_of_mem _ h)
  have hBg := bh_BgK (G := G) (base := base) (sb := sb) (L := L) (xs := xs)
  obtain ⟨hK, hAr, hen, hinj, hu1, hu2, hstr, hX, hsb, hsc, hxw, hao, hnc⟩ := id hB
  obtain ⟨ha1, ha2, ha3, ha4, ha5, ha6, ha0⟩ := bh_arr hAr
  exact List.forall_mem_cons.mpr ⟨fun S h => bs_aload_n (Z := Z) hx hb rfl d_S_init_0 h, List.forall_mem_cons.mpr ⟨fun S h => bs_obj (Z := Z) hx hb hml hown (hts _ (List.mem_cons_of_mem _ wd_170)) (hts _ (List.mem_cons_of_mem _ wd_28)) (bh_objcode (hts _ (List.mem_cons_of_mem _ wd_29))) (by show 1 ≤ _ + 12; omega) (by show 20 ≤ 80 * _ + 200; omega) d_S_init_1 h, List.forall_mem_cons.mpr ⟨fun S h => bs_aload_n (Z := Z) hx hb rfl d_S_init_4 h, List.forall_mem_cons.mpr ⟨fun S h => bs_bipush (Z := Z) hx hb (by decide) d_S_init_5 h, List.forall_mem_cons.mpr ⟨fun S h => bs_newa (Z := Z) (atype := .int) hx hb rfl hbs (hts _ (List.mem_cons_of_mem _ wd_82)) (hAr 22 (by decide)).2 rfl (by decide) (by decide) (by decide) (fun _ => rfl) (Nat.le_refl _) (Nat.le_refl _) d_S_init_7 h, List.forall_mem_cons.mpr ⟨fun S h => bs_pRF (Z := Z) (C := R_S) (T := F_S) (N := 5) (t := 21) (j := 0) (ty := (.array .int)) hx hb hK hts (fun w h => List.mem_cons_of_mem _ (iw_S w h)) hown rfl rfl (by decide) (hts _ (List.mem_cons_of_mem _ wd_171)) (fun _ h => h) rfl rfl t_S t_S_ok n_S rfl hname rfl (by decide +kernel) (fun _ => rfl) (fun _ => rfl) rfl d_S_init_9 h, List.forall_mem_cons.mpr ⟨fun S h => bs_vret (Z := Z) hx hb hr hlocks d_S_init_12 h, fun _ h => absurd h List.not_mem_nil⟩⟩⟩⟩⟩⟩⟩
abbrev c_V_init : ByteArray := prog_8_method_1_code
def y_V_init : MethodName := ⟨"BundleHall$Services", "<init>", "()V"⟩
theorem d_V_init_0 : decode c_V_init 0 = .ok (.aload_n 0, 1) := by decide +kernel
theorem d_V_init_1 : decode c_V_init 1 = .ok (.invokespecial 3, 3) := by decide +kernel
theorem d_V_init_4 : decode c_V_init 4 = .ok (.aload_n 0, 1) := by decide +kernel
theorem d_V_init_5 : decode c_V_init 5 = .ok (.bipush 20, 2) := by decide +kernel
theorem d_V_init_7 : decode c_V_init 7 = .ok (.anewarray 9, 3) := by decide +kernel
theorem d_V_init_10 : decode c_V_init 10 = .ok (.putfield 11, 3) := by decide +kernel
theorem d_V_init_13 : decode c_V_init 13 = .ok (.iconst 0, 1) := by decide +kernel
theorem d_V_init_14 : decode c_V_init 14 = .ok (.istore_n 1, 1) := by decide +kernel
theorem d_V_init_15 : decode c_V_init 15 = .ok (.iload_n 1, 1) := by decide +kernel
theorem d_V_init_16 : decode c_V_init 16 = .ok (.bipush 20, 2) := by decide +kernel
theorem d_V_init_18 : decode c_V_init 18 = .ok (.if_icmp .ge 22, 3) := by decide +kernel
theorem d_V_init_21 : decode c_V_init 21 = .ok (.aload_n 0, 1) := by decide +kernel
theorem d_V_init_22 : decode c_V_init 22 = .ok (.getfield 11, 3) := by decide +kernel
theorem d_V_init_25 : decode c_V_init 25 = .ok (.iload_n 1, 1) := by decide +kernel
theorem d_V_init_26 : decode c_V_init 26 = .ok (.new 9, 3) := by decide +kernel
theorem d_V_init_29 : decode c_V_init 29 = .ok (.dup, 1) := by decide +kernel
theorem d_V_init_30 : decode c_V_init 30 = .ok (.invokespecial 17, 3) := by decide +kernel
theorem d_V_init_33 : decode c_V_init 33 = .ok (.aastore, 1) := by decide +kernel
theorem d_V_init_34 : decode c_V_init 34 = .ok (.iinc 1 1, 3) := by decide +kernel
theorem d_V_init_37 : decode c_V_init 37 = .ok (.goto (-22), 3) := by decide +kernel
theorem d_V_init_40 : decode c_V_init 40 = .ok (.return_, 1) := by decide +kernel
def T_V_init_0 : List (Nat × bh_Op) := [(0, bo_ald 1 0),
  (1, bo_obj 4),
  (4, bo_ald 5 0),
  (5, bo_st 7 (bg_push (.inl (.int 20)))),
  (7, bo_newa bh_al 10 20 41),
  (10, bo_pR 13 19 0 20),
  (13, bo_st 14 (bg_push (.inl (.int 0)))),
  (14, bo_ist 15 1),
  (15, bo_ild 16 1),
  (16, bo_st 18 (bg_push (.inl (.int 20)))),
  (18, bo_if2 21 40 (fun x y => y ≤ x)),
  (21, bo_ald 22 0),
  (22, bo_gR 25 19 0 20),
  (25, bo_ild 26 1),
  (26, bo_new 29 21 41),
  (29, bo_st 30 bg_dup),
  (30, bo_callA 33 1 1 41 21 F_S_init),
  (33, bo_Rast bh_ak bh_al 34),
  (34, bo_inc 37 1 1),
  (37, bo_go 15),
  (40, bo_vret 41)]
def T_V_init : List (Nat × bh_Op) := T_V_init_0
set_option maxRecDepth 20000 in
theorem mT_V_init_0 : ∀ q ∈ T_V_init_0, bh_mono q.2 := List.forall_mem_cons.mpr ⟨bo_ald_m _ _, List.forall_mem_cons.mpr ⟨bo_obj_m _, List.forall_mem_cons.mpr ⟨bo_ald_m _ _, List.forall_mem_cons.mpr ⟨bo_st_mono (bg_push_m _), List.forall_mem_cons.mpr ⟨bo_newa_m _ _ _ _, List.forall_mem_cons.mpr ⟨bo_pR_m _ _ _ _, List.forall_mem_cons.mpr ⟨bo_st_mono (bg_push_m _), List.forall_mem_cons.mpr ⟨bo_ist_m _ _, List.forall_mem_cons.mpr ⟨bo_ild_m _ _, List.forall_mem_cons.mpr ⟨bo_st_mono (bg_push_m _), List.forall_mem_cons.mpr ⟨bo_if2_m _ _ _, List.forall_mem_cons.mpr ⟨bo_ald_m _ _, List.forall_mem_cons.mpr ⟨bo_gR_m _ _ _ _, List.forall_mem_cons.mpr ⟨bo_ild_m _ _, List.forall_mem_cons.mpr ⟨bo_new_m _ _ _, List.forall_mem_cons.mpr ⟨bo_st_mono bg_dup_m, List.forall_mem_cons.mpr ⟨bo_callA_m (mF_S_init) _ _ _ _ _, List.forall_mem_cons.mpr ⟨bo_Rast_m _ _ _, List.forall_mem_cons.mpr ⟨bo_inc_m _ _ _, List.forall_mem_cons.mpr ⟨bo_go_m _, List.forall_mem_cons.mpr ⟨bo_vret_m _, fun _ h => absurd h List.not_mem_nil⟩⟩⟩⟩⟩⟩⟩⟩⟩⟩⟩⟩⟩⟩⟩⟩⟩⟩⟩⟩⟩
theorem m_V_init : ∀ pc, bh_mono (bh_tb (T_V_init) pc) := bh_tb_m mT_V_init_0
def F_V_init : bh_Fn := bh_fn 2 (bh_tb T_V_init)
theorem mF_V_init : bh_monoF F_V_init := bh_fn_m m_V_init
theorem cl_V_init {s : State} {args : Array Value} (d B : Nat) (hts : ∀ w ∈ bh_ws, w.before args s = true) : bh_Cal (bh_rm (d + 1) B) s y_V_init 2 (.code y_V_init c_V_init 2 none :: bh_ws) (bh_rm d 41) 41 0 := bh_cal d B hts wd_162 wd_6 (by decide) (by decide +kernel)
set_option maxHeartbeats 4000000 in
set_option maxRecDepth 100000 in
theorem cn_V_init {l : Launch} {G : bh_G} {base sb L : Nat} {xs : Nat → Int32} (htr : l.stackTraces = false) (d : Nat) : bh_Con l G base (bh_Bg G base sb L xs) y_V_init (.code y_V_init c_V_init 2 none :: bh_ws) (bh_rm (d + 2) 41) 41 true F_V_init := by
  refine bh_method (cc := c_V_init) (ret := none) (by decide +kernel) rfl ?_
  intro p e s m args below meth c ad0 M0 Z X0 hr hlocks hname htab hbs hB
  obtain ⟨hx, hb, hml, hown, hts⟩ := id X0
  have hw : ∀ w ∈ bh_ws, w.before args s = true := fun w h => hts w (List.mem_cons_of_mem _ h)
  have hBg := bh_BgK (G := G) (base := base) (sb := sb) (L := L) (xs := xs)
  obtain ⟨hK, hAr, hen, hinj, hu1, hu2, hstr, hX, hsb, hsc, hxw, hao, hnc⟩ := id hB
  obtain ⟨ha1, ha2, ha3, ha4, ha5, ha6, ha0⟩ := bh_arr hAr
  exact List.forall_mem_cons.mpr ⟨fun S h => bs_aload_n (Z := Z) hx hb rfl d_V_init_0 h, List.forall_mem_cons.mpr ⟨fun S h => bs_obj (Z := Z) hx hb hml hown (hts _ (List.mem_cons_of_mem _ wd_163)) (hts _ (List.mem_cons_of_mem _ wd_28)) (bh_objcode (hts _ (List.mem_cons_of_mem _ wd_29))) (by show 1 ≤ _ + 12; omega) (by show 20 ≤ 80 * _ + 200; omega) d_V_init_1 h, List.forall_mem_cons.mpr ⟨fun S h => bs_aload_n (Z := Z) hx hb rfl d_V_init_4 h, List.forall_mem_cons.mpr ⟨fun S h => bs_bipush (Z := Z) hx hb (by decide) d_V_init_5 h, List.forall_mem_cons.mpr ⟨fun S h => bs_anew (Z := Z) (C := "BundleHall$Service") hx hb rfl hbs hown (hts _ (List.mem_cons_of_mem _ wd_164)) (hao _ (by decide +kernel)) (bh_rr (hAr 20 (by decide)).2) rfl (by decide) (by decide) (fun _ => rfl) (Nat.le_refl _) (Nat.le_refl _) d_V_init_7 h, List.forall_mem_cons.mpr ⟨fun S h => bs_pRF (Z := Z) (C := R_V) (T := F_V) (N := 3) (t := 19) (j := 0) (ty := (.array (.object "BundleHall$Service"))) hx hb hK hts (fun w h => List.mem_cons_of_mem _ (iw_V w h)) hown rfl rfl (by decide) (hts _ (List.mem_cons_of_mem _ wd_191)) (fun _ h => h) rfl rfl t_V t_V_ok n_V rfl hname rfl (by decide +kernel) (fun _ => rfl) (fun _ => rfl) rfl d_V_init_10 h, List.forall_mem_cons.mpr ⟨fun S h => bs_iconst (Z := Z) hx hb (by decide) d_V_init_13 h, List.forall_mem_cons.mpr ⟨fun S h => bs_istore_n (Z := Z) hx hb rfl d_V_init_14 h, List.forall_mem_cons.mpr ⟨fun S h => bs_iload_n (Z := Z) hx hb rfl d_V_init_15 h, List.forall_mem_cons.mpr ⟨fun S h => bs_bipush (Z := Z) hx hb (by decide) d_V_init_16 h, List.forall_mem_cons.mpr ⟨fun S h => bs_icmp_ge (Z := Z) hx hb d_V_init_18 (by decide) h, List.forall_mem_cons.mpr ⟨fun S h => bs_aload_n (Z := Z) hx hb rfl d_V_init_21 h, List.forall_mem_cons.mpr ⟨fun S h => bs_gR (Z := Z) (C := R_V) (T := F_V) (N := 3) (t := 19) (j := 0) hx hb hK hts (fun w h => List.mem_cons_of_mem _ (iw_V w h)) hown rfl rfl (by decide) (hts _ (List.mem_cons_of_mem _ wd_191)) (fun _ h => h) rfl rfl rfl d_V_init_22 h, List.forall_mem_cons.mpr ⟨fun S h => bs_iload_n (Z := Z) hx hb rfl d_V_init_25 h, List.forall_mem_cons.mpr ⟨fun S h => bs_new (Z := Z) (C := R_S) (T := F_S) (N := 5) hx hb rfl hbs hK hts (fun w h => List.mem_cons_of_mem _ (iw_S w h)) t_S t_S_ok hown (hts _ (List.mem_cons_of_mem _ wd_164)) (hts _ (List.mem_cons_of_mem _ wd_166)) (hts _ (List.mem_cons_of_mem _ wd_7)) rfl rfl (by decide) rfl rfl df_S (Nat.le_refl _) (Nat.le_refl _) d_V_init_26 h, List.forall_mem_cons.mpr ⟨fun S h => bs_dup (Z := Z) hx hb d_V_init_29 h, List.forall_mem_cons.mpr ⟨fun S h => bs_callIN (Z := Z) hBg hbs hB X0 rfl (cn_S_init htr (d + 0)) (cl_S_init _ _ hw) rfl (hxw (.methodLinkNest "BundleHall$Services" 17 ⟨"BundleHall$Service", "<init>", "()V"⟩ "BundleHall") (by decide)) (hts _ (List.mem_cons_of_mem _ wd_168)) (hts _ (List.mem_cons_of_mem _ wd_169)) rfl (Nat.le_refl _) (Nat.le_refl _) d_V_init_30 (bs_out htab hlocks) h, List.forall_mem_cons.mpr ⟨fun S h => bs_Rast (Z := Z) hx hb hK ha6 d_V_init_33 h, List.forall_mem_cons.mpr ⟨fun S h => bs_iinc (Z := Z) hx hb (by decide) d_V_init_34 h, List.forall_mem_cons.mpr ⟨fun S h => bs_goto (Z := Z) hx hb d_V_init_37 (by decide) h, List.forall_mem_cons.mpr ⟨fun S h => bs_vret (Z := Z) hx hb hr hlocks d_V_init_40 h, fun _ h => absurd h List.not_mem_nil⟩⟩⟩⟩⟩⟩⟩⟩⟩⟩⟩⟩⟩⟩⟩⟩⟩⟩⟩⟩⟩
abbrev c_E_init : ByteArray := prog_3_method_1_code
def y_E_init : MethodName := ⟨"BundleHall$Events", "<init>", "()V"⟩
theorem d_E_init_0 : decode c_E_init 0 = .ok (.aload_n 0, 1) := by decide +kernel
theorem d_E_init_1 : decode c_E_init 1 = .ok (.invokespecial 3, 3) := by decide +kernel
theorem d_E_init_4 : decode c_E_init 4 = .ok (.aload_n 0, 1) := by decide +kernel
theorem d_E_init_5 : decode c_E_init 5 = .ok (.bipush 10, 2) := by decide +kernel
theorem d_E_init_7 : decode c_E_init 7 = .ok (.newarray .int, 2) := by decide +kernel
theorem d_E_init_9 : decode c_E_init 9 = .ok (.putfield 9, 3) := by decide +kernel
theorem d_E_init_12 : decode c_E_init 12 = .ok (.return_, 1) := by decide +kernel
def T_E_init_0 : List (Nat × bh_Op) := [(0, bo_ald 1 0),
  (1, bo_obj 4),
  (4, bo_ald 5 0),
  (5, bo_st 7 (bg_push (.inl (.int 10)))),
  (7, bo_newa bh_al 9 24 1),
  (9, bo_pR 12 23 0 24),
  (12, bo_vret 1)]
def T_E_init : List (Nat × bh_Op) := T_E_init_0
set_option maxRecDepth 20000 in
theorem mT_E_init_0 : ∀ q ∈ T_E_init_0, bh_mono q.2 := List.forall_mem_cons.mpr ⟨bo_ald_m _ _, List.forall_mem_cons.mpr ⟨bo_obj_m _, List.forall_mem_cons.mpr ⟨bo_ald_m _ _, List.forall_mem_cons.mpr ⟨bo_st_mono (bg_push_m _), List.forall_mem_cons.mpr ⟨bo_newa_m _ _ _ _, List.forall_mem_cons.mpr ⟨bo_pR_m _ _ _ _, List.forall_mem_cons.mpr ⟨bo_vret_m _, fun _ h => absurd h List.not_mem_nil⟩⟩⟩⟩⟩⟩⟩
theorem m_E_init : ∀ pc, bh_mono (bh_tb (T_E_init) pc) := bh_tb_m mT_E_init_0
def F_E_init : bh_Fn := bh_fn 1 (bh_tb T_E_init)
theorem mF_E_init : bh_monoF F_E_init := bh_fn_m m_E_init
theorem cl_E_init {s : State} {args : Array Value} (d B : Nat) (hts : ∀ w ∈ bh_ws, w.before args s = true) : bh_Cal (bh_rm (d + 1) B) s y_E_init 1 (.code y_E_init c_E_init 1 none :: bh_ws) (bh_rm d 1) 1 0 := bh_cal d B hts wd_207 wd_8 (by decide) (by decide +kernel)
set_option maxHeartbeats 4000000 in
set_option maxRecDepth 100000 in
theorem cn_E_init {l : Launch} {G : bh_G} {base sb L : Nat} {xs : Nat → Int32} (htr : l.stackTraces = false) (d : Nat) : bh_Con l G base (bh_Bg G base sb L xs) y_E_init (.code y_E_init c_E_init 1 none :: bh_ws) (bh_rm (d + 1) 1) 1 true F_E_init := by
  refine bh_method (cc := c_E_init) (ret := none) (by decide +kernel) rfl ?_
  intro p e s m args below meth c ad0 M0 Z X0 hr hlocks hname htab hbs hB
  obtain ⟨hx, hb, hml, hown, hts⟩ := id X0
  have hw : ∀ w ∈ bh_ws, w.before args s = true := fun w h => hts w (List.mem_cons_of_mem _ h)
  have hBg := bh_BgK (G := G) (base := base) (sb := sb) (L := L) (xs := xs)
  obtain ⟨hK, hAr, hen, hinj, hu1, hu2, hstr, hX, hsb, hsc, hxw, hao, hnc⟩ := id hB
  obtain ⟨ha1, ha2, ha3, ha4, ha5, ha6, ha0⟩ := bh_arr hAr
  exact List.forall_mem_cons.mpr ⟨fun S h => bs_aload_n (Z := Z) hx hb rfl d_E_init_0 h, List.forall_mem_cons.mpr ⟨fun S h => bs_obj (Z := Z) hx hb hml hown (hts _ (List.mem_cons_of_mem _ wd_208)) (hts _ (List.mem_cons_of_mem _ wd_28)) (bh_objcode (hts _ (List.mem_cons_of_mem _ wd_29))) (by show 1 ≤ _ + 12; omega) (by show 20 ≤ 80 * _ + 200; omega) d_E_init_1 h, List.forall_mem_cons.mpr ⟨fun S h => bs_aload_n (Z := Z) hx hb rfl d_E_init_4 h, List.forall_mem_cons.mpr ⟨fun S h => bs_bipush (Z := Z) hx hb (by decide) d_E_init_5 h, List.forall_mem_cons.mpr ⟨fun S h => bs_newa (Z := Z) (atype := .int) hx hb rfl hbs (hts _ (List.mem_cons_of_mem _ wd_82)) (hAr 24 (by decide)).2 rfl (by decide) (by decide) (by decide) (fun _ => rfl) (Nat.le_refl _) (Nat.le_refl _) d_E_init_7 h, List.forall_mem_cons.mpr ⟨fun S h => bs_pRF (Z := Z) (C := R_E) (T := F_E) (N := 4) (t := 23) (j := 0) (ty := (.array .int)) hx hb hK hts (fun w h => List.mem_cons_of_mem _ (iw_E w h)) hown rfl rfl (by decide) (hts _ (List.mem_cons_of_mem _ wd_209)) (fun _ h => h) rfl rfl t_E t_E_ok n_E rfl hname rfl (by decide +kernel) (fun _ => rfl) (fun _ => rfl) rfl d_E_init_9 h, List.forall_mem_cons.mpr ⟨fun S h => bs_vret (Z := Z) hx hb hr hlocks d_E_init_12 h, fun _ h => absurd h List.not_mem_nil⟩⟩⟩⟩⟩⟩⟩
abbrev c_H_init : ByteArray := prog_1_method_1_code
def y_H_init : MethodName := ⟨"BundleHall", "<init>", "()V"⟩
theorem d_H_init_0 : decode c_H_init 0 = .ok (.aload_n 0, 1) := by decide +kernel
theorem d_H_init_1 : decode c_H_init 1 = .ok (.invokespecial 3, 3) := by decide +kernel
theorem d_H_init_4 : decode c_H_init 4 = .ok (.aload_n 0, 1) := by decide +kernel
theorem d_H_init_5 : decode c_H_init 5 = .ok (.bipush 8, 2) := by decide +kernel
theorem d_H_init_7 : decode c_H_init 7 = .ok (.anewarray 9, 3) := by decide +kernel
theorem d_H_init_10 : decode c_H_init 10 = .ok (.putfield 11, 3) := by decide +kernel
theorem d_H_init_13 : decode c_H_init 13 = .ok (.iconst 0, 1) := by decide +kernel
theorem d_H_init_14 : decode c_H_init 14 = .ok (.istore_n 1, 1) := by decide +kernel
theorem d_H_init_15 : decode c_H_init 15 = .ok (.iload_n 1, 1) := by decide +kernel
theorem d_H_init_16 : decode c_H_init 16 = .ok (.bipush 8, 2) := by decide +kernel
theorem d_H_init_18 : decode c_H_init 18 = .ok (.if_icmp .ge 23, 3) := by decide +kernel
theorem d_H_init_21 : decode c_H_init 21 = .ok (.aload_n 0, 1) := by decide +kernel
theorem d_H_init_22 : decode c_H_init 22 = .ok (.getfield 11, 3) := by decide +kernel
theorem d_H_init_25 : decode c_H_init 25 = .ok (.iload_n 1, 1) := by decide +kernel
theorem d_H_init_26 : decode c_H_init 26 = .ok (.new 9, 3) := by decide +kernel
theorem d_H_init_29 : decode c_H_init 29 = .ok (.dup, 1) := by decide +kernel
theorem d_H_init_30 : decode c_H_init 30 = .ok (.iload_n 1, 1) := by decide +kernel
theorem d_H_init_31 : decode c_H_init 31 = .ok (.invokespecial 15, 3) := by decide +kernel
theorem d_H_init_34 : decode c_H_init 34 = .ok (.aastore, 1) := by decide +kernel
theorem d_H_init_35 : decode c_H_init 35 = .ok (.iinc 1 1, 3) := by decide +kernel
theorem d_H_init_38 : decode c_H_init 38 = .ok (.goto (-23), 3) := by decide +kernel
theorem d_H_init_41 : decode c_H_init 41 = .ok (.aload_n 0, 1) := by decide +kernel
theorem d_H_init_42 : decode c_H_init 42 = .ok (.new 18, 3) := by decide +kernel
theorem d_H_init_45 : decode c_H_init 45 = .ok (.dup, 1) := by decide +kernel
theorem d_H_init_46 : decode c_H_init 46 = .ok (.invokespecial 20, 3) := by decide +kernel
theorem d_H_init_49 : decode c_H_init 49 = .ok (.putfield 21, 3) := by decide +kernel
theorem d_H_init_52 : decode c_H_init 52 = .ok (.aload_n 0, 1) := by decide +kernel
theorem d_H_init_53 : decode c_H_init 53 = .ok (.new 25, 3) := by decide +kernel
theorem d_H_init_56 : decode c_H_init 56 = .ok (.dup, 1) := by decide +kernel
theorem d_H_init_57 : decode c_H_init 57 = .ok (.invokespecial 27, 3) := by decide +kernel
theorem d_H_init_60 : decode c_H_init 60 = .ok (.putfield 28, 3) := by decide +kernel
theorem d_H_init_63 : decode c_H_init 63 = .ok (.aload_n 0, 1) := by decide +kernel
theorem d_H_init_64 : decode c_H_init 64 = .ok (.new 32, 3) := by decide +kernel
theorem d_H_init_67 : decode c_H_init 67 = .ok (.dup, 1) := by decide +kernel
theorem d_H_init_68 : decode c_H_init 68 = .ok (.invokespecial 34, 3) := by decide +kernel
theorem d_H_init_71 : decode c_H_init 71 = .ok (.putfield 35, 3) := by decide +kernel
theorem d_H_init_74 : decode c_H_init 74 = .ok (.aload_n 0, 1) := by decide +kernel
theorem d_H_init_75 : decode c_H_init 75 = .ok (.iconst 1, 1) := by decide +kernel
theorem d_H_init_76 : decode c_H_init 76 = .ok (.putfield 39, 3) := by decide +kernel
theorem d_H_init_79 : decode c_H_init 79 = .ok (.return_, 1) := by decide +kernel
def T_H_init_0 : List (Nat × bh_Op) := [(0, bo_ald 1 0),
  (1, bo_obj 4),
  (4, bo_ald 5 0),
  (5, bo_st 7 (bg_push (.inl (.int 8)))),
  (7, bo_newa bh_al 10 4 129),
  (10, bo_pR 13 3 0 4),
  (13, bo_st 14 (bg_push (.inl (.int 0)))),
  (14, bo_ist 15 1),
  (15, bo_ild 16 1),
  (16, bo_st 18 (bg_push (.inl (.int 8)))),
  (18, bo_if2 21 41 (fun x y => y ≤ x)),
  (21, bo_ald 22 0),
  (22, bo_gR 25 3 0 4),
  (25, bo_ild 26 1),
  (26, bo_new 29 5 129),
  (29, bo_st 30 bg_dup),
  (30, bo_ild 31 1),
  (31, bo_callA 34 2 9 129 5 F_B_init),
  (34, bo_Rast bh_ak bh_al 35),
  (35, bo_inc 38 1 1),
  (38, bo_go 15),
  (41, bo_ald 42 0),
  (42, bo_new 45 15 129),
  (45, bo_st 46 bg_dup),
  (46, bo_callA 49 1 3 129 15 F_R_init),
  (49, bo_pR 52 3 1 15),
  (52, bo_ald 53 0),
  (53, bo_new 56 19 129),
  (56, bo_st 57 bg_dup),
  (57, bo_callA 60 1 41 129 19 F_V_init),
  (60, bo_pR 63 3 2 19),
  (63, bo_ald 64 0),
  (64, bo_new 67 23 129),
  (67, bo_st 68 bg_dup),
  (68, bo_callA 71 1 1 129 23 F_E_init),
  (71, bo_pR 74 3 3 23),
  (74, bo_ald 75 0),
  (75, bo_st 76 (bg_push (.inl (.int 1)))),
  (76, bo_pI 79 3 4),
  (79, bo_vret 129)]
def T_H_init : List (Nat × bh_Op) := T_H_init_0
set_option maxRecDepth 20000 in
theorem mT_H_init_0 : ∀ q ∈ T_H_init_0, bh_mono q.2 := List.forall_mem_cons.mpr ⟨bo_ald_m _ _, List.forall_mem_cons.mpr ⟨bo_obj_m _, List.forall_mem_cons.mpr ⟨bo_ald_m _ _, List.forall_mem_cons.mpr ⟨bo_st_mono (bg_push_m _), List.forall_mem_cons.mpr ⟨bo_newa_m _ _ _ _, List.forall_mem_cons.mpr ⟨bo_pR_m _ _ _ _, List.forall_mem_cons.mpr ⟨bo_st_mono (bg_push_m _), List.forall_mem_cons.mpr ⟨bo_ist_m _ _, List.forall_mem_cons.mpr ⟨bo_ild_m _ _, List.forall_mem_cons.mpr ⟨bo_st_mono (bg_push_m _), List.forall_mem_cons.mpr ⟨bo_if2_m _ _ _, List.forall_mem_cons.mpr ⟨bo_ald_m _ _, List.forall_mem_cons.mpr ⟨bo_gR_m _ _ _ _, List.forall_mem_cons.mpr ⟨bo_ild_m _ _, List.forall_mem_cons.mpr ⟨bo_new_m _ _ _, List.forall_mem_cons.mpr ⟨bo_st_mono bg_dup_m, List.forall_mem_cons.mpr ⟨bo_ild_m _ _, List.forall_mem_cons.mpr ⟨bo_callA_m (mF_B_init) _ _ _ _ _, List.forall_mem_cons.mpr ⟨bo_Rast_m _ _ _, List.forall_mem_cons.mpr ⟨bo_inc_m _ _ _, List.forall_mem_cons.mpr ⟨bo_go_m _, List.forall_mem_cons.mpr ⟨bo_ald_m _ _, List.forall_mem_cons.mpr ⟨bo_new_m _ _ _, List.forall_mem_cons.mpr ⟨bo_st_mono bg_dup_m, List.forall_mem_cons.mpr ⟨bo_callA_m (mF_R_init) _ _ _ _ _, List.forall_mem_cons.mpr ⟨bo_pR_m _ _ _ _, List.forall_mem_cons.mpr ⟨bo_ald_m _ _, List.forall_mem_cons.mpr ⟨bo_new_m _ _ _, List.forall_mem_cons.mpr ⟨bo_st_mono bg_dup_m, List.forall_mem_cons.mpr ⟨bo_callA_m (mF_V_init) _ _ _ _ _, List.forall_mem_cons.mpr ⟨bo_pR_m _ _ _ _, List.forall_mem_cons.mpr ⟨bo_ald_m _ _, List.forall_mem_cons.mpr ⟨bo_new_m _ _ _, List.forall_mem_cons.mpr ⟨bo_st_mono bg_dup_m, List.forall_mem_cons.mpr ⟨bo_callA_m (mF_E_init) _ _ _ _ _, List.forall_mem_cons.mpr ⟨bo_pR_m _ _ _ _, List.forall_mem_cons.mpr ⟨bo_ald_m _ _, List.forall_mem_cons.mpr ⟨bo_st_mono (bg_push_m _), List.forall_mem_cons.mpr ⟨bo_pI_m _ _ _, List.forall_mem_cons.mpr ⟨bo_vret_m _, fun _ h => absurd h List.not_mem_nil⟩⟩⟩⟩⟩⟩⟩⟩⟩⟩⟩⟩⟩⟩⟩⟩⟩⟩⟩⟩⟩⟩⟩⟩⟩⟩⟩⟩⟩⟩⟩⟩⟩⟩⟩⟩⟩⟩⟩⟩
theorem m_H_init : ∀ pc, bh_mono (bh_tb (T_H_init) pc) := bh_tb_m mT_H_init_0
def F_H_init : bh_Fn := bh_fn 2 (bh_tb T_H_init)
theorem mF_H_init : bh_monoF F_H_init := bh_fn_m m_H_init
theorem cl_H_init {s : State} {args : Array Value} (d B : Nat) (hts : ∀ w ∈ bh_ws, w.before args s = true) : bh_Cal (bh_rm (d + 1) B) s y_H_init 2 (.code y_H_init c_H_init 2 none :: bh_ws) (bh_rm d 129) 129 0 := bh_cal d B hts wd_26 wd_1 (by decide) (by decide +kernel)
set_option maxHeartbeats 4000000 in
set_option maxRecDepth 100000 in
theorem cn_H_init {l : Launch} {G : bh_G} {base sb L : Nat} {xs : Nat → Int32} (htr : l.stackTraces = false) (d : Nat) : bh_Con l G base (bh_Bg G base sb L xs) y_H_init (.code y_H_init c_H_init 2 none :: bh_ws) (bh_rm (d + 4) 129) 129 true F_H_init := by
  refine bh_method (cc := c_H_init) (ret := none) (by decide +kernel) rfl ?_
  intro p e s m args below meth c ad0 M0 Z X0 hr hlocks hname htab hbs hB
  obtain ⟨hx, hb, hml, hown, hts⟩ := id X0
  have hw : ∀ w ∈ bh_ws, w.before args s = true := fun w h => hts w (List.mem_cons_of_mem _ h)
  have hBg := bh_BgK (G := G) (base := base) (sb := sb) (L := L) (xs := xs)
  obtain ⟨hK, hAr, hen, hinj, hu1, hu2, hstr, hX, hsb, hsc, hxw, hao, hnc⟩ := id hB
  obtain ⟨ha1, ha2, ha3, ha4, ha5, ha6, ha0⟩ := bh_arr hAr
  exact List.forall_mem_cons.mpr ⟨fun S h => bs_aload_n (Z := Z) hx hb rfl d_H_init_0 h, List.forall_mem_cons.mpr ⟨fun S h => bs_obj (Z := Z) hx hb hml hown (hts _ (List.mem_cons_of_mem _ wd_27)) (hts _ (List.mem_cons_of_mem _ wd_28)) (bh_objcode (hts _ (List.mem_cons_of_mem _ wd_29))) (by show 1 ≤ _ + 12; omega) (by show 20 ≤ 80 * _ + 200; omega) d_H_init_1 h, List.forall_mem_cons.mpr ⟨fun S h => bs_aload_n (Z := Z) hx hb rfl d_H_init_4 h, List.forall_mem_cons.mpr ⟨fun S h => bs_bipush (Z := Z) hx hb (by decide) d_H_init_5 h, List.forall_mem_cons.mpr ⟨fun S h => bs_anew (Z := Z) (C := "BundleHall$Bundle") hx hb rfl hbs hown (hts _ (List.mem_cons_of_mem _ wd_30)) (hao _ (by decide +kernel)) (bh_rr (hAr 4 (by decide)).2) rfl (by decide) (by decide) (fun _ => rfl) (Nat.le_refl _) (Nat.le_refl _) d_H_init_7 h, List.forall_mem_cons.mpr ⟨fun S h => bs_pRF (Z := Z) (C := R_H) (T := F_H) (N := 5) (t := 3) (j := 0) (ty := (.array (.object "BundleHall$Bundle"))) hx hb hK hts (fun w h => List.mem_cons_of_mem _ (iw_H w h)) hown rfl rfl (by decide) (hts _ (List.mem_cons_of_mem _ wd_224)) (fun _ h => h) rfl rfl t_H t_H_ok n_H rfl hname rfl (by decide +kernel) (fun _ => rfl) (fun _ => rfl) rfl d_H_init_10 h, List.forall_mem_cons.mpr ⟨fun S h => bs_iconst (Z := Z) hx hb (by decide) d_H_init_13 h, List.forall_mem_cons.mpr ⟨fun S h => bs_istore_n (Z := Z) hx hb rfl d_H_init_14 h, List.forall_mem_cons.mpr ⟨fun S h => bs_iload_n (Z := Z) hx hb rfl d_H_init_15 h, List.forall_mem_cons.mpr ⟨fun S h => bs_bipush (Z := Z) hx hb (by decide) d_H_init_16 h, List.forall_mem_cons.mpr ⟨fun S h => bs_icmp_ge (Z := Z) hx hb d_H_init_18 (by decide) h, List.forall_mem_cons.mpr ⟨fun S h => bs_aload_n (Z := Z) hx hb rfl d_H_init_21 h, List.forall_mem_cons.mpr ⟨fun S h => bs_gR (Z := Z) (C := R_H) (T := F_H) (N := 5) (t := 3) (j := 0) hx hb hK hts (fun w h => List.mem_cons_of_mem _ (iw_H w h)) hown rfl rfl (by decide) (hts _ (List.mem_cons_of_mem _ wd_224)) (fun _ h => h) rfl rfl rfl d_H_init_22 h, List.forall_mem_cons.mpr ⟨fun S h => bs_iload_n (Z := Z) hx hb rfl d_H_init_25 h, List.forall_mem_cons.mpr ⟨fun S h => bs_new (Z := Z) (C := R_B) (T := F_B) (N := 10) hx hb rfl hbs hK hts (fun w h => List.mem_cons_of_mem _ (iw_B w h)) t_B t_B_ok hown (hts _ (List.mem_cons_of_mem _ wd_30)) (hts _ (List.mem_cons_of_mem _ wd_32)) (hts _ (List.mem_cons_of_mem _ wd_2)) rfl rfl (by decide) rfl rfl df_B (Nat.le_refl _) (Nat.le_refl _) d_H_init_26 h, List.forall_mem_cons.mpr ⟨fun S h => bs_dup (Z := Z) hx hb d_H_init_29 h, List.forall_mem_cons.mpr ⟨fun S h => bs_iload_n (Z := Z) hx hb rfl d_H_init_30 h, List.forall_mem_cons.mpr ⟨fun S h => bs_callI (Z := Z) hBg hbs hB X0 rfl (cn_B_init htr (d + 0)) (cl_B_init _ _ hw) rfl (hts _ (List.mem_cons_of_mem _ wd_33)) (hts _ (List.mem_cons_of_mem _ wd_34)) (hts _ (List.mem_cons_of_mem _ wd_35)) rfl (Nat.le_refl _) (Nat.le_refl _) d_H_init_31 (bs_out htab hlocks) h, List.forall_mem_cons.mpr ⟨fun S h => bs_Rast (Z := Z) hx hb hK ha6 d_H_init_34 h, List.forall_mem_cons.mpr ⟨fun S h => bs_iinc (Z := Z) hx hb (by decide) d_H_init_35 h, List.forall_mem_cons.mpr ⟨fun S h => bs_goto (Z := Z) hx hb d_H_init_38 (by decide) h, List.forall_mem_cons.mpr ⟨fun S h => bs_aload_n (Z := Z) hx hb rfl d_H_init_41 h, List.forall_mem_cons.mpr ⟨fun S h => bs_new (Z := Z) (C := R_R) (T := F_R) (N := 6) hx hb rfl hbs hK hts (fun w h => List.mem_cons_of_mem _ (iw_R w h)) t_R t_R_ok hown (hts _ (List.mem_cons_of_mem _ wd_131)) (hts _ (List.mem_cons_of_mem _ wd_132)) (hts _ (List.mem_cons_of_mem _ wd_5)) rfl rfl (by decide) rfl rfl df_R (Nat.le_refl _) (Nat.le_refl _) d_H_init_42 h, List.forall_mem_cons.mpr ⟨fun S h => bs_dup (Z := Z) hx hb d_H_init_45 h, List.forall_mem_cons.mpr ⟨fun S h => bs_callIN (Z := Z) hBg hbs hB X0 rfl (cn_R_init htr (d + 2)) (cl_R_init _ _ hw) rfl (hxw (.methodLinkNest "BundleHall" 20 ⟨"BundleHall$Resolver", "<init>", "()V"⟩ "BundleHall") (by decide)) (hts _ (List.mem_cons_of_mem _ wd_134)) (hts _ (List.mem_cons_of_mem _ wd_135)) rfl (Nat.le_refl _) (Nat.le_refl _) d_H_init_46 (bs_out htab hlocks) h, List.forall_mem_cons.mpr ⟨fun S h => bs_pRF (Z := Z) (C := R_H) (T := F_H) (N := 5) (t := 3) (j := 1) (ty := (.object "BundleHall$Resolver")) hx hb hK hts (fun w h => List.mem_cons_of_mem _ (iw_H w h)) hown rfl rfl (by decide) (hts _ (List.mem_cons_of_mem _ wd_225)) (fun _ h => h) rfl rfl t_H t_H_ok n_H rfl hname rfl (by decide +kernel) (fun _ => rfl) (fun _ => rfl) rfl d_H_init_49 h, List.forall_mem_cons.mpr ⟨fun S h => bs_aload_n (Z := Z) hx hb rfl d_H_init_52 h, List.forall_mem_cons.mpr ⟨fun S h => bs_new (Z := Z) (C := R_V) (T := F_V) (N := 3) hx hb rfl hbs hK hts (fun w h => List.mem_cons_of_mem _ (iw_V w h)) t_V t_V_ok hown (hts _ (List.mem_cons_of_mem _ wd_158)) (hts _ (List.mem_cons_of_mem _ wd_159)) (hts _ (List.mem_cons_of_mem _ wd_6)) rfl rfl (by decide) rfl rfl df_V (Nat.le_refl _) (Nat.le_refl _) d_H_init_53 h, List.forall_mem_cons.mpr ⟨fun S h => bs_dup (Z := Z) hx hb d_H_init_56 h, List.forall_mem_cons.mpr ⟨fun S h => bs_callI (Z := Z) hBg hbs hB X0 rfl (cn_V_init htr (d + 1)) (cl_V_init _ _ hw) rfl (hts _ (List.mem_cons_of_mem _ wd_160)) (hts _ (List.mem_cons_of_mem _ wd_161)) (hts _ (List.mem_cons_of_mem _ wd_162)) rfl (Nat.le_refl _) (Nat.le_refl _) d_H_init_57 (bs_out htab hlocks) h, List.forall_mem_cons.mpr ⟨fun S h => bs_pRF (Z := Z) (C := R_H) (T := F_H) (N := 5) (t := 3) (j := 2) (ty := (.object "BundleHall$Services")) hx hb hK hts (fun w h => List.mem_cons_of_mem _ (iw_H w h)) hown rfl rfl (by decide) (hts _ (List.mem_cons_of_mem _ wd_226)) (fun _ h => h) rfl rfl t_H t_H_ok n_H rfl hname rfl (by decide +kernel) (fun _ => rfl) (fun _ => rfl) rfl d_H_init_60 h, List.forall_mem_cons.mpr ⟨fun S h => bs_aload_n (Z := Z) hx hb rfl d_H_init_63 h, List.forall_mem_cons.mpr ⟨fun S h => bs_new (Z := Z) (C := R_E) (T := F_E) (N := 4) hx hb rfl hbs hK hts (fun w h => List.mem_cons_of_mem _ (iw_E w h)) t_E t_E_ok hown (hts _ (List.mem_cons_of_mem _ wd_203)) (hts _ (List.mem_cons_of_mem _ wd_204)) (hts _ (List.mem_cons_of_mem _ wd_8)) rfl rfl (by decide) rfl rfl df_E (Nat.le_refl _) (Nat.le_refl _) d_H_init_64 h, List.forall_mem_cons.mpr ⟨fun S h => bs_dup (Z := Z) hx hb d_H_init_67 h, List.forall_mem_cons.mpr ⟨fun S h => bs_callIN (Z := Z) hBg hbs hB X0 rfl (cn_E_init htr (d + 2)) (cl_E_init _ _ hw) rfl (hxw (.methodLinkNest "BundleHall" 34 ⟨"BundleHall$Events", "<init>", "()V"⟩ "BundleHall") (by decide)) (hts _ (List.mem_cons_of_mem _ wd_206)) (hts _ (List.mem_cons_of_mem _ wd_207)) rfl (Nat.le_refl _) (Nat.le_refl _) d_H_init_68 (bs_out htab hlocks) h, List.forall_mem_cons.mpr ⟨fun S h => bs_pRF (Z := Z) (C := R_H) (T := F_H) (N := 5) (t := 3) (j := 3) (ty := (.object "BundleHall$Events")) hx hb hK hts (fun w h => List.mem_cons_of_mem _ (iw_H w h)) hown rfl rfl (by decide) (hts _ (List.mem_cons_of_mem _ wd_227)) (fun _ h => h) rfl rfl t_H t_H_ok n_H rfl hname rfl (by decide +kernel) (fun _ => rfl) (fun _ => rfl) rfl d_H_init_71 h, List.forall_mem_cons.mpr ⟨fun S h => bs_aload_n (Z := Z) hx hb rfl d_H_init_74 h, List.forall_mem_cons.mpr ⟨fun S h => bs_iconst (Z := Z) hx hb (by decide) d_H_init_75 h, List.forall_mem_cons.mpr ⟨fun S h => bs_pI (Z := Z) (C := R_H) (T := F_H) (N := 5) (t := 3) (j := 4) hx hb hK hts (fun w h => List.mem_cons_of_mem _ (iw_H w h)) hown rfl rfl (by decide) (hts _ (List.mem_cons_of_mem _ wd_228)) (fun _ h => h) rfl rfl t_H t_H_ok n_H rfl (by decide +kernel) rfl d_H_init_76 h, List.forall_mem_cons.mpr ⟨fun S h => bs_vret (Z := Z) hx hb hr hlocks d_H_init_79 h, fun _ h => absurd h List.not_mem_nil⟩⟩⟩⟩⟩⟩⟩⟩⟩⟩⟩⟩⟩⟩⟩⟩⟩⟩⟩⟩⟩⟩⟩⟩⟩⟩⟩⟩⟩⟩⟩⟩⟩⟩⟩⟩⟩⟩⟩⟩
abbrev c_H_ownerOf : ByteArray := prog_1_method_37_code
def y_H_ownerOf : MethodName := ⟨"BundleHall", "ownerOf", "(I)I"⟩
theorem d_H_ownerOf_0 : decode c_H_ownerOf 0 = .ok (.iload_n 0, 1) := by decide +kernel
theorem d_H_ownerOf_1 : decode c_H_ownerOf 1 = .ok (.bipush 8, 2) := by decide +kernel
theorem d_H_ownerOf_3 : decode c_H_ownerOf 3 = .ok (.invokestatic 329, 3) := by decide +kernel
theorem d_H_ownerOf_6 : decode c_H_ownerOf 6 = .ok (.ireturn, 1) := by decide +kernel
def T_H_ownerOf_0 : List (Nat × bh_Op) := [(0, bo_ild 1 0),
  (1, bo_st 3 (bg_push (.inl (.int 8)))),
  (3, bo_callS 6 2 0 0 F_A_floorMod),
  (6, bo_iret 0)]
def T_H_ownerOf : List (Nat × bh_Op) := T_H_ownerOf_0
set_option maxRecDepth 20000 in
theorem mT_H_ownerOf_0 : ∀ q ∈ T_H_ownerOf_0, bh_mono q.2 := List.forall_mem_cons.mpr ⟨bo_ild_m _ _, List.forall_mem_cons.mpr ⟨bo_st_mono (bg_push_m _), List.forall_mem_cons.mpr ⟨bo_callS_m (mF_A_floorMod) _ _ _ _, List.forall_mem_cons.mpr ⟨bo_iret_m _, fun _ h => absurd h List.not_mem_nil⟩⟩⟩⟩
theorem m_H_ownerOf : ∀ pc, bh_mono (bh_tb (T_H_ownerOf) pc) := bh_tb_m mT_H_ownerOf_0
def F_H_ownerOf : bh_Fn := bh_fn 1 (bh_tb T_H_ownerOf)
theorem mF_H_ownerOf : bh_monoF F_H_ownerOf := bh_fn_m m_H_ownerOf
theorem cl_H_ownerOf {s : State} {args : Array Value} (d B : Nat) (hts : ∀ w ∈ bh_ws, w.before args s = true) : bh_Cal (bh_rm (d + 1) B) s y_H_ownerOf 1 (.code y_H_ownerOf c_H_ownerOf 1 (some .int) :: bh_ws) (bh_rm d 0) 0 1 := bh_cal d B hts wd_258 wd_1 (by decide) (by decide +kernel)
set_option maxHeartbeats 4000000 in
set_option maxRecDepth 100000 in
theorem cn_H_ownerOf {l : Launch} {G : bh_G} {base sb L : Nat} {xs : Nat → Int32} (htr : l.stackTraces = false) (d : Nat) : bh_Con l G base (bh_Bg G base sb L xs) y_H_ownerOf (.code y_H_ownerOf c_H_ownerOf 1 (some .int) :: bh_ws) (bh_rm (d + 2) 0) 0 false F_H_ownerOf := by
  refine bh_method (cc := c_H_ownerOf) (ret := (some .int)) (by decide +kernel) rfl ?_
  intro p e s m args below meth c ad0 M0 Z X0 hr hlocks hname htab hbs hB
  obtain ⟨hx, hb, hml, hown, hts⟩ := id X0
  have hw : ∀ w ∈ bh_ws, w.before args s = true := fun w h => hts w (List.mem_cons_of_mem _ h)
  have hBg := bh_BgK (G := G) (base := base) (sb := sb) (L := L) (xs := xs)
  obtain ⟨hK, hAr, hen, hinj, hu1, hu2, hstr, hX, hsb, hsc, hxw, hao, hnc⟩ := id hB
  obtain ⟨ha1, ha2, ha3, ha4, ha5, ha6, ha0⟩ := bh_arr hAr
  exact List.forall_mem_cons.mpr ⟨fun S h => bs_iload_n (Z := Z) hx hb rfl d_H_ownerOf_0 h, List.forall_mem_cons.mpr ⟨fun S h => bs_bipush (Z := Z) hx hb (by decide) d_H_ownerOf_1 h, List.forall_mem_cons.mpr ⟨fun S h => bs_callS (Z := Z) hBg hbs hB X0 (cn_A_floorMod htr (d + 0)) (cl_A_floorMod _ _ hw) (hts _ (List.mem_cons_of_mem _ wd_259)) (hts _ (List.mem_cons_of_mem _ wd_260)) (Nat.le_refl _) (Nat.le_refl _) d_H_ownerOf_3 (bs_out htab hlocks) h, List.forall_mem_cons.mpr ⟨fun S h => bs_iret (Z := Z) hx hb hr hlocks d_H_ownerOf_6 h, fun _ h => absurd h List.not_mem_nil⟩⟩⟩⟩
abbrev c_B_isResolved : ByteArray := prog_2_method_2_code
def y_B_isResolved : MethodName := ⟨"BundleHall$Bundle", "isResolved", "()Z"⟩
theorem d_B_isResolved_0 : decode c_B_isResolved 0 = .ok (.aload_n 0, 1) := by decide +kernel
theorem d_B_isResolved_1 : decode c_B_isResolved 1 = .ok (.getfield 35, 3) := by decide +kernel
theorem d_B_isResolved_4 : decode c_B_isResolved 4 = .ok (.iconst 2, 1) := by decide +kernel
theorem d_B_isResolved_5 : decode c_B_isResolved 5 = .ok (.if_icmp .lt 7, 3) := by decide +kernel
theorem d_B_isResolved_8 : decode c_B_isResolved 8 = .ok (.iconst 1, 1) := by decide +kernel
theorem d_B_isResolved_9 : decode c_B_isResolved 9 = .ok (.goto 4, 3) := by decide +kernel
theorem d_B_isResolved_12 : decode c_B_isResolved 12 = .ok (.iconst 0, 1) := by decide +kernel
theorem d_B_isResolved_13 : decode c_B_isResolved 13 = .ok (.ireturn, 1) := by decide +kernel
def T_B_isResolved_0 : List (Nat × bh_Op) := [(0, bo_ald 1 0),
  (1, bo_gI 4 5 3),
  (4, bo_st 5 (bg_push (.inl (.int 2)))),
  (5, bo_if2 8 12 (fun x y => x < y)),
  (8, bo_st 9 (bg_push (.inl (.int 1)))),
  (9, bo_go 13),
  (12, bo_st 13 (bg_push (.inl (.int 0)))),
  (13, bo_zret 0)]
def T_B_isResolved : List (Nat × bh_Op) := T_B_isResolved_0
set_option maxRecDepth 20000 in
theorem mT_B_isResolved_0 : ∀ q ∈ T_B_isResolved_0, bh_mono q.2 := List.forall_mem_cons.mpr ⟨bo_ald_m _ _, List.forall_mem_cons.mpr ⟨bo_gI_m _ _ _, List.forall_mem_cons.mpr ⟨bo_st_mono (bg_push_m _), List.forall_mem_cons.mpr ⟨bo_if2_m _ _ _, List.forall_mem_cons.mpr ⟨bo_st_mono (bg_push_m _), List.forall_mem_cons.mpr ⟨bo_go_m _, List.forall_mem_cons.mpr ⟨bo_st_mono (bg_push_m _), List.forall_mem_cons.mpr ⟨bo_zret_m _, fun _ h => absurd h List.not_mem_nil⟩⟩⟩⟩⟩⟩⟩⟩
theorem m_B_isResolved : ∀ pc, bh_mono (bh_tb (T_B_isResolved) pc) := bh_tb_m mT_B_isResolved_0
def F_B_isResolved : bh_Fn := bh_fn 1 (bh_tb T_B_isResolved)
theorem mF_B_isResolved : bh_monoF F_B_isResolved := bh_fn_m m_B_isResolved
theorem cl_B_isResolved {s : State} {args : Array Value} (d B : Nat) (hts : ∀ w ∈ bh_ws, w.before args s = true) : bh_Cal (bh_rm (d + 1) B) s y_B_isResolved 1 (.code y_B_isResolved c_B_isResolved 1 (some .boolean) :: bh_ws) (bh_rm d 0) 0 0 := bh_cal d B hts wd_265 wd_2 (by decide) (by decide +kernel)
set_option maxHeartbeats 4000000 in
set_option maxRecDepth 100000 in
theorem cn_B_isResolved {l : Launch} {G : bh_G} {base sb L : Nat} {xs : Nat → Int32} (htr : l.stackTraces = false) (d : Nat) : bh_Con l G base (bh_Bg G base sb L xs) y_B_isResolved (.code y_B_isResolved c_B_isResolved 1 (some .boolean) :: bh_ws) (bh_rm (d + 1) 0) 0 false F_B_isResolved := by
  refine bh_method (cc := c_B_isResolved) (ret := (some .boolean)) (by decide +kernel) rfl ?_
  intro p e s m args below meth c ad0 M0 Z X0 hr hlocks hname htab hbs hB
  obtain ⟨hx, hb, hml, hown, hts⟩ := id X0
  have hw : ∀ w ∈ bh_ws, w.before args s = true := fun w h => hts w (List.mem_cons_of_mem _ h)
  have hBg := bh_BgK (G := G) (base := base) (sb := sb) (L := L) (xs := xs)
  obtain ⟨hK, hAr, hen, hinj, hu1, hu2, hstr, hX, hsb, hsc, hxw, hao, hnc⟩ := id hB
  obtain ⟨ha1, ha2, ha3, ha4, ha5, ha6, ha0⟩ := bh_arr hAr
  exact List.forall_mem_cons.mpr ⟨fun S h => bs_aload_n (Z := Z) hx hb rfl d_B_isResolved_0 h, List.forall_mem_cons.mpr ⟨fun S h => bs_gI (Z := Z) (C := R_B) (T := F_B) (N := 10) (t := 5) (j := 3) hx hb hK hts (fun w h => List.mem_cons_of_mem _ (iw_B w h)) hown rfl rfl (by decide) (hts _ (List.mem_cons_of_mem _ wd_94)) (fun _ h => h) rfl rfl rfl d_B_isResolved_1 h, List.forall_mem_cons.mpr ⟨fun S h => bs_iconst (Z := Z) hx hb (by decide) d_B_isResolved_4 h, List.forall_mem_cons.mpr ⟨fun S h => bs_icmp_lt (Z := Z) hx hb d_B_isResolved_5 (by decide) h, List.forall_mem_cons.mpr ⟨fun S h => bs_iconst (Z := Z) hx hb (by decide) d_B_isResolved_8 h, List.forall_mem_cons.mpr ⟨fun S h => bs_goto (Z := Z) hx hb d_B_isResolved_9 (by decide) h, List.forall_mem_cons.mpr ⟨fun S h => bs_iconst (Z := Z) hx hb (by decide) d_B_isResolved_12 h, List.forall_mem_cons.mpr ⟨fun S h => bs_zret (Z := Z) hx hb hr hlocks d_B_isResolved_13 h, fun _ h => absurd h List.not_mem_nil⟩⟩⟩⟩⟩⟩⟩⟩
abbrev c_H_isOld : ByteArray := prog_1_method_38_code
def y_H_isOld : MethodName := ⟨"BundleHall", "isOld", "(I)Z"⟩
theorem d_H_isOld_0 : decode c_H_isOld 0 = .ok (.aload_n 0, 1) := by decide +kernel
theorem d_H_isOld_1 : decode c_H_isOld 1 = .ok (.getfield 11, 3) := by decide +kernel
theorem d_H_isOld_4 : decode c_H_isOld 4 = .ok (.iload_n 1, 1) := by decide +kernel
theorem d_H_isOld_5 : decode c_H_isOld 5 = .ok (.invokestatic 335, 3) := by decide +kernel
theorem d_H_isOld_8 : decode c_H_isOld 8 = .ok (.aaload, 1) := by decide +kernel
theorem d_H_isOld_9 : decode c_H_isOld 9 = .ok (.astore_n 2, 1) := by decide +kernel
theorem d_H_isOld_10 : decode c_H_isOld 10 = .ok (.iload_n 1, 1) := by decide +kernel
theorem d_H_isOld_11 : decode c_H_isOld 11 = .ok (.aload_n 2, 1) := by decide +kernel
theorem d_H_isOld_12 : decode c_H_isOld 12 = .ok (.getfield 338, 3) := by decide +kernel
theorem d_H_isOld_15 : decode c_H_isOld 15 = .ok (.if_icmp .ne 10, 3) := by decide +kernel
theorem d_H_isOld_18 : decode c_H_isOld 18 = .ok (.aload_n 2, 1) := by decide +kernel
theorem d_H_isOld_19 : decode c_H_isOld 19 = .ok (.invokevirtual 104, 3) := by decide +kernel
theorem d_H_isOld_22 : decode c_H_isOld 22 = .ok (.ifCond .ne 7, 3) := by decide +kernel
theorem d_H_isOld_25 : decode c_H_isOld 25 = .ok (.iconst 1, 1) := by decide +kernel
theorem d_H_isOld_26 : decode c_H_isOld 26 = .ok (.goto 4, 3) := by decide +kernel
theorem d_H_isOld_29 : decode c_H_isOld 29 = .ok (.iconst 0, 1) := by decide +kernel
theorem d_H_isOld_30 : decode c_H_isOld 30 = .ok (.ireturn, 1) := by decide +kernel
def T_H_isOld_0 : List (Nat × bh_Op) := [(0, bo_ald 1 0),
  (1, bo_gR 4 3 0 4),
  (4, bo_ild 5 1),
  (5, bo_callS 8 1 0 0 F_H_ownerOf),
  (8, bo_Rald bh_ak bh_al 9),
  (9, bo_ast 10 2),
  (10, bo_ild 11 1),
  (11, bo_ald 12 2),
  (12, bo_gI 15 5 9),
  (15, bo_if2 18 25 (fun x y => ¬ x = y)),
  (18, bo_ald 19 2),
  (19, bo_callV 22 1 0 0 5 F_B_isResolved),
  (22, bo_if1 25 29 (fun x => ¬ x = 0)),
  (25, bo_st 26 (bg_push (.inl (.int 1)))),
  (26, bo_go 30),
  (29, bo_st 30 (bg_push (.inl (.int 0)))),
  (30, bo_zret 0)]
def T_H_isOld : List (Nat × bh_Op) := T_H_isOld_0
set_option maxRecDepth 20000 in
theorem mT_H_isOld_0 : ∀ q ∈ T_H_isOld_0, bh_mono q.2 := List.forall_mem_cons.mpr ⟨bo_ald_m _ _, List.forall_mem_cons.mpr ⟨bo_gR_m _ _ _ _, List.forall_mem_cons.mpr ⟨bo_ild_m _ _, List.forall_mem_cons.mpr ⟨bo_callS_m (mF_H_ownerOf) _ _ _ _, List.forall_mem_cons.mpr ⟨bo_Rald_m _ _ _, List.forall_mem_cons.mpr ⟨bo_ast_m _ _, List.forall_mem_cons.mpr ⟨bo_ild_m _ _, List.forall_mem_cons.mpr ⟨bo_ald_m _ _, List.forall_mem_cons.mpr ⟨bo_gI_m _ _ _, List.forall_mem_cons.mpr ⟨bo_if2_m _ _ _, List.forall_mem_cons.mpr ⟨bo_ald_m _ _, List.forall_mem_cons.mpr ⟨bo_callV_m (mF_B_isResolved) _ _ _ _ _, List.forall_mem_cons.mpr ⟨bo_if1_m _ _ _, List.forall_mem_cons.mpr ⟨bo_st_mono (bg_push_m _), List.forall_mem_cons.mpr ⟨bo_go_m _, List.forall_mem_cons.mpr ⟨bo_st_mono (bg_push_m _), List.forall_mem_cons.mpr ⟨bo_zret_m _, fun _ h => absurd h List.not_mem_nil⟩⟩⟩⟩⟩⟩⟩⟩⟩⟩⟩⟩⟩⟩⟩⟩⟩
theorem m_H_isOld : ∀ pc, bh_mono (bh_tb (T_H_isOld) pc) := bh_tb_m mT_H_isOld_0
def F_H_isOld : bh_Fn := bh_fn 3 (bh_tb T_H_isOld)
theorem mF_H_isOld : bh_monoF F_H_isOld := bh_fn_m m_H_isOld
theorem cl_H_isOld {s : State} {args : Array Value} (d B : Nat) (hts : ∀ w ∈ bh_ws, w.before args s = true) : bh_Cal (bh_rm (d + 1) B) s y_H_isOld 3 (.code y_H_isOld c_H_isOld 3 (some .boolean) :: bh_ws) (bh_rm d 0) 0 1 := bh_cal d B hts wd_255 wd_1 (by decide) (by decide +kernel)
set_option maxHeartbeats 4000000 in
set_option maxRecDepth 100000 in
theorem cn_H_isOld {l : Launch} {G : bh_G} {base sb L : Nat} {xs : Nat → Int32} (htr : l.stackTraces = false) (d : Nat) : bh_Con l G base (bh_Bg G base sb L xs) y_H_isOld (.code y_H_isOld c_H_isOld 3 (some .boolean) :: bh_ws) (bh_rm (d + 3) 0) 0 false F_H_isOld := by
  refine bh_method (cc := c_H_isOld) (ret := (some .boolean)) (by decide +kernel) rfl ?_
  intro p e s m args below meth c ad0 M0 Z X0 hr hlocks hname htab hbs hB
  obtain ⟨hx, hb, hml, hown, hts⟩ := id X0
  have hw : ∀ w ∈ bh_ws, w.before args s = true := fun w h => hts w (List.mem_cons_of_mem _ h)
  have hBg := bh_BgK (G := G) (base := base) (sb := sb) (L := L) (xs := xs)
  obtain ⟨hK, hAr, hen, hinj, hu1, hu2, hstr, hX, hsb, hsc, hxw, hao, hnc⟩ := id hB
  obtain ⟨ha1, ha2, ha3, ha4, ha5, ha6, ha0⟩ := bh_arr hAr
  exact List.forall_mem_cons.mpr ⟨fun S h => bs_aload_n (Z := Z) hx hb rfl d_H_isOld_0 h, List.forall_mem_cons.mpr ⟨fun S h => bs_gR (Z := Z) (C := R_H) (T := F_H) (N := 5) (t := 3) (j := 0) hx hb hK hts (fun w h => List.mem_cons_of_mem _ (iw_H w h)) hown rfl rfl (by decide) (hts _ (List.mem_cons_of_mem _ wd_224)) (fun _ h => h) rfl rfl rfl d_H_isOld_1 h, List.forall_mem_cons.mpr ⟨fun S h => bs_iload_n (Z := Z) hx hb rfl d_H_isOld_4 h, List.forall_mem_cons.mpr ⟨fun S h => bs_callS (Z := Z) hBg hbs hB X0 (cn_H_ownerOf htr (d + 0)) (cl_H_ownerOf _ _ hw) (hts _ (List.mem_cons_of_mem _ wd_256)) (hts _ (List.mem_cons_of_mem _ wd_257)) (Nat.le_refl _) (Nat.le_refl _) d_H_isOld_5 (bs_out htab hlocks) h, List.forall_mem_cons.mpr ⟨fun S h => bs_Rald (Z := Z) hx hb ha5 d_H_isOld_8 h, List.forall_mem_cons.mpr ⟨fun S h => bs_astore_n (Z := Z) hx hb rfl d_H_isOld_9 h, List.forall_mem_cons.mpr ⟨fun S h => bs_iload_n (Z := Z) hx hb rfl d_H_isOld_10 h, List.forall_mem_cons.mpr ⟨fun S h => bs_aload_n (Z := Z) hx hb rfl d_H_isOld_11 h, List.forall_mem_cons.mpr ⟨fun S h => bs_gI (Z := Z) (C := R_B) (T := F_B) (N := 10) (t := 5) (j := 9) hx hb hK hts (fun w h => List.mem_cons_of_mem _ (iw_B w h)) hown rfl rfl (by decide) (hts _ (List.mem_cons_of_mem _ wd_109)) (fun _ h => h) rfl rfl rfl d_H_isOld_12 h, List.forall_mem_cons.mpr ⟨fun S h => bs_icmp_ne (Z := Z) hx hb d_H_isOld_15 (by decide) h, List.forall_mem_cons.mpr ⟨fun S h => bs_aload_n (Z := Z) hx hb rfl d_H_isOld_18 h, List.forall_mem_cons.mpr ⟨fun S h => bs_callV (Z := Z) (C := R_B) hBg hbs hB X0 hK (cn_B_isResolved htr (d + 1)) (cl_B_isResolved _ _ hw) (hts _ (List.mem_cons_of_mem _ wd_262)) (hts _ (List.mem_cons_of_mem _ wd_263)) (hts _ (List.mem_cons_of_mem _ wd_264)) rfl rfl rfl rfl rfl (Nat.le_refl _) (Nat.le_refl _) d_H_isOld_19 (bs_out htab hlocks) h, List.forall_mem_cons.mpr ⟨fun S h => bs_if_ne (Z := Z) hx hb d_H_isOld_22 (by decide) h, List.forall_mem_cons.mpr ⟨fun S h => bs_iconst (Z := Z) hx hb (by decide) d_H_isOld_25 h, List.forall_mem_cons.mpr ⟨fun S h => bs_goto (Z := Z) hx hb d_H_isOld_26 (by decide) h, List.forall_mem_cons.mpr ⟨fun S h => bs_iconst (Z := Z) hx hb (by decide) d_H_isOld_29 h, List.forall_mem_cons.mpr ⟨fun S h => bs_zret (Z := Z) hx hb hr hlocks d_H_isOld_30 h, fun _ h => absurd h List.not_mem_nil⟩⟩⟩⟩⟩⟩⟩⟩⟩⟩⟩⟩⟩⟩⟩⟩⟩
abbrev c_H_isIn : ByteArray := prog_1_method_41_code
def y_H_isIn : MethodName := ⟨"BundleHall", "isIn", "(II)Z"⟩
theorem d_H_isIn_0 : decode c_H_isIn 0 = .ok (.iload_n 0, 1) := by decide +kernel
theorem d_H_isIn_1 : decode c_H_isIn 1 = .ok (.iload_n 1, 1) := by decide +kernel
theorem d_H_isIn_2 : decode c_H_isIn 2 = .ok (.ishr, 1) := by decide +kernel
theorem d_H_isIn_3 : decode c_H_isIn 3 = .ok (.iconst 1, 1) := by decide +kernel
theorem d_H_isIn_4 : decode c_H_isIn 4 = .ok (.iand, 1) := by decide +kernel
theorem d_H_isIn_5 : decode c_H_isIn 5 = .ok (.ifCond .eq 7, 3) := by decide +kernel
theorem d_H_isIn_8 : decode c_H_isIn 8 = .ok (.iconst 1, 1) := by decide +kernel
theorem d_H_isIn_9 : decode c_H_isIn 9 = .ok (.goto 4, 3) := by decide +kernel
theorem d_H_isIn_12 : decode c_H_isIn 12 = .ok (.iconst 0, 1) := by decide +kernel
theorem d_H_isIn_13 : decode c_H_isIn 13 = .ok (.ireturn, 1) := by decide +kernel
def T_H_isIn_0 : List (Nat × bh_Op) := [(0, bo_ild 1 0),
  (1, bo_ild 2 1),
  (2, bo_st 3 (bg_ii (fun x y => x >>> (y &&& 31)))),
  (3, bo_st 4 (bg_push (.inl (.int 1)))),
  (4, bo_st 5 (bg_ii (fun x y => x &&& y))),
  (5, bo_if1 8 12 (fun x => x = 0)),
  (8, bo_st 9 (bg_push (.inl (.int 1)))),
  (9, bo_go 13),
  (12, bo_st 13 (bg_push (.inl (.int 0)))),
  (13, bo_zret 0)]
def T_H_isIn : List (Nat × bh_Op) := T_H_isIn_0
set_option maxRecDepth 20000 in
theorem mT_H_isIn_0 : ∀ q ∈ T_H_isIn_0, bh_mono q.2 := List.forall_mem_cons.mpr ⟨bo_ild_m _ _, List.forall_mem_cons.mpr ⟨bo_ild_m _ _, List.forall_mem_cons.mpr ⟨bo_st_mono (bg_ii_m _), List.forall_mem_cons.mpr ⟨bo_st_mono (bg_push_m _), List.forall_mem_cons.mpr ⟨bo_st_mono (bg_ii_m _), List.forall_mem_cons.mpr ⟨bo_if1_m _ _ _, List.forall_mem_cons.mpr ⟨bo_st_mono (bg_push_m _), List.forall_mem_cons.mpr ⟨bo_go_m _, List.forall_mem_cons.mpr ⟨bo_st_mono (bg_push_m _), List.forall_mem_cons.mpr ⟨bo_zret_m _, fun _ h => absurd h List.not_mem_nil⟩⟩⟩⟩⟩⟩⟩⟩⟩⟩
theorem m_H_isIn : ∀ pc, bh_mono (bh_tb (T_H_isIn) pc) := bh_tb_m mT_H_isIn_0
def F_H_isIn : bh_Fn := bh_fn 2 (bh_tb T_H_isIn)
theorem mF_H_isIn : bh_monoF F_H_isIn := bh_fn_m m_H_isIn
theorem cl_H_isIn {s : State} {args : Array Value} (d B : Nat) (hts : ∀ w ∈ bh_ws, w.before args s = true) : bh_Cal (bh_rm (d + 1) B) s y_H_isIn 2 (.code y_H_isIn c_H_isIn 2 (some .boolean) :: bh_ws) (bh_rm d 0) 0 2 := bh_cal d B hts wd_268 wd_1 (by decide) (by decide +kernel)
set_option maxHeartbeats 4000000 in
set_option maxRecDepth 100000 in
theorem cn_H_isIn {l : Launch} {G : bh_G} {base sb L : Nat} {xs : Nat → Int32} (htr : l.stackTraces = false) (d : Nat) : bh_Con l G base (bh_Bg G base sb L xs) y_H_isIn (.code y_H_isIn c_H_isIn 2 (some .boolean) :: bh_ws) (bh_rm (d + 1) 0) 0 false F_H_isIn := by
  refine bh_method (cc := c_H_isIn) (ret := (some .boolean)) (by decide +kernel) rfl ?_
  intro p e s m args below meth c ad0 M0 Z X0 hr hlocks hname htab hbs hB
  obtain ⟨hx, hb, hml, hown, hts⟩ := id X0
  have hw : ∀ w ∈ bh_ws, w.before args s = true := fun w h => hts w (List.mem_cons_of_mem _ h)
  have hBg := bh_BgK (G := G) (base := base) (sb := sb) (L := L) (xs := xs)
  obtain ⟨hK, hAr, hen, hinj, hu1, hu2, hstr, hX, hsb, hsc, hxw, hao, hnc⟩ := id hB
  obtain ⟨ha1, ha2, ha3, ha4, ha5, ha6, ha0⟩ := bh_arr hAr
  exact List.forall_mem_cons.mpr ⟨fun S h => bs_iload_n (Z := Z) hx hb rfl d_H_isIn_0 h, List.forall_mem_cons.mpr ⟨fun S h => bs_iload_n (Z := Z) hx hb rfl d_H_isIn_1 h, List.forall_mem_cons.mpr ⟨fun S h => bs_ishr (Z := Z) hx hb d_H_isIn_2 h, List.forall_mem_cons.mpr ⟨fun S h => bs_iconst (Z := Z) hx hb (by decide) d_H_isIn_3 h, List.forall_mem_cons.mpr ⟨fun S h => bs_iand (Z := Z) hx hb d_H_isIn_4 h, List.forall_mem_cons.mpr ⟨fun S h => bs_if_eq (Z := Z) hx hb d_H_isIn_5 (by decide) h, List.forall_mem_cons.mpr ⟨fun S h => bs_iconst (Z := Z) hx hb (by decide) d_H_isIn_8 h, List.forall_mem_cons.mpr ⟨fun S h => bs_goto (Z := Z) hx hb d_H_isIn_9 (by decide) h, List.forall_mem_cons.mpr ⟨fun S h => bs_iconst (Z := Z) hx hb (by decide) d_H_isIn_12 h, List.forall_mem_cons.mpr ⟨fun S h => bs_zret (Z := Z) hx hb hr hlocks d_H_isIn_13 h, fun _ h => absurd h List.not_mem_nil⟩⟩⟩⟩⟩⟩⟩⟩⟩⟩
abbrev c_H_leansOnStale : ByteArray := prog_1_method_43_code
def y_H_leansOnStale : MethodName := ⟨"BundleHall", "leansOnStale", "(LBundleHall$Bundle;I)Z"⟩
theorem d_H_leansOnStale_0 : decode c_H_leansOnStale 0 = .ok (.iconst 0, 1) := by decide +kernel
theorem d_H_leansOnStale_1 : decode c_H_leansOnStale 1 = .ok (.istore_n 3, 1) := by decide +kernel
theorem d_H_leansOnStale_2 : decode c_H_leansOnStale 2 = .ok (.iload_n 3, 1) := by decide +kernel
theorem d_H_leansOnStale_3 : decode c_H_leansOnStale 3 = .ok (.iconst 3, 1) := by decide +kernel
theorem d_H_leansOnStale_4 : decode c_H_leansOnStale 4 = .ok (.if_icmp .ge 46, 3) := by decide +kernel
theorem d_H_leansOnStale_7 : decode c_H_leansOnStale 7 = .ok (.aload_n 1, 1) := by decide +kernel
theorem d_H_leansOnStale_8 : decode c_H_leansOnStale 8 = .ok (.getfield 249, 3) := by decide +kernel
theorem d_H_leansOnStale_11 : decode c_H_leansOnStale 11 = .ok (.iload_n 3, 1) := by decide +kernel
theorem d_H_leansOnStale_12 : decode c_H_leansOnStale 12 = .ok (.iaload, 1) := by decide +kernel
theorem d_H_leansOnStale_13 : decode c_H_leansOnStale 13 = .ok (.istore 4, 2) := by decide +kernel
theorem d_H_leansOnStale_15 : decode c_H_leansOnStale 15 = .ok (.iload 4, 2) := by decide +kernel
theorem d_H_leansOnStale_17 : decode c_H_leansOnStale 17 = .ok (.iconst (-1), 1) := by decide +kernel
theorem d_H_leansOnStale_18 : decode c_H_leansOnStale 18 = .ok (.if_icmp .eq 26, 3) := by decide +kernel
theorem d_H_leansOnStale_21 : decode c_H_leansOnStale 21 = .ok (.aload_n 0, 1) := by decide +kernel
theorem d_H_leansOnStale_22 : decode c_H_leansOnStale 22 = .ok (.iload 4, 2) := by decide +kernel
theorem d_H_leansOnStale_24 : decode c_H_leansOnStale 24 = .ok (.invokevirtual 341, 3) := by decide +kernel
theorem d_H_leansOnStale_27 : decode c_H_leansOnStale 27 = .ok (.ifCond .ne 15, 3) := by decide +kernel
theorem d_H_leansOnStale_30 : decode c_H_leansOnStale 30 = .ok (.iload_n 2, 1) := by decide +kernel
theorem d_H_leansOnStale_31 : decode c_H_leansOnStale 31 = .ok (.iload 4, 2) := by decide +kernel
theorem d_H_leansOnStale_33 : decode c_H_leansOnStale 33 = .ok (.invokestatic 335, 3) := by decide +kernel
theorem d_H_leansOnStale_36 : decode c_H_leansOnStale 36 = .ok (.invokestatic 162, 3) := by decide +kernel
theorem d_H_leansOnStale_39 : decode c_H_leansOnStale 39 = .ok (.ifCond .eq 5, 3) := by decide +kernel
theorem d_H_leansOnStale_42 : decode c_H_leansOnStale 42 = .ok (.iconst 1, 1) := by decide +kernel
theorem d_H_leansOnStale_43 : decode c_H_leansOnStale 43 = .ok (.ireturn, 1) := by decide +kernel
theorem d_H_leansOnStale_44 : decode c_H_leansOnStale 44 = .ok (.iinc 3 1, 3) := by decide +kernel
theorem d_H_leansOnStale_47 : decode c_H_leansOnStale 47 = .ok (.goto (-45), 3) := by decide +kernel
theorem d_H_leansOnStale_50 : decode c_H_leansOnStale 50 = .ok (.iconst 0, 1) := by decide +kernel
theorem d_H_leansOnStale_51 : decode c_H_leansOnStale 51 = .ok (.ireturn, 1) := by decide +kernel
def T_H_leansOnStale_0 : List (Nat × bh_Op) := [(0, bo_st 1 (bg_push (.inl (.int 0)))),
  (1, bo_ist 2 3),
  (2, bo_ild 3 3),
  (3, bo_st 4 (bg_push (.inl (.int 3)))),
  (4, bo_if2 7 50 (fun x y => y ≤ x)),
  (7, bo_ald 8 1),
  (8, bo_gR 11 5 2 6),
  (11, bo_ild 12 3),
  (12, bo_Iald bh_ak bh_al 13),
  (13, bo_ist 15 4),
  (15, bo_ild 17 4),
  (17, bo_st 18 (bg_push (.inl (.int (-1))))),
  (18, bo_if2 21 44 (fun x y => x = y)),
  (21, bo_ald 22 0),
  (22, bo_ild 24 4),
  (24, bo_callV 27 2 0 0 3 F_H_isOld),
  (27, bo_if1 30 42 (fun x => ¬ x = 0)),
  (30, bo_ild 31 2),
  (31, bo_ild 33 4),
  (33, bo_callS 36 1 0 0 F_H_ownerOf),
  (36, bo_callS 39 2 0 0 F_H_isIn),
  (39, bo_if1 42 44 (fun x => x = 0)),
  (42, bo_st 43 (bg_push (.inl (.int 1)))),
  (43, bo_zret 0),
  (44, bo_inc 47 3 1),
  (47, bo_go 2),
  (50, bo_st 51 (bg_push (.inl (.int 0)))),
  (51, bo_zret 0)]
def T_H_leansOnStale : List (Nat × bh_Op) := T_H_leansOnStale_0
set_option maxRecDepth 20000 in
theorem mT_H_leansOnStale_0 : ∀ q ∈ T_H_leansOnStale_0, bh_mono q.2 := List.forall_mem_cons.mpr ⟨bo_st_mono (bg_push_m _), List.forall_mem_cons.mpr ⟨bo_ist_m _ _, List.forall_mem_cons.mpr ⟨bo_ild_m _ _, List.forall_mem_cons.mpr ⟨bo_st_mono (bg_push_m _), List.forall_mem_cons.mpr ⟨bo_if2_m _ _ _, List.forall_mem_cons.mpr ⟨bo_ald_m _ _, List.forall_mem_cons.mpr ⟨bo_gR_m _ _ _ _, List.forall_mem_cons.mpr ⟨bo_ild_m _ _, List.forall_mem_cons.mpr ⟨bo_Iald_m _ _ _, List.forall_mem_cons.mpr ⟨bo_ist_m _ _, List.forall_mem_cons.mpr ⟨bo_ild_m _ _, List.forall_mem_cons.mpr ⟨bo_st_mono (bg_push_m _), List.forall_mem_cons.mpr ⟨bo_if2_m _ _ _, List.forall_mem_cons.mpr ⟨bo_ald_m _ _, List.forall_mem_cons.mpr ⟨bo_ild_m _ _, List.forall_mem_cons.mpr ⟨bo_callV_m (mF_H_isOld) _ _ _ _ _, List.forall_mem_cons.mpr ⟨bo_if1_m _ _ _, List.forall_mem_cons.mpr ⟨bo_ild_m _ _, List.forall_mem_cons.mpr ⟨bo_ild_m _ _, List.forall_mem_cons.mpr ⟨bo_callS_m (mF_H_ownerOf) _ _ _ _, List.forall_mem_cons.mpr ⟨bo_callS_m (mF_H_isIn) _ _ _ _, List.forall_mem_cons.mpr ⟨bo_if1_m _ _ _, List.forall_mem_cons.mpr ⟨bo_st_mono (bg_push_m _), List.forall_mem_cons.mpr ⟨bo_zret_m _, List.forall_mem_cons.mpr ⟨bo_inc_m _ _ _, List.forall_mem_cons.mpr ⟨bo_go_m _, List.forall_mem_cons.mpr ⟨bo_st_mono (bg_push_m _), List.forall_mem_cons.mpr ⟨bo_zret_m _, fun _ h => absurd h List.not_mem_nil⟩⟩⟩⟩⟩⟩⟩⟩⟩⟩⟩⟩⟩⟩⟩⟩⟩⟩⟩⟩⟩⟩⟩⟩⟩⟩⟩⟩
theorem m_H_leansOnStale : ∀ pc, bh_mono (bh_tb (T_H_leansOnStale) pc) := bh_tb_m mT_H_leansOnStale_0
def F_H_leansOnStale : bh_Fn := bh_fn 5 (bh_tb T_H_leansOnStale)
theorem mF_H_leansOnStale : bh_monoF F_H_leansOnStale := bh_fn_m m_H_leansOnStale
theorem cl_H_leansOnStale {s : State} {args : Array Value} (d B : Nat) (hts : ∀ w ∈ bh_ws, w.before args s = true) : bh_Cal (bh_rm (d + 1) B) s y_H_leansOnStale 5 (.code y_H_leansOnStale c_H_leansOnStale 5 (some .boolean) :: bh_ws) (bh_rm d 0) 0 2 := bh_cal d B hts wd_251 wd_1 (by decide) (by decide +kernel)
set_option maxHeartbeats 4000000 in
set_option maxRecDepth 100000 in
theorem cn_H_leansOnStale {l : Launch} {G : bh_G} {base sb L : Nat} {xs : Nat → Int32} (htr : l.stackTraces = false) (d : Nat) : bh_Con l G base (bh_Bg G base sb L xs) y_H_leansOnStale (.code y_H_leansOnStale c_H_leansOnStale 5 (some .boolean) :: bh_ws) (bh_rm (d + 4) 0) 0 false F_H_leansOnStale := by
  refine bh_method (cc := c_H_leansOnStale) (ret := (some .boolean)) (by decide +kernel) rfl ?_
  intro p e s m args below meth c ad0 M0 Z X0 hr hlocks hname htab hbs hB
  obtain ⟨hx, hb, hml, hown, hts⟩ := id X0
  have hw : ∀ w ∈ bh_ws, w.before args s = true := fun w h => hts w (List.mem_cons_of_mem _ h)
  have hBg := bh_BgK (G := G) (base := base) (sb := sb) (L := L) (xs := xs)
  obtain ⟨hK, hAr, hen, hinj, hu1, hu2, hstr, hX, hsb, hsc, hxw, hao, hnc⟩ := id hB
  obtain ⟨ha1, ha2, ha3, ha4, ha5, ha6, ha0⟩ := bh_arr hAr
  exact List.forall_mem_cons.mpr ⟨fun S h => bs_iconst (Z := Z) hx hb (by decide) d_H_leansOnStale_0 h, List.forall_mem_cons.mpr ⟨fun S h => bs_istore_n (Z := Z) hx hb rfl d_H_leansOnStale_1 h, List.forall_mem_cons.mpr ⟨fun S h => bs_iload_n (Z := Z) hx hb rfl d_H_leansOnStale_2 h, List.forall_mem_cons.mpr ⟨fun S h => bs_iconst (Z := Z) hx hb (by decide) d_H_leansOnStale_3 h, List.forall_mem_cons.mpr ⟨fun S h => bs_icmp_ge (Z := Z) hx hb d_H_leansOnStale_4 (by decide) h, List.forall_mem_cons.mpr ⟨fun S h => bs_aload_n (Z := Z) hx hb rfl d_H_leansOnStale_7 h, List.forall_mem_cons.mpr ⟨fun S h => bs_gR (Z := Z) (C := R_B) (T := F_B) (N := 10) (t := 5) (j := 2) hx hb hK hts (fun w h => List.mem_cons_of_mem _ (iw_B w h)) hown rfl rfl (by decide) (hts _ (List.mem_cons_of_mem _ wd_93)) (fun _ h => h) rfl rfl rfl d_H_leansOnStale_8 h, List.forall_mem_cons.mpr ⟨fun S h => bs_iload_n (Z := Z) hx hb rfl d_H_leansOnStale_11 h, List.forall_mem_cons.mpr ⟨fun S h => bs_Iald (Z := Z) hx hb ha1 d_H_leansOnStale_12 h, List.forall_mem_cons.mpr ⟨fun S h => bs_istore (Z := Z) hx hb d_H_leansOnStale_13 h, List.forall_mem_cons.mpr ⟨fun S h => bs_iload (Z := Z) hx hb d_H_leansOnStale_15 h, List.forall_mem_cons.mpr ⟨fun S h => bs_iconst (Z := Z) hx hb (by decide) d_H_leansOnStale_17 h, List.forall_mem_cons.mpr ⟨fun S h => bs_icmp_eq (Z := Z) hx hb d_H_leansOnStale_18 (by decide) h, List.forall_mem_cons.mpr ⟨fun S h => bs_aload_n (Z := Z) hx hb rfl d_H_leansOnStale_21 h, List.forall_mem_cons.mpr ⟨fun S h => bs_iload (Z := Z) hx hb d_H_leansOnStale_22 h, List.forall_mem_cons.mpr ⟨fun S h => bs_callV (Z := Z) (C := R_H) hBg hbs hB X0 hK (cn_H_isOld htr (d + 0)) (cl_H_isOld _ _ hw) (hts _ (List.mem_cons_of_mem _ wd_252)) (hts _ (List.mem_cons_of_mem _ wd_254)) (hts _ (List.mem_cons_of_mem _ ws_2)) rfl rfl rfl rfl rfl (Nat.le_refl _) (Nat.le_refl _) d_H_leansOnStale_24 (bs_out htab hlocks) h, List.forall_mem_cons.mpr ⟨fun S h => bs_if_ne (Z := Z) hx hb d_H_leansOnStale_27 (by decide) h, List.forall_mem_cons.mpr ⟨fun S h => bs_iload_n (Z := Z) hx hb rfl d_H_leansOnStale_30 h, List.forall_mem_cons.mpr ⟨fun S h => bs_iload (Z := Z) hx hb d_H_leansOnStale_31 h, List.forall_mem_cons.mpr ⟨fun S h => bs_callS (Z := Z) hBg hbs hB X0 (cn_H_ownerOf htr (d + 1)) (cl_H_ownerOf _ _ hw) (hts _ (List.mem_cons_of_mem _ wd_256)) (hts _ (List.mem_cons_of_mem _ wd_257)) (Nat.le_refl _) (Nat.le_refl _) d_H_leansOnStale_33 (bs_out htab hlocks) h, List.forall_mem_cons.mpr ⟨fun S h => bs_callS (Z := Z) hBg hbs hB X0 (cn_H_isIn htr (d + 2)) (cl_H_isIn _ _ hw) (hts _ (List.mem_cons_of_mem _ wd_266)) (hts _ (List.mem_cons_of_mem _ wd_267)) (Nat.le_refl _) (Nat.le_refl _) d_H_leansOnStale_36 (bs_out htab hlocks) h, List.forall_mem_cons.mpr ⟨fun S h => bs_if_eq (Z := Z) hx hb d_H_leansOnStale_39 (by decide) h, List.forall_mem_cons.mpr ⟨fun S h => bs_iconst (Z := Z) hx hb (by decide) d_H_leansOnStale_42 h, List.forall_mem_cons.mpr ⟨fun S h => bs_zret (Z := Z) hx hb hr hlocks d_H_leansOnStale_43 h, List.forall_mem_cons.mpr ⟨fun S h => bs_iinc (Z := Z) hx hb (by decide) d_H_leansOnStale_44 h, List.forall_mem_cons.mpr ⟨fun S h => bs_goto (Z := Z) hx hb d_H_leansOnStale_47 (by decide) h, List.forall_mem_cons.mpr ⟨fun S h => bs_iconst (Z := Z) hx hb (by decide) d_H_leansOnStale_50 h, List.forall_mem_cons.mpr ⟨fun S h => bs_zret (Z := Z) hx hb hr hlocks d_H_leansOnStale_51 h, fun _ h => absurd h List.not_mem_nil⟩⟩⟩⟩⟩⟩⟩⟩⟩⟩⟩⟩⟩⟩⟩⟩⟩⟩⟩⟩⟩⟩⟩⟩⟩⟩⟩⟩
abbrev c_H_staleBundles : ByteArray := prog_1_method_42_code
def y_H_staleBundles : MethodName := ⟨"BundleHall", "staleBundles", "()I"⟩
theorem d_H_staleBundles_0 : decode c_H_staleBundles 0 = .ok (.iconst 0, 1) := by decide +kernel
theorem d_H_staleBundles_1 : decode c_H_staleBundles 1 = .ok (.istore_n 1, 1) := by decide +kernel
theorem d_H_staleBundles_2 : decode c_H_staleBundles 2 = .ok (.iconst 0, 1) := by decide +kernel
theorem d_H_staleBundles_3 : decode c_H_staleBundles 3 = .ok (.istore_n 2, 1) := by decide +kernel
theorem d_H_staleBundles_4 : decode c_H_staleBundles 4 = .ok (.iload_n 2, 1) := by decide +kernel
theorem d_H_staleBundles_5 : decode c_H_staleBundles 5 = .ok (.bipush 8, 2) := by decide +kernel
theorem d_H_staleBundles_7 : decode c_H_staleBundles 7 = .ok (.if_icmp .ge 43, 3) := by decide +kernel
theorem d_H_staleBundles_10 : decode c_H_staleBundles 10 = .ok (.iconst 0, 1) := by decide +kernel
theorem d_H_staleBundles_11 : decode c_H_staleBundles 11 = .ok (.istore_n 3, 1) := by decide +kernel
theorem d_H_staleBundles_12 : decode c_H_staleBundles 12 = .ok (.iload_n 3, 1) := by decide +kernel
theorem d_H_staleBundles_13 : decode c_H_staleBundles 13 = .ok (.bipush 8, 2) := by decide +kernel
theorem d_H_staleBundles_15 : decode c_H_staleBundles 15 = .ok (.if_icmp .ge 29, 3) := by decide +kernel
theorem d_H_staleBundles_18 : decode c_H_staleBundles 18 = .ok (.aload_n 0, 1) := by decide +kernel
theorem d_H_staleBundles_19 : decode c_H_staleBundles 19 = .ok (.aload_n 0, 1) := by decide +kernel
theorem d_H_staleBundles_20 : decode c_H_staleBundles 20 = .ok (.getfield 11, 3) := by decide +kernel
theorem d_H_staleBundles_23 : decode c_H_staleBundles 23 = .ok (.iload_n 3, 1) := by decide +kernel
theorem d_H_staleBundles_24 : decode c_H_staleBundles 24 = .ok (.aaload, 1) := by decide +kernel
theorem d_H_staleBundles_25 : decode c_H_staleBundles 25 = .ok (.iload_n 1, 1) := by decide +kernel
theorem d_H_staleBundles_26 : decode c_H_staleBundles 26 = .ok (.invokevirtual 347, 3) := by decide +kernel
theorem d_H_staleBundles_29 : decode c_H_staleBundles 29 = .ok (.ifCond .eq 9, 3) := by decide +kernel
theorem d_H_staleBundles_32 : decode c_H_staleBundles 32 = .ok (.iload_n 1, 1) := by decide +kernel
theorem d_H_staleBundles_33 : decode c_H_staleBundles 33 = .ok (.iconst 1, 1) := by decide +kernel
theorem d_H_staleBundles_34 : decode c_H_staleBundles 34 = .ok (.iload_n 3, 1) := by decide +kernel
theorem d_H_staleBundles_35 : decode c_H_staleBundles 35 = .ok (.ishl, 1) := by decide +kernel
theorem d_H_staleBundles_36 : decode c_H_staleBundles 36 = .ok (.ior, 1) := by decide +kernel
theorem d_H_staleBundles_37 : decode c_H_staleBundles 37 = .ok (.istore_n 1, 1) := by decide +kernel
theorem d_H_staleBundles_38 : decode c_H_staleBundles 38 = .ok (.iinc 3 1, 3) := by decide +kernel
theorem d_H_staleBundles_41 : decode c_H_staleBundles 41 = .ok (.goto (-29), 3) := by decide +kernel
theorem d_H_staleBundles_44 : decode c_H_staleBundles 44 = .ok (.iinc 2 1, 3) := by decide +kernel
theorem d_H_staleBundles_47 : decode c_H_staleBundles 47 = .ok (.goto (-43), 3) := by decide +kernel
theorem d_H_staleBundles_50 : decode c_H_staleBundles 50 = .ok (.iload_n 1, 1) := by decide +kernel
theorem d_H_staleBundles_51 : decode c_H_staleBundles 51 = .ok (.ireturn, 1) := by decide +kernel
def T_H_staleBundles_0 : List (Nat × bh_Op) := [(0, bo_st 1 (bg_push (.inl (.int 0)))),
  (1, bo_ist 2 1),
  (2, bo_st 3 (bg_push (.inl (.int 0)))),
  (3, bo_ist 4 2),
  (4, bo_ild 5 2),
  (5, bo_st 7 (bg_push (.inl (.int 8)))),
  (7, bo_if2 10 50 (fun x y => y ≤ x)),
  (10, bo_st 11 (bg_push (.inl (.int 0)))),
  (11, bo_ist 12 3),
  (12, bo_ild 13 3),
  (13, bo_st 15 (bg_push (.inl (.int 8)))),
  (15, bo_if2 18 44 (fun x y => y ≤ x)),
  (18, bo_ald 19 0),
  (19, bo_ald 20 0),
  (20, bo_gR 23 3 0 4),
  (23, bo_ild 24 3),
  (24, bo_Rald bh_ak bh_al 25),
  (25, bo_ild 26 1),
  (26, bo_callV 29 3 0 0 3 F_H_leansOnStale),
  (29, bo_if1 32 38 (fun x => x = 0)),
  (32, bo_ild 33 1),
  (33, bo_st 34 (bg_push (.inl (.int 1)))),
  (34, bo_ild 35 3),
  (35, bo_st 36 (bg_ii (fun x y => x <<< (y &&& 31)))),
  (36, bo_st 37 (bg_ii (fun x y => x ||| y))),
  (37, bo_ist 38 1),
  (38, bo_inc 41 3 1),
  (41, bo_go 12),
  (44, bo_inc 47 2 1),
  (47, bo_go 4),
  (50, bo_ild 51 1),
  (51, bo_iret 0)]
def T_H_staleBundles : List (Nat × bh_Op) := T_H_staleBundles_0
set_option maxRecDepth 20000 in
theorem mT_H_staleBundles_0 : ∀ q ∈ T_H_staleBundles_0, bh_mono q.2 := List.forall_mem_cons.mpr ⟨bo_st_mono (bg_push_m _), List.forall_mem_cons.mpr ⟨bo_ist_m _ _, List.forall_mem_cons.mpr ⟨bo_st_mono (bg_push_m _), List.forall_mem_cons.mpr ⟨bo_ist_m _ _, List.forall_mem_cons.mpr ⟨bo_ild_m _ _, List.forall_mem_cons.mpr ⟨bo_st_mono (bg_push_m _), List.forall_mem_cons.mpr ⟨bo_if2_m _ _ _, List.forall_mem_cons.mpr ⟨bo_st_mono (bg_push_m _), List.forall_mem_cons.mpr ⟨bo_ist_m _ _, List.forall_mem_cons.mpr ⟨bo_ild_m _ _, List.forall_mem_cons.mpr ⟨bo_st_mono (bg_push_m _), List.forall_mem_cons.mpr ⟨bo_if2_m _ _ _, List.forall_mem_cons.mpr ⟨bo_ald_m _ _, List.forall_mem_cons.mpr ⟨bo_ald_m _ _, List.forall_mem_cons.mpr ⟨bo_gR_m _ _ _ _, List.forall_mem_cons.mpr ⟨bo_ild_m _ _, List.forall_mem_cons.mpr ⟨bo_Rald_m _ _ _, List.forall_mem_cons.mpr ⟨bo_ild_m _ _, List.forall_mem_cons.mpr ⟨bo_callV_m (mF_H_leansOnStale) _ _ _ _ _, List.forall_mem_cons.mpr ⟨bo_if1_m _ _ _, List.forall_mem_cons.mpr ⟨bo_ild_m _ _, List.forall_mem_cons.mpr ⟨bo_st_mono (bg_push_m _), List.forall_mem_cons.mpr ⟨bo_ild_m _ _, List.forall_mem_cons.mpr ⟨bo_st_mono (bg_ii_m _), List.forall_mem_cons.mpr ⟨bo_st_mono (bg_ii_m _), List.forall_mem_cons.mpr ⟨bo_ist_m _ _, List.forall_mem_cons.mpr ⟨bo_inc_m _ _ _, List.forall_mem_cons.mpr ⟨bo_go_m _, List.forall_mem_cons.mpr ⟨bo_inc_m _ _ _, List.forall_mem_cons.mpr ⟨bo_go_m _, List.forall_mem_cons.mpr ⟨bo_ild_m _ _, List.forall_mem_cons.mpr ⟨bo_iret_m _, fun _ h => absurd h List.not_mem_nil⟩⟩⟩⟩⟩⟩⟩⟩⟩⟩⟩⟩⟩⟩⟩⟩⟩⟩⟩⟩⟩⟩⟩⟩⟩⟩⟩⟩⟩⟩⟩⟩
theorem m_H_staleBundles : ∀ pc, bh_mono (bh_tb (T_H_staleBundles) pc) := bh_tb_m mT_H_staleBundles_0
def F_H_staleBundles : bh_Fn := bh_fn 4 (bh_tb T_H_staleBundles)
theorem mF_H_staleBundles : bh_monoF F_H_staleBundles := bh_fn_m m_H_staleBundles
theorem cl_H_staleBundles {s : State} {args : Array Value} (d B : Nat) (hts : ∀ w ∈ bh_ws, w.before args s = true) : bh_Cal (bh_rm (d + 1) B) s y_H_staleBundles 4 (.code y_H_staleBundles c_H_staleBundles 4 (some .int) :: bh_ws) (bh_rm d 0) 0 0 := bh_cal d B hts wd_247 wd_1 (by decide) (by decide +kernel)
set_option maxHeartbeats 4000000 in
set_option maxRecDepth 100000 in
theorem cn_H_staleBundles {l : Launch} {G : bh_G} {base sb L : Nat} {xs : Nat → Int32} (htr : l.stackTraces = false) (d : Nat) : bh_Con l G base (bh_Bg G base sb L xs) y_H_staleBundles (.code y_H_staleBundles c_H_staleBundles 4 (some .int) :: bh_ws) (bh_rm (d + 5) 0) 0 false F_H_staleBundles := by
  refine bh_method (cc := c_H_staleBundles) (ret := (some .int)) (by decide +kernel) rfl ?_
  intro p e s m args below meth c ad0 M0 Z X0 hr hlocks hname htab hbs hB
  obtain ⟨hx, hb, hml, hown, hts⟩ := id X0
  have hw : ∀ w ∈ bh_ws, w.before args s = true := fun w h => hts w (List.mem_cons_of_mem _ h)
  have hBg := bh_BgK (G := G) (base := base) (sb := sb) (L := L) (xs := xs)
  obtain ⟨hK, hAr, hen, hinj, hu1, hu2, hstr, hX, hsb, hsc, hxw, hao, hnc⟩ := id hB
  obtain ⟨ha1, ha2, ha3, ha4, ha5, ha6, ha0⟩ := bh_arr hAr
  exact List.forall_mem_cons.mpr ⟨fun S h => bs_iconst (Z := Z) hx hb (by decide) d_H_staleBundles_0 h, List.forall_mem_cons.mpr ⟨fun S h => bs_istore_n (Z := Z) hx hb rfl d_H_staleBundles_1 h, List.forall_mem_cons.mpr ⟨fun S h => bs_iconst (Z := Z) hx hb (by decide) d_H_staleBundles_2 h, List.forall_mem_cons.mpr ⟨fun S h => bs_istore_n (Z := Z) hx hb rfl d_H_staleBundles_3 h, List.forall_mem_cons.mpr ⟨fun S h => bs_iload_n (Z := Z) hx hb rfl d_H_staleBundles_4 h, List.forall_mem_cons.mpr ⟨fun S h => bs_bipush (Z := Z) hx hb (by decide) d_H_staleBundles_5 h, List.forall_mem_cons.mpr ⟨fun S h => bs_icmp_ge (Z := Z) hx hb d_H_staleBundles_7 (by decide) h, List.forall_mem_cons.mpr ⟨fun S h => bs_iconst (Z := Z) hx hb (by decide) d_H_staleBundles_10 h, List.forall_mem_cons.mpr ⟨fun S h => bs_istore_n (Z := Z) hx hb rfl d_H_staleBundles_11 h, List.forall_mem_cons.mpr ⟨fun S h => bs_iload_n (Z := Z) hx hb rfl d_H_staleBundles_12 h, List.forall_mem_cons.mpr ⟨fun S h => bs_bipush (Z := Z) hx hb (by decide) d_H_staleBundles_13 h, List.forall_mem_cons.mpr ⟨fun S h => bs_icmp_ge (Z := Z) hx hb d_H_staleBundles_15 (by decide) h, List.forall_mem_cons.mpr ⟨fun S h => bs_aload_n (Z := Z) hx hb rfl d_H_staleBundles_18 h, List.forall_mem_cons.mpr ⟨fun S h => bs_aload_n (Z := Z) hx hb rfl d_H_staleBundles_19 h, List.forall_mem_cons.mpr ⟨fun S h => bs_gR (Z := Z) (C := R_H) (T := F_H) (N := 5) (t := 3) (j := 0) hx hb hK hts (fun w h => List.mem_cons_of_mem _ (iw_H w h)) hown rfl rfl (by decide) (hts _ (List.mem_cons_of_mem _ wd_224)) (fun _ h => h) rfl rfl rfl d_H_staleBundles_20 h, List.forall_mem_cons.mpr ⟨fun S h => bs_iload_n (Z := Z) hx hb rfl d_H_staleBundles_23 h, List.forall_mem_cons.mpr ⟨fun S h => bs_Rald (Z := Z) hx hb ha5 d_H_staleBundles_24 h, List.forall_mem_cons.mpr ⟨fun S h => bs_iload_n (Z := Z) hx hb rfl d_H_staleBundles_25 h, List.forall_mem_cons.mpr ⟨fun S h => bs_callV (Z := Z) (C := R_H) hBg hbs hB X0 hK (cn_H_leansOnStale htr (d + 0)) (cl_H_leansOnStale _ _ hw) (hts _ (List.mem_cons_of_mem _ wd_248)) (hts _ (List.mem_cons_of_mem _ wd_250)) (hts _ (List.mem_cons_of_mem _ ws_1)) rfl rfl rfl rfl rfl (Nat.le_refl _) (Nat.le_refl _) d_H_staleBundles_26 (bs_out htab hlocks) h, List.forall_mem_cons.mpr ⟨fun S h => bs_if_eq (Z := Z) hx hb d_H_staleBundles_29 (by decide) h, List.forall_mem_cons.mpr ⟨fun S h => bs_iload_n (Z := Z) hx hb rfl d_H_staleBundles_32 h, List.forall_mem_cons.mpr ⟨fun S h => bs_iconst (Z := Z) hx hb (by decide) d_H_staleBundles_33 h, List.forall_mem_cons.mpr ⟨fun S h => bs_iload_n (Z := Z) hx hb rfl d_H_staleBundles_34 h, List.forall_mem_cons.mpr ⟨fun S h => bs_ishl (Z := Z) hx hb d_H_staleBundles_35 h, List.forall_mem_cons.mpr ⟨fun S h => bs_ior (Z := Z) hx hb d_H_staleBundles_36 h, List.forall_mem_cons.mpr ⟨fun S h => bs_istore_n (Z := Z) hx hb rfl d_H_staleBundles_37 h, List.forall_mem_cons.mpr ⟨fun S h => bs_iinc (Z := Z) hx hb (by decide) d_H_staleBundles_38 h, List.forall_mem_cons.mpr ⟨fun S h => bs_goto (Z := Z) hx hb d_H_staleBundles_41 (by decide) h, List.forall_mem_cons.mpr ⟨fun S h => bs_iinc (Z := Z) hx hb (by decide) d_H_staleBundles_44 h, List.forall_mem_cons.mpr ⟨fun S h => bs_goto (Z := Z) hx hb d_H_staleBundles_47 (by decide) h, List.forall_mem_cons.mpr ⟨fun S h => bs_iload_n (Z := Z) hx hb rfl d_H_staleBundles_50 h, List.forall_mem_cons.mpr ⟨fun S h => bs_iret (Z := Z) hx hb hr hlocks d_H_staleBundles_51 h, fun _ h => absurd h List.not_mem_nil⟩⟩⟩⟩⟩⟩⟩⟩⟩⟩⟩⟩⟩⟩⟩⟩⟩⟩⟩⟩⟩⟩⟩⟩⟩⟩⟩⟩⟩⟩⟩⟩
abbrev c_E_add : ByteArray := prog_3_method_2_code
def y_E_add : MethodName := ⟨"BundleHall$Events", "add", "(I)V"⟩
theorem d_E_add_0 : decode c_E_add 0 = .ok (.aload_n 0, 1) := by decide +kernel
theorem d_E_add_1 : decode c_E_add 1 = .ok (.getfield 15, 3) := by decide +kernel
theorem d_E_add_4 : decode c_E_add 4 = .ok (.bipush 10, 2) := by decide +kernel
theorem d_E_add_6 : decode c_E_add 6 = .ok (.if_icmp .lt 14, 3) := by decide +kernel
theorem d_E_add_9 : decode c_E_add 9 = .ok (.aload_n 0, 1) := by decide +kernel
theorem d_E_add_10 : decode c_E_add 10 = .ok (.dup, 1) := by decide +kernel
theorem d_E_add_11 : decode c_E_add 11 = .ok (.getfield 19, 3) := by decide +kernel
theorem d_E_add_14 : decode c_E_add 14 = .ok (.iconst 1, 1) := by decide +kernel
theorem d_E_add_15 : decode c_E_add 15 = .ok (.iadd, 1) := by decide +kernel
theorem d_E_add_16 : decode c_E_add 16 = .ok (.putfield 19, 3) := by decide +kernel
theorem d_E_add_19 : decode c_E_add 19 = .ok (.return_, 1) := by decide +kernel
theorem d_E_add_20 : decode c_E_add 20 = .ok (.aload_n 0, 1) := by decide +kernel
theorem d_E_add_21 : decode c_E_add 21 = .ok (.getfield 9, 3) := by decide +kernel
theorem d_E_add_24 : decode c_E_add 24 = .ok (.aload_n 0, 1) := by decide +kernel
theorem d_E_add_25 : decode c_E_add 25 = .ok (.getfield 22, 3) := by decide +kernel
theorem d_E_add_28 : decode c_E_add 28 = .ok (.aload_n 0, 1) := by decide +kernel
theorem d_E_add_29 : decode c_E_add 29 = .ok (.getfield 15, 3) := by decide +kernel
theorem d_E_add_32 : decode c_E_add 32 = .ok (.iadd, 1) := by decide +kernel
theorem d_E_add_33 : decode c_E_add 33 = .ok (.bipush 10, 2) := by decide +kernel
theorem d_E_add_35 : decode c_E_add 35 = .ok (.irem, 1) := by decide +kernel
theorem d_E_add_36 : decode c_E_add 36 = .ok (.iload_n 1, 1) := by decide +kernel
theorem d_E_add_37 : decode c_E_add 37 = .ok (.iastore, 1) := by decide +kernel
theorem d_E_add_38 : decode c_E_add 38 = .ok (.aload_n 0, 1) := by decide +kernel
theorem d_E_add_39 : decode c_E_add 39 = .ok (.dup, 1) := by decide +kernel
theorem d_E_add_40 : decode c_E_add 40 = .ok (.getfield 15, 3) := by decide +kernel
theorem d_E_add_43 : decode c_E_add 43 = .ok (.iconst 1, 1) := by decide +kernel
theorem d_E_add_44 : decode c_E_add 44 = .ok (.iadd, 1) := by decide +kernel
theorem d_E_add_45 : decode c_E_add 45 = .ok (.putfield 15, 3) := by decide +kernel
theorem d_E_add_48 : decode c_E_add 48 = .ok (.return_, 1) := by decide +kernel
def T_E_add_0 : List (Nat × bh_Op) := [(0, bo_ald 1 0),
  (1, bo_gI 4 23 2),
  (4, bo_st 6 (bg_push (.inl (.int 10)))),
  (6, bo_if2 9 20 (fun x y => x < y)),
  (9, bo_ald 10 0),
  (10, bo_st 11 bg_dup),
  (11, bo_gI 14 23 3),
  (14, bo_st 15 (bg_push (.inl (.int 1)))),
  (15, bo_st 16 (bg_ii (fun x y => x + y))),
  (16, bo_pI 19 23 3),
  (19, bo_vret 0),
  (20, bo_ald 21 0),
  (21, bo_gR 24 23 0 24),
  (24, bo_ald 25 0),
  (25, bo_gI 28 23 1),
  (28, bo_ald 29 0),
  (29, bo_gI 32 23 2),
  (32, bo_st 33 (bg_ii (fun x y => x + y))),
  (33, bo_st 35 (bg_push (.inl (.int 10)))),
  (35, bo_st 36 (bg_dv (fun x y => x - x / y * y))),
  (36, bo_ild 37 1),
  (37, bo_Iast bh_ak bh_al 38),
  (38, bo_ald 39 0),
  (39, bo_st 40 bg_dup),
  (40, bo_gI 43 23 2),
  (43, bo_st 44 (bg_push (.inl (.int 1)))),
  (44, bo_st 45 (bg_ii (fun x y => x + y))),
  (45, bo_pI 48 23 2),
  (48, bo_vret 0)]
def T_E_add : List (Nat × bh_Op) := T_E_add_0
set_option maxRecDepth 20000 in
theorem mT_E_add_0 : ∀ q ∈ T_E_add_0, bh_mono q.2 := List.forall_mem_cons.mpr ⟨bo_ald_m _ _, List.forall_mem_cons.mpr ⟨bo_gI_m _ _ _, List.forall_mem_cons.mpr ⟨bo_st_mono (bg_push_m _), List.forall_mem_cons.mpr ⟨bo_if2_m _ _ _, List.forall_mem_cons.mpr ⟨bo_ald_m _ _, List.forall_mem_cons.mpr ⟨bo_st_mono bg_dup_m, List.forall_mem_cons.mpr ⟨bo_gI_m _ _ _, List.forall_mem_cons.mpr ⟨bo_st_mono (bg_push_m _), List.forall_mem_cons.mpr ⟨bo_st_mono (bg_ii_m _), List.forall_mem_cons.mpr ⟨bo_pI_m _ _ _, List.forall_mem_cons.mpr ⟨bo_vret_m _, List.forall_mem_cons.mpr ⟨bo_ald_m _ _, List.forall_mem_cons.mpr ⟨bo_gR_m _ _ _ _, List.forall_mem_cons.mpr ⟨bo_ald_m _ _, List.forall_mem_cons.mpr ⟨bo_gI_m _ _ _, List.forall_mem_cons.mpr ⟨bo_ald_m _ _, List.forall_mem_cons.mpr ⟨bo_gI_m _ _ _, List.forall_mem_cons.mpr ⟨bo_st_mono (bg_ii_m _), List.forall_mem_cons.mpr ⟨bo_st_mono (bg_push_m _), List.forall_mem_cons.mpr ⟨bo_st_mono (bg_dv_m _), List.forall_mem_cons.mpr ⟨bo_ild_m _ _, List.forall_mem_cons.mpr ⟨bo_Iast_m _ _ _, List.forall_mem_cons.mpr ⟨bo_ald_m _ _, List.forall_mem_cons.mpr ⟨bo_st_mono bg_dup_m, List.forall_mem_cons.mpr ⟨bo_gI_m _ _ _, List.forall_mem_cons.mpr ⟨bo_st_mono (bg_push_m _), List.forall_mem_cons.mpr ⟨bo_st_mono (bg_ii_m _), List.forall_mem_cons.mpr ⟨bo_pI_m _ _ _, List.forall_mem_cons.mpr ⟨bo_vret_m _, fun _ h => absurd h List.not_mem_nil⟩⟩⟩⟩⟩⟩⟩⟩⟩⟩⟩⟩⟩⟩⟩⟩⟩⟩⟩⟩⟩⟩⟩⟩⟩⟩⟩⟩⟩
theorem m_E_add : ∀ pc, bh_mono (bh_tb (T_E_add) pc) := bh_tb_m mT_E_add_0
def F_E_add : bh_Fn := bh_fn 2 (bh_tb T_E_add)
theorem mF_E_add : bh_monoF F_E_add := bh_fn_m m_E_add
theorem cl_E_add {s : State} {args : Array Value} (d B : Nat) (hts : ∀ w ∈ bh_ws, w.before args s = true) : bh_Cal (bh_rm (d + 1) B) s y_E_add 2 (.code y_E_add c_E_add 2 none :: bh_ws) (bh_rm d 0) 0 1 := bh_cal d B hts wd_280 wd_8 (by decide) (by decide +kernel)
set_option maxHeartbeats 4000000 in
set_option maxRecDepth 100000 in
theorem cn_E_add {l : Launch} {G : bh_G} {base sb L : Nat} {xs : Nat → Int32} (htr : l.stackTraces = false) (d : Nat) : bh_Con l G base (bh_Bg G base sb L xs) y_E_add (.code y_E_add c_E_add 2 none :: bh_ws) (bh_rm (d + 1) 0) 0 false F_E_add := by
  refine bh_method (cc := c_E_add) (ret := none) (by decide +kernel) rfl ?_
  intro p e s m args below meth c ad0 M0 Z X0 hr hlocks hname htab hbs hB
  obtain ⟨hx, hb, hml, hown, hts⟩ := id X0
  have hw : ∀ w ∈ bh_ws, w.before args s = true := fun w h => hts w (List.mem_cons_of_mem _ h)
  have hBg := bh_BgK (G := G) (base := base) (sb := sb) (L := L) (xs := xs)
  obtain ⟨hK, hAr, hen, hinj, hu1, hu2, hstr, hX, hsb, hsc, hxw, hao, hnc⟩ := id hB
  obtain ⟨ha1, ha2, ha3, ha4, ha5, ha6, ha0⟩ := bh_arr hAr
  exact List.forall_mem_cons.mpr ⟨fun S h => bs_aload_n (Z := Z) hx hb rfl d_E_add_0 h, List.forall_mem_cons.mpr ⟨fun S h => bs_gI (Z := Z) (C := R_E) (T := F_E) (N := 4) (t := 23) (j := 2) hx hb hK hts (fun w h => List.mem_cons_of_mem _ (iw_E w h)) hown rfl rfl (by decide) (hts _ (List.mem_cons_of_mem _ wd_211)) (fun _ h => h) rfl rfl rfl d_E_add_1 h, List.forall_mem_cons.mpr ⟨fun S h => bs_bipush (Z := Z) hx hb (by decide) d_E_add_4 h, List.forall_mem_cons.mpr ⟨fun S h => bs_icmp_lt (Z := Z) hx hb d_E_add_6 (by decide) h, List.forall_mem_cons.mpr ⟨fun S h => bs_aload_n (Z := Z) hx hb rfl d_E_add_9 h, List.forall_mem_cons.mpr ⟨fun S h => bs_dup (Z := Z) hx hb d_E_add_10 h, List.forall_mem_cons.mpr ⟨fun S h => bs_gI (Z := Z) (C := R_E) (T := F_E) (N := 4) (t := 23) (j := 3) hx hb hK hts (fun w h => List.mem_cons_of_mem _ (iw_E w h)) hown rfl rfl (by decide) (hts _ (List.mem_cons_of_mem _ wd_213)) (fun _ h => h) rfl rfl rfl d_E_add_11 h, List.forall_mem_cons.mpr ⟨fun S h => bs_iconst (Z := Z) hx hb (by decide) d_E_add_14 h, List.forall_mem_cons.mpr ⟨fun S h => bs_iadd (Z := Z) hx hb d_E_add_15 h, List.forall_mem_cons.mpr ⟨fun S h => bs_pI (Z := Z) (C := R_E) (T := F_E) (N := 4) (t := 23) (j := 3) hx hb hK hts (fun w h => List.mem_cons_of_mem _ (iw_E w h)) hown rfl rfl (by decide) (hts _ (List.mem_cons_of_mem _ wd_213)) (fun _ h => h) rfl rfl t_E t_E_ok n_E rfl (by decide +kernel) rfl d_E_add_16 h, List.forall_mem_cons.mpr ⟨fun S h => bs_vret (Z := Z) hx hb hr hlocks d_E_add_19 h, List.forall_mem_cons.mpr ⟨fun S h => bs_aload_n (Z := Z) hx hb rfl d_E_add_20 h, List.forall_mem_cons.mpr ⟨fun S h => bs_gR (Z := Z) (C := R_E) (T := F_E) (N := 4) (t := 23) (j := 0) hx hb hK hts (fun w h => List.mem_cons_of_mem _ (iw_E w h)) hown rfl rfl (by decide) (hts _ (List.mem_cons_of_mem _ wd_209)) (fun _ h => h) rfl rfl rfl d_E_add_21 h, List.forall_mem_cons.mpr ⟨fun S h => bs_aload_n (Z := Z) hx hb rfl d_E_add_24 h, List.forall_mem_cons.mpr ⟨fun S h => bs_gI (Z := Z) (C := R_E) (T := F_E) (N := 4) (t := 23) (j := 1) hx hb hK hts (fun w h => List.mem_cons_of_mem _ (iw_E w h)) hown rfl rfl (by decide) (hts _ (List.mem_cons_of_mem _ wd_210)) (fun _ h => h) rfl rfl rfl d_E_add_25 h, List.forall_mem_cons.mpr ⟨fun S h => bs_aload_n (Z := Z) hx hb rfl d_E_add_28 h, List.forall_mem_cons.mpr ⟨fun S h => bs_gI (Z := Z) (C := R_E) (T := F_E) (N := 4) (t := 23) (j := 2) hx hb hK hts (fun w h => List.mem_cons_of_mem _ (iw_E w h)) hown rfl rfl (by decide) (hts _ (List.mem_cons_of_mem _ wd_211)) (fun _ h => h) rfl rfl rfl d_E_add_29 h, List.forall_mem_cons.mpr ⟨fun S h => bs_iadd (Z := Z) hx hb d_E_add_32 h, List.forall_mem_cons.mpr ⟨fun S h => bs_bipush (Z := Z) hx hb (by decide) d_E_add_33 h, List.forall_mem_cons.mpr ⟨fun S h => bs_irem (Z := Z) hx hb d_E_add_35 h, List.forall_mem_cons.mpr ⟨fun S h => bs_iload_n (Z := Z) hx hb rfl d_E_add_36 h, List.forall_mem_cons.mpr ⟨fun S h => bs_Iast (Z := Z) hx hb ha1 d_E_add_37 h, List.forall_mem_cons.mpr ⟨fun S h => bs_aload_n (Z := Z) hx hb rfl d_E_add_38 h, List.forall_mem_cons.mpr ⟨fun S h => bs_dup (Z := Z) hx hb d_E_add_39 h, List.forall_mem_cons.mpr ⟨fun S h => bs_gI (Z := Z) (C := R_E) (T := F_E) (N := 4) (t := 23) (j := 2) hx hb hK hts (fun w h => List.mem_cons_of_mem _ (iw_E w h)) hown rfl rfl (by decide) (hts _ (List.mem_cons_of_mem _ wd_211)) (fun _ h => h) rfl rfl rfl d_E_add_40 h, List.forall_mem_cons.mpr ⟨fun S h => bs_iconst (Z := Z) hx hb (by decide) d_E_add_43 h, List.forall_mem_cons.mpr ⟨fun S h => bs_iadd (Z := Z) hx hb d_E_add_44 h, List.forall_mem_cons.mpr ⟨fun S h => bs_pI (Z := Z) (C := R_E) (T := F_E) (N := 4) (t := 23) (j := 2) hx hb hK hts (fun w h => List.mem_cons_of_mem _ (iw_E w h)) hown rfl rfl (by decide) (hts _ (List.mem_cons_of_mem _ wd_211)) (fun _ h => h) rfl rfl t_E t_E_ok n_E rfl (by decide +kernel) rfl d_E_add_45 h, List.forall_mem_cons.mpr ⟨fun S h => bs_vret (Z := Z) hx hb hr hlocks d_E_add_48 h, fun _ h => absurd h List.not_mem_nil⟩⟩⟩⟩⟩⟩⟩⟩⟩⟩⟩⟩⟩⟩⟩⟩⟩⟩⟩⟩⟩⟩⟩⟩⟩⟩⟩⟩⟩
abbrev c_V_remove : ByteArray := prog_8_method_4_code
def y_V_remove : MethodName := ⟨"BundleHall$Services", "remove", "(I)V"⟩
theorem d_V_remove_0 : decode c_V_remove 0 = .ok (.aload_n 0, 1) := by decide +kernel
theorem d_V_remove_1 : decode c_V_remove 1 = .ok (.getfield 11, 3) := by decide +kernel
theorem d_V_remove_4 : decode c_V_remove 4 = .ok (.iload_n 1, 1) := by decide +kernel
theorem d_V_remove_5 : decode c_V_remove 5 = .ok (.aaload, 1) := by decide +kernel
theorem d_V_remove_6 : decode c_V_remove 6 = .ok (.astore_n 2, 1) := by decide +kernel
theorem d_V_remove_7 : decode c_V_remove 7 = .ok (.iload_n 1, 1) := by decide +kernel
theorem d_V_remove_8 : decode c_V_remove 8 = .ok (.istore_n 3, 1) := by decide +kernel
theorem d_V_remove_9 : decode c_V_remove 9 = .ok (.iload_n 3, 1) := by decide +kernel
theorem d_V_remove_10 : decode c_V_remove 10 = .ok (.aload_n 0, 1) := by decide +kernel
theorem d_V_remove_11 : decode c_V_remove 11 = .ok (.getfield 18, 3) := by decide +kernel
theorem d_V_remove_14 : decode c_V_remove 14 = .ok (.iconst 1, 1) := by decide +kernel
theorem d_V_remove_15 : decode c_V_remove 15 = .ok (.isub, 1) := by decide +kernel
theorem d_V_remove_16 : decode c_V_remove 16 = .ok (.if_icmp .ge 23, 3) := by decide +kernel
theorem d_V_remove_19 : decode c_V_remove 19 = .ok (.aload_n 0, 1) := by decide +kernel
theorem d_V_remove_20 : decode c_V_remove 20 = .ok (.getfield 11, 3) := by decide +kernel
theorem d_V_remove_23 : decode c_V_remove 23 = .ok (.iload_n 3, 1) := by decide +kernel
theorem d_V_remove_24 : decode c_V_remove 24 = .ok (.aload_n 0, 1) := by decide +kernel
theorem d_V_remove_25 : decode c_V_remove 25 = .ok (.getfield 11, 3) := by decide +kernel
theorem d_V_remove_28 : decode c_V_remove 28 = .ok (.iload_n 3, 1) := by decide +kernel
theorem d_V_remove_29 : decode c_V_remove 29 = .ok (.iconst 1, 1) := by decide +kernel
theorem d_V_remove_30 : decode c_V_remove 30 = .ok (.iadd, 1) := by decide +kernel
theorem d_V_remove_31 : decode c_V_remove 31 = .ok (.aaload, 1) := by decide +kernel
theorem d_V_remove_32 : decode c_V_remove 32 = .ok (.aastore, 1) := by decide +kernel
theorem d_V_remove_33 : decode c_V_remove 33 = .ok (.iinc 3 1, 3) := by decide +kernel
theorem d_V_remove_36 : decode c_V_remove 36 = .ok (.goto (-27), 3) := by decide +kernel
theorem d_V_remove_39 : decode c_V_remove 39 = .ok (.aload_n 0, 1) := by decide +kernel
theorem d_V_remove_40 : decode c_V_remove 40 = .ok (.getfield 11, 3) := by decide +kernel
theorem d_V_remove_43 : decode c_V_remove 43 = .ok (.aload_n 0, 1) := by decide +kernel
theorem d_V_remove_44 : decode c_V_remove 44 = .ok (.getfield 18, 3) := by decide +kernel
theorem d_V_remove_47 : decode c_V_remove 47 = .ok (.iconst 1, 1) := by decide +kernel
theorem d_V_remove_48 : decode c_V_remove 48 = .ok (.isub, 1) := by decide +kernel
theorem d_V_remove_49 : decode c_V_remove 49 = .ok (.aload_n 2, 1) := by decide +kernel
theorem d_V_remove_50 : decode c_V_remove 50 = .ok (.aastore, 1) := by decide +kernel
theorem d_V_remove_51 : decode c_V_remove 51 = .ok (.aload_n 0, 1) := by decide +kernel
theorem d_V_remove_52 : decode c_V_remove 52 = .ok (.dup, 1) := by decide +kernel
theorem d_V_remove_53 : decode c_V_remove 53 = .ok (.getfield 18, 3) := by decide +kernel
theorem d_V_remove_56 : decode c_V_remove 56 = .ok (.iconst 1, 1) := by decide +kernel
theorem d_V_remove_57 : decode c_V_remove 57 = .ok (.isub, 1) := by decide +kernel
theorem d_V_remove_58 : decode c_V_remove 58 = .ok (.putfield 18, 3) := by decide +kernel
theorem d_V_remove_61 : decode c_V_remove 61 = .ok (.return_, 1) := by decide +kernel
def T_V_remove_0 : List (Nat × bh_Op) := [(0, bo_ald 1 0),
  (1, bo_gR 4 19 0 20),
  (4, bo_ild 5 1),
  (5, bo_Rald bh_ak bh_al 6),
  (6, bo_ast 7 2),
  (7, bo_ild 8 1),
  (8, bo_ist 9 3),
  (9, bo_ild 10 3),
  (10, bo_ald 11 0),
  (11, bo_gI 14 19 1),
  (14, bo_st 15 (bg_push (.inl (.int 1)))),
  (15, bo_st 16 (bg_ii (fun x y => x - y))),
  (16, bo_if2 19 39 (fun x y => y ≤ x)),
  (19, bo_ald 20 0),
  (20, bo_gR 23 19 0 20),
  (23, bo_ild 24 3),
  (24, bo_ald 25 0),
  (25, bo_gR 28 19 0 20),
  (28, bo_ild 29 3),
  (29, bo_st 30 (bg_push (.inl (.int 1)))),
  (30, bo_st 31 (bg_ii (fun x y => x + y))),
  (31, bo_Rald bh_ak bh_al 32),
  (32, bo_Rast bh_ak bh_al 33),
  (33, bo_inc 36 3 1),
  (36, bo_go 9),
  (39, bo_ald 40 0),
  (40, bo_gR 43 19 0 20),
  (43, bo_ald 44 0),
  (44, bo_gI 47 19 1),
  (47, bo_st 48 (bg_push (.inl (.int 1)))),
  (48, bo_st 49 (bg_ii (fun x y => x - y))),
  (49, bo_ald 50 2),
  (50, bo_Rast bh_ak bh_al 51),
  (51, bo_ald 52 0),
  (52, bo_st 53 bg_dup),
  (53, bo_gI 56 19 1),
  (56, bo_st 57 (bg_push (.inl (.int 1)))),
  (57, bo_st 58 (bg_ii (fun x y => x - y))),
  (58, bo_pI 61 19 1),
  (61, bo_vret 0)]
def T_V_remove : List (Nat × bh_Op) := T_V_remove_0
set_option maxRecDepth 20000 in
theorem mT_V_remove_0 : ∀ q ∈ T_V_remove_0, bh_mono q.2 := List.forall_mem_cons.mpr ⟨bo_ald_m _ _, List.forall_mem_cons.mpr ⟨bo_gR_m _ _ _ _, List.forall_mem_cons.mpr ⟨bo_ild_m _ _, List.forall_mem_cons.mpr ⟨bo_Rald_m _ _ _, List.forall_mem_cons.mpr ⟨bo_ast_m _ _, List.forall_mem_cons.mpr ⟨bo_ild_m _ _, List.forall_mem_cons.mpr ⟨bo_ist_m _ _, List.forall_mem_cons.mpr ⟨bo_ild_m _ _, List.forall_mem_cons.mpr ⟨bo_ald_m _ _, List.forall_mem_cons.mpr ⟨bo_gI_m _ _ _, List.forall_mem_cons.mpr ⟨bo_st_mono (bg_push_m _), List.forall_mem_cons.mpr ⟨bo_st_mono (bg_ii_m _), List.forall_mem_cons.mpr ⟨bo_if2_m _ _ _, List.forall_mem_cons.mpr ⟨bo_ald_m _ _, List.forall_mem_cons.mpr ⟨bo_gR_m _ _ _ _, List.forall_mem_cons.mpr ⟨bo_ild_m _ _, List.forall_mem_cons.mpr ⟨bo_ald_m _ _, List.forall_mem_cons.mpr ⟨bo_gR_m _ _ _ _, List.forall_mem_cons.mpr ⟨bo_ild_m _ _, List.forall_mem_cons.mpr ⟨bo_st_mono (bg_push_m _), List.forall_mem_cons.mpr ⟨bo_st_mono (bg_ii_m _), List.forall_mem_cons.mpr ⟨bo_Rald_m _ _ _, List.forall_mem_cons.mpr ⟨bo_Rast_m _ _ _, List.forall_mem_cons.mpr ⟨bo_inc_m _ _ _, List.forall_mem_cons.mpr ⟨bo_go_m _, List.forall_mem_cons.mpr ⟨bo_ald_m _ _, List.forall_mem_cons.mpr ⟨bo_gR_m _ _ _ _, List.forall_mem_cons.mpr ⟨bo_ald_m _ _, List.forall_mem_cons.mpr ⟨bo_gI_m _ _ _, List.forall_mem_cons.mpr ⟨bo_st_mono (bg_push_m _), List.forall_mem_cons.mpr ⟨bo_st_mono (bg_ii_m _), List.forall_mem_cons.mpr ⟨bo_ald_m _ _, List.forall_mem_cons.mpr ⟨bo_Rast_m _ _ _, List.forall_mem_cons.mpr ⟨bo_ald_m _ _, List.forall_mem_cons.mpr ⟨bo_st_mono bg_dup_m, List.forall_mem_cons.mpr ⟨bo_gI_m _ _ _, List.forall_mem_cons.mpr ⟨bo_st_mono (bg_push_m _), List.forall_mem_cons.mpr ⟨bo_st_mono (bg_ii_m _), List.forall_mem_cons.mpr ⟨bo_pI_m _ _ _, List.forall_mem_cons.mpr ⟨bo_vret_m _, fun _ h => absurd h List.not_mem_nil⟩⟩⟩⟩⟩⟩⟩⟩⟩⟩⟩⟩⟩⟩⟩⟩⟩⟩⟩⟩⟩⟩⟩⟩⟩⟩⟩⟩⟩⟩⟩⟩⟩⟩⟩⟩⟩⟩⟩⟩
theorem m_V_remove : ∀ pc, bh_mono (bh_tb (T_V_remove) pc) := bh_tb_m mT_V_remove_0
def F_V_remove : bh_Fn := bh_fn 4 (bh_tb T_V_remove)
theorem mF_V_remove : bh_monoF F_V_remove := bh_fn_m m_V_remove
theorem cl_V_remove {s : State} {args : Array Value} (d B : Nat) (hts : ∀ w ∈ bh_ws, w.before args s = true) : bh_Cal (bh_rm (d + 1) B) s y_V_remove 4 (.code y_V_remove c_V_remove 4 none :: bh_ws) (bh_rm d 0) 0 1 := bh_cal d B hts wd_284 wd_6 (by decide) (by decide +kernel)
set_option maxHeartbeats 4000000 in
set_option maxRecDepth 100000 in
theorem cn_V_remove {l : Launch} {G : bh_G} {base sb L : Nat} {xs : Nat → Int32} (htr : l.stackTraces = false) (d : Nat) : bh_Con l G base (bh_Bg G base sb L xs) y_V_remove (.code y_V_remove c_V_remove 4 none :: bh_ws) (bh_rm (d + 1) 0) 0 false F_V_remove := by
  refine bh_method (cc := c_V_remove) (ret := none) (by decide +kernel) rfl ?_
  intro p e s m args below meth c ad0 M0 Z X0 hr hlocks hname htab hbs hB
  obtain ⟨hx, hb, hml, hown, hts⟩ := id X0
  have hw : ∀ w ∈ bh_ws, w.before args s = true := fun w h => hts w (List.mem_cons_of_mem _ h)
  have hBg := bh_BgK (G := G) (base := base) (sb := sb) (L := L) (xs := xs)
  obtain ⟨hK, hAr, hen, hinj, hu1, hu2, hstr, hX, hsb, hsc, hxw, hao, hnc⟩ := id hB
  obtain ⟨ha1, ha2, ha3, ha4, ha5, ha6, ha0⟩ := bh_arr hAr
  exact List.forall_mem_cons.mpr ⟨fun S h => bs_aload_n (Z := Z) hx hb rfl d_V_remove_0 h, List.forall_mem_cons.mpr ⟨fun S h => bs_gR (Z := Z) (C := R_V) (T := F_V) (N := 3) (t := 19) (j := 0) hx hb hK hts (fun w h => List.mem_cons_of_mem _ (iw_V w h)) hown rfl rfl (by decide) (hts _ (List.mem_cons_of_mem _ wd_191)) (fun _ h => h) rfl rfl rfl d_V_remove_1 h, List.forall_mem_cons.mpr ⟨fun S h => bs_iload_n (Z := Z) hx hb rfl d_V_remove_4 h, List.forall_mem_cons.mpr ⟨fun S h => bs_Rald (Z := Z) hx hb ha5 d_V_remove_5 h, List.forall_mem_cons.mpr ⟨fun S h => bs_astore_n (Z := Z) hx hb rfl d_V_remove_6 h, List.forall_mem_cons.mpr ⟨fun S h => bs_iload_n (Z := Z) hx hb rfl d_V_remove_7 h, List.forall_mem_cons.mpr ⟨fun S h => bs_istore_n (Z := Z) hx hb rfl d_V_remove_8 h, List.forall_mem_cons.mpr ⟨fun S h => bs_iload_n (Z := Z) hx hb rfl d_V_remove_9 h, List.forall_mem_cons.mpr ⟨fun S h => bs_aload_n (Z := Z) hx hb rfl d_V_remove_10 h, List.forall_mem_cons.mpr ⟨fun S h => bs_gI (Z := Z) (C := R_V) (T := F_V) (N := 3) (t := 19) (j := 1) hx hb hK hts (fun w h => List.mem_cons_of_mem _ (iw_V w h)) hown rfl rfl (by decide) (hts _ (List.mem_cons_of_mem _ wd_193)) (fun _ h => h) rfl rfl rfl d_V_remove_11 h, List.forall_mem_cons.mpr ⟨fun S h => bs_iconst (Z := Z) hx hb (by decide) d_V_remove_14 h, List.forall_mem_cons.mpr ⟨fun S h => bs_isub (Z := Z) hx hb d_V_remove_15 h, List.forall_mem_cons.mpr ⟨fun S h => bs_icmp_ge (Z := Z) hx hb d_V_remove_16 (by decide) h, List.forall_mem_cons.mpr ⟨fun S h => bs_aload_n (Z := Z) hx hb rfl d_V_remove_19 h, List.forall_mem_cons.mpr ⟨fun S h => bs_gR (Z := Z) (C := R_V) (T := F_V) (N := 3) (t := 19) (j := 0) hx hb hK hts (fun w h => List.mem_cons_of_mem _ (iw_V w h)) hown rfl rfl (by decide) (hts _ (List.mem_cons_of_mem _ wd_191)) (fun _ h => h) rfl rfl rfl d_V_remove_20 h, List.forall_mem_cons.mpr ⟨fun S h => bs_iload_n (Z := Z) hx hb rfl d_V_remove_23 h, List.forall_mem_cons.mpr ⟨fun S h => bs_aload_n (Z := Z) hx hb rfl d_V_remove_24 h, List.forall_mem_cons.mpr ⟨fun S h => bs_gR (Z := Z) (C := R_V) (T := F_V) (N := 3) (t := 19) (j := 0) hx hb hK hts (fun w h => List.mem_cons_of_mem _ (iw_V w h)) hown rfl rfl (by decide) (hts _ (List.mem_cons_of_mem _ wd_191)) (fun _ h => h) rfl rfl rfl d_V_remove_25 h, List.forall_mem_cons.mpr ⟨fun S h => bs_iload_n (Z := Z) hx hb rfl d_V_remove_28 h, List.forall_mem_cons.mpr ⟨fun S h => bs_iconst (Z := Z) hx hb (by decide) d_V_remove_29 h, List.forall_mem_cons.mpr ⟨fun S h => bs_iadd (Z := Z) hx hb d_V_remove_30 h, List.forall_mem_cons.mpr ⟨fun S h => bs_Rald (Z := Z) hx hb ha5 d_V_remove_31 h, List.forall_mem_cons.mpr ⟨fun S h => bs_Rast (Z := Z) hx hb hK ha6 d_V_remove_32 h, List.forall_mem_cons.mpr ⟨fun S h => bs_iinc (Z := Z) hx hb (by decide) d_V_remove_33 h, List.forall_mem_cons.mpr ⟨fun S h => bs_goto (Z := Z) hx hb d_V_remove_36 (by decide) h, List.forall_mem_cons.mpr ⟨fun S h => bs_aload_n (Z := Z) hx hb rfl d_V_remove_39 h, List.forall_mem_cons.mpr ⟨fun S h => bs_gR (Z := Z) (C := R_V) (T := F_V) (N := 3) (t := 19) (j := 0) hx hb hK hts (fun w h => List.mem_cons_of_mem _ (iw_V w h)) hown rfl rfl (by decide) (hts _ (List.mem_cons_of_mem _ wd_191)) (fun _ h => h) rfl rfl rfl d_V_remove_40 h, List.forall_mem_cons.mpr ⟨fun S h => bs_aload_n (Z := Z) hx hb rfl d_V_remove_43 h, List.forall_mem_cons.mpr ⟨fun S h => bs_gI (Z := Z) (C := R_V) (T := F_V) (N := 3) (t := 19) (j := 1) hx hb hK hts (fun w h => List.mem_cons_of_mem _ (iw_V w h)) hown rfl rfl (by decide) (hts _ (List.mem_cons_of_mem _ wd_193)) (fun _ h => h) rfl rfl rfl d_V_remove_44 h, List.forall_mem_cons.mpr ⟨fun S h => bs_iconst (Z := Z) hx hb (by decide) d_V_remove_47 h, List.forall_mem_cons.mpr ⟨fun S h => bs_isub (Z := Z) hx hb d_V_remove_48 h, List.forall_mem_cons.mpr ⟨fun S h => bs_aload_n (Z := Z) hx hb rfl d_V_remove_49 h, List.forall_mem_cons.mpr ⟨fun S h => bs_Rast (Z := Z) hx hb hK ha6 d_V_remove_50 h, List.forall_mem_cons.mpr ⟨fun S h => bs_aload_n (Z := Z) hx hb rfl d_V_remove_51 h, List.forall_mem_cons.mpr ⟨fun S h => bs_dup (Z := Z) hx hb d_V_remove_52 h, List.forall_mem_cons.mpr ⟨fun S h => bs_gI (Z := Z) (C := R_V) (T := F_V) (N := 3) (t := 19) (j := 1) hx hb hK hts (fun w h => List.mem_cons_of_mem _ (iw_V w h)) hown rfl rfl (by decide) (hts _ (List.mem_cons_of_mem _ wd_193)) (fun _ h => h) rfl rfl rfl d_V_remove_53 h, List.forall_mem_cons.mpr ⟨fun S h => bs_iconst (Z := Z) hx hb (by decide) d_V_remove_56 h, List.forall_mem_cons.mpr ⟨fun S h => bs_isub (Z := Z) hx hb d_V_remove_57 h, List.forall_mem_cons.mpr ⟨fun S h => bs_pI (Z := Z) (C := R_V) (T := F_V) (N := 3) (t := 19) (j := 1) hx hb hK hts (fun w h => List.mem_cons_of_mem _ (iw_V w h)) hown rfl rfl (by decide) (hts _ (List.mem_cons_of_mem _ wd_193)) (fun _ h => h) rfl rfl t_V t_V_ok n_V rfl (by decide +kernel) rfl d_V_remove_58 h, List.forall_mem_cons.mpr ⟨fun S h => bs_vret (Z := Z) hx hb hr hlocks d_V_remove_61 h, fun _ h => absurd h List.not_mem_nil⟩⟩⟩⟩⟩⟩⟩⟩⟩⟩⟩⟩⟩⟩⟩⟩⟩⟩⟩⟩⟩⟩⟩⟩⟩⟩⟩⟩⟩⟩⟩⟩⟩⟩⟩⟩⟩⟩⟩⟩
abbrev c_H_dropService : ByteArray := prog_1_method_36_code
def y_H_dropService : MethodName := ⟨"BundleHall", "dropService", "(I)V"⟩
theorem d_H_dropService_0 : decode c_H_dropService 0 = .ok (.aload_n 0, 1) := by decide +kernel
theorem d_H_dropService_1 : decode c_H_dropService 1 = .ok (.getfield 35, 3) := by decide +kernel
theorem d_H_dropService_4 : decode c_H_dropService 4 = .ok (.sipush 400, 3) := by decide +kernel
theorem d_H_dropService_7 : decode c_H_dropService 7 = .ok (.aload_n 0, 1) := by decide +kernel
theorem d_H_dropService_8 : decode c_H_dropService 8 = .ok (.getfield 28, 3) := by decide +kernel
theorem d_H_dropService_11 : decode c_H_dropService 11 = .ok (.getfield 195, 3) := by decide +kernel
theorem d_H_dropService_14 : decode c_H_dropService 14 = .ok (.iload_n 1, 1) := by decide +kernel
theorem d_H_dropService_15 : decode c_H_dropService 15 = .ok (.aaload, 1) := by decide +kernel
theorem d_H_dropService_16 : decode c_H_dropService 16 = .ok (.getfield 205, 3) := by decide +kernel
theorem d_H_dropService_19 : decode c_H_dropService 19 = .ok (.bipush 100, 2) := by decide +kernel
theorem d_H_dropService_21 : decode c_H_dropService 21 = .ok (.irem, 1) := by decide +kernel
theorem d_H_dropService_22 : decode c_H_dropService 22 = .ok (.iadd, 1) := by decide +kernel
theorem d_H_dropService_23 : decode c_H_dropService 23 = .ok (.invokevirtual 309, 3) := by decide +kernel
theorem d_H_dropService_26 : decode c_H_dropService 26 = .ok (.aload_n 0, 1) := by decide +kernel
theorem d_H_dropService_27 : decode c_H_dropService 27 = .ok (.getfield 28, 3) := by decide +kernel
theorem d_H_dropService_30 : decode c_H_dropService 30 = .ok (.iload_n 1, 1) := by decide +kernel
theorem d_H_dropService_31 : decode c_H_dropService 31 = .ok (.invokevirtual 326, 3) := by decide +kernel
theorem d_H_dropService_34 : decode c_H_dropService 34 = .ok (.return_, 1) := by decide +kernel
def T_H_dropService_0 : List (Nat × bh_Op) := [(0, bo_ald 1 0),
  (1, bo_gR 4 3 3 23),
  (4, bo_st 7 (bg_push (.inl (.int 400)))),
  (7, bo_ald 8 0),
  (8, bo_gR 11 3 2 19),
  (11, bo_gR 14 19 0 20),
  (14, bo_ild 15 1),
  (15, bo_Rald bh_ak bh_al 16),
  (16, bo_gI 19 21 1),
  (19, bo_st 21 (bg_push (.inl (.int 100)))),
  (21, bo_st 22 (bg_dv (fun x y => x - x / y * y))),
  (22, bo_st 23 (bg_ii (fun x y => x + y))),
  (23, bo_callV 26 2 0 0 23 F_E_add),
  (26, bo_ald 27 0),
  (27, bo_gR 30 3 2 19),
  (30, bo_ild 31 1),
  (31, bo_callV 34 2 0 0 19 F_V_remove),
  (34, bo_vret 0)]
def T_H_dropService : List (Nat × bh_Op) := T_H_dropService_0
set_option maxRecDepth 20000 in
theorem mT_H_dropService_0 : ∀ q ∈ T_H_dropService_0, bh_mono q.2 := List.forall_mem_cons.mpr ⟨bo_ald_m _ _, List.forall_mem_cons.mpr ⟨bo_gR_m _ _ _ _, List.forall_mem_cons.mpr ⟨bo_st_mono (bg_push_m _), List.forall_mem_cons.mpr ⟨bo_ald_m _ _, List.forall_mem_cons.mpr ⟨bo_gR_m _ _ _ _, List.forall_mem_cons.mpr ⟨bo_gR_m _ _ _ _, List.forall_mem_cons.mpr ⟨bo_ild_m _ _, List.forall_mem_cons.mpr ⟨bo_Rald_m _ _ _, List.forall_mem_cons.mpr ⟨bo_gI_m _ _ _, List.forall_mem_cons.mpr ⟨bo_st_mono (bg_push_m _), List.forall_mem_cons.mpr ⟨bo_st_mono (bg_dv_m _), List.forall_mem_cons.mpr ⟨bo_st_mono (bg_ii_m _), List.forall_mem_cons.mpr ⟨bo_callV_m (mF_E_add) _ _ _ _ _, List.forall_mem_cons.mpr ⟨bo_ald_m _ _, List.forall_mem_cons.mpr ⟨bo_gR_m _ _ _ _, List.forall_mem_cons.mpr ⟨bo_ild_m _ _, List.forall_mem_cons.mpr ⟨bo_callV_m (mF_V_remove) _ _ _ _ _, List.forall_mem_cons.mpr ⟨bo_vret_m _, fun _ h => absurd h List.not_mem_nil⟩⟩⟩⟩⟩⟩⟩⟩⟩⟩⟩⟩⟩⟩⟩⟩⟩⟩
theorem m_H_dropService : ∀ pc, bh_mono (bh_tb (T_H_dropService) pc) := bh_tb_m mT_H_dropService_0
def F_H_dropService : bh_Fn := bh_fn 2 (bh_tb T_H_dropService)
theorem mF_H_dropService : bh_monoF F_H_dropService := bh_fn_m m_H_dropService
theorem cl_H_dropService {s : State} {args : Array Value} (d B : Nat) (hts : ∀ w ∈ bh_ws, w.before args s = true) : bh_Cal (bh_rm (d + 1) B) s y_H_dropService 2 (.code y_H_dropService c_H_dropService 2 none :: bh_ws) (bh_rm d 0) 0 1 := bh_cal d B hts wd_276 wd_1 (by decide) (by decide +kernel)
set_option maxHeartbeats 4000000 in
set_option maxRecDepth 100000 in
theorem cn_H_dropService {l : Launch} {G : bh_G} {base sb L : Nat} {xs : Nat → Int32} (htr : l.stackTraces = false) (d : Nat) : bh_Con l G base (bh_Bg G base sb L xs) y_H_dropService (.code y_H_dropService c_H_dropService 2 none :: bh_ws) (bh_rm (d + 2) 0) 0 false F_H_dropService := by
  refine bh_method (cc := c_H_dropService) (ret := none) (by decide +kernel) rfl ?_
  intro p e s m args below meth c ad0 M0 Z X0 hr hlocks hname htab hbs hB
  obtain ⟨hx, hb, hml, hown, hts⟩ := id X0
  have hw : ∀ w ∈ bh_ws, w.before args s = true := fun w h => hts w (List.mem_cons_of_mem _ h)
  have hBg := bh_BgK (G := G) (base := base) (sb := sb) (L := L) (xs := xs)
  obtain ⟨hK, hAr, hen, hinj, hu1, hu2, hstr, hX, hsb, hsc, hxw, hao, hnc⟩ := id hB
  obtain ⟨ha1, ha2, ha3, ha4, ha5, ha6, ha0⟩ := bh_arr hAr
  exact List.forall_mem_cons.mpr ⟨fun S h => bs_aload_n (Z := Z) hx hb rfl d_H_dropService_0 h, List.forall_mem_cons.mpr ⟨fun S h => bs_gR (Z := Z) (C := R_H) (T := F_H) (N := 5) (t := 3) (j := 3) hx hb hK hts (fun w h => List.mem_cons_of_mem _ (iw_H w h)) hown rfl rfl (by decide) (hts _ (List.mem_cons_of_mem _ wd_227)) (fun _ h => h) rfl rfl rfl d_H_dropService_1 h, List.forall_mem_cons.mpr ⟨fun S h => bs_sipush (Z := Z) hx hb (by decide) d_H_dropService_4 h, List.forall_mem_cons.mpr ⟨fun S h => bs_aload_n (Z := Z) hx hb rfl d_H_dropService_7 h, List.forall_mem_cons.mpr ⟨fun S h => bs_gR (Z := Z) (C := R_H) (T := F_H) (N := 5) (t := 3) (j := 2) hx hb hK hts (fun w h => List.mem_cons_of_mem _ (iw_H w h)) hown rfl rfl (by decide) (hts _ (List.mem_cons_of_mem _ wd_226)) (fun _ h => h) rfl rfl rfl d_H_dropService_8 h, List.forall_mem_cons.mpr ⟨fun S h => bs_gR (Z := Z) (C := R_V) (T := F_V) (N := 3) (t := 19) (j := 0) hx hb hK hts (fun w h => List.mem_cons_of_mem _ (iw_V w h)) hown rfl rfl (by decide) (hts _ (List.mem_cons_of_mem _ wd_192)) (fun _ h => h) rfl rfl rfl d_H_dropService_11 h, List.forall_mem_cons.mpr ⟨fun S h => bs_iload_n (Z := Z) hx hb rfl d_H_dropService_14 h, List.forall_mem_cons.mpr ⟨fun S h => bs_Rald (Z := Z) hx hb ha5 d_H_dropService_15 h, List.forall_mem_cons.mpr ⟨fun S h => bs_gI (Z := Z) (C := R_S) (T := F_S) (N := 5) (t := 21) (j := 1) hx hb hK hts (fun w h => List.mem_cons_of_mem _ (iw_S w h)) hown rfl rfl (by decide) (hts _ (List.mem_cons_of_mem _ wd_175)) (fun _ h => h) rfl rfl rfl d_H_dropService_16 h, List.forall_mem_cons.mpr ⟨fun S h => bs_bipush (Z := Z) hx hb (by decide) d_H_dropService_19 h, List.forall_mem_cons.mpr ⟨fun S h => bs_irem (Z := Z) hx hb d_H_dropService_21 h, List.forall_mem_cons.mpr ⟨fun S h => bs_iadd (Z := Z) hx hb d_H_dropService_22 h, List.forall_mem_cons.mpr ⟨fun S h => bs_callV (Z := Z) (C := R_E) hBg hbs hB X0 hK (cn_E_add htr (d + 0)) (cl_E_add _ _ hw) (hts _ (List.mem_cons_of_mem _ wd_277)) (hts _ (List.mem_cons_of_mem _ wd_278)) (hts _ (List.mem_cons_of_mem _ wd_279)) rfl rfl rfl rfl rfl (Nat.le_refl _) (Nat.le_refl _) d_H_dropService_23 (bs_out htab hlocks) h, List.forall_mem_cons.mpr ⟨fun S h => bs_aload_n (Z := Z) hx hb rfl d_H_dropService_26 h, List.forall_mem_cons.mpr ⟨fun S h => bs_gR (Z := Z) (C := R_H) (T := F_H) (N := 5) (t := 3) (j := 2) hx hb hK hts (fun w h => List.mem_cons_of_mem _ (iw_H w h)) hown rfl rfl (by decide) (hts _ (List.mem_cons_of_mem _ wd_226)) (fun _ h => h) rfl rfl rfl d_H_dropService_27 h, List.forall_mem_cons.mpr ⟨fun S h => bs_iload_n (Z := Z) hx hb rfl d_H_dropService_30 h, List.forall_mem_cons.mpr ⟨fun S h => bs_callV (Z := Z) (C := R_V) hBg hbs hB X0 hK (cn_V_remove htr (d + 0)) (cl_V_remove _ _ hw) (hts _ (List.mem_cons_of_mem _ wd_281)) (hts _ (List.mem_cons_of_mem _ wd_282)) (hts _ (List.mem_cons_of_mem _ wd_283)) rfl rfl rfl rfl rfl (Nat.le_refl _) (Nat.le_refl _) d_H_dropService_31 (bs_out htab hlocks) h, List.forall_mem_cons.mpr ⟨fun S h => bs_vret (Z := Z) hx hb hr hlocks d_H_dropService_34 h, fun _ h => absurd h List.not_mem_nil⟩⟩⟩⟩⟩⟩⟩⟩⟩⟩⟩⟩⟩⟩⟩⟩⟩⟩
abbrev c_V_takeBackAll : ByteArray := prog_8_method_10_code
def y_V_takeBackAll : MethodName := ⟨"BundleHall$Services", "takeBackAll", "(I)V"⟩
theorem d_V_takeBackAll_0 : decode c_V_takeBackAll 0 = .ok (.iconst 0, 1) := by decide +kernel
theorem d_V_takeBackAll_1 : decode c_V_takeBackAll 1 = .ok (.istore_n 2, 1) := by decide +kernel
theorem d_V_takeBackAll_2 : decode c_V_takeBackAll 2 = .ok (.iload_n 2, 1) := by decide +kernel
theorem d_V_takeBackAll_3 : decode c_V_takeBackAll 3 = .ok (.aload_n 0, 1) := by decide +kernel
theorem d_V_takeBackAll_4 : decode c_V_takeBackAll 4 = .ok (.getfield 18, 3) := by decide +kernel
theorem d_V_takeBackAll_7 : decode c_V_takeBackAll 7 = .ok (.if_icmp .ge 21, 3) := by decide +kernel
theorem d_V_takeBackAll_10 : decode c_V_takeBackAll 10 = .ok (.aload_n 0, 1) := by decide +kernel
theorem d_V_takeBackAll_11 : decode c_V_takeBackAll 11 = .ok (.getfield 11, 3) := by decide +kernel
theorem d_V_takeBackAll_14 : decode c_V_takeBackAll 14 = .ok (.iload_n 2, 1) := by decide +kernel
theorem d_V_takeBackAll_15 : decode c_V_takeBackAll 15 = .ok (.aaload, 1) := by decide +kernel
theorem d_V_takeBackAll_16 : decode c_V_takeBackAll 16 = .ok (.getfield 38, 3) := by decide +kernel
theorem d_V_takeBackAll_19 : decode c_V_takeBackAll 19 = .ok (.iload_n 1, 1) := by decide +kernel
theorem d_V_takeBackAll_20 : decode c_V_takeBackAll 20 = .ok (.iconst 0, 1) := by decide +kernel
theorem d_V_takeBackAll_21 : decode c_V_takeBackAll 21 = .ok (.iastore, 1) := by decide +kernel
theorem d_V_takeBackAll_22 : decode c_V_takeBackAll 22 = .ok (.iinc 2 1, 3) := by decide +kernel
theorem d_V_takeBackAll_25 : decode c_V_takeBackAll 25 = .ok (.goto (-23), 3) := by decide +kernel
theorem d_V_takeBackAll_28 : decode c_V_takeBackAll 28 = .ok (.return_, 1) := by decide +kernel
def T_V_takeBackAll_0 : List (Nat × bh_Op) := [(0, bo_st 1 (bg_push (.inl (.int 0)))),
  (1, bo_ist 2 2),
  (2, bo_ild 3 2),
  (3, bo_ald 4 0),
  (4, bo_gI 7 19 1),
  (7, bo_if2 10 28 (fun x y => y ≤ x)),
  (10, bo_ald 11 0),
  (11, bo_gR 14 19 0 20),
  (14, bo_ild 15 2),
  (15, bo_Rald bh_ak bh_al 16),
  (16, bo_gR 19 21 0 22),
  (19, bo_ild 20 1),
  (20, bo_st 21 (bg_push (.inl (.int 0)))),
  (21, bo_Iast bh_ak bh_al 22),
  (22, bo_inc 25 2 1),
  (25, bo_go 2),
  (28, bo_vret 0)]
def T_V_takeBackAll : List (Nat × bh_Op) := T_V_takeBackAll_0
set_option maxRecDepth 20000 in
theorem mT_V_takeBackAll_0 : ∀ q ∈ T_V_takeBackAll_0, bh_mono q.2 := List.forall_mem_cons.mpr ⟨bo_st_mono (bg_push_m _), List.forall_mem_cons.mpr ⟨bo_ist_m _ _, List.forall_mem_cons.mpr ⟨bo_ild_m _ _, List.forall_mem_cons.mpr ⟨bo_ald_m _ _, List.forall_mem_cons.mpr ⟨bo_gI_m _ _ _, List.forall_mem_cons.mpr ⟨bo_if2_m _ _ _, List.forall_mem_cons.mpr ⟨bo_ald_m _ _, List.forall_mem_cons.mpr ⟨bo_gR_m _ _ _ _, List.forall_mem_cons.mpr ⟨bo_ild_m _ _, List.forall_mem_cons.mpr ⟨bo_Rald_m _ _ _, List.forall_mem_cons.mpr ⟨bo_gR_m _ _ _ _, List.forall_mem_cons.mpr ⟨bo_ild_m _ _, List.forall_mem_cons.mpr ⟨bo_st_mono (bg_push_m _), List.forall_mem_cons.mpr ⟨bo_Iast_m _ _ _, List.forall_mem_cons.mpr ⟨bo_inc_m _ _ _, List.forall_mem_cons.mpr ⟨bo_go_m _, List.forall_mem_cons.mpr ⟨bo_vret_m _, fun _ h => absurd h List.not_mem_nil⟩⟩⟩⟩⟩⟩⟩⟩⟩⟩⟩⟩⟩⟩⟩⟩⟩
theorem m_V_takeBackAll : ∀ pc, bh_mono (bh_tb (T_V_takeBackAll) pc) := bh_tb_m mT_V_takeBackAll_0
def F_V_takeBackAll : bh_Fn := bh_fn 3 (bh_tb T_V_takeBackAll)
theorem mF_V_takeBackAll : bh_monoF F_V_takeBackAll := bh_fn_m m_V_takeBackAll
theorem cl_V_takeBackAll {s : State} {args : Array Value} (d B : Nat) (hts : ∀ w ∈ bh_ws, w.before args s = true) : bh_Cal (bh_rm (d + 1) B) s y_V_takeBackAll 3 (.code y_V_takeBackAll c_V_takeBackAll 3 none :: bh_ws) (bh_rm d 0) 0 1 := bh_cal d B hts wd_288 wd_6 (by decide) (by decide +kernel)
set_option maxHeartbeats 4000000 in
set_option maxRecDepth 100000 in
theorem cn_V_takeBackAll {l : Launch} {G : bh_G} {base sb L : Nat} {xs : Nat → Int32} (htr : l.stackTraces = false) (d : Nat) : bh_Con l G base (bh_Bg G base sb L xs) y_V_takeBackAll (.code y_V_takeBackAll c_V_takeBackAll 3 none :: bh_ws) (bh_rm (d + 1) 0) 0 false F_V_takeBackAll := by
  refine bh_method (cc := c_V_takeBackAll) (ret := none) (by decide +kernel) rfl ?_
  intro p e s m args below meth c ad0 M0 Z X0 hr hlocks hname htab hbs hB
  obtain ⟨hx, hb, hml, hown, hts⟩ := id X0
  have hw : ∀ w ∈ bh_ws, w.before args s = true := fun w h => hts w (List.mem_cons_of_mem _ h)
  have hBg := bh_BgK (G := G) (base := base) (sb := sb) (L := L) (xs := xs)
  obtain ⟨hK, hAr, hen, hinj, hu1, hu2, hstr, hX, hsb, hsc, hxw, hao, hnc⟩ := id hB
  obtain ⟨ha1, ha2, ha3, ha4, ha5, ha6, ha0⟩ := bh_arr hAr
  exact List.forall_mem_cons.mpr ⟨fun S h => bs_iconst (Z := Z) hx hb (by decide) d_V_takeBackAll_0 h, List.forall_mem_cons.mpr ⟨fun S h => bs_istore_n (Z := Z) hx hb rfl d_V_takeBackAll_1 h, List.forall_mem_cons.mpr ⟨fun S h => bs_iload_n (Z := Z) hx hb rfl d_V_takeBackAll_2 h, List.forall_mem_cons.mpr ⟨fun S h => bs_aload_n (Z := Z) hx hb rfl d_V_takeBackAll_3 h, List.forall_mem_cons.mpr ⟨fun S h => bs_gI (Z := Z) (C := R_V) (T := F_V) (N := 3) (t := 19) (j := 1) hx hb hK hts (fun w h => List.mem_cons_of_mem _ (iw_V w h)) hown rfl rfl (by decide) (hts _ (List.mem_cons_of_mem _ wd_193)) (fun _ h => h) rfl rfl rfl d_V_takeBackAll_4 h, List.forall_mem_cons.mpr ⟨fun S h => bs_icmp_ge (Z := Z) hx hb d_V_takeBackAll_7 (by decide) h, List.forall_mem_cons.mpr ⟨fun S h => bs_aload_n (Z := Z) hx hb rfl d_V_takeBackAll_10 h, List.forall_mem_cons.mpr ⟨fun S h => bs_gR (Z := Z) (C := R_V) (T := F_V) (N := 3) (t := 19) (j := 0) hx hb hK hts (fun w h => List.mem_cons_of_mem _ (iw_V w h)) hown rfl rfl (by decide) (hts _ (List.mem_cons_of_mem _ wd_191)) (fun _ h => h) rfl rfl rfl d_V_takeBackAll_11 h, List.forall_mem_cons.mpr ⟨fun S h => bs_iload_n (Z := Z) hx hb rfl d_V_takeBackAll_14 h, List.forall_mem_cons.mpr ⟨fun S h => bs_Rald (Z := Z) hx hb ha5 d_V_takeBackAll_15 h, List.forall_mem_cons.mpr ⟨fun S h => bs_gR (Z := Z) (C := R_S) (T := F_S) (N := 5) (t := 21) (j := 0) hx hb hK hts (fun w h => List.mem_cons_of_mem _ (iw_S w h)) hown rfl rfl (by decide) (hts _ (List.mem_cons_of_mem _ wd_172)) (fun _ h => h) rfl rfl rfl d_V_takeBackAll_16 h, List.forall_mem_cons.mpr ⟨fun S h => bs_iload_n (Z := Z) hx hb rfl d_V_takeBackAll_19 h, List.forall_mem_cons.mpr ⟨fun S h => bs_iconst (Z := Z) hx hb (by decide) d_V_takeBackAll_20 h, List.forall_mem_cons.mpr ⟨fun S h => bs_Iast (Z := Z) hx hb ha1 d_V_takeBackAll_21 h, List.forall_mem_cons.mpr ⟨fun S h => bs_iinc (Z := Z) hx hb (by decide) d_V_takeBackAll_22 h, List.forall_mem_cons.mpr ⟨fun S h => bs_goto (Z := Z) hx hb d_V_takeBackAll_25 (by decide) h, List.forall_mem_cons.mpr ⟨fun S h => bs_vret (Z := Z) hx hb hr hlocks d_V_takeBackAll_28 h, fun _ h => absurd h List.not_mem_nil⟩⟩⟩⟩⟩⟩⟩⟩⟩⟩⟩⟩⟩⟩⟩⟩⟩
abbrev c_H_deactivate : ByteArray := prog_1_method_33_code
def y_H_deactivate : MethodName := ⟨"BundleHall", "deactivate", "(LBundleHall$Bundle;)V"⟩
theorem d_H_deactivate_0 : decode c_H_deactivate 0 = .ok (.aload_n 1, 1) := by decide +kernel
theorem d_H_deactivate_1 : decode c_H_deactivate 1 = .ok (.getfield 50, 3) := by decide +kernel
theorem d_H_deactivate_4 : decode c_H_deactivate 4 = .ok (.iconst 3, 1) := by decide +kernel
theorem d_H_deactivate_5 : decode c_H_deactivate 5 = .ok (.if_icmp .eq 4, 3) := by decide +kernel
theorem d_H_deactivate_8 : decode c_H_deactivate 8 = .ok (.return_, 1) := by decide +kernel
theorem d_H_deactivate_9 : decode c_H_deactivate 9 = .ok (.iconst 0, 1) := by decide +kernel
theorem d_H_deactivate_10 : decode c_H_deactivate 10 = .ok (.istore_n 2, 1) := by decide +kernel
theorem d_H_deactivate_11 : decode c_H_deactivate 11 = .ok (.aload_n 0, 1) := by decide +kernel
theorem d_H_deactivate_12 : decode c_H_deactivate 12 = .ok (.getfield 28, 3) := by decide +kernel
theorem d_H_deactivate_15 : decode c_H_deactivate 15 = .ok (.getfield 255, 3) := by decide +kernel
theorem d_H_deactivate_18 : decode c_H_deactivate 18 = .ok (.istore_n 3, 1) := by decide +kernel
theorem d_H_deactivate_19 : decode c_H_deactivate 19 = .ok (.iload_n 3, 1) := by decide +kernel
theorem d_H_deactivate_20 : decode c_H_deactivate 20 = .ok (.ifCond .le 39, 3) := by decide +kernel
theorem d_H_deactivate_23 : decode c_H_deactivate 23 = .ok (.aload_n 0, 1) := by decide +kernel
theorem d_H_deactivate_24 : decode c_H_deactivate 24 = .ok (.getfield 28, 3) := by decide +kernel
theorem d_H_deactivate_27 : decode c_H_deactivate 27 = .ok (.getfield 195, 3) := by decide +kernel
theorem d_H_deactivate_30 : decode c_H_deactivate 30 = .ok (.iload_n 2, 1) := by decide +kernel
theorem d_H_deactivate_31 : decode c_H_deactivate 31 = .ok (.aaload, 1) := by decide +kernel
theorem d_H_deactivate_32 : decode c_H_deactivate 32 = .ok (.getfield 216, 3) := by decide +kernel
theorem d_H_deactivate_35 : decode c_H_deactivate 35 = .ok (.aload_n 1, 1) := by decide +kernel
theorem d_H_deactivate_36 : decode c_H_deactivate 36 = .ok (.getfield 308, 3) := by decide +kernel
theorem d_H_deactivate_39 : decode c_H_deactivate 39 = .ok (.if_icmp .ne 11, 3) := by decide +kernel
theorem d_H_deactivate_42 : decode c_H_deactivate 42 = .ok (.aload_n 0, 1) := by decide +kernel
theorem d_H_deactivate_43 : decode c_H_deactivate 43 = .ok (.iload_n 2, 1) := by decide +kernel
theorem d_H_deactivate_44 : decode c_H_deactivate 44 = .ok (.invokevirtual 224, 3) := by decide +kernel
theorem d_H_deactivate_47 : decode c_H_deactivate 47 = .ok (.goto 6, 3) := by decide +kernel
theorem d_H_deactivate_50 : decode c_H_deactivate 50 = .ok (.iinc 2 1, 3) := by decide +kernel
theorem d_H_deactivate_53 : decode c_H_deactivate 53 = .ok (.iinc 3 (-1), 3) := by decide +kernel
theorem d_H_deactivate_56 : decode c_H_deactivate 56 = .ok (.goto (-37), 3) := by decide +kernel
theorem d_H_deactivate_59 : decode c_H_deactivate 59 = .ok (.aload_n 0, 1) := by decide +kernel
theorem d_H_deactivate_60 : decode c_H_deactivate 60 = .ok (.getfield 28, 3) := by decide +kernel
theorem d_H_deactivate_63 : decode c_H_deactivate 63 = .ok (.aload_n 1, 1) := by decide +kernel
theorem d_H_deactivate_64 : decode c_H_deactivate 64 = .ok (.getfield 308, 3) := by decide +kernel
theorem d_H_deactivate_67 : decode c_H_deactivate 67 = .ok (.invokevirtual 321, 3) := by decide +kernel
theorem d_H_deactivate_70 : decode c_H_deactivate 70 = .ok (.aload_n 1, 1) := by decide +kernel
theorem d_H_deactivate_71 : decode c_H_deactivate 71 = .ok (.iconst 2, 1) := by decide +kernel
theorem d_H_deactivate_72 : decode c_H_deactivate 72 = .ok (.putfield 50, 3) := by decide +kernel
theorem d_H_deactivate_75 : decode c_H_deactivate 75 = .ok (.aload_n 0, 1) := by decide +kernel
theorem d_H_deactivate_76 : decode c_H_deactivate 76 = .ok (.getfield 35, 3) := by decide +kernel
theorem d_H_deactivate_79 : decode c_H_deactivate 79 = .ok (.sipush 200, 3) := by decide +kernel
theorem d_H_deactivate_82 : decode c_H_deactivate 82 = .ok (.aload_n 1, 1) := by decide +kernel
theorem d_H_deactivate_83 : decode c_H_deactivate 83 = .ok (.getfield 308, 3) := by decide +kernel
theorem d_H_deactivate_86 : decode c_H_deactivate 86 = .ok (.iadd, 1) := by decide +kernel
theorem d_H_deactivate_87 : decode c_H_deactivate 87 = .ok (.invokevirtual 309, 3) := by decide +kernel
theorem d_H_deactivate_90 : decode c_H_deactivate 90 = .ok (.return_, 1) := by decide +kernel
def T_H_deactivate_0 : List (Nat × bh_Op) := [(0, bo_ald 1 1),
  (1, bo_gI 4 5 3),
  (4, bo_st 5 (bg_push (.inl (.int 3)))),
  (5, bo_if2 8 9 (fun x y => x = y)),
  (8, bo_vret 0),
  (9, bo_st 10 (bg_push (.inl (.int 0)))),
  (10, bo_ist 11 2),
  (11, bo_ald 12 0),
  (12, bo_gR 15 3 2 19),
  (15, bo_gI 18 19 1),
  (18, bo_ist 19 3),
  (19, bo_ild 20 3),
  (20, bo_if1 23 59 (fun x => x ≤ 0)),
  (23, bo_ald 24 0),
  (24, bo_gR 27 3 2 19),
  (27, bo_gR 30 19 0 20),
  (30, bo_ild 31 2),
  (31, bo_Rald bh_ak bh_al 32),
  (32, bo_gI 35 21 2),
  (35, bo_ald 36 1),
  (36, bo_gI 39 5 0),
  (39, bo_if2 42 50 (fun x y => ¬ x = y)),
  (42, bo_ald 43 0),
  (43, bo_ild 44 2),
  (44, bo_callV 47 2 0 0 3 F_H_dropService),
  (47, bo_go 53),
  (50, bo_inc 53 2 1),
  (53, bo_inc 56 3 (-1)),
  (56, bo_go 19),
  (59, bo_ald 60 0),
  (60, bo_gR 63 3 2 19),
  (63, bo_ald 64 1),
  (64, bo_gI 67 5 0),
  (67, bo_callV 70 2 0 0 19 F_V_takeBackAll),
  (70, bo_ald 71 1),
  (71, bo_st 72 (bg_push (.inl (.int 2)))),
  (72, bo_pI 75 5 3),
  (75, bo_ald 76 0),
  (76, bo_gR 79 3 3 23),
  (79, bo_st 82 (bg_push (.inl (.int 200))))]
def T_H_deactivate_1 : List (Nat × bh_Op) := [(82, bo_ald 83 1),
  (83, bo_gI 86 5 0),
  (86, bo_st 87 (bg_ii (fun x y => x + y))),
  (87, bo_callV 90 2 0 0 23 F_E_add),
  (90, bo_vret 0)]
def T_H_deactivate : List (Nat × bh_Op) := T_H_deactivate_0 ++ T_H_deactivate_1
set_option maxRecDepth 20000 in
theorem mT_H_deactivate_0 : ∀ q ∈ T_H_deactivate_0, bh_mono q.2 := List.forall_mem_cons.mpr ⟨bo_ald_m _ _, List.forall_mem_cons.mpr ⟨bo_gI_m _ _ _, List.forall_mem_cons.mpr ⟨bo_st_mono (bg_push_m _), List.forall_mem_cons.mpr ⟨bo_if2_m _ _ _, List.forall_mem_cons.mpr ⟨bo_vret_m _, List.forall_mem_cons.mpr ⟨bo_st_mono (bg_push_m _), List.forall_mem_cons.mpr ⟨bo_ist_m _ _, List.forall_mem_cons.mpr ⟨bo_ald_m _ _, List.forall_mem_cons.mpr ⟨bo_gR_m _ _ _ _, List.forall_mem_cons.mpr ⟨bo_gI_m _ _ _, List.forall_mem_cons.mpr ⟨bo_ist_m _ _, List.forall_mem_cons.mpr ⟨bo_ild_m _ _, List.forall_mem_cons.mpr ⟨bo_if1_m _ _ _, List.forall_mem_cons.mpr ⟨bo_ald_m _ _, List.forall_mem_cons.mpr ⟨bo_gR_m _ _ _ _, List.forall_mem_cons.mpr ⟨bo_gR_m _ _ _ _, List.forall_mem_cons.mpr ⟨bo_ild_m _ _, List.forall_mem_cons.mpr ⟨bo_Rald_m _ _ _, List.forall_mem_cons.mpr ⟨bo_gI_m _ _ _, List.forall_mem_cons.mpr ⟨bo_ald_m _ _, List.forall_mem_cons.mpr ⟨bo_gI_m _ _ _, List.forall_mem_cons.mpr ⟨bo_if2_m _ _ _, List.forall_mem_cons.mpr ⟨bo_ald_m _ _, List.forall_mem_cons.mpr ⟨bo_ild_m _ _, List.forall_mem_cons.mpr ⟨bo_callV_m (mF_H_dropService) _ _ _ _ _, List.forall_mem_cons.mpr ⟨bo_go_m _, List.forall_mem_cons.mpr ⟨bo_inc_m _ _ _, List.forall_mem_cons.mpr ⟨bo_inc_m _ _ _, List.forall_mem_cons.mpr ⟨bo_go_m _, List.forall_mem_cons.mpr ⟨bo_ald_m _ _, List.forall_mem_cons.mpr ⟨bo_gR_m _ _ _ _, List.forall_mem_cons.mpr ⟨bo_ald_m _ _, List.forall_mem_cons.mpr ⟨bo_gI_m _ _ _, List.forall_mem_cons.mpr ⟨bo_callV_m (mF_V_takeBackAll) _ _ _ _ _, List.forall_mem_cons.mpr ⟨bo_ald_m _ _, List.forall_mem_cons.mpr ⟨bo_st_mono (bg_push_m _), List.forall_mem_cons.mpr ⟨bo_pI_m _ _ _, List.forall_mem_cons.mpr ⟨bo_ald_m _ _, List.forall_mem_cons.mpr ⟨bo_gR_m _ _ _ _, List.forall_mem_cons.mpr ⟨bo_st_mono (bg_push_m _), fun _ h => absurd h List.not_mem_nil⟩⟩⟩⟩⟩⟩⟩⟩⟩⟩⟩⟩⟩⟩⟩⟩⟩⟩⟩⟩⟩⟩⟩⟩⟩⟩⟩⟩⟩⟩⟩⟩⟩⟩⟩⟩⟩⟩⟩⟩
set_option maxRecDepth 20000 in
theorem mT_H_deactivate_1 : ∀ q ∈ T_H_deactivate_1, bh_mono q.2 := List.forall_mem_cons.mpr ⟨bo_ald_m _ _, List.forall_mem_cons.mpr ⟨bo_gI_m _ _ _, List.forall_mem_cons.mpr ⟨bo_st_mono (bg_ii_m _), List.forall_mem_cons.mpr ⟨bo_callV_m (mF_E_add) _ _ _ _ _, List.forall_mem_cons.mpr ⟨bo_vret_m _, fun _ h => absurd h List.not_mem_nil⟩⟩⟩⟩⟩
theorem m_H_deactivate : ∀ pc, bh_mono (bh_tb (T_H_deactivate) pc) := bh_tb_m (List.forall_mem_append.mpr ⟨mT_H_deactivate_0, mT_H_deactivate_1⟩)
def F_H_deactivate : bh_Fn := bh_fn 4 (bh_tb T_H_deactivate)
theorem mF_H_deactivate : bh_monoF F_H_deactivate := bh_fn_m m_H_deactivate
theorem cl_H_deactivate {s : State} {args : Array Value} (d B : Nat) (hts : ∀ w ∈ bh_ws, w.before args s = true) : bh_Cal (bh_rm (d + 1) B) s y_H_deactivate 4 (.code y_H_deactivate c_H_deactivate 4 none :: bh_ws) (bh_rm d 0) 0 1 := bh_cal d B hts wd_272 wd_1 (by decide) (by decide +kernel)
set_option maxHeartbeats 4000000 in
set_option maxRecDepth 100000 in
theorem cn_H_deactivate {l : Launch} {G : bh_G} {base sb L : Nat} {xs : Nat → Int32} (htr : l.stackTraces = false) (d : Nat) : bh_Con l G base (bh_Bg G base sb L xs) y_H_deactivate (.code y_H_deactivate c_H_deactivate 4 none :: bh_ws) (bh_rm (d + 3) 0) 0 false F_H_deactivate := by
  refine bh_method (cc := c_H_deactivate) (ret := none) (by decide +kernel) rfl ?_
  intro p e s m args below meth c ad0 M0 Z X0 hr hlocks hname htab hbs hB
  obtain ⟨hx, hb, hml, hown, hts⟩ := id X0
  have hw : ∀ w ∈ bh_ws, w.before args s = true := fun w h => hts w (List.mem_cons_of_mem _ h)
  have hBg := bh_BgK (G := G) (base := base) (sb := sb) (L := L) (xs := xs)
  obtain ⟨hK, hAr, hen, hinj, hu1, hu2, hstr, hX, hsb, hsc, hxw, hao, hnc⟩ := id hB
  obtain ⟨ha1, ha2, ha3, ha4, ha5, ha6, ha0⟩ := bh_arr hAr
  refine List.forall_mem_append.mpr ⟨?_, List.forall_mem_cons.mpr ⟨fun S h => bs_aload_n (Z := Z) hx hb rfl d_H_deactivate_82 h, List.forall_mem_cons.mpr ⟨fun S h => bs_gI (Z := Z) (C := R_B) (T := F_B) (N := 10) (t := 5) (j := 0) hx hb hK hts (fun w h => List.mem_cons_of_mem _ (iw_B w h)) hown rfl rfl (by decide) (hts _ (List.mem_cons_of_mem _ wd_87)) (fun _ h => h) rfl rfl rfl d_H_deactivate_83 h, List.forall_mem_cons.mpr ⟨fun S h => bs_iadd (Z := Z) hx hb d_H_deactivate_86 h, List.forall_mem_cons.mpr ⟨fun S h => bs_callV (Z := Z) (C := R_E) hBg hbs hB X0 hK (cn_E_add htr (d + 1)) (cl_E_add _ _ hw) (hts _ (List.mem_cons_of_mem _ wd_277)) (hts _ (List.mem_cons_of_mem _ wd_278)) (hts _ (List.mem_cons_of_mem _ wd_279)) rfl rfl rfl rfl rfl (Nat.le_refl _) (Nat.le_refl _) d_H_deactivate_87 (bs_out htab hlocks) h, List.forall_mem_cons.mpr ⟨fun S h => bs_vret (Z := Z) hx hb hr hlocks d_H_deactivate_90 h, fun _ h => absurd h List.not_mem_nil⟩⟩⟩⟩⟩⟩
  exact List.forall_mem_cons.mpr ⟨fun S h => bs_aload_n (Z := Z) hx hb rfl d_H_deactivate_0 h, List.forall_mem_cons.mpr ⟨fun S h => bs_gI (Z := Z) (C := R_B) (T := F_B) (N := 10) (t := 5) (j := 3) hx hb hK hts (fun w h => List.mem_cons_of_mem _ (iw_B w h)) hown rfl rfl (by decide) (hts _ (List.mem_cons_of_mem _ wd_95)) (fun _ h => h) rfl rfl rfl d_H_deactivate_1 h, List.forall_mem_cons.mpr ⟨fun S h => bs_iconst (Z := Z) hx hb (by decide) d_H_deactivate_4 h, List.forall_mem_cons.mpr ⟨fun S h => bs_icmp_eq (Z := Z) hx hb d_H_deactivate_5 (by decide) h, List.forall_mem_cons.mpr ⟨fun S h => bs_vret (Z := Z) hx hb hr hlocks d_H_deactivate_8 h, List.forall_mem_cons.mpr ⟨fun S h => bs_iconst (Z := Z) hx hb (by decide) d_H_deactivate_9 h, List.forall_mem_cons.mpr ⟨fun S h => bs_istore_n (Z := Z) hx hb rfl d_H_deactivate_10 h, List.forall_mem_cons.mpr ⟨fun S h => bs_aload_n (Z := Z) hx hb rfl d_H_deactivate_11 h, List.forall_mem_cons.mpr ⟨fun S h => bs_gR (Z := Z) (C := R_H) (T := F_H) (N := 5) (t := 3) (j := 2) hx hb hK hts (fun w h => List.mem_cons_of_mem _ (iw_H w h)) hown rfl rfl (by decide) (hts _ (List.mem_cons_of_mem _ wd_226)) (fun _ h => h) rfl rfl rfl d_H_deactivate_12 h, List.forall_mem_cons.mpr ⟨fun S h => bs_gI (Z := Z) (C := R_V) (T := F_V) (N := 3) (t := 19) (j := 1) hx hb hK hts (fun w h => List.mem_cons_of_mem _ (iw_V w h)) hown rfl rfl (by decide) (hts _ (List.mem_cons_of_mem _ wd_194)) (fun _ h => h) rfl rfl rfl d_H_deactivate_15 h, List.forall_mem_cons.mpr ⟨fun S h => bs_istore_n (Z := Z) hx hb rfl d_H_deactivate_18 h, List.forall_mem_cons.mpr ⟨fun S h => bs_iload_n (Z := Z) hx hb rfl d_H_deactivate_19 h, List.forall_mem_cons.mpr ⟨fun S h => bs_if_le (Z := Z) hx hb d_H_deactivate_20 (by decide) h, List.forall_mem_cons.mpr ⟨fun S h => bs_aload_n (Z := Z) hx hb rfl d_H_deactivate_23 h, List.forall_mem_cons.mpr ⟨fun S h => bs_gR (Z := Z) (C := R_H) (T := F_H) (N := 5) (t := 3) (j := 2) hx hb hK hts (fun w h => List.mem_cons_of_mem _ (iw_H w h)) hown rfl rfl (by decide) (hts _ (List.mem_cons_of_mem _ wd_226)) (fun _ h => h) rfl rfl rfl d_H_deactivate_24 h, List.forall_mem_cons.mpr ⟨fun S h => bs_gR (Z := Z) (C := R_V) (T := F_V) (N := 3) (t := 19) (j := 0) hx hb hK hts (fun w h => List.mem_cons_of_mem _ (iw_V w h)) hown rfl rfl (by decide) (hts _ (List.mem_cons_of_mem _ wd_192)) (fun _ h => h) rfl rfl rfl d_H_deactivate_27 h, List.forall_mem_cons.mpr ⟨fun S h => bs_iload_n (Z := Z) hx hb rfl d_H_deactivate_30 h, List.forall_mem_cons.mpr ⟨fun S h => bs_Rald (Z := Z) hx hb ha5 d_H_deactivate_31 h, List.forall_mem_cons.mpr ⟨fun S h => bs_gI (Z := Z) (C := R_S) (T := F_S) (N := 5) (t := 21) (j := 2) hx hb hK hts (fun w h => List.mem_cons_of_mem _ (iw_S w h)) hown rfl rfl (by decide) (hts _ (List.mem_cons_of_mem _ wd_177)) (fun _ h => h) rfl rfl rfl d_H_deactivate_32 h, List.forall_mem_cons.mpr ⟨fun S h => bs_aload_n (Z := Z) hx hb rfl d_H_deactivate_35 h, List.forall_mem_cons.mpr ⟨fun S h => bs_gI (Z := Z) (C := R_B) (T := F_B) (N := 10) (t := 5) (j := 0) hx hb hK hts (fun w h => List.mem_cons_of_mem _ (iw_B w h)) hown rfl rfl (by decide) (hts _ (List.mem_cons_of_mem _ wd_87)) (fun _ h => h) rfl rfl rfl d_H_deactivate_36 h, List.forall_mem_cons.mpr ⟨fun S h => bs_icmp_ne (Z := Z) hx hb d_H_deactivate_39 (by decide) h, List.forall_mem_cons.mpr ⟨fun S h => bs_aload_n (Z := Z) hx hb rfl d_H_deactivate_42 h, List.forall_mem_cons.mpr ⟨fun S h => bs_iload_n (Z := Z) hx hb rfl d_H_deactivate_43 h, List.forall_mem_cons.mpr ⟨fun S h => bs_callV (Z := Z) (C := R_H) hBg hbs hB X0 hK (cn_H_dropService htr (d + 0)) (cl_H_dropService _ _ hw) (hts _ (List.mem_cons_of_mem _ wd_273)) (hts _ (List.mem_cons_of_mem _ wd_275)) (hts _ (List.mem_cons_of_mem _ ws_4)) rfl rfl rfl rfl rfl (Nat.le_refl _) (Nat.le_refl _) d_H_deactivate_44 (bs_out htab hlocks) h, List.forall_mem_cons.mpr ⟨fun S h => bs_goto (Z := Z) hx hb d_H_deactivate_47 (by decide) h, List.forall_mem_cons.mpr ⟨fun S h => bs_iinc (Z := Z) hx hb (by decide) d_H_deactivate_50 h, List.forall_mem_cons.mpr ⟨fun S h => bs_iinc (Z := Z) hx hb (by decide) d_H_deactivate_53 h, List.forall_mem_cons.mpr ⟨fun S h => bs_goto (Z := Z) hx hb d_H_deactivate_56 (by decide) h, List.forall_mem_cons.mpr ⟨fun S h => bs_aload_n (Z := Z) hx hb rfl d_H_deactivate_59 h, List.forall_mem_cons.mpr ⟨fun S h => bs_gR (Z := Z) (C := R_H) (T := F_H) (N := 5) (t := 3) (j := 2) hx hb hK hts (fun w h => List.mem_cons_of_mem _ (iw_H w h)) hown rfl rfl (by decide) (hts _ (List.mem_cons_of_mem _ wd_226)) (fun _ h => h) rfl rfl rfl d_H_deactivate_60 h, List.forall_mem_cons.mpr ⟨fun S h => bs_aload_n (Z := Z) hx hb rfl d_H_deactivate_63 h, List.forall_mem_cons.mpr ⟨fun S h => bs_gI (Z := Z) (C := R_B) (T := F_B) (N := 10) (t := 5) (j := 0) hx hb hK hts (fun w h => List.mem_cons_of_mem _ (iw_B w h)) hown rfl rfl (by decide) (hts _ (List.mem_cons_of_mem _ wd_87)) (fun _ h => h) rfl rfl rfl d_H_deactivate_64 h, List.forall_mem_cons.mpr ⟨fun S h => bs_callV (Z := Z) (C := R_V) hBg hbs hB X0 hK (cn_V_takeBackAll htr (d + 1)) (cl_V_takeBackAll _ _ hw) (hts _ (List.mem_cons_of_mem _ wd_285)) (hts _ (List.mem_cons_of_mem _ wd_286)) (hts _ (List.mem_cons_of_mem _ wd_287)) rfl rfl rfl rfl rfl (Nat.le_refl _) (Nat.le_refl _) d_H_deactivate_67 (bs_out htab hlocks) h, List.forall_mem_cons.mpr ⟨fun S h => bs_aload_n (Z := Z) hx hb rfl d_H_deactivate_70 h, List.forall_mem_cons.mpr ⟨fun S h => bs_iconst (Z := Z) hx hb (by decide) d_H_deactivate_71 h, List.forall_mem_cons.mpr ⟨fun S h => bs_pI (Z := Z) (C := R_B) (T := F_B) (N := 10) (t := 5) (j := 3) hx hb hK hts (fun w h => List.mem_cons_of_mem _ (iw_B w h)) hown rfl rfl (by decide) (hts _ (List.mem_cons_of_mem _ wd_95)) (fun _ h => h) rfl rfl t_B t_B_ok n_B rfl (by decide +kernel) rfl d_H_deactivate_72 h, List.forall_mem_cons.mpr ⟨fun S h => bs_aload_n (Z := Z) hx hb rfl d_H_deactivate_75 h, List.forall_mem_cons.mpr ⟨fun S h => bs_gR (Z := Z) (C := R_H) (T := F_H) (N := 5) (t := 3) (j := 3) hx hb hK hts (fun w h => List.mem_cons_of_mem _ (iw_H w h)) hown rfl rfl (by decide) (hts _ (List.mem_cons_of_mem _ wd_227)) (fun _ h => h) rfl rfl rfl d_H_deactivate_76 h, List.forall_mem_cons.mpr ⟨fun S h => bs_sipush (Z := Z) hx hb (by decide) d_H_deactivate_79 h, fun _ h => absurd h List.not_mem_nil⟩⟩⟩⟩⟩⟩⟩⟩⟩⟩⟩⟩⟩⟩⟩⟩⟩⟩⟩⟩⟩⟩⟩⟩⟩⟩⟩⟩⟩⟩⟩⟩⟩⟩⟩⟩⟩⟩⟩⟩
abbrev c_B_beUnresolved : ByteArray := prog_2_method_6_code
def y_B_beUnresolved : MethodName := ⟨"BundleHall$Bundle", "beUnresolved", "()V"⟩
theorem d_B_beUnresolved_0 : decode c_B_beUnresolved 0 = .ok (.aload_n 0, 1) := by decide +kernel
theorem d_B_beUnresolved_1 : decode c_B_beUnresolved 1 = .ok (.iconst 1, 1) := by decide +kernel
theorem d_B_beUnresolved_2 : decode c_B_beUnresolved 2 = .ok (.putfield 35, 3) := by decide +kernel
theorem d_B_beUnresolved_5 : decode c_B_beUnresolved 5 = .ok (.aload_n 0, 1) := by decide +kernel
theorem d_B_beUnresolved_6 : decode c_B_beUnresolved 6 = .ok (.getfield 25, 3) := by decide +kernel
theorem d_B_beUnresolved_9 : decode c_B_beUnresolved 9 = .ok (.iconst (-1), 1) := by decide +kernel
theorem d_B_beUnresolved_10 : decode c_B_beUnresolved 10 = .ok (.invokestatic 29, 3) := by decide +kernel
theorem d_B_beUnresolved_13 : decode c_B_beUnresolved 13 = .ok (.return_, 1) := by decide +kernel
def T_B_beUnresolved_0 : List (Nat × bh_Op) := [(0, bo_ald 1 0),
  (1, bo_st 2 (bg_push (.inl (.int 1)))),
  (2, bo_pI 5 5 3),
  (5, bo_ald 6 0),
  (6, bo_gR 9 5 2 6),
  (9, bo_st 10 (bg_push (.inl (.int (-1))))),
  (10, bo_callS 13 2 0 0 F_A_fill),
  (13, bo_vret 0)]
def T_B_beUnresolved : List (Nat × bh_Op) := T_B_beUnresolved_0
set_option maxRecDepth 20000 in
theorem mT_B_beUnresolved_0 : ∀ q ∈ T_B_beUnresolved_0, bh_mono q.2 := List.forall_mem_cons.mpr ⟨bo_ald_m _ _, List.forall_mem_cons.mpr ⟨bo_st_mono (bg_push_m _), List.forall_mem_cons.mpr ⟨bo_pI_m _ _ _, List.forall_mem_cons.mpr ⟨bo_ald_m _ _, List.forall_mem_cons.mpr ⟨bo_gR_m _ _ _ _, List.forall_mem_cons.mpr ⟨bo_st_mono (bg_push_m _), List.forall_mem_cons.mpr ⟨bo_callS_m (mF_A_fill) _ _ _ _, List.forall_mem_cons.mpr ⟨bo_vret_m _, fun _ h => absurd h List.not_mem_nil⟩⟩⟩⟩⟩⟩⟩⟩
theorem m_B_beUnresolved : ∀ pc, bh_mono (bh_tb (T_B_beUnresolved) pc) := bh_tb_m mT_B_beUnresolved_0
def F_B_beUnresolved : bh_Fn := bh_fn 1 (bh_tb T_B_beUnresolved)
theorem mF_B_beUnresolved : bh_monoF F_B_beUnresolved := bh_fn_m m_B_beUnresolved
theorem cl_B_beUnresolved {s : State} {args : Array Value} (d B : Nat) (hts : ∀ w ∈ bh_ws, w.before args s = true) : bh_Cal (bh_rm (d + 1) B) s y_B_beUnresolved 1 (.code y_B_beUnresolved c_B_beUnresolved 1 none :: bh_ws) (bh_rm d 0) 0 0 := bh_cal d B hts wd_292 wd_2 (by decide) (by decide +kernel)
set_option maxHeartbeats 4000000 in
set_option maxRecDepth 100000 in
theorem cn_B_beUnresolved {l : Launch} {G : bh_G} {base sb L : Nat} {xs : Nat → Int32} (htr : l.stackTraces = false) (d : Nat) : bh_Con l G base (bh_Bg G base sb L xs) y_B_beUnresolved (.code y_B_beUnresolved c_B_beUnresolved 1 none :: bh_ws) (bh_rm (d + 2) 0) 0 false F_B_beUnresolved := by
  refine bh_method (cc := c_B_beUnresolved) (ret := none) (by decide +kernel) rfl ?_
  intro p e s m args below meth c ad0 M0 Z X0 hr hlocks hname htab hbs hB
  obtain ⟨hx, hb, hml, hown, hts⟩ := id X0
  have hw : ∀ w ∈ bh_ws, w.before args s = true := fun w h => hts w (List.mem_cons_of_mem _ h)
  have hBg := bh_BgK (G := G) (base := base) (sb := sb) (L := L) (xs := xs)
  obtain ⟨hK, hAr, hen, hinj, hu1, hu2, hstr, hX, hsb, hsc, hxw, hao, hnc⟩ := id hB
  obtain ⟨ha1, ha2, ha3, ha4, ha5, ha6, ha0⟩ := bh_arr hAr
  exact List.forall_mem_cons.mpr ⟨fun S h => bs_aload_n (Z := Z) hx hb rfl d_B_beUnresolved_0 h, List.forall_mem_cons.mpr ⟨fun S h => bs_iconst (Z := Z) hx hb (by decide) d_B_beUnresolved_1 h, List.forall_mem_cons.mpr ⟨fun S h => bs_pI (Z := Z) (C := R_B) (T := F_B) (N := 10) (t := 5) (j := 3) hx hb hK hts (fun w h => List.mem_cons_of_mem _ (iw_B w h)) hown rfl rfl (by decide) (hts _ (List.mem_cons_of_mem _ wd_94)) (fun _ h => h) rfl rfl t_B t_B_ok n_B rfl (by decide +kernel) rfl d_B_beUnresolved_2 h, List.forall_mem_cons.mpr ⟨fun S h => bs_aload_n (Z := Z) hx hb rfl d_B_beUnresolved_5 h, List.forall_mem_cons.mpr ⟨fun S h => bs_gR (Z := Z) (C := R_B) (T := F_B) (N := 10) (t := 5) (j := 2) hx hb hK hts (fun w h => List.mem_cons_of_mem _ (iw_B w h)) hown rfl rfl (by decide) (hts _ (List.mem_cons_of_mem _ wd_91)) (fun _ h => h) rfl rfl rfl d_B_beUnresolved_6 h, List.forall_mem_cons.mpr ⟨fun S h => bs_iconst (Z := Z) hx hb (by decide) d_B_beUnresolved_9 h, List.forall_mem_cons.mpr ⟨fun S h => bs_callS (Z := Z) hBg hbs hB X0 (cn_A_fill htr (d + 0)) (cl_A_fill _ _ hw) (hts _ (List.mem_cons_of_mem _ wd_84)) (hts _ (List.mem_cons_of_mem _ wd_44)) (Nat.le_refl _) (Nat.le_refl _) d_B_beUnresolved_10 (bs_out htab hlocks) h, List.forall_mem_cons.mpr ⟨fun S h => bs_vret (Z := Z) hx hb hr hlocks d_B_beUnresolved_13 h, fun _ h => absurd h List.not_mem_nil⟩⟩⟩⟩⟩⟩⟩⟩
abbrev c_R_nameIsTaken : ByteArray := prog_6_method_8_code
def y_R_nameIsTaken : MethodName := ⟨"BundleHall$Resolver", "nameIsTaken", "([LBundleHall$Bundle;LBundleHall$Bundle;)Z"⟩
theorem d_R_nameIsTaken_0 : decode c_R_nameIsTaken 0 = .ok (.iconst 0, 1) := by decide +kernel
theorem d_R_nameIsTaken_1 : decode c_R_nameIsTaken 1 = .ok (.istore_n 3, 1) := by decide +kernel
theorem d_R_nameIsTaken_2 : decode c_R_nameIsTaken 2 = .ok (.iload_n 3, 1) := by decide +kernel
theorem d_R_nameIsTaken_3 : decode c_R_nameIsTaken 3 = .ok (.bipush 8, 2) := by decide +kernel
theorem d_R_nameIsTaken_5 : decode c_R_nameIsTaken 5 = .ok (.if_icmp .ge 62, 3) := by decide +kernel
theorem d_R_nameIsTaken_8 : decode c_R_nameIsTaken 8 = .ok (.aload_n 1, 1) := by decide +kernel
theorem d_R_nameIsTaken_9 : decode c_R_nameIsTaken 9 = .ok (.iload_n 3, 1) := by decide +kernel
theorem d_R_nameIsTaken_10 : decode c_R_nameIsTaken 10 = .ok (.aaload, 1) := by decide +kernel
theorem d_R_nameIsTaken_11 : decode c_R_nameIsTaken 11 = .ok (.invokevirtual 102, 3) := by decide +kernel
theorem d_R_nameIsTaken_14 : decode c_R_nameIsTaken 14 = .ok (.ifCond .ne 12, 3) := by decide +kernel
theorem d_R_nameIsTaken_17 : decode c_R_nameIsTaken 17 = .ok (.aload_n 0, 1) := by decide +kernel
theorem d_R_nameIsTaken_18 : decode c_R_nameIsTaken 18 = .ok (.getfield 18, 3) := by decide +kernel
theorem d_R_nameIsTaken_21 : decode c_R_nameIsTaken 21 = .ok (.iload_n 3, 1) := by decide +kernel
theorem d_R_nameIsTaken_22 : decode c_R_nameIsTaken 22 = .ok (.baload, 1) := by decide +kernel
theorem d_R_nameIsTaken_23 : decode c_R_nameIsTaken 23 = .ok (.ifCond .eq 7, 3) := by decide +kernel
theorem d_R_nameIsTaken_26 : decode c_R_nameIsTaken 26 = .ok (.iconst 1, 1) := by decide +kernel
theorem d_R_nameIsTaken_27 : decode c_R_nameIsTaken 27 = .ok (.goto 4, 3) := by decide +kernel
theorem d_R_nameIsTaken_30 : decode c_R_nameIsTaken 30 = .ok (.iconst 0, 1) := by decide +kernel
theorem d_R_nameIsTaken_31 : decode c_R_nameIsTaken 31 = .ok (.istore 4, 2) := by decide +kernel
theorem d_R_nameIsTaken_33 : decode c_R_nameIsTaken 33 = .ok (.iload 4, 2) := by decide +kernel
theorem d_R_nameIsTaken_35 : decode c_R_nameIsTaken 35 = .ok (.ifCond .eq 26, 3) := by decide +kernel
theorem d_R_nameIsTaken_38 : decode c_R_nameIsTaken 38 = .ok (.iload_n 3, 1) := by decide +kernel
theorem d_R_nameIsTaken_39 : decode c_R_nameIsTaken 39 = .ok (.aload_n 2, 1) := by decide +kernel
theorem d_R_nameIsTaken_40 : decode c_R_nameIsTaken 40 = .ok (.getfield 60, 3) := by decide +kernel
theorem d_R_nameIsTaken_43 : decode c_R_nameIsTaken 43 = .ok (.if_icmp .eq 18, 3) := by decide +kernel
theorem d_R_nameIsTaken_46 : decode c_R_nameIsTaken 46 = .ok (.aload_n 1, 1) := by decide +kernel
theorem d_R_nameIsTaken_47 : decode c_R_nameIsTaken 47 = .ok (.iload_n 3, 1) := by decide +kernel
theorem d_R_nameIsTaken_48 : decode c_R_nameIsTaken 48 = .ok (.aaload, 1) := by decide +kernel
theorem d_R_nameIsTaken_49 : decode c_R_nameIsTaken 49 = .ok (.getfield 110, 3) := by decide +kernel
theorem d_R_nameIsTaken_52 : decode c_R_nameIsTaken 52 = .ok (.aload_n 2, 1) := by decide +kernel
theorem d_R_nameIsTaken_53 : decode c_R_nameIsTaken 53 = .ok (.getfield 110, 3) := by decide +kernel
theorem d_R_nameIsTaken_56 : decode c_R_nameIsTaken 56 = .ok (.if_icmp .ne 5, 3) := by decide +kernel
theorem d_R_nameIsTaken_59 : decode c_R_nameIsTaken 59 = .ok (.iconst 1, 1) := by decide +kernel
theorem d_R_nameIsTaken_60 : decode c_R_nameIsTaken 60 = .ok (.ireturn, 1) := by decide +kernel
theorem d_R_nameIsTaken_61 : decode c_R_nameIsTaken 61 = .ok (.iinc 3 1, 3) := by decide +kernel
theorem d_R_nameIsTaken_64 : decode c_R_nameIsTaken 64 = .ok (.goto (-62), 3) := by decide +kernel
theorem d_R_nameIsTaken_67 : decode c_R_nameIsTaken 67 = .ok (.iconst 0, 1) := by decide +kernel
theorem d_R_nameIsTaken_68 : decode c_R_nameIsTaken 68 = .ok (.ireturn, 1) := by decide +kernel
def T_R_nameIsTaken_0 : List (Nat × bh_Op) := [(0, bo_st 1 (bg_push (.inl (.int 0)))),
  (1, bo_ist 2 3),
  (2, bo_ild 3 3),
  (3, bo_st 5 (bg_push (.inl (.int 8)))),
  (5, bo_if2 8 67 (fun x y => y ≤ x)),
  (8, bo_ald 9 1),
  (9, bo_ild 10 3),
  (10, bo_Rald bh_ak bh_al 11),
  (11, bo_callV 14 1 0 0 5 F_B_isResolved),
  (14, bo_if1 17 26 (fun x => ¬ x = 0)),
  (17, bo_ald 18 0),
  (18, bo_gR 21 15 2 18),
  (21, bo_ild 22 3),
  (22, bo_Zald bh_ak bh_al 23),
  (23, bo_if1 26 30 (fun x => x = 0)),
  (26, bo_st 27 (bg_push (.inl (.int 1)))),
  (27, bo_go 31),
  (30, bo_st 31 (bg_push (.inl (.int 0)))),
  (31, bo_ist 33 4),
  (33, bo_ild 35 4),
  (35, bo_if1 38 61 (fun x => x = 0)),
  (38, bo_ild 39 3),
  (39, bo_ald 40 2),
  (40, bo_gI 43 5 0),
  (43, bo_if2 46 61 (fun x y => x = y)),
  (46, bo_ald 47 1),
  (47, bo_ild 48 3),
  (48, bo_Rald bh_ak bh_al 49),
  (49, bo_gI 52 5 4),
  (52, bo_ald 53 2),
  (53, bo_gI 56 5 4),
  (56, bo_if2 59 61 (fun x y => ¬ x = y)),
  (59, bo_st 60 (bg_push (.inl (.int 1)))),
  (60, bo_zret 0),
  (61, bo_inc 64 3 1),
  (64, bo_go 2),
  (67, bo_st 68 (bg_push (.inl (.int 0)))),
  (68, bo_zret 0)]
def T_R_nameIsTaken : List (Nat × bh_Op) := T_R_nameIsTaken_0
set_option maxRecDepth 20000 in
theorem mT_R_nameIsTaken_0 : ∀ q ∈ T_R_nameIsTaken_0, bh_mono q.2 := List.forall_mem_cons.mpr ⟨bo_st_mono (bg_push_m _), List.forall_mem_cons.mpr ⟨bo_ist_m _ _, List.forall_mem_cons.mpr ⟨bo_ild_m _ _, List.forall_mem_cons.mpr ⟨bo_st_mono (bg_push_m _), List.forall_mem_cons.mpr ⟨bo_if2_m _ _ _, List.forall_mem_cons.mpr ⟨bo_ald_m _ _, List.forall_mem_cons.mpr ⟨bo_ild_m _ _, List.forall_mem_cons.mpr ⟨bo_Rald_m _ _ _, List.forall_mem_cons.mpr ⟨bo_callV_m (mF_B_isResolved) _ _ _ _ _, List.forall_mem_cons.mpr ⟨bo_if1_m _ _ _, List.forall_mem_cons.mpr ⟨bo_ald_m _ _, List.forall_mem_cons.mpr ⟨bo_gR_m _ _ _ _, List.forall_mem_cons.mpr ⟨bo_ild_m _ _, List.forall_mem_cons.mpr ⟨bo_Zald_m _ _ _, List.forall_mem_cons.mpr ⟨bo_if1_m _ _ _, List.forall_mem_cons.mpr ⟨bo_st_mono (bg_push_m _), List.forall_mem_cons.mpr ⟨bo_go_m _, List.forall_mem_cons.mpr ⟨bo_st_mono (bg_push_m _), List.forall_mem_cons.mpr ⟨bo_ist_m _ _, List.forall_mem_cons.mpr ⟨bo_ild_m _ _, List.forall_mem_cons.mpr ⟨bo_if1_m _ _ _, List.forall_mem_cons.mpr ⟨bo_ild_m _ _, List.forall_mem_cons.mpr ⟨bo_ald_m _ _, List.forall_mem_cons.mpr ⟨bo_gI_m _ _ _, List.forall_mem_cons.mpr ⟨bo_if2_m _ _ _, List.forall_mem_cons.mpr ⟨bo_ald_m _ _, List.forall_mem_cons.mpr ⟨bo_ild_m _ _, List.forall_mem_cons.mpr ⟨bo_Rald_m _ _ _, List.forall_mem_cons.mpr ⟨bo_gI_m _ _ _, List.forall_mem_cons.mpr ⟨bo_ald_m _ _, List.forall_mem_cons.mpr ⟨bo_gI_m _ _ _, List.forall_mem_cons.mpr ⟨bo_if2_m _ _ _, List.forall_mem_cons.mpr ⟨bo_st_mono (bg_push_m _), List.forall_mem_cons.mpr ⟨bo_zret_m _, List.forall_mem_cons.mpr ⟨bo_inc_m _ _ _, List.forall_mem_cons.mpr ⟨bo_go_m _, List.forall_mem_cons.mpr ⟨bo_st_mono (bg_push_m _), List.forall_mem_cons.mpr ⟨bo_zret_m _, fun _ h => absurd h List.not_mem_nil⟩⟩⟩⟩⟩⟩⟩⟩⟩⟩⟩⟩⟩⟩⟩⟩⟩⟩⟩⟩⟩⟩⟩⟩⟩⟩⟩⟩⟩⟩⟩⟩⟩⟩⟩⟩⟩⟩
theorem m_R_nameIsTaken : ∀ pc, bh_mono (bh_tb (T_R_nameIsTaken) pc) := bh_tb_m mT_R_nameIsTaken_0
def F_R_nameIsTaken : bh_Fn := bh_fn 5 (bh_tb T_R_nameIsTaken)
theorem mF_R_nameIsTaken : bh_monoF F_R_nameIsTaken := bh_fn_m m_R_nameIsTaken
theorem cl_R_nameIsTaken {s : State} {args : Array Value} (d B : Nat) (hts : ∀ w ∈ bh_ws, w.before args s = true) : bh_Cal (bh_rm (d + 1) B) s y_R_nameIsTaken 5 (.code y_R_nameIsTaken c_R_nameIsTaken 5 (some .boolean) :: bh_ws) (bh_rm d 0) 0 2 := bh_cal d B hts wd_304 wd_5 (by decide) (by decide +kernel)
set_option maxHeartbeats 4000000 in
set_option maxRecDepth 100000 in
theorem cn_R_nameIsTaken {l : Launch} {G : bh_G} {base sb L : Nat} {xs : Nat → Int32} (htr : l.stackTraces = false) (d : Nat) : bh_Con l G base (bh_Bg G base sb L xs) y_R_nameIsTaken (.code y_R_nameIsTaken c_R_nameIsTaken 5 (some .boolean) :: bh_ws) (bh_rm (d + 2) 0) 0 false F_R_nameIsTaken := by
  refine bh_method (cc := c_R_nameIsTaken) (ret := (some .boolean)) (by decide +kernel) rfl ?_
  intro p e s m args below meth c ad0 M0 Z X0 hr hlocks hname htab hbs hB
  obtain ⟨hx, hb, hml, hown, hts⟩ := id X0
  have hw : ∀ w ∈ bh_ws, w.before args s = true := fun w h => hts w (List.mem_cons_of_mem _ h)
  have hBg := bh_BgK (G := G) (base := base) (sb := sb) (L := L) (xs := xs)
  obtain ⟨hK, hAr, hen, hinj, hu1, hu2, hstr, hX, hsb, hsc, hxw, hao, hnc⟩ := id hB
  obtain ⟨ha1, ha2, ha3, ha4, ha5, ha6, ha0⟩ := bh_arr hAr
  exact List.forall_mem_cons.mpr ⟨fun S h => bs_iconst (Z := Z) hx hb (by decide) d_R_nameIsTaken_0 h, List.forall_mem_cons.mpr ⟨fun S h => bs_istore_n (Z := Z) hx hb rfl d_R_nameIsTaken_1 h, List.forall_mem_cons.mpr ⟨fun S h => bs_iload_n (Z := Z) hx hb rfl d_R_nameIsTaken_2 h, List.forall_mem_cons.mpr ⟨fun S h => bs_bipush (Z := Z) hx hb (by decide) d_R_nameIsTaken_3 h, List.forall_mem_cons.mpr ⟨fun S h => bs_icmp_ge (Z := Z) hx hb d_R_nameIsTaken_5 (by decide) h, List.forall_mem_cons.mpr ⟨fun S h => bs_aload_n (Z := Z) hx hb rfl d_R_nameIsTaken_8 h, List.forall_mem_cons.mpr ⟨fun S h => bs_iload_n (Z := Z) hx hb rfl d_R_nameIsTaken_9 h, List.forall_mem_cons.mpr ⟨fun S h => bs_Rald (Z := Z) hx hb ha5 d_R_nameIsTaken_10 h, List.forall_mem_cons.mpr ⟨fun S h => bs_callV (Z := Z) (C := R_B) hBg hbs hB X0 hK (cn_B_isResolved htr (d + 0)) (cl_B_isResolved _ _ hw) (hts _ (List.mem_cons_of_mem _ wd_305)) (hts _ (List.mem_cons_of_mem _ wd_263)) (hts _ (List.mem_cons_of_mem _ wd_264)) rfl rfl rfl rfl rfl (Nat.le_refl _) (Nat.le_refl _) d_R_nameIsTaken_11 (bs_out htab hlocks) h, List.forall_mem_cons.mpr ⟨fun S h => bs_if_ne (Z := Z) hx hb d_R_nameIsTaken_14 (by decide) h, List.forall_mem_cons.mpr ⟨fun S h => bs_aload_n (Z := Z) hx hb rfl d_R_nameIsTaken_17 h, List.forall_mem_cons.mpr ⟨fun S h => bs_gR (Z := Z) (C := R_R) (T := F_R) (N := 6) (t := 15) (j := 2) hx hb hK hts (fun w h => List.mem_cons_of_mem _ (iw_R w h)) hown rfl rfl (by decide) (hts _ (List.mem_cons_of_mem _ wd_139)) (fun _ h => h) rfl rfl rfl d_R_nameIsTaken_18 h, List.forall_mem_cons.mpr ⟨fun S h => bs_iload_n (Z := Z) hx hb rfl d_R_nameIsTaken_21 h, List.forall_mem_cons.mpr ⟨fun S h => bs_Zald (Z := Z) hx hb ha2 d_R_nameIsTaken_22 h, List.forall_mem_cons.mpr ⟨fun S h => bs_if_eq (Z := Z) hx hb d_R_nameIsTaken_23 (by decide) h, List.forall_mem_cons.mpr ⟨fun S h => bs_iconst (Z := Z) hx hb (by decide) d_R_nameIsTaken_26 h, List.forall_mem_cons.mpr ⟨fun S h => bs_goto (Z := Z) hx hb d_R_nameIsTaken_27 (by decide) h, List.forall_mem_cons.mpr ⟨fun S h => bs_iconst (Z := Z) hx hb (by decide) d_R_nameIsTaken_30 h, List.forall_mem_cons.mpr ⟨fun S h => bs_istore (Z := Z) hx hb d_R_nameIsTaken_31 h, List.forall_mem_cons.mpr ⟨fun S h => bs_iload (Z := Z) hx hb d_R_nameIsTaken_33 h, List.forall_mem_cons.mpr ⟨fun S h => bs_if_eq (Z := Z) hx hb d_R_nameIsTaken_35 (by decide) h, List.forall_mem_cons.mpr ⟨fun S h => bs_iload_n (Z := Z) hx hb rfl d_R_nameIsTaken_38 h, List.forall_mem_cons.mpr ⟨fun S h => bs_aload_n (Z := Z) hx hb rfl d_R_nameIsTaken_39 h, List.forall_mem_cons.mpr ⟨fun S h => bs_gI (Z := Z) (C := R_B) (T := F_B) (N := 10) (t := 5) (j := 0) hx hb hK hts (fun w h => List.mem_cons_of_mem _ (iw_B w h)) hown rfl rfl (by decide) (hts _ (List.mem_cons_of_mem _ wd_86)) (fun _ h => h) rfl rfl rfl d_R_nameIsTaken_40 h, List.forall_mem_cons.mpr ⟨fun S h => bs_icmp_eq (Z := Z) hx hb d_R_nameIsTaken_43 (by decide) h, List.forall_mem_cons.mpr ⟨fun S h => bs_aload_n (Z := Z) hx hb rfl d_R_nameIsTaken_46 h, List.forall_mem_cons.mpr ⟨fun S h => bs_iload_n (Z := Z) hx hb rfl d_R_nameIsTaken_47 h, List.forall_mem_cons.mpr ⟨fun S h => bs_Rald (Z := Z) hx hb ha5 d_R_nameIsTaken_48 h, List.forall_mem_cons.mpr ⟨fun S h => bs_gI (Z := Z) (C := R_B) (T := F_B) (N := 10) (t := 5) (j := 4) hx hb hK hts (fun w h => List.mem_cons_of_mem _ (iw_B w h)) hown rfl rfl (by decide) (hts _ (List.mem_cons_of_mem _ wd_98)) (fun _ h => h) rfl rfl rfl d_R_nameIsTaken_49 h, List.forall_mem_cons.mpr ⟨fun S h => bs_aload_n (Z := Z) hx hb rfl d_R_nameIsTaken_52 h, List.forall_mem_cons.mpr ⟨fun S h => bs_gI (Z := Z) (C := R_B) (T := F_B) (N := 10) (t := 5) (j := 4) hx hb hK hts (fun w h => List.mem_cons_of_mem _ (iw_B w h)) hown rfl rfl (by decide) (hts _ (List.mem_cons_of_mem _ wd_98)) (fun _ h => h) rfl rfl rfl d_R_nameIsTaken_53 h, List.forall_mem_cons.mpr ⟨fun S h => bs_icmp_ne (Z := Z) hx hb d_R_nameIsTaken_56 (by decide) h, List.forall_mem_cons.mpr ⟨fun S h => bs_iconst (Z := Z) hx hb (by decide) d_R_nameIsTaken_59 h, List.forall_mem_cons.mpr ⟨fun S h => bs_zret (Z := Z) hx hb hr hlocks d_R_nameIsTaken_60 h, List.forall_mem_cons.mpr ⟨fun S h => bs_iinc (Z := Z) hx hb (by decide) d_R_nameIsTaken_61 h, List.forall_mem_cons.mpr ⟨fun S h => bs_goto (Z := Z) hx hb d_R_nameIsTaken_64 (by decide) h, List.forall_mem_cons.mpr ⟨fun S h => bs_iconst (Z := Z) hx hb (by decide) d_R_nameIsTaken_67 h, List.forall_mem_cons.mpr ⟨fun S h => bs_zret (Z := Z) hx hb hr hlocks d_R_nameIsTaken_68 h, fun _ h => absurd h List.not_mem_nil⟩⟩⟩⟩⟩⟩⟩⟩⟩⟩⟩⟩⟩⟩⟩⟩⟩⟩⟩⟩⟩⟩⟩⟩⟩⟩⟩⟩⟩⟩⟩⟩⟩⟩⟩⟩⟩⟩
abbrev c_R_takeIn : ByteArray := prog_6_method_3_code
def y_R_takeIn : MethodName := ⟨"BundleHall$Resolver", "takeIn", "(LBundleHall$Bundle;)V"⟩
theorem d_R_takeIn_0 : decode c_R_takeIn 0 = .ok (.aload_n 0, 1) := by decide +kernel
theorem d_R_takeIn_1 : decode c_R_takeIn 1 = .ok (.getfield 18, 3) := by decide +kernel
theorem d_R_takeIn_4 : decode c_R_takeIn 4 = .ok (.aload_n 1, 1) := by decide +kernel
theorem d_R_takeIn_5 : decode c_R_takeIn 5 = .ok (.getfield 60, 3) := by decide +kernel
theorem d_R_takeIn_8 : decode c_R_takeIn 8 = .ok (.iconst 1, 1) := by decide +kernel
theorem d_R_takeIn_9 : decode c_R_takeIn 9 = .ok (.bastore, 1) := by decide +kernel
theorem d_R_takeIn_10 : decode c_R_takeIn 10 = .ok (.aload_n 0, 1) := by decide +kernel
theorem d_R_takeIn_11 : decode c_R_takeIn 11 = .ok (.dup, 1) := by decide +kernel
theorem d_R_takeIn_12 : decode c_R_takeIn 12 = .ok (.getfield 29, 3) := by decide +kernel
theorem d_R_takeIn_15 : decode c_R_takeIn 15 = .ok (.iconst 1, 1) := by decide +kernel
theorem d_R_takeIn_16 : decode c_R_takeIn 16 = .ok (.iadd, 1) := by decide +kernel
theorem d_R_takeIn_17 : decode c_R_takeIn 17 = .ok (.putfield 29, 3) := by decide +kernel
theorem d_R_takeIn_20 : decode c_R_takeIn 20 = .ok (.iconst 0, 1) := by decide +kernel
theorem d_R_takeIn_21 : decode c_R_takeIn 21 = .ok (.istore_n 2, 1) := by decide +kernel
theorem d_R_takeIn_22 : decode c_R_takeIn 22 = .ok (.iload_n 2, 1) := by decide +kernel
theorem d_R_takeIn_23 : decode c_R_takeIn 23 = .ok (.aload_n 1, 1) := by decide +kernel
theorem d_R_takeIn_24 : decode c_R_takeIn 24 = .ok (.getfield 65, 3) := by decide +kernel
theorem d_R_takeIn_27 : decode c_R_takeIn 27 = .ok (.getfield 69, 3) := by decide +kernel
theorem d_R_takeIn_30 : decode c_R_takeIn 30 = .ok (.if_icmp .ge 63, 3) := by decide +kernel
theorem d_R_takeIn_33 : decode c_R_takeIn 33 = .ok (.aload_n 1, 1) := by decide +kernel
theorem d_R_takeIn_34 : decode c_R_takeIn 34 = .ok (.getfield 65, 3) := by decide +kernel
theorem d_R_takeIn_37 : decode c_R_takeIn 37 = .ok (.getfield 74, 3) := by decide +kernel
theorem d_R_takeIn_40 : decode c_R_takeIn 40 = .ok (.iload_n 2, 1) := by decide +kernel
theorem d_R_takeIn_41 : decode c_R_takeIn 41 = .ok (.baload, 1) := by decide +kernel
theorem d_R_takeIn_42 : decode c_R_takeIn 42 = .ok (.ifCond .ne 45, 3) := by decide +kernel
theorem d_R_takeIn_45 : decode c_R_takeIn 45 = .ok (.aload_n 0, 1) := by decide +kernel
theorem d_R_takeIn_46 : decode c_R_takeIn 46 = .ok (.getfield 22, 3) := by decide +kernel
theorem d_R_takeIn_49 : decode c_R_takeIn 49 = .ok (.bipush 24, 2) := by decide +kernel
theorem d_R_takeIn_51 : decode c_R_takeIn 51 = .ok (.if_icmp .ge 36, 3) := by decide +kernel
theorem d_R_takeIn_54 : decode c_R_takeIn 54 = .ok (.aload_n 0, 1) := by decide +kernel
theorem d_R_takeIn_55 : decode c_R_takeIn 55 = .ok (.getfield 9, 3) := by decide +kernel
theorem d_R_takeIn_58 : decode c_R_takeIn 58 = .ok (.aload_n 0, 1) := by decide +kernel
theorem d_R_takeIn_59 : decode c_R_takeIn 59 = .ok (.getfield 22, 3) := by decide +kernel
theorem d_R_takeIn_62 : decode c_R_takeIn 62 = .ok (.aload_n 1, 1) := by decide +kernel
theorem d_R_takeIn_63 : decode c_R_takeIn 63 = .ok (.getfield 60, 3) := by decide +kernel
theorem d_R_takeIn_66 : decode c_R_takeIn 66 = .ok (.iastore, 1) := by decide +kernel
theorem d_R_takeIn_67 : decode c_R_takeIn 67 = .ok (.aload_n 0, 1) := by decide +kernel
theorem d_R_takeIn_68 : decode c_R_takeIn 68 = .ok (.getfield 15, 3) := by decide +kernel
theorem d_R_takeIn_71 : decode c_R_takeIn 71 = .ok (.aload_n 0, 1) := by decide +kernel
theorem d_R_takeIn_72 : decode c_R_takeIn 72 = .ok (.getfield 22, 3) := by decide +kernel
theorem d_R_takeIn_75 : decode c_R_takeIn 75 = .ok (.iload_n 2, 1) := by decide +kernel
theorem d_R_takeIn_76 : decode c_R_takeIn 76 = .ok (.iastore, 1) := by decide +kernel
theorem d_R_takeIn_77 : decode c_R_takeIn 77 = .ok (.aload_n 0, 1) := by decide +kernel
theorem d_R_takeIn_78 : decode c_R_takeIn 78 = .ok (.dup, 1) := by decide +kernel
theorem d_R_takeIn_79 : decode c_R_takeIn 79 = .ok (.getfield 22, 3) := by decide +kernel
theorem d_R_takeIn_82 : decode c_R_takeIn 82 = .ok (.iconst 1, 1) := by decide +kernel
theorem d_R_takeIn_83 : decode c_R_takeIn 83 = .ok (.iadd, 1) := by decide +kernel
theorem d_R_takeIn_84 : decode c_R_takeIn 84 = .ok (.putfield 22, 3) := by decide +kernel
theorem d_R_takeIn_87 : decode c_R_takeIn 87 = .ok (.iinc 2 1, 3) := by decide +kernel
theorem d_R_takeIn_90 : decode c_R_takeIn 90 = .ok (.goto (-68), 3) := by decide +kernel
theorem d_R_takeIn_93 : decode c_R_takeIn 93 = .ok (.return_, 1) := by decide +kernel
def T_R_takeIn_0 : List (Nat × bh_Op) := [(0, bo_ald 1 0),
  (1, bo_gR 4 15 2 18),
  (4, bo_ald 5 1),
  (5, bo_gI 8 5 0),
  (8, bo_st 9 (bg_push (.inl (.int 1)))),
  (9, bo_Zast bh_ak bh_al 10),
  (10, bo_ald 11 0),
  (11, bo_st 12 bg_dup),
  (12, bo_gI 15 15 5),
  (15, bo_st 16 (bg_push (.inl (.int 1)))),
  (16, bo_st 17 (bg_ii (fun x y => x + y))),
  (17, bo_pI 20 15 5),
  (20, bo_st 21 (bg_push (.inl (.int 0)))),
  (21, bo_ist 22 2),
  (22, bo_ild 23 2),
  (23, bo_ald 24 1),
  (24, bo_gR 27 5 1 7),
  (27, bo_gI 30 7 8),
  (30, bo_if2 33 93 (fun x y => y ≤ x)),
  (33, bo_ald 34 1),
  (34, bo_gR 37 5 1 7),
  (37, bo_gR 40 7 6 14),
  (40, bo_ild 41 2),
  (41, bo_Zald bh_ak bh_al 42),
  (42, bo_if1 45 87 (fun x => ¬ x = 0)),
  (45, bo_ald 46 0),
  (46, bo_gI 49 15 3),
  (49, bo_st 51 (bg_push (.inl (.int 24)))),
  (51, bo_if2 54 87 (fun x y => y ≤ x)),
  (54, bo_ald 55 0),
  (55, bo_gR 58 15 0 16),
  (58, bo_ald 59 0),
  (59, bo_gI 62 15 3),
  (62, bo_ald 63 1),
  (63, bo_gI 66 5 0),
  (66, bo_Iast bh_ak bh_al 67),
  (67, bo_ald 68 0),
  (68, bo_gR 71 15 1 17),
  (71, bo_ald 72 0),
  (72, bo_gI 75 15 3)]
def T_R_takeIn_1 : List (Nat × bh_Op) := [(75, bo_ild 76 2),
  (76, bo_Iast bh_ak bh_al 77),
  (77, bo_ald 78 0),
  (78, bo_st 79 bg_dup),
  (79, bo_gI 82 15 3),
  (82, bo_st 83 (bg_push (.inl (.int 1)))),
  (83, bo_st 84 (bg_ii (fun x y => x + y))),
  (84, bo_pI 87 15 3),
  (87, bo_inc 90 2 1),
  (90, bo_go 22),
  (93, bo_vret 0)]
def T_R_takeIn : List (Nat × bh_Op) := T_R_takeIn_0 ++ T_R_takeIn_1
set_option maxRecDepth 20000 in
theorem mT_R_takeIn_0 : ∀ q ∈ T_R_takeIn_0, bh_mono q.2 := List.forall_mem_cons.mpr ⟨bo_ald_m _ _, List.forall_mem_cons.mpr ⟨bo_gR_m _ _ _ _, List.forall_mem_cons.mpr ⟨bo_ald_m _ _, List.forall_mem_cons.mpr ⟨bo_gI_m _ _ _, List.forall_mem_cons.mpr ⟨bo_st_mono (bg_push_m _), List.forall_mem_cons.mpr ⟨bo_Zast_m _ _ _, List.forall_mem_cons.mpr ⟨bo_ald_m _ _, List.forall_mem_cons.mpr ⟨bo_st_mono bg_dup_m, List.forall_mem_cons.mpr ⟨bo_gI_m _ _ _, List.forall_mem_cons.mpr ⟨bo_st_mono (bg_push_m _), List.forall_mem_cons.mpr ⟨bo_st_mono (bg_ii_m _), List.forall_mem_cons.mpr ⟨bo_pI_m _ _ _, List.forall_mem_cons.mpr ⟨bo_st_mono (bg_push_m _), List.forall_mem_cons.mpr ⟨bo_ist_m _ _, List.forall_mem_cons.mpr ⟨bo_ild_m _ _, List.forall_mem_cons.mpr ⟨bo_ald_m _ _, List.forall_mem_cons.mpr ⟨bo_gR_m _ _ _ _, List.forall_mem_cons.mpr ⟨bo_gI_m _ _ _, List.forall_mem_cons.mpr ⟨bo_if2_m _ _ _, List.forall_mem_cons.mpr ⟨bo_ald_m _ _, List.forall_mem_cons.mpr ⟨bo_gR_m _ _ _ _, List.forall_mem_cons.mpr ⟨bo_gR_m _ _ _ _, List.forall_mem_cons.mpr ⟨bo_ild_m _ _, List.forall_mem_cons.mpr ⟨bo_Zald_m _ _ _, List.forall_mem_cons.mpr ⟨bo_if1_m _ _ _, List.forall_mem_cons.mpr ⟨bo_ald_m _ _, List.forall_mem_cons.mpr ⟨bo_gI_m _ _ _, List.forall_mem_cons.mpr ⟨bo_st_mono (bg_push_m _), List.forall_mem_cons.mpr ⟨bo_if2_m _ _ _, List.forall_mem_cons.mpr ⟨bo_ald_m _ _, List.forall_mem_cons.mpr ⟨bo_gR_m _ _ _ _, List.forall_mem_cons.mpr ⟨bo_ald_m _ _, List.forall_mem_cons.mpr ⟨bo_gI_m _ _ _, List.forall_mem_cons.mpr ⟨bo_ald_m _ _, List.forall_mem_cons.mpr ⟨bo_gI_m _ _ _, List.forall_mem_cons.mpr ⟨bo_Iast_m _ _ _, List.forall_mem_cons.mpr ⟨bo_ald_m _ _, List.forall_mem_cons.mpr ⟨bo_gR_m _ _ _ _, List.forall_mem_cons.mpr ⟨bo_ald_m _ _, List.forall_mem_cons.mpr ⟨bo_gI_m _ _ _, fun _ h => absurd h List.not_mem_nil⟩⟩⟩⟩⟩⟩⟩⟩⟩⟩⟩⟩⟩⟩⟩⟩⟩⟩⟩⟩⟩⟩⟩⟩⟩⟩⟩⟩⟩⟩⟩⟩⟩⟩⟩⟩⟩⟩⟩⟩
set_option maxRecDepth 20000 in
theorem mT_R_takeIn_1 : ∀ q ∈ T_R_takeIn_1, bh_mono q.2 := List.forall_mem_cons.mpr ⟨bo_ild_m _ _, List.forall_mem_cons.mpr ⟨bo_Iast_m _ _ _, List.forall_mem_cons.mpr ⟨bo_ald_m _ _, List.forall_mem_cons.mpr ⟨bo_st_mono bg_dup_m, List.forall_mem_cons.mpr ⟨bo_gI_m _ _ _, List.forall_mem_cons.mpr ⟨bo_st_mono (bg_push_m _), List.forall_mem_cons.mpr ⟨bo_st_mono (bg_ii_m _), List.forall_mem_cons.mpr ⟨bo_pI_m _ _ _, List.forall_mem_cons.mpr ⟨bo_inc_m _ _ _, List.forall_mem_cons.mpr ⟨bo_go_m _, List.forall_mem_cons.mpr ⟨bo_vret_m _, fun _ h => absurd h List.not_mem_nil⟩⟩⟩⟩⟩⟩⟩⟩⟩⟩⟩
theorem m_R_takeIn : ∀ pc, bh_mono (bh_tb (T_R_takeIn) pc) := bh_tb_m (List.forall_mem_append.mpr ⟨mT_R_takeIn_0, mT_R_takeIn_1⟩)
def F_R_takeIn : bh_Fn := bh_fn 3 (bh_tb T_R_takeIn)
theorem mF_R_takeIn : bh_monoF F_R_takeIn := bh_fn_m m_R_takeIn
theorem cl_R_takeIn {s : State} {args : Array Value} (d B : Nat) (hts : ∀ w ∈ bh_ws, w.before args s = true) : bh_Cal (bh_rm (d + 1) B) s y_R_takeIn 3 (.code y_R_takeIn c_R_takeIn 3 none :: bh_ws) (bh_rm d 0) 0 1 := bh_cal d B hts wd_311 wd_5 (by decide) (by decide +kernel)
set_option maxHeartbeats 4000000 in
set_option maxRecDepth 100000 in
theorem cn_R_takeIn {l : Launch} {G : bh_G} {base sb L : Nat} {xs : Nat → Int32} (htr : l.stackTraces = false) (d : Nat) : bh_Con l G base (bh_Bg G base sb L xs) y_R_takeIn (.code y_R_takeIn c_R_takeIn 3 none :: bh_ws) (bh_rm (d + 1) 0) 0 false F_R_takeIn := by
  refine bh_method (cc := c_R_takeIn) (ret := none) (by decide +kernel) rfl ?_
  intro p e s m args below meth c ad0 M0 Z X0 hr hlocks hname htab hbs hB
  obtain ⟨hx, hb, hml, hown, hts⟩ := id X0
  have hw : ∀ w ∈ bh_ws, w.before args s = true := fun w h => hts w (List.mem_cons_of_mem _ h)
  have hBg := bh_BgK (G := G) (base := base) (sb := sb) (L := L) (xs := xs)
  obtain ⟨hK, hAr, hen, hinj, hu1, hu2, hstr, hX, hsb, hsc, hxw, hao, hnc⟩ := id hB
  obtain ⟨ha1, ha2, ha3, ha4, ha5, ha6, ha0⟩ := bh_arr hAr
  refine List.forall_mem_append.mpr ⟨?_, List.forall_mem_cons.mpr ⟨fun S h => bs_iload_n (Z := Z) hx hb rfl d_R_takeIn_75 h, List.forall_mem_cons.mpr ⟨fun S h => bs_Iast (Z := Z) hx hb ha1 d_R_takeIn_76 h, List.forall_mem_cons.mpr ⟨fun S h => bs_aload_n (Z := Z) hx hb rfl d_R_takeIn_77 h, List.forall_mem_cons.mpr ⟨fun S h => bs_dup (Z := Z) hx hb d_R_takeIn_78 h, List.forall_mem_cons.mpr ⟨fun S h => bs_gI (Z := Z) (C := R_R) (T := F_R) (N := 6) (t := 15) (j := 3) hx hb hK hts (fun w h => List.mem_cons_of_mem _ (iw_R w h)) hown rfl rfl (by decide) (hts _ (List.mem_cons_of_mem _ wd_140)) (fun _ h => h) rfl rfl rfl d_R_takeIn_79 h, List.forall_mem_cons.mpr ⟨fun S h => bs_iconst (Z := Z) hx hb (by decide) d_R_takeIn_82 h, List.forall_mem_cons.mpr ⟨fun S h => bs_iadd (Z := Z) hx hb d_R_takeIn_83 h, List.forall_mem_cons.mpr ⟨fun S h => bs_pI (Z := Z) (C := R_R) (T := F_R) (N := 6) (t := 15) (j := 3) hx hb hK hts (fun w h => List.mem_cons_of_mem _ (iw_R w h)) hown rfl rfl (by decide) (hts _ (List.mem_cons_of_mem _ wd_140)) (fun _ h => h) rfl rfl t_R t_R_ok n_R rfl (by decide +kernel) rfl d_R_takeIn_84 h, List.forall_mem_cons.mpr ⟨fun S h => bs_iinc (Z := Z) hx hb (by decide) d_R_takeIn_87 h, List.forall_mem_cons.mpr ⟨fun S h => bs_goto (Z := Z) hx hb d_R_takeIn_90 (by decide) h, List.forall_mem_cons.mpr ⟨fun S h => bs_vret (Z := Z) hx hb hr hlocks d_R_takeIn_93 h, fun _ h => absurd h List.not_mem_nil⟩⟩⟩⟩⟩⟩⟩⟩⟩⟩⟩⟩
  exact List.forall_mem_cons.mpr ⟨fun S h => bs_aload_n (Z := Z) hx hb rfl d_R_takeIn_0 h, List.forall_mem_cons.mpr ⟨fun S h => bs_gR (Z := Z) (C := R_R) (T := F_R) (N := 6) (t := 15) (j := 2) hx hb hK hts (fun w h => List.mem_cons_of_mem _ (iw_R w h)) hown rfl rfl (by decide) (hts _ (List.mem_cons_of_mem _ wd_139)) (fun _ h => h) rfl rfl rfl d_R_takeIn_1 h, List.forall_mem_cons.mpr ⟨fun S h => bs_aload_n (Z := Z) hx hb rfl d_R_takeIn_4 h, List.forall_mem_cons.mpr ⟨fun S h => bs_gI (Z := Z) (C := R_B) (T := F_B) (N := 10) (t := 5) (j := 0) hx hb hK hts (fun w h => List.mem_cons_of_mem _ (iw_B w h)) hown rfl rfl (by decide) (hts _ (List.mem_cons_of_mem _ wd_86)) (fun _ h => h) rfl rfl rfl d_R_takeIn_5 h, List.forall_mem_cons.mpr ⟨fun S h => bs_iconst (Z := Z) hx hb (by decide) d_R_takeIn_8 h, List.forall_mem_cons.mpr ⟨fun S h => bs_Zast (Z := Z) hx hb ha2 d_R_takeIn_9 h, List.forall_mem_cons.mpr ⟨fun S h => bs_aload_n (Z := Z) hx hb rfl d_R_takeIn_10 h, List.forall_mem_cons.mpr ⟨fun S h => bs_dup (Z := Z) hx hb d_R_takeIn_11 h, List.forall_mem_cons.mpr ⟨fun S h => bs_gI (Z := Z) (C := R_R) (T := F_R) (N := 6) (t := 15) (j := 5) hx hb hK hts (fun w h => List.mem_cons_of_mem _ (iw_R w h)) hown rfl rfl (by decide) (hts _ (List.mem_cons_of_mem _ wd_143)) (fun _ h => h) rfl rfl rfl d_R_takeIn_12 h, List.forall_mem_cons.mpr ⟨fun S h => bs_iconst (Z := Z) hx hb (by decide) d_R_takeIn_15 h, List.forall_mem_cons.mpr ⟨fun S h => bs_iadd (Z := Z) hx hb d_R_takeIn_16 h, List.forall_mem_cons.mpr ⟨fun S h => bs_pI (Z := Z) (C := R_R) (T := F_R) (N := 6) (t := 15) (j := 5) hx hb hK hts (fun w h => List.mem_cons_of_mem _ (iw_R w h)) hown rfl rfl (by decide) (hts _ (List.mem_cons_of_mem _ wd_143)) (fun _ h => h) rfl rfl t_R t_R_ok n_R rfl (by decide +kernel) rfl d_R_takeIn_17 h, List.forall_mem_cons.mpr ⟨fun S h => bs_iconst (Z := Z) hx hb (by decide) d_R_takeIn_20 h, List.forall_mem_cons.mpr ⟨fun S h => bs_istore_n (Z := Z) hx hb rfl d_R_takeIn_21 h, List.forall_mem_cons.mpr ⟨fun S h => bs_iload_n (Z := Z) hx hb rfl d_R_takeIn_22 h, List.forall_mem_cons.mpr ⟨fun S h => bs_aload_n (Z := Z) hx hb rfl d_R_takeIn_23 h, List.forall_mem_cons.mpr ⟨fun S h => bs_gR (Z := Z) (C := R_B) (T := F_B) (N := 10) (t := 5) (j := 1) hx hb hK hts (fun w h => List.mem_cons_of_mem _ (iw_B w h)) hown rfl rfl (by decide) (hts _ (List.mem_cons_of_mem _ wd_89)) (fun _ h => h) rfl rfl rfl d_R_takeIn_24 h, List.forall_mem_cons.mpr ⟨fun S h => bs_gI (Z := Z) (C := R_F) (T := F_F) (N := 9) (t := 7) (j := 8) hx hb hK hts (fun w h => List.mem_cons_of_mem _ (iw_F w h)) hown rfl rfl (by decide) (hts _ (List.mem_cons_of_mem _ wd_61)) (fun _ h => h) rfl rfl rfl d_R_takeIn_27 h, List.forall_mem_cons.mpr ⟨fun S h => bs_icmp_ge (Z := Z) hx hb d_R_takeIn_30 (by decide) h, List.forall_mem_cons.mpr ⟨fun S h => bs_aload_n (Z := Z) hx hb rfl d_R_takeIn_33 h, List.forall_mem_cons.mpr ⟨fun S h => bs_gR (Z := Z) (C := R_B) (T := F_B) (N := 10) (t := 5) (j := 1) hx hb hK hts (fun w h => List.mem_cons_of_mem _ (iw_B w h)) hown rfl rfl (by decide) (hts _ (List.mem_cons_of_mem _ wd_89)) (fun _ h => h) rfl rfl rfl d_R_takeIn_34 h, List.forall_mem_cons.mpr ⟨fun S h => bs_gR (Z := Z) (C := R_F) (T := F_F) (N := 9) (t := 7) (j := 6) hx hb hK hts (fun w h => List.mem_cons_of_mem _ (iw_F w h)) hown rfl rfl (by decide) (hts _ (List.mem_cons_of_mem _ wd_57)) (fun _ h => h) rfl rfl rfl d_R_takeIn_37 h, List.forall_mem_cons.mpr ⟨fun S h => bs_iload_n (Z := Z) hx hb rfl d_R_takeIn_40 h, List.forall_mem_cons.mpr ⟨fun S h => bs_Zald (Z := Z) hx hb ha2 d_R_takeIn_41 h, List.forall_mem_cons.mpr ⟨fun S h => bs_if_ne (Z := Z) hx hb d_R_takeIn_42 (by decide) h, List.forall_mem_cons.mpr ⟨fun S h => bs_aload_n (Z := Z) hx hb rfl d_R_takeIn_45 h, List.forall_mem_cons.mpr ⟨fun S h => bs_gI (Z := Z) (C := R_R) (T := F_R) (N := 6) (t := 15) (j := 3) hx hb hK hts (fun w h => List.mem_cons_of_mem _ (iw_R w h)) hown rfl rfl (by decide) (hts _ (List.mem_cons_of_mem _ wd_140)) (fun _ h => h) rfl rfl rfl d_R_takeIn_46 h, List.forall_mem_cons.mpr ⟨fun S h => bs_bipush (Z := Z) hx hb (by decide) d_R_takeIn_49 h, List.forall_mem_cons.mpr ⟨fun S h => bs_icmp_ge (Z := Z) hx hb d_R_takeIn_51 (by decide) h, List.forall_mem_cons.mpr ⟨fun S h => bs_aload_n (Z := Z) hx hb rfl d_R_takeIn_54 h, List.forall_mem_cons.mpr ⟨fun S h => bs_gR (Z := Z) (C := R_R) (T := F_R) (N := 6) (t := 15) (j := 0) hx hb hK hts (fun w h => List.mem_cons_of_mem _ (iw_R w h)) hown rfl rfl (by decide) (hts _ (List.mem_cons_of_mem _ wd_137)) (fun _ h => h) rfl rfl rfl d_R_takeIn_55 h, List.forall_mem_cons.mpr ⟨fun S h => bs_aload_n (Z := Z) hx hb rfl d_R_takeIn_58 h, List.forall_mem_cons.mpr ⟨fun S h => bs_gI (Z := Z) (C := R_R) (T := F_R) (N := 6) (t := 15) (j := 3) hx hb hK hts (fun w h => List.mem_cons_of_mem _ (iw_R w h)) hown rfl rfl (by decide) (hts _ (List.mem_cons_of_mem _ wd_140)) (fun _ h => h) rfl rfl rfl d_R_takeIn_59 h, List.forall_mem_cons.mpr ⟨fun S h => bs_aload_n (Z := Z) hx hb rfl d_R_takeIn_62 h, List.forall_mem_cons.mpr ⟨fun S h => bs_gI (Z := Z) (C := R_B) (T := F_B) (N := 10) (t := 5) (j := 0) hx hb hK hts (fun w h => List.mem_cons_of_mem _ (iw_B w h)) hown rfl rfl (by decide) (hts _ (List.mem_cons_of_mem _ wd_86)) (fun _ h => h) rfl rfl rfl d_R_takeIn_63 h, List.forall_mem_cons.mpr ⟨fun S h => bs_Iast (Z := Z) hx hb ha1 d_R_takeIn_66 h, List.forall_mem_cons.mpr ⟨fun S h => bs_aload_n (Z := Z) hx hb rfl d_R_takeIn_67 h, List.forall_mem_cons.mpr ⟨fun S h => bs_gR (Z := Z) (C := R_R) (T := F_R) (N := 6) (t := 15) (j := 1) hx hb hK hts (fun w h => List.mem_cons_of_mem _ (iw_R w h)) hown rfl rfl (by decide) (hts _ (List.mem_cons_of_mem _ wd_138)) (fun _ h => h) rfl rfl rfl d_R_takeIn_68 h, List.forall_mem_cons.mpr ⟨fun S h => bs_aload_n (Z := Z) hx hb rfl d_R_takeIn_71 h, List.forall_mem_cons.mpr ⟨fun S h => bs_gI (Z := Z) (C := R_R) (T := F_R) (N := 6) (t := 15) (j := 3) hx hb hK hts (fun w h => List.mem_cons_of_mem _ (iw_R w h)) hown rfl rfl (by decide) (hts _ (List.mem_cons_of_mem _ wd_140)) (fun _ h => h) rfl rfl rfl d_R_takeIn_72 h, fun _ h => absurd h List.not_mem_nil⟩⟩⟩⟩⟩⟩⟩⟩⟩⟩⟩⟩⟩⟩⟩⟩⟩⟩⟩⟩⟩⟩⟩⟩⟩⟩⟩⟩⟩⟩⟩⟩⟩⟩⟩⟩⟩⟩⟩⟩
abbrev c_F_versionFor : ByteArray := prog_4_method_7_code
def y_F_versionFor : MethodName := ⟨"BundleHall$Manifest", "versionFor", "(LBundleHall$Manifest;I)I"⟩
theorem d_F_versionFor_0 : decode c_F_versionFor 0 = .ok (.aload_n 0, 1) := by decide +kernel
theorem d_F_versionFor_1 : decode c_F_versionFor 1 = .ok (.getfield 9, 3) := by decide +kernel
theorem d_F_versionFor_4 : decode c_F_versionFor 4 = .ok (.aload_n 1, 1) := by decide +kernel
theorem d_F_versionFor_5 : decode c_F_versionFor 5 = .ok (.getfield 21, 3) := by decide +kernel
theorem d_F_versionFor_8 : decode c_F_versionFor 8 = .ok (.iload_n 2, 1) := by decide +kernel
theorem d_F_versionFor_9 : decode c_F_versionFor 9 = .ok (.iaload, 1) := by decide +kernel
theorem d_F_versionFor_10 : decode c_F_versionFor 10 = .ok (.iaload, 1) := by decide +kernel
theorem d_F_versionFor_11 : decode c_F_versionFor 11 = .ok (.istore_n 3, 1) := by decide +kernel
theorem d_F_versionFor_12 : decode c_F_versionFor 12 = .ok (.iload_n 3, 1) := by decide +kernel
theorem d_F_versionFor_13 : decode c_F_versionFor 13 = .ok (.aload_n 1, 1) := by decide +kernel
theorem d_F_versionFor_14 : decode c_F_versionFor 14 = .ok (.getfield 24, 3) := by decide +kernel
theorem d_F_versionFor_17 : decode c_F_versionFor 17 = .ok (.iload_n 2, 1) := by decide +kernel
theorem d_F_versionFor_18 : decode c_F_versionFor 18 = .ok (.iaload, 1) := by decide +kernel
theorem d_F_versionFor_19 : decode c_F_versionFor 19 = .ok (.if_icmp .lt 17, 3) := by decide +kernel
theorem d_F_versionFor_22 : decode c_F_versionFor 22 = .ok (.iload_n 3, 1) := by decide +kernel
theorem d_F_versionFor_23 : decode c_F_versionFor 23 = .ok (.aload_n 1, 1) := by decide +kernel
theorem d_F_versionFor_24 : decode c_F_versionFor 24 = .ok (.getfield 27, 3) := by decide +kernel
theorem d_F_versionFor_27 : decode c_F_versionFor 27 = .ok (.iload_n 2, 1) := by decide +kernel
theorem d_F_versionFor_28 : decode c_F_versionFor 28 = .ok (.iaload, 1) := by decide +kernel
theorem d_F_versionFor_29 : decode c_F_versionFor 29 = .ok (.if_icmp .gt 7, 3) := by decide +kernel
theorem d_F_versionFor_32 : decode c_F_versionFor 32 = .ok (.iload_n 3, 1) := by decide +kernel
theorem d_F_versionFor_33 : decode c_F_versionFor 33 = .ok (.goto 4, 3) := by decide +kernel
theorem d_F_versionFor_36 : decode c_F_versionFor 36 = .ok (.iconst (-1), 1) := by decide +kernel
theorem d_F_versionFor_37 : decode c_F_versionFor 37 = .ok (.ireturn, 1) := by decide +kernel
def T_F_versionFor_0 : List (Nat × bh_Op) := [(0, bo_ald 1 0),
  (1, bo_gR 4 7 0 8),
  (4, bo_ald 5 1),
  (5, bo_gR 8 7 3 11),
  (8, bo_ild 9 2),
  (9, bo_Iald bh_ak bh_al 10),
  (10, bo_Iald bh_ak bh_al 11),
  (11, bo_ist 12 3),
  (12, bo_ild 13 3),
  (13, bo_ald 14 1),
  (14, bo_gR 17 7 4 12),
  (17, bo_ild 18 2),
  (18, bo_Iald bh_ak bh_al 19),
  (19, bo_if2 22 36 (fun x y => x < y)),
  (22, bo_ild 23 3),
  (23, bo_ald 24 1),
  (24, bo_gR 27 7 5 13),
  (27, bo_ild 28 2),
  (28, bo_Iald bh_ak bh_al 29),
  (29, bo_if2 32 36 (fun x y => y < x)),
  (32, bo_ild 33 3),
  (33, bo_go 37),
  (36, bo_st 37 (bg_push (.inl (.int (-1))))),
  (37, bo_iret 0)]
def T_F_versionFor : List (Nat × bh_Op) := T_F_versionFor_0
set_option maxRecDepth 20000 in
theorem mT_F_versionFor_0 : ∀ q ∈ T_F_versionFor_0, bh_mono q.2 := List.forall_mem_cons.mpr ⟨bo_ald_m _ _, List.forall_mem_cons.mpr ⟨bo_gR_m _ _ _ _, List.forall_mem_cons.mpr ⟨bo_ald_m _ _, List.forall_mem_cons.mpr ⟨bo_gR_m _ _ _ _, List.forall_mem_cons.mpr ⟨bo_ild_m _ _, List.forall_mem_cons.mpr ⟨bo_Iald_m _ _ _, List.forall_mem_cons.mpr ⟨bo_Iald_m _ _ _, List.forall_mem_cons.mpr ⟨bo_ist_m _ _, List.forall_mem_cons.mpr ⟨bo_ild_m _ _, List.forall_mem_cons.mpr ⟨bo_ald_m _ _, List.forall_mem_cons.mpr ⟨bo_gR_m _ _ _ _, List.forall_mem_cons.mpr ⟨bo_ild_m _ _, List.forall_mem_cons.mpr ⟨bo_Iald_m _ _ _, List.forall_mem_cons.mpr ⟨bo_if2_m _ _ _, List.forall_mem_cons.mpr ⟨bo_ild_m _ _, List.forall_mem_cons.mpr ⟨bo_ald_m _ _, List.forall_mem_cons.mpr ⟨bo_gR_m _ _ _ _, List.forall_mem_cons.mpr ⟨bo_ild_m _ _, List.forall_mem_cons.mpr ⟨bo_Iald_m _ _ _, List.forall_mem_cons.mpr ⟨bo_if2_m _ _ _, List.forall_mem_cons.mpr ⟨bo_ild_m _ _, List.forall_mem_cons.mpr ⟨bo_go_m _, List.forall_mem_cons.mpr ⟨bo_st_mono (bg_push_m _), List.forall_mem_cons.mpr ⟨bo_iret_m _, fun _ h => absurd h List.not_mem_nil⟩⟩⟩⟩⟩⟩⟩⟩⟩⟩⟩⟩⟩⟩⟩⟩⟩⟩⟩⟩⟩⟩⟩⟩
theorem m_F_versionFor : ∀ pc, bh_mono (bh_tb (T_F_versionFor) pc) := bh_tb_m mT_F_versionFor_0
def F_F_versionFor : bh_Fn := bh_fn 4 (bh_tb T_F_versionFor)
theorem mF_F_versionFor : bh_monoF F_F_versionFor := bh_fn_m m_F_versionFor
theorem cl_F_versionFor {s : State} {args : Array Value} (d B : Nat) (hts : ∀ w ∈ bh_ws, w.before args s = true) : bh_Cal (bh_rm (d + 1) B) s y_F_versionFor 4 (.code y_F_versionFor c_F_versionFor 4 (some .int) :: bh_ws) (bh_rm d 0) 0 2 := bh_cal d B hts wd_326 wd_3 (by decide) (by decide +kernel)
set_option maxHeartbeats 4000000 in
set_option maxRecDepth 100000 in
theorem cn_F_versionFor {l : Launch} {G : bh_G} {base sb L : Nat} {xs : Nat → Int32} (htr : l.stackTraces = false) (d : Nat) : bh_Con l G base (bh_Bg G base sb L xs) y_F_versionFor (.code y_F_versionFor c_F_versionFor 4 (some .int) :: bh_ws) (bh_rm (d + 1) 0) 0 false F_F_versionFor := by
  refine bh_method (cc := c_F_versionFor) (ret := (some .int)) (by decide +kernel) rfl ?_
  intro p e s m args below meth c ad0 M0 Z X0 hr hlocks hname htab hbs hB
  obtain ⟨hx, hb, hml, hown, hts⟩ := id X0
  have hw : ∀ w ∈ bh_ws, w.before args s = true := fun w h => hts w (List.mem_cons_of_mem _ h)
  have hBg := bh_BgK (G := G) (base := base) (sb := sb) (L := L) (xs := xs)
  obtain ⟨hK, hAr, hen, hinj, hu1, hu2, hstr, hX, hsb, hsc, hxw, hao, hnc⟩ := id hB
  obtain ⟨ha1, ha2, ha3, ha4, ha5, ha6, ha0⟩ := bh_arr hAr
  exact List.forall_mem_cons.mpr ⟨fun S h => bs_aload_n (Z := Z) hx hb rfl d_F_versionFor_0 h, List.forall_mem_cons.mpr ⟨fun S h => bs_gR (Z := Z) (C := R_F) (T := F_F) (N := 9) (t := 7) (j := 0) hx hb hK hts (fun w h => List.mem_cons_of_mem _ (iw_F w h)) hown rfl rfl (by decide) (hts _ (List.mem_cons_of_mem _ wd_46)) (fun _ h => h) rfl rfl rfl d_F_versionFor_1 h, List.forall_mem_cons.mpr ⟨fun S h => bs_aload_n (Z := Z) hx hb rfl d_F_versionFor_4 h, List.forall_mem_cons.mpr ⟨fun S h => bs_gR (Z := Z) (C := R_F) (T := F_F) (N := 9) (t := 7) (j := 3) hx hb hK hts (fun w h => List.mem_cons_of_mem _ (iw_F w h)) hown rfl rfl (by decide) (hts _ (List.mem_cons_of_mem _ wd_52)) (fun _ h => h) rfl rfl rfl d_F_versionFor_5 h, List.forall_mem_cons.mpr ⟨fun S h => bs_iload_n (Z := Z) hx hb rfl d_F_versionFor_8 h, List.forall_mem_cons.mpr ⟨fun S h => bs_Iald (Z := Z) hx hb ha1 d_F_versionFor_9 h, List.forall_mem_cons.mpr ⟨fun S h => bs_Iald (Z := Z) hx hb ha1 d_F_versionFor_10 h, List.forall_mem_cons.mpr ⟨fun S h => bs_istore_n (Z := Z) hx hb rfl d_F_versionFor_11 h, List.forall_mem_cons.mpr ⟨fun S h => bs_iload_n (Z := Z) hx hb rfl d_F_versionFor_12 h, List.forall_mem_cons.mpr ⟨fun S h => bs_aload_n (Z := Z) hx hb rfl d_F_versionFor_13 h, List.forall_mem_cons.mpr ⟨fun S h => bs_gR (Z := Z) (C := R_F) (T := F_F) (N := 9) (t := 7) (j := 4) hx hb hK hts (fun w h => List.mem_cons_of_mem _ (iw_F w h)) hown rfl rfl (by decide) (hts _ (List.mem_cons_of_mem _ wd_54)) (fun _ h => h) rfl rfl rfl d_F_versionFor_14 h, List.forall_mem_cons.mpr ⟨fun S h => bs_iload_n (Z := Z) hx hb rfl d_F_versionFor_17 h, List.forall_mem_cons.mpr ⟨fun S h => bs_Iald (Z := Z) hx hb ha1 d_F_versionFor_18 h, List.forall_mem_cons.mpr ⟨fun S h => bs_icmp_lt (Z := Z) hx hb d_F_versionFor_19 (by decide) h, List.forall_mem_cons.mpr ⟨fun S h => bs_iload_n (Z := Z) hx hb rfl d_F_versionFor_22 h, List.forall_mem_cons.mpr ⟨fun S h => bs_aload_n (Z := Z) hx hb rfl d_F_versionFor_23 h, List.forall_mem_cons.mpr ⟨fun S h => bs_gR (Z := Z) (C := R_F) (T := F_F) (N := 9) (t := 7) (j := 5) hx hb hK hts (fun w h => List.mem_cons_of_mem _ (iw_F w h)) hown rfl rfl (by decide) (hts _ (List.mem_cons_of_mem _ wd_55)) (fun _ h => h) rfl rfl rfl d_F_versionFor_24 h, List.forall_mem_cons.mpr ⟨fun S h => bs_iload_n (Z := Z) hx hb rfl d_F_versionFor_27 h, List.forall_mem_cons.mpr ⟨fun S h => bs_Iald (Z := Z) hx hb ha1 d_F_versionFor_28 h, List.forall_mem_cons.mpr ⟨fun S h => bs_icmp_gt (Z := Z) hx hb d_F_versionFor_29 (by decide) h, List.forall_mem_cons.mpr ⟨fun S h => bs_iload_n (Z := Z) hx hb rfl d_F_versionFor_32 h, List.forall_mem_cons.mpr ⟨fun S h => bs_goto (Z := Z) hx hb d_F_versionFor_33 (by decide) h, List.forall_mem_cons.mpr ⟨fun S h => bs_iconst (Z := Z) hx hb (by decide) d_F_versionFor_36 h, List.forall_mem_cons.mpr ⟨fun S h => bs_iret (Z := Z) hx hb hr hlocks d_F_versionFor_37 h, fun _ h => absurd h List.not_mem_nil⟩⟩⟩⟩⟩⟩⟩⟩⟩⟩⟩⟩⟩⟩⟩⟩⟩⟩⟩⟩⟩⟩⟩⟩
