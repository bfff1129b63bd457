abbrev c_M_init : ByteArray := prog_10_method_1_code
def y_M_init : MethodName := ⟨"BundleHallModel", "<init>", "()V"⟩
theorem d_M_init_0 : decode c_M_init 0 = .ok (.aload_n 0, 1) := by decide +kernel
theorem d_M_init_1 : decode c_M_init 1 = .ok (.invokespecial 1, 3) := by decide +kernel
theorem d_M_init_4 : decode c_M_init 4 = .ok (.aload_n 0, 1) := by decide +kernel
theorem d_M_init_5 : decode c_M_init 5 = .ok (.bipush 8, 2) := by decide +kernel
theorem d_M_init_7 : decode c_M_init 7 = .ok (.newarray .int, 2) := by decide +kernel
theorem d_M_init_9 : decode c_M_init 9 = .ok (.putfield 7, 3) := by decide +kernel
theorem d_M_init_12 : decode c_M_init 12 = .ok (.aload_n 0, 1) := by decide +kernel
theorem d_M_init_13 : decode c_M_init 13 = .ok (.bipush 8, 2) := by decide +kernel
theorem d_M_init_15 : decode c_M_init 15 = .ok (.newarray .int, 2) := by decide +kernel
theorem d_M_init_17 : decode c_M_init 17 = .ok (.putfield 13, 3) := by decide +kernel
theorem d_M_init_20 : decode c_M_init 20 = .ok (.aload_n 0, 1) := by decide +kernel
theorem d_M_init_21 : decode c_M_init 21 = .ok (.bipush 8, 2) := by decide +kernel
theorem d_M_init_23 : decode c_M_init 23 = .ok (.newarray .int, 2) := by decide +kernel
theorem d_M_init_25 : decode c_M_init 25 = .ok (.putfield 16, 3) := by decide +kernel
theorem d_M_init_28 : decode c_M_init 28 = .ok (.aload_n 0, 1) := by decide +kernel
theorem d_M_init_29 : decode c_M_init 29 = .ok (.bipush 8, 2) := by decide +kernel
theorem d_M_init_31 : decode c_M_init 31 = .ok (.newarray .int, 2) := by decide +kernel
theorem d_M_init_33 : decode c_M_init 33 = .ok (.putfield 19, 3) := by decide +kernel
theorem d_M_init_36 : decode c_M_init 36 = .ok (.aload_n 0, 1) := by decide +kernel
theorem d_M_init_37 : decode c_M_init 37 = .ok (.bipush 8, 2) := by decide +kernel
theorem d_M_init_39 : decode c_M_init 39 = .ok (.newarray .boolean, 2) := by decide +kernel
theorem d_M_init_41 : decode c_M_init 41 = .ok (.putfield 22, 3) := by decide +kernel
theorem d_M_init_44 : decode c_M_init 44 = .ok (.aload_n 0, 1) := by decide +kernel
theorem d_M_init_45 : decode c_M_init 45 = .ok (.bipush 8, 2) := by decide +kernel
theorem d_M_init_47 : decode c_M_init 47 = .ok (.newarray .boolean, 2) := by decide +kernel
theorem d_M_init_49 : decode c_M_init 49 = .ok (.putfield 26, 3) := by decide +kernel
theorem d_M_init_52 : decode c_M_init 52 = .ok (.aload_n 0, 1) := by decide +kernel
theorem d_M_init_53 : decode c_M_init 53 = .ok (.bipush 8, 2) := by decide +kernel
theorem d_M_init_55 : decode c_M_init 55 = .ok (.newarray .long, 2) := by decide +kernel
theorem d_M_init_57 : decode c_M_init 57 = .ok (.putfield 29, 3) := by decide +kernel
theorem d_M_init_60 : decode c_M_init 60 = .ok (.aload_n 0, 1) := by decide +kernel
theorem d_M_init_61 : decode c_M_init 61 = .ok (.bipush 8, 2) := by decide +kernel
theorem d_M_init_63 : decode c_M_init 63 = .ok (.newarray .int, 2) := by decide +kernel
theorem d_M_init_65 : decode c_M_init 65 = .ok (.putfield 33, 3) := by decide +kernel
theorem d_M_init_68 : decode c_M_init 68 = .ok (.aload_n 0, 1) := by decide +kernel
theorem d_M_init_69 : decode c_M_init 69 = .ok (.bipush 24, 2) := by decide +kernel
theorem d_M_init_71 : decode c_M_init 71 = .ok (.newarray .int, 2) := by decide +kernel
theorem d_M_init_73 : decode c_M_init 73 = .ok (.putfield 36, 3) := by decide +kernel
theorem d_M_init_76 : decode c_M_init 76 = .ok (.aload_n 0, 1) := by decide +kernel
theorem d_M_init_77 : decode c_M_init 77 = .ok (.bipush 24, 2) := by decide +kernel
theorem d_M_init_79 : decode c_M_init 79 = .ok (.newarray .int, 2) := by decide +kernel
theorem d_M_init_81 : decode c_M_init 81 = .ok (.putfield 39, 3) := by decide +kernel
theorem d_M_init_84 : decode c_M_init 84 = .ok (.aload_n 0, 1) := by decide +kernel
theorem d_M_init_85 : decode c_M_init 85 = .ok (.bipush 24, 2) := by decide +kernel
theorem d_M_init_87 : decode c_M_init 87 = .ok (.newarray .int, 2) := by decide +kernel
theorem d_M_init_89 : decode c_M_init 89 = .ok (.putfield 42, 3) := by decide +kernel
theorem d_M_init_92 : decode c_M_init 92 = .ok (.aload_n 0, 1) := by decide +kernel
theorem d_M_init_93 : decode c_M_init 93 = .ok (.bipush 8, 2) := by decide +kernel
theorem d_M_init_95 : decode c_M_init 95 = .ok (.newarray .int, 2) := by decide +kernel
theorem d_M_init_97 : decode c_M_init 97 = .ok (.putfield 45, 3) := by decide +kernel
theorem d_M_init_100 : decode c_M_init 100 = .ok (.aload_n 0, 1) := by decide +kernel
theorem d_M_init_101 : decode c_M_init 101 = .ok (.bipush 24, 2) := by decide +kernel
theorem d_M_init_103 : decode c_M_init 103 = .ok (.newarray .int, 2) := by decide +kernel
theorem d_M_init_105 : decode c_M_init 105 = .ok (.putfield 48, 3) := by decide +kernel
theorem d_M_init_108 : decode c_M_init 108 = .ok (.aload_n 0, 1) := by decide +kernel
theorem d_M_init_109 : decode c_M_init 109 = .ok (.bipush 24, 2) := by decide +kernel
theorem d_M_init_111 : decode c_M_init 111 = .ok (.newarray .int, 2) := by decide +kernel
theorem d_M_init_113 : decode c_M_init 113 = .ok (.putfield 51, 3) := by decide +kernel
theorem d_M_init_116 : decode c_M_init 116 = .ok (.aload_n 0, 1) := by decide +kernel
theorem d_M_init_117 : decode c_M_init 117 = .ok (.bipush 24, 2) := by decide +kernel
theorem d_M_init_119 : decode c_M_init 119 = .ok (.newarray .int, 2) := by decide +kernel
theorem d_M_init_121 : decode c_M_init 121 = .ok (.putfield 54, 3) := by decide +kernel
theorem d_M_init_124 : decode c_M_init 124 = .ok (.aload_n 0, 1) := by decide +kernel
theorem d_M_init_125 : decode c_M_init 125 = .ok (.bipush 24, 2) := by decide +kernel
theorem d_M_init_127 : decode c_M_init 127 = .ok (.newarray .boolean, 2) := by decide +kernel
theorem d_M_init_129 : decode c_M_init 129 = .ok (.putfield 57, 3) := by decide +kernel
theorem d_M_init_132 : decode c_M_init 132 = .ok (.aload_n 0, 1) := by decide +kernel
theorem d_M_init_133 : decode c_M_init 133 = .ok (.bipush 24, 2) := by decide +kernel
theorem d_M_init_135 : decode c_M_init 135 = .ok (.newarray .long, 2) := by decide +kernel
theorem d_M_init_137 : decode c_M_init 137 = .ok (.putfield 60, 3) := by decide +kernel
theorem d_M_init_140 : decode c_M_init 140 = .ok (.aload_n 0, 1) := by decide +kernel
theorem d_M_init_141 : decode c_M_init 141 = .ok (.bipush 30, 2) := by decide +kernel
theorem d_M_init_143 : decode c_M_init 143 = .ok (.newarray .int, 2) := by decide +kernel
theorem d_M_init_145 : decode c_M_init 145 = .ok (.putfield 63, 3) := by decide +kernel
theorem d_M_init_148 : decode c_M_init 148 = .ok (.aload_n 0, 1) := by decide +kernel
theorem d_M_init_149 : decode c_M_init 149 = .ok (.sipush 240, 3) := by decide +kernel
theorem d_M_init_152 : decode c_M_init 152 = .ok (.newarray .int, 2) := by decide +kernel
theorem d_M_init_154 : decode c_M_init 154 = .ok (.putfield 66, 3) := by decide +kernel
theorem d_M_init_157 : decode c_M_init 157 = .ok (.aload_n 0, 1) := by decide +kernel
theorem d_M_init_158 : decode c_M_init 158 = .ok (.bipush 30, 2) := by decide +kernel
theorem d_M_init_160 : decode c_M_init 160 = .ok (.newarray .int, 2) := by decide +kernel
theorem d_M_init_162 : decode c_M_init 162 = .ok (.putfield 69, 3) := by decide +kernel
theorem d_M_init_165 : decode c_M_init 165 = .ok (.aload_n 0, 1) := by decide +kernel
theorem d_M_init_166 : decode c_M_init 166 = .ok (.bipush 30, 2) := by decide +kernel
theorem d_M_init_168 : decode c_M_init 168 = .ok (.newarray .int, 2) := by decide +kernel
theorem d_M_init_170 : decode c_M_init 170 = .ok (.putfield 72, 3) := by decide +kernel
theorem d_M_init_173 : decode c_M_init 173 = .ok (.aload_n 0, 1) := by decide +kernel
theorem d_M_init_174 : decode c_M_init 174 = .ok (.bipush 30, 2) := by decide +kernel
theorem d_M_init_176 : decode c_M_init 176 = .ok (.newarray .int, 2) := by decide +kernel
theorem d_M_init_178 : decode c_M_init 178 = .ok (.putfield 75, 3) := by decide +kernel
theorem d_M_init_181 : decode c_M_init 181 = .ok (.aload_n 0, 1) := by decide +kernel
theorem d_M_init_182 : decode c_M_init 182 = .ok (.bipush 8, 2) := by decide +kernel
theorem d_M_init_184 : decode c_M_init 184 = .ok (.newarray .boolean, 2) := by decide +kernel
theorem d_M_init_186 : decode c_M_init 186 = .ok (.putfield 78, 3) := by decide +kernel
theorem d_M_init_189 : decode c_M_init 189 = .ok (.aload_n 0, 1) := by decide +kernel
theorem d_M_init_190 : decode c_M_init 190 = .ok (.bipush 8, 2) := by decide +kernel
theorem d_M_init_192 : decode c_M_init 192 = .ok (.newarray .int, 2) := by decide +kernel
theorem d_M_init_194 : decode c_M_init 194 = .ok (.putfield 81, 3) := by decide +kernel
theorem d_M_init_197 : decode c_M_init 197 = .ok (.aload_n 0, 1) := by decide +kernel
theorem d_M_init_198 : decode c_M_init 198 = .ok (.bipush 20, 2) := by decide +kernel
theorem d_M_init_200 : decode c_M_init 200 = .ok (.newarray .int, 2) := by decide +kernel
theorem d_M_init_202 : decode c_M_init 202 = .ok (.putfield 84, 3) := by decide +kernel
theorem d_M_init_205 : decode c_M_init 205 = .ok (.aload_n 0, 1) := by decide +kernel
theorem d_M_init_206 : decode c_M_init 206 = .ok (.bipush 20, 2) := by decide +kernel
theorem d_M_init_208 : decode c_M_init 208 = .ok (.newarray .int, 2) := by decide +kernel
theorem d_M_init_210 : decode c_M_init 210 = .ok (.putfield 87, 3) := by decide +kernel
theorem d_M_init_213 : decode c_M_init 213 = .ok (.aload_n 0, 1) := by decide +kernel
theorem d_M_init_214 : decode c_M_init 214 = .ok (.bipush 20, 2) := by decide +kernel
theorem d_M_init_216 : decode c_M_init 216 = .ok (.newarray .int, 2) := by decide +kernel
theorem d_M_init_218 : decode c_M_init 218 = .ok (.putfield 90, 3) := by decide +kernel
theorem d_M_init_221 : decode c_M_init 221 = .ok (.aload_n 0, 1) := by decide +kernel
theorem d_M_init_222 : decode c_M_init 222 = .ok (.bipush 20, 2) := by decide +kernel
theorem d_M_init_224 : decode c_M_init 224 = .ok (.newarray .double, 2) := by decide +kernel
theorem d_M_init_226 : decode c_M_init 226 = .ok (.putfield 93, 3) := by decide +kernel
theorem d_M_init_229 : decode c_M_init 229 = .ok (.aload_n 0, 1) := by decide +kernel
theorem d_M_init_230 : decode c_M_init 230 = .ok (.sipush 160, 3) := by decide +kernel
theorem d_M_init_233 : decode c_M_init 233 = .ok (.newarray .int, 2) := by decide +kernel
theorem d_M_init_235 : decode c_M_init 235 = .ok (.putfield 97, 3) := by decide +kernel
theorem d_M_init_238 : decode c_M_init 238 = .ok (.aload_n 0, 1) := by decide +kernel
theorem d_M_init_239 : decode c_M_init 239 = .ok (.bipush 10, 2) := by decide +kernel
theorem d_M_init_241 : decode c_M_init 241 = .ok (.newarray .int, 2) := by decide +kernel
theorem d_M_init_243 : decode c_M_init 243 = .ok (.putfield 100, 3) := by decide +kernel
theorem d_M_init_246 : decode c_M_init 246 = .ok (.aload_n 0, 1) := by decide +kernel
theorem d_M_init_247 : decode c_M_init 247 = .ok (.iconst 1, 1) := by decide +kernel
theorem d_M_init_248 : decode c_M_init 248 = .ok (.putfield 103, 3) := by decide +kernel
theorem d_M_init_251 : decode c_M_init 251 = .ok (.iconst 0, 1) := by decide +kernel
theorem d_M_init_252 : decode c_M_init 252 = .ok (.istore_n 1, 1) := by decide +kernel
theorem d_M_init_253 : decode c_M_init 253 = .ok (.iload_n 1, 1) := by decide +kernel
theorem d_M_init_254 : decode c_M_init 254 = .ok (.bipush 24, 2) := by decide +kernel
theorem d_M_init_256 : decode c_M_init 256 = .ok (.if_icmp .ge 18, 3) := by decide +kernel
theorem d_M_init_259 : decode c_M_init 259 = .ok (.aload_n 0, 1) := by decide +kernel
theorem d_M_init_260 : decode c_M_init 260 = .ok (.getfield 60, 3) := by decide +kernel
theorem d_M_init_263 : decode c_M_init 263 = .ok (.iload_n 1, 1) := by decide +kernel
theorem d_M_init_264 : decode c_M_init 264 = .ok (.ldc2_w 107, 3) := by decide +kernel
theorem d_M_init_267 : decode c_M_init 267 = .ok (.lastore, 1) := by decide +kernel
theorem d_M_init_268 : decode c_M_init 268 = .ok (.iinc 1 1, 3) := by decide +kernel
theorem d_M_init_271 : decode c_M_init 271 = .ok (.goto (-18), 3) := by decide +kernel
theorem d_M_init_274 : decode c_M_init 274 = .ok (.return_, 1) := by decide +kernel
def T_M_init_0 : List (Nat × bh_Op) := [(0, bo_ald 1 0),
  (1, bo_obj 4),
  (4, bo_ald 5 0),
  (5, bo_st 7 (bg_push (.inl (.int 8)))),
  (7, bo_newa bh_al 9 41 30),
  (9, bo_pR 12 40 1 41),
  (12, bo_ald 13 0),
  (13, bo_st 15 (bg_push (.inl (.int 8)))),
  (15, bo_newa bh_al 17 42 30),
  (17, bo_pR 20 40 2 42),
  (20, bo_ald 21 0),
  (21, bo_st 23 (bg_push (.inl (.int 8)))),
  (23, bo_newa bh_al 25 43 30),
  (25, bo_pR 28 40 3 43),
  (28, bo_ald 29 0),
  (29, bo_st 31 (bg_push (.inl (.int 8)))),
  (31, bo_newa bh_al 33 44 30),
  (33, bo_pR 36 40 4 44),
  (36, bo_ald 37 0),
  (37, bo_st 39 (bg_push (.inl (.int 8)))),
  (39, bo_newa bh_al 41 45 30),
  (41, bo_pR 44 40 5 45),
  (44, bo_ald 45 0),
  (45, bo_st 47 (bg_push (.inl (.int 8)))),
  (47, bo_newa bh_al 49 46 30),
  (49, bo_pR 52 40 6 46),
  (52, bo_ald 53 0),
  (53, bo_st 55 (bg_push (.inl (.int 8)))),
  (55, bo_newa bh_al 57 47 30),
  (57, bo_pR 60 40 7 47),
  (60, bo_ald 61 0),
  (61, bo_st 63 (bg_push (.inl (.int 8)))),
  (63, bo_newa bh_al 65 48 30),
  (65, bo_pR 68 40 8 48),
  (68, bo_ald 69 0),
  (69, bo_st 71 (bg_push (.inl (.int 24)))),
  (71, bo_newa bh_al 73 49 30),
  (73, bo_pR 76 40 9 49),
  (76, bo_ald 77 0),
  (77, bo_st 79 (bg_push (.inl (.int 24))))]
def T_M_init_1 : List (Nat × bh_Op) := [(79, bo_newa bh_al 81 50 30),
  (81, bo_pR 84 40 10 50),
  (84, bo_ald 85 0),
  (85, bo_st 87 (bg_push (.inl (.int 24)))),
  (87, bo_newa bh_al 89 51 30),
  (89, bo_pR 92 40 11 51),
  (92, bo_ald 93 0),
  (93, bo_st 95 (bg_push (.inl (.int 8)))),
  (95, bo_newa bh_al 97 52 30),
  (97, bo_pR 100 40 12 52),
  (100, bo_ald 101 0),
  (101, bo_st 103 (bg_push (.inl (.int 24)))),
  (103, bo_newa bh_al 105 53 30),
  (105, bo_pR 108 40 13 53),
  (108, bo_ald 109 0),
  (109, bo_st 111 (bg_push (.inl (.int 24)))),
  (111, bo_newa bh_al 113 54 30),
  (113, bo_pR 116 40 14 54),
  (116, bo_ald 117 0),
  (117, bo_st 119 (bg_push (.inl (.int 24)))),
  (119, bo_newa bh_al 121 55 30),
  (121, bo_pR 124 40 15 55),
  (124, bo_ald 125 0),
  (125, bo_st 127 (bg_push (.inl (.int 24)))),
  (127, bo_newa bh_al 129 56 30),
  (129, bo_pR 132 40 16 56),
  (132, bo_ald 133 0),
  (133, bo_st 135 (bg_push (.inl (.int 24)))),
  (135, bo_newa bh_al 137 57 30),
  (137, bo_pR 140 40 17 57),
  (140, bo_ald 141 0),
  (141, bo_st 143 (bg_push (.inl (.int 30)))),
  (143, bo_newa bh_al 145 58 30),
  (145, bo_pR 148 40 18 58),
  (148, bo_ald 149 0),
  (149, bo_st 152 (bg_push (.inl (.int 240)))),
  (152, bo_newa bh_al 154 59 30),
  (154, bo_pR 157 40 20 59),
  (157, bo_ald 158 0),
  (158, bo_st 160 (bg_push (.inl (.int 30))))]
def T_M_init_2 : List (Nat × bh_Op) := [(160, bo_newa bh_al 162 60 30),
  (162, bo_pR 165 40 21 60),
  (165, bo_ald 166 0),
  (166, bo_st 168 (bg_push (.inl (.int 30)))),
  (168, bo_newa bh_al 170 61 30),
  (170, bo_pR 173 40 22 61),
  (173, bo_ald 174 0),
  (174, bo_st 176 (bg_push (.inl (.int 30)))),
  (176, bo_newa bh_al 178 62 30),
  (178, bo_pR 181 40 23 62),
  (181, bo_ald 182 0),
  (182, bo_st 184 (bg_push (.inl (.int 8)))),
  (184, bo_newa bh_al 186 63 30),
  (186, bo_pR 189 40 24 63),
  (189, bo_ald 190 0),
  (190, bo_st 192 (bg_push (.inl (.int 8)))),
  (192, bo_newa bh_al 194 64 30),
  (194, bo_pR 197 40 25 64),
  (197, bo_ald 198 0),
  (198, bo_st 200 (bg_push (.inl (.int 20)))),
  (200, bo_newa bh_al 202 65 30),
  (202, bo_pR 205 40 29 65),
  (205, bo_ald 206 0),
  (206, bo_st 208 (bg_push (.inl (.int 20)))),
  (208, bo_newa bh_al 210 66 30),
  (210, bo_pR 213 40 30 66),
  (213, bo_ald 214 0),
  (214, bo_st 216 (bg_push (.inl (.int 20)))),
  (216, bo_newa bh_al 218 67 30),
  (218, bo_pR 221 40 31 67),
  (221, bo_ald 222 0),
  (222, bo_st 224 (bg_push (.inl (.int 20)))),
  (224, bo_newa bh_al 226 68 30),
  (226, bo_pR 229 40 32 68),
  (229, bo_ald 230 0),
  (230, bo_st 233 (bg_push (.inl (.int 160)))),
  (233, bo_newa bh_al 235 69 30),
  (235, bo_pR 238 40 33 69),
  (238, bo_ald 239 0),
  (239, bo_st 241 (bg_push (.inl (.int 10))))]
def T_M_init_3 : List (Nat × bh_Op) := [(241, bo_newa bh_al 243 70 30),
  (243, bo_pR 246 40 36 70),
  (246, bo_ald 247 0),
  (247, bo_st 248 (bg_push (.inl (.int 1)))),
  (248, bo_pI 251 40 39),
  (251, bo_st 252 (bg_push (.inl (.int 0)))),
  (252, bo_ist 253 1),
  (253, bo_ild 254 1),
  (254, bo_st 256 (bg_push (.inl (.int 24)))),
  (256, bo_if2 259 274 (fun x y => y ≤ x)),
  (259, bo_ald 260 0),
  (260, bo_gR 263 40 17 57),
  (263, bo_ild 264 1),
  (264, bo_st 267 (bg_push (.inl (.long (-1))))),
  (267, bo_Jast bh_ak bh_al 268),
  (268, bo_inc 271 1 1),
  (271, bo_go 253),
  (274, bo_vret 30)]
def T_M_init : List (Nat × bh_Op) := T_M_init_0 ++ T_M_init_1 ++ T_M_init_2 ++ T_M_init_3
set_option maxRecDepth 20000 in
theorem mT_M_init_0 : ∀ q ∈ T_M_init_0, bh_mono q.2 := List.forall_mem_cons.mpr ⟨bo_ald_m _ _, List.forall_mem_cons.mpr ⟨bo_obj_m _, List.forall_mem_cons.mpr ⟨bo_ald_m _ _, List.forall_mem_cons.mpr ⟨bo_st_mono (bg_push_m _), List.forall_mem_cons.mpr ⟨bo_newa_m _ _ _ _, List.forall_mem_cons.mpr ⟨bo_pR_m _ _ _ _, List.forall_mem_cons.mpr ⟨bo_ald_m _ _, List.forall_mem_cons.mpr ⟨bo_st_mono (bg_push_m _), List.forall_mem_cons.mpr ⟨bo_newa_m _ _ _ _, List.forall_mem_cons.mpr ⟨bo_pR_m _ _ _ _, List.forall_mem_cons.mpr ⟨bo_ald_m _ _, List.forall_mem_cons.mpr ⟨bo_st_mono (bg_push_m _), List.forall_mem_cons.mpr ⟨bo_newa_m _ _ _ _, List.forall_mem_cons.mpr ⟨bo_pR_m _ _ _ _, List.forall_mem_cons.mpr ⟨bo_ald_m _ _, List.forall_mem_cons.mpr ⟨bo_st_mono (bg_push_m _), List.forall_mem_cons.mpr ⟨bo_newa_m _ _ _ _, List.forall_mem_cons.mpr ⟨bo_pR_m _ _ _ _, List.forall_mem_cons.mpr ⟨bo_ald_m _ _, List.forall_mem_cons.mpr ⟨bo_st_mono (bg_push_m _), List.forall_mem_cons.mpr ⟨bo_newa_m _ _ _ _, List.forall_mem_cons.mpr ⟨bo_pR_m _ _ _ _, List.forall_mem_cons.mpr ⟨bo_ald_m _ _, List.forall_mem_cons.mpr ⟨bo_st_mono (bg_push_m _), List.forall_mem_cons.mpr ⟨bo_newa_m _ _ _ _, List.forall_mem_cons.mpr ⟨bo_pR_m _ _ _ _, List.forall_mem_cons.mpr ⟨bo_ald_m _ _, List.forall_mem_cons.mpr ⟨bo_st_mono (bg_push_m _), List.forall_mem_cons.mpr ⟨bo_newa_m _ _ _ _, List.forall_mem_cons.mpr ⟨bo_pR_m _ _ _ _, List.forall_mem_cons.mpr ⟨bo_ald_m _ _, List.forall_mem_cons.mpr ⟨bo_st_mono (bg_push_m _), List.forall_mem_cons.mpr ⟨bo_newa_m _ _ _ _, List.forall_mem_cons.mpr ⟨bo_pR_m _ _ _ _, List.forall_mem_cons.mpr ⟨bo_ald_m _ _, List.forall_mem_cons.mpr ⟨bo_st_mono (bg_push_m _), List.forall_mem_cons.mpr ⟨bo_newa_m _ _ _ _, List.forall_mem_cons.mpr ⟨bo_pR_m _ _ _ _, List.forall_mem_cons.mpr ⟨bo_ald_m _ _, List.forall_mem_cons.mpr ⟨bo_st_mono (bg_push_m _), fun _ h => absurd h List.not_mem_nil⟩⟩⟩⟩⟩⟩⟩⟩⟩⟩⟩⟩⟩⟩⟩⟩⟩⟩⟩⟩⟩⟩⟩⟩⟩⟩⟩⟩⟩⟩⟩⟩⟩⟩⟩⟩⟩⟩⟩⟩
set_option maxRecDepth 20000 in
theorem mT_M_init_1 : ∀ q ∈ T_M_init_1, bh_mono q.2 := List.forall_mem_cons.mpr ⟨bo_newa_m _ _ _ _, List.forall_mem_cons.mpr ⟨bo_pR_m _ _ _ _, List.forall_mem_cons.mpr ⟨bo_ald_m _ _, List.forall_mem_cons.mpr ⟨bo_st_mono (bg_push_m _), List.forall_mem_cons.mpr ⟨bo_newa_m _ _ _ _, List.forall_mem_cons.mpr ⟨bo_pR_m _ _ _ _, List.forall_mem_cons.mpr ⟨bo_ald_m _ _, List.forall_mem_cons.mpr ⟨bo_st_mono (bg_push_m _), List.forall_mem_cons.mpr ⟨bo_newa_m _ _ _ _, List.forall_mem_cons.mpr ⟨bo_pR_m _ _ _ _, List.forall_mem_cons.mpr ⟨bo_ald_m _ _, List.forall_mem_cons.mpr ⟨bo_st_mono (bg_push_m _), List.forall_mem_cons.mpr ⟨bo_newa_m _ _ _ _, List.forall_mem_cons.mpr ⟨bo_pR_m _ _ _ _, List.forall_mem_cons.mpr ⟨bo_ald_m _ _, List.forall_mem_cons.mpr ⟨bo_st_mono (bg_push_m _), List.forall_mem_cons.mpr ⟨bo_newa_m _ _ _ _, List.forall_mem_cons.mpr ⟨bo_pR_m _ _ _ _, List.forall_mem_cons.mpr ⟨bo_ald_m _ _, List.forall_mem_cons.mpr ⟨bo_st_mono (bg_push_m _), List.forall_mem_cons.mpr ⟨bo_newa_m _ _ _ _, List.forall_mem_cons.mpr ⟨bo_pR_m _ _ _ _, List.forall_mem_cons.mpr ⟨bo_ald_m _ _, List.forall_mem_cons.mpr ⟨bo_st_mono (bg_push_m _), List.forall_mem_cons.mpr ⟨bo_newa_m _ _ _ _, List.forall_mem_cons.mpr ⟨bo_pR_m _ _ _ _, List.forall_mem_cons.mpr ⟨bo_ald_m _ _, List.forall_mem_cons.mpr ⟨bo_st_mono (bg_push_m _), List.forall_mem_cons.mpr ⟨bo_newa_m _ _ _ _, List.forall_mem_cons.mpr ⟨bo_pR_m _ _ _ _, List.forall_mem_cons.mpr ⟨bo_ald_m _ _, List.forall_mem_cons.mpr ⟨bo_st_mono (bg_push_m _), List.forall_mem_cons.mpr ⟨bo_newa_m _ _ _ _, List.forall_mem_cons.mpr ⟨bo_pR_m _ _ _ _, List.forall_mem_cons.mpr ⟨bo_ald_m _ _, List.forall_mem_cons.mpr ⟨bo_st_mono (bg_push_m _), List.forall_mem_cons.mpr ⟨bo_newa_m _ _ _ _, List.forall_mem_cons.mpr ⟨bo_pR_m _ _ _ _, List.forall_mem_cons.mpr ⟨bo_ald_m _ _, List.forall_mem_cons.mpr ⟨bo_st_mono (bg_push_m _), fun _ h => absurd h List.not_mem_nil⟩⟩⟩⟩⟩⟩⟩⟩⟩⟩⟩⟩⟩⟩⟩⟩⟩⟩⟩⟩⟩⟩⟩⟩⟩⟩⟩⟩⟩⟩⟩⟩⟩⟩⟩⟩⟩⟩⟩⟩
set_option maxRecDepth 20000 in
theorem mT_M_init_2 : ∀ q ∈ T_M_init_2, bh_mono q.2 := List.forall_mem_cons.mpr ⟨bo_newa_m _ _ _ _, List.forall_mem_cons.mpr ⟨bo_pR_m _ _ _ _, List.forall_mem_cons.mpr ⟨bo_ald_m _ _, List.forall_mem_cons.mpr ⟨bo_st_mono (bg_push_m _), List.forall_mem_cons.mpr ⟨bo_newa_m _ _ _ _, List.forall_mem_cons.mpr ⟨bo_pR_m _ _ _ _, List.forall_mem_cons.mpr ⟨bo_ald_m _ _, List.forall_mem_cons.mpr ⟨bo_st_mono (bg_push_m _), List.forall_mem_cons.mpr ⟨bo_newa_m _ _ _ _, List.forall_mem_cons.mpr ⟨bo_pR_m _ _ _ _, List.forall_mem_cons.mpr ⟨bo_ald_m _ _, List.forall_mem_cons.mpr ⟨bo_st_mono (bg_push_m _), List.forall_mem_cons.mpr ⟨bo_newa_m _ _ _ _, List.forall_mem_cons.mpr ⟨bo_pR_m _ _ _ _, List.forall_mem_cons.mpr ⟨bo_ald_m _ _, List.forall_mem_cons.mpr ⟨bo_st_mono (bg_push_m _), List.forall_mem_cons.mpr ⟨bo_newa_m _ _ _ _, List.forall_mem_cons.mpr ⟨bo_pR_m _ _ _ _, List.forall_mem_cons.mpr ⟨bo_ald_m _ _, List.forall_mem_cons.mpr ⟨bo_st_mono (bg_push_m _), List.forall_mem_cons.mpr ⟨bo_newa_m _ _ _ _, List.forall_mem_cons.mpr ⟨bo_pR_m _ _ _ _, List.forall_mem_cons.mpr ⟨bo_ald_m _ _, List.forall_mem_cons.mpr ⟨bo_st_mono (bg_push_m _), List.forall_mem_cons.mpr ⟨bo_newa_m _ _ _ _, List.forall_mem_cons.mpr ⟨bo_pR_m _ _ _ _, List.forall_mem_cons.mpr ⟨bo_ald_m _ _, List.forall_mem_cons.mpr ⟨bo_st_mono (bg_push_m _), List.forall_mem_cons.mpr ⟨bo_newa_m _ _ _ _, List.forall_mem_cons.mpr ⟨bo_pR_m _ _ _ _, List.forall_mem_cons.mpr ⟨bo_ald_m _ _, List.forall_mem_cons.mpr ⟨bo_st_mono (bg_push_m _), List.forall_mem_cons.mpr ⟨bo_newa_m _ _ _ _, List.forall_mem_cons.mpr ⟨bo_pR_m _ _ _ _, List.forall_mem_cons.mpr ⟨bo_ald_m _ _, List.forall_mem_cons.mpr ⟨bo_st_mono (bg_push_m _), List.forall_mem_cons.mpr ⟨bo_newa_m _ _ _ _, List.forall_mem_cons.mpr ⟨bo_pR_m _ _ _ _, List.forall_mem_cons.mpr ⟨bo_ald_m _ _, List.forall_mem_cons.mpr ⟨bo_st_mono (bg_push_m _), fun _ h => absurd h List.not_mem_nil⟩⟩⟩⟩⟩⟩⟩⟩⟩⟩⟩⟩⟩⟩⟩⟩⟩⟩⟩⟩⟩⟩⟩⟩⟩⟩⟩⟩⟩⟩⟩⟩⟩⟩⟩⟩⟩⟩⟩⟩
set_option maxRecDepth 20000 in
theorem mT_M_init_3 : ∀ q ∈ T_M_init_3, bh_mono q.2 := List.forall_mem_cons.mpr ⟨bo_newa_m _ _ _ _, List.forall_mem_cons.mpr ⟨bo_pR_m _ _ _ _, List.forall_mem_cons.mpr ⟨bo_ald_m _ _, List.forall_mem_cons.mpr ⟨bo_st_mono (bg_push_m _), List.forall_mem_cons.mpr ⟨bo_pI_m _ _ _, List.forall_mem_cons.mpr ⟨bo_st_mono (bg_push_m _), List.forall_mem_cons.mpr ⟨bo_ist_m _ _, List.forall_mem_cons.mpr ⟨bo_ild_m _ _, List.forall_mem_cons.mpr ⟨bo_st_mono (bg_push_m _), List.forall_mem_cons.mpr ⟨bo_if2_m _ _ _, List.forall_mem_cons.mpr ⟨bo_ald_m _ _, List.forall_mem_cons.mpr ⟨bo_gR_m _ _ _ _, List.forall_mem_cons.mpr ⟨bo_ild_m _ _, List.forall_mem_cons.mpr ⟨bo_st_mono (bg_push_m _), List.forall_mem_cons.mpr ⟨bo_Jast_m _ _ _, List.forall_mem_cons.mpr ⟨bo_inc_m _ _ _, List.forall_mem_cons.mpr ⟨bo_go_m _, List.forall_mem_cons.mpr ⟨bo_vret_m _, fun _ h => absurd h List.not_mem_nil⟩⟩⟩⟩⟩⟩⟩⟩⟩⟩⟩⟩⟩⟩⟩⟩⟩⟩
theorem m_M_init : ∀ pc, bh_mono (bh_tb (T_M_init) pc) := bh_tb_m (List.forall_mem_append.mpr ⟨(List.forall_mem_append.mpr ⟨(List.forall_mem_append.mpr ⟨mT_M_init_0, mT_M_init_1⟩), mT_M_init_2⟩), mT_M_init_3⟩)
def F_M_init : bh_Fn := bh_fn 2 (bh_tb T_M_init)
theorem mF_M_init : bh_monoF F_M_init := bh_fn_m m_M_init
theorem cl_M_init {s : State} {args : Array Value} (d B : Nat) (hts : ∀ w ∈ bh_ws, w.before args s = true) : bh_Cal (bh_rm (d + 1) B) s y_M_init 2 (.code y_M_init c_M_init 2 none :: bh_ws) (bh_rm d 30) 30 0 := bh_cal d B hts wd_781 wd_9 (by decide) (by decide +kernel)
set_option maxHeartbeats 4000000 in
set_option maxRecDepth 100000 in
theorem cn_M_init {l : Launch} {G : bh_G} {base sb L : Nat} {xs : Nat → Int32} (htr : l.stackTraces = false) (d : Nat) : bh_Con l G base (bh_Bg G base sb L xs) y_M_init (.code y_M_init c_M_init 2 none :: bh_ws) (bh_rm (d + 1) 30) 30 true F_M_init := by
  refine bh_method (cc := c_M_init) (ret := none) (by decide +kernel) rfl ?_
  intro p e s m args below meth c ad0 M0 Z X0 hr hlocks hname htab hbs hB
  obtain ⟨hx, hb, hml, hown, hts⟩ := id X0
  have hw : ∀ w ∈ bh_ws, w.before args s = true := fun w h => hts w (List.mem_cons_of_mem _ h)
  have hBg := bh_BgK (G := G) (base := base) (sb := sb) (L := L) (xs := xs)
  obtain ⟨hK, hAr, hen, hinj, hu1, hu2, hstr, hX, hsb, hsc, hxw, hao, hnc⟩ := id hB
  obtain ⟨ha1, ha2, ha3, ha4, ha5, ha6, ha0⟩ := bh_arr hAr
  refine List.forall_mem_append.mpr ⟨?_, List.forall_mem_cons.mpr ⟨fun S h => bs_newa (Z := Z) (atype := .int) hx hb rfl hbs (hts _ (List.mem_cons_of_mem _ wd_82)) (hAr 70 (by decide)).2 rfl (by decide) (by decide) (by decide) (fun _ => rfl) (Nat.le_refl _) (Nat.le_refl _) d_M_init_241 h, List.forall_mem_cons.mpr ⟨fun S h => bs_pRF (Z := Z) (C := R_M) (T := F_M) (N := 40) (t := 40) (j := 36) (ty := (.array .int)) hx hb hK hts (fun w h => List.mem_cons_of_mem _ (iw_M w h)) hown rfl rfl (by decide) (hts _ (List.mem_cons_of_mem _ wd_820)) (fun _ h => h) rfl rfl t_M t_M_ok n_M rfl hname rfl (by decide +kernel) (fun _ => rfl) (fun _ => rfl) rfl d_M_init_243 h, List.forall_mem_cons.mpr ⟨fun S h => bs_aload_n (Z := Z) hx hb rfl d_M_init_246 h, List.forall_mem_cons.mpr ⟨fun S h => bs_iconst (Z := Z) hx hb (by decide) d_M_init_247 h, List.forall_mem_cons.mpr ⟨fun S h => bs_pI (Z := Z) (C := R_M) (T := F_M) (N := 40) (t := 40) (j := 39) hx hb hK hts (fun w h => List.mem_cons_of_mem _ (iw_M w h)) hown rfl rfl (by decide) (hts _ (List.mem_cons_of_mem _ wd_823)) (fun _ h => h) rfl rfl t_M t_M_ok n_M rfl (by decide +kernel) rfl d_M_init_248 h, List.forall_mem_cons.mpr ⟨fun S h => bs_iconst (Z := Z) hx hb (by decide) d_M_init_251 h, List.forall_mem_cons.mpr ⟨fun S h => bs_istore_n (Z := Z) hx hb rfl d_M_init_252 h, List.forall_mem_cons.mpr ⟨fun S h => bs_iload_n (Z := Z) hx hb rfl d_M_init_253 h, List.forall_mem_cons.mpr ⟨fun S h => bs_bipush (Z := Z) hx hb (by decide) d_M_init_254 h, List.forall_mem_cons.mpr ⟨fun S h => bs_icmp_ge (Z := Z) hx hb d_M_init_256 (by decide) h, List.forall_mem_cons.mpr ⟨fun S h => bs_aload_n (Z := Z) hx hb rfl d_M_init_259 h, List.forall_mem_cons.mpr ⟨fun S h => bs_gR (Z := Z) (C := R_M) (T := F_M) (N := 40) (t := 40) (j := 17) hx hb hK hts (fun w h => List.mem_cons_of_mem _ (iw_M w h)) hown rfl rfl (by decide) (hts _ (List.mem_cons_of_mem _ wd_801)) (fun _ h => h) rfl rfl rfl d_M_init_260 h, List.forall_mem_cons.mpr ⟨fun S h => bs_iload_n (Z := Z) hx hb rfl d_M_init_263 h, List.forall_mem_cons.mpr ⟨fun S h => bs_ldcl (Z := Z) hx hb hown (hts _ (List.mem_cons_of_mem _ wd_783)) d_M_init_264 h, List.forall_mem_cons.mpr ⟨fun S h => bs_Jast (Z := Z) hx hb ha3 d_M_init_267 h, List.forall_mem_cons.mpr ⟨fun S h => bs_iinc (Z := Z) hx hb (by decide) d_M_init_268 h, List.forall_mem_cons.mpr ⟨fun S h => bs_goto (Z := Z) hx hb d_M_init_271 (by decide) h, List.forall_mem_cons.mpr ⟨fun S h => bs_vret (Z := Z) hx hb hr hlocks d_M_init_274 h, fun _ h => absurd h List.not_mem_nil⟩⟩⟩⟩⟩⟩⟩⟩⟩⟩⟩⟩⟩⟩⟩⟩⟩⟩⟩
  refine List.forall_mem_append.mpr ⟨?_, List.forall_mem_cons.mpr ⟨fun S h => bs_newa (Z := Z) (atype := .int) hx hb rfl hbs (hts _ (List.mem_cons_of_mem _ wd_82)) (hAr 60 (by decide)).2 rfl (by decide) (by decide) (by decide) (fun _ => rfl) (Nat.le_refl _) (Nat.le_refl _) d_M_init_160 h, List.forall_mem_cons.mpr ⟨fun S h => bs_pRF (Z := Z) (C := R_M) (T := F_M) (N := 40) (t := 40) (j := 21) (ty := (.array .int)) hx hb hK hts (fun w h => List.mem_cons_of_mem _ (iw_M w h)) hown rfl rfl (by decide) (hts _ (List.mem_cons_of_mem _ wd_805)) (fun _ h => h) rfl rfl t_M t_M_ok n_M rfl hname rfl (by decide +kernel) (fun _ => rfl) (fun _ => rfl) rfl d_M_init_162 h, List.forall_mem_cons.mpr ⟨fun S h => bs_aload_n (Z := Z) hx hb rfl d_M_init_165 h, List.forall_mem_cons.mpr ⟨fun S h => bs_bipush (Z := Z) hx hb (by decide) d_M_init_166 h, List.forall_mem_cons.mpr ⟨fun S h => bs_newa (Z := Z) (atype := .int) hx hb rfl hbs (hts _ (List.mem_cons_of_mem _ wd_82)) (hAr 61 (by decide)).2 rfl (by decide) (by decide) (by decide) (fun _ => rfl) (Nat.le_refl _) (Nat.le_refl _) d_M_init_168 h, List.forall_mem_cons.mpr ⟨fun S h => bs_pRF (Z := Z) (C := R_M) (T := F_M) (N := 40) (t := 40) (j := 22) (ty := (.array .int)) hx hb hK hts (fun w h => List.mem_cons_of_mem _ (iw_M w h)) hown rfl rfl (by decide) (hts _ (List.mem_cons_of_mem _ wd_806)) (fun _ h => h) rfl rfl t_M t_M_ok n_M rfl hname rfl (by decide +kernel) (fun _ => rfl) (fun _ => rfl) rfl d_M_init_170 h, List.forall_mem_cons.mpr ⟨fun S h => bs_aload_n (Z := Z) hx hb rfl d_M_init_173 h, List.forall_mem_cons.mpr ⟨fun S h => bs_bipush (Z := Z) hx hb (by decide) d_M_init_174 h, List.forall_mem_cons.mpr ⟨fun S h => bs_newa (Z := Z) (atype := .int) hx hb rfl hbs (hts _ (List.mem_cons_of_mem _ wd_82)) (hAr 62 (by decide)).2 rfl (by decide) (by decide) (by decide) (fun _ => rfl) (Nat.le_refl _) (Nat.le_refl _) d_M_init_176 h, List.forall_mem_cons.mpr ⟨fun S h => bs_pRF (Z := Z) (C := R_M) (T := F_M) (N := 40) (t := 40) (j := 23) (ty := (.array .int)) hx hb hK hts (fun w h => List.mem_cons_of_mem _ (iw_M w h)) hown rfl rfl (by decide) (hts _ (List.mem_cons_of_mem _ wd_807)) (fun _ h => h) rfl rfl t_M t_M_ok n_M rfl hname rfl (by decide +kernel) (fun _ => rfl) (fun _ => rfl) rfl d_M_init_178 h, List.forall_mem_cons.mpr ⟨fun S h => bs_aload_n (Z := Z) hx hb rfl d_M_init_181 h, List.forall_mem_cons.mpr ⟨fun S h => bs_bipush (Z := Z) hx hb (by decide) d_M_init_182 h, List.forall_mem_cons.mpr ⟨fun S h => bs_newa (Z := Z) (atype := .boolean) hx hb rfl hbs (hts _ (List.mem_cons_of_mem _ wd_83)) (hAr 63 (by decide)).2 rfl (by decide) (by decide) (by decide) (fun _ => rfl) (Nat.le_refl _) (Nat.le_refl _) d_M_init_184 h, List.forall_mem_cons.mpr ⟨fun S h => bs_pRF (Z := Z) (C := R_M) (T := F_M) (N := 40) (t := 40) (j := 24) (ty := (.array .boolean)) hx hb hK hts (fun w h => List.mem_cons_of_mem _ (iw_M w h)) hown rfl rfl (by decide) (hts _ (List.mem_cons_of_mem _ wd_808)) (fun _ h => h) rfl rfl t_M t_M_ok n_M rfl hname rfl (by decide +kernel) (fun _ => rfl) (fun _ => rfl) rfl d_M_init_186 h, List.forall_mem_cons.mpr ⟨fun S h => bs_aload_n (Z := Z) hx hb rfl d_M_init_189 h, List.forall_mem_cons.mpr ⟨fun S h => bs_bipush (Z := Z) hx hb (by decide) d_M_init_190 h, List.forall_mem_cons.mpr ⟨fun S h => bs_newa (Z := Z) (atype := .int) hx hb rfl hbs (hts _ (List.mem_cons_of_mem _ wd_82)) (hAr 64 (by decide)).2 rfl (by decide) (by decide) (by decide) (fun _ => rfl) (Nat.le_refl _) (Nat.le_refl _) d_M_init_192 h, List.forall_mem_cons.mpr ⟨fun S h => bs_pRF (Z := Z) (C := R_M) (T := F_M) (N := 40) (t := 40) (j := 25) (ty := (.array .int)) hx hb hK hts (fun w h => List.mem_cons_of_mem _ (iw_M w h)) hown rfl rfl (by decide) (hts _ (List.mem_cons_of_mem _ wd_809)) (fun _ h => h) rfl rfl t_M t_M_ok n_M rfl hname rfl (by decide +kernel) (fun _ => rfl) (fun _ => rfl) rfl d_M_init_194 h, List.forall_mem_cons.mpr ⟨fun S h => bs_aload_n (Z := Z) hx hb rfl d_M_init_197 h, List.forall_mem_cons.mpr ⟨fun S h => bs_bipush (Z := Z) hx hb (by decide) d_M_init_198 h, List.forall_mem_cons.mpr ⟨fun S h => bs_newa (Z := Z) (atype := .int) hx hb rfl hbs (hts _ (List.mem_cons_of_mem _ wd_82)) (hAr 65 (by decide)).2 rfl (by decide) (by decide) (by decide) (fun _ => rfl) (Nat.le_refl _) (Nat.le_refl _) d_M_init_200 h, List.forall_mem_cons.mpr ⟨fun S h => bs_pRF (Z := Z) (C := R_M) (T := F_M) (N := 40) (t := 40) (j := 29) (ty := (.array .int)) hx hb hK hts (fun w h => List.mem_cons_of_mem _ (iw_M w h)) hown rfl rfl (by decide) (hts _ (List.mem_cons_of_mem _ wd_813)) (fun _ h => h) rfl rfl t_M t_M_ok n_M rfl hname rfl (by decide +kernel) (fun _ => rfl) (fun _ => rfl) rfl d_M_init_202 h, List.forall_mem_cons.mpr ⟨fun S h => bs_aload_n (Z := Z) hx hb rfl d_M_init_205 h, List.forall_mem_cons.mpr ⟨fun S h => bs_bipush (Z := Z) hx hb (by decide) d_M_init_206 h, List.forall_mem_cons.mpr ⟨fun S h => bs_newa (Z := Z) (atype := .int) hx hb rfl hbs (hts _ (List.mem_cons_of_mem _ wd_82)) (hAr 66 (by decide)).2 rfl (by decide) (by decide) (by decide) (fun _ => rfl) (Nat.le_refl _) (Nat.le_refl _) d_M_init_208 h, List.forall_mem_cons.mpr ⟨fun S h => bs_pRF (Z := Z) (C := R_M) (T := F_M) (N := 40) (t := 40) (j := 30) (ty := (.array .int)) hx hb hK hts (fun w h => List.mem_cons_of_mem _ (iw_M w h)) hown rfl rfl (by decide) (hts _ (List.mem_cons_of_mem _ wd_814)) (fun _ h => h) rfl rfl t_M t_M_ok n_M rfl hname rfl (by decide +kernel) (fun _ => rfl) (fun _ => rfl) rfl d_M_init_210 h, List.forall_mem_cons.mpr ⟨fun S h => bs_aload_n (Z := Z) hx hb rfl d_M_init_213 h, List.forall_mem_cons.mpr ⟨fun S h => bs_bipush (Z := Z) hx hb (by decide) d_M_init_214 h, List.forall_mem_cons.mpr ⟨fun S h => bs_newa (Z := Z) (atype := .int) hx hb rfl hbs (hts _ (List.mem_cons_of_mem _ wd_82)) (hAr 67 (by decide)).2 rfl (by decide) (by decide) (by decide) (fun _ => rfl) (Nat.le_refl _) (Nat.le_refl _) d_M_init_216 h, List.forall_mem_cons.mpr ⟨fun S h => bs_pRF (Z := Z) (C := R_M) (T := F_M) (N := 40) (t := 40) (j := 31) (ty := (.array .int)) hx hb hK hts (fun w h => List.mem_cons_of_mem _ (iw_M w h)) hown rfl rfl (by decide) (hts _ (List.mem_cons_of_mem _ wd_815)) (fun _ h => h) rfl rfl t_M t_M_ok n_M rfl hname rfl (by decide +kernel) (fun _ => rfl) (fun _ => rfl) rfl d_M_init_218 h, List.forall_mem_cons.mpr ⟨fun S h => bs_aload_n (Z := Z) hx hb rfl d_M_init_221 h, List.forall_mem_cons.mpr ⟨fun S h => bs_bipush (Z := Z) hx hb (by decide) d_M_init_222 h, List.forall_mem_cons.mpr ⟨fun S h => bs_newa (Z := Z) (atype := .double) hx hb rfl hbs (hts _ (List.mem_cons_of_mem _ wd_906)) (hAr 68 (by decide)).2 rfl (by decide) (by decide) (by decide) (fun _ => rfl) (Nat.le_refl _) (Nat.le_refl _) d_M_init_224 h, List.forall_mem_cons.mpr ⟨fun S h => bs_pRF (Z := Z) (C := R_M) (T := F_M) (N := 40) (t := 40) (j := 32) (ty := (.array .double)) hx hb hK hts (fun w h => List.mem_cons_of_mem _ (iw_M w h)) hown rfl rfl (by decide) (hts _ (List.mem_cons_of_mem _ wd_816)) (fun _ h => h) rfl rfl t_M t_M_ok n_M rfl hname rfl (by decide +kernel) (fun _ => rfl) (fun _ => rfl) rfl d_M_init_226 h, List.forall_mem_cons.mpr ⟨fun S h => bs_aload_n (Z := Z) hx hb rfl d_M_init_229 h, List.forall_mem_cons.mpr ⟨fun S h => bs_sipush (Z := Z) hx hb (by decide) d_M_init_230 h, List.forall_mem_cons.mpr ⟨fun S h => bs_newa (Z := Z) (atype := .int) hx hb rfl hbs (hts _ (List.mem_cons_of_mem _ wd_82)) (hAr 69 (by decide)).2 rfl (by decide) (by decide) (by decide) (fun _ => rfl) (Nat.le_refl _) (Nat.le_refl _) d_M_init_233 h, List.forall_mem_cons.mpr ⟨fun S h => bs_pRF (Z := Z) (C := R_M) (T := F_M) (N := 40) (t := 40) (j := 33) (ty := (.array .int)) hx hb hK hts (fun w h => List.mem_cons_of_mem _ (iw_M w h)) hown rfl rfl (by decide) (hts _ (List.mem_cons_of_mem _ wd_817)) (fun _ h => h) rfl rfl t_M t_M_ok n_M rfl hname rfl (by decide +kernel) (fun _ => rfl) (fun _ => rfl) rfl d_M_init_235 h, List.forall_mem_cons.mpr ⟨fun S h => bs_aload_n (Z := Z) hx hb rfl d_M_init_238 h, List.forall_mem_cons.mpr ⟨fun S h => bs_bipush (Z := Z) hx hb (by decide) d_M_init_239 h, fun _ h => absurd h List.not_mem_nil⟩⟩⟩⟩⟩⟩⟩⟩⟩⟩⟩⟩⟩⟩⟩⟩⟩⟩⟩⟩⟩⟩⟩⟩⟩⟩⟩⟩⟩⟩⟩⟩⟩⟩⟩⟩⟩⟩⟩⟩⟩
  refine List.forall_mem_append.mpr ⟨?_, List.forall_mem_cons.mpr ⟨fun S h => bs_newa (Z := Z) (atype := .int) hx hb rfl hbs (hts _ (List.mem_cons_of_mem _ wd_82)) (hAr 50 (by decide)).2 rfl (by decide) (by decide) (by decide) (fun _ => rfl) (Nat.le_refl _) (Nat.le_refl _) d_M_init_79 h, List.forall_mem_cons.mpr ⟨fun S h => bs_pRF (Z := Z) (C := R_M) (T := F_M) (N := 40) (t := 40) (j := 10) (ty := (.array .int)) hx hb hK hts (fun w h => List.mem_cons_of_mem _ (iw_M w h)) hown rfl rfl (by decide) (hts _ (List.mem_cons_of_mem _ wd_794)) (fun _ h => h) rfl rfl t_M t_M_ok n_M rfl hname rfl (by decide +kernel) (fun _ => rfl) (fun _ => rfl) rfl d_M_init_81 h, List.forall_mem_cons.mpr ⟨fun S h => bs_aload_n (Z := Z) hx hb rfl d_M_init_84 h, List.forall_mem_cons.mpr ⟨fun S h => bs_bipush (Z := Z) hx hb (by decide) d_M_init_85 h, List.forall_mem_cons.mpr ⟨fun S h => bs_newa (Z := Z) (atype := .int) hx hb rfl hbs (hts _ (List.mem_cons_of_mem _ wd_82)) (hAr 51 (by decide)).2 rfl (by decide) (by decide) (by decide) (fun _ => rfl) (Nat.le_refl _) (Nat.le_refl _) d_M_init_87 h, List.forall_mem_cons.mpr ⟨fun S h => bs_pRF (Z := Z) (C := R_M) (T := F_M) (N := 40) (t := 40) (j := 11) (ty := (.array .int)) hx hb hK hts (fun w h => List.mem_cons_of_mem _ (iw_M w h)) hown rfl rfl (by decide) (hts _ (List.mem_cons_of_mem _ wd_795)) (fun _ h => h) rfl rfl t_M t_M_ok n_M rfl hname rfl (by decide +kernel) (fun _ => rfl) (fun _ => rfl) rfl d_M_init_89 h, List.forall_mem_cons.mpr ⟨fun S h => bs_aload_n (Z := Z) hx hb rfl d_M_init_92 h, List.forall_mem_cons.mpr ⟨fun S h => bs_bipush (Z := Z) hx hb (by decide) d_M_init_93 h, List.forall_mem_cons.mpr ⟨fun S h => bs_newa (Z := Z) (atype := .int) hx hb rfl hbs (hts _ (List.mem_cons_of_mem _ wd_82)) (hAr 52 (by decide)).2 rfl (by decide) (by decide) (by decide) (fun _ => rfl) (Nat.le_refl _) (Nat.le_refl _) d_M_init_95 h, List.forall_mem_cons.mpr ⟨fun S h => bs_pRF (Z := Z) (C := R_M) (T := F_M) (N := 40) (t := 40) (j := 12) (ty := (.array .int)) hx hb hK hts (fun w h => List.mem_cons_of_mem _ (iw_M w h)) hown rfl rfl (by decide) (hts _ (List.mem_cons_of_mem _ wd_796)) (fun _ h => h) rfl rfl t_M t_M_ok n_M rfl hname rfl (by decide +kernel) (fun _ => rfl) (fun _ => rfl) rfl d_M_init_97 h, List.forall_mem_cons.mpr ⟨fun S h => bs_aload_n (Z := Z) hx hb rfl d_M_init_100 h, List.forall_mem_cons.mpr ⟨fun S h => bs_bipush (Z := Z) hx hb (by decide) d_M_init_101 h, List.forall_mem_cons.mpr ⟨fun S h => bs_newa (Z := Z) (atype := .int) hx hb rfl hbs (hts _ (List.mem_cons_of_mem _ wd_82)) (hAr 53 (by decide)).2 rfl (by decide) (by decide) (by decide) (fun _ => rfl) (Nat.le_refl _) (Nat.le_refl _) d_M_init_103 h, List.forall_mem_cons.mpr ⟨fun S h => bs_pRF (Z := Z) (C := R_M) (T := F_M) (N := 40) (t := 40) (j := 13) (ty := (.array .int)) hx hb hK hts (fun w h => List.mem_cons_of_mem _ (iw_M w h)) hown rfl rfl (by decide) (hts _ (List.mem_cons_of_mem _ wd_797)) (fun _ h => h) rfl rfl t_M t_M_ok n_M rfl hname rfl (by decide +kernel) (fun _ => rfl) (fun _ => rfl) rfl d_M_init_105 h, List.forall_mem_cons.mpr ⟨fun S h => bs_aload_n (Z := Z) hx hb rfl d_M_init_108 h, List.forall_mem_cons.mpr ⟨fun S h => bs_bipush (Z := Z) hx hb (by decide) d_M_init_109 h, List.forall_mem_cons.mpr ⟨fun S h => bs_newa (Z := Z) (atype := .int) hx hb rfl hbs (hts _ (List.mem_cons_of_mem _ wd_82)) (hAr 54 (by decide)).2 rfl (by decide) (by decide) (by decide) (fun _ => rfl) (Nat.le_refl _) (Nat.le_refl _) d_M_init_111 h, List.forall_mem_cons.mpr ⟨fun S h => bs_pRF (Z := Z) (C := R_M) (T := F_M) (N := 40) (t := 40) (j := 14) (ty := (.array .int)) hx hb hK hts (fun w h => List.mem_cons_of_mem _ (iw_M w h)) hown rfl rfl (by decide) (hts _ (List.mem_cons_of_mem _ wd_798)) (fun _ h => h) rfl rfl t_M t_M_ok n_M rfl hname rfl (by decide +kernel) (fun _ => rfl) (fun _ => rfl) rfl d_M_init_113 h, List.forall_mem_cons.mpr ⟨fun S h => bs_aload_n (Z := Z) hx hb rfl d_M_init_116 h, List.forall_mem_cons.mpr ⟨fun S h => bs_bipush (Z := Z) hx hb (by decide) d_M_init_117 h, List.forall_mem_cons.mpr ⟨fun S h => bs_newa (Z := Z) (atype := .int) hx hb rfl hbs (hts _ (List.mem_cons_of_mem _ wd_82)) (hAr 55 (by decide)).2 rfl (by decide) (by decide) (by decide) (fun _ => rfl) (Nat.le_refl _) (Nat.le_refl _) d_M_init_119 h, List.forall_mem_cons.mpr ⟨fun S h => bs_pRF (Z := Z) (C := R_M) (T := F_M) (N := 40) (t := 40) (j := 15) (ty := (.array .int)) hx hb hK hts (fun w h => List.mem_cons_of_mem _ (iw_M w h)) hown rfl rfl (by decide) (hts _ (List.mem_cons_of_mem _ wd_799)) (fun _ h => h) rfl rfl t_M t_M_ok n_M rfl hname rfl (by decide +kernel) (fun _ => rfl) (fun _ => rfl) rfl d_M_init_121 h, List.forall_mem_cons.mpr ⟨fun S h => bs_aload_n (Z := Z) hx hb rfl d_M_init_124 h, List.forall_mem_cons.mpr ⟨fun S h => bs_bipush (Z := Z) hx hb (by decide) d_M_init_125 h, List.forall_mem_cons.mpr ⟨fun S h => bs_newa (Z := Z) (atype := .boolean) hx hb rfl hbs (hts _ (List.mem_cons_of_mem _ wd_83)) (hAr 56 (by decide)).2 rfl (by decide) (by decide) (by decide) (fun _ => rfl) (Nat.le_refl _) (Nat.le_refl _) d_M_init_127 h, List.forall_mem_cons.mpr ⟨fun S h => bs_pRF (Z := Z) (C := R_M) (T := F_M) (N := 40) (t := 40) (j := 16) (ty := (.array .boolean)) hx hb hK hts (fun w h => List.mem_cons_of_mem _ (iw_M w h)) hown rfl rfl (by decide) (hts _ (List.mem_cons_of_mem _ wd_800)) (fun _ h => h) rfl rfl t_M t_M_ok n_M rfl hname rfl (by decide +kernel) (fun _ => rfl) (fun _ => rfl) rfl d_M_init_129 h, List.forall_mem_cons.mpr ⟨fun S h => bs_aload_n (Z := Z) hx hb rfl d_M_init_132 h, List.forall_mem_cons.mpr ⟨fun S h => bs_bipush (Z := Z) hx hb (by decide) d_M_init_133 h, List.forall_mem_cons.mpr ⟨fun S h => bs_newa (Z := Z) (atype := .long) hx hb rfl hbs (hts _ (List.mem_cons_of_mem _ wd_905)) (hAr 57 (by decide)).2 rfl (by decide) (by decide) (by decide) (fun _ => rfl) (Nat.le_refl _) (Nat.le_refl _) d_M_init_135 h, List.forall_mem_cons.mpr ⟨fun S h => bs_pRF (Z := Z) (C := R_M) (T := F_M) (N := 40) (t := 40) (j := 17) (ty := (.array .long)) hx hb hK hts (fun w h => List.mem_cons_of_mem _ (iw_M w h)) hown rfl rfl (by decide) (hts _ (List.mem_cons_of_mem _ wd_801)) (fun _ h => h) rfl rfl t_M t_M_ok n_M rfl hname rfl (by decide +kernel) (fun _ => rfl) (fun _ => rfl) rfl d_M_init_137 h, List.forall_mem_cons.mpr ⟨fun S h => bs_aload_n (Z := Z) hx hb rfl d_M_init_140 h, List.forall_mem_cons.mpr ⟨fun S h => bs_bipush (Z := Z) hx hb (by decide) d_M_init_141 h, List.forall_mem_cons.mpr ⟨fun S h => bs_newa (Z := Z) (atype := .int) hx hb rfl hbs (hts _ (List.mem_cons_of_mem _ wd_82)) (hAr 58 (by decide)).2 rfl (by decide) (by decide) (by decide) (fun _ => rfl) (Nat.le_refl _) (Nat.le_refl _) d_M_init_143 h, List.forall_mem_cons.mpr ⟨fun S h => bs_pRF (Z := Z) (C := R_M) (T := F_M) (N := 40) (t := 40) (j := 18) (ty := (.array .int)) hx hb hK hts (fun w h => List.mem_cons_of_mem _ (iw_M w h)) hown rfl rfl (by decide) (hts _ (List.mem_cons_of_mem _ wd_802)) (fun _ h => h) rfl rfl t_M t_M_ok n_M rfl hname rfl (by decide +kernel) (fun _ => rfl) (fun _ => rfl) rfl d_M_init_145 h, List.forall_mem_cons.mpr ⟨fun S h => bs_aload_n (Z := Z) hx hb rfl d_M_init_148 h, List.forall_mem_cons.mpr ⟨fun S h => bs_sipush (Z := Z) hx hb (by decide) d_M_init_149 h, List.forall_mem_cons.mpr ⟨fun S h => bs_newa (Z := Z) (atype := .int) hx hb rfl hbs (hts _ (List.mem_cons_of_mem _ wd_82)) (hAr 59 (by decide)).2 rfl (by decide) (by decide) (by decide) (fun _ => rfl) (Nat.le_refl _) (Nat.le_refl _) d_M_init_152 h, List.forall_mem_cons.mpr ⟨fun S h => bs_pRF (Z := Z) (C := R_M) (T := F_M) (N := 40) (t := 40) (j := 20) (ty := (.array .int)) hx hb hK hts (fun w h => List.mem_cons_of_mem _ (iw_M w h)) hown rfl rfl (by decide) (hts _ (List.mem_cons_of_mem _ wd_804)) (fun _ h => h) rfl rfl t_M t_M_ok n_M rfl hname rfl (by decide +kernel) (fun _ => rfl) (fun _ => rfl) rfl d_M_init_154 h, List.forall_mem_cons.mpr ⟨fun S h => bs_aload_n (Z := Z) hx hb rfl d_M_init_157 h, List.forall_mem_cons.mpr ⟨fun S h => bs_bipush (Z := Z) hx hb (by decide) d_M_init_158 h, fun _ h => absurd h List.not_mem_nil⟩⟩⟩⟩⟩⟩⟩⟩⟩⟩⟩⟩⟩⟩⟩⟩⟩⟩⟩⟩⟩⟩⟩⟩⟩⟩⟩⟩⟩⟩⟩⟩⟩⟩⟩⟩⟩⟩⟩⟩⟩
  exact List.forall_mem_cons.mpr ⟨fun S h => bs_aload_n (Z := Z) hx hb rfl d_M_init_0 h, List.forall_mem_cons.mpr ⟨fun S h => bs_obj (Z := Z) hx hb hml hown (hts _ (List.mem_cons_of_mem _ wd_782)) (hts _ (List.mem_cons_of_mem _ wd_28)) (bh_objcode (hts _ (List.mem_cons_of_mem _ wd_29))) (by show 1 ≤ _ + 12; omega) (by show 20 ≤ 80 * _ + 200; omega) d_M_init_1 h, List.forall_mem_cons.mpr ⟨fun S h => bs_aload_n (Z := Z) hx hb rfl d_M_init_4 h, List.forall_mem_cons.mpr ⟨fun S h => bs_bipush (Z := Z) hx hb (by decide) d_M_init_5 h, List.forall_mem_cons.mpr ⟨fun S h => bs_newa (Z := Z) (atype := .int) hx hb rfl hbs (hts _ (List.mem_cons_of_mem _ wd_82)) (hAr 41 (by decide)).2 rfl (by decide) (by decide) (by decide) (fun _ => rfl) (Nat.le_refl _) (Nat.le_refl _) d_M_init_7 h, List.forall_mem_cons.mpr ⟨fun S h => bs_pRF (Z := Z) (C := R_M) (T := F_M) (N := 40) (t := 40) (j := 1) (ty := (.array .int)) hx hb hK hts (fun w h => List.mem_cons_of_mem _ (iw_M w h)) hown rfl rfl (by decide) (hts _ (List.mem_cons_of_mem _ wd_785)) (fun _ h => h) rfl rfl t_M t_M_ok n_M rfl hname rfl (by decide +kernel) (fun _ => rfl) (fun _ => rfl) rfl d_M_init_9 h, List.forall_mem_cons.mpr ⟨fun S h => bs_aload_n (Z := Z) hx hb rfl d_M_init_12 h, List.forall_mem_cons.mpr ⟨fun S h => bs_bipush (Z := Z) hx hb (by decide) d_M_init_13 h, List.forall_mem_cons.mpr ⟨fun S h => bs_newa (Z := Z) (atype := .int) hx hb rfl hbs (hts _ (List.mem_cons_of_mem _ wd_82)) (hAr 42 (by decide)).2 rfl (by decide) (by decide) (by decide) (fun _ => rfl) (Nat.le_refl _) (Nat.le_refl _) d_M_init_15 h, List.forall_mem_cons.mpr ⟨fun S h => bs_pRF (Z := Z) (C := R_M) (T := F_M) (N := 40) (t := 40) (j := 2) (ty := (.array .int)) hx hb hK hts (fun w h => List.mem_cons_of_mem _ (iw_M w h)) hown rfl rfl (by decide) (hts _ (List.mem_cons_of_mem _ wd_786)) (fun _ h => h) rfl rfl t_M t_M_ok n_M rfl hname rfl (by decide +kernel) (fun _ => rfl) (fun _ => rfl) rfl d_M_init_17 h, List.forall_mem_cons.mpr ⟨fun S h => bs_aload_n (Z := Z) hx hb rfl d_M_init_20 h, List.forall_mem_cons.mpr ⟨fun S h => bs_bipush (Z := Z) hx hb (by decide) d_M_init_21 h, List.forall_mem_cons.mpr ⟨fun S h => bs_newa (Z := Z) (atype := .int) hx hb rfl hbs (hts _ (List.mem_cons_of_mem _ wd_82)) (hAr 43 (by decide)).2 rfl (by decide) (by decide) (by decide) (fun _ => rfl) (Nat.le_refl _) (Nat.le_refl _) d_M_init_23 h, List.forall_mem_cons.mpr ⟨fun S h => bs_pRF (Z := Z) (C := R_M) (T := F_M) (N := 40) (t := 40) (j := 3) (ty := (.array .int)) hx hb hK hts (fun w h => List.mem_cons_of_mem _ (iw_M w h)) hown rfl rfl (by decide) (hts _ (List.mem_cons_of_mem _ wd_787)) (fun _ h => h) rfl rfl t_M t_M_ok n_M rfl hname rfl (by decide +kernel) (fun _ => rfl) (fun _ => rfl) rfl d_M_init_25 h, List.forall_mem_cons.mpr ⟨fun S h => bs_aload_n (Z := Z) hx hb rfl d_M_init_28 h, List.forall_mem_cons.mpr ⟨fun S h => bs_bipush (Z := Z) hx hb (by decide) d_M_init_29 h, List.forall_mem_cons.mpr ⟨fun S h => bs_newa (Z := Z) (atype := .int) hx hb rfl hbs (hts _ (List.mem_cons_of_mem _ wd_82)) (hAr 44 (by decide)).2 rfl (by decide) (by decide) (by decide) (fun _ => rfl) (Nat.le_refl _) (Nat.le_refl _) d_M_init_31 h, List.forall_mem_cons.mpr ⟨fun S h => bs_pRF (Z := Z) (C := R_M) (T := F_M) (N := 40) (t := 40) (j := 4) (ty := (.array .int)) hx hb hK hts (fun w h => List.mem_cons_of_mem _ (iw_M w h)) hown rfl rfl (by decide) (hts _ (List.mem_cons_of_mem _ wd_788)) (fun _ h => h) rfl rfl t_M t_M_ok n_M rfl hname rfl (by decide +kernel) (fun _ => rfl) (fun _ => rfl) rfl d_M_init_33 h, List.forall_mem_cons.mpr ⟨fun S h => bs_aload_n (Z := Z) hx hb rfl d_M_init_36 h, List.forall_mem_cons.mpr ⟨fun S h => bs_bipush (Z := Z) hx hb (by decide) d_M_init_37 h, List.forall_mem_cons.mpr ⟨fun S h => bs_newa (Z := Z) (atype := .boolean) hx hb rfl hbs (hts _ (List.mem_cons_of_mem _ wd_83)) (hAr 45 (by decide)).2 rfl (by decide) (by decide) (by decide) (fun _ => rfl) (Nat.le_refl _) (Nat.le_refl _) d_M_init_39 h, List.forall_mem_cons.mpr ⟨fun S h => bs_pRF (Z := Z) (C := R_M) (T := F_M) (N := 40) (t := 40) (j := 5) (ty := (.array .boolean)) hx hb hK hts (fun w h => List.mem_cons_of_mem _ (iw_M w h)) hown rfl rfl (by decide) (hts _ (List.mem_cons_of_mem _ wd_789)) (fun _ h => h) rfl rfl t_M t_M_ok n_M rfl hname rfl (by decide +kernel) (fun _ => rfl) (fun _ => rfl) rfl d_M_init_41 h, List.forall_mem_cons.mpr ⟨fun S h => bs_aload_n (Z := Z) hx hb rfl d_M_init_44 h, List.forall_mem_cons.mpr ⟨fun S h => bs_bipush (Z := Z) hx hb (by decide) d_M_init_45 h, List.forall_mem_cons.mpr ⟨fun S h => bs_newa (Z := Z) (atype := .boolean) hx hb rfl hbs (hts _ (List.mem_cons_of_mem _ wd_83)) (hAr 46 (by decide)).2 rfl (by decide) (by decide) (by decide) (fun _ => rfl) (Nat.le_refl _) (Nat.le_refl _) d_M_init_47 h, List.forall_mem_cons.mpr ⟨fun S h => bs_pRF (Z := Z) (C := R_M) (T := F_M) (N := 40) (t := 40) (j := 6) (ty := (.array .boolean)) hx hb hK hts (fun w h => List.mem_cons_of_mem _ (iw_M w h)) hown rfl rfl (by decide) (hts _ (List.mem_cons_of_mem _ wd_790)) (fun _ h => h) rfl rfl t_M t_M_ok n_M rfl hname rfl (by decide +kernel) (fun _ => rfl) (fun _ => rfl) rfl d_M_init_49 h, List.forall_mem_cons.mpr ⟨fun S h => bs_aload_n (Z := Z) hx hb rfl d_M_init_52 h, List.forall_mem_cons.mpr ⟨fun S h => bs_bipush (Z := Z) hx hb (by decide) d_M_init_53 h, List.forall_mem_cons.mpr ⟨fun S h => bs_newa (Z := Z) (atype := .long) hx hb rfl hbs (hts _ (List.mem_cons_of_mem _ wd_905)) (hAr 47 (by decide)).2 rfl (by decide) (by decide) (by decide) (fun _ => rfl) (Nat.le_refl _) (Nat.le_refl _) d_M_init_55 h, List.forall_mem_cons.mpr ⟨fun S h => bs_pRF (Z := Z) (C := R_M) (T := F_M) (N := 40) (t := 40) (j := 7) (ty := (.array .long)) hx hb hK hts (fun w h => List.mem_cons_of_mem _ (iw_M w h)) hown rfl rfl (by decide) (hts _ (List.mem_cons_of_mem _ wd_791)) (fun _ h => h) rfl rfl t_M t_M_ok n_M rfl hname rfl (by decide +kernel) (fun _ => rfl) (fun _ => rfl) rfl d_M_init_57 h, List.forall_mem_cons.mpr ⟨fun S h => bs_aload_n (Z := Z) hx hb rfl d_M_init_60 h, List.forall_mem_cons.mpr ⟨fun S h => bs_bipush (Z := Z) hx hb (by decide) d_M_init_61 h, List.forall_mem_cons.mpr ⟨fun S h => bs_newa (Z := Z) (atype := .int) hx hb rfl hbs (hts _ (List.mem_cons_of_mem _ wd_82)) (hAr 48 (by decide)).2 rfl (by decide) (by decide) (by decide) (fun _ => rfl) (Nat.le_refl _) (Nat.le_refl _) d_M_init_63 h, List.forall_mem_cons.mpr ⟨fun S h => bs_pRF (Z := Z) (C := R_M) (T := F_M) (N := 40) (t := 40) (j := 8) (ty := (.array .int)) hx hb hK hts (fun w h => List.mem_cons_of_mem _ (iw_M w h)) hown rfl rfl (by decide) (hts _ (List.mem_cons_of_mem _ wd_792)) (fun _ h => h) rfl rfl t_M t_M_ok n_M rfl hname rfl (by decide +kernel) (fun _ => rfl) (fun _ => rfl) rfl d_M_init_65 h, List.forall_mem_cons.mpr ⟨fun S h => bs_aload_n (Z := Z) hx hb rfl d_M_init_68 h, List.forall_mem_cons.mpr ⟨fun S h => bs_bipush (Z := Z) hx hb (by decide) d_M_init_69 h, List.forall_mem_cons.mpr ⟨fun S h => bs_newa (Z := Z) (atype := .int) hx hb rfl hbs (hts _ (List.mem_cons_of_mem _ wd_82)) (hAr 49 (by decide)).2 rfl (by decide) (by decide) (by decide) (fun _ => rfl) (Nat.le_refl _) (Nat.le_refl _) d_M_init_71 h, List.forall_mem_cons.mpr ⟨fun S h => bs_pRF (Z := Z) (C := R_M) (T := F_M) (N := 40) (t := 40) (j := 9) (ty := (.array .int)) hx hb hK hts (fun w h => List.mem_cons_of_mem _ (iw_M w h)) hown rfl rfl (by decide) (hts _ (List.mem_cons_of_mem _ wd_793)) (fun _ h => h) rfl rfl t_M t_M_ok n_M rfl hname rfl (by decide +kernel) (fun _ => rfl) (fun _ => rfl) rfl d_M_init_73 h, List.forall_mem_cons.mpr ⟨fun S h => bs_aload_n (Z := Z) hx hb rfl d_M_init_76 h, List.forall_mem_cons.mpr ⟨fun S h => bs_bipush (Z := Z) hx hb (by decide) d_M_init_77 h, fun _ h => absurd h List.not_mem_nil⟩⟩⟩⟩⟩⟩⟩⟩⟩⟩⟩⟩⟩⟩⟩⟩⟩⟩⟩⟩⟩⟩⟩⟩⟩⟩⟩⟩⟩⟩⟩⟩⟩⟩⟩⟩⟩⟩⟩⟩
abbrev c_M_thrown : ByteArray := prog_10_method_2_code
def y_M_thrown : MethodName := ⟨"BundleHallModel", "thrown", "()I"⟩
theorem d_M_thrown_0 : decode c_M_thrown 0 = .ok (.aload_n 0, 1) := by decide +kernel
theorem d_M_thrown_1 : decode c_M_thrown 1 = .ok (.getfield 109, 3) := by decide +kernel
theorem d_M_thrown_4 : decode c_M_thrown 4 = .ok (.ireturn, 1) := by decide +kernel
def T_M_thrown_0 : List (Nat × bh_Op) := [(0, bo_ald 1 0),
  (1, bo_gI 4 40 0),
  (4, bo_iret 0)]
def T_M_thrown : List (Nat × bh_Op) := T_M_thrown_0
set_option maxRecDepth 20000 in
theorem mT_M_thrown_0 : ∀ q ∈ T_M_thrown_0, bh_mono q.2 := List.forall_mem_cons.mpr ⟨bo_ald_m _ _, List.forall_mem_cons.mpr ⟨bo_gI_m _ _ _, List.forall_mem_cons.mpr ⟨bo_iret_m _, fun _ h => absurd h List.not_mem_nil⟩⟩⟩
theorem m_M_thrown : ∀ pc, bh_mono (bh_tb (T_M_thrown) pc) := bh_tb_m mT_M_thrown_0
def F_M_thrown : bh_Fn := bh_fn 1 (bh_tb T_M_thrown)
theorem mF_M_thrown : bh_monoF F_M_thrown := bh_fn_m m_M_thrown
theorem cl_M_thrown {s : State} {args : Array Value} (d B : Nat) (hts : ∀ w ∈ bh_ws, w.before args s = true) : bh_Cal (bh_rm (d + 1) B) s y_M_thrown 1 (.code y_M_thrown c_M_thrown 1 (some .int) :: bh_ws) (bh_rm d 0) 0 0 := bh_cal d B hts wd_910 wd_9 (by decide) (by decide +kernel)
set_option maxHeartbeats 4000000 in
set_option maxRecDepth 100000 in
theorem cn_M_thrown {l : Launch} {G : bh_G} {base sb L : Nat} {xs : Nat → Int32} (htr : l.stackTraces = false) (d : Nat) : bh_Con l G base (bh_Bg G base sb L xs) y_M_thrown (.code y_M_thrown c_M_thrown 1 (some .int) :: bh_ws) (bh_rm (d + 1) 0) 0 false F_M_thrown := by
  refine bh_method (cc := c_M_thrown) (ret := (some .int)) (by decide +kernel) rfl ?_
  intro p e s m args below meth c ad0 M0 Z X0 hr hlocks hname htab hbs hB
  obtain ⟨hx, hb, hml, hown, hts⟩ := id X0
  have hw : ∀ w ∈ bh_ws, w.before args s = true := fun w h => hts w (List.mem_cons_of_mem _ h)
  have hBg := bh_BgK (G := G) (base := base) (sb := sb) (L := L) (xs := xs)
  obtain ⟨hK, hAr, hen, hinj, hu1, hu2, hstr, hX, hsb, hsc, hxw, hao, hnc⟩ := id hB
  obtain ⟨ha1, ha2, ha3, ha4, ha5, ha6, ha0⟩ := bh_arr hAr
  exact List.forall_mem_cons.mpr ⟨fun S h => bs_aload_n (Z := Z) hx hb rfl d_M_thrown_0 h, List.forall_mem_cons.mpr ⟨fun S h => bs_gI (Z := Z) (C := R_M) (T := F_M) (N := 40) (t := 40) (j := 0) hx hb hK hts (fun w h => List.mem_cons_of_mem _ (iw_M w h)) hown rfl rfl (by decide) (hts _ (List.mem_cons_of_mem _ wd_784)) (fun _ h => h) rfl rfl rfl d_M_thrown_1 h, List.forall_mem_cons.mpr ⟨fun S h => bs_iret (Z := Z) hx hb hr hlocks d_M_thrown_4 h, fun _ h => absurd h List.not_mem_nil⟩⟩⟩
abbrev c_M_in : ByteArray := prog_10_method_4_code
def y_M_in : MethodName := ⟨"BundleHallModel", "in", "(III)Z"⟩
theorem d_M_in_0 : decode c_M_in 0 = .ok (.iload_n 0, 1) := by decide +kernel
theorem d_M_in_1 : decode c_M_in 1 = .ok (.iload_n 1, 1) := by decide +kernel
theorem d_M_in_2 : decode c_M_in 2 = .ok (.if_icmp .lt 12, 3) := by decide +kernel
theorem d_M_in_5 : decode c_M_in 5 = .ok (.iload_n 0, 1) := by decide +kernel
theorem d_M_in_6 : decode c_M_in 6 = .ok (.iload_n 2, 1) := by decide +kernel
theorem d_M_in_7 : decode c_M_in 7 = .ok (.if_icmp .gt 7, 3) := by decide +kernel
theorem d_M_in_10 : decode c_M_in 10 = .ok (.iconst 1, 1) := by decide +kernel
theorem d_M_in_11 : decode c_M_in 11 = .ok (.goto 4, 3) := by decide +kernel
theorem d_M_in_14 : decode c_M_in 14 = .ok (.iconst 0, 1) := by decide +kernel
theorem d_M_in_15 : decode c_M_in 15 = .ok (.ireturn, 1) := by decide +kernel
def T_M_in_0 : List (Nat × bh_Op) := [(0, bo_ild 1 0),
  (1, bo_ild 2 1),
  (2, bo_if2 5 14 (fun x y => x < y)),
  (5, bo_ild 6 0),
  (6, bo_ild 7 2),
  (7, bo_if2 10 14 (fun x y => y < x)),
  (10, bo_st 11 (bg_push (.inl (.int 1)))),
  (11, bo_go 15),
  (14, bo_st 15 (bg_push (.inl (.int 0)))),
  (15, bo_zret 0)]
def T_M_in : List (Nat × bh_Op) := T_M_in_0
set_option maxRecDepth 20000 in
theorem mT_M_in_0 : ∀ q ∈ T_M_in_0, bh_mono q.2 := List.forall_mem_cons.mpr ⟨bo_ild_m _ _, List.forall_mem_cons.mpr ⟨bo_ild_m _ _, List.forall_mem_cons.mpr ⟨bo_if2_m _ _ _, List.forall_mem_cons.mpr ⟨bo_ild_m _ _, List.forall_mem_cons.mpr ⟨bo_ild_m _ _, List.forall_mem_cons.mpr ⟨bo_if2_m _ _ _, List.forall_mem_cons.mpr ⟨bo_st_mono (bg_push_m _), List.forall_mem_cons.mpr ⟨bo_go_m _, List.forall_mem_cons.mpr ⟨bo_st_mono (bg_push_m _), List.forall_mem_cons.mpr ⟨bo_zret_m _, fun _ h => absurd h List.not_mem_nil⟩⟩⟩⟩⟩⟩⟩⟩⟩⟩
theorem m_M_in : ∀ pc, bh_mono (bh_tb (T_M_in) pc) := bh_tb_m mT_M_in_0
def F_M_in : bh_Fn := bh_fn 3 (bh_tb T_M_in)
theorem mF_M_in : bh_monoF F_M_in := bh_fn_m m_M_in
theorem cl_M_in {s : State} {args : Array Value} (d B : Nat) (hts : ∀ w ∈ bh_ws, w.before args s = true) : bh_Cal (bh_rm (d + 1) B) s y_M_in 3 (.code y_M_in c_M_in 3 (some .boolean) :: bh_ws) (bh_rm d 0) 0 3 := bh_cal d B hts wd_920 wd_9 (by decide) (by decide +kernel)
set_option maxHeartbeats 4000000 in
set_option maxRecDepth 100000 in
theorem cn_M_in {l : Launch} {G : bh_G} {base sb L : Nat} {xs : Nat → Int32} (htr : l.stackTraces = false) (d : Nat) : bh_Con l G base (bh_Bg G base sb L xs) y_M_in (.code y_M_in c_M_in 3 (some .boolean) :: bh_ws) (bh_rm (d + 1) 0) 0 false F_M_in := by
  refine bh_method (cc := c_M_in) (ret := (some .boolean)) (by decide +kernel) rfl ?_
  intro p e s m args below meth c ad0 M0 Z X0 hr hlocks hname htab hbs hB
  obtain ⟨hx, hb, hml, hown, hts⟩ := id X0
  have hw : ∀ w ∈ bh_ws, w.before args s = true := fun w h => hts w (List.mem_cons_of_mem _ h)
  have hBg := bh_BgK (G := G) (base := base) (sb := sb) (L := L) (xs := xs)
  obtain ⟨hK, hAr, hen, hinj, hu1, hu2, hstr, hX, hsb, hsc, hxw, hao, hnc⟩ := id hB
  obtain ⟨ha1, ha2, ha3, ha4, ha5, ha6, ha0⟩ := bh_arr hAr
  exact List.forall_mem_cons.mpr ⟨fun S h => bs_iload_n (Z := Z) hx hb rfl d_M_in_0 h, List.forall_mem_cons.mpr ⟨fun S h => bs_iload_n (Z := Z) hx hb rfl d_M_in_1 h, List.forall_mem_cons.mpr ⟨fun S h => bs_icmp_lt (Z := Z) hx hb d_M_in_2 (by decide) h, List.forall_mem_cons.mpr ⟨fun S h => bs_iload_n (Z := Z) hx hb rfl d_M_in_5 h, List.forall_mem_cons.mpr ⟨fun S h => bs_iload_n (Z := Z) hx hb rfl d_M_in_6 h, List.forall_mem_cons.mpr ⟨fun S h => bs_icmp_gt (Z := Z) hx hb d_M_in_7 (by decide) h, List.forall_mem_cons.mpr ⟨fun S h => bs_iconst (Z := Z) hx hb (by decide) d_M_in_10 h, List.forall_mem_cons.mpr ⟨fun S h => bs_goto (Z := Z) hx hb d_M_in_11 (by decide) h, List.forall_mem_cons.mpr ⟨fun S h => bs_iconst (Z := Z) hx hb (by decide) d_M_in_14 h, List.forall_mem_cons.mpr ⟨fun S h => bs_zret (Z := Z) hx hb hr hlocks d_M_in_15 h, fun _ h => absurd h List.not_mem_nil⟩⟩⟩⟩⟩⟩⟩⟩⟩⟩
abbrev c_M_isBundle : ByteArray := prog_10_method_5_code
def y_M_isBundle : MethodName := ⟨"BundleHallModel", "isBundle", "(I)Z"⟩
theorem d_M_isBundle_0 : decode c_M_isBundle 0 = .ok (.iload_n 0, 1) := by decide +kernel
theorem d_M_isBundle_1 : decode c_M_isBundle 1 = .ok (.iconst 0, 1) := by decide +kernel
theorem d_M_isBundle_2 : decode c_M_isBundle 2 = .ok (.bipush 7, 2) := by decide +kernel
theorem d_M_isBundle_4 : decode c_M_isBundle 4 = .ok (.invokestatic 112, 3) := by decide +kernel
theorem d_M_isBundle_7 : decode c_M_isBundle 7 = .ok (.ireturn, 1) := by decide +kernel
def T_M_isBundle_0 : List (Nat × bh_Op) := [(0, bo_ild 1 0),
  (1, bo_st 2 (bg_push (.inl (.int 0)))),
  (2, bo_st 4 (bg_push (.inl (.int 7)))),
  (4, bo_callS 7 3 0 0 F_M_in),
  (7, bo_zret 0)]
def T_M_isBundle : List (Nat × bh_Op) := T_M_isBundle_0
set_option maxRecDepth 20000 in
theorem mT_M_isBundle_0 : ∀ q ∈ T_M_isBundle_0, bh_mono q.2 := List.forall_mem_cons.mpr ⟨bo_ild_m _ _, List.forall_mem_cons.mpr ⟨bo_st_mono (bg_push_m _), List.forall_mem_cons.mpr ⟨bo_st_mono (bg_push_m _), List.forall_mem_cons.mpr ⟨bo_callS_m (mF_M_in) _ _ _ _, List.forall_mem_cons.mpr ⟨bo_zret_m _, fun _ h => absurd h List.not_mem_nil⟩⟩⟩⟩⟩
theorem m_M_isBundle : ∀ pc, bh_mono (bh_tb (T_M_isBundle) pc) := bh_tb_m mT_M_isBundle_0
def F_M_isBundle : bh_Fn := bh_fn 1 (bh_tb T_M_isBundle)
theorem mF_M_isBundle : bh_monoF F_M_isBundle := bh_fn_m m_M_isBundle
theorem cl_M_isBundle {s : State} {args : Array Value} (d B : Nat) (hts : ∀ w ∈ bh_ws, w.before args s = true) : bh_Cal (bh_rm (d + 1) B) s y_M_isBundle 1 (.code y_M_isBundle c_M_isBundle 1 (some .boolean) :: bh_ws) (bh_rm d 0) 0 1 := bh_cal d B hts wd_917 wd_9 (by decide) (by decide +kernel)
set_option maxHeartbeats 4000000 in
set_option maxRecDepth 100000 in
theorem cn_M_isBundle {l : Launch} {G : bh_G} {base sb L : Nat} {xs : Nat → Int32} (htr : l.stackTraces = false) (d : Nat) : bh_Con l G base (bh_Bg G base sb L xs) y_M_isBundle (.code y_M_isBundle c_M_isBundle 1 (some .boolean) :: bh_ws) (bh_rm (d + 2) 0) 0 false F_M_isBundle := by
  refine bh_method (cc := c_M_isBundle) (ret := (some .boolean)) (by decide +kernel) rfl ?_
  intro p e s m args below meth c ad0 M0 Z X0 hr hlocks hname htab hbs hB
  obtain ⟨hx, hb, hml, hown, hts⟩ := id X0
  have hw : ∀ w ∈ bh_ws, w.before args s = true := fun w h => hts w (List.mem_cons_of_mem _ h)
  have hBg := bh_BgK (G := G) (base := base) (sb := sb) (L := L) (xs := xs)
  obtain ⟨hK, hAr, hen, hinj, hu1, hu2, hstr, hX, hsb, hsc, hxw, hao, hnc⟩ := id hB
  obtain ⟨ha1, ha2, ha3, ha4, ha5, ha6, ha0⟩ := bh_arr hAr
  exact List.forall_mem_cons.mpr ⟨fun S h => bs_iload_n (Z := Z) hx hb rfl d_M_isBundle_0 h, List.forall_mem_cons.mpr ⟨fun S h => bs_iconst (Z := Z) hx hb (by decide) d_M_isBundle_1 h, List.forall_mem_cons.mpr ⟨fun S h => bs_bipush (Z := Z) hx hb (by decide) d_M_isBundle_2 h, List.forall_mem_cons.mpr ⟨fun S h => bs_callS (Z := Z) hBg hbs hB X0 (cn_M_in htr (d + 0)) (cl_M_in _ _ hw) (hts _ (List.mem_cons_of_mem _ wd_918)) (hts _ (List.mem_cons_of_mem _ wd_919)) (Nat.le_refl _) (Nat.le_refl _) d_M_isBundle_4 (bs_out htab hlocks) h, List.forall_mem_cons.mpr ⟨fun S h => bs_zret (Z := Z) hx hb hr hlocks d_M_isBundle_7 h, fun _ h => absurd h List.not_mem_nil⟩⟩⟩⟩⟩
abbrev c_M_raise : ByteArray := prog_10_method_3_code
def y_M_raise : MethodName := ⟨"BundleHallModel", "raise", "(I)I"⟩
theorem d_M_raise_0 : decode c_M_raise 0 = .ok (.aload_n 0, 1) := by decide +kernel
theorem d_M_raise_1 : decode c_M_raise 1 = .ok (.iload_n 1, 1) := by decide +kernel
theorem d_M_raise_2 : decode c_M_raise 2 = .ok (.putfield 109, 3) := by decide +kernel
theorem d_M_raise_5 : decode c_M_raise 5 = .ok (.iconst 0, 1) := by decide +kernel
theorem d_M_raise_6 : decode c_M_raise 6 = .ok (.ireturn, 1) := by decide +kernel
def T_M_raise_0 : List (Nat × bh_Op) := [(0, bo_ald 1 0),
  (1, bo_ild 2 1),
  (2, bo_pI 5 40 0),
  (5, bo_st 6 (bg_push (.inl (.int 0)))),
  (6, bo_iret 0)]
def T_M_raise : List (Nat × bh_Op) := T_M_raise_0
set_option maxRecDepth 20000 in
theorem mT_M_raise_0 : ∀ q ∈ T_M_raise_0, bh_mono q.2 := List.forall_mem_cons.mpr ⟨bo_ald_m _ _, List.forall_mem_cons.mpr ⟨bo_ild_m _ _, List.forall_mem_cons.mpr ⟨bo_pI_m _ _ _, List.forall_mem_cons.mpr ⟨bo_st_mono (bg_push_m _), List.forall_mem_cons.mpr ⟨bo_iret_m _, fun _ h => absurd h List.not_mem_nil⟩⟩⟩⟩⟩
theorem m_M_raise : ∀ pc, bh_mono (bh_tb (T_M_raise) pc) := bh_tb_m mT_M_raise_0
def F_M_raise : bh_Fn := bh_fn 2 (bh_tb T_M_raise)
theorem mF_M_raise : bh_monoF F_M_raise := bh_fn_m m_M_raise
theorem cl_M_raise {s : State} {args : Array Value} (d B : Nat) (hts : ∀ w ∈ bh_ws, w.before args s = true) : bh_Cal (bh_rm (d + 1) B) s y_M_raise 2 (.code y_M_raise c_M_raise 2 (some .int) :: bh_ws) (bh_rm d 0) 0 1 := bh_cal d B hts wd_924 wd_9 (by decide) (by decide +kernel)
set_option maxHeartbeats 4000000 in
set_option maxRecDepth 100000 in
theorem cn_M_raise {l : Launch} {G : bh_G} {base sb L : Nat} {xs : Nat → Int32} (htr : l.stackTraces = false) (d : Nat) : bh_Con l G base (bh_Bg G base sb L xs) y_M_raise (.code y_M_raise c_M_raise 2 (some .int) :: bh_ws) (bh_rm (d + 1) 0) 0 false F_M_raise := by
  refine bh_method (cc := c_M_raise) (ret := (some .int)) (by decide +kernel) rfl ?_
  intro p e s m args below meth c ad0 M0 Z X0 hr hlocks hname htab hbs hB
  obtain ⟨hx, hb, hml, hown, hts⟩ := id X0
  have hw : ∀ w ∈ bh_ws, w.before args s = true := fun w h => hts w (List.mem_cons_of_mem _ h)
  have hBg := bh_BgK (G := G) (base := base) (sb := sb) (L := L) (xs := xs)
  obtain ⟨hK, hAr, hen, hinj, hu1, hu2, hstr, hX, hsb, hsc, hxw, hao, hnc⟩ := id hB
  obtain ⟨ha1, ha2, ha3, ha4, ha5, ha6, ha0⟩ := bh_arr hAr
  exact List.forall_mem_cons.mpr ⟨fun S h => bs_aload_n (Z := Z) hx hb rfl d_M_raise_0 h, List.forall_mem_cons.mpr ⟨fun S h => bs_iload_n (Z := Z) hx hb rfl d_M_raise_1 h, List.forall_mem_cons.mpr ⟨fun S h => bs_pI (Z := Z) (C := R_M) (T := F_M) (N := 40) (t := 40) (j := 0) hx hb hK hts (fun w h => List.mem_cons_of_mem _ (iw_M w h)) hown rfl rfl (by decide) (hts _ (List.mem_cons_of_mem _ wd_784)) (fun _ h => h) rfl rfl t_M t_M_ok n_M rfl (by decide +kernel) rfl d_M_raise_2 h, List.forall_mem_cons.mpr ⟨fun S h => bs_iconst (Z := Z) hx hb (by decide) d_M_raise_5 h, List.forall_mem_cons.mpr ⟨fun S h => bs_iret (Z := Z) hx hb hr hlocks d_M_raise_6 h, fun _ h => absurd h List.not_mem_nil⟩⟩⟩⟩⟩
abbrev c_M_unwire : ByteArray := prog_10_method_8_code
def y_M_unwire : MethodName := ⟨"BundleHallModel", "unwire", "(I)V"⟩
theorem d_M_unwire_0 : decode c_M_unwire 0 = .ok (.iconst 3, 1) := by decide +kernel
theorem d_M_unwire_1 : decode c_M_unwire 1 = .ok (.iload_n 1, 1) := by decide +kernel
theorem d_M_unwire_2 : decode c_M_unwire 2 = .ok (.imul, 1) := by decide +kernel
theorem d_M_unwire_3 : decode c_M_unwire 3 = .ok (.istore_n 2, 1) := by decide +kernel
theorem d_M_unwire_4 : decode c_M_unwire 4 = .ok (.iload_n 2, 1) := by decide +kernel
theorem d_M_unwire_5 : decode c_M_unwire 5 = .ok (.iconst 3, 1) := by decide +kernel
theorem d_M_unwire_6 : decode c_M_unwire 6 = .ok (.iload_n 1, 1) := by decide +kernel
theorem d_M_unwire_7 : decode c_M_unwire 7 = .ok (.imul, 1) := by decide +kernel
theorem d_M_unwire_8 : decode c_M_unwire 8 = .ok (.iconst 3, 1) := by decide +kernel
theorem d_M_unwire_9 : decode c_M_unwire 9 = .ok (.iadd, 1) := by decide +kernel
theorem d_M_unwire_10 : decode c_M_unwire 10 = .ok (.if_icmp .ge 18, 3) := by decide +kernel
theorem d_M_unwire_13 : decode c_M_unwire 13 = .ok (.aload_n 0, 1) := by decide +kernel
theorem d_M_unwire_14 : decode c_M_unwire 14 = .ok (.getfield 60, 3) := by decide +kernel
theorem d_M_unwire_17 : decode c_M_unwire 17 = .ok (.iload_n 2, 1) := by decide +kernel
theorem d_M_unwire_18 : decode c_M_unwire 18 = .ok (.ldc2_w 107, 3) := by decide +kernel
theorem d_M_unwire_21 : decode c_M_unwire 21 = .ok (.lastore, 1) := by decide +kernel
theorem d_M_unwire_22 : decode c_M_unwire 22 = .ok (.iinc 2 1, 3) := by decide +kernel
theorem d_M_unwire_25 : decode c_M_unwire 25 = .ok (.goto (-21), 3) := by decide +kernel
theorem d_M_unwire_28 : decode c_M_unwire 28 = .ok (.return_, 1) := by decide +kernel
def T_M_unwire_0 : List (Nat × bh_Op) := [(0, bo_st 1 (bg_push (.inl (.int 3)))),
  (1, bo_ild 2 1),
  (2, bo_st 3 (bg_ii (fun x y => x * y))),
  (3, bo_ist 4 2),
  (4, bo_ild 5 2),
  (5, bo_st 6 (bg_push (.inl (.int 3)))),
  (6, bo_ild 7 1),
  (7, bo_st 8 (bg_ii (fun x y => x * y))),
  (8, bo_st 9 (bg_push (.inl (.int 3)))),
  (9, bo_st 10 (bg_ii (fun x y => x + y))),
  (10, bo_if2 13 28 (fun x y => y ≤ x)),
  (13, bo_ald 14 0),
  (14, bo_gR 17 40 17 57),
  (17, bo_ild 18 2),
  (18, bo_st 21 (bg_push (.inl (.long (-1))))),
  (21, bo_Jast bh_ak bh_al 22),
  (22, bo_inc 25 2 1),
  (25, bo_go 4),
  (28, bo_vret 0)]
def T_M_unwire : List (Nat × bh_Op) := T_M_unwire_0
set_option maxRecDepth 20000 in
theorem mT_M_unwire_0 : ∀ q ∈ T_M_unwire_0, bh_mono q.2 := List.forall_mem_cons.mpr ⟨bo_st_mono (bg_push_m _), List.forall_mem_cons.mpr ⟨bo_ild_m _ _, List.forall_mem_cons.mpr ⟨bo_st_mono (bg_ii_m _), List.forall_mem_cons.mpr ⟨bo_ist_m _ _, List.forall_mem_cons.mpr ⟨bo_ild_m _ _, List.forall_mem_cons.mpr ⟨bo_st_mono (bg_push_m _), List.forall_mem_cons.mpr ⟨bo_ild_m _ _, List.forall_mem_cons.mpr ⟨bo_st_mono (bg_ii_m _), List.forall_mem_cons.mpr ⟨bo_st_mono (bg_push_m _), List.forall_mem_cons.mpr ⟨bo_st_mono (bg_ii_m _), List.forall_mem_cons.mpr ⟨bo_if2_m _ _ _, List.forall_mem_cons.mpr ⟨bo_ald_m _ _, List.forall_mem_cons.mpr ⟨bo_gR_m _ _ _ _, List.forall_mem_cons.mpr ⟨bo_ild_m _ _, List.forall_mem_cons.mpr ⟨bo_st_mono (bg_push_m _), List.forall_mem_cons.mpr ⟨bo_Jast_m _ _ _, List.forall_mem_cons.mpr ⟨bo_inc_m _ _ _, List.forall_mem_cons.mpr ⟨bo_go_m _, List.forall_mem_cons.mpr ⟨bo_vret_m _, fun _ h => absurd h List.not_mem_nil⟩⟩⟩⟩⟩⟩⟩⟩⟩⟩⟩⟩⟩⟩⟩⟩⟩⟩⟩
theorem m_M_unwire : ∀ pc, bh_mono (bh_tb (T_M_unwire) pc) := bh_tb_m mT_M_unwire_0
def F_M_unwire : bh_Fn := bh_fn 3 (bh_tb T_M_unwire)
theorem mF_M_unwire : bh_monoF F_M_unwire := bh_fn_m m_M_unwire
theorem cl_M_unwire {s : State} {args : Array Value} (d B : Nat) (hts : ∀ w ∈ bh_ws, w.before args s = true) : bh_Cal (bh_rm (d + 1) B) s y_M_unwire 3 (.code y_M_unwire c_M_unwire 3 none :: bh_ws) (bh_rm d 0) 0 1 := bh_cal d B hts wd_932 wd_9 (by decide) (by decide +kernel)
set_option maxHeartbeats 4000000 in
set_option maxRecDepth 100000 in
theorem cn_M_unwire {l : Launch} {G : bh_G} {base sb L : Nat} {xs : Nat → Int32} (htr : l.stackTraces = false) (d : Nat) : bh_Con l G base (bh_Bg G base sb L xs) y_M_unwire (.code y_M_unwire c_M_unwire 3 none :: bh_ws) (bh_rm (d + 1) 0) 0 false F_M_unwire := by
  refine bh_method (cc := c_M_unwire) (ret := none) (by decide +kernel) rfl ?_
  intro p e s m args below meth c ad0 M0 Z X0 hr hlocks hname htab hbs hB
  obtain ⟨hx, hb, hml, hown, hts⟩ := id X0
  have hw : ∀ w ∈ bh_ws, w.before args s = true := fun w h => hts w (List.mem_cons_of_mem _ h)
  have hBg := bh_BgK (G := G) (base := base) (sb := sb) (L := L) (xs := xs)
  obtain ⟨hK, hAr, hen, hinj, hu1, hu2, hstr, hX, hsb, hsc, hxw, hao, hnc⟩ := id hB
  obtain ⟨ha1, ha2, ha3, ha4, ha5, ha6, ha0⟩ := bh_arr hAr
  exact List.forall_mem_cons.mpr ⟨fun S h => bs_iconst (Z := Z) hx hb (by decide) d_M_unwire_0 h, List.forall_mem_cons.mpr ⟨fun S h => bs_iload_n (Z := Z) hx hb rfl d_M_unwire_1 h, List.forall_mem_cons.mpr ⟨fun S h => bs_imul (Z := Z) hx hb d_M_unwire_2 h, List.forall_mem_cons.mpr ⟨fun S h => bs_istore_n (Z := Z) hx hb rfl d_M_unwire_3 h, List.forall_mem_cons.mpr ⟨fun S h => bs_iload_n (Z := Z) hx hb rfl d_M_unwire_4 h, List.forall_mem_cons.mpr ⟨fun S h => bs_iconst (Z := Z) hx hb (by decide) d_M_unwire_5 h, List.forall_mem_cons.mpr ⟨fun S h => bs_iload_n (Z := Z) hx hb rfl d_M_unwire_6 h, List.forall_mem_cons.mpr ⟨fun S h => bs_imul (Z := Z) hx hb d_M_unwire_7 h, List.forall_mem_cons.mpr ⟨fun S h => bs_iconst (Z := Z) hx hb (by decide) d_M_unwire_8 h, List.forall_mem_cons.mpr ⟨fun S h => bs_iadd (Z := Z) hx hb d_M_unwire_9 h, List.forall_mem_cons.mpr ⟨fun S h => bs_icmp_ge (Z := Z) hx hb d_M_unwire_10 (by decide) h, List.forall_mem_cons.mpr ⟨fun S h => bs_aload_n (Z := Z) hx hb rfl d_M_unwire_13 h, List.forall_mem_cons.mpr ⟨fun S h => bs_gR (Z := Z) (C := R_M) (T := F_M) (N := 40) (t := 40) (j := 17) hx hb hK hts (fun w h => List.mem_cons_of_mem _ (iw_M w h)) hown rfl rfl (by decide) (hts _ (List.mem_cons_of_mem _ wd_801)) (fun _ h => h) rfl rfl rfl d_M_unwire_14 h, List.forall_mem_cons.mpr ⟨fun S h => bs_iload_n (Z := Z) hx hb rfl d_M_unwire_17 h, List.forall_mem_cons.mpr ⟨fun S h => bs_ldcl (Z := Z) hx hb hown (hts _ (List.mem_cons_of_mem _ wd_783)) d_M_unwire_18 h, List.forall_mem_cons.mpr ⟨fun S h => bs_Jast (Z := Z) hx hb ha3 d_M_unwire_21 h, List.forall_mem_cons.mpr ⟨fun S h => bs_iinc (Z := Z) hx hb (by decide) d_M_unwire_22 h, List.forall_mem_cons.mpr ⟨fun S h => bs_goto (Z := Z) hx hb d_M_unwire_25 (by decide) h, List.forall_mem_cons.mpr ⟨fun S h => bs_vret (Z := Z) hx hb hr hlocks d_M_unwire_28 h, fun _ h => absurd h List.not_mem_nil⟩⟩⟩⟩⟩⟩⟩⟩⟩⟩⟩⟩⟩⟩⟩⟩⟩⟩⟩
abbrev c_M_empty : ByteArray := prog_10_method_7_code
def y_M_empty : MethodName := ⟨"BundleHallModel", "empty", "(I)V"⟩
theorem d_M_empty_0 : decode c_M_empty 0 = .ok (.aload_n 0, 1) := by decide +kernel
theorem d_M_empty_1 : decode c_M_empty 1 = .ok (.getfield 33, 3) := by decide +kernel
theorem d_M_empty_4 : decode c_M_empty 4 = .ok (.iload_n 1, 1) := by decide +kernel
theorem d_M_empty_5 : decode c_M_empty 5 = .ok (.iconst 0, 1) := by decide +kernel
theorem d_M_empty_6 : decode c_M_empty 6 = .ok (.iastore, 1) := by decide +kernel
theorem d_M_empty_7 : decode c_M_empty 7 = .ok (.aload_n 0, 1) := by decide +kernel
theorem d_M_empty_8 : decode c_M_empty 8 = .ok (.getfield 45, 3) := by decide +kernel
theorem d_M_empty_11 : decode c_M_empty 11 = .ok (.iload_n 1, 1) := by decide +kernel
theorem d_M_empty_12 : decode c_M_empty 12 = .ok (.iconst 0, 1) := by decide +kernel
theorem d_M_empty_13 : decode c_M_empty 13 = .ok (.iastore, 1) := by decide +kernel
theorem d_M_empty_14 : decode c_M_empty 14 = .ok (.aload_n 0, 1) := by decide +kernel
theorem d_M_empty_15 : decode c_M_empty 15 = .ok (.getfield 26, 3) := by decide +kernel
theorem d_M_empty_18 : decode c_M_empty 18 = .ok (.iload_n 1, 1) := by decide +kernel
theorem d_M_empty_19 : decode c_M_empty 19 = .ok (.iconst 0, 1) := by decide +kernel
theorem d_M_empty_20 : decode c_M_empty 20 = .ok (.bastore, 1) := by decide +kernel
theorem d_M_empty_21 : decode c_M_empty 21 = .ok (.aload_n 0, 1) := by decide +kernel
theorem d_M_empty_22 : decode c_M_empty 22 = .ok (.getfield 29, 3) := by decide +kernel
theorem d_M_empty_25 : decode c_M_empty 25 = .ok (.iload_n 1, 1) := by decide +kernel
theorem d_M_empty_26 : decode c_M_empty 26 = .ok (.dup2, 1) := by decide +kernel
theorem d_M_empty_27 : decode c_M_empty 27 = .ok (.laload, 1) := by decide +kernel
theorem d_M_empty_28 : decode c_M_empty 28 = .ok (.lconst 1, 1) := by decide +kernel
theorem d_M_empty_29 : decode c_M_empty 29 = .ok (.ladd, 1) := by decide +kernel
theorem d_M_empty_30 : decode c_M_empty 30 = .ok (.lastore, 1) := by decide +kernel
theorem d_M_empty_31 : decode c_M_empty 31 = .ok (.aload_n 0, 1) := by decide +kernel
theorem d_M_empty_32 : decode c_M_empty 32 = .ok (.iload_n 1, 1) := by decide +kernel
theorem d_M_empty_33 : decode c_M_empty 33 = .ok (.invokevirtual 122, 3) := by decide +kernel
theorem d_M_empty_36 : decode c_M_empty 36 = .ok (.return_, 1) := by decide +kernel
def T_M_empty_0 : List (Nat × bh_Op) := [(0, bo_ald 1 0),
  (1, bo_gR 4 40 8 48),
  (4, bo_ild 5 1),
  (5, bo_st 6 (bg_push (.inl (.int 0)))),
  (6, bo_Iast bh_ak bh_al 7),
  (7, bo_ald 8 0),
  (8, bo_gR 11 40 12 52),
  (11, bo_ild 12 1),
  (12, bo_st 13 (bg_push (.inl (.int 0)))),
  (13, bo_Iast bh_ak bh_al 14),
  (14, bo_ald 15 0),
  (15, bo_gR 18 40 6 46),
  (18, bo_ild 19 1),
  (19, bo_st 20 (bg_push (.inl (.int 0)))),
  (20, bo_Zast bh_ak bh_al 21),
  (21, bo_ald 22 0),
  (22, bo_gR 25 40 7 47),
  (25, bo_ild 26 1),
  (26, bo_st 27 bg_dup2),
  (27, bo_Jald bh_ak bh_al 28),
  (28, bo_st 29 (bg_push (.inl (.long 1)))),
  (29, bo_st 30 (bg_ll (fun x y => x + y))),
  (30, bo_Jast bh_ak bh_al 31),
  (31, bo_ald 32 0),
  (32, bo_ild 33 1),
  (33, bo_callV 36 2 0 0 40 F_M_unwire),
  (36, bo_vret 0)]
def T_M_empty : List (Nat × bh_Op) := T_M_empty_0
set_option maxRecDepth 20000 in
theorem mT_M_empty_0 : ∀ q ∈ T_M_empty_0, bh_mono q.2 := List.forall_mem_cons.mpr ⟨bo_ald_m _ _, List.forall_mem_cons.mpr ⟨bo_gR_m _ _ _ _, List.forall_mem_cons.mpr ⟨bo_ild_m _ _, List.forall_mem_cons.mpr ⟨bo_st_mono (bg_push_m _), List.forall_mem_cons.mpr ⟨bo_Iast_m _ _ _, List.forall_mem_cons.mpr ⟨bo_ald_m _ _, List.forall_mem_cons.mpr ⟨bo_gR_m _ _ _ _, List.forall_mem_cons.mpr ⟨bo_ild_m _ _, List.forall_mem_cons.mpr ⟨bo_st_mono (bg_push_m _), List.forall_mem_cons.mpr ⟨bo_Iast_m _ _ _, List.forall_mem_cons.mpr ⟨bo_ald_m _ _, List.forall_mem_cons.mpr ⟨bo_gR_m _ _ _ _, List.forall_mem_cons.mpr ⟨bo_ild_m _ _, List.forall_mem_cons.mpr ⟨bo_st_mono (bg_push_m _), List.forall_mem_cons.mpr ⟨bo_Zast_m _ _ _, List.forall_mem_cons.mpr ⟨bo_ald_m _ _, List.forall_mem_cons.mpr ⟨bo_gR_m _ _ _ _, List.forall_mem_cons.mpr ⟨bo_ild_m _ _, List.forall_mem_cons.mpr ⟨bo_st_mono bg_dup2_m, List.forall_mem_cons.mpr ⟨bo_Jald_m _ _ _, List.forall_mem_cons.mpr ⟨bo_st_mono (bg_push_m _), List.forall_mem_cons.mpr ⟨bo_st_mono (bg_ll_m _), List.forall_mem_cons.mpr ⟨bo_Jast_m _ _ _, List.forall_mem_cons.mpr ⟨bo_ald_m _ _, List.forall_mem_cons.mpr ⟨bo_ild_m _ _, List.forall_mem_cons.mpr ⟨bo_callV_m (mF_M_unwire) _ _ _ _ _, List.forall_mem_cons.mpr ⟨bo_vret_m _, fun _ h => absurd h List.not_mem_nil⟩⟩⟩⟩⟩⟩⟩⟩⟩⟩⟩⟩⟩⟩⟩⟩⟩⟩⟩⟩⟩⟩⟩⟩⟩⟩⟩
theorem m_M_empty : ∀ pc, bh_mono (bh_tb (T_M_empty) pc) := bh_tb_m mT_M_empty_0
def F_M_empty : bh_Fn := bh_fn 2 (bh_tb T_M_empty)
theorem mF_M_empty : bh_monoF F_M_empty := bh_fn_m m_M_empty
theorem cl_M_empty {s : State} {args : Array Value} (d B : Nat) (hts : ∀ w ∈ bh_ws, w.before args s = true) : bh_Cal (bh_rm (d + 1) B) s y_M_empty 2 (.code y_M_empty c_M_empty 2 none :: bh_ws) (bh_rm d 0) 0 1 := bh_cal d B hts wd_928 wd_9 (by decide) (by decide +kernel)
set_option maxHeartbeats 4000000 in
set_option maxRecDepth 100000 in
theorem cn_M_empty {l : Launch} {G : bh_G} {base sb L : Nat} {xs : Nat → Int32} (htr : l.stackTraces = false) (d : Nat) : bh_Con l G base (bh_Bg G base sb L xs) y_M_empty (.code y_M_empty c_M_empty 2 none :: bh_ws) (bh_rm (d + 2) 0) 0 false F_M_empty := by
  refine bh_method (cc := c_M_empty) (ret := none) (by decide +kernel) rfl ?_
  intro p e s m args below meth c ad0 M0 Z X0 hr hlocks hname htab hbs hB
  obtain ⟨hx, hb, hml, hown, hts⟩ := id X0
  have hw : ∀ w ∈ bh_ws, w.before args s = true := fun w h => hts w (List.mem_cons_of_mem _ h)
  have hBg := bh_BgK (G := G) (base := base) (sb := sb) (L := L) (xs := xs)
  obtain ⟨hK, hAr, hen, hinj, hu1, hu2, hstr, hX, hsb, hsc, hxw, hao, hnc⟩ := id hB
  obtain ⟨ha1, ha2, ha3, ha4, ha5, ha6, ha0⟩ := bh_arr hAr
  exact List.forall_mem_cons.mpr ⟨fun S h => bs_aload_n (Z := Z) hx hb rfl d_M_empty_0 h, List.forall_mem_cons.mpr ⟨fun S h => bs_gR (Z := Z) (C := R_M) (T := F_M) (N := 40) (t := 40) (j := 8) hx hb hK hts (fun w h => List.mem_cons_of_mem _ (iw_M w h)) hown rfl rfl (by decide) (hts _ (List.mem_cons_of_mem _ wd_792)) (fun _ h => h) rfl rfl rfl d_M_empty_1 h, List.forall_mem_cons.mpr ⟨fun S h => bs_iload_n (Z := Z) hx hb rfl d_M_empty_4 h, List.forall_mem_cons.mpr ⟨fun S h => bs_iconst (Z := Z) hx hb (by decide) d_M_empty_5 h, List.forall_mem_cons.mpr ⟨fun S h => bs_Iast (Z := Z) hx hb ha1 d_M_empty_6 h, List.forall_mem_cons.mpr ⟨fun S h => bs_aload_n (Z := Z) hx hb rfl d_M_empty_7 h, List.forall_mem_cons.mpr ⟨fun S h => bs_gR (Z := Z) (C := R_M) (T := F_M) (N := 40) (t := 40) (j := 12) hx hb hK hts (fun w h => List.mem_cons_of_mem _ (iw_M w h)) hown rfl rfl (by decide) (hts _ (List.mem_cons_of_mem _ wd_796)) (fun _ h => h) rfl rfl rfl d_M_empty_8 h, List.forall_mem_cons.mpr ⟨fun S h => bs_iload_n (Z := Z) hx hb rfl d_M_empty_11 h, List.forall_mem_cons.mpr ⟨fun S h => bs_iconst (Z := Z) hx hb (by decide) d_M_empty_12 h, List.forall_mem_cons.mpr ⟨fun S h => bs_Iast (Z := Z) hx hb ha1 d_M_empty_13 h, List.forall_mem_cons.mpr ⟨fun S h => bs_aload_n (Z := Z) hx hb rfl d_M_empty_14 h, List.forall_mem_cons.mpr ⟨fun S h => bs_gR (Z := Z) (C := R_M) (T := F_M) (N := 40) (t := 40) (j := 6) hx hb hK hts (fun w h => List.mem_cons_of_mem _ (iw_M w h)) hown rfl rfl (by decide) (hts _ (List.mem_cons_of_mem _ wd_790)) (fun _ h => h) rfl rfl rfl d_M_empty_15 h, List.forall_mem_cons.mpr ⟨fun S h => bs_iload_n (Z := Z) hx hb rfl d_M_empty_18 h, List.forall_mem_cons.mpr ⟨fun S h => bs_iconst (Z := Z) hx hb (by decide) d_M_empty_19 h, List.forall_mem_cons.mpr ⟨fun S h => bs_Zast (Z := Z) hx hb ha2 d_M_empty_20 h, List.forall_mem_cons.mpr ⟨fun S h => bs_aload_n (Z := Z) hx hb rfl d_M_empty_21 h, List.forall_mem_cons.mpr ⟨fun S h => bs_gR (Z := Z) (C := R_M) (T := F_M) (N := 40) (t := 40) (j := 7) hx hb hK hts (fun w h => List.mem_cons_of_mem _ (iw_M w h)) hown rfl rfl (by decide) (hts _ (List.mem_cons_of_mem _ wd_791)) (fun _ h => h) rfl rfl rfl d_M_empty_22 h, List.forall_mem_cons.mpr ⟨fun S h => bs_iload_n (Z := Z) hx hb rfl d_M_empty_25 h, List.forall_mem_cons.mpr ⟨fun S h => bs_dup2 (Z := Z) hx hb d_M_empty_26 h, List.forall_mem_cons.mpr ⟨fun S h => bs_Jald (Z := Z) hx hb ha3 d_M_empty_27 h, List.forall_mem_cons.mpr ⟨fun S h => bs_lconst (Z := Z) hx hb (by decide) d_M_empty_28 h, List.forall_mem_cons.mpr ⟨fun S h => bs_ladd (Z := Z) hx hb d_M_empty_29 h, List.forall_mem_cons.mpr ⟨fun S h => bs_Jast (Z := Z) hx hb ha3 d_M_empty_30 h, List.forall_mem_cons.mpr ⟨fun S h => bs_aload_n (Z := Z) hx hb rfl d_M_empty_31 h, List.forall_mem_cons.mpr ⟨fun S h => bs_iload_n (Z := Z) hx hb rfl d_M_empty_32 h, List.forall_mem_cons.mpr ⟨fun S h => bs_callV (Z := Z) (C := R_M) hBg hbs hB X0 hK (cn_M_unwire htr (d + 0)) (cl_M_unwire _ _ hw) (hts _ (List.mem_cons_of_mem _ wd_929)) (hts _ (List.mem_cons_of_mem _ wd_931)) (hts _ (List.mem_cons_of_mem _ ws_27)) rfl rfl rfl rfl rfl (Nat.le_refl _) (Nat.le_refl _) d_M_empty_33 (bs_out htab hlocks) h, List.forall_mem_cons.mpr ⟨fun S h => bs_vret (Z := Z) hx hb hr hlocks d_M_empty_36 h, fun _ h => absurd h List.not_mem_nil⟩⟩⟩⟩⟩⟩⟩⟩⟩⟩⟩⟩⟩⟩⟩⟩⟩⟩⟩⟩⟩⟩⟩⟩⟩⟩⟩
abbrev c_M_install : ByteArray := prog_10_method_9_code
def y_M_install : MethodName := ⟨"BundleHallModel", "install", "(IIII)I"⟩
theorem d_M_install_0 : decode c_M_install 0 = .ok (.aload_n 0, 1) := by decide +kernel
theorem d_M_install_1 : decode c_M_install 1 = .ok (.iconst 0, 1) := by decide +kernel
theorem d_M_install_2 : decode c_M_install 2 = .ok (.putfield 109, 3) := by decide +kernel
theorem d_M_install_5 : decode c_M_install 5 = .ok (.iload_n 1, 1) := by decide +kernel
theorem d_M_install_6 : decode c_M_install 6 = .ok (.invokestatic 126, 3) := by decide +kernel
theorem d_M_install_9 : decode c_M_install 9 = .ok (.ifCond .eq 31, 3) := by decide +kernel
theorem d_M_install_12 : decode c_M_install 12 = .ok (.iload_n 2, 1) := by decide +kernel
theorem d_M_install_13 : decode c_M_install 13 = .ok (.iconst 0, 1) := by decide +kernel
theorem d_M_install_14 : decode c_M_install 14 = .ok (.iconst 5, 1) := by decide +kernel
theorem d_M_install_15 : decode c_M_install 15 = .ok (.invokestatic 112, 3) := by decide +kernel
theorem d_M_install_18 : decode c_M_install 18 = .ok (.ifCond .eq 22, 3) := by decide +kernel
theorem d_M_install_21 : decode c_M_install 21 = .ok (.iload_n 3, 1) := by decide +kernel
theorem d_M_install_22 : decode c_M_install 22 = .ok (.iconst 1, 1) := by decide +kernel
theorem d_M_install_23 : decode c_M_install 23 = .ok (.iconst 5, 1) := by decide +kernel
theorem d_M_install_24 : decode c_M_install 24 = .ok (.invokestatic 112, 3) := by decide +kernel
theorem d_M_install_27 : decode c_M_install 27 = .ok (.ifCond .eq 13, 3) := by decide +kernel
theorem d_M_install_30 : decode c_M_install 30 = .ok (.iload 4, 2) := by decide +kernel
theorem d_M_install_32 : decode c_M_install 32 = .ok (.iconst 0, 1) := by decide +kernel
theorem d_M_install_33 : decode c_M_install 33 = .ok (.iconst 4, 1) := by decide +kernel
theorem d_M_install_34 : decode c_M_install 34 = .ok (.invokestatic 112, 3) := by decide +kernel
theorem d_M_install_37 : decode c_M_install 37 = .ok (.ifCond .ne 9, 3) := by decide +kernel
theorem d_M_install_40 : decode c_M_install 40 = .ok (.aload_n 0, 1) := by decide +kernel
theorem d_M_install_41 : decode c_M_install 41 = .ok (.iconst 1, 1) := by decide +kernel
theorem d_M_install_42 : decode c_M_install 42 = .ok (.invokevirtual 130, 3) := by decide +kernel
theorem d_M_install_45 : decode c_M_install 45 = .ok (.ireturn, 1) := by decide +kernel
theorem d_M_install_46 : decode c_M_install 46 = .ok (.aload_n 0, 1) := by decide +kernel
theorem d_M_install_47 : decode c_M_install 47 = .ok (.getfield 7, 3) := by decide +kernel
theorem d_M_install_50 : decode c_M_install 50 = .ok (.iload_n 1, 1) := by decide +kernel
theorem d_M_install_51 : decode c_M_install 51 = .ok (.iaload, 1) := by decide +kernel
theorem d_M_install_52 : decode c_M_install 52 = .ok (.ifCond .eq 9, 3) := by decide +kernel
theorem d_M_install_55 : decode c_M_install 55 = .ok (.aload_n 0, 1) := by decide +kernel
theorem d_M_install_56 : decode c_M_install 56 = .ok (.iconst 2, 1) := by decide +kernel
theorem d_M_install_57 : decode c_M_install 57 = .ok (.invokevirtual 130, 3) := by decide +kernel
theorem d_M_install_60 : decode c_M_install 60 = .ok (.ireturn, 1) := by decide +kernel
theorem d_M_install_61 : decode c_M_install 61 = .ok (.aload_n 0, 1) := by decide +kernel
theorem d_M_install_62 : decode c_M_install 62 = .ok (.getfield 7, 3) := by decide +kernel
theorem d_M_install_65 : decode c_M_install 65 = .ok (.iload_n 1, 1) := by decide +kernel
theorem d_M_install_66 : decode c_M_install 66 = .ok (.iconst 1, 1) := by decide +kernel
theorem d_M_install_67 : decode c_M_install 67 = .ok (.iastore, 1) := by decide +kernel
theorem d_M_install_68 : decode c_M_install 68 = .ok (.aload_n 0, 1) := by decide +kernel
theorem d_M_install_69 : decode c_M_install 69 = .ok (.getfield 13, 3) := by decide +kernel
theorem d_M_install_72 : decode c_M_install 72 = .ok (.iload_n 1, 1) := by decide +kernel
theorem d_M_install_73 : decode c_M_install 73 = .ok (.iload_n 2, 1) := by decide +kernel
theorem d_M_install_74 : decode c_M_install 74 = .ok (.iastore, 1) := by decide +kernel
theorem d_M_install_75 : decode c_M_install 75 = .ok (.aload_n 0, 1) := by decide +kernel
theorem d_M_install_76 : decode c_M_install 76 = .ok (.getfield 16, 3) := by decide +kernel
theorem d_M_install_79 : decode c_M_install 79 = .ok (.iload_n 1, 1) := by decide +kernel
theorem d_M_install_80 : decode c_M_install 80 = .ok (.iload_n 3, 1) := by decide +kernel
theorem d_M_install_81 : decode c_M_install 81 = .ok (.iastore, 1) := by decide +kernel
theorem d_M_install_82 : decode c_M_install 82 = .ok (.aload_n 0, 1) := by decide +kernel
theorem d_M_install_83 : decode c_M_install 83 = .ok (.getfield 19, 3) := by decide +kernel
theorem d_M_install_86 : decode c_M_install 86 = .ok (.iload_n 1, 1) := by decide +kernel
theorem d_M_install_87 : decode c_M_install 87 = .ok (.iload 4, 2) := by decide +kernel
theorem d_M_install_89 : decode c_M_install 89 = .ok (.iastore, 1) := by decide +kernel
theorem d_M_install_90 : decode c_M_install 90 = .ok (.aload_n 0, 1) := by decide +kernel
theorem d_M_install_91 : decode c_M_install 91 = .ok (.getfield 22, 3) := by decide +kernel
theorem d_M_install_94 : decode c_M_install 94 = .ok (.iload_n 1, 1) := by decide +kernel
theorem d_M_install_95 : decode c_M_install 95 = .ok (.iconst 0, 1) := by decide +kernel
theorem d_M_install_96 : decode c_M_install 96 = .ok (.bastore, 1) := by decide +kernel
theorem d_M_install_97 : decode c_M_install 97 = .ok (.aload_n 0, 1) := by decide +kernel
theorem d_M_install_98 : decode c_M_install 98 = .ok (.iload_n 1, 1) := by decide +kernel
theorem d_M_install_99 : decode c_M_install 99 = .ok (.invokevirtual 134, 3) := by decide +kernel
theorem d_M_install_102 : decode c_M_install 102 = .ok (.iconst 0, 1) := by decide +kernel
theorem d_M_install_103 : decode c_M_install 103 = .ok (.istore 5, 2) := by decide +kernel
theorem d_M_install_105 : decode c_M_install 105 = .ok (.iconst 0, 1) := by decide +kernel
theorem d_M_install_106 : decode c_M_install 106 = .ok (.istore 6, 2) := by decide +kernel
theorem d_M_install_108 : decode c_M_install 108 = .ok (.iload 6, 2) := by decide +kernel
theorem d_M_install_110 : decode c_M_install 110 = .ok (.bipush 8, 2) := by decide +kernel
theorem d_M_install_112 : decode c_M_install 112 = .ok (.if_icmp .ge 22, 3) := by decide +kernel
theorem d_M_install_115 : decode c_M_install 115 = .ok (.aload_n 0, 1) := by decide +kernel
theorem d_M_install_116 : decode c_M_install 116 = .ok (.getfield 7, 3) := by decide +kernel
theorem d_M_install_119 : decode c_M_install 119 = .ok (.iload 6, 2) := by decide +kernel
theorem d_M_install_121 : decode c_M_install 121 = .ok (.iaload, 1) := by decide +kernel
theorem d_M_install_122 : decode c_M_install 122 = .ok (.ifCond .eq 6, 3) := by decide +kernel
theorem d_M_install_125 : decode c_M_install 125 = .ok (.iinc 5 1, 3) := by decide +kernel
theorem d_M_install_128 : decode c_M_install 128 = .ok (.iinc 6 1, 3) := by decide +kernel
theorem d_M_install_131 : decode c_M_install 131 = .ok (.goto (-23), 3) := by decide +kernel
theorem d_M_install_134 : decode c_M_install 134 = .ok (.iload 5, 2) := by decide +kernel
theorem d_M_install_136 : decode c_M_install 136 = .ok (.ireturn, 1) := by decide +kernel
def T_M_install_0 : List (Nat × bh_Op) := [(0, bo_ald 1 0),
  (1, bo_st 2 (bg_push (.inl (.int 0)))),
  (2, bo_pI 5 40 0),
  (5, bo_ild 6 1),
  (6, bo_callS 9 1 0 0 F_M_isBundle),
  (9, bo_if1 12 40 (fun x => x = 0)),
  (12, bo_ild 13 2),
  (13, bo_st 14 (bg_push (.inl (.int 0)))),
  (14, bo_st 15 (bg_push (.inl (.int 5)))),
  (15, bo_callS 18 3 0 0 F_M_in),
  (18, bo_if1 21 40 (fun x => x = 0)),
  (21, bo_ild 22 3),
  (22, bo_st 23 (bg_push (.inl (.int 1)))),
  (23, bo_st 24 (bg_push (.inl (.int 5)))),
  (24, bo_callS 27 3 0 0 F_M_in),
  (27, bo_if1 30 40 (fun x => x = 0)),
  (30, bo_ild 32 4),
  (32, bo_st 33 (bg_push (.inl (.int 0)))),
  (33, bo_st 34 (bg_push (.inl (.int 4)))),
  (34, bo_callS 37 3 0 0 F_M_in),
  (37, bo_if1 40 46 (fun x => ¬ x = 0)),
  (40, bo_ald 41 0),
  (41, bo_st 42 (bg_push (.inl (.int 1)))),
  (42, bo_callV 45 2 0 0 40 F_M_raise),
  (45, bo_iret 0),
  (46, bo_ald 47 0),
  (47, bo_gR 50 40 1 41),
  (50, bo_ild 51 1),
  (51, bo_Iald bh_ak bh_al 52),
  (52, bo_if1 55 61 (fun x => x = 0)),
  (55, bo_ald 56 0),
  (56, bo_st 57 (bg_push (.inl (.int 2)))),
  (57, bo_callV 60 2 0 0 40 F_M_raise),
  (60, bo_iret 0),
  (61, bo_ald 62 0),
  (62, bo_gR 65 40 1 41),
  (65, bo_ild 66 1),
  (66, bo_st 67 (bg_push (.inl (.int 1)))),
  (67, bo_Iast bh_ak bh_al 68),
  (68, bo_ald 69 0)]
def T_M_install_1 : List (Nat × bh_Op) := [(69, bo_gR 72 40 2 42),
  (72, bo_ild 73 1),
  (73, bo_ild 74 2),
  (74, bo_Iast bh_ak bh_al 75),
  (75, bo_ald 76 0),
  (76, bo_gR 79 40 3 43),
  (79, bo_ild 80 1),
  (80, bo_ild 81 3),
  (81, bo_Iast bh_ak bh_al 82),
  (82, bo_ald 83 0),
  (83, bo_gR 86 40 4 44),
  (86, bo_ild 87 1),
  (87, bo_ild 89 4),
  (89, bo_Iast bh_ak bh_al 90),
  (90, bo_ald 91 0),
  (91, bo_gR 94 40 5 45),
  (94, bo_ild 95 1),
  (95, bo_st 96 (bg_push (.inl (.int 0)))),
  (96, bo_Zast bh_ak bh_al 97),
  (97, bo_ald 98 0),
  (98, bo_ild 99 1),
  (99, bo_callV 102 2 0 0 40 F_M_empty),
  (102, bo_st 103 (bg_push (.inl (.int 0)))),
  (103, bo_ist 105 5),
  (105, bo_st 106 (bg_push (.inl (.int 0)))),
  (106, bo_ist 108 6),
  (108, bo_ild 110 6),
  (110, bo_st 112 (bg_push (.inl (.int 8)))),
  (112, bo_if2 115 134 (fun x y => y ≤ x)),
  (115, bo_ald 116 0),
  (116, bo_gR 119 40 1 41),
  (119, bo_ild 121 6),
  (121, bo_Iald bh_ak bh_al 122),
  (122, bo_if1 125 128 (fun x => x = 0)),
  (125, bo_inc 128 5 1),
  (128, bo_inc 131 6 1),
  (131, bo_go 108),
  (134, bo_ild 136 5),
  (136, bo_iret 0)]
def T_M_install : List (Nat × bh_Op) := T_M_install_0 ++ T_M_install_1
set_option maxRecDepth 20000 in
theorem mT_M_install_0 : ∀ q ∈ T_M_install_0, bh_mono q.2 := List.forall_mem_cons.mpr ⟨bo_ald_m _ _, List.forall_mem_cons.mpr ⟨bo_st_mono (bg_push_m _), List.forall_mem_cons.mpr ⟨bo_pI_m _ _ _, List.forall_mem_cons.mpr ⟨bo_ild_m _ _, List.forall_mem_cons.mpr ⟨bo_callS_m (mF_M_isBundle) _ _ _ _, List.forall_mem_cons.mpr ⟨bo_if1_m _ _ _, List.forall_mem_cons.mpr ⟨bo_ild_m _ _, List.forall_mem_cons.mpr ⟨bo_st_mono (bg_push_m _), List.forall_mem_cons.mpr ⟨bo_st_mono (bg_push_m _), List.forall_mem_cons.mpr ⟨bo_callS_m (mF_M_in) _ _ _ _, List.forall_mem_cons.mpr ⟨bo_if1_m _ _ _, List.forall_mem_cons.mpr ⟨bo_ild_m _ _, List.forall_mem_cons.mpr ⟨bo_st_mono (bg_push_m _), List.forall_mem_cons.mpr ⟨bo_st_mono (bg_push_m _), List.forall_mem_cons.mpr ⟨bo_callS_m (mF_M_in) _ _ _ _, List.forall_mem_cons.mpr ⟨bo_if1_m _ _ _, List.forall_mem_cons.mpr ⟨bo_ild_m _ _, List.forall_mem_cons.mpr ⟨bo_st_mono (bg_push_m _), List.forall_mem_cons.mpr ⟨bo_st_mono (bg_push_m _), List.forall_mem_cons.mpr ⟨bo_callS_m (mF_M_in) _ _ _ _, List.forall_mem_cons.mpr ⟨bo_if1_m _ _ _, List.forall_mem_cons.mpr ⟨bo_ald_m _ _, List.forall_mem_cons.mpr ⟨bo_st_mono (bg_push_m _), List.forall_mem_cons.mpr ⟨bo_callV_m (mF_M_raise) _ _ _ _ _, List.forall_mem_cons.mpr ⟨bo_iret_m _, List.forall_mem_cons.mpr ⟨bo_ald_m _ _, List.forall_mem_cons.mpr ⟨bo_gR_m _ _ _ _, List.forall_mem_cons.mpr ⟨bo_ild_m _ _, List.forall_mem_cons.mpr ⟨bo_Iald_m _ _ _, List.forall_mem_cons.mpr ⟨bo_if1_m _ _ _, List.forall_mem_cons.mpr ⟨bo_ald_m _ _, List.forall_mem_cons.mpr ⟨bo_st_mono (bg_push_m _), List.forall_mem_cons.mpr ⟨bo_callV_m (mF_M_raise) _ _ _ _ _, List.forall_mem_cons.mpr ⟨bo_iret_m _, List.forall_mem_cons.mpr ⟨bo_ald_m _ _, List.forall_mem_cons.mpr ⟨bo_gR_m _ _ _ _, List.forall_mem_cons.mpr ⟨bo_ild_m _ _, List.forall_mem_cons.mpr ⟨bo_st_mono (bg_push_m _), List.forall_mem_cons.mpr ⟨bo_Iast_m _ _ _, List.forall_mem_cons.mpr ⟨bo_ald_m _ _, fun _ h => absurd h List.not_mem_nil⟩⟩⟩⟩⟩⟩⟩⟩⟩⟩⟩⟩⟩⟩⟩⟩⟩⟩⟩⟩⟩⟩⟩⟩⟩⟩⟩⟩⟩⟩⟩⟩⟩⟩⟩⟩⟩⟩⟩⟩
set_option maxRecDepth 20000 in
theorem mT_M_install_1 : ∀ q ∈ T_M_install_1, bh_mono q.2 := List.forall_mem_cons.mpr ⟨bo_gR_m _ _ _ _, List.forall_mem_cons.mpr ⟨bo_ild_m _ _, List.forall_mem_cons.mpr ⟨bo_ild_m _ _, List.forall_mem_cons.mpr ⟨bo_Iast_m _ _ _, List.forall_mem_cons.mpr ⟨bo_ald_m _ _, List.forall_mem_cons.mpr ⟨bo_gR_m _ _ _ _, List.forall_mem_cons.mpr ⟨bo_ild_m _ _, List.forall_mem_cons.mpr ⟨bo_ild_m _ _, List.forall_mem_cons.mpr ⟨bo_Iast_m _ _ _, List.forall_mem_cons.mpr ⟨bo_ald_m _ _, List.forall_mem_cons.mpr ⟨bo_gR_m _ _ _ _, List.forall_mem_cons.mpr ⟨bo_ild_m _ _, List.forall_mem_cons.mpr ⟨bo_ild_m _ _, List.forall_mem_cons.mpr ⟨bo_Iast_m _ _ _, List.forall_mem_cons.mpr ⟨bo_ald_m _ _, List.forall_mem_cons.mpr ⟨bo_gR_m _ _ _ _, List.forall_mem_cons.mpr ⟨bo_ild_m _ _, List.forall_mem_cons.mpr ⟨bo_st_mono (bg_push_m _), List.forall_mem_cons.mpr ⟨bo_Zast_m _ _ _, List.forall_mem_cons.mpr ⟨bo_ald_m _ _, List.forall_mem_cons.mpr ⟨bo_ild_m _ _, List.forall_mem_cons.mpr ⟨bo_callV_m (mF_M_empty) _ _ _ _ _, List.forall_mem_cons.mpr ⟨bo_st_mono (bg_push_m _), List.forall_mem_cons.mpr ⟨bo_ist_m _ _, List.forall_mem_cons.mpr ⟨bo_st_mono (bg_push_m _), List.forall_mem_cons.mpr ⟨bo_ist_m _ _, List.forall_mem_cons.mpr ⟨bo_ild_m _ _, List.forall_mem_cons.mpr ⟨bo_st_mono (bg_push_m _), List.forall_mem_cons.mpr ⟨bo_if2_m _ _ _, List.forall_mem_cons.mpr ⟨bo_ald_m _ _, List.forall_mem_cons.mpr ⟨bo_gR_m _ _ _ _, List.forall_mem_cons.mpr ⟨bo_ild_m _ _, List.forall_mem_cons.mpr ⟨bo_Iald_m _ _ _, List.forall_mem_cons.mpr ⟨bo_if1_m _ _ _, List.forall_mem_cons.mpr ⟨bo_inc_m _ _ _, List.forall_mem_cons.mpr ⟨bo_inc_m _ _ _, List.forall_mem_cons.mpr ⟨bo_go_m _, List.forall_mem_cons.mpr ⟨bo_ild_m _ _, List.forall_mem_cons.mpr ⟨bo_iret_m _, fun _ h => absurd h List.not_mem_nil⟩⟩⟩⟩⟩⟩⟩⟩⟩⟩⟩⟩⟩⟩⟩⟩⟩⟩⟩⟩⟩⟩⟩⟩⟩⟩⟩⟩⟩⟩⟩⟩⟩⟩⟩⟩⟩⟩⟩
theorem m_M_install : ∀ pc, bh_mono (bh_tb (T_M_install) pc) := bh_tb_m (List.forall_mem_append.mpr ⟨mT_M_install_0, mT_M_install_1⟩)
def F_M_install : bh_Fn := bh_fn 7 (bh_tb T_M_install)
theorem mF_M_install : bh_monoF F_M_install := bh_fn_m m_M_install
theorem cl_M_install {s : State} {args : Array Value} (d B : Nat) (hts : ∀ w ∈ bh_ws, w.before args s = true) : bh_Cal (bh_rm (d + 1) B) s y_M_install 7 (.code y_M_install c_M_install 7 (some .int) :: bh_ws) (bh_rm d 0) 0 4 := bh_cal d B hts wd_914 wd_9 (by decide) (by decide +kernel)
set_option maxHeartbeats 4000000 in
set_option maxRecDepth 100000 in
theorem cn_M_install {l : Launch} {G : bh_G} {base sb L : Nat} {xs : Nat → Int32} (htr : l.stackTraces = false) (d : Nat) : bh_Con l G base (bh_Bg G base sb L xs) y_M_install (.code y_M_install c_M_install 7 (some .int) :: bh_ws) (bh_rm (d + 3) 0) 0 false F_M_install := by
  refine bh_method (cc := c_M_install) (ret := (some .int)) (by decide +kernel) rfl ?_
  intro p e s m args below meth c ad0 M0 Z X0 hr hlocks hname htab hbs hB
  obtain ⟨hx, hb, hml, hown, hts⟩ := id X0
  have hw : ∀ w ∈ bh_ws, w.before args s = true := fun w h => hts w (List.mem_cons_of_mem _ h)
  have hBg := bh_BgK (G := G) (base := base) (sb := sb) (L := L) (xs := xs)
  obtain ⟨hK, hAr, hen, hinj, hu1, hu2, hstr, hX, hsb, hsc, hxw, hao, hnc⟩ := id hB
  obtain ⟨ha1, ha2, ha3, ha4, ha5, ha6, ha0⟩ := bh_arr hAr
  refine List.forall_mem_append.mpr ⟨?_, List.forall_mem_cons.mpr ⟨fun S h => bs_gR (Z := Z) (C := R_M) (T := F_M) (N := 40) (t := 40) (j := 2) hx hb hK hts (fun w h => List.mem_cons_of_mem _ (iw_M w h)) hown rfl rfl (by decide) (hts _ (List.mem_cons_of_mem _ wd_786)) (fun _ h => h) rfl rfl rfl d_M_install_69 h, List.forall_mem_cons.mpr ⟨fun S h => bs_iload_n (Z := Z) hx hb rfl d_M_install_72 h, List.forall_mem_cons.mpr ⟨fun S h => bs_iload_n (Z := Z) hx hb rfl d_M_install_73 h, List.forall_mem_cons.mpr ⟨fun S h => bs_Iast (Z := Z) hx hb ha1 d_M_install_74 h, List.forall_mem_cons.mpr ⟨fun S h => bs_aload_n (Z := Z) hx hb rfl d_M_install_75 h, List.forall_mem_cons.mpr ⟨fun S h => bs_gR (Z := Z) (C := R_M) (T := F_M) (N := 40) (t := 40) (j := 3) hx hb hK hts (fun w h => List.mem_cons_of_mem _ (iw_M w h)) hown rfl rfl (by decide) (hts _ (List.mem_cons_of_mem _ wd_787)) (fun _ h => h) rfl rfl rfl d_M_install_76 h, List.forall_mem_cons.mpr ⟨fun S h => bs_iload_n (Z := Z) hx hb rfl d_M_install_79 h, List.forall_mem_cons.mpr ⟨fun S h => bs_iload_n (Z := Z) hx hb rfl d_M_install_80 h, List.forall_mem_cons.mpr ⟨fun S h => bs_Iast (Z := Z) hx hb ha1 d_M_install_81 h, List.forall_mem_cons.mpr ⟨fun S h => bs_aload_n (Z := Z) hx hb rfl d_M_install_82 h, List.forall_mem_cons.mpr ⟨fun S h => bs_gR (Z := Z) (C := R_M) (T := F_M) (N := 40) (t := 40) (j := 4) hx hb hK hts (fun w h => List.mem_cons_of_mem _ (iw_M w h)) hown rfl rfl (by decide) (hts _ (List.mem_cons_of_mem _ wd_788)) (fun _ h => h) rfl rfl rfl d_M_install_83 h, List.forall_mem_cons.mpr ⟨fun S h => bs_iload_n (Z := Z) hx hb rfl d_M_install_86 h, List.forall_mem_cons.mpr ⟨fun S h => bs_iload (Z := Z) hx hb d_M_install_87 h, List.forall_mem_cons.mpr ⟨fun S h => bs_Iast (Z := Z) hx hb ha1 d_M_install_89 h, List.forall_mem_cons.mpr ⟨fun S h => bs_aload_n (Z := Z) hx hb rfl d_M_install_90 h, List.forall_mem_cons.mpr ⟨fun S h => bs_gR (Z := Z) (C := R_M) (T := F_M) (N := 40) (t := 40) (j := 5) hx hb hK hts (fun w h => List.mem_cons_of_mem _ (iw_M w h)) hown rfl rfl (by decide) (hts _ (List.mem_cons_of_mem _ wd_789)) (fun _ h => h) rfl rfl rfl d_M_install_91 h, List.forall_mem_cons.mpr ⟨fun S h => bs_iload_n (Z := Z) hx hb rfl d_M_install_94 h, List.forall_mem_cons.mpr ⟨fun S h => bs_iconst (Z := Z) hx hb (by decide) d_M_install_95 h, List.forall_mem_cons.mpr ⟨fun S h => bs_Zast (Z := Z) hx hb ha2 d_M_install_96 h, List.forall_mem_cons.mpr ⟨fun S h => bs_aload_n (Z := Z) hx hb rfl d_M_install_97 h, List.forall_mem_cons.mpr ⟨fun S h => bs_iload_n (Z := Z) hx hb rfl d_M_install_98 h, List.forall_mem_cons.mpr ⟨fun S h => bs_callV (Z := Z) (C := R_M) hBg hbs hB X0 hK (cn_M_empty htr (d + 0)) (cl_M_empty _ _ hw) (hts _ (List.mem_cons_of_mem _ wd_925)) (hts _ (List.mem_cons_of_mem _ wd_927)) (hts _ (List.mem_cons_of_mem _ ws_26)) rfl rfl rfl rfl rfl (Nat.le_refl _) (Nat.le_refl _) d_M_install_99 (bs_out htab hlocks) h, List.forall_mem_cons.mpr ⟨fun S h => bs_iconst (Z := Z) hx hb (by decide) d_M_install_102 h, List.forall_mem_cons.mpr ⟨fun S h => bs_istore (Z := Z) hx hb d_M_install_103 h, List.forall_mem_cons.mpr ⟨fun S h => bs_iconst (Z := Z) hx hb (by decide) d_M_install_105 h, List.forall_mem_cons.mpr ⟨fun S h => bs_istore (Z := Z) hx hb d_M_install_106 h, List.forall_mem_cons.mpr ⟨fun S h => bs_iload (Z := Z) hx hb d_M_install_108 h, List.forall_mem_cons.mpr ⟨fun S h => bs_bipush (Z := Z) hx hb (by decide) d_M_install_110 h, List.forall_mem_cons.mpr ⟨fun S h => bs_icmp_ge (Z := Z) hx hb d_M_install_112 (by decide) h, List.forall_mem_cons.mpr ⟨fun S h => bs_aload_n (Z := Z) hx hb rfl d_M_install_115 h, List.forall_mem_cons.mpr ⟨fun S h => bs_gR (Z := Z) (C := R_M) (T := F_M) (N := 40) (t := 40) (j := 1) hx hb hK hts (fun w h => List.mem_cons_of_mem _ (iw_M w h)) hown rfl rfl (by decide) (hts _ (List.mem_cons_of_mem _ wd_785)) (fun _ h => h) rfl rfl rfl d_M_install_116 h, List.forall_mem_cons.mpr ⟨fun S h => bs_iload (Z := Z) hx hb d_M_install_119 h, List.forall_mem_cons.mpr ⟨fun S h => bs_Iald (Z := Z) hx hb ha1 d_M_install_121 h, List.forall_mem_cons.mpr ⟨fun S h => bs_if_eq (Z := Z) hx hb d_M_install_122 (by decide) h, List.forall_mem_cons.mpr ⟨fun S h => bs_iinc (Z := Z) hx hb (by decide) d_M_install_125 h, List.forall_mem_cons.mpr ⟨fun S h => bs_iinc (Z := Z) hx hb (by decide) d_M_install_128 h, List.forall_mem_cons.mpr ⟨fun S h => bs_goto (Z := Z) hx hb d_M_install_131 (by decide) h, List.forall_mem_cons.mpr ⟨fun S h => bs_iload (Z := Z) hx hb d_M_install_134 h, List.forall_mem_cons.mpr ⟨fun S h => bs_iret (Z := Z) hx hb hr hlocks d_M_install_136 h, fun _ h => absurd h List.not_mem_nil⟩⟩⟩⟩⟩⟩⟩⟩⟩⟩⟩⟩⟩⟩⟩⟩⟩⟩⟩⟩⟩⟩⟩⟩⟩⟩⟩⟩⟩⟩⟩⟩⟩⟩⟩⟩⟩⟩⟩⟩
  exact List.forall_mem_cons.mpr ⟨fun S h => bs_aload_n (Z := Z) hx hb rfl d_M_install_0 h, List.forall_mem_cons.mpr ⟨fun S h => bs_iconst (Z := Z) hx hb (by decide) d_M_install_1 h, List.forall_mem_cons.mpr ⟨fun S h => bs_pI (Z := Z) (C := R_M) (T := F_M) (N := 40) (t := 40) (j := 0) hx hb hK hts (fun w h => List.mem_cons_of_mem _ (iw_M w h)) hown rfl rfl (by decide) (hts _ (List.mem_cons_of_mem _ wd_784)) (fun _ h => h) rfl rfl t_M t_M_ok n_M rfl (by decide +kernel) rfl d_M_install_2 h, List.forall_mem_cons.mpr ⟨fun S h => bs_iload_n (Z := Z) hx hb rfl d_M_install_5 h, List.forall_mem_cons.mpr ⟨fun S h => bs_callS (Z := Z) hBg hbs hB X0 (cn_M_isBundle htr (d + 0)) (cl_M_isBundle _ _ hw) (hts _ (List.mem_cons_of_mem _ wd_915)) (hts _ (List.mem_cons_of_mem _ wd_916)) (Nat.le_refl _) (Nat.le_refl _) d_M_install_6 (bs_out htab hlocks) h, List.forall_mem_cons.mpr ⟨fun S h => bs_if_eq (Z := Z) hx hb d_M_install_9 (by decide) h, List.forall_mem_cons.mpr ⟨fun S h => bs_iload_n (Z := Z) hx hb rfl d_M_install_12 h, List.forall_mem_cons.mpr ⟨fun S h => bs_iconst (Z := Z) hx hb (by decide) d_M_install_13 h, List.forall_mem_cons.mpr ⟨fun S h => bs_iconst (Z := Z) hx hb (by decide) d_M_install_14 h, List.forall_mem_cons.mpr ⟨fun S h => bs_callS (Z := Z) hBg hbs hB X0 (cn_M_in htr (d + 1)) (cl_M_in _ _ hw) (hts _ (List.mem_cons_of_mem _ wd_918)) (hts _ (List.mem_cons_of_mem _ wd_919)) (Nat.le_refl _) (Nat.le_refl _) d_M_install_15 (bs_out htab hlocks) h, List.forall_mem_cons.mpr ⟨fun S h => bs_if_eq (Z := Z) hx hb d_M_install_18 (by decide) h, List.forall_mem_cons.mpr ⟨fun S h => bs_iload_n (Z := Z) hx hb rfl d_M_install_21 h, List.forall_mem_cons.mpr ⟨fun S h => bs_iconst (Z := Z) hx hb (by decide) d_M_install_22 h, List.forall_mem_cons.mpr ⟨fun S h => bs_iconst (Z := Z) hx hb (by decide) d_M_install_23 h, List.forall_mem_cons.mpr ⟨fun S h => bs_callS (Z := Z) hBg hbs hB X0 (cn_M_in htr (d + 1)) (cl_M_in _ _ hw) (hts _ (List.mem_cons_of_mem _ wd_918)) (hts _ (List.mem_cons_of_mem _ wd_919)) (Nat.le_refl _) (Nat.le_refl _) d_M_install_24 (bs_out htab hlocks) h, List.forall_mem_cons.mpr ⟨fun S h => bs_if_eq (Z := Z) hx hb d_M_install_27 (by decide) h, List.forall_mem_cons.mpr ⟨fun S h => bs_iload (Z := Z) hx hb d_M_install_30 h, List.forall_mem_cons.mpr ⟨fun S h => bs_iconst (Z := Z) hx hb (by decide) d_M_install_32 h, List.forall_mem_cons.mpr ⟨fun S h => bs_iconst (Z := Z) hx hb (by decide) d_M_install_33 h, List.forall_mem_cons.mpr ⟨fun S h => bs_callS (Z := Z) hBg hbs hB X0 (cn_M_in htr (d + 1)) (cl_M_in _ _ hw) (hts _ (List.mem_cons_of_mem _ wd_918)) (hts _ (List.mem_cons_of_mem _ wd_919)) (Nat.le_refl _) (Nat.le_refl _) d_M_install_34 (bs_out htab hlocks) h, List.forall_mem_cons.mpr ⟨fun S h => bs_if_ne (Z := Z) hx hb d_M_install_37 (by decide) h, List.forall_mem_cons.mpr ⟨fun S h => bs_aload_n (Z := Z) hx hb rfl d_M_install_40 h, List.forall_mem_cons.mpr ⟨fun S h => bs_iconst (Z := Z) hx hb (by decide) d_M_install_41 h, List.forall_mem_cons.mpr ⟨fun S h => bs_callV (Z := Z) (C := R_M) hBg hbs hB X0 hK (cn_M_raise htr (d + 1)) (cl_M_raise _ _ hw) (hts _ (List.mem_cons_of_mem _ wd_921)) (hts _ (List.mem_cons_of_mem _ wd_923)) (hts _ (List.mem_cons_of_mem _ ws_25)) rfl rfl rfl rfl rfl (Nat.le_refl _) (Nat.le_refl _) d_M_install_42 (bs_out htab hlocks) h, List.forall_mem_cons.mpr ⟨fun S h => bs_iret (Z := Z) hx hb hr hlocks d_M_install_45 h, List.forall_mem_cons.mpr ⟨fun S h => bs_aload_n (Z := Z) hx hb rfl d_M_install_46 h, List.forall_mem_cons.mpr ⟨fun S h => bs_gR (Z := Z) (C := R_M) (T := F_M) (N := 40) (t := 40) (j := 1) hx hb hK hts (fun w h => List.mem_cons_of_mem _ (iw_M w h)) hown rfl rfl (by decide) (hts _ (List.mem_cons_of_mem _ wd_785)) (fun _ h => h) rfl rfl rfl d_M_install_47 h, List.forall_mem_cons.mpr ⟨fun S h => bs_iload_n (Z := Z) hx hb rfl d_M_install_50 h, List.forall_mem_cons.mpr ⟨fun S h => bs_Iald (Z := Z) hx hb ha1 d_M_install_51 h, List.forall_mem_cons.mpr ⟨fun S h => bs_if_eq (Z := Z) hx hb d_M_install_52 (by decide) h, List.forall_mem_cons.mpr ⟨fun S h => bs_aload_n (Z := Z) hx hb rfl d_M_install_55 h, List.forall_mem_cons.mpr ⟨fun S h => bs_iconst (Z := Z) hx hb (by decide) d_M_install_56 h, List.forall_mem_cons.mpr ⟨fun S h => bs_callV (Z := Z) (C := R_M) hBg hbs hB X0 hK (cn_M_raise htr (d + 1)) (cl_M_raise _ _ hw) (hts _ (List.mem_cons_of_mem _ wd_921)) (hts _ (List.mem_cons_of_mem _ wd_923)) (hts _ (List.mem_cons_of_mem _ ws_25)) rfl rfl rfl rfl rfl (Nat.le_refl _) (Nat.le_refl _) d_M_install_57 (bs_out htab hlocks) h, List.forall_mem_cons.mpr ⟨fun S h => bs_iret (Z := Z) hx hb hr hlocks d_M_install_60 h, List.forall_mem_cons.mpr ⟨fun S h => bs_aload_n (Z := Z) hx hb rfl d_M_install_61 h, List.forall_mem_cons.mpr ⟨fun S h => bs_gR (Z := Z) (C := R_M) (T := F_M) (N := 40) (t := 40) (j := 1) hx hb hK hts (fun w h => List.mem_cons_of_mem _ (iw_M w h)) hown rfl rfl (by decide) (hts _ (List.mem_cons_of_mem _ wd_785)) (fun _ h => h) rfl rfl rfl d_M_install_62 h, List.forall_mem_cons.mpr ⟨fun S h => bs_iload_n (Z := Z) hx hb rfl d_M_install_65 h, List.forall_mem_cons.mpr ⟨fun S h => bs_iconst (Z := Z) hx hb (by decide) d_M_install_66 h, List.forall_mem_cons.mpr ⟨fun S h => bs_Iast (Z := Z) hx hb ha1 d_M_install_67 h, List.forall_mem_cons.mpr ⟨fun S h => bs_aload_n (Z := Z) hx hb rfl d_M_install_68 h, fun _ h => absurd h List.not_mem_nil⟩⟩⟩⟩⟩⟩⟩⟩⟩⟩⟩⟩⟩⟩⟩⟩⟩⟩⟩⟩⟩⟩⟩⟩⟩⟩⟩⟩⟩⟩⟩⟩⟩⟩⟩⟩⟩⟩⟩⟩
abbrev c_M_export : ByteArray := prog_10_method_10_code
def y_M_export : MethodName := ⟨"BundleHallModel", "export", "(III)I"⟩
theorem d_M_export_0 : decode c_M_export 0 = .ok (.aload_n 0, 1) := by decide +kernel
theorem d_M_export_1 : decode c_M_export 1 = .ok (.iconst 0, 1) := by decide +kernel
theorem d_M_export_2 : decode c_M_export 2 = .ok (.putfield 109, 3) := by decide +kernel
theorem d_M_export_5 : decode c_M_export 5 = .ok (.iload_n 1, 1) := by decide +kernel
theorem d_M_export_6 : decode c_M_export 6 = .ok (.invokestatic 126, 3) := by decide +kernel
theorem d_M_export_9 : decode c_M_export 9 = .ok (.ifCond .eq 24, 3) := by decide +kernel
theorem d_M_export_12 : decode c_M_export 12 = .ok (.iload_n 2, 1) := by decide +kernel
theorem d_M_export_13 : decode c_M_export 13 = .ok (.iconst 0, 1) := by decide +kernel
theorem d_M_export_14 : decode c_M_export 14 = .ok (.bipush 79, 2) := by decide +kernel
theorem d_M_export_16 : decode c_M_export 16 = .ok (.invokestatic 112, 3) := by decide +kernel
theorem d_M_export_19 : decode c_M_export 19 = .ok (.ifCond .eq 14, 3) := by decide +kernel
theorem d_M_export_22 : decode c_M_export 22 = .ok (.iload_n 3, 1) := by decide +kernel
theorem d_M_export_23 : decode c_M_export 23 = .ok (.iconst 0, 1) := by decide +kernel
theorem d_M_export_24 : decode c_M_export 24 = .ok (.sipush 255, 3) := by decide +kernel
theorem d_M_export_27 : decode c_M_export 27 = .ok (.invokestatic 112, 3) := by decide +kernel
theorem d_M_export_30 : decode c_M_export 30 = .ok (.ifCond .ne 9, 3) := by decide +kernel
theorem d_M_export_33 : decode c_M_export 33 = .ok (.aload_n 0, 1) := by decide +kernel
theorem d_M_export_34 : decode c_M_export 34 = .ok (.iconst 1, 1) := by decide +kernel
theorem d_M_export_35 : decode c_M_export 35 = .ok (.invokevirtual 130, 3) := by decide +kernel
theorem d_M_export_38 : decode c_M_export 38 = .ok (.ireturn, 1) := by decide +kernel
theorem d_M_export_39 : decode c_M_export 39 = .ok (.aload_n 0, 1) := by decide +kernel
theorem d_M_export_40 : decode c_M_export 40 = .ok (.getfield 7, 3) := by decide +kernel
theorem d_M_export_43 : decode c_M_export 43 = .ok (.iload_n 1, 1) := by decide +kernel
theorem d_M_export_44 : decode c_M_export 44 = .ok (.iaload, 1) := by decide +kernel
theorem d_M_export_45 : decode c_M_export 45 = .ok (.ifCond .ne 9, 3) := by decide +kernel
theorem d_M_export_48 : decode c_M_export 48 = .ok (.aload_n 0, 1) := by decide +kernel
theorem d_M_export_49 : decode c_M_export 49 = .ok (.iconst 2, 1) := by decide +kernel
theorem d_M_export_50 : decode c_M_export 50 = .ok (.invokevirtual 130, 3) := by decide +kernel
theorem d_M_export_53 : decode c_M_export 53 = .ok (.ireturn, 1) := by decide +kernel
theorem d_M_export_54 : decode c_M_export 54 = .ok (.aload_n 0, 1) := by decide +kernel
theorem d_M_export_55 : decode c_M_export 55 = .ok (.getfield 7, 3) := by decide +kernel
theorem d_M_export_58 : decode c_M_export 58 = .ok (.iload_n 1, 1) := by decide +kernel
theorem d_M_export_59 : decode c_M_export 59 = .ok (.iaload, 1) := by decide +kernel
theorem d_M_export_60 : decode c_M_export 60 = .ok (.iconst 1, 1) := by decide +kernel
theorem d_M_export_61 : decode c_M_export 61 = .ok (.if_icmp .eq 9, 3) := by decide +kernel
theorem d_M_export_64 : decode c_M_export 64 = .ok (.aload_n 0, 1) := by decide +kernel
theorem d_M_export_65 : decode c_M_export 65 = .ok (.iconst 3, 1) := by decide +kernel
theorem d_M_export_66 : decode c_M_export 66 = .ok (.invokevirtual 130, 3) := by decide +kernel
theorem d_M_export_69 : decode c_M_export 69 = .ok (.ireturn, 1) := by decide +kernel
theorem d_M_export_70 : decode c_M_export 70 = .ok (.iconst 3, 1) := by decide +kernel
theorem d_M_export_71 : decode c_M_export 71 = .ok (.iload_n 1, 1) := by decide +kernel
theorem d_M_export_72 : decode c_M_export 72 = .ok (.imul, 1) := by decide +kernel
theorem d_M_export_73 : decode c_M_export 73 = .ok (.istore 4, 2) := by decide +kernel
theorem d_M_export_75 : decode c_M_export 75 = .ok (.iload 4, 2) := by decide +kernel
theorem d_M_export_77 : decode c_M_export 77 = .ok (.iconst 3, 1) := by decide +kernel
theorem d_M_export_78 : decode c_M_export 78 = .ok (.iload_n 1, 1) := by decide +kernel
theorem d_M_export_79 : decode c_M_export 79 = .ok (.imul, 1) := by decide +kernel
theorem d_M_export_80 : decode c_M_export 80 = .ok (.aload_n 0, 1) := by decide +kernel
theorem d_M_export_81 : decode c_M_export 81 = .ok (.getfield 33, 3) := by decide +kernel
theorem d_M_export_84 : decode c_M_export 84 = .ok (.iload_n 1, 1) := by decide +kernel
theorem d_M_export_85 : decode c_M_export 85 = .ok (.iaload, 1) := by decide +kernel
theorem d_M_export_86 : decode c_M_export 86 = .ok (.iadd, 1) := by decide +kernel
theorem d_M_export_87 : decode c_M_export 87 = .ok (.if_icmp .ge 29, 3) := by decide +kernel
theorem d_M_export_90 : decode c_M_export 90 = .ok (.aload_n 0, 1) := by decide +kernel
theorem d_M_export_91 : decode c_M_export 91 = .ok (.getfield 36, 3) := by decide +kernel
theorem d_M_export_94 : decode c_M_export 94 = .ok (.iload 4, 2) := by decide +kernel
theorem d_M_export_96 : decode c_M_export 96 = .ok (.iaload, 1) := by decide +kernel
theorem d_M_export_97 : decode c_M_export 97 = .ok (.iload_n 2, 1) := by decide +kernel
theorem d_M_export_98 : decode c_M_export 98 = .ok (.bipush 8, 2) := by decide +kernel
theorem d_M_export_100 : decode c_M_export 100 = .ok (.irem, 1) := by decide +kernel
theorem d_M_export_101 : decode c_M_export 101 = .ok (.if_icmp .ne 9, 3) := by decide +kernel
theorem d_M_export_104 : decode c_M_export 104 = .ok (.aload_n 0, 1) := by decide +kernel
theorem d_M_export_105 : decode c_M_export 105 = .ok (.iconst 4, 1) := by decide +kernel
theorem d_M_export_106 : decode c_M_export 106 = .ok (.invokevirtual 130, 3) := by decide +kernel
theorem d_M_export_109 : decode c_M_export 109 = .ok (.ireturn, 1) := by decide +kernel
theorem d_M_export_110 : decode c_M_export 110 = .ok (.iinc 4 1, 3) := by decide +kernel
theorem d_M_export_113 : decode c_M_export 113 = .ok (.goto (-38), 3) := by decide +kernel
theorem d_M_export_116 : decode c_M_export 116 = .ok (.aload_n 0, 1) := by decide +kernel
theorem d_M_export_117 : decode c_M_export 117 = .ok (.getfield 33, 3) := by decide +kernel
theorem d_M_export_120 : decode c_M_export 120 = .ok (.iload_n 1, 1) := by decide +kernel
theorem d_M_export_121 : decode c_M_export 121 = .ok (.iaload, 1) := by decide +kernel
theorem d_M_export_122 : decode c_M_export 122 = .ok (.iconst 3, 1) := by decide +kernel
theorem d_M_export_123 : decode c_M_export 123 = .ok (.if_icmp .ne 9, 3) := by decide +kernel
theorem d_M_export_126 : decode c_M_export 126 = .ok (.aload_n 0, 1) := by decide +kernel
theorem d_M_export_127 : decode c_M_export 127 = .ok (.iconst 4, 1) := by decide +kernel
theorem d_M_export_128 : decode c_M_export 128 = .ok (.invokevirtual 130, 3) := by decide +kernel
theorem d_M_export_131 : decode c_M_export 131 = .ok (.ireturn, 1) := by decide +kernel
theorem d_M_export_132 : decode c_M_export 132 = .ok (.iconst 3, 1) := by decide +kernel
theorem d_M_export_133 : decode c_M_export 133 = .ok (.iload_n 1, 1) := by decide +kernel
theorem d_M_export_134 : decode c_M_export 134 = .ok (.imul, 1) := by decide +kernel
theorem d_M_export_135 : decode c_M_export 135 = .ok (.aload_n 0, 1) := by decide +kernel
theorem d_M_export_136 : decode c_M_export 136 = .ok (.getfield 33, 3) := by decide +kernel
theorem d_M_export_139 : decode c_M_export 139 = .ok (.iload_n 1, 1) := by decide +kernel
theorem d_M_export_140 : decode c_M_export 140 = .ok (.iaload, 1) := by decide +kernel
theorem d_M_export_141 : decode c_M_export 141 = .ok (.iadd, 1) := by decide +kernel
theorem d_M_export_142 : decode c_M_export 142 = .ok (.istore 4, 2) := by decide +kernel
theorem d_M_export_144 : decode c_M_export 144 = .ok (.aload_n 0, 1) := by decide +kernel
theorem d_M_export_145 : decode c_M_export 145 = .ok (.getfield 36, 3) := by decide +kernel
theorem d_M_export_148 : decode c_M_export 148 = .ok (.iload 4, 2) := by decide +kernel
theorem d_M_export_150 : decode c_M_export 150 = .ok (.iload_n 2, 1) := by decide +kernel
theorem d_M_export_151 : decode c_M_export 151 = .ok (.bipush 8, 2) := by decide +kernel
theorem d_M_export_153 : decode c_M_export 153 = .ok (.irem, 1) := by decide +kernel
theorem d_M_export_154 : decode c_M_export 154 = .ok (.iastore, 1) := by decide +kernel
theorem d_M_export_155 : decode c_M_export 155 = .ok (.aload_n 0, 1) := by decide +kernel
theorem d_M_export_156 : decode c_M_export 156 = .ok (.getfield 39, 3) := by decide +kernel
theorem d_M_export_159 : decode c_M_export 159 = .ok (.iload 4, 2) := by decide +kernel
theorem d_M_export_161 : decode c_M_export 161 = .ok (.iload_n 2, 1) := by decide +kernel
theorem d_M_export_162 : decode c_M_export 162 = .ok (.bipush 8, 2) := by decide +kernel
theorem d_M_export_164 : decode c_M_export 164 = .ok (.idiv, 1) := by decide +kernel
theorem d_M_export_165 : decode c_M_export 165 = .ok (.iastore, 1) := by decide +kernel
theorem d_M_export_166 : decode c_M_export 166 = .ok (.aload_n 0, 1) := by decide +kernel
theorem d_M_export_167 : decode c_M_export 167 = .ok (.getfield 42, 3) := by decide +kernel
theorem d_M_export_170 : decode c_M_export 170 = .ok (.iload 4, 2) := by decide +kernel
theorem d_M_export_172 : decode c_M_export 172 = .ok (.iload_n 3, 1) := by decide +kernel
theorem d_M_export_173 : decode c_M_export 173 = .ok (.iastore, 1) := by decide +kernel
theorem d_M_export_174 : decode c_M_export 174 = .ok (.aload_n 0, 1) := by decide +kernel
theorem d_M_export_175 : decode c_M_export 175 = .ok (.getfield 33, 3) := by decide +kernel
theorem d_M_export_178 : decode c_M_export 178 = .ok (.iload_n 1, 1) := by decide +kernel
theorem d_M_export_179 : decode c_M_export 179 = .ok (.dup2, 1) := by decide +kernel
theorem d_M_export_180 : decode c_M_export 180 = .ok (.iaload, 1) := by decide +kernel
theorem d_M_export_181 : decode c_M_export 181 = .ok (.iconst 1, 1) := by decide +kernel
theorem d_M_export_182 : decode c_M_export 182 = .ok (.iadd, 1) := by decide +kernel
theorem d_M_export_183 : decode c_M_export 183 = .ok (.iastore, 1) := by decide +kernel
theorem d_M_export_184 : decode c_M_export 184 = .ok (.aload_n 0, 1) := by decide +kernel
theorem d_M_export_185 : decode c_M_export 185 = .ok (.getfield 33, 3) := by decide +kernel
theorem d_M_export_188 : decode c_M_export 188 = .ok (.iload_n 1, 1) := by decide +kernel
theorem d_M_export_189 : decode c_M_export 189 = .ok (.iaload, 1) := by decide +kernel
theorem d_M_export_190 : decode c_M_export 190 = .ok (.ireturn, 1) := by decide +kernel
def T_M_export_0 : List (Nat × bh_Op) := [(0, bo_ald 1 0),
  (1, bo_st 2 (bg_push (.inl (.int 0)))),
  (2, bo_pI 5 40 0),
  (5, bo_ild 6 1),
  (6, bo_callS 9 1 0 0 F_M_isBundle),
  (9, bo_if1 12 33 (fun x => x = 0)),
  (12, bo_ild 13 2),
  (13, bo_st 14 (bg_push (.inl (.int 0)))),
  (14, bo_st 16 (bg_push (.inl (.int 79)))),
  (16, bo_callS 19 3 0 0 F_M_in),
  (19, bo_if1 22 33 (fun x => x = 0)),
  (22, bo_ild 23 3),
  (23, bo_st 24 (bg_push (.inl (.int 0)))),
  (24, bo_st 27 (bg_push (.inl (.int 255)))),
  (27, bo_callS 30 3 0 0 F_M_in),
  (30, bo_if1 33 39 (fun x => ¬ x = 0)),
  (33, bo_ald 34 0),
  (34, bo_st 35 (bg_push (.inl (.int 1)))),
  (35, bo_callV 38 2 0 0 40 F_M_raise),
  (38, bo_iret 0),
  (39, bo_ald 40 0),
  (40, bo_gR 43 40 1 41),
  (43, bo_ild 44 1),
  (44, bo_Iald bh_ak bh_al 45),
  (45, bo_if1 48 54 (fun x => ¬ x = 0)),
  (48, bo_ald 49 0),
  (49, bo_st 50 (bg_push (.inl (.int 2)))),
  (50, bo_callV 53 2 0 0 40 F_M_raise),
  (53, bo_iret 0),
  (54, bo_ald 55 0),
  (55, bo_gR 58 40 1 41),
  (58, bo_ild 59 1),
  (59, bo_Iald bh_ak bh_al 60),
  (60, bo_st 61 (bg_push (.inl (.int 1)))),
  (61, bo_if2 64 70 (fun x y => x = y)),
  (64, bo_ald 65 0),
  (65, bo_st 66 (bg_push (.inl (.int 3)))),
  (66, bo_callV 69 2 0 0 40 F_M_raise),
  (69, bo_iret 0),
  (70, bo_st 71 (bg_push (.inl (.int 3))))]
def T_M_export_1 : List (Nat × bh_Op) := [(71, bo_ild 72 1),
  (72, bo_st 73 (bg_ii (fun x y => x * y))),
  (73, bo_ist 75 4),
  (75, bo_ild 77 4),
  (77, bo_st 78 (bg_push (.inl (.int 3)))),
  (78, bo_ild 79 1),
  (79, bo_st 80 (bg_ii (fun x y => x * y))),
  (80, bo_ald 81 0),
  (81, bo_gR 84 40 8 48),
  (84, bo_ild 85 1),
  (85, bo_Iald bh_ak bh_al 86),
  (86, bo_st 87 (bg_ii (fun x y => x + y))),
  (87, bo_if2 90 116 (fun x y => y ≤ x)),
  (90, bo_ald 91 0),
  (91, bo_gR 94 40 9 49),
  (94, bo_ild 96 4),
  (96, bo_Iald bh_ak bh_al 97),
  (97, bo_ild 98 2),
  (98, bo_st 100 (bg_push (.inl (.int 8)))),
  (100, bo_st 101 (bg_dv (fun x y => x - x / y * y))),
  (101, bo_if2 104 110 (fun x y => ¬ x = y)),
  (104, bo_ald 105 0),
  (105, bo_st 106 (bg_push (.inl (.int 4)))),
  (106, bo_callV 109 2 0 0 40 F_M_raise),
  (109, bo_iret 0),
  (110, bo_inc 113 4 1),
  (113, bo_go 75),
  (116, bo_ald 117 0),
  (117, bo_gR 120 40 8 48),
  (120, bo_ild 121 1),
  (121, bo_Iald bh_ak bh_al 122),
  (122, bo_st 123 (bg_push (.inl (.int 3)))),
  (123, bo_if2 126 132 (fun x y => ¬ x = y)),
  (126, bo_ald 127 0),
  (127, bo_st 128 (bg_push (.inl (.int 4)))),
  (128, bo_callV 131 2 0 0 40 F_M_raise),
  (131, bo_iret 0),
  (132, bo_st 133 (bg_push (.inl (.int 3)))),
  (133, bo_ild 134 1),
  (134, bo_st 135 (bg_ii (fun x y => x * y)))]
def T_M_export_2 : List (Nat × bh_Op) := [(135, bo_ald 136 0),
  (136, bo_gR 139 40 8 48),
  (139, bo_ild 140 1),
  (140, bo_Iald bh_ak bh_al 141),
  (141, bo_st 142 (bg_ii (fun x y => x + y))),
  (142, bo_ist 144 4),
  (144, bo_ald 145 0),
  (145, bo_gR 148 40 9 49),
  (148, bo_ild 150 4),
  (150, bo_ild 151 2),
  (151, bo_st 153 (bg_push (.inl (.int 8)))),
  (153, bo_st 154 (bg_dv (fun x y => x - x / y * y))),
  (154, bo_Iast bh_ak bh_al 155),
  (155, bo_ald 156 0),
  (156, bo_gR 159 40 10 50),
  (159, bo_ild 161 4),
  (161, bo_ild 162 2),
  (162, bo_st 164 (bg_push (.inl (.int 8)))),
  (164, bo_st 165 (bg_dv (fun x y => x / y))),
  (165, bo_Iast bh_ak bh_al 166),
  (166, bo_ald 167 0),
  (167, bo_gR 170 40 11 51),
  (170, bo_ild 172 4),
  (172, bo_ild 173 3),
  (173, bo_Iast bh_ak bh_al 174),
  (174, bo_ald 175 0),
  (175, bo_gR 178 40 8 48),
  (178, bo_ild 179 1),
  (179, bo_st 180 bg_dup2),
  (180, bo_Iald bh_ak bh_al 181),
  (181, bo_st 182 (bg_push (.inl (.int 1)))),
  (182, bo_st 183 (bg_ii (fun x y => x + y))),
  (183, bo_Iast bh_ak bh_al 184),
  (184, bo_ald 185 0),
  (185, bo_gR 188 40 8 48),
  (188, bo_ild 189 1),
  (189, bo_Iald bh_ak bh_al 190),
  (190, bo_iret 0)]
def T_M_export : List (Nat × bh_Op) := T_M_export_0 ++ T_M_export_1 ++ T_M_export_2
set_option maxRecDepth 20000 in
theorem mT_M_export_0 : ∀ q ∈ T_M_export_0, bh_mono q.2 := List.forall_mem_cons.mpr ⟨bo_ald_m _ _, List.forall_mem_cons.mpr ⟨bo_st_mono (bg_push_m _), List.forall_mem_cons.mpr ⟨bo_pI_m _ _ _, List.forall_mem_cons.mpr ⟨bo_ild_m _ _, List.forall_mem_cons.mpr ⟨bo_callS_m (mF_M_isBundle) _ _ _ _, List.forall_mem_cons.mpr ⟨bo_if1_m _ _ _, List.forall_mem_cons.mpr ⟨bo_ild_m _ _, List.forall_mem_cons.mpr ⟨bo_st_mono (bg_push_m _), List.forall_mem_cons.mpr ⟨bo_st_mono (bg_push_m _), List.forall_mem_cons.mpr ⟨bo_callS_m (mF_M_in) _ _ _ _, List.forall_mem_cons.mpr ⟨bo_if1_m _ _ _, List.forall_mem_cons.mpr ⟨bo_ild_m _ _, List.forall_mem_cons.mpr ⟨bo_st_mono (bg_push_m _), List.forall_mem_cons.mpr ⟨bo_st_mono (bg_push_m _), List.forall_mem_cons.mpr ⟨bo_callS_m (mF_M_in) _ _ _ _, List.forall_mem_cons.mpr ⟨bo_if1_m _ _ _, List.forall_mem_cons.mpr ⟨bo_ald_m _ _, List.forall_mem_cons.mpr ⟨bo_st_mono (bg_push_m _), List.forall_mem_cons.mpr ⟨bo_callV_m (mF_M_raise) _ _ _ _ _, List.forall_mem_cons.mpr ⟨bo_iret_m _, List.forall_mem_cons.mpr ⟨bo_ald_m _ _, List.forall_mem_cons.mpr ⟨bo_gR_m _ _ _ _, List.forall_mem_cons.mpr ⟨bo_ild_m _ _, List.forall_mem_cons.mpr ⟨bo_Iald_m _ _ _, List.forall_mem_cons.mpr ⟨bo_if1_m _ _ _, List.forall_mem_cons.mpr ⟨bo_ald_m _ _, List.forall_mem_cons.mpr ⟨bo_st_mono (bg_push_m _), List.forall_mem_cons.mpr ⟨bo_callV_m (mF_M_raise) _ _ _ _ _, List.forall_mem_cons.mpr ⟨bo_iret_m _, List.forall_mem_cons.mpr ⟨bo_ald_m _ _, List.forall_mem_cons.mpr ⟨bo_gR_m _ _ _ _, List.forall_mem_cons.mpr ⟨bo_ild_m _ _, List.forall_mem_cons.mpr ⟨bo_Iald_m _ _ _, List.forall_mem_cons.mpr ⟨bo_st_mono (bg_push_m _), List.forall_mem_cons.mpr ⟨bo_if2_m _ _ _, List.forall_mem_cons.mpr ⟨bo_ald_m _ _, List.forall_mem_cons.mpr ⟨bo_st_mono (bg_push_m _), List.forall_mem_cons.mpr ⟨bo_callV_m (mF_M_raise) _ _ _ _ _, List.forall_mem_cons.mpr ⟨bo_iret_m _, List.forall_mem_cons.mpr ⟨bo_st_mono (bg_push_m _), fun _ h => absurd h List.not_mem_nil⟩⟩⟩⟩⟩⟩⟩⟩⟩⟩⟩⟩⟩⟩⟩⟩⟩⟩⟩⟩⟩⟩⟩⟩⟩⟩⟩⟩⟩⟩⟩⟩⟩⟩⟩⟩⟩⟩⟩⟩
set_option maxRecDepth 20000 in
theorem mT_M_export_1 : ∀ q ∈ T_M_export_1, bh_mono q.2 := List.forall_mem_cons.mpr ⟨bo_ild_m _ _, List.forall_mem_cons.mpr ⟨bo_st_mono (bg_ii_m _), List.forall_mem_cons.mpr ⟨bo_ist_m _ _, List.forall_mem_cons.mpr ⟨bo_ild_m _ _, List.forall_mem_cons.mpr ⟨bo_st_mono (bg_push_m _), List.forall_mem_cons.mpr ⟨bo_ild_m _ _, List.forall_mem_cons.mpr ⟨bo_st_mono (bg_ii_m _), List.forall_mem_cons.mpr ⟨bo_ald_m _ _, List.forall_mem_cons.mpr ⟨bo_gR_m _ _ _ _, List.forall_mem_cons.mpr ⟨bo_ild_m _ _, List.forall_mem_cons.mpr ⟨bo_Iald_m _ _ _, List.forall_mem_cons.mpr ⟨bo_st_mono (bg_ii_m _), List.forall_mem_cons.mpr ⟨bo_if2_m _ _ _, List.forall_mem_cons.mpr ⟨bo_ald_m _ _, List.forall_mem_cons.mpr ⟨bo_gR_m _ _ _ _, List.forall_mem_cons.mpr ⟨bo_ild_m _ _, List.forall_mem_cons.mpr ⟨bo_Iald_m _ _ _, List.forall_mem_cons.mpr ⟨bo_ild_m _ _, List.forall_mem_cons.mpr ⟨bo_st_mono (bg_push_m _), List.forall_mem_cons.mpr ⟨bo_st_mono (bg_dv_m _), List.forall_mem_cons.mpr ⟨bo_if2_m _ _ _, List.forall_mem_cons.mpr ⟨bo_ald_m _ _, List.forall_mem_cons.mpr ⟨bo_st_mono (bg_push_m _), List.forall_mem_cons.mpr ⟨bo_callV_m (mF_M_raise) _ _ _ _ _, List.forall_mem_cons.mpr ⟨bo_iret_m _, List.forall_mem_cons.mpr ⟨bo_inc_m _ _ _, List.forall_mem_cons.mpr ⟨bo_go_m _, List.forall_mem_cons.mpr ⟨bo_ald_m _ _, List.forall_mem_cons.mpr ⟨bo_gR_m _ _ _ _, List.forall_mem_cons.mpr ⟨bo_ild_m _ _, List.forall_mem_cons.mpr ⟨bo_Iald_m _ _ _, List.forall_mem_cons.mpr ⟨bo_st_mono (bg_push_m _), List.forall_mem_cons.mpr ⟨bo_if2_m _ _ _, List.forall_mem_cons.mpr ⟨bo_ald_m _ _, List.forall_mem_cons.mpr ⟨bo_st_mono (bg_push_m _), List.forall_mem_cons.mpr ⟨bo_callV_m (mF_M_raise) _ _ _ _ _, List.forall_mem_cons.mpr ⟨bo_iret_m _, List.forall_mem_cons.mpr ⟨bo_st_mono (bg_push_m _), List.forall_mem_cons.mpr ⟨bo_ild_m _ _, List.forall_mem_cons.mpr ⟨bo_st_mono (bg_ii_m _), fun _ h => absurd h List.not_mem_nil⟩⟩⟩⟩⟩⟩⟩⟩⟩⟩⟩⟩⟩⟩⟩⟩⟩⟩⟩⟩⟩⟩⟩⟩⟩⟩⟩⟩⟩⟩⟩⟩⟩⟩⟩⟩⟩⟩⟩⟩
set_option maxRecDepth 20000 in
theorem mT_M_export_2 : ∀ q ∈ T_M_export_2, bh_mono q.2 := List.forall_mem_cons.mpr ⟨bo_ald_m _ _, List.forall_mem_cons.mpr ⟨bo_gR_m _ _ _ _, List.forall_mem_cons.mpr ⟨bo_ild_m _ _, List.forall_mem_cons.mpr ⟨bo_Iald_m _ _ _, List.forall_mem_cons.mpr ⟨bo_st_mono (bg_ii_m _), List.forall_mem_cons.mpr ⟨bo_ist_m _ _, List.forall_mem_cons.mpr ⟨bo_ald_m _ _, List.forall_mem_cons.mpr ⟨bo_gR_m _ _ _ _, List.forall_mem_cons.mpr ⟨bo_ild_m _ _, List.forall_mem_cons.mpr ⟨bo_ild_m _ _, List.forall_mem_cons.mpr ⟨bo_st_mono (bg_push_m _), List.forall_mem_cons.mpr ⟨bo_st_mono (bg_dv_m _), List.forall_mem_cons.mpr ⟨bo_Iast_m _ _ _, List.forall_mem_cons.mpr ⟨bo_ald_m _ _, List.forall_mem_cons.mpr ⟨bo_gR_m _ _ _ _, List.forall_mem_cons.mpr ⟨bo_ild_m _ _, List.forall_mem_cons.mpr ⟨bo_ild_m _ _, List.forall_mem_cons.mpr ⟨bo_st_mono (bg_push_m _), List.forall_mem_cons.mpr ⟨bo_st_mono (bg_dv_m _), List.forall_mem_cons.mpr ⟨bo_Iast_m _ _ _, List.forall_mem_cons.mpr ⟨bo_ald_m _ _, List.forall_mem_cons.mpr ⟨bo_gR_m _ _ _ _, List.forall_mem_cons.mpr ⟨bo_ild_m _ _, List.forall_mem_cons.mpr ⟨bo_ild_m _ _, List.forall_mem_cons.mpr ⟨bo_Iast_m _ _ _, List.forall_mem_cons.mpr ⟨bo_ald_m _ _, List.forall_mem_cons.mpr ⟨bo_gR_m _ _ _ _, List.forall_mem_cons.mpr ⟨bo_ild_m _ _, List.forall_mem_cons.mpr ⟨bo_st_mono bg_dup2_m, List.forall_mem_cons.mpr ⟨bo_Iald_m _ _ _, List.forall_mem_cons.mpr ⟨bo_st_mono (bg_push_m _), List.forall_mem_cons.mpr ⟨bo_st_mono (bg_ii_m _), List.forall_mem_cons.mpr ⟨bo_Iast_m _ _ _, List.forall_mem_cons.mpr ⟨bo_ald_m _ _, List.forall_mem_cons.mpr ⟨bo_gR_m _ _ _ _, List.forall_mem_cons.mpr ⟨bo_ild_m _ _, List.forall_mem_cons.mpr ⟨bo_Iald_m _ _ _, List.forall_mem_cons.mpr ⟨bo_iret_m _, fun _ h => absurd h List.not_mem_nil⟩⟩⟩⟩⟩⟩⟩⟩⟩⟩⟩⟩⟩⟩⟩⟩⟩⟩⟩⟩⟩⟩⟩⟩⟩⟩⟩⟩⟩⟩⟩⟩⟩⟩⟩⟩⟩⟩
theorem m_M_export : ∀ pc, bh_mono (bh_tb (T_M_export) pc) := bh_tb_m (List.forall_mem_append.mpr ⟨(List.forall_mem_append.mpr ⟨mT_M_export_0, mT_M_export_1⟩), mT_M_export_2⟩)
def F_M_export : bh_Fn := bh_fn 5 (bh_tb T_M_export)
theorem mF_M_export : bh_monoF F_M_export := bh_fn_m m_M_export
theorem cl_M_export {s : State} {args : Array Value} (d B : Nat) (hts : ∀ w ∈ bh_ws, w.before args s = true) : bh_Cal (bh_rm (d + 1) B) s y_M_export 5 (.code y_M_export c_M_export 5 (some .int) :: bh_ws) (bh_rm d 0) 0 3 := bh_cal d B hts wd_936 wd_9 (by decide) (by decide +kernel)
set_option maxHeartbeats 4000000 in
set_option maxRecDepth 100000 in
theorem cn_M_export {l : Launch} {G : bh_G} {base sb L : Nat} {xs : Nat → Int32} (htr : l.stackTraces = false) (d : Nat) : bh_Con l G base (bh_Bg G base sb L xs) y_M_export (.code y_M_export c_M_export 5 (some .int) :: bh_ws) (bh_rm (d + 3) 0) 0 false F_M_export := by
  refine bh_method (cc := c_M_export) (ret := (some .int)) (by decide +kernel) rfl ?_
  intro p e s m args below meth c ad0 M0 Z X0 hr hlocks hname htab hbs hB
  obtain ⟨hx, hb, hml, hown, hts⟩ := id X0
  have hw : ∀ w ∈ bh_ws, w.before args s = true := fun w h => hts w (List.mem_cons_of_mem _ h)
  have hBg := bh_BgK (G := G) (base := base) (sb := sb) (L := L) (xs := xs)
  obtain ⟨hK, hAr, hen, hinj, hu1, hu2, hstr, hX, hsb, hsc, hxw, hao, hnc⟩ := id hB
  obtain ⟨ha1, ha2, ha3, ha4, ha5, ha6, ha0⟩ := bh_arr hAr
  refine List.forall_mem_append.mpr ⟨?_, List.forall_mem_cons.mpr ⟨fun S h => bs_aload_n (Z := Z) hx hb rfl d_M_export_135 h, List.forall_mem_cons.mpr ⟨fun S h => bs_gR (Z := Z) (C := R_M) (T := F_M) (N := 40) (t := 40) (j := 8) hx hb hK hts (fun w h => List.mem_cons_of_mem _ (iw_M w h)) hown rfl rfl (by decide) (hts _ (List.mem_cons_of_mem _ wd_792)) (fun _ h => h) rfl rfl rfl d_M_export_136 h, List.forall_mem_cons.mpr ⟨fun S h => bs_iload_n (Z := Z) hx hb rfl d_M_export_139 h, List.forall_mem_cons.mpr ⟨fun S h => bs_Iald (Z := Z) hx hb ha1 d_M_export_140 h, List.forall_mem_cons.mpr ⟨fun S h => bs_iadd (Z := Z) hx hb d_M_export_141 h, List.forall_mem_cons.mpr ⟨fun S h => bs_istore (Z := Z) hx hb d_M_export_142 h, List.forall_mem_cons.mpr ⟨fun S h => bs_aload_n (Z := Z) hx hb rfl d_M_export_144 h, List.forall_mem_cons.mpr ⟨fun S h => bs_gR (Z := Z) (C := R_M) (T := F_M) (N := 40) (t := 40) (j := 9) hx hb hK hts (fun w h => List.mem_cons_of_mem _ (iw_M w h)) hown rfl rfl (by decide) (hts _ (List.mem_cons_of_mem _ wd_793)) (fun _ h => h) rfl rfl rfl d_M_export_145 h, List.forall_mem_cons.mpr ⟨fun S h => bs_iload (Z := Z) hx hb d_M_export_148 h, List.forall_mem_cons.mpr ⟨fun S h => bs_iload_n (Z := Z) hx hb rfl d_M_export_150 h, List.forall_mem_cons.mpr ⟨fun S h => bs_bipush (Z := Z) hx hb (by decide) d_M_export_151 h, List.forall_mem_cons.mpr ⟨fun S h => bs_irem (Z := Z) hx hb d_M_export_153 h, List.forall_mem_cons.mpr ⟨fun S h => bs_Iast (Z := Z) hx hb ha1 d_M_export_154 h, List.forall_mem_cons.mpr ⟨fun S h => bs_aload_n (Z := Z) hx hb rfl d_M_export_155 h, List.forall_mem_cons.mpr ⟨fun S h => bs_gR (Z := Z) (C := R_M) (T := F_M) (N := 40) (t := 40) (j := 10) hx hb hK hts (fun w h => List.mem_cons_of_mem _ (iw_M w h)) hown rfl rfl (by decide) (hts _ (List.mem_cons_of_mem _ wd_794)) (fun _ h => h) rfl rfl rfl d_M_export_156 h, List.forall_mem_cons.mpr ⟨fun S h => bs_iload (Z := Z) hx hb d_M_export_159 h, List.forall_mem_cons.mpr ⟨fun S h => bs_iload_n (Z := Z) hx hb rfl d_M_export_161 h, List.forall_mem_cons.mpr ⟨fun S h => bs_bipush (Z := Z) hx hb (by decide) d_M_export_162 h, List.forall_mem_cons.mpr ⟨fun S h => bs_idiv (Z := Z) hx hb d_M_export_164 h, List.forall_mem_cons.mpr ⟨fun S h => bs_Iast (Z := Z) hx hb ha1 d_M_export_165 h, List.forall_mem_cons.mpr ⟨fun S h => bs_aload_n (Z := Z) hx hb rfl d_M_export_166 h, List.forall_mem_cons.mpr ⟨fun S h => bs_gR (Z := Z) (C := R_M) (T := F_M) (N := 40) (t := 40) (j := 11) hx hb hK hts (fun w h => List.mem_cons_of_mem _ (iw_M w h)) hown rfl rfl (by decide) (hts _ (List.mem_cons_of_mem _ wd_795)) (fun _ h => h) rfl rfl rfl d_M_export_167 h, List.forall_mem_cons.mpr ⟨fun S h => bs_iload (Z := Z) hx hb d_M_export_170 h, List.forall_mem_cons.mpr ⟨fun S h => bs_iload_n (Z := Z) hx hb rfl d_M_export_172 h, List.forall_mem_cons.mpr ⟨fun S h => bs_Iast (Z := Z) hx hb ha1 d_M_export_173 h, List.forall_mem_cons.mpr ⟨fun S h => bs_aload_n (Z := Z) hx hb rfl d_M_export_174 h, List.forall_mem_cons.mpr ⟨fun S h => bs_gR (Z := Z) (C := R_M) (T := F_M) (N := 40) (t := 40) (j := 8) hx hb hK hts (fun w h => List.mem_cons_of_mem _ (iw_M w h)) hown rfl rfl (by decide) (hts _ (List.mem_cons_of_mem _ wd_792)) (fun _ h => h) rfl rfl rfl d_M_export_175 h, List.forall_mem_cons.mpr ⟨fun S h => bs_iload_n (Z := Z) hx hb rfl d_M_export_178 h, List.forall_mem_cons.mpr ⟨fun S h => bs_dup2 (Z := Z) hx hb d_M_export_179 h, List.forall_mem_cons.mpr ⟨fun S h => bs_Iald (Z := Z) hx hb ha1 d_M_export_180 h, List.forall_mem_cons.mpr ⟨fun S h => bs_iconst (Z := Z) hx hb (by decide) d_M_export_181 h, List.forall_mem_cons.mpr ⟨fun S h => bs_iadd (Z := Z) hx hb d_M_export_182 h, List.forall_mem_cons.mpr ⟨fun S h => bs_Iast (Z := Z) hx hb ha1 d_M_export_183 h, List.forall_mem_cons.mpr ⟨fun S h => bs_aload_n (Z := Z) hx hb rfl d_M_export_184 h, List.forall_mem_cons.mpr ⟨fun S h => bs_gR (Z := Z) (C := R_M) (T := F_M) (N := 40) (t := 40) (j := 8) hx hb hK hts (fun w h => List.mem_cons_of_mem _ (iw_M w h)) hown rfl rfl (by decide) (hts _ (List.mem_cons_of_mem _ wd_792)) (fun _ h => h) rfl rfl rfl d_M_export_185 h, List.forall_mem_cons.mpr ⟨fun S h => bs_iload_n (Z := Z) hx hb rfl d_M_export_188 h, List.forall_mem_cons.mpr ⟨fun S h => bs_Iald (Z := Z) hx hb ha1 d_M_export_189 h, List.forall_mem_cons.mpr ⟨fun S h => bs_iret (Z := Z) hx hb hr hlocks d_M_export_190 h, fun _ h => absurd h List.not_mem_nil⟩⟩⟩⟩⟩⟩⟩⟩⟩⟩⟩⟩⟩⟩⟩⟩⟩⟩⟩⟩⟩⟩⟩⟩⟩⟩⟩⟩⟩⟩⟩⟩⟩⟩⟩⟩⟩⟩⟩
  refine List.forall_mem_append.mpr ⟨?_, List.forall_mem_cons.mpr ⟨fun S h => bs_iload_n (Z := Z) hx hb rfl d_M_export_71 h, List.forall_mem_cons.mpr ⟨fun S h => bs_imul (Z := Z) hx hb d_M_export_72 h, List.forall_mem_cons.mpr ⟨fun S h => bs_istore (Z := Z) hx hb d_M_export_73 h, List.forall_mem_cons.mpr ⟨fun S h => bs_iload (Z := Z) hx hb d_M_export_75 h, List.forall_mem_cons.mpr ⟨fun S h => bs_iconst (Z := Z) hx hb (by decide) d_M_export_77 h, List.forall_mem_cons.mpr ⟨fun S h => bs_iload_n (Z := Z) hx hb rfl d_M_export_78 h, List.forall_mem_cons.mpr ⟨fun S h => bs_imul (Z := Z) hx hb d_M_export_79 h, List.forall_mem_cons.mpr ⟨fun S h => bs_aload_n (Z := Z) hx hb rfl d_M_export_80 h, List.forall_mem_cons.mpr ⟨fun S h => bs_gR (Z := Z) (C := R_M) (T := F_M) (N := 40) (t := 40) (j := 8) hx hb hK hts (fun w h => List.mem_cons_of_mem _ (iw_M w h)) hown rfl rfl (by decide) (hts _ (List.mem_cons_of_mem _ wd_792)) (fun _ h => h) rfl rfl rfl d_M_export_81 h, List.forall_mem_cons.mpr ⟨fun S h => bs_iload_n (Z := Z) hx hb rfl d_M_export_84 h, List.forall_mem_cons.mpr ⟨fun S h => bs_Iald (Z := Z) hx hb ha1 d_M_export_85 h, List.forall_mem_cons.mpr ⟨fun S h => bs_iadd (Z := Z) hx hb d_M_export_86 h, List.forall_mem_cons.mpr ⟨fun S h => bs_icmp_ge (Z := Z) hx hb d_M_export_87 (by decide) h, List.forall_mem_cons.mpr ⟨fun S h => bs_aload_n (Z := Z) hx hb rfl d_M_export_90 h, List.forall_mem_cons.mpr ⟨fun S h => bs_gR (Z := Z) (C := R_M) (T := F_M) (N := 40) (t := 40) (j := 9) hx hb hK hts (fun w h => List.mem_cons_of_mem _ (iw_M w h)) hown rfl rfl (by decide) (hts _ (List.mem_cons_of_mem _ wd_793)) (fun _ h => h) rfl rfl rfl d_M_export_91 h, List.forall_mem_cons.mpr ⟨fun S h => bs_iload (Z := Z) hx hb d_M_export_94 h, List.forall_mem_cons.mpr ⟨fun S h => bs_Iald (Z := Z) hx hb ha1 d_M_export_96 h, List.forall_mem_cons.mpr ⟨fun S h => bs_iload_n (Z := Z) hx hb rfl d_M_export_97 h, List.forall_mem_cons.mpr ⟨fun S h => bs_bipush (Z := Z) hx hb (by decide) d_M_export_98 h, List.forall_mem_cons.mpr ⟨fun S h => bs_irem (Z := Z) hx hb d_M_export_100 h, List.forall_mem_cons.mpr ⟨fun S h => bs_icmp_ne (Z := Z) hx hb d_M_export_101 (by decide) h, List.forall_mem_cons.mpr ⟨fun S h => bs_aload_n (Z := Z) hx hb rfl d_M_export_104 h, List.forall_mem_cons.mpr ⟨fun S h => bs_iconst (Z := Z) hx hb (by decide) d_M_export_105 h, List.forall_mem_cons.mpr ⟨fun S h => bs_callV (Z := Z) (C := R_M) hBg hbs hB X0 hK (cn_M_raise htr (d + 1)) (cl_M_raise _ _ hw) (hts _ (List.mem_cons_of_mem _ wd_921)) (hts _ (List.mem_cons_of_mem _ wd_923)) (hts _ (List.mem_cons_of_mem _ ws_25)) rfl rfl rfl rfl rfl (Nat.le_refl _) (Nat.le_refl _) d_M_export_106 (bs_out htab hlocks) h, List.forall_mem_cons.mpr ⟨fun S h => bs_iret (Z := Z) hx hb hr hlocks d_M_export_109 h, List.forall_mem_cons.mpr ⟨fun S h => bs_iinc (Z := Z) hx hb (by decide) d_M_export_110 h, List.forall_mem_cons.mpr ⟨fun S h => bs_goto (Z := Z) hx hb d_M_export_113 (by decide) h, List.forall_mem_cons.mpr ⟨fun S h => bs_aload_n (Z := Z) hx hb rfl d_M_export_116 h, List.forall_mem_cons.mpr ⟨fun S h => bs_gR (Z := Z) (C := R_M) (T := F_M) (N := 40) (t := 40) (j := 8) hx hb hK hts (fun w h => List.mem_cons_of_mem _ (iw_M w h)) hown rfl rfl (by decide) (hts _ (List.mem_cons_of_mem _ wd_792)) (fun _ h => h) rfl rfl rfl d_M_export_117 h, List.forall_mem_cons.mpr ⟨fun S h => bs_iload_n (Z := Z) hx hb rfl d_M_export_120 h, List.forall_mem_cons.mpr ⟨fun S h => bs_Iald (Z := Z) hx hb ha1 d_M_export_121 h, List.forall_mem_cons.mpr ⟨fun S h => bs_iconst (Z := Z) hx hb (by decide) d_M_export_122 h, List.forall_mem_cons.mpr ⟨fun S h => bs_icmp_ne (Z := Z) hx hb d_M_export_123 (by decide) h, List.forall_mem_cons.mpr ⟨fun S h => bs_aload_n (Z := Z) hx hb rfl d_M_export_126 h, List.forall_mem_cons.mpr ⟨fun S h => bs_iconst (Z := Z) hx hb (by decide) d_M_export_127 h, List.forall_mem_cons.mpr ⟨fun S h => bs_callV (Z := Z) (C := R_M) hBg hbs hB X0 hK (cn_M_raise htr (d + 1)) (cl_M_raise _ _ hw) (hts _ (List.mem_cons_of_mem _ wd_921)) (hts _ (List.mem_cons_of_mem _ wd_923)) (hts _ (List.mem_cons_of_mem _ ws_25)) rfl rfl rfl rfl rfl (Nat.le_refl _) (Nat.le_refl _) d_M_export_128 (bs_out htab hlocks) h, List.forall_mem_cons.mpr ⟨fun S h => bs_iret (Z := Z) hx hb hr hlocks d_M_export_131 h, List.forall_mem_cons.mpr ⟨fun S h => bs_iconst (Z := Z) hx hb (by decide) d_M_export_132 h, List.forall_mem_cons.mpr ⟨fun S h => bs_iload_n (Z := Z) hx hb rfl d_M_export_133 h, List.forall_mem_cons.mpr ⟨fun S h => bs_imul (Z := Z) hx hb d_M_export_134 h, fun _ h => absurd h List.not_mem_nil⟩⟩⟩⟩⟩⟩⟩⟩⟩⟩⟩⟩⟩⟩⟩⟩⟩⟩⟩⟩⟩⟩⟩⟩⟩⟩⟩⟩⟩⟩⟩⟩⟩⟩⟩⟩⟩⟩⟩⟩⟩
  exact List.forall_mem_cons.mpr ⟨fun S h => bs_aload_n (Z := Z) hx hb rfl d_M_export_0 h, List.forall_mem_cons.mpr ⟨fun S h => bs_iconst (Z := Z) hx hb (by decide) d_M_export_1 h, List.forall_mem_cons.mpr ⟨fun S h => bs_pI (Z := Z) (C := R_M) (T := F_M) (N := 40) (t := 40) (j := 0) hx hb hK hts (fun w h => List.mem_cons_of_mem _ (iw_M w h)) hown rfl rfl (by decide) (hts _ (List.mem_cons_of_mem _ wd_784)) (fun _ h => h) rfl rfl t_M t_M_ok n_M rfl (by decide +kernel) rfl d_M_export_2 h, List.forall_mem_cons.mpr ⟨fun S h => bs_iload_n (Z := Z) hx hb rfl d_M_export_5 h, List.forall_mem_cons.mpr ⟨fun S h => bs_callS (Z := Z) hBg hbs hB X0 (cn_M_isBundle htr (d + 0)) (cl_M_isBundle _ _ hw) (hts _ (List.mem_cons_of_mem _ wd_915)) (hts _ (List.mem_cons_of_mem _ wd_916)) (Nat.le_refl _) (Nat.le_refl _) d_M_export_6 (bs_out htab hlocks) h, List.forall_mem_cons.mpr ⟨fun S h => bs_if_eq (Z := Z) hx hb d_M_export_9 (by decide) h, List.forall_mem_cons.mpr ⟨fun S h => bs_iload_n (Z := Z) hx hb rfl d_M_export_12 h, List.forall_mem_cons.mpr ⟨fun S h => bs_iconst (Z := Z) hx hb (by decide) d_M_export_13 h, List.forall_mem_cons.mpr ⟨fun S h => bs_bipush (Z := Z) hx hb (by decide) d_M_export_14 h, List.forall_mem_cons.mpr ⟨fun S h => bs_callS (Z := Z) hBg hbs hB X0 (cn_M_in htr (d + 1)) (cl_M_in _ _ hw) (hts _ (List.mem_cons_of_mem _ wd_918)) (hts _ (List.mem_cons_of_mem _ wd_919)) (Nat.le_refl _) (Nat.le_refl _) d_M_export_16 (bs_out htab hlocks) h, List.forall_mem_cons.mpr ⟨fun S h => bs_if_eq (Z := Z) hx hb d_M_export_19 (by decide) h, List.forall_mem_cons.mpr ⟨fun S h => bs_iload_n (Z := Z) hx hb rfl d_M_export_22 h, List.forall_mem_cons.mpr ⟨fun S h => bs_iconst (Z := Z) hx hb (by decide) d_M_export_23 h, List.forall_mem_cons.mpr ⟨fun S h => bs_sipush (Z := Z) hx hb (by decide) d_M_export_24 h, List.forall_mem_cons.mpr ⟨fun S h => bs_callS (Z := Z) hBg hbs hB X0 (cn_M_in htr (d + 1)) (cl_M_in _ _ hw) (hts _ (List.mem_cons_of_mem _ wd_918)) (hts _ (List.mem_cons_of_mem _ wd_919)) (Nat.le_refl _) (Nat.le_refl _) d_M_export_27 (bs_out htab hlocks) h, List.forall_mem_cons.mpr ⟨fun S h => bs_if_ne (Z := Z) hx hb d_M_export_30 (by decide) h, List.forall_mem_cons.mpr ⟨fun S h => bs_aload_n (Z := Z) hx hb rfl d_M_export_33 h, List.forall_mem_cons.mpr ⟨fun S h => bs_iconst (Z := Z) hx hb (by decide) d_M_export_34 h, List.forall_mem_cons.mpr ⟨fun S h => bs_callV (Z := Z) (C := R_M) hBg hbs hB X0 hK (cn_M_raise htr (d + 1)) (cl_M_raise _ _ hw) (hts _ (List.mem_cons_of_mem _ wd_921)) (hts _ (List.mem_cons_of_mem _ wd_923)) (hts _ (List.mem_cons_of_mem _ ws_25)) rfl rfl rfl rfl rfl (Nat.le_refl _) (Nat.le_refl _) d_M_export_35 (bs_out htab hlocks) h, List.forall_mem_cons.mpr ⟨fun S h => bs_iret (Z := Z) hx hb hr hlocks d_M_export_38 h, List.forall_mem_cons.mpr ⟨fun S h => bs_aload_n (Z := Z) hx hb rfl d_M_export_39 h, List.forall_mem_cons.mpr ⟨fun S h => bs_gR (Z := Z) (C := R_M) (T := F_M) (N := 40) (t := 40) (j := 1) hx hb hK hts (fun w h => List.mem_cons_of_mem _ (iw_M w h)) hown rfl rfl (by decide) (hts _ (List.mem_cons_of_mem _ wd_785)) (fun _ h => h) rfl rfl rfl d_M_export_40 h, List.forall_mem_cons.mpr ⟨fun S h => bs_iload_n (Z := Z) hx hb rfl d_M_export_43 h, List.forall_mem_cons.mpr ⟨fun S h => bs_Iald (Z := Z) hx hb ha1 d_M_export_44 h, List.forall_mem_cons.mpr ⟨fun S h => bs_if_ne (Z := Z) hx hb d_M_export_45 (by decide) h, List.forall_mem_cons.mpr ⟨fun S h => bs_aload_n (Z := Z) hx hb rfl d_M_export_48 h, List.forall_mem_cons.mpr ⟨fun S h => bs_iconst (Z := Z) hx hb (by decide) d_M_export_49 h, List.forall_mem_cons.mpr ⟨fun S h => bs_callV (Z := Z) (C := R_M) hBg hbs hB X0 hK (cn_M_raise htr (d + 1)) (cl_M_raise _ _ hw) (hts _ (List.mem_cons_of_mem _ wd_921)) (hts _ (List.mem_cons_of_mem _ wd_923)) (hts _ (List.mem_cons_of_mem _ ws_25)) rfl rfl rfl rfl rfl (Nat.le_refl _) (Nat.le_refl _) d_M_export_50 (bs_out htab hlocks) h, List.forall_mem_cons.mpr ⟨fun S h => bs_iret (Z := Z) hx hb hr hlocks d_M_export_53 h, List.forall_mem_cons.mpr ⟨fun S h => bs_aload_n (Z := Z) hx hb rfl d_M_export_54 h, List.forall_mem_cons.mpr ⟨fun S h => bs_gR (Z := Z) (C := R_M) (T := F_M) (N := 40) (t := 40) (j := 1) hx hb hK hts (fun w h => List.mem_cons_of_mem _ (iw_M w h)) hown rfl rfl (by decide) (hts _ (List.mem_cons_of_mem _ wd_785)) (fun _ h => h) rfl rfl rfl d_M_export_55 h, List.forall_mem_cons.mpr ⟨fun S h => bs_iload_n (Z := Z) hx hb rfl d_M_export_58 h, List.forall_mem_cons.mpr ⟨fun S h => bs_Iald (Z := Z) hx hb ha1 d_M_export_59 h, List.forall_mem_cons.mpr ⟨fun S h => bs_iconst (Z := Z) hx hb (by decide) d_M_export_60 h, List.forall_mem_cons.mpr ⟨fun S h => bs_icmp_eq (Z := Z) hx hb d_M_export_61 (by decide) h, List.forall_mem_cons.mpr ⟨fun S h => bs_aload_n (Z := Z) hx hb rfl d_M_export_64 h, List.forall_mem_cons.mpr ⟨fun S h => bs_iconst (Z := Z) hx hb (by decide) d_M_export_65 h, List.forall_mem_cons.mpr ⟨fun S h => bs_callV (Z := Z) (C := R_M) hBg hbs hB X0 hK (cn_M_raise htr (d + 1)) (cl_M_raise _ _ hw) (hts _ (List.mem_cons_of_mem _ wd_921)) (hts _ (List.mem_cons_of_mem _ wd_923)) (hts _ (List.mem_cons_of_mem _ ws_25)) rfl rfl rfl rfl rfl (Nat.le_refl _) (Nat.le_refl _) d_M_export_66 (bs_out htab hlocks) h, List.forall_mem_cons.mpr ⟨fun S h => bs_iret (Z := Z) hx hb hr hlocks d_M_export_69 h, List.forall_mem_cons.mpr ⟨fun S h => bs_iconst (Z := Z) hx hb (by decide) d_M_export_70 h, fun _ h => absurd h List.not_mem_nil⟩⟩⟩⟩⟩⟩⟩⟩⟩⟩⟩⟩⟩⟩⟩⟩⟩⟩⟩⟩⟩⟩⟩⟩⟩⟩⟩⟩⟩⟩⟩⟩⟩⟩⟩⟩⟩⟩⟩⟩
abbrev c_M_need : ByteArray := prog_10_method_11_code
def y_M_need : MethodName := ⟨"BundleHallModel", "need", "(IIIIZ)I"⟩
theorem d_M_need_0 : decode c_M_need 0 = .ok (.aload_n 0, 1) := by decide +kernel
theorem d_M_need_1 : decode c_M_need 1 = .ok (.iconst 0, 1) := by decide +kernel
theorem d_M_need_2 : decode c_M_need 2 = .ok (.putfield 109, 3) := by decide +kernel
theorem d_M_need_5 : decode c_M_need 5 = .ok (.iload_n 1, 1) := by decide +kernel
theorem d_M_need_6 : decode c_M_need 6 = .ok (.invokestatic 126, 3) := by decide +kernel
theorem d_M_need_9 : decode c_M_need 9 = .ok (.ifCond .eq 34, 3) := by decide +kernel
theorem d_M_need_12 : decode c_M_need 12 = .ok (.iload_n 2, 1) := by decide +kernel
theorem d_M_need_13 : decode c_M_need 13 = .ok (.iconst 0, 1) := by decide +kernel
theorem d_M_need_14 : decode c_M_need 14 = .ok (.bipush 7, 2) := by decide +kernel
theorem d_M_need_16 : decode c_M_need 16 = .ok (.invokestatic 112, 3) := by decide +kernel
theorem d_M_need_19 : decode c_M_need 19 = .ok (.ifCond .eq 24, 3) := by decide +kernel
theorem d_M_need_22 : decode c_M_need 22 = .ok (.iload_n 3, 1) := by decide +kernel
theorem d_M_need_23 : decode c_M_need 23 = .ok (.iconst 0, 1) := by decide +kernel
theorem d_M_need_24 : decode c_M_need 24 = .ok (.bipush 9, 2) := by decide +kernel
theorem d_M_need_26 : decode c_M_need 26 = .ok (.invokestatic 112, 3) := by decide +kernel
theorem d_M_need_29 : decode c_M_need 29 = .ok (.ifCond .eq 14, 3) := by decide +kernel
theorem d_M_need_32 : decode c_M_need 32 = .ok (.iload 4, 2) := by decide +kernel
theorem d_M_need_34 : decode c_M_need 34 = .ok (.iconst 0, 1) := by decide +kernel
theorem d_M_need_35 : decode c_M_need 35 = .ok (.bipush 9, 2) := by decide +kernel
theorem d_M_need_37 : decode c_M_need 37 = .ok (.invokestatic 112, 3) := by decide +kernel
theorem d_M_need_40 : decode c_M_need 40 = .ok (.ifCond .ne 9, 3) := by decide +kernel
theorem d_M_need_43 : decode c_M_need 43 = .ok (.aload_n 0, 1) := by decide +kernel
theorem d_M_need_44 : decode c_M_need 44 = .ok (.iconst 1, 1) := by decide +kernel
theorem d_M_need_45 : decode c_M_need 45 = .ok (.invokevirtual 130, 3) := by decide +kernel
theorem d_M_need_48 : decode c_M_need 48 = .ok (.ireturn, 1) := by decide +kernel
theorem d_M_need_49 : decode c_M_need 49 = .ok (.aload_n 0, 1) := by decide +kernel
theorem d_M_need_50 : decode c_M_need 50 = .ok (.getfield 7, 3) := by decide +kernel
theorem d_M_need_53 : decode c_M_need 53 = .ok (.iload_n 1, 1) := by decide +kernel
theorem d_M_need_54 : decode c_M_need 54 = .ok (.iaload, 1) := by decide +kernel
theorem d_M_need_55 : decode c_M_need 55 = .ok (.ifCond .ne 9, 3) := by decide +kernel
theorem d_M_need_58 : decode c_M_need 58 = .ok (.aload_n 0, 1) := by decide +kernel
theorem d_M_need_59 : decode c_M_need 59 = .ok (.iconst 2, 1) := by decide +kernel
theorem d_M_need_60 : decode c_M_need 60 = .ok (.invokevirtual 130, 3) := by decide +kernel
theorem d_M_need_63 : decode c_M_need 63 = .ok (.ireturn, 1) := by decide +kernel
theorem d_M_need_64 : decode c_M_need 64 = .ok (.aload_n 0, 1) := by decide +kernel
theorem d_M_need_65 : decode c_M_need 65 = .ok (.getfield 7, 3) := by decide +kernel
theorem d_M_need_68 : decode c_M_need 68 = .ok (.iload_n 1, 1) := by decide +kernel
theorem d_M_need_69 : decode c_M_need 69 = .ok (.iaload, 1) := by decide +kernel
theorem d_M_need_70 : decode c_M_need 70 = .ok (.iconst 1, 1) := by decide +kernel
theorem d_M_need_71 : decode c_M_need 71 = .ok (.if_icmp .eq 9, 3) := by decide +kernel
theorem d_M_need_74 : decode c_M_need 74 = .ok (.aload_n 0, 1) := by decide +kernel
theorem d_M_need_75 : decode c_M_need 75 = .ok (.iconst 3, 1) := by decide +kernel
theorem d_M_need_76 : decode c_M_need 76 = .ok (.invokevirtual 130, 3) := by decide +kernel
theorem d_M_need_79 : decode c_M_need 79 = .ok (.ireturn, 1) := by decide +kernel
theorem d_M_need_80 : decode c_M_need 80 = .ok (.iconst 3, 1) := by decide +kernel
theorem d_M_need_81 : decode c_M_need 81 = .ok (.iload_n 1, 1) := by decide +kernel
theorem d_M_need_82 : decode c_M_need 82 = .ok (.imul, 1) := by decide +kernel
theorem d_M_need_83 : decode c_M_need 83 = .ok (.istore 6, 2) := by decide +kernel
theorem d_M_need_85 : decode c_M_need 85 = .ok (.iload 6, 2) := by decide +kernel
theorem d_M_need_87 : decode c_M_need 87 = .ok (.iconst 3, 1) := by decide +kernel
theorem d_M_need_88 : decode c_M_need 88 = .ok (.iload_n 1, 1) := by decide +kernel
theorem d_M_need_89 : decode c_M_need 89 = .ok (.imul, 1) := by decide +kernel
theorem d_M_need_90 : decode c_M_need 90 = .ok (.aload_n 0, 1) := by decide +kernel
theorem d_M_need_91 : decode c_M_need 91 = .ok (.getfield 45, 3) := by decide +kernel
theorem d_M_need_94 : decode c_M_need 94 = .ok (.iload_n 1, 1) := by decide +kernel
theorem d_M_need_95 : decode c_M_need 95 = .ok (.iaload, 1) := by decide +kernel
theorem d_M_need_96 : decode c_M_need 96 = .ok (.iadd, 1) := by decide +kernel
theorem d_M_need_97 : decode c_M_need 97 = .ok (.if_icmp .ge 26, 3) := by decide +kernel
theorem d_M_need_100 : decode c_M_need 100 = .ok (.aload_n 0, 1) := by decide +kernel
theorem d_M_need_101 : decode c_M_need 101 = .ok (.getfield 48, 3) := by decide +kernel
theorem d_M_need_104 : decode c_M_need 104 = .ok (.iload 6, 2) := by decide +kernel
theorem d_M_need_106 : decode c_M_need 106 = .ok (.iaload, 1) := by decide +kernel
theorem d_M_need_107 : decode c_M_need 107 = .ok (.iload_n 2, 1) := by decide +kernel
theorem d_M_need_108 : decode c_M_need 108 = .ok (.if_icmp .ne 9, 3) := by decide +kernel
theorem d_M_need_111 : decode c_M_need 111 = .ok (.aload_n 0, 1) := by decide +kernel
theorem d_M_need_112 : decode c_M_need 112 = .ok (.iconst 4, 1) := by decide +kernel
theorem d_M_need_113 : decode c_M_need 113 = .ok (.invokevirtual 130, 3) := by decide +kernel
theorem d_M_need_116 : decode c_M_need 116 = .ok (.ireturn, 1) := by decide +kernel
theorem d_M_need_117 : decode c_M_need 117 = .ok (.iinc 6 1, 3) := by decide +kernel
theorem d_M_need_120 : decode c_M_need 120 = .ok (.goto (-35), 3) := by decide +kernel
theorem d_M_need_123 : decode c_M_need 123 = .ok (.aload_n 0, 1) := by decide +kernel
theorem d_M_need_124 : decode c_M_need 124 = .ok (.getfield 45, 3) := by decide +kernel
theorem d_M_need_127 : decode c_M_need 127 = .ok (.iload_n 1, 1) := by decide +kernel
theorem d_M_need_128 : decode c_M_need 128 = .ok (.iaload, 1) := by decide +kernel
theorem d_M_need_129 : decode c_M_need 129 = .ok (.iconst 3, 1) := by decide +kernel
theorem d_M_need_130 : decode c_M_need 130 = .ok (.if_icmp .ne 9, 3) := by decide +kernel
theorem d_M_need_133 : decode c_M_need 133 = .ok (.aload_n 0, 1) := by decide +kernel
theorem d_M_need_134 : decode c_M_need 134 = .ok (.iconst 4, 1) := by decide +kernel
theorem d_M_need_135 : decode c_M_need 135 = .ok (.invokevirtual 130, 3) := by decide +kernel
theorem d_M_need_138 : decode c_M_need 138 = .ok (.ireturn, 1) := by decide +kernel
theorem d_M_need_139 : decode c_M_need 139 = .ok (.iconst 3, 1) := by decide +kernel
theorem d_M_need_140 : decode c_M_need 140 = .ok (.iload_n 1, 1) := by decide +kernel
theorem d_M_need_141 : decode c_M_need 141 = .ok (.imul, 1) := by decide +kernel
theorem d_M_need_142 : decode c_M_need 142 = .ok (.aload_n 0, 1) := by decide +kernel
theorem d_M_need_143 : decode c_M_need 143 = .ok (.getfield 45, 3) := by decide +kernel
theorem d_M_need_146 : decode c_M_need 146 = .ok (.iload_n 1, 1) := by decide +kernel
theorem d_M_need_147 : decode c_M_need 147 = .ok (.iaload, 1) := by decide +kernel
theorem d_M_need_148 : decode c_M_need 148 = .ok (.iadd, 1) := by decide +kernel
theorem d_M_need_149 : decode c_M_need 149 = .ok (.istore 6, 2) := by decide +kernel
theorem d_M_need_151 : decode c_M_need 151 = .ok (.aload_n 0, 1) := by decide +kernel
theorem d_M_need_152 : decode c_M_need 152 = .ok (.getfield 48, 3) := by decide +kernel
theorem d_M_need_155 : decode c_M_need 155 = .ok (.iload 6, 2) := by decide +kernel
theorem d_M_need_157 : decode c_M_need 157 = .ok (.iload_n 2, 1) := by decide +kernel
theorem d_M_need_158 : decode c_M_need 158 = .ok (.iastore, 1) := by decide +kernel
theorem d_M_need_159 : decode c_M_need 159 = .ok (.aload_n 0, 1) := by decide +kernel
theorem d_M_need_160 : decode c_M_need 160 = .ok (.getfield 51, 3) := by decide +kernel
theorem d_M_need_163 : decode c_M_need 163 = .ok (.iload 6, 2) := by decide +kernel
theorem d_M_need_165 : decode c_M_need 165 = .ok (.iload_n 3, 1) := by decide +kernel
theorem d_M_need_166 : decode c_M_need 166 = .ok (.iastore, 1) := by decide +kernel
theorem d_M_need_167 : decode c_M_need 167 = .ok (.aload_n 0, 1) := by decide +kernel
theorem d_M_need_168 : decode c_M_need 168 = .ok (.getfield 54, 3) := by decide +kernel
theorem d_M_need_171 : decode c_M_need 171 = .ok (.iload 6, 2) := by decide +kernel
theorem d_M_need_173 : decode c_M_need 173 = .ok (.iload 4, 2) := by decide +kernel
theorem d_M_need_175 : decode c_M_need 175 = .ok (.iastore, 1) := by decide +kernel
theorem d_M_need_176 : decode c_M_need 176 = .ok (.aload_n 0, 1) := by decide +kernel
theorem d_M_need_177 : decode c_M_need 177 = .ok (.getfield 57, 3) := by decide +kernel
theorem d_M_need_180 : decode c_M_need 180 = .ok (.iload 6, 2) := by decide +kernel
theorem d_M_need_182 : decode c_M_need 182 = .ok (.iload 5, 2) := by decide +kernel
theorem d_M_need_184 : decode c_M_need 184 = .ok (.bastore, 1) := by decide +kernel
theorem d_M_need_185 : decode c_M_need 185 = .ok (.aload_n 0, 1) := by decide +kernel
theorem d_M_need_186 : decode c_M_need 186 = .ok (.getfield 45, 3) := by decide +kernel
theorem d_M_need_189 : decode c_M_need 189 = .ok (.iload_n 1, 1) := by decide +kernel
theorem d_M_need_190 : decode c_M_need 190 = .ok (.dup2, 1) := by decide +kernel
theorem d_M_need_191 : decode c_M_need 191 = .ok (.iaload, 1) := by decide +kernel
theorem d_M_need_192 : decode c_M_need 192 = .ok (.iconst 1, 1) := by decide +kernel
theorem d_M_need_193 : decode c_M_need 193 = .ok (.iadd, 1) := by decide +kernel
theorem d_M_need_194 : decode c_M_need 194 = .ok (.iastore, 1) := by decide +kernel
theorem d_M_need_195 : decode c_M_need 195 = .ok (.aload_n 0, 1) := by decide +kernel
theorem d_M_need_196 : decode c_M_need 196 = .ok (.getfield 45, 3) := by decide +kernel
theorem d_M_need_199 : decode c_M_need 199 = .ok (.iload_n 1, 1) := by decide +kernel
theorem d_M_need_200 : decode c_M_need 200 = .ok (.iaload, 1) := by decide +kernel
theorem d_M_need_201 : decode c_M_need 201 = .ok (.ireturn, 1) := by decide +kernel
def T_M_need_0 : List (Nat × bh_Op) := [(0, bo_ald 1 0),
  (1, bo_st 2 (bg_push (.inl (.int 0)))),
  (2, bo_pI 5 40 0),
  (5, bo_ild 6 1),
  (6, bo_callS 9 1 0 0 F_M_isBundle),
  (9, bo_if1 12 43 (fun x => x = 0)),
  (12, bo_ild 13 2),
  (13, bo_st 14 (bg_push (.inl (.int 0)))),
  (14, bo_st 16 (bg_push (.inl (.int 7)))),
  (16, bo_callS 19 3 0 0 F_M_in),
  (19, bo_if1 22 43 (fun x => x = 0)),
  (22, bo_ild 23 3),
  (23, bo_st 24 (bg_push (.inl (.int 0)))),
  (24, bo_st 26 (bg_push (.inl (.int 9)))),
  (26, bo_callS 29 3 0 0 F_M_in),
  (29, bo_if1 32 43 (fun x => x = 0)),
  (32, bo_ild 34 4),
  (34, bo_st 35 (bg_push (.inl (.int 0)))),
  (35, bo_st 37 (bg_push (.inl (.int 9)))),
  (37, bo_callS 40 3 0 0 F_M_in),
  (40, bo_if1 43 49 (fun x => ¬ x = 0)),
  (43, bo_ald 44 0),
  (44, bo_st 45 (bg_push (.inl (.int 1)))),
  (45, bo_callV 48 2 0 0 40 F_M_raise),
  (48, bo_iret 0),
  (49, bo_ald 50 0),
  (50, bo_gR 53 40 1 41),
  (53, bo_ild 54 1),
  (54, bo_Iald bh_ak bh_al 55),
  (55, bo_if1 58 64 (fun x => ¬ x = 0)),
  (58, bo_ald 59 0),
  (59, bo_st 60 (bg_push (.inl (.int 2)))),
  (60, bo_callV 63 2 0 0 40 F_M_raise),
  (63, bo_iret 0),
  (64, bo_ald 65 0),
  (65, bo_gR 68 40 1 41),
  (68, bo_ild 69 1),
  (69, bo_Iald bh_ak bh_al 70),
  (70, bo_st 71 (bg_push (.inl (.int 1)))),
  (71, bo_if2 74 80 (fun x y => x = y))]
def T_M_need_1 : List (Nat × bh_Op) := [(74, bo_ald 75 0),
  (75, bo_st 76 (bg_push (.inl (.int 3)))),
  (76, bo_callV 79 2 0 0 40 F_M_raise),
  (79, bo_iret 0),
  (80, bo_st 81 (bg_push (.inl (.int 3)))),
  (81, bo_ild 82 1),
  (82, bo_st 83 (bg_ii (fun x y => x * y))),
  (83, bo_ist 85 6),
  (85, bo_ild 87 6),
  (87, bo_st 88 (bg_push (.inl (.int 3)))),
  (88, bo_ild 89 1),
  (89, bo_st 90 (bg_ii (fun x y => x * y))),
  (90, bo_ald 91 0),
  (91, bo_gR 94 40 12 52),
  (94, bo_ild 95 1),
  (95, bo_Iald bh_ak bh_al 96),
  (96, bo_st 97 (bg_ii (fun x y => x + y))),
  (97, bo_if2 100 123 (fun x y => y ≤ x)),
  (100, bo_ald 101 0),
  (101, bo_gR 104 40 13 53),
  (104, bo_ild 106 6),
  (106, bo_Iald bh_ak bh_al 107),
  (107, bo_ild 108 2),
  (108, bo_if2 111 117 (fun x y => ¬ x = y)),
  (111, bo_ald 112 0),
  (112, bo_st 113 (bg_push (.inl (.int 4)))),
  (113, bo_callV 116 2 0 0 40 F_M_raise),
  (116, bo_iret 0),
  (117, bo_inc 120 6 1),
  (120, bo_go 85),
  (123, bo_ald 124 0),
  (124, bo_gR 127 40 12 52),
  (127, bo_ild 128 1),
  (128, bo_Iald bh_ak bh_al 129),
  (129, bo_st 130 (bg_push (.inl (.int 3)))),
  (130, bo_if2 133 139 (fun x y => ¬ x = y)),
  (133, bo_ald 134 0),
  (134, bo_st 135 (bg_push (.inl (.int 4)))),
  (135, bo_callV 138 2 0 0 40 F_M_raise),
  (138, bo_iret 0)]
def T_M_need_2 : List (Nat × bh_Op) := [(139, bo_st 140 (bg_push (.inl (.int 3)))),
  (140, bo_ild 141 1),
  (141, bo_st 142 (bg_ii (fun x y => x * y))),
  (142, bo_ald 143 0),
  (143, bo_gR 146 40 12 52),
  (146, bo_ild 147 1),
  (147, bo_Iald bh_ak bh_al 148),
  (148, bo_st 149 (bg_ii (fun x y => x + y))),
  (149, bo_ist 151 6),
  (151, bo_ald 152 0),
  (152, bo_gR 155 40 13 53),
  (155, bo_ild 157 6),
  (157, bo_ild 158 2),
  (158, bo_Iast bh_ak bh_al 159),
  (159, bo_ald 160 0),
  (160, bo_gR 163 40 14 54),
  (163, bo_ild 165 6),
  (165, bo_ild 166 3),
  (166, bo_Iast bh_ak bh_al 167),
  (167, bo_ald 168 0),
  (168, bo_gR 171 40 15 55),
  (171, bo_ild 173 6),
  (173, bo_ild 175 4),
  (175, bo_Iast bh_ak bh_al 176),
  (176, bo_ald 177 0),
  (177, bo_gR 180 40 16 56),
  (180, bo_ild 182 6),
  (182, bo_ild 184 5),
  (184, bo_Zast bh_ak bh_al 185),
  (185, bo_ald 186 0),
  (186, bo_gR 189 40 12 52),
  (189, bo_ild 190 1),
  (190, bo_st 191 bg_dup2),
  (191, bo_Iald bh_ak bh_al 192),
  (192, bo_st 193 (bg_push (.inl (.int 1)))),
  (193, bo_st 194 (bg_ii (fun x y => x + y))),
  (194, bo_Iast bh_ak bh_al 195),
  (195, bo_ald 196 0),
  (196, bo_gR 199 40 12 52),
  (199, bo_ild 200 1)]
def T_M_need_3 : List (Nat × bh_Op) := [(200, bo_Iald bh_ak bh_al 201),
  (201, bo_iret 0)]
def T_M_need : List (Nat × bh_Op) := T_M_need_0 ++ T_M_need_1 ++ T_M_need_2 ++ T_M_need_3
set_option maxRecDepth 20000 in
theorem mT_M_need_0 : ∀ q ∈ T_M_need_0, bh_mono q.2 := List.forall_mem_cons.mpr ⟨bo_ald_m _ _, List.forall_mem_cons.mpr ⟨bo_st_mono (bg_push_m _), List.forall_mem_cons.mpr ⟨bo_pI_m _ _ _, List.forall_mem_cons.mpr ⟨bo_ild_m _ _, List.forall_mem_cons.mpr ⟨bo_callS_m (mF_M_isBundle) _ _ _ _, List.forall_mem_cons.mpr ⟨bo_if1_m _ _ _, List.forall_mem_cons.mpr ⟨bo_ild_m _ _, List.forall_mem_cons.mpr ⟨bo_st_mono (bg_push_m _), List.forall_mem_cons.mpr ⟨bo_st_mono (bg_push_m _), List.forall_mem_cons.mpr ⟨bo_callS_m (mF_M_in) _ _ _ _, List.forall_mem_cons.mpr ⟨bo_if1_m _ _ _, List.forall_mem_cons.mpr ⟨bo_ild_m _ _, List.forall_mem_cons.mpr ⟨bo_st_mono (bg_push_m _), List.forall_mem_cons.mpr ⟨bo_st_mono (bg_push_m _), List.forall_mem_cons.mpr ⟨bo_callS_m (mF_M_in) _ _ _ _, List.forall_mem_cons.mpr ⟨bo_if1_m _ _ _, List.forall_mem_cons.mpr ⟨bo_ild_m _ _, List.forall_mem_cons.mpr ⟨bo_st_mono (bg_push_m _), List.forall_mem_cons.mpr ⟨bo_st_mono (bg_push_m _), List.forall_mem_cons.mpr ⟨bo_callS_m (mF_M_in) _ _ _ _, List.forall_mem_cons.mpr ⟨bo_if1_m _ _ _, List.forall_mem_cons.mpr ⟨bo_ald_m _ _, List.forall_mem_cons.mpr ⟨bo_st_mono (bg_push_m _), List.forall_mem_cons.mpr ⟨bo_callV_m (mF_M_raise) _ _ _ _ _, List.forall_mem_cons.mpr ⟨bo_iret_m _, List.forall_mem_cons.mpr ⟨bo_ald_m _ _, List.forall_mem_cons.mpr ⟨bo_gR_m _ _ _ _, List.forall_mem_cons.mpr ⟨bo_ild_m _ _, List.forall_mem_cons.mpr ⟨bo_Iald_m _ _ _, List.forall_mem_cons.mpr ⟨bo_if1_m _ _ _, List.forall_mem_cons.mpr ⟨bo_ald_m _ _, List.forall_mem_cons.mpr ⟨bo_st_mono (bg_push_m _), List.forall_mem_cons.mpr ⟨bo_callV_m (mF_M_raise) _ _ _ _ _, List.forall_mem_cons.mpr ⟨bo_iret_m _, List.forall_mem_cons.mpr ⟨bo_ald_m _ _, List.forall_mem_cons.mpr ⟨bo_gR_m _ _ _ _, List.forall_mem_cons.mpr ⟨bo_ild_m _ _, List.forall_mem_cons.mpr ⟨bo_Iald_m _ _ _, List.forall_mem_cons.mpr ⟨bo_st_mono (bg_push_m _), List.forall_mem_cons.mpr ⟨bo_if2_m _ _ _, fun _ h => absurd h List.not_mem_nil⟩⟩⟩⟩⟩⟩⟩⟩⟩⟩⟩⟩⟩⟩⟩⟩⟩⟩⟩⟩⟩⟩⟩⟩⟩⟩⟩⟩⟩⟩⟩⟩⟩⟩⟩⟩⟩⟩⟩⟩
set_option maxRecDepth 20000 in
theorem mT_M_need_1 : ∀ q ∈ T_M_need_1, bh_mono q.2 := List.forall_mem_cons.mpr ⟨bo_ald_m _ _, List.forall_mem_cons.mpr ⟨bo_st_mono (bg_push_m _), List.forall_mem_cons.mpr ⟨bo_callV_m (mF_M_raise) _ _ _ _ _, List.forall_mem_cons.mpr ⟨bo_iret_m _, List.forall_mem_cons.mpr ⟨bo_st_mono (bg_push_m _), List.forall_mem_cons.mpr ⟨bo_ild_m _ _, List.forall_mem_cons.mpr ⟨bo_st_mono (bg_ii_m _), List.forall_mem_cons.mpr ⟨bo_ist_m _ _, List.forall_mem_cons.mpr ⟨bo_ild_m _ _, List.forall_mem_cons.mpr ⟨bo_st_mono (bg_push_m _), List.forall_mem_cons.mpr ⟨bo_ild_m _ _, List.forall_mem_cons.mpr ⟨bo_st_mono (bg_ii_m _), List.forall_mem_cons.mpr ⟨bo_ald_m _ _, List.forall_mem_cons.mpr ⟨bo_gR_m _ _ _ _, List.forall_mem_cons.mpr ⟨bo_ild_m _ _, List.forall_mem_cons.mpr ⟨bo_Iald_m _ _ _, List.forall_mem_cons.mpr ⟨bo_st_mono (bg_ii_m _), List.forall_mem_cons.mpr ⟨bo_if2_m _ _ _, List.forall_mem_cons.mpr ⟨bo_ald_m _ _, List.forall_mem_cons.mpr ⟨bo_gR_m _ _ _ _, List.forall_mem_cons.mpr ⟨bo_ild_m _ _, List.forall_mem_cons.mpr ⟨bo_Iald_m _ _ _, List.forall_mem_cons.mpr ⟨bo_ild_m _ _, List.forall_mem_cons.mpr ⟨bo_if2_m _ _ _, List.forall_mem_cons.mpr ⟨bo_ald_m _ _, List.forall_mem_cons.mpr ⟨bo_st_mono (bg_push_m _), List.forall_mem_cons.mpr ⟨bo_callV_m (mF_M_raise) _ _ _ _ _, List.forall_mem_cons.mpr ⟨bo_iret_m _, List.forall_mem_cons.mpr ⟨bo_inc_m _ _ _, List.forall_mem_cons.mpr ⟨bo_go_m _, List.forall_mem_cons.mpr ⟨bo_ald_m _ _, List.forall_mem_cons.mpr ⟨bo_gR_m _ _ _ _, List.forall_mem_cons.mpr ⟨bo_ild_m _ _, List.forall_mem_cons.mpr ⟨bo_Iald_m _ _ _, List.forall_mem_cons.mpr ⟨bo_st_mono (bg_push_m _), List.forall_mem_cons.mpr ⟨bo_if2_m _ _ _, List.forall_mem_cons.mpr ⟨bo_ald_m _ _, List.forall_mem_cons.mpr ⟨bo_st_mono (bg_push_m _), List.forall_mem_cons.mpr ⟨bo_callV_m (mF_M_raise) _ _ _ _ _, List.forall_mem_cons.mpr ⟨bo_iret_m _, fun _ h => absurd h List.not_mem_nil⟩⟩⟩⟩⟩⟩⟩⟩⟩⟩⟩⟩⟩⟩⟩⟩⟩⟩⟩⟩⟩⟩⟩⟩⟩⟩⟩⟩⟩⟩⟩⟩⟩⟩⟩⟩⟩⟩⟩⟩
set_option maxRecDepth 20000 in
theorem mT_M_need_2 : ∀ q ∈ T_M_need_2, bh_mono q.2 := List.forall_mem_cons.mpr ⟨bo_st_mono (bg_push_m _), List.forall_mem_cons.mpr ⟨bo_ild_m _ _, List.forall_mem_cons.mpr ⟨bo_st_mono (bg_ii_m _), List.forall_mem_cons.mpr ⟨bo_ald_m _ _, List.forall_mem_cons.mpr ⟨bo_gR_m _ _ _ _, List.forall_mem_cons.mpr ⟨bo_ild_m _ _, List.forall_mem_cons.mpr ⟨bo_Iald_m _ _ _, List.forall_mem_cons.mpr ⟨bo_st_mono (bg_ii_m _), List.forall_mem_cons.mpr ⟨bo_ist_m _ _, List.forall_mem_cons.mpr ⟨bo_ald_m _ _, List.forall_mem_cons.mpr ⟨bo_gR_m _ _ _ _, List.forall_mem_cons.mpr ⟨bo_ild_m _ _, List.forall_mem_cons.mpr ⟨bo_ild_m _ _, List.forall_mem_cons.mpr ⟨bo_Iast_m _ _ _, List.forall_mem_cons.mpr ⟨bo_ald_m _ _, List.forall_mem_cons.mpr ⟨bo_gR_m _ _ _ _, List.forall_mem_cons.mpr ⟨bo_ild_m _ _, List.forall_mem_cons.mpr ⟨bo_ild_m _ _, List.forall_mem_cons.mpr ⟨bo_Iast_m _ _ _, List.forall_mem_cons.mpr ⟨bo_ald_m _ _, List.forall_mem_cons.mpr ⟨bo_gR_m _ _ _ _, List.forall_mem_cons.mpr ⟨bo_ild_m _ _, List.forall_mem_cons.mpr ⟨bo_ild_m _ _, List.forall_mem_cons.mpr ⟨bo_Iast_m _ _ _, List.forall_mem_cons.mpr ⟨bo_ald_m _ _, List.forall_mem_cons.mpr ⟨bo_gR_m _ _ _ _, List.forall_mem_cons.mpr ⟨bo_ild_m _ _, List.forall_mem_cons.mpr ⟨bo_ild_m _ _, List.forall_mem_cons.mpr ⟨bo_Zast_m _ _ _, List.forall_mem_cons.mpr ⟨bo_ald_m _ _, List.forall_mem_cons.mpr ⟨bo_gR_m _ _ _ _, List.forall_mem_cons.mpr ⟨bo_ild_m _ _, List.forall_mem_cons.mpr ⟨bo_st_mono bg_dup2_m, List.forall_mem_cons.mpr ⟨bo_Iald_m _ _ _, List.forall_mem_cons.mpr ⟨bo_st_mono (bg_push_m _), List.forall_mem_cons.mpr ⟨bo_st_mono (bg_ii_m _), List.forall_mem_cons.mpr ⟨bo_Iast_m _ _ _, List.forall_mem_cons.mpr ⟨bo_ald_m _ _, List.forall_mem_cons.mpr ⟨bo_gR_m _ _ _ _, List.forall_mem_cons.mpr ⟨bo_ild_m _ _, fun _ h => absurd h List.not_mem_nil⟩⟩⟩⟩⟩⟩⟩⟩⟩⟩⟩⟩⟩⟩⟩⟩⟩⟩⟩⟩⟩⟩⟩⟩⟩⟩⟩⟩⟩⟩⟩⟩⟩⟩⟩⟩⟩⟩⟩⟩
set_option maxRecDepth 20000 in
theorem mT_M_need_3 : ∀ q ∈ T_M_need_3, bh_mono q.2 := List.forall_mem_cons.mpr ⟨bo_Iald_m _ _ _, List.forall_mem_cons.mpr ⟨bo_iret_m _, fun _ h => absurd h List.not_mem_nil⟩⟩
theorem m_M_need : ∀ pc, bh_mono (bh_tb (T_M_need) pc) := bh_tb_m (List.forall_mem_append.mpr ⟨(List.forall_mem_append.mpr ⟨(List.forall_mem_append.mpr ⟨mT_M_need_0, mT_M_need_1⟩), mT_M_need_2⟩), mT_M_need_3⟩)
def F_M_need : bh_Fn := bh_fn 7 (bh_tb T_M_need)
theorem mF_M_need : bh_monoF F_M_need := bh_fn_m m_M_need
theorem cl_M_need {s : State} {args : Array Value} (d B : Nat) (hts : ∀ w ∈ bh_ws, w.before args s = true) : bh_Cal (bh_rm (d + 1) B) s y_M_need 7 (.code y_M_need c_M_need 7 (some .int) :: bh_ws) (bh_rm d 0) 0 5 := bh_cal d B hts wd_940 wd_9 (by decide) (by decide +kernel)
set_option maxHeartbeats 4000000 in
set_option maxRecDepth 100000 in
theorem cn_M_need {l : Launch} {G : bh_G} {base sb L : Nat} {xs : Nat → Int32} (htr : l.stackTraces = false) (d : Nat) : bh_Con l G base (bh_Bg G base sb L xs) y_M_need (.code y_M_need c_M_need 7 (some .int) :: bh_ws) (bh_rm (d + 3) 0) 0 false F_M_need := by
  refine bh_method (cc := c_M_need) (ret := (some .int)) (by decide +kernel) rfl ?_
  intro p e s m args below meth c ad0 M0 Z X0 hr hlocks hname htab hbs hB
  obtain ⟨hx, hb, hml, hown, hts⟩ := id X0
  have hw : ∀ w ∈ bh_ws, w.before args s = true := fun w h => hts w (List.mem_cons_of_mem _ h)
  have hBg := bh_BgK (G := G) (base := base) (sb := sb) (L := L) (xs := xs)
  obtain ⟨hK, hAr, hen, hinj, hu1, hu2, hstr, hX, hsb, hsc, hxw, hao, hnc⟩ := id hB
  obtain ⟨ha1, ha2, ha3, ha4, ha5, ha6, ha0⟩ := bh_arr hAr
  refine List.forall_mem_append.mpr ⟨?_, List.forall_mem_cons.mpr ⟨fun S h => bs_Iald (Z := Z) hx hb ha1 d_M_need_200 h, List.forall_mem_cons.mpr ⟨fun S h => bs_iret (Z := Z) hx hb hr hlocks d_M_need_201 h, fun _ h => absurd h List.not_mem_nil⟩⟩⟩
  refine List.forall_mem_append.mpr ⟨?_, List.forall_mem_cons.mpr ⟨fun S h => bs_iconst (Z := Z) hx hb (by decide) d_M_need_139 h, List.forall_mem_cons.mpr ⟨fun S h => bs_iload_n (Z := Z) hx hb rfl d_M_need_140 h, List.forall_mem_cons.mpr ⟨fun S h => bs_imul (Z := Z) hx hb d_M_need_141 h, List.forall_mem_cons.mpr ⟨fun S h => bs_aload_n (Z := Z) hx hb rfl d_M_need_142 h, List.forall_mem_cons.mpr ⟨fun S h => bs_gR (Z := Z) (C := R_M) (T := F_M) (N := 40) (t := 40) (j := 12) hx hb hK hts (fun w h => List.mem_cons_of_mem _ (iw_M w h)) hown rfl rfl (by decide) (hts _ (List.mem_cons_of_mem _ wd_796)) (fun _ h => h) rfl rfl rfl d_M_need_143 h, List.forall_mem_cons.mpr ⟨fun S h => bs_iload_n (Z := Z) hx hb rfl d_M_need_146 h, List.forall_mem_cons.mpr ⟨fun S h => bs_Iald (Z := Z) hx hb ha1 d_M_need_147 h, List.forall_mem_cons.mpr ⟨fun S h => bs_iadd (Z := Z) hx hb d_M_need_148 h, List.forall_mem_cons.mpr ⟨fun S h => bs_istore (Z := Z) hx hb d_M_need_149 h, List.forall_mem_cons.mpr ⟨fun S h => bs_aload_n (Z := Z) hx hb rfl d_M_need_151 h, List.forall_mem_cons.mpr ⟨fun S h => bs_gR (Z := Z) (C := R_M) (T := F_M) (N := 40) (t := 40) (j := 13) hx hb hK hts (fun w h => List.mem_cons_of_mem _ (iw_M w h)) hown rfl rfl (by decide) (hts _ (List.mem_cons_of_mem _ wd_797)) (fun _ h => h) rfl rfl rfl d_M_need_152 h, List.forall_mem_cons.mpr ⟨fun S h => bs_iload (Z := Z) hx hb d_M_need_155 h, List.forall_mem_cons.mpr ⟨fun S h => bs_iload_n (Z := Z) hx hb rfl d_M_need_157 h, List.forall_mem_cons.mpr ⟨fun S h => bs_Iast (Z := Z) hx hb ha1 d_M_need_158 h, List.forall_mem_cons.mpr ⟨fun S h => bs_aload_n (Z := Z) hx hb rfl d_M_need_159 h, List.forall_mem_cons.mpr ⟨fun S h => bs_gR (Z := Z) (C := R_M) (T := F_M) (N := 40) (t := 40) (j := 14) hx hb hK hts (fun w h => List.mem_cons_of_mem _ (iw_M w h)) hown rfl rfl (by decide) (hts _ (List.mem_cons_of_mem _ wd_798)) (fun _ h => h) rfl rfl rfl d_M_need_160 h, List.forall_mem_cons.mpr ⟨fun S h => bs_iload (Z := Z) hx hb d_M_need_163 h, List.forall_mem_cons.mpr ⟨fun S h => bs_iload_n (Z := Z) hx hb rfl d_M_need_165 h, List.forall_mem_cons.mpr ⟨fun S h => bs_Iast (Z := Z) hx hb ha1 d_M_need_166 h, List.forall_mem_cons.mpr ⟨fun S h => bs_aload_n (Z := Z) hx hb rfl d_M_need_167 h, List.forall_mem_cons.mpr ⟨fun S h => bs_gR (Z := Z) (C := R_M) (T := F_M) (N := 40) (t := 40) (j := 15) hx hb hK hts (fun w h => List.mem_cons_of_mem _ (iw_M w h)) hown rfl rfl (by decide) (hts _ (List.mem_cons_of_mem _ wd_799)) (fun _ h => h) rfl rfl rfl d_M_need_168 h, List.forall_mem_cons.mpr ⟨fun S h => bs_iload (Z := Z) hx hb d_M_need_171 h, List.forall_mem_cons.mpr ⟨fun S h => bs_iload (Z := Z) hx hb d_M_need_173 h, List.forall_mem_cons.mpr ⟨fun S h => bs_Iast (Z := Z) hx hb ha1 d_M_need_175 h, List.forall_mem_cons.mpr ⟨fun S h => bs_aload_n (Z := Z) hx hb rfl d_M_need_176 h, List.forall_mem_cons.mpr ⟨fun S h => bs_gR (Z := Z) (C := R_M) (T := F_M) (N := 40) (t := 40) (j := 16) hx hb hK hts (fun w h => List.mem_cons_of_mem _ (iw_M w h)) hown rfl rfl (by decide) (hts _ (List.mem_cons_of_mem _ wd_800)) (fun _ h => h) rfl rfl rfl d_M_need_177 h, List.forall_mem_cons.mpr ⟨fun S h => bs_iload (Z := Z) hx hb d_M_need_180 h, List.forall_mem_cons.mpr ⟨fun S h => bs_iload (Z := Z) hx hb d_M_need_182 h, List.forall_mem_cons.mpr ⟨fun S h => bs_Zast (Z := Z) hx hb ha2 d_M_need_184 h, List.forall_mem_cons.mpr ⟨fun S h => bs_aload_n (Z := Z) hx hb rfl d_M_need_185 h, List.forall_mem_cons.mpr ⟨fun S h => bs_gR (Z := Z) (C := R_M) (T := F_M) (N := 40) (t := 40) (j := 12) hx hb hK hts (fun w h => List.mem_cons_of_mem _ (iw_M w h)) hown rfl rfl (by decide) (hts _ (List.mem_cons_of_mem _ wd_796)) (fun _ h => h) rfl rfl rfl d_M_need_186 h, List.forall_mem_cons.mpr ⟨fun S h => bs_iload_n (Z := Z) hx hb rfl d_M_need_189 h, List.forall_mem_cons.mpr ⟨fun S h => bs_dup2 (Z := Z) hx hb d_M_need_190 h, List.forall_mem_cons.mpr ⟨fun S h => bs_Iald (Z := Z) hx hb ha1 d_M_need_191 h, List.forall_mem_cons.mpr ⟨fun S h => bs_iconst (Z := Z) hx hb (by decide) d_M_need_192 h, List.forall_mem_cons.mpr ⟨fun S h => bs_iadd (Z := Z) hx hb d_M_need_193 h, List.forall_mem_cons.mpr ⟨fun S h => bs_Iast (Z := Z) hx hb ha1 d_M_need_194 h, List.forall_mem_cons.mpr ⟨fun S h => bs_aload_n (Z := Z) hx hb rfl d_M_need_195 h, List.forall_mem_cons.mpr ⟨fun S h => bs_gR (Z := Z) (C := R_M) (T := F_M) (N := 40) (t := 40) (j := 12) hx hb hK hts (fun w h => List.mem_cons_of_mem _ (iw_M w h)) hown rfl rfl (by decide) (hts _ (List.mem_cons_of_mem _ wd_796)) (fun _ h => h) rfl rfl rfl d_M_need_196 h, List.forall_mem_cons.mpr ⟨fun S h => bs_iload_n (Z := Z) hx hb rfl d_M_need_199 h, fun _ h => absurd h List.not_mem_nil⟩⟩⟩⟩⟩⟩⟩⟩⟩⟩⟩⟩⟩⟩⟩⟩⟩⟩⟩⟩⟩⟩⟩⟩⟩⟩⟩⟩⟩⟩⟩⟩⟩⟩⟩⟩⟩⟩⟩⟩⟩
  refine List.forall_mem_append.mpr ⟨?_, List.forall_mem_cons.mpr ⟨fun S h => bs_aload_n (Z := Z) hx hb rfl d_M_need_74 h, List.forall_mem_cons.mpr ⟨fun S h => bs_iconst (Z := Z) hx hb (by decide) d_M_need_75 h, List.forall_mem_cons.mpr ⟨fun S h => bs_callV (Z := Z) (C := R_M) hBg hbs hB X0 hK (cn_M_raise htr (d + 1)) (cl_M_raise _ _ hw) (hts _ (List.mem_cons_of_mem _ wd_921)) (hts _ (List.mem_cons_of_mem _ wd_923)) (hts _ (List.mem_cons_of_mem _ ws_25)) rfl rfl rfl rfl rfl (Nat.le_refl _) (Nat.le_refl _) d_M_need_76 (bs_out htab hlocks) h, List.forall_mem_cons.mpr ⟨fun S h => bs_iret (Z := Z) hx hb hr hlocks d_M_need_79 h, List.forall_mem_cons.mpr ⟨fun S h => bs_iconst (Z := Z) hx hb (by decide) d_M_need_80 h, List.forall_mem_cons.mpr ⟨fun S h => bs_iload_n (Z := Z) hx hb rfl d_M_need_81 h, List.forall_mem_cons.mpr ⟨fun S h => bs_imul (Z := Z) hx hb d_M_need_82 h, List.forall_mem_cons.mpr ⟨fun S h => bs_istore (Z := Z) hx hb d_M_need_83 h, List.forall_mem_cons.mpr ⟨fun S h => bs_iload (Z := Z) hx hb d_M_need_85 h, List.forall_mem_cons.mpr ⟨fun S h => bs_iconst (Z := Z) hx hb (by decide) d_M_need_87 h, List.forall_mem_cons.mpr ⟨fun S h => bs_iload_n (Z := Z) hx hb rfl d_M_need_88 h, List.forall_mem_cons.mpr ⟨fun S h => bs_imul (Z := Z) hx hb d_M_need_89 h, List.forall_mem_cons.mpr ⟨fun S h => bs_aload_n (Z := Z) hx hb rfl d_M_need_90 h, List.forall_mem_cons.mpr ⟨fun S h => bs_gR (Z := Z) (C := R_M) (T := F_M) (N := 40) (t := 40) (j := 12) hx hb hK hts (fun w h => List.mem_cons_of_mem _ (iw_M w h)) hown rfl rfl (by decide) (hts _ (List.mem_cons_of_mem _ wd_796)) (fun _ h => h) rfl rfl rfl d_M_need_91 h, List.forall_mem_cons.mpr ⟨fun S h => bs_iload_n (Z := Z) hx hb rfl d_M_need_94 h, List.forall_mem_cons.mpr ⟨fun S h => bs_Iald (Z := Z) hx hb ha1 d_M_need_95 h, List.forall_mem_cons.mpr ⟨fun S h => bs_iadd (Z := Z) hx hb d_M_need_96 h, List.forall_mem_cons.mpr ⟨fun S h => bs_icmp_ge (Z := Z) hx hb d_M_need_97 (by decide) h, List.forall_mem_cons.mpr ⟨fun S h => bs_aload_n (Z := Z) hx hb rfl d_M_need_100 h, List.forall_mem_cons.mpr ⟨fun S h => bs_gR (Z := Z) (C := R_M) (T := F_M) (N := 40) (t := 40) (j := 13) hx hb hK hts (fun w h => List.mem_cons_of_mem _ (iw_M w h)) hown rfl rfl (by decide) (hts _ (List.mem_cons_of_mem _ wd_797)) (fun _ h => h) rfl rfl rfl d_M_need_101 h, List.forall_mem_cons.mpr ⟨fun S h => bs_iload (Z := Z) hx hb d_M_need_104 h, List.forall_mem_cons.mpr ⟨fun S h => bs_Iald (Z := Z) hx hb ha1 d_M_need_106 h, List.forall_mem_cons.mpr ⟨fun S h => bs_iload_n (Z := Z) hx hb rfl d_M_need_107 h, List.forall_mem_cons.mpr ⟨fun S h => bs_icmp_ne (Z := Z) hx hb d_M_need_108 (by decide) h, List.forall_mem_cons.mpr ⟨fun S h => bs_aload_n (Z := Z) hx hb rfl d_M_need_111 h, List.forall_mem_cons.mpr ⟨fun S h => bs_iconst (Z := Z) hx hb (by decide) d_M_need_112 h, List.forall_mem_cons.mpr ⟨fun S h => bs_callV (Z := Z) (C := R_M) hBg hbs hB X0 hK (cn_M_raise htr (d + 1)) (cl_M_raise _ _ hw) (hts _ (List.mem_cons_of_mem _ wd_921)) (hts _ (List.mem_cons_of_mem _ wd_923)) (hts _ (List.mem_cons_of_mem _ ws_25)) rfl rfl rfl rfl rfl (Nat.le_refl _) (Nat.le_refl _) d_M_need_113 (bs_out htab hlocks) h, List.forall_mem_cons.mpr ⟨fun S h => bs_iret (Z := Z) hx hb hr hlocks d_M_need_116 h, List.forall_mem_cons.mpr ⟨fun S h => bs_iinc (Z := Z) hx hb (by decide) d_M_need_117 h, List.forall_mem_cons.mpr ⟨fun S h => bs_goto (Z := Z) hx hb d_M_need_120 (by decide) h, List.forall_mem_cons.mpr ⟨fun S h => bs_aload_n (Z := Z) hx hb rfl d_M_need_123 h, List.forall_mem_cons.mpr ⟨fun S h => bs_gR (Z := Z) (C := R_M) (T := F_M) (N := 40) (t := 40) (j := 12) hx hb hK hts (fun w h => List.mem_cons_of_mem _ (iw_M w h)) hown rfl rfl (by decide) (hts _ (List.mem_cons_of_mem _ wd_796)) (fun _ h => h) rfl rfl rfl d_M_need_124 h, List.forall_mem_cons.mpr ⟨fun S h => bs_iload_n (Z := Z) hx hb rfl d_M_need_127 h, List.forall_mem_cons.mpr ⟨fun S h => bs_Iald (Z := Z) hx hb ha1 d_M_need_128 h, List.forall_mem_cons.mpr ⟨fun S h => bs_iconst (Z := Z) hx hb (by decide) d_M_need_129 h, List.forall_mem_cons.mpr ⟨fun S h => bs_icmp_ne (Z := Z) hx hb d_M_need_130 (by decide) h, List.forall_mem_cons.mpr ⟨fun S h => bs_aload_n (Z := Z) hx hb rfl d_M_need_133 h, List.forall_mem_cons.mpr ⟨fun S h => bs_iconst (Z := Z) hx hb (by decide) d_M_need_134 h, List.forall_mem_cons.mpr ⟨fun S h => bs_callV (Z := Z) (C := R_M) hBg hbs hB X0 hK (cn_M_raise htr (d + 1)) (cl_M_raise _ _ hw) (hts _ (List.mem_cons_of_mem _ wd_921)) (hts _ (List.mem_cons_of_mem _ wd_923)) (hts _ (List.mem_cons_of_mem _ ws_25)) rfl rfl rfl rfl rfl (Nat.le_refl _) (Nat.le_refl _) d_M_need_135 (bs_out htab hlocks) h, List.forall_mem_cons.mpr ⟨fun S h => bs_iret (Z := Z) hx hb hr hlocks d_M_need_138 h, fun _ h => absurd h List.not_mem_nil⟩⟩⟩⟩⟩⟩⟩⟩⟩⟩⟩⟩⟩⟩⟩⟩⟩⟩⟩⟩⟩⟩⟩⟩⟩⟩⟩⟩⟩⟩⟩⟩⟩⟩⟩⟩⟩⟩⟩⟩⟩
  exact List.forall_mem_cons.mpr ⟨fun S h => bs_aload_n (Z := Z) hx hb rfl d_M_need_0 h, List.forall_mem_cons.mpr ⟨fun S h => bs_iconst (Z := Z) hx hb (by decide) d_M_need_1 h, List.forall_mem_cons.mpr ⟨fun S h => bs_pI (Z := Z) (C := R_M) (T := F_M) (N := 40) (t := 40) (j := 0) hx hb hK hts (fun w h => List.mem_cons_of_mem _ (iw_M w h)) hown rfl rfl (by decide) (hts _ (List.mem_cons_of_mem _ wd_784)) (fun _ h => h) rfl rfl t_M t_M_ok n_M rfl (by decide +kernel) rfl d_M_need_2 h, List.forall_mem_cons.mpr ⟨fun S h => bs_iload_n (Z := Z) hx hb rfl d_M_need_5 h, List.forall_mem_cons.mpr ⟨fun S h => bs_callS (Z := Z) hBg hbs hB X0 (cn_M_isBundle htr (d + 0)) (cl_M_isBundle _ _ hw) (hts _ (List.mem_cons_of_mem _ wd_915)) (hts _ (List.mem_cons_of_mem _ wd_916)) (Nat.le_refl _) (Nat.le_refl _) d_M_need_6 (bs_out htab hlocks) h, List.forall_mem_cons.mpr ⟨fun S h => bs_if_eq (Z := Z) hx hb d_M_need_9 (by decide) h, List.forall_mem_cons.mpr ⟨fun S h => bs_iload_n (Z := Z) hx hb rfl d_M_need_12 h, List.forall_mem_cons.mpr ⟨fun S h => bs_iconst (Z := Z) hx hb (by decide) d_M_need_13 h, List.forall_mem_cons.mpr ⟨fun S h => bs_bipush (Z := Z) hx hb (by decide) d_M_need_14 h, List.forall_mem_cons.mpr ⟨fun S h => bs_callS (Z := Z) hBg hbs hB X0 (cn_M_in htr (d + 1)) (cl_M_in _ _ hw) (hts _ (List.mem_cons_of_mem _ wd_918)) (hts _ (List.mem_cons_of_mem _ wd_919)) (Nat.le_refl _) (Nat.le_refl _) d_M_need_16 (bs_out htab hlocks) h, List.forall_mem_cons.mpr ⟨fun S h => bs_if_eq (Z := Z) hx hb d_M_need_19 (by decide) h, List.forall_mem_cons.mpr ⟨fun S h => bs_iload_n (Z := Z) hx hb rfl d_M_need_22 h, List.forall_mem_cons.mpr ⟨fun S h => bs_iconst (Z := Z) hx hb (by decide) d_M_need_23 h, List.forall_mem_cons.mpr ⟨fun S h => bs_bipush (Z := Z) hx hb (by decide) d_M_need_24 h, List.forall_mem_cons.mpr ⟨fun S h => bs_callS (Z := Z) hBg hbs hB X0 (cn_M_in htr (d + 1)) (cl_M_in _ _ hw) (hts _ (List.mem_cons_of_mem _ wd_918)) (hts _ (List.mem_cons_of_mem _ wd_919)) (Nat.le_refl _) (Nat.le_refl _) d_M_need_26 (bs_out htab hlocks) h, List.forall_mem_cons.mpr ⟨fun S h => bs_if_eq (Z := Z) hx hb d_M_need_29 (by decide) h, List.forall_mem_cons.mpr ⟨fun S h => bs_iload (Z := Z) hx hb d_M_need_32 h, List.forall_mem_cons.mpr ⟨fun S h => bs_iconst (Z := Z) hx hb (by decide) d_M_need_34 h, List.forall_mem_cons.mpr ⟨fun S h => bs_bipush (Z := Z) hx hb (by decide) d_M_need_35 h, List.forall_mem_cons.mpr ⟨fun S h => bs_callS (Z := Z) hBg hbs hB X0 (cn_M_in htr (d + 1)) (cl_M_in _ _ hw) (hts _ (List.mem_cons_of_mem _ wd_918)) (hts _ (List.mem_cons_of_mem _ wd_919)) (Nat.le_refl _) (Nat.le_refl _) d_M_need_37 (bs_out htab hlocks) h, List.forall_mem_cons.mpr ⟨fun S h => bs_if_ne (Z := Z) hx hb d_M_need_40 (by decide) h, List.forall_mem_cons.mpr ⟨fun S h => bs_aload_n (Z := Z) hx hb rfl d_M_need_43 h, List.forall_mem_cons.mpr ⟨fun S h => bs_iconst (Z := Z) hx hb (by decide) d_M_need_44 h, List.forall_mem_cons.mpr ⟨fun S h => bs_callV (Z := Z) (C := R_M) hBg hbs hB X0 hK (cn_M_raise htr (d + 1)) (cl_M_raise _ _ hw) (hts _ (List.mem_cons_of_mem _ wd_921)) (hts _ (List.mem_cons_of_mem _ wd_923)) (hts _ (List.mem_cons_of_mem _ ws_25)) rfl rfl rfl rfl rfl (Nat.le_refl _) (Nat.le_refl _) d_M_need_45 (bs_out htab hlocks) h, List.forall_mem_cons.mpr ⟨fun S h => bs_iret (Z := Z) hx hb hr hlocks d_M_need_48 h, List.forall_mem_cons.mpr ⟨fun S h => bs_aload_n (Z := Z) hx hb rfl d_M_need_49 h, List.forall_mem_cons.mpr ⟨fun S h => bs_gR (Z := Z) (C := R_M) (T := F_M) (N := 40) (t := 40) (j := 1) hx hb hK hts (fun w h => List.mem_cons_of_mem _ (iw_M w h)) hown rfl rfl (by decide) (hts _ (List.mem_cons_of_mem _ wd_785)) (fun _ h => h) rfl rfl rfl d_M_need_50 h, List.forall_mem_cons.mpr ⟨fun S h => bs_iload_n (Z := Z) hx hb rfl d_M_need_53 h, List.forall_mem_cons.mpr ⟨fun S h => bs_Iald (Z := Z) hx hb ha1 d_M_need_54 h, List.forall_mem_cons.mpr ⟨fun S h => bs_if_ne (Z := Z) hx hb d_M_need_55 (by decide) h, List.forall_mem_cons.mpr ⟨fun S h => bs_aload_n (Z := Z) hx hb rfl d_M_need_58 h, List.forall_mem_cons.mpr ⟨fun S h => bs_iconst (Z := Z) hx hb (by decide) d_M_need_59 h, List.forall_mem_cons.mpr ⟨fun S h => bs_callV (Z := Z) (C := R_M) hBg hbs hB X0 hK (cn_M_raise htr (d + 1)) (cl_M_raise _ _ hw) (hts _ (List.mem_cons_of_mem _ wd_921)) (hts _ (List.mem_cons_of_mem _ wd_923)) (hts _ (List.mem_cons_of_mem _ ws_25)) rfl rfl rfl rfl rfl (Nat.le_refl _) (Nat.le_refl _) d_M_need_60 (bs_out htab hlocks) h, List.forall_mem_cons.mpr ⟨fun S h => bs_iret (Z := Z) hx hb hr hlocks d_M_need_63 h, List.forall_mem_cons.mpr ⟨fun S h => bs_aload_n (Z := Z) hx hb rfl d_M_need_64 h, List.forall_mem_cons.mpr ⟨fun S h => bs_gR (Z := Z) (C := R_M) (T := F_M) (N := 40) (t := 40) (j := 1) hx hb hK hts (fun w h => List.mem_cons_of_mem _ (iw_M w h)) hown rfl rfl (by decide) (hts _ (List.mem_cons_of_mem _ wd_785)) (fun _ h => h) rfl rfl rfl d_M_need_65 h, List.forall_mem_cons.mpr ⟨fun S h => bs_iload_n (Z := Z) hx hb rfl d_M_need_68 h, List.forall_mem_cons.mpr ⟨fun S h => bs_Iald (Z := Z) hx hb ha1 d_M_need_69 h, List.forall_mem_cons.mpr ⟨fun S h => bs_iconst (Z := Z) hx hb (by decide) d_M_need_70 h, List.forall_mem_cons.mpr ⟨fun S h => bs_icmp_eq (Z := Z) hx hb d_M_need_71 (by decide) h, fun _ h => absurd h List.not_mem_nil⟩⟩⟩⟩⟩⟩⟩⟩⟩⟩⟩⟩⟩⟩⟩⟩⟩⟩⟩⟩⟩⟩⟩⟩⟩⟩⟩⟩⟩⟩⟩⟩⟩⟩⟩⟩⟩⟩⟩⟩
