theorem l_A_fill_0 : bh_tb T_A_fill 0 = bo_st 1 (bg_push (.inl (.int 0))) := rfl
theorem l_A_fill_1 : bh_tb T_A_fill 1 = bo_ist 2 2 := rfl
theorem l_A_fill_2 : bh_tb T_A_fill 2 = bo_ald 3 0 := rfl
theorem l_A_fill_3 : bh_tb T_A_fill 3 = bo_len bh_ak bh_al 4 := rfl
theorem l_A_fill_4 : bh_tb T_A_fill 4 = bo_ist 5 3 := rfl
theorem l_A_fill_5 : bh_tb T_A_fill 5 = bo_ild 6 2 := rfl
theorem l_A_fill_6 : bh_tb T_A_fill 6 = bo_ild 7 3 := rfl
theorem l_A_fill_7 : bh_tb T_A_fill 7 = bo_if2 10 20 (fun x y => y ≤ x) := rfl
theorem l_A_fill_10 : bh_tb T_A_fill 10 = bo_ald 11 0 := rfl
theorem l_A_fill_11 : bh_tb T_A_fill 11 = bo_ild 12 2 := rfl
theorem l_A_fill_12 : bh_tb T_A_fill 12 = bo_ild 13 1 := rfl
theorem l_A_fill_13 : bh_tb T_A_fill 13 = bo_Iast bh_ak bh_al 14 := rfl
theorem l_A_fill_14 : bh_tb T_A_fill 14 = bo_inc 17 2 1 := rfl
theorem l_A_fill_17 : bh_tb T_A_fill 17 = bo_go 5 := rfl
theorem l_A_fill_20 : bh_tb T_A_fill 20 = bo_vret 0 := rfl
theorem l_F_init_0 : bh_tb T_F_init 0 = bo_ald 1 0 := rfl
theorem l_F_init_1 : bh_tb T_F_init 1 = bo_obj 4 := rfl
theorem l_F_init_4 : bh_tb T_F_init 4 = bo_ald 5 0 := rfl
theorem l_F_init_5 : bh_tb T_F_init 5 = bo_st 7 (bg_push (.inl (.int 8))) := rfl
theorem l_F_init_7 : bh_tb T_F_init 7 = bo_newa bh_al 9 8 7 := rfl
theorem l_F_init_9 : bh_tb T_F_init 9 = bo_pR 12 7 0 8 := rfl
theorem l_F_init_12 : bh_tb T_F_init 12 = bo_ald 13 0 := rfl
theorem l_F_init_13 : bh_tb T_F_init 13 = bo_st 15 (bg_push (.inl (.int 8))) := rfl
theorem l_F_init_15 : bh_tb T_F_init 15 = bo_newa bh_al 17 9 7 := rfl
theorem l_F_init_17 : bh_tb T_F_init 17 = bo_pR 20 7 1 9 := rfl
theorem l_F_init_20 : bh_tb T_F_init 20 = bo_ald 21 0 := rfl
theorem l_F_init_21 : bh_tb T_F_init 21 = bo_st 23 (bg_push (.inl (.int 8))) := rfl
theorem l_F_init_23 : bh_tb T_F_init 23 = bo_newa bh_al 25 10 7 := rfl
theorem l_F_init_25 : bh_tb T_F_init 25 = bo_pR 28 7 2 10 := rfl
theorem l_F_init_28 : bh_tb T_F_init 28 = bo_ald 29 0 := rfl
theorem l_F_init_29 : bh_tb T_F_init 29 = bo_st 30 (bg_push (.inl (.int 3))) := rfl
theorem l_F_init_30 : bh_tb T_F_init 30 = bo_newa bh_al 32 11 7 := rfl
theorem l_F_init_32 : bh_tb T_F_init 32 = bo_pR 35 7 3 11 := rfl
theorem l_F_init_35 : bh_tb T_F_init 35 = bo_ald 36 0 := rfl
theorem l_F_init_36 : bh_tb T_F_init 36 = bo_st 37 (bg_push (.inl (.int 3))) := rfl
theorem l_F_init_37 : bh_tb T_F_init 37 = bo_newa bh_al 39 12 7 := rfl
theorem l_F_init_39 : bh_tb T_F_init 39 = bo_pR 42 7 4 12 := rfl
theorem l_F_init_42 : bh_tb T_F_init 42 = bo_ald 43 0 := rfl
theorem l_F_init_43 : bh_tb T_F_init 43 = bo_st 44 (bg_push (.inl (.int 3))) := rfl
theorem l_F_init_44 : bh_tb T_F_init 44 = bo_newa bh_al 46 13 7 := rfl
theorem l_F_init_46 : bh_tb T_F_init 46 = bo_pR 49 7 5 13 := rfl
theorem l_F_init_49 : bh_tb T_F_init 49 = bo_ald 50 0 := rfl
theorem l_F_init_50 : bh_tb T_F_init 50 = bo_st 51 (bg_push (.inl (.int 3))) := rfl
theorem l_F_init_51 : bh_tb T_F_init 51 = bo_newa bh_al 53 14 7 := rfl
theorem l_F_init_53 : bh_tb T_F_init 53 = bo_pR 56 7 6 14 := rfl
theorem l_F_init_56 : bh_tb T_F_init 56 = bo_ald 57 0 := rfl
theorem l_F_init_57 : bh_tb T_F_init 57 = bo_gR 60 7 0 8 := rfl
theorem l_F_init_60 : bh_tb T_F_init 60 = bo_st 61 (bg_push (.inl (.int (-1)))) := rfl
theorem l_F_init_61 : bh_tb T_F_init 61 = bo_callS 64 2 0 7 F_A_fill := rfl
theorem l_F_init_64 : bh_tb T_F_init 64 = bo_ald 65 0 := rfl
theorem l_F_init_65 : bh_tb T_F_init 65 = bo_gR 68 7 2 10 := rfl
theorem l_F_init_68 : bh_tb T_F_init 68 = bo_st 69 (bg_push (.inl (.int (-1)))) := rfl
theorem l_F_init_69 : bh_tb T_F_init 69 = bo_callS 72 2 0 7 F_A_fill := rfl
theorem l_F_init_72 : bh_tb T_F_init 72 = bo_vret 7 := rfl
theorem l_B_init_0 : bh_tb T_B_init 0 = bo_ald 1 0 := rfl
theorem l_B_init_1 : bh_tb T_B_init 1 = bo_obj 4 := rfl
theorem l_B_init_4 : bh_tb T_B_init 4 = bo_ald 5 0 := rfl
theorem l_B_init_5 : bh_tb T_B_init 5 = bo_ild 6 1 := rfl
theorem l_B_init_6 : bh_tb T_B_init 6 = bo_pI 9 5 0 := rfl
theorem l_B_init_9 : bh_tb T_B_init 9 = bo_ald 10 0 := rfl
theorem l_B_init_10 : bh_tb T_B_init 10 = bo_ild 11 1 := rfl
theorem l_B_init_11 : bh_tb T_B_init 11 = bo_pI 14 5 9 := rfl
theorem l_B_init_14 : bh_tb T_B_init 14 = bo_ald 15 0 := rfl
theorem l_B_init_15 : bh_tb T_B_init 15 = bo_new 18 7 9 := rfl
theorem l_B_init_18 : bh_tb T_B_init 18 = bo_st 19 bg_dup := rfl
theorem l_B_init_19 : bh_tb T_B_init 19 = bo_callA 22 1 7 9 7 F_F_init := rfl
theorem l_B_init_22 : bh_tb T_B_init 22 = bo_pR 25 5 1 7 := rfl
theorem l_B_init_25 : bh_tb T_B_init 25 = bo_ald 26 0 := rfl
theorem l_B_init_26 : bh_tb T_B_init 26 = bo_st 27 (bg_push (.inl (.int 3))) := rfl
theorem l_B_init_27 : bh_tb T_B_init 27 = bo_newa bh_al 29 6 9 := rfl
theorem l_B_init_29 : bh_tb T_B_init 29 = bo_pR 32 5 2 6 := rfl
theorem l_B_init_32 : bh_tb T_B_init 32 = bo_ald 33 0 := rfl
theorem l_B_init_33 : bh_tb T_B_init 33 = bo_gR 36 5 2 6 := rfl
theorem l_B_init_36 : bh_tb T_B_init 36 = bo_st 37 (bg_push (.inl (.int (-1)))) := rfl
theorem l_B_init_37 : bh_tb T_B_init 37 = bo_callS 40 2 0 9 F_A_fill := rfl
theorem l_B_init_40 : bh_tb T_B_init 40 = bo_vret 9 := rfl
theorem l_R_init_0 : bh_tb T_R_init 0 = bo_ald 1 0 := rfl
theorem l_R_init_1 : bh_tb T_R_init 1 = bo_obj 4 := rfl
theorem l_R_init_4 : bh_tb T_R_init 4 = bo_ald 5 0 := rfl
theorem l_R_init_5 : bh_tb T_R_init 5 = bo_st 7 (bg_push (.inl (.int 24))) := rfl
theorem l_R_init_7 : bh_tb T_R_init 7 = bo_newa bh_al 9 16 3 := rfl
theorem l_R_init_9 : bh_tb T_R_init 9 = bo_pR 12 15 0 16 := rfl
theorem l_R_init_12 : bh_tb T_R_init 12 = bo_ald 13 0 := rfl
theorem l_R_init_13 : bh_tb T_R_init 13 = bo_st 15 (bg_push (.inl (.int 24))) := rfl
theorem l_R_init_15 : bh_tb T_R_init 15 = bo_newa bh_al 17 17 3 := rfl
theorem l_R_init_17 : bh_tb T_R_init 17 = bo_pR 20 15 1 17 := rfl
theorem l_R_init_20 : bh_tb T_R_init 20 = bo_ald 21 0 := rfl
theorem l_R_init_21 : bh_tb T_R_init 21 = bo_st 23 (bg_push (.inl (.int 8))) := rfl
theorem l_R_init_23 : bh_tb T_R_init 23 = bo_newa bh_al 25 18 3 := rfl
theorem l_R_init_25 : bh_tb T_R_init 25 = bo_pR 28 15 2 18 := rfl
theorem l_R_init_28 : bh_tb T_R_init 28 = bo_vret 3 := rfl
theorem l_S_init_0 : bh_tb T_S_init 0 = bo_ald 1 0 := rfl
theorem l_S_init_1 : bh_tb T_S_init 1 = bo_obj 4 := rfl
theorem l_S_init_4 : bh_tb T_S_init 4 = bo_ald 5 0 := rfl
theorem l_S_init_5 : bh_tb T_S_init 5 = bo_st 7 (bg_push (.inl (.int 8))) := rfl
theorem l_S_init_7 : bh_tb T_S_init 7 = bo_newa bh_al 9 22 1 := rfl
theorem l_S_init_9 : bh_tb T_S_init 9 = bo_pR 12 21 0 22 := rfl
theorem l_S_init_12 : bh_tb T_S_init 12 = bo_vret 1 := rfl
theorem l_V_init_0 : bh_tb T_V_init 0 = bo_ald 1 0 := rfl
theorem l_V_init_1 : bh_tb T_V_init 1 = bo_obj 4 := rfl
theorem l_V_init_4 : bh_tb T_V_init 4 = bo_ald 5 0 := rfl
theorem l_V_init_5 : bh_tb T_V_init 5 = bo_st 7 (bg_push (.inl (.int 20))) := rfl
theorem l_V_init_7 : bh_tb T_V_init 7 = bo_newa bh_al 10 20 41 := rfl
theorem l_V_init_10 : bh_tb T_V_init 10 = bo_pR 13 19 0 20 := rfl
theorem l_V_init_13 : bh_tb T_V_init 13 = bo_st 14 (bg_push (.inl (.int 0))) := rfl
theorem l_V_init_14 : bh_tb T_V_init 14 = bo_ist 15 1 := rfl
theorem l_V_init_15 : bh_tb T_V_init 15 = bo_ild 16 1 := rfl
theorem l_V_init_16 : bh_tb T_V_init 16 = bo_st 18 (bg_push (.inl (.int 20))) := rfl
theorem l_V_init_18 : bh_tb T_V_init 18 = bo_if2 21 40 (fun x y => y ≤ x) := rfl
theorem l_V_init_21 : bh_tb T_V_init 21 = bo_ald 22 0 := rfl
theorem l_V_init_22 : bh_tb T_V_init 22 = bo_gR 25 19 0 20 := rfl
theorem l_V_init_25 : bh_tb T_V_init 25 = bo_ild 26 1 := rfl
theorem l_V_init_26 : bh_tb T_V_init 26 = bo_new 29 21 41 := rfl
theorem l_V_init_29 : bh_tb T_V_init 29 = bo_st 30 bg_dup := rfl
theorem l_V_init_30 : bh_tb T_V_init 30 = bo_callA 33 1 1 41 21 F_S_init := rfl
theorem l_V_init_33 : bh_tb T_V_init 33 = bo_Rast bh_ak bh_al 34 := rfl
theorem l_V_init_34 : bh_tb T_V_init 34 = bo_inc 37 1 1 := rfl
theorem l_V_init_37 : bh_tb T_V_init 37 = bo_go 15 := rfl
theorem l_V_init_40 : bh_tb T_V_init 40 = bo_vret 41 := rfl
theorem l_E_init_0 : bh_tb T_E_init 0 = bo_ald 1 0 := rfl
theorem l_E_init_1 : bh_tb T_E_init 1 = bo_obj 4 := rfl
theorem l_E_init_4 : bh_tb T_E_init 4 = bo_ald 5 0 := rfl
theorem l_E_init_5 : bh_tb T_E_init 5 = bo_st 7 (bg_push (.inl (.int 10))) := rfl
theorem l_E_init_7 : bh_tb T_E_init 7 = bo_newa bh_al 9 24 1 := rfl
theorem l_E_init_9 : bh_tb T_E_init 9 = bo_pR 12 23 0 24 := rfl
theorem l_E_init_12 : bh_tb T_E_init 12 = bo_vret 1 := rfl
theorem l_H_init_0 : bh_tb T_H_init 0 = bo_ald 1 0 := rfl
theorem l_H_init_1 : bh_tb T_H_init 1 = bo_obj 4 := rfl
theorem l_H_init_4 : bh_tb T_H_init 4 = bo_ald 5 0 := rfl
theorem l_H_init_5 : bh_tb T_H_init 5 = bo_st 7 (bg_push (.inl (.int 8))) := rfl
theorem l_H_init_7 : bh_tb T_H_init 7 = bo_newa bh_al 10 4 129 := rfl
theorem l_H_init_10 : bh_tb T_H_init 10 = bo_pR 13 3 0 4 := rfl
theorem l_H_init_13 : bh_tb T_H_init 13 = bo_st 14 (bg_push (.inl (.int 0))) := rfl
theorem l_H_init_14 : bh_tb T_H_init 14 = bo_ist 15 1 := rfl
theorem l_H_init_15 : bh_tb T_H_init 15 = bo_ild 16 1 := rfl
theorem l_H_init_16 : bh_tb T_H_init 16 = bo_st 18 (bg_push (.inl (.int 8))) := rfl
theorem l_H_init_18 : bh_tb T_H_init 18 = bo_if2 21 41 (fun x y => y ≤ x) := rfl
theorem l_H_init_21 : bh_tb T_H_init 21 = bo_ald 22 0 := rfl
theorem l_H_init_22 : bh_tb T_H_init 22 = bo_gR 25 3 0 4 := rfl
theorem l_H_init_25 : bh_tb T_H_init 25 = bo_ild 26 1 := rfl
theorem l_H_init_26 : bh_tb T_H_init 26 = bo_new 29 5 129 := rfl
theorem l_H_init_29 : bh_tb T_H_init 29 = bo_st 30 bg_dup := rfl
theorem l_H_init_30 : bh_tb T_H_init 30 = bo_ild 31 1 := rfl
theorem l_H_init_31 : bh_tb T_H_init 31 = bo_callA 34 2 9 129 5 F_B_init := rfl
theorem l_H_init_34 : bh_tb T_H_init 34 = bo_Rast bh_ak bh_al 35 := rfl
theorem l_H_init_35 : bh_tb T_H_init 35 = bo_inc 38 1 1 := rfl
theorem l_H_init_38 : bh_tb T_H_init 38 = bo_go 15 := rfl
theorem l_H_init_41 : bh_tb T_H_init 41 = bo_ald 42 0 := rfl
theorem l_H_init_42 : bh_tb T_H_init 42 = bo_new 45 15 129 := rfl
theorem l_H_init_45 : bh_tb T_H_init 45 = bo_st 46 bg_dup := rfl
theorem l_H_init_46 : bh_tb T_H_init 46 = bo_callA 49 1 3 129 15 F_R_init := rfl
theorem l_H_init_49 : bh_tb T_H_init 49 = bo_pR 52 3 1 15 := rfl
theorem l_H_init_52 : bh_tb T_H_init 52 = bo_ald 53 0 := rfl
theorem l_H_init_53 : bh_tb T_H_init 53 = bo_new 56 19 129 := rfl
theorem l_H_init_56 : bh_tb T_H_init 56 = bo_st 57 bg_dup := rfl
theorem l_H_init_57 : bh_tb T_H_init 57 = bo_callA 60 1 41 129 19 F_V_init := rfl
theorem l_H_init_60 : bh_tb T_H_init 60 = bo_pR 63 3 2 19 := rfl
theorem l_H_init_63 : bh_tb T_H_init 63 = bo_ald 64 0 := rfl
theorem l_H_init_64 : bh_tb T_H_init 64 = bo_new 67 23 129 := rfl
theorem l_H_init_67 : bh_tb T_H_init 67 = bo_st 68 bg_dup := rfl
theorem l_H_init_68 : bh_tb T_H_init 68 = bo_callA 71 1 1 129 23 F_E_init := rfl
theorem l_H_init_71 : bh_tb T_H_init 71 = bo_pR 74 3 3 23 := rfl
theorem l_H_init_74 : bh_tb T_H_init 74 = bo_ald 75 0 := rfl
theorem l_H_init_75 : bh_tb T_H_init 75 = bo_st 76 (bg_push (.inl (.int 1))) := rfl
theorem l_H_init_76 : bh_tb T_H_init 76 = bo_pI 79 3 4 := rfl
theorem l_H_init_79 : bh_tb T_H_init 79 = bo_vret 129 := rfl
theorem l_A_floorMod_0 : bh_tb T_A_floorMod 0 = bo_ild 1 0 := rfl
theorem l_A_floorMod_1 : bh_tb T_A_floorMod 1 = bo_ild 2 1 := rfl
theorem l_A_floorMod_2 : bh_tb T_A_floorMod 2 = bo_st 3 (bg_dv (fun x y => x - x / y * y)) := rfl
theorem l_A_floorMod_3 : bh_tb T_A_floorMod 3 = bo_ist 4 2 := rfl
theorem l_A_floorMod_4 : bh_tb T_A_floorMod 4 = bo_ild 5 0 := rfl
theorem l_A_floorMod_5 : bh_tb T_A_floorMod 5 = bo_ild 6 1 := rfl
theorem l_A_floorMod_6 : bh_tb T_A_floorMod 6 = bo_st 7 (bg_ii (fun x y => x ^^^ y)) := rfl
theorem l_A_floorMod_7 : bh_tb T_A_floorMod 7 = bo_if1 10 18 (fun x => 0 ≤ x) := rfl
theorem l_A_floorMod_10 : bh_tb T_A_floorMod 10 = bo_ild 11 2 := rfl
theorem l_A_floorMod_11 : bh_tb T_A_floorMod 11 = bo_if1 14 18 (fun x => x = 0) := rfl
theorem l_A_floorMod_14 : bh_tb T_A_floorMod 14 = bo_ild 15 2 := rfl
theorem l_A_floorMod_15 : bh_tb T_A_floorMod 15 = bo_ild 16 1 := rfl
theorem l_A_floorMod_16 : bh_tb T_A_floorMod 16 = bo_st 17 (bg_ii (fun x y => x + y)) := rfl
theorem l_A_floorMod_17 : bh_tb T_A_floorMod 17 = bo_iret 0 := rfl
theorem l_A_floorMod_18 : bh_tb T_A_floorMod 18 = bo_ild 19 2 := rfl
theorem l_A_floorMod_19 : bh_tb T_A_floorMod 19 = bo_iret 0 := rfl
theorem l_H_ownerOf_0 : bh_tb T_H_ownerOf 0 = bo_ild 1 0 := rfl
theorem l_H_ownerOf_1 : bh_tb T_H_ownerOf 1 = bo_st 3 (bg_push (.inl (.int 8))) := rfl
theorem l_H_ownerOf_3 : bh_tb T_H_ownerOf 3 = bo_callS 6 2 0 0 F_A_floorMod := rfl
theorem l_H_ownerOf_6 : bh_tb T_H_ownerOf 6 = bo_iret 0 := rfl
theorem l_B_isResolved_0 : bh_tb T_B_isResolved 0 = bo_ald 1 0 := rfl
theorem l_B_isResolved_1 : bh_tb T_B_isResolved 1 = bo_gI 4 5 3 := rfl
theorem l_B_isResolved_4 : bh_tb T_B_isResolved 4 = bo_st 5 (bg_push (.inl (.int 2))) := rfl
theorem l_B_isResolved_5 : bh_tb T_B_isResolved 5 = bo_if2 8 12 (fun x y => x < y) := rfl
theorem l_B_isResolved_8 : bh_tb T_B_isResolved 8 = bo_st 9 (bg_push (.inl (.int 1))) := rfl
theorem l_B_isResolved_9 : bh_tb T_B_isResolved 9 = bo_go 13 := rfl
theorem l_B_isResolved_12 : bh_tb T_B_isResolved 12 = bo_st 13 (bg_push (.inl (.int 0))) := rfl
theorem l_B_isResolved_13 : bh_tb T_B_isResolved 13 = bo_zret 0 := rfl
theorem l_H_isOld_0 : bh_tb T_H_isOld 0 = bo_ald 1 0 := rfl
theorem l_H_isOld_1 : bh_tb T_H_isOld 1 = bo_gR 4 3 0 4 := rfl
theorem l_H_isOld_4 : bh_tb T_H_isOld 4 = bo_ild 5 1 := rfl
theorem l_H_isOld_5 : bh_tb T_H_isOld 5 = bo_callS 8 1 0 0 F_H_ownerOf := rfl
theorem l_H_isOld_8 : bh_tb T_H_isOld 8 = bo_Rald bh_ak bh_al 9 := rfl
theorem l_H_isOld_9 : bh_tb T_H_isOld 9 = bo_ast 10 2 := rfl
theorem l_H_isOld_10 : bh_tb T_H_isOld 10 = bo_ild 11 1 := rfl
theorem l_H_isOld_11 : bh_tb T_H_isOld 11 = bo_ald 12 2 := rfl
theorem l_H_isOld_12 : bh_tb T_H_isOld 12 = bo_gI 15 5 9 := rfl
theorem l_H_isOld_15 : bh_tb T_H_isOld 15 = bo_if2 18 25 (fun x y => ¬ x = y) := rfl
theorem l_H_isOld_18 : bh_tb T_H_isOld 18 = bo_ald 19 2 := rfl
theorem l_H_isOld_19 : bh_tb T_H_isOld 19 = bo_callV 22 1 0 0 5 F_B_isResolved := rfl
theorem l_H_isOld_22 : bh_tb T_H_isOld 22 = bo_if1 25 29 (fun x => ¬ x = 0) := rfl
theorem l_H_isOld_25 : bh_tb T_H_isOld 25 = bo_st 26 (bg_push (.inl (.int 1))) := rfl
theorem l_H_isOld_26 : bh_tb T_H_isOld 26 = bo_go 30 := rfl
theorem l_H_isOld_29 : bh_tb T_H_isOld 29 = bo_st 30 (bg_push (.inl (.int 0))) := rfl
theorem l_H_isOld_30 : bh_tb T_H_isOld 30 = bo_zret 0 := rfl
theorem l_H_isIn_0 : bh_tb T_H_isIn 0 = bo_ild 1 0 := rfl
theorem l_H_isIn_1 : bh_tb T_H_isIn 1 = bo_ild 2 1 := rfl
theorem l_H_isIn_2 : bh_tb T_H_isIn 2 = bo_st 3 (bg_ii (fun x y => x >>> (y &&& 31))) := rfl
theorem l_H_isIn_3 : bh_tb T_H_isIn 3 = bo_st 4 (bg_push (.inl (.int 1))) := rfl
theorem l_H_isIn_4 : bh_tb T_H_isIn 4 = bo_st 5 (bg_ii (fun x y => x &&& y)) := rfl
theorem l_H_isIn_5 : bh_tb T_H_isIn 5 = bo_if1 8 12 (fun x => x = 0) := rfl
theorem l_H_isIn_8 : bh_tb T_H_isIn 8 = bo_st 9 (bg_push (.inl (.int 1))) := rfl
theorem l_H_isIn_9 : bh_tb T_H_isIn 9 = bo_go 13 := rfl
theorem l_H_isIn_12 : bh_tb T_H_isIn 12 = bo_st 13 (bg_push (.inl (.int 0))) := rfl
theorem l_H_isIn_13 : bh_tb T_H_isIn 13 = bo_zret 0 := rfl
theorem l_H_leansOnStale_0 : bh_tb T_H_leansOnStale 0 = bo_st 1 (bg_push (.inl (.int 0))) := rfl
theorem l_H_leansOnStale_1 : bh_tb T_H_leansOnStale 1 = bo_ist 2 3 := rfl
theorem l_H_leansOnStale_2 : bh_tb T_H_leansOnStale 2 = bo_ild 3 3 := rfl
theorem l_H_leansOnStale_3 : bh_tb T_H_leansOnStale 3 = bo_st 4 (bg_push (.inl (.int 3))) := rfl
theorem l_H_leansOnStale_4 : bh_tb T_H_leansOnStale 4 = bo_if2 7 50 (fun x y => y ≤ x) := rfl
theorem l_H_leansOnStale_7 : bh_tb T_H_leansOnStale 7 = bo_ald 8 1 := rfl
theorem l_H_leansOnStale_8 : bh_tb T_H_leansOnStale 8 = bo_gR 11 5 2 6 := rfl
theorem l_H_leansOnStale_11 : bh_tb T_H_leansOnStale 11 = bo_ild 12 3 := rfl
theorem l_H_leansOnStale_12 : bh_tb T_H_leansOnStale 12 = bo_Iald bh_ak bh_al 13 := rfl
theorem l_H_leansOnStale_13 : bh_tb T_H_leansOnStale 13 = bo_ist 15 4 := rfl
theorem l_H_leansOnStale_15 : bh_tb T_H_leansOnStale 15 = bo_ild 17 4 := rfl
theorem l_H_leansOnStale_17 : bh_tb T_H_leansOnStale 17 = bo_st 18 (bg_push (.inl (.int (-1)))) := rfl
theorem l_H_leansOnStale_18 : bh_tb T_H_leansOnStale 18 = bo_if2 21 44 (fun x y => x = y) := rfl
theorem l_H_leansOnStale_21 : bh_tb T_H_leansOnStale 21 = bo_ald 22 0 := rfl
theorem l_H_leansOnStale_22 : bh_tb T_H_leansOnStale 22 = bo_ild 24 4 := rfl
theorem l_H_leansOnStale_24 : bh_tb T_H_leansOnStale 24 = bo_callV 27 2 0 0 3 F_H_isOld := rfl
theorem l_H_leansOnStale_27 : bh_tb T_H_leansOnStale 27 = bo_if1 30 42 (fun x => ¬ x = 0) := rfl
theorem l_H_leansOnStale_30 : bh_tb T_H_leansOnStale 30 = bo_ild 31 2 := rfl
theorem l_H_leansOnStale_31 : bh_tb T_H_leansOnStale 31 = bo_ild 33 4 := rfl
theorem l_H_leansOnStale_33 : bh_tb T_H_leansOnStale 33 = bo_callS 36 1 0 0 F_H_ownerOf := rfl
theorem l_H_leansOnStale_36 : bh_tb T_H_leansOnStale 36 = bo_callS 39 2 0 0 F_H_isIn := rfl
theorem l_H_leansOnStale_39 : bh_tb T_H_leansOnStale 39 = bo_if1 42 44 (fun x => x = 0) := rfl
theorem l_H_leansOnStale_42 : bh_tb T_H_leansOnStale 42 = bo_st 43 (bg_push (.inl (.int 1))) := rfl
theorem l_H_leansOnStale_43 : bh_tb T_H_leansOnStale 43 = bo_zret 0 := rfl
theorem l_H_leansOnStale_44 : bh_tb T_H_leansOnStale 44 = bo_inc 47 3 1 := rfl
theorem l_H_leansOnStale_47 : bh_tb T_H_leansOnStale 47 = bo_go 2 := rfl
theorem l_H_leansOnStale_50 : bh_tb T_H_leansOnStale 50 = bo_st 51 (bg_push (.inl (.int 0))) := rfl
theorem l_H_leansOnStale_51 : bh_tb T_H_leansOnStale 51 = bo_zret 0 := rfl
theorem l_H_staleBundles_0 : bh_tb T_H_staleBundles 0 = bo_st 1 (bg_push (.inl (.int 0))) := rfl
theorem l_H_staleBundles_1 : bh_tb T_H_staleBundles 1 = bo_ist 2 1 := rfl
theorem l_H_staleBundles_2 : bh_tb T_H_staleBundles 2 = bo_st 3 (bg_push (.inl (.int 0))) := rfl
theorem l_H_staleBundles_3 : bh_tb T_H_staleBundles 3 = bo_ist 4 2 := rfl
theorem l_H_staleBundles_4 : bh_tb T_H_staleBundles 4 = bo_ild 5 2 := rfl
theorem l_H_staleBundles_5 : bh_tb T_H_staleBundles 5 = bo_st 7 (bg_push (.inl (.int 8))) := rfl
theorem l_H_staleBundles_7 : bh_tb T_H_staleBundles 7 = bo_if2 10 50 (fun x y => y ≤ x) := rfl
theorem l_H_staleBundles_10 : bh_tb T_H_staleBundles 10 = bo_st 11 (bg_push (.inl (.int 0))) := rfl
theorem l_H_staleBundles_11 : bh_tb T_H_staleBundles 11 = bo_ist 12 3 := rfl
theorem l_H_staleBundles_12 : bh_tb T_H_staleBundles 12 = bo_ild 13 3 := rfl
theorem l_H_staleBundles_13 : bh_tb T_H_staleBundles 13 = bo_st 15 (bg_push (.inl (.int 8))) := rfl
theorem l_H_staleBundles_15 : bh_tb T_H_staleBundles 15 = bo_if2 18 44 (fun x y => y ≤ x) := rfl
theorem l_H_staleBundles_18 : bh_tb T_H_staleBundles 18 = bo_ald 19 0 := rfl
theorem l_H_staleBundles_19 : bh_tb T_H_staleBundles 19 = bo_ald 20 0 := rfl
theorem l_H_staleBundles_20 : bh_tb T_H_staleBundles 20 = bo_gR 23 3 0 4 := rfl
theorem l_H_staleBundles_23 : bh_tb T_H_staleBundles 23 = bo_ild 24 3 := rfl
theorem l_H_staleBundles_24 : bh_tb T_H_staleBundles 24 = bo_Rald bh_ak bh_al 25 := rfl
theorem l_H_staleBundles_25 : bh_tb T_H_staleBundles 25 = bo_ild 26 1 := rfl
theorem l_H_staleBundles_26 : bh_tb T_H_staleBundles 26 = bo_callV 29 3 0 0 3 F_H_leansOnStale := rfl
theorem l_H_staleBundles_29 : bh_tb T_H_staleBundles 29 = bo_if1 32 38 (fun x => x = 0) := rfl
theorem l_H_staleBundles_32 : bh_tb T_H_staleBundles 32 = bo_ild 33 1 := rfl
theorem l_H_staleBundles_33 : bh_tb T_H_staleBundles 33 = bo_st 34 (bg_push (.inl (.int 1))) := rfl
theorem l_H_staleBundles_34 : bh_tb T_H_staleBundles 34 = bo_ild 35 3 := rfl
theorem l_H_staleBundles_35 : bh_tb T_H_staleBundles 35 = bo_st 36 (bg_ii (fun x y => x <<< (y &&& 31))) := rfl
theorem l_H_staleBundles_36 : bh_tb T_H_staleBundles 36 = bo_st 37 (bg_ii (fun x y => x ||| y)) := rfl
theorem l_H_staleBundles_37 : bh_tb T_H_staleBundles 37 = bo_ist 38 1 := rfl
theorem l_H_staleBundles_38 : bh_tb T_H_staleBundles 38 = bo_inc 41 3 1 := rfl
theorem l_H_staleBundles_41 : bh_tb T_H_staleBundles 41 = bo_go 12 := rfl
theorem l_H_staleBundles_44 : bh_tb T_H_staleBundles 44 = bo_inc 47 2 1 := rfl
theorem l_H_staleBundles_47 : bh_tb T_H_staleBundles 47 = bo_go 4 := rfl
theorem l_H_staleBundles_50 : bh_tb T_H_staleBundles 50 = bo_ild 51 1 := rfl
theorem l_H_staleBundles_51 : bh_tb T_H_staleBundles 51 = bo_iret 0 := rfl
theorem l_E_add_0 : bh_tb T_E_add 0 = bo_ald 1 0 := rfl
theorem l_E_add_1 : bh_tb T_E_add 1 = bo_gI 4 23 2 := rfl
theorem l_E_add_4 : bh_tb T_E_add 4 = bo_st 6 (bg_push (.inl (.int 10))) := rfl
theorem l_E_add_6 : bh_tb T_E_add 6 = bo_if2 9 20 (fun x y => x < y) := rfl
theorem l_E_add_9 : bh_tb T_E_add 9 = bo_ald 10 0 := rfl
theorem l_E_add_10 : bh_tb T_E_add 10 = bo_st 11 bg_dup := rfl
theorem l_E_add_11 : bh_tb T_E_add 11 = bo_gI 14 23 3 := rfl
theorem l_E_add_14 : bh_tb T_E_add 14 = bo_st 15 (bg_push (.inl (.int 1))) := rfl
theorem l_E_add_15 : bh_tb T_E_add 15 = bo_st 16 (bg_ii (fun x y => x + y)) := rfl
theorem l_E_add_16 : bh_tb T_E_add 16 = bo_pI 19 23 3 := rfl
theorem l_E_add_19 : bh_tb T_E_add 19 = bo_vret 0 := rfl
theorem l_E_add_20 : bh_tb T_E_add 20 = bo_ald 21 0 := rfl
theorem l_E_add_21 : bh_tb T_E_add 21 = bo_gR 24 23 0 24 := rfl
theorem l_E_add_24 : bh_tb T_E_add 24 = bo_ald 25 0 := rfl
theorem l_E_add_25 : bh_tb T_E_add 25 = bo_gI 28 23 1 := rfl
theorem l_E_add_28 : bh_tb T_E_add 28 = bo_ald 29 0 := rfl
theorem l_E_add_29 : bh_tb T_E_add 29 = bo_gI 32 23 2 := rfl
theorem l_E_add_32 : bh_tb T_E_add 32 = bo_st 33 (bg_ii (fun x y => x + y)) := rfl
theorem l_E_add_33 : bh_tb T_E_add 33 = bo_st 35 (bg_push (.inl (.int 10))) := rfl
theorem l_E_add_35 : bh_tb T_E_add 35 = bo_st 36 (bg_dv (fun x y => x - x / y * y)) := rfl
theorem l_E_add_36 : bh_tb T_E_add 36 = bo_ild 37 1 := rfl
theorem l_E_add_37 : bh_tb T_E_add 37 = bo_Iast bh_ak bh_al 38 := rfl
theorem l_E_add_38 : bh_tb T_E_add 38 = bo_ald 39 0 := rfl
theorem l_E_add_39 : bh_tb T_E_add 39 = bo_st 40 bg_dup := rfl
theorem l_E_add_40 : bh_tb T_E_add 40 = bo_gI 43 23 2 := rfl
theorem l_E_add_43 : bh_tb T_E_add 43 = bo_st 44 (bg_push (.inl (.int 1))) := rfl
theorem l_E_add_44 : bh_tb T_E_add 44 = bo_st 45 (bg_ii (fun x y => x + y)) := rfl
theorem l_E_add_45 : bh_tb T_E_add 45 = bo_pI 48 23 2 := rfl
theorem l_E_add_48 : bh_tb T_E_add 48 = bo_vret 0 := rfl
theorem l_V_remove_0 : bh_tb T_V_remove 0 = bo_ald 1 0 := rfl
theorem l_V_remove_1 : bh_tb T_V_remove 1 = bo_gR 4 19 0 20 := rfl
theorem l_V_remove_4 : bh_tb T_V_remove 4 = bo_ild 5 1 := rfl
theorem l_V_remove_5 : bh_tb T_V_remove 5 = bo_Rald bh_ak bh_al 6 := rfl
theorem l_V_remove_6 : bh_tb T_V_remove 6 = bo_ast 7 2 := rfl
theorem l_V_remove_7 : bh_tb T_V_remove 7 = bo_ild 8 1 := rfl
theorem l_V_remove_8 : bh_tb T_V_remove 8 = bo_ist 9 3 := rfl
theorem l_V_remove_9 : bh_tb T_V_remove 9 = bo_ild 10 3 := rfl
theorem l_V_remove_10 : bh_tb T_V_remove 10 = bo_ald 11 0 := rfl
theorem l_V_remove_11 : bh_tb T_V_remove 11 = bo_gI 14 19 1 := rfl
theorem l_V_remove_14 : bh_tb T_V_remove 14 = bo_st 15 (bg_push (.inl (.int 1))) := rfl
theorem l_V_remove_15 : bh_tb T_V_remove 15 = bo_st 16 (bg_ii (fun x y => x - y)) := rfl
theorem l_V_remove_16 : bh_tb T_V_remove 16 = bo_if2 19 39 (fun x y => y ≤ x) := rfl
theorem l_V_remove_19 : bh_tb T_V_remove 19 = bo_ald 20 0 := rfl
theorem l_V_remove_20 : bh_tb T_V_remove 20 = bo_gR 23 19 0 20 := rfl
theorem l_V_remove_23 : bh_tb T_V_remove 23 = bo_ild 24 3 := rfl
theorem l_V_remove_24 : bh_tb T_V_remove 24 = bo_ald 25 0 := rfl
theorem l_V_remove_25 : bh_tb T_V_remove 25 = bo_gR 28 19 0 20 := rfl
theorem l_V_remove_28 : bh_tb T_V_remove 28 = bo_ild 29 3 := rfl
theorem l_V_remove_29 : bh_tb T_V_remove 29 = bo_st 30 (bg_push (.inl (.int 1))) := rfl
theorem l_V_remove_30 : bh_tb T_V_remove 30 = bo_st 31 (bg_ii (fun x y => x + y)) := rfl
theorem l_V_remove_31 : bh_tb T_V_remove 31 = bo_Rald bh_ak bh_al 32 := rfl
theorem l_V_remove_32 : bh_tb T_V_remove 32 = bo_Rast bh_ak bh_al 33 := rfl
theorem l_V_remove_33 : bh_tb T_V_remove 33 = bo_inc 36 3 1 := rfl
theorem l_V_remove_36 : bh_tb T_V_remove 36 = bo_go 9 := rfl
theorem l_V_remove_39 : bh_tb T_V_remove 39 = bo_ald 40 0 := rfl
theorem l_V_remove_40 : bh_tb T_V_remove 40 = bo_gR 43 19 0 20 := rfl
theorem l_V_remove_43 : bh_tb T_V_remove 43 = bo_ald 44 0 := rfl
theorem l_V_remove_44 : bh_tb T_V_remove 44 = bo_gI 47 19 1 := rfl
theorem l_V_remove_47 : bh_tb T_V_remove 47 = bo_st 48 (bg_push (.inl (.int 1))) := rfl
theorem l_V_remove_48 : bh_tb T_V_remove 48 = bo_st 49 (bg_ii (fun x y => x - y)) := rfl
theorem l_V_remove_49 : bh_tb T_V_remove 49 = bo_ald 50 2 := rfl
theorem l_V_remove_50 : bh_tb T_V_remove 50 = bo_Rast bh_ak bh_al 51 := rfl
theorem l_V_remove_51 : bh_tb T_V_remove 51 = bo_ald 52 0 := rfl
theorem l_V_remove_52 : bh_tb T_V_remove 52 = bo_st 53 bg_dup := rfl
theorem l_V_remove_53 : bh_tb T_V_remove 53 = bo_gI 56 19 1 := rfl
theorem l_V_remove_56 : bh_tb T_V_remove 56 = bo_st 57 (bg_push (.inl (.int 1))) := rfl
theorem l_V_remove_57 : bh_tb T_V_remove 57 = bo_st 58 (bg_ii (fun x y => x - y)) := rfl
theorem l_V_remove_58 : bh_tb T_V_remove 58 = bo_pI 61 19 1 := rfl
theorem l_V_remove_61 : bh_tb T_V_remove 61 = bo_vret 0 := rfl
theorem l_H_dropService_0 : bh_tb T_H_dropService 0 = bo_ald 1 0 := rfl
theorem l_H_dropService_1 : bh_tb T_H_dropService 1 = bo_gR 4 3 3 23 := rfl
theorem l_H_dropService_4 : bh_tb T_H_dropService 4 = bo_st 7 (bg_push (.inl (.int 400))) := rfl
theorem l_H_dropService_7 : bh_tb T_H_dropService 7 = bo_ald 8 0 := rfl
theorem l_H_dropService_8 : bh_tb T_H_dropService 8 = bo_gR 11 3 2 19 := rfl
theorem l_H_dropService_11 : bh_tb T_H_dropService 11 = bo_gR 14 19 0 20 := rfl
theorem l_H_dropService_14 : bh_tb T_H_dropService 14 = bo_ild 15 1 := rfl
theorem l_H_dropService_15 : bh_tb T_H_dropService 15 = bo_Rald bh_ak bh_al 16 := rfl
theorem l_H_dropService_16 : bh_tb T_H_dropService 16 = bo_gI 19 21 1 := rfl
theorem l_H_dropService_19 : bh_tb T_H_dropService 19 = bo_st 21 (bg_push (.inl (.int 100))) := rfl
theorem l_H_dropService_21 : bh_tb T_H_dropService 21 = bo_st 22 (bg_dv (fun x y => x - x / y * y)) := rfl
theorem l_H_dropService_22 : bh_tb T_H_dropService 22 = bo_st 23 (bg_ii (fun x y => x + y)) := rfl
theorem l_H_dropService_23 : bh_tb T_H_dropService 23 = bo_callV 26 2 0 0 23 F_E_add := rfl
theorem l_H_dropService_26 : bh_tb T_H_dropService 26 = bo_ald 27 0 := rfl
theorem l_H_dropService_27 : bh_tb T_H_dropService 27 = bo_gR 30 3 2 19 := rfl
theorem l_H_dropService_30 : bh_tb T_H_dropService 30 = bo_ild 31 1 := rfl
theorem l_H_dropService_31 : bh_tb T_H_dropService 31 = bo_callV 34 2 0 0 19 F_V_remove := rfl
theorem l_H_dropService_34 : bh_tb T_H_dropService 34 = bo_vret 0 := rfl
theorem l_V_takeBackAll_0 : bh_tb T_V_takeBackAll 0 = bo_st 1 (bg_push (.inl (.int 0))) := rfl
theorem l_V_takeBackAll_1 : bh_tb T_V_takeBackAll 1 = bo_ist 2 2 := rfl
theorem l_V_takeBackAll_2 : bh_tb T_V_takeBackAll 2 = bo_ild 3 2 := rfl
theorem l_V_takeBackAll_3 : bh_tb T_V_takeBackAll 3 = bo_ald 4 0 := rfl
theorem l_V_takeBackAll_4 : bh_tb T_V_takeBackAll 4 = bo_gI 7 19 1 := rfl
theorem l_V_takeBackAll_7 : bh_tb T_V_takeBackAll 7 = bo_if2 10 28 (fun x y => y ≤ x) := rfl
theorem l_V_takeBackAll_10 : bh_tb T_V_takeBackAll 10 = bo_ald 11 0 := rfl
theorem l_V_takeBackAll_11 : bh_tb T_V_takeBackAll 11 = bo_gR 14 19 0 20 := rfl
theorem l_V_takeBackAll_14 : bh_tb T_V_takeBackAll 14 = bo_ild 15 2 := rfl
theorem l_V_takeBackAll_15 : bh_tb T_V_takeBackAll 15 = bo_Rald bh_ak bh_al 16 := rfl
theorem l_V_takeBackAll_16 : bh_tb T_V_takeBackAll 16 = bo_gR 19 21 0 22 := rfl
theorem l_V_takeBackAll_19 : bh_tb T_V_takeBackAll 19 = bo_ild 20 1 := rfl
theorem l_V_takeBackAll_20 : bh_tb T_V_takeBackAll 20 = bo_st 21 (bg_push (.inl (.int 0))) := rfl
theorem l_V_takeBackAll_21 : bh_tb T_V_takeBackAll 21 = bo_Iast bh_ak bh_al 22 := rfl
theorem l_V_takeBackAll_22 : bh_tb T_V_takeBackAll 22 = bo_inc 25 2 1 := rfl
theorem l_V_takeBackAll_25 : bh_tb T_V_takeBackAll 25 = bo_go 2 := rfl
theorem l_V_takeBackAll_28 : bh_tb T_V_takeBackAll 28 = bo_vret 0 := rfl
theorem l_H_deactivate_0 : bh_tb T_H_deactivate 0 = bo_ald 1 1 := rfl
theorem l_H_deactivate_1 : bh_tb T_H_deactivate 1 = bo_gI 4 5 3 := rfl
theorem l_H_deactivate_4 : bh_tb T_H_deactivate 4 = bo_st 5 (bg_push (.inl (.int 3))) := rfl
theorem l_H_deactivate_5 : bh_tb T_H_deactivate 5 = bo_if2 8 9 (fun x y => x = y) := rfl
theorem l_H_deactivate_8 : bh_tb T_H_deactivate 8 = bo_vret 0 := rfl
theorem l_H_deactivate_9 : bh_tb T_H_deactivate 9 = bo_st 10 (bg_push (.inl (.int 0))) := rfl
theorem l_H_deactivate_10 : bh_tb T_H_deactivate 10 = bo_ist 11 2 := rfl
theorem l_H_deactivate_11 : bh_tb T_H_deactivate 11 = bo_ald 12 0 := rfl
theorem l_H_deactivate_12 : bh_tb T_H_deactivate 12 = bo_gR 15 3 2 19 := rfl
theorem l_H_deactivate_15 : bh_tb T_H_deactivate 15 = bo_gI 18 19 1 := rfl
theorem l_H_deactivate_18 : bh_tb T_H_deactivate 18 = bo_ist 19 3 := rfl
theorem l_H_deactivate_19 : bh_tb T_H_deactivate 19 = bo_ild 20 3 := rfl
theorem l_H_deactivate_20 : bh_tb T_H_deactivate 20 = bo_if1 23 59 (fun x => x ≤ 0) := rfl
theorem l_H_deactivate_23 : bh_tb T_H_deactivate 23 = bo_ald 24 0 := rfl
theorem l_H_deactivate_24 : bh_tb T_H_deactivate 24 = bo_gR 27 3 2 19 := rfl
theorem l_H_deactivate_27 : bh_tb T_H_deactivate 27 = bo_gR 30 19 0 20 := rfl
theorem l_H_deactivate_30 : bh_tb T_H_deactivate 30 = bo_ild 31 2 := rfl
theorem l_H_deactivate_31 : bh_tb T_H_deactivate 31 = bo_Rald bh_ak bh_al 32 := rfl
theorem l_H_deactivate_32 : bh_tb T_H_deactivate 32 = bo_gI 35 21 2 := rfl
theorem l_H_deactivate_35 : bh_tb T_H_deactivate 35 = bo_ald 36 1 := rfl
theorem l_H_deactivate_36 : bh_tb T_H_deactivate 36 = bo_gI 39 5 0 := rfl
theorem l_H_deactivate_39 : bh_tb T_H_deactivate 39 = bo_if2 42 50 (fun x y => ¬ x = y) := rfl
theorem l_H_deactivate_42 : bh_tb T_H_deactivate 42 = bo_ald 43 0 := rfl
theorem l_H_deactivate_43 : bh_tb T_H_deactivate 43 = bo_ild 44 2 := rfl
theorem l_H_deactivate_44 : bh_tb T_H_deactivate 44 = bo_callV 47 2 0 0 3 F_H_dropService := rfl
theorem l_H_deactivate_47 : bh_tb T_H_deactivate 47 = bo_go 53 := rfl
theorem l_H_deactivate_50 : bh_tb T_H_deactivate 50 = bo_inc 53 2 1 := rfl
theorem l_H_deactivate_53 : bh_tb T_H_deactivate 53 = bo_inc 56 3 (-1) := rfl
theorem l_H_deactivate_56 : bh_tb T_H_deactivate 56 = bo_go 19 := rfl
theorem l_H_deactivate_59 : bh_tb T_H_deactivate 59 = bo_ald 60 0 := rfl
theorem l_H_deactivate_60 : bh_tb T_H_deactivate 60 = bo_gR 63 3 2 19 := rfl
theorem l_H_deactivate_63 : bh_tb T_H_deactivate 63 = bo_ald 64 1 := rfl
theorem l_H_deactivate_64 : bh_tb T_H_deactivate 64 = bo_gI 67 5 0 := rfl
theorem l_H_deactivate_67 : bh_tb T_H_deactivate 67 = bo_callV 70 2 0 0 19 F_V_takeBackAll := rfl
theorem l_H_deactivate_70 : bh_tb T_H_deactivate 70 = bo_ald 71 1 := rfl
theorem l_H_deactivate_71 : bh_tb T_H_deactivate 71 = bo_st 72 (bg_push (.inl (.int 2))) := rfl
theorem l_H_deactivate_72 : bh_tb T_H_deactivate 72 = bo_pI 75 5 3 := rfl
theorem l_H_deactivate_75 : bh_tb T_H_deactivate 75 = bo_ald 76 0 := rfl
theorem l_H_deactivate_76 : bh_tb T_H_deactivate 76 = bo_gR 79 3 3 23 := rfl
theorem l_H_deactivate_79 : bh_tb T_H_deactivate 79 = bo_st 82 (bg_push (.inl (.int 200))) := rfl
theorem l_H_deactivate_82 : bh_tb T_H_deactivate 82 = bo_ald 83 1 := rfl
theorem l_H_deactivate_83 : bh_tb T_H_deactivate 83 = bo_gI 86 5 0 := rfl
theorem l_H_deactivate_86 : bh_tb T_H_deactivate 86 = bo_st 87 (bg_ii (fun x y => x + y)) := rfl
theorem l_H_deactivate_87 : bh_tb T_H_deactivate 87 = bo_callV 90 2 0 0 23 F_E_add := rfl
theorem l_H_deactivate_90 : bh_tb T_H_deactivate 90 = bo_vret 0 := rfl
theorem l_B_beUnresolved_0 : bh_tb T_B_beUnresolved 0 = bo_ald 1 0 := rfl
theorem l_B_beUnresolved_1 : bh_tb T_B_beUnresolved 1 = bo_st 2 (bg_push (.inl (.int 1))) := rfl
theorem l_B_beUnresolved_2 : bh_tb T_B_beUnresolved 2 = bo_pI 5 5 3 := rfl
theorem l_B_beUnresolved_5 : bh_tb T_B_beUnresolved 5 = bo_ald 6 0 := rfl
theorem l_B_beUnresolved_6 : bh_tb T_B_beUnresolved 6 = bo_gR 9 5 2 6 := rfl
theorem l_B_beUnresolved_9 : bh_tb T_B_beUnresolved 9 = bo_st 10 (bg_push (.inl (.int (-1)))) := rfl
theorem l_B_beUnresolved_10 : bh_tb T_B_beUnresolved 10 = bo_callS 13 2 0 0 F_A_fill := rfl
theorem l_B_beUnresolved_13 : bh_tb T_B_beUnresolved 13 = bo_vret 0 := rfl
theorem l_R_nameIsTaken_0 : bh_tb T_R_nameIsTaken 0 = bo_st 1 (bg_push (.inl (.int 0))) := rfl
theorem l_R_nameIsTaken_1 : bh_tb T_R_nameIsTaken 1 = bo_ist 2 3 := rfl
theorem l_R_nameIsTaken_2 : bh_tb T_R_nameIsTaken 2 = bo_ild 3 3 := rfl
theorem l_R_nameIsTaken_3 : bh_tb T_R_nameIsTaken 3 = bo_st 5 (bg_push (.inl (.int 8))) := rfl
theorem l_R_nameIsTaken_5 : bh_tb T_R_nameIsTaken 5 = bo_if2 8 67 (fun x y => y ≤ x) := rfl
theorem l_R_nameIsTaken_8 : bh_tb T_R_nameIsTaken 8 = bo_ald 9 1 := rfl
theorem l_R_nameIsTaken_9 : bh_tb T_R_nameIsTaken 9 = bo_ild 10 3 := rfl
theorem l_R_nameIsTaken_10 : bh_tb T_R_nameIsTaken 10 = bo_Rald bh_ak bh_al 11 := rfl
theorem l_R_nameIsTaken_11 : bh_tb T_R_nameIsTaken 11 = bo_callV 14 1 0 0 5 F_B_isResolved := rfl
theorem l_R_nameIsTaken_14 : bh_tb T_R_nameIsTaken 14 = bo_if1 17 26 (fun x => ¬ x = 0) := rfl
theorem l_R_nameIsTaken_17 : bh_tb T_R_nameIsTaken 17 = bo_ald 18 0 := rfl
theorem l_R_nameIsTaken_18 : bh_tb T_R_nameIsTaken 18 = bo_gR 21 15 2 18 := rfl
theorem l_R_nameIsTaken_21 : bh_tb T_R_nameIsTaken 21 = bo_ild 22 3 := rfl
theorem l_R_nameIsTaken_22 : bh_tb T_R_nameIsTaken 22 = bo_Zald bh_ak bh_al 23 := rfl
theorem l_R_nameIsTaken_23 : bh_tb T_R_nameIsTaken 23 = bo_if1 26 30 (fun x => x = 0) := rfl
theorem l_R_nameIsTaken_26 : bh_tb T_R_nameIsTaken 26 = bo_st 27 (bg_push (.inl (.int 1))) := rfl
theorem l_R_nameIsTaken_27 : bh_tb T_R_nameIsTaken 27 = bo_go 31 := rfl
theorem l_R_nameIsTaken_30 : bh_tb T_R_nameIsTaken 30 = bo_st 31 (bg_push (.inl (.int 0))) := rfl
theorem l_R_nameIsTaken_31 : bh_tb T_R_nameIsTaken 31 = bo_ist 33 4 := rfl
theorem l_R_nameIsTaken_33 : bh_tb T_R_nameIsTaken 33 = bo_ild 35 4 := rfl
theorem l_R_nameIsTaken_35 : bh_tb T_R_nameIsTaken 35 = bo_if1 38 61 (fun x => x = 0) := rfl
theorem l_R_nameIsTaken_38 : bh_tb T_R_nameIsTaken 38 = bo_ild 39 3 := rfl
theorem l_R_nameIsTaken_39 : bh_tb T_R_nameIsTaken 39 = bo_ald 40 2 := rfl
theorem l_R_nameIsTaken_40 : bh_tb T_R_nameIsTaken 40 = bo_gI 43 5 0 := rfl
theorem l_R_nameIsTaken_43 : bh_tb T_R_nameIsTaken 43 = bo_if2 46 61 (fun x y => x = y) := rfl
theorem l_R_nameIsTaken_46 : bh_tb T_R_nameIsTaken 46 = bo_ald 47 1 := rfl
theorem l_R_nameIsTaken_47 : bh_tb T_R_nameIsTaken 47 = bo_ild 48 3 := rfl
theorem l_R_nameIsTaken_48 : bh_tb T_R_nameIsTaken 48 = bo_Rald bh_ak bh_al 49 := rfl
theorem l_R_nameIsTaken_49 : bh_tb T_R_nameIsTaken 49 = bo_gI 52 5 4 := rfl
theorem l_R_nameIsTaken_52 : bh_tb T_R_nameIsTaken 52 = bo_ald 53 2 := rfl
theorem l_R_nameIsTaken_53 : bh_tb T_R_nameIsTaken 53 = bo_gI 56 5 4 := rfl
theorem l_R_nameIsTaken_56 : bh_tb T_R_nameIsTaken 56 = bo_if2 59 61 (fun x y => ¬ x = y) := rfl
theorem l_R_nameIsTaken_59 : bh_tb T_R_nameIsTaken 59 = bo_st 60 (bg_push (.inl (.int 1))) := rfl
theorem l_R_nameIsTaken_60 : bh_tb T_R_nameIsTaken 60 = bo_zret 0 := rfl
theorem l_R_nameIsTaken_61 : bh_tb T_R_nameIsTaken 61 = bo_inc 64 3 1 := rfl
theorem l_R_nameIsTaken_64 : bh_tb T_R_nameIsTaken 64 = bo_go 2 := rfl
theorem l_R_nameIsTaken_67 : bh_tb T_R_nameIsTaken 67 = bo_st 68 (bg_push (.inl (.int 0))) := rfl
theorem l_R_nameIsTaken_68 : bh_tb T_R_nameIsTaken 68 = bo_zret 0 := rfl
theorem l_R_takeIn_0 : bh_tb T_R_takeIn 0 = bo_ald 1 0 := rfl
theorem l_R_takeIn_1 : bh_tb T_R_takeIn 1 = bo_gR 4 15 2 18 := rfl
theorem l_R_takeIn_4 : bh_tb T_R_takeIn 4 = bo_ald 5 1 := rfl
theorem l_R_takeIn_5 : bh_tb T_R_takeIn 5 = bo_gI 8 5 0 := rfl
theorem l_R_takeIn_8 : bh_tb T_R_takeIn 8 = bo_st 9 (bg_push (.inl (.int 1))) := rfl
theorem l_R_takeIn_9 : bh_tb T_R_takeIn 9 = bo_Zast bh_ak bh_al 10 := rfl
theorem l_R_takeIn_10 : bh_tb T_R_takeIn 10 = bo_ald 11 0 := rfl
theorem l_R_takeIn_11 : bh_tb T_R_takeIn 11 = bo_st 12 bg_dup := rfl
theorem l_R_takeIn_12 : bh_tb T_R_takeIn 12 = bo_gI 15 15 5 := rfl
theorem l_R_takeIn_15 : bh_tb T_R_takeIn 15 = bo_st 16 (bg_push (.inl (.int 1))) := rfl
theorem l_R_takeIn_16 : bh_tb T_R_takeIn 16 = bo_st 17 (bg_ii (fun x y => x + y)) := rfl
theorem l_R_takeIn_17 : bh_tb T_R_takeIn 17 = bo_pI 20 15 5 := rfl
theorem l_R_takeIn_20 : bh_tb T_R_takeIn 20 = bo_st 21 (bg_push (.inl (.int 0))) := rfl
theorem l_R_takeIn_21 : bh_tb T_R_takeIn 21 = bo_ist 22 2 := rfl
theorem l_R_takeIn_22 : bh_tb T_R_takeIn 22 = bo_ild 23 2 := rfl
theorem l_R_takeIn_23 : bh_tb T_R_takeIn 23 = bo_ald 24 1 := rfl
theorem l_R_takeIn_24 : bh_tb T_R_takeIn 24 = bo_gR 27 5 1 7 := rfl
theorem l_R_takeIn_27 : bh_tb T_R_takeIn 27 = bo_gI 30 7 8 := rfl
theorem l_R_takeIn_30 : bh_tb T_R_takeIn 30 = bo_if2 33 93 (fun x y => y ≤ x) := rfl
theorem l_R_takeIn_33 : bh_tb T_R_takeIn 33 = bo_ald 34 1 := rfl
theorem l_R_takeIn_34 : bh_tb T_R_takeIn 34 = bo_gR 37 5 1 7 := rfl
theorem l_R_takeIn_37 : bh_tb T_R_takeIn 37 = bo_gR 40 7 6 14 := rfl
theorem l_R_takeIn_40 : bh_tb T_R_takeIn 40 = bo_ild 41 2 := rfl
theorem l_R_takeIn_41 : bh_tb T_R_takeIn 41 = bo_Zald bh_ak bh_al 42 := rfl
theorem l_R_takeIn_42 : bh_tb T_R_takeIn 42 = bo_if1 45 87 (fun x => ¬ x = 0) := rfl
theorem l_R_takeIn_45 : bh_tb T_R_takeIn 45 = bo_ald 46 0 := rfl
theorem l_R_takeIn_46 : bh_tb T_R_takeIn 46 = bo_gI 49 15 3 := rfl
theorem l_R_takeIn_49 : bh_tb T_R_takeIn 49 = bo_st 51 (bg_push (.inl (.int 24))) := rfl
theorem l_R_takeIn_51 : bh_tb T_R_takeIn 51 = bo_if2 54 87 (fun x y => y ≤ x) := rfl
theorem l_R_takeIn_54 : bh_tb T_R_takeIn 54 = bo_ald 55 0 := rfl
theorem l_R_takeIn_55 : bh_tb T_R_takeIn 55 = bo_gR 58 15 0 16 := rfl
theorem l_R_takeIn_58 : bh_tb T_R_takeIn 58 = bo_ald 59 0 := rfl
theorem l_R_takeIn_59 : bh_tb T_R_takeIn 59 = bo_gI 62 15 3 := rfl
theorem l_R_takeIn_62 : bh_tb T_R_takeIn 62 = bo_ald 63 1 := rfl
theorem l_R_takeIn_63 : bh_tb T_R_takeIn 63 = bo_gI 66 5 0 := rfl
theorem l_R_takeIn_66 : bh_tb T_R_takeIn 66 = bo_Iast bh_ak bh_al 67 := rfl
theorem l_R_takeIn_67 : bh_tb T_R_takeIn 67 = bo_ald 68 0 := rfl
theorem l_R_takeIn_68 : bh_tb T_R_takeIn 68 = bo_gR 71 15 1 17 := rfl
theorem l_R_takeIn_71 : bh_tb T_R_takeIn 71 = bo_ald 72 0 := rfl
theorem l_R_takeIn_72 : bh_tb T_R_takeIn 72 = bo_gI 75 15 3 := rfl
theorem l_R_takeIn_75 : bh_tb T_R_takeIn 75 = bo_ild 76 2 := rfl
theorem l_R_takeIn_76 : bh_tb T_R_takeIn 76 = bo_Iast bh_ak bh_al 77 := rfl
theorem l_R_takeIn_77 : bh_tb T_R_takeIn 77 = bo_ald 78 0 := rfl
theorem l_R_takeIn_78 : bh_tb T_R_takeIn 78 = bo_st 79 bg_dup := rfl
theorem l_R_takeIn_79 : bh_tb T_R_takeIn 79 = bo_gI 82 15 3 := rfl
theorem l_R_takeIn_82 : bh_tb T_R_takeIn 82 = bo_st 83 (bg_push (.inl (.int 1))) := rfl
theorem l_R_takeIn_83 : bh_tb T_R_takeIn 83 = bo_st 84 (bg_ii (fun x y => x + y)) := rfl
theorem l_R_takeIn_84 : bh_tb T_R_takeIn 84 = bo_pI 87 15 3 := rfl
theorem l_R_takeIn_87 : bh_tb T_R_takeIn 87 = bo_inc 90 2 1 := rfl
theorem l_R_takeIn_90 : bh_tb T_R_takeIn 90 = bo_go 22 := rfl
theorem l_R_takeIn_93 : bh_tb T_R_takeIn 93 = bo_vret 0 := rfl
theorem l_F_versionFor_0 : bh_tb T_F_versionFor 0 = bo_ald 1 0 := rfl
theorem l_F_versionFor_1 : bh_tb T_F_versionFor 1 = bo_gR 4 7 0 8 := rfl
theorem l_F_versionFor_4 : bh_tb T_F_versionFor 4 = bo_ald 5 1 := rfl
theorem l_F_versionFor_5 : bh_tb T_F_versionFor 5 = bo_gR 8 7 3 11 := rfl
theorem l_F_versionFor_8 : bh_tb T_F_versionFor 8 = bo_ild 9 2 := rfl
theorem l_F_versionFor_9 : bh_tb T_F_versionFor 9 = bo_Iald bh_ak bh_al 10 := rfl
theorem l_F_versionFor_10 : bh_tb T_F_versionFor 10 = bo_Iald bh_ak bh_al 11 := rfl
theorem l_F_versionFor_11 : bh_tb T_F_versionFor 11 = bo_ist 12 3 := rfl
theorem l_F_versionFor_12 : bh_tb T_F_versionFor 12 = bo_ild 13 3 := rfl
theorem l_F_versionFor_13 : bh_tb T_F_versionFor 13 = bo_ald 14 1 := rfl
theorem l_F_versionFor_14 : bh_tb T_F_versionFor 14 = bo_gR 17 7 4 12 := rfl
theorem l_F_versionFor_17 : bh_tb T_F_versionFor 17 = bo_ild 18 2 := rfl
theorem l_F_versionFor_18 : bh_tb T_F_versionFor 18 = bo_Iald bh_ak bh_al 19 := rfl
theorem l_F_versionFor_19 : bh_tb T_F_versionFor 19 = bo_if2 22 36 (fun x y => x < y) := rfl
theorem l_F_versionFor_22 : bh_tb T_F_versionFor 22 = bo_ild 23 3 := rfl
theorem l_F_versionFor_23 : bh_tb T_F_versionFor 23 = bo_ald 24 1 := rfl
theorem l_F_versionFor_24 : bh_tb T_F_versionFor 24 = bo_gR 27 7 5 13 := rfl
theorem l_F_versionFor_27 : bh_tb T_F_versionFor 27 = bo_ild 28 2 := rfl
theorem l_F_versionFor_28 : bh_tb T_F_versionFor 28 = bo_Iald bh_ak bh_al 29 := rfl
theorem l_F_versionFor_29 : bh_tb T_F_versionFor 29 = bo_if2 32 36 (fun x y => y < x) := rfl
theorem l_F_versionFor_32 : bh_tb T_F_versionFor 32 = bo_ild 33 3 := rfl
theorem l_F_versionFor_33 : bh_tb T_F_versionFor 33 = bo_go 37 := rfl
theorem l_F_versionFor_36 : bh_tb T_F_versionFor 36 = bo_st 37 (bg_push (.inl (.int (-1)))) := rfl
theorem l_F_versionFor_37 : bh_tb T_F_versionFor 37 = bo_iret 0 := rfl
theorem l_R_keyOf_0 : bh_tb T_R_keyOf 0 = bo_ald 1 0 := rfl
theorem l_R_keyOf_1 : bh_tb T_R_keyOf 1 = bo_gR 4 5 1 7 := rfl
theorem l_R_keyOf_4 : bh_tb T_R_keyOf 4 = bo_ald 5 1 := rfl
theorem l_R_keyOf_5 : bh_tb T_R_keyOf 5 = bo_ild 6 2 := rfl
theorem l_R_keyOf_6 : bh_tb T_R_keyOf 6 = bo_callV 9 3 0 0 7 F_F_versionFor := rfl
theorem l_R_keyOf_9 : bh_tb T_R_keyOf 9 = bo_ist 10 3 := rfl
theorem l_R_keyOf_10 : bh_tb T_R_keyOf 10 = bo_ald 11 0 := rfl
theorem l_R_keyOf_11 : bh_tb T_R_keyOf 11 = bo_gI 14 5 3 := rfl
theorem l_R_keyOf_14 : bh_tb T_R_keyOf 14 = bo_if1 17 22 (fun x => x = 0) := rfl
theorem l_R_keyOf_17 : bh_tb T_R_keyOf 17 = bo_ild 18 3 := rfl
theorem l_R_keyOf_18 : bh_tb T_R_keyOf 18 = bo_st 19 (bg_push (.inl (.int (-1)))) := rfl
theorem l_R_keyOf_19 : bh_tb T_R_keyOf 19 = bo_if2 22 26 (fun x y => ¬ x = y) := rfl
theorem l_R_keyOf_22 : bh_tb T_R_keyOf 22 = bo_st 25 (bg_push (.inl (.int 160))) := rfl
theorem l_R_keyOf_25 : bh_tb T_R_keyOf 25 = bo_iret 0 := rfl
theorem l_R_keyOf_26 : bh_tb T_R_keyOf 26 = bo_ald 27 0 := rfl
theorem l_R_keyOf_27 : bh_tb T_R_keyOf 27 = bo_callV 30 1 0 0 5 F_B_isResolved := rfl
theorem l_R_keyOf_30 : bh_tb T_R_keyOf 30 = bo_if1 33 37 (fun x => x = 0) := rfl
theorem l_R_keyOf_33 : bh_tb T_R_keyOf 33 = bo_st 34 (bg_push (.inl (.int 0))) := rfl
theorem l_R_keyOf_34 : bh_tb T_R_keyOf 34 = bo_go 38 := rfl
theorem l_R_keyOf_37 : bh_tb T_R_keyOf 37 = bo_st 38 (bg_push (.inl (.int 1))) := rfl
theorem l_R_keyOf_38 : bh_tb T_R_keyOf 38 = bo_ist 40 4 := rfl
theorem l_R_keyOf_40 : bh_tb T_R_keyOf 40 = bo_ild 42 4 := rfl
theorem l_R_keyOf_42 : bh_tb T_R_keyOf 42 = bo_st 44 (bg_push (.inl (.int 10))) := rfl
theorem l_R_keyOf_44 : bh_tb T_R_keyOf 44 = bo_st 45 (bg_ii (fun x y => x * y)) := rfl
theorem l_R_keyOf_45 : bh_tb T_R_keyOf 45 = bo_st 47 (bg_push (.inl (.int 10))) := rfl
theorem l_R_keyOf_47 : bh_tb T_R_keyOf 47 = bo_st 48 (bg_ii (fun x y => x + y)) := rfl
theorem l_R_keyOf_48 : bh_tb T_R_keyOf 48 = bo_st 49 (bg_push (.inl (.int 1))) := rfl
theorem l_R_keyOf_49 : bh_tb T_R_keyOf 49 = bo_st 50 (bg_ii (fun x y => x - y)) := rfl
theorem l_R_keyOf_50 : bh_tb T_R_keyOf 50 = bo_ild 51 3 := rfl
theorem l_R_keyOf_51 : bh_tb T_R_keyOf 51 = bo_st 52 (bg_ii (fun x y => x - y)) := rfl
theorem l_R_keyOf_52 : bh_tb T_R_keyOf 52 = bo_st 54 (bg_push (.inl (.int 8))) := rfl
theorem l_R_keyOf_54 : bh_tb T_R_keyOf 54 = bo_st 55 (bg_ii (fun x y => x * y)) := rfl
theorem l_R_keyOf_55 : bh_tb T_R_keyOf 55 = bo_ald 56 0 := rfl
theorem l_R_keyOf_56 : bh_tb T_R_keyOf 56 = bo_gI 59 5 0 := rfl
theorem l_R_keyOf_59 : bh_tb T_R_keyOf 59 = bo_st 60 (bg_ii (fun x y => x + y)) := rfl
theorem l_R_keyOf_60 : bh_tb T_R_keyOf 60 = bo_iret 0 := rfl
theorem l_R_candidateAfter_0 : bh_tb T_R_candidateAfter 0 = bo_st 3 (bg_push (.inl (.int 160))) := rfl
theorem l_R_candidateAfter_3 : bh_tb T_R_candidateAfter 3 = bo_ist 5 6 := rfl
theorem l_R_candidateAfter_5 : bh_tb T_R_candidateAfter 5 = bo_st 6 (bg_push (.inl (.int 0))) := rfl
theorem l_R_candidateAfter_6 : bh_tb T_R_candidateAfter 6 = bo_ist 8 7 := rfl
theorem l_R_candidateAfter_8 : bh_tb T_R_candidateAfter 8 = bo_ild 10 7 := rfl
theorem l_R_candidateAfter_10 : bh_tb T_R_candidateAfter 10 = bo_st 12 (bg_push (.inl (.int 8))) := rfl
theorem l_R_candidateAfter_12 : bh_tb T_R_candidateAfter 12 = bo_if2 15 94 (fun x y => y ≤ x) := rfl
theorem l_R_candidateAfter_15 : bh_tb T_R_candidateAfter 15 = bo_ald 16 2 := rfl
theorem l_R_candidateAfter_16 : bh_tb T_R_candidateAfter 16 = bo_ild 18 7 := rfl
theorem l_R_candidateAfter_18 : bh_tb T_R_candidateAfter 18 = bo_Rald bh_ak bh_al 19 := rfl
theorem l_R_candidateAfter_19 : bh_tb T_R_candidateAfter 19 = bo_ald 20 3 := rfl
theorem l_R_candidateAfter_20 : bh_tb T_R_candidateAfter 20 = bo_ild 22 4 := rfl
theorem l_R_candidateAfter_22 : bh_tb T_R_candidateAfter 22 = bo_callS 25 3 0 0 F_R_keyOf := rfl
theorem l_R_candidateAfter_25 : bh_tb T_R_candidateAfter 25 = bo_ist 27 8 := rfl
theorem l_R_candidateAfter_27 : bh_tb T_R_candidateAfter 27 = bo_ild 29 8 := rfl
theorem l_R_candidateAfter_29 : bh_tb T_R_candidateAfter 29 = bo_ild 30 1 := rfl
theorem l_R_candidateAfter_30 : bh_tb T_R_candidateAfter 30 = bo_if2 33 88 (fun x y => x ≤ y) := rfl
theorem l_R_candidateAfter_33 : bh_tb T_R_candidateAfter 33 = bo_ild 35 8 := rfl
theorem l_R_candidateAfter_35 : bh_tb T_R_candidateAfter 35 = bo_ild 37 6 := rfl
theorem l_R_candidateAfter_37 : bh_tb T_R_candidateAfter 37 = bo_if2 40 88 (fun x y => y ≤ x) := rfl
theorem l_R_candidateAfter_40 : bh_tb T_R_candidateAfter 40 = bo_ild 42 5 := rfl
theorem l_R_candidateAfter_42 : bh_tb T_R_candidateAfter 42 = bo_if1 45 55 (fun x => x = 0) := rfl
theorem l_R_candidateAfter_45 : bh_tb T_R_candidateAfter 45 = bo_ald 46 2 := rfl
theorem l_R_candidateAfter_46 : bh_tb T_R_candidateAfter 46 = bo_ild 48 7 := rfl
theorem l_R_candidateAfter_48 : bh_tb T_R_candidateAfter 48 = bo_Rald bh_ak bh_al 49 := rfl
theorem l_R_candidateAfter_49 : bh_tb T_R_candidateAfter 49 = bo_callV 52 1 0 0 5 F_B_isResolved := rfl
theorem l_R_candidateAfter_52 : bh_tb T_R_candidateAfter 52 = bo_go 72 := rfl
theorem l_R_candidateAfter_55 : bh_tb T_R_candidateAfter 55 = bo_ald 56 0 := rfl
theorem l_R_candidateAfter_56 : bh_tb T_R_candidateAfter 56 = bo_ald 57 2 := rfl
theorem l_R_candidateAfter_57 : bh_tb T_R_candidateAfter 57 = bo_ald 58 2 := rfl
theorem l_R_candidateAfter_58 : bh_tb T_R_candidateAfter 58 = bo_ild 60 7 := rfl
theorem l_R_candidateAfter_60 : bh_tb T_R_candidateAfter 60 = bo_Rald bh_ak bh_al 61 := rfl
theorem l_R_candidateAfter_61 : bh_tb T_R_candidateAfter 61 = bo_callV 64 3 0 0 15 F_R_nameIsTaken := rfl
theorem l_R_candidateAfter_64 : bh_tb T_R_candidateAfter 64 = bo_if1 67 71 (fun x => ¬ x = 0) := rfl
theorem l_R_candidateAfter_67 : bh_tb T_R_candidateAfter 67 = bo_st 68 (bg_push (.inl (.int 1))) := rfl
theorem l_R_candidateAfter_68 : bh_tb T_R_candidateAfter 68 = bo_go 72 := rfl
theorem l_R_candidateAfter_71 : bh_tb T_R_candidateAfter 71 = bo_st 72 (bg_push (.inl (.int 0))) := rfl
theorem l_R_candidateAfter_72 : bh_tb T_R_candidateAfter 72 = bo_ist 74 9 := rfl
theorem l_R_candidateAfter_74 : bh_tb T_R_candidateAfter 74 = bo_ild 76 9 := rfl
theorem l_R_candidateAfter_76 : bh_tb T_R_candidateAfter 76 = bo_if1 79 84 (fun x => x = 0) := rfl
theorem l_R_candidateAfter_79 : bh_tb T_R_candidateAfter 79 = bo_ild 81 8 := rfl
theorem l_R_candidateAfter_81 : bh_tb T_R_candidateAfter 81 = bo_go 86 := rfl
theorem l_R_candidateAfter_84 : bh_tb T_R_candidateAfter 84 = bo_ild 86 6 := rfl
theorem l_R_candidateAfter_86 : bh_tb T_R_candidateAfter 86 = bo_ist 88 6 := rfl
theorem l_R_candidateAfter_88 : bh_tb T_R_candidateAfter 88 = bo_inc 91 7 1 := rfl
theorem l_R_candidateAfter_91 : bh_tb T_R_candidateAfter 91 = bo_go 8 := rfl
theorem l_R_candidateAfter_94 : bh_tb T_R_candidateAfter 94 = bo_ild 96 6 := rfl
theorem l_R_candidateAfter_96 : bh_tb T_R_candidateAfter 96 = bo_iret 0 := rfl
theorem l_B_sourceOf_0 : bh_tb T_B_sourceOf 0 = bo_ald 1 0 := rfl
theorem l_B_sourceOf_1 : bh_tb T_B_sourceOf 1 = bo_gR 4 5 1 7 := rfl
theorem l_B_sourceOf_4 : bh_tb T_B_sourceOf 4 = bo_gR 7 7 0 8 := rfl
theorem l_B_sourceOf_7 : bh_tb T_B_sourceOf 7 = bo_ild 8 1 := rfl
theorem l_B_sourceOf_8 : bh_tb T_B_sourceOf 8 = bo_Iald bh_ak bh_al 9 := rfl
theorem l_B_sourceOf_9 : bh_tb T_B_sourceOf 9 = bo_st 10 (bg_push (.inl (.int (-1)))) := rfl
theorem l_B_sourceOf_10 : bh_tb T_B_sourceOf 10 = bo_if2 13 18 (fun x y => x = y) := rfl
theorem l_B_sourceOf_13 : bh_tb T_B_sourceOf 13 = bo_ald 14 0 := rfl
theorem l_B_sourceOf_14 : bh_tb T_B_sourceOf 14 = bo_gI 17 5 9 := rfl
theorem l_B_sourceOf_17 : bh_tb T_B_sourceOf 17 = bo_iret 0 := rfl
theorem l_B_sourceOf_18 : bh_tb T_B_sourceOf 18 = bo_ald 19 0 := rfl
theorem l_B_sourceOf_19 : bh_tb T_B_sourceOf 19 = bo_gR 22 5 1 7 := rfl
theorem l_B_sourceOf_22 : bh_tb T_B_sourceOf 22 = bo_gR 25 7 2 10 := rfl
theorem l_B_sourceOf_25 : bh_tb T_B_sourceOf 25 = bo_ild 26 1 := rfl
theorem l_B_sourceOf_26 : bh_tb T_B_sourceOf 26 = bo_Iald bh_ak bh_al 27 := rfl
theorem l_B_sourceOf_27 : bh_tb T_B_sourceOf 27 = bo_ist 28 2 := rfl
theorem l_B_sourceOf_28 : bh_tb T_B_sourceOf 28 = bo_ild 29 2 := rfl
theorem l_B_sourceOf_29 : bh_tb T_B_sourceOf 29 = bo_st 30 (bg_push (.inl (.int (-1)))) := rfl
theorem l_B_sourceOf_30 : bh_tb T_B_sourceOf 30 = bo_if2 33 37 (fun x y => ¬ x = y) := rfl
theorem l_B_sourceOf_33 : bh_tb T_B_sourceOf 33 = bo_st 34 (bg_push (.inl (.int (-1)))) := rfl
theorem l_B_sourceOf_34 : bh_tb T_B_sourceOf 34 = bo_go 43 := rfl
theorem l_B_sourceOf_37 : bh_tb T_B_sourceOf 37 = bo_ald 38 0 := rfl
theorem l_B_sourceOf_38 : bh_tb T_B_sourceOf 38 = bo_gR 41 5 2 6 := rfl
theorem l_B_sourceOf_41 : bh_tb T_B_sourceOf 41 = bo_ild 42 2 := rfl
theorem l_B_sourceOf_42 : bh_tb T_B_sourceOf 42 = bo_Iald bh_ak bh_al 43 := rfl
theorem l_B_sourceOf_43 : bh_tb T_B_sourceOf 43 = bo_iret 0 := rfl
theorem l_R_sourcesDiffer_0 : bh_tb T_R_sourcesDiffer 0 = bo_st 1 (bg_push (.inl (.int 0))) := rfl
theorem l_R_sourcesDiffer_1 : bh_tb T_R_sourcesDiffer 1 = bo_ist 2 3 := rfl
theorem l_R_sourcesDiffer_2 : bh_tb T_R_sourcesDiffer 2 = bo_ild 3 3 := rfl
theorem l_R_sourcesDiffer_3 : bh_tb T_R_sourcesDiffer 3 = bo_st 5 (bg_push (.inl (.int 8))) := rfl
theorem l_R_sourcesDiffer_5 : bh_tb T_R_sourcesDiffer 5 = bo_if2 8 57 (fun x y => y ≤ x) := rfl
theorem l_R_sourcesDiffer_8 : bh_tb T_R_sourcesDiffer 8 = bo_ild 9 2 := rfl
theorem l_R_sourcesDiffer_9 : bh_tb T_R_sourcesDiffer 9 = bo_ild 10 3 := rfl
theorem l_R_sourcesDiffer_10 : bh_tb T_R_sourcesDiffer 10 = bo_callS 13 2 0 0 F_H_isIn := rfl
theorem l_R_sourcesDiffer_13 : bh_tb T_R_sourcesDiffer 13 = bo_if1 16 51 (fun x => x = 0) := rfl
theorem l_R_sourcesDiffer_16 : bh_tb T_R_sourcesDiffer 16 = bo_ald 17 0 := rfl
theorem l_R_sourcesDiffer_17 : bh_tb T_R_sourcesDiffer 17 = bo_ild 18 3 := rfl
theorem l_R_sourcesDiffer_18 : bh_tb T_R_sourcesDiffer 18 = bo_callV 21 2 0 0 5 F_B_sourceOf := rfl
theorem l_R_sourcesDiffer_21 : bh_tb T_R_sourcesDiffer 21 = bo_ist 23 4 := rfl
theorem l_R_sourcesDiffer_23 : bh_tb T_R_sourcesDiffer 23 = bo_ald 24 1 := rfl
theorem l_R_sourcesDiffer_24 : bh_tb T_R_sourcesDiffer 24 = bo_ild 25 3 := rfl
theorem l_R_sourcesDiffer_25 : bh_tb T_R_sourcesDiffer 25 = bo_callV 28 2 0 0 5 F_B_sourceOf := rfl
theorem l_R_sourcesDiffer_28 : bh_tb T_R_sourcesDiffer 28 = bo_ist 30 5 := rfl
theorem l_R_sourcesDiffer_30 : bh_tb T_R_sourcesDiffer 30 = bo_ild 32 4 := rfl
theorem l_R_sourcesDiffer_32 : bh_tb T_R_sourcesDiffer 32 = bo_st 33 (bg_push (.inl (.int (-1)))) := rfl
theorem l_R_sourcesDiffer_33 : bh_tb T_R_sourcesDiffer 33 = bo_if2 36 51 (fun x y => x = y) := rfl
theorem l_R_sourcesDiffer_36 : bh_tb T_R_sourcesDiffer 36 = bo_ild 38 5 := rfl
theorem l_R_sourcesDiffer_38 : bh_tb T_R_sourcesDiffer 38 = bo_st 39 (bg_push (.inl (.int (-1)))) := rfl
theorem l_R_sourcesDiffer_39 : bh_tb T_R_sourcesDiffer 39 = bo_if2 42 51 (fun x y => x = y) := rfl
theorem l_R_sourcesDiffer_42 : bh_tb T_R_sourcesDiffer 42 = bo_ild 44 4 := rfl
theorem l_R_sourcesDiffer_44 : bh_tb T_R_sourcesDiffer 44 = bo_ild 46 5 := rfl
theorem l_R_sourcesDiffer_46 : bh_tb T_R_sourcesDiffer 46 = bo_if2 49 51 (fun x y => x = y) := rfl
theorem l_R_sourcesDiffer_49 : bh_tb T_R_sourcesDiffer 49 = bo_st 50 (bg_push (.inl (.int 1))) := rfl
theorem l_R_sourcesDiffer_50 : bh_tb T_R_sourcesDiffer 50 = bo_zret 0 := rfl
theorem l_R_sourcesDiffer_51 : bh_tb T_R_sourcesDiffer 51 = bo_inc 54 3 1 := rfl
theorem l_R_sourcesDiffer_54 : bh_tb T_R_sourcesDiffer 54 = bo_go 2 := rfl
theorem l_R_sourcesDiffer_57 : bh_tb T_R_sourcesDiffer 57 = bo_st 58 (bg_push (.inl (.int 0))) := rfl
theorem l_R_sourcesDiffer_58 : bh_tb T_R_sourcesDiffer 58 = bo_zret 0 := rfl
theorem l_R_hasClash_0 : bh_tb T_R_hasClash 0 = bo_st 1 (bg_push (.inl (.int 0))) := rfl
theorem l_R_hasClash_1 : bh_tb T_R_hasClash 1 = bo_ist 2 2 := rfl
theorem l_R_hasClash_2 : bh_tb T_R_hasClash 2 = bo_ild 3 2 := rfl
theorem l_R_hasClash_3 : bh_tb T_R_hasClash 3 = bo_st 5 (bg_push (.inl (.int 8))) := rfl
theorem l_R_hasClash_5 : bh_tb T_R_hasClash 5 = bo_if2 8 106 (fun x y => y ≤ x) := rfl
theorem l_R_hasClash_8 : bh_tb T_R_hasClash 8 = bo_ald 9 1 := rfl
theorem l_R_hasClash_9 : bh_tb T_R_hasClash 9 = bo_ild 10 2 := rfl
theorem l_R_hasClash_10 : bh_tb T_R_hasClash 10 = bo_Rald bh_ak bh_al 11 := rfl
theorem l_R_hasClash_11 : bh_tb T_R_hasClash 11 = bo_ast 12 3 := rfl
theorem l_R_hasClash_12 : bh_tb T_R_hasClash 12 = bo_st 13 (bg_push (.inl (.int 0))) := rfl
theorem l_R_hasClash_13 : bh_tb T_R_hasClash 13 = bo_ist 15 4 := rfl
theorem l_R_hasClash_15 : bh_tb T_R_hasClash 15 = bo_ald 16 0 := rfl
theorem l_R_hasClash_16 : bh_tb T_R_hasClash 16 = bo_gR 19 15 2 18 := rfl
theorem l_R_hasClash_19 : bh_tb T_R_hasClash 19 = bo_ild 20 2 := rfl
theorem l_R_hasClash_20 : bh_tb T_R_hasClash 20 = bo_Zald bh_ak bh_al 21 := rfl
theorem l_R_hasClash_21 : bh_tb T_R_hasClash 21 = bo_if1 24 100 (fun x => x = 0) := rfl
theorem l_R_hasClash_24 : bh_tb T_R_hasClash 24 = bo_ild 26 4 := rfl
theorem l_R_hasClash_26 : bh_tb T_R_hasClash 26 = bo_ald 27 3 := rfl
theorem l_R_hasClash_27 : bh_tb T_R_hasClash 27 = bo_gR 30 5 1 7 := rfl
theorem l_R_hasClash_30 : bh_tb T_R_hasClash 30 = bo_gI 33 7 8 := rfl
theorem l_R_hasClash_33 : bh_tb T_R_hasClash 33 = bo_if2 36 100 (fun x y => y ≤ x) := rfl
theorem l_R_hasClash_36 : bh_tb T_R_hasClash 36 = bo_ald 37 3 := rfl
theorem l_R_hasClash_37 : bh_tb T_R_hasClash 37 = bo_gR 40 5 2 6 := rfl
theorem l_R_hasClash_40 : bh_tb T_R_hasClash 40 = bo_ild 42 4 := rfl
theorem l_R_hasClash_42 : bh_tb T_R_hasClash 42 = bo_Iald bh_ak bh_al 43 := rfl
theorem l_R_hasClash_43 : bh_tb T_R_hasClash 43 = bo_ist 45 5 := rfl
theorem l_R_hasClash_45 : bh_tb T_R_hasClash 45 = bo_ild 47 5 := rfl
theorem l_R_hasClash_47 : bh_tb T_R_hasClash 47 = bo_st 48 (bg_push (.inl (.int (-1)))) := rfl
theorem l_R_hasClash_48 : bh_tb T_R_hasClash 48 = bo_if2 51 94 (fun x y => x = y) := rfl
theorem l_R_hasClash_51 : bh_tb T_R_hasClash 51 = bo_ald 52 1 := rfl
theorem l_R_hasClash_52 : bh_tb T_R_hasClash 52 = bo_ild 54 5 := rfl
theorem l_R_hasClash_54 : bh_tb T_R_hasClash 54 = bo_callS 57 1 0 0 F_H_ownerOf := rfl
theorem l_R_hasClash_57 : bh_tb T_R_hasClash 57 = bo_Rald bh_ak bh_al 58 := rfl
theorem l_R_hasClash_58 : bh_tb T_R_hasClash 58 = bo_ast 60 6 := rfl
theorem l_R_hasClash_60 : bh_tb T_R_hasClash 60 = bo_ald 62 6 := rfl
theorem l_R_hasClash_62 : bh_tb T_R_hasClash 62 = bo_gR 65 5 1 7 := rfl
theorem l_R_hasClash_65 : bh_tb T_R_hasClash 65 = bo_gR 68 7 1 9 := rfl
theorem l_R_hasClash_68 : bh_tb T_R_hasClash 68 = bo_ald 69 3 := rfl
theorem l_R_hasClash_69 : bh_tb T_R_hasClash 69 = bo_gR 72 5 1 7 := rfl
theorem l_R_hasClash_72 : bh_tb T_R_hasClash 72 = bo_gR 75 7 3 11 := rfl
theorem l_R_hasClash_75 : bh_tb T_R_hasClash 75 = bo_ild 77 4 := rfl
theorem l_R_hasClash_77 : bh_tb T_R_hasClash 77 = bo_Iald bh_ak bh_al 78 := rfl
theorem l_R_hasClash_78 : bh_tb T_R_hasClash 78 = bo_Iald bh_ak bh_al 79 := rfl
theorem l_R_hasClash_79 : bh_tb T_R_hasClash 79 = bo_ist 81 7 := rfl
theorem l_R_hasClash_81 : bh_tb T_R_hasClash 81 = bo_ald 82 3 := rfl
theorem l_R_hasClash_82 : bh_tb T_R_hasClash 82 = bo_ald 84 6 := rfl
theorem l_R_hasClash_84 : bh_tb T_R_hasClash 84 = bo_ild 86 7 := rfl
theorem l_R_hasClash_86 : bh_tb T_R_hasClash 86 = bo_callS 89 3 0 0 F_R_sourcesDiffer := rfl
theorem l_R_hasClash_89 : bh_tb T_R_hasClash 89 = bo_if1 92 94 (fun x => x = 0) := rfl
theorem l_R_hasClash_92 : bh_tb T_R_hasClash 92 = bo_st 93 (bg_push (.inl (.int 1))) := rfl
theorem l_R_hasClash_93 : bh_tb T_R_hasClash 93 = bo_zret 0 := rfl
theorem l_R_hasClash_94 : bh_tb T_R_hasClash 94 = bo_inc 97 4 1 := rfl
theorem l_R_hasClash_97 : bh_tb T_R_hasClash 97 = bo_go 15 := rfl
theorem l_R_hasClash_100 : bh_tb T_R_hasClash 100 = bo_inc 103 2 1 := rfl
theorem l_R_hasClash_103 : bh_tb T_R_hasClash 103 = bo_go 2 := rfl
theorem l_R_hasClash_106 : bh_tb T_R_hasClash 106 = bo_st 107 (bg_push (.inl (.int 0))) := rfl
theorem l_R_hasClash_107 : bh_tb T_R_hasClash 107 = bo_zret 0 := rfl
theorem l_R_putOut_0 : bh_tb T_R_putOut 0 = bo_ald 1 0 := rfl
theorem l_R_putOut_1 : bh_tb T_R_putOut 1 = bo_gR 4 15 2 18 := rfl
theorem l_R_putOut_4 : bh_tb T_R_putOut 4 = bo_ald 5 1 := rfl
theorem l_R_putOut_5 : bh_tb T_R_putOut 5 = bo_gI 8 5 0 := rfl
theorem l_R_putOut_8 : bh_tb T_R_putOut 8 = bo_st 9 (bg_push (.inl (.int 0))) := rfl
theorem l_R_putOut_9 : bh_tb T_R_putOut 9 = bo_Zast bh_ak bh_al 10 := rfl
theorem l_R_putOut_10 : bh_tb T_R_putOut 10 = bo_ald 11 0 := rfl
theorem l_R_putOut_11 : bh_tb T_R_putOut 11 = bo_st 12 bg_dup := rfl
theorem l_R_putOut_12 : bh_tb T_R_putOut 12 = bo_gI 15 15 5 := rfl
theorem l_R_putOut_15 : bh_tb T_R_putOut 15 = bo_st 16 (bg_push (.inl (.int 1))) := rfl
theorem l_R_putOut_16 : bh_tb T_R_putOut 16 = bo_st 17 (bg_ii (fun x y => x - y)) := rfl
theorem l_R_putOut_17 : bh_tb T_R_putOut 17 = bo_pI 20 15 5 := rfl
theorem l_R_putOut_20 : bh_tb T_R_putOut 20 = bo_ald 21 0 := rfl
theorem l_R_putOut_21 : bh_tb T_R_putOut 21 = bo_ild 22 2 := rfl
theorem l_R_putOut_22 : bh_tb T_R_putOut 22 = bo_pI 25 15 3 := rfl
theorem l_R_putOut_25 : bh_tb T_R_putOut 25 = bo_vret 0 := rfl
theorem l_R_solveFrom_0 {F : bh_Fn} : bh_tb (T_R_solveFrom F) 0 = bo_ild 1 2 := rfl
theorem l_R_solveFrom_1 {F : bh_Fn} : bh_tb (T_R_solveFrom F) 1 = bo_ald 2 0 := rfl
theorem l_R_solveFrom_2 {F : bh_Fn} : bh_tb (T_R_solveFrom F) 2 = bo_gI 5 15 3 := rfl
theorem l_R_solveFrom_5 {F : bh_Fn} : bh_tb (T_R_solveFrom F) 5 = bo_if2 8 10 (fun x y => x < y) := rfl
theorem l_R_solveFrom_8 {F : bh_Fn} : bh_tb (T_R_solveFrom F) 8 = bo_st 9 (bg_push (.inl (.int 1))) := rfl
theorem l_R_solveFrom_9 {F : bh_Fn} : bh_tb (T_R_solveFrom F) 9 = bo_zret 0 := rfl
theorem l_R_solveFrom_10 {F : bh_Fn} : bh_tb (T_R_solveFrom F) 10 = bo_ald 11 1 := rfl
theorem l_R_solveFrom_11 {F : bh_Fn} : bh_tb (T_R_solveFrom F) 11 = bo_ald 12 0 := rfl
theorem l_R_solveFrom_12 {F : bh_Fn} : bh_tb (T_R_solveFrom F) 12 = bo_gR 15 15 0 16 := rfl
theorem l_R_solveFrom_15 {F : bh_Fn} : bh_tb (T_R_solveFrom F) 15 = bo_ild 16 2 := rfl
theorem l_R_solveFrom_16 {F : bh_Fn} : bh_tb (T_R_solveFrom F) 16 = bo_Iald bh_ak bh_al 17 := rfl
theorem l_R_solveFrom_17 {F : bh_Fn} : bh_tb (T_R_solveFrom F) 17 = bo_Rald bh_ak bh_al 18 := rfl
theorem l_R_solveFrom_18 {F : bh_Fn} : bh_tb (T_R_solveFrom F) 18 = bo_ast 19 3 := rfl
theorem l_R_solveFrom_19 {F : bh_Fn} : bh_tb (T_R_solveFrom F) 19 = bo_ald 20 0 := rfl
theorem l_R_solveFrom_20 {F : bh_Fn} : bh_tb (T_R_solveFrom F) 20 = bo_gR 23 15 1 17 := rfl
theorem l_R_solveFrom_23 {F : bh_Fn} : bh_tb (T_R_solveFrom F) 23 = bo_ild 24 2 := rfl
theorem l_R_solveFrom_24 {F : bh_Fn} : bh_tb (T_R_solveFrom F) 24 = bo_Iald bh_ak bh_al 25 := rfl
theorem l_R_solveFrom_25 {F : bh_Fn} : bh_tb (T_R_solveFrom F) 25 = bo_ist 27 4 := rfl
theorem l_R_solveFrom_27 {F : bh_Fn} : bh_tb (T_R_solveFrom F) 27 = bo_ald 28 0 := rfl
theorem l_R_solveFrom_28 {F : bh_Fn} : bh_tb (T_R_solveFrom F) 28 = bo_gI 31 15 3 := rfl
theorem l_R_solveFrom_31 {F : bh_Fn} : bh_tb (T_R_solveFrom F) 31 = bo_ist 33 5 := rfl
theorem l_R_solveFrom_33 {F : bh_Fn} : bh_tb (T_R_solveFrom F) 33 = bo_st 34 (bg_push (.inl (.int (-1)))) := rfl
theorem l_R_solveFrom_34 {F : bh_Fn} : bh_tb (T_R_solveFrom F) 34 = bo_ist 36 6 := rfl
theorem l_R_solveFrom_36 {F : bh_Fn} : bh_tb (T_R_solveFrom F) 36 = bo_st 37 (bg_push (.inl (.int 0))) := rfl
theorem l_R_solveFrom_37 {F : bh_Fn} : bh_tb (T_R_solveFrom F) 37 = bo_ist 39 7 := rfl
theorem l_R_solveFrom_39 {F : bh_Fn} : bh_tb (T_R_solveFrom F) 39 = bo_ild 41 7 := rfl
theorem l_R_solveFrom_41 {F : bh_Fn} : bh_tb (T_R_solveFrom F) 41 = bo_st 43 (bg_push (.inl (.int 8))) := rfl
theorem l_R_solveFrom_43 {F : bh_Fn} : bh_tb (T_R_solveFrom F) 43 = bo_if2 46 213 (fun x y => y ≤ x) := rfl
theorem l_R_solveFrom_46 {F : bh_Fn} : bh_tb (T_R_solveFrom F) 46 = bo_ald 47 0 := rfl
theorem l_R_solveFrom_47 {F : bh_Fn} : bh_tb (T_R_solveFrom F) 47 = bo_gI 50 15 4 := rfl
theorem l_R_solveFrom_50 {F : bh_Fn} : bh_tb (T_R_solveFrom F) 50 = bo_st 53 (bg_push (.inl (.int 300))) := rfl
theorem l_R_solveFrom_53 {F : bh_Fn} : bh_tb (T_R_solveFrom F) 53 = bo_if2 56 213 (fun x y => y < x) := rfl
theorem l_R_solveFrom_56 {F : bh_Fn} : bh_tb (T_R_solveFrom F) 56 = bo_ald 57 0 := rfl
theorem l_R_solveFrom_57 {F : bh_Fn} : bh_tb (T_R_solveFrom F) 57 = bo_ild 59 6 := rfl
theorem l_R_solveFrom_59 {F : bh_Fn} : bh_tb (T_R_solveFrom F) 59 = bo_ald 60 1 := rfl
theorem l_R_solveFrom_60 {F : bh_Fn} : bh_tb (T_R_solveFrom F) 60 = bo_ald 61 3 := rfl
theorem l_R_solveFrom_61 {F : bh_Fn} : bh_tb (T_R_solveFrom F) 61 = bo_gR 64 5 1 7 := rfl
theorem l_R_solveFrom_64 {F : bh_Fn} : bh_tb (T_R_solveFrom F) 64 = bo_ild 66 4 := rfl
theorem l_R_solveFrom_66 {F : bh_Fn} : bh_tb (T_R_solveFrom F) 66 = bo_st 67 (bg_push (.inl (.int 0))) := rfl
theorem l_R_solveFrom_67 {F : bh_Fn} : bh_tb (T_R_solveFrom F) 67 = bo_callV 70 6 0 0 15 F_R_candidateAfter := rfl
theorem l_R_solveFrom_70 {F : bh_Fn} : bh_tb (T_R_solveFrom F) 70 = bo_ist 72 6 := rfl
theorem l_R_solveFrom_72 {F : bh_Fn} : bh_tb (T_R_solveFrom F) 72 = bo_ild 74 6 := rfl
theorem l_R_solveFrom_74 {F : bh_Fn} : bh_tb (T_R_solveFrom F) 74 = bo_st 77 (bg_push (.inl (.int 160))) := rfl
theorem l_R_solveFrom_77 {F : bh_Fn} : bh_tb (T_R_solveFrom F) 77 = bo_if2 80 82 (fun x y => ¬ x = y) := rfl
theorem l_R_solveFrom_80 {F : bh_Fn} : bh_tb (T_R_solveFrom F) 80 = bo_st 81 (bg_push (.inl (.int 0))) := rfl
theorem l_R_solveFrom_81 {F : bh_Fn} : bh_tb (T_R_solveFrom F) 81 = bo_zret 0 := rfl
theorem l_R_solveFrom_82 {F : bh_Fn} : bh_tb (T_R_solveFrom F) 82 = bo_ald 83 0 := rfl
theorem l_R_solveFrom_83 {F : bh_Fn} : bh_tb (T_R_solveFrom F) 83 = bo_st 84 bg_dup := rfl
theorem l_R_solveFrom_84 {F : bh_Fn} : bh_tb (T_R_solveFrom F) 84 = bo_gI 87 15 4 := rfl
theorem l_R_solveFrom_87 {F : bh_Fn} : bh_tb (T_R_solveFrom F) 87 = bo_st 88 (bg_push (.inl (.int 1))) := rfl
theorem l_R_solveFrom_88 {F : bh_Fn} : bh_tb (T_R_solveFrom F) 88 = bo_st 89 (bg_ii (fun x y => x + y)) := rfl
theorem l_R_solveFrom_89 {F : bh_Fn} : bh_tb (T_R_solveFrom F) 89 = bo_pI 92 15 4 := rfl
theorem l_R_solveFrom_92 {F : bh_Fn} : bh_tb (T_R_solveFrom F) 92 = bo_ald 93 0 := rfl
theorem l_R_solveFrom_93 {F : bh_Fn} : bh_tb (T_R_solveFrom F) 93 = bo_gI 96 15 4 := rfl
theorem l_R_solveFrom_96 {F : bh_Fn} : bh_tb (T_R_solveFrom F) 96 = bo_st 99 (bg_push (.inl (.int 300))) := rfl
theorem l_R_solveFrom_99 {F : bh_Fn} : bh_tb (T_R_solveFrom F) 99 = bo_if2 102 104 (fun x y => x ≤ y) := rfl
theorem l_R_solveFrom_102 {F : bh_Fn} : bh_tb (T_R_solveFrom F) 102 = bo_st 103 (bg_push (.inl (.int 0))) := rfl
theorem l_R_solveFrom_103 {F : bh_Fn} : bh_tb (T_R_solveFrom F) 103 = bo_zret 0 := rfl
theorem l_R_solveFrom_104 {F : bh_Fn} : bh_tb (T_R_solveFrom F) 104 = bo_ald 105 1 := rfl
theorem l_R_solveFrom_105 {F : bh_Fn} : bh_tb (T_R_solveFrom F) 105 = bo_ild 107 6 := rfl
theorem l_R_solveFrom_107 {F : bh_Fn} : bh_tb (T_R_solveFrom F) 107 = bo_st 109 (bg_push (.inl (.int 8))) := rfl
theorem l_R_solveFrom_109 {F : bh_Fn} : bh_tb (T_R_solveFrom F) 109 = bo_st 110 (bg_dv (fun x y => x - x / y * y)) := rfl
theorem l_R_solveFrom_110 {F : bh_Fn} : bh_tb (T_R_solveFrom F) 110 = bo_Rald bh_ak bh_al 111 := rfl
theorem l_R_solveFrom_111 {F : bh_Fn} : bh_tb (T_R_solveFrom F) 111 = bo_ast 113 8 := rfl
theorem l_R_solveFrom_113 {F : bh_Fn} : bh_tb (T_R_solveFrom F) 113 = bo_ald 114 3 := rfl
theorem l_R_solveFrom_114 {F : bh_Fn} : bh_tb (T_R_solveFrom F) 114 = bo_gR 117 5 2 6 := rfl
theorem l_R_solveFrom_117 {F : bh_Fn} : bh_tb (T_R_solveFrom F) 117 = bo_ild 119 4 := rfl
theorem l_R_solveFrom_119 {F : bh_Fn} : bh_tb (T_R_solveFrom F) 119 = bo_ald 121 8 := rfl
theorem l_R_solveFrom_121 {F : bh_Fn} : bh_tb (T_R_solveFrom F) 121 = bo_gI 124 5 9 := rfl
theorem l_R_solveFrom_124 {F : bh_Fn} : bh_tb (T_R_solveFrom F) 124 = bo_Iast bh_ak bh_al 125 := rfl
theorem l_R_solveFrom_125 {F : bh_Fn} : bh_tb (T_R_solveFrom F) 125 = bo_ald 127 8 := rfl
theorem l_R_solveFrom_127 {F : bh_Fn} : bh_tb (T_R_solveFrom F) 127 = bo_gI 130 5 3 := rfl
theorem l_R_solveFrom_130 {F : bh_Fn} : bh_tb (T_R_solveFrom F) 130 = bo_st 131 (bg_push (.inl (.int 1))) := rfl
theorem l_R_solveFrom_131 {F : bh_Fn} : bh_tb (T_R_solveFrom F) 131 = bo_if2 134 151 (fun x y => ¬ x = y) := rfl
theorem l_R_solveFrom_134 {F : bh_Fn} : bh_tb (T_R_solveFrom F) 134 = bo_ald 135 0 := rfl
theorem l_R_solveFrom_135 {F : bh_Fn} : bh_tb (T_R_solveFrom F) 135 = bo_gR 138 15 2 18 := rfl
theorem l_R_solveFrom_138 {F : bh_Fn} : bh_tb (T_R_solveFrom F) 138 = bo_ald 140 8 := rfl
theorem l_R_solveFrom_140 {F : bh_Fn} : bh_tb (T_R_solveFrom F) 140 = bo_gI 143 5 0 := rfl
theorem l_R_solveFrom_143 {F : bh_Fn} : bh_tb (T_R_solveFrom F) 143 = bo_Zald bh_ak bh_al 144 := rfl
theorem l_R_solveFrom_144 {F : bh_Fn} : bh_tb (T_R_solveFrom F) 144 = bo_if1 147 151 (fun x => ¬ x = 0) := rfl
theorem l_R_solveFrom_147 {F : bh_Fn} : bh_tb (T_R_solveFrom F) 147 = bo_st 148 (bg_push (.inl (.int 1))) := rfl
theorem l_R_solveFrom_148 {F : bh_Fn} : bh_tb (T_R_solveFrom F) 148 = bo_go 152 := rfl
theorem l_R_solveFrom_151 {F : bh_Fn} : bh_tb (T_R_solveFrom F) 151 = bo_st 152 (bg_push (.inl (.int 0))) := rfl
theorem l_R_solveFrom_152 {F : bh_Fn} : bh_tb (T_R_solveFrom F) 152 = bo_ist 154 9 := rfl
theorem l_R_solveFrom_154 {F : bh_Fn} : bh_tb (T_R_solveFrom F) 154 = bo_ild 156 9 := rfl
theorem l_R_solveFrom_156 {F : bh_Fn} : bh_tb (T_R_solveFrom F) 156 = bo_if1 159 165 (fun x => x = 0) := rfl
theorem l_R_solveFrom_159 {F : bh_Fn} : bh_tb (T_R_solveFrom F) 159 = bo_ald 160 0 := rfl
theorem l_R_solveFrom_160 {F : bh_Fn} : bh_tb (T_R_solveFrom F) 160 = bo_ald 162 8 := rfl
theorem l_R_solveFrom_162 {F : bh_Fn} : bh_tb (T_R_solveFrom F) 162 = bo_callV 165 2 0 0 15 F_R_takeIn := rfl
theorem l_R_solveFrom_165 {F : bh_Fn} : bh_tb (T_R_solveFrom F) 165 = bo_ald 166 0 := rfl
theorem l_R_solveFrom_166 {F : bh_Fn} : bh_tb (T_R_solveFrom F) 166 = bo_ald 167 1 := rfl
theorem l_R_solveFrom_167 {F : bh_Fn} : bh_tb (T_R_solveFrom F) 167 = bo_callV 170 2 0 0 15 F_R_hasClash := rfl
theorem l_R_solveFrom_170 {F : bh_Fn} : bh_tb (T_R_solveFrom F) 170 = bo_if1 173 186 (fun x => ¬ x = 0) := rfl
theorem l_R_solveFrom_173 {F : bh_Fn} : bh_tb (T_R_solveFrom F) 173 = bo_ald 174 0 := rfl
theorem l_R_solveFrom_174 {F : bh_Fn} : bh_tb (T_R_solveFrom F) 174 = bo_ald 175 1 := rfl
theorem l_R_solveFrom_175 {F : bh_Fn} : bh_tb (T_R_solveFrom F) 175 = bo_ild 176 2 := rfl
theorem l_R_solveFrom_176 {F : bh_Fn} : bh_tb (T_R_solveFrom F) 176 = bo_st 177 (bg_push (.inl (.int 1))) := rfl
theorem l_R_solveFrom_177 {F : bh_Fn} : bh_tb (T_R_solveFrom F) 177 = bo_st 178 (bg_ii (fun x y => x + y)) := rfl
theorem l_R_solveFrom_178 {F : bh_Fn} : bh_tb (T_R_solveFrom F) 178 = bo_callV 181 3 0 0 15 F := rfl
theorem l_R_solveFrom_181 {F : bh_Fn} : bh_tb (T_R_solveFrom F) 181 = bo_if1 184 186 (fun x => x = 0) := rfl
theorem l_R_solveFrom_184 {F : bh_Fn} : bh_tb (T_R_solveFrom F) 184 = bo_st 185 (bg_push (.inl (.int 1))) := rfl
theorem l_R_solveFrom_185 {F : bh_Fn} : bh_tb (T_R_solveFrom F) 185 = bo_zret 0 := rfl
theorem l_R_solveFrom_186 {F : bh_Fn} : bh_tb (T_R_solveFrom F) 186 = bo_ald 187 3 := rfl
theorem l_R_solveFrom_187 {F : bh_Fn} : bh_tb (T_R_solveFrom F) 187 = bo_gR 190 5 2 6 := rfl
theorem l_R_solveFrom_190 {F : bh_Fn} : bh_tb (T_R_solveFrom F) 190 = bo_ild 192 4 := rfl
theorem l_R_solveFrom_192 {F : bh_Fn} : bh_tb (T_R_solveFrom F) 192 = bo_st 193 (bg_push (.inl (.int (-1)))) := rfl
theorem l_R_solveFrom_193 {F : bh_Fn} : bh_tb (T_R_solveFrom F) 193 = bo_Iast bh_ak bh_al 194 := rfl
theorem l_R_solveFrom_194 {F : bh_Fn} : bh_tb (T_R_solveFrom F) 194 = bo_ild 196 9 := rfl
theorem l_R_solveFrom_196 {F : bh_Fn} : bh_tb (T_R_solveFrom F) 196 = bo_if1 199 207 (fun x => x = 0) := rfl
theorem l_R_solveFrom_199 {F : bh_Fn} : bh_tb (T_R_solveFrom F) 199 = bo_ald 200 0 := rfl
theorem l_R_solveFrom_200 {F : bh_Fn} : bh_tb (T_R_solveFrom F) 200 = bo_ald 202 8 := rfl
theorem l_R_solveFrom_202 {F : bh_Fn} : bh_tb (T_R_solveFrom F) 202 = bo_ild 204 5 := rfl
theorem l_R_solveFrom_204 {F : bh_Fn} : bh_tb (T_R_solveFrom F) 204 = bo_callV 207 3 0 0 15 F_R_putOut := rfl
theorem l_R_solveFrom_207 {F : bh_Fn} : bh_tb (T_R_solveFrom F) 207 = bo_inc 210 7 1 := rfl
theorem l_R_solveFrom_210 {F : bh_Fn} : bh_tb (T_R_solveFrom F) 210 = bo_go 39 := rfl
theorem l_R_solveFrom_213 {F : bh_Fn} : bh_tb (T_R_solveFrom F) 213 = bo_st 214 (bg_push (.inl (.int 0))) := rfl
theorem l_R_solveFrom_214 {F : bh_Fn} : bh_tb (T_R_solveFrom F) 214 = bo_zret 0 := rfl
theorem l_R_wireOptional_0 : bh_tb T_R_wireOptional 0 = bo_st 1 (bg_push (.inl (.int (-1)))) := rfl
theorem l_R_wireOptional_1 : bh_tb T_R_wireOptional 1 = bo_ist 3 4 := rfl
theorem l_R_wireOptional_3 : bh_tb T_R_wireOptional 3 = bo_st 4 (bg_push (.inl (.int 0))) := rfl
theorem l_R_wireOptional_4 : bh_tb T_R_wireOptional 4 = bo_ist 6 5 := rfl
theorem l_R_wireOptional_6 : bh_tb T_R_wireOptional 6 = bo_ild 8 5 := rfl
theorem l_R_wireOptional_8 : bh_tb T_R_wireOptional 8 = bo_st 10 (bg_push (.inl (.int 8))) := rfl
theorem l_R_wireOptional_10 : bh_tb T_R_wireOptional 10 = bo_if2 13 75 (fun x y => y ≤ x) := rfl
theorem l_R_wireOptional_13 : bh_tb T_R_wireOptional 13 = bo_ald 14 0 := rfl
theorem l_R_wireOptional_14 : bh_tb T_R_wireOptional 14 = bo_ild 16 4 := rfl
theorem l_R_wireOptional_16 : bh_tb T_R_wireOptional 16 = bo_ald 17 1 := rfl
theorem l_R_wireOptional_17 : bh_tb T_R_wireOptional 17 = bo_ald 18 2 := rfl
theorem l_R_wireOptional_18 : bh_tb T_R_wireOptional 18 = bo_gR 21 5 1 7 := rfl
theorem l_R_wireOptional_21 : bh_tb T_R_wireOptional 21 = bo_ild 22 3 := rfl
theorem l_R_wireOptional_22 : bh_tb T_R_wireOptional 22 = bo_st 23 (bg_push (.inl (.int 1))) := rfl
theorem l_R_wireOptional_23 : bh_tb T_R_wireOptional 23 = bo_callV 26 6 0 0 15 F_R_candidateAfter := rfl
theorem l_R_wireOptional_26 : bh_tb T_R_wireOptional 26 = bo_ist 28 4 := rfl
theorem l_R_wireOptional_28 : bh_tb T_R_wireOptional 28 = bo_ild 30 4 := rfl
theorem l_R_wireOptional_30 : bh_tb T_R_wireOptional 30 = bo_st 33 (bg_push (.inl (.int 160))) := rfl
theorem l_R_wireOptional_33 : bh_tb T_R_wireOptional 33 = bo_if2 36 37 (fun x y => ¬ x = y) := rfl
theorem l_R_wireOptional_36 : bh_tb T_R_wireOptional 36 = bo_vret 0 := rfl
theorem l_R_wireOptional_37 : bh_tb T_R_wireOptional 37 = bo_ald 38 2 := rfl
theorem l_R_wireOptional_38 : bh_tb T_R_wireOptional 38 = bo_gR 41 5 2 6 := rfl
theorem l_R_wireOptional_41 : bh_tb T_R_wireOptional 41 = bo_ild 42 3 := rfl
theorem l_R_wireOptional_42 : bh_tb T_R_wireOptional 42 = bo_ald 43 1 := rfl
theorem l_R_wireOptional_43 : bh_tb T_R_wireOptional 43 = bo_ild 45 4 := rfl
theorem l_R_wireOptional_45 : bh_tb T_R_wireOptional 45 = bo_st 47 (bg_push (.inl (.int 8))) := rfl
theorem l_R_wireOptional_47 : bh_tb T_R_wireOptional 47 = bo_st 48 (bg_dv (fun x y => x - x / y * y)) := rfl
theorem l_R_wireOptional_48 : bh_tb T_R_wireOptional 48 = bo_Rald bh_ak bh_al 49 := rfl
theorem l_R_wireOptional_49 : bh_tb T_R_wireOptional 49 = bo_gI 52 5 9 := rfl
theorem l_R_wireOptional_52 : bh_tb T_R_wireOptional 52 = bo_Iast bh_ak bh_al 53 := rfl
theorem l_R_wireOptional_53 : bh_tb T_R_wireOptional 53 = bo_ald 54 0 := rfl
theorem l_R_wireOptional_54 : bh_tb T_R_wireOptional 54 = bo_ald 55 1 := rfl
theorem l_R_wireOptional_55 : bh_tb T_R_wireOptional 55 = bo_callV 58 2 0 0 15 F_R_hasClash := rfl
theorem l_R_wireOptional_58 : bh_tb T_R_wireOptional 58 = bo_if1 61 62 (fun x => ¬ x = 0) := rfl
theorem l_R_wireOptional_61 : bh_tb T_R_wireOptional 61 = bo_vret 0 := rfl
theorem l_R_wireOptional_62 : bh_tb T_R_wireOptional 62 = bo_ald 63 2 := rfl
theorem l_R_wireOptional_63 : bh_tb T_R_wireOptional 63 = bo_gR 66 5 2 6 := rfl
theorem l_R_wireOptional_66 : bh_tb T_R_wireOptional 66 = bo_ild 67 3 := rfl
theorem l_R_wireOptional_67 : bh_tb T_R_wireOptional 67 = bo_st 68 (bg_push (.inl (.int (-1)))) := rfl
theorem l_R_wireOptional_68 : bh_tb T_R_wireOptional 68 = bo_Iast bh_ak bh_al 69 := rfl
theorem l_R_wireOptional_69 : bh_tb T_R_wireOptional 69 = bo_inc 72 5 1 := rfl
theorem l_R_wireOptional_72 : bh_tb T_R_wireOptional 72 = bo_go 6 := rfl
theorem l_R_wireOptional_75 : bh_tb T_R_wireOptional 75 = bo_vret 0 := rfl
theorem l_R_settle_0 : bh_tb T_R_settle 0 = bo_st 1 (bg_push (.inl (.int 0))) := rfl
theorem l_R_settle_1 : bh_tb T_R_settle 1 = bo_ist 2 2 := rfl
theorem l_R_settle_2 : bh_tb T_R_settle 2 = bo_ild 3 2 := rfl
theorem l_R_settle_3 : bh_tb T_R_settle 3 = bo_st 5 (bg_push (.inl (.int 8))) := rfl
theorem l_R_settle_5 : bh_tb T_R_settle 5 = bo_if2 8 30 (fun x y => y ≤ x) := rfl
theorem l_R_settle_8 : bh_tb T_R_settle 8 = bo_ald 9 0 := rfl
theorem l_R_settle_9 : bh_tb T_R_settle 9 = bo_gR 12 15 2 18 := rfl
theorem l_R_settle_12 : bh_tb T_R_settle 12 = bo_ild 13 2 := rfl
theorem l_R_settle_13 : bh_tb T_R_settle 13 = bo_Zald bh_ak bh_al 14 := rfl
theorem l_R_settle_14 : bh_tb T_R_settle 14 = bo_if1 17 24 (fun x => x = 0) := rfl
theorem l_R_settle_17 : bh_tb T_R_settle 17 = bo_ald 18 1 := rfl
theorem l_R_settle_18 : bh_tb T_R_settle 18 = bo_ild 19 2 := rfl
theorem l_R_settle_19 : bh_tb T_R_settle 19 = bo_Rald bh_ak bh_al 20 := rfl
theorem l_R_settle_20 : bh_tb T_R_settle 20 = bo_st 21 (bg_push (.inl (.int 2))) := rfl
theorem l_R_settle_21 : bh_tb T_R_settle 21 = bo_pI 24 5 3 := rfl
theorem l_R_settle_24 : bh_tb T_R_settle 24 = bo_inc 27 2 1 := rfl
theorem l_R_settle_27 : bh_tb T_R_settle 27 = bo_go 2 := rfl
theorem l_R_settle_30 : bh_tb T_R_settle 30 = bo_st 31 (bg_push (.inl (.int 0))) := rfl
theorem l_R_settle_31 : bh_tb T_R_settle 31 = bo_ist 32 2 := rfl
theorem l_R_settle_32 : bh_tb T_R_settle 32 = bo_ild 33 2 := rfl
theorem l_R_settle_33 : bh_tb T_R_settle 33 = bo_st 35 (bg_push (.inl (.int 8))) := rfl
theorem l_R_settle_35 : bh_tb T_R_settle 35 = bo_if2 38 99 (fun x y => y ≤ x) := rfl
theorem l_R_settle_38 : bh_tb T_R_settle 38 = bo_ald 39 1 := rfl
theorem l_R_settle_39 : bh_tb T_R_settle 39 = bo_ild 40 2 := rfl
theorem l_R_settle_40 : bh_tb T_R_settle 40 = bo_Rald bh_ak bh_al 41 := rfl
theorem l_R_settle_41 : bh_tb T_R_settle 41 = bo_ast 42 3 := rfl
theorem l_R_settle_42 : bh_tb T_R_settle 42 = bo_st 43 (bg_push (.inl (.int 0))) := rfl
theorem l_R_settle_43 : bh_tb T_R_settle 43 = bo_ist 45 4 := rfl
theorem l_R_settle_45 : bh_tb T_R_settle 45 = bo_ald 46 0 := rfl
theorem l_R_settle_46 : bh_tb T_R_settle 46 = bo_gR 49 15 2 18 := rfl
theorem l_R_settle_49 : bh_tb T_R_settle 49 = bo_ild 50 2 := rfl
theorem l_R_settle_50 : bh_tb T_R_settle 50 = bo_Zald bh_ak bh_al 51 := rfl
theorem l_R_settle_51 : bh_tb T_R_settle 51 = bo_if1 54 93 (fun x => x = 0) := rfl
theorem l_R_settle_54 : bh_tb T_R_settle 54 = bo_ild 56 4 := rfl
theorem l_R_settle_56 : bh_tb T_R_settle 56 = bo_ald 57 3 := rfl
theorem l_R_settle_57 : bh_tb T_R_settle 57 = bo_gR 60 5 1 7 := rfl
theorem l_R_settle_60 : bh_tb T_R_settle 60 = bo_gI 63 7 8 := rfl
theorem l_R_settle_63 : bh_tb T_R_settle 63 = bo_if2 66 93 (fun x y => y ≤ x) := rfl
theorem l_R_settle_66 : bh_tb T_R_settle 66 = bo_ald 67 3 := rfl
theorem l_R_settle_67 : bh_tb T_R_settle 67 = bo_gR 70 5 1 7 := rfl
theorem l_R_settle_70 : bh_tb T_R_settle 70 = bo_gR 73 7 6 14 := rfl
theorem l_R_settle_73 : bh_tb T_R_settle 73 = bo_ild 75 4 := rfl
theorem l_R_settle_75 : bh_tb T_R_settle 75 = bo_Zald bh_ak bh_al 76 := rfl
theorem l_R_settle_76 : bh_tb T_R_settle 76 = bo_if1 79 87 (fun x => x = 0) := rfl
theorem l_R_settle_79 : bh_tb T_R_settle 79 = bo_ald 80 0 := rfl
theorem l_R_settle_80 : bh_tb T_R_settle 80 = bo_ald 81 1 := rfl
theorem l_R_settle_81 : bh_tb T_R_settle 81 = bo_ald 82 3 := rfl
theorem l_R_settle_82 : bh_tb T_R_settle 82 = bo_ild 84 4 := rfl
theorem l_R_settle_84 : bh_tb T_R_settle 84 = bo_callV 87 4 0 0 15 F_R_wireOptional := rfl
theorem l_R_settle_87 : bh_tb T_R_settle 87 = bo_inc 90 4 1 := rfl
theorem l_R_settle_90 : bh_tb T_R_settle 90 = bo_go 45 := rfl
theorem l_R_settle_93 : bh_tb T_R_settle 93 = bo_inc 96 2 1 := rfl
theorem l_R_settle_96 : bh_tb T_R_settle 96 = bo_go 32 := rfl
theorem l_R_settle_99 : bh_tb T_R_settle 99 = bo_vret 0 := rfl
theorem l_R_run_0 : bh_tb T_R_run 0 = bo_st 1 (bg_push (.inl (.int 0))) := rfl
theorem l_R_run_1 : bh_tb T_R_run 1 = bo_ist 2 3 := rfl
theorem l_R_run_2 : bh_tb T_R_run 2 = bo_ild 3 3 := rfl
theorem l_R_run_3 : bh_tb T_R_run 3 = bo_st 5 (bg_push (.inl (.int 8))) := rfl
theorem l_R_run_5 : bh_tb T_R_run 5 = bo_if2 8 21 (fun x y => y ≤ x) := rfl
theorem l_R_run_8 : bh_tb T_R_run 8 = bo_ald 9 0 := rfl
theorem l_R_run_9 : bh_tb T_R_run 9 = bo_gR 12 15 2 18 := rfl
theorem l_R_run_12 : bh_tb T_R_run 12 = bo_ild 13 3 := rfl
theorem l_R_run_13 : bh_tb T_R_run 13 = bo_st 14 (bg_push (.inl (.int 0))) := rfl
theorem l_R_run_14 : bh_tb T_R_run 14 = bo_Zast bh_ak bh_al 15 := rfl
theorem l_R_run_15 : bh_tb T_R_run 15 = bo_inc 18 3 1 := rfl
theorem l_R_run_18 : bh_tb T_R_run 18 = bo_go 2 := rfl
theorem l_R_run_21 : bh_tb T_R_run 21 = bo_ald 22 0 := rfl
theorem l_R_run_22 : bh_tb T_R_run 22 = bo_st 23 (bg_push (.inl (.int 0))) := rfl
theorem l_R_run_23 : bh_tb T_R_run 23 = bo_pI 26 15 3 := rfl
theorem l_R_run_26 : bh_tb T_R_run 26 = bo_ald 27 0 := rfl
theorem l_R_run_27 : bh_tb T_R_run 27 = bo_st 28 (bg_push (.inl (.int 0))) := rfl
theorem l_R_run_28 : bh_tb T_R_run 28 = bo_pI 31 15 4 := rfl
theorem l_R_run_31 : bh_tb T_R_run 31 = bo_ald 32 0 := rfl
theorem l_R_run_32 : bh_tb T_R_run 32 = bo_st 33 (bg_push (.inl (.int 0))) := rfl
theorem l_R_run_33 : bh_tb T_R_run 33 = bo_pI 36 15 5 := rfl
theorem l_R_run_36 : bh_tb T_R_run 36 = bo_ald 37 0 := rfl
theorem l_R_run_37 : bh_tb T_R_run 37 = bo_ald 38 1 := rfl
theorem l_R_run_38 : bh_tb T_R_run 38 = bo_ald 39 2 := rfl
theorem l_R_run_39 : bh_tb T_R_run 39 = bo_callV 42 3 0 0 15 F_R_nameIsTaken := rfl
theorem l_R_run_42 : bh_tb T_R_run 42 = bo_if1 45 49 (fun x => x = 0) := rfl
theorem l_R_run_45 : bh_tb T_R_run 45 = bo_st 48 (bg_push (.inr (2, 2))) := rfl
theorem l_R_run_48 : bh_tb T_R_run 48 = bo_aret 0 := rfl
theorem l_R_run_49 : bh_tb T_R_run 49 = bo_ald 50 0 := rfl
theorem l_R_run_50 : bh_tb T_R_run 50 = bo_ald 51 2 := rfl
theorem l_R_run_51 : bh_tb T_R_run 51 = bo_callV 54 2 0 0 15 F_R_takeIn := rfl
theorem l_R_run_54 : bh_tb T_R_run 54 = bo_ald 55 0 := rfl
theorem l_R_run_55 : bh_tb T_R_run 55 = bo_ald 56 1 := rfl
theorem l_R_run_56 : bh_tb T_R_run 56 = bo_st 57 (bg_push (.inl (.int 0))) := rfl
theorem l_R_run_57 : bh_tb T_R_run 57 = bo_callV 60 3 0 0 15 (F_R_solveFrom 26) := rfl
theorem l_R_run_60 : bh_tb T_R_run 60 = bo_if1 63 88 (fun x => ¬ x = 0) := rfl
theorem l_R_run_63 : bh_tb T_R_run 63 = bo_ald 64 0 := rfl
theorem l_R_run_64 : bh_tb T_R_run 64 = bo_st 65 (bg_push (.inl (.int 0))) := rfl
theorem l_R_run_65 : bh_tb T_R_run 65 = bo_pI 68 15 5 := rfl
theorem l_R_run_68 : bh_tb T_R_run 68 = bo_ald 69 0 := rfl
theorem l_R_run_69 : bh_tb T_R_run 69 = bo_gI 72 15 4 := rfl
theorem l_R_run_72 : bh_tb T_R_run 72 = bo_st 75 (bg_push (.inl (.int 300))) := rfl
theorem l_R_run_75 : bh_tb T_R_run 75 = bo_if2 78 84 (fun x y => x ≤ y) := rfl
theorem l_R_run_78 : bh_tb T_R_run 78 = bo_st 81 (bg_push (.inr (2, 3))) := rfl
theorem l_R_run_81 : bh_tb T_R_run 81 = bo_go 87 := rfl
theorem l_R_run_84 : bh_tb T_R_run 84 = bo_st 87 (bg_push (.inr (2, 2))) := rfl
theorem l_R_run_87 : bh_tb T_R_run 87 = bo_aret 0 := rfl
theorem l_R_run_88 : bh_tb T_R_run 88 = bo_ald 89 0 := rfl
theorem l_R_run_89 : bh_tb T_R_run 89 = bo_ald 90 1 := rfl
theorem l_R_run_90 : bh_tb T_R_run 90 = bo_callV 93 2 0 0 15 F_R_settle := rfl
theorem l_R_run_93 : bh_tb T_R_run 93 = bo_st 96 (bg_push (.inr (2, 1))) := rfl
theorem l_R_run_96 : bh_tb T_R_run 96 = bo_aret 0 := rfl
theorem l_V_isFull_0 : bh_tb T_V_isFull 0 = bo_ald 1 0 := rfl
theorem l_V_isFull_1 : bh_tb T_V_isFull 1 = bo_gI 4 19 1 := rfl
theorem l_V_isFull_4 : bh_tb T_V_isFull 4 = bo_st 6 (bg_push (.inl (.int 20))) := rfl
theorem l_V_isFull_6 : bh_tb T_V_isFull 6 = bo_if2 9 13 (fun x y => x < y) := rfl
theorem l_V_isFull_9 : bh_tb T_V_isFull 9 = bo_st 10 (bg_push (.inl (.int 1))) := rfl
theorem l_V_isFull_10 : bh_tb T_V_isFull 10 = bo_go 14 := rfl
theorem l_V_isFull_13 : bh_tb T_V_isFull 13 = bo_st 14 (bg_push (.inl (.int 0))) := rfl
theorem l_V_isFull_14 : bh_tb T_V_isFull 14 = bo_zret 0 := rfl
theorem l_V_add_0 : bh_tb T_V_add 0 = bo_ald 1 0 := rfl
theorem l_V_add_1 : bh_tb T_V_add 1 = bo_gR 4 19 0 20 := rfl
theorem l_V_add_4 : bh_tb T_V_add 4 = bo_ald 5 0 := rfl
theorem l_V_add_5 : bh_tb T_V_add 5 = bo_gI 8 19 1 := rfl
theorem l_V_add_8 : bh_tb T_V_add 8 = bo_Rald bh_ak bh_al 9 := rfl
theorem l_V_add_9 : bh_tb T_V_add 9 = bo_ast 11 5 := rfl
theorem l_V_add_11 : bh_tb T_V_add 11 = bo_ald 13 5 := rfl
theorem l_V_add_13 : bh_tb T_V_add 13 = bo_ald 14 0 := rfl
theorem l_V_add_14 : bh_tb T_V_add 14 = bo_gI 17 19 2 := rfl
theorem l_V_add_17 : bh_tb T_V_add 17 = bo_pI 20 21 1 := rfl
theorem l_V_add_20 : bh_tb T_V_add 20 = bo_ald 22 5 := rfl
theorem l_V_add_22 : bh_tb T_V_add 22 = bo_ild 23 1 := rfl
theorem l_V_add_23 : bh_tb T_V_add 23 = bo_pI 26 21 2 := rfl
theorem l_V_add_26 : bh_tb T_V_add 26 = bo_ald 28 5 := rfl
theorem l_V_add_28 : bh_tb T_V_add 28 = bo_ild 29 2 := rfl
theorem l_V_add_29 : bh_tb T_V_add 29 = bo_pI 32 21 3 := rfl
theorem l_V_add_32 : bh_tb T_V_add 32 = bo_ald 34 5 := rfl
theorem l_V_add_34 : bh_tb T_V_add 34 = bo_dld 35 3 := rfl
theorem l_V_add_35 : bh_tb T_V_add 35 = bo_pD 38 21 4 := rfl
theorem l_V_add_38 : bh_tb T_V_add 38 = bo_ald 40 5 := rfl
theorem l_V_add_40 : bh_tb T_V_add 40 = bo_gR 43 21 0 22 := rfl
theorem l_V_add_43 : bh_tb T_V_add 43 = bo_st 44 (bg_push (.inl (.int 0))) := rfl
theorem l_V_add_44 : bh_tb T_V_add 44 = bo_callS 47 2 0 0 F_A_fill := rfl
theorem l_V_add_47 : bh_tb T_V_add 47 = bo_ald 48 0 := rfl
theorem l_V_add_48 : bh_tb T_V_add 48 = bo_st 49 bg_dup := rfl
theorem l_V_add_49 : bh_tb T_V_add 49 = bo_gI 52 19 1 := rfl
theorem l_V_add_52 : bh_tb T_V_add 52 = bo_st 53 (bg_push (.inl (.int 1))) := rfl
theorem l_V_add_53 : bh_tb T_V_add 53 = bo_st 54 (bg_ii (fun x y => x + y)) := rfl
theorem l_V_add_54 : bh_tb T_V_add 54 = bo_pI 57 19 1 := rfl
theorem l_V_add_57 : bh_tb T_V_add 57 = bo_ald 58 0 := rfl
theorem l_V_add_58 : bh_tb T_V_add 58 = bo_st 59 bg_dup := rfl
theorem l_V_add_59 : bh_tb T_V_add 59 = bo_gI 62 19 2 := rfl
theorem l_V_add_62 : bh_tb T_V_add 62 = bo_st 63 (bg_push (.inl (.int 1))) := rfl
theorem l_V_add_63 : bh_tb T_V_add 63 = bo_st 64 (bg_ii (fun x y => x + y)) := rfl
theorem l_V_add_64 : bh_tb T_V_add 64 = bo_pI 67 19 2 := rfl
theorem l_V_add_67 : bh_tb T_V_add 67 = bo_ald 69 5 := rfl
theorem l_V_add_69 : bh_tb T_V_add 69 = bo_gI 72 21 1 := rfl
theorem l_V_add_72 : bh_tb T_V_add 72 = bo_iret 0 := rfl
theorem l_H_addService_0 : bh_tb T_H_addService 0 = bo_ald 1 0 := rfl
theorem l_H_addService_1 : bh_tb T_H_addService 1 = bo_gR 4 3 2 19 := rfl
theorem l_H_addService_4 : bh_tb T_H_addService 4 = bo_ild 5 1 := rfl
theorem l_H_addService_5 : bh_tb T_H_addService 5 = bo_ild 6 2 := rfl
theorem l_H_addService_6 : bh_tb T_H_addService 6 = bo_dld 7 3 := rfl
theorem l_H_addService_7 : bh_tb T_H_addService 7 = bo_callV 10 4 0 0 19 F_V_add := rfl
theorem l_H_addService_10 : bh_tb T_H_addService 10 = bo_ist 12 5 := rfl
theorem l_H_addService_12 : bh_tb T_H_addService 12 = bo_ald 13 0 := rfl
theorem l_H_addService_13 : bh_tb T_H_addService 13 = bo_gR 16 3 3 23 := rfl
theorem l_H_addService_16 : bh_tb T_H_addService 16 = bo_st 19 (bg_push (.inl (.int 300))) := rfl
theorem l_H_addService_19 : bh_tb T_H_addService 19 = bo_ild 21 5 := rfl
theorem l_H_addService_21 : bh_tb T_H_addService 21 = bo_st 23 (bg_push (.inl (.int 100))) := rfl
theorem l_H_addService_23 : bh_tb T_H_addService 23 = bo_st 24 (bg_dv (fun x y => x - x / y * y)) := rfl
theorem l_H_addService_24 : bh_tb T_H_addService 24 = bo_st 25 (bg_ii (fun x y => x + y)) := rfl
theorem l_H_addService_25 : bh_tb T_H_addService 25 = bo_callV 28 2 0 0 23 F_E_add := rfl
theorem l_H_addService_28 : bh_tb T_H_addService 28 = bo_ild 30 5 := rfl
theorem l_H_addService_30 : bh_tb T_H_addService 30 = bo_iret 0 := rfl
theorem l_H_activatorRegisters_0 : bh_tb T_H_activatorRegisters 0 = bo_ald 1 0 := rfl
theorem l_H_activatorRegisters_1 : bh_tb T_H_activatorRegisters 1 = bo_gR 4 3 2 19 := rfl
theorem l_H_activatorRegisters_4 : bh_tb T_H_activatorRegisters 4 = bo_callV 7 1 0 0 19 F_V_isFull := rfl
theorem l_H_activatorRegisters_7 : bh_tb T_H_activatorRegisters 7 = bo_if1 10 12 (fun x => x = 0) := rfl
theorem l_H_activatorRegisters_10 : bh_tb T_H_activatorRegisters 10 = bo_st 11 (bg_push (.inl (.int 0))) := rfl
theorem l_H_activatorRegisters_11 : bh_tb T_H_activatorRegisters 11 = bo_zret 0 := rfl
theorem l_H_activatorRegisters_12 : bh_tb T_H_activatorRegisters 12 = bo_ald 13 0 := rfl
theorem l_H_activatorRegisters_13 : bh_tb T_H_activatorRegisters 13 = bo_ild 14 1 := rfl
theorem l_H_activatorRegisters_14 : bh_tb T_H_activatorRegisters 14 = bo_st 15 (bg_push (.inl (.int 0))) := rfl
theorem l_H_activatorRegisters_15 : bh_tb T_H_activatorRegisters 15 = bo_ild 16 1 := rfl
theorem l_H_activatorRegisters_16 : bh_tb T_H_activatorRegisters 16 = bo_st 17 (bg_i1 (fun x => .inl (.double (FP.i2d x)))) := rfl
theorem l_H_activatorRegisters_17 : bh_tb T_H_activatorRegisters 17 = bo_callV 20 4 0 0 3 F_H_addService := rfl
theorem l_H_activatorRegisters_20 : bh_tb T_H_activatorRegisters 20 = bo_st 21 bg_pop := rfl
theorem l_H_activatorRegisters_21 : bh_tb T_H_activatorRegisters 21 = bo_st 22 (bg_push (.inl (.int 1))) := rfl
theorem l_H_activatorRegisters_22 : bh_tb T_H_activatorRegisters 22 = bo_zret 0 := rfl
theorem l_V_bestRow_0 : bh_tb T_V_bestRow 0 = bo_st 1 (bg_push (.inl (.int (-1)))) := rfl
theorem l_V_bestRow_1 : bh_tb T_V_bestRow 1 = bo_ist 2 2 := rfl
theorem l_V_bestRow_2 : bh_tb T_V_bestRow 2 = bo_st 3 (bg_push (.inl (.int 0))) := rfl
theorem l_V_bestRow_3 : bh_tb T_V_bestRow 3 = bo_ist 4 3 := rfl
theorem l_V_bestRow_4 : bh_tb T_V_bestRow 4 = bo_ild 5 3 := rfl
theorem l_V_bestRow_5 : bh_tb T_V_bestRow 5 = bo_ald 6 0 := rfl
theorem l_V_bestRow_6 : bh_tb T_V_bestRow 6 = bo_gI 9 19 1 := rfl
theorem l_V_bestRow_9 : bh_tb T_V_bestRow 9 = bo_if2 12 60 (fun x y => y ≤ x) := rfl
theorem l_V_bestRow_12 : bh_tb T_V_bestRow 12 = bo_ald 13 0 := rfl
theorem l_V_bestRow_13 : bh_tb T_V_bestRow 13 = bo_gR 16 19 0 20 := rfl
theorem l_V_bestRow_16 : bh_tb T_V_bestRow 16 = bo_ild 17 3 := rfl
theorem l_V_bestRow_17 : bh_tb T_V_bestRow 17 = bo_Rald bh_ak bh_al 18 := rfl
theorem l_V_bestRow_18 : bh_tb T_V_bestRow 18 = bo_gI 21 21 3 := rfl
theorem l_V_bestRow_21 : bh_tb T_V_bestRow 21 = bo_ild 22 1 := rfl
theorem l_V_bestRow_22 : bh_tb T_V_bestRow 22 = bo_if2 25 54 (fun x y => ¬ x = y) := rfl
theorem l_V_bestRow_25 : bh_tb T_V_bestRow 25 = bo_ild 26 2 := rfl
theorem l_V_bestRow_26 : bh_tb T_V_bestRow 26 = bo_st 27 (bg_push (.inl (.int (-1)))) := rfl
theorem l_V_bestRow_27 : bh_tb T_V_bestRow 27 = bo_if2 30 52 (fun x y => x = y) := rfl
theorem l_V_bestRow_30 : bh_tb T_V_bestRow 30 = bo_ald 31 0 := rfl
theorem l_V_bestRow_31 : bh_tb T_V_bestRow 31 = bo_gR 34 19 0 20 := rfl
theorem l_V_bestRow_34 : bh_tb T_V_bestRow 34 = bo_ild 35 3 := rfl
theorem l_V_bestRow_35 : bh_tb T_V_bestRow 35 = bo_Rald bh_ak bh_al 36 := rfl
theorem l_V_bestRow_36 : bh_tb T_V_bestRow 36 = bo_gD 39 21 4 := rfl
theorem l_V_bestRow_39 : bh_tb T_V_bestRow 39 = bo_ald 40 0 := rfl
theorem l_V_bestRow_40 : bh_tb T_V_bestRow 40 = bo_gR 43 19 0 20 := rfl
theorem l_V_bestRow_43 : bh_tb T_V_bestRow 43 = bo_ild 44 2 := rfl
theorem l_V_bestRow_44 : bh_tb T_V_bestRow 44 = bo_Rald bh_ak bh_al 45 := rfl
theorem l_V_bestRow_45 : bh_tb T_V_bestRow 45 = bo_gD 48 21 4 := rfl
theorem l_V_bestRow_48 : bh_tb T_V_bestRow 48 = bo_st 49 (bg_dc (fun x y => Op.cmpValue (FP.dcmp x y) .l)) := rfl
theorem l_V_bestRow_49 : bh_tb T_V_bestRow 49 = bo_if1 52 54 (fun x => x ≤ 0) := rfl
theorem l_V_bestRow_52 : bh_tb T_V_bestRow 52 = bo_ild 53 3 := rfl
theorem l_V_bestRow_53 : bh_tb T_V_bestRow 53 = bo_ist 54 2 := rfl
theorem l_V_bestRow_54 : bh_tb T_V_bestRow 54 = bo_inc 57 3 1 := rfl
theorem l_V_bestRow_57 : bh_tb T_V_bestRow 57 = bo_go 4 := rfl
theorem l_V_bestRow_60 : bh_tb T_V_bestRow 60 = bo_ild 61 2 := rfl
theorem l_V_bestRow_61 : bh_tb T_V_bestRow 61 = bo_iret 0 := rfl
theorem l_H_activatorGets_0 : bh_tb T_H_activatorGets 0 = bo_ald 1 0 := rfl
theorem l_H_activatorGets_1 : bh_tb T_H_activatorGets 1 = bo_gR 4 3 2 19 := rfl
theorem l_H_activatorGets_4 : bh_tb T_H_activatorGets 4 = bo_st 5 (bg_push (.inl (.int 0))) := rfl
theorem l_H_activatorGets_5 : bh_tb T_H_activatorGets 5 = bo_callV 8 2 0 0 19 F_V_bestRow := rfl
theorem l_H_activatorGets_8 : bh_tb T_H_activatorGets 8 = bo_ist 9 2 := rfl
theorem l_H_activatorGets_9 : bh_tb T_H_activatorGets 9 = bo_ild 10 2 := rfl
theorem l_H_activatorGets_10 : bh_tb T_H_activatorGets 10 = bo_st 11 (bg_push (.inl (.int (-1)))) := rfl
theorem l_H_activatorGets_11 : bh_tb T_H_activatorGets 11 = bo_if2 14 16 (fun x y => ¬ x = y) := rfl
theorem l_H_activatorGets_14 : bh_tb T_H_activatorGets 14 = bo_st 15 (bg_push (.inl (.int 0))) := rfl
theorem l_H_activatorGets_15 : bh_tb T_H_activatorGets 15 = bo_zret 0 := rfl
theorem l_H_activatorGets_16 : bh_tb T_H_activatorGets 16 = bo_ald 17 0 := rfl
theorem l_H_activatorGets_17 : bh_tb T_H_activatorGets 17 = bo_gR 20 3 2 19 := rfl
theorem l_H_activatorGets_20 : bh_tb T_H_activatorGets 20 = bo_gR 23 19 0 20 := rfl
theorem l_H_activatorGets_23 : bh_tb T_H_activatorGets 23 = bo_ild 24 2 := rfl
theorem l_H_activatorGets_24 : bh_tb T_H_activatorGets 24 = bo_Rald bh_ak bh_al 25 := rfl
theorem l_H_activatorGets_25 : bh_tb T_H_activatorGets 25 = bo_gR 28 21 0 22 := rfl
theorem l_H_activatorGets_28 : bh_tb T_H_activatorGets 28 = bo_ild 29 1 := rfl
theorem l_H_activatorGets_29 : bh_tb T_H_activatorGets 29 = bo_st 30 bg_dup2 := rfl
theorem l_H_activatorGets_30 : bh_tb T_H_activatorGets 30 = bo_Iald bh_ak bh_al 31 := rfl
theorem l_H_activatorGets_31 : bh_tb T_H_activatorGets 31 = bo_st 32 (bg_push (.inl (.int 1))) := rfl
theorem l_H_activatorGets_32 : bh_tb T_H_activatorGets 32 = bo_st 33 (bg_ii (fun x y => x + y)) := rfl
theorem l_H_activatorGets_33 : bh_tb T_H_activatorGets 33 = bo_Iast bh_ak bh_al 34 := rfl
theorem l_H_activatorGets_34 : bh_tb T_H_activatorGets 34 = bo_st 35 (bg_push (.inl (.int 1))) := rfl
theorem l_H_activatorGets_35 : bh_tb T_H_activatorGets 35 = bo_zret 0 := rfl
theorem l_H_runActivator_0 : bh_tb T_H_runActivator 0 = bo_ald 1 1 := rfl
theorem l_H_runActivator_1 : bh_tb T_H_runActivator 1 = bo_gI 4 5 6 := rfl
theorem l_H_runActivator_4 : bh_tb T_H_runActivator 4 = bo_sw [(1, 36), (2, 38), (3, 47), (4, 56)] 69 := rfl
theorem l_H_runActivator_36 : bh_tb T_H_runActivator 36 = bo_st 37 (bg_push (.inl (.int 0))) := rfl
theorem l_H_runActivator_37 : bh_tb T_H_runActivator 37 = bo_zret 0 := rfl
theorem l_H_runActivator_38 : bh_tb T_H_runActivator 38 = bo_ald 39 0 := rfl
theorem l_H_runActivator_39 : bh_tb T_H_runActivator 39 = bo_ald 40 1 := rfl
theorem l_H_runActivator_40 : bh_tb T_H_runActivator 40 = bo_gI 43 5 0 := rfl
theorem l_H_runActivator_43 : bh_tb T_H_runActivator 43 = bo_callV 46 2 0 0 3 F_H_activatorRegisters := rfl
theorem l_H_runActivator_46 : bh_tb T_H_runActivator 46 = bo_zret 0 := rfl
theorem l_H_runActivator_47 : bh_tb T_H_runActivator 47 = bo_ald 48 0 := rfl
theorem l_H_runActivator_48 : bh_tb T_H_runActivator 48 = bo_ald 49 1 := rfl
theorem l_H_runActivator_49 : bh_tb T_H_runActivator 49 = bo_gI 52 5 0 := rfl
theorem l_H_runActivator_52 : bh_tb T_H_runActivator 52 = bo_callV 55 2 0 0 3 F_H_activatorGets := rfl
theorem l_H_runActivator_55 : bh_tb T_H_runActivator 55 = bo_zret 0 := rfl
theorem l_H_runActivator_56 : bh_tb T_H_runActivator 56 = bo_ald 57 1 := rfl
theorem l_H_runActivator_57 : bh_tb T_H_runActivator 57 = bo_gI 60 5 8 := rfl
theorem l_H_runActivator_60 : bh_tb T_H_runActivator 60 = bo_if1 63 67 (fun x => ¬ x = 0) := rfl
theorem l_H_runActivator_63 : bh_tb T_H_runActivator 63 = bo_st 64 (bg_push (.inl (.int 1))) := rfl
theorem l_H_runActivator_64 : bh_tb T_H_runActivator 64 = bo_go 68 := rfl
theorem l_H_runActivator_67 : bh_tb T_H_runActivator 67 = bo_st 68 (bg_push (.inl (.int 0))) := rfl
theorem l_H_runActivator_68 : bh_tb T_H_runActivator 68 = bo_zret 0 := rfl
theorem l_H_runActivator_69 : bh_tb T_H_runActivator 69 = bo_st 70 (bg_push (.inl (.int 1))) := rfl
theorem l_H_runActivator_70 : bh_tb T_H_runActivator 70 = bo_zret 0 := rfl
theorem l_H_activate_0 : bh_tb T_H_activate 0 = bo_ald 1 1 := rfl
theorem l_H_activate_1 : bh_tb T_H_activate 1 = bo_gI 4 5 3 := rfl
theorem l_H_activate_4 : bh_tb T_H_activate 4 = bo_st 5 (bg_push (.inl (.int 1))) := rfl
theorem l_H_activate_5 : bh_tb T_H_activate 5 = bo_if2 8 30 (fun x y => ¬ x = y) := rfl
theorem l_H_activate_8 : bh_tb T_H_activate 8 = bo_ald 9 0 := rfl
theorem l_H_activate_9 : bh_tb T_H_activate 9 = bo_gR 12 3 1 15 := rfl
theorem l_H_activate_12 : bh_tb T_H_activate 12 = bo_ald 13 0 := rfl
theorem l_H_activate_13 : bh_tb T_H_activate 13 = bo_gR 16 3 0 4 := rfl
theorem l_H_activate_16 : bh_tb T_H_activate 16 = bo_ald 17 1 := rfl
theorem l_H_activate_17 : bh_tb T_H_activate 17 = bo_callV 20 3 0 0 15 F_R_run := rfl
theorem l_H_activate_20 : bh_tb T_H_activate 20 = bo_ast 21 2 := rfl
theorem l_H_activate_21 : bh_tb T_H_activate 21 = bo_ald 22 2 := rfl
theorem l_H_activate_22 : bh_tb T_H_activate 22 = bo_st 25 (bg_push (.inr (2, 1))) := rfl
theorem l_H_activate_25 : bh_tb T_H_activate 25 = bo_acmp 28 30 true := rfl
theorem l_H_activate_28 : bh_tb T_H_activate 28 = bo_ald 29 2 := rfl
theorem l_H_activate_29 : bh_tb T_H_activate 29 = bo_aret 0 := rfl
theorem l_H_activate_30 : bh_tb T_H_activate 30 = bo_ald 31 0 := rfl
theorem l_H_activate_31 : bh_tb T_H_activate 31 = bo_ald 32 1 := rfl
theorem l_H_activate_32 : bh_tb T_H_activate 32 = bo_callV 35 2 0 0 3 F_H_runActivator := rfl
theorem l_H_activate_35 : bh_tb T_H_activate 35 = bo_if1 38 42 (fun x => ¬ x = 0) := rfl
theorem l_H_activate_38 : bh_tb T_H_activate 38 = bo_st 41 (bg_push (.inr (2, 4))) := rfl
theorem l_H_activate_41 : bh_tb T_H_activate 41 = bo_aret 0 := rfl
theorem l_H_activate_42 : bh_tb T_H_activate 42 = bo_ald 43 1 := rfl
theorem l_H_activate_43 : bh_tb T_H_activate 43 = bo_st 44 (bg_push (.inl (.int 1))) := rfl
theorem l_H_activate_44 : bh_tb T_H_activate 44 = bo_pZ 47 5 8 := rfl
theorem l_H_activate_47 : bh_tb T_H_activate 47 = bo_ald 48 1 := rfl
theorem l_H_activate_48 : bh_tb T_H_activate 48 = bo_st 49 (bg_push (.inl (.int 3))) := rfl
theorem l_H_activate_49 : bh_tb T_H_activate 49 = bo_pI 52 5 3 := rfl
theorem l_H_activate_52 : bh_tb T_H_activate 52 = bo_ald 53 0 := rfl
theorem l_H_activate_53 : bh_tb T_H_activate 53 = bo_gR 56 3 3 23 := rfl
theorem l_H_activate_56 : bh_tb T_H_activate 56 = bo_st 58 (bg_push (.inl (.int 100))) := rfl
theorem l_H_activate_58 : bh_tb T_H_activate 58 = bo_ald 59 1 := rfl
theorem l_H_activate_59 : bh_tb T_H_activate 59 = bo_gI 62 5 0 := rfl
theorem l_H_activate_62 : bh_tb T_H_activate 62 = bo_st 63 (bg_ii (fun x y => x + y)) := rfl
theorem l_H_activate_63 : bh_tb T_H_activate 63 = bo_callV 66 2 0 0 23 F_E_add := rfl
theorem l_H_activate_66 : bh_tb T_H_activate 66 = bo_st 69 (bg_push (.inr (2, 1))) := rfl
theorem l_H_activate_69 : bh_tb T_H_activate 69 = bo_aret 0 := rfl
theorem l_A_bitCount_0 : bh_tb T_A_bitCount 0 = bo_ild 1 0 := rfl
theorem l_A_bitCount_1 : bh_tb T_A_bitCount 1 = bo_ild 2 0 := rfl
theorem l_A_bitCount_2 : bh_tb T_A_bitCount 2 = bo_st 3 (bg_push (.inl (.int 1))) := rfl
theorem l_A_bitCount_3 : bh_tb T_A_bitCount 3 = bo_st 4 (bg_ii (fun x y => (x.toUInt32 >>> (y.toUInt32 &&& Int32.toUInt32 31)).toInt32)) := rfl
theorem l_A_bitCount_4 : bh_tb T_A_bitCount 4 = bo_st 7 (bg_push (.inl (.int 1431655765))) := rfl
theorem l_A_bitCount_7 : bh_tb T_A_bitCount 7 = bo_st 8 (bg_ii (fun x y => x &&& y)) := rfl
theorem l_A_bitCount_8 : bh_tb T_A_bitCount 8 = bo_st 9 (bg_ii (fun x y => x - y)) := rfl
theorem l_A_bitCount_9 : bh_tb T_A_bitCount 9 = bo_ist 10 0 := rfl
theorem l_A_bitCount_10 : bh_tb T_A_bitCount 10 = bo_ild 11 0 := rfl
theorem l_A_bitCount_11 : bh_tb T_A_bitCount 11 = bo_st 14 (bg_push (.inl (.int 858993459))) := rfl
theorem l_A_bitCount_14 : bh_tb T_A_bitCount 14 = bo_st 15 (bg_ii (fun x y => x &&& y)) := rfl
theorem l_A_bitCount_15 : bh_tb T_A_bitCount 15 = bo_ild 16 0 := rfl
theorem l_A_bitCount_16 : bh_tb T_A_bitCount 16 = bo_st 17 (bg_push (.inl (.int 2))) := rfl
theorem l_A_bitCount_17 : bh_tb T_A_bitCount 17 = bo_st 18 (bg_ii (fun x y => (x.toUInt32 >>> (y.toUInt32 &&& Int32.toUInt32 31)).toInt32)) := rfl
theorem l_A_bitCount_18 : bh_tb T_A_bitCount 18 = bo_st 21 (bg_push (.inl (.int 858993459))) := rfl
theorem l_A_bitCount_21 : bh_tb T_A_bitCount 21 = bo_st 22 (bg_ii (fun x y => x &&& y)) := rfl
theorem l_A_bitCount_22 : bh_tb T_A_bitCount 22 = bo_st 23 (bg_ii (fun x y => x + y)) := rfl
theorem l_A_bitCount_23 : bh_tb T_A_bitCount 23 = bo_ist 24 0 := rfl
theorem l_A_bitCount_24 : bh_tb T_A_bitCount 24 = bo_ild 25 0 := rfl
theorem l_A_bitCount_25 : bh_tb T_A_bitCount 25 = bo_ild 26 0 := rfl
theorem l_A_bitCount_26 : bh_tb T_A_bitCount 26 = bo_st 27 (bg_push (.inl (.int 4))) := rfl
theorem l_A_bitCount_27 : bh_tb T_A_bitCount 27 = bo_st 28 (bg_ii (fun x y => (x.toUInt32 >>> (y.toUInt32 &&& Int32.toUInt32 31)).toInt32)) := rfl
theorem l_A_bitCount_28 : bh_tb T_A_bitCount 28 = bo_st 29 (bg_ii (fun x y => x + y)) := rfl
theorem l_A_bitCount_29 : bh_tb T_A_bitCount 29 = bo_st 32 (bg_push (.inl (.int 252645135))) := rfl
theorem l_A_bitCount_32 : bh_tb T_A_bitCount 32 = bo_st 33 (bg_ii (fun x y => x &&& y)) := rfl
theorem l_A_bitCount_33 : bh_tb T_A_bitCount 33 = bo_ist 34 0 := rfl
theorem l_A_bitCount_34 : bh_tb T_A_bitCount 34 = bo_ild 35 0 := rfl
theorem l_A_bitCount_35 : bh_tb T_A_bitCount 35 = bo_ild 36 0 := rfl
theorem l_A_bitCount_36 : bh_tb T_A_bitCount 36 = bo_st 38 (bg_push (.inl (.int 8))) := rfl
theorem l_A_bitCount_38 : bh_tb T_A_bitCount 38 = bo_st 39 (bg_ii (fun x y => (x.toUInt32 >>> (y.toUInt32 &&& Int32.toUInt32 31)).toInt32)) := rfl
theorem l_A_bitCount_39 : bh_tb T_A_bitCount 39 = bo_st 40 (bg_ii (fun x y => x + y)) := rfl
theorem l_A_bitCount_40 : bh_tb T_A_bitCount 40 = bo_ist 41 0 := rfl
theorem l_A_bitCount_41 : bh_tb T_A_bitCount 41 = bo_ild 42 0 := rfl
theorem l_A_bitCount_42 : bh_tb T_A_bitCount 42 = bo_ild 43 0 := rfl
theorem l_A_bitCount_43 : bh_tb T_A_bitCount 43 = bo_st 45 (bg_push (.inl (.int 16))) := rfl
theorem l_A_bitCount_45 : bh_tb T_A_bitCount 45 = bo_st 46 (bg_ii (fun x y => (x.toUInt32 >>> (y.toUInt32 &&& Int32.toUInt32 31)).toInt32)) := rfl
theorem l_A_bitCount_46 : bh_tb T_A_bitCount 46 = bo_st 47 (bg_ii (fun x y => x + y)) := rfl
theorem l_A_bitCount_47 : bh_tb T_A_bitCount 47 = bo_ist 48 0 := rfl
theorem l_A_bitCount_48 : bh_tb T_A_bitCount 48 = bo_ild 49 0 := rfl
theorem l_A_bitCount_49 : bh_tb T_A_bitCount 49 = bo_st 51 (bg_push (.inl (.int 63))) := rfl
theorem l_A_bitCount_51 : bh_tb T_A_bitCount 51 = bo_st 52 (bg_ii (fun x y => x &&& y)) := rfl
theorem l_A_bitCount_52 : bh_tb T_A_bitCount 52 = bo_iret 0 := rfl
theorem l_H_refresh_0 : bh_tb T_H_refresh 0 = bo_ald 1 0 := rfl
theorem l_H_refresh_1 : bh_tb T_H_refresh 1 = bo_callV 4 1 0 0 3 F_H_staleBundles := rfl
theorem l_H_refresh_4 : bh_tb T_H_refresh 4 = bo_ist 5 1 := rfl
theorem l_H_refresh_5 : bh_tb T_H_refresh 5 = bo_st 7 (bg_push (.inl (.int 7))) := rfl
theorem l_H_refresh_7 : bh_tb T_H_refresh 7 = bo_ist 8 2 := rfl
theorem l_H_refresh_8 : bh_tb T_H_refresh 8 = bo_ild 9 2 := rfl
theorem l_H_refresh_9 : bh_tb T_H_refresh 9 = bo_if1 12 36 (fun x => x < 0) := rfl
theorem l_H_refresh_12 : bh_tb T_H_refresh 12 = bo_ild 13 1 := rfl
theorem l_H_refresh_13 : bh_tb T_H_refresh 13 = bo_ild 14 2 := rfl
theorem l_H_refresh_14 : bh_tb T_H_refresh 14 = bo_callS 17 2 0 0 F_H_isIn := rfl
theorem l_H_refresh_17 : bh_tb T_H_refresh 17 = bo_if1 20 30 (fun x => x = 0) := rfl
theorem l_H_refresh_20 : bh_tb T_H_refresh 20 = bo_ald 21 0 := rfl
theorem l_H_refresh_21 : bh_tb T_H_refresh 21 = bo_ald 22 0 := rfl
theorem l_H_refresh_22 : bh_tb T_H_refresh 22 = bo_gR 25 3 0 4 := rfl
theorem l_H_refresh_25 : bh_tb T_H_refresh 25 = bo_ild 26 2 := rfl
theorem l_H_refresh_26 : bh_tb T_H_refresh 26 = bo_Rald bh_ak bh_al 27 := rfl
theorem l_H_refresh_27 : bh_tb T_H_refresh 27 = bo_callV 30 2 0 0 3 F_H_deactivate := rfl
theorem l_H_refresh_30 : bh_tb T_H_refresh 30 = bo_inc 33 2 (-1) := rfl
theorem l_H_refresh_33 : bh_tb T_H_refresh 33 = bo_go 8 := rfl
theorem l_H_refresh_36 : bh_tb T_H_refresh 36 = bo_st 37 (bg_push (.inl (.int 0))) := rfl
theorem l_H_refresh_37 : bh_tb T_H_refresh 37 = bo_ist 38 2 := rfl
theorem l_H_refresh_38 : bh_tb T_H_refresh 38 = bo_ild 39 2 := rfl
theorem l_H_refresh_39 : bh_tb T_H_refresh 39 = bo_st 41 (bg_push (.inl (.int 8))) := rfl
theorem l_H_refresh_41 : bh_tb T_H_refresh 41 = bo_if2 44 67 (fun x y => y ≤ x) := rfl
theorem l_H_refresh_44 : bh_tb T_H_refresh 44 = bo_ild 45 1 := rfl
theorem l_H_refresh_45 : bh_tb T_H_refresh 45 = bo_ild 46 2 := rfl
theorem l_H_refresh_46 : bh_tb T_H_refresh 46 = bo_callS 49 2 0 0 F_H_isIn := rfl
theorem l_H_refresh_49 : bh_tb T_H_refresh 49 = bo_if1 52 61 (fun x => x = 0) := rfl
theorem l_H_refresh_52 : bh_tb T_H_refresh 52 = bo_ald 53 0 := rfl
theorem l_H_refresh_53 : bh_tb T_H_refresh 53 = bo_gR 56 3 0 4 := rfl
theorem l_H_refresh_56 : bh_tb T_H_refresh 56 = bo_ild 57 2 := rfl
theorem l_H_refresh_57 : bh_tb T_H_refresh 57 = bo_Rald bh_ak bh_al 58 := rfl
theorem l_H_refresh_58 : bh_tb T_H_refresh 58 = bo_callV 61 1 0 0 5 F_B_beUnresolved := rfl
theorem l_H_refresh_61 : bh_tb T_H_refresh 61 = bo_inc 64 2 1 := rfl
theorem l_H_refresh_64 : bh_tb T_H_refresh 64 = bo_go 38 := rfl
theorem l_H_refresh_67 : bh_tb T_H_refresh 67 = bo_st 68 (bg_push (.inl (.int 0))) := rfl
theorem l_H_refresh_68 : bh_tb T_H_refresh 68 = bo_ist 69 2 := rfl
theorem l_H_refresh_69 : bh_tb T_H_refresh 69 = bo_ild 70 2 := rfl
theorem l_H_refresh_70 : bh_tb T_H_refresh 70 = bo_st 72 (bg_push (.inl (.int 8))) := rfl
theorem l_H_refresh_72 : bh_tb T_H_refresh 72 = bo_if2 75 128 (fun x y => y ≤ x) := rfl
theorem l_H_refresh_75 : bh_tb T_H_refresh 75 = bo_ild 76 1 := rfl
theorem l_H_refresh_76 : bh_tb T_H_refresh 76 = bo_ild 77 2 := rfl
theorem l_H_refresh_77 : bh_tb T_H_refresh 77 = bo_callS 80 2 0 0 F_H_isIn := rfl
theorem l_H_refresh_80 : bh_tb T_H_refresh 80 = bo_if1 83 122 (fun x => x = 0) := rfl
theorem l_H_refresh_83 : bh_tb T_H_refresh 83 = bo_ald 84 0 := rfl
theorem l_H_refresh_84 : bh_tb T_H_refresh 84 = bo_gR 87 3 0 4 := rfl
theorem l_H_refresh_87 : bh_tb T_H_refresh 87 = bo_ild 88 2 := rfl
theorem l_H_refresh_88 : bh_tb T_H_refresh 88 = bo_Rald bh_ak bh_al 89 := rfl
theorem l_H_refresh_89 : bh_tb T_H_refresh 89 = bo_gI 92 5 7 := rfl
theorem l_H_refresh_92 : bh_tb T_H_refresh 92 = bo_if1 95 122 (fun x => x = 0) := rfl
theorem l_H_refresh_95 : bh_tb T_H_refresh 95 = bo_ald 96 0 := rfl
theorem l_H_refresh_96 : bh_tb T_H_refresh 96 = bo_gR 99 3 0 4 := rfl
theorem l_H_refresh_99 : bh_tb T_H_refresh 99 = bo_ild 100 2 := rfl
theorem l_H_refresh_100 : bh_tb T_H_refresh 100 = bo_Rald bh_ak bh_al 101 := rfl
theorem l_H_refresh_101 : bh_tb T_H_refresh 101 = bo_gI 104 5 5 := rfl
theorem l_H_refresh_104 : bh_tb T_H_refresh 104 = bo_ald 105 0 := rfl
theorem l_H_refresh_105 : bh_tb T_H_refresh 105 = bo_gI 108 3 4 := rfl
theorem l_H_refresh_108 : bh_tb T_H_refresh 108 = bo_if2 111 122 (fun x y => y < x) := rfl
theorem l_H_refresh_111 : bh_tb T_H_refresh 111 = bo_ald 112 0 := rfl
theorem l_H_refresh_112 : bh_tb T_H_refresh 112 = bo_ald 113 0 := rfl
theorem l_H_refresh_113 : bh_tb T_H_refresh 113 = bo_gR 116 3 0 4 := rfl
theorem l_H_refresh_116 : bh_tb T_H_refresh 116 = bo_ild 117 2 := rfl
theorem l_H_refresh_117 : bh_tb T_H_refresh 117 = bo_Rald bh_ak bh_al 118 := rfl
theorem l_H_refresh_118 : bh_tb T_H_refresh 118 = bo_callV 121 2 0 0 3 F_H_activate := rfl
theorem l_H_refresh_121 : bh_tb T_H_refresh 121 = bo_st 122 bg_pop := rfl
theorem l_H_refresh_122 : bh_tb T_H_refresh 122 = bo_inc 125 2 1 := rfl
theorem l_H_refresh_125 : bh_tb T_H_refresh 125 = bo_go 69 := rfl
theorem l_H_refresh_128 : bh_tb T_H_refresh 128 = bo_ild 129 1 := rfl
theorem l_H_refresh_129 : bh_tb T_H_refresh 129 = bo_callS 132 1 0 0 F_A_bitCount := rfl
theorem l_H_refresh_132 : bh_tb T_H_refresh 132 = bo_iret 0 := rfl
theorem l_H_checkRange_0 : bh_tb T_H_checkRange 0 = bo_ild 1 0 := rfl
theorem l_H_checkRange_1 : bh_tb T_H_checkRange 1 = bo_ild 2 1 := rfl
theorem l_H_checkRange_2 : bh_tb T_H_checkRange 2 = bo_if2 5 10 (fun x y => x < y) := rfl
theorem l_H_checkRange_5 : bh_tb T_H_checkRange 5 = bo_ild 6 0 := rfl
theorem l_H_checkRange_6 : bh_tb T_H_checkRange 6 = bo_ild 7 2 := rfl
theorem l_H_checkRange_7 : bh_tb T_H_checkRange 7 = bo_if2 10 21 (fun x y => x ≤ y) := rfl
theorem l_H_checkRange_10 : bh_tb T_H_checkRange 10 = bo_thr 1 "java/lang/IllegalArgumentException" := rfl
theorem l_H_checkRange_21 : bh_tb T_H_checkRange 21 = bo_vret 1 := rfl
theorem l_H_checkBundle_0 : bh_tb T_H_checkBundle 0 = bo_ild 1 0 := rfl
theorem l_H_checkBundle_1 : bh_tb T_H_checkBundle 1 = bo_st 2 (bg_push (.inl (.int 0))) := rfl
theorem l_H_checkBundle_2 : bh_tb T_H_checkBundle 2 = bo_st 4 (bg_push (.inl (.int 7))) := rfl
theorem l_H_checkBundle_4 : bh_tb T_H_checkBundle 4 = bo_callS 7 3 1 1 F_H_checkRange := rfl
theorem l_H_checkBundle_7 : bh_tb T_H_checkBundle 7 = bo_vret 1 := rfl
theorem l_F_clear_0 : bh_tb T_F_clear 0 = bo_ald 1 0 := rfl
theorem l_F_clear_1 : bh_tb T_F_clear 1 = bo_gR 4 7 0 8 := rfl
theorem l_F_clear_4 : bh_tb T_F_clear 4 = bo_st 5 (bg_push (.inl (.int (-1)))) := rfl
theorem l_F_clear_5 : bh_tb T_F_clear 5 = bo_callS 8 2 0 0 F_A_fill := rfl
theorem l_F_clear_8 : bh_tb T_F_clear 8 = bo_ald 9 0 := rfl
theorem l_F_clear_9 : bh_tb T_F_clear 9 = bo_gR 12 7 2 10 := rfl
theorem l_F_clear_12 : bh_tb T_F_clear 12 = bo_st 13 (bg_push (.inl (.int (-1)))) := rfl
theorem l_F_clear_13 : bh_tb T_F_clear 13 = bo_callS 16 2 0 0 F_A_fill := rfl
theorem l_F_clear_16 : bh_tb T_F_clear 16 = bo_ald 17 0 := rfl
theorem l_F_clear_17 : bh_tb T_F_clear 17 = bo_st 18 (bg_push (.inl (.int 0))) := rfl
theorem l_F_clear_18 : bh_tb T_F_clear 18 = bo_pI 21 7 7 := rfl
theorem l_F_clear_21 : bh_tb T_F_clear 21 = bo_ald 22 0 := rfl
theorem l_F_clear_22 : bh_tb T_F_clear 22 = bo_st 23 (bg_push (.inl (.int 0))) := rfl
theorem l_F_clear_23 : bh_tb T_F_clear 23 = bo_pI 26 7 8 := rfl
theorem l_F_clear_26 : bh_tb T_F_clear 26 = bo_vret 0 := rfl
theorem l_B_beginNewLife_0 : bh_tb T_B_beginNewLife 0 = bo_ald 1 0 := rfl
theorem l_B_beginNewLife_1 : bh_tb T_B_beginNewLife 1 = bo_gR 4 5 1 7 := rfl
theorem l_B_beginNewLife_4 : bh_tb T_B_beginNewLife 4 = bo_callV 7 1 0 0 7 F_F_clear := rfl
theorem l_B_beginNewLife_7 : bh_tb T_B_beginNewLife 7 = bo_ald 8 0 := rfl
theorem l_B_beginNewLife_8 : bh_tb T_B_beginNewLife 8 = bo_st 9 (bg_push (.inl (.int 0))) := rfl
theorem l_B_beginNewLife_9 : bh_tb T_B_beginNewLife 9 = bo_pZ 12 5 8 := rfl
theorem l_B_beginNewLife_12 : bh_tb T_B_beginNewLife 12 = bo_ald 13 0 := rfl
theorem l_B_beginNewLife_13 : bh_tb T_B_beginNewLife 13 = bo_st 14 bg_dup := rfl
theorem l_B_beginNewLife_14 : bh_tb T_B_beginNewLife 14 = bo_gI 17 5 9 := rfl
theorem l_B_beginNewLife_17 : bh_tb T_B_beginNewLife 17 = bo_st 19 (bg_push (.inl (.int 8))) := rfl
theorem l_B_beginNewLife_19 : bh_tb T_B_beginNewLife 19 = bo_st 20 (bg_ii (fun x y => x + y)) := rfl
theorem l_B_beginNewLife_20 : bh_tb T_B_beginNewLife 20 = bo_pI 23 5 9 := rfl
theorem l_B_beginNewLife_23 : bh_tb T_B_beginNewLife 23 = bo_ald 24 0 := rfl
theorem l_B_beginNewLife_24 : bh_tb T_B_beginNewLife 24 = bo_callV 27 1 0 0 5 F_B_beUnresolved := rfl
theorem l_B_beginNewLife_27 : bh_tb T_B_beginNewLife 27 = bo_vret 0 := rfl
theorem l_B_enter_0 : bh_tb T_B_enter 0 = bo_ald 1 0 := rfl
theorem l_B_enter_1 : bh_tb T_B_enter 1 = bo_ild 2 1 := rfl
theorem l_B_enter_2 : bh_tb T_B_enter 2 = bo_pI 5 5 4 := rfl
theorem l_B_enter_5 : bh_tb T_B_enter 5 = bo_ald 6 0 := rfl
theorem l_B_enter_6 : bh_tb T_B_enter 6 = bo_ild 7 2 := rfl
theorem l_B_enter_7 : bh_tb T_B_enter 7 = bo_pI 10 5 5 := rfl
theorem l_B_enter_10 : bh_tb T_B_enter 10 = bo_ald 11 0 := rfl
theorem l_B_enter_11 : bh_tb T_B_enter 11 = bo_ild 12 3 := rfl
theorem l_B_enter_12 : bh_tb T_B_enter 12 = bo_pI 15 5 6 := rfl
theorem l_B_enter_15 : bh_tb T_B_enter 15 = bo_ald 16 0 := rfl
theorem l_B_enter_16 : bh_tb T_B_enter 16 = bo_callV 19 1 0 0 5 F_B_beginNewLife := rfl
theorem l_B_enter_19 : bh_tb T_B_enter 19 = bo_vret 0 := rfl
theorem l_H_bundlesThere_0 : bh_tb T_H_bundlesThere 0 = bo_st 1 (bg_push (.inl (.int 0))) := rfl
theorem l_H_bundlesThere_1 : bh_tb T_H_bundlesThere 1 = bo_ist 2 1 := rfl
theorem l_H_bundlesThere_2 : bh_tb T_H_bundlesThere 2 = bo_st 3 (bg_push (.inl (.int 0))) := rfl
theorem l_H_bundlesThere_3 : bh_tb T_H_bundlesThere 3 = bo_ist 4 2 := rfl
theorem l_H_bundlesThere_4 : bh_tb T_H_bundlesThere 4 = bo_ild 5 2 := rfl
theorem l_H_bundlesThere_5 : bh_tb T_H_bundlesThere 5 = bo_st 7 (bg_push (.inl (.int 8))) := rfl
theorem l_H_bundlesThere_7 : bh_tb T_H_bundlesThere 7 = bo_if2 10 31 (fun x y => y ≤ x) := rfl
theorem l_H_bundlesThere_10 : bh_tb T_H_bundlesThere 10 = bo_ald 11 0 := rfl
theorem l_H_bundlesThere_11 : bh_tb T_H_bundlesThere 11 = bo_gR 14 3 0 4 := rfl
theorem l_H_bundlesThere_14 : bh_tb T_H_bundlesThere 14 = bo_ild 15 2 := rfl
theorem l_H_bundlesThere_15 : bh_tb T_H_bundlesThere 15 = bo_Rald bh_ak bh_al 16 := rfl
theorem l_H_bundlesThere_16 : bh_tb T_H_bundlesThere 16 = bo_gI 19 5 3 := rfl
theorem l_H_bundlesThere_19 : bh_tb T_H_bundlesThere 19 = bo_if1 22 25 (fun x => x = 0) := rfl
theorem l_H_bundlesThere_22 : bh_tb T_H_bundlesThere 22 = bo_inc 25 1 1 := rfl
theorem l_H_bundlesThere_25 : bh_tb T_H_bundlesThere 25 = bo_inc 28 2 1 := rfl
theorem l_H_bundlesThere_28 : bh_tb T_H_bundlesThere 28 = bo_go 4 := rfl
theorem l_H_bundlesThere_31 : bh_tb T_H_bundlesThere 31 = bo_ild 32 1 := rfl
theorem l_H_bundlesThere_32 : bh_tb T_H_bundlesThere 32 = bo_iret 0 := rfl
theorem l_H_install_0 : bh_tb T_H_install 0 = bo_ild 1 1 := rfl
theorem l_H_install_1 : bh_tb T_H_install 1 = bo_callS 4 1 1 5 F_H_checkBundle := rfl
theorem l_H_install_4 : bh_tb T_H_install 4 = bo_ild 5 2 := rfl
theorem l_H_install_5 : bh_tb T_H_install 5 = bo_st 6 (bg_push (.inl (.int 0))) := rfl
theorem l_H_install_6 : bh_tb T_H_install 6 = bo_st 7 (bg_push (.inl (.int 5))) := rfl
theorem l_H_install_7 : bh_tb T_H_install 7 = bo_callS 10 3 1 5 F_H_checkRange := rfl
theorem l_H_install_10 : bh_tb T_H_install 10 = bo_ild 11 3 := rfl
theorem l_H_install_11 : bh_tb T_H_install 11 = bo_st 12 (bg_push (.inl (.int 1))) := rfl
theorem l_H_install_12 : bh_tb T_H_install 12 = bo_st 13 (bg_push (.inl (.int 5))) := rfl
theorem l_H_install_13 : bh_tb T_H_install 13 = bo_callS 16 3 1 5 F_H_checkRange := rfl
theorem l_H_install_16 : bh_tb T_H_install 16 = bo_ild 18 4 := rfl
theorem l_H_install_18 : bh_tb T_H_install 18 = bo_st 19 (bg_push (.inl (.int 0))) := rfl
theorem l_H_install_19 : bh_tb T_H_install 19 = bo_st 20 (bg_push (.inl (.int 4))) := rfl
theorem l_H_install_20 : bh_tb T_H_install 20 = bo_callS 23 3 1 5 F_H_checkRange := rfl
theorem l_H_install_23 : bh_tb T_H_install 23 = bo_ald 24 0 := rfl
theorem l_H_install_24 : bh_tb T_H_install 24 = bo_gR 27 3 0 4 := rfl
theorem l_H_install_27 : bh_tb T_H_install 27 = bo_ild 28 1 := rfl
theorem l_H_install_28 : bh_tb T_H_install 28 = bo_Rald bh_ak bh_al 29 := rfl
theorem l_H_install_29 : bh_tb T_H_install 29 = bo_ast 31 5 := rfl
theorem l_H_install_31 : bh_tb T_H_install 31 = bo_ald 33 5 := rfl
theorem l_H_install_33 : bh_tb T_H_install 33 = bo_gI 36 5 3 := rfl
theorem l_H_install_36 : bh_tb T_H_install 36 = bo_if1 39 49 (fun x => x = 0) := rfl
theorem l_H_install_39 : bh_tb T_H_install 39 = bo_thr 5 "java/lang/IllegalStateException" := rfl
theorem l_H_install_49 : bh_tb T_H_install 49 = bo_ald 51 5 := rfl
theorem l_H_install_51 : bh_tb T_H_install 51 = bo_ild 52 2 := rfl
theorem l_H_install_52 : bh_tb T_H_install 52 = bo_ild 53 3 := rfl
theorem l_H_install_53 : bh_tb T_H_install 53 = bo_ild 55 4 := rfl
theorem l_H_install_55 : bh_tb T_H_install 55 = bo_callV 58 4 0 5 5 F_B_enter := rfl
theorem l_H_install_58 : bh_tb T_H_install 58 = bo_ald 59 0 := rfl
theorem l_H_install_59 : bh_tb T_H_install 59 = bo_callV 62 1 0 5 3 F_H_bundlesThere := rfl
theorem l_H_install_62 : bh_tb T_H_install 62 = bo_iret 5 := rfl
theorem l_H_present_0 : bh_tb T_H_present 0 = bo_ald 1 0 := rfl
theorem l_H_present_1 : bh_tb T_H_present 1 = bo_gR 4 3 0 4 := rfl
theorem l_H_present_4 : bh_tb T_H_present 4 = bo_ild 5 1 := rfl
theorem l_H_present_5 : bh_tb T_H_present 5 = bo_Rald bh_ak bh_al 6 := rfl
theorem l_H_present_6 : bh_tb T_H_present 6 = bo_ast 7 2 := rfl
theorem l_H_present_7 : bh_tb T_H_present 7 = bo_ald 8 2 := rfl
theorem l_H_present_8 : bh_tb T_H_present 8 = bo_gI 11 5 3 := rfl
theorem l_H_present_11 : bh_tb T_H_present 11 = bo_if1 14 25 (fun x => ¬ x = 0) := rfl
theorem l_H_present_14 : bh_tb T_H_present 14 = bo_thr 1 "java/util/NoSuchElementException" := rfl
theorem l_H_present_25 : bh_tb T_H_present 25 = bo_ald 26 2 := rfl
theorem l_H_present_26 : bh_tb T_H_present 26 = bo_aret 1 := rfl
theorem l_H_openManifest_0 : bh_tb T_H_openManifest 0 = bo_ald 1 0 := rfl
theorem l_H_openManifest_1 : bh_tb T_H_openManifest 1 = bo_ild 2 1 := rfl
theorem l_H_openManifest_2 : bh_tb T_H_openManifest 2 = bo_callV 5 2 1 2 3 F_H_present := rfl
theorem l_H_openManifest_5 : bh_tb T_H_openManifest 5 = bo_ast 6 2 := rfl
theorem l_H_openManifest_6 : bh_tb T_H_openManifest 6 = bo_ald 7 2 := rfl
theorem l_H_openManifest_7 : bh_tb T_H_openManifest 7 = bo_gI 10 5 3 := rfl
theorem l_H_openManifest_10 : bh_tb T_H_openManifest 10 = bo_st 11 (bg_push (.inl (.int 1))) := rfl
theorem l_H_openManifest_11 : bh_tb T_H_openManifest 11 = bo_if2 14 25 (fun x y => x = y) := rfl
theorem l_H_openManifest_14 : bh_tb T_H_openManifest 14 = bo_thr 2 "java/lang/IllegalStateException" := rfl
theorem l_H_openManifest_25 : bh_tb T_H_openManifest 25 = bo_ald 26 2 := rfl
theorem l_H_openManifest_26 : bh_tb T_H_openManifest 26 = bo_gR 29 5 1 7 := rfl
theorem l_H_openManifest_29 : bh_tb T_H_openManifest 29 = bo_aret 2 := rfl
theorem l_F_canExport_0 : bh_tb T_F_canExport 0 = bo_ald 1 0 := rfl
theorem l_F_canExport_1 : bh_tb T_F_canExport 1 = bo_gI 4 7 7 := rfl
theorem l_F_canExport_4 : bh_tb T_F_canExport 4 = bo_st 5 (bg_push (.inl (.int 3))) := rfl
theorem l_F_canExport_5 : bh_tb T_F_canExport 5 = bo_if2 8 22 (fun x y => y ≤ x) := rfl
theorem l_F_canExport_8 : bh_tb T_F_canExport 8 = bo_ald 9 0 := rfl
theorem l_F_canExport_9 : bh_tb T_F_canExport 9 = bo_gR 12 7 0 8 := rfl
theorem l_F_canExport_12 : bh_tb T_F_canExport 12 = bo_ild 13 1 := rfl
theorem l_F_canExport_13 : bh_tb T_F_canExport 13 = bo_Iald bh_ak bh_al 14 := rfl
theorem l_F_canExport_14 : bh_tb T_F_canExport 14 = bo_st 15 (bg_push (.inl (.int (-1)))) := rfl
theorem l_F_canExport_15 : bh_tb T_F_canExport 15 = bo_if2 18 22 (fun x y => ¬ x = y) := rfl
theorem l_F_canExport_18 : bh_tb T_F_canExport 18 = bo_st 19 (bg_push (.inl (.int 1))) := rfl
theorem l_F_canExport_19 : bh_tb T_F_canExport 19 = bo_go 23 := rfl
theorem l_F_canExport_22 : bh_tb T_F_canExport 22 = bo_st 23 (bg_push (.inl (.int 0))) := rfl
theorem l_F_canExport_23 : bh_tb T_F_canExport 23 = bo_zret 0 := rfl
theorem l_F_addExport_0 : bh_tb T_F_addExport 0 = bo_ald 1 0 := rfl
theorem l_F_addExport_1 : bh_tb T_F_addExport 1 = bo_gR 4 7 0 8 := rfl
theorem l_F_addExport_4 : bh_tb T_F_addExport 4 = bo_ild 5 1 := rfl
theorem l_F_addExport_5 : bh_tb T_F_addExport 5 = bo_ild 6 2 := rfl
theorem l_F_addExport_6 : bh_tb T_F_addExport 6 = bo_Iast bh_ak bh_al 7 := rfl
theorem l_F_addExport_7 : bh_tb T_F_addExport 7 = bo_ald 8 0 := rfl
theorem l_F_addExport_8 : bh_tb T_F_addExport 8 = bo_gR 11 7 1 9 := rfl
theorem l_F_addExport_11 : bh_tb T_F_addExport 11 = bo_ild 12 1 := rfl
theorem l_F_addExport_12 : bh_tb T_F_addExport 12 = bo_ild 13 3 := rfl
theorem l_F_addExport_13 : bh_tb T_F_addExport 13 = bo_Iast bh_ak bh_al 14 := rfl
theorem l_F_addExport_14 : bh_tb T_F_addExport 14 = bo_ald 15 0 := rfl
theorem l_F_addExport_15 : bh_tb T_F_addExport 15 = bo_st 16 bg_dup := rfl
theorem l_F_addExport_16 : bh_tb T_F_addExport 16 = bo_gI 19 7 7 := rfl
theorem l_F_addExport_19 : bh_tb T_F_addExport 19 = bo_st 20 (bg_push (.inl (.int 1))) := rfl
theorem l_F_addExport_20 : bh_tb T_F_addExport 20 = bo_st 21 (bg_ii (fun x y => x + y)) := rfl
theorem l_F_addExport_21 : bh_tb T_F_addExport 21 = bo_pI 24 7 7 := rfl
theorem l_F_addExport_24 : bh_tb T_F_addExport 24 = bo_vret 0 := rfl
theorem l_H_export_0 : bh_tb T_H_export 0 = bo_ild 1 1 := rfl
theorem l_H_export_1 : bh_tb T_H_export 1 = bo_callS 4 1 1 6 F_H_checkBundle := rfl
theorem l_H_export_4 : bh_tb T_H_export 4 = bo_ild 5 2 := rfl
theorem l_H_export_5 : bh_tb T_H_export 5 = bo_st 6 (bg_push (.inl (.int 0))) := rfl
theorem l_H_export_6 : bh_tb T_H_export 6 = bo_st 8 (bg_push (.inl (.int 79))) := rfl
theorem l_H_export_8 : bh_tb T_H_export 8 = bo_callS 11 3 1 6 F_H_checkRange := rfl
theorem l_H_export_11 : bh_tb T_H_export 11 = bo_ild 12 3 := rfl
theorem l_H_export_12 : bh_tb T_H_export 12 = bo_st 13 (bg_push (.inl (.int 0))) := rfl
theorem l_H_export_13 : bh_tb T_H_export 13 = bo_st 16 (bg_push (.inl (.int 255))) := rfl
theorem l_H_export_16 : bh_tb T_H_export 16 = bo_callS 19 3 1 6 F_H_checkRange := rfl
theorem l_H_export_19 : bh_tb T_H_export 19 = bo_ald 20 0 := rfl
theorem l_H_export_20 : bh_tb T_H_export 20 = bo_ild 21 1 := rfl
theorem l_H_export_21 : bh_tb T_H_export 21 = bo_callV 24 2 2 6 3 F_H_openManifest := rfl
theorem l_H_export_24 : bh_tb T_H_export 24 = bo_ast 26 4 := rfl
theorem l_H_export_26 : bh_tb T_H_export 26 = bo_ild 27 2 := rfl
theorem l_H_export_27 : bh_tb T_H_export 27 = bo_st 29 (bg_push (.inl (.int 8))) := rfl
theorem l_H_export_29 : bh_tb T_H_export 29 = bo_st 30 (bg_dv (fun x y => x - x / y * y)) := rfl
theorem l_H_export_30 : bh_tb T_H_export 30 = bo_ist 32 5 := rfl
theorem l_H_export_32 : bh_tb T_H_export 32 = bo_ald 34 4 := rfl
theorem l_H_export_34 : bh_tb T_H_export 34 = bo_ild 36 5 := rfl
theorem l_H_export_36 : bh_tb T_H_export 36 = bo_callV 39 2 0 6 7 F_F_canExport := rfl
theorem l_H_export_39 : bh_tb T_H_export 39 = bo_if1 42 52 (fun x => ¬ x = 0) := rfl
theorem l_H_export_42 : bh_tb T_H_export 42 = bo_thr 6 "java/lang/UnsupportedOperationException" := rfl
theorem l_H_export_52 : bh_tb T_H_export 52 = bo_ald 54 4 := rfl
theorem l_H_export_54 : bh_tb T_H_export 54 = bo_ild 56 5 := rfl
theorem l_H_export_56 : bh_tb T_H_export 56 = bo_ild 57 2 := rfl
theorem l_H_export_57 : bh_tb T_H_export 57 = bo_st 59 (bg_push (.inl (.int 8))) := rfl
theorem l_H_export_59 : bh_tb T_H_export 59 = bo_st 60 (bg_dv (fun x y => x / y)) := rfl
theorem l_H_export_60 : bh_tb T_H_export 60 = bo_ild 61 3 := rfl
theorem l_H_export_61 : bh_tb T_H_export 61 = bo_callV 64 4 0 6 7 F_F_addExport := rfl
theorem l_H_export_64 : bh_tb T_H_export 64 = bo_ald 66 4 := rfl
theorem l_H_export_66 : bh_tb T_H_export 66 = bo_gI 69 7 7 := rfl
theorem l_H_export_69 : bh_tb T_H_export 69 = bo_iret 6 := rfl
theorem l_F_canImport_0 : bh_tb T_F_canImport 0 = bo_ald 1 0 := rfl
theorem l_F_canImport_1 : bh_tb T_F_canImport 1 = bo_gI 4 7 8 := rfl
theorem l_F_canImport_4 : bh_tb T_F_canImport 4 = bo_st 5 (bg_push (.inl (.int 3))) := rfl
theorem l_F_canImport_5 : bh_tb T_F_canImport 5 = bo_if2 8 22 (fun x y => y ≤ x) := rfl
theorem l_F_canImport_8 : bh_tb T_F_canImport 8 = bo_ald 9 0 := rfl
theorem l_F_canImport_9 : bh_tb T_F_canImport 9 = bo_gR 12 7 2 10 := rfl
theorem l_F_canImport_12 : bh_tb T_F_canImport 12 = bo_ild 13 1 := rfl
theorem l_F_canImport_13 : bh_tb T_F_canImport 13 = bo_Iald bh_ak bh_al 14 := rfl
theorem l_F_canImport_14 : bh_tb T_F_canImport 14 = bo_st 15 (bg_push (.inl (.int (-1)))) := rfl
theorem l_F_canImport_15 : bh_tb T_F_canImport 15 = bo_if2 18 22 (fun x y => ¬ x = y) := rfl
theorem l_F_canImport_18 : bh_tb T_F_canImport 18 = bo_st 19 (bg_push (.inl (.int 1))) := rfl
theorem l_F_canImport_19 : bh_tb T_F_canImport 19 = bo_go 23 := rfl
theorem l_F_canImport_22 : bh_tb T_F_canImport 22 = bo_st 23 (bg_push (.inl (.int 0))) := rfl
theorem l_F_canImport_23 : bh_tb T_F_canImport 23 = bo_zret 0 := rfl
theorem l_F_addImport_0 : bh_tb T_F_addImport 0 = bo_ald 1 0 := rfl
theorem l_F_addImport_1 : bh_tb T_F_addImport 1 = bo_gR 4 7 2 10 := rfl
theorem l_F_addImport_4 : bh_tb T_F_addImport 4 = bo_ild 5 1 := rfl
theorem l_F_addImport_5 : bh_tb T_F_addImport 5 = bo_ald 6 0 := rfl
theorem l_F_addImport_6 : bh_tb T_F_addImport 6 = bo_gI 9 7 8 := rfl
theorem l_F_addImport_9 : bh_tb T_F_addImport 9 = bo_Iast bh_ak bh_al 10 := rfl
theorem l_F_addImport_10 : bh_tb T_F_addImport 10 = bo_ald 11 0 := rfl
theorem l_F_addImport_11 : bh_tb T_F_addImport 11 = bo_gR 14 7 3 11 := rfl
theorem l_F_addImport_14 : bh_tb T_F_addImport 14 = bo_ald 15 0 := rfl
theorem l_F_addImport_15 : bh_tb T_F_addImport 15 = bo_gI 18 7 8 := rfl
theorem l_F_addImport_18 : bh_tb T_F_addImport 18 = bo_ild 19 1 := rfl
theorem l_F_addImport_19 : bh_tb T_F_addImport 19 = bo_Iast bh_ak bh_al 20 := rfl
theorem l_F_addImport_20 : bh_tb T_F_addImport 20 = bo_ald 21 0 := rfl
theorem l_F_addImport_21 : bh_tb T_F_addImport 21 = bo_gR 24 7 4 12 := rfl
theorem l_F_addImport_24 : bh_tb T_F_addImport 24 = bo_ald 25 0 := rfl
theorem l_F_addImport_25 : bh_tb T_F_addImport 25 = bo_gI 28 7 8 := rfl
theorem l_F_addImport_28 : bh_tb T_F_addImport 28 = bo_ild 29 2 := rfl
theorem l_F_addImport_29 : bh_tb T_F_addImport 29 = bo_Iast bh_ak bh_al 30 := rfl
theorem l_F_addImport_30 : bh_tb T_F_addImport 30 = bo_ald 31 0 := rfl
theorem l_F_addImport_31 : bh_tb T_F_addImport 31 = bo_gR 34 7 5 13 := rfl
theorem l_F_addImport_34 : bh_tb T_F_addImport 34 = bo_ald 35 0 := rfl
theorem l_F_addImport_35 : bh_tb T_F_addImport 35 = bo_gI 38 7 8 := rfl
theorem l_F_addImport_38 : bh_tb T_F_addImport 38 = bo_ild 39 3 := rfl
theorem l_F_addImport_39 : bh_tb T_F_addImport 39 = bo_Iast bh_ak bh_al 40 := rfl
theorem l_F_addImport_40 : bh_tb T_F_addImport 40 = bo_ald 41 0 := rfl
theorem l_F_addImport_41 : bh_tb T_F_addImport 41 = bo_gR 44 7 6 14 := rfl
theorem l_F_addImport_44 : bh_tb T_F_addImport 44 = bo_ald 45 0 := rfl
theorem l_F_addImport_45 : bh_tb T_F_addImport 45 = bo_gI 48 7 8 := rfl
theorem l_F_addImport_48 : bh_tb T_F_addImport 48 = bo_ild 50 4 := rfl
theorem l_F_addImport_50 : bh_tb T_F_addImport 50 = bo_Zast bh_ak bh_al 51 := rfl
theorem l_F_addImport_51 : bh_tb T_F_addImport 51 = bo_ald 52 0 := rfl
theorem l_F_addImport_52 : bh_tb T_F_addImport 52 = bo_st 53 bg_dup := rfl
theorem l_F_addImport_53 : bh_tb T_F_addImport 53 = bo_gI 56 7 8 := rfl
theorem l_F_addImport_56 : bh_tb T_F_addImport 56 = bo_st 57 (bg_push (.inl (.int 1))) := rfl
theorem l_F_addImport_57 : bh_tb T_F_addImport 57 = bo_st 58 (bg_ii (fun x y => x + y)) := rfl
theorem l_F_addImport_58 : bh_tb T_F_addImport 58 = bo_pI 61 7 8 := rfl
theorem l_F_addImport_61 : bh_tb T_F_addImport 61 = bo_vret 0 := rfl
theorem l_H_need_0 : bh_tb T_H_need 0 = bo_ild 1 1 := rfl
theorem l_H_need_1 : bh_tb T_H_need 1 = bo_callS 4 1 1 7 F_H_checkBundle := rfl
theorem l_H_need_4 : bh_tb T_H_need 4 = bo_ild 5 2 := rfl
theorem l_H_need_5 : bh_tb T_H_need 5 = bo_st 6 (bg_push (.inl (.int 0))) := rfl
theorem l_H_need_6 : bh_tb T_H_need 6 = bo_st 8 (bg_push (.inl (.int 7))) := rfl
theorem l_H_need_8 : bh_tb T_H_need 8 = bo_callS 11 3 1 7 F_H_checkRange := rfl
theorem l_H_need_11 : bh_tb T_H_need 11 = bo_ild 12 3 := rfl
theorem l_H_need_12 : bh_tb T_H_need 12 = bo_st 13 (bg_push (.inl (.int 0))) := rfl
theorem l_H_need_13 : bh_tb T_H_need 13 = bo_st 15 (bg_push (.inl (.int 9))) := rfl
theorem l_H_need_15 : bh_tb T_H_need 15 = bo_callS 18 3 1 7 F_H_checkRange := rfl
theorem l_H_need_18 : bh_tb T_H_need 18 = bo_ild 20 4 := rfl
theorem l_H_need_20 : bh_tb T_H_need 20 = bo_st 21 (bg_push (.inl (.int 0))) := rfl
theorem l_H_need_21 : bh_tb T_H_need 21 = bo_st 23 (bg_push (.inl (.int 9))) := rfl
theorem l_H_need_23 : bh_tb T_H_need 23 = bo_callS 26 3 1 7 F_H_checkRange := rfl
theorem l_H_need_26 : bh_tb T_H_need 26 = bo_ald 27 0 := rfl
theorem l_H_need_27 : bh_tb T_H_need 27 = bo_ild 28 1 := rfl
theorem l_H_need_28 : bh_tb T_H_need 28 = bo_callV 31 2 2 7 3 F_H_openManifest := rfl
theorem l_H_need_31 : bh_tb T_H_need 31 = bo_ast 33 6 := rfl
theorem l_H_need_33 : bh_tb T_H_need 33 = bo_ald 35 6 := rfl
theorem l_H_need_35 : bh_tb T_H_need 35 = bo_ild 36 2 := rfl
theorem l_H_need_36 : bh_tb T_H_need 36 = bo_callV 39 2 0 7 7 F_F_canImport := rfl
theorem l_H_need_39 : bh_tb T_H_need 39 = bo_if1 42 52 (fun x => ¬ x = 0) := rfl
theorem l_H_need_42 : bh_tb T_H_need 42 = bo_thr 7 "java/lang/UnsupportedOperationException" := rfl
theorem l_H_need_52 : bh_tb T_H_need 52 = bo_ald 54 6 := rfl
theorem l_H_need_54 : bh_tb T_H_need 54 = bo_ild 55 2 := rfl
theorem l_H_need_55 : bh_tb T_H_need 55 = bo_ild 56 3 := rfl
theorem l_H_need_56 : bh_tb T_H_need 56 = bo_ild 58 4 := rfl
theorem l_H_need_58 : bh_tb T_H_need 58 = bo_ild 60 5 := rfl
theorem l_H_need_60 : bh_tb T_H_need 60 = bo_callV 63 5 0 7 7 F_F_addImport := rfl
theorem l_H_need_63 : bh_tb T_H_need 63 = bo_ald 65 6 := rfl
theorem l_H_need_65 : bh_tb T_H_need 65 = bo_gI 68 7 8 := rfl
theorem l_H_need_68 : bh_tb T_H_need 68 = bo_iret 7 := rfl
theorem l_H_throwUnlessDone_0 : bh_tb T_H_throwUnlessDone 0 = bo_ald 1 0 := rfl
theorem l_H_throwUnlessDone_1 : bh_tb T_H_throwUnlessDone 1 = bo_st 4 (bg_push (.inr (2, 2))) := rfl
theorem l_H_throwUnlessDone_4 : bh_tb T_H_throwUnlessDone 4 = bo_acmp 7 18 false := rfl
theorem l_H_throwUnlessDone_7 : bh_tb T_H_throwUnlessDone 7 = bo_thr 3 "java/lang/IllegalStateException" := rfl
theorem l_H_throwUnlessDone_18 : bh_tb T_H_throwUnlessDone 18 = bo_ald 19 0 := rfl
theorem l_H_throwUnlessDone_19 : bh_tb T_H_throwUnlessDone 19 = bo_st 22 (bg_push (.inr (2, 3))) := rfl
theorem l_H_throwUnlessDone_22 : bh_tb T_H_throwUnlessDone 22 = bo_acmp 25 36 false := rfl
theorem l_H_throwUnlessDone_25 : bh_tb T_H_throwUnlessDone 25 = bo_thr 3 "java/lang/ArithmeticException" := rfl
theorem l_H_throwUnlessDone_36 : bh_tb T_H_throwUnlessDone 36 = bo_ald 37 0 := rfl
theorem l_H_throwUnlessDone_37 : bh_tb T_H_throwUnlessDone 37 = bo_st 40 (bg_push (.inr (2, 4))) := rfl
theorem l_H_throwUnlessDone_40 : bh_tb T_H_throwUnlessDone 40 = bo_acmp 43 54 false := rfl
theorem l_H_throwUnlessDone_43 : bh_tb T_H_throwUnlessDone 43 = bo_thr 3 "java/lang/UnsupportedOperationException" := rfl
theorem l_H_throwUnlessDone_54 : bh_tb T_H_throwUnlessDone 54 = bo_vret 3 := rfl
theorem l_H_resolve_0 : bh_tb T_H_resolve 0 = bo_ild 1 1 := rfl
theorem l_H_resolve_1 : bh_tb T_H_resolve 1 = bo_callS 4 1 1 5 F_H_checkBundle := rfl
theorem l_H_resolve_4 : bh_tb T_H_resolve 4 = bo_ald 5 0 := rfl
theorem l_H_resolve_5 : bh_tb T_H_resolve 5 = bo_ild 6 1 := rfl
theorem l_H_resolve_6 : bh_tb T_H_resolve 6 = bo_callV 9 2 1 5 3 F_H_present := rfl
theorem l_H_resolve_9 : bh_tb T_H_resolve 9 = bo_ast 10 2 := rfl
theorem l_H_resolve_10 : bh_tb T_H_resolve 10 = bo_ald 11 2 := rfl
theorem l_H_resolve_11 : bh_tb T_H_resolve 11 = bo_callV 14 1 0 5 5 F_B_isResolved := rfl
theorem l_H_resolve_14 : bh_tb T_H_resolve 14 = bo_if1 17 19 (fun x => x = 0) := rfl
theorem l_H_resolve_17 : bh_tb T_H_resolve 17 = bo_st 18 (bg_push (.inl (.int 0))) := rfl
theorem l_H_resolve_18 : bh_tb T_H_resolve 18 = bo_iret 5 := rfl
theorem l_H_resolve_19 : bh_tb T_H_resolve 19 = bo_ald 20 0 := rfl
theorem l_H_resolve_20 : bh_tb T_H_resolve 20 = bo_gR 23 3 1 15 := rfl
theorem l_H_resolve_23 : bh_tb T_H_resolve 23 = bo_ald 24 0 := rfl
theorem l_H_resolve_24 : bh_tb T_H_resolve 24 = bo_gR 27 3 0 4 := rfl
theorem l_H_resolve_27 : bh_tb T_H_resolve 27 = bo_ald 28 2 := rfl
theorem l_H_resolve_28 : bh_tb T_H_resolve 28 = bo_callV 31 3 0 5 15 F_R_run := rfl
theorem l_H_resolve_31 : bh_tb T_H_resolve 31 = bo_callS 34 1 3 5 F_H_throwUnlessDone := rfl
theorem l_H_resolve_34 : bh_tb T_H_resolve 34 = bo_ald 35 0 := rfl
theorem l_H_resolve_35 : bh_tb T_H_resolve 35 = bo_gR 38 3 1 15 := rfl
theorem l_H_resolve_38 : bh_tb T_H_resolve 38 = bo_gI 41 15 5 := rfl
theorem l_H_resolve_41 : bh_tb T_H_resolve 41 = bo_iret 5 := rfl
theorem l_H_start_0 : bh_tb T_H_start 0 = bo_ild 1 1 := rfl
theorem l_H_start_1 : bh_tb T_H_start 1 = bo_callS 4 1 1 5 F_H_checkBundle := rfl
theorem l_H_start_4 : bh_tb T_H_start 4 = bo_ald 5 0 := rfl
theorem l_H_start_5 : bh_tb T_H_start 5 = bo_ild 6 1 := rfl
theorem l_H_start_6 : bh_tb T_H_start 6 = bo_callV 9 2 1 5 3 F_H_present := rfl
theorem l_H_start_9 : bh_tb T_H_start 9 = bo_ast 10 2 := rfl
theorem l_H_start_10 : bh_tb T_H_start 10 = bo_ald 11 2 := rfl
theorem l_H_start_11 : bh_tb T_H_start 11 = bo_st 12 (bg_push (.inl (.int 1))) := rfl
theorem l_H_start_12 : bh_tb T_H_start 12 = bo_pZ 15 5 7 := rfl
theorem l_H_start_15 : bh_tb T_H_start 15 = bo_ald 16 2 := rfl
theorem l_H_start_16 : bh_tb T_H_start 16 = bo_gI 19 5 3 := rfl
theorem l_H_start_19 : bh_tb T_H_start 19 = bo_st 20 (bg_push (.inl (.int 3))) := rfl
theorem l_H_start_20 : bh_tb T_H_start 20 = bo_if2 23 42 (fun x y => x = y) := rfl
theorem l_H_start_23 : bh_tb T_H_start 23 = bo_ald 24 2 := rfl
theorem l_H_start_24 : bh_tb T_H_start 24 = bo_gI 27 5 5 := rfl
theorem l_H_start_27 : bh_tb T_H_start 27 = bo_ald 28 0 := rfl
theorem l_H_start_28 : bh_tb T_H_start 28 = bo_gI 31 3 4 := rfl
theorem l_H_start_31 : bh_tb T_H_start 31 = bo_if2 34 42 (fun x y => y < x) := rfl
theorem l_H_start_34 : bh_tb T_H_start 34 = bo_ald 35 0 := rfl
theorem l_H_start_35 : bh_tb T_H_start 35 = bo_ald 36 2 := rfl
theorem l_H_start_36 : bh_tb T_H_start 36 = bo_callV 39 2 0 5 3 F_H_activate := rfl
theorem l_H_start_39 : bh_tb T_H_start 39 = bo_callS 42 1 3 5 F_H_throwUnlessDone := rfl
theorem l_H_start_42 : bh_tb T_H_start 42 = bo_ald 43 2 := rfl
theorem l_H_start_43 : bh_tb T_H_start 43 = bo_gI 46 5 3 := rfl
theorem l_H_start_46 : bh_tb T_H_start 46 = bo_st 47 (bg_push (.inl (.int 3))) := rfl
theorem l_H_start_47 : bh_tb T_H_start 47 = bo_if2 50 54 (fun x y => ¬ x = y) := rfl
theorem l_H_start_50 : bh_tb T_H_start 50 = bo_st 51 (bg_push (.inl (.int 1))) := rfl
theorem l_H_start_51 : bh_tb T_H_start 51 = bo_go 55 := rfl
theorem l_H_start_54 : bh_tb T_H_start 54 = bo_st 55 (bg_push (.inl (.int 0))) := rfl
theorem l_H_start_55 : bh_tb T_H_start 55 = bo_iret 5 := rfl
theorem l_V_ownedBy_0 : bh_tb T_V_ownedBy 0 = bo_st 1 (bg_push (.inl (.int 0))) := rfl
theorem l_V_ownedBy_1 : bh_tb T_V_ownedBy 1 = bo_ist 2 2 := rfl
theorem l_V_ownedBy_2 : bh_tb T_V_ownedBy 2 = bo_st 3 (bg_push (.inl (.int 0))) := rfl
theorem l_V_ownedBy_3 : bh_tb T_V_ownedBy 3 = bo_ist 4 3 := rfl
theorem l_V_ownedBy_4 : bh_tb T_V_ownedBy 4 = bo_ild 5 3 := rfl
theorem l_V_ownedBy_5 : bh_tb T_V_ownedBy 5 = bo_ald 6 0 := rfl
theorem l_V_ownedBy_6 : bh_tb T_V_ownedBy 6 = bo_gI 9 19 1 := rfl
theorem l_V_ownedBy_9 : bh_tb T_V_ownedBy 9 = bo_if2 12 34 (fun x y => y ≤ x) := rfl
theorem l_V_ownedBy_12 : bh_tb T_V_ownedBy 12 = bo_ald 13 0 := rfl
theorem l_V_ownedBy_13 : bh_tb T_V_ownedBy 13 = bo_gR 16 19 0 20 := rfl
theorem l_V_ownedBy_16 : bh_tb T_V_ownedBy 16 = bo_ild 17 3 := rfl
theorem l_V_ownedBy_17 : bh_tb T_V_ownedBy 17 = bo_Rald bh_ak bh_al 18 := rfl
theorem l_V_ownedBy_18 : bh_tb T_V_ownedBy 18 = bo_gI 21 21 2 := rfl
theorem l_V_ownedBy_21 : bh_tb T_V_ownedBy 21 = bo_ild 22 1 := rfl
theorem l_V_ownedBy_22 : bh_tb T_V_ownedBy 22 = bo_if2 25 28 (fun x y => ¬ x = y) := rfl
theorem l_V_ownedBy_25 : bh_tb T_V_ownedBy 25 = bo_inc 28 2 1 := rfl
theorem l_V_ownedBy_28 : bh_tb T_V_ownedBy 28 = bo_inc 31 3 1 := rfl
theorem l_V_ownedBy_31 : bh_tb T_V_ownedBy 31 = bo_go 4 := rfl
theorem l_V_ownedBy_34 : bh_tb T_V_ownedBy 34 = bo_ild 35 2 := rfl
theorem l_V_ownedBy_35 : bh_tb T_V_ownedBy 35 = bo_iret 0 := rfl
theorem l_H_stop_0 : bh_tb T_H_stop 0 = bo_ild 1 1 := rfl
theorem l_H_stop_1 : bh_tb T_H_stop 1 = bo_callS 4 1 1 2 F_H_checkBundle := rfl
theorem l_H_stop_4 : bh_tb T_H_stop 4 = bo_ald 5 0 := rfl
theorem l_H_stop_5 : bh_tb T_H_stop 5 = bo_ild 6 1 := rfl
theorem l_H_stop_6 : bh_tb T_H_stop 6 = bo_callV 9 2 1 2 3 F_H_present := rfl
theorem l_H_stop_9 : bh_tb T_H_stop 9 = bo_ast 10 2 := rfl
theorem l_H_stop_10 : bh_tb T_H_stop 10 = bo_ald 11 0 := rfl
theorem l_H_stop_11 : bh_tb T_H_stop 11 = bo_gR 14 3 2 19 := rfl
theorem l_H_stop_14 : bh_tb T_H_stop 14 = bo_ild 15 1 := rfl
theorem l_H_stop_15 : bh_tb T_H_stop 15 = bo_callV 18 2 0 2 19 F_V_ownedBy := rfl
theorem l_H_stop_18 : bh_tb T_H_stop 18 = bo_ist 19 3 := rfl
theorem l_H_stop_19 : bh_tb T_H_stop 19 = bo_ald 20 2 := rfl
theorem l_H_stop_20 : bh_tb T_H_stop 20 = bo_st 21 (bg_push (.inl (.int 0))) := rfl
theorem l_H_stop_21 : bh_tb T_H_stop 21 = bo_pZ 24 5 7 := rfl
theorem l_H_stop_24 : bh_tb T_H_stop 24 = bo_ald 25 0 := rfl
theorem l_H_stop_25 : bh_tb T_H_stop 25 = bo_ald 26 2 := rfl
theorem l_H_stop_26 : bh_tb T_H_stop 26 = bo_callV 29 2 0 2 3 F_H_deactivate := rfl
theorem l_H_stop_29 : bh_tb T_H_stop 29 = bo_ild 30 3 := rfl
theorem l_H_stop_30 : bh_tb T_H_stop 30 = bo_iret 2 := rfl
theorem l_B_isDueAt_0 : bh_tb T_B_isDueAt 0 = bo_ald 1 0 := rfl
theorem l_B_isDueAt_1 : bh_tb T_B_isDueAt 1 = bo_gI 4 5 7 := rfl
theorem l_B_isDueAt_4 : bh_tb T_B_isDueAt 4 = bo_if1 7 27 (fun x => x = 0) := rfl
theorem l_B_isDueAt_7 : bh_tb T_B_isDueAt 7 = bo_ald 8 0 := rfl
theorem l_B_isDueAt_8 : bh_tb T_B_isDueAt 8 = bo_gI 11 5 5 := rfl
theorem l_B_isDueAt_11 : bh_tb T_B_isDueAt 11 = bo_ild 12 1 := rfl
theorem l_B_isDueAt_12 : bh_tb T_B_isDueAt 12 = bo_if2 15 27 (fun x y => ¬ x = y) := rfl
theorem l_B_isDueAt_15 : bh_tb T_B_isDueAt 15 = bo_ald 16 0 := rfl
theorem l_B_isDueAt_16 : bh_tb T_B_isDueAt 16 = bo_gI 19 5 3 := rfl
theorem l_B_isDueAt_19 : bh_tb T_B_isDueAt 19 = bo_st 20 (bg_push (.inl (.int 3))) := rfl
theorem l_B_isDueAt_20 : bh_tb T_B_isDueAt 20 = bo_if2 23 27 (fun x y => x = y) := rfl
theorem l_B_isDueAt_23 : bh_tb T_B_isDueAt 23 = bo_st 24 (bg_push (.inl (.int 1))) := rfl
theorem l_B_isDueAt_24 : bh_tb T_B_isDueAt 24 = bo_go 28 := rfl
theorem l_B_isDueAt_27 : bh_tb T_B_isDueAt 27 = bo_st 28 (bg_push (.inl (.int 0))) := rfl
theorem l_B_isDueAt_28 : bh_tb T_B_isDueAt 28 = bo_zret 0 := rfl
theorem l_H_deactivateLevel_0 : bh_tb T_H_deactivateLevel 0 = bo_st 1 (bg_push (.inl (.int 0))) := rfl
theorem l_H_deactivateLevel_1 : bh_tb T_H_deactivateLevel 1 = bo_ist 2 2 := rfl
theorem l_H_deactivateLevel_2 : bh_tb T_H_deactivateLevel 2 = bo_st 4 (bg_push (.inl (.int 7))) := rfl
theorem l_H_deactivateLevel_4 : bh_tb T_H_deactivateLevel 4 = bo_ist 5 3 := rfl
theorem l_H_deactivateLevel_5 : bh_tb T_H_deactivateLevel 5 = bo_ild 6 3 := rfl
theorem l_H_deactivateLevel_6 : bh_tb T_H_deactivateLevel 6 = bo_if1 9 54 (fun x => x < 0) := rfl
theorem l_H_deactivateLevel_9 : bh_tb T_H_deactivateLevel 9 = bo_ald 10 0 := rfl
theorem l_H_deactivateLevel_10 : bh_tb T_H_deactivateLevel 10 = bo_gR 13 3 0 4 := rfl
theorem l_H_deactivateLevel_13 : bh_tb T_H_deactivateLevel 13 = bo_ild 14 3 := rfl
theorem l_H_deactivateLevel_14 : bh_tb T_H_deactivateLevel 14 = bo_Rald bh_ak bh_al 15 := rfl
theorem l_H_deactivateLevel_15 : bh_tb T_H_deactivateLevel 15 = bo_gI 18 5 3 := rfl
theorem l_H_deactivateLevel_18 : bh_tb T_H_deactivateLevel 18 = bo_st 19 (bg_push (.inl (.int 3))) := rfl
theorem l_H_deactivateLevel_19 : bh_tb T_H_deactivateLevel 19 = bo_if2 22 48 (fun x y => ¬ x = y) := rfl
theorem l_H_deactivateLevel_22 : bh_tb T_H_deactivateLevel 22 = bo_ald 23 0 := rfl
theorem l_H_deactivateLevel_23 : bh_tb T_H_deactivateLevel 23 = bo_gR 26 3 0 4 := rfl
theorem l_H_deactivateLevel_26 : bh_tb T_H_deactivateLevel 26 = bo_ild 27 3 := rfl
theorem l_H_deactivateLevel_27 : bh_tb T_H_deactivateLevel 27 = bo_Rald bh_ak bh_al 28 := rfl
theorem l_H_deactivateLevel_28 : bh_tb T_H_deactivateLevel 28 = bo_gI 31 5 5 := rfl
theorem l_H_deactivateLevel_31 : bh_tb T_H_deactivateLevel 31 = bo_ild 32 1 := rfl
theorem l_H_deactivateLevel_32 : bh_tb T_H_deactivateLevel 32 = bo_if2 35 48 (fun x y => ¬ x = y) := rfl
theorem l_H_deactivateLevel_35 : bh_tb T_H_deactivateLevel 35 = bo_ald 36 0 := rfl
theorem l_H_deactivateLevel_36 : bh_tb T_H_deactivateLevel 36 = bo_ald 37 0 := rfl
theorem l_H_deactivateLevel_37 : bh_tb T_H_deactivateLevel 37 = bo_gR 40 3 0 4 := rfl
theorem l_H_deactivateLevel_40 : bh_tb T_H_deactivateLevel 40 = bo_ild 41 3 := rfl
theorem l_H_deactivateLevel_41 : bh_tb T_H_deactivateLevel 41 = bo_Rald bh_ak bh_al 42 := rfl
theorem l_H_deactivateLevel_42 : bh_tb T_H_deactivateLevel 42 = bo_callV 45 2 0 0 3 F_H_deactivate := rfl
theorem l_H_deactivateLevel_45 : bh_tb T_H_deactivateLevel 45 = bo_inc 48 2 1 := rfl
theorem l_H_deactivateLevel_48 : bh_tb T_H_deactivateLevel 48 = bo_inc 51 3 (-1) := rfl
theorem l_H_deactivateLevel_51 : bh_tb T_H_deactivateLevel 51 = bo_go 5 := rfl
theorem l_H_deactivateLevel_54 : bh_tb T_H_deactivateLevel 54 = bo_ild 55 2 := rfl
theorem l_H_deactivateLevel_55 : bh_tb T_H_deactivateLevel 55 = bo_iret 0 := rfl
theorem l_H_level_0 : bh_tb T_H_level 0 = bo_ild 1 1 := rfl
theorem l_H_level_1 : bh_tb T_H_level 1 = bo_st 2 (bg_push (.inl (.int 1))) := rfl
theorem l_H_level_2 : bh_tb T_H_level 2 = bo_st 3 (bg_push (.inl (.int 5))) := rfl
theorem l_H_level_3 : bh_tb T_H_level 3 = bo_callS 6 3 1 1 F_H_checkRange := rfl
theorem l_H_level_6 : bh_tb T_H_level 6 = bo_ald 7 0 := rfl
theorem l_H_level_7 : bh_tb T_H_level 7 = bo_gI 10 3 4 := rfl
theorem l_H_level_10 : bh_tb T_H_level 10 = bo_ist 11 2 := rfl
theorem l_H_level_11 : bh_tb T_H_level 11 = bo_ald 12 0 := rfl
theorem l_H_level_12 : bh_tb T_H_level 12 = bo_ild 13 1 := rfl
theorem l_H_level_13 : bh_tb T_H_level 13 = bo_pI 16 3 4 := rfl
theorem l_H_level_16 : bh_tb T_H_level 16 = bo_st 17 (bg_push (.inl (.int 0))) := rfl
theorem l_H_level_17 : bh_tb T_H_level 17 = bo_ist 18 3 := rfl
theorem l_H_level_18 : bh_tb T_H_level 18 = bo_ild 19 2 := rfl
theorem l_H_level_19 : bh_tb T_H_level 19 = bo_st 20 (bg_push (.inl (.int 1))) := rfl
theorem l_H_level_20 : bh_tb T_H_level 20 = bo_st 21 (bg_ii (fun x y => x + y)) := rfl
theorem l_H_level_21 : bh_tb T_H_level 21 = bo_ist 23 4 := rfl
theorem l_H_level_23 : bh_tb T_H_level 23 = bo_ild 25 4 := rfl
theorem l_H_level_25 : bh_tb T_H_level 25 = bo_ild 26 1 := rfl
theorem l_H_level_26 : bh_tb T_H_level 26 = bo_if2 29 86 (fun x y => y < x) := rfl
theorem l_H_level_29 : bh_tb T_H_level 29 = bo_st 30 (bg_push (.inl (.int 0))) := rfl
theorem l_H_level_30 : bh_tb T_H_level 30 = bo_ist 32 5 := rfl
theorem l_H_level_32 : bh_tb T_H_level 32 = bo_ild 34 5 := rfl
theorem l_H_level_34 : bh_tb T_H_level 34 = bo_st 36 (bg_push (.inl (.int 8))) := rfl
theorem l_H_level_36 : bh_tb T_H_level 36 = bo_if2 39 80 (fun x y => y ≤ x) := rfl
theorem l_H_level_39 : bh_tb T_H_level 39 = bo_ald 40 0 := rfl
theorem l_H_level_40 : bh_tb T_H_level 40 = bo_gR 43 3 0 4 := rfl
theorem l_H_level_43 : bh_tb T_H_level 43 = bo_ild 45 5 := rfl
theorem l_H_level_45 : bh_tb T_H_level 45 = bo_Rald bh_ak bh_al 46 := rfl
theorem l_H_level_46 : bh_tb T_H_level 46 = bo_ild 48 4 := rfl
theorem l_H_level_48 : bh_tb T_H_level 48 = bo_callV 51 2 0 1 5 F_B_isDueAt := rfl
theorem l_H_level_51 : bh_tb T_H_level 51 = bo_if1 54 74 (fun x => x = 0) := rfl
theorem l_H_level_54 : bh_tb T_H_level 54 = bo_ald 55 0 := rfl
theorem l_H_level_55 : bh_tb T_H_level 55 = bo_ald 56 0 := rfl
theorem l_H_level_56 : bh_tb T_H_level 56 = bo_gR 59 3 0 4 := rfl
theorem l_H_level_59 : bh_tb T_H_level 59 = bo_ild 61 5 := rfl
theorem l_H_level_61 : bh_tb T_H_level 61 = bo_Rald bh_ak bh_al 62 := rfl
theorem l_H_level_62 : bh_tb T_H_level 62 = bo_callV 65 2 0 1 3 F_H_activate := rfl
theorem l_H_level_65 : bh_tb T_H_level 65 = bo_st 68 (bg_push (.inr (2, 1))) := rfl
theorem l_H_level_68 : bh_tb T_H_level 68 = bo_acmp 71 74 false := rfl
theorem l_H_level_71 : bh_tb T_H_level 71 = bo_inc 74 3 1 := rfl
theorem l_H_level_74 : bh_tb T_H_level 74 = bo_inc 77 5 1 := rfl
theorem l_H_level_77 : bh_tb T_H_level 77 = bo_go 32 := rfl
theorem l_H_level_80 : bh_tb T_H_level 80 = bo_inc 83 4 1 := rfl
theorem l_H_level_83 : bh_tb T_H_level 83 = bo_go 23 := rfl
theorem l_H_level_86 : bh_tb T_H_level 86 = bo_ild 87 2 := rfl
theorem l_H_level_87 : bh_tb T_H_level 87 = bo_ist 89 4 := rfl
theorem l_H_level_89 : bh_tb T_H_level 89 = bo_ild 91 4 := rfl
theorem l_H_level_91 : bh_tb T_H_level 91 = bo_ild 92 1 := rfl
theorem l_H_level_92 : bh_tb T_H_level 92 = bo_if2 95 110 (fun x y => x ≤ y) := rfl
theorem l_H_level_95 : bh_tb T_H_level 95 = bo_ild 96 3 := rfl
theorem l_H_level_96 : bh_tb T_H_level 96 = bo_ald 97 0 := rfl
theorem l_H_level_97 : bh_tb T_H_level 97 = bo_ild 99 4 := rfl
theorem l_H_level_99 : bh_tb T_H_level 99 = bo_callV 102 2 0 1 3 F_H_deactivateLevel := rfl
theorem l_H_level_102 : bh_tb T_H_level 102 = bo_st 103 (bg_ii (fun x y => x + y)) := rfl
theorem l_H_level_103 : bh_tb T_H_level 103 = bo_ist 104 3 := rfl
theorem l_H_level_104 : bh_tb T_H_level 104 = bo_inc 107 4 (-1) := rfl
theorem l_H_level_107 : bh_tb T_H_level 107 = bo_go 89 := rfl
theorem l_H_level_110 : bh_tb T_H_level 110 = bo_ild 111 3 := rfl
theorem l_H_level_111 : bh_tb T_H_level 111 = bo_iret 1 := rfl
theorem l_B_leave_0 : bh_tb T_B_leave 0 = bo_ald 1 0 := rfl
theorem l_B_leave_1 : bh_tb T_B_leave 1 = bo_gR 4 5 1 7 := rfl
theorem l_B_leave_4 : bh_tb T_B_leave 4 = bo_callV 7 1 0 0 7 F_F_clear := rfl
theorem l_B_leave_7 : bh_tb T_B_leave 7 = bo_ald 8 0 := rfl
theorem l_B_leave_8 : bh_tb T_B_leave 8 = bo_callV 11 1 0 0 5 F_B_beUnresolved := rfl
theorem l_B_leave_11 : bh_tb T_B_leave 11 = bo_ald 12 0 := rfl
theorem l_B_leave_12 : bh_tb T_B_leave 12 = bo_st 13 (bg_push (.inl (.int 0))) := rfl
theorem l_B_leave_13 : bh_tb T_B_leave 13 = bo_pZ 16 5 7 := rfl
theorem l_B_leave_16 : bh_tb T_B_leave 16 = bo_ald 17 0 := rfl
theorem l_B_leave_17 : bh_tb T_B_leave 17 = bo_st 18 (bg_push (.inl (.int 0))) := rfl
theorem l_B_leave_18 : bh_tb T_B_leave 18 = bo_pI 21 5 3 := rfl
theorem l_B_leave_21 : bh_tb T_B_leave 21 = bo_vret 0 := rfl
theorem l_B_wiresTo_0 : bh_tb T_B_wiresTo 0 = bo_st 1 (bg_push (.inl (.int 0))) := rfl
theorem l_B_wiresTo_1 : bh_tb T_B_wiresTo 1 = bo_ist 2 2 := rfl
theorem l_B_wiresTo_2 : bh_tb T_B_wiresTo 2 = bo_st 3 (bg_push (.inl (.int 0))) := rfl
theorem l_B_wiresTo_3 : bh_tb T_B_wiresTo 3 = bo_ist 4 3 := rfl
theorem l_B_wiresTo_4 : bh_tb T_B_wiresTo 4 = bo_ild 5 3 := rfl
theorem l_B_wiresTo_5 : bh_tb T_B_wiresTo 5 = bo_st 6 (bg_push (.inl (.int 3))) := rfl
theorem l_B_wiresTo_6 : bh_tb T_B_wiresTo 6 = bo_if2 9 41 (fun x y => y ≤ x) := rfl
theorem l_B_wiresTo_9 : bh_tb T_B_wiresTo 9 = bo_ald 10 0 := rfl
theorem l_B_wiresTo_10 : bh_tb T_B_wiresTo 10 = bo_gR 13 5 2 6 := rfl
theorem l_B_wiresTo_13 : bh_tb T_B_wiresTo 13 = bo_ild 14 3 := rfl
theorem l_B_wiresTo_14 : bh_tb T_B_wiresTo 14 = bo_Iald bh_ak bh_al 15 := rfl
theorem l_B_wiresTo_15 : bh_tb T_B_wiresTo 15 = bo_st 16 (bg_push (.inl (.int (-1)))) := rfl
theorem l_B_wiresTo_16 : bh_tb T_B_wiresTo 16 = bo_if2 19 35 (fun x y => x = y) := rfl
theorem l_B_wiresTo_19 : bh_tb T_B_wiresTo 19 = bo_ald 20 0 := rfl
theorem l_B_wiresTo_20 : bh_tb T_B_wiresTo 20 = bo_gR 23 5 2 6 := rfl
theorem l_B_wiresTo_23 : bh_tb T_B_wiresTo 23 = bo_ild 24 3 := rfl
theorem l_B_wiresTo_24 : bh_tb T_B_wiresTo 24 = bo_Iald bh_ak bh_al 25 := rfl
theorem l_B_wiresTo_25 : bh_tb T_B_wiresTo 25 = bo_callS 28 1 0 0 F_H_ownerOf := rfl
theorem l_B_wiresTo_28 : bh_tb T_B_wiresTo 28 = bo_ild 29 1 := rfl
theorem l_B_wiresTo_29 : bh_tb T_B_wiresTo 29 = bo_if2 32 35 (fun x y => ¬ x = y) := rfl
theorem l_B_wiresTo_32 : bh_tb T_B_wiresTo 32 = bo_inc 35 2 1 := rfl
theorem l_B_wiresTo_35 : bh_tb T_B_wiresTo 35 = bo_inc 38 3 1 := rfl
theorem l_B_wiresTo_38 : bh_tb T_B_wiresTo 38 = bo_go 4 := rfl
theorem l_B_wiresTo_41 : bh_tb T_B_wiresTo 41 = bo_ild 42 2 := rfl
theorem l_B_wiresTo_42 : bh_tb T_B_wiresTo 42 = bo_iret 0 := rfl
theorem l_H_wiresOfOthersTo_0 : bh_tb T_H_wiresOfOthersTo 0 = bo_st 1 (bg_push (.inl (.int 0))) := rfl
theorem l_H_wiresOfOthersTo_1 : bh_tb T_H_wiresOfOthersTo 1 = bo_ist 2 2 := rfl
theorem l_H_wiresOfOthersTo_2 : bh_tb T_H_wiresOfOthersTo 2 = bo_st 3 (bg_push (.inl (.int 0))) := rfl
theorem l_H_wiresOfOthersTo_3 : bh_tb T_H_wiresOfOthersTo 3 = bo_ist 4 3 := rfl
theorem l_H_wiresOfOthersTo_4 : bh_tb T_H_wiresOfOthersTo 4 = bo_ild 5 3 := rfl
theorem l_H_wiresOfOthersTo_5 : bh_tb T_H_wiresOfOthersTo 5 = bo_st 7 (bg_push (.inl (.int 8))) := rfl
theorem l_H_wiresOfOthersTo_7 : bh_tb T_H_wiresOfOthersTo 7 = bo_if2 10 34 (fun x y => y ≤ x) := rfl
theorem l_H_wiresOfOthersTo_10 : bh_tb T_H_wiresOfOthersTo 10 = bo_ild 11 3 := rfl
theorem l_H_wiresOfOthersTo_11 : bh_tb T_H_wiresOfOthersTo 11 = bo_ild 12 1 := rfl
theorem l_H_wiresOfOthersTo_12 : bh_tb T_H_wiresOfOthersTo 12 = bo_if2 15 28 (fun x y => x = y) := rfl
theorem l_H_wiresOfOthersTo_15 : bh_tb T_H_wiresOfOthersTo 15 = bo_ild 16 2 := rfl
theorem l_H_wiresOfOthersTo_16 : bh_tb T_H_wiresOfOthersTo 16 = bo_ald 17 0 := rfl
theorem l_H_wiresOfOthersTo_17 : bh_tb T_H_wiresOfOthersTo 17 = bo_gR 20 3 0 4 := rfl
theorem l_H_wiresOfOthersTo_20 : bh_tb T_H_wiresOfOthersTo 20 = bo_ild 21 3 := rfl
theorem l_H_wiresOfOthersTo_21 : bh_tb T_H_wiresOfOthersTo 21 = bo_Rald bh_ak bh_al 22 := rfl
theorem l_H_wiresOfOthersTo_22 : bh_tb T_H_wiresOfOthersTo 22 = bo_ild 23 1 := rfl
theorem l_H_wiresOfOthersTo_23 : bh_tb T_H_wiresOfOthersTo 23 = bo_callV 26 2 0 0 5 F_B_wiresTo := rfl
theorem l_H_wiresOfOthersTo_26 : bh_tb T_H_wiresOfOthersTo 26 = bo_st 27 (bg_ii (fun x y => x + y)) := rfl
theorem l_H_wiresOfOthersTo_27 : bh_tb T_H_wiresOfOthersTo 27 = bo_ist 28 2 := rfl
theorem l_H_wiresOfOthersTo_28 : bh_tb T_H_wiresOfOthersTo 28 = bo_inc 31 3 1 := rfl
theorem l_H_wiresOfOthersTo_31 : bh_tb T_H_wiresOfOthersTo 31 = bo_go 4 := rfl
theorem l_H_wiresOfOthersTo_34 : bh_tb T_H_wiresOfOthersTo 34 = bo_ild 35 2 := rfl
theorem l_H_wiresOfOthersTo_35 : bh_tb T_H_wiresOfOthersTo 35 = bo_iret 0 := rfl
theorem l_H_uninstall_0 : bh_tb T_H_uninstall 0 = bo_ild 1 1 := rfl
theorem l_H_uninstall_1 : bh_tb T_H_uninstall 1 = bo_callS 4 1 1 2 F_H_checkBundle := rfl
theorem l_H_uninstall_4 : bh_tb T_H_uninstall 4 = bo_ald 5 0 := rfl
theorem l_H_uninstall_5 : bh_tb T_H_uninstall 5 = bo_ild 6 1 := rfl
theorem l_H_uninstall_6 : bh_tb T_H_uninstall 6 = bo_callV 9 2 1 2 3 F_H_present := rfl
theorem l_H_uninstall_9 : bh_tb T_H_uninstall 9 = bo_ast 10 2 := rfl
theorem l_H_uninstall_10 : bh_tb T_H_uninstall 10 = bo_ald 11 0 := rfl
theorem l_H_uninstall_11 : bh_tb T_H_uninstall 11 = bo_ald 12 2 := rfl
theorem l_H_uninstall_12 : bh_tb T_H_uninstall 12 = bo_callV 15 2 0 2 3 F_H_deactivate := rfl
theorem l_H_uninstall_15 : bh_tb T_H_uninstall 15 = bo_ald 16 2 := rfl
theorem l_H_uninstall_16 : bh_tb T_H_uninstall 16 = bo_callV 19 1 0 2 5 F_B_leave := rfl
theorem l_H_uninstall_19 : bh_tb T_H_uninstall 19 = bo_ald 20 0 := rfl
theorem l_H_uninstall_20 : bh_tb T_H_uninstall 20 = bo_ild 21 1 := rfl
theorem l_H_uninstall_21 : bh_tb T_H_uninstall 21 = bo_callV 24 2 0 2 3 F_H_wiresOfOthersTo := rfl
theorem l_H_uninstall_24 : bh_tb T_H_uninstall 24 = bo_iret 2 := rfl
theorem l_H_update_0 : bh_tb T_H_update 0 = bo_ild 1 1 := rfl
theorem l_H_update_1 : bh_tb T_H_update 1 = bo_callS 4 1 1 2 F_H_checkBundle := rfl
theorem l_H_update_4 : bh_tb T_H_update 4 = bo_ald 5 0 := rfl
theorem l_H_update_5 : bh_tb T_H_update 5 = bo_ild 6 1 := rfl
theorem l_H_update_6 : bh_tb T_H_update 6 = bo_callV 9 2 1 2 3 F_H_present := rfl
theorem l_H_update_9 : bh_tb T_H_update 9 = bo_ast 10 2 := rfl
theorem l_H_update_10 : bh_tb T_H_update 10 = bo_ald 11 0 := rfl
theorem l_H_update_11 : bh_tb T_H_update 11 = bo_ald 12 2 := rfl
theorem l_H_update_12 : bh_tb T_H_update 12 = bo_callV 15 2 0 2 3 F_H_deactivate := rfl
theorem l_H_update_15 : bh_tb T_H_update 15 = bo_ald 16 2 := rfl
theorem l_H_update_16 : bh_tb T_H_update 16 = bo_callV 19 1 0 2 5 F_B_beginNewLife := rfl
theorem l_H_update_19 : bh_tb T_H_update 19 = bo_ald 20 0 := rfl
theorem l_H_update_20 : bh_tb T_H_update 20 = bo_ild 21 1 := rfl
theorem l_H_update_21 : bh_tb T_H_update 21 = bo_callV 24 2 0 2 3 F_H_wiresOfOthersTo := rfl
theorem l_H_update_24 : bh_tb T_H_update 24 = bo_iret 2 := rfl
theorem l_H_checkRank_0 : bh_tb T_H_checkRank 0 = bo_dld 1 0 := rfl
theorem l_H_checkRank_1 : bh_tb T_H_checkRank 1 = bo_st 4 (bg_push (.inl (.double 13875379345695965184))) := rfl
theorem l_H_checkRank_4 : bh_tb T_H_checkRank 4 = bo_st 5 (bg_dc (fun x y => Op.cmpValue (FP.dcmp x y) .l)) := rfl
theorem l_H_checkRank_5 : bh_tb T_H_checkRank 5 = bo_if1 8 16 (fun x => x < 0) := rfl
theorem l_H_checkRank_8 : bh_tb T_H_checkRank 8 = bo_dld 9 0 := rfl
theorem l_H_checkRank_9 : bh_tb T_H_checkRank 9 = bo_st 12 (bg_push (.inl (.double 4652007308841189376))) := rfl
theorem l_H_checkRank_12 : bh_tb T_H_checkRank 12 = bo_st 13 (bg_dc (fun x y => Op.cmpValue (FP.dcmp x y) .g)) := rfl
theorem l_H_checkRank_13 : bh_tb T_H_checkRank 13 = bo_if1 16 27 (fun x => x ≤ 0) := rfl
theorem l_H_checkRank_16 : bh_tb T_H_checkRank 16 = bo_thr 1 "java/lang/IllegalArgumentException" := rfl
theorem l_H_checkRank_27 : bh_tb T_H_checkRank 27 = bo_vret 1 := rfl
theorem l_H_checkActive_0 : bh_tb T_H_checkActive 0 = bo_ald 1 0 := rfl
theorem l_H_checkActive_1 : bh_tb T_H_checkActive 1 = bo_gI 4 5 3 := rfl
theorem l_H_checkActive_4 : bh_tb T_H_checkActive 4 = bo_st 5 (bg_push (.inl (.int 3))) := rfl
theorem l_H_checkActive_5 : bh_tb T_H_checkActive 5 = bo_if2 8 19 (fun x y => x = y) := rfl
theorem l_H_checkActive_8 : bh_tb T_H_checkActive 8 = bo_thr 1 "java/lang/IllegalStateException" := rfl
theorem l_H_checkActive_19 : bh_tb T_H_checkActive 19 = bo_vret 1 := rfl
theorem l_H_register_0 : bh_tb T_H_register 0 = bo_ild 1 1 := rfl
theorem l_H_register_1 : bh_tb T_H_register 1 = bo_callS 4 1 1 6 F_H_checkBundle := rfl
theorem l_H_register_4 : bh_tb T_H_register 4 = bo_ild 5 2 := rfl
theorem l_H_register_5 : bh_tb T_H_register 5 = bo_st 6 (bg_push (.inl (.int 0))) := rfl
theorem l_H_register_6 : bh_tb T_H_register 6 = bo_st 7 (bg_push (.inl (.int 3))) := rfl
theorem l_H_register_7 : bh_tb T_H_register 7 = bo_callS 10 3 1 6 F_H_checkRange := rfl
theorem l_H_register_10 : bh_tb T_H_register 10 = bo_dld 11 3 := rfl
theorem l_H_register_11 : bh_tb T_H_register 11 = bo_callS 14 1 1 6 F_H_checkRank := rfl
theorem l_H_register_14 : bh_tb T_H_register 14 = bo_ald 15 0 := rfl
theorem l_H_register_15 : bh_tb T_H_register 15 = bo_ild 16 1 := rfl
theorem l_H_register_16 : bh_tb T_H_register 16 = bo_callV 19 2 1 6 3 F_H_present := rfl
theorem l_H_register_19 : bh_tb T_H_register 19 = bo_callS 22 1 1 6 F_H_checkActive := rfl
theorem l_H_register_22 : bh_tb T_H_register 22 = bo_ald 23 0 := rfl
theorem l_H_register_23 : bh_tb T_H_register 23 = bo_gR 26 3 2 19 := rfl
theorem l_H_register_26 : bh_tb T_H_register 26 = bo_callV 29 1 0 6 19 F_V_isFull := rfl
theorem l_H_register_29 : bh_tb T_H_register 29 = bo_if1 32 42 (fun x => x = 0) := rfl
theorem l_H_register_32 : bh_tb T_H_register 32 = bo_thr 6 "java/lang/UnsupportedOperationException" := rfl
theorem l_H_register_42 : bh_tb T_H_register 42 = bo_ald 43 0 := rfl
theorem l_H_register_43 : bh_tb T_H_register 43 = bo_ild 44 1 := rfl
theorem l_H_register_44 : bh_tb T_H_register 44 = bo_ild 45 2 := rfl
theorem l_H_register_45 : bh_tb T_H_register 45 = bo_dld 46 3 := rfl
theorem l_H_register_46 : bh_tb T_H_register 46 = bo_callV 49 4 0 6 3 F_H_addService := rfl
theorem l_H_register_49 : bh_tb T_H_register 49 = bo_iret 6 := rfl
theorem l_H_get_0 : bh_tb T_H_get 0 = bo_ild 1 1 := rfl
theorem l_H_get_1 : bh_tb T_H_get 1 = bo_callS 4 1 1 5 F_H_checkBundle := rfl
theorem l_H_get_4 : bh_tb T_H_get 4 = bo_ild 5 2 := rfl
theorem l_H_get_5 : bh_tb T_H_get 5 = bo_st 6 (bg_push (.inl (.int 0))) := rfl
theorem l_H_get_6 : bh_tb T_H_get 6 = bo_st 7 (bg_push (.inl (.int 3))) := rfl
theorem l_H_get_7 : bh_tb T_H_get 7 = bo_callS 10 3 1 5 F_H_checkRange := rfl
theorem l_H_get_10 : bh_tb T_H_get 10 = bo_ald 11 0 := rfl
theorem l_H_get_11 : bh_tb T_H_get 11 = bo_ild 12 1 := rfl
theorem l_H_get_12 : bh_tb T_H_get 12 = bo_callV 15 2 1 5 3 F_H_present := rfl
theorem l_H_get_15 : bh_tb T_H_get 15 = bo_callS 18 1 1 5 F_H_checkActive := rfl
theorem l_H_get_18 : bh_tb T_H_get 18 = bo_ald 19 0 := rfl
theorem l_H_get_19 : bh_tb T_H_get 19 = bo_gR 22 3 2 19 := rfl
theorem l_H_get_22 : bh_tb T_H_get 22 = bo_ild 23 2 := rfl
theorem l_H_get_23 : bh_tb T_H_get 23 = bo_callV 26 2 0 5 19 F_V_bestRow := rfl
theorem l_H_get_26 : bh_tb T_H_get 26 = bo_ist 27 3 := rfl
theorem l_H_get_27 : bh_tb T_H_get 27 = bo_ild 28 3 := rfl
theorem l_H_get_28 : bh_tb T_H_get 28 = bo_st 29 (bg_push (.inl (.int (-1)))) := rfl
theorem l_H_get_29 : bh_tb T_H_get 29 = bo_if2 32 42 (fun x y => ¬ x = y) := rfl
theorem l_H_get_32 : bh_tb T_H_get 32 = bo_thr 5 "java/lang/UnsupportedOperationException" := rfl
theorem l_H_get_42 : bh_tb T_H_get 42 = bo_ald 43 0 := rfl
theorem l_H_get_43 : bh_tb T_H_get 43 = bo_gR 46 3 2 19 := rfl
theorem l_H_get_46 : bh_tb T_H_get 46 = bo_gR 49 19 0 20 := rfl
theorem l_H_get_49 : bh_tb T_H_get 49 = bo_ild 50 3 := rfl
theorem l_H_get_50 : bh_tb T_H_get 50 = bo_Rald bh_ak bh_al 51 := rfl
theorem l_H_get_51 : bh_tb T_H_get 51 = bo_gR 54 21 0 22 := rfl
theorem l_H_get_54 : bh_tb T_H_get 54 = bo_ild 55 1 := rfl
theorem l_H_get_55 : bh_tb T_H_get 55 = bo_st 56 bg_dup2 := rfl
theorem l_H_get_56 : bh_tb T_H_get 56 = bo_Iald bh_ak bh_al 57 := rfl
theorem l_H_get_57 : bh_tb T_H_get 57 = bo_st 58 (bg_push (.inl (.int 1))) := rfl
theorem l_H_get_58 : bh_tb T_H_get 58 = bo_st 59 (bg_ii (fun x y => x + y)) := rfl
theorem l_H_get_59 : bh_tb T_H_get 59 = bo_Iast bh_ak bh_al 60 := rfl
theorem l_H_get_60 : bh_tb T_H_get 60 = bo_ald 61 0 := rfl
theorem l_H_get_61 : bh_tb T_H_get 61 = bo_gR 64 3 2 19 := rfl
theorem l_H_get_64 : bh_tb T_H_get 64 = bo_gR 67 19 0 20 := rfl
theorem l_H_get_67 : bh_tb T_H_get 67 = bo_ild 68 3 := rfl
theorem l_H_get_68 : bh_tb T_H_get 68 = bo_Rald bh_ak bh_al 69 := rfl
theorem l_H_get_69 : bh_tb T_H_get 69 = bo_gI 72 21 1 := rfl
theorem l_H_get_72 : bh_tb T_H_get 72 = bo_iret 5 := rfl
theorem l_H_checkService_0 : bh_tb T_H_checkService 0 = bo_ild 1 0 := rfl
theorem l_H_checkService_1 : bh_tb T_H_checkService 1 = bo_if1 4 15 (fun x => 0 ≤ x) := rfl
theorem l_H_checkService_4 : bh_tb T_H_checkService 4 = bo_thr 1 "java/lang/IllegalArgumentException" := rfl
theorem l_H_checkService_15 : bh_tb T_H_checkService 15 = bo_vret 1 := rfl
theorem l_V_rowOf_0 : bh_tb T_V_rowOf 0 = bo_st 1 (bg_push (.inl (.int 0))) := rfl
theorem l_V_rowOf_1 : bh_tb T_V_rowOf 1 = bo_ist 2 2 := rfl
theorem l_V_rowOf_2 : bh_tb T_V_rowOf 2 = bo_ild 3 2 := rfl
theorem l_V_rowOf_3 : bh_tb T_V_rowOf 3 = bo_ald 4 0 := rfl
theorem l_V_rowOf_4 : bh_tb T_V_rowOf 4 = bo_gI 7 19 1 := rfl
theorem l_V_rowOf_7 : bh_tb T_V_rowOf 7 = bo_if2 10 31 (fun x y => y ≤ x) := rfl
theorem l_V_rowOf_10 : bh_tb T_V_rowOf 10 = bo_ald 11 0 := rfl
theorem l_V_rowOf_11 : bh_tb T_V_rowOf 11 = bo_gR 14 19 0 20 := rfl
theorem l_V_rowOf_14 : bh_tb T_V_rowOf 14 = bo_ild 15 2 := rfl
theorem l_V_rowOf_15 : bh_tb T_V_rowOf 15 = bo_Rald bh_ak bh_al 16 := rfl
theorem l_V_rowOf_16 : bh_tb T_V_rowOf 16 = bo_gI 19 21 1 := rfl
theorem l_V_rowOf_19 : bh_tb T_V_rowOf 19 = bo_ild 20 1 := rfl
theorem l_V_rowOf_20 : bh_tb T_V_rowOf 20 = bo_if2 23 25 (fun x y => ¬ x = y) := rfl
theorem l_V_rowOf_23 : bh_tb T_V_rowOf 23 = bo_ild 24 2 := rfl
theorem l_V_rowOf_24 : bh_tb T_V_rowOf 24 = bo_iret 0 := rfl
theorem l_V_rowOf_25 : bh_tb T_V_rowOf 25 = bo_inc 28 2 1 := rfl
theorem l_V_rowOf_28 : bh_tb T_V_rowOf 28 = bo_go 2 := rfl
theorem l_V_rowOf_31 : bh_tb T_V_rowOf 31 = bo_st 32 (bg_push (.inl (.int (-1)))) := rfl
theorem l_V_rowOf_32 : bh_tb T_V_rowOf 32 = bo_iret 0 := rfl
theorem l_H_giveBack_0 : bh_tb T_H_giveBack 0 = bo_ild 1 1 := rfl
theorem l_H_giveBack_1 : bh_tb T_H_giveBack 1 = bo_callS 4 1 1 4 F_H_checkBundle := rfl
theorem l_H_giveBack_4 : bh_tb T_H_giveBack 4 = bo_ild 5 2 := rfl
theorem l_H_giveBack_5 : bh_tb T_H_giveBack 5 = bo_callS 8 1 1 4 F_H_checkService := rfl
theorem l_H_giveBack_8 : bh_tb T_H_giveBack 8 = bo_ald 9 0 := rfl
theorem l_H_giveBack_9 : bh_tb T_H_giveBack 9 = bo_ild 10 1 := rfl
theorem l_H_giveBack_10 : bh_tb T_H_giveBack 10 = bo_callV 13 2 1 4 3 F_H_present := rfl
theorem l_H_giveBack_13 : bh_tb T_H_giveBack 13 = bo_st 14 bg_pop := rfl
theorem l_H_giveBack_14 : bh_tb T_H_giveBack 14 = bo_ald 15 0 := rfl
theorem l_H_giveBack_15 : bh_tb T_H_giveBack 15 = bo_gR 18 3 2 19 := rfl
theorem l_H_giveBack_18 : bh_tb T_H_giveBack 18 = bo_ild 19 2 := rfl
theorem l_H_giveBack_19 : bh_tb T_H_giveBack 19 = bo_callV 22 2 0 4 19 F_V_rowOf := rfl
theorem l_H_giveBack_22 : bh_tb T_H_giveBack 22 = bo_ist 23 3 := rfl
theorem l_H_giveBack_23 : bh_tb T_H_giveBack 23 = bo_ild 24 3 := rfl
theorem l_H_giveBack_24 : bh_tb T_H_giveBack 24 = bo_st 25 (bg_push (.inl (.int (-1)))) := rfl
theorem l_H_giveBack_25 : bh_tb T_H_giveBack 25 = bo_if2 28 45 (fun x y => x = y) := rfl
theorem l_H_giveBack_28 : bh_tb T_H_giveBack 28 = bo_ald 29 0 := rfl
theorem l_H_giveBack_29 : bh_tb T_H_giveBack 29 = bo_gR 32 3 2 19 := rfl
theorem l_H_giveBack_32 : bh_tb T_H_giveBack 32 = bo_gR 35 19 0 20 := rfl
theorem l_H_giveBack_35 : bh_tb T_H_giveBack 35 = bo_ild 36 3 := rfl
theorem l_H_giveBack_36 : bh_tb T_H_giveBack 36 = bo_Rald bh_ak bh_al 37 := rfl
theorem l_H_giveBack_37 : bh_tb T_H_giveBack 37 = bo_gR 40 21 0 22 := rfl
theorem l_H_giveBack_40 : bh_tb T_H_giveBack 40 = bo_ild 41 1 := rfl
theorem l_H_giveBack_41 : bh_tb T_H_giveBack 41 = bo_Iald bh_ak bh_al 42 := rfl
theorem l_H_giveBack_42 : bh_tb T_H_giveBack 42 = bo_if1 45 55 (fun x => ¬ x = 0) := rfl
theorem l_H_giveBack_45 : bh_tb T_H_giveBack 45 = bo_thr 4 "java/lang/UnsupportedOperationException" := rfl
theorem l_H_giveBack_55 : bh_tb T_H_giveBack 55 = bo_ald 56 0 := rfl
theorem l_H_giveBack_56 : bh_tb T_H_giveBack 56 = bo_gR 59 3 2 19 := rfl
theorem l_H_giveBack_59 : bh_tb T_H_giveBack 59 = bo_gR 62 19 0 20 := rfl
theorem l_H_giveBack_62 : bh_tb T_H_giveBack 62 = bo_ild 63 3 := rfl
theorem l_H_giveBack_63 : bh_tb T_H_giveBack 63 = bo_Rald bh_ak bh_al 64 := rfl
theorem l_H_giveBack_64 : bh_tb T_H_giveBack 64 = bo_gR 67 21 0 22 := rfl
theorem l_H_giveBack_67 : bh_tb T_H_giveBack 67 = bo_ild 68 1 := rfl
theorem l_H_giveBack_68 : bh_tb T_H_giveBack 68 = bo_st 69 bg_dup2 := rfl
theorem l_H_giveBack_69 : bh_tb T_H_giveBack 69 = bo_Iald bh_ak bh_al 70 := rfl
theorem l_H_giveBack_70 : bh_tb T_H_giveBack 70 = bo_st 71 (bg_push (.inl (.int 1))) := rfl
theorem l_H_giveBack_71 : bh_tb T_H_giveBack 71 = bo_st 72 (bg_ii (fun x y => x - y)) := rfl
theorem l_H_giveBack_72 : bh_tb T_H_giveBack 72 = bo_Iast bh_ak bh_al 73 := rfl
theorem l_H_giveBack_73 : bh_tb T_H_giveBack 73 = bo_ald 74 0 := rfl
theorem l_H_giveBack_74 : bh_tb T_H_giveBack 74 = bo_gR 77 3 2 19 := rfl
theorem l_H_giveBack_77 : bh_tb T_H_giveBack 77 = bo_gR 80 19 0 20 := rfl
theorem l_H_giveBack_80 : bh_tb T_H_giveBack 80 = bo_ild 81 3 := rfl
theorem l_H_giveBack_81 : bh_tb T_H_giveBack 81 = bo_Rald bh_ak bh_al 82 := rfl
theorem l_H_giveBack_82 : bh_tb T_H_giveBack 82 = bo_gR 85 21 0 22 := rfl
theorem l_H_giveBack_85 : bh_tb T_H_giveBack 85 = bo_ild 86 1 := rfl
theorem l_H_giveBack_86 : bh_tb T_H_giveBack 86 = bo_Iald bh_ak bh_al 87 := rfl
theorem l_H_giveBack_87 : bh_tb T_H_giveBack 87 = bo_iret 4 := rfl
theorem l_S_gotByAll_0 : bh_tb T_S_gotByAll 0 = bo_st 1 (bg_push (.inl (.int 0))) := rfl
theorem l_S_gotByAll_1 : bh_tb T_S_gotByAll 1 = bo_ist 2 1 := rfl
theorem l_S_gotByAll_2 : bh_tb T_S_gotByAll 2 = bo_st 3 (bg_push (.inl (.int 0))) := rfl
theorem l_S_gotByAll_3 : bh_tb T_S_gotByAll 3 = bo_ist 4 2 := rfl
theorem l_S_gotByAll_4 : bh_tb T_S_gotByAll 4 = bo_ild 5 2 := rfl
theorem l_S_gotByAll_5 : bh_tb T_S_gotByAll 5 = bo_st 7 (bg_push (.inl (.int 8))) := rfl
theorem l_S_gotByAll_7 : bh_tb T_S_gotByAll 7 = bo_if2 10 25 (fun x y => y ≤ x) := rfl
theorem l_S_gotByAll_10 : bh_tb T_S_gotByAll 10 = bo_ild 11 1 := rfl
theorem l_S_gotByAll_11 : bh_tb T_S_gotByAll 11 = bo_ald 12 0 := rfl
theorem l_S_gotByAll_12 : bh_tb T_S_gotByAll 12 = bo_gR 15 21 0 22 := rfl
theorem l_S_gotByAll_15 : bh_tb T_S_gotByAll 15 = bo_ild 16 2 := rfl
theorem l_S_gotByAll_16 : bh_tb T_S_gotByAll 16 = bo_Iald bh_ak bh_al 17 := rfl
theorem l_S_gotByAll_17 : bh_tb T_S_gotByAll 17 = bo_st 18 (bg_ii (fun x y => x + y)) := rfl
theorem l_S_gotByAll_18 : bh_tb T_S_gotByAll 18 = bo_ist 19 1 := rfl
theorem l_S_gotByAll_19 : bh_tb T_S_gotByAll 19 = bo_inc 22 2 1 := rfl
theorem l_S_gotByAll_22 : bh_tb T_S_gotByAll 22 = bo_go 4 := rfl
theorem l_S_gotByAll_25 : bh_tb T_S_gotByAll 25 = bo_ild 26 1 := rfl
theorem l_S_gotByAll_26 : bh_tb T_S_gotByAll 26 = bo_iret 0 := rfl
theorem l_H_unregister_0 : bh_tb T_H_unregister 0 = bo_ild 1 1 := rfl
theorem l_H_unregister_1 : bh_tb T_H_unregister 1 = bo_callS 4 1 1 4 F_H_checkBundle := rfl
theorem l_H_unregister_4 : bh_tb T_H_unregister 4 = bo_ild 5 2 := rfl
theorem l_H_unregister_5 : bh_tb T_H_unregister 5 = bo_callS 8 1 1 4 F_H_checkService := rfl
theorem l_H_unregister_8 : bh_tb T_H_unregister 8 = bo_ald 9 0 := rfl
theorem l_H_unregister_9 : bh_tb T_H_unregister 9 = bo_ild 10 1 := rfl
theorem l_H_unregister_10 : bh_tb T_H_unregister 10 = bo_callV 13 2 1 4 3 F_H_present := rfl
theorem l_H_unregister_13 : bh_tb T_H_unregister 13 = bo_st 14 bg_pop := rfl
theorem l_H_unregister_14 : bh_tb T_H_unregister 14 = bo_ald 15 0 := rfl
theorem l_H_unregister_15 : bh_tb T_H_unregister 15 = bo_gR 18 3 2 19 := rfl
theorem l_H_unregister_18 : bh_tb T_H_unregister 18 = bo_ild 19 2 := rfl
theorem l_H_unregister_19 : bh_tb T_H_unregister 19 = bo_callV 22 2 0 4 19 F_V_rowOf := rfl
theorem l_H_unregister_22 : bh_tb T_H_unregister 22 = bo_ist 23 3 := rfl
theorem l_H_unregister_23 : bh_tb T_H_unregister 23 = bo_ild 24 3 := rfl
theorem l_H_unregister_24 : bh_tb T_H_unregister 24 = bo_st 25 (bg_push (.inl (.int (-1)))) := rfl
theorem l_H_unregister_25 : bh_tb T_H_unregister 25 = bo_if2 28 44 (fun x y => x = y) := rfl
theorem l_H_unregister_28 : bh_tb T_H_unregister 28 = bo_ald 29 0 := rfl
theorem l_H_unregister_29 : bh_tb T_H_unregister 29 = bo_gR 32 3 2 19 := rfl
theorem l_H_unregister_32 : bh_tb T_H_unregister 32 = bo_gR 35 19 0 20 := rfl
theorem l_H_unregister_35 : bh_tb T_H_unregister 35 = bo_ild 36 3 := rfl
theorem l_H_unregister_36 : bh_tb T_H_unregister 36 = bo_Rald bh_ak bh_al 37 := rfl
theorem l_H_unregister_37 : bh_tb T_H_unregister 37 = bo_gI 40 21 2 := rfl
theorem l_H_unregister_40 : bh_tb T_H_unregister 40 = bo_ild 41 1 := rfl
theorem l_H_unregister_41 : bh_tb T_H_unregister 41 = bo_if2 44 54 (fun x y => x = y) := rfl
theorem l_H_unregister_44 : bh_tb T_H_unregister 44 = bo_thr 4 "java/lang/UnsupportedOperationException" := rfl
theorem l_H_unregister_54 : bh_tb T_H_unregister 54 = bo_ald 55 0 := rfl
theorem l_H_unregister_55 : bh_tb T_H_unregister 55 = bo_gR 58 3 2 19 := rfl
theorem l_H_unregister_58 : bh_tb T_H_unregister 58 = bo_gR 61 19 0 20 := rfl
theorem l_H_unregister_61 : bh_tb T_H_unregister 61 = bo_ild 62 3 := rfl
theorem l_H_unregister_62 : bh_tb T_H_unregister 62 = bo_Rald bh_ak bh_al 63 := rfl
theorem l_H_unregister_63 : bh_tb T_H_unregister 63 = bo_callV 66 1 0 4 21 F_S_gotByAll := rfl
theorem l_H_unregister_66 : bh_tb T_H_unregister 66 = bo_ist 68 4 := rfl
theorem l_H_unregister_68 : bh_tb T_H_unregister 68 = bo_ald 69 0 := rfl
theorem l_H_unregister_69 : bh_tb T_H_unregister 69 = bo_ild 70 3 := rfl
theorem l_H_unregister_70 : bh_tb T_H_unregister 70 = bo_callV 73 2 0 4 3 F_H_dropService := rfl
theorem l_H_unregister_73 : bh_tb T_H_unregister 73 = bo_ild 75 4 := rfl
theorem l_H_unregister_75 : bh_tb T_H_unregister 75 = bo_iret 4 := rfl
theorem l_V_ofKind_0 : bh_tb T_V_ofKind 0 = bo_st 1 (bg_push (.inl (.int 0))) := rfl
theorem l_V_ofKind_1 : bh_tb T_V_ofKind 1 = bo_ist 2 2 := rfl
theorem l_V_ofKind_2 : bh_tb T_V_ofKind 2 = bo_st 3 (bg_push (.inl (.int 0))) := rfl
theorem l_V_ofKind_3 : bh_tb T_V_ofKind 3 = bo_ist 4 3 := rfl
theorem l_V_ofKind_4 : bh_tb T_V_ofKind 4 = bo_ild 5 3 := rfl
theorem l_V_ofKind_5 : bh_tb T_V_ofKind 5 = bo_ald 6 0 := rfl
theorem l_V_ofKind_6 : bh_tb T_V_ofKind 6 = bo_gI 9 19 1 := rfl
theorem l_V_ofKind_9 : bh_tb T_V_ofKind 9 = bo_if2 12 34 (fun x y => y ≤ x) := rfl
theorem l_V_ofKind_12 : bh_tb T_V_ofKind 12 = bo_ald 13 0 := rfl
theorem l_V_ofKind_13 : bh_tb T_V_ofKind 13 = bo_gR 16 19 0 20 := rfl
theorem l_V_ofKind_16 : bh_tb T_V_ofKind 16 = bo_ild 17 3 := rfl
theorem l_V_ofKind_17 : bh_tb T_V_ofKind 17 = bo_Rald bh_ak bh_al 18 := rfl
theorem l_V_ofKind_18 : bh_tb T_V_ofKind 18 = bo_gI 21 21 3 := rfl
theorem l_V_ofKind_21 : bh_tb T_V_ofKind 21 = bo_ild 22 1 := rfl
theorem l_V_ofKind_22 : bh_tb T_V_ofKind 22 = bo_if2 25 28 (fun x y => ¬ x = y) := rfl
theorem l_V_ofKind_25 : bh_tb T_V_ofKind 25 = bo_inc 28 2 1 := rfl
theorem l_V_ofKind_28 : bh_tb T_V_ofKind 28 = bo_inc 31 3 1 := rfl
theorem l_V_ofKind_31 : bh_tb T_V_ofKind 31 = bo_go 4 := rfl
theorem l_V_ofKind_34 : bh_tb T_V_ofKind 34 = bo_ild 35 2 := rfl
theorem l_V_ofKind_35 : bh_tb T_V_ofKind 35 = bo_iret 0 := rfl
theorem l_V_sumOfRanks_0 : bh_tb T_V_sumOfRanks 0 = bo_st 1 (bg_push (.inl (.double FP.dconst0))) := rfl
theorem l_V_sumOfRanks_1 : bh_tb T_V_sumOfRanks 1 = bo_dst 2 2 := rfl
theorem l_V_sumOfRanks_2 : bh_tb T_V_sumOfRanks 2 = bo_st 3 (bg_push (.inl (.int 0))) := rfl
theorem l_V_sumOfRanks_3 : bh_tb T_V_sumOfRanks 3 = bo_ist 5 4 := rfl
theorem l_V_sumOfRanks_5 : bh_tb T_V_sumOfRanks 5 = bo_ild 7 4 := rfl
theorem l_V_sumOfRanks_7 : bh_tb T_V_sumOfRanks 7 = bo_ald 8 0 := rfl
theorem l_V_sumOfRanks_8 : bh_tb T_V_sumOfRanks 8 = bo_gI 11 19 1 := rfl
theorem l_V_sumOfRanks_11 : bh_tb T_V_sumOfRanks 11 = bo_if2 14 47 (fun x y => y ≤ x) := rfl
theorem l_V_sumOfRanks_14 : bh_tb T_V_sumOfRanks 14 = bo_ald 15 0 := rfl
theorem l_V_sumOfRanks_15 : bh_tb T_V_sumOfRanks 15 = bo_gR 18 19 0 20 := rfl
theorem l_V_sumOfRanks_18 : bh_tb T_V_sumOfRanks 18 = bo_ild 20 4 := rfl
theorem l_V_sumOfRanks_20 : bh_tb T_V_sumOfRanks 20 = bo_Rald bh_ak bh_al 21 := rfl
theorem l_V_sumOfRanks_21 : bh_tb T_V_sumOfRanks 21 = bo_gI 24 21 3 := rfl
theorem l_V_sumOfRanks_24 : bh_tb T_V_sumOfRanks 24 = bo_ild 25 1 := rfl
theorem l_V_sumOfRanks_25 : bh_tb T_V_sumOfRanks 25 = bo_if2 28 41 (fun x y => ¬ x = y) := rfl
theorem l_V_sumOfRanks_28 : bh_tb T_V_sumOfRanks 28 = bo_dld 29 2 := rfl
theorem l_V_sumOfRanks_29 : bh_tb T_V_sumOfRanks 29 = bo_ald 30 0 := rfl
theorem l_V_sumOfRanks_30 : bh_tb T_V_sumOfRanks 30 = bo_gR 33 19 0 20 := rfl
theorem l_V_sumOfRanks_33 : bh_tb T_V_sumOfRanks 33 = bo_ild 35 4 := rfl
theorem l_V_sumOfRanks_35 : bh_tb T_V_sumOfRanks 35 = bo_Rald bh_ak bh_al 36 := rfl
theorem l_V_sumOfRanks_36 : bh_tb T_V_sumOfRanks 36 = bo_gD 39 21 4 := rfl
theorem l_V_sumOfRanks_39 : bh_tb T_V_sumOfRanks 39 = bo_st 40 (bg_dd FP.dadd) := rfl
theorem l_V_sumOfRanks_40 : bh_tb T_V_sumOfRanks 40 = bo_dst 41 2 := rfl
theorem l_V_sumOfRanks_41 : bh_tb T_V_sumOfRanks 41 = bo_inc 44 4 1 := rfl
theorem l_V_sumOfRanks_44 : bh_tb T_V_sumOfRanks 44 = bo_go 5 := rfl
theorem l_V_sumOfRanks_47 : bh_tb T_V_sumOfRanks 47 = bo_dld 48 2 := rfl
theorem l_V_sumOfRanks_48 : bh_tb T_V_sumOfRanks 48 = bo_dret 0 := rfl
theorem l_H_rank_0 : bh_tb T_H_rank 0 = bo_ild 1 1 := rfl
theorem l_H_rank_1 : bh_tb T_H_rank 1 = bo_st 2 (bg_push (.inl (.int 0))) := rfl
theorem l_H_rank_2 : bh_tb T_H_rank 2 = bo_st 3 (bg_push (.inl (.int 3))) := rfl
theorem l_H_rank_3 : bh_tb T_H_rank 3 = bo_callS 6 3 1 2 F_H_checkRange := rfl
theorem l_H_rank_6 : bh_tb T_H_rank 6 = bo_ald 7 0 := rfl
theorem l_H_rank_7 : bh_tb T_H_rank 7 = bo_gR 10 3 2 19 := rfl
theorem l_H_rank_10 : bh_tb T_H_rank 10 = bo_ild 11 1 := rfl
theorem l_H_rank_11 : bh_tb T_H_rank 11 = bo_callV 14 2 0 2 19 F_V_ofKind := rfl
theorem l_H_rank_14 : bh_tb T_H_rank 14 = bo_ist 15 2 := rfl
theorem l_H_rank_15 : bh_tb T_H_rank 15 = bo_ild 16 2 := rfl
theorem l_H_rank_16 : bh_tb T_H_rank 16 = bo_if1 19 29 (fun x => ¬ x = 0) := rfl
theorem l_H_rank_19 : bh_tb T_H_rank 19 = bo_thr 2 "java/lang/ArithmeticException" := rfl
theorem l_H_rank_29 : bh_tb T_H_rank 29 = bo_ald 30 0 := rfl
theorem l_H_rank_30 : bh_tb T_H_rank 30 = bo_gR 33 3 2 19 := rfl
theorem l_H_rank_33 : bh_tb T_H_rank 33 = bo_ild 34 1 := rfl
theorem l_H_rank_34 : bh_tb T_H_rank 34 = bo_callV 37 2 0 2 19 F_V_sumOfRanks := rfl
theorem l_H_rank_37 : bh_tb T_H_rank 37 = bo_ild 38 2 := rfl
theorem l_H_rank_38 : bh_tb T_H_rank 38 = bo_st 39 (bg_i1 (fun x => .inl (.double (FP.i2d x)))) := rfl
theorem l_H_rank_39 : bh_tb T_H_rank 39 = bo_st 40 (bg_dd FP.ddiv) := rfl
theorem l_H_rank_40 : bh_tb T_H_rank 40 = bo_dret 2 := rfl
theorem l_E_takeOldest_0 : bh_tb T_E_takeOldest 0 = bo_ald 1 0 := rfl
theorem l_E_takeOldest_1 : bh_tb T_E_takeOldest 1 = bo_gR 4 23 0 24 := rfl
theorem l_E_takeOldest_4 : bh_tb T_E_takeOldest 4 = bo_ald 5 0 := rfl
theorem l_E_takeOldest_5 : bh_tb T_E_takeOldest 5 = bo_gI 8 23 1 := rfl
theorem l_E_takeOldest_8 : bh_tb T_E_takeOldest 8 = bo_Iald bh_ak bh_al 9 := rfl
theorem l_E_takeOldest_9 : bh_tb T_E_takeOldest 9 = bo_ist 10 1 := rfl
theorem l_E_takeOldest_10 : bh_tb T_E_takeOldest 10 = bo_ald 11 0 := rfl
theorem l_E_takeOldest_11 : bh_tb T_E_takeOldest 11 = bo_ald 12 0 := rfl
theorem l_E_takeOldest_12 : bh_tb T_E_takeOldest 12 = bo_gI 15 23 1 := rfl
theorem l_E_takeOldest_15 : bh_tb T_E_takeOldest 15 = bo_st 16 (bg_push (.inl (.int 1))) := rfl
theorem l_E_takeOldest_16 : bh_tb T_E_takeOldest 16 = bo_st 17 (bg_ii (fun x y => x + y)) := rfl
theorem l_E_takeOldest_17 : bh_tb T_E_takeOldest 17 = bo_st 19 (bg_push (.inl (.int 10))) := rfl
theorem l_E_takeOldest_19 : bh_tb T_E_takeOldest 19 = bo_st 20 (bg_dv (fun x y => x - x / y * y)) := rfl
theorem l_E_takeOldest_20 : bh_tb T_E_takeOldest 20 = bo_pI 23 23 1 := rfl
theorem l_E_takeOldest_23 : bh_tb T_E_takeOldest 23 = bo_ald 24 0 := rfl
theorem l_E_takeOldest_24 : bh_tb T_E_takeOldest 24 = bo_st 25 bg_dup := rfl
theorem l_E_takeOldest_25 : bh_tb T_E_takeOldest 25 = bo_gI 28 23 2 := rfl
theorem l_E_takeOldest_28 : bh_tb T_E_takeOldest 28 = bo_st 29 (bg_push (.inl (.int 1))) := rfl
theorem l_E_takeOldest_29 : bh_tb T_E_takeOldest 29 = bo_st 30 (bg_ii (fun x y => x - y)) := rfl
theorem l_E_takeOldest_30 : bh_tb T_E_takeOldest 30 = bo_pI 33 23 2 := rfl
theorem l_E_takeOldest_33 : bh_tb T_E_takeOldest 33 = bo_ild 34 1 := rfl
theorem l_E_takeOldest_34 : bh_tb T_E_takeOldest 34 = bo_iret 0 := rfl
theorem l_H_event_0 : bh_tb T_H_event 0 = bo_ald 1 0 := rfl
theorem l_H_event_1 : bh_tb T_H_event 1 = bo_gR 4 3 3 23 := rfl
theorem l_H_event_4 : bh_tb T_H_event 4 = bo_gI 7 23 2 := rfl
theorem l_H_event_7 : bh_tb T_H_event 7 = bo_if1 10 20 (fun x => ¬ x = 0) := rfl
theorem l_H_event_10 : bh_tb T_H_event 10 = bo_thr 1 "java/lang/IllegalStateException" := rfl
theorem l_H_event_20 : bh_tb T_H_event 20 = bo_ald 21 0 := rfl
theorem l_H_event_21 : bh_tb T_H_event 21 = bo_gR 24 3 3 23 := rfl
theorem l_H_event_24 : bh_tb T_H_event 24 = bo_callV 27 1 0 1 23 F_E_takeOldest := rfl
theorem l_H_event_27 : bh_tb T_H_event 27 = bo_iret 1 := rfl
theorem l_H_wireTarget_0 : bh_tb T_H_wireTarget 0 = bo_ild 1 1 := rfl
theorem l_H_wireTarget_1 : bh_tb T_H_wireTarget 1 = bo_st 2 (bg_push (.inl (.int (-1)))) := rfl
theorem l_H_wireTarget_2 : bh_tb T_H_wireTarget 2 = bo_if2 5 7 (fun x y => ¬ x = y) := rfl
theorem l_H_wireTarget_5 : bh_tb T_H_wireTarget 5 = bo_st 6 (bg_push (.inl (.int (-1)))) := rfl
theorem l_H_wireTarget_6 : bh_tb T_H_wireTarget 6 = bo_iret 0 := rfl
theorem l_H_wireTarget_7 : bh_tb T_H_wireTarget 7 = bo_ald 8 0 := rfl
theorem l_H_wireTarget_8 : bh_tb T_H_wireTarget 8 = bo_ild 9 1 := rfl
theorem l_H_wireTarget_9 : bh_tb T_H_wireTarget 9 = bo_callV 12 2 0 0 3 F_H_isOld := rfl
theorem l_H_wireTarget_12 : bh_tb T_H_wireTarget 12 = bo_if1 15 25 (fun x => x = 0) := rfl
theorem l_H_wireTarget_15 : bh_tb T_H_wireTarget 15 = bo_ild 16 1 := rfl
theorem l_H_wireTarget_16 : bh_tb T_H_wireTarget 16 = bo_callS 19 1 0 0 F_H_ownerOf := rfl
theorem l_H_wireTarget_19 : bh_tb T_H_wireTarget 19 = bo_st 21 (bg_push (.inl (.int 100))) := rfl
theorem l_H_wireTarget_21 : bh_tb T_H_wireTarget 21 = bo_st 22 (bg_ii (fun x y => x + y)) := rfl
theorem l_H_wireTarget_22 : bh_tb T_H_wireTarget 22 = bo_go 29 := rfl
theorem l_H_wireTarget_25 : bh_tb T_H_wireTarget 25 = bo_ild 26 1 := rfl
theorem l_H_wireTarget_26 : bh_tb T_H_wireTarget 26 = bo_callS 29 1 0 0 F_H_ownerOf := rfl
theorem l_H_wireTarget_29 : bh_tb T_H_wireTarget 29 = bo_iret 0 := rfl
theorem l_H_about_0 : bh_tb T_H_about 0 = bo_ild 1 1 := rfl
theorem l_H_about_1 : bh_tb T_H_about 1 = bo_callS 4 1 1 2 F_H_checkBundle := rfl
theorem l_H_about_4 : bh_tb T_H_about 4 = bo_ild 5 2 := rfl
theorem l_H_about_5 : bh_tb T_H_about 5 = bo_st 6 (bg_push (.inl (.int 0))) := rfl
theorem l_H_about_6 : bh_tb T_H_about 6 = bo_st 8 (bg_push (.inl (.int 7))) := rfl
theorem l_H_about_8 : bh_tb T_H_about 8 = bo_callS 11 3 1 2 F_H_checkRange := rfl
theorem l_H_about_11 : bh_tb T_H_about 11 = bo_ald 12 0 := rfl
theorem l_H_about_12 : bh_tb T_H_about 12 = bo_gR 15 3 0 4 := rfl
theorem l_H_about_15 : bh_tb T_H_about 15 = bo_ild 16 1 := rfl
theorem l_H_about_16 : bh_tb T_H_about 16 = bo_Rald bh_ak bh_al 17 := rfl
theorem l_H_about_17 : bh_tb T_H_about 17 = bo_ast 18 3 := rfl
theorem l_H_about_18 : bh_tb T_H_about 18 = bo_ild 19 2 := rfl
theorem l_H_about_19 : bh_tb T_H_about 19 = bo_sw [(0, 52), (1, 57), (2, 70), (3, 79), (4, 87)] 95 := rfl
theorem l_H_about_52 : bh_tb T_H_about 52 = bo_ald 53 3 := rfl
theorem l_H_about_53 : bh_tb T_H_about 53 = bo_gI 56 5 3 := rfl
theorem l_H_about_56 : bh_tb T_H_about 56 = bo_iret 2 := rfl
theorem l_H_about_57 : bh_tb T_H_about 57 = bo_ald 58 3 := rfl
theorem l_H_about_58 : bh_tb T_H_about 58 = bo_gI 61 5 7 := rfl
theorem l_H_about_61 : bh_tb T_H_about 61 = bo_if1 64 68 (fun x => x = 0) := rfl
theorem l_H_about_64 : bh_tb T_H_about 64 = bo_st 65 (bg_push (.inl (.int 1))) := rfl
theorem l_H_about_65 : bh_tb T_H_about 65 = bo_go 69 := rfl
theorem l_H_about_68 : bh_tb T_H_about 68 = bo_st 69 (bg_push (.inl (.int 0))) := rfl
theorem l_H_about_69 : bh_tb T_H_about 69 = bo_iret 2 := rfl
theorem l_H_about_70 : bh_tb T_H_about 70 = bo_ald 71 0 := rfl
theorem l_H_about_71 : bh_tb T_H_about 71 = bo_gR 74 3 2 19 := rfl
theorem l_H_about_74 : bh_tb T_H_about 74 = bo_ild 75 1 := rfl
theorem l_H_about_75 : bh_tb T_H_about 75 = bo_callV 78 2 0 2 19 F_V_ownedBy := rfl
theorem l_H_about_78 : bh_tb T_H_about 78 = bo_iret 2 := rfl
theorem l_H_about_79 : bh_tb T_H_about 79 = bo_ald 80 3 := rfl
theorem l_H_about_80 : bh_tb T_H_about 80 = bo_gR 83 5 1 7 := rfl
theorem l_H_about_83 : bh_tb T_H_about 83 = bo_gI 86 7 7 := rfl
theorem l_H_about_86 : bh_tb T_H_about 86 = bo_iret 2 := rfl
theorem l_H_about_87 : bh_tb T_H_about 87 = bo_ald 88 3 := rfl
theorem l_H_about_88 : bh_tb T_H_about 88 = bo_gR 91 5 1 7 := rfl
theorem l_H_about_91 : bh_tb T_H_about 91 = bo_gI 94 7 8 := rfl
theorem l_H_about_94 : bh_tb T_H_about 94 = bo_iret 2 := rfl
theorem l_H_about_95 : bh_tb T_H_about 95 = bo_ald 96 0 := rfl
theorem l_H_about_96 : bh_tb T_H_about 96 = bo_ald 97 3 := rfl
theorem l_H_about_97 : bh_tb T_H_about 97 = bo_gR 100 5 2 6 := rfl
theorem l_H_about_100 : bh_tb T_H_about 100 = bo_ild 101 2 := rfl
theorem l_H_about_101 : bh_tb T_H_about 101 = bo_st 102 (bg_push (.inl (.int 5))) := rfl
theorem l_H_about_102 : bh_tb T_H_about 102 = bo_st 103 (bg_ii (fun x y => x - y)) := rfl
theorem l_H_about_103 : bh_tb T_H_about 103 = bo_Iald bh_ak bh_al 104 := rfl
theorem l_H_about_104 : bh_tb T_H_about 104 = bo_callV 107 2 0 2 3 F_H_wireTarget := rfl
theorem l_H_about_107 : bh_tb T_H_about 107 = bo_iret 2 := rfl
theorem l_H_count_0 : bh_tb T_H_count 0 = bo_ild 1 1 := rfl
theorem l_H_count_1 : bh_tb T_H_count 1 = bo_st 2 (bg_push (.inl (.int 0))) := rfl
theorem l_H_count_2 : bh_tb T_H_count 2 = bo_st 3 (bg_push (.inl (.int 5))) := rfl
theorem l_H_count_3 : bh_tb T_H_count 3 = bo_callS 6 3 1 1 F_H_checkRange := rfl
theorem l_H_count_6 : bh_tb T_H_count 6 = bo_ild 7 1 := rfl
theorem l_H_count_7 : bh_tb T_H_count 7 = bo_sw [(0, 40), (1, 45), (2, 53), (3, 61), (4, 69)] 77 := rfl
theorem l_H_count_40 : bh_tb T_H_count 40 = bo_ald 41 0 := rfl
theorem l_H_count_41 : bh_tb T_H_count 41 = bo_gI 44 3 4 := rfl
theorem l_H_count_44 : bh_tb T_H_count 44 = bo_iret 1 := rfl
theorem l_H_count_45 : bh_tb T_H_count 45 = bo_ald 46 0 := rfl
theorem l_H_count_46 : bh_tb T_H_count 46 = bo_gR 49 3 2 19 := rfl
theorem l_H_count_49 : bh_tb T_H_count 49 = bo_gI 52 19 1 := rfl
theorem l_H_count_52 : bh_tb T_H_count 52 = bo_iret 1 := rfl
theorem l_H_count_53 : bh_tb T_H_count 53 = bo_ald 54 0 := rfl
theorem l_H_count_54 : bh_tb T_H_count 54 = bo_gR 57 3 3 23 := rfl
theorem l_H_count_57 : bh_tb T_H_count 57 = bo_gI 60 23 2 := rfl
theorem l_H_count_60 : bh_tb T_H_count 60 = bo_iret 1 := rfl
theorem l_H_count_61 : bh_tb T_H_count 61 = bo_ald 62 0 := rfl
theorem l_H_count_62 : bh_tb T_H_count 62 = bo_gR 65 3 3 23 := rfl
theorem l_H_count_65 : bh_tb T_H_count 65 = bo_gI 68 23 3 := rfl
theorem l_H_count_68 : bh_tb T_H_count 68 = bo_iret 1 := rfl
theorem l_H_count_69 : bh_tb T_H_count 69 = bo_ald 70 0 := rfl
theorem l_H_count_70 : bh_tb T_H_count 70 = bo_gR 73 3 1 15 := rfl
theorem l_H_count_73 : bh_tb T_H_count 73 = bo_gI 76 15 4 := rfl
theorem l_H_count_76 : bh_tb T_H_count 76 = bo_iret 1 := rfl
theorem l_H_count_77 : bh_tb T_H_count 77 = bo_ald 78 0 := rfl
theorem l_H_count_78 : bh_tb T_H_count 78 = bo_gR 81 3 1 15 := rfl
theorem l_H_count_81 : bh_tb T_H_count 81 = bo_gI 84 15 5 := rfl
theorem l_H_count_84 : bh_tb T_H_count 84 = bo_iret 1 := rfl
set_option maxRecDepth 20000 in
theorem l_M_init_0 : bh_tb T_M_init 0 = bo_ald 1 0 := rfl
set_option maxRecDepth 20000 in
theorem l_M_init_1 : bh_tb T_M_init 1 = bo_obj 4 := rfl
set_option maxRecDepth 20000 in
theorem l_M_init_4 : bh_tb T_M_init 4 = bo_ald 5 0 := rfl
set_option maxRecDepth 20000 in
theorem l_M_init_5 : bh_tb T_M_init 5 = bo_st 7 (bg_push (.inl (.int 8))) := rfl
set_option maxRecDepth 20000 in
theorem l_M_init_7 : bh_tb T_M_init 7 = bo_newa bh_al 9 41 30 := rfl
set_option maxRecDepth 20000 in
theorem l_M_init_9 : bh_tb T_M_init 9 = bo_pR 12 40 1 41 := rfl
set_option maxRecDepth 20000 in
theorem l_M_init_12 : bh_tb T_M_init 12 = bo_ald 13 0 := rfl
set_option maxRecDepth 20000 in
theorem l_M_init_13 : bh_tb T_M_init 13 = bo_st 15 (bg_push (.inl (.int 8))) := rfl
set_option maxRecDepth 20000 in
theorem l_M_init_15 : bh_tb T_M_init 15 = bo_newa bh_al 17 42 30 := rfl
set_option maxRecDepth 20000 in
theorem l_M_init_17 : bh_tb T_M_init 17 = bo_pR 20 40 2 42 := rfl
set_option maxRecDepth 20000 in
theorem l_M_init_20 : bh_tb T_M_init 20 = bo_ald 21 0 := rfl
set_option maxRecDepth 20000 in
theorem l_M_init_21 : bh_tb T_M_init 21 = bo_st 23 (bg_push (.inl (.int 8))) := rfl
set_option maxRecDepth 20000 in
theorem l_M_init_23 : bh_tb T_M_init 23 = bo_newa bh_al 25 43 30 := rfl
set_option maxRecDepth 20000 in
theorem l_M_init_25 : bh_tb T_M_init 25 = bo_pR 28 40 3 43 := rfl
set_option maxRecDepth 20000 in
theorem l_M_init_28 : bh_tb T_M_init 28 = bo_ald 29 0 := rfl
set_option maxRecDepth 20000 in
theorem l_M_init_29 : bh_tb T_M_init 29 = bo_st 31 (bg_push (.inl (.int 8))) := rfl
set_option maxRecDepth 20000 in
theorem l_M_init_31 : bh_tb T_M_init 31 = bo_newa bh_al 33 44 30 := rfl
set_option maxRecDepth 20000 in
theorem l_M_init_33 : bh_tb T_M_init 33 = bo_pR 36 40 4 44 := rfl
set_option maxRecDepth 20000 in
theorem l_M_init_36 : bh_tb T_M_init 36 = bo_ald 37 0 := rfl
set_option maxRecDepth 20000 in
theorem l_M_init_37 : bh_tb T_M_init 37 = bo_st 39 (bg_push (.inl (.int 8))) := rfl
set_option maxRecDepth 20000 in
theorem l_M_init_39 : bh_tb T_M_init 39 = bo_newa bh_al 41 45 30 := rfl
set_option maxRecDepth 20000 in
theorem l_M_init_41 : bh_tb T_M_init 41 = bo_pR 44 40 5 45 := rfl
set_option maxRecDepth 20000 in
theorem l_M_init_44 : bh_tb T_M_init 44 = bo_ald 45 0 := rfl
set_option maxRecDepth 20000 in
theorem l_M_init_45 : bh_tb T_M_init 45 = bo_st 47 (bg_push (.inl (.int 8))) := rfl
set_option maxRecDepth 20000 in
theorem l_M_init_47 : bh_tb T_M_init 47 = bo_newa bh_al 49 46 30 := rfl
set_option maxRecDepth 20000 in
theorem l_M_init_49 : bh_tb T_M_init 49 = bo_pR 52 40 6 46 := rfl
set_option maxRecDepth 20000 in
theorem l_M_init_52 : bh_tb T_M_init 52 = bo_ald 53 0 := rfl
set_option maxRecDepth 20000 in
theorem l_M_init_53 : bh_tb T_M_init 53 = bo_st 55 (bg_push (.inl (.int 8))) := rfl
set_option maxRecDepth 20000 in
theorem l_M_init_55 : bh_tb T_M_init 55 = bo_newa bh_al 57 47 30 := rfl
set_option maxRecDepth 20000 in
theorem l_M_init_57 : bh_tb T_M_init 57 = bo_pR 60 40 7 47 := rfl
set_option maxRecDepth 20000 in
theorem l_M_init_60 : bh_tb T_M_init 60 = bo_ald 61 0 := rfl
set_option maxRecDepth 20000 in
theorem l_M_init_61 : bh_tb T_M_init 61 = bo_st 63 (bg_push (.inl (.int 8))) := rfl
set_option maxRecDepth 20000 in
theorem l_M_init_63 : bh_tb T_M_init 63 = bo_newa bh_al 65 48 30 := rfl
set_option maxRecDepth 20000 in
theorem l_M_init_65 : bh_tb T_M_init 65 = bo_pR 68 40 8 48 := rfl
set_option maxRecDepth 20000 in
theorem l_M_init_68 : bh_tb T_M_init 68 = bo_ald 69 0 := rfl
set_option maxRecDepth 20000 in
theorem l_M_init_69 : bh_tb T_M_init 69 = bo_st 71 (bg_push (.inl (.int 24))) := rfl
set_option maxRecDepth 20000 in
theorem l_M_init_71 : bh_tb T_M_init 71 = bo_newa bh_al 73 49 30 := rfl
set_option maxRecDepth 20000 in
theorem l_M_init_73 : bh_tb T_M_init 73 = bo_pR 76 40 9 49 := rfl
set_option maxRecDepth 20000 in
theorem l_M_init_76 : bh_tb T_M_init 76 = bo_ald 77 0 := rfl
set_option maxRecDepth 20000 in
theorem l_M_init_77 : bh_tb T_M_init 77 = bo_st 79 (bg_push (.inl (.int 24))) := rfl
set_option maxRecDepth 20000 in
theorem l_M_init_79 : bh_tb T_M_init 79 = bo_newa bh_al 81 50 30 := rfl
set_option maxRecDepth 20000 in
theorem l_M_init_81 : bh_tb T_M_init 81 = bo_pR 84 40 10 50 := rfl
set_option maxRecDepth 20000 in
theorem l_M_init_84 : bh_tb T_M_init 84 = bo_ald 85 0 := rfl
set_option maxRecDepth 20000 in
theorem l_M_init_85 : bh_tb T_M_init 85 = bo_st 87 (bg_push (.inl (.int 24))) := rfl
set_option maxRecDepth 20000 in
theorem l_M_init_87 : bh_tb T_M_init 87 = bo_newa bh_al 89 51 30 := rfl
set_option maxRecDepth 20000 in
theorem l_M_init_89 : bh_tb T_M_init 89 = bo_pR 92 40 11 51 := rfl
set_option maxRecDepth 20000 in
theorem l_M_init_92 : bh_tb T_M_init 92 = bo_ald 93 0 := rfl
set_option maxRecDepth 20000 in
theorem l_M_init_93 : bh_tb T_M_init 93 = bo_st 95 (bg_push (.inl (.int 8))) := rfl
set_option maxRecDepth 20000 in
theorem l_M_init_95 : bh_tb T_M_init 95 = bo_newa bh_al 97 52 30 := rfl
set_option maxRecDepth 20000 in
theorem l_M_init_97 : bh_tb T_M_init 97 = bo_pR 100 40 12 52 := rfl
set_option maxRecDepth 20000 in
theorem l_M_init_100 : bh_tb T_M_init 100 = bo_ald 101 0 := rfl
set_option maxRecDepth 20000 in
theorem l_M_init_101 : bh_tb T_M_init 101 = bo_st 103 (bg_push (.inl (.int 24))) := rfl
set_option maxRecDepth 20000 in
theorem l_M_init_103 : bh_tb T_M_init 103 = bo_newa bh_al 105 53 30 := rfl
set_option maxRecDepth 20000 in
theorem l_M_init_105 : bh_tb T_M_init 105 = bo_pR 108 40 13 53 := rfl
set_option maxRecDepth 20000 in
theorem l_M_init_108 : bh_tb T_M_init 108 = bo_ald 109 0 := rfl
set_option maxRecDepth 20000 in
theorem l_M_init_109 : bh_tb T_M_init 109 = bo_st 111 (bg_push (.inl (.int 24))) := rfl
set_option maxRecDepth 20000 in
theorem l_M_init_111 : bh_tb T_M_init 111 = bo_newa bh_al 113 54 30 := rfl
set_option maxRecDepth 20000 in
theorem l_M_init_113 : bh_tb T_M_init 113 = bo_pR 116 40 14 54 := rfl
set_option maxRecDepth 20000 in
theorem l_M_init_116 : bh_tb T_M_init 116 = bo_ald 117 0 := rfl
set_option maxRecDepth 20000 in
theorem l_M_init_117 : bh_tb T_M_init 117 = bo_st 119 (bg_push (.inl (.int 24))) := rfl
set_option maxRecDepth 20000 in
theorem l_M_init_119 : bh_tb T_M_init 119 = bo_newa bh_al 121 55 30 := rfl
set_option maxRecDepth 20000 in
theorem l_M_init_121 : bh_tb T_M_init 121 = bo_pR 124 40 15 55 := rfl
set_option maxRecDepth 20000 in
theorem l_M_init_124 : bh_tb T_M_init 124 = bo_ald 125 0 := rfl
set_option maxRecDepth 20000 in
theorem l_M_init_125 : bh_tb T_M_init 125 = bo_st 127 (bg_push (.inl (.int 24))) := rfl
set_option maxRecDepth 20000 in
theorem l_M_init_127 : bh_tb T_M_init 127 = bo_newa bh_al 129 56 30 := rfl
set_option maxRecDepth 20000 in
theorem l_M_init_129 : bh_tb T_M_init 129 = bo_pR 132 40 16 56 := rfl
set_option maxRecDepth 20000 in
theorem l_M_init_132 : bh_tb T_M_init 132 = bo_ald 133 0 := rfl
set_option maxRecDepth 20000 in
theorem l_M_init_133 : bh_tb T_M_init 133 = bo_st 135 (bg_push (.inl (.int 24))) := rfl
set_option maxRecDepth 20000 in
theorem l_M_init_135 : bh_tb T_M_init 135 = bo_newa bh_al 137 57 30 := rfl
set_option maxRecDepth 20000 in
theorem l_M_init_137 : bh_tb T_M_init 137 = bo_pR 140 40 17 57 := rfl
set_option maxRecDepth 20000 in
theorem l_M_init_140 : bh_tb T_M_init 140 = bo_ald 141 0 := rfl
set_option maxRecDepth 20000 in
theorem l_M_init_141 : bh_tb T_M_init 141 = bo_st 143 (bg_push (.inl (.int 30))) := rfl
set_option maxRecDepth 20000 in
theorem l_M_init_143 : bh_tb T_M_init 143 = bo_newa bh_al 145 58 30 := rfl
set_option maxRecDepth 20000 in
theorem l_M_init_145 : bh_tb T_M_init 145 = bo_pR 148 40 18 58 := rfl
set_option maxRecDepth 20000 in
theorem l_M_init_148 : bh_tb T_M_init 148 = bo_ald 149 0 := rfl
set_option maxRecDepth 20000 in
theorem l_M_init_149 : bh_tb T_M_init 149 = bo_st 152 (bg_push (.inl (.int 240))) := rfl
set_option maxRecDepth 20000 in
theorem l_M_init_152 : bh_tb T_M_init 152 = bo_newa bh_al 154 59 30 := rfl
set_option maxRecDepth 20000 in
theorem l_M_init_154 : bh_tb T_M_init 154 = bo_pR 157 40 20 59 := rfl
set_option maxRecDepth 20000 in
theorem l_M_init_157 : bh_tb T_M_init 157 = bo_ald 158 0 := rfl
set_option maxRecDepth 20000 in
theorem l_M_init_158 : bh_tb T_M_init 158 = bo_st 160 (bg_push (.inl (.int 30))) := rfl
set_option maxRecDepth 20000 in
theorem l_M_init_160 : bh_tb T_M_init 160 = bo_newa bh_al 162 60 30 := rfl
set_option maxRecDepth 20000 in
theorem l_M_init_162 : bh_tb T_M_init 162 = bo_pR 165 40 21 60 := rfl
set_option maxRecDepth 20000 in
theorem l_M_init_165 : bh_tb T_M_init 165 = bo_ald 166 0 := rfl
set_option maxRecDepth 20000 in
theorem l_M_init_166 : bh_tb T_M_init 166 = bo_st 168 (bg_push (.inl (.int 30))) := rfl
set_option maxRecDepth 20000 in
theorem l_M_init_168 : bh_tb T_M_init 168 = bo_newa bh_al 170 61 30 := rfl
set_option maxRecDepth 20000 in
theorem l_M_init_170 : bh_tb T_M_init 170 = bo_pR 173 40 22 61 := rfl
set_option maxRecDepth 20000 in
theorem l_M_init_173 : bh_tb T_M_init 173 = bo_ald 174 0 := rfl
set_option maxRecDepth 20000 in
theorem l_M_init_174 : bh_tb T_M_init 174 = bo_st 176 (bg_push (.inl (.int 30))) := rfl
set_option maxRecDepth 20000 in
theorem l_M_init_176 : bh_tb T_M_init 176 = bo_newa bh_al 178 62 30 := rfl
set_option maxRecDepth 20000 in
theorem l_M_init_178 : bh_tb T_M_init 178 = bo_pR 181 40 23 62 := rfl
set_option maxRecDepth 20000 in
theorem l_M_init_181 : bh_tb T_M_init 181 = bo_ald 182 0 := rfl
set_option maxRecDepth 20000 in
theorem l_M_init_182 : bh_tb T_M_init 182 = bo_st 184 (bg_push (.inl (.int 8))) := rfl
set_option maxRecDepth 20000 in
theorem l_M_init_184 : bh_tb T_M_init 184 = bo_newa bh_al 186 63 30 := rfl
set_option maxRecDepth 20000 in
theorem l_M_init_186 : bh_tb T_M_init 186 = bo_pR 189 40 24 63 := rfl
set_option maxRecDepth 20000 in
theorem l_M_init_189 : bh_tb T_M_init 189 = bo_ald 190 0 := rfl
set_option maxRecDepth 20000 in
theorem l_M_init_190 : bh_tb T_M_init 190 = bo_st 192 (bg_push (.inl (.int 8))) := rfl
set_option maxRecDepth 20000 in
theorem l_M_init_192 : bh_tb T_M_init 192 = bo_newa bh_al 194 64 30 := rfl
set_option maxRecDepth 20000 in
theorem l_M_init_194 : bh_tb T_M_init 194 = bo_pR 197 40 25 64 := rfl
set_option maxRecDepth 20000 in
theorem l_M_init_197 : bh_tb T_M_init 197 = bo_ald 198 0 := rfl
set_option maxRecDepth 20000 in
theorem l_M_init_198 : bh_tb T_M_init 198 = bo_st 200 (bg_push (.inl (.int 20))) := rfl
set_option maxRecDepth 20000 in
theorem l_M_init_200 : bh_tb T_M_init 200 = bo_newa bh_al 202 65 30 := rfl
set_option maxRecDepth 20000 in
theorem l_M_init_202 : bh_tb T_M_init 202 = bo_pR 205 40 29 65 := rfl
set_option maxRecDepth 20000 in
theorem l_M_init_205 : bh_tb T_M_init 205 = bo_ald 206 0 := rfl
set_option maxRecDepth 20000 in
theorem l_M_init_206 : bh_tb T_M_init 206 = bo_st 208 (bg_push (.inl (.int 20))) := rfl
set_option maxRecDepth 20000 in
theorem l_M_init_208 : bh_tb T_M_init 208 = bo_newa bh_al 210 66 30 := rfl
set_option maxRecDepth 20000 in
theorem l_M_init_210 : bh_tb T_M_init 210 = bo_pR 213 40 30 66 := rfl
set_option maxRecDepth 20000 in
theorem l_M_init_213 : bh_tb T_M_init 213 = bo_ald 214 0 := rfl
set_option maxRecDepth 20000 in
theorem l_M_init_214 : bh_tb T_M_init 214 = bo_st 216 (bg_push (.inl (.int 20))) := rfl
set_option maxRecDepth 20000 in
theorem l_M_init_216 : bh_tb T_M_init 216 = bo_newa bh_al 218 67 30 := rfl
set_option maxRecDepth 20000 in
theorem l_M_init_218 : bh_tb T_M_init 218 = bo_pR 221 40 31 67 := rfl
set_option maxRecDepth 20000 in
theorem l_M_init_221 : bh_tb T_M_init 221 = bo_ald 222 0 := rfl
set_option maxRecDepth 20000 in
theorem l_M_init_222 : bh_tb T_M_init 222 = bo_st 224 (bg_push (.inl (.int 20))) := rfl
set_option maxRecDepth 20000 in
theorem l_M_init_224 : bh_tb T_M_init 224 = bo_newa bh_al 226 68 30 := rfl
set_option maxRecDepth 20000 in
theorem l_M_init_226 : bh_tb T_M_init 226 = bo_pR 229 40 32 68 := rfl
set_option maxRecDepth 20000 in
theorem l_M_init_229 : bh_tb T_M_init 229 = bo_ald 230 0 := rfl
set_option maxRecDepth 20000 in
theorem l_M_init_230 : bh_tb T_M_init 230 = bo_st 233 (bg_push (.inl (.int 160))) := rfl
set_option maxRecDepth 20000 in
theorem l_M_init_233 : bh_tb T_M_init 233 = bo_newa bh_al 235 69 30 := rfl
set_option maxRecDepth 20000 in
theorem l_M_init_235 : bh_tb T_M_init 235 = bo_pR 238 40 33 69 := rfl
set_option maxRecDepth 20000 in
theorem l_M_init_238 : bh_tb T_M_init 238 = bo_ald 239 0 := rfl
set_option maxRecDepth 20000 in
theorem l_M_init_239 : bh_tb T_M_init 239 = bo_st 241 (bg_push (.inl (.int 10))) := rfl
set_option maxRecDepth 20000 in
theorem l_M_init_241 : bh_tb T_M_init 241 = bo_newa bh_al 243 70 30 := rfl
set_option maxRecDepth 20000 in
theorem l_M_init_243 : bh_tb T_M_init 243 = bo_pR 246 40 36 70 := rfl
set_option maxRecDepth 20000 in
theorem l_M_init_246 : bh_tb T_M_init 246 = bo_ald 247 0 := rfl
set_option maxRecDepth 20000 in
theorem l_M_init_247 : bh_tb T_M_init 247 = bo_st 248 (bg_push (.inl (.int 1))) := rfl
set_option maxRecDepth 20000 in
theorem l_M_init_248 : bh_tb T_M_init 248 = bo_pI 251 40 39 := rfl
set_option maxRecDepth 20000 in
theorem l_M_init_251 : bh_tb T_M_init 251 = bo_st 252 (bg_push (.inl (.int 0))) := rfl
set_option maxRecDepth 20000 in
theorem l_M_init_252 : bh_tb T_M_init 252 = bo_ist 253 1 := rfl
set_option maxRecDepth 20000 in
theorem l_M_init_253 : bh_tb T_M_init 253 = bo_ild 254 1 := rfl
set_option maxRecDepth 20000 in
theorem l_M_init_254 : bh_tb T_M_init 254 = bo_st 256 (bg_push (.inl (.int 24))) := rfl
set_option maxRecDepth 20000 in
theorem l_M_init_256 : bh_tb T_M_init 256 = bo_if2 259 274 (fun x y => y ≤ x) := rfl
set_option maxRecDepth 20000 in
theorem l_M_init_259 : bh_tb T_M_init 259 = bo_ald 260 0 := rfl
set_option maxRecDepth 20000 in
theorem l_M_init_260 : bh_tb T_M_init 260 = bo_gR 263 40 17 57 := rfl
set_option maxRecDepth 20000 in
theorem l_M_init_263 : bh_tb T_M_init 263 = bo_ild 264 1 := rfl
set_option maxRecDepth 20000 in
theorem l_M_init_264 : bh_tb T_M_init 264 = bo_st 267 (bg_push (.inl (.long (-1)))) := rfl
set_option maxRecDepth 20000 in
theorem l_M_init_267 : bh_tb T_M_init 267 = bo_Jast bh_ak bh_al 268 := rfl
set_option maxRecDepth 20000 in
theorem l_M_init_268 : bh_tb T_M_init 268 = bo_inc 271 1 1 := rfl
set_option maxRecDepth 20000 in
theorem l_M_init_271 : bh_tb T_M_init 271 = bo_go 253 := rfl
set_option maxRecDepth 20000 in
theorem l_M_init_274 : bh_tb T_M_init 274 = bo_vret 30 := rfl
theorem l_M_thrown_0 : bh_tb T_M_thrown 0 = bo_ald 1 0 := rfl
theorem l_M_thrown_1 : bh_tb T_M_thrown 1 = bo_gI 4 40 0 := rfl
theorem l_M_thrown_4 : bh_tb T_M_thrown 4 = bo_iret 0 := rfl
theorem l_M_in_0 : bh_tb T_M_in 0 = bo_ild 1 0 := rfl
theorem l_M_in_1 : bh_tb T_M_in 1 = bo_ild 2 1 := rfl
theorem l_M_in_2 : bh_tb T_M_in 2 = bo_if2 5 14 (fun x y => x < y) := rfl
theorem l_M_in_5 : bh_tb T_M_in 5 = bo_ild 6 0 := rfl
theorem l_M_in_6 : bh_tb T_M_in 6 = bo_ild 7 2 := rfl
theorem l_M_in_7 : bh_tb T_M_in 7 = bo_if2 10 14 (fun x y => y < x) := rfl
theorem l_M_in_10 : bh_tb T_M_in 10 = bo_st 11 (bg_push (.inl (.int 1))) := rfl
theorem l_M_in_11 : bh_tb T_M_in 11 = bo_go 15 := rfl
theorem l_M_in_14 : bh_tb T_M_in 14 = bo_st 15 (bg_push (.inl (.int 0))) := rfl
theorem l_M_in_15 : bh_tb T_M_in 15 = bo_zret 0 := rfl
theorem l_M_isBundle_0 : bh_tb T_M_isBundle 0 = bo_ild 1 0 := rfl
theorem l_M_isBundle_1 : bh_tb T_M_isBundle 1 = bo_st 2 (bg_push (.inl (.int 0))) := rfl
theorem l_M_isBundle_2 : bh_tb T_M_isBundle 2 = bo_st 4 (bg_push (.inl (.int 7))) := rfl
theorem l_M_isBundle_4 : bh_tb T_M_isBundle 4 = bo_callS 7 3 0 0 F_M_in := rfl
theorem l_M_isBundle_7 : bh_tb T_M_isBundle 7 = bo_zret 0 := rfl
theorem l_M_raise_0 : bh_tb T_M_raise 0 = bo_ald 1 0 := rfl
theorem l_M_raise_1 : bh_tb T_M_raise 1 = bo_ild 2 1 := rfl
theorem l_M_raise_2 : bh_tb T_M_raise 2 = bo_pI 5 40 0 := rfl
theorem l_M_raise_5 : bh_tb T_M_raise 5 = bo_st 6 (bg_push (.inl (.int 0))) := rfl
theorem l_M_raise_6 : bh_tb T_M_raise 6 = bo_iret 0 := rfl
theorem l_M_unwire_0 : bh_tb T_M_unwire 0 = bo_st 1 (bg_push (.inl (.int 3))) := rfl
theorem l_M_unwire_1 : bh_tb T_M_unwire 1 = bo_ild 2 1 := rfl
theorem l_M_unwire_2 : bh_tb T_M_unwire 2 = bo_st 3 (bg_ii (fun x y => x * y)) := rfl
theorem l_M_unwire_3 : bh_tb T_M_unwire 3 = bo_ist 4 2 := rfl
theorem l_M_unwire_4 : bh_tb T_M_unwire 4 = bo_ild 5 2 := rfl
theorem l_M_unwire_5 : bh_tb T_M_unwire 5 = bo_st 6 (bg_push (.inl (.int 3))) := rfl
theorem l_M_unwire_6 : bh_tb T_M_unwire 6 = bo_ild 7 1 := rfl
theorem l_M_unwire_7 : bh_tb T_M_unwire 7 = bo_st 8 (bg_ii (fun x y => x * y)) := rfl
theorem l_M_unwire_8 : bh_tb T_M_unwire 8 = bo_st 9 (bg_push (.inl (.int 3))) := rfl
theorem l_M_unwire_9 : bh_tb T_M_unwire 9 = bo_st 10 (bg_ii (fun x y => x + y)) := rfl
theorem l_M_unwire_10 : bh_tb T_M_unwire 10 = bo_if2 13 28 (fun x y => y ≤ x) := rfl
theorem l_M_unwire_13 : bh_tb T_M_unwire 13 = bo_ald 14 0 := rfl
theorem l_M_unwire_14 : bh_tb T_M_unwire 14 = bo_gR 17 40 17 57 := rfl
theorem l_M_unwire_17 : bh_tb T_M_unwire 17 = bo_ild 18 2 := rfl
theorem l_M_unwire_18 : bh_tb T_M_unwire 18 = bo_st 21 (bg_push (.inl (.long (-1)))) := rfl
theorem l_M_unwire_21 : bh_tb T_M_unwire 21 = bo_Jast bh_ak bh_al 22 := rfl
theorem l_M_unwire_22 : bh_tb T_M_unwire 22 = bo_inc 25 2 1 := rfl
theorem l_M_unwire_25 : bh_tb T_M_unwire 25 = bo_go 4 := rfl
theorem l_M_unwire_28 : bh_tb T_M_unwire 28 = bo_vret 0 := rfl
theorem l_M_empty_0 : bh_tb T_M_empty 0 = bo_ald 1 0 := rfl
theorem l_M_empty_1 : bh_tb T_M_empty 1 = bo_gR 4 40 8 48 := rfl
theorem l_M_empty_4 : bh_tb T_M_empty 4 = bo_ild 5 1 := rfl
theorem l_M_empty_5 : bh_tb T_M_empty 5 = bo_st 6 (bg_push (.inl (.int 0))) := rfl
theorem l_M_empty_6 : bh_tb T_M_empty 6 = bo_Iast bh_ak bh_al 7 := rfl
theorem l_M_empty_7 : bh_tb T_M_empty 7 = bo_ald 8 0 := rfl
theorem l_M_empty_8 : bh_tb T_M_empty 8 = bo_gR 11 40 12 52 := rfl
theorem l_M_empty_11 : bh_tb T_M_empty 11 = bo_ild 12 1 := rfl
theorem l_M_empty_12 : bh_tb T_M_empty 12 = bo_st 13 (bg_push (.inl (.int 0))) := rfl
theorem l_M_empty_13 : bh_tb T_M_empty 13 = bo_Iast bh_ak bh_al 14 := rfl
theorem l_M_empty_14 : bh_tb T_M_empty 14 = bo_ald 15 0 := rfl
theorem l_M_empty_15 : bh_tb T_M_empty 15 = bo_gR 18 40 6 46 := rfl
theorem l_M_empty_18 : bh_tb T_M_empty 18 = bo_ild 19 1 := rfl
theorem l_M_empty_19 : bh_tb T_M_empty 19 = bo_st 20 (bg_push (.inl (.int 0))) := rfl
theorem l_M_empty_20 : bh_tb T_M_empty 20 = bo_Zast bh_ak bh_al 21 := rfl
theorem l_M_empty_21 : bh_tb T_M_empty 21 = bo_ald 22 0 := rfl
theorem l_M_empty_22 : bh_tb T_M_empty 22 = bo_gR 25 40 7 47 := rfl
theorem l_M_empty_25 : bh_tb T_M_empty 25 = bo_ild 26 1 := rfl
theorem l_M_empty_26 : bh_tb T_M_empty 26 = bo_st 27 bg_dup2 := rfl
theorem l_M_empty_27 : bh_tb T_M_empty 27 = bo_Jald bh_ak bh_al 28 := rfl
theorem l_M_empty_28 : bh_tb T_M_empty 28 = bo_st 29 (bg_push (.inl (.long 1))) := rfl
theorem l_M_empty_29 : bh_tb T_M_empty 29 = bo_st 30 (bg_ll (fun x y => x + y)) := rfl
theorem l_M_empty_30 : bh_tb T_M_empty 30 = bo_Jast bh_ak bh_al 31 := rfl
theorem l_M_empty_31 : bh_tb T_M_empty 31 = bo_ald 32 0 := rfl
theorem l_M_empty_32 : bh_tb T_M_empty 32 = bo_ild 33 1 := rfl
theorem l_M_empty_33 : bh_tb T_M_empty 33 = bo_callV 36 2 0 0 40 F_M_unwire := rfl
theorem l_M_empty_36 : bh_tb T_M_empty 36 = bo_vret 0 := rfl
theorem l_M_install_0 : bh_tb T_M_install 0 = bo_ald 1 0 := rfl
theorem l_M_install_1 : bh_tb T_M_install 1 = bo_st 2 (bg_push (.inl (.int 0))) := rfl
theorem l_M_install_2 : bh_tb T_M_install 2 = bo_pI 5 40 0 := rfl
theorem l_M_install_5 : bh_tb T_M_install 5 = bo_ild 6 1 := rfl
theorem l_M_install_6 : bh_tb T_M_install 6 = bo_callS 9 1 0 0 F_M_isBundle := rfl
theorem l_M_install_9 : bh_tb T_M_install 9 = bo_if1 12 40 (fun x => x = 0) := rfl
theorem l_M_install_12 : bh_tb T_M_install 12 = bo_ild 13 2 := rfl
theorem l_M_install_13 : bh_tb T_M_install 13 = bo_st 14 (bg_push (.inl (.int 0))) := rfl
theorem l_M_install_14 : bh_tb T_M_install 14 = bo_st 15 (bg_push (.inl (.int 5))) := rfl
theorem l_M_install_15 : bh_tb T_M_install 15 = bo_callS 18 3 0 0 F_M_in := rfl
theorem l_M_install_18 : bh_tb T_M_install 18 = bo_if1 21 40 (fun x => x = 0) := rfl
theorem l_M_install_21 : bh_tb T_M_install 21 = bo_ild 22 3 := rfl
theorem l_M_install_22 : bh_tb T_M_install 22 = bo_st 23 (bg_push (.inl (.int 1))) := rfl
theorem l_M_install_23 : bh_tb T_M_install 23 = bo_st 24 (bg_push (.inl (.int 5))) := rfl
theorem l_M_install_24 : bh_tb T_M_install 24 = bo_callS 27 3 0 0 F_M_in := rfl
theorem l_M_install_27 : bh_tb T_M_install 27 = bo_if1 30 40 (fun x => x = 0) := rfl
theorem l_M_install_30 : bh_tb T_M_install 30 = bo_ild 32 4 := rfl
theorem l_M_install_32 : bh_tb T_M_install 32 = bo_st 33 (bg_push (.inl (.int 0))) := rfl
theorem l_M_install_33 : bh_tb T_M_install 33 = bo_st 34 (bg_push (.inl (.int 4))) := rfl
theorem l_M_install_34 : bh_tb T_M_install 34 = bo_callS 37 3 0 0 F_M_in := rfl
theorem l_M_install_37 : bh_tb T_M_install 37 = bo_if1 40 46 (fun x => ¬ x = 0) := rfl
theorem l_M_install_40 : bh_tb T_M_install 40 = bo_ald 41 0 := rfl
theorem l_M_install_41 : bh_tb T_M_install 41 = bo_st 42 (bg_push (.inl (.int 1))) := rfl
theorem l_M_install_42 : bh_tb T_M_install 42 = bo_callV 45 2 0 0 40 F_M_raise := rfl
theorem l_M_install_45 : bh_tb T_M_install 45 = bo_iret 0 := rfl
theorem l_M_install_46 : bh_tb T_M_install 46 = bo_ald 47 0 := rfl
theorem l_M_install_47 : bh_tb T_M_install 47 = bo_gR 50 40 1 41 := rfl
theorem l_M_install_50 : bh_tb T_M_install 50 = bo_ild 51 1 := rfl
theorem l_M_install_51 : bh_tb T_M_install 51 = bo_Iald bh_ak bh_al 52 := rfl
theorem l_M_install_52 : bh_tb T_M_install 52 = bo_if1 55 61 (fun x => x = 0) := rfl
theorem l_M_install_55 : bh_tb T_M_install 55 = bo_ald 56 0 := rfl
theorem l_M_install_56 : bh_tb T_M_install 56 = bo_st 57 (bg_push (.inl (.int 2))) := rfl
theorem l_M_install_57 : bh_tb T_M_install 57 = bo_callV 60 2 0 0 40 F_M_raise := rfl
theorem l_M_install_60 : bh_tb T_M_install 60 = bo_iret 0 := rfl
theorem l_M_install_61 : bh_tb T_M_install 61 = bo_ald 62 0 := rfl
theorem l_M_install_62 : bh_tb T_M_install 62 = bo_gR 65 40 1 41 := rfl
theorem l_M_install_65 : bh_tb T_M_install 65 = bo_ild 66 1 := rfl
theorem l_M_install_66 : bh_tb T_M_install 66 = bo_st 67 (bg_push (.inl (.int 1))) := rfl
theorem l_M_install_67 : bh_tb T_M_install 67 = bo_Iast bh_ak bh_al 68 := rfl
theorem l_M_install_68 : bh_tb T_M_install 68 = bo_ald 69 0 := rfl
theorem l_M_install_69 : bh_tb T_M_install 69 = bo_gR 72 40 2 42 := rfl
theorem l_M_install_72 : bh_tb T_M_install 72 = bo_ild 73 1 := rfl
theorem l_M_install_73 : bh_tb T_M_install 73 = bo_ild 74 2 := rfl
theorem l_M_install_74 : bh_tb T_M_install 74 = bo_Iast bh_ak bh_al 75 := rfl
theorem l_M_install_75 : bh_tb T_M_install 75 = bo_ald 76 0 := rfl
theorem l_M_install_76 : bh_tb T_M_install 76 = bo_gR 79 40 3 43 := rfl
theorem l_M_install_79 : bh_tb T_M_install 79 = bo_ild 80 1 := rfl
theorem l_M_install_80 : bh_tb T_M_install 80 = bo_ild 81 3 := rfl
theorem l_M_install_81 : bh_tb T_M_install 81 = bo_Iast bh_ak bh_al 82 := rfl
theorem l_M_install_82 : bh_tb T_M_install 82 = bo_ald 83 0 := rfl
theorem l_M_install_83 : bh_tb T_M_install 83 = bo_gR 86 40 4 44 := rfl
theorem l_M_install_86 : bh_tb T_M_install 86 = bo_ild 87 1 := rfl
theorem l_M_install_87 : bh_tb T_M_install 87 = bo_ild 89 4 := rfl
theorem l_M_install_89 : bh_tb T_M_install 89 = bo_Iast bh_ak bh_al 90 := rfl
theorem l_M_install_90 : bh_tb T_M_install 90 = bo_ald 91 0 := rfl
theorem l_M_install_91 : bh_tb T_M_install 91 = bo_gR 94 40 5 45 := rfl
theorem l_M_install_94 : bh_tb T_M_install 94 = bo_ild 95 1 := rfl
theorem l_M_install_95 : bh_tb T_M_install 95 = bo_st 96 (bg_push (.inl (.int 0))) := rfl
theorem l_M_install_96 : bh_tb T_M_install 96 = bo_Zast bh_ak bh_al 97 := rfl
theorem l_M_install_97 : bh_tb T_M_install 97 = bo_ald 98 0 := rfl
theorem l_M_install_98 : bh_tb T_M_install 98 = bo_ild 99 1 := rfl
theorem l_M_install_99 : bh_tb T_M_install 99 = bo_callV 102 2 0 0 40 F_M_empty := rfl
theorem l_M_install_102 : bh_tb T_M_install 102 = bo_st 103 (bg_push (.inl (.int 0))) := rfl
theorem l_M_install_103 : bh_tb T_M_install 103 = bo_ist 105 5 := rfl
theorem l_M_install_105 : bh_tb T_M_install 105 = bo_st 106 (bg_push (.inl (.int 0))) := rfl
theorem l_M_install_106 : bh_tb T_M_install 106 = bo_ist 108 6 := rfl
theorem l_M_install_108 : bh_tb T_M_install 108 = bo_ild 110 6 := rfl
theorem l_M_install_110 : bh_tb T_M_install 110 = bo_st 112 (bg_push (.inl (.int 8))) := rfl
theorem l_M_install_112 : bh_tb T_M_install 112 = bo_if2 115 134 (fun x y => y ≤ x) := rfl
theorem l_M_install_115 : bh_tb T_M_install 115 = bo_ald 116 0 := rfl
theorem l_M_install_116 : bh_tb T_M_install 116 = bo_gR 119 40 1 41 := rfl
theorem l_M_install_119 : bh_tb T_M_install 119 = bo_ild 121 6 := rfl
theorem l_M_install_121 : bh_tb T_M_install 121 = bo_Iald bh_ak bh_al 122 := rfl
theorem l_M_install_122 : bh_tb T_M_install 122 = bo_if1 125 128 (fun x => x = 0) := rfl
theorem l_M_install_125 : bh_tb T_M_install 125 = bo_inc 128 5 1 := rfl
theorem l_M_install_128 : bh_tb T_M_install 128 = bo_inc 131 6 1 := rfl
theorem l_M_install_131 : bh_tb T_M_install 131 = bo_go 108 := rfl
theorem l_M_install_134 : bh_tb T_M_install 134 = bo_ild 136 5 := rfl
theorem l_M_install_136 : bh_tb T_M_install 136 = bo_iret 0 := rfl
theorem l_M_export_0 : bh_tb T_M_export 0 = bo_ald 1 0 := rfl
theorem l_M_export_1 : bh_tb T_M_export 1 = bo_st 2 (bg_push (.inl (.int 0))) := rfl
theorem l_M_export_2 : bh_tb T_M_export 2 = bo_pI 5 40 0 := rfl
theorem l_M_export_5 : bh_tb T_M_export 5 = bo_ild 6 1 := rfl
theorem l_M_export_6 : bh_tb T_M_export 6 = bo_callS 9 1 0 0 F_M_isBundle := rfl
theorem l_M_export_9 : bh_tb T_M_export 9 = bo_if1 12 33 (fun x => x = 0) := rfl
theorem l_M_export_12 : bh_tb T_M_export 12 = bo_ild 13 2 := rfl
theorem l_M_export_13 : bh_tb T_M_export 13 = bo_st 14 (bg_push (.inl (.int 0))) := rfl
theorem l_M_export_14 : bh_tb T_M_export 14 = bo_st 16 (bg_push (.inl (.int 79))) := rfl
theorem l_M_export_16 : bh_tb T_M_export 16 = bo_callS 19 3 0 0 F_M_in := rfl
theorem l_M_export_19 : bh_tb T_M_export 19 = bo_if1 22 33 (fun x => x = 0) := rfl
theorem l_M_export_22 : bh_tb T_M_export 22 = bo_ild 23 3 := rfl
theorem l_M_export_23 : bh_tb T_M_export 23 = bo_st 24 (bg_push (.inl (.int 0))) := rfl
theorem l_M_export_24 : bh_tb T_M_export 24 = bo_st 27 (bg_push (.inl (.int 255))) := rfl
theorem l_M_export_27 : bh_tb T_M_export 27 = bo_callS 30 3 0 0 F_M_in := rfl
theorem l_M_export_30 : bh_tb T_M_export 30 = bo_if1 33 39 (fun x => ¬ x = 0) := rfl
theorem l_M_export_33 : bh_tb T_M_export 33 = bo_ald 34 0 := rfl
theorem l_M_export_34 : bh_tb T_M_export 34 = bo_st 35 (bg_push (.inl (.int 1))) := rfl
theorem l_M_export_35 : bh_tb T_M_export 35 = bo_callV 38 2 0 0 40 F_M_raise := rfl
theorem l_M_export_38 : bh_tb T_M_export 38 = bo_iret 0 := rfl
theorem l_M_export_39 : bh_tb T_M_export 39 = bo_ald 40 0 := rfl
theorem l_M_export_40 : bh_tb T_M_export 40 = bo_gR 43 40 1 41 := rfl
theorem l_M_export_43 : bh_tb T_M_export 43 = bo_ild 44 1 := rfl
theorem l_M_export_44 : bh_tb T_M_export 44 = bo_Iald bh_ak bh_al 45 := rfl
theorem l_M_export_45 : bh_tb T_M_export 45 = bo_if1 48 54 (fun x => ¬ x = 0) := rfl
theorem l_M_export_48 : bh_tb T_M_export 48 = bo_ald 49 0 := rfl
theorem l_M_export_49 : bh_tb T_M_export 49 = bo_st 50 (bg_push (.inl (.int 2))) := rfl
theorem l_M_export_50 : bh_tb T_M_export 50 = bo_callV 53 2 0 0 40 F_M_raise := rfl
theorem l_M_export_53 : bh_tb T_M_export 53 = bo_iret 0 := rfl
theorem l_M_export_54 : bh_tb T_M_export 54 = bo_ald 55 0 := rfl
theorem l_M_export_55 : bh_tb T_M_export 55 = bo_gR 58 40 1 41 := rfl
theorem l_M_export_58 : bh_tb T_M_export 58 = bo_ild 59 1 := rfl
theorem l_M_export_59 : bh_tb T_M_export 59 = bo_Iald bh_ak bh_al 60 := rfl
theorem l_M_export_60 : bh_tb T_M_export 60 = bo_st 61 (bg_push (.inl (.int 1))) := rfl
theorem l_M_export_61 : bh_tb T_M_export 61 = bo_if2 64 70 (fun x y => x = y) := rfl
theorem l_M_export_64 : bh_tb T_M_export 64 = bo_ald 65 0 := rfl
theorem l_M_export_65 : bh_tb T_M_export 65 = bo_st 66 (bg_push (.inl (.int 3))) := rfl
theorem l_M_export_66 : bh_tb T_M_export 66 = bo_callV 69 2 0 0 40 F_M_raise := rfl
theorem l_M_export_69 : bh_tb T_M_export 69 = bo_iret 0 := rfl
theorem l_M_export_70 : bh_tb T_M_export 70 = bo_st 71 (bg_push (.inl (.int 3))) := rfl
theorem l_M_export_71 : bh_tb T_M_export 71 = bo_ild 72 1 := rfl
theorem l_M_export_72 : bh_tb T_M_export 72 = bo_st 73 (bg_ii (fun x y => x * y)) := rfl
theorem l_M_export_73 : bh_tb T_M_export 73 = bo_ist 75 4 := rfl
theorem l_M_export_75 : bh_tb T_M_export 75 = bo_ild 77 4 := rfl
theorem l_M_export_77 : bh_tb T_M_export 77 = bo_st 78 (bg_push (.inl (.int 3))) := rfl
theorem l_M_export_78 : bh_tb T_M_export 78 = bo_ild 79 1 := rfl
theorem l_M_export_79 : bh_tb T_M_export 79 = bo_st 80 (bg_ii (fun x y => x * y)) := rfl
theorem l_M_export_80 : bh_tb T_M_export 80 = bo_ald 81 0 := rfl
theorem l_M_export_81 : bh_tb T_M_export 81 = bo_gR 84 40 8 48 := rfl
theorem l_M_export_84 : bh_tb T_M_export 84 = bo_ild 85 1 := rfl
theorem l_M_export_85 : bh_tb T_M_export 85 = bo_Iald bh_ak bh_al 86 := rfl
theorem l_M_export_86 : bh_tb T_M_export 86 = bo_st 87 (bg_ii (fun x y => x + y)) := rfl
theorem l_M_export_87 : bh_tb T_M_export 87 = bo_if2 90 116 (fun x y => y ≤ x) := rfl
theorem l_M_export_90 : bh_tb T_M_export 90 = bo_ald 91 0 := rfl
theorem l_M_export_91 : bh_tb T_M_export 91 = bo_gR 94 40 9 49 := rfl
theorem l_M_export_94 : bh_tb T_M_export 94 = bo_ild 96 4 := rfl
theorem l_M_export_96 : bh_tb T_M_export 96 = bo_Iald bh_ak bh_al 97 := rfl
theorem l_M_export_97 : bh_tb T_M_export 97 = bo_ild 98 2 := rfl
theorem l_M_export_98 : bh_tb T_M_export 98 = bo_st 100 (bg_push (.inl (.int 8))) := rfl
theorem l_M_export_100 : bh_tb T_M_export 100 = bo_st 101 (bg_dv (fun x y => x - x / y * y)) := rfl
theorem l_M_export_101 : bh_tb T_M_export 101 = bo_if2 104 110 (fun x y => ¬ x = y) := rfl
theorem l_M_export_104 : bh_tb T_M_export 104 = bo_ald 105 0 := rfl
theorem l_M_export_105 : bh_tb T_M_export 105 = bo_st 106 (bg_push (.inl (.int 4))) := rfl
theorem l_M_export_106 : bh_tb T_M_export 106 = bo_callV 109 2 0 0 40 F_M_raise := rfl
theorem l_M_export_109 : bh_tb T_M_export 109 = bo_iret 0 := rfl
theorem l_M_export_110 : bh_tb T_M_export 110 = bo_inc 113 4 1 := rfl
theorem l_M_export_113 : bh_tb T_M_export 113 = bo_go 75 := rfl
theorem l_M_export_116 : bh_tb T_M_export 116 = bo_ald 117 0 := rfl
theorem l_M_export_117 : bh_tb T_M_export 117 = bo_gR 120 40 8 48 := rfl
theorem l_M_export_120 : bh_tb T_M_export 120 = bo_ild 121 1 := rfl
theorem l_M_export_121 : bh_tb T_M_export 121 = bo_Iald bh_ak bh_al 122 := rfl
theorem l_M_export_122 : bh_tb T_M_export 122 = bo_st 123 (bg_push (.inl (.int 3))) := rfl
theorem l_M_export_123 : bh_tb T_M_export 123 = bo_if2 126 132 (fun x y => ¬ x = y) := rfl
theorem l_M_export_126 : bh_tb T_M_export 126 = bo_ald 127 0 := rfl
theorem l_M_export_127 : bh_tb T_M_export 127 = bo_st 128 (bg_push (.inl (.int 4))) := rfl
theorem l_M_export_128 : bh_tb T_M_export 128 = bo_callV 131 2 0 0 40 F_M_raise := rfl
theorem l_M_export_131 : bh_tb T_M_export 131 = bo_iret 0 := rfl
theorem l_M_export_132 : bh_tb T_M_export 132 = bo_st 133 (bg_push (.inl (.int 3))) := rfl
theorem l_M_export_133 : bh_tb T_M_export 133 = bo_ild 134 1 := rfl
theorem l_M_export_134 : bh_tb T_M_export 134 = bo_st 135 (bg_ii (fun x y => x * y)) := rfl
theorem l_M_export_135 : bh_tb T_M_export 135 = bo_ald 136 0 := rfl
theorem l_M_export_136 : bh_tb T_M_export 136 = bo_gR 139 40 8 48 := rfl
theorem l_M_export_139 : bh_tb T_M_export 139 = bo_ild 140 1 := rfl
theorem l_M_export_140 : bh_tb T_M_export 140 = bo_Iald bh_ak bh_al 141 := rfl
theorem l_M_export_141 : bh_tb T_M_export 141 = bo_st 142 (bg_ii (fun x y => x + y)) := rfl
theorem l_M_export_142 : bh_tb T_M_export 142 = bo_ist 144 4 := rfl
theorem l_M_export_144 : bh_tb T_M_export 144 = bo_ald 145 0 := rfl
theorem l_M_export_145 : bh_tb T_M_export 145 = bo_gR 148 40 9 49 := rfl
theorem l_M_export_148 : bh_tb T_M_export 148 = bo_ild 150 4 := rfl
theorem l_M_export_150 : bh_tb T_M_export 150 = bo_ild 151 2 := rfl
theorem l_M_export_151 : bh_tb T_M_export 151 = bo_st 153 (bg_push (.inl (.int 8))) := rfl
theorem l_M_export_153 : bh_tb T_M_export 153 = bo_st 154 (bg_dv (fun x y => x - x / y * y)) := rfl
theorem l_M_export_154 : bh_tb T_M_export 154 = bo_Iast bh_ak bh_al 155 := rfl
theorem l_M_export_155 : bh_tb T_M_export 155 = bo_ald 156 0 := rfl
theorem l_M_export_156 : bh_tb T_M_export 156 = bo_gR 159 40 10 50 := rfl
theorem l_M_export_159 : bh_tb T_M_export 159 = bo_ild 161 4 := rfl
theorem l_M_export_161 : bh_tb T_M_export 161 = bo_ild 162 2 := rfl
theorem l_M_export_162 : bh_tb T_M_export 162 = bo_st 164 (bg_push (.inl (.int 8))) := rfl
theorem l_M_export_164 : bh_tb T_M_export 164 = bo_st 165 (bg_dv (fun x y => x / y)) := rfl
theorem l_M_export_165 : bh_tb T_M_export 165 = bo_Iast bh_ak bh_al 166 := rfl
theorem l_M_export_166 : bh_tb T_M_export 166 = bo_ald 167 0 := rfl
theorem l_M_export_167 : bh_tb T_M_export 167 = bo_gR 170 40 11 51 := rfl
theorem l_M_export_170 : bh_tb T_M_export 170 = bo_ild 172 4 := rfl
theorem l_M_export_172 : bh_tb T_M_export 172 = bo_ild 173 3 := rfl
theorem l_M_export_173 : bh_tb T_M_export 173 = bo_Iast bh_ak bh_al 174 := rfl
theorem l_M_export_174 : bh_tb T_M_export 174 = bo_ald 175 0 := rfl
theorem l_M_export_175 : bh_tb T_M_export 175 = bo_gR 178 40 8 48 := rfl
theorem l_M_export_178 : bh_tb T_M_export 178 = bo_ild 179 1 := rfl
theorem l_M_export_179 : bh_tb T_M_export 179 = bo_st 180 bg_dup2 := rfl
theorem l_M_export_180 : bh_tb T_M_export 180 = bo_Iald bh_ak bh_al 181 := rfl
theorem l_M_export_181 : bh_tb T_M_export 181 = bo_st 182 (bg_push (.inl (.int 1))) := rfl
theorem l_M_export_182 : bh_tb T_M_export 182 = bo_st 183 (bg_ii (fun x y => x + y)) := rfl
theorem l_M_export_183 : bh_tb T_M_export 183 = bo_Iast bh_ak bh_al 184 := rfl
theorem l_M_export_184 : bh_tb T_M_export 184 = bo_ald 185 0 := rfl
theorem l_M_export_185 : bh_tb T_M_export 185 = bo_gR 188 40 8 48 := rfl
theorem l_M_export_188 : bh_tb T_M_export 188 = bo_ild 189 1 := rfl
theorem l_M_export_189 : bh_tb T_M_export 189 = bo_Iald bh_ak bh_al 190 := rfl
theorem l_M_export_190 : bh_tb T_M_export 190 = bo_iret 0 := rfl
theorem l_M_need_0 : bh_tb T_M_need 0 = bo_ald 1 0 := rfl
theorem l_M_need_1 : bh_tb T_M_need 1 = bo_st 2 (bg_push (.inl (.int 0))) := rfl
theorem l_M_need_2 : bh_tb T_M_need 2 = bo_pI 5 40 0 := rfl
theorem l_M_need_5 : bh_tb T_M_need 5 = bo_ild 6 1 := rfl
theorem l_M_need_6 : bh_tb T_M_need 6 = bo_callS 9 1 0 0 F_M_isBundle := rfl
theorem l_M_need_9 : bh_tb T_M_need 9 = bo_if1 12 43 (fun x => x = 0) := rfl
theorem l_M_need_12 : bh_tb T_M_need 12 = bo_ild 13 2 := rfl
theorem l_M_need_13 : bh_tb T_M_need 13 = bo_st 14 (bg_push (.inl (.int 0))) := rfl
theorem l_M_need_14 : bh_tb T_M_need 14 = bo_st 16 (bg_push (.inl (.int 7))) := rfl
theorem l_M_need_16 : bh_tb T_M_need 16 = bo_callS 19 3 0 0 F_M_in := rfl
theorem l_M_need_19 : bh_tb T_M_need 19 = bo_if1 22 43 (fun x => x = 0) := rfl
theorem l_M_need_22 : bh_tb T_M_need 22 = bo_ild 23 3 := rfl
theorem l_M_need_23 : bh_tb T_M_need 23 = bo_st 24 (bg_push (.inl (.int 0))) := rfl
theorem l_M_need_24 : bh_tb T_M_need 24 = bo_st 26 (bg_push (.inl (.int 9))) := rfl
theorem l_M_need_26 : bh_tb T_M_need 26 = bo_callS 29 3 0 0 F_M_in := rfl
theorem l_M_need_29 : bh_tb T_M_need 29 = bo_if1 32 43 (fun x => x = 0) := rfl
theorem l_M_need_32 : bh_tb T_M_need 32 = bo_ild 34 4 := rfl
theorem l_M_need_34 : bh_tb T_M_need 34 = bo_st 35 (bg_push (.inl (.int 0))) := rfl
theorem l_M_need_35 : bh_tb T_M_need 35 = bo_st 37 (bg_push (.inl (.int 9))) := rfl
theorem l_M_need_37 : bh_tb T_M_need 37 = bo_callS 40 3 0 0 F_M_in := rfl
theorem l_M_need_40 : bh_tb T_M_need 40 = bo_if1 43 49 (fun x => ¬ x = 0) := rfl
theorem l_M_need_43 : bh_tb T_M_need 43 = bo_ald 44 0 := rfl
theorem l_M_need_44 : bh_tb T_M_need 44 = bo_st 45 (bg_push (.inl (.int 1))) := rfl
theorem l_M_need_45 : bh_tb T_M_need 45 = bo_callV 48 2 0 0 40 F_M_raise := rfl
theorem l_M_need_48 : bh_tb T_M_need 48 = bo_iret 0 := rfl
theorem l_M_need_49 : bh_tb T_M_need 49 = bo_ald 50 0 := rfl
theorem l_M_need_50 : bh_tb T_M_need 50 = bo_gR 53 40 1 41 := rfl
theorem l_M_need_53 : bh_tb T_M_need 53 = bo_ild 54 1 := rfl
theorem l_M_need_54 : bh_tb T_M_need 54 = bo_Iald bh_ak bh_al 55 := rfl
theorem l_M_need_55 : bh_tb T_M_need 55 = bo_if1 58 64 (fun x => ¬ x = 0) := rfl
theorem l_M_need_58 : bh_tb T_M_need 58 = bo_ald 59 0 := rfl
theorem l_M_need_59 : bh_tb T_M_need 59 = bo_st 60 (bg_push (.inl (.int 2))) := rfl
theorem l_M_need_60 : bh_tb T_M_need 60 = bo_callV 63 2 0 0 40 F_M_raise := rfl
theorem l_M_need_63 : bh_tb T_M_need 63 = bo_iret 0 := rfl
theorem l_M_need_64 : bh_tb T_M_need 64 = bo_ald 65 0 := rfl
theorem l_M_need_65 : bh_tb T_M_need 65 = bo_gR 68 40 1 41 := rfl
theorem l_M_need_68 : bh_tb T_M_need 68 = bo_ild 69 1 := rfl
theorem l_M_need_69 : bh_tb T_M_need 69 = bo_Iald bh_ak bh_al 70 := rfl
theorem l_M_need_70 : bh_tb T_M_need 70 = bo_st 71 (bg_push (.inl (.int 1))) := rfl
theorem l_M_need_71 : bh_tb T_M_need 71 = bo_if2 74 80 (fun x y => x = y) := rfl
theorem l_M_need_74 : bh_tb T_M_need 74 = bo_ald 75 0 := rfl
theorem l_M_need_75 : bh_tb T_M_need 75 = bo_st 76 (bg_push (.inl (.int 3))) := rfl
theorem l_M_need_76 : bh_tb T_M_need 76 = bo_callV 79 2 0 0 40 F_M_raise := rfl
theorem l_M_need_79 : bh_tb T_M_need 79 = bo_iret 0 := rfl
theorem l_M_need_80 : bh_tb T_M_need 80 = bo_st 81 (bg_push (.inl (.int 3))) := rfl
theorem l_M_need_81 : bh_tb T_M_need 81 = bo_ild 82 1 := rfl
theorem l_M_need_82 : bh_tb T_M_need 82 = bo_st 83 (bg_ii (fun x y => x * y)) := rfl
theorem l_M_need_83 : bh_tb T_M_need 83 = bo_ist 85 6 := rfl
theorem l_M_need_85 : bh_tb T_M_need 85 = bo_ild 87 6 := rfl
theorem l_M_need_87 : bh_tb T_M_need 87 = bo_st 88 (bg_push (.inl (.int 3))) := rfl
theorem l_M_need_88 : bh_tb T_M_need 88 = bo_ild 89 1 := rfl
theorem l_M_need_89 : bh_tb T_M_need 89 = bo_st 90 (bg_ii (fun x y => x * y)) := rfl
theorem l_M_need_90 : bh_tb T_M_need 90 = bo_ald 91 0 := rfl
theorem l_M_need_91 : bh_tb T_M_need 91 = bo_gR 94 40 12 52 := rfl
theorem l_M_need_94 : bh_tb T_M_need 94 = bo_ild 95 1 := rfl
theorem l_M_need_95 : bh_tb T_M_need 95 = bo_Iald bh_ak bh_al 96 := rfl
theorem l_M_need_96 : bh_tb T_M_need 96 = bo_st 97 (bg_ii (fun x y => x + y)) := rfl
theorem l_M_need_97 : bh_tb T_M_need 97 = bo_if2 100 123 (fun x y => y ≤ x) := rfl
theorem l_M_need_100 : bh_tb T_M_need 100 = bo_ald 101 0 := rfl
theorem l_M_need_101 : bh_tb T_M_need 101 = bo_gR 104 40 13 53 := rfl
theorem l_M_need_104 : bh_tb T_M_need 104 = bo_ild 106 6 := rfl
theorem l_M_need_106 : bh_tb T_M_need 106 = bo_Iald bh_ak bh_al 107 := rfl
theorem l_M_need_107 : bh_tb T_M_need 107 = bo_ild 108 2 := rfl
theorem l_M_need_108 : bh_tb T_M_need 108 = bo_if2 111 117 (fun x y => ¬ x = y) := rfl
theorem l_M_need_111 : bh_tb T_M_need 111 = bo_ald 112 0 := rfl
theorem l_M_need_112 : bh_tb T_M_need 112 = bo_st 113 (bg_push (.inl (.int 4))) := rfl
theorem l_M_need_113 : bh_tb T_M_need 113 = bo_callV 116 2 0 0 40 F_M_raise := rfl
theorem l_M_need_116 : bh_tb T_M_need 116 = bo_iret 0 := rfl
theorem l_M_need_117 : bh_tb T_M_need 117 = bo_inc 120 6 1 := rfl
theorem l_M_need_120 : bh_tb T_M_need 120 = bo_go 85 := rfl
theorem l_M_need_123 : bh_tb T_M_need 123 = bo_ald 124 0 := rfl
theorem l_M_need_124 : bh_tb T_M_need 124 = bo_gR 127 40 12 52 := rfl
theorem l_M_need_127 : bh_tb T_M_need 127 = bo_ild 128 1 := rfl
theorem l_M_need_128 : bh_tb T_M_need 128 = bo_Iald bh_ak bh_al 129 := rfl
theorem l_M_need_129 : bh_tb T_M_need 129 = bo_st 130 (bg_push (.inl (.int 3))) := rfl
theorem l_M_need_130 : bh_tb T_M_need 130 = bo_if2 133 139 (fun x y => ¬ x = y) := rfl
theorem l_M_need_133 : bh_tb T_M_need 133 = bo_ald 134 0 := rfl
theorem l_M_need_134 : bh_tb T_M_need 134 = bo_st 135 (bg_push (.inl (.int 4))) := rfl
theorem l_M_need_135 : bh_tb T_M_need 135 = bo_callV 138 2 0 0 40 F_M_raise := rfl
theorem l_M_need_138 : bh_tb T_M_need 138 = bo_iret 0 := rfl
theorem l_M_need_139 : bh_tb T_M_need 139 = bo_st 140 (bg_push (.inl (.int 3))) := rfl
theorem l_M_need_140 : bh_tb T_M_need 140 = bo_ild 141 1 := rfl
theorem l_M_need_141 : bh_tb T_M_need 141 = bo_st 142 (bg_ii (fun x y => x * y)) := rfl
theorem l_M_need_142 : bh_tb T_M_need 142 = bo_ald 143 0 := rfl
theorem l_M_need_143 : bh_tb T_M_need 143 = bo_gR 146 40 12 52 := rfl
theorem l_M_need_146 : bh_tb T_M_need 146 = bo_ild 147 1 := rfl
theorem l_M_need_147 : bh_tb T_M_need 147 = bo_Iald bh_ak bh_al 148 := rfl
theorem l_M_need_148 : bh_tb T_M_need 148 = bo_st 149 (bg_ii (fun x y => x + y)) := rfl
theorem l_M_need_149 : bh_tb T_M_need 149 = bo_ist 151 6 := rfl
theorem l_M_need_151 : bh_tb T_M_need 151 = bo_ald 152 0 := rfl
theorem l_M_need_152 : bh_tb T_M_need 152 = bo_gR 155 40 13 53 := rfl
theorem l_M_need_155 : bh_tb T_M_need 155 = bo_ild 157 6 := rfl
theorem l_M_need_157 : bh_tb T_M_need 157 = bo_ild 158 2 := rfl
theorem l_M_need_158 : bh_tb T_M_need 158 = bo_Iast bh_ak bh_al 159 := rfl
theorem l_M_need_159 : bh_tb T_M_need 159 = bo_ald 160 0 := rfl
theorem l_M_need_160 : bh_tb T_M_need 160 = bo_gR 163 40 14 54 := rfl
theorem l_M_need_163 : bh_tb T_M_need 163 = bo_ild 165 6 := rfl
theorem l_M_need_165 : bh_tb T_M_need 165 = bo_ild 166 3 := rfl
theorem l_M_need_166 : bh_tb T_M_need 166 = bo_Iast bh_ak bh_al 167 := rfl
theorem l_M_need_167 : bh_tb T_M_need 167 = bo_ald 168 0 := rfl
theorem l_M_need_168 : bh_tb T_M_need 168 = bo_gR 171 40 15 55 := rfl
theorem l_M_need_171 : bh_tb T_M_need 171 = bo_ild 173 6 := rfl
theorem l_M_need_173 : bh_tb T_M_need 173 = bo_ild 175 4 := rfl
theorem l_M_need_175 : bh_tb T_M_need 175 = bo_Iast bh_ak bh_al 176 := rfl
theorem l_M_need_176 : bh_tb T_M_need 176 = bo_ald 177 0 := rfl
theorem l_M_need_177 : bh_tb T_M_need 177 = bo_gR 180 40 16 56 := rfl
theorem l_M_need_180 : bh_tb T_M_need 180 = bo_ild 182 6 := rfl
theorem l_M_need_182 : bh_tb T_M_need 182 = bo_ild 184 5 := rfl
theorem l_M_need_184 : bh_tb T_M_need 184 = bo_Zast bh_ak bh_al 185 := rfl
theorem l_M_need_185 : bh_tb T_M_need 185 = bo_ald 186 0 := rfl
theorem l_M_need_186 : bh_tb T_M_need 186 = bo_gR 189 40 12 52 := rfl
theorem l_M_need_189 : bh_tb T_M_need 189 = bo_ild 190 1 := rfl
theorem l_M_need_190 : bh_tb T_M_need 190 = bo_st 191 bg_dup2 := rfl
theorem l_M_need_191 : bh_tb T_M_need 191 = bo_Iald bh_ak bh_al 192 := rfl
theorem l_M_need_192 : bh_tb T_M_need 192 = bo_st 193 (bg_push (.inl (.int 1))) := rfl
theorem l_M_need_193 : bh_tb T_M_need 193 = bo_st 194 (bg_ii (fun x y => x + y)) := rfl
theorem l_M_need_194 : bh_tb T_M_need 194 = bo_Iast bh_ak bh_al 195 := rfl
theorem l_M_need_195 : bh_tb T_M_need 195 = bo_ald 196 0 := rfl
theorem l_M_need_196 : bh_tb T_M_need 196 = bo_gR 199 40 12 52 := rfl
theorem l_M_need_199 : bh_tb T_M_need 199 = bo_ild 200 1 := rfl
theorem l_M_need_200 : bh_tb T_M_need 200 = bo_Iald bh_ak bh_al 201 := rfl
theorem l_M_need_201 : bh_tb T_M_need 201 = bo_iret 0 := rfl
theorem l_M_live_0 : bh_tb T_M_live 0 = bo_ald 1 0 := rfl
theorem l_M_live_1 : bh_tb T_M_live 1 = bo_gR 4 40 1 41 := rfl
theorem l_M_live_4 : bh_tb T_M_live 4 = bo_ild 5 1 := rfl
theorem l_M_live_5 : bh_tb T_M_live 5 = bo_Iald bh_ak bh_al 6 := rfl
theorem l_M_live_6 : bh_tb T_M_live 6 = bo_st 7 (bg_push (.inl (.int 1))) := rfl
theorem l_M_live_7 : bh_tb T_M_live 7 = bo_if2 10 14 (fun x y => x ≤ y) := rfl
theorem l_M_live_10 : bh_tb T_M_live 10 = bo_st 11 (bg_push (.inl (.int 1))) := rfl
theorem l_M_live_11 : bh_tb T_M_live 11 = bo_go 15 := rfl
theorem l_M_live_14 : bh_tb T_M_live 14 = bo_st 15 (bg_push (.inl (.int 0))) := rfl
theorem l_M_live_15 : bh_tb T_M_live 15 = bo_zret 0 := rfl
theorem l_M_named_0 : bh_tb T_M_named 0 = bo_st 1 (bg_push (.inl (.int 0))) := rfl
theorem l_M_named_1 : bh_tb T_M_named 1 = bo_ist 2 2 := rfl
theorem l_M_named_2 : bh_tb T_M_named 2 = bo_ild 3 2 := rfl
theorem l_M_named_3 : bh_tb T_M_named 3 = bo_st 5 (bg_push (.inl (.int 8))) := rfl
theorem l_M_named_5 : bh_tb T_M_named 5 = bo_if2 8 53 (fun x y => y ≤ x) := rfl
theorem l_M_named_8 : bh_tb T_M_named 8 = bo_ild 9 2 := rfl
theorem l_M_named_9 : bh_tb T_M_named 9 = bo_ild 10 1 := rfl
theorem l_M_named_10 : bh_tb T_M_named 10 = bo_if2 13 47 (fun x y => x = y) := rfl
theorem l_M_named_13 : bh_tb T_M_named 13 = bo_ald 14 0 := rfl
theorem l_M_named_14 : bh_tb T_M_named 14 = bo_ild 15 2 := rfl
theorem l_M_named_15 : bh_tb T_M_named 15 = bo_callV 18 2 0 0 40 F_M_live := rfl
theorem l_M_named_18 : bh_tb T_M_named 18 = bo_if1 21 30 (fun x => ¬ x = 0) := rfl
theorem l_M_named_21 : bh_tb T_M_named 21 = bo_ald 22 0 := rfl
theorem l_M_named_22 : bh_tb T_M_named 22 = bo_gR 25 40 24 63 := rfl
theorem l_M_named_25 : bh_tb T_M_named 25 = bo_ild 26 2 := rfl
theorem l_M_named_26 : bh_tb T_M_named 26 = bo_Zald bh_ak bh_al 27 := rfl
theorem l_M_named_27 : bh_tb T_M_named 27 = bo_if1 30 47 (fun x => x = 0) := rfl
theorem l_M_named_30 : bh_tb T_M_named 30 = bo_ald 31 0 := rfl
theorem l_M_named_31 : bh_tb T_M_named 31 = bo_gR 34 40 2 42 := rfl
theorem l_M_named_34 : bh_tb T_M_named 34 = bo_ild 35 2 := rfl
theorem l_M_named_35 : bh_tb T_M_named 35 = bo_Iald bh_ak bh_al 36 := rfl
theorem l_M_named_36 : bh_tb T_M_named 36 = bo_ald 37 0 := rfl
theorem l_M_named_37 : bh_tb T_M_named 37 = bo_gR 40 40 2 42 := rfl
theorem l_M_named_40 : bh_tb T_M_named 40 = bo_ild 41 1 := rfl
theorem l_M_named_41 : bh_tb T_M_named 41 = bo_Iald bh_ak bh_al 42 := rfl
theorem l_M_named_42 : bh_tb T_M_named 42 = bo_if2 45 47 (fun x y => ¬ x = y) := rfl
theorem l_M_named_45 : bh_tb T_M_named 45 = bo_st 46 (bg_push (.inl (.int 1))) := rfl
theorem l_M_named_46 : bh_tb T_M_named 46 = bo_zret 0 := rfl
theorem l_M_named_47 : bh_tb T_M_named 47 = bo_inc 50 2 1 := rfl
theorem l_M_named_50 : bh_tb T_M_named 50 = bo_go 2 := rfl
theorem l_M_named_53 : bh_tb T_M_named 53 = bo_st 54 (bg_push (.inl (.int 0))) := rfl
theorem l_M_named_54 : bh_tb T_M_named 54 = bo_zret 0 := rfl
theorem l_M_takeIn_0 : bh_tb T_M_takeIn 0 = bo_ald 1 0 := rfl
theorem l_M_takeIn_1 : bh_tb T_M_takeIn 1 = bo_gR 4 40 24 63 := rfl
theorem l_M_takeIn_4 : bh_tb T_M_takeIn 4 = bo_ild 5 1 := rfl
theorem l_M_takeIn_5 : bh_tb T_M_takeIn 5 = bo_st 6 (bg_push (.inl (.int 1))) := rfl
theorem l_M_takeIn_6 : bh_tb T_M_takeIn 6 = bo_Zast bh_ak bh_al 7 := rfl
theorem l_M_takeIn_7 : bh_tb T_M_takeIn 7 = bo_ald 8 0 := rfl
theorem l_M_takeIn_8 : bh_tb T_M_takeIn 8 = bo_gR 11 40 25 64 := rfl
theorem l_M_takeIn_11 : bh_tb T_M_takeIn 11 = bo_ild 12 1 := rfl
theorem l_M_takeIn_12 : bh_tb T_M_takeIn 12 = bo_ild 13 2 := rfl
theorem l_M_takeIn_13 : bh_tb T_M_takeIn 13 = bo_Iast bh_ak bh_al 14 := rfl
theorem l_M_takeIn_14 : bh_tb T_M_takeIn 14 = bo_st 15 (bg_push (.inl (.int 3))) := rfl
theorem l_M_takeIn_15 : bh_tb T_M_takeIn 15 = bo_ild 16 1 := rfl
theorem l_M_takeIn_16 : bh_tb T_M_takeIn 16 = bo_st 17 (bg_ii (fun x y => x * y)) := rfl
theorem l_M_takeIn_17 : bh_tb T_M_takeIn 17 = bo_ist 18 3 := rfl
theorem l_M_takeIn_18 : bh_tb T_M_takeIn 18 = bo_ild 19 3 := rfl
theorem l_M_takeIn_19 : bh_tb T_M_takeIn 19 = bo_st 20 (bg_push (.inl (.int 3))) := rfl
theorem l_M_takeIn_20 : bh_tb T_M_takeIn 20 = bo_ild 21 1 := rfl
theorem l_M_takeIn_21 : bh_tb T_M_takeIn 21 = bo_st 22 (bg_ii (fun x y => x * y)) := rfl
theorem l_M_takeIn_22 : bh_tb T_M_takeIn 22 = bo_ald 23 0 := rfl
theorem l_M_takeIn_23 : bh_tb T_M_takeIn 23 = bo_gR 26 40 12 52 := rfl
theorem l_M_takeIn_26 : bh_tb T_M_takeIn 26 = bo_ild 27 1 := rfl
theorem l_M_takeIn_27 : bh_tb T_M_takeIn 27 = bo_Iald bh_ak bh_al 28 := rfl
theorem l_M_takeIn_28 : bh_tb T_M_takeIn 28 = bo_st 29 (bg_ii (fun x y => x + y)) := rfl
theorem l_M_takeIn_29 : bh_tb T_M_takeIn 29 = bo_if2 32 70 (fun x y => y ≤ x) := rfl
theorem l_M_takeIn_32 : bh_tb T_M_takeIn 32 = bo_ald 33 0 := rfl
theorem l_M_takeIn_33 : bh_tb T_M_takeIn 33 = bo_gR 36 40 16 56 := rfl
theorem l_M_takeIn_36 : bh_tb T_M_takeIn 36 = bo_ild 37 3 := rfl
theorem l_M_takeIn_37 : bh_tb T_M_takeIn 37 = bo_Zald bh_ak bh_al 38 := rfl
theorem l_M_takeIn_38 : bh_tb T_M_takeIn 38 = bo_if1 41 44 (fun x => x = 0) := rfl
theorem l_M_takeIn_41 : bh_tb T_M_takeIn 41 = bo_go 64 := rfl
theorem l_M_takeIn_44 : bh_tb T_M_takeIn 44 = bo_ald 45 0 := rfl
theorem l_M_takeIn_45 : bh_tb T_M_takeIn 45 = bo_gR 48 40 18 58 := rfl
theorem l_M_takeIn_48 : bh_tb T_M_takeIn 48 = bo_ald 49 0 := rfl
theorem l_M_takeIn_49 : bh_tb T_M_takeIn 49 = bo_gI 52 40 19 := rfl
theorem l_M_takeIn_52 : bh_tb T_M_takeIn 52 = bo_ild 53 3 := rfl
theorem l_M_takeIn_53 : bh_tb T_M_takeIn 53 = bo_Iast bh_ak bh_al 54 := rfl
theorem l_M_takeIn_54 : bh_tb T_M_takeIn 54 = bo_ald 55 0 := rfl
theorem l_M_takeIn_55 : bh_tb T_M_takeIn 55 = bo_st 56 bg_dup := rfl
theorem l_M_takeIn_56 : bh_tb T_M_takeIn 56 = bo_gI 59 40 19 := rfl
theorem l_M_takeIn_59 : bh_tb T_M_takeIn 59 = bo_st 60 (bg_push (.inl (.int 1))) := rfl
theorem l_M_takeIn_60 : bh_tb T_M_takeIn 60 = bo_st 61 (bg_ii (fun x y => x + y)) := rfl
theorem l_M_takeIn_61 : bh_tb T_M_takeIn 61 = bo_pI 64 40 19 := rfl
theorem l_M_takeIn_64 : bh_tb T_M_takeIn 64 = bo_inc 67 3 1 := rfl
theorem l_M_takeIn_67 : bh_tb T_M_takeIn 67 = bo_go 18 := rfl
theorem l_M_takeIn_70 : bh_tb T_M_takeIn 70 = bo_vret 0 := rfl
theorem l_M_fits_0 : bh_tb T_M_fits 0 = bo_ald 1 0 := rfl
theorem l_M_fits_1 : bh_tb T_M_fits 1 = bo_gR 4 40 9 49 := rfl
theorem l_M_fits_4 : bh_tb T_M_fits 4 = bo_ild 5 1 := rfl
theorem l_M_fits_5 : bh_tb T_M_fits 5 = bo_Iald bh_ak bh_al 6 := rfl
theorem l_M_fits_6 : bh_tb T_M_fits 6 = bo_ald 7 0 := rfl
theorem l_M_fits_7 : bh_tb T_M_fits 7 = bo_gR 10 40 13 53 := rfl
theorem l_M_fits_10 : bh_tb T_M_fits 10 = bo_ild 11 2 := rfl
theorem l_M_fits_11 : bh_tb T_M_fits 11 = bo_Iald bh_ak bh_al 12 := rfl
theorem l_M_fits_12 : bh_tb T_M_fits 12 = bo_if2 15 49 (fun x y => ¬ x = y) := rfl
theorem l_M_fits_15 : bh_tb T_M_fits 15 = bo_ald 16 0 := rfl
theorem l_M_fits_16 : bh_tb T_M_fits 16 = bo_gR 19 40 10 50 := rfl
theorem l_M_fits_19 : bh_tb T_M_fits 19 = bo_ild 20 1 := rfl
theorem l_M_fits_20 : bh_tb T_M_fits 20 = bo_Iald bh_ak bh_al 21 := rfl
theorem l_M_fits_21 : bh_tb T_M_fits 21 = bo_ald 22 0 := rfl
theorem l_M_fits_22 : bh_tb T_M_fits 22 = bo_gR 25 40 14 54 := rfl
theorem l_M_fits_25 : bh_tb T_M_fits 25 = bo_ild 26 2 := rfl
theorem l_M_fits_26 : bh_tb T_M_fits 26 = bo_Iald bh_ak bh_al 27 := rfl
theorem l_M_fits_27 : bh_tb T_M_fits 27 = bo_if2 30 49 (fun x y => x < y) := rfl
theorem l_M_fits_30 : bh_tb T_M_fits 30 = bo_ald 31 0 := rfl
theorem l_M_fits_31 : bh_tb T_M_fits 31 = bo_gR 34 40 10 50 := rfl
theorem l_M_fits_34 : bh_tb T_M_fits 34 = bo_ild 35 1 := rfl
theorem l_M_fits_35 : bh_tb T_M_fits 35 = bo_Iald bh_ak bh_al 36 := rfl
theorem l_M_fits_36 : bh_tb T_M_fits 36 = bo_ald 37 0 := rfl
theorem l_M_fits_37 : bh_tb T_M_fits 37 = bo_gR 40 40 15 55 := rfl
theorem l_M_fits_40 : bh_tb T_M_fits 40 = bo_ild 41 2 := rfl
theorem l_M_fits_41 : bh_tb T_M_fits 41 = bo_Iald bh_ak bh_al 42 := rfl
theorem l_M_fits_42 : bh_tb T_M_fits 42 = bo_if2 45 49 (fun x y => y < x) := rfl
theorem l_M_fits_45 : bh_tb T_M_fits 45 = bo_st 46 (bg_push (.inl (.int 1))) := rfl
theorem l_M_fits_46 : bh_tb T_M_fits 46 = bo_go 50 := rfl
theorem l_M_fits_49 : bh_tb T_M_fits 49 = bo_st 50 (bg_push (.inl (.int 0))) := rfl
theorem l_M_fits_50 : bh_tb T_M_fits 50 = bo_zret 0 := rfl
theorem l_M_find_0 : bh_tb T_M_find 0 = bo_ald 1 0 := rfl
theorem l_M_find_1 : bh_tb T_M_find 1 = bo_gR 4 40 21 60 := rfl
theorem l_M_find_4 : bh_tb T_M_find 4 = bo_ild 5 1 := rfl
theorem l_M_find_5 : bh_tb T_M_find 5 = bo_st 6 (bg_push (.inl (.int 0))) := rfl
theorem l_M_find_6 : bh_tb T_M_find 6 = bo_Iast bh_ak bh_al 7 := rfl
theorem l_M_find_7 : bh_tb T_M_find 7 = bo_st 8 (bg_push (.inl (.int 0))) := rfl
theorem l_M_find_8 : bh_tb T_M_find 8 = bo_ist 9 3 := rfl
theorem l_M_find_9 : bh_tb T_M_find 9 = bo_ild 10 3 := rfl
theorem l_M_find_10 : bh_tb T_M_find 10 = bo_ild 11 2 := rfl
theorem l_M_find_11 : bh_tb T_M_find 11 = bo_if1 14 18 (fun x => x = 0) := rfl
theorem l_M_find_14 : bh_tb T_M_find 14 = bo_st 15 (bg_push (.inl (.int 1))) := rfl
theorem l_M_find_15 : bh_tb T_M_find 15 = bo_go 19 := rfl
theorem l_M_find_18 : bh_tb T_M_find 18 = bo_st 19 (bg_push (.inl (.int 2))) := rfl
theorem l_M_find_19 : bh_tb T_M_find 19 = bo_if2 22 198 (fun x y => y ≤ x) := rfl
theorem l_M_find_22 : bh_tb T_M_find 22 = bo_st 24 (bg_push (.inl (.int 9))) := rfl
theorem l_M_find_24 : bh_tb T_M_find 24 = bo_ist 26 4 := rfl
theorem l_M_find_26 : bh_tb T_M_find 26 = bo_ild 28 4 := rfl
theorem l_M_find_28 : bh_tb T_M_find 28 = bo_if1 31 192 (fun x => x < 0) := rfl
theorem l_M_find_31 : bh_tb T_M_find 31 = bo_st 32 (bg_push (.inl (.int 0))) := rfl
theorem l_M_find_32 : bh_tb T_M_find 32 = bo_ist 34 5 := rfl
theorem l_M_find_34 : bh_tb T_M_find 34 = bo_ild 36 5 := rfl
theorem l_M_find_36 : bh_tb T_M_find 36 = bo_st 38 (bg_push (.inl (.int 8))) := rfl
theorem l_M_find_38 : bh_tb T_M_find 38 = bo_if2 41 186 (fun x y => y ≤ x) := rfl
theorem l_M_find_41 : bh_tb T_M_find 41 = bo_ild 42 3 := rfl
theorem l_M_find_42 : bh_tb T_M_find 42 = bo_if1 45 54 (fun x => ¬ x = 0) := rfl
theorem l_M_find_45 : bh_tb T_M_find 45 = bo_ald 46 0 := rfl
theorem l_M_find_46 : bh_tb T_M_find 46 = bo_ild 48 5 := rfl
theorem l_M_find_48 : bh_tb T_M_find 48 = bo_callV 51 2 0 0 40 F_M_live := rfl
theorem l_M_find_51 : bh_tb T_M_find 51 = bo_go 70 := rfl
theorem l_M_find_54 : bh_tb T_M_find 54 = bo_ald 55 0 := rfl
theorem l_M_find_55 : bh_tb T_M_find 55 = bo_gR 58 40 1 41 := rfl
theorem l_M_find_58 : bh_tb T_M_find 58 = bo_ild 60 5 := rfl
theorem l_M_find_60 : bh_tb T_M_find 60 = bo_Iald bh_ak bh_al 61 := rfl
theorem l_M_find_61 : bh_tb T_M_find 61 = bo_st 62 (bg_push (.inl (.int 1))) := rfl
theorem l_M_find_62 : bh_tb T_M_find 62 = bo_if2 65 69 (fun x y => ¬ x = y) := rfl
theorem l_M_find_65 : bh_tb T_M_find 65 = bo_st 66 (bg_push (.inl (.int 1))) := rfl
theorem l_M_find_66 : bh_tb T_M_find 66 = bo_go 70 := rfl
theorem l_M_find_69 : bh_tb T_M_find 69 = bo_st 70 (bg_push (.inl (.int 0))) := rfl
theorem l_M_find_70 : bh_tb T_M_find 70 = bo_ist 72 6 := rfl
theorem l_M_find_72 : bh_tb T_M_find 72 = bo_ild 74 6 := rfl
theorem l_M_find_74 : bh_tb T_M_find 74 = bo_if1 77 180 (fun x => x = 0) := rfl
theorem l_M_find_77 : bh_tb T_M_find 77 = bo_ild 78 2 := rfl
theorem l_M_find_78 : bh_tb T_M_find 78 = bo_if1 81 93 (fun x => ¬ x = 0) := rfl
theorem l_M_find_81 : bh_tb T_M_find 81 = bo_ald 82 0 := rfl
theorem l_M_find_82 : bh_tb T_M_find 82 = bo_ild 84 5 := rfl
theorem l_M_find_84 : bh_tb T_M_find 84 = bo_callV 87 2 0 0 40 F_M_named := rfl
theorem l_M_find_87 : bh_tb T_M_find 87 = bo_if1 90 93 (fun x => x = 0) := rfl
theorem l_M_find_90 : bh_tb T_M_find 90 = bo_go 180 := rfl
theorem l_M_find_93 : bh_tb T_M_find 93 = bo_st 94 (bg_push (.inl (.int 3))) := rfl
theorem l_M_find_94 : bh_tb T_M_find 94 = bo_ild 96 5 := rfl
theorem l_M_find_96 : bh_tb T_M_find 96 = bo_st 97 (bg_ii (fun x y => x * y)) := rfl
theorem l_M_find_97 : bh_tb T_M_find 97 = bo_ist 99 7 := rfl
theorem l_M_find_99 : bh_tb T_M_find 99 = bo_ild 101 7 := rfl
theorem l_M_find_101 : bh_tb T_M_find 101 = bo_st 102 (bg_push (.inl (.int 3))) := rfl
theorem l_M_find_102 : bh_tb T_M_find 102 = bo_ild 104 5 := rfl
theorem l_M_find_104 : bh_tb T_M_find 104 = bo_st 105 (bg_ii (fun x y => x * y)) := rfl
theorem l_M_find_105 : bh_tb T_M_find 105 = bo_ald 106 0 := rfl
theorem l_M_find_106 : bh_tb T_M_find 106 = bo_gR 109 40 8 48 := rfl
theorem l_M_find_109 : bh_tb T_M_find 109 = bo_ild 111 5 := rfl
theorem l_M_find_111 : bh_tb T_M_find 111 = bo_Iald bh_ak bh_al 112 := rfl
theorem l_M_find_112 : bh_tb T_M_find 112 = bo_st 113 (bg_ii (fun x y => x + y)) := rfl
theorem l_M_find_113 : bh_tb T_M_find 113 = bo_if2 116 180 (fun x y => y ≤ x) := rfl
theorem l_M_find_116 : bh_tb T_M_find 116 = bo_ald 117 0 := rfl
theorem l_M_find_117 : bh_tb T_M_find 117 = bo_gR 120 40 10 50 := rfl
theorem l_M_find_120 : bh_tb T_M_find 120 = bo_ild 122 7 := rfl
theorem l_M_find_122 : bh_tb T_M_find 122 = bo_Iald bh_ak bh_al 123 := rfl
theorem l_M_find_123 : bh_tb T_M_find 123 = bo_ild 125 4 := rfl
theorem l_M_find_125 : bh_tb T_M_find 125 = bo_if2 128 174 (fun x y => ¬ x = y) := rfl
theorem l_M_find_128 : bh_tb T_M_find 128 = bo_ald 129 0 := rfl
theorem l_M_find_129 : bh_tb T_M_find 129 = bo_ild 131 7 := rfl
theorem l_M_find_131 : bh_tb T_M_find 131 = bo_ald 132 0 := rfl
theorem l_M_find_132 : bh_tb T_M_find 132 = bo_gR 135 40 18 58 := rfl
theorem l_M_find_135 : bh_tb T_M_find 135 = bo_ild 136 1 := rfl
theorem l_M_find_136 : bh_tb T_M_find 136 = bo_Iald bh_ak bh_al 137 := rfl
theorem l_M_find_137 : bh_tb T_M_find 137 = bo_callV 140 3 0 0 40 F_M_fits := rfl
theorem l_M_find_140 : bh_tb T_M_find 140 = bo_if1 143 146 (fun x => ¬ x = 0) := rfl
theorem l_M_find_143 : bh_tb T_M_find 143 = bo_go 174 := rfl
theorem l_M_find_146 : bh_tb T_M_find 146 = bo_ald 147 0 := rfl
theorem l_M_find_147 : bh_tb T_M_find 147 = bo_gR 150 40 20 59 := rfl
theorem l_M_find_150 : bh_tb T_M_find 150 = bo_st 152 (bg_push (.inl (.int 8))) := rfl
theorem l_M_find_152 : bh_tb T_M_find 152 = bo_ild 153 1 := rfl
theorem l_M_find_153 : bh_tb T_M_find 153 = bo_st 154 (bg_ii (fun x y => x * y)) := rfl
theorem l_M_find_154 : bh_tb T_M_find 154 = bo_ald 155 0 := rfl
theorem l_M_find_155 : bh_tb T_M_find 155 = bo_gR 158 40 21 60 := rfl
theorem l_M_find_158 : bh_tb T_M_find 158 = bo_ild 159 1 := rfl
theorem l_M_find_159 : bh_tb T_M_find 159 = bo_Iald bh_ak bh_al 160 := rfl
theorem l_M_find_160 : bh_tb T_M_find 160 = bo_st 161 (bg_ii (fun x y => x + y)) := rfl
theorem l_M_find_161 : bh_tb T_M_find 161 = bo_ild 163 7 := rfl
theorem l_M_find_163 : bh_tb T_M_find 163 = bo_Iast bh_ak bh_al 164 := rfl
theorem l_M_find_164 : bh_tb T_M_find 164 = bo_ald 165 0 := rfl
theorem l_M_find_165 : bh_tb T_M_find 165 = bo_gR 168 40 21 60 := rfl
theorem l_M_find_168 : bh_tb T_M_find 168 = bo_ild 169 1 := rfl
theorem l_M_find_169 : bh_tb T_M_find 169 = bo_st 170 bg_dup2 := rfl
theorem l_M_find_170 : bh_tb T_M_find 170 = bo_Iald bh_ak bh_al 171 := rfl
theorem l_M_find_171 : bh_tb T_M_find 171 = bo_st 172 (bg_push (.inl (.int 1))) := rfl
theorem l_M_find_172 : bh_tb T_M_find 172 = bo_st 173 (bg_ii (fun x y => x + y)) := rfl
theorem l_M_find_173 : bh_tb T_M_find 173 = bo_Iast bh_ak bh_al 174 := rfl
theorem l_M_find_174 : bh_tb T_M_find 174 = bo_inc 177 7 1 := rfl
theorem l_M_find_177 : bh_tb T_M_find 177 = bo_go 99 := rfl
theorem l_M_find_180 : bh_tb T_M_find 180 = bo_inc 183 5 1 := rfl
theorem l_M_find_183 : bh_tb T_M_find 183 = bo_go 34 := rfl
theorem l_M_find_186 : bh_tb T_M_find 186 = bo_inc 189 4 (-1) := rfl
theorem l_M_find_189 : bh_tb T_M_find 189 = bo_go 26 := rfl
theorem l_M_find_192 : bh_tb T_M_find 192 = bo_inc 195 3 1 := rfl
theorem l_M_find_195 : bh_tb T_M_find 195 = bo_go 9 := rfl
theorem l_M_find_198 : bh_tb T_M_find 198 = bo_ald 199 0 := rfl
theorem l_M_find_199 : bh_tb T_M_find 199 = bo_gR 202 40 22 61 := rfl
theorem l_M_find_202 : bh_tb T_M_find 202 = bo_ild 203 1 := rfl
theorem l_M_find_203 : bh_tb T_M_find 203 = bo_st 204 (bg_push (.inl (.int 0))) := rfl
theorem l_M_find_204 : bh_tb T_M_find 204 = bo_Iast bh_ak bh_al 205 := rfl
theorem l_M_find_205 : bh_tb T_M_find 205 = bo_vret 0 := rfl
theorem l_M_undo_0 : bh_tb T_M_undo 0 = bo_ald 1 0 := rfl
theorem l_M_undo_1 : bh_tb T_M_undo 1 = bo_ild 2 1 := rfl
theorem l_M_undo_2 : bh_tb T_M_undo 2 = bo_pI 5 40 26 := rfl
theorem l_M_undo_5 : bh_tb T_M_undo 5 = bo_ald 6 0 := rfl
theorem l_M_undo_6 : bh_tb T_M_undo 6 = bo_ald 7 0 := rfl
theorem l_M_undo_7 : bh_tb T_M_undo 7 = bo_gR 10 40 23 62 := rfl
theorem l_M_undo_10 : bh_tb T_M_undo 10 = bo_ild 11 1 := rfl
theorem l_M_undo_11 : bh_tb T_M_undo 11 = bo_Iald bh_ak bh_al 12 := rfl
theorem l_M_undo_12 : bh_tb T_M_undo 12 = bo_pI 15 40 19 := rfl
theorem l_M_undo_15 : bh_tb T_M_undo 15 = bo_st 16 (bg_push (.inl (.int 0))) := rfl
theorem l_M_undo_16 : bh_tb T_M_undo 16 = bo_ist 17 2 := rfl
theorem l_M_undo_17 : bh_tb T_M_undo 17 = bo_ild 18 2 := rfl
theorem l_M_undo_18 : bh_tb T_M_undo 18 = bo_st 20 (bg_push (.inl (.int 8))) := rfl
theorem l_M_undo_20 : bh_tb T_M_undo 20 = bo_if2 23 55 (fun x y => y ≤ x) := rfl
theorem l_M_undo_23 : bh_tb T_M_undo 23 = bo_ald 24 0 := rfl
theorem l_M_undo_24 : bh_tb T_M_undo 24 = bo_gR 27 40 24 63 := rfl
theorem l_M_undo_27 : bh_tb T_M_undo 27 = bo_ild 28 2 := rfl
theorem l_M_undo_28 : bh_tb T_M_undo 28 = bo_Zald bh_ak bh_al 29 := rfl
theorem l_M_undo_29 : bh_tb T_M_undo 29 = bo_if1 32 49 (fun x => x = 0) := rfl
theorem l_M_undo_32 : bh_tb T_M_undo 32 = bo_ald 33 0 := rfl
theorem l_M_undo_33 : bh_tb T_M_undo 33 = bo_gR 36 40 25 64 := rfl
theorem l_M_undo_36 : bh_tb T_M_undo 36 = bo_ild 37 2 := rfl
theorem l_M_undo_37 : bh_tb T_M_undo 37 = bo_Iald bh_ak bh_al 38 := rfl
theorem l_M_undo_38 : bh_tb T_M_undo 38 = bo_ild 39 1 := rfl
theorem l_M_undo_39 : bh_tb T_M_undo 39 = bo_if2 42 49 (fun x y => ¬ x = y) := rfl
theorem l_M_undo_42 : bh_tb T_M_undo 42 = bo_ald 43 0 := rfl
theorem l_M_undo_43 : bh_tb T_M_undo 43 = bo_gR 46 40 24 63 := rfl
theorem l_M_undo_46 : bh_tb T_M_undo 46 = bo_ild 47 2 := rfl
theorem l_M_undo_47 : bh_tb T_M_undo 47 = bo_st 48 (bg_push (.inl (.int 0))) := rfl
theorem l_M_undo_48 : bh_tb T_M_undo 48 = bo_Zast bh_ak bh_al 49 := rfl
theorem l_M_undo_49 : bh_tb T_M_undo 49 = bo_inc 52 2 1 := rfl
theorem l_M_undo_52 : bh_tb T_M_undo 52 = bo_go 17 := rfl
theorem l_M_undo_55 : bh_tb T_M_undo 55 = bo_ald 56 0 := rfl
theorem l_M_undo_56 : bh_tb T_M_undo 56 = bo_gR 59 40 22 61 := rfl
theorem l_M_undo_59 : bh_tb T_M_undo 59 = bo_ild 60 1 := rfl
theorem l_M_undo_60 : bh_tb T_M_undo 60 = bo_st 61 bg_dup2 := rfl
theorem l_M_undo_61 : bh_tb T_M_undo 61 = bo_Iald bh_ak bh_al 62 := rfl
theorem l_M_undo_62 : bh_tb T_M_undo 62 = bo_st 63 (bg_push (.inl (.int 1))) := rfl
theorem l_M_undo_63 : bh_tb T_M_undo 63 = bo_st 64 (bg_ii (fun x y => x + y)) := rfl
theorem l_M_undo_64 : bh_tb T_M_undo 64 = bo_Iast bh_ak bh_al 65 := rfl
theorem l_M_undo_65 : bh_tb T_M_undo 65 = bo_vret 0 := rfl
theorem l_M_choice_0 : bh_tb T_M_choice 0 = bo_ald 1 0 := rfl
theorem l_M_choice_1 : bh_tb T_M_choice 1 = bo_gR 4 40 20 59 := rfl
theorem l_M_choice_4 : bh_tb T_M_choice 4 = bo_st 6 (bg_push (.inl (.int 8))) := rfl
theorem l_M_choice_6 : bh_tb T_M_choice 6 = bo_ild 7 1 := rfl
theorem l_M_choice_7 : bh_tb T_M_choice 7 = bo_st 8 (bg_ii (fun x y => x * y)) := rfl
theorem l_M_choice_8 : bh_tb T_M_choice 8 = bo_ald 9 0 := rfl
theorem l_M_choice_9 : bh_tb T_M_choice 9 = bo_gR 12 40 22 61 := rfl
theorem l_M_choice_12 : bh_tb T_M_choice 12 = bo_ild 13 1 := rfl
theorem l_M_choice_13 : bh_tb T_M_choice 13 = bo_Iald bh_ak bh_al 14 := rfl
theorem l_M_choice_14 : bh_tb T_M_choice 14 = bo_st 15 (bg_ii (fun x y => x + y)) := rfl
theorem l_M_choice_15 : bh_tb T_M_choice 15 = bo_Iald bh_ak bh_al 16 := rfl
theorem l_M_choice_16 : bh_tb T_M_choice 16 = bo_iret 0 := rfl
theorem l_M_port_0 : bh_tb T_M_port 0 = bo_ald 1 0 := rfl
theorem l_M_port_1 : bh_tb T_M_port 1 = bo_gR 4 40 7 47 := rfl
theorem l_M_port_4 : bh_tb T_M_port 4 = bo_ild 5 1 := rfl
theorem l_M_port_5 : bh_tb T_M_port 5 = bo_st 6 (bg_push (.inl (.int 3))) := rfl
theorem l_M_port_6 : bh_tb T_M_port 6 = bo_st 7 (bg_dv (fun x y => x / y)) := rfl
theorem l_M_port_7 : bh_tb T_M_port 7 = bo_Jald bh_ak bh_al 8 := rfl
theorem l_M_port_8 : bh_tb T_M_port 8 = bo_st 11 (bg_push (.inl (.long 8))) := rfl
theorem l_M_port_11 : bh_tb T_M_port 11 = bo_st 12 (bg_ll (fun x y => x * y)) := rfl
theorem l_M_port_12 : bh_tb T_M_port 12 = bo_ild 13 1 := rfl
theorem l_M_port_13 : bh_tb T_M_port 13 = bo_st 14 (bg_push (.inl (.int 3))) := rfl
theorem l_M_port_14 : bh_tb T_M_port 14 = bo_st 15 (bg_dv (fun x y => x / y)) := rfl
theorem l_M_port_15 : bh_tb T_M_port 15 = bo_st 16 (bg_i1 (fun x => .inl (.long x.toInt64))) := rfl
theorem l_M_port_16 : bh_tb T_M_port 16 = bo_st 17 (bg_ll (fun x y => x + y)) := rfl
theorem l_M_port_17 : bh_tb T_M_port 17 = bo_st 20 (bg_push (.inl (.long 8))) := rfl
theorem l_M_port_20 : bh_tb T_M_port 20 = bo_st 21 (bg_ll (fun x y => x * y)) := rfl
theorem l_M_port_21 : bh_tb T_M_port 21 = bo_ald 22 0 := rfl
theorem l_M_port_22 : bh_tb T_M_port 22 = bo_gR 25 40 9 49 := rfl
theorem l_M_port_25 : bh_tb T_M_port 25 = bo_ild 26 1 := rfl
theorem l_M_port_26 : bh_tb T_M_port 26 = bo_Iald bh_ak bh_al 27 := rfl
theorem l_M_port_27 : bh_tb T_M_port 27 = bo_st 28 (bg_i1 (fun x => .inl (.long x.toInt64))) := rfl
theorem l_M_port_28 : bh_tb T_M_port 28 = bo_st 29 (bg_ll (fun x y => x + y)) := rfl
theorem l_M_port_29 : bh_tb T_M_port 29 = bo_jret 0 := rfl
theorem l_M_source_0 : bh_tb T_M_source 0 = bo_st 1 (bg_push (.inl (.int 3))) := rfl
theorem l_M_source_1 : bh_tb T_M_source 1 = bo_ild 2 1 := rfl
theorem l_M_source_2 : bh_tb T_M_source 2 = bo_st 3 (bg_ii (fun x y => x * y)) := rfl
theorem l_M_source_3 : bh_tb T_M_source 3 = bo_ist 4 3 := rfl
theorem l_M_source_4 : bh_tb T_M_source 4 = bo_ild 5 3 := rfl
theorem l_M_source_5 : bh_tb T_M_source 5 = bo_st 6 (bg_push (.inl (.int 3))) := rfl
theorem l_M_source_6 : bh_tb T_M_source 6 = bo_ild 7 1 := rfl
theorem l_M_source_7 : bh_tb T_M_source 7 = bo_st 8 (bg_ii (fun x y => x * y)) := rfl
theorem l_M_source_8 : bh_tb T_M_source 8 = bo_ald 9 0 := rfl
theorem l_M_source_9 : bh_tb T_M_source 9 = bo_gR 12 40 8 48 := rfl
theorem l_M_source_12 : bh_tb T_M_source 12 = bo_ild 13 1 := rfl
theorem l_M_source_13 : bh_tb T_M_source 13 = bo_Iald bh_ak bh_al 14 := rfl
theorem l_M_source_14 : bh_tb T_M_source 14 = bo_st 15 (bg_ii (fun x y => x + y)) := rfl
theorem l_M_source_15 : bh_tb T_M_source 15 = bo_if2 18 40 (fun x y => y ≤ x) := rfl
theorem l_M_source_18 : bh_tb T_M_source 18 = bo_ald 19 0 := rfl
theorem l_M_source_19 : bh_tb T_M_source 19 = bo_gR 22 40 9 49 := rfl
theorem l_M_source_22 : bh_tb T_M_source 22 = bo_ild 23 3 := rfl
theorem l_M_source_23 : bh_tb T_M_source 23 = bo_Iald bh_ak bh_al 24 := rfl
theorem l_M_source_24 : bh_tb T_M_source 24 = bo_ild 25 2 := rfl
theorem l_M_source_25 : bh_tb T_M_source 25 = bo_if2 28 34 (fun x y => ¬ x = y) := rfl
theorem l_M_source_28 : bh_tb T_M_source 28 = bo_ald 29 0 := rfl
theorem l_M_source_29 : bh_tb T_M_source 29 = bo_ild 30 3 := rfl
theorem l_M_source_30 : bh_tb T_M_source 30 = bo_callV 33 2 0 0 40 F_M_port := rfl
theorem l_M_source_33 : bh_tb T_M_source 33 = bo_jret 0 := rfl
theorem l_M_source_34 : bh_tb T_M_source 34 = bo_inc 37 3 1 := rfl
theorem l_M_source_37 : bh_tb T_M_source 37 = bo_go 4 := rfl
theorem l_M_source_40 : bh_tb T_M_source 40 = bo_st 41 (bg_push (.inl (.int 3))) := rfl
theorem l_M_source_41 : bh_tb T_M_source 41 = bo_ild 42 1 := rfl
theorem l_M_source_42 : bh_tb T_M_source 42 = bo_st 43 (bg_ii (fun x y => x * y)) := rfl
theorem l_M_source_43 : bh_tb T_M_source 43 = bo_ist 44 3 := rfl
theorem l_M_source_44 : bh_tb T_M_source 44 = bo_ild 45 3 := rfl
theorem l_M_source_45 : bh_tb T_M_source 45 = bo_st 46 (bg_push (.inl (.int 3))) := rfl
theorem l_M_source_46 : bh_tb T_M_source 46 = bo_ild 47 1 := rfl
theorem l_M_source_47 : bh_tb T_M_source 47 = bo_st 48 (bg_ii (fun x y => x * y)) := rfl
theorem l_M_source_48 : bh_tb T_M_source 48 = bo_ald 49 0 := rfl
theorem l_M_source_49 : bh_tb T_M_source 49 = bo_gR 52 40 12 52 := rfl
theorem l_M_source_52 : bh_tb T_M_source 52 = bo_ild 53 1 := rfl
theorem l_M_source_53 : bh_tb T_M_source 53 = bo_Iald bh_ak bh_al 54 := rfl
theorem l_M_source_54 : bh_tb T_M_source 54 = bo_st 55 (bg_ii (fun x y => x + y)) := rfl
theorem l_M_source_55 : bh_tb T_M_source 55 = bo_if2 58 132 (fun x y => y ≤ x) := rfl
theorem l_M_source_58 : bh_tb T_M_source 58 = bo_ald 59 0 := rfl
theorem l_M_source_59 : bh_tb T_M_source 59 = bo_gR 62 40 13 53 := rfl
theorem l_M_source_62 : bh_tb T_M_source 62 = bo_ild 63 3 := rfl
theorem l_M_source_63 : bh_tb T_M_source 63 = bo_Iald bh_ak bh_al 64 := rfl
theorem l_M_source_64 : bh_tb T_M_source 64 = bo_ild 65 2 := rfl
theorem l_M_source_65 : bh_tb T_M_source 65 = bo_if2 68 71 (fun x y => x = y) := rfl
theorem l_M_source_68 : bh_tb T_M_source 68 = bo_go 126 := rfl
theorem l_M_source_71 : bh_tb T_M_source 71 = bo_ald 72 0 := rfl
theorem l_M_source_72 : bh_tb T_M_source 72 = bo_ild 73 1 := rfl
theorem l_M_source_73 : bh_tb T_M_source 73 = bo_callV 76 2 0 0 40 F_M_live := rfl
theorem l_M_source_76 : bh_tb T_M_source 76 = bo_if1 79 86 (fun x => x = 0) := rfl
theorem l_M_source_79 : bh_tb T_M_source 79 = bo_ald 80 0 := rfl
theorem l_M_source_80 : bh_tb T_M_source 80 = bo_gR 83 40 17 57 := rfl
theorem l_M_source_83 : bh_tb T_M_source 83 = bo_ild 84 3 := rfl
theorem l_M_source_84 : bh_tb T_M_source 84 = bo_Jald bh_ak bh_al 85 := rfl
theorem l_M_source_85 : bh_tb T_M_source 85 = bo_jret 0 := rfl
theorem l_M_source_86 : bh_tb T_M_source 86 = bo_st 87 (bg_push (.inl (.int 0))) := rfl
theorem l_M_source_87 : bh_tb T_M_source 87 = bo_ist 89 4 := rfl
theorem l_M_source_89 : bh_tb T_M_source 89 = bo_ild 91 4 := rfl
theorem l_M_source_91 : bh_tb T_M_source 91 = bo_ald 92 0 := rfl
theorem l_M_source_92 : bh_tb T_M_source 92 = bo_gI 95 40 26 := rfl
theorem l_M_source_95 : bh_tb T_M_source 95 = bo_if2 98 126 (fun x y => y ≤ x) := rfl
theorem l_M_source_98 : bh_tb T_M_source 98 = bo_ald 99 0 := rfl
theorem l_M_source_99 : bh_tb T_M_source 99 = bo_gR 102 40 18 58 := rfl
theorem l_M_source_102 : bh_tb T_M_source 102 = bo_ild 104 4 := rfl
theorem l_M_source_104 : bh_tb T_M_source 104 = bo_Iald bh_ak bh_al 105 := rfl
theorem l_M_source_105 : bh_tb T_M_source 105 = bo_ild 106 3 := rfl
theorem l_M_source_106 : bh_tb T_M_source 106 = bo_if2 109 120 (fun x y => ¬ x = y) := rfl
theorem l_M_source_109 : bh_tb T_M_source 109 = bo_ald 110 0 := rfl
theorem l_M_source_110 : bh_tb T_M_source 110 = bo_ald 111 0 := rfl
theorem l_M_source_111 : bh_tb T_M_source 111 = bo_ild 113 4 := rfl
theorem l_M_source_113 : bh_tb T_M_source 113 = bo_callV 116 2 0 0 40 F_M_choice := rfl
theorem l_M_source_116 : bh_tb T_M_source 116 = bo_callV 119 2 0 0 40 F_M_port := rfl
theorem l_M_source_119 : bh_tb T_M_source 119 = bo_jret 0 := rfl
theorem l_M_source_120 : bh_tb T_M_source 120 = bo_inc 123 4 1 := rfl
theorem l_M_source_123 : bh_tb T_M_source 123 = bo_go 89 := rfl
theorem l_M_source_126 : bh_tb T_M_source 126 = bo_inc 129 3 1 := rfl
theorem l_M_source_129 : bh_tb T_M_source 129 = bo_go 44 := rfl
theorem l_M_source_132 : bh_tb T_M_source 132 = bo_st 135 (bg_push (.inl (.long (-1)))) := rfl
theorem l_M_source_135 : bh_tb T_M_source 135 = bo_jret 0 := rfl
theorem l_M_clash_0 : bh_tb T_M_clash 0 = bo_st 1 (bg_push (.inl (.int 0))) := rfl
theorem l_M_clash_1 : bh_tb T_M_clash 1 = bo_ist 2 3 := rfl
theorem l_M_clash_2 : bh_tb T_M_clash 2 = bo_ild 3 3 := rfl
theorem l_M_clash_3 : bh_tb T_M_clash 3 = bo_st 5 (bg_push (.inl (.int 8))) := rfl
theorem l_M_clash_5 : bh_tb T_M_clash 5 = bo_if2 8 72 (fun x y => y ≤ x) := rfl
theorem l_M_clash_8 : bh_tb T_M_clash 8 = bo_ald 9 0 := rfl
theorem l_M_clash_9 : bh_tb T_M_clash 9 = bo_gR 12 40 11 51 := rfl
theorem l_M_clash_12 : bh_tb T_M_clash 12 = bo_ild 13 2 := rfl
theorem l_M_clash_13 : bh_tb T_M_clash 13 = bo_Iald bh_ak bh_al 14 := rfl
theorem l_M_clash_14 : bh_tb T_M_clash 14 = bo_ild 15 3 := rfl
theorem l_M_clash_15 : bh_tb T_M_clash 15 = bo_st 16 (bg_ii (fun x y => x >>> (y &&& 31))) := rfl
theorem l_M_clash_16 : bh_tb T_M_clash 16 = bo_st 17 (bg_push (.inl (.int 1))) := rfl
theorem l_M_clash_17 : bh_tb T_M_clash 17 = bo_st 18 (bg_ii (fun x y => x &&& y)) := rfl
theorem l_M_clash_18 : bh_tb T_M_clash 18 = bo_if1 21 24 (fun x => ¬ x = 0) := rfl
theorem l_M_clash_21 : bh_tb T_M_clash 21 = bo_go 66 := rfl
theorem l_M_clash_24 : bh_tb T_M_clash 24 = bo_ald 25 0 := rfl
theorem l_M_clash_25 : bh_tb T_M_clash 25 = bo_ild 26 1 := rfl
theorem l_M_clash_26 : bh_tb T_M_clash 26 = bo_ild 27 3 := rfl
theorem l_M_clash_27 : bh_tb T_M_clash 27 = bo_callV 30 3 0 0 40 F_M_source := rfl
theorem l_M_clash_30 : bh_tb T_M_clash 30 = bo_lst 32 4 := rfl
theorem l_M_clash_32 : bh_tb T_M_clash 32 = bo_ald 33 0 := rfl
theorem l_M_clash_33 : bh_tb T_M_clash 33 = bo_ild 34 2 := rfl
theorem l_M_clash_34 : bh_tb T_M_clash 34 = bo_st 35 (bg_push (.inl (.int 3))) := rfl
theorem l_M_clash_35 : bh_tb T_M_clash 35 = bo_st 36 (bg_dv (fun x y => x / y)) := rfl
theorem l_M_clash_36 : bh_tb T_M_clash 36 = bo_ild 37 3 := rfl
theorem l_M_clash_37 : bh_tb T_M_clash 37 = bo_callV 40 3 0 0 40 F_M_source := rfl
theorem l_M_clash_40 : bh_tb T_M_clash 40 = bo_lst 42 6 := rfl
theorem l_M_clash_42 : bh_tb T_M_clash 42 = bo_lld 44 4 := rfl
theorem l_M_clash_44 : bh_tb T_M_clash 44 = bo_st 45 (bg_push (.inl (.long 0))) := rfl
theorem l_M_clash_45 : bh_tb T_M_clash 45 = bo_st 46 (bg_lc lg_cmp) := rfl
theorem l_M_clash_46 : bh_tb T_M_clash 46 = bo_if1 49 66 (fun x => x < 0) := rfl
theorem l_M_clash_49 : bh_tb T_M_clash 49 = bo_lld 51 6 := rfl
theorem l_M_clash_51 : bh_tb T_M_clash 51 = bo_st 52 (bg_push (.inl (.long 0))) := rfl
theorem l_M_clash_52 : bh_tb T_M_clash 52 = bo_st 53 (bg_lc lg_cmp) := rfl
theorem l_M_clash_53 : bh_tb T_M_clash 53 = bo_if1 56 66 (fun x => x < 0) := rfl
theorem l_M_clash_56 : bh_tb T_M_clash 56 = bo_lld 58 4 := rfl
theorem l_M_clash_58 : bh_tb T_M_clash 58 = bo_lld 60 6 := rfl
theorem l_M_clash_60 : bh_tb T_M_clash 60 = bo_st 61 (bg_lc lg_cmp) := rfl
theorem l_M_clash_61 : bh_tb T_M_clash 61 = bo_if1 64 66 (fun x => x = 0) := rfl
theorem l_M_clash_64 : bh_tb T_M_clash 64 = bo_st 65 (bg_push (.inl (.int 1))) := rfl
theorem l_M_clash_65 : bh_tb T_M_clash 65 = bo_zret 0 := rfl
theorem l_M_clash_66 : bh_tb T_M_clash 66 = bo_inc 69 3 1 := rfl
theorem l_M_clash_69 : bh_tb T_M_clash 69 = bo_go 2 := rfl
theorem l_M_clash_72 : bh_tb T_M_clash 72 = bo_st 73 (bg_push (.inl (.int 0))) := rfl
theorem l_M_clash_73 : bh_tb T_M_clash 73 = bo_zret 0 := rfl
theorem l_M_holds_0 : bh_tb T_M_holds 0 = bo_st 1 (bg_push (.inl (.int 0))) := rfl
theorem l_M_holds_1 : bh_tb T_M_holds 1 = bo_ist 2 1 := rfl
theorem l_M_holds_2 : bh_tb T_M_holds 2 = bo_ild 3 1 := rfl
theorem l_M_holds_3 : bh_tb T_M_holds 3 = bo_ald 4 0 := rfl
theorem l_M_holds_4 : bh_tb T_M_holds 4 = bo_gI 7 40 26 := rfl
theorem l_M_holds_7 : bh_tb T_M_holds 7 = bo_if2 10 38 (fun x y => y ≤ x) := rfl
theorem l_M_holds_10 : bh_tb T_M_holds 10 = bo_ald 11 0 := rfl
theorem l_M_holds_11 : bh_tb T_M_holds 11 = bo_ald 12 0 := rfl
theorem l_M_holds_12 : bh_tb T_M_holds 12 = bo_gR 15 40 18 58 := rfl
theorem l_M_holds_15 : bh_tb T_M_holds 15 = bo_ild 16 1 := rfl
theorem l_M_holds_16 : bh_tb T_M_holds 16 = bo_Iald bh_ak bh_al 17 := rfl
theorem l_M_holds_17 : bh_tb T_M_holds 17 = bo_st 18 (bg_push (.inl (.int 3))) := rfl
theorem l_M_holds_18 : bh_tb T_M_holds 18 = bo_st 19 (bg_dv (fun x y => x / y)) := rfl
theorem l_M_holds_19 : bh_tb T_M_holds 19 = bo_ald 20 0 := rfl
theorem l_M_holds_20 : bh_tb T_M_holds 20 = bo_ild 21 1 := rfl
theorem l_M_holds_21 : bh_tb T_M_holds 21 = bo_callV 24 2 0 0 40 F_M_choice := rfl
theorem l_M_holds_24 : bh_tb T_M_holds 24 = bo_callV 27 3 0 0 40 F_M_clash := rfl
theorem l_M_holds_27 : bh_tb T_M_holds 27 = bo_if1 30 32 (fun x => x = 0) := rfl
theorem l_M_holds_30 : bh_tb T_M_holds 30 = bo_st 31 (bg_push (.inl (.int 0))) := rfl
theorem l_M_holds_31 : bh_tb T_M_holds 31 = bo_zret 0 := rfl
theorem l_M_holds_32 : bh_tb T_M_holds 32 = bo_inc 35 1 1 := rfl
theorem l_M_holds_35 : bh_tb T_M_holds 35 = bo_go 2 := rfl
theorem l_M_holds_38 : bh_tb T_M_holds 38 = bo_st 39 (bg_push (.inl (.int 1))) := rfl
theorem l_M_holds_39 : bh_tb T_M_holds 39 = bo_zret 0 := rfl
theorem l_M_solve_0 : bh_tb T_M_solve 0 = bo_st 1 (bg_push (.inl (.int 0))) := rfl
theorem l_M_solve_1 : bh_tb T_M_solve 1 = bo_ist 2 1 := rfl
theorem l_M_solve_2 : bh_tb T_M_solve 2 = bo_ald 3 0 := rfl
theorem l_M_solve_3 : bh_tb T_M_solve 3 = bo_st 4 (bg_push (.inl (.int 0))) := rfl
theorem l_M_solve_4 : bh_tb T_M_solve 4 = bo_pI 7 40 26 := rfl
theorem l_M_solve_7 : bh_tb T_M_solve 7 = bo_ald 8 0 := rfl
theorem l_M_solve_8 : bh_tb T_M_solve 8 = bo_gI 11 40 19 := rfl
theorem l_M_solve_11 : bh_tb T_M_solve 11 = bo_if1 14 20 (fun x => x ≤ 0) := rfl
theorem l_M_solve_14 : bh_tb T_M_solve 14 = bo_ald 15 0 := rfl
theorem l_M_solve_15 : bh_tb T_M_solve 15 = bo_st 16 (bg_push (.inl (.int 0))) := rfl
theorem l_M_solve_16 : bh_tb T_M_solve 16 = bo_st 17 (bg_push (.inl (.int 0))) := rfl
theorem l_M_solve_17 : bh_tb T_M_solve 17 = bo_callV 20 3 0 0 40 F_M_find := rfl
theorem l_M_solve_20 : bh_tb T_M_solve 20 = bo_ild 21 1 := rfl
theorem l_M_solve_21 : bh_tb T_M_solve 21 = bo_ald 22 0 := rfl
theorem l_M_solve_22 : bh_tb T_M_solve 22 = bo_gI 25 40 19 := rfl
theorem l_M_solve_25 : bh_tb T_M_solve 25 = bo_if2 28 167 (fun x y => y ≤ x) := rfl
theorem l_M_solve_28 : bh_tb T_M_solve 28 = bo_ald 29 0 := rfl
theorem l_M_solve_29 : bh_tb T_M_solve 29 = bo_gR 32 40 22 61 := rfl
theorem l_M_solve_32 : bh_tb T_M_solve 32 = bo_ild 33 1 := rfl
theorem l_M_solve_33 : bh_tb T_M_solve 33 = bo_Iald bh_ak bh_al 34 := rfl
theorem l_M_solve_34 : bh_tb T_M_solve 34 = bo_ald 35 0 := rfl
theorem l_M_solve_35 : bh_tb T_M_solve 35 = bo_gR 38 40 21 60 := rfl
theorem l_M_solve_38 : bh_tb T_M_solve 38 = bo_ild 39 1 := rfl
theorem l_M_solve_39 : bh_tb T_M_solve 39 = bo_Iald bh_ak bh_al 40 := rfl
theorem l_M_solve_40 : bh_tb T_M_solve 40 = bo_if2 43 60 (fun x y => ¬ x = y) := rfl
theorem l_M_solve_43 : bh_tb T_M_solve 43 = bo_inc 46 1 (-1) := rfl
theorem l_M_solve_46 : bh_tb T_M_solve 46 = bo_ild 47 1 := rfl
theorem l_M_solve_47 : bh_tb T_M_solve 47 = bo_if1 50 52 (fun x => 0 ≤ x) := rfl
theorem l_M_solve_50 : bh_tb T_M_solve 50 = bo_st 51 (bg_push (.inl (.int 3))) := rfl
theorem l_M_solve_51 : bh_tb T_M_solve 51 = bo_iret 0 := rfl
theorem l_M_solve_52 : bh_tb T_M_solve 52 = bo_ald 53 0 := rfl
theorem l_M_solve_53 : bh_tb T_M_solve 53 = bo_ild 54 1 := rfl
theorem l_M_solve_54 : bh_tb T_M_solve 54 = bo_callV 57 2 0 0 40 F_M_undo := rfl
theorem l_M_solve_57 : bh_tb T_M_solve 57 = bo_go 20 := rfl
theorem l_M_solve_60 : bh_tb T_M_solve 60 = bo_ald 61 0 := rfl
theorem l_M_solve_61 : bh_tb T_M_solve 61 = bo_st 62 bg_dup := rfl
theorem l_M_solve_62 : bh_tb T_M_solve 62 = bo_gI 65 40 27 := rfl
theorem l_M_solve_65 : bh_tb T_M_solve 65 = bo_st 66 (bg_push (.inl (.int 1))) := rfl
theorem l_M_solve_66 : bh_tb T_M_solve 66 = bo_st 67 (bg_ii (fun x y => x + y)) := rfl
theorem l_M_solve_67 : bh_tb T_M_solve 67 = bo_pI 70 40 27 := rfl
theorem l_M_solve_70 : bh_tb T_M_solve 70 = bo_ald 71 0 := rfl
theorem l_M_solve_71 : bh_tb T_M_solve 71 = bo_gI 74 40 27 := rfl
theorem l_M_solve_74 : bh_tb T_M_solve 74 = bo_st 77 (bg_push (.inl (.int 300))) := rfl
theorem l_M_solve_77 : bh_tb T_M_solve 77 = bo_if2 80 82 (fun x y => x ≤ y) := rfl
theorem l_M_solve_80 : bh_tb T_M_solve 80 = bo_st 81 (bg_push (.inl (.int 4))) := rfl
theorem l_M_solve_81 : bh_tb T_M_solve 81 = bo_iret 0 := rfl
theorem l_M_solve_82 : bh_tb T_M_solve 82 = bo_ald 83 0 := rfl
theorem l_M_solve_83 : bh_tb T_M_solve 83 = bo_gR 86 40 23 62 := rfl
theorem l_M_solve_86 : bh_tb T_M_solve 86 = bo_ild 87 1 := rfl
theorem l_M_solve_87 : bh_tb T_M_solve 87 = bo_ald 88 0 := rfl
theorem l_M_solve_88 : bh_tb T_M_solve 88 = bo_gI 91 40 19 := rfl
theorem l_M_solve_91 : bh_tb T_M_solve 91 = bo_Iast bh_ak bh_al 92 := rfl
theorem l_M_solve_92 : bh_tb T_M_solve 92 = bo_ald 93 0 := rfl
theorem l_M_solve_93 : bh_tb T_M_solve 93 = bo_ild 94 1 := rfl
theorem l_M_solve_94 : bh_tb T_M_solve 94 = bo_st 95 (bg_push (.inl (.int 1))) := rfl
theorem l_M_solve_95 : bh_tb T_M_solve 95 = bo_st 96 (bg_ii (fun x y => x + y)) := rfl
theorem l_M_solve_96 : bh_tb T_M_solve 96 = bo_pI 99 40 26 := rfl
theorem l_M_solve_99 : bh_tb T_M_solve 99 = bo_ald 100 0 := rfl
theorem l_M_solve_100 : bh_tb T_M_solve 100 = bo_ild 101 1 := rfl
theorem l_M_solve_101 : bh_tb T_M_solve 101 = bo_callV 104 2 0 0 40 F_M_choice := rfl
theorem l_M_solve_104 : bh_tb T_M_solve 104 = bo_st 105 (bg_push (.inl (.int 3))) := rfl
theorem l_M_solve_105 : bh_tb T_M_solve 105 = bo_st 106 (bg_dv (fun x y => x / y)) := rfl
theorem l_M_solve_106 : bh_tb T_M_solve 106 = bo_ist 107 2 := rfl
theorem l_M_solve_107 : bh_tb T_M_solve 107 = bo_ald 108 0 := rfl
theorem l_M_solve_108 : bh_tb T_M_solve 108 = bo_gR 111 40 1 41 := rfl
theorem l_M_solve_111 : bh_tb T_M_solve 111 = bo_ild 112 2 := rfl
theorem l_M_solve_112 : bh_tb T_M_solve 112 = bo_Iald bh_ak bh_al 113 := rfl
theorem l_M_solve_113 : bh_tb T_M_solve 113 = bo_st 114 (bg_push (.inl (.int 1))) := rfl
theorem l_M_solve_114 : bh_tb T_M_solve 114 = bo_if2 117 132 (fun x y => ¬ x = y) := rfl
theorem l_M_solve_117 : bh_tb T_M_solve 117 = bo_ald 118 0 := rfl
theorem l_M_solve_118 : bh_tb T_M_solve 118 = bo_gR 121 40 24 63 := rfl
theorem l_M_solve_121 : bh_tb T_M_solve 121 = bo_ild 122 2 := rfl
theorem l_M_solve_122 : bh_tb T_M_solve 122 = bo_Zald bh_ak bh_al 123 := rfl
theorem l_M_solve_123 : bh_tb T_M_solve 123 = bo_if1 126 132 (fun x => ¬ x = 0) := rfl
theorem l_M_solve_126 : bh_tb T_M_solve 126 = bo_ald 127 0 := rfl
theorem l_M_solve_127 : bh_tb T_M_solve 127 = bo_ild 128 2 := rfl
theorem l_M_solve_128 : bh_tb T_M_solve 128 = bo_ild 129 1 := rfl
theorem l_M_solve_129 : bh_tb T_M_solve 129 = bo_callV 132 3 0 0 40 F_M_takeIn := rfl
theorem l_M_solve_132 : bh_tb T_M_solve 132 = bo_ald 133 0 := rfl
theorem l_M_solve_133 : bh_tb T_M_solve 133 = bo_callV 136 1 0 0 40 F_M_holds := rfl
theorem l_M_solve_136 : bh_tb T_M_solve 136 = bo_if1 139 147 (fun x => ¬ x = 0) := rfl
theorem l_M_solve_139 : bh_tb T_M_solve 139 = bo_ald 140 0 := rfl
theorem l_M_solve_140 : bh_tb T_M_solve 140 = bo_ild 141 1 := rfl
theorem l_M_solve_141 : bh_tb T_M_solve 141 = bo_callV 144 2 0 0 40 F_M_undo := rfl
theorem l_M_solve_144 : bh_tb T_M_solve 144 = bo_go 20 := rfl
theorem l_M_solve_147 : bh_tb T_M_solve 147 = bo_inc 150 1 1 := rfl
theorem l_M_solve_150 : bh_tb T_M_solve 150 = bo_ild 151 1 := rfl
theorem l_M_solve_151 : bh_tb T_M_solve 151 = bo_ald 152 0 := rfl
theorem l_M_solve_152 : bh_tb T_M_solve 152 = bo_gI 155 40 19 := rfl
theorem l_M_solve_155 : bh_tb T_M_solve 155 = bo_if2 158 164 (fun x y => y ≤ x) := rfl
theorem l_M_solve_158 : bh_tb T_M_solve 158 = bo_ald 159 0 := rfl
theorem l_M_solve_159 : bh_tb T_M_solve 159 = bo_ild 160 1 := rfl
theorem l_M_solve_160 : bh_tb T_M_solve 160 = bo_st 161 (bg_push (.inl (.int 0))) := rfl
theorem l_M_solve_161 : bh_tb T_M_solve 161 = bo_callV 164 3 0 0 40 F_M_find := rfl
theorem l_M_solve_164 : bh_tb T_M_solve 164 = bo_go 20 := rfl
theorem l_M_solve_167 : bh_tb T_M_solve 167 = bo_st 168 (bg_push (.inl (.int 0))) := rfl
theorem l_M_solve_168 : bh_tb T_M_solve 168 = bo_iret 0 := rfl
theorem l_M_exportOf_0 : bh_tb T_M_exportOf 0 = bo_lld 1 1 := rfl
theorem l_M_exportOf_1 : bh_tb T_M_exportOf 1 = bo_st 4 (bg_push (.inl (.long 8))) := rfl
theorem l_M_exportOf_4 : bh_tb T_M_exportOf 4 = bo_st 5 (bg_lv (fun x y => x / y)) := rfl
theorem l_M_exportOf_5 : bh_tb T_M_exportOf 5 = bo_st 8 (bg_push (.inl (.long 8))) := rfl
theorem l_M_exportOf_8 : bh_tb T_M_exportOf 8 = bo_st 9 (bg_lv (fun x y => x - x / y * y)) := rfl
theorem l_M_exportOf_9 : bh_tb T_M_exportOf 9 = bo_st 10 (bg_l1 (fun x => .inl (.int x.toInt32))) := rfl
theorem l_M_exportOf_10 : bh_tb T_M_exportOf 10 = bo_ist 11 3 := rfl
theorem l_M_exportOf_11 : bh_tb T_M_exportOf 11 = bo_st 12 (bg_push (.inl (.int 3))) := rfl
theorem l_M_exportOf_12 : bh_tb T_M_exportOf 12 = bo_ild 13 3 := rfl
theorem l_M_exportOf_13 : bh_tb T_M_exportOf 13 = bo_st 14 (bg_ii (fun x y => x * y)) := rfl
theorem l_M_exportOf_14 : bh_tb T_M_exportOf 14 = bo_ist 16 4 := rfl
theorem l_M_exportOf_16 : bh_tb T_M_exportOf 16 = bo_ild 18 4 := rfl
theorem l_M_exportOf_18 : bh_tb T_M_exportOf 18 = bo_st 19 (bg_push (.inl (.int 3))) := rfl
theorem l_M_exportOf_19 : bh_tb T_M_exportOf 19 = bo_ild 20 3 := rfl
theorem l_M_exportOf_20 : bh_tb T_M_exportOf 20 = bo_st 21 (bg_ii (fun x y => x * y)) := rfl
theorem l_M_exportOf_21 : bh_tb T_M_exportOf 21 = bo_ald 22 0 := rfl
theorem l_M_exportOf_22 : bh_tb T_M_exportOf 22 = bo_gR 25 40 8 48 := rfl
theorem l_M_exportOf_25 : bh_tb T_M_exportOf 25 = bo_ild 26 3 := rfl
theorem l_M_exportOf_26 : bh_tb T_M_exportOf 26 = bo_Iald bh_ak bh_al 27 := rfl
theorem l_M_exportOf_27 : bh_tb T_M_exportOf 27 = bo_st 28 (bg_ii (fun x y => x + y)) := rfl
theorem l_M_exportOf_28 : bh_tb T_M_exportOf 28 = bo_if2 31 51 (fun x y => y ≤ x) := rfl
theorem l_M_exportOf_31 : bh_tb T_M_exportOf 31 = bo_ald 32 0 := rfl
theorem l_M_exportOf_32 : bh_tb T_M_exportOf 32 = bo_ild 34 4 := rfl
theorem l_M_exportOf_34 : bh_tb T_M_exportOf 34 = bo_callV 37 2 0 0 40 F_M_port := rfl
theorem l_M_exportOf_37 : bh_tb T_M_exportOf 37 = bo_lld 38 1 := rfl
theorem l_M_exportOf_38 : bh_tb T_M_exportOf 38 = bo_st 39 (bg_lc lg_cmp) := rfl
theorem l_M_exportOf_39 : bh_tb T_M_exportOf 39 = bo_if1 42 45 (fun x => ¬ x = 0) := rfl
theorem l_M_exportOf_42 : bh_tb T_M_exportOf 42 = bo_ild 44 4 := rfl
theorem l_M_exportOf_44 : bh_tb T_M_exportOf 44 = bo_iret 0 := rfl
theorem l_M_exportOf_45 : bh_tb T_M_exportOf 45 = bo_inc 48 4 1 := rfl
theorem l_M_exportOf_48 : bh_tb T_M_exportOf 48 = bo_go 16 := rfl
theorem l_M_exportOf_51 : bh_tb T_M_exportOf 51 = bo_st 52 (bg_push (.inl (.int (-1)))) := rfl
theorem l_M_exportOf_52 : bh_tb T_M_exportOf 52 = bo_iret 0 := rfl
theorem l_M_allHold_0 : bh_tb T_M_allHold 0 = bo_st 1 (bg_push (.inl (.int 0))) := rfl
theorem l_M_allHold_1 : bh_tb T_M_allHold 1 = bo_ist 2 1 := rfl
theorem l_M_allHold_2 : bh_tb T_M_allHold 2 = bo_ild 3 1 := rfl
theorem l_M_allHold_3 : bh_tb T_M_allHold 3 = bo_st 5 (bg_push (.inl (.int 24))) := rfl
theorem l_M_allHold_5 : bh_tb T_M_allHold 5 = bo_if2 8 67 (fun x y => y ≤ x) := rfl
theorem l_M_allHold_8 : bh_tb T_M_allHold 8 = bo_ald 9 0 := rfl
theorem l_M_allHold_9 : bh_tb T_M_allHold 9 = bo_gR 12 40 24 63 := rfl
theorem l_M_allHold_12 : bh_tb T_M_allHold 12 = bo_ild 13 1 := rfl
theorem l_M_allHold_13 : bh_tb T_M_allHold 13 = bo_st 14 (bg_push (.inl (.int 3))) := rfl
theorem l_M_allHold_14 : bh_tb T_M_allHold 14 = bo_st 15 (bg_dv (fun x y => x / y)) := rfl
theorem l_M_allHold_15 : bh_tb T_M_allHold 15 = bo_Zald bh_ak bh_al 16 := rfl
theorem l_M_allHold_16 : bh_tb T_M_allHold 16 = bo_if1 19 61 (fun x => x = 0) := rfl
theorem l_M_allHold_19 : bh_tb T_M_allHold 19 = bo_ald 20 0 := rfl
theorem l_M_allHold_20 : bh_tb T_M_allHold 20 = bo_gR 23 40 17 57 := rfl
theorem l_M_allHold_23 : bh_tb T_M_allHold 23 = bo_ild 24 1 := rfl
theorem l_M_allHold_24 : bh_tb T_M_allHold 24 = bo_Jald bh_ak bh_al 25 := rfl
theorem l_M_allHold_25 : bh_tb T_M_allHold 25 = bo_st 26 (bg_push (.inl (.long 0))) := rfl
theorem l_M_allHold_26 : bh_tb T_M_allHold 26 = bo_st 27 (bg_lc lg_cmp) := rfl
theorem l_M_allHold_27 : bh_tb T_M_allHold 27 = bo_if1 30 33 (fun x => 0 ≤ x) := rfl
theorem l_M_allHold_30 : bh_tb T_M_allHold 30 = bo_go 61 := rfl
theorem l_M_allHold_33 : bh_tb T_M_allHold 33 = bo_ald 34 0 := rfl
theorem l_M_allHold_34 : bh_tb T_M_allHold 34 = bo_ald 35 0 := rfl
theorem l_M_allHold_35 : bh_tb T_M_allHold 35 = bo_gR 38 40 17 57 := rfl
theorem l_M_allHold_38 : bh_tb T_M_allHold 38 = bo_ild 39 1 := rfl
theorem l_M_allHold_39 : bh_tb T_M_allHold 39 = bo_Jald bh_ak bh_al 40 := rfl
theorem l_M_allHold_40 : bh_tb T_M_allHold 40 = bo_callV 43 2 0 0 40 F_M_exportOf := rfl
theorem l_M_allHold_43 : bh_tb T_M_allHold 43 = bo_ist 44 2 := rfl
theorem l_M_allHold_44 : bh_tb T_M_allHold 44 = bo_ild 45 2 := rfl
theorem l_M_allHold_45 : bh_tb T_M_allHold 45 = bo_if1 48 61 (fun x => x < 0) := rfl
theorem l_M_allHold_48 : bh_tb T_M_allHold 48 = bo_ald 49 0 := rfl
theorem l_M_allHold_49 : bh_tb T_M_allHold 49 = bo_ild 50 1 := rfl
theorem l_M_allHold_50 : bh_tb T_M_allHold 50 = bo_st 51 (bg_push (.inl (.int 3))) := rfl
theorem l_M_allHold_51 : bh_tb T_M_allHold 51 = bo_st 52 (bg_dv (fun x y => x / y)) := rfl
theorem l_M_allHold_52 : bh_tb T_M_allHold 52 = bo_ild 53 2 := rfl
theorem l_M_allHold_53 : bh_tb T_M_allHold 53 = bo_callV 56 3 0 0 40 F_M_clash := rfl
theorem l_M_allHold_56 : bh_tb T_M_allHold 56 = bo_if1 59 61 (fun x => x = 0) := rfl
theorem l_M_allHold_59 : bh_tb T_M_allHold 59 = bo_st 60 (bg_push (.inl (.int 0))) := rfl
theorem l_M_allHold_60 : bh_tb T_M_allHold 60 = bo_zret 0 := rfl
theorem l_M_allHold_61 : bh_tb T_M_allHold 61 = bo_inc 64 1 1 := rfl
theorem l_M_allHold_64 : bh_tb T_M_allHold 64 = bo_go 2 := rfl
theorem l_M_allHold_67 : bh_tb T_M_allHold 67 = bo_st 68 (bg_push (.inl (.int 1))) := rfl
theorem l_M_allHold_68 : bh_tb T_M_allHold 68 = bo_zret 0 := rfl
theorem l_M_wireAll_0 : bh_tb T_M_wireAll 0 = bo_st 1 (bg_push (.inl (.int 0))) := rfl
theorem l_M_wireAll_1 : bh_tb T_M_wireAll 1 = bo_ist 2 1 := rfl
theorem l_M_wireAll_2 : bh_tb T_M_wireAll 2 = bo_ild 3 1 := rfl
theorem l_M_wireAll_3 : bh_tb T_M_wireAll 3 = bo_ald 4 0 := rfl
theorem l_M_wireAll_4 : bh_tb T_M_wireAll 4 = bo_gI 7 40 19 := rfl
theorem l_M_wireAll_7 : bh_tb T_M_wireAll 7 = bo_if2 10 36 (fun x y => y ≤ x) := rfl
theorem l_M_wireAll_10 : bh_tb T_M_wireAll 10 = bo_ald 11 0 := rfl
theorem l_M_wireAll_11 : bh_tb T_M_wireAll 11 = bo_gR 14 40 17 57 := rfl
theorem l_M_wireAll_14 : bh_tb T_M_wireAll 14 = bo_ald 15 0 := rfl
theorem l_M_wireAll_15 : bh_tb T_M_wireAll 15 = bo_gR 18 40 18 58 := rfl
theorem l_M_wireAll_18 : bh_tb T_M_wireAll 18 = bo_ild 19 1 := rfl
theorem l_M_wireAll_19 : bh_tb T_M_wireAll 19 = bo_Iald bh_ak bh_al 20 := rfl
theorem l_M_wireAll_20 : bh_tb T_M_wireAll 20 = bo_ald 21 0 := rfl
theorem l_M_wireAll_21 : bh_tb T_M_wireAll 21 = bo_ald 22 0 := rfl
theorem l_M_wireAll_22 : bh_tb T_M_wireAll 22 = bo_ild 23 1 := rfl
theorem l_M_wireAll_23 : bh_tb T_M_wireAll 23 = bo_callV 26 2 0 0 40 F_M_choice := rfl
theorem l_M_wireAll_26 : bh_tb T_M_wireAll 26 = bo_callV 29 2 0 0 40 F_M_port := rfl
theorem l_M_wireAll_29 : bh_tb T_M_wireAll 29 = bo_Jast bh_ak bh_al 30 := rfl
theorem l_M_wireAll_30 : bh_tb T_M_wireAll 30 = bo_inc 33 1 1 := rfl
theorem l_M_wireAll_33 : bh_tb T_M_wireAll 33 = bo_go 2 := rfl
theorem l_M_wireAll_36 : bh_tb T_M_wireAll 36 = bo_st 37 (bg_push (.inl (.int 0))) := rfl
theorem l_M_wireAll_37 : bh_tb T_M_wireAll 37 = bo_ist 38 1 := rfl
theorem l_M_wireAll_38 : bh_tb T_M_wireAll 38 = bo_ild 39 1 := rfl
theorem l_M_wireAll_39 : bh_tb T_M_wireAll 39 = bo_st 41 (bg_push (.inl (.int 8))) := rfl
theorem l_M_wireAll_41 : bh_tb T_M_wireAll 41 = bo_if2 44 66 (fun x y => y ≤ x) := rfl
theorem l_M_wireAll_44 : bh_tb T_M_wireAll 44 = bo_ald 45 0 := rfl
theorem l_M_wireAll_45 : bh_tb T_M_wireAll 45 = bo_gR 48 40 24 63 := rfl
theorem l_M_wireAll_48 : bh_tb T_M_wireAll 48 = bo_ild 49 1 := rfl
theorem l_M_wireAll_49 : bh_tb T_M_wireAll 49 = bo_Zald bh_ak bh_al 50 := rfl
theorem l_M_wireAll_50 : bh_tb T_M_wireAll 50 = bo_if1 53 60 (fun x => x = 0) := rfl
theorem l_M_wireAll_53 : bh_tb T_M_wireAll 53 = bo_ald 54 0 := rfl
theorem l_M_wireAll_54 : bh_tb T_M_wireAll 54 = bo_gR 57 40 1 41 := rfl
theorem l_M_wireAll_57 : bh_tb T_M_wireAll 57 = bo_ild 58 1 := rfl
theorem l_M_wireAll_58 : bh_tb T_M_wireAll 58 = bo_st 59 (bg_push (.inl (.int 2))) := rfl
theorem l_M_wireAll_59 : bh_tb T_M_wireAll 59 = bo_Iast bh_ak bh_al 60 := rfl
theorem l_M_wireAll_60 : bh_tb T_M_wireAll 60 = bo_inc 63 1 1 := rfl
theorem l_M_wireAll_63 : bh_tb T_M_wireAll 63 = bo_go 38 := rfl
theorem l_M_wireAll_66 : bh_tb T_M_wireAll 66 = bo_st 67 (bg_push (.inl (.int 0))) := rfl
theorem l_M_wireAll_67 : bh_tb T_M_wireAll 67 = bo_ist 68 1 := rfl
theorem l_M_wireAll_68 : bh_tb T_M_wireAll 68 = bo_ild 69 1 := rfl
theorem l_M_wireAll_69 : bh_tb T_M_wireAll 69 = bo_st 71 (bg_push (.inl (.int 8))) := rfl
theorem l_M_wireAll_71 : bh_tb T_M_wireAll 71 = bo_if2 74 207 (fun x y => y ≤ x) := rfl
theorem l_M_wireAll_74 : bh_tb T_M_wireAll 74 = bo_st 75 (bg_push (.inl (.int 3))) := rfl
theorem l_M_wireAll_75 : bh_tb T_M_wireAll 75 = bo_ild 76 1 := rfl
theorem l_M_wireAll_76 : bh_tb T_M_wireAll 76 = bo_st 77 (bg_ii (fun x y => x * y)) := rfl
theorem l_M_wireAll_77 : bh_tb T_M_wireAll 77 = bo_ist 78 2 := rfl
theorem l_M_wireAll_78 : bh_tb T_M_wireAll 78 = bo_ild 79 2 := rfl
theorem l_M_wireAll_79 : bh_tb T_M_wireAll 79 = bo_st 80 (bg_push (.inl (.int 3))) := rfl
theorem l_M_wireAll_80 : bh_tb T_M_wireAll 80 = bo_ild 81 1 := rfl
theorem l_M_wireAll_81 : bh_tb T_M_wireAll 81 = bo_st 82 (bg_ii (fun x y => x * y)) := rfl
theorem l_M_wireAll_82 : bh_tb T_M_wireAll 82 = bo_ald 83 0 := rfl
theorem l_M_wireAll_83 : bh_tb T_M_wireAll 83 = bo_gR 86 40 12 52 := rfl
theorem l_M_wireAll_86 : bh_tb T_M_wireAll 86 = bo_ild 87 1 := rfl
theorem l_M_wireAll_87 : bh_tb T_M_wireAll 87 = bo_Iald bh_ak bh_al 88 := rfl
theorem l_M_wireAll_88 : bh_tb T_M_wireAll 88 = bo_st 89 (bg_ii (fun x y => x + y)) := rfl
theorem l_M_wireAll_89 : bh_tb T_M_wireAll 89 = bo_if2 92 201 (fun x y => y ≤ x) := rfl
theorem l_M_wireAll_92 : bh_tb T_M_wireAll 92 = bo_ald 93 0 := rfl
theorem l_M_wireAll_93 : bh_tb T_M_wireAll 93 = bo_gR 96 40 24 63 := rfl
theorem l_M_wireAll_96 : bh_tb T_M_wireAll 96 = bo_ild 97 1 := rfl
theorem l_M_wireAll_97 : bh_tb T_M_wireAll 97 = bo_Zald bh_ak bh_al 98 := rfl
theorem l_M_wireAll_98 : bh_tb T_M_wireAll 98 = bo_if1 101 201 (fun x => x = 0) := rfl
theorem l_M_wireAll_101 : bh_tb T_M_wireAll 101 = bo_ald 102 0 := rfl
theorem l_M_wireAll_102 : bh_tb T_M_wireAll 102 = bo_gR 105 40 16 56 := rfl
theorem l_M_wireAll_105 : bh_tb T_M_wireAll 105 = bo_ild 106 2 := rfl
theorem l_M_wireAll_106 : bh_tb T_M_wireAll 106 = bo_Zald bh_ak bh_al 107 := rfl
theorem l_M_wireAll_107 : bh_tb T_M_wireAll 107 = bo_if1 110 113 (fun x => ¬ x = 0) := rfl
theorem l_M_wireAll_110 : bh_tb T_M_wireAll 110 = bo_go 195 := rfl
theorem l_M_wireAll_113 : bh_tb T_M_wireAll 113 = bo_ald 114 0 := rfl
theorem l_M_wireAll_114 : bh_tb T_M_wireAll 114 = bo_gR 117 40 18 58 := rfl
theorem l_M_wireAll_117 : bh_tb T_M_wireAll 117 = bo_st 118 (bg_push (.inl (.int 0))) := rfl
theorem l_M_wireAll_118 : bh_tb T_M_wireAll 118 = bo_ild 119 2 := rfl
theorem l_M_wireAll_119 : bh_tb T_M_wireAll 119 = bo_Iast bh_ak bh_al 120 := rfl
theorem l_M_wireAll_120 : bh_tb T_M_wireAll 120 = bo_ald 121 0 := rfl
theorem l_M_wireAll_121 : bh_tb T_M_wireAll 121 = bo_st 122 (bg_push (.inl (.int 0))) := rfl
theorem l_M_wireAll_122 : bh_tb T_M_wireAll 122 = bo_st 123 (bg_push (.inl (.int 1))) := rfl
theorem l_M_wireAll_123 : bh_tb T_M_wireAll 123 = bo_callV 126 3 0 0 40 F_M_find := rfl
theorem l_M_wireAll_126 : bh_tb T_M_wireAll 126 = bo_st 127 (bg_push (.inl (.int 1))) := rfl
theorem l_M_wireAll_127 : bh_tb T_M_wireAll 127 = bo_ist 128 3 := rfl
theorem l_M_wireAll_128 : bh_tb T_M_wireAll 128 = bo_st 129 (bg_push (.inl (.int 0))) := rfl
theorem l_M_wireAll_129 : bh_tb T_M_wireAll 129 = bo_ist 131 4 := rfl
theorem l_M_wireAll_131 : bh_tb T_M_wireAll 131 = bo_ild 133 4 := rfl
theorem l_M_wireAll_133 : bh_tb T_M_wireAll 133 = bo_ald 134 0 := rfl
theorem l_M_wireAll_134 : bh_tb T_M_wireAll 134 = bo_gR 137 40 21 60 := rfl
theorem l_M_wireAll_137 : bh_tb T_M_wireAll 137 = bo_st 138 (bg_push (.inl (.int 0))) := rfl
theorem l_M_wireAll_138 : bh_tb T_M_wireAll 138 = bo_Iald bh_ak bh_al 139 := rfl
theorem l_M_wireAll_139 : bh_tb T_M_wireAll 139 = bo_if2 142 195 (fun x y => y ≤ x) := rfl
theorem l_M_wireAll_142 : bh_tb T_M_wireAll 142 = bo_ild 143 3 := rfl
theorem l_M_wireAll_143 : bh_tb T_M_wireAll 143 = bo_if1 146 195 (fun x => x = 0) := rfl
theorem l_M_wireAll_146 : bh_tb T_M_wireAll 146 = bo_ald 147 0 := rfl
theorem l_M_wireAll_147 : bh_tb T_M_wireAll 147 = bo_gR 150 40 17 57 := rfl
theorem l_M_wireAll_150 : bh_tb T_M_wireAll 150 = bo_ild 151 2 := rfl
theorem l_M_wireAll_151 : bh_tb T_M_wireAll 151 = bo_ald 152 0 := rfl
theorem l_M_wireAll_152 : bh_tb T_M_wireAll 152 = bo_ald 153 0 := rfl
theorem l_M_wireAll_153 : bh_tb T_M_wireAll 153 = bo_gR 156 40 20 59 := rfl
theorem l_M_wireAll_156 : bh_tb T_M_wireAll 156 = bo_ild 158 4 := rfl
theorem l_M_wireAll_158 : bh_tb T_M_wireAll 158 = bo_Iald bh_ak bh_al 159 := rfl
theorem l_M_wireAll_159 : bh_tb T_M_wireAll 159 = bo_callV 162 2 0 0 40 F_M_port := rfl
theorem l_M_wireAll_162 : bh_tb T_M_wireAll 162 = bo_Jast bh_ak bh_al 163 := rfl
theorem l_M_wireAll_163 : bh_tb T_M_wireAll 163 = bo_ald 164 0 := rfl
theorem l_M_wireAll_164 : bh_tb T_M_wireAll 164 = bo_callV 167 1 0 0 40 F_M_allHold := rfl
theorem l_M_wireAll_167 : bh_tb T_M_wireAll 167 = bo_if1 170 174 (fun x => ¬ x = 0) := rfl
theorem l_M_wireAll_170 : bh_tb T_M_wireAll 170 = bo_st 171 (bg_push (.inl (.int 1))) := rfl
theorem l_M_wireAll_171 : bh_tb T_M_wireAll 171 = bo_go 175 := rfl
theorem l_M_wireAll_174 : bh_tb T_M_wireAll 174 = bo_st 175 (bg_push (.inl (.int 0))) := rfl
theorem l_M_wireAll_175 : bh_tb T_M_wireAll 175 = bo_ist 176 3 := rfl
theorem l_M_wireAll_176 : bh_tb T_M_wireAll 176 = bo_ild 177 3 := rfl
theorem l_M_wireAll_177 : bh_tb T_M_wireAll 177 = bo_if1 180 189 (fun x => x = 0) := rfl
theorem l_M_wireAll_180 : bh_tb T_M_wireAll 180 = bo_ald 181 0 := rfl
theorem l_M_wireAll_181 : bh_tb T_M_wireAll 181 = bo_gR 184 40 17 57 := rfl
theorem l_M_wireAll_184 : bh_tb T_M_wireAll 184 = bo_ild 185 2 := rfl
theorem l_M_wireAll_185 : bh_tb T_M_wireAll 185 = bo_st 188 (bg_push (.inl (.long (-1)))) := rfl
theorem l_M_wireAll_188 : bh_tb T_M_wireAll 188 = bo_Jast bh_ak bh_al 189 := rfl
theorem l_M_wireAll_189 : bh_tb T_M_wireAll 189 = bo_inc 192 4 1 := rfl
theorem l_M_wireAll_192 : bh_tb T_M_wireAll 192 = bo_go 131 := rfl
theorem l_M_wireAll_195 : bh_tb T_M_wireAll 195 = bo_inc 198 2 1 := rfl
theorem l_M_wireAll_198 : bh_tb T_M_wireAll 198 = bo_go 78 := rfl
theorem l_M_wireAll_201 : bh_tb T_M_wireAll 201 = bo_inc 204 1 1 := rfl
theorem l_M_wireAll_204 : bh_tb T_M_wireAll 204 = bo_go 68 := rfl
theorem l_M_wireAll_207 : bh_tb T_M_wireAll 207 = bo_vret 0 := rfl
theorem l_M_resolving_0 : bh_tb T_M_resolving 0 = bo_ald 1 0 := rfl
theorem l_M_resolving_1 : bh_tb T_M_resolving 1 = bo_st 2 (bg_push (.inl (.int 0))) := rfl
theorem l_M_resolving_2 : bh_tb T_M_resolving 2 = bo_pI 5 40 27 := rfl
theorem l_M_resolving_5 : bh_tb T_M_resolving 5 = bo_ald 6 0 := rfl
theorem l_M_resolving_6 : bh_tb T_M_resolving 6 = bo_st 7 (bg_push (.inl (.int 0))) := rfl
theorem l_M_resolving_7 : bh_tb T_M_resolving 7 = bo_pI 10 40 28 := rfl
theorem l_M_resolving_10 : bh_tb T_M_resolving 10 = bo_ald 11 0 := rfl
theorem l_M_resolving_11 : bh_tb T_M_resolving 11 = bo_st 12 (bg_push (.inl (.int 0))) := rfl
theorem l_M_resolving_12 : bh_tb T_M_resolving 12 = bo_pI 15 40 19 := rfl
theorem l_M_resolving_15 : bh_tb T_M_resolving 15 = bo_st 16 (bg_push (.inl (.int 0))) := rfl
theorem l_M_resolving_16 : bh_tb T_M_resolving 16 = bo_ist 17 2 := rfl
theorem l_M_resolving_17 : bh_tb T_M_resolving 17 = bo_ild 18 2 := rfl
theorem l_M_resolving_18 : bh_tb T_M_resolving 18 = bo_st 20 (bg_push (.inl (.int 8))) := rfl
theorem l_M_resolving_20 : bh_tb T_M_resolving 20 = bo_if2 23 36 (fun x y => y ≤ x) := rfl
theorem l_M_resolving_23 : bh_tb T_M_resolving 23 = bo_ald 24 0 := rfl
theorem l_M_resolving_24 : bh_tb T_M_resolving 24 = bo_gR 27 40 24 63 := rfl
theorem l_M_resolving_27 : bh_tb T_M_resolving 27 = bo_ild 28 2 := rfl
theorem l_M_resolving_28 : bh_tb T_M_resolving 28 = bo_st 29 (bg_push (.inl (.int 0))) := rfl
theorem l_M_resolving_29 : bh_tb T_M_resolving 29 = bo_Zast bh_ak bh_al 30 := rfl
theorem l_M_resolving_30 : bh_tb T_M_resolving 30 = bo_inc 33 2 1 := rfl
theorem l_M_resolving_33 : bh_tb T_M_resolving 33 = bo_go 17 := rfl
theorem l_M_resolving_36 : bh_tb T_M_resolving 36 = bo_ald 37 0 := rfl
theorem l_M_resolving_37 : bh_tb T_M_resolving 37 = bo_ild 38 1 := rfl
theorem l_M_resolving_38 : bh_tb T_M_resolving 38 = bo_callV 41 2 0 0 40 F_M_named := rfl
theorem l_M_resolving_41 : bh_tb T_M_resolving 41 = bo_if1 44 46 (fun x => x = 0) := rfl
theorem l_M_resolving_44 : bh_tb T_M_resolving 44 = bo_st 45 (bg_push (.inl (.int 3))) := rfl
theorem l_M_resolving_45 : bh_tb T_M_resolving 45 = bo_iret 0 := rfl
theorem l_M_resolving_46 : bh_tb T_M_resolving 46 = bo_ald 47 0 := rfl
theorem l_M_resolving_47 : bh_tb T_M_resolving 47 = bo_ild 48 1 := rfl
theorem l_M_resolving_48 : bh_tb T_M_resolving 48 = bo_st 49 (bg_push (.inl (.int (-1)))) := rfl
theorem l_M_resolving_49 : bh_tb T_M_resolving 49 = bo_callV 52 3 0 0 40 F_M_takeIn := rfl
theorem l_M_resolving_52 : bh_tb T_M_resolving 52 = bo_ald 53 0 := rfl
theorem l_M_resolving_53 : bh_tb T_M_resolving 53 = bo_callV 56 1 0 0 40 F_M_solve := rfl
theorem l_M_resolving_56 : bh_tb T_M_resolving 56 = bo_ist 57 2 := rfl
theorem l_M_resolving_57 : bh_tb T_M_resolving 57 = bo_ild 58 2 := rfl
theorem l_M_resolving_58 : bh_tb T_M_resolving 58 = bo_if1 61 98 (fun x => ¬ x = 0) := rfl
theorem l_M_resolving_61 : bh_tb T_M_resolving 61 = bo_st 62 (bg_push (.inl (.int 0))) := rfl
theorem l_M_resolving_62 : bh_tb T_M_resolving 62 = bo_ist 63 3 := rfl
theorem l_M_resolving_63 : bh_tb T_M_resolving 63 = bo_ild 64 3 := rfl
theorem l_M_resolving_64 : bh_tb T_M_resolving 64 = bo_st 66 (bg_push (.inl (.int 8))) := rfl
theorem l_M_resolving_66 : bh_tb T_M_resolving 66 = bo_if2 69 94 (fun x y => y ≤ x) := rfl
theorem l_M_resolving_69 : bh_tb T_M_resolving 69 = bo_ald 70 0 := rfl
theorem l_M_resolving_70 : bh_tb T_M_resolving 70 = bo_gR 73 40 24 63 := rfl
theorem l_M_resolving_73 : bh_tb T_M_resolving 73 = bo_ild 74 3 := rfl
theorem l_M_resolving_74 : bh_tb T_M_resolving 74 = bo_Zald bh_ak bh_al 75 := rfl
theorem l_M_resolving_75 : bh_tb T_M_resolving 75 = bo_if1 78 88 (fun x => x = 0) := rfl
theorem l_M_resolving_78 : bh_tb T_M_resolving 78 = bo_ald 79 0 := rfl
theorem l_M_resolving_79 : bh_tb T_M_resolving 79 = bo_st 80 bg_dup := rfl
theorem l_M_resolving_80 : bh_tb T_M_resolving 80 = bo_gI 83 40 28 := rfl
theorem l_M_resolving_83 : bh_tb T_M_resolving 83 = bo_st 84 (bg_push (.inl (.int 1))) := rfl
theorem l_M_resolving_84 : bh_tb T_M_resolving 84 = bo_st 85 (bg_ii (fun x y => x + y)) := rfl
theorem l_M_resolving_85 : bh_tb T_M_resolving 85 = bo_pI 88 40 28 := rfl
theorem l_M_resolving_88 : bh_tb T_M_resolving 88 = bo_inc 91 3 1 := rfl
theorem l_M_resolving_91 : bh_tb T_M_resolving 91 = bo_go 63 := rfl
theorem l_M_resolving_94 : bh_tb T_M_resolving 94 = bo_ald 95 0 := rfl
theorem l_M_resolving_95 : bh_tb T_M_resolving 95 = bo_callV 98 1 0 0 40 F_M_wireAll := rfl
theorem l_M_resolving_98 : bh_tb T_M_resolving 98 = bo_ild 99 2 := rfl
theorem l_M_resolving_99 : bh_tb T_M_resolving 99 = bo_iret 0 := rfl
theorem l_M_resolve_0 : bh_tb T_M_resolve 0 = bo_ald 1 0 := rfl
theorem l_M_resolve_1 : bh_tb T_M_resolve 1 = bo_st 2 (bg_push (.inl (.int 0))) := rfl
theorem l_M_resolve_2 : bh_tb T_M_resolve 2 = bo_pI 5 40 0 := rfl
theorem l_M_resolve_5 : bh_tb T_M_resolve 5 = bo_ild 6 1 := rfl
theorem l_M_resolve_6 : bh_tb T_M_resolve 6 = bo_callS 9 1 0 0 F_M_isBundle := rfl
theorem l_M_resolve_9 : bh_tb T_M_resolve 9 = bo_if1 12 18 (fun x => ¬ x = 0) := rfl
theorem l_M_resolve_12 : bh_tb T_M_resolve 12 = bo_ald 13 0 := rfl
theorem l_M_resolve_13 : bh_tb T_M_resolve 13 = bo_st 14 (bg_push (.inl (.int 1))) := rfl
theorem l_M_resolve_14 : bh_tb T_M_resolve 14 = bo_callV 17 2 0 0 40 F_M_raise := rfl
theorem l_M_resolve_17 : bh_tb T_M_resolve 17 = bo_iret 0 := rfl
theorem l_M_resolve_18 : bh_tb T_M_resolve 18 = bo_ald 19 0 := rfl
theorem l_M_resolve_19 : bh_tb T_M_resolve 19 = bo_gR 22 40 1 41 := rfl
theorem l_M_resolve_22 : bh_tb T_M_resolve 22 = bo_ild 23 1 := rfl
theorem l_M_resolve_23 : bh_tb T_M_resolve 23 = bo_Iald bh_ak bh_al 24 := rfl
theorem l_M_resolve_24 : bh_tb T_M_resolve 24 = bo_if1 27 33 (fun x => ¬ x = 0) := rfl
theorem l_M_resolve_27 : bh_tb T_M_resolve 27 = bo_ald 28 0 := rfl
theorem l_M_resolve_28 : bh_tb T_M_resolve 28 = bo_st 29 (bg_push (.inl (.int 2))) := rfl
theorem l_M_resolve_29 : bh_tb T_M_resolve 29 = bo_callV 32 2 0 0 40 F_M_raise := rfl
theorem l_M_resolve_32 : bh_tb T_M_resolve 32 = bo_iret 0 := rfl
theorem l_M_resolve_33 : bh_tb T_M_resolve 33 = bo_ald 34 0 := rfl
theorem l_M_resolve_34 : bh_tb T_M_resolve 34 = bo_ild 35 1 := rfl
theorem l_M_resolve_35 : bh_tb T_M_resolve 35 = bo_callV 38 2 0 0 40 F_M_live := rfl
theorem l_M_resolve_38 : bh_tb T_M_resolve 38 = bo_if1 41 43 (fun x => x = 0) := rfl
theorem l_M_resolve_41 : bh_tb T_M_resolve 41 = bo_st 42 (bg_push (.inl (.int 0))) := rfl
theorem l_M_resolve_42 : bh_tb T_M_resolve 42 = bo_iret 0 := rfl
theorem l_M_resolve_43 : bh_tb T_M_resolve 43 = bo_ald 44 0 := rfl
theorem l_M_resolve_44 : bh_tb T_M_resolve 44 = bo_ild 45 1 := rfl
theorem l_M_resolve_45 : bh_tb T_M_resolve 45 = bo_callV 48 2 0 0 40 F_M_resolving := rfl
theorem l_M_resolve_48 : bh_tb T_M_resolve 48 = bo_ist 49 2 := rfl
theorem l_M_resolve_49 : bh_tb T_M_resolve 49 = bo_ild 50 2 := rfl
theorem l_M_resolve_50 : bh_tb T_M_resolve 50 = bo_if1 53 60 (fun x => ¬ x = 0) := rfl
theorem l_M_resolve_53 : bh_tb T_M_resolve 53 = bo_ald 54 0 := rfl
theorem l_M_resolve_54 : bh_tb T_M_resolve 54 = bo_gI 57 40 28 := rfl
theorem l_M_resolve_57 : bh_tb T_M_resolve 57 = bo_go 65 := rfl
theorem l_M_resolve_60 : bh_tb T_M_resolve 60 = bo_ald 61 0 := rfl
theorem l_M_resolve_61 : bh_tb T_M_resolve 61 = bo_ild 62 2 := rfl
theorem l_M_resolve_62 : bh_tb T_M_resolve 62 = bo_callV 65 2 0 0 40 F_M_raise := rfl
theorem l_M_resolve_65 : bh_tb T_M_resolve 65 = bo_iret 0 := rfl
theorem l_M_note_0 : bh_tb T_M_note 0 = bo_ald 1 0 := rfl
theorem l_M_note_1 : bh_tb T_M_note 1 = bo_gI 4 40 37 := rfl
theorem l_M_note_4 : bh_tb T_M_note 4 = bo_st 6 (bg_push (.inl (.int 10))) := rfl
theorem l_M_note_6 : bh_tb T_M_note 6 = bo_if2 9 20 (fun x y => ¬ x = y) := rfl
theorem l_M_note_9 : bh_tb T_M_note 9 = bo_ald 10 0 := rfl
theorem l_M_note_10 : bh_tb T_M_note 10 = bo_st 11 bg_dup := rfl
theorem l_M_note_11 : bh_tb T_M_note 11 = bo_gI 14 40 38 := rfl
theorem l_M_note_14 : bh_tb T_M_note 14 = bo_st 15 (bg_push (.inl (.int 1))) := rfl
theorem l_M_note_15 : bh_tb T_M_note 15 = bo_st 16 (bg_ii (fun x y => x + y)) := rfl
theorem l_M_note_16 : bh_tb T_M_note 16 = bo_pI 19 40 38 := rfl
theorem l_M_note_19 : bh_tb T_M_note 19 = bo_vret 0 := rfl
theorem l_M_note_20 : bh_tb T_M_note 20 = bo_ald 21 0 := rfl
theorem l_M_note_21 : bh_tb T_M_note 21 = bo_gR 24 40 36 70 := rfl
theorem l_M_note_24 : bh_tb T_M_note 24 = bo_ald 25 0 := rfl
theorem l_M_note_25 : bh_tb T_M_note 25 = bo_gI 28 40 37 := rfl
theorem l_M_note_28 : bh_tb T_M_note 28 = bo_ild 29 1 := rfl
theorem l_M_note_29 : bh_tb T_M_note 29 = bo_Iast bh_ak bh_al 30 := rfl
theorem l_M_note_30 : bh_tb T_M_note 30 = bo_ald 31 0 := rfl
theorem l_M_note_31 : bh_tb T_M_note 31 = bo_st 32 bg_dup := rfl
theorem l_M_note_32 : bh_tb T_M_note 32 = bo_gI 35 40 37 := rfl
theorem l_M_note_35 : bh_tb T_M_note 35 = bo_st 36 (bg_push (.inl (.int 1))) := rfl
theorem l_M_note_36 : bh_tb T_M_note 36 = bo_st 37 (bg_ii (fun x y => x + y)) := rfl
theorem l_M_note_37 : bh_tb T_M_note 37 = bo_pI 40 40 37 := rfl
theorem l_M_note_40 : bh_tb T_M_note 40 = bo_vret 0 := rfl
theorem l_M_put_0 : bh_tb T_M_put 0 = bo_ald 1 0 := rfl
theorem l_M_put_1 : bh_tb T_M_put 1 = bo_gI 4 40 34 := rfl
theorem l_M_put_4 : bh_tb T_M_put 4 = bo_ist 6 5 := rfl
theorem l_M_put_6 : bh_tb T_M_put 6 = bo_ald 7 0 := rfl
theorem l_M_put_7 : bh_tb T_M_put 7 = bo_gR 10 40 29 65 := rfl
theorem l_M_put_10 : bh_tb T_M_put 10 = bo_ild 12 5 := rfl
theorem l_M_put_12 : bh_tb T_M_put 12 = bo_ald 13 0 := rfl
theorem l_M_put_13 : bh_tb T_M_put 13 = bo_gI 16 40 35 := rfl
theorem l_M_put_16 : bh_tb T_M_put 16 = bo_Iast bh_ak bh_al 17 := rfl
theorem l_M_put_17 : bh_tb T_M_put 17 = bo_ald 18 0 := rfl
theorem l_M_put_18 : bh_tb T_M_put 18 = bo_gR 21 40 30 66 := rfl
theorem l_M_put_21 : bh_tb T_M_put 21 = bo_ild 23 5 := rfl
theorem l_M_put_23 : bh_tb T_M_put 23 = bo_ild 24 1 := rfl
theorem l_M_put_24 : bh_tb T_M_put 24 = bo_Iast bh_ak bh_al 25 := rfl
theorem l_M_put_25 : bh_tb T_M_put 25 = bo_ald 26 0 := rfl
theorem l_M_put_26 : bh_tb T_M_put 26 = bo_gR 29 40 31 67 := rfl
theorem l_M_put_29 : bh_tb T_M_put 29 = bo_ild 31 5 := rfl
theorem l_M_put_31 : bh_tb T_M_put 31 = bo_ild 32 2 := rfl
theorem l_M_put_32 : bh_tb T_M_put 32 = bo_Iast bh_ak bh_al 33 := rfl
theorem l_M_put_33 : bh_tb T_M_put 33 = bo_ald 34 0 := rfl
theorem l_M_put_34 : bh_tb T_M_put 34 = bo_gR 37 40 32 68 := rfl
theorem l_M_put_37 : bh_tb T_M_put 37 = bo_ild 39 5 := rfl
theorem l_M_put_39 : bh_tb T_M_put 39 = bo_dld 40 3 := rfl
theorem l_M_put_40 : bh_tb T_M_put 40 = bo_Dast bh_ak bh_al 41 := rfl
theorem l_M_put_41 : bh_tb T_M_put 41 = bo_st 42 (bg_push (.inl (.int 0))) := rfl
theorem l_M_put_42 : bh_tb T_M_put 42 = bo_ist 44 6 := rfl
theorem l_M_put_44 : bh_tb T_M_put 44 = bo_ild 46 6 := rfl
theorem l_M_put_46 : bh_tb T_M_put 46 = bo_st 48 (bg_push (.inl (.int 8))) := rfl
theorem l_M_put_48 : bh_tb T_M_put 48 = bo_if2 51 71 (fun x y => y ≤ x) := rfl
theorem l_M_put_51 : bh_tb T_M_put 51 = bo_ald 52 0 := rfl
theorem l_M_put_52 : bh_tb T_M_put 52 = bo_gR 55 40 33 69 := rfl
theorem l_M_put_55 : bh_tb T_M_put 55 = bo_st 57 (bg_push (.inl (.int 8))) := rfl
theorem l_M_put_57 : bh_tb T_M_put 57 = bo_ild 59 5 := rfl
theorem l_M_put_59 : bh_tb T_M_put 59 = bo_st 60 (bg_ii (fun x y => x * y)) := rfl
theorem l_M_put_60 : bh_tb T_M_put 60 = bo_ild 62 6 := rfl
theorem l_M_put_62 : bh_tb T_M_put 62 = bo_st 63 (bg_ii (fun x y => x + y)) := rfl
theorem l_M_put_63 : bh_tb T_M_put 63 = bo_st 64 (bg_push (.inl (.int 0))) := rfl
theorem l_M_put_64 : bh_tb T_M_put 64 = bo_Iast bh_ak bh_al 65 := rfl
theorem l_M_put_65 : bh_tb T_M_put 65 = bo_inc 68 6 1 := rfl
theorem l_M_put_68 : bh_tb T_M_put 68 = bo_go 44 := rfl
theorem l_M_put_71 : bh_tb T_M_put 71 = bo_ald 72 0 := rfl
theorem l_M_put_72 : bh_tb T_M_put 72 = bo_st 73 bg_dup := rfl
theorem l_M_put_73 : bh_tb T_M_put 73 = bo_gI 76 40 34 := rfl
theorem l_M_put_76 : bh_tb T_M_put 76 = bo_st 77 (bg_push (.inl (.int 1))) := rfl
theorem l_M_put_77 : bh_tb T_M_put 77 = bo_st 78 (bg_ii (fun x y => x + y)) := rfl
theorem l_M_put_78 : bh_tb T_M_put 78 = bo_pI 81 40 34 := rfl
theorem l_M_put_81 : bh_tb T_M_put 81 = bo_ald 82 0 := rfl
theorem l_M_put_82 : bh_tb T_M_put 82 = bo_st 83 bg_dup := rfl
theorem l_M_put_83 : bh_tb T_M_put 83 = bo_gI 86 40 35 := rfl
theorem l_M_put_86 : bh_tb T_M_put 86 = bo_st 87 (bg_push (.inl (.int 1))) := rfl
theorem l_M_put_87 : bh_tb T_M_put 87 = bo_st 88 (bg_ii (fun x y => x + y)) := rfl
theorem l_M_put_88 : bh_tb T_M_put 88 = bo_pI 91 40 35 := rfl
theorem l_M_put_91 : bh_tb T_M_put 91 = bo_ald 92 0 := rfl
theorem l_M_put_92 : bh_tb T_M_put 92 = bo_st 95 (bg_push (.inl (.int 300))) := rfl
theorem l_M_put_95 : bh_tb T_M_put 95 = bo_ald 96 0 := rfl
theorem l_M_put_96 : bh_tb T_M_put 96 = bo_gR 99 40 29 65 := rfl
theorem l_M_put_99 : bh_tb T_M_put 99 = bo_ild 101 5 := rfl
theorem l_M_put_101 : bh_tb T_M_put 101 = bo_Iald bh_ak bh_al 102 := rfl
theorem l_M_put_102 : bh_tb T_M_put 102 = bo_st 104 (bg_push (.inl (.int 100))) := rfl
theorem l_M_put_104 : bh_tb T_M_put 104 = bo_st 105 (bg_dv (fun x y => x - x / y * y)) := rfl
theorem l_M_put_105 : bh_tb T_M_put 105 = bo_st 106 (bg_ii (fun x y => x + y)) := rfl
theorem l_M_put_106 : bh_tb T_M_put 106 = bo_callV 109 2 0 0 40 F_M_note := rfl
theorem l_M_put_109 : bh_tb T_M_put 109 = bo_ald 110 0 := rfl
theorem l_M_put_110 : bh_tb T_M_put 110 = bo_gR 113 40 29 65 := rfl
theorem l_M_put_113 : bh_tb T_M_put 113 = bo_ild 115 5 := rfl
theorem l_M_put_115 : bh_tb T_M_put 115 = bo_Iald bh_ak bh_al 116 := rfl
theorem l_M_put_116 : bh_tb T_M_put 116 = bo_iret 0 := rfl
theorem l_M_best_0 : bh_tb T_M_best 0 = bo_st 1 (bg_push (.inl (.int (-1)))) := rfl
theorem l_M_best_1 : bh_tb T_M_best 1 = bo_ist 2 2 := rfl
theorem l_M_best_2 : bh_tb T_M_best 2 = bo_st 3 (bg_push (.inl (.int 0))) := rfl
theorem l_M_best_3 : bh_tb T_M_best 3 = bo_ist 4 3 := rfl
theorem l_M_best_4 : bh_tb T_M_best 4 = bo_ild 5 3 := rfl
theorem l_M_best_5 : bh_tb T_M_best 5 = bo_ald 6 0 := rfl
theorem l_M_best_6 : bh_tb T_M_best 6 = bo_gI 9 40 34 := rfl
theorem l_M_best_9 : bh_tb T_M_best 9 = bo_if2 12 50 (fun x y => y ≤ x) := rfl
theorem l_M_best_12 : bh_tb T_M_best 12 = bo_ald 13 0 := rfl
theorem l_M_best_13 : bh_tb T_M_best 13 = bo_gR 16 40 31 67 := rfl
theorem l_M_best_16 : bh_tb T_M_best 16 = bo_ild 17 3 := rfl
theorem l_M_best_17 : bh_tb T_M_best 17 = bo_Iald bh_ak bh_al 18 := rfl
theorem l_M_best_18 : bh_tb T_M_best 18 = bo_ild 19 1 := rfl
theorem l_M_best_19 : bh_tb T_M_best 19 = bo_if2 22 44 (fun x y => ¬ x = y) := rfl
theorem l_M_best_22 : bh_tb T_M_best 22 = bo_ild 23 2 := rfl
theorem l_M_best_23 : bh_tb T_M_best 23 = bo_if1 26 42 (fun x => x < 0) := rfl
theorem l_M_best_26 : bh_tb T_M_best 26 = bo_ald 27 0 := rfl
theorem l_M_best_27 : bh_tb T_M_best 27 = bo_gR 30 40 32 68 := rfl
theorem l_M_best_30 : bh_tb T_M_best 30 = bo_ild 31 3 := rfl
theorem l_M_best_31 : bh_tb T_M_best 31 = bo_Dald bh_ak bh_al 32 := rfl
theorem l_M_best_32 : bh_tb T_M_best 32 = bo_ald 33 0 := rfl
theorem l_M_best_33 : bh_tb T_M_best 33 = bo_gR 36 40 32 68 := rfl
theorem l_M_best_36 : bh_tb T_M_best 36 = bo_ild 37 2 := rfl
theorem l_M_best_37 : bh_tb T_M_best 37 = bo_Dald bh_ak bh_al 38 := rfl
theorem l_M_best_38 : bh_tb T_M_best 38 = bo_st 39 (bg_dc (fun x y => Op.cmpValue (FP.dcmp x y) .l)) := rfl
theorem l_M_best_39 : bh_tb T_M_best 39 = bo_if1 42 44 (fun x => x ≤ 0) := rfl
theorem l_M_best_42 : bh_tb T_M_best 42 = bo_ild 43 3 := rfl
theorem l_M_best_43 : bh_tb T_M_best 43 = bo_ist 44 2 := rfl
theorem l_M_best_44 : bh_tb T_M_best 44 = bo_inc 47 3 1 := rfl
theorem l_M_best_47 : bh_tb T_M_best 47 = bo_go 4 := rfl
theorem l_M_best_50 : bh_tb T_M_best 50 = bo_ild 51 2 := rfl
theorem l_M_best_51 : bh_tb T_M_best 51 = bo_iret 0 := rfl
theorem l_M_activate_0 : bh_tb T_M_activate 0 = bo_ald 1 0 := rfl
theorem l_M_activate_1 : bh_tb T_M_activate 1 = bo_gR 4 40 4 44 := rfl
theorem l_M_activate_4 : bh_tb T_M_activate 4 = bo_ild 5 1 := rfl
theorem l_M_activate_5 : bh_tb T_M_activate 5 = bo_Iald bh_ak bh_al 6 := rfl
theorem l_M_activate_6 : bh_tb T_M_activate 6 = bo_sw [(0, 36), (1, 38), (2, 40), (3, 62)] 97 := rfl
theorem l_M_activate_36 : bh_tb T_M_activate 36 = bo_st 37 (bg_push (.inl (.int 1))) := rfl
theorem l_M_activate_37 : bh_tb T_M_activate 37 = bo_zret 0 := rfl
theorem l_M_activate_38 : bh_tb T_M_activate 38 = bo_st 39 (bg_push (.inl (.int 0))) := rfl
theorem l_M_activate_39 : bh_tb T_M_activate 39 = bo_zret 0 := rfl
theorem l_M_activate_40 : bh_tb T_M_activate 40 = bo_ald 41 0 := rfl
theorem l_M_activate_41 : bh_tb T_M_activate 41 = bo_gI 44 40 34 := rfl
theorem l_M_activate_44 : bh_tb T_M_activate 44 = bo_st 46 (bg_push (.inl (.int 20))) := rfl
theorem l_M_activate_46 : bh_tb T_M_activate 46 = bo_if2 49 51 (fun x y => ¬ x = y) := rfl
theorem l_M_activate_49 : bh_tb T_M_activate 49 = bo_st 50 (bg_push (.inl (.int 0))) := rfl
theorem l_M_activate_50 : bh_tb T_M_activate 50 = bo_zret 0 := rfl
theorem l_M_activate_51 : bh_tb T_M_activate 51 = bo_ald 52 0 := rfl
theorem l_M_activate_52 : bh_tb T_M_activate 52 = bo_ild 53 1 := rfl
theorem l_M_activate_53 : bh_tb T_M_activate 53 = bo_st 54 (bg_push (.inl (.int 0))) := rfl
theorem l_M_activate_54 : bh_tb T_M_activate 54 = bo_ild 55 1 := rfl
theorem l_M_activate_55 : bh_tb T_M_activate 55 = bo_st 56 (bg_i1 (fun x => .inl (.double (FP.i2d x)))) := rfl
theorem l_M_activate_56 : bh_tb T_M_activate 56 = bo_callV 59 4 0 0 40 F_M_put := rfl
theorem l_M_activate_59 : bh_tb T_M_activate 59 = bo_st 60 bg_pop := rfl
theorem l_M_activate_60 : bh_tb T_M_activate 60 = bo_st 61 (bg_push (.inl (.int 1))) := rfl
theorem l_M_activate_61 : bh_tb T_M_activate 61 = bo_zret 0 := rfl
theorem l_M_activate_62 : bh_tb T_M_activate 62 = bo_ald 63 0 := rfl
theorem l_M_activate_63 : bh_tb T_M_activate 63 = bo_st 64 (bg_push (.inl (.int 0))) := rfl
theorem l_M_activate_64 : bh_tb T_M_activate 64 = bo_callV 67 2 0 0 40 F_M_best := rfl
theorem l_M_activate_67 : bh_tb T_M_activate 67 = bo_ist 68 2 := rfl
theorem l_M_activate_68 : bh_tb T_M_activate 68 = bo_ild 69 2 := rfl
theorem l_M_activate_69 : bh_tb T_M_activate 69 = bo_if1 72 87 (fun x => x < 0) := rfl
theorem l_M_activate_72 : bh_tb T_M_activate 72 = bo_ald 73 0 := rfl
theorem l_M_activate_73 : bh_tb T_M_activate 73 = bo_gR 76 40 33 69 := rfl
theorem l_M_activate_76 : bh_tb T_M_activate 76 = bo_st 78 (bg_push (.inl (.int 8))) := rfl
theorem l_M_activate_78 : bh_tb T_M_activate 78 = bo_ild 79 2 := rfl
theorem l_M_activate_79 : bh_tb T_M_activate 79 = bo_st 80 (bg_ii (fun x y => x * y)) := rfl
theorem l_M_activate_80 : bh_tb T_M_activate 80 = bo_ild 81 1 := rfl
theorem l_M_activate_81 : bh_tb T_M_activate 81 = bo_st 82 (bg_ii (fun x y => x + y)) := rfl
theorem l_M_activate_82 : bh_tb T_M_activate 82 = bo_st 83 bg_dup2 := rfl
theorem l_M_activate_83 : bh_tb T_M_activate 83 = bo_Iald bh_ak bh_al 84 := rfl
theorem l_M_activate_84 : bh_tb T_M_activate 84 = bo_st 85 (bg_push (.inl (.int 1))) := rfl
theorem l_M_activate_85 : bh_tb T_M_activate 85 = bo_st 86 (bg_ii (fun x y => x + y)) := rfl
theorem l_M_activate_86 : bh_tb T_M_activate 86 = bo_Iast bh_ak bh_al 87 := rfl
theorem l_M_activate_87 : bh_tb T_M_activate 87 = bo_ild 88 2 := rfl
theorem l_M_activate_88 : bh_tb T_M_activate 88 = bo_if1 91 95 (fun x => x < 0) := rfl
theorem l_M_activate_91 : bh_tb T_M_activate 91 = bo_st 92 (bg_push (.inl (.int 1))) := rfl
theorem l_M_activate_92 : bh_tb T_M_activate 92 = bo_go 96 := rfl
theorem l_M_activate_95 : bh_tb T_M_activate 95 = bo_st 96 (bg_push (.inl (.int 0))) := rfl
theorem l_M_activate_96 : bh_tb T_M_activate 96 = bo_zret 0 := rfl
theorem l_M_activate_97 : bh_tb T_M_activate 97 = bo_ald 98 0 := rfl
theorem l_M_activate_98 : bh_tb T_M_activate 98 = bo_gR 101 40 6 46 := rfl
theorem l_M_activate_101 : bh_tb T_M_activate 101 = bo_ild 102 1 := rfl
theorem l_M_activate_102 : bh_tb T_M_activate 102 = bo_Zald bh_ak bh_al 103 := rfl
theorem l_M_activate_103 : bh_tb T_M_activate 103 = bo_if1 106 110 (fun x => ¬ x = 0) := rfl
theorem l_M_activate_106 : bh_tb T_M_activate 106 = bo_st 107 (bg_push (.inl (.int 1))) := rfl
theorem l_M_activate_107 : bh_tb T_M_activate 107 = bo_go 111 := rfl
theorem l_M_activate_110 : bh_tb T_M_activate 110 = bo_st 111 (bg_push (.inl (.int 0))) := rfl
theorem l_M_activate_111 : bh_tb T_M_activate 111 = bo_zret 0 := rfl
theorem l_M_starting_0 : bh_tb T_M_starting 0 = bo_ald 1 0 := rfl
theorem l_M_starting_1 : bh_tb T_M_starting 1 = bo_gR 4 40 1 41 := rfl
theorem l_M_starting_4 : bh_tb T_M_starting 4 = bo_ild 5 1 := rfl
theorem l_M_starting_5 : bh_tb T_M_starting 5 = bo_Iald bh_ak bh_al 6 := rfl
theorem l_M_starting_6 : bh_tb T_M_starting 6 = bo_st 7 (bg_push (.inl (.int 1))) := rfl
theorem l_M_starting_7 : bh_tb T_M_starting 7 = bo_if2 10 31 (fun x y => ¬ x = y) := rfl
theorem l_M_starting_10 : bh_tb T_M_starting 10 = bo_ald 11 0 := rfl
theorem l_M_starting_11 : bh_tb T_M_starting 11 = bo_ild 12 1 := rfl
theorem l_M_starting_12 : bh_tb T_M_starting 12 = bo_callV 15 2 0 0 40 F_M_resolving := rfl
theorem l_M_starting_15 : bh_tb T_M_starting 15 = bo_ist 16 2 := rfl
theorem l_M_starting_16 : bh_tb T_M_starting 16 = bo_ild 17 2 := rfl
theorem l_M_starting_17 : bh_tb T_M_starting 17 = bo_if1 20 31 (fun x => x = 0) := rfl
theorem l_M_starting_20 : bh_tb T_M_starting 20 = bo_ild 21 2 := rfl
theorem l_M_starting_21 : bh_tb T_M_starting 21 = bo_st 22 (bg_push (.inl (.int 3))) := rfl
theorem l_M_starting_22 : bh_tb T_M_starting 22 = bo_if2 25 29 (fun x y => ¬ x = y) := rfl
theorem l_M_starting_25 : bh_tb T_M_starting 25 = bo_st 26 (bg_push (.inl (.int 3))) := rfl
theorem l_M_starting_26 : bh_tb T_M_starting 26 = bo_go 30 := rfl
theorem l_M_starting_29 : bh_tb T_M_starting 29 = bo_st 30 (bg_push (.inl (.int 5))) := rfl
theorem l_M_starting_30 : bh_tb T_M_starting 30 = bo_iret 0 := rfl
theorem l_M_starting_31 : bh_tb T_M_starting 31 = bo_ald 32 0 := rfl
theorem l_M_starting_32 : bh_tb T_M_starting 32 = bo_ild 33 1 := rfl
theorem l_M_starting_33 : bh_tb T_M_starting 33 = bo_callV 36 2 0 0 40 F_M_activate := rfl
theorem l_M_starting_36 : bh_tb T_M_starting 36 = bo_if1 39 41 (fun x => ¬ x = 0) := rfl
theorem l_M_starting_39 : bh_tb T_M_starting 39 = bo_st 40 (bg_push (.inl (.int 4))) := rfl
theorem l_M_starting_40 : bh_tb T_M_starting 40 = bo_iret 0 := rfl
theorem l_M_starting_41 : bh_tb T_M_starting 41 = bo_ald 42 0 := rfl
theorem l_M_starting_42 : bh_tb T_M_starting 42 = bo_gR 45 40 1 41 := rfl
theorem l_M_starting_45 : bh_tb T_M_starting 45 = bo_ild 46 1 := rfl
theorem l_M_starting_46 : bh_tb T_M_starting 46 = bo_st 47 (bg_push (.inl (.int 3))) := rfl
theorem l_M_starting_47 : bh_tb T_M_starting 47 = bo_Iast bh_ak bh_al 48 := rfl
theorem l_M_starting_48 : bh_tb T_M_starting 48 = bo_ald 49 0 := rfl
theorem l_M_starting_49 : bh_tb T_M_starting 49 = bo_gR 52 40 6 46 := rfl
theorem l_M_starting_52 : bh_tb T_M_starting 52 = bo_ild 53 1 := rfl
theorem l_M_starting_53 : bh_tb T_M_starting 53 = bo_st 54 (bg_push (.inl (.int 1))) := rfl
theorem l_M_starting_54 : bh_tb T_M_starting 54 = bo_Zast bh_ak bh_al 55 := rfl
theorem l_M_starting_55 : bh_tb T_M_starting 55 = bo_ald 56 0 := rfl
theorem l_M_starting_56 : bh_tb T_M_starting 56 = bo_st 58 (bg_push (.inl (.int 100))) := rfl
theorem l_M_starting_58 : bh_tb T_M_starting 58 = bo_ild 59 1 := rfl
theorem l_M_starting_59 : bh_tb T_M_starting 59 = bo_st 60 (bg_ii (fun x y => x + y)) := rfl
theorem l_M_starting_60 : bh_tb T_M_starting 60 = bo_callV 63 2 0 0 40 F_M_note := rfl
theorem l_M_starting_63 : bh_tb T_M_starting 63 = bo_st 64 (bg_push (.inl (.int 0))) := rfl
theorem l_M_starting_64 : bh_tb T_M_starting 64 = bo_iret 0 := rfl
theorem l_M_start_0 : bh_tb T_M_start 0 = bo_ald 1 0 := rfl
theorem l_M_start_1 : bh_tb T_M_start 1 = bo_st 2 (bg_push (.inl (.int 0))) := rfl
theorem l_M_start_2 : bh_tb T_M_start 2 = bo_pI 5 40 0 := rfl
theorem l_M_start_5 : bh_tb T_M_start 5 = bo_ild 6 1 := rfl
theorem l_M_start_6 : bh_tb T_M_start 6 = bo_callS 9 1 0 0 F_M_isBundle := rfl
theorem l_M_start_9 : bh_tb T_M_start 9 = bo_if1 12 18 (fun x => ¬ x = 0) := rfl
theorem l_M_start_12 : bh_tb T_M_start 12 = bo_ald 13 0 := rfl
theorem l_M_start_13 : bh_tb T_M_start 13 = bo_st 14 (bg_push (.inl (.int 1))) := rfl
theorem l_M_start_14 : bh_tb T_M_start 14 = bo_callV 17 2 0 0 40 F_M_raise := rfl
theorem l_M_start_17 : bh_tb T_M_start 17 = bo_iret 0 := rfl
theorem l_M_start_18 : bh_tb T_M_start 18 = bo_ald 19 0 := rfl
theorem l_M_start_19 : bh_tb T_M_start 19 = bo_gR 22 40 1 41 := rfl
theorem l_M_start_22 : bh_tb T_M_start 22 = bo_ild 23 1 := rfl
theorem l_M_start_23 : bh_tb T_M_start 23 = bo_Iald bh_ak bh_al 24 := rfl
theorem l_M_start_24 : bh_tb T_M_start 24 = bo_if1 27 33 (fun x => ¬ x = 0) := rfl
theorem l_M_start_27 : bh_tb T_M_start 27 = bo_ald 28 0 := rfl
theorem l_M_start_28 : bh_tb T_M_start 28 = bo_st 29 (bg_push (.inl (.int 2))) := rfl
theorem l_M_start_29 : bh_tb T_M_start 29 = bo_callV 32 2 0 0 40 F_M_raise := rfl
theorem l_M_start_32 : bh_tb T_M_start 32 = bo_iret 0 := rfl
theorem l_M_start_33 : bh_tb T_M_start 33 = bo_ald 34 0 := rfl
theorem l_M_start_34 : bh_tb T_M_start 34 = bo_gR 37 40 5 45 := rfl
theorem l_M_start_37 : bh_tb T_M_start 37 = bo_ild 38 1 := rfl
theorem l_M_start_38 : bh_tb T_M_start 38 = bo_st 39 (bg_push (.inl (.int 1))) := rfl
theorem l_M_start_39 : bh_tb T_M_start 39 = bo_Zast bh_ak bh_al 40 := rfl
theorem l_M_start_40 : bh_tb T_M_start 40 = bo_ald 41 0 := rfl
theorem l_M_start_41 : bh_tb T_M_start 41 = bo_gR 44 40 1 41 := rfl
theorem l_M_start_44 : bh_tb T_M_start 44 = bo_ild 45 1 := rfl
theorem l_M_start_45 : bh_tb T_M_start 45 = bo_Iald bh_ak bh_al 46 := rfl
theorem l_M_start_46 : bh_tb T_M_start 46 = bo_st 47 (bg_push (.inl (.int 3))) := rfl
theorem l_M_start_47 : bh_tb T_M_start 47 = bo_if2 50 52 (fun x y => ¬ x = y) := rfl
theorem l_M_start_50 : bh_tb T_M_start 50 = bo_st 51 (bg_push (.inl (.int 1))) := rfl
theorem l_M_start_51 : bh_tb T_M_start 51 = bo_iret 0 := rfl
theorem l_M_start_52 : bh_tb T_M_start 52 = bo_ald 53 0 := rfl
theorem l_M_start_53 : bh_tb T_M_start 53 = bo_gR 56 40 3 43 := rfl
theorem l_M_start_56 : bh_tb T_M_start 56 = bo_ild 57 1 := rfl
theorem l_M_start_57 : bh_tb T_M_start 57 = bo_Iald bh_ak bh_al 58 := rfl
theorem l_M_start_58 : bh_tb T_M_start 58 = bo_ald 59 0 := rfl
theorem l_M_start_59 : bh_tb T_M_start 59 = bo_gI 62 40 39 := rfl
theorem l_M_start_62 : bh_tb T_M_start 62 = bo_if2 65 67 (fun x y => x ≤ y) := rfl
theorem l_M_start_65 : bh_tb T_M_start 65 = bo_st 66 (bg_push (.inl (.int 0))) := rfl
theorem l_M_start_66 : bh_tb T_M_start 66 = bo_iret 0 := rfl
theorem l_M_start_67 : bh_tb T_M_start 67 = bo_ald 68 0 := rfl
theorem l_M_start_68 : bh_tb T_M_start 68 = bo_ild 69 1 := rfl
theorem l_M_start_69 : bh_tb T_M_start 69 = bo_callV 72 2 0 0 40 F_M_starting := rfl
theorem l_M_start_72 : bh_tb T_M_start 72 = bo_ist 73 2 := rfl
theorem l_M_start_73 : bh_tb T_M_start 73 = bo_ild 74 2 := rfl
theorem l_M_start_74 : bh_tb T_M_start 74 = bo_if1 77 81 (fun x => ¬ x = 0) := rfl
theorem l_M_start_77 : bh_tb T_M_start 77 = bo_st 78 (bg_push (.inl (.int 1))) := rfl
theorem l_M_start_78 : bh_tb T_M_start 78 = bo_go 86 := rfl
theorem l_M_start_81 : bh_tb T_M_start 81 = bo_ald 82 0 := rfl
theorem l_M_start_82 : bh_tb T_M_start 82 = bo_ild 83 2 := rfl
theorem l_M_start_83 : bh_tb T_M_start 83 = bo_callV 86 2 0 0 40 F_M_raise := rfl
theorem l_M_start_86 : bh_tb T_M_start 86 = bo_iret 0 := rfl
theorem l_M_servicesOf_0 : bh_tb T_M_servicesOf 0 = bo_st 1 (bg_push (.inl (.int 0))) := rfl
theorem l_M_servicesOf_1 : bh_tb T_M_servicesOf 1 = bo_ist 2 2 := rfl
theorem l_M_servicesOf_2 : bh_tb T_M_servicesOf 2 = bo_st 3 (bg_push (.inl (.int 0))) := rfl
theorem l_M_servicesOf_3 : bh_tb T_M_servicesOf 3 = bo_ist 4 3 := rfl
theorem l_M_servicesOf_4 : bh_tb T_M_servicesOf 4 = bo_ild 5 3 := rfl
theorem l_M_servicesOf_5 : bh_tb T_M_servicesOf 5 = bo_ald 6 0 := rfl
theorem l_M_servicesOf_6 : bh_tb T_M_servicesOf 6 = bo_gI 9 40 34 := rfl
theorem l_M_servicesOf_9 : bh_tb T_M_servicesOf 9 = bo_if2 12 31 (fun x y => y ≤ x) := rfl
theorem l_M_servicesOf_12 : bh_tb T_M_servicesOf 12 = bo_ald 13 0 := rfl
theorem l_M_servicesOf_13 : bh_tb T_M_servicesOf 13 = bo_gR 16 40 30 66 := rfl
theorem l_M_servicesOf_16 : bh_tb T_M_servicesOf 16 = bo_ild 17 3 := rfl
theorem l_M_servicesOf_17 : bh_tb T_M_servicesOf 17 = bo_Iald bh_ak bh_al 18 := rfl
theorem l_M_servicesOf_18 : bh_tb T_M_servicesOf 18 = bo_ild 19 1 := rfl
theorem l_M_servicesOf_19 : bh_tb T_M_servicesOf 19 = bo_if2 22 25 (fun x y => ¬ x = y) := rfl
theorem l_M_servicesOf_22 : bh_tb T_M_servicesOf 22 = bo_inc 25 2 1 := rfl
theorem l_M_servicesOf_25 : bh_tb T_M_servicesOf 25 = bo_inc 28 3 1 := rfl
theorem l_M_servicesOf_28 : bh_tb T_M_servicesOf 28 = bo_go 4 := rfl
theorem l_M_servicesOf_31 : bh_tb T_M_servicesOf 31 = bo_ild 32 2 := rfl
theorem l_M_servicesOf_32 : bh_tb T_M_servicesOf 32 = bo_iret 0 := rfl
theorem l_M_drop_0 : bh_tb T_M_drop 0 = bo_ald 1 0 := rfl
theorem l_M_drop_1 : bh_tb T_M_drop 1 = bo_st 4 (bg_push (.inl (.int 400))) := rfl
theorem l_M_drop_4 : bh_tb T_M_drop 4 = bo_ald 5 0 := rfl
theorem l_M_drop_5 : bh_tb T_M_drop 5 = bo_gR 8 40 29 65 := rfl
theorem l_M_drop_8 : bh_tb T_M_drop 8 = bo_ild 9 1 := rfl
theorem l_M_drop_9 : bh_tb T_M_drop 9 = bo_Iald bh_ak bh_al 10 := rfl
theorem l_M_drop_10 : bh_tb T_M_drop 10 = bo_st 12 (bg_push (.inl (.int 100))) := rfl
theorem l_M_drop_12 : bh_tb T_M_drop 12 = bo_st 13 (bg_dv (fun x y => x - x / y * y)) := rfl
theorem l_M_drop_13 : bh_tb T_M_drop 13 = bo_st 14 (bg_ii (fun x y => x + y)) := rfl
theorem l_M_drop_14 : bh_tb T_M_drop 14 = bo_callV 17 2 0 0 40 F_M_note := rfl
theorem l_M_drop_17 : bh_tb T_M_drop 17 = bo_ald 18 0 := rfl
theorem l_M_drop_18 : bh_tb T_M_drop 18 = bo_st 19 bg_dup := rfl
theorem l_M_drop_19 : bh_tb T_M_drop 19 = bo_gI 22 40 34 := rfl
theorem l_M_drop_22 : bh_tb T_M_drop 22 = bo_st 23 (bg_push (.inl (.int 1))) := rfl
theorem l_M_drop_23 : bh_tb T_M_drop 23 = bo_st 24 (bg_ii (fun x y => x - y)) := rfl
theorem l_M_drop_24 : bh_tb T_M_drop 24 = bo_pI 27 40 34 := rfl
theorem l_M_drop_27 : bh_tb T_M_drop 27 = bo_ild 28 1 := rfl
theorem l_M_drop_28 : bh_tb T_M_drop 28 = bo_ist 29 2 := rfl
theorem l_M_drop_29 : bh_tb T_M_drop 29 = bo_ild 30 2 := rfl
theorem l_M_drop_30 : bh_tb T_M_drop 30 = bo_ald 31 0 := rfl
theorem l_M_drop_31 : bh_tb T_M_drop 31 = bo_gI 34 40 34 := rfl
theorem l_M_drop_34 : bh_tb T_M_drop 34 = bo_if2 37 138 (fun x y => y ≤ x) := rfl
theorem l_M_drop_37 : bh_tb T_M_drop 37 = bo_ald 38 0 := rfl
theorem l_M_drop_38 : bh_tb T_M_drop 38 = bo_gR 41 40 29 65 := rfl
theorem l_M_drop_41 : bh_tb T_M_drop 41 = bo_ild 42 2 := rfl
theorem l_M_drop_42 : bh_tb T_M_drop 42 = bo_ald 43 0 := rfl
theorem l_M_drop_43 : bh_tb T_M_drop 43 = bo_gR 46 40 29 65 := rfl
theorem l_M_drop_46 : bh_tb T_M_drop 46 = bo_ild 47 2 := rfl
theorem l_M_drop_47 : bh_tb T_M_drop 47 = bo_st 48 (bg_push (.inl (.int 1))) := rfl
theorem l_M_drop_48 : bh_tb T_M_drop 48 = bo_st 49 (bg_ii (fun x y => x + y)) := rfl
theorem l_M_drop_49 : bh_tb T_M_drop 49 = bo_Iald bh_ak bh_al 50 := rfl
theorem l_M_drop_50 : bh_tb T_M_drop 50 = bo_Iast bh_ak bh_al 51 := rfl
theorem l_M_drop_51 : bh_tb T_M_drop 51 = bo_ald 52 0 := rfl
theorem l_M_drop_52 : bh_tb T_M_drop 52 = bo_gR 55 40 30 66 := rfl
theorem l_M_drop_55 : bh_tb T_M_drop 55 = bo_ild 56 2 := rfl
theorem l_M_drop_56 : bh_tb T_M_drop 56 = bo_ald 57 0 := rfl
theorem l_M_drop_57 : bh_tb T_M_drop 57 = bo_gR 60 40 30 66 := rfl
theorem l_M_drop_60 : bh_tb T_M_drop 60 = bo_ild 61 2 := rfl
theorem l_M_drop_61 : bh_tb T_M_drop 61 = bo_st 62 (bg_push (.inl (.int 1))) := rfl
theorem l_M_drop_62 : bh_tb T_M_drop 62 = bo_st 63 (bg_ii (fun x y => x + y)) := rfl
theorem l_M_drop_63 : bh_tb T_M_drop 63 = bo_Iald bh_ak bh_al 64 := rfl
theorem l_M_drop_64 : bh_tb T_M_drop 64 = bo_Iast bh_ak bh_al 65 := rfl
theorem l_M_drop_65 : bh_tb T_M_drop 65 = bo_ald 66 0 := rfl
theorem l_M_drop_66 : bh_tb T_M_drop 66 = bo_gR 69 40 31 67 := rfl
theorem l_M_drop_69 : bh_tb T_M_drop 69 = bo_ild 70 2 := rfl
theorem l_M_drop_70 : bh_tb T_M_drop 70 = bo_ald 71 0 := rfl
theorem l_M_drop_71 : bh_tb T_M_drop 71 = bo_gR 74 40 31 67 := rfl
theorem l_M_drop_74 : bh_tb T_M_drop 74 = bo_ild 75 2 := rfl
theorem l_M_drop_75 : bh_tb T_M_drop 75 = bo_st 76 (bg_push (.inl (.int 1))) := rfl
theorem l_M_drop_76 : bh_tb T_M_drop 76 = bo_st 77 (bg_ii (fun x y => x + y)) := rfl
theorem l_M_drop_77 : bh_tb T_M_drop 77 = bo_Iald bh_ak bh_al 78 := rfl
theorem l_M_drop_78 : bh_tb T_M_drop 78 = bo_Iast bh_ak bh_al 79 := rfl
theorem l_M_drop_79 : bh_tb T_M_drop 79 = bo_ald 80 0 := rfl
theorem l_M_drop_80 : bh_tb T_M_drop 80 = bo_gR 83 40 32 68 := rfl
theorem l_M_drop_83 : bh_tb T_M_drop 83 = bo_ild 84 2 := rfl
theorem l_M_drop_84 : bh_tb T_M_drop 84 = bo_ald 85 0 := rfl
theorem l_M_drop_85 : bh_tb T_M_drop 85 = bo_gR 88 40 32 68 := rfl
theorem l_M_drop_88 : bh_tb T_M_drop 88 = bo_ild 89 2 := rfl
theorem l_M_drop_89 : bh_tb T_M_drop 89 = bo_st 90 (bg_push (.inl (.int 1))) := rfl
theorem l_M_drop_90 : bh_tb T_M_drop 90 = bo_st 91 (bg_ii (fun x y => x + y)) := rfl
theorem l_M_drop_91 : bh_tb T_M_drop 91 = bo_Dald bh_ak bh_al 92 := rfl
theorem l_M_drop_92 : bh_tb T_M_drop 92 = bo_Dast bh_ak bh_al 93 := rfl
theorem l_M_drop_93 : bh_tb T_M_drop 93 = bo_st 94 (bg_push (.inl (.int 0))) := rfl
theorem l_M_drop_94 : bh_tb T_M_drop 94 = bo_ist 95 3 := rfl
theorem l_M_drop_95 : bh_tb T_M_drop 95 = bo_ild 96 3 := rfl
theorem l_M_drop_96 : bh_tb T_M_drop 96 = bo_st 98 (bg_push (.inl (.int 8))) := rfl
theorem l_M_drop_98 : bh_tb T_M_drop 98 = bo_if2 101 132 (fun x y => y ≤ x) := rfl
theorem l_M_drop_101 : bh_tb T_M_drop 101 = bo_ald 102 0 := rfl
theorem l_M_drop_102 : bh_tb T_M_drop 102 = bo_gR 105 40 33 69 := rfl
theorem l_M_drop_105 : bh_tb T_M_drop 105 = bo_st 107 (bg_push (.inl (.int 8))) := rfl
theorem l_M_drop_107 : bh_tb T_M_drop 107 = bo_ild 108 2 := rfl
theorem l_M_drop_108 : bh_tb T_M_drop 108 = bo_st 109 (bg_ii (fun x y => x * y)) := rfl
theorem l_M_drop_109 : bh_tb T_M_drop 109 = bo_ild 110 3 := rfl
theorem l_M_drop_110 : bh_tb T_M_drop 110 = bo_st 111 (bg_ii (fun x y => x + y)) := rfl
theorem l_M_drop_111 : bh_tb T_M_drop 111 = bo_ald 112 0 := rfl
theorem l_M_drop_112 : bh_tb T_M_drop 112 = bo_gR 115 40 33 69 := rfl
theorem l_M_drop_115 : bh_tb T_M_drop 115 = bo_st 117 (bg_push (.inl (.int 8))) := rfl
theorem l_M_drop_117 : bh_tb T_M_drop 117 = bo_ild 118 2 := rfl
theorem l_M_drop_118 : bh_tb T_M_drop 118 = bo_st 119 (bg_ii (fun x y => x * y)) := rfl
theorem l_M_drop_119 : bh_tb T_M_drop 119 = bo_st 121 (bg_push (.inl (.int 8))) := rfl
theorem l_M_drop_121 : bh_tb T_M_drop 121 = bo_st 122 (bg_ii (fun x y => x + y)) := rfl
theorem l_M_drop_122 : bh_tb T_M_drop 122 = bo_ild 123 3 := rfl
theorem l_M_drop_123 : bh_tb T_M_drop 123 = bo_st 124 (bg_ii (fun x y => x + y)) := rfl
theorem l_M_drop_124 : bh_tb T_M_drop 124 = bo_Iald bh_ak bh_al 125 := rfl
theorem l_M_drop_125 : bh_tb T_M_drop 125 = bo_Iast bh_ak bh_al 126 := rfl
theorem l_M_drop_126 : bh_tb T_M_drop 126 = bo_inc 129 3 1 := rfl
theorem l_M_drop_129 : bh_tb T_M_drop 129 = bo_go 95 := rfl
theorem l_M_drop_132 : bh_tb T_M_drop 132 = bo_inc 135 2 1 := rfl
theorem l_M_drop_135 : bh_tb T_M_drop 135 = bo_go 29 := rfl
theorem l_M_drop_138 : bh_tb T_M_drop 138 = bo_vret 0 := rfl
theorem l_M_stopping_0 : bh_tb T_M_stopping 0 = bo_ald 1 0 := rfl
theorem l_M_stopping_1 : bh_tb T_M_stopping 1 = bo_ild 2 1 := rfl
theorem l_M_stopping_2 : bh_tb T_M_stopping 2 = bo_callV 5 2 0 0 40 F_M_servicesOf := rfl
theorem l_M_stopping_5 : bh_tb T_M_stopping 5 = bo_ist 6 2 := rfl
theorem l_M_stopping_6 : bh_tb T_M_stopping 6 = bo_st 7 (bg_push (.inl (.int 0))) := rfl
theorem l_M_stopping_7 : bh_tb T_M_stopping 7 = bo_ist 8 3 := rfl
theorem l_M_stopping_8 : bh_tb T_M_stopping 8 = bo_ild 9 3 := rfl
theorem l_M_stopping_9 : bh_tb T_M_stopping 9 = bo_ald 10 0 := rfl
theorem l_M_stopping_10 : bh_tb T_M_stopping 10 = bo_gI 13 40 34 := rfl
theorem l_M_stopping_13 : bh_tb T_M_stopping 13 = bo_if2 16 40 (fun x y => y ≤ x) := rfl
theorem l_M_stopping_16 : bh_tb T_M_stopping 16 = bo_ald 17 0 := rfl
theorem l_M_stopping_17 : bh_tb T_M_stopping 17 = bo_gR 20 40 30 66 := rfl
theorem l_M_stopping_20 : bh_tb T_M_stopping 20 = bo_ild 21 3 := rfl
theorem l_M_stopping_21 : bh_tb T_M_stopping 21 = bo_Iald bh_ak bh_al 22 := rfl
theorem l_M_stopping_22 : bh_tb T_M_stopping 22 = bo_ild 23 1 := rfl
theorem l_M_stopping_23 : bh_tb T_M_stopping 23 = bo_if2 26 34 (fun x y => ¬ x = y) := rfl
theorem l_M_stopping_26 : bh_tb T_M_stopping 26 = bo_ald 27 0 := rfl
theorem l_M_stopping_27 : bh_tb T_M_stopping 27 = bo_ild 28 3 := rfl
theorem l_M_stopping_28 : bh_tb T_M_stopping 28 = bo_callV 31 2 0 0 40 F_M_drop := rfl
theorem l_M_stopping_31 : bh_tb T_M_stopping 31 = bo_go 8 := rfl
theorem l_M_stopping_34 : bh_tb T_M_stopping 34 = bo_inc 37 3 1 := rfl
theorem l_M_stopping_37 : bh_tb T_M_stopping 37 = bo_go 8 := rfl
theorem l_M_stopping_40 : bh_tb T_M_stopping 40 = bo_st 41 (bg_push (.inl (.int 0))) := rfl
theorem l_M_stopping_41 : bh_tb T_M_stopping 41 = bo_ist 43 4 := rfl
theorem l_M_stopping_43 : bh_tb T_M_stopping 43 = bo_ild 45 4 := rfl
theorem l_M_stopping_45 : bh_tb T_M_stopping 45 = bo_ald 46 0 := rfl
theorem l_M_stopping_46 : bh_tb T_M_stopping 46 = bo_gI 49 40 34 := rfl
theorem l_M_stopping_49 : bh_tb T_M_stopping 49 = bo_if2 52 71 (fun x y => y ≤ x) := rfl
theorem l_M_stopping_52 : bh_tb T_M_stopping 52 = bo_ald 53 0 := rfl
theorem l_M_stopping_53 : bh_tb T_M_stopping 53 = bo_gR 56 40 33 69 := rfl
theorem l_M_stopping_56 : bh_tb T_M_stopping 56 = bo_st 58 (bg_push (.inl (.int 8))) := rfl
theorem l_M_stopping_58 : bh_tb T_M_stopping 58 = bo_ild 60 4 := rfl
theorem l_M_stopping_60 : bh_tb T_M_stopping 60 = bo_st 61 (bg_ii (fun x y => x * y)) := rfl
theorem l_M_stopping_61 : bh_tb T_M_stopping 61 = bo_ild 62 1 := rfl
theorem l_M_stopping_62 : bh_tb T_M_stopping 62 = bo_st 63 (bg_ii (fun x y => x + y)) := rfl
theorem l_M_stopping_63 : bh_tb T_M_stopping 63 = bo_st 64 (bg_push (.inl (.int 0))) := rfl
theorem l_M_stopping_64 : bh_tb T_M_stopping 64 = bo_Iast bh_ak bh_al 65 := rfl
theorem l_M_stopping_65 : bh_tb T_M_stopping 65 = bo_inc 68 4 1 := rfl
theorem l_M_stopping_68 : bh_tb T_M_stopping 68 = bo_go 43 := rfl
theorem l_M_stopping_71 : bh_tb T_M_stopping 71 = bo_ald 72 0 := rfl
theorem l_M_stopping_72 : bh_tb T_M_stopping 72 = bo_gR 75 40 1 41 := rfl
theorem l_M_stopping_75 : bh_tb T_M_stopping 75 = bo_ild 76 1 := rfl
theorem l_M_stopping_76 : bh_tb T_M_stopping 76 = bo_st 77 (bg_push (.inl (.int 2))) := rfl
theorem l_M_stopping_77 : bh_tb T_M_stopping 77 = bo_Iast bh_ak bh_al 78 := rfl
theorem l_M_stopping_78 : bh_tb T_M_stopping 78 = bo_ald 79 0 := rfl
theorem l_M_stopping_79 : bh_tb T_M_stopping 79 = bo_st 82 (bg_push (.inl (.int 200))) := rfl
theorem l_M_stopping_82 : bh_tb T_M_stopping 82 = bo_ild 83 1 := rfl
theorem l_M_stopping_83 : bh_tb T_M_stopping 83 = bo_st 84 (bg_ii (fun x y => x + y)) := rfl
theorem l_M_stopping_84 : bh_tb T_M_stopping 84 = bo_callV 87 2 0 0 40 F_M_note := rfl
theorem l_M_stopping_87 : bh_tb T_M_stopping 87 = bo_ild 88 2 := rfl
theorem l_M_stopping_88 : bh_tb T_M_stopping 88 = bo_iret 0 := rfl
theorem l_M_stop_0 : bh_tb T_M_stop 0 = bo_ald 1 0 := rfl
theorem l_M_stop_1 : bh_tb T_M_stop 1 = bo_st 2 (bg_push (.inl (.int 0))) := rfl
theorem l_M_stop_2 : bh_tb T_M_stop 2 = bo_pI 5 40 0 := rfl
theorem l_M_stop_5 : bh_tb T_M_stop 5 = bo_ild 6 1 := rfl
theorem l_M_stop_6 : bh_tb T_M_stop 6 = bo_callS 9 1 0 0 F_M_isBundle := rfl
theorem l_M_stop_9 : bh_tb T_M_stop 9 = bo_if1 12 18 (fun x => ¬ x = 0) := rfl
theorem l_M_stop_12 : bh_tb T_M_stop 12 = bo_ald 13 0 := rfl
theorem l_M_stop_13 : bh_tb T_M_stop 13 = bo_st 14 (bg_push (.inl (.int 1))) := rfl
theorem l_M_stop_14 : bh_tb T_M_stop 14 = bo_callV 17 2 0 0 40 F_M_raise := rfl
theorem l_M_stop_17 : bh_tb T_M_stop 17 = bo_iret 0 := rfl
theorem l_M_stop_18 : bh_tb T_M_stop 18 = bo_ald 19 0 := rfl
theorem l_M_stop_19 : bh_tb T_M_stop 19 = bo_gR 22 40 1 41 := rfl
theorem l_M_stop_22 : bh_tb T_M_stop 22 = bo_ild 23 1 := rfl
theorem l_M_stop_23 : bh_tb T_M_stop 23 = bo_Iald bh_ak bh_al 24 := rfl
theorem l_M_stop_24 : bh_tb T_M_stop 24 = bo_if1 27 33 (fun x => ¬ x = 0) := rfl
theorem l_M_stop_27 : bh_tb T_M_stop 27 = bo_ald 28 0 := rfl
theorem l_M_stop_28 : bh_tb T_M_stop 28 = bo_st 29 (bg_push (.inl (.int 2))) := rfl
theorem l_M_stop_29 : bh_tb T_M_stop 29 = bo_callV 32 2 0 0 40 F_M_raise := rfl
theorem l_M_stop_32 : bh_tb T_M_stop 32 = bo_iret 0 := rfl
theorem l_M_stop_33 : bh_tb T_M_stop 33 = bo_ald 34 0 := rfl
theorem l_M_stop_34 : bh_tb T_M_stop 34 = bo_gR 37 40 5 45 := rfl
theorem l_M_stop_37 : bh_tb T_M_stop 37 = bo_ild 38 1 := rfl
theorem l_M_stop_38 : bh_tb T_M_stop 38 = bo_st 39 (bg_push (.inl (.int 0))) := rfl
theorem l_M_stop_39 : bh_tb T_M_stop 39 = bo_Zast bh_ak bh_al 40 := rfl
theorem l_M_stop_40 : bh_tb T_M_stop 40 = bo_ald 41 0 := rfl
theorem l_M_stop_41 : bh_tb T_M_stop 41 = bo_gR 44 40 1 41 := rfl
theorem l_M_stop_44 : bh_tb T_M_stop 44 = bo_ild 45 1 := rfl
theorem l_M_stop_45 : bh_tb T_M_stop 45 = bo_Iald bh_ak bh_al 46 := rfl
theorem l_M_stop_46 : bh_tb T_M_stop 46 = bo_st 47 (bg_push (.inl (.int 3))) := rfl
theorem l_M_stop_47 : bh_tb T_M_stop 47 = bo_if2 50 58 (fun x y => ¬ x = y) := rfl
theorem l_M_stop_50 : bh_tb T_M_stop 50 = bo_ald 51 0 := rfl
theorem l_M_stop_51 : bh_tb T_M_stop 51 = bo_ild 52 1 := rfl
theorem l_M_stop_52 : bh_tb T_M_stop 52 = bo_callV 55 2 0 0 40 F_M_stopping := rfl
theorem l_M_stop_55 : bh_tb T_M_stop 55 = bo_go 59 := rfl
theorem l_M_stop_58 : bh_tb T_M_stop 58 = bo_st 59 (bg_push (.inl (.int 0))) := rfl
theorem l_M_stop_59 : bh_tb T_M_stop 59 = bo_iret 0 := rfl
theorem l_M_level_0 : bh_tb T_M_level 0 = bo_ald 1 0 := rfl
theorem l_M_level_1 : bh_tb T_M_level 1 = bo_st 2 (bg_push (.inl (.int 0))) := rfl
theorem l_M_level_2 : bh_tb T_M_level 2 = bo_pI 5 40 0 := rfl
theorem l_M_level_5 : bh_tb T_M_level 5 = bo_ild 6 1 := rfl
theorem l_M_level_6 : bh_tb T_M_level 6 = bo_st 7 (bg_push (.inl (.int 1))) := rfl
theorem l_M_level_7 : bh_tb T_M_level 7 = bo_st 8 (bg_push (.inl (.int 5))) := rfl
theorem l_M_level_8 : bh_tb T_M_level 8 = bo_callS 11 3 0 0 F_M_in := rfl
theorem l_M_level_11 : bh_tb T_M_level 11 = bo_if1 14 20 (fun x => ¬ x = 0) := rfl
theorem l_M_level_14 : bh_tb T_M_level 14 = bo_ald 15 0 := rfl
theorem l_M_level_15 : bh_tb T_M_level 15 = bo_st 16 (bg_push (.inl (.int 1))) := rfl
theorem l_M_level_16 : bh_tb T_M_level 16 = bo_callV 19 2 0 0 40 F_M_raise := rfl
theorem l_M_level_19 : bh_tb T_M_level 19 = bo_iret 0 := rfl
theorem l_M_level_20 : bh_tb T_M_level 20 = bo_st 21 (bg_push (.inl (.int 0))) := rfl
theorem l_M_level_21 : bh_tb T_M_level 21 = bo_ist 22 2 := rfl
theorem l_M_level_22 : bh_tb T_M_level 22 = bo_ald 23 0 := rfl
theorem l_M_level_23 : bh_tb T_M_level 23 = bo_gI 26 40 39 := rfl
theorem l_M_level_26 : bh_tb T_M_level 26 = bo_st 27 (bg_push (.inl (.int 1))) := rfl
theorem l_M_level_27 : bh_tb T_M_level 27 = bo_st 28 (bg_ii (fun x y => x + y)) := rfl
theorem l_M_level_28 : bh_tb T_M_level 28 = bo_ist 29 3 := rfl
theorem l_M_level_29 : bh_tb T_M_level 29 = bo_ild 30 3 := rfl
theorem l_M_level_30 : bh_tb T_M_level 30 = bo_ild 31 1 := rfl
theorem l_M_level_31 : bh_tb T_M_level 31 = bo_if2 34 104 (fun x y => y < x) := rfl
theorem l_M_level_34 : bh_tb T_M_level 34 = bo_st 35 (bg_push (.inl (.int 0))) := rfl
theorem l_M_level_35 : bh_tb T_M_level 35 = bo_ist 37 4 := rfl
theorem l_M_level_37 : bh_tb T_M_level 37 = bo_ild 39 4 := rfl
theorem l_M_level_39 : bh_tb T_M_level 39 = bo_st 41 (bg_push (.inl (.int 8))) := rfl
theorem l_M_level_41 : bh_tb T_M_level 41 = bo_if2 44 98 (fun x y => y ≤ x) := rfl
theorem l_M_level_44 : bh_tb T_M_level 44 = bo_ald 45 0 := rfl
theorem l_M_level_45 : bh_tb T_M_level 45 = bo_gR 48 40 1 41 := rfl
theorem l_M_level_48 : bh_tb T_M_level 48 = bo_ild 50 4 := rfl
theorem l_M_level_50 : bh_tb T_M_level 50 = bo_Iald bh_ak bh_al 51 := rfl
theorem l_M_level_51 : bh_tb T_M_level 51 = bo_st 52 (bg_push (.inl (.int 1))) := rfl
theorem l_M_level_52 : bh_tb T_M_level 52 = bo_st 53 (bg_push (.inl (.int 2))) := rfl
theorem l_M_level_53 : bh_tb T_M_level 53 = bo_callS 56 3 0 0 F_M_in := rfl
theorem l_M_level_56 : bh_tb T_M_level 56 = bo_if1 59 92 (fun x => x = 0) := rfl
theorem l_M_level_59 : bh_tb T_M_level 59 = bo_ald 60 0 := rfl
theorem l_M_level_60 : bh_tb T_M_level 60 = bo_gR 63 40 5 45 := rfl
theorem l_M_level_63 : bh_tb T_M_level 63 = bo_ild 65 4 := rfl
theorem l_M_level_65 : bh_tb T_M_level 65 = bo_Zald bh_ak bh_al 66 := rfl
theorem l_M_level_66 : bh_tb T_M_level 66 = bo_if1 69 92 (fun x => x = 0) := rfl
theorem l_M_level_69 : bh_tb T_M_level 69 = bo_ald 70 0 := rfl
theorem l_M_level_70 : bh_tb T_M_level 70 = bo_gR 73 40 3 43 := rfl
theorem l_M_level_73 : bh_tb T_M_level 73 = bo_ild 75 4 := rfl
theorem l_M_level_75 : bh_tb T_M_level 75 = bo_Iald bh_ak bh_al 76 := rfl
theorem l_M_level_76 : bh_tb T_M_level 76 = bo_ild 77 3 := rfl
theorem l_M_level_77 : bh_tb T_M_level 77 = bo_if2 80 92 (fun x y => ¬ x = y) := rfl
theorem l_M_level_80 : bh_tb T_M_level 80 = bo_ald 81 0 := rfl
theorem l_M_level_81 : bh_tb T_M_level 81 = bo_ild 83 4 := rfl
theorem l_M_level_83 : bh_tb T_M_level 83 = bo_callV 86 2 0 0 40 F_M_starting := rfl
theorem l_M_level_86 : bh_tb T_M_level 86 = bo_if1 89 92 (fun x => ¬ x = 0) := rfl
theorem l_M_level_89 : bh_tb T_M_level 89 = bo_inc 92 2 1 := rfl
theorem l_M_level_92 : bh_tb T_M_level 92 = bo_inc 95 4 1 := rfl
theorem l_M_level_95 : bh_tb T_M_level 95 = bo_go 37 := rfl
theorem l_M_level_98 : bh_tb T_M_level 98 = bo_inc 101 3 1 := rfl
theorem l_M_level_101 : bh_tb T_M_level 101 = bo_go 29 := rfl
theorem l_M_level_104 : bh_tb T_M_level 104 = bo_ald 105 0 := rfl
theorem l_M_level_105 : bh_tb T_M_level 105 = bo_gI 108 40 39 := rfl
theorem l_M_level_108 : bh_tb T_M_level 108 = bo_ist 109 3 := rfl
theorem l_M_level_109 : bh_tb T_M_level 109 = bo_ild 110 3 := rfl
theorem l_M_level_110 : bh_tb T_M_level 110 = bo_ild 111 1 := rfl
theorem l_M_level_111 : bh_tb T_M_level 111 = bo_if2 114 170 (fun x y => x ≤ y) := rfl
theorem l_M_level_114 : bh_tb T_M_level 114 = bo_st 116 (bg_push (.inl (.int 7))) := rfl
theorem l_M_level_116 : bh_tb T_M_level 116 = bo_ist 118 4 := rfl
theorem l_M_level_118 : bh_tb T_M_level 118 = bo_ild 120 4 := rfl
theorem l_M_level_120 : bh_tb T_M_level 120 = bo_if1 123 164 (fun x => x < 0) := rfl
theorem l_M_level_123 : bh_tb T_M_level 123 = bo_ald 124 0 := rfl
theorem l_M_level_124 : bh_tb T_M_level 124 = bo_gR 127 40 1 41 := rfl
theorem l_M_level_127 : bh_tb T_M_level 127 = bo_ild 129 4 := rfl
theorem l_M_level_129 : bh_tb T_M_level 129 = bo_Iald bh_ak bh_al 130 := rfl
theorem l_M_level_130 : bh_tb T_M_level 130 = bo_st 131 (bg_push (.inl (.int 3))) := rfl
theorem l_M_level_131 : bh_tb T_M_level 131 = bo_if2 134 158 (fun x y => ¬ x = y) := rfl
theorem l_M_level_134 : bh_tb T_M_level 134 = bo_ald 135 0 := rfl
theorem l_M_level_135 : bh_tb T_M_level 135 = bo_gR 138 40 3 43 := rfl
theorem l_M_level_138 : bh_tb T_M_level 138 = bo_ild 140 4 := rfl
theorem l_M_level_140 : bh_tb T_M_level 140 = bo_Iald bh_ak bh_al 141 := rfl
theorem l_M_level_141 : bh_tb T_M_level 141 = bo_ild 142 3 := rfl
theorem l_M_level_142 : bh_tb T_M_level 142 = bo_if2 145 148 (fun x y => x = y) := rfl
theorem l_M_level_145 : bh_tb T_M_level 145 = bo_go 158 := rfl
theorem l_M_level_148 : bh_tb T_M_level 148 = bo_ald 149 0 := rfl
theorem l_M_level_149 : bh_tb T_M_level 149 = bo_ild 151 4 := rfl
theorem l_M_level_151 : bh_tb T_M_level 151 = bo_callV 154 2 0 0 40 F_M_stopping := rfl
theorem l_M_level_154 : bh_tb T_M_level 154 = bo_st 155 bg_pop := rfl
theorem l_M_level_155 : bh_tb T_M_level 155 = bo_inc 158 2 1 := rfl
theorem l_M_level_158 : bh_tb T_M_level 158 = bo_inc 161 4 (-1) := rfl
theorem l_M_level_161 : bh_tb T_M_level 161 = bo_go 118 := rfl
theorem l_M_level_164 : bh_tb T_M_level 164 = bo_inc 167 3 (-1) := rfl
theorem l_M_level_167 : bh_tb T_M_level 167 = bo_go 109 := rfl
theorem l_M_level_170 : bh_tb T_M_level 170 = bo_ald 171 0 := rfl
theorem l_M_level_171 : bh_tb T_M_level 171 = bo_ild 172 1 := rfl
theorem l_M_level_172 : bh_tb T_M_level 172 = bo_pI 175 40 39 := rfl
theorem l_M_level_175 : bh_tb T_M_level 175 = bo_ild 176 2 := rfl
theorem l_M_level_176 : bh_tb T_M_level 176 = bo_iret 0 := rfl
theorem l_M_wiresTo_0 : bh_tb T_M_wiresTo 0 = bo_st 1 (bg_push (.inl (.int 0))) := rfl
theorem l_M_wiresTo_1 : bh_tb T_M_wiresTo 1 = bo_ist 2 2 := rfl
theorem l_M_wiresTo_2 : bh_tb T_M_wiresTo 2 = bo_st 3 (bg_push (.inl (.int 0))) := rfl
theorem l_M_wiresTo_3 : bh_tb T_M_wiresTo 3 = bo_ist 4 3 := rfl
theorem l_M_wiresTo_4 : bh_tb T_M_wiresTo 4 = bo_ild 5 3 := rfl
theorem l_M_wiresTo_5 : bh_tb T_M_wiresTo 5 = bo_st 7 (bg_push (.inl (.int 24))) := rfl
theorem l_M_wiresTo_7 : bh_tb T_M_wiresTo 7 = bo_if2 10 57 (fun x y => y ≤ x) := rfl
theorem l_M_wiresTo_10 : bh_tb T_M_wiresTo 10 = bo_ild 11 3 := rfl
theorem l_M_wiresTo_11 : bh_tb T_M_wiresTo 11 = bo_st 12 (bg_push (.inl (.int 3))) := rfl
theorem l_M_wiresTo_12 : bh_tb T_M_wiresTo 12 = bo_st 13 (bg_dv (fun x y => x / y)) := rfl
theorem l_M_wiresTo_13 : bh_tb T_M_wiresTo 13 = bo_ild 14 1 := rfl
theorem l_M_wiresTo_14 : bh_tb T_M_wiresTo 14 = bo_if2 17 51 (fun x y => x = y) := rfl
theorem l_M_wiresTo_17 : bh_tb T_M_wiresTo 17 = bo_ald 18 0 := rfl
theorem l_M_wiresTo_18 : bh_tb T_M_wiresTo 18 = bo_gR 21 40 17 57 := rfl
theorem l_M_wiresTo_21 : bh_tb T_M_wiresTo 21 = bo_ild 22 3 := rfl
theorem l_M_wiresTo_22 : bh_tb T_M_wiresTo 22 = bo_Jald bh_ak bh_al 23 := rfl
theorem l_M_wiresTo_23 : bh_tb T_M_wiresTo 23 = bo_st 24 (bg_push (.inl (.long 0))) := rfl
theorem l_M_wiresTo_24 : bh_tb T_M_wiresTo 24 = bo_st 25 (bg_lc lg_cmp) := rfl
theorem l_M_wiresTo_25 : bh_tb T_M_wiresTo 25 = bo_if1 28 51 (fun x => x < 0) := rfl
theorem l_M_wiresTo_28 : bh_tb T_M_wiresTo 28 = bo_ald 29 0 := rfl
theorem l_M_wiresTo_29 : bh_tb T_M_wiresTo 29 = bo_gR 32 40 17 57 := rfl
theorem l_M_wiresTo_32 : bh_tb T_M_wiresTo 32 = bo_ild 33 3 := rfl
theorem l_M_wiresTo_33 : bh_tb T_M_wiresTo 33 = bo_Jald bh_ak bh_al 34 := rfl
theorem l_M_wiresTo_34 : bh_tb T_M_wiresTo 34 = bo_st 37 (bg_push (.inl (.long 8))) := rfl
theorem l_M_wiresTo_37 : bh_tb T_M_wiresTo 37 = bo_st 38 (bg_lv (fun x y => x / y)) := rfl
theorem l_M_wiresTo_38 : bh_tb T_M_wiresTo 38 = bo_st 41 (bg_push (.inl (.long 8))) := rfl
theorem l_M_wiresTo_41 : bh_tb T_M_wiresTo 41 = bo_st 42 (bg_lv (fun x y => x - x / y * y)) := rfl
theorem l_M_wiresTo_42 : bh_tb T_M_wiresTo 42 = bo_ild 43 1 := rfl
theorem l_M_wiresTo_43 : bh_tb T_M_wiresTo 43 = bo_st 44 (bg_i1 (fun x => .inl (.long x.toInt64))) := rfl
theorem l_M_wiresTo_44 : bh_tb T_M_wiresTo 44 = bo_st 45 (bg_lc lg_cmp) := rfl
theorem l_M_wiresTo_45 : bh_tb T_M_wiresTo 45 = bo_if1 48 51 (fun x => ¬ x = 0) := rfl
theorem l_M_wiresTo_48 : bh_tb T_M_wiresTo 48 = bo_inc 51 2 1 := rfl
theorem l_M_wiresTo_51 : bh_tb T_M_wiresTo 51 = bo_inc 54 3 1 := rfl
theorem l_M_wiresTo_54 : bh_tb T_M_wiresTo 54 = bo_go 4 := rfl
theorem l_M_wiresTo_57 : bh_tb T_M_wiresTo 57 = bo_ild 58 2 := rfl
theorem l_M_wiresTo_58 : bh_tb T_M_wiresTo 58 = bo_iret 0 := rfl
theorem l_M_remove_0 : bh_tb T_M_remove 0 = bo_ald 1 0 := rfl
theorem l_M_remove_1 : bh_tb T_M_remove 1 = bo_gR 4 40 1 41 := rfl
theorem l_M_remove_4 : bh_tb T_M_remove 4 = bo_ild 5 1 := rfl
theorem l_M_remove_5 : bh_tb T_M_remove 5 = bo_Iald bh_ak bh_al 6 := rfl
theorem l_M_remove_6 : bh_tb T_M_remove 6 = bo_st 7 (bg_push (.inl (.int 3))) := rfl
theorem l_M_remove_7 : bh_tb T_M_remove 7 = bo_if2 10 16 (fun x y => ¬ x = y) := rfl
theorem l_M_remove_10 : bh_tb T_M_remove 10 = bo_ald 11 0 := rfl
theorem l_M_remove_11 : bh_tb T_M_remove 11 = bo_ild 12 1 := rfl
theorem l_M_remove_12 : bh_tb T_M_remove 12 = bo_callV 15 2 0 0 40 F_M_stopping := rfl
theorem l_M_remove_15 : bh_tb T_M_remove 15 = bo_st 16 bg_pop := rfl
theorem l_M_remove_16 : bh_tb T_M_remove 16 = bo_ald 17 0 := rfl
theorem l_M_remove_17 : bh_tb T_M_remove 17 = bo_ild 18 1 := rfl
theorem l_M_remove_18 : bh_tb T_M_remove 18 = bo_callV 21 2 0 0 40 F_M_wiresTo := rfl
theorem l_M_remove_21 : bh_tb T_M_remove 21 = bo_ist 22 3 := rfl
theorem l_M_remove_22 : bh_tb T_M_remove 22 = bo_ald 23 0 := rfl
theorem l_M_remove_23 : bh_tb T_M_remove 23 = bo_gR 26 40 1 41 := rfl
theorem l_M_remove_26 : bh_tb T_M_remove 26 = bo_ild 27 1 := rfl
theorem l_M_remove_27 : bh_tb T_M_remove 27 = bo_ild 28 2 := rfl
theorem l_M_remove_28 : bh_tb T_M_remove 28 = bo_Iast bh_ak bh_al 29 := rfl
theorem l_M_remove_29 : bh_tb T_M_remove 29 = bo_ald 30 0 := rfl
theorem l_M_remove_30 : bh_tb T_M_remove 30 = bo_ild 31 1 := rfl
theorem l_M_remove_31 : bh_tb T_M_remove 31 = bo_callV 34 2 0 0 40 F_M_empty := rfl
theorem l_M_remove_34 : bh_tb T_M_remove 34 = bo_ild 35 3 := rfl
theorem l_M_remove_35 : bh_tb T_M_remove 35 = bo_iret 0 := rfl
theorem l_M_uninstall_0 : bh_tb T_M_uninstall 0 = bo_ald 1 0 := rfl
theorem l_M_uninstall_1 : bh_tb T_M_uninstall 1 = bo_st 2 (bg_push (.inl (.int 0))) := rfl
theorem l_M_uninstall_2 : bh_tb T_M_uninstall 2 = bo_pI 5 40 0 := rfl
theorem l_M_uninstall_5 : bh_tb T_M_uninstall 5 = bo_ild 6 1 := rfl
theorem l_M_uninstall_6 : bh_tb T_M_uninstall 6 = bo_callS 9 1 0 0 F_M_isBundle := rfl
theorem l_M_uninstall_9 : bh_tb T_M_uninstall 9 = bo_if1 12 18 (fun x => ¬ x = 0) := rfl
theorem l_M_uninstall_12 : bh_tb T_M_uninstall 12 = bo_ald 13 0 := rfl
theorem l_M_uninstall_13 : bh_tb T_M_uninstall 13 = bo_st 14 (bg_push (.inl (.int 1))) := rfl
theorem l_M_uninstall_14 : bh_tb T_M_uninstall 14 = bo_callV 17 2 0 0 40 F_M_raise := rfl
theorem l_M_uninstall_17 : bh_tb T_M_uninstall 17 = bo_iret 0 := rfl
theorem l_M_uninstall_18 : bh_tb T_M_uninstall 18 = bo_ald 19 0 := rfl
theorem l_M_uninstall_19 : bh_tb T_M_uninstall 19 = bo_gR 22 40 1 41 := rfl
theorem l_M_uninstall_22 : bh_tb T_M_uninstall 22 = bo_ild 23 1 := rfl
theorem l_M_uninstall_23 : bh_tb T_M_uninstall 23 = bo_Iald bh_ak bh_al 24 := rfl
theorem l_M_uninstall_24 : bh_tb T_M_uninstall 24 = bo_if1 27 35 (fun x => ¬ x = 0) := rfl
theorem l_M_uninstall_27 : bh_tb T_M_uninstall 27 = bo_ald 28 0 := rfl
theorem l_M_uninstall_28 : bh_tb T_M_uninstall 28 = bo_st 29 (bg_push (.inl (.int 2))) := rfl
theorem l_M_uninstall_29 : bh_tb T_M_uninstall 29 = bo_callV 32 2 0 0 40 F_M_raise := rfl
theorem l_M_uninstall_32 : bh_tb T_M_uninstall 32 = bo_go 41 := rfl
theorem l_M_uninstall_35 : bh_tb T_M_uninstall 35 = bo_ald 36 0 := rfl
theorem l_M_uninstall_36 : bh_tb T_M_uninstall 36 = bo_ild 37 1 := rfl
theorem l_M_uninstall_37 : bh_tb T_M_uninstall 37 = bo_st 38 (bg_push (.inl (.int 0))) := rfl
theorem l_M_uninstall_38 : bh_tb T_M_uninstall 38 = bo_callV 41 3 0 0 40 F_M_remove := rfl
theorem l_M_uninstall_41 : bh_tb T_M_uninstall 41 = bo_iret 0 := rfl
theorem l_M_update_0 : bh_tb T_M_update 0 = bo_ald 1 0 := rfl
theorem l_M_update_1 : bh_tb T_M_update 1 = bo_st 2 (bg_push (.inl (.int 0))) := rfl
theorem l_M_update_2 : bh_tb T_M_update 2 = bo_pI 5 40 0 := rfl
theorem l_M_update_5 : bh_tb T_M_update 5 = bo_ild 6 1 := rfl
theorem l_M_update_6 : bh_tb T_M_update 6 = bo_callS 9 1 0 0 F_M_isBundle := rfl
theorem l_M_update_9 : bh_tb T_M_update 9 = bo_if1 12 18 (fun x => ¬ x = 0) := rfl
theorem l_M_update_12 : bh_tb T_M_update 12 = bo_ald 13 0 := rfl
theorem l_M_update_13 : bh_tb T_M_update 13 = bo_st 14 (bg_push (.inl (.int 1))) := rfl
theorem l_M_update_14 : bh_tb T_M_update 14 = bo_callV 17 2 0 0 40 F_M_raise := rfl
theorem l_M_update_17 : bh_tb T_M_update 17 = bo_iret 0 := rfl
theorem l_M_update_18 : bh_tb T_M_update 18 = bo_ald 19 0 := rfl
theorem l_M_update_19 : bh_tb T_M_update 19 = bo_gR 22 40 1 41 := rfl
theorem l_M_update_22 : bh_tb T_M_update 22 = bo_ild 23 1 := rfl
theorem l_M_update_23 : bh_tb T_M_update 23 = bo_Iald bh_ak bh_al 24 := rfl
theorem l_M_update_24 : bh_tb T_M_update 24 = bo_if1 27 35 (fun x => ¬ x = 0) := rfl
theorem l_M_update_27 : bh_tb T_M_update 27 = bo_ald 28 0 := rfl
theorem l_M_update_28 : bh_tb T_M_update 28 = bo_st 29 (bg_push (.inl (.int 2))) := rfl
theorem l_M_update_29 : bh_tb T_M_update 29 = bo_callV 32 2 0 0 40 F_M_raise := rfl
theorem l_M_update_32 : bh_tb T_M_update 32 = bo_go 41 := rfl
theorem l_M_update_35 : bh_tb T_M_update 35 = bo_ald 36 0 := rfl
theorem l_M_update_36 : bh_tb T_M_update 36 = bo_ild 37 1 := rfl
theorem l_M_update_37 : bh_tb T_M_update 37 = bo_st 38 (bg_push (.inl (.int 1))) := rfl
theorem l_M_update_38 : bh_tb T_M_update 38 = bo_callV 41 3 0 0 40 F_M_remove := rfl
theorem l_M_update_41 : bh_tb T_M_update 41 = bo_iret 0 := rfl
theorem l_M_old_0 : bh_tb T_M_old 0 = bo_ald 1 0 := rfl
theorem l_M_old_1 : bh_tb T_M_old 1 = bo_gR 4 40 1 41 := rfl
theorem l_M_old_4 : bh_tb T_M_old 4 = bo_lld 5 1 := rfl
theorem l_M_old_5 : bh_tb T_M_old 5 = bo_st 8 (bg_push (.inl (.long 8))) := rfl
theorem l_M_old_8 : bh_tb T_M_old 8 = bo_st 9 (bg_lv (fun x y => x / y)) := rfl
theorem l_M_old_9 : bh_tb T_M_old 9 = bo_st 12 (bg_push (.inl (.long 8))) := rfl
theorem l_M_old_12 : bh_tb T_M_old 12 = bo_st 13 (bg_lv (fun x y => x - x / y * y)) := rfl
theorem l_M_old_13 : bh_tb T_M_old 13 = bo_st 14 (bg_l1 (fun x => .inl (.int x.toInt32))) := rfl
theorem l_M_old_14 : bh_tb T_M_old 14 = bo_Iald bh_ak bh_al 15 := rfl
theorem l_M_old_15 : bh_tb T_M_old 15 = bo_if1 18 42 (fun x => x = 0) := rfl
theorem l_M_old_18 : bh_tb T_M_old 18 = bo_lld 19 1 := rfl
theorem l_M_old_19 : bh_tb T_M_old 19 = bo_st 22 (bg_push (.inl (.long 64))) := rfl
theorem l_M_old_22 : bh_tb T_M_old 22 = bo_st 23 (bg_lv (fun x y => x / y)) := rfl
theorem l_M_old_23 : bh_tb T_M_old 23 = bo_ald 24 0 := rfl
theorem l_M_old_24 : bh_tb T_M_old 24 = bo_gR 27 40 7 47 := rfl
theorem l_M_old_27 : bh_tb T_M_old 27 = bo_lld 28 1 := rfl
theorem l_M_old_28 : bh_tb T_M_old 28 = bo_st 31 (bg_push (.inl (.long 8))) := rfl
theorem l_M_old_31 : bh_tb T_M_old 31 = bo_st 32 (bg_lv (fun x y => x / y)) := rfl
theorem l_M_old_32 : bh_tb T_M_old 32 = bo_st 35 (bg_push (.inl (.long 8))) := rfl
theorem l_M_old_35 : bh_tb T_M_old 35 = bo_st 36 (bg_lv (fun x y => x - x / y * y)) := rfl
theorem l_M_old_36 : bh_tb T_M_old 36 = bo_st 37 (bg_l1 (fun x => .inl (.int x.toInt32))) := rfl
theorem l_M_old_37 : bh_tb T_M_old 37 = bo_Jald bh_ak bh_al 38 := rfl
theorem l_M_old_38 : bh_tb T_M_old 38 = bo_st 39 (bg_lc lg_cmp) := rfl
theorem l_M_old_39 : bh_tb T_M_old 39 = bo_if1 42 46 (fun x => x = 0) := rfl
theorem l_M_old_42 : bh_tb T_M_old 42 = bo_st 43 (bg_push (.inl (.int 1))) := rfl
theorem l_M_old_43 : bh_tb T_M_old 43 = bo_go 47 := rfl
theorem l_M_old_46 : bh_tb T_M_old 46 = bo_st 47 (bg_push (.inl (.int 0))) := rfl
theorem l_M_old_47 : bh_tb T_M_old 47 = bo_zret 0 := rfl
set_option maxRecDepth 20000 in
theorem l_M_refresh_0 : bh_tb T_M_refresh 0 = bo_ald 1 0 := rfl
set_option maxRecDepth 20000 in
theorem l_M_refresh_1 : bh_tb T_M_refresh 1 = bo_st 2 (bg_push (.inl (.int 0))) := rfl
set_option maxRecDepth 20000 in
theorem l_M_refresh_2 : bh_tb T_M_refresh 2 = bo_pI 5 40 0 := rfl
set_option maxRecDepth 20000 in
theorem l_M_refresh_5 : bh_tb T_M_refresh 5 = bo_st 6 (bg_push (.inl (.int 0))) := rfl
set_option maxRecDepth 20000 in
theorem l_M_refresh_6 : bh_tb T_M_refresh 6 = bo_ist 7 1 := rfl
set_option maxRecDepth 20000 in
theorem l_M_refresh_7 : bh_tb T_M_refresh 7 = bo_st 8 (bg_push (.inl (.int 0))) := rfl
set_option maxRecDepth 20000 in
theorem l_M_refresh_8 : bh_tb T_M_refresh 8 = bo_ist 9 2 := rfl
set_option maxRecDepth 20000 in
theorem l_M_refresh_9 : bh_tb T_M_refresh 9 = bo_ild 10 2 := rfl
set_option maxRecDepth 20000 in
theorem l_M_refresh_10 : bh_tb T_M_refresh 10 = bo_st 12 (bg_push (.inl (.int 8))) := rfl
set_option maxRecDepth 20000 in
theorem l_M_refresh_12 : bh_tb T_M_refresh 12 = bo_if2 15 28 (fun x y => y ≤ x) := rfl
set_option maxRecDepth 20000 in
theorem l_M_refresh_15 : bh_tb T_M_refresh 15 = bo_ald 16 0 := rfl
set_option maxRecDepth 20000 in
theorem l_M_refresh_16 : bh_tb T_M_refresh 16 = bo_gR 19 40 24 63 := rfl
set_option maxRecDepth 20000 in
theorem l_M_refresh_19 : bh_tb T_M_refresh 19 = bo_ild 20 2 := rfl
set_option maxRecDepth 20000 in
theorem l_M_refresh_20 : bh_tb T_M_refresh 20 = bo_st 21 (bg_push (.inl (.int 0))) := rfl
set_option maxRecDepth 20000 in
theorem l_M_refresh_21 : bh_tb T_M_refresh 21 = bo_Zast bh_ak bh_al 22 := rfl
set_option maxRecDepth 20000 in
theorem l_M_refresh_22 : bh_tb T_M_refresh 22 = bo_inc 25 2 1 := rfl
set_option maxRecDepth 20000 in
theorem l_M_refresh_25 : bh_tb T_M_refresh 25 = bo_go 9 := rfl
set_option maxRecDepth 20000 in
theorem l_M_refresh_28 : bh_tb T_M_refresh 28 = bo_st 29 (bg_push (.inl (.int 0))) := rfl
set_option maxRecDepth 20000 in
theorem l_M_refresh_29 : bh_tb T_M_refresh 29 = bo_ist 30 2 := rfl
set_option maxRecDepth 20000 in
theorem l_M_refresh_30 : bh_tb T_M_refresh 30 = bo_ild 31 2 := rfl
set_option maxRecDepth 20000 in
theorem l_M_refresh_31 : bh_tb T_M_refresh 31 = bo_st 33 (bg_push (.inl (.int 9))) := rfl
set_option maxRecDepth 20000 in
theorem l_M_refresh_33 : bh_tb T_M_refresh 33 = bo_if2 36 112 (fun x y => y ≤ x) := rfl
set_option maxRecDepth 20000 in
theorem l_M_refresh_36 : bh_tb T_M_refresh 36 = bo_st 37 (bg_push (.inl (.int 0))) := rfl
set_option maxRecDepth 20000 in
theorem l_M_refresh_37 : bh_tb T_M_refresh 37 = bo_ist 38 3 := rfl
set_option maxRecDepth 20000 in
theorem l_M_refresh_38 : bh_tb T_M_refresh 38 = bo_ild 39 3 := rfl
set_option maxRecDepth 20000 in
theorem l_M_refresh_39 : bh_tb T_M_refresh 39 = bo_st 41 (bg_push (.inl (.int 24))) := rfl
set_option maxRecDepth 20000 in
theorem l_M_refresh_41 : bh_tb T_M_refresh 41 = bo_if2 44 106 (fun x y => y ≤ x) := rfl
set_option maxRecDepth 20000 in
theorem l_M_refresh_44 : bh_tb T_M_refresh 44 = bo_ald 45 0 := rfl
set_option maxRecDepth 20000 in
theorem l_M_refresh_45 : bh_tb T_M_refresh 45 = bo_gR 48 40 17 57 := rfl
set_option maxRecDepth 20000 in
theorem l_M_refresh_48 : bh_tb T_M_refresh 48 = bo_ild 49 3 := rfl
set_option maxRecDepth 20000 in
theorem l_M_refresh_49 : bh_tb T_M_refresh 49 = bo_Jald bh_ak bh_al 50 := rfl
set_option maxRecDepth 20000 in
theorem l_M_refresh_50 : bh_tb T_M_refresh 50 = bo_st 51 (bg_push (.inl (.long 0))) := rfl
set_option maxRecDepth 20000 in
theorem l_M_refresh_51 : bh_tb T_M_refresh 51 = bo_st 52 (bg_lc lg_cmp) := rfl
set_option maxRecDepth 20000 in
theorem l_M_refresh_52 : bh_tb T_M_refresh 52 = bo_if1 55 100 (fun x => x < 0) := rfl
set_option maxRecDepth 20000 in
theorem l_M_refresh_55 : bh_tb T_M_refresh 55 = bo_ald 56 0 := rfl
set_option maxRecDepth 20000 in
theorem l_M_refresh_56 : bh_tb T_M_refresh 56 = bo_ald 57 0 := rfl
set_option maxRecDepth 20000 in
theorem l_M_refresh_57 : bh_tb T_M_refresh 57 = bo_gR 60 40 17 57 := rfl
set_option maxRecDepth 20000 in
theorem l_M_refresh_60 : bh_tb T_M_refresh 60 = bo_ild 61 3 := rfl
set_option maxRecDepth 20000 in
theorem l_M_refresh_61 : bh_tb T_M_refresh 61 = bo_Jald bh_ak bh_al 62 := rfl
set_option maxRecDepth 20000 in
theorem l_M_refresh_62 : bh_tb T_M_refresh 62 = bo_callV 65 2 0 0 40 F_M_old := rfl
set_option maxRecDepth 20000 in
theorem l_M_refresh_65 : bh_tb T_M_refresh 65 = bo_if1 68 91 (fun x => ¬ x = 0) := rfl
set_option maxRecDepth 20000 in
theorem l_M_refresh_68 : bh_tb T_M_refresh 68 = bo_ald 69 0 := rfl
set_option maxRecDepth 20000 in
theorem l_M_refresh_69 : bh_tb T_M_refresh 69 = bo_gR 72 40 24 63 := rfl
set_option maxRecDepth 20000 in
theorem l_M_refresh_72 : bh_tb T_M_refresh 72 = bo_ald 73 0 := rfl
set_option maxRecDepth 20000 in
theorem l_M_refresh_73 : bh_tb T_M_refresh 73 = bo_gR 76 40 17 57 := rfl
set_option maxRecDepth 20000 in
theorem l_M_refresh_76 : bh_tb T_M_refresh 76 = bo_ild 77 3 := rfl
set_option maxRecDepth 20000 in
theorem l_M_refresh_77 : bh_tb T_M_refresh 77 = bo_Jald bh_ak bh_al 78 := rfl
set_option maxRecDepth 20000 in
theorem l_M_refresh_78 : bh_tb T_M_refresh 78 = bo_st 81 (bg_push (.inl (.long 8))) := rfl
set_option maxRecDepth 20000 in
theorem l_M_refresh_81 : bh_tb T_M_refresh 81 = bo_st 82 (bg_lv (fun x y => x / y)) := rfl
set_option maxRecDepth 20000 in
theorem l_M_refresh_82 : bh_tb T_M_refresh 82 = bo_st 85 (bg_push (.inl (.long 8))) := rfl
set_option maxRecDepth 20000 in
theorem l_M_refresh_85 : bh_tb T_M_refresh 85 = bo_st 86 (bg_lv (fun x y => x - x / y * y)) := rfl
set_option maxRecDepth 20000 in
theorem l_M_refresh_86 : bh_tb T_M_refresh 86 = bo_st 87 (bg_l1 (fun x => .inl (.int x.toInt32))) := rfl
set_option maxRecDepth 20000 in
theorem l_M_refresh_87 : bh_tb T_M_refresh 87 = bo_Zald bh_ak bh_al 88 := rfl
set_option maxRecDepth 20000 in
theorem l_M_refresh_88 : bh_tb T_M_refresh 88 = bo_if1 91 100 (fun x => x = 0) := rfl
set_option maxRecDepth 20000 in
theorem l_M_refresh_91 : bh_tb T_M_refresh 91 = bo_ald 92 0 := rfl
set_option maxRecDepth 20000 in
theorem l_M_refresh_92 : bh_tb T_M_refresh 92 = bo_gR 95 40 24 63 := rfl
set_option maxRecDepth 20000 in
theorem l_M_refresh_95 : bh_tb T_M_refresh 95 = bo_ild 96 3 := rfl
set_option maxRecDepth 20000 in
theorem l_M_refresh_96 : bh_tb T_M_refresh 96 = bo_st 97 (bg_push (.inl (.int 3))) := rfl
set_option maxRecDepth 20000 in
theorem l_M_refresh_97 : bh_tb T_M_refresh 97 = bo_st 98 (bg_dv (fun x y => x / y)) := rfl
set_option maxRecDepth 20000 in
theorem l_M_refresh_98 : bh_tb T_M_refresh 98 = bo_st 99 (bg_push (.inl (.int 1))) := rfl
set_option maxRecDepth 20000 in
theorem l_M_refresh_99 : bh_tb T_M_refresh 99 = bo_Zast bh_ak bh_al 100 := rfl
set_option maxRecDepth 20000 in
theorem l_M_refresh_100 : bh_tb T_M_refresh 100 = bo_inc 103 3 1 := rfl
set_option maxRecDepth 20000 in
theorem l_M_refresh_103 : bh_tb T_M_refresh 103 = bo_go 38 := rfl
set_option maxRecDepth 20000 in
theorem l_M_refresh_106 : bh_tb T_M_refresh 106 = bo_inc 109 2 1 := rfl
set_option maxRecDepth 20000 in
theorem l_M_refresh_109 : bh_tb T_M_refresh 109 = bo_go 30 := rfl
set_option maxRecDepth 20000 in
theorem l_M_refresh_112 : bh_tb T_M_refresh 112 = bo_st 113 (bg_push (.inl (.int 0))) := rfl
set_option maxRecDepth 20000 in
theorem l_M_refresh_113 : bh_tb T_M_refresh 113 = bo_ist 114 2 := rfl
set_option maxRecDepth 20000 in
theorem l_M_refresh_114 : bh_tb T_M_refresh 114 = bo_st 116 (bg_push (.inl (.int 7))) := rfl
set_option maxRecDepth 20000 in
theorem l_M_refresh_116 : bh_tb T_M_refresh 116 = bo_ist 117 3 := rfl
set_option maxRecDepth 20000 in
theorem l_M_refresh_117 : bh_tb T_M_refresh 117 = bo_ild 118 3 := rfl
set_option maxRecDepth 20000 in
theorem l_M_refresh_118 : bh_tb T_M_refresh 118 = bo_if1 121 164 (fun x => x < 0) := rfl
set_option maxRecDepth 20000 in
theorem l_M_refresh_121 : bh_tb T_M_refresh 121 = bo_ald 122 0 := rfl
set_option maxRecDepth 20000 in
theorem l_M_refresh_122 : bh_tb T_M_refresh 122 = bo_gR 125 40 24 63 := rfl
set_option maxRecDepth 20000 in
theorem l_M_refresh_125 : bh_tb T_M_refresh 125 = bo_ild 126 3 := rfl
set_option maxRecDepth 20000 in
theorem l_M_refresh_126 : bh_tb T_M_refresh 126 = bo_Zald bh_ak bh_al 127 := rfl
set_option maxRecDepth 20000 in
theorem l_M_refresh_127 : bh_tb T_M_refresh 127 = bo_if1 130 133 (fun x => ¬ x = 0) := rfl
set_option maxRecDepth 20000 in
theorem l_M_refresh_130 : bh_tb T_M_refresh 130 = bo_go 158 := rfl
set_option maxRecDepth 20000 in
theorem l_M_refresh_133 : bh_tb T_M_refresh 133 = bo_ild 134 2 := rfl
set_option maxRecDepth 20000 in
theorem l_M_refresh_134 : bh_tb T_M_refresh 134 = bo_st 135 (bg_push (.inl (.int 1))) := rfl
set_option maxRecDepth 20000 in
theorem l_M_refresh_135 : bh_tb T_M_refresh 135 = bo_ild 136 3 := rfl
set_option maxRecDepth 20000 in
theorem l_M_refresh_136 : bh_tb T_M_refresh 136 = bo_st 137 (bg_ii (fun x y => x <<< (y &&& 31))) := rfl
set_option maxRecDepth 20000 in
theorem l_M_refresh_137 : bh_tb T_M_refresh 137 = bo_st 138 (bg_ii (fun x y => x ||| y)) := rfl
set_option maxRecDepth 20000 in
theorem l_M_refresh_138 : bh_tb T_M_refresh 138 = bo_ist 139 2 := rfl
set_option maxRecDepth 20000 in
theorem l_M_refresh_139 : bh_tb T_M_refresh 139 = bo_inc 142 1 1 := rfl
set_option maxRecDepth 20000 in
theorem l_M_refresh_142 : bh_tb T_M_refresh 142 = bo_ald 143 0 := rfl
set_option maxRecDepth 20000 in
theorem l_M_refresh_143 : bh_tb T_M_refresh 143 = bo_gR 146 40 1 41 := rfl
set_option maxRecDepth 20000 in
theorem l_M_refresh_146 : bh_tb T_M_refresh 146 = bo_ild 147 3 := rfl
set_option maxRecDepth 20000 in
theorem l_M_refresh_147 : bh_tb T_M_refresh 147 = bo_Iald bh_ak bh_al 148 := rfl
set_option maxRecDepth 20000 in
theorem l_M_refresh_148 : bh_tb T_M_refresh 148 = bo_st 149 (bg_push (.inl (.int 3))) := rfl
set_option maxRecDepth 20000 in
theorem l_M_refresh_149 : bh_tb T_M_refresh 149 = bo_if2 152 158 (fun x y => ¬ x = y) := rfl
set_option maxRecDepth 20000 in
theorem l_M_refresh_152 : bh_tb T_M_refresh 152 = bo_ald 153 0 := rfl
set_option maxRecDepth 20000 in
theorem l_M_refresh_153 : bh_tb T_M_refresh 153 = bo_ild 154 3 := rfl
set_option maxRecDepth 20000 in
theorem l_M_refresh_154 : bh_tb T_M_refresh 154 = bo_callV 157 2 0 0 40 F_M_stopping := rfl
set_option maxRecDepth 20000 in
theorem l_M_refresh_157 : bh_tb T_M_refresh 157 = bo_st 158 bg_pop := rfl
set_option maxRecDepth 20000 in
theorem l_M_refresh_158 : bh_tb T_M_refresh 158 = bo_inc 161 3 (-1) := rfl
set_option maxRecDepth 20000 in
theorem l_M_refresh_161 : bh_tb T_M_refresh 161 = bo_go 117 := rfl
set_option maxRecDepth 20000 in
theorem l_M_refresh_164 : bh_tb T_M_refresh 164 = bo_st 165 (bg_push (.inl (.int 0))) := rfl
set_option maxRecDepth 20000 in
theorem l_M_refresh_165 : bh_tb T_M_refresh 165 = bo_ist 166 3 := rfl
set_option maxRecDepth 20000 in
theorem l_M_refresh_166 : bh_tb T_M_refresh 166 = bo_ild 167 3 := rfl
set_option maxRecDepth 20000 in
theorem l_M_refresh_167 : bh_tb T_M_refresh 167 = bo_st 169 (bg_push (.inl (.int 8))) := rfl
set_option maxRecDepth 20000 in
theorem l_M_refresh_169 : bh_tb T_M_refresh 169 = bo_if2 172 201 (fun x y => y ≤ x) := rfl
set_option maxRecDepth 20000 in
theorem l_M_refresh_172 : bh_tb T_M_refresh 172 = bo_ild 173 2 := rfl
set_option maxRecDepth 20000 in
theorem l_M_refresh_173 : bh_tb T_M_refresh 173 = bo_ild 174 3 := rfl
set_option maxRecDepth 20000 in
theorem l_M_refresh_174 : bh_tb T_M_refresh 174 = bo_st 175 (bg_ii (fun x y => x >>> (y &&& 31))) := rfl
set_option maxRecDepth 20000 in
theorem l_M_refresh_175 : bh_tb T_M_refresh 175 = bo_st 176 (bg_push (.inl (.int 1))) := rfl
set_option maxRecDepth 20000 in
theorem l_M_refresh_176 : bh_tb T_M_refresh 176 = bo_st 177 (bg_ii (fun x y => x &&& y)) := rfl
set_option maxRecDepth 20000 in
theorem l_M_refresh_177 : bh_tb T_M_refresh 177 = bo_if1 180 183 (fun x => ¬ x = 0) := rfl
set_option maxRecDepth 20000 in
theorem l_M_refresh_180 : bh_tb T_M_refresh 180 = bo_go 195 := rfl
set_option maxRecDepth 20000 in
theorem l_M_refresh_183 : bh_tb T_M_refresh 183 = bo_ald 184 0 := rfl
set_option maxRecDepth 20000 in
theorem l_M_refresh_184 : bh_tb T_M_refresh 184 = bo_gR 187 40 1 41 := rfl
set_option maxRecDepth 20000 in
theorem l_M_refresh_187 : bh_tb T_M_refresh 187 = bo_ild 188 3 := rfl
set_option maxRecDepth 20000 in
theorem l_M_refresh_188 : bh_tb T_M_refresh 188 = bo_st 189 (bg_push (.inl (.int 1))) := rfl
set_option maxRecDepth 20000 in
theorem l_M_refresh_189 : bh_tb T_M_refresh 189 = bo_Iast bh_ak bh_al 190 := rfl
set_option maxRecDepth 20000 in
theorem l_M_refresh_190 : bh_tb T_M_refresh 190 = bo_ald 191 0 := rfl
set_option maxRecDepth 20000 in
theorem l_M_refresh_191 : bh_tb T_M_refresh 191 = bo_ild 192 3 := rfl
set_option maxRecDepth 20000 in
theorem l_M_refresh_192 : bh_tb T_M_refresh 192 = bo_callV 195 2 0 0 40 F_M_unwire := rfl
set_option maxRecDepth 20000 in
theorem l_M_refresh_195 : bh_tb T_M_refresh 195 = bo_inc 198 3 1 := rfl
set_option maxRecDepth 20000 in
theorem l_M_refresh_198 : bh_tb T_M_refresh 198 = bo_go 166 := rfl
set_option maxRecDepth 20000 in
theorem l_M_refresh_201 : bh_tb T_M_refresh 201 = bo_st 202 (bg_push (.inl (.int 0))) := rfl
set_option maxRecDepth 20000 in
theorem l_M_refresh_202 : bh_tb T_M_refresh 202 = bo_ist 203 3 := rfl
set_option maxRecDepth 20000 in
theorem l_M_refresh_203 : bh_tb T_M_refresh 203 = bo_ild 204 3 := rfl
set_option maxRecDepth 20000 in
theorem l_M_refresh_204 : bh_tb T_M_refresh 204 = bo_st 206 (bg_push (.inl (.int 8))) := rfl
set_option maxRecDepth 20000 in
theorem l_M_refresh_206 : bh_tb T_M_refresh 206 = bo_if2 209 261 (fun x y => y ≤ x) := rfl
set_option maxRecDepth 20000 in
theorem l_M_refresh_209 : bh_tb T_M_refresh 209 = bo_ild 210 2 := rfl
set_option maxRecDepth 20000 in
theorem l_M_refresh_210 : bh_tb T_M_refresh 210 = bo_ild 211 3 := rfl
set_option maxRecDepth 20000 in
theorem l_M_refresh_211 : bh_tb T_M_refresh 211 = bo_st 212 (bg_ii (fun x y => x >>> (y &&& 31))) := rfl
set_option maxRecDepth 20000 in
theorem l_M_refresh_212 : bh_tb T_M_refresh 212 = bo_st 213 (bg_push (.inl (.int 1))) := rfl
set_option maxRecDepth 20000 in
theorem l_M_refresh_213 : bh_tb T_M_refresh 213 = bo_st 214 (bg_ii (fun x y => x &&& y)) := rfl
set_option maxRecDepth 20000 in
theorem l_M_refresh_214 : bh_tb T_M_refresh 214 = bo_if1 217 255 (fun x => x = 0) := rfl
set_option maxRecDepth 20000 in
theorem l_M_refresh_217 : bh_tb T_M_refresh 217 = bo_ald 218 0 := rfl
set_option maxRecDepth 20000 in
theorem l_M_refresh_218 : bh_tb T_M_refresh 218 = bo_gR 221 40 5 45 := rfl
set_option maxRecDepth 20000 in
theorem l_M_refresh_221 : bh_tb T_M_refresh 221 = bo_ild 222 3 := rfl
set_option maxRecDepth 20000 in
theorem l_M_refresh_222 : bh_tb T_M_refresh 222 = bo_Zald bh_ak bh_al 223 := rfl
set_option maxRecDepth 20000 in
theorem l_M_refresh_223 : bh_tb T_M_refresh 223 = bo_if1 226 255 (fun x => x = 0) := rfl
set_option maxRecDepth 20000 in
theorem l_M_refresh_226 : bh_tb T_M_refresh 226 = bo_ald 227 0 := rfl
set_option maxRecDepth 20000 in
theorem l_M_refresh_227 : bh_tb T_M_refresh 227 = bo_gR 230 40 3 43 := rfl
set_option maxRecDepth 20000 in
theorem l_M_refresh_230 : bh_tb T_M_refresh 230 = bo_ild 231 3 := rfl
set_option maxRecDepth 20000 in
theorem l_M_refresh_231 : bh_tb T_M_refresh 231 = bo_Iald bh_ak bh_al 232 := rfl
set_option maxRecDepth 20000 in
theorem l_M_refresh_232 : bh_tb T_M_refresh 232 = bo_ald 233 0 := rfl
set_option maxRecDepth 20000 in
theorem l_M_refresh_233 : bh_tb T_M_refresh 233 = bo_gI 236 40 39 := rfl
set_option maxRecDepth 20000 in
theorem l_M_refresh_236 : bh_tb T_M_refresh 236 = bo_if2 239 255 (fun x y => y < x) := rfl
set_option maxRecDepth 20000 in
theorem l_M_refresh_239 : bh_tb T_M_refresh 239 = bo_ald 240 0 := rfl
set_option maxRecDepth 20000 in
theorem l_M_refresh_240 : bh_tb T_M_refresh 240 = bo_gR 243 40 1 41 := rfl
set_option maxRecDepth 20000 in
theorem l_M_refresh_243 : bh_tb T_M_refresh 243 = bo_ild 244 3 := rfl
set_option maxRecDepth 20000 in
theorem l_M_refresh_244 : bh_tb T_M_refresh 244 = bo_Iald bh_ak bh_al 245 := rfl
set_option maxRecDepth 20000 in
theorem l_M_refresh_245 : bh_tb T_M_refresh 245 = bo_st 246 (bg_push (.inl (.int 3))) := rfl
set_option maxRecDepth 20000 in
theorem l_M_refresh_246 : bh_tb T_M_refresh 246 = bo_if2 249 255 (fun x y => x = y) := rfl
set_option maxRecDepth 20000 in
theorem l_M_refresh_249 : bh_tb T_M_refresh 249 = bo_ald 250 0 := rfl
set_option maxRecDepth 20000 in
theorem l_M_refresh_250 : bh_tb T_M_refresh 250 = bo_ild 251 3 := rfl
set_option maxRecDepth 20000 in
theorem l_M_refresh_251 : bh_tb T_M_refresh 251 = bo_callV 254 2 0 0 40 F_M_starting := rfl
set_option maxRecDepth 20000 in
theorem l_M_refresh_254 : bh_tb T_M_refresh 254 = bo_st 255 bg_pop := rfl
set_option maxRecDepth 20000 in
theorem l_M_refresh_255 : bh_tb T_M_refresh 255 = bo_inc 258 3 1 := rfl
set_option maxRecDepth 20000 in
theorem l_M_refresh_258 : bh_tb T_M_refresh 258 = bo_go 203 := rfl
set_option maxRecDepth 20000 in
theorem l_M_refresh_261 : bh_tb T_M_refresh 261 = bo_ild 262 1 := rfl
set_option maxRecDepth 20000 in
theorem l_M_refresh_262 : bh_tb T_M_refresh 262 = bo_iret 0 := rfl
theorem l_M_register_0 : bh_tb T_M_register 0 = bo_ald 1 0 := rfl
theorem l_M_register_1 : bh_tb T_M_register 1 = bo_st 2 (bg_push (.inl (.int 0))) := rfl
theorem l_M_register_2 : bh_tb T_M_register 2 = bo_pI 5 40 0 := rfl
theorem l_M_register_5 : bh_tb T_M_register 5 = bo_ild 6 1 := rfl
theorem l_M_register_6 : bh_tb T_M_register 6 = bo_callS 9 1 0 0 F_M_isBundle := rfl
theorem l_M_register_9 : bh_tb T_M_register 9 = bo_if1 12 37 (fun x => x = 0) := rfl
theorem l_M_register_12 : bh_tb T_M_register 12 = bo_ild 13 2 := rfl
theorem l_M_register_13 : bh_tb T_M_register 13 = bo_st 14 (bg_push (.inl (.int 0))) := rfl
theorem l_M_register_14 : bh_tb T_M_register 14 = bo_st 15 (bg_push (.inl (.int 3))) := rfl
theorem l_M_register_15 : bh_tb T_M_register 15 = bo_callS 18 3 0 0 F_M_in := rfl
theorem l_M_register_18 : bh_tb T_M_register 18 = bo_if1 21 37 (fun x => x = 0) := rfl
theorem l_M_register_21 : bh_tb T_M_register 21 = bo_dld 22 3 := rfl
theorem l_M_register_22 : bh_tb T_M_register 22 = bo_st 25 (bg_push (.inl (.double 13875379345695965184))) := rfl
theorem l_M_register_25 : bh_tb T_M_register 25 = bo_st 26 (bg_dc (fun x y => Op.cmpValue (FP.dcmp x y) .l)) := rfl
theorem l_M_register_26 : bh_tb T_M_register 26 = bo_if1 29 37 (fun x => x < 0) := rfl
theorem l_M_register_29 : bh_tb T_M_register 29 = bo_dld 30 3 := rfl
theorem l_M_register_30 : bh_tb T_M_register 30 = bo_st 33 (bg_push (.inl (.double 4652007308841189376))) := rfl
theorem l_M_register_33 : bh_tb T_M_register 33 = bo_st 34 (bg_dc (fun x y => Op.cmpValue (FP.dcmp x y) .g)) := rfl
theorem l_M_register_34 : bh_tb T_M_register 34 = bo_if1 37 43 (fun x => x ≤ 0) := rfl
theorem l_M_register_37 : bh_tb T_M_register 37 = bo_ald 38 0 := rfl
theorem l_M_register_38 : bh_tb T_M_register 38 = bo_st 39 (bg_push (.inl (.int 1))) := rfl
theorem l_M_register_39 : bh_tb T_M_register 39 = bo_callV 42 2 0 0 40 F_M_raise := rfl
theorem l_M_register_42 : bh_tb T_M_register 42 = bo_iret 0 := rfl
theorem l_M_register_43 : bh_tb T_M_register 43 = bo_ald 44 0 := rfl
theorem l_M_register_44 : bh_tb T_M_register 44 = bo_gR 47 40 1 41 := rfl
theorem l_M_register_47 : bh_tb T_M_register 47 = bo_ild 48 1 := rfl
theorem l_M_register_48 : bh_tb T_M_register 48 = bo_Iald bh_ak bh_al 49 := rfl
theorem l_M_register_49 : bh_tb T_M_register 49 = bo_if1 52 58 (fun x => ¬ x = 0) := rfl
theorem l_M_register_52 : bh_tb T_M_register 52 = bo_ald 53 0 := rfl
theorem l_M_register_53 : bh_tb T_M_register 53 = bo_st 54 (bg_push (.inl (.int 2))) := rfl
theorem l_M_register_54 : bh_tb T_M_register 54 = bo_callV 57 2 0 0 40 F_M_raise := rfl
theorem l_M_register_57 : bh_tb T_M_register 57 = bo_iret 0 := rfl
theorem l_M_register_58 : bh_tb T_M_register 58 = bo_ald 59 0 := rfl
theorem l_M_register_59 : bh_tb T_M_register 59 = bo_gR 62 40 1 41 := rfl
theorem l_M_register_62 : bh_tb T_M_register 62 = bo_ild 63 1 := rfl
theorem l_M_register_63 : bh_tb T_M_register 63 = bo_Iald bh_ak bh_al 64 := rfl
theorem l_M_register_64 : bh_tb T_M_register 64 = bo_st 65 (bg_push (.inl (.int 3))) := rfl
theorem l_M_register_65 : bh_tb T_M_register 65 = bo_if2 68 74 (fun x y => x = y) := rfl
theorem l_M_register_68 : bh_tb T_M_register 68 = bo_ald 69 0 := rfl
theorem l_M_register_69 : bh_tb T_M_register 69 = bo_st 70 (bg_push (.inl (.int 3))) := rfl
theorem l_M_register_70 : bh_tb T_M_register 70 = bo_callV 73 2 0 0 40 F_M_raise := rfl
theorem l_M_register_73 : bh_tb T_M_register 73 = bo_iret 0 := rfl
theorem l_M_register_74 : bh_tb T_M_register 74 = bo_ald 75 0 := rfl
theorem l_M_register_75 : bh_tb T_M_register 75 = bo_gI 78 40 34 := rfl
theorem l_M_register_78 : bh_tb T_M_register 78 = bo_st 80 (bg_push (.inl (.int 20))) := rfl
theorem l_M_register_80 : bh_tb T_M_register 80 = bo_if2 83 91 (fun x y => ¬ x = y) := rfl
theorem l_M_register_83 : bh_tb T_M_register 83 = bo_ald 84 0 := rfl
theorem l_M_register_84 : bh_tb T_M_register 84 = bo_st 85 (bg_push (.inl (.int 4))) := rfl
theorem l_M_register_85 : bh_tb T_M_register 85 = bo_callV 88 2 0 0 40 F_M_raise := rfl
theorem l_M_register_88 : bh_tb T_M_register 88 = bo_go 98 := rfl
theorem l_M_register_91 : bh_tb T_M_register 91 = bo_ald 92 0 := rfl
theorem l_M_register_92 : bh_tb T_M_register 92 = bo_ild 93 1 := rfl
theorem l_M_register_93 : bh_tb T_M_register 93 = bo_ild 94 2 := rfl
theorem l_M_register_94 : bh_tb T_M_register 94 = bo_dld 95 3 := rfl
theorem l_M_register_95 : bh_tb T_M_register 95 = bo_callV 98 4 0 0 40 F_M_put := rfl
theorem l_M_register_98 : bh_tb T_M_register 98 = bo_iret 0 := rfl
theorem l_M_get_0 : bh_tb T_M_get 0 = bo_ald 1 0 := rfl
theorem l_M_get_1 : bh_tb T_M_get 1 = bo_st 2 (bg_push (.inl (.int 0))) := rfl
theorem l_M_get_2 : bh_tb T_M_get 2 = bo_pI 5 40 0 := rfl
theorem l_M_get_5 : bh_tb T_M_get 5 = bo_ild 6 1 := rfl
theorem l_M_get_6 : bh_tb T_M_get 6 = bo_callS 9 1 0 0 F_M_isBundle := rfl
theorem l_M_get_9 : bh_tb T_M_get 9 = bo_if1 12 21 (fun x => x = 0) := rfl
theorem l_M_get_12 : bh_tb T_M_get 12 = bo_ild 13 2 := rfl
theorem l_M_get_13 : bh_tb T_M_get 13 = bo_st 14 (bg_push (.inl (.int 0))) := rfl
theorem l_M_get_14 : bh_tb T_M_get 14 = bo_st 15 (bg_push (.inl (.int 3))) := rfl
theorem l_M_get_15 : bh_tb T_M_get 15 = bo_callS 18 3 0 0 F_M_in := rfl
theorem l_M_get_18 : bh_tb T_M_get 18 = bo_if1 21 27 (fun x => ¬ x = 0) := rfl
theorem l_M_get_21 : bh_tb T_M_get 21 = bo_ald 22 0 := rfl
theorem l_M_get_22 : bh_tb T_M_get 22 = bo_st 23 (bg_push (.inl (.int 1))) := rfl
theorem l_M_get_23 : bh_tb T_M_get 23 = bo_callV 26 2 0 0 40 F_M_raise := rfl
theorem l_M_get_26 : bh_tb T_M_get 26 = bo_iret 0 := rfl
theorem l_M_get_27 : bh_tb T_M_get 27 = bo_ald 28 0 := rfl
theorem l_M_get_28 : bh_tb T_M_get 28 = bo_gR 31 40 1 41 := rfl
theorem l_M_get_31 : bh_tb T_M_get 31 = bo_ild 32 1 := rfl
theorem l_M_get_32 : bh_tb T_M_get 32 = bo_Iald bh_ak bh_al 33 := rfl
theorem l_M_get_33 : bh_tb T_M_get 33 = bo_if1 36 42 (fun x => ¬ x = 0) := rfl
theorem l_M_get_36 : bh_tb T_M_get 36 = bo_ald 37 0 := rfl
theorem l_M_get_37 : bh_tb T_M_get 37 = bo_st 38 (bg_push (.inl (.int 2))) := rfl
theorem l_M_get_38 : bh_tb T_M_get 38 = bo_callV 41 2 0 0 40 F_M_raise := rfl
theorem l_M_get_41 : bh_tb T_M_get 41 = bo_iret 0 := rfl
theorem l_M_get_42 : bh_tb T_M_get 42 = bo_ald 43 0 := rfl
theorem l_M_get_43 : bh_tb T_M_get 43 = bo_gR 46 40 1 41 := rfl
theorem l_M_get_46 : bh_tb T_M_get 46 = bo_ild 47 1 := rfl
theorem l_M_get_47 : bh_tb T_M_get 47 = bo_Iald bh_ak bh_al 48 := rfl
theorem l_M_get_48 : bh_tb T_M_get 48 = bo_st 49 (bg_push (.inl (.int 3))) := rfl
theorem l_M_get_49 : bh_tb T_M_get 49 = bo_if2 52 58 (fun x y => x = y) := rfl
theorem l_M_get_52 : bh_tb T_M_get 52 = bo_ald 53 0 := rfl
theorem l_M_get_53 : bh_tb T_M_get 53 = bo_st 54 (bg_push (.inl (.int 3))) := rfl
theorem l_M_get_54 : bh_tb T_M_get 54 = bo_callV 57 2 0 0 40 F_M_raise := rfl
theorem l_M_get_57 : bh_tb T_M_get 57 = bo_iret 0 := rfl
theorem l_M_get_58 : bh_tb T_M_get 58 = bo_ald 59 0 := rfl
theorem l_M_get_59 : bh_tb T_M_get 59 = bo_ild 60 2 := rfl
theorem l_M_get_60 : bh_tb T_M_get 60 = bo_callV 63 2 0 0 40 F_M_best := rfl
theorem l_M_get_63 : bh_tb T_M_get 63 = bo_ist 64 3 := rfl
theorem l_M_get_64 : bh_tb T_M_get 64 = bo_ild 65 3 := rfl
theorem l_M_get_65 : bh_tb T_M_get 65 = bo_if1 68 74 (fun x => 0 ≤ x) := rfl
theorem l_M_get_68 : bh_tb T_M_get 68 = bo_ald 69 0 := rfl
theorem l_M_get_69 : bh_tb T_M_get 69 = bo_st 70 (bg_push (.inl (.int 4))) := rfl
theorem l_M_get_70 : bh_tb T_M_get 70 = bo_callV 73 2 0 0 40 F_M_raise := rfl
theorem l_M_get_73 : bh_tb T_M_get 73 = bo_iret 0 := rfl
theorem l_M_get_74 : bh_tb T_M_get 74 = bo_ald 75 0 := rfl
theorem l_M_get_75 : bh_tb T_M_get 75 = bo_gR 78 40 33 69 := rfl
theorem l_M_get_78 : bh_tb T_M_get 78 = bo_st 80 (bg_push (.inl (.int 8))) := rfl
theorem l_M_get_80 : bh_tb T_M_get 80 = bo_ild 81 3 := rfl
theorem l_M_get_81 : bh_tb T_M_get 81 = bo_st 82 (bg_ii (fun x y => x * y)) := rfl
theorem l_M_get_82 : bh_tb T_M_get 82 = bo_ild 83 1 := rfl
theorem l_M_get_83 : bh_tb T_M_get 83 = bo_st 84 (bg_ii (fun x y => x + y)) := rfl
theorem l_M_get_84 : bh_tb T_M_get 84 = bo_st 85 bg_dup2 := rfl
theorem l_M_get_85 : bh_tb T_M_get 85 = bo_Iald bh_ak bh_al 86 := rfl
theorem l_M_get_86 : bh_tb T_M_get 86 = bo_st 87 (bg_push (.inl (.int 1))) := rfl
theorem l_M_get_87 : bh_tb T_M_get 87 = bo_st 88 (bg_ii (fun x y => x + y)) := rfl
theorem l_M_get_88 : bh_tb T_M_get 88 = bo_Iast bh_ak bh_al 89 := rfl
theorem l_M_get_89 : bh_tb T_M_get 89 = bo_ald 90 0 := rfl
theorem l_M_get_90 : bh_tb T_M_get 90 = bo_gR 93 40 29 65 := rfl
theorem l_M_get_93 : bh_tb T_M_get 93 = bo_ild 94 3 := rfl
theorem l_M_get_94 : bh_tb T_M_get 94 = bo_Iald bh_ak bh_al 95 := rfl
theorem l_M_get_95 : bh_tb T_M_get 95 = bo_iret 0 := rfl
theorem l_M_placeOf_0 : bh_tb T_M_placeOf 0 = bo_st 1 (bg_push (.inl (.int 0))) := rfl
theorem l_M_placeOf_1 : bh_tb T_M_placeOf 1 = bo_ist 2 2 := rfl
theorem l_M_placeOf_2 : bh_tb T_M_placeOf 2 = bo_ild 3 2 := rfl
theorem l_M_placeOf_3 : bh_tb T_M_placeOf 3 = bo_ald 4 0 := rfl
theorem l_M_placeOf_4 : bh_tb T_M_placeOf 4 = bo_gI 7 40 34 := rfl
theorem l_M_placeOf_7 : bh_tb T_M_placeOf 7 = bo_if2 10 28 (fun x y => y ≤ x) := rfl
theorem l_M_placeOf_10 : bh_tb T_M_placeOf 10 = bo_ald 11 0 := rfl
theorem l_M_placeOf_11 : bh_tb T_M_placeOf 11 = bo_gR 14 40 29 65 := rfl
theorem l_M_placeOf_14 : bh_tb T_M_placeOf 14 = bo_ild 15 2 := rfl
theorem l_M_placeOf_15 : bh_tb T_M_placeOf 15 = bo_Iald bh_ak bh_al 16 := rfl
theorem l_M_placeOf_16 : bh_tb T_M_placeOf 16 = bo_ild 17 1 := rfl
theorem l_M_placeOf_17 : bh_tb T_M_placeOf 17 = bo_if2 20 22 (fun x y => ¬ x = y) := rfl
theorem l_M_placeOf_20 : bh_tb T_M_placeOf 20 = bo_ild 21 2 := rfl
theorem l_M_placeOf_21 : bh_tb T_M_placeOf 21 = bo_iret 0 := rfl
theorem l_M_placeOf_22 : bh_tb T_M_placeOf 22 = bo_inc 25 2 1 := rfl
theorem l_M_placeOf_25 : bh_tb T_M_placeOf 25 = bo_go 2 := rfl
theorem l_M_placeOf_28 : bh_tb T_M_placeOf 28 = bo_st 29 (bg_push (.inl (.int (-1)))) := rfl
theorem l_M_placeOf_29 : bh_tb T_M_placeOf 29 = bo_iret 0 := rfl
theorem l_M_giveBack_0 : bh_tb T_M_giveBack 0 = bo_ald 1 0 := rfl
theorem l_M_giveBack_1 : bh_tb T_M_giveBack 1 = bo_st 2 (bg_push (.inl (.int 0))) := rfl
theorem l_M_giveBack_2 : bh_tb T_M_giveBack 2 = bo_pI 5 40 0 := rfl
theorem l_M_giveBack_5 : bh_tb T_M_giveBack 5 = bo_ild 6 1 := rfl
theorem l_M_giveBack_6 : bh_tb T_M_giveBack 6 = bo_callS 9 1 0 0 F_M_isBundle := rfl
theorem l_M_giveBack_9 : bh_tb T_M_giveBack 9 = bo_if1 12 16 (fun x => x = 0) := rfl
theorem l_M_giveBack_12 : bh_tb T_M_giveBack 12 = bo_ild 13 2 := rfl
theorem l_M_giveBack_13 : bh_tb T_M_giveBack 13 = bo_if1 16 22 (fun x => 0 ≤ x) := rfl
theorem l_M_giveBack_16 : bh_tb T_M_giveBack 16 = bo_ald 17 0 := rfl
theorem l_M_giveBack_17 : bh_tb T_M_giveBack 17 = bo_st 18 (bg_push (.inl (.int 1))) := rfl
theorem l_M_giveBack_18 : bh_tb T_M_giveBack 18 = bo_callV 21 2 0 0 40 F_M_raise := rfl
theorem l_M_giveBack_21 : bh_tb T_M_giveBack 21 = bo_iret 0 := rfl
theorem l_M_giveBack_22 : bh_tb T_M_giveBack 22 = bo_ald 23 0 := rfl
theorem l_M_giveBack_23 : bh_tb T_M_giveBack 23 = bo_gR 26 40 1 41 := rfl
theorem l_M_giveBack_26 : bh_tb T_M_giveBack 26 = bo_ild 27 1 := rfl
theorem l_M_giveBack_27 : bh_tb T_M_giveBack 27 = bo_Iald bh_ak bh_al 28 := rfl
theorem l_M_giveBack_28 : bh_tb T_M_giveBack 28 = bo_if1 31 37 (fun x => ¬ x = 0) := rfl
theorem l_M_giveBack_31 : bh_tb T_M_giveBack 31 = bo_ald 32 0 := rfl
theorem l_M_giveBack_32 : bh_tb T_M_giveBack 32 = bo_st 33 (bg_push (.inl (.int 2))) := rfl
theorem l_M_giveBack_33 : bh_tb T_M_giveBack 33 = bo_callV 36 2 0 0 40 F_M_raise := rfl
theorem l_M_giveBack_36 : bh_tb T_M_giveBack 36 = bo_iret 0 := rfl
theorem l_M_giveBack_37 : bh_tb T_M_giveBack 37 = bo_ald 38 0 := rfl
theorem l_M_giveBack_38 : bh_tb T_M_giveBack 38 = bo_ild 39 2 := rfl
theorem l_M_giveBack_39 : bh_tb T_M_giveBack 39 = bo_callV 42 2 0 0 40 F_M_placeOf := rfl
theorem l_M_giveBack_42 : bh_tb T_M_giveBack 42 = bo_ist 43 3 := rfl
theorem l_M_giveBack_43 : bh_tb T_M_giveBack 43 = bo_ild 44 3 := rfl
theorem l_M_giveBack_44 : bh_tb T_M_giveBack 44 = bo_if1 47 61 (fun x => x < 0) := rfl
theorem l_M_giveBack_47 : bh_tb T_M_giveBack 47 = bo_ald 48 0 := rfl
theorem l_M_giveBack_48 : bh_tb T_M_giveBack 48 = bo_gR 51 40 33 69 := rfl
theorem l_M_giveBack_51 : bh_tb T_M_giveBack 51 = bo_st 53 (bg_push (.inl (.int 8))) := rfl
theorem l_M_giveBack_53 : bh_tb T_M_giveBack 53 = bo_ild 54 3 := rfl
theorem l_M_giveBack_54 : bh_tb T_M_giveBack 54 = bo_st 55 (bg_ii (fun x y => x * y)) := rfl
theorem l_M_giveBack_55 : bh_tb T_M_giveBack 55 = bo_ild 56 1 := rfl
theorem l_M_giveBack_56 : bh_tb T_M_giveBack 56 = bo_st 57 (bg_ii (fun x y => x + y)) := rfl
theorem l_M_giveBack_57 : bh_tb T_M_giveBack 57 = bo_Iald bh_ak bh_al 58 := rfl
theorem l_M_giveBack_58 : bh_tb T_M_giveBack 58 = bo_if1 61 67 (fun x => ¬ x = 0) := rfl
theorem l_M_giveBack_61 : bh_tb T_M_giveBack 61 = bo_ald 62 0 := rfl
theorem l_M_giveBack_62 : bh_tb T_M_giveBack 62 = bo_st 63 (bg_push (.inl (.int 3))) := rfl
theorem l_M_giveBack_63 : bh_tb T_M_giveBack 63 = bo_callV 66 2 0 0 40 F_M_raise := rfl
theorem l_M_giveBack_66 : bh_tb T_M_giveBack 66 = bo_iret 0 := rfl
theorem l_M_giveBack_67 : bh_tb T_M_giveBack 67 = bo_ald 68 0 := rfl
theorem l_M_giveBack_68 : bh_tb T_M_giveBack 68 = bo_gR 71 40 33 69 := rfl
theorem l_M_giveBack_71 : bh_tb T_M_giveBack 71 = bo_st 73 (bg_push (.inl (.int 8))) := rfl
theorem l_M_giveBack_73 : bh_tb T_M_giveBack 73 = bo_ild 74 3 := rfl
theorem l_M_giveBack_74 : bh_tb T_M_giveBack 74 = bo_st 75 (bg_ii (fun x y => x * y)) := rfl
theorem l_M_giveBack_75 : bh_tb T_M_giveBack 75 = bo_ild 76 1 := rfl
theorem l_M_giveBack_76 : bh_tb T_M_giveBack 76 = bo_st 77 (bg_ii (fun x y => x + y)) := rfl
theorem l_M_giveBack_77 : bh_tb T_M_giveBack 77 = bo_st 78 bg_dup2 := rfl
theorem l_M_giveBack_78 : bh_tb T_M_giveBack 78 = bo_Iald bh_ak bh_al 79 := rfl
theorem l_M_giveBack_79 : bh_tb T_M_giveBack 79 = bo_st 80 (bg_push (.inl (.int 1))) := rfl
theorem l_M_giveBack_80 : bh_tb T_M_giveBack 80 = bo_st 81 (bg_ii (fun x y => x - y)) := rfl
theorem l_M_giveBack_81 : bh_tb T_M_giveBack 81 = bo_Iast bh_ak bh_al 82 := rfl
theorem l_M_giveBack_82 : bh_tb T_M_giveBack 82 = bo_ald 83 0 := rfl
theorem l_M_giveBack_83 : bh_tb T_M_giveBack 83 = bo_gR 86 40 33 69 := rfl
theorem l_M_giveBack_86 : bh_tb T_M_giveBack 86 = bo_st 88 (bg_push (.inl (.int 8))) := rfl
theorem l_M_giveBack_88 : bh_tb T_M_giveBack 88 = bo_ild 89 3 := rfl
theorem l_M_giveBack_89 : bh_tb T_M_giveBack 89 = bo_st 90 (bg_ii (fun x y => x * y)) := rfl
theorem l_M_giveBack_90 : bh_tb T_M_giveBack 90 = bo_ild 91 1 := rfl
theorem l_M_giveBack_91 : bh_tb T_M_giveBack 91 = bo_st 92 (bg_ii (fun x y => x + y)) := rfl
theorem l_M_giveBack_92 : bh_tb T_M_giveBack 92 = bo_Iald bh_ak bh_al 93 := rfl
theorem l_M_giveBack_93 : bh_tb T_M_giveBack 93 = bo_iret 0 := rfl
theorem l_M_unregister_0 : bh_tb T_M_unregister 0 = bo_ald 1 0 := rfl
theorem l_M_unregister_1 : bh_tb T_M_unregister 1 = bo_st 2 (bg_push (.inl (.int 0))) := rfl
theorem l_M_unregister_2 : bh_tb T_M_unregister 2 = bo_pI 5 40 0 := rfl
theorem l_M_unregister_5 : bh_tb T_M_unregister 5 = bo_ild 6 1 := rfl
theorem l_M_unregister_6 : bh_tb T_M_unregister 6 = bo_callS 9 1 0 0 F_M_isBundle := rfl
theorem l_M_unregister_9 : bh_tb T_M_unregister 9 = bo_if1 12 16 (fun x => x = 0) := rfl
theorem l_M_unregister_12 : bh_tb T_M_unregister 12 = bo_ild 13 2 := rfl
theorem l_M_unregister_13 : bh_tb T_M_unregister 13 = bo_if1 16 22 (fun x => 0 ≤ x) := rfl
theorem l_M_unregister_16 : bh_tb T_M_unregister 16 = bo_ald 17 0 := rfl
theorem l_M_unregister_17 : bh_tb T_M_unregister 17 = bo_st 18 (bg_push (.inl (.int 1))) := rfl
theorem l_M_unregister_18 : bh_tb T_M_unregister 18 = bo_callV 21 2 0 0 40 F_M_raise := rfl
theorem l_M_unregister_21 : bh_tb T_M_unregister 21 = bo_iret 0 := rfl
theorem l_M_unregister_22 : bh_tb T_M_unregister 22 = bo_ald 23 0 := rfl
theorem l_M_unregister_23 : bh_tb T_M_unregister 23 = bo_gR 26 40 1 41 := rfl
theorem l_M_unregister_26 : bh_tb T_M_unregister 26 = bo_ild 27 1 := rfl
theorem l_M_unregister_27 : bh_tb T_M_unregister 27 = bo_Iald bh_ak bh_al 28 := rfl
theorem l_M_unregister_28 : bh_tb T_M_unregister 28 = bo_if1 31 37 (fun x => ¬ x = 0) := rfl
theorem l_M_unregister_31 : bh_tb T_M_unregister 31 = bo_ald 32 0 := rfl
theorem l_M_unregister_32 : bh_tb T_M_unregister 32 = bo_st 33 (bg_push (.inl (.int 2))) := rfl
theorem l_M_unregister_33 : bh_tb T_M_unregister 33 = bo_callV 36 2 0 0 40 F_M_raise := rfl
theorem l_M_unregister_36 : bh_tb T_M_unregister 36 = bo_iret 0 := rfl
theorem l_M_unregister_37 : bh_tb T_M_unregister 37 = bo_ald 38 0 := rfl
theorem l_M_unregister_38 : bh_tb T_M_unregister 38 = bo_ild 39 2 := rfl
theorem l_M_unregister_39 : bh_tb T_M_unregister 39 = bo_callV 42 2 0 0 40 F_M_placeOf := rfl
theorem l_M_unregister_42 : bh_tb T_M_unregister 42 = bo_ist 43 3 := rfl
theorem l_M_unregister_43 : bh_tb T_M_unregister 43 = bo_ild 44 3 := rfl
theorem l_M_unregister_44 : bh_tb T_M_unregister 44 = bo_if1 47 57 (fun x => x < 0) := rfl
theorem l_M_unregister_47 : bh_tb T_M_unregister 47 = bo_ald 48 0 := rfl
theorem l_M_unregister_48 : bh_tb T_M_unregister 48 = bo_gR 51 40 30 66 := rfl
theorem l_M_unregister_51 : bh_tb T_M_unregister 51 = bo_ild 52 3 := rfl
theorem l_M_unregister_52 : bh_tb T_M_unregister 52 = bo_Iald bh_ak bh_al 53 := rfl
theorem l_M_unregister_53 : bh_tb T_M_unregister 53 = bo_ild 54 1 := rfl
theorem l_M_unregister_54 : bh_tb T_M_unregister 54 = bo_if2 57 63 (fun x y => x = y) := rfl
theorem l_M_unregister_57 : bh_tb T_M_unregister 57 = bo_ald 58 0 := rfl
theorem l_M_unregister_58 : bh_tb T_M_unregister 58 = bo_st 59 (bg_push (.inl (.int 3))) := rfl
theorem l_M_unregister_59 : bh_tb T_M_unregister 59 = bo_callV 62 2 0 0 40 F_M_raise := rfl
theorem l_M_unregister_62 : bh_tb T_M_unregister 62 = bo_iret 0 := rfl
theorem l_M_unregister_63 : bh_tb T_M_unregister 63 = bo_st 64 (bg_push (.inl (.int 0))) := rfl
theorem l_M_unregister_64 : bh_tb T_M_unregister 64 = bo_ist 66 4 := rfl
theorem l_M_unregister_66 : bh_tb T_M_unregister 66 = bo_st 67 (bg_push (.inl (.int 0))) := rfl
theorem l_M_unregister_67 : bh_tb T_M_unregister 67 = bo_ist 69 5 := rfl
theorem l_M_unregister_69 : bh_tb T_M_unregister 69 = bo_ild 71 5 := rfl
theorem l_M_unregister_71 : bh_tb T_M_unregister 71 = bo_st 73 (bg_push (.inl (.int 8))) := rfl
theorem l_M_unregister_73 : bh_tb T_M_unregister 73 = bo_if2 76 99 (fun x y => y ≤ x) := rfl
theorem l_M_unregister_76 : bh_tb T_M_unregister 76 = bo_ild 78 4 := rfl
theorem l_M_unregister_78 : bh_tb T_M_unregister 78 = bo_ald 79 0 := rfl
theorem l_M_unregister_79 : bh_tb T_M_unregister 79 = bo_gR 82 40 33 69 := rfl
theorem l_M_unregister_82 : bh_tb T_M_unregister 82 = bo_st 84 (bg_push (.inl (.int 8))) := rfl
theorem l_M_unregister_84 : bh_tb T_M_unregister 84 = bo_ild 85 3 := rfl
theorem l_M_unregister_85 : bh_tb T_M_unregister 85 = bo_st 86 (bg_ii (fun x y => x * y)) := rfl
theorem l_M_unregister_86 : bh_tb T_M_unregister 86 = bo_ild 88 5 := rfl
theorem l_M_unregister_88 : bh_tb T_M_unregister 88 = bo_st 89 (bg_ii (fun x y => x + y)) := rfl
theorem l_M_unregister_89 : bh_tb T_M_unregister 89 = bo_Iald bh_ak bh_al 90 := rfl
theorem l_M_unregister_90 : bh_tb T_M_unregister 90 = bo_st 91 (bg_ii (fun x y => x + y)) := rfl
theorem l_M_unregister_91 : bh_tb T_M_unregister 91 = bo_ist 93 4 := rfl
theorem l_M_unregister_93 : bh_tb T_M_unregister 93 = bo_inc 96 5 1 := rfl
theorem l_M_unregister_96 : bh_tb T_M_unregister 96 = bo_go 69 := rfl
theorem l_M_unregister_99 : bh_tb T_M_unregister 99 = bo_ald 100 0 := rfl
theorem l_M_unregister_100 : bh_tb T_M_unregister 100 = bo_ild 101 3 := rfl
theorem l_M_unregister_101 : bh_tb T_M_unregister 101 = bo_callV 104 2 0 0 40 F_M_drop := rfl
theorem l_M_unregister_104 : bh_tb T_M_unregister 104 = bo_ild 106 4 := rfl
theorem l_M_unregister_106 : bh_tb T_M_unregister 106 = bo_iret 0 := rfl
theorem l_M_rank_0 : bh_tb T_M_rank 0 = bo_ald 1 0 := rfl
theorem l_M_rank_1 : bh_tb T_M_rank 1 = bo_st 2 (bg_push (.inl (.int 0))) := rfl
theorem l_M_rank_2 : bh_tb T_M_rank 2 = bo_pI 5 40 0 := rfl
theorem l_M_rank_5 : bh_tb T_M_rank 5 = bo_ild 6 1 := rfl
theorem l_M_rank_6 : bh_tb T_M_rank 6 = bo_st 7 (bg_push (.inl (.int 0))) := rfl
theorem l_M_rank_7 : bh_tb T_M_rank 7 = bo_st 8 (bg_push (.inl (.int 3))) := rfl
theorem l_M_rank_8 : bh_tb T_M_rank 8 = bo_callS 11 3 0 0 F_M_in := rfl
theorem l_M_rank_11 : bh_tb T_M_rank 11 = bo_if1 14 21 (fun x => ¬ x = 0) := rfl
theorem l_M_rank_14 : bh_tb T_M_rank 14 = bo_ald 15 0 := rfl
theorem l_M_rank_15 : bh_tb T_M_rank 15 = bo_st 16 (bg_push (.inl (.int 1))) := rfl
theorem l_M_rank_16 : bh_tb T_M_rank 16 = bo_callV 19 2 0 0 40 F_M_raise := rfl
theorem l_M_rank_19 : bh_tb T_M_rank 19 = bo_st 20 (bg_i1 (fun x => .inl (.double (FP.i2d x)))) := rfl
theorem l_M_rank_20 : bh_tb T_M_rank 20 = bo_dret 0 := rfl
theorem l_M_rank_21 : bh_tb T_M_rank 21 = bo_st 22 (bg_push (.inl (.double FP.dconst0))) := rfl
theorem l_M_rank_22 : bh_tb T_M_rank 22 = bo_dst 23 2 := rfl
theorem l_M_rank_23 : bh_tb T_M_rank 23 = bo_st 24 (bg_push (.inl (.int 0))) := rfl
theorem l_M_rank_24 : bh_tb T_M_rank 24 = bo_ist 26 4 := rfl
theorem l_M_rank_26 : bh_tb T_M_rank 26 = bo_st 27 (bg_push (.inl (.int 0))) := rfl
theorem l_M_rank_27 : bh_tb T_M_rank 27 = bo_ist 29 5 := rfl
theorem l_M_rank_29 : bh_tb T_M_rank 29 = bo_ild 31 5 := rfl
theorem l_M_rank_31 : bh_tb T_M_rank 31 = bo_ald 32 0 := rfl
theorem l_M_rank_32 : bh_tb T_M_rank 32 = bo_gI 35 40 34 := rfl
theorem l_M_rank_35 : bh_tb T_M_rank 35 = bo_if2 38 71 (fun x y => y ≤ x) := rfl
theorem l_M_rank_38 : bh_tb T_M_rank 38 = bo_ald 39 0 := rfl
theorem l_M_rank_39 : bh_tb T_M_rank 39 = bo_gR 42 40 31 67 := rfl
theorem l_M_rank_42 : bh_tb T_M_rank 42 = bo_ild 44 5 := rfl
theorem l_M_rank_44 : bh_tb T_M_rank 44 = bo_Iald bh_ak bh_al 45 := rfl
theorem l_M_rank_45 : bh_tb T_M_rank 45 = bo_ild 46 1 := rfl
theorem l_M_rank_46 : bh_tb T_M_rank 46 = bo_if2 49 52 (fun x y => x = y) := rfl
theorem l_M_rank_49 : bh_tb T_M_rank 49 = bo_go 65 := rfl
theorem l_M_rank_52 : bh_tb T_M_rank 52 = bo_dld 53 2 := rfl
theorem l_M_rank_53 : bh_tb T_M_rank 53 = bo_ald 54 0 := rfl
theorem l_M_rank_54 : bh_tb T_M_rank 54 = bo_gR 57 40 32 68 := rfl
theorem l_M_rank_57 : bh_tb T_M_rank 57 = bo_ild 59 5 := rfl
theorem l_M_rank_59 : bh_tb T_M_rank 59 = bo_Dald bh_ak bh_al 60 := rfl
theorem l_M_rank_60 : bh_tb T_M_rank 60 = bo_st 61 (bg_dd FP.dadd) := rfl
theorem l_M_rank_61 : bh_tb T_M_rank 61 = bo_dst 62 2 := rfl
theorem l_M_rank_62 : bh_tb T_M_rank 62 = bo_inc 65 4 1 := rfl
theorem l_M_rank_65 : bh_tb T_M_rank 65 = bo_inc 68 5 1 := rfl
theorem l_M_rank_68 : bh_tb T_M_rank 68 = bo_go 29 := rfl
theorem l_M_rank_71 : bh_tb T_M_rank 71 = bo_ild 73 4 := rfl
theorem l_M_rank_73 : bh_tb T_M_rank 73 = bo_if1 76 85 (fun x => ¬ x = 0) := rfl
theorem l_M_rank_76 : bh_tb T_M_rank 76 = bo_ald 77 0 := rfl
theorem l_M_rank_77 : bh_tb T_M_rank 77 = bo_st 78 (bg_push (.inl (.int 2))) := rfl
theorem l_M_rank_78 : bh_tb T_M_rank 78 = bo_callV 81 2 0 0 40 F_M_raise := rfl
theorem l_M_rank_81 : bh_tb T_M_rank 81 = bo_st 82 (bg_i1 (fun x => .inl (.double (FP.i2d x)))) := rfl
theorem l_M_rank_82 : bh_tb T_M_rank 82 = bo_go 90 := rfl
theorem l_M_rank_85 : bh_tb T_M_rank 85 = bo_dld 86 2 := rfl
theorem l_M_rank_86 : bh_tb T_M_rank 86 = bo_ild 88 4 := rfl
theorem l_M_rank_88 : bh_tb T_M_rank 88 = bo_st 89 (bg_i1 (fun x => .inl (.double (FP.i2d x)))) := rfl
theorem l_M_rank_89 : bh_tb T_M_rank 89 = bo_st 90 (bg_dd FP.ddiv) := rfl
theorem l_M_rank_90 : bh_tb T_M_rank 90 = bo_dret 0 := rfl
theorem l_M_event_0 : bh_tb T_M_event 0 = bo_ald 1 0 := rfl
theorem l_M_event_1 : bh_tb T_M_event 1 = bo_st 2 (bg_push (.inl (.int 0))) := rfl
theorem l_M_event_2 : bh_tb T_M_event 2 = bo_pI 5 40 0 := rfl
theorem l_M_event_5 : bh_tb T_M_event 5 = bo_ald 6 0 := rfl
theorem l_M_event_6 : bh_tb T_M_event 6 = bo_gI 9 40 37 := rfl
theorem l_M_event_9 : bh_tb T_M_event 9 = bo_if1 12 18 (fun x => ¬ x = 0) := rfl
theorem l_M_event_12 : bh_tb T_M_event 12 = bo_ald 13 0 := rfl
theorem l_M_event_13 : bh_tb T_M_event 13 = bo_st 14 (bg_push (.inl (.int 1))) := rfl
theorem l_M_event_14 : bh_tb T_M_event 14 = bo_callV 17 2 0 0 40 F_M_raise := rfl
theorem l_M_event_17 : bh_tb T_M_event 17 = bo_iret 0 := rfl
theorem l_M_event_18 : bh_tb T_M_event 18 = bo_ald 19 0 := rfl
theorem l_M_event_19 : bh_tb T_M_event 19 = bo_gR 22 40 36 70 := rfl
theorem l_M_event_22 : bh_tb T_M_event 22 = bo_st 23 (bg_push (.inl (.int 0))) := rfl
theorem l_M_event_23 : bh_tb T_M_event 23 = bo_Iald bh_ak bh_al 24 := rfl
theorem l_M_event_24 : bh_tb T_M_event 24 = bo_ist 25 1 := rfl
theorem l_M_event_25 : bh_tb T_M_event 25 = bo_ald 26 0 := rfl
theorem l_M_event_26 : bh_tb T_M_event 26 = bo_st 27 bg_dup := rfl
theorem l_M_event_27 : bh_tb T_M_event 27 = bo_gI 30 40 37 := rfl
theorem l_M_event_30 : bh_tb T_M_event 30 = bo_st 31 (bg_push (.inl (.int 1))) := rfl
theorem l_M_event_31 : bh_tb T_M_event 31 = bo_st 32 (bg_ii (fun x y => x - y)) := rfl
theorem l_M_event_32 : bh_tb T_M_event 32 = bo_pI 35 40 37 := rfl
theorem l_M_event_35 : bh_tb T_M_event 35 = bo_st 36 (bg_push (.inl (.int 0))) := rfl
theorem l_M_event_36 : bh_tb T_M_event 36 = bo_ist 37 2 := rfl
theorem l_M_event_37 : bh_tb T_M_event 37 = bo_ild 38 2 := rfl
theorem l_M_event_38 : bh_tb T_M_event 38 = bo_ald 39 0 := rfl
theorem l_M_event_39 : bh_tb T_M_event 39 = bo_gI 42 40 37 := rfl
theorem l_M_event_42 : bh_tb T_M_event 42 = bo_if2 45 65 (fun x y => y ≤ x) := rfl
theorem l_M_event_45 : bh_tb T_M_event 45 = bo_ald 46 0 := rfl
theorem l_M_event_46 : bh_tb T_M_event 46 = bo_gR 49 40 36 70 := rfl
theorem l_M_event_49 : bh_tb T_M_event 49 = bo_ild 50 2 := rfl
theorem l_M_event_50 : bh_tb T_M_event 50 = bo_ald 51 0 := rfl
theorem l_M_event_51 : bh_tb T_M_event 51 = bo_gR 54 40 36 70 := rfl
theorem l_M_event_54 : bh_tb T_M_event 54 = bo_ild 55 2 := rfl
theorem l_M_event_55 : bh_tb T_M_event 55 = bo_st 56 (bg_push (.inl (.int 1))) := rfl
theorem l_M_event_56 : bh_tb T_M_event 56 = bo_st 57 (bg_ii (fun x y => x + y)) := rfl
theorem l_M_event_57 : bh_tb T_M_event 57 = bo_Iald bh_ak bh_al 58 := rfl
theorem l_M_event_58 : bh_tb T_M_event 58 = bo_Iast bh_ak bh_al 59 := rfl
theorem l_M_event_59 : bh_tb T_M_event 59 = bo_inc 62 2 1 := rfl
theorem l_M_event_62 : bh_tb T_M_event 62 = bo_go 37 := rfl
theorem l_M_event_65 : bh_tb T_M_event 65 = bo_ild 66 1 := rfl
theorem l_M_event_66 : bh_tb T_M_event 66 = bo_iret 0 := rfl
theorem l_M_about_0 : bh_tb T_M_about 0 = bo_ald 1 0 := rfl
theorem l_M_about_1 : bh_tb T_M_about 1 = bo_st 2 (bg_push (.inl (.int 0))) := rfl
theorem l_M_about_2 : bh_tb T_M_about 2 = bo_pI 5 40 0 := rfl
theorem l_M_about_5 : bh_tb T_M_about 5 = bo_ild 6 1 := rfl
theorem l_M_about_6 : bh_tb T_M_about 6 = bo_callS 9 1 0 0 F_M_isBundle := rfl
theorem l_M_about_9 : bh_tb T_M_about 9 = bo_if1 12 22 (fun x => x = 0) := rfl
theorem l_M_about_12 : bh_tb T_M_about 12 = bo_ild 13 2 := rfl
theorem l_M_about_13 : bh_tb T_M_about 13 = bo_st 14 (bg_push (.inl (.int 0))) := rfl
theorem l_M_about_14 : bh_tb T_M_about 14 = bo_st 16 (bg_push (.inl (.int 7))) := rfl
theorem l_M_about_16 : bh_tb T_M_about 16 = bo_callS 19 3 0 0 F_M_in := rfl
theorem l_M_about_19 : bh_tb T_M_about 19 = bo_if1 22 28 (fun x => ¬ x = 0) := rfl
theorem l_M_about_22 : bh_tb T_M_about 22 = bo_ald 23 0 := rfl
theorem l_M_about_23 : bh_tb T_M_about 23 = bo_st 24 (bg_push (.inl (.int 1))) := rfl
theorem l_M_about_24 : bh_tb T_M_about 24 = bo_callV 27 2 0 0 40 F_M_raise := rfl
theorem l_M_about_27 : bh_tb T_M_about 27 = bo_iret 0 := rfl
theorem l_M_about_28 : bh_tb T_M_about 28 = bo_ild 29 2 := rfl
theorem l_M_about_29 : bh_tb T_M_about 29 = bo_st 30 (bg_push (.inl (.int 4))) := rfl
theorem l_M_about_30 : bh_tb T_M_about 30 = bo_if2 33 82 (fun x y => x ≤ y) := rfl
theorem l_M_about_33 : bh_tb T_M_about 33 = bo_ald 34 0 := rfl
theorem l_M_about_34 : bh_tb T_M_about 34 = bo_gR 37 40 17 57 := rfl
theorem l_M_about_37 : bh_tb T_M_about 37 = bo_st 38 (bg_push (.inl (.int 3))) := rfl
theorem l_M_about_38 : bh_tb T_M_about 38 = bo_ild 39 1 := rfl
theorem l_M_about_39 : bh_tb T_M_about 39 = bo_st 40 (bg_ii (fun x y => x * y)) := rfl
theorem l_M_about_40 : bh_tb T_M_about 40 = bo_ild 41 2 := rfl
theorem l_M_about_41 : bh_tb T_M_about 41 = bo_st 42 (bg_ii (fun x y => x + y)) := rfl
theorem l_M_about_42 : bh_tb T_M_about 42 = bo_st 43 (bg_push (.inl (.int 5))) := rfl
theorem l_M_about_43 : bh_tb T_M_about 43 = bo_st 44 (bg_ii (fun x y => x - y)) := rfl
theorem l_M_about_44 : bh_tb T_M_about 44 = bo_Jald bh_ak bh_al 45 := rfl
theorem l_M_about_45 : bh_tb T_M_about 45 = bo_lst 46 3 := rfl
theorem l_M_about_46 : bh_tb T_M_about 46 = bo_lld 47 3 := rfl
theorem l_M_about_47 : bh_tb T_M_about 47 = bo_st 48 (bg_push (.inl (.long 0))) := rfl
theorem l_M_about_48 : bh_tb T_M_about 48 = bo_st 49 (bg_lc lg_cmp) := rfl
theorem l_M_about_49 : bh_tb T_M_about 49 = bo_if1 52 56 (fun x => 0 ≤ x) := rfl
theorem l_M_about_52 : bh_tb T_M_about 52 = bo_st 53 (bg_push (.inl (.int (-1)))) := rfl
theorem l_M_about_53 : bh_tb T_M_about 53 = bo_go 81 := rfl
theorem l_M_about_56 : bh_tb T_M_about 56 = bo_lld 57 3 := rfl
theorem l_M_about_57 : bh_tb T_M_about 57 = bo_st 60 (bg_push (.inl (.long 8))) := rfl
theorem l_M_about_60 : bh_tb T_M_about 60 = bo_st 61 (bg_lv (fun x y => x / y)) := rfl
theorem l_M_about_61 : bh_tb T_M_about 61 = bo_st 64 (bg_push (.inl (.long 8))) := rfl
theorem l_M_about_64 : bh_tb T_M_about 64 = bo_st 65 (bg_lv (fun x y => x - x / y * y)) := rfl
theorem l_M_about_65 : bh_tb T_M_about 65 = bo_st 66 (bg_l1 (fun x => .inl (.int x.toInt32))) := rfl
theorem l_M_about_66 : bh_tb T_M_about 66 = bo_ald 67 0 := rfl
theorem l_M_about_67 : bh_tb T_M_about 67 = bo_lld 68 3 := rfl
theorem l_M_about_68 : bh_tb T_M_about 68 = bo_callV 71 2 0 0 40 F_M_old := rfl
theorem l_M_about_71 : bh_tb T_M_about 71 = bo_if1 74 79 (fun x => x = 0) := rfl
theorem l_M_about_74 : bh_tb T_M_about 74 = bo_st 76 (bg_push (.inl (.int 100))) := rfl
theorem l_M_about_76 : bh_tb T_M_about 76 = bo_go 80 := rfl
theorem l_M_about_79 : bh_tb T_M_about 79 = bo_st 80 (bg_push (.inl (.int 0))) := rfl
theorem l_M_about_80 : bh_tb T_M_about 80 = bo_st 81 (bg_ii (fun x y => x + y)) := rfl
theorem l_M_about_81 : bh_tb T_M_about 81 = bo_iret 0 := rfl
theorem l_M_about_82 : bh_tb T_M_about 82 = bo_ald 83 0 := rfl
theorem l_M_about_83 : bh_tb T_M_about 83 = bo_gR 86 40 1 41 := rfl
theorem l_M_about_86 : bh_tb T_M_about 86 = bo_ild 87 1 := rfl
theorem l_M_about_87 : bh_tb T_M_about 87 = bo_Iald bh_ak bh_al 88 := rfl
theorem l_M_about_88 : bh_tb T_M_about 88 = bo_if1 91 93 (fun x => ¬ x = 0) := rfl
theorem l_M_about_91 : bh_tb T_M_about 91 = bo_st 92 (bg_push (.inl (.int 0))) := rfl
theorem l_M_about_92 : bh_tb T_M_about 92 = bo_iret 0 := rfl
theorem l_M_about_93 : bh_tb T_M_about 93 = bo_ild 94 2 := rfl
theorem l_M_about_94 : bh_tb T_M_about 94 = bo_sw [(0, 124), (1, 131), (2, 146), (3, 152)] 159 := rfl
theorem l_M_about_124 : bh_tb T_M_about 124 = bo_ald 125 0 := rfl
theorem l_M_about_125 : bh_tb T_M_about 125 = bo_gR 128 40 1 41 := rfl
theorem l_M_about_128 : bh_tb T_M_about 128 = bo_ild 129 1 := rfl
theorem l_M_about_129 : bh_tb T_M_about 129 = bo_Iald bh_ak bh_al 130 := rfl
theorem l_M_about_130 : bh_tb T_M_about 130 = bo_iret 0 := rfl
theorem l_M_about_131 : bh_tb T_M_about 131 = bo_ald 132 0 := rfl
theorem l_M_about_132 : bh_tb T_M_about 132 = bo_gR 135 40 5 45 := rfl
theorem l_M_about_135 : bh_tb T_M_about 135 = bo_ild 136 1 := rfl
theorem l_M_about_136 : bh_tb T_M_about 136 = bo_Zald bh_ak bh_al 137 := rfl
theorem l_M_about_137 : bh_tb T_M_about 137 = bo_if1 140 144 (fun x => x = 0) := rfl
theorem l_M_about_140 : bh_tb T_M_about 140 = bo_st 141 (bg_push (.inl (.int 1))) := rfl
theorem l_M_about_141 : bh_tb T_M_about 141 = bo_go 145 := rfl
theorem l_M_about_144 : bh_tb T_M_about 144 = bo_st 145 (bg_push (.inl (.int 0))) := rfl
theorem l_M_about_145 : bh_tb T_M_about 145 = bo_iret 0 := rfl
theorem l_M_about_146 : bh_tb T_M_about 146 = bo_ald 147 0 := rfl
theorem l_M_about_147 : bh_tb T_M_about 147 = bo_ild 148 1 := rfl
theorem l_M_about_148 : bh_tb T_M_about 148 = bo_callV 151 2 0 0 40 F_M_servicesOf := rfl
theorem l_M_about_151 : bh_tb T_M_about 151 = bo_iret 0 := rfl
theorem l_M_about_152 : bh_tb T_M_about 152 = bo_ald 153 0 := rfl
theorem l_M_about_153 : bh_tb T_M_about 153 = bo_gR 156 40 8 48 := rfl
theorem l_M_about_156 : bh_tb T_M_about 156 = bo_ild 157 1 := rfl
theorem l_M_about_157 : bh_tb T_M_about 157 = bo_Iald bh_ak bh_al 158 := rfl
theorem l_M_about_158 : bh_tb T_M_about 158 = bo_iret 0 := rfl
theorem l_M_about_159 : bh_tb T_M_about 159 = bo_ald 160 0 := rfl
theorem l_M_about_160 : bh_tb T_M_about 160 = bo_gR 163 40 12 52 := rfl
theorem l_M_about_163 : bh_tb T_M_about 163 = bo_ild 164 1 := rfl
theorem l_M_about_164 : bh_tb T_M_about 164 = bo_Iald bh_ak bh_al 165 := rfl
theorem l_M_about_165 : bh_tb T_M_about 165 = bo_iret 0 := rfl
theorem l_M_count_0 : bh_tb T_M_count 0 = bo_ald 1 0 := rfl
theorem l_M_count_1 : bh_tb T_M_count 1 = bo_st 2 (bg_push (.inl (.int 0))) := rfl
theorem l_M_count_2 : bh_tb T_M_count 2 = bo_pI 5 40 0 := rfl
theorem l_M_count_5 : bh_tb T_M_count 5 = bo_ild 6 1 := rfl
theorem l_M_count_6 : bh_tb T_M_count 6 = bo_sw [(0, 44), (1, 49), (2, 54), (3, 59), (4, 64), (5, 69)] 74 := rfl
theorem l_M_count_44 : bh_tb T_M_count 44 = bo_ald 45 0 := rfl
theorem l_M_count_45 : bh_tb T_M_count 45 = bo_gI 48 40 39 := rfl
theorem l_M_count_48 : bh_tb T_M_count 48 = bo_iret 0 := rfl
theorem l_M_count_49 : bh_tb T_M_count 49 = bo_ald 50 0 := rfl
theorem l_M_count_50 : bh_tb T_M_count 50 = bo_gI 53 40 34 := rfl
theorem l_M_count_53 : bh_tb T_M_count 53 = bo_iret 0 := rfl
theorem l_M_count_54 : bh_tb T_M_count 54 = bo_ald 55 0 := rfl
theorem l_M_count_55 : bh_tb T_M_count 55 = bo_gI 58 40 37 := rfl
theorem l_M_count_58 : bh_tb T_M_count 58 = bo_iret 0 := rfl
theorem l_M_count_59 : bh_tb T_M_count 59 = bo_ald 60 0 := rfl
theorem l_M_count_60 : bh_tb T_M_count 60 = bo_gI 63 40 38 := rfl
theorem l_M_count_63 : bh_tb T_M_count 63 = bo_iret 0 := rfl
theorem l_M_count_64 : bh_tb T_M_count 64 = bo_ald 65 0 := rfl
theorem l_M_count_65 : bh_tb T_M_count 65 = bo_gI 68 40 27 := rfl
theorem l_M_count_68 : bh_tb T_M_count 68 = bo_iret 0 := rfl
theorem l_M_count_69 : bh_tb T_M_count 69 = bo_ald 70 0 := rfl
theorem l_M_count_70 : bh_tb T_M_count 70 = bo_gI 73 40 28 := rfl
theorem l_M_count_73 : bh_tb T_M_count 73 = bo_iret 0 := rfl
theorem l_M_count_74 : bh_tb T_M_count 74 = bo_ald 75 0 := rfl
theorem l_M_count_75 : bh_tb T_M_count 75 = bo_st 76 (bg_push (.inl (.int 1))) := rfl
theorem l_M_count_76 : bh_tb T_M_count 76 = bo_callV 79 2 0 0 40 F_M_raise := rfl
theorem l_M_count_79 : bh_tb T_M_count 79 = bo_iret 0 := rfl
