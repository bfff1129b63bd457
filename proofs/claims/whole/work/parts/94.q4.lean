set_option maxRecDepth 20000 in
theorem mT_L_law_0 {xs : Nat → Int32} {N : Nat} : ∀ q ∈ T_L_law_0 xs N, bh_mono q.2 := List.forall_mem_cons.mpr ⟨bo_new_m _ _ _, List.forall_mem_cons.mpr ⟨bo_st_mono bg_dup_m, List.forall_mem_cons.mpr ⟨bo_callA_m (mF_H_init) _ _ _ _ _, List.forall_mem_cons.mpr ⟨bo_ast_m _ _, List.forall_mem_cons.mpr ⟨bo_new_m _ _ _, List.forall_mem_cons.mpr ⟨bo_st_mono bg_dup_m, List.forall_mem_cons.mpr ⟨bo_callA_m (mF_M_init) _ _ _ _ _, List.forall_mem_cons.mpr ⟨bo_ast_m _ _, List.forall_mem_cons.mpr ⟨bo_st_mono (bg_push_m _), List.forall_mem_cons.mpr ⟨bo_newa_m _ _ _ _, List.forall_mem_cons.mpr ⟨bo_ast_m _ _, List.forall_mem_cons.mpr ⟨bo_st_mono (bg_push_m _), List.forall_mem_cons.mpr ⟨bo_newa_m _ _ _ _, List.forall_mem_cons.mpr ⟨bo_ast_m _ _, List.forall_mem_cons.mpr ⟨bo_st_mono (bg_push_m _), List.forall_mem_cons.mpr ⟨bo_ist_m _ _, List.forall_mem_cons.mpr ⟨bo_ild_m _ _, List.forall_mem_cons.mpr ⟨bo_ald_m _ _, List.forall_mem_cons.mpr ⟨bo_slen_m _ _, List.forall_mem_cons.mpr ⟨bo_st_mono (bg_push_m _), List.forall_mem_cons.mpr ⟨bo_st_mono (bg_ii_m _), List.forall_mem_cons.mpr ⟨bo_if2_m _ _ _, List.forall_mem_cons.mpr ⟨bo_ald_m _ _, List.forall_mem_cons.mpr ⟨bo_ild_m _ _, List.forall_mem_cons.mpr ⟨bo_sald_m _ _ _, List.forall_mem_cons.mpr ⟨bo_st_mono (bg_push_m _), List.forall_mem_cons.mpr ⟨bo_st_mono (bg_ii_m _), List.forall_mem_cons.mpr ⟨bo_sw_m _ _, List.forall_mem_cons.mpr ⟨bo_ald_m _ _, List.forall_mem_cons.mpr ⟨bo_ald_m _ _, List.forall_mem_cons.mpr ⟨bo_ild_m _ _, List.forall_mem_cons.mpr ⟨bo_st_mono (bg_push_m _), List.forall_mem_cons.mpr ⟨bo_st_mono (bg_ii_m _), List.forall_mem_cons.mpr ⟨bo_sald_m _ _ _, List.forall_mem_cons.mpr ⟨bo_ald_m _ _, List.forall_mem_cons.mpr ⟨bo_ild_m _ _, List.forall_mem_cons.mpr ⟨bo_st_mono (bg_push_m _), List.forall_mem_cons.mpr ⟨bo_st_mono (bg_ii_m _), List.forall_mem_cons.mpr ⟨bo_sald_m _ _ _, List.forall_mem_cons.mpr ⟨bo_ald_m _ _, fun _ h => absurd h List.not_mem_nil⟩⟩⟩⟩⟩⟩⟩⟩⟩⟩⟩⟩⟩⟩⟩⟩⟩⟩⟩⟩⟩⟩⟩⟩⟩⟩⟩⟩⟩⟩⟩⟩⟩⟩⟩⟩⟩⟩⟩⟩
set_option maxRecDepth 20000 in
theorem mT_L_law_1 {xs : Nat → Int32} {N : Nat} : ∀ q ∈ T_L_law_1 xs N, bh_mono q.2 := List.forall_mem_cons.mpr ⟨bo_ild_m _ _, List.forall_mem_cons.mpr ⟨bo_st_mono (bg_push_m _), List.forall_mem_cons.mpr ⟨bo_st_mono (bg_ii_m _), List.forall_mem_cons.mpr ⟨bo_sald_m _ _ _, List.forall_mem_cons.mpr ⟨bo_ald_m _ _, List.forall_mem_cons.mpr ⟨bo_ild_m _ _, List.forall_mem_cons.mpr ⟨bo_st_mono (bg_push_m _), List.forall_mem_cons.mpr ⟨bo_st_mono (bg_ii_m _), List.forall_mem_cons.mpr ⟨bo_sald_m _ _ _, List.forall_mem_cons.mpr ⟨bo_ald_m _ _, List.forall_mem_cons.mpr ⟨bo_callS_m (mF_L_install) _ _ _ _, List.forall_mem_cons.mpr ⟨bo_ist_m _ _, List.forall_mem_cons.mpr ⟨bo_ald_m _ _, List.forall_mem_cons.mpr ⟨bo_ald_m _ _, List.forall_mem_cons.mpr ⟨bo_ild_m _ _, List.forall_mem_cons.mpr ⟨bo_st_mono (bg_push_m _), List.forall_mem_cons.mpr ⟨bo_st_mono (bg_ii_m _), List.forall_mem_cons.mpr ⟨bo_sald_m _ _ _, List.forall_mem_cons.mpr ⟨bo_ald_m _ _, List.forall_mem_cons.mpr ⟨bo_ild_m _ _, List.forall_mem_cons.mpr ⟨bo_st_mono (bg_push_m _), List.forall_mem_cons.mpr ⟨bo_st_mono (bg_ii_m _), List.forall_mem_cons.mpr ⟨bo_sald_m _ _ _, List.forall_mem_cons.mpr ⟨bo_ald_m _ _, List.forall_mem_cons.mpr ⟨bo_ild_m _ _, List.forall_mem_cons.mpr ⟨bo_st_mono (bg_push_m _), List.forall_mem_cons.mpr ⟨bo_st_mono (bg_ii_m _), List.forall_mem_cons.mpr ⟨bo_sald_m _ _ _, List.forall_mem_cons.mpr ⟨bo_ald_m _ _, List.forall_mem_cons.mpr ⟨bo_ild_m _ _, List.forall_mem_cons.mpr ⟨bo_st_mono (bg_push_m _), List.forall_mem_cons.mpr ⟨bo_st_mono (bg_ii_m _), List.forall_mem_cons.mpr ⟨bo_sald_m _ _ _, List.forall_mem_cons.mpr ⟨bo_callV_m (mF_M_install) _ _ _ _ _, List.forall_mem_cons.mpr ⟨bo_ist_m _ _, List.forall_mem_cons.mpr ⟨bo_ald_m _ _, List.forall_mem_cons.mpr ⟨bo_callV_m (mF_M_thrown) _ _ _ _ _, List.forall_mem_cons.mpr ⟨bo_ild_m _ _, List.forall_mem_cons.mpr ⟨bo_if2_m _ _ _, List.forall_mem_cons.mpr ⟨bo_st_mono (bg_push_m _), fun _ h => absurd h List.not_mem_nil⟩⟩⟩⟩⟩⟩⟩⟩⟩⟩⟩⟩⟩⟩⟩⟩⟩⟩⟩⟩⟩⟩⟩⟩⟩⟩⟩⟩⟩⟩⟩⟩⟩⟩⟩⟩⟩⟩⟩⟩
set_option maxRecDepth 20000 in
theorem mT_L_law_2 {xs : Nat → Int32} {N : Nat} : ∀ q ∈ T_L_law_2 xs N, bh_mono q.2 := List.forall_mem_cons.mpr ⟨bo_zret_m _, List.forall_mem_cons.mpr ⟨bo_ild_m _ _, List.forall_mem_cons.mpr ⟨bo_if1_m _ _ _, List.forall_mem_cons.mpr ⟨bo_ald_m _ _, List.forall_mem_cons.mpr ⟨bo_st_mono (bg_push_m _), List.forall_mem_cons.mpr ⟨bo_Jald_m _ _ _, List.forall_mem_cons.mpr ⟨bo_ild_m _ _, List.forall_mem_cons.mpr ⟨bo_st_mono (bg_i1_m _), List.forall_mem_cons.mpr ⟨bo_st_mono (bg_lc_m _), List.forall_mem_cons.mpr ⟨bo_if1_m _ _ _, List.forall_mem_cons.mpr ⟨bo_st_mono (bg_push_m _), List.forall_mem_cons.mpr ⟨bo_zret_m _, List.forall_mem_cons.mpr ⟨bo_go_m _, List.forall_mem_cons.mpr ⟨bo_ald_m _ _, List.forall_mem_cons.mpr ⟨bo_ald_m _ _, List.forall_mem_cons.mpr ⟨bo_ild_m _ _, List.forall_mem_cons.mpr ⟨bo_st_mono (bg_push_m _), List.forall_mem_cons.mpr ⟨bo_st_mono (bg_ii_m _), List.forall_mem_cons.mpr ⟨bo_sald_m _ _ _, List.forall_mem_cons.mpr ⟨bo_ald_m _ _, List.forall_mem_cons.mpr ⟨bo_ild_m _ _, List.forall_mem_cons.mpr ⟨bo_st_mono (bg_push_m _), List.forall_mem_cons.mpr ⟨bo_st_mono (bg_ii_m _), List.forall_mem_cons.mpr ⟨bo_sald_m _ _ _, List.forall_mem_cons.mpr ⟨bo_ald_m _ _, List.forall_mem_cons.mpr ⟨bo_ild_m _ _, List.forall_mem_cons.mpr ⟨bo_st_mono (bg_push_m _), List.forall_mem_cons.mpr ⟨bo_st_mono (bg_ii_m _), List.forall_mem_cons.mpr ⟨bo_sald_m _ _ _, List.forall_mem_cons.mpr ⟨bo_ald_m _ _, List.forall_mem_cons.mpr ⟨bo_callS_m (mF_L_export) _ _ _ _, List.forall_mem_cons.mpr ⟨bo_ist_m _ _, List.forall_mem_cons.mpr ⟨bo_ald_m _ _, List.forall_mem_cons.mpr ⟨bo_ald_m _ _, List.forall_mem_cons.mpr ⟨bo_ild_m _ _, List.forall_mem_cons.mpr ⟨bo_st_mono (bg_push_m _), List.forall_mem_cons.mpr ⟨bo_st_mono (bg_ii_m _), List.forall_mem_cons.mpr ⟨bo_sald_m _ _ _, List.forall_mem_cons.mpr ⟨bo_ald_m _ _, List.forall_mem_cons.mpr ⟨bo_ild_m _ _, fun _ h => absurd h List.not_mem_nil⟩⟩⟩⟩⟩⟩⟩⟩⟩⟩⟩⟩⟩⟩⟩⟩⟩⟩⟩⟩⟩⟩⟩⟩⟩⟩⟩⟩⟩⟩⟩⟩⟩⟩⟩⟩⟩⟩⟩⟩
set_option maxRecDepth 20000 in
theorem mT_L_law_3 {xs : Nat → Int32} {N : Nat} : ∀ q ∈ T_L_law_3 xs N, bh_mono q.2 := List.forall_mem_cons.mpr ⟨bo_st_mono (bg_push_m _), List.forall_mem_cons.mpr ⟨bo_st_mono (bg_ii_m _), List.forall_mem_cons.mpr ⟨bo_sald_m _ _ _, List.forall_mem_cons.mpr ⟨bo_ald_m _ _, List.forall_mem_cons.mpr ⟨bo_ild_m _ _, List.forall_mem_cons.mpr ⟨bo_st_mono (bg_push_m _), List.forall_mem_cons.mpr ⟨bo_st_mono (bg_ii_m _), List.forall_mem_cons.mpr ⟨bo_sald_m _ _ _, List.forall_mem_cons.mpr ⟨bo_callV_m (mF_M_export) _ _ _ _ _, List.forall_mem_cons.mpr ⟨bo_ist_m _ _, List.forall_mem_cons.mpr ⟨bo_ald_m _ _, List.forall_mem_cons.mpr ⟨bo_callV_m (mF_M_thrown) _ _ _ _ _, List.forall_mem_cons.mpr ⟨bo_ild_m _ _, List.forall_mem_cons.mpr ⟨bo_if2_m _ _ _, List.forall_mem_cons.mpr ⟨bo_st_mono (bg_push_m _), List.forall_mem_cons.mpr ⟨bo_zret_m _, List.forall_mem_cons.mpr ⟨bo_ild_m _ _, List.forall_mem_cons.mpr ⟨bo_if1_m _ _ _, List.forall_mem_cons.mpr ⟨bo_ald_m _ _, List.forall_mem_cons.mpr ⟨bo_st_mono (bg_push_m _), List.forall_mem_cons.mpr ⟨bo_Jald_m _ _ _, List.forall_mem_cons.mpr ⟨bo_ild_m _ _, List.forall_mem_cons.mpr ⟨bo_st_mono (bg_i1_m _), List.forall_mem_cons.mpr ⟨bo_st_mono (bg_lc_m _), List.forall_mem_cons.mpr ⟨bo_if1_m _ _ _, List.forall_mem_cons.mpr ⟨bo_st_mono (bg_push_m _), List.forall_mem_cons.mpr ⟨bo_zret_m _, List.forall_mem_cons.mpr ⟨bo_go_m _, List.forall_mem_cons.mpr ⟨bo_ald_m _ _, List.forall_mem_cons.mpr ⟨bo_ald_m _ _, List.forall_mem_cons.mpr ⟨bo_ild_m _ _, List.forall_mem_cons.mpr ⟨bo_st_mono (bg_push_m _), List.forall_mem_cons.mpr ⟨bo_st_mono (bg_ii_m _), List.forall_mem_cons.mpr ⟨bo_sald_m _ _ _, List.forall_mem_cons.mpr ⟨bo_ald_m _ _, List.forall_mem_cons.mpr ⟨bo_ild_m _ _, List.forall_mem_cons.mpr ⟨bo_st_mono (bg_push_m _), List.forall_mem_cons.mpr ⟨bo_st_mono (bg_ii_m _), List.forall_mem_cons.mpr ⟨bo_sald_m _ _ _, List.forall_mem_cons.mpr ⟨bo_ald_m _ _, fun _ h => absurd h List.not_mem_nil⟩⟩⟩⟩⟩⟩⟩⟩⟩⟩⟩⟩⟩⟩⟩⟩⟩⟩⟩⟩⟩⟩⟩⟩⟩⟩⟩⟩⟩⟩⟩⟩⟩⟩⟩⟩⟩⟩⟩⟩
set_option maxRecDepth 20000 in
theorem mT_L_law_4 {xs : Nat → Int32} {N : Nat} : ∀ q ∈ T_L_law_4 xs N, bh_mono q.2 := List.forall_mem_cons.mpr ⟨bo_ild_m _ _, List.forall_mem_cons.mpr ⟨bo_st_mono (bg_push_m _), List.forall_mem_cons.mpr ⟨bo_st_mono (bg_ii_m _), List.forall_mem_cons.mpr ⟨bo_sald_m _ _ _, List.forall_mem_cons.mpr ⟨bo_ald_m _ _, List.forall_mem_cons.mpr ⟨bo_ild_m _ _, List.forall_mem_cons.mpr ⟨bo_st_mono (bg_push_m _), List.forall_mem_cons.mpr ⟨bo_st_mono (bg_ii_m _), List.forall_mem_cons.mpr ⟨bo_sald_m _ _ _, List.forall_mem_cons.mpr ⟨bo_ald_m _ _, List.forall_mem_cons.mpr ⟨bo_ild_m _ _, List.forall_mem_cons.mpr ⟨bo_st_mono (bg_push_m _), List.forall_mem_cons.mpr ⟨bo_st_mono (bg_ii_m _), List.forall_mem_cons.mpr ⟨bo_sald_m _ _ _, List.forall_mem_cons.mpr ⟨bo_if1_m _ _ _, List.forall_mem_cons.mpr ⟨bo_st_mono (bg_push_m _), List.forall_mem_cons.mpr ⟨bo_go_m _, List.forall_mem_cons.mpr ⟨bo_st_mono (bg_push_m _), List.forall_mem_cons.mpr ⟨bo_ald_m _ _, List.forall_mem_cons.mpr ⟨bo_callS_m (mF_L_need) _ _ _ _, List.forall_mem_cons.mpr ⟨bo_ist_m _ _, List.forall_mem_cons.mpr ⟨bo_ald_m _ _, List.forall_mem_cons.mpr ⟨bo_ald_m _ _, List.forall_mem_cons.mpr ⟨bo_ild_m _ _, List.forall_mem_cons.mpr ⟨bo_st_mono (bg_push_m _), List.forall_mem_cons.mpr ⟨bo_st_mono (bg_ii_m _), List.forall_mem_cons.mpr ⟨bo_sald_m _ _ _, List.forall_mem_cons.mpr ⟨bo_ald_m _ _, List.forall_mem_cons.mpr ⟨bo_ild_m _ _, List.forall_mem_cons.mpr ⟨bo_st_mono (bg_push_m _), List.forall_mem_cons.mpr ⟨bo_st_mono (bg_ii_m _), List.forall_mem_cons.mpr ⟨bo_sald_m _ _ _, List.forall_mem_cons.mpr ⟨bo_ald_m _ _, List.forall_mem_cons.mpr ⟨bo_ild_m _ _, List.forall_mem_cons.mpr ⟨bo_st_mono (bg_push_m _), List.forall_mem_cons.mpr ⟨bo_st_mono (bg_ii_m _), List.forall_mem_cons.mpr ⟨bo_sald_m _ _ _, List.forall_mem_cons.mpr ⟨bo_ald_m _ _, List.forall_mem_cons.mpr ⟨bo_ild_m _ _, List.forall_mem_cons.mpr ⟨bo_st_mono (bg_push_m _), fun _ h => absurd h List.not_mem_nil⟩⟩⟩⟩⟩⟩⟩⟩⟩⟩⟩⟩⟩⟩⟩⟩⟩⟩⟩⟩⟩⟩⟩⟩⟩⟩⟩⟩⟩⟩⟩⟩⟩⟩⟩⟩⟩⟩⟩⟩
set_option maxRecDepth 20000 in
theorem mT_L_law_5 {xs : Nat → Int32} {N : Nat} : ∀ q ∈ T_L_law_5 xs N, bh_mono q.2 := List.forall_mem_cons.mpr ⟨bo_st_mono (bg_ii_m _), List.forall_mem_cons.mpr ⟨bo_sald_m _ _ _, List.forall_mem_cons.mpr ⟨bo_ald_m _ _, List.forall_mem_cons.mpr ⟨bo_ild_m _ _, List.forall_mem_cons.mpr ⟨bo_st_mono (bg_push_m _), List.forall_mem_cons.mpr ⟨bo_st_mono (bg_ii_m _), List.forall_mem_cons.mpr ⟨bo_sald_m _ _ _, List.forall_mem_cons.mpr ⟨bo_if1_m _ _ _, List.forall_mem_cons.mpr ⟨bo_st_mono (bg_push_m _), List.forall_mem_cons.mpr ⟨bo_go_m _, List.forall_mem_cons.mpr ⟨bo_st_mono (bg_push_m _), List.forall_mem_cons.mpr ⟨bo_callV_m (mF_M_need) _ _ _ _ _, List.forall_mem_cons.mpr ⟨bo_ist_m _ _, List.forall_mem_cons.mpr ⟨bo_ald_m _ _, List.forall_mem_cons.mpr ⟨bo_callV_m (mF_M_thrown) _ _ _ _ _, List.forall_mem_cons.mpr ⟨bo_ild_m _ _, List.forall_mem_cons.mpr ⟨bo_if2_m _ _ _, List.forall_mem_cons.mpr ⟨bo_st_mono (bg_push_m _), List.forall_mem_cons.mpr ⟨bo_zret_m _, List.forall_mem_cons.mpr ⟨bo_ild_m _ _, List.forall_mem_cons.mpr ⟨bo_if1_m _ _ _, List.forall_mem_cons.mpr ⟨bo_ald_m _ _, List.forall_mem_cons.mpr ⟨bo_st_mono (bg_push_m _), List.forall_mem_cons.mpr ⟨bo_Jald_m _ _ _, List.forall_mem_cons.mpr ⟨bo_ild_m _ _, List.forall_mem_cons.mpr ⟨bo_st_mono (bg_i1_m _), List.forall_mem_cons.mpr ⟨bo_st_mono (bg_lc_m _), List.forall_mem_cons.mpr ⟨bo_if1_m _ _ _, List.forall_mem_cons.mpr ⟨bo_st_mono (bg_push_m _), List.forall_mem_cons.mpr ⟨bo_zret_m _, List.forall_mem_cons.mpr ⟨bo_go_m _, List.forall_mem_cons.mpr ⟨bo_ald_m _ _, List.forall_mem_cons.mpr ⟨bo_ald_m _ _, List.forall_mem_cons.mpr ⟨bo_ild_m _ _, List.forall_mem_cons.mpr ⟨bo_st_mono (bg_push_m _), List.forall_mem_cons.mpr ⟨bo_st_mono (bg_ii_m _), List.forall_mem_cons.mpr ⟨bo_sald_m _ _ _, List.forall_mem_cons.mpr ⟨bo_ald_m _ _, List.forall_mem_cons.mpr ⟨bo_callS_m (mF_L_resolve) _ _ _ _, List.forall_mem_cons.mpr ⟨bo_ist_m _ _, fun _ h => absurd h List.not_mem_nil⟩⟩⟩⟩⟩⟩⟩⟩⟩⟩⟩⟩⟩⟩⟩⟩⟩⟩⟩⟩⟩⟩⟩⟩⟩⟩⟩⟩⟩⟩⟩⟩⟩⟩⟩⟩⟩⟩⟩⟩
set_option maxRecDepth 20000 in
theorem mT_L_law_6 {xs : Nat → Int32} {N : Nat} : ∀ q ∈ T_L_law_6 xs N, bh_mono q.2 := List.forall_mem_cons.mpr ⟨bo_ald_m _ _, List.forall_mem_cons.mpr ⟨bo_ald_m _ _, List.forall_mem_cons.mpr ⟨bo_ild_m _ _, List.forall_mem_cons.mpr ⟨bo_st_mono (bg_push_m _), List.forall_mem_cons.mpr ⟨bo_st_mono (bg_ii_m _), List.forall_mem_cons.mpr ⟨bo_sald_m _ _ _, List.forall_mem_cons.mpr ⟨bo_callV_m (mF_M_resolve) _ _ _ _ _, List.forall_mem_cons.mpr ⟨bo_ist_m _ _, List.forall_mem_cons.mpr ⟨bo_ald_m _ _, List.forall_mem_cons.mpr ⟨bo_callV_m (mF_M_thrown) _ _ _ _ _, List.forall_mem_cons.mpr ⟨bo_ild_m _ _, List.forall_mem_cons.mpr ⟨bo_if2_m _ _ _, List.forall_mem_cons.mpr ⟨bo_st_mono (bg_push_m _), List.forall_mem_cons.mpr ⟨bo_zret_m _, List.forall_mem_cons.mpr ⟨bo_ild_m _ _, List.forall_mem_cons.mpr ⟨bo_if1_m _ _ _, List.forall_mem_cons.mpr ⟨bo_ald_m _ _, List.forall_mem_cons.mpr ⟨bo_st_mono (bg_push_m _), List.forall_mem_cons.mpr ⟨bo_Jald_m _ _ _, List.forall_mem_cons.mpr ⟨bo_ild_m _ _, List.forall_mem_cons.mpr ⟨bo_st_mono (bg_i1_m _), List.forall_mem_cons.mpr ⟨bo_st_mono (bg_lc_m _), List.forall_mem_cons.mpr ⟨bo_if1_m _ _ _, List.forall_mem_cons.mpr ⟨bo_st_mono (bg_push_m _), List.forall_mem_cons.mpr ⟨bo_zret_m _, List.forall_mem_cons.mpr ⟨bo_go_m _, List.forall_mem_cons.mpr ⟨bo_ald_m _ _, List.forall_mem_cons.mpr ⟨bo_ald_m _ _, List.forall_mem_cons.mpr ⟨bo_ild_m _ _, List.forall_mem_cons.mpr ⟨bo_st_mono (bg_push_m _), List.forall_mem_cons.mpr ⟨bo_st_mono (bg_ii_m _), List.forall_mem_cons.mpr ⟨bo_sald_m _ _ _, List.forall_mem_cons.mpr ⟨bo_ald_m _ _, List.forall_mem_cons.mpr ⟨bo_callS_m (mF_L_start) _ _ _ _, List.forall_mem_cons.mpr ⟨bo_ist_m _ _, List.forall_mem_cons.mpr ⟨bo_ald_m _ _, List.forall_mem_cons.mpr ⟨bo_ald_m _ _, List.forall_mem_cons.mpr ⟨bo_ild_m _ _, List.forall_mem_cons.mpr ⟨bo_st_mono (bg_push_m _), List.forall_mem_cons.mpr ⟨bo_st_mono (bg_ii_m _), fun _ h => absurd h List.not_mem_nil⟩⟩⟩⟩⟩⟩⟩⟩⟩⟩⟩⟩⟩⟩⟩⟩⟩⟩⟩⟩⟩⟩⟩⟩⟩⟩⟩⟩⟩⟩⟩⟩⟩⟩⟩⟩⟩⟩⟩⟩
set_option maxRecDepth 20000 in
theorem mT_L_law_7 {xs : Nat → Int32} {N : Nat} : ∀ q ∈ T_L_law_7 xs N, bh_mono q.2 := List.forall_mem_cons.mpr ⟨bo_sald_m _ _ _, List.forall_mem_cons.mpr ⟨bo_callV_m (mF_M_start) _ _ _ _ _, List.forall_mem_cons.mpr ⟨bo_ist_m _ _, List.forall_mem_cons.mpr ⟨bo_ald_m _ _, List.forall_mem_cons.mpr ⟨bo_callV_m (mF_M_thrown) _ _ _ _ _, List.forall_mem_cons.mpr ⟨bo_ild_m _ _, List.forall_mem_cons.mpr ⟨bo_if2_m _ _ _, List.forall_mem_cons.mpr ⟨bo_st_mono (bg_push_m _), List.forall_mem_cons.mpr ⟨bo_zret_m _, List.forall_mem_cons.mpr ⟨bo_ild_m _ _, List.forall_mem_cons.mpr ⟨bo_if1_m _ _ _, List.forall_mem_cons.mpr ⟨bo_ald_m _ _, List.forall_mem_cons.mpr ⟨bo_st_mono (bg_push_m _), List.forall_mem_cons.mpr ⟨bo_Jald_m _ _ _, List.forall_mem_cons.mpr ⟨bo_ild_m _ _, List.forall_mem_cons.mpr ⟨bo_st_mono (bg_i1_m _), List.forall_mem_cons.mpr ⟨bo_st_mono (bg_lc_m _), List.forall_mem_cons.mpr ⟨bo_if1_m _ _ _, List.forall_mem_cons.mpr ⟨bo_st_mono (bg_push_m _), List.forall_mem_cons.mpr ⟨bo_zret_m _, List.forall_mem_cons.mpr ⟨bo_go_m _, List.forall_mem_cons.mpr ⟨bo_ald_m _ _, List.forall_mem_cons.mpr ⟨bo_ald_m _ _, List.forall_mem_cons.mpr ⟨bo_ild_m _ _, List.forall_mem_cons.mpr ⟨bo_st_mono (bg_push_m _), List.forall_mem_cons.mpr ⟨bo_st_mono (bg_ii_m _), List.forall_mem_cons.mpr ⟨bo_sald_m _ _ _, List.forall_mem_cons.mpr ⟨bo_ald_m _ _, List.forall_mem_cons.mpr ⟨bo_callS_m (mF_L_stop) _ _ _ _, List.forall_mem_cons.mpr ⟨bo_ist_m _ _, List.forall_mem_cons.mpr ⟨bo_ald_m _ _, List.forall_mem_cons.mpr ⟨bo_ald_m _ _, List.forall_mem_cons.mpr ⟨bo_ild_m _ _, List.forall_mem_cons.mpr ⟨bo_st_mono (bg_push_m _), List.forall_mem_cons.mpr ⟨bo_st_mono (bg_ii_m _), List.forall_mem_cons.mpr ⟨bo_sald_m _ _ _, List.forall_mem_cons.mpr ⟨bo_callV_m (mF_M_stop) _ _ _ _ _, List.forall_mem_cons.mpr ⟨bo_ist_m _ _, List.forall_mem_cons.mpr ⟨bo_ald_m _ _, List.forall_mem_cons.mpr ⟨bo_callV_m (mF_M_thrown) _ _ _ _ _, fun _ h => absurd h List.not_mem_nil⟩⟩⟩⟩⟩⟩⟩⟩⟩⟩⟩⟩⟩⟩⟩⟩⟩⟩⟩⟩⟩⟩⟩⟩⟩⟩⟩⟩⟩⟩⟩⟩⟩⟩⟩⟩⟩⟩⟩⟩
set_option maxRecDepth 20000 in
theorem mT_L_law_8 {xs : Nat → Int32} {N : Nat} : ∀ q ∈ T_L_law_8 xs N, bh_mono q.2 := List.forall_mem_cons.mpr ⟨bo_ild_m _ _, List.forall_mem_cons.mpr ⟨bo_if2_m _ _ _, List.forall_mem_cons.mpr ⟨bo_st_mono (bg_push_m _), List.forall_mem_cons.mpr ⟨bo_zret_m _, List.forall_mem_cons.mpr ⟨bo_ild_m _ _, List.forall_mem_cons.mpr ⟨bo_if1_m _ _ _, List.forall_mem_cons.mpr ⟨bo_ald_m _ _, List.forall_mem_cons.mpr ⟨bo_st_mono (bg_push_m _), List.forall_mem_cons.mpr ⟨bo_Jald_m _ _ _, List.forall_mem_cons.mpr ⟨bo_ild_m _ _, List.forall_mem_cons.mpr ⟨bo_st_mono (bg_i1_m _), List.forall_mem_cons.mpr ⟨bo_st_mono (bg_lc_m _), List.forall_mem_cons.mpr ⟨bo_if1_m _ _ _, List.forall_mem_cons.mpr ⟨bo_st_mono (bg_push_m _), List.forall_mem_cons.mpr ⟨bo_zret_m _, List.forall_mem_cons.mpr ⟨bo_go_m _, List.forall_mem_cons.mpr ⟨bo_ald_m _ _, List.forall_mem_cons.mpr ⟨bo_ald_m _ _, List.forall_mem_cons.mpr ⟨bo_ild_m _ _, List.forall_mem_cons.mpr ⟨bo_st_mono (bg_push_m _), List.forall_mem_cons.mpr ⟨bo_st_mono (bg_ii_m _), List.forall_mem_cons.mpr ⟨bo_sald_m _ _ _, List.forall_mem_cons.mpr ⟨bo_ald_m _ _, List.forall_mem_cons.mpr ⟨bo_callS_m (mF_L_level) _ _ _ _, List.forall_mem_cons.mpr ⟨bo_ist_m _ _, List.forall_mem_cons.mpr ⟨bo_ald_m _ _, List.forall_mem_cons.mpr ⟨bo_ald_m _ _, List.forall_mem_cons.mpr ⟨bo_ild_m _ _, List.forall_mem_cons.mpr ⟨bo_st_mono (bg_push_m _), List.forall_mem_cons.mpr ⟨bo_st_mono (bg_ii_m _), List.forall_mem_cons.mpr ⟨bo_sald_m _ _ _, List.forall_mem_cons.mpr ⟨bo_callV_m (mF_M_level) _ _ _ _ _, List.forall_mem_cons.mpr ⟨bo_ist_m _ _, List.forall_mem_cons.mpr ⟨bo_ald_m _ _, List.forall_mem_cons.mpr ⟨bo_callV_m (mF_M_thrown) _ _ _ _ _, List.forall_mem_cons.mpr ⟨bo_ild_m _ _, List.forall_mem_cons.mpr ⟨bo_if2_m _ _ _, List.forall_mem_cons.mpr ⟨bo_st_mono (bg_push_m _), List.forall_mem_cons.mpr ⟨bo_zret_m _, List.forall_mem_cons.mpr ⟨bo_ild_m _ _, fun _ h => absurd h List.not_mem_nil⟩⟩⟩⟩⟩⟩⟩⟩⟩⟩⟩⟩⟩⟩⟩⟩⟩⟩⟩⟩⟩⟩⟩⟩⟩⟩⟩⟩⟩⟩⟩⟩⟩⟩⟩⟩⟩⟩⟩⟩
set_option maxRecDepth 20000 in
theorem mT_L_law_9 {xs : Nat → Int32} {N : Nat} : ∀ q ∈ T_L_law_9 xs N, bh_mono q.2 := List.forall_mem_cons.mpr ⟨bo_if1_m _ _ _, List.forall_mem_cons.mpr ⟨bo_ald_m _ _, List.forall_mem_cons.mpr ⟨bo_st_mono (bg_push_m _), List.forall_mem_cons.mpr ⟨bo_Jald_m _ _ _, List.forall_mem_cons.mpr ⟨bo_ild_m _ _, List.forall_mem_cons.mpr ⟨bo_st_mono (bg_i1_m _), List.forall_mem_cons.mpr ⟨bo_st_mono (bg_lc_m _), List.forall_mem_cons.mpr ⟨bo_if1_m _ _ _, List.forall_mem_cons.mpr ⟨bo_st_mono (bg_push_m _), List.forall_mem_cons.mpr ⟨bo_zret_m _, List.forall_mem_cons.mpr ⟨bo_go_m _, List.forall_mem_cons.mpr ⟨bo_ald_m _ _, List.forall_mem_cons.mpr ⟨bo_ald_m _ _, List.forall_mem_cons.mpr ⟨bo_ild_m _ _, List.forall_mem_cons.mpr ⟨bo_st_mono (bg_push_m _), List.forall_mem_cons.mpr ⟨bo_st_mono (bg_ii_m _), List.forall_mem_cons.mpr ⟨bo_sald_m _ _ _, List.forall_mem_cons.mpr ⟨bo_ald_m _ _, List.forall_mem_cons.mpr ⟨bo_callS_m (mF_L_uninstall) _ _ _ _, List.forall_mem_cons.mpr ⟨bo_ist_m _ _, List.forall_mem_cons.mpr ⟨bo_ald_m _ _, List.forall_mem_cons.mpr ⟨bo_ald_m _ _, List.forall_mem_cons.mpr ⟨bo_ild_m _ _, List.forall_mem_cons.mpr ⟨bo_st_mono (bg_push_m _), List.forall_mem_cons.mpr ⟨bo_st_mono (bg_ii_m _), List.forall_mem_cons.mpr ⟨bo_sald_m _ _ _, List.forall_mem_cons.mpr ⟨bo_callV_m (mF_M_uninstall) _ _ _ _ _, List.forall_mem_cons.mpr ⟨bo_ist_m _ _, List.forall_mem_cons.mpr ⟨bo_ald_m _ _, List.forall_mem_cons.mpr ⟨bo_callV_m (mF_M_thrown) _ _ _ _ _, List.forall_mem_cons.mpr ⟨bo_ild_m _ _, List.forall_mem_cons.mpr ⟨bo_if2_m _ _ _, List.forall_mem_cons.mpr ⟨bo_st_mono (bg_push_m _), List.forall_mem_cons.mpr ⟨bo_zret_m _, List.forall_mem_cons.mpr ⟨bo_ild_m _ _, List.forall_mem_cons.mpr ⟨bo_if1_m _ _ _, List.forall_mem_cons.mpr ⟨bo_ald_m _ _, List.forall_mem_cons.mpr ⟨bo_st_mono (bg_push_m _), List.forall_mem_cons.mpr ⟨bo_Jald_m _ _ _, List.forall_mem_cons.mpr ⟨bo_ild_m _ _, fun _ h => absurd h List.not_mem_nil⟩⟩⟩⟩⟩⟩⟩⟩⟩⟩⟩⟩⟩⟩⟩⟩⟩⟩⟩⟩⟩⟩⟩⟩⟩⟩⟩⟩⟩⟩⟩⟩⟩⟩⟩⟩⟩⟩⟩⟩
set_option maxRecDepth 20000 in
theorem mT_L_law_10 {xs : Nat → Int32} {N : Nat} : ∀ q ∈ T_L_law_10 xs N, bh_mono q.2 := List.forall_mem_cons.mpr ⟨bo_st_mono (bg_i1_m _), List.forall_mem_cons.mpr ⟨bo_st_mono (bg_lc_m _), List.forall_mem_cons.mpr ⟨bo_if1_m _ _ _, List.forall_mem_cons.mpr ⟨bo_st_mono (bg_push_m _), List.forall_mem_cons.mpr ⟨bo_zret_m _, List.forall_mem_cons.mpr ⟨bo_go_m _, List.forall_mem_cons.mpr ⟨bo_ald_m _ _, List.forall_mem_cons.mpr ⟨bo_ald_m _ _, List.forall_mem_cons.mpr ⟨bo_ild_m _ _, List.forall_mem_cons.mpr ⟨bo_st_mono (bg_push_m _), List.forall_mem_cons.mpr ⟨bo_st_mono (bg_ii_m _), List.forall_mem_cons.mpr ⟨bo_sald_m _ _ _, List.forall_mem_cons.mpr ⟨bo_ald_m _ _, List.forall_mem_cons.mpr ⟨bo_callS_m (mF_L_update) _ _ _ _, List.forall_mem_cons.mpr ⟨bo_ist_m _ _, List.forall_mem_cons.mpr ⟨bo_ald_m _ _, List.forall_mem_cons.mpr ⟨bo_ald_m _ _, List.forall_mem_cons.mpr ⟨bo_ild_m _ _, List.forall_mem_cons.mpr ⟨bo_st_mono (bg_push_m _), List.forall_mem_cons.mpr ⟨bo_st_mono (bg_ii_m _), List.forall_mem_cons.mpr ⟨bo_sald_m _ _ _, List.forall_mem_cons.mpr ⟨bo_callV_m (mF_M_update) _ _ _ _ _, List.forall_mem_cons.mpr ⟨bo_ist_m _ _, List.forall_mem_cons.mpr ⟨bo_ald_m _ _, List.forall_mem_cons.mpr ⟨bo_callV_m (mF_M_thrown) _ _ _ _ _, List.forall_mem_cons.mpr ⟨bo_ild_m _ _, List.forall_mem_cons.mpr ⟨bo_if2_m _ _ _, List.forall_mem_cons.mpr ⟨bo_st_mono (bg_push_m _), List.forall_mem_cons.mpr ⟨bo_zret_m _, List.forall_mem_cons.mpr ⟨bo_ild_m _ _, List.forall_mem_cons.mpr ⟨bo_if1_m _ _ _, List.forall_mem_cons.mpr ⟨bo_ald_m _ _, List.forall_mem_cons.mpr ⟨bo_st_mono (bg_push_m _), List.forall_mem_cons.mpr ⟨bo_Jald_m _ _ _, List.forall_mem_cons.mpr ⟨bo_ild_m _ _, List.forall_mem_cons.mpr ⟨bo_st_mono (bg_i1_m _), List.forall_mem_cons.mpr ⟨bo_st_mono (bg_lc_m _), List.forall_mem_cons.mpr ⟨bo_if1_m _ _ _, List.forall_mem_cons.mpr ⟨bo_st_mono (bg_push_m _), List.forall_mem_cons.mpr ⟨bo_zret_m _, fun _ h => absurd h List.not_mem_nil⟩⟩⟩⟩⟩⟩⟩⟩⟩⟩⟩⟩⟩⟩⟩⟩⟩⟩⟩⟩⟩⟩⟩⟩⟩⟩⟩⟩⟩⟩⟩⟩⟩⟩⟩⟩⟩⟩⟩⟩
set_option maxRecDepth 20000 in
theorem mT_L_law_11 {xs : Nat → Int32} {N : Nat} : ∀ q ∈ T_L_law_11 xs N, bh_mono q.2 := List.forall_mem_cons.mpr ⟨bo_go_m _, List.forall_mem_cons.mpr ⟨bo_ald_m _ _, List.forall_mem_cons.mpr ⟨bo_callV_m (mF_H_refresh) _ _ _ _ _, List.forall_mem_cons.mpr ⟨bo_ald_m _ _, List.forall_mem_cons.mpr ⟨bo_callV_m (mF_M_refresh) _ _ _ _ _, List.forall_mem_cons.mpr ⟨bo_if2_m _ _ _, List.forall_mem_cons.mpr ⟨bo_st_mono (bg_push_m _), List.forall_mem_cons.mpr ⟨bo_zret_m _, List.forall_mem_cons.mpr ⟨bo_ald_m _ _, List.forall_mem_cons.mpr ⟨bo_ald_m _ _, List.forall_mem_cons.mpr ⟨bo_ild_m _ _, List.forall_mem_cons.mpr ⟨bo_st_mono (bg_push_m _), List.forall_mem_cons.mpr ⟨bo_st_mono (bg_ii_m _), List.forall_mem_cons.mpr ⟨bo_sald_m _ _ _, List.forall_mem_cons.mpr ⟨bo_ald_m _ _, List.forall_mem_cons.mpr ⟨bo_ild_m _ _, List.forall_mem_cons.mpr ⟨bo_st_mono (bg_push_m _), List.forall_mem_cons.mpr ⟨bo_st_mono (bg_ii_m _), List.forall_mem_cons.mpr ⟨bo_sald_m _ _ _, List.forall_mem_cons.mpr ⟨bo_ald_m _ _, List.forall_mem_cons.mpr ⟨bo_ild_m _ _, List.forall_mem_cons.mpr ⟨bo_st_mono (bg_push_m _), List.forall_mem_cons.mpr ⟨bo_st_mono (bg_ii_m _), List.forall_mem_cons.mpr ⟨bo_sald_m _ _ _, List.forall_mem_cons.mpr ⟨bo_st_mono (bg_i1_m _), List.forall_mem_cons.mpr ⟨bo_st_mono (bg_push_m _), List.forall_mem_cons.mpr ⟨bo_st_mono (bg_dd_m _), List.forall_mem_cons.mpr ⟨bo_ald_m _ _, List.forall_mem_cons.mpr ⟨bo_callS_m (mF_L_register) _ _ _ _, List.forall_mem_cons.mpr ⟨bo_ist_m _ _, List.forall_mem_cons.mpr ⟨bo_ald_m _ _, List.forall_mem_cons.mpr ⟨bo_ald_m _ _, List.forall_mem_cons.mpr ⟨bo_ild_m _ _, List.forall_mem_cons.mpr ⟨bo_st_mono (bg_push_m _), List.forall_mem_cons.mpr ⟨bo_st_mono (bg_ii_m _), List.forall_mem_cons.mpr ⟨bo_sald_m _ _ _, List.forall_mem_cons.mpr ⟨bo_ald_m _ _, List.forall_mem_cons.mpr ⟨bo_ild_m _ _, List.forall_mem_cons.mpr ⟨bo_st_mono (bg_push_m _), List.forall_mem_cons.mpr ⟨bo_st_mono (bg_ii_m _), fun _ h => absurd h List.not_mem_nil⟩⟩⟩⟩⟩⟩⟩⟩⟩⟩⟩⟩⟩⟩⟩⟩⟩⟩⟩⟩⟩⟩⟩⟩⟩⟩⟩⟩⟩⟩⟩⟩⟩⟩⟩⟩⟩⟩⟩⟩
set_option maxRecDepth 20000 in
theorem mT_L_law_12 {xs : Nat → Int32} {N : Nat} : ∀ q ∈ T_L_law_12 xs N, bh_mono q.2 := List.forall_mem_cons.mpr ⟨bo_sald_m _ _ _, List.forall_mem_cons.mpr ⟨bo_ald_m _ _, List.forall_mem_cons.mpr ⟨bo_ild_m _ _, List.forall_mem_cons.mpr ⟨bo_st_mono (bg_push_m _), List.forall_mem_cons.mpr ⟨bo_st_mono (bg_ii_m _), List.forall_mem_cons.mpr ⟨bo_sald_m _ _ _, List.forall_mem_cons.mpr ⟨bo_st_mono (bg_i1_m _), List.forall_mem_cons.mpr ⟨bo_st_mono (bg_push_m _), List.forall_mem_cons.mpr ⟨bo_st_mono (bg_dd_m _), List.forall_mem_cons.mpr ⟨bo_callV_m (mF_M_register) _ _ _ _ _, List.forall_mem_cons.mpr ⟨bo_ist_m _ _, List.forall_mem_cons.mpr ⟨bo_ald_m _ _, List.forall_mem_cons.mpr ⟨bo_callV_m (mF_M_thrown) _ _ _ _ _, List.forall_mem_cons.mpr ⟨bo_ild_m _ _, List.forall_mem_cons.mpr ⟨bo_if2_m _ _ _, List.forall_mem_cons.mpr ⟨bo_st_mono (bg_push_m _), List.forall_mem_cons.mpr ⟨bo_zret_m _, List.forall_mem_cons.mpr ⟨bo_ild_m _ _, List.forall_mem_cons.mpr ⟨bo_if1_m _ _ _, List.forall_mem_cons.mpr ⟨bo_ald_m _ _, List.forall_mem_cons.mpr ⟨bo_st_mono (bg_push_m _), List.forall_mem_cons.mpr ⟨bo_Jald_m _ _ _, List.forall_mem_cons.mpr ⟨bo_ild_m _ _, List.forall_mem_cons.mpr ⟨bo_st_mono (bg_i1_m _), List.forall_mem_cons.mpr ⟨bo_st_mono (bg_lc_m _), List.forall_mem_cons.mpr ⟨bo_if1_m _ _ _, List.forall_mem_cons.mpr ⟨bo_st_mono (bg_push_m _), List.forall_mem_cons.mpr ⟨bo_zret_m _, List.forall_mem_cons.mpr ⟨bo_go_m _, List.forall_mem_cons.mpr ⟨bo_ald_m _ _, List.forall_mem_cons.mpr ⟨bo_ald_m _ _, List.forall_mem_cons.mpr ⟨bo_ild_m _ _, List.forall_mem_cons.mpr ⟨bo_st_mono (bg_push_m _), List.forall_mem_cons.mpr ⟨bo_st_mono (bg_ii_m _), List.forall_mem_cons.mpr ⟨bo_sald_m _ _ _, List.forall_mem_cons.mpr ⟨bo_ald_m _ _, List.forall_mem_cons.mpr ⟨bo_ild_m _ _, List.forall_mem_cons.mpr ⟨bo_st_mono (bg_push_m _), List.forall_mem_cons.mpr ⟨bo_st_mono (bg_ii_m _), List.forall_mem_cons.mpr ⟨bo_sald_m _ _ _, fun _ h => absurd h List.not_mem_nil⟩⟩⟩⟩⟩⟩⟩⟩⟩⟩⟩⟩⟩⟩⟩⟩⟩⟩⟩⟩⟩⟩⟩⟩⟩⟩⟩⟩⟩⟩⟩⟩⟩⟩⟩⟩⟩⟩⟩⟩
set_option maxRecDepth 20000 in
theorem mT_L_law_13 {xs : Nat → Int32} {N : Nat} : ∀ q ∈ T_L_law_13 xs N, bh_mono q.2 := List.forall_mem_cons.mpr ⟨bo_ald_m _ _, List.forall_mem_cons.mpr ⟨bo_callS_m (mF_L_get) _ _ _ _, List.forall_mem_cons.mpr ⟨bo_ist_m _ _, List.forall_mem_cons.mpr ⟨bo_ald_m _ _, List.forall_mem_cons.mpr ⟨bo_ald_m _ _, List.forall_mem_cons.mpr ⟨bo_ild_m _ _, List.forall_mem_cons.mpr ⟨bo_st_mono (bg_push_m _), List.forall_mem_cons.mpr ⟨bo_st_mono (bg_ii_m _), List.forall_mem_cons.mpr ⟨bo_sald_m _ _ _, List.forall_mem_cons.mpr ⟨bo_ald_m _ _, List.forall_mem_cons.mpr ⟨bo_ild_m _ _, List.forall_mem_cons.mpr ⟨bo_st_mono (bg_push_m _), List.forall_mem_cons.mpr ⟨bo_st_mono (bg_ii_m _), List.forall_mem_cons.mpr ⟨bo_sald_m _ _ _, List.forall_mem_cons.mpr ⟨bo_callV_m (mF_M_get) _ _ _ _ _, List.forall_mem_cons.mpr ⟨bo_ist_m _ _, List.forall_mem_cons.mpr ⟨bo_ald_m _ _, List.forall_mem_cons.mpr ⟨bo_callV_m (mF_M_thrown) _ _ _ _ _, List.forall_mem_cons.mpr ⟨bo_ild_m _ _, List.forall_mem_cons.mpr ⟨bo_if2_m _ _ _, List.forall_mem_cons.mpr ⟨bo_st_mono (bg_push_m _), List.forall_mem_cons.mpr ⟨bo_zret_m _, List.forall_mem_cons.mpr ⟨bo_ild_m _ _, List.forall_mem_cons.mpr ⟨bo_if1_m _ _ _, List.forall_mem_cons.mpr ⟨bo_ald_m _ _, List.forall_mem_cons.mpr ⟨bo_st_mono (bg_push_m _), List.forall_mem_cons.mpr ⟨bo_Jald_m _ _ _, List.forall_mem_cons.mpr ⟨bo_ild_m _ _, List.forall_mem_cons.mpr ⟨bo_st_mono (bg_i1_m _), List.forall_mem_cons.mpr ⟨bo_st_mono (bg_lc_m _), List.forall_mem_cons.mpr ⟨bo_if1_m _ _ _, List.forall_mem_cons.mpr ⟨bo_st_mono (bg_push_m _), List.forall_mem_cons.mpr ⟨bo_zret_m _, List.forall_mem_cons.mpr ⟨bo_go_m _, List.forall_mem_cons.mpr ⟨bo_ald_m _ _, List.forall_mem_cons.mpr ⟨bo_ald_m _ _, List.forall_mem_cons.mpr ⟨bo_ild_m _ _, List.forall_mem_cons.mpr ⟨bo_st_mono (bg_push_m _), List.forall_mem_cons.mpr ⟨bo_st_mono (bg_ii_m _), List.forall_mem_cons.mpr ⟨bo_sald_m _ _ _, fun _ h => absurd h List.not_mem_nil⟩⟩⟩⟩⟩⟩⟩⟩⟩⟩⟩⟩⟩⟩⟩⟩⟩⟩⟩⟩⟩⟩⟩⟩⟩⟩⟩⟩⟩⟩⟩⟩⟩⟩⟩⟩⟩⟩⟩⟩
set_option maxRecDepth 20000 in
theorem mT_L_law_14 {xs : Nat → Int32} {N : Nat} : ∀ q ∈ T_L_law_14 xs N, bh_mono q.2 := List.forall_mem_cons.mpr ⟨bo_ald_m _ _, List.forall_mem_cons.mpr ⟨bo_ild_m _ _, List.forall_mem_cons.mpr ⟨bo_st_mono (bg_push_m _), List.forall_mem_cons.mpr ⟨bo_st_mono (bg_ii_m _), List.forall_mem_cons.mpr ⟨bo_sald_m _ _ _, List.forall_mem_cons.mpr ⟨bo_ald_m _ _, List.forall_mem_cons.mpr ⟨bo_callS_m (mF_L_giveBack) _ _ _ _, List.forall_mem_cons.mpr ⟨bo_ist_m _ _, List.forall_mem_cons.mpr ⟨bo_ald_m _ _, List.forall_mem_cons.mpr ⟨bo_ald_m _ _, List.forall_mem_cons.mpr ⟨bo_ild_m _ _, List.forall_mem_cons.mpr ⟨bo_st_mono (bg_push_m _), List.forall_mem_cons.mpr ⟨bo_st_mono (bg_ii_m _), List.forall_mem_cons.mpr ⟨bo_sald_m _ _ _, List.forall_mem_cons.mpr ⟨bo_ald_m _ _, List.forall_mem_cons.mpr ⟨bo_ild_m _ _, List.forall_mem_cons.mpr ⟨bo_st_mono (bg_push_m _), List.forall_mem_cons.mpr ⟨bo_st_mono (bg_ii_m _), List.forall_mem_cons.mpr ⟨bo_sald_m _ _ _, List.forall_mem_cons.mpr ⟨bo_callV_m (mF_M_giveBack) _ _ _ _ _, List.forall_mem_cons.mpr ⟨bo_ist_m _ _, List.forall_mem_cons.mpr ⟨bo_ald_m _ _, List.forall_mem_cons.mpr ⟨bo_callV_m (mF_M_thrown) _ _ _ _ _, List.forall_mem_cons.mpr ⟨bo_ild_m _ _, List.forall_mem_cons.mpr ⟨bo_if2_m _ _ _, List.forall_mem_cons.mpr ⟨bo_st_mono (bg_push_m _), List.forall_mem_cons.mpr ⟨bo_zret_m _, List.forall_mem_cons.mpr ⟨bo_ild_m _ _, List.forall_mem_cons.mpr ⟨bo_if1_m _ _ _, List.forall_mem_cons.mpr ⟨bo_ald_m _ _, List.forall_mem_cons.mpr ⟨bo_st_mono (bg_push_m _), List.forall_mem_cons.mpr ⟨bo_Jald_m _ _ _, List.forall_mem_cons.mpr ⟨bo_ild_m _ _, List.forall_mem_cons.mpr ⟨bo_st_mono (bg_i1_m _), List.forall_mem_cons.mpr ⟨bo_st_mono (bg_lc_m _), List.forall_mem_cons.mpr ⟨bo_if1_m _ _ _, List.forall_mem_cons.mpr ⟨bo_st_mono (bg_push_m _), List.forall_mem_cons.mpr ⟨bo_zret_m _, List.forall_mem_cons.mpr ⟨bo_go_m _, List.forall_mem_cons.mpr ⟨bo_ald_m _ _, fun _ h => absurd h List.not_mem_nil⟩⟩⟩⟩⟩⟩⟩⟩⟩⟩⟩⟩⟩⟩⟩⟩⟩⟩⟩⟩⟩⟩⟩⟩⟩⟩⟩⟩⟩⟩⟩⟩⟩⟩⟩⟩⟩⟩⟩⟩
set_option maxRecDepth 20000 in
theorem mT_L_law_15 {xs : Nat → Int32} {N : Nat} : ∀ q ∈ T_L_law_15 xs N, bh_mono q.2 := List.forall_mem_cons.mpr ⟨bo_ald_m _ _, List.forall_mem_cons.mpr ⟨bo_ild_m _ _, List.forall_mem_cons.mpr ⟨bo_st_mono (bg_push_m _), List.forall_mem_cons.mpr ⟨bo_st_mono (bg_ii_m _), List.forall_mem_cons.mpr ⟨bo_sald_m _ _ _, List.forall_mem_cons.mpr ⟨bo_ald_m _ _, List.forall_mem_cons.mpr ⟨bo_ild_m _ _, List.forall_mem_cons.mpr ⟨bo_st_mono (bg_push_m _), List.forall_mem_cons.mpr ⟨bo_st_mono (bg_ii_m _), List.forall_mem_cons.mpr ⟨bo_sald_m _ _ _, List.forall_mem_cons.mpr ⟨bo_ald_m _ _, List.forall_mem_cons.mpr ⟨bo_callS_m (mF_L_unregister) _ _ _ _, List.forall_mem_cons.mpr ⟨bo_ist_m _ _, List.forall_mem_cons.mpr ⟨bo_ald_m _ _, List.forall_mem_cons.mpr ⟨bo_ald_m _ _, List.forall_mem_cons.mpr ⟨bo_ild_m _ _, List.forall_mem_cons.mpr ⟨bo_st_mono (bg_push_m _), List.forall_mem_cons.mpr ⟨bo_st_mono (bg_ii_m _), List.forall_mem_cons.mpr ⟨bo_sald_m _ _ _, List.forall_mem_cons.mpr ⟨bo_ald_m _ _, List.forall_mem_cons.mpr ⟨bo_ild_m _ _, List.forall_mem_cons.mpr ⟨bo_st_mono (bg_push_m _), List.forall_mem_cons.mpr ⟨bo_st_mono (bg_ii_m _), List.forall_mem_cons.mpr ⟨bo_sald_m _ _ _, List.forall_mem_cons.mpr ⟨bo_callV_m (mF_M_unregister) _ _ _ _ _, List.forall_mem_cons.mpr ⟨bo_ist_m _ _, List.forall_mem_cons.mpr ⟨bo_ald_m _ _, List.forall_mem_cons.mpr ⟨bo_callV_m (mF_M_thrown) _ _ _ _ _, List.forall_mem_cons.mpr ⟨bo_ild_m _ _, List.forall_mem_cons.mpr ⟨bo_if2_m _ _ _, List.forall_mem_cons.mpr ⟨bo_st_mono (bg_push_m _), List.forall_mem_cons.mpr ⟨bo_zret_m _, List.forall_mem_cons.mpr ⟨bo_ild_m _ _, List.forall_mem_cons.mpr ⟨bo_if1_m _ _ _, List.forall_mem_cons.mpr ⟨bo_ald_m _ _, List.forall_mem_cons.mpr ⟨bo_st_mono (bg_push_m _), List.forall_mem_cons.mpr ⟨bo_Jald_m _ _ _, List.forall_mem_cons.mpr ⟨bo_ild_m _ _, List.forall_mem_cons.mpr ⟨bo_st_mono (bg_i1_m _), List.forall_mem_cons.mpr ⟨bo_st_mono (bg_lc_m _), fun _ h => absurd h List.not_mem_nil⟩⟩⟩⟩⟩⟩⟩⟩⟩⟩⟩⟩⟩⟩⟩⟩⟩⟩⟩⟩⟩⟩⟩⟩⟩⟩⟩⟩⟩⟩⟩⟩⟩⟩⟩⟩⟩⟩⟩⟩
set_option maxRecDepth 20000 in
theorem mT_L_law_16 {xs : Nat → Int32} {N : Nat} : ∀ q ∈ T_L_law_16 xs N, bh_mono q.2 := List.forall_mem_cons.mpr ⟨bo_if1_m _ _ _, List.forall_mem_cons.mpr ⟨bo_st_mono (bg_push_m _), List.forall_mem_cons.mpr ⟨bo_zret_m _, List.forall_mem_cons.mpr ⟨bo_go_m _, List.forall_mem_cons.mpr ⟨bo_ald_m _ _, List.forall_mem_cons.mpr ⟨bo_ald_m _ _, List.forall_mem_cons.mpr ⟨bo_ild_m _ _, List.forall_mem_cons.mpr ⟨bo_st_mono (bg_push_m _), List.forall_mem_cons.mpr ⟨bo_st_mono (bg_ii_m _), List.forall_mem_cons.mpr ⟨bo_sald_m _ _ _, List.forall_mem_cons.mpr ⟨bo_ald_m _ _, List.forall_mem_cons.mpr ⟨bo_callS_m (mF_L_rank) _ _ _ _, List.forall_mem_cons.mpr ⟨bo_ist_m _ _, List.forall_mem_cons.mpr ⟨bo_ald_m _ _, List.forall_mem_cons.mpr ⟨bo_ald_m _ _, List.forall_mem_cons.mpr ⟨bo_ild_m _ _, List.forall_mem_cons.mpr ⟨bo_st_mono (bg_push_m _), List.forall_mem_cons.mpr ⟨bo_st_mono (bg_ii_m _), List.forall_mem_cons.mpr ⟨bo_sald_m _ _ _, List.forall_mem_cons.mpr ⟨bo_callV_m (mF_M_rank) _ _ _ _ _, List.forall_mem_cons.mpr ⟨bo_dst_m _ _, List.forall_mem_cons.mpr ⟨bo_ald_m _ _, List.forall_mem_cons.mpr ⟨bo_callV_m (mF_M_thrown) _ _ _ _ _, List.forall_mem_cons.mpr ⟨bo_ild_m _ _, List.forall_mem_cons.mpr ⟨bo_if2_m _ _ _, List.forall_mem_cons.mpr ⟨bo_st_mono (bg_push_m _), List.forall_mem_cons.mpr ⟨bo_zret_m _, List.forall_mem_cons.mpr ⟨bo_ild_m _ _, List.forall_mem_cons.mpr ⟨bo_if1_m _ _ _, List.forall_mem_cons.mpr ⟨bo_ald_m _ _, List.forall_mem_cons.mpr ⟨bo_st_mono (bg_push_m _), List.forall_mem_cons.mpr ⟨bo_Dald_m _ _ _, List.forall_mem_cons.mpr ⟨bo_dld_m _ _, List.forall_mem_cons.mpr ⟨bo_st_mono (bg_dc_m _), List.forall_mem_cons.mpr ⟨bo_if1_m _ _ _, List.forall_mem_cons.mpr ⟨bo_ald_m _ _, List.forall_mem_cons.mpr ⟨bo_st_mono (bg_push_m _), List.forall_mem_cons.mpr ⟨bo_Dald_m _ _ _, List.forall_mem_cons.mpr ⟨bo_ald_m _ _, List.forall_mem_cons.mpr ⟨bo_st_mono (bg_push_m _), fun _ h => absurd h List.not_mem_nil⟩⟩⟩⟩⟩⟩⟩⟩⟩⟩⟩⟩⟩⟩⟩⟩⟩⟩⟩⟩⟩⟩⟩⟩⟩⟩⟩⟩⟩⟩⟩⟩⟩⟩⟩⟩⟩⟩⟩⟩
set_option maxRecDepth 20000 in
theorem mT_L_law_17 {xs : Nat → Int32} {N : Nat} : ∀ q ∈ T_L_law_17 xs N, bh_mono q.2 := List.forall_mem_cons.mpr ⟨bo_Dald_m _ _ _, List.forall_mem_cons.mpr ⟨bo_st_mono (bg_dc_m _), List.forall_mem_cons.mpr ⟨bo_if1_m _ _ _, List.forall_mem_cons.mpr ⟨bo_dld_m _ _, List.forall_mem_cons.mpr ⟨bo_dld_m _ _, List.forall_mem_cons.mpr ⟨bo_st_mono (bg_dc_m _), List.forall_mem_cons.mpr ⟨bo_if1_m _ _ _, List.forall_mem_cons.mpr ⟨bo_st_mono (bg_push_m _), List.forall_mem_cons.mpr ⟨bo_zret_m _, List.forall_mem_cons.mpr ⟨bo_go_m _, List.forall_mem_cons.mpr ⟨bo_ald_m _ _, List.forall_mem_cons.mpr ⟨bo_ald_m _ _, List.forall_mem_cons.mpr ⟨bo_callS_m (mF_L_event) _ _ _ _, List.forall_mem_cons.mpr ⟨bo_ist_m _ _, List.forall_mem_cons.mpr ⟨bo_ald_m _ _, List.forall_mem_cons.mpr ⟨bo_callV_m (mF_M_event) _ _ _ _ _, List.forall_mem_cons.mpr ⟨bo_ist_m _ _, List.forall_mem_cons.mpr ⟨bo_ald_m _ _, List.forall_mem_cons.mpr ⟨bo_callV_m (mF_M_thrown) _ _ _ _ _, List.forall_mem_cons.mpr ⟨bo_ild_m _ _, List.forall_mem_cons.mpr ⟨bo_if2_m _ _ _, List.forall_mem_cons.mpr ⟨bo_st_mono (bg_push_m _), List.forall_mem_cons.mpr ⟨bo_zret_m _, List.forall_mem_cons.mpr ⟨bo_ild_m _ _, List.forall_mem_cons.mpr ⟨bo_if1_m _ _ _, List.forall_mem_cons.mpr ⟨bo_ald_m _ _, List.forall_mem_cons.mpr ⟨bo_st_mono (bg_push_m _), List.forall_mem_cons.mpr ⟨bo_Jald_m _ _ _, List.forall_mem_cons.mpr ⟨bo_ild_m _ _, List.forall_mem_cons.mpr ⟨bo_st_mono (bg_i1_m _), List.forall_mem_cons.mpr ⟨bo_st_mono (bg_lc_m _), List.forall_mem_cons.mpr ⟨bo_if1_m _ _ _, List.forall_mem_cons.mpr ⟨bo_st_mono (bg_push_m _), List.forall_mem_cons.mpr ⟨bo_zret_m _, List.forall_mem_cons.mpr ⟨bo_go_m _, List.forall_mem_cons.mpr ⟨bo_ald_m _ _, List.forall_mem_cons.mpr ⟨bo_ald_m _ _, List.forall_mem_cons.mpr ⟨bo_ild_m _ _, List.forall_mem_cons.mpr ⟨bo_st_mono (bg_push_m _), List.forall_mem_cons.mpr ⟨bo_st_mono (bg_ii_m _), fun _ h => absurd h List.not_mem_nil⟩⟩⟩⟩⟩⟩⟩⟩⟩⟩⟩⟩⟩⟩⟩⟩⟩⟩⟩⟩⟩⟩⟩⟩⟩⟩⟩⟩⟩⟩⟩⟩⟩⟩⟩⟩⟩⟩⟩⟩
set_option maxRecDepth 20000 in
theorem mT_L_law_18 {xs : Nat → Int32} {N : Nat} : ∀ q ∈ T_L_law_18 xs N, bh_mono q.2 := List.forall_mem_cons.mpr ⟨bo_sald_m _ _ _, List.forall_mem_cons.mpr ⟨bo_ald_m _ _, List.forall_mem_cons.mpr ⟨bo_ild_m _ _, List.forall_mem_cons.mpr ⟨bo_st_mono (bg_push_m _), List.forall_mem_cons.mpr ⟨bo_st_mono (bg_ii_m _), List.forall_mem_cons.mpr ⟨bo_sald_m _ _ _, List.forall_mem_cons.mpr ⟨bo_ald_m _ _, List.forall_mem_cons.mpr ⟨bo_callS_m (mF_L_about) _ _ _ _, List.forall_mem_cons.mpr ⟨bo_ist_m _ _, List.forall_mem_cons.mpr ⟨bo_ald_m _ _, List.forall_mem_cons.mpr ⟨bo_ald_m _ _, List.forall_mem_cons.mpr ⟨bo_ild_m _ _, List.forall_mem_cons.mpr ⟨bo_st_mono (bg_push_m _), List.forall_mem_cons.mpr ⟨bo_st_mono (bg_ii_m _), List.forall_mem_cons.mpr ⟨bo_sald_m _ _ _, List.forall_mem_cons.mpr ⟨bo_ald_m _ _, List.forall_mem_cons.mpr ⟨bo_ild_m _ _, List.forall_mem_cons.mpr ⟨bo_st_mono (bg_push_m _), List.forall_mem_cons.mpr ⟨bo_st_mono (bg_ii_m _), List.forall_mem_cons.mpr ⟨bo_sald_m _ _ _, List.forall_mem_cons.mpr ⟨bo_callV_m (mF_M_about) _ _ _ _ _, List.forall_mem_cons.mpr ⟨bo_ist_m _ _, List.forall_mem_cons.mpr ⟨bo_ald_m _ _, List.forall_mem_cons.mpr ⟨bo_callV_m (mF_M_thrown) _ _ _ _ _, List.forall_mem_cons.mpr ⟨bo_ild_m _ _, List.forall_mem_cons.mpr ⟨bo_if2_m _ _ _, List.forall_mem_cons.mpr ⟨bo_st_mono (bg_push_m _), List.forall_mem_cons.mpr ⟨bo_zret_m _, List.forall_mem_cons.mpr ⟨bo_ild_m _ _, List.forall_mem_cons.mpr ⟨bo_if1_m _ _ _, List.forall_mem_cons.mpr ⟨bo_ald_m _ _, List.forall_mem_cons.mpr ⟨bo_st_mono (bg_push_m _), List.forall_mem_cons.mpr ⟨bo_Jald_m _ _ _, List.forall_mem_cons.mpr ⟨bo_ild_m _ _, List.forall_mem_cons.mpr ⟨bo_st_mono (bg_i1_m _), List.forall_mem_cons.mpr ⟨bo_st_mono (bg_lc_m _), List.forall_mem_cons.mpr ⟨bo_if1_m _ _ _, List.forall_mem_cons.mpr ⟨bo_st_mono (bg_push_m _), List.forall_mem_cons.mpr ⟨bo_zret_m _, List.forall_mem_cons.mpr ⟨bo_go_m _, fun _ h => absurd h List.not_mem_nil⟩⟩⟩⟩⟩⟩⟩⟩⟩⟩⟩⟩⟩⟩⟩⟩⟩⟩⟩⟩⟩⟩⟩⟩⟩⟩⟩⟩⟩⟩⟩⟩⟩⟩⟩⟩⟩⟩⟩⟩
set_option maxRecDepth 20000 in
theorem mT_L_law_19 {xs : Nat → Int32} {N : Nat} : ∀ q ∈ T_L_law_19 xs N, bh_mono q.2 := List.forall_mem_cons.mpr ⟨bo_ald_m _ _, List.forall_mem_cons.mpr ⟨bo_ald_m _ _, List.forall_mem_cons.mpr ⟨bo_ild_m _ _, List.forall_mem_cons.mpr ⟨bo_st_mono (bg_push_m _), List.forall_mem_cons.mpr ⟨bo_st_mono (bg_ii_m _), List.forall_mem_cons.mpr ⟨bo_sald_m _ _ _, List.forall_mem_cons.mpr ⟨bo_ald_m _ _, List.forall_mem_cons.mpr ⟨bo_callS_m (mF_L_count) _ _ _ _, List.forall_mem_cons.mpr ⟨bo_ist_m _ _, List.forall_mem_cons.mpr ⟨bo_ald_m _ _, List.forall_mem_cons.mpr ⟨bo_ald_m _ _, List.forall_mem_cons.mpr ⟨bo_ild_m _ _, List.forall_mem_cons.mpr ⟨bo_st_mono (bg_push_m _), List.forall_mem_cons.mpr ⟨bo_st_mono (bg_ii_m _), List.forall_mem_cons.mpr ⟨bo_sald_m _ _ _, List.forall_mem_cons.mpr ⟨bo_callV_m (mF_M_count) _ _ _ _ _, List.forall_mem_cons.mpr ⟨bo_ist_m _ _, List.forall_mem_cons.mpr ⟨bo_ald_m _ _, List.forall_mem_cons.mpr ⟨bo_callV_m (mF_M_thrown) _ _ _ _ _, List.forall_mem_cons.mpr ⟨bo_ild_m _ _, List.forall_mem_cons.mpr ⟨bo_if2_m _ _ _, List.forall_mem_cons.mpr ⟨bo_st_mono (bg_push_m _), List.forall_mem_cons.mpr ⟨bo_zret_m _, List.forall_mem_cons.mpr ⟨bo_ild_m _ _, List.forall_mem_cons.mpr ⟨bo_if1_m _ _ _, List.forall_mem_cons.mpr ⟨bo_ald_m _ _, List.forall_mem_cons.mpr ⟨bo_st_mono (bg_push_m _), List.forall_mem_cons.mpr ⟨bo_Jald_m _ _ _, List.forall_mem_cons.mpr ⟨bo_ild_m _ _, List.forall_mem_cons.mpr ⟨bo_st_mono (bg_i1_m _), List.forall_mem_cons.mpr ⟨bo_st_mono (bg_lc_m _), List.forall_mem_cons.mpr ⟨bo_if1_m _ _ _, List.forall_mem_cons.mpr ⟨bo_st_mono (bg_push_m _), List.forall_mem_cons.mpr ⟨bo_zret_m _, List.forall_mem_cons.mpr ⟨bo_go_m _, List.forall_mem_cons.mpr ⟨bo_inc_m _ _ _, List.forall_mem_cons.mpr ⟨bo_go_m _, List.forall_mem_cons.mpr ⟨bo_st_mono (bg_push_m _), List.forall_mem_cons.mpr ⟨bo_zret_m _, fun _ h => absurd h List.not_mem_nil⟩⟩⟩⟩⟩⟩⟩⟩⟩⟩⟩⟩⟩⟩⟩⟩⟩⟩⟩⟩⟩⟩⟩⟩⟩⟩⟩⟩⟩⟩⟩⟩⟩⟩⟩⟩⟩⟩⟩
theorem m_L_law {xs : Nat → Int32} {N : Nat} : ∀ pc, bh_mono (bh_tb (T_L_law xs N) pc) := bh_tb_m (List.forall_mem_append.mpr ⟨(List.forall_mem_append.mpr ⟨(List.forall_mem_append.mpr ⟨(List.forall_mem_append.mpr ⟨(List.forall_mem_append.mpr ⟨(List.forall_mem_append.mpr ⟨(List.forall_mem_append.mpr ⟨(List.forall_mem_append.mpr ⟨(List.forall_mem_append.mpr ⟨(List.forall_mem_append.mpr ⟨(List.forall_mem_append.mpr ⟨(List.forall_mem_append.mpr ⟨(List.forall_mem_append.mpr ⟨(List.forall_mem_append.mpr ⟨(List.forall_mem_append.mpr ⟨(List.forall_mem_append.mpr ⟨(List.forall_mem_append.mpr ⟨(List.forall_mem_append.mpr ⟨(List.forall_mem_append.mpr ⟨mT_L_law_0, mT_L_law_1⟩), mT_L_law_2⟩), mT_L_law_3⟩), mT_L_law_4⟩), mT_L_law_5⟩), mT_L_law_6⟩), mT_L_law_7⟩), mT_L_law_8⟩), mT_L_law_9⟩), mT_L_law_10⟩), mT_L_law_11⟩), mT_L_law_12⟩), mT_L_law_13⟩), mT_L_law_14⟩), mT_L_law_15⟩), mT_L_law_16⟩), mT_L_law_17⟩), mT_L_law_18⟩), mT_L_law_19⟩)
theorem l_L_install_0 : bh_tb T_L_install 0 = bo_ald 2 5 := rfl
theorem l_L_install_2 : bh_tb T_L_install 2 = bo_st 3 (bg_push (.inl (.int 0))) := rfl
theorem l_L_install_3 : bh_tb T_L_install 3 = bo_ald 4 0 := rfl
theorem l_L_install_4 : bh_tb T_L_install 4 = bo_ild 5 1 := rfl
theorem l_L_install_5 : bh_tb T_L_install 5 = bo_ild 6 2 := rfl
theorem l_L_install_6 : bh_tb T_L_install 6 = bo_ild 7 3 := rfl
theorem l_L_install_7 : bh_tb T_L_install 7 = bo_ild 9 4 := rfl
theorem l_L_install_9 : bh_tb T_L_install 9 = bo_callC 12 5 5 5 3 F_H_install [("java/lang/IllegalArgumentException", 1), ("java/lang/IllegalStateException", 2)] := rfl
theorem l_L_install_12 : bh_tb T_L_install 12 = bo_st 13 (bg_i1 (fun x => .inl (.long x.toInt64))) := rfl
theorem l_L_install_13 : bh_tb T_L_install 13 = bo_Jast bh_ak bh_al 14 := rfl
theorem l_L_install_14 : bh_tb T_L_install 14 = bo_go 25 := rfl
theorem l_L_install_17 : bh_tb T_L_install 17 = bo_ast 19 6 := rfl
theorem l_L_install_19 : bh_tb T_L_install 19 = bo_st 20 (bg_push (.inl (.int 1))) := rfl
theorem l_L_install_20 : bh_tb T_L_install 20 = bo_iret 5 := rfl
theorem l_L_install_21 : bh_tb T_L_install 21 = bo_ast 23 6 := rfl
theorem l_L_install_23 : bh_tb T_L_install 23 = bo_st 24 (bg_push (.inl (.int 2))) := rfl
theorem l_L_install_24 : bh_tb T_L_install 24 = bo_iret 5 := rfl
theorem l_L_install_25 : bh_tb T_L_install 25 = bo_st 26 (bg_push (.inl (.int 0))) := rfl
theorem l_L_install_26 : bh_tb T_L_install 26 = bo_iret 5 := rfl
theorem l_L_export_0 : bh_tb T_L_export 0 = bo_ald 2 4 := rfl
theorem l_L_export_2 : bh_tb T_L_export 2 = bo_st 3 (bg_push (.inl (.int 0))) := rfl
theorem l_L_export_3 : bh_tb T_L_export 3 = bo_ald 4 0 := rfl
theorem l_L_export_4 : bh_tb T_L_export 4 = bo_ild 5 1 := rfl
theorem l_L_export_5 : bh_tb T_L_export 5 = bo_ild 6 2 := rfl
theorem l_L_export_6 : bh_tb T_L_export 6 = bo_ild 7 3 := rfl
theorem l_L_export_7 : bh_tb T_L_export 7 = bo_callC 10 4 6 6 3 F_H_export [("java/lang/IllegalArgumentException", 1), ("java/util/NoSuchElementException", 2), ("java/lang/IllegalStateException", 3), ("java/lang/UnsupportedOperationException", 4)] := rfl
theorem l_L_export_10 : bh_tb T_L_export 10 = bo_st 11 (bg_i1 (fun x => .inl (.long x.toInt64))) := rfl
theorem l_L_export_11 : bh_tb T_L_export 11 = bo_Jast bh_ak bh_al 12 := rfl
theorem l_L_export_12 : bh_tb T_L_export 12 = bo_go 31 := rfl
theorem l_L_export_15 : bh_tb T_L_export 15 = bo_ast 17 5 := rfl
theorem l_L_export_17 : bh_tb T_L_export 17 = bo_st 18 (bg_push (.inl (.int 1))) := rfl
theorem l_L_export_18 : bh_tb T_L_export 18 = bo_iret 6 := rfl
theorem l_L_export_19 : bh_tb T_L_export 19 = bo_ast 21 5 := rfl
theorem l_L_export_21 : bh_tb T_L_export 21 = bo_st 22 (bg_push (.inl (.int 2))) := rfl
theorem l_L_export_22 : bh_tb T_L_export 22 = bo_iret 6 := rfl
theorem l_L_export_23 : bh_tb T_L_export 23 = bo_ast 25 5 := rfl
theorem l_L_export_25 : bh_tb T_L_export 25 = bo_st 26 (bg_push (.inl (.int 3))) := rfl
theorem l_L_export_26 : bh_tb T_L_export 26 = bo_iret 6 := rfl
theorem l_L_export_27 : bh_tb T_L_export 27 = bo_ast 29 5 := rfl
theorem l_L_export_29 : bh_tb T_L_export 29 = bo_st 30 (bg_push (.inl (.int 4))) := rfl
theorem l_L_export_30 : bh_tb T_L_export 30 = bo_iret 6 := rfl
theorem l_L_export_31 : bh_tb T_L_export 31 = bo_st 32 (bg_push (.inl (.int 0))) := rfl
theorem l_L_export_32 : bh_tb T_L_export 32 = bo_iret 6 := rfl
theorem l_L_need_0 : bh_tb T_L_need 0 = bo_ald 2 6 := rfl
theorem l_L_need_2 : bh_tb T_L_need 2 = bo_st 3 (bg_push (.inl (.int 0))) := rfl
theorem l_L_need_3 : bh_tb T_L_need 3 = bo_ald 4 0 := rfl
theorem l_L_need_4 : bh_tb T_L_need 4 = bo_ild 5 1 := rfl
theorem l_L_need_5 : bh_tb T_L_need 5 = bo_ild 6 2 := rfl
theorem l_L_need_6 : bh_tb T_L_need 6 = bo_ild 7 3 := rfl
theorem l_L_need_7 : bh_tb T_L_need 7 = bo_ild 9 4 := rfl
theorem l_L_need_9 : bh_tb T_L_need 9 = bo_ild 11 5 := rfl
theorem l_L_need_11 : bh_tb T_L_need 11 = bo_callC 14 6 7 7 3 F_H_need [("java/lang/IllegalArgumentException", 1), ("java/util/NoSuchElementException", 2), ("java/lang/IllegalStateException", 3), ("java/lang/UnsupportedOperationException", 4)] := rfl
theorem l_L_need_14 : bh_tb T_L_need 14 = bo_st 15 (bg_i1 (fun x => .inl (.long x.toInt64))) := rfl
theorem l_L_need_15 : bh_tb T_L_need 15 = bo_Jast bh_ak bh_al 16 := rfl
theorem l_L_need_16 : bh_tb T_L_need 16 = bo_go 35 := rfl
theorem l_L_need_19 : bh_tb T_L_need 19 = bo_ast 21 7 := rfl
theorem l_L_need_21 : bh_tb T_L_need 21 = bo_st 22 (bg_push (.inl (.int 1))) := rfl
theorem l_L_need_22 : bh_tb T_L_need 22 = bo_iret 7 := rfl
theorem l_L_need_23 : bh_tb T_L_need 23 = bo_ast 25 7 := rfl
theorem l_L_need_25 : bh_tb T_L_need 25 = bo_st 26 (bg_push (.inl (.int 2))) := rfl
theorem l_L_need_26 : bh_tb T_L_need 26 = bo_iret 7 := rfl
theorem l_L_need_27 : bh_tb T_L_need 27 = bo_ast 29 7 := rfl
theorem l_L_need_29 : bh_tb T_L_need 29 = bo_st 30 (bg_push (.inl (.int 3))) := rfl
theorem l_L_need_30 : bh_tb T_L_need 30 = bo_iret 7 := rfl
theorem l_L_need_31 : bh_tb T_L_need 31 = bo_ast 33 7 := rfl
theorem l_L_need_33 : bh_tb T_L_need 33 = bo_st 34 (bg_push (.inl (.int 4))) := rfl
theorem l_L_need_34 : bh_tb T_L_need 34 = bo_iret 7 := rfl
theorem l_L_need_35 : bh_tb T_L_need 35 = bo_st 36 (bg_push (.inl (.int 0))) := rfl
theorem l_L_need_36 : bh_tb T_L_need 36 = bo_iret 7 := rfl
theorem l_L_resolve_0 : bh_tb T_L_resolve 0 = bo_ald 1 2 := rfl
theorem l_L_resolve_1 : bh_tb T_L_resolve 1 = bo_st 2 (bg_push (.inl (.int 0))) := rfl
theorem l_L_resolve_2 : bh_tb T_L_resolve 2 = bo_ald 3 0 := rfl
theorem l_L_resolve_3 : bh_tb T_L_resolve 3 = bo_ild 4 1 := rfl
theorem l_L_resolve_4 : bh_tb T_L_resolve 4 = bo_callC 7 2 5 5 3 F_H_resolve [("java/lang/IllegalArgumentException", 1), ("java/util/NoSuchElementException", 2), ("java/lang/IllegalStateException", 3), ("java/lang/ArithmeticException", 4)] := rfl
theorem l_L_resolve_7 : bh_tb T_L_resolve 7 = bo_st 8 (bg_i1 (fun x => .inl (.long x.toInt64))) := rfl
theorem l_L_resolve_8 : bh_tb T_L_resolve 8 = bo_Jast bh_ak bh_al 9 := rfl
theorem l_L_resolve_9 : bh_tb T_L_resolve 9 = bo_go 24 := rfl
theorem l_L_resolve_12 : bh_tb T_L_resolve 12 = bo_ast 13 3 := rfl
theorem l_L_resolve_13 : bh_tb T_L_resolve 13 = bo_st 14 (bg_push (.inl (.int 1))) := rfl
theorem l_L_resolve_14 : bh_tb T_L_resolve 14 = bo_iret 5 := rfl
theorem l_L_resolve_15 : bh_tb T_L_resolve 15 = bo_ast 16 3 := rfl
theorem l_L_resolve_16 : bh_tb T_L_resolve 16 = bo_st 17 (bg_push (.inl (.int 2))) := rfl
theorem l_L_resolve_17 : bh_tb T_L_resolve 17 = bo_iret 5 := rfl
theorem l_L_resolve_18 : bh_tb T_L_resolve 18 = bo_ast 19 3 := rfl
theorem l_L_resolve_19 : bh_tb T_L_resolve 19 = bo_st 20 (bg_push (.inl (.int 3))) := rfl
theorem l_L_resolve_20 : bh_tb T_L_resolve 20 = bo_iret 5 := rfl
theorem l_L_resolve_21 : bh_tb T_L_resolve 21 = bo_ast 22 3 := rfl
theorem l_L_resolve_22 : bh_tb T_L_resolve 22 = bo_st 23 (bg_push (.inl (.int 4))) := rfl
theorem l_L_resolve_23 : bh_tb T_L_resolve 23 = bo_iret 5 := rfl
theorem l_L_resolve_24 : bh_tb T_L_resolve 24 = bo_st 25 (bg_push (.inl (.int 0))) := rfl
theorem l_L_resolve_25 : bh_tb T_L_resolve 25 = bo_iret 5 := rfl
theorem l_L_start_0 : bh_tb T_L_start 0 = bo_ald 1 2 := rfl
theorem l_L_start_1 : bh_tb T_L_start 1 = bo_st 2 (bg_push (.inl (.int 0))) := rfl
theorem l_L_start_2 : bh_tb T_L_start 2 = bo_ald 3 0 := rfl
theorem l_L_start_3 : bh_tb T_L_start 3 = bo_ild 4 1 := rfl
theorem l_L_start_4 : bh_tb T_L_start 4 = bo_callC 7 2 5 5 3 F_H_start [("java/lang/IllegalArgumentException", 1), ("java/util/NoSuchElementException", 2), ("java/lang/IllegalStateException", 3), ("java/lang/UnsupportedOperationException", 4), ("java/lang/ArithmeticException", 5)] := rfl
theorem l_L_start_7 : bh_tb T_L_start 7 = bo_st 8 (bg_i1 (fun x => .inl (.long x.toInt64))) := rfl
theorem l_L_start_8 : bh_tb T_L_start 8 = bo_Jast bh_ak bh_al 9 := rfl
theorem l_L_start_9 : bh_tb T_L_start 9 = bo_go 27 := rfl
theorem l_L_start_12 : bh_tb T_L_start 12 = bo_ast 13 3 := rfl
theorem l_L_start_13 : bh_tb T_L_start 13 = bo_st 14 (bg_push (.inl (.int 1))) := rfl
theorem l_L_start_14 : bh_tb T_L_start 14 = bo_iret 5 := rfl
theorem l_L_start_15 : bh_tb T_L_start 15 = bo_ast 16 3 := rfl
theorem l_L_start_16 : bh_tb T_L_start 16 = bo_st 17 (bg_push (.inl (.int 2))) := rfl
theorem l_L_start_17 : bh_tb T_L_start 17 = bo_iret 5 := rfl
theorem l_L_start_18 : bh_tb T_L_start 18 = bo_ast 19 3 := rfl
theorem l_L_start_19 : bh_tb T_L_start 19 = bo_st 20 (bg_push (.inl (.int 3))) := rfl
theorem l_L_start_20 : bh_tb T_L_start 20 = bo_iret 5 := rfl
theorem l_L_start_21 : bh_tb T_L_start 21 = bo_ast 22 3 := rfl
theorem l_L_start_22 : bh_tb T_L_start 22 = bo_st 23 (bg_push (.inl (.int 4))) := rfl
theorem l_L_start_23 : bh_tb T_L_start 23 = bo_iret 5 := rfl
theorem l_L_start_24 : bh_tb T_L_start 24 = bo_ast 25 3 := rfl
theorem l_L_start_25 : bh_tb T_L_start 25 = bo_st 26 (bg_push (.inl (.int 5))) := rfl
theorem l_L_start_26 : bh_tb T_L_start 26 = bo_iret 5 := rfl
theorem l_L_start_27 : bh_tb T_L_start 27 = bo_st 28 (bg_push (.inl (.int 0))) := rfl
theorem l_L_start_28 : bh_tb T_L_start 28 = bo_iret 5 := rfl
theorem l_L_stop_0 : bh_tb T_L_stop 0 = bo_ald 1 2 := rfl
theorem l_L_stop_1 : bh_tb T_L_stop 1 = bo_st 2 (bg_push (.inl (.int 0))) := rfl
theorem l_L_stop_2 : bh_tb T_L_stop 2 = bo_ald 3 0 := rfl
theorem l_L_stop_3 : bh_tb T_L_stop 3 = bo_ild 4 1 := rfl
theorem l_L_stop_4 : bh_tb T_L_stop 4 = bo_callC 7 2 2 2 3 F_H_stop [("java/lang/IllegalArgumentException", 1), ("java/util/NoSuchElementException", 2)] := rfl
theorem l_L_stop_7 : bh_tb T_L_stop 7 = bo_st 8 (bg_i1 (fun x => .inl (.long x.toInt64))) := rfl
theorem l_L_stop_8 : bh_tb T_L_stop 8 = bo_Jast bh_ak bh_al 9 := rfl
theorem l_L_stop_9 : bh_tb T_L_stop 9 = bo_go 18 := rfl
theorem l_L_stop_12 : bh_tb T_L_stop 12 = bo_ast 13 3 := rfl
theorem l_L_stop_13 : bh_tb T_L_stop 13 = bo_st 14 (bg_push (.inl (.int 1))) := rfl
theorem l_L_stop_14 : bh_tb T_L_stop 14 = bo_iret 2 := rfl
theorem l_L_stop_15 : bh_tb T_L_stop 15 = bo_ast 16 3 := rfl
theorem l_L_stop_16 : bh_tb T_L_stop 16 = bo_st 17 (bg_push (.inl (.int 2))) := rfl
theorem l_L_stop_17 : bh_tb T_L_stop 17 = bo_iret 2 := rfl
theorem l_L_stop_18 : bh_tb T_L_stop 18 = bo_st 19 (bg_push (.inl (.int 0))) := rfl
theorem l_L_stop_19 : bh_tb T_L_stop 19 = bo_iret 2 := rfl
theorem l_L_level_0 : bh_tb T_L_level 0 = bo_ald 1 2 := rfl
theorem l_L_level_1 : bh_tb T_L_level 1 = bo_st 2 (bg_push (.inl (.int 0))) := rfl
theorem l_L_level_2 : bh_tb T_L_level 2 = bo_ald 3 0 := rfl
theorem l_L_level_3 : bh_tb T_L_level 3 = bo_ild 4 1 := rfl
theorem l_L_level_4 : bh_tb T_L_level 4 = bo_callC 7 2 1 1 3 F_H_level [("java/lang/IllegalArgumentException", 1)] := rfl
theorem l_L_level_7 : bh_tb T_L_level 7 = bo_st 8 (bg_i1 (fun x => .inl (.long x.toInt64))) := rfl
theorem l_L_level_8 : bh_tb T_L_level 8 = bo_Jast bh_ak bh_al 9 := rfl
theorem l_L_level_9 : bh_tb T_L_level 9 = bo_go 15 := rfl
theorem l_L_level_12 : bh_tb T_L_level 12 = bo_ast 13 3 := rfl
theorem l_L_level_13 : bh_tb T_L_level 13 = bo_st 14 (bg_push (.inl (.int 1))) := rfl
theorem l_L_level_14 : bh_tb T_L_level 14 = bo_iret 1 := rfl
theorem l_L_level_15 : bh_tb T_L_level 15 = bo_st 16 (bg_push (.inl (.int 0))) := rfl
theorem l_L_level_16 : bh_tb T_L_level 16 = bo_iret 1 := rfl
theorem l_L_uninstall_0 : bh_tb T_L_uninstall 0 = bo_ald 1 2 := rfl
theorem l_L_uninstall_1 : bh_tb T_L_uninstall 1 = bo_st 2 (bg_push (.inl (.int 0))) := rfl
theorem l_L_uninstall_2 : bh_tb T_L_uninstall 2 = bo_ald 3 0 := rfl
theorem l_L_uninstall_3 : bh_tb T_L_uninstall 3 = bo_ild 4 1 := rfl
theorem l_L_uninstall_4 : bh_tb T_L_uninstall 4 = bo_callC 7 2 2 2 3 F_H_uninstall [("java/lang/IllegalArgumentException", 1), ("java/util/NoSuchElementException", 2)] := rfl
theorem l_L_uninstall_7 : bh_tb T_L_uninstall 7 = bo_st 8 (bg_i1 (fun x => .inl (.long x.toInt64))) := rfl
theorem l_L_uninstall_8 : bh_tb T_L_uninstall 8 = bo_Jast bh_ak bh_al 9 := rfl
theorem l_L_uninstall_9 : bh_tb T_L_uninstall 9 = bo_go 18 := rfl
theorem l_L_uninstall_12 : bh_tb T_L_uninstall 12 = bo_ast 13 3 := rfl
theorem l_L_uninstall_13 : bh_tb T_L_uninstall 13 = bo_st 14 (bg_push (.inl (.int 1))) := rfl
theorem l_L_uninstall_14 : bh_tb T_L_uninstall 14 = bo_iret 2 := rfl
theorem l_L_uninstall_15 : bh_tb T_L_uninstall 15 = bo_ast 16 3 := rfl
theorem l_L_uninstall_16 : bh_tb T_L_uninstall 16 = bo_st 17 (bg_push (.inl (.int 2))) := rfl
theorem l_L_uninstall_17 : bh_tb T_L_uninstall 17 = bo_iret 2 := rfl
theorem l_L_uninstall_18 : bh_tb T_L_uninstall 18 = bo_st 19 (bg_push (.inl (.int 0))) := rfl
theorem l_L_uninstall_19 : bh_tb T_L_uninstall 19 = bo_iret 2 := rfl
theorem l_L_update_0 : bh_tb T_L_update 0 = bo_ald 1 2 := rfl
theorem l_L_update_1 : bh_tb T_L_update 1 = bo_st 2 (bg_push (.inl (.int 0))) := rfl
theorem l_L_update_2 : bh_tb T_L_update 2 = bo_ald 3 0 := rfl
theorem l_L_update_3 : bh_tb T_L_update 3 = bo_ild 4 1 := rfl
theorem l_L_update_4 : bh_tb T_L_update 4 = bo_callC 7 2 2 2 3 F_H_update [("java/lang/IllegalArgumentException", 1), ("java/util/NoSuchElementException", 2)] := rfl
theorem l_L_update_7 : bh_tb T_L_update 7 = bo_st 8 (bg_i1 (fun x => .inl (.long x.toInt64))) := rfl
theorem l_L_update_8 : bh_tb T_L_update 8 = bo_Jast bh_ak bh_al 9 := rfl
theorem l_L_update_9 : bh_tb T_L_update 9 = bo_go 18 := rfl
theorem l_L_update_12 : bh_tb T_L_update 12 = bo_ast 13 3 := rfl
theorem l_L_update_13 : bh_tb T_L_update 13 = bo_st 14 (bg_push (.inl (.int 1))) := rfl
theorem l_L_update_14 : bh_tb T_L_update 14 = bo_iret 2 := rfl
theorem l_L_update_15 : bh_tb T_L_update 15 = bo_ast 16 3 := rfl
theorem l_L_update_16 : bh_tb T_L_update 16 = bo_st 17 (bg_push (.inl (.int 2))) := rfl
theorem l_L_update_17 : bh_tb T_L_update 17 = bo_iret 2 := rfl
theorem l_L_update_18 : bh_tb T_L_update 18 = bo_st 19 (bg_push (.inl (.int 0))) := rfl
theorem l_L_update_19 : bh_tb T_L_update 19 = bo_iret 2 := rfl
theorem l_L_register_0 : bh_tb T_L_register 0 = bo_ald 2 5 := rfl
theorem l_L_register_2 : bh_tb T_L_register 2 = bo_st 3 (bg_push (.inl (.int 0))) := rfl
theorem l_L_register_3 : bh_tb T_L_register 3 = bo_ald 4 0 := rfl
theorem l_L_register_4 : bh_tb T_L_register 4 = bo_ild 5 1 := rfl
theorem l_L_register_5 : bh_tb T_L_register 5 = bo_ild 6 2 := rfl
theorem l_L_register_6 : bh_tb T_L_register 6 = bo_dld 7 3 := rfl
theorem l_L_register_7 : bh_tb T_L_register 7 = bo_callC 10 4 6 6 3 F_H_register [("java/lang/IllegalArgumentException", 1), ("java/util/NoSuchElementException", 2), ("java/lang/IllegalStateException", 3), ("java/lang/UnsupportedOperationException", 4)] := rfl
theorem l_L_register_10 : bh_tb T_L_register 10 = bo_st 11 (bg_i1 (fun x => .inl (.long x.toInt64))) := rfl
theorem l_L_register_11 : bh_tb T_L_register 11 = bo_Jast bh_ak bh_al 12 := rfl
theorem l_L_register_12 : bh_tb T_L_register 12 = bo_go 31 := rfl
theorem l_L_register_15 : bh_tb T_L_register 15 = bo_ast 17 6 := rfl
theorem l_L_register_17 : bh_tb T_L_register 17 = bo_st 18 (bg_push (.inl (.int 1))) := rfl
theorem l_L_register_18 : bh_tb T_L_register 18 = bo_iret 6 := rfl
theorem l_L_register_19 : bh_tb T_L_register 19 = bo_ast 21 6 := rfl
theorem l_L_register_21 : bh_tb T_L_register 21 = bo_st 22 (bg_push (.inl (.int 2))) := rfl
theorem l_L_register_22 : bh_tb T_L_register 22 = bo_iret 6 := rfl
theorem l_L_register_23 : bh_tb T_L_register 23 = bo_ast 25 6 := rfl
theorem l_L_register_25 : bh_tb T_L_register 25 = bo_st 26 (bg_push (.inl (.int 3))) := rfl
theorem l_L_register_26 : bh_tb T_L_register 26 = bo_iret 6 := rfl
theorem l_L_register_27 : bh_tb T_L_register 27 = bo_ast 29 6 := rfl
theorem l_L_register_29 : bh_tb T_L_register 29 = bo_st 30 (bg_push (.inl (.int 4))) := rfl
theorem l_L_register_30 : bh_tb T_L_register 30 = bo_iret 6 := rfl
theorem l_L_register_31 : bh_tb T_L_register 31 = bo_st 32 (bg_push (.inl (.int 0))) := rfl
theorem l_L_register_32 : bh_tb T_L_register 32 = bo_iret 6 := rfl
theorem l_L_get_0 : bh_tb T_L_get 0 = bo_ald 1 3 := rfl
theorem l_L_get_1 : bh_tb T_L_get 1 = bo_st 2 (bg_push (.inl (.int 0))) := rfl
theorem l_L_get_2 : bh_tb T_L_get 2 = bo_ald 3 0 := rfl
theorem l_L_get_3 : bh_tb T_L_get 3 = bo_ild 4 1 := rfl
theorem l_L_get_4 : bh_tb T_L_get 4 = bo_ild 5 2 := rfl
theorem l_L_get_5 : bh_tb T_L_get 5 = bo_callC 8 3 5 5 3 F_H_get [("java/lang/IllegalArgumentException", 1), ("java/util/NoSuchElementException", 2), ("java/lang/IllegalStateException", 3), ("java/lang/UnsupportedOperationException", 4)] := rfl
theorem l_L_get_8 : bh_tb T_L_get 8 = bo_st 9 (bg_i1 (fun x => .inl (.long x.toInt64))) := rfl
theorem l_L_get_9 : bh_tb T_L_get 9 = bo_Jast bh_ak bh_al 10 := rfl
theorem l_L_get_10 : bh_tb T_L_get 10 = bo_go 29 := rfl
theorem l_L_get_13 : bh_tb T_L_get 13 = bo_ast 15 4 := rfl
theorem l_L_get_15 : bh_tb T_L_get 15 = bo_st 16 (bg_push (.inl (.int 1))) := rfl
theorem l_L_get_16 : bh_tb T_L_get 16 = bo_iret 5 := rfl
theorem l_L_get_17 : bh_tb T_L_get 17 = bo_ast 19 4 := rfl
theorem l_L_get_19 : bh_tb T_L_get 19 = bo_st 20 (bg_push (.inl (.int 2))) := rfl
theorem l_L_get_20 : bh_tb T_L_get 20 = bo_iret 5 := rfl
theorem l_L_get_21 : bh_tb T_L_get 21 = bo_ast 23 4 := rfl
theorem l_L_get_23 : bh_tb T_L_get 23 = bo_st 24 (bg_push (.inl (.int 3))) := rfl
theorem l_L_get_24 : bh_tb T_L_get 24 = bo_iret 5 := rfl
theorem l_L_get_25 : bh_tb T_L_get 25 = bo_ast 27 4 := rfl
theorem l_L_get_27 : bh_tb T_L_get 27 = bo_st 28 (bg_push (.inl (.int 4))) := rfl
theorem l_L_get_28 : bh_tb T_L_get 28 = bo_iret 5 := rfl
theorem l_L_get_29 : bh_tb T_L_get 29 = bo_st 30 (bg_push (.inl (.int 0))) := rfl
theorem l_L_get_30 : bh_tb T_L_get 30 = bo_iret 5 := rfl
theorem l_L_giveBack_0 : bh_tb T_L_giveBack 0 = bo_ald 1 3 := rfl
theorem l_L_giveBack_1 : bh_tb T_L_giveBack 1 = bo_st 2 (bg_push (.inl (.int 0))) := rfl
theorem l_L_giveBack_2 : bh_tb T_L_giveBack 2 = bo_ald 3 0 := rfl
theorem l_L_giveBack_3 : bh_tb T_L_giveBack 3 = bo_ild 4 1 := rfl
theorem l_L_giveBack_4 : bh_tb T_L_giveBack 4 = bo_ild 5 2 := rfl
theorem l_L_giveBack_5 : bh_tb T_L_giveBack 5 = bo_callC 8 3 4 4 3 F_H_giveBack [("java/lang/IllegalArgumentException", 1), ("java/util/NoSuchElementException", 2), ("java/lang/UnsupportedOperationException", 3)] := rfl
theorem l_L_giveBack_8 : bh_tb T_L_giveBack 8 = bo_st 9 (bg_i1 (fun x => .inl (.long x.toInt64))) := rfl
theorem l_L_giveBack_9 : bh_tb T_L_giveBack 9 = bo_Jast bh_ak bh_al 10 := rfl
theorem l_L_giveBack_10 : bh_tb T_L_giveBack 10 = bo_go 25 := rfl
theorem l_L_giveBack_13 : bh_tb T_L_giveBack 13 = bo_ast 15 4 := rfl
theorem l_L_giveBack_15 : bh_tb T_L_giveBack 15 = bo_st 16 (bg_push (.inl (.int 1))) := rfl
theorem l_L_giveBack_16 : bh_tb T_L_giveBack 16 = bo_iret 4 := rfl
theorem l_L_giveBack_17 : bh_tb T_L_giveBack 17 = bo_ast 19 4 := rfl
theorem l_L_giveBack_19 : bh_tb T_L_giveBack 19 = bo_st 20 (bg_push (.inl (.int 2))) := rfl
theorem l_L_giveBack_20 : bh_tb T_L_giveBack 20 = bo_iret 4 := rfl
theorem l_L_giveBack_21 : bh_tb T_L_giveBack 21 = bo_ast 23 4 := rfl
theorem l_L_giveBack_23 : bh_tb T_L_giveBack 23 = bo_st 24 (bg_push (.inl (.int 3))) := rfl
theorem l_L_giveBack_24 : bh_tb T_L_giveBack 24 = bo_iret 4 := rfl
theorem l_L_giveBack_25 : bh_tb T_L_giveBack 25 = bo_st 26 (bg_push (.inl (.int 0))) := rfl
theorem l_L_giveBack_26 : bh_tb T_L_giveBack 26 = bo_iret 4 := rfl
theorem l_L_unregister_0 : bh_tb T_L_unregister 0 = bo_ald 1 3 := rfl
theorem l_L_unregister_1 : bh_tb T_L_unregister 1 = bo_st 2 (bg_push (.inl (.int 0))) := rfl
theorem l_L_unregister_2 : bh_tb T_L_unregister 2 = bo_ald 3 0 := rfl
theorem l_L_unregister_3 : bh_tb T_L_unregister 3 = bo_ild 4 1 := rfl
theorem l_L_unregister_4 : bh_tb T_L_unregister 4 = bo_ild 5 2 := rfl
theorem l_L_unregister_5 : bh_tb T_L_unregister 5 = bo_callC 8 3 4 4 3 F_H_unregister [("java/lang/IllegalArgumentException", 1), ("java/util/NoSuchElementException", 2), ("java/lang/UnsupportedOperationException", 3)] := rfl
theorem l_L_unregister_8 : bh_tb T_L_unregister 8 = bo_st 9 (bg_i1 (fun x => .inl (.long x.toInt64))) := rfl
theorem l_L_unregister_9 : bh_tb T_L_unregister 9 = bo_Jast bh_ak bh_al 10 := rfl
theorem l_L_unregister_10 : bh_tb T_L_unregister 10 = bo_go 25 := rfl
theorem l_L_unregister_13 : bh_tb T_L_unregister 13 = bo_ast 15 4 := rfl
theorem l_L_unregister_15 : bh_tb T_L_unregister 15 = bo_st 16 (bg_push (.inl (.int 1))) := rfl
theorem l_L_unregister_16 : bh_tb T_L_unregister 16 = bo_iret 4 := rfl
theorem l_L_unregister_17 : bh_tb T_L_unregister 17 = bo_ast 19 4 := rfl
theorem l_L_unregister_19 : bh_tb T_L_unregister 19 = bo_st 20 (bg_push (.inl (.int 2))) := rfl
theorem l_L_unregister_20 : bh_tb T_L_unregister 20 = bo_iret 4 := rfl
theorem l_L_unregister_21 : bh_tb T_L_unregister 21 = bo_ast 23 4 := rfl
theorem l_L_unregister_23 : bh_tb T_L_unregister 23 = bo_st 24 (bg_push (.inl (.int 3))) := rfl
theorem l_L_unregister_24 : bh_tb T_L_unregister 24 = bo_iret 4 := rfl
theorem l_L_unregister_25 : bh_tb T_L_unregister 25 = bo_st 26 (bg_push (.inl (.int 0))) := rfl
theorem l_L_unregister_26 : bh_tb T_L_unregister 26 = bo_iret 4 := rfl
theorem l_L_rank_0 : bh_tb T_L_rank 0 = bo_ald 1 2 := rfl
theorem l_L_rank_1 : bh_tb T_L_rank 1 = bo_st 2 (bg_push (.inl (.int 0))) := rfl
theorem l_L_rank_2 : bh_tb T_L_rank 2 = bo_ald 3 0 := rfl
theorem l_L_rank_3 : bh_tb T_L_rank 3 = bo_ild 4 1 := rfl
theorem l_L_rank_4 : bh_tb T_L_rank 4 = bo_callC 7 2 2 2 3 F_H_rank [("java/lang/IllegalArgumentException", 1), ("java/lang/ArithmeticException", 2)] := rfl
theorem l_L_rank_7 : bh_tb T_L_rank 7 = bo_Dast bh_ak bh_al 8 := rfl
theorem l_L_rank_8 : bh_tb T_L_rank 8 = bo_go 17 := rfl
theorem l_L_rank_11 : bh_tb T_L_rank 11 = bo_ast 12 3 := rfl
theorem l_L_rank_12 : bh_tb T_L_rank 12 = bo_st 13 (bg_push (.inl (.int 1))) := rfl
theorem l_L_rank_13 : bh_tb T_L_rank 13 = bo_iret 2 := rfl
theorem l_L_rank_14 : bh_tb T_L_rank 14 = bo_ast 15 3 := rfl
theorem l_L_rank_15 : bh_tb T_L_rank 15 = bo_st 16 (bg_push (.inl (.int 2))) := rfl
theorem l_L_rank_16 : bh_tb T_L_rank 16 = bo_iret 2 := rfl
theorem l_L_rank_17 : bh_tb T_L_rank 17 = bo_st 18 (bg_push (.inl (.int 0))) := rfl
theorem l_L_rank_18 : bh_tb T_L_rank 18 = bo_iret 2 := rfl
theorem l_L_event_0 : bh_tb T_L_event 0 = bo_ald 1 1 := rfl
theorem l_L_event_1 : bh_tb T_L_event 1 = bo_st 2 (bg_push (.inl (.int 0))) := rfl
theorem l_L_event_2 : bh_tb T_L_event 2 = bo_ald 3 0 := rfl
theorem l_L_event_3 : bh_tb T_L_event 3 = bo_callC 6 1 1 1 3 F_H_event [("java/lang/IllegalStateException", 1)] := rfl
theorem l_L_event_6 : bh_tb T_L_event 6 = bo_st 7 (bg_i1 (fun x => .inl (.long x.toInt64))) := rfl
theorem l_L_event_7 : bh_tb T_L_event 7 = bo_Jast bh_ak bh_al 8 := rfl
theorem l_L_event_8 : bh_tb T_L_event 8 = bo_go 14 := rfl
theorem l_L_event_11 : bh_tb T_L_event 11 = bo_ast 12 2 := rfl
theorem l_L_event_12 : bh_tb T_L_event 12 = bo_st 13 (bg_push (.inl (.int 1))) := rfl
theorem l_L_event_13 : bh_tb T_L_event 13 = bo_iret 1 := rfl
theorem l_L_event_14 : bh_tb T_L_event 14 = bo_st 15 (bg_push (.inl (.int 0))) := rfl
theorem l_L_event_15 : bh_tb T_L_event 15 = bo_iret 1 := rfl
theorem l_L_about_0 : bh_tb T_L_about 0 = bo_ald 1 3 := rfl
theorem l_L_about_1 : bh_tb T_L_about 1 = bo_st 2 (bg_push (.inl (.int 0))) := rfl
theorem l_L_about_2 : bh_tb T_L_about 2 = bo_ald 3 0 := rfl
theorem l_L_about_3 : bh_tb T_L_about 3 = bo_ild 4 1 := rfl
theorem l_L_about_4 : bh_tb T_L_about 4 = bo_ild 5 2 := rfl
theorem l_L_about_5 : bh_tb T_L_about 5 = bo_callC 8 3 2 2 3 F_H_about [("java/lang/IllegalArgumentException", 1)] := rfl
theorem l_L_about_8 : bh_tb T_L_about 8 = bo_st 9 (bg_i1 (fun x => .inl (.long x.toInt64))) := rfl
theorem l_L_about_9 : bh_tb T_L_about 9 = bo_Jast bh_ak bh_al 10 := rfl
theorem l_L_about_10 : bh_tb T_L_about 10 = bo_go 17 := rfl
theorem l_L_about_13 : bh_tb T_L_about 13 = bo_ast 15 4 := rfl
theorem l_L_about_15 : bh_tb T_L_about 15 = bo_st 16 (bg_push (.inl (.int 1))) := rfl
theorem l_L_about_16 : bh_tb T_L_about 16 = bo_iret 2 := rfl
theorem l_L_about_17 : bh_tb T_L_about 17 = bo_st 18 (bg_push (.inl (.int 0))) := rfl
theorem l_L_about_18 : bh_tb T_L_about 18 = bo_iret 2 := rfl
theorem l_L_count_0 : bh_tb T_L_count 0 = bo_ald 1 2 := rfl
theorem l_L_count_1 : bh_tb T_L_count 1 = bo_st 2 (bg_push (.inl (.int 0))) := rfl
theorem l_L_count_2 : bh_tb T_L_count 2 = bo_ald 3 0 := rfl
theorem l_L_count_3 : bh_tb T_L_count 3 = bo_ild 4 1 := rfl
theorem l_L_count_4 : bh_tb T_L_count 4 = bo_callC 7 2 1 1 3 F_H_count [("java/lang/IllegalArgumentException", 1)] := rfl
theorem l_L_count_7 : bh_tb T_L_count 7 = bo_st 8 (bg_i1 (fun x => .inl (.long x.toInt64))) := rfl
theorem l_L_count_8 : bh_tb T_L_count 8 = bo_Jast bh_ak bh_al 9 := rfl
theorem l_L_count_9 : bh_tb T_L_count 9 = bo_go 15 := rfl
theorem l_L_count_12 : bh_tb T_L_count 12 = bo_ast 13 3 := rfl
theorem l_L_count_13 : bh_tb T_L_count 13 = bo_st 14 (bg_push (.inl (.int 1))) := rfl
theorem l_L_count_14 : bh_tb T_L_count 14 = bo_iret 1 := rfl
theorem l_L_count_15 : bh_tb T_L_count 15 = bo_st 16 (bg_push (.inl (.int 0))) := rfl
theorem l_L_count_16 : bh_tb T_L_count 16 = bo_iret 1 := rfl
theorem bh_tb_ne {A B : List (Nat × bh_Op)} {pc b : Nat} (h : A.all (fun q => Nat.blt q.1 b) = true) (hb : b ≤ pc) : bh_tb (A ++ B) pc = bh_tb B pc := by
  induction A with
  | nil => rfl
  | cons q A ih =>
    rw [List.all_cons, Bool.and_eq_true] at h
    have h1 : ¬ pc = q.1 := by
      have := Nat.le_of_ble_eq_true h.1
      omega
    show (if pc = q.1 then q.2 else bh_tb (A ++ B) pc) = _
    rw [if_neg h1]
    exact ih h.2
def tr_19 (xs : Nat → Int32) (N : Nat) : List (Nat × bh_Op) := T_L_law_19 xs N
def tr_18 (xs : Nat → Int32) (N : Nat) : List (Nat × bh_Op) := T_L_law_18 xs N ++ tr_19 xs N
def tr_17 (xs : Nat → Int32) (N : Nat) : List (Nat × bh_Op) := T_L_law_17 xs N ++ tr_18 xs N
def tr_16 (xs : Nat → Int32) (N : Nat) : List (Nat × bh_Op) := T_L_law_16 xs N ++ tr_17 xs N
def tr_15 (xs : Nat → Int32) (N : Nat) : List (Nat × bh_Op) := T_L_law_15 xs N ++ tr_16 xs N
def tr_14 (xs : Nat → Int32) (N : Nat) : List (Nat × bh_Op) := T_L_law_14 xs N ++ tr_15 xs N
def tr_13 (xs : Nat → Int32) (N : Nat) : List (Nat × bh_Op) := T_L_law_13 xs N ++ tr_14 xs N
def tr_12 (xs : Nat → Int32) (N : Nat) : List (Nat × bh_Op) := T_L_law_12 xs N ++ tr_13 xs N
def tr_11 (xs : Nat → Int32) (N : Nat) : List (Nat × bh_Op) := T_L_law_11 xs N ++ tr_12 xs N
def tr_10 (xs : Nat → Int32) (N : Nat) : List (Nat × bh_Op) := T_L_law_10 xs N ++ tr_11 xs N
def tr_9 (xs : Nat → Int32) (N : Nat) : List (Nat × bh_Op) := T_L_law_9 xs N ++ tr_10 xs N
def tr_8 (xs : Nat → Int32) (N : Nat) : List (Nat × bh_Op) := T_L_law_8 xs N ++ tr_9 xs N
def tr_7 (xs : Nat → Int32) (N : Nat) : List (Nat × bh_Op) := T_L_law_7 xs N ++ tr_8 xs N
def tr_6 (xs : Nat → Int32) (N : Nat) : List (Nat × bh_Op) := T_L_law_6 xs N ++ tr_7 xs N
def tr_5 (xs : Nat → Int32) (N : Nat) : List (Nat × bh_Op) := T_L_law_5 xs N ++ tr_6 xs N
def tr_4 (xs : Nat → Int32) (N : Nat) : List (Nat × bh_Op) := T_L_law_4 xs N ++ tr_5 xs N
def tr_3 (xs : Nat → Int32) (N : Nat) : List (Nat × bh_Op) := T_L_law_3 xs N ++ tr_4 xs N
def tr_2 (xs : Nat → Int32) (N : Nat) : List (Nat × bh_Op) := T_L_law_2 xs N ++ tr_3 xs N
def tr_1 (xs : Nat → Int32) (N : Nat) : List (Nat × bh_Op) := T_L_law_1 xs N ++ tr_2 xs N
def tr_0 (xs : Nat → Int32) (N : Nat) : List (Nat × bh_Op) := T_L_law_0 xs N ++ tr_1 xs N
theorem tk_0 {xs : Nat → Int32} {N : Nat} (pc : Nat) : bh_tb (T_L_law xs N) pc = bh_tb (tr_0 xs N) pc := by
  simp only [T_L_law, tr_0, tr_1, tr_2, tr_3, tr_4, tr_5, tr_6, tr_7, tr_8, tr_9, tr_10, tr_11, tr_12, tr_13, tr_14, tr_15, tr_16, tr_17, tr_18, tr_19, List.append_assoc]
theorem tk_1 {xs : Nat → Int32} {N : Nat} (pc : Nat) (h : Nat.ble 146 pc = true) : bh_tb (T_L_law xs N) pc = bh_tb (tr_1 xs N) pc := (tk_0 pc).trans (bh_tb_ne (A := T_L_law_0 xs N) (b := 146) rfl (Nat.le_of_ble_eq_true h))
theorem tk_2 {xs : Nat → Int32} {N : Nat} (pc : Nat) (h : Nat.ble 203 pc = true) : bh_tb (T_L_law xs N) pc = bh_tb (tr_2 xs N) pc := (tk_1 pc (Nat.ble_eq_true_of_le (Nat.le_trans (by decide) (Nat.le_of_ble_eq_true h)))).trans (bh_tb_ne (A := T_L_law_1 xs N) (b := 203) rfl (Nat.le_of_ble_eq_true h))
theorem tk_3 {xs : Nat → Int32} {N : Nat} (pc : Nat) (h : Nat.ble 259 pc = true) : bh_tb (T_L_law xs N) pc = bh_tb (tr_3 xs N) pc := (tk_2 pc (Nat.ble_eq_true_of_le (Nat.le_trans (by decide) (Nat.le_of_ble_eq_true h)))).trans (bh_tb_ne (A := T_L_law_2 xs N) (b := 259) rfl (Nat.le_of_ble_eq_true h))
theorem tk_4 {xs : Nat → Int32} {N : Nat} (pc : Nat) (h : Nat.ble 318 pc = true) : bh_tb (T_L_law xs N) pc = bh_tb (tr_4 xs N) pc := (tk_3 pc (Nat.ble_eq_true_of_le (Nat.le_trans (by decide) (Nat.le_of_ble_eq_true h)))).trans (bh_tb_ne (A := T_L_law_3 xs N) (b := 318) rfl (Nat.le_of_ble_eq_true h))
theorem tk_5 {xs : Nat → Int32} {N : Nat} (pc : Nat) (h : Nat.ble 372 pc = true) : bh_tb (T_L_law xs N) pc = bh_tb (tr_5 xs N) pc := (tk_4 pc (Nat.ble_eq_true_of_le (Nat.le_trans (by decide) (Nat.le_of_ble_eq_true h)))).trans (bh_tb_ne (A := T_L_law_4 xs N) (b := 372) rfl (Nat.le_of_ble_eq_true h))
theorem tk_6 {xs : Nat → Int32} {N : Nat} (pc : Nat) (h : Nat.ble 437 pc = true) : bh_tb (T_L_law xs N) pc = bh_tb (tr_6 xs N) pc := (tk_5 pc (Nat.ble_eq_true_of_le (Nat.le_trans (by decide) (Nat.le_of_ble_eq_true h)))).trans (bh_tb_ne (A := T_L_law_5 xs N) (b := 437) rfl (Nat.le_of_ble_eq_true h))
theorem tk_7 {xs : Nat → Int32} {N : Nat} (pc : Nat) (h : Nat.ble 499 pc = true) : bh_tb (T_L_law xs N) pc = bh_tb (tr_7 xs N) pc := (tk_6 pc (Nat.ble_eq_true_of_le (Nat.le_trans (by decide) (Nat.le_of_ble_eq_true h)))).trans (bh_tb_ne (A := T_L_law_6 xs N) (b := 499) rfl (Nat.le_of_ble_eq_true h))
theorem tk_8 {xs : Nat → Int32} {N : Nat} (pc : Nat) (h : Nat.ble 565 pc = true) : bh_tb (T_L_law xs N) pc = bh_tb (tr_8 xs N) pc := (tk_7 pc (Nat.ble_eq_true_of_le (Nat.le_trans (by decide) (Nat.le_of_ble_eq_true h)))).trans (bh_tb_ne (A := T_L_law_7 xs N) (b := 565) rfl (Nat.le_of_ble_eq_true h))
theorem tk_9 {xs : Nat → Int32} {N : Nat} (pc : Nat) (h : Nat.ble 630 pc = true) : bh_tb (T_L_law xs N) pc = bh_tb (tr_9 xs N) pc := (tk_8 pc (Nat.ble_eq_true_of_le (Nat.le_trans (by decide) (Nat.le_of_ble_eq_true h)))).trans (bh_tb_ne (A := T_L_law_8 xs N) (b := 630) rfl (Nat.le_of_ble_eq_true h))
theorem tk_10 {xs : Nat → Int32} {N : Nat} (pc : Nat) (h : Nat.ble 694 pc = true) : bh_tb (T_L_law xs N) pc = bh_tb (tr_10 xs N) pc := (tk_9 pc (Nat.ble_eq_true_of_le (Nat.le_trans (by decide) (Nat.le_of_ble_eq_true h)))).trans (bh_tb_ne (A := T_L_law_9 xs N) (b := 694) rfl (Nat.le_of_ble_eq_true h))
theorem tk_11 {xs : Nat → Int32} {N : Nat} (pc : Nat) (h : Nat.ble 757 pc = true) : bh_tb (T_L_law xs N) pc = bh_tb (tr_11 xs N) pc := (tk_10 pc (Nat.ble_eq_true_of_le (Nat.le_trans (by decide) (Nat.le_of_ble_eq_true h)))).trans (bh_tb_ne (A := T_L_law_10 xs N) (b := 757) rfl (Nat.le_of_ble_eq_true h))
theorem tk_12 {xs : Nat → Int32} {N : Nat} (pc : Nat) (h : Nat.ble 815 pc = true) : bh_tb (T_L_law xs N) pc = bh_tb (tr_12 xs N) pc := (tk_11 pc (Nat.ble_eq_true_of_le (Nat.le_trans (by decide) (Nat.le_of_ble_eq_true h)))).trans (bh_tb_ne (A := T_L_law_11 xs N) (b := 815) rfl (Nat.le_of_ble_eq_true h))
theorem tk_13 {xs : Nat → Int32} {N : Nat} (pc : Nat) (h : Nat.ble 876 pc = true) : bh_tb (T_L_law xs N) pc = bh_tb (tr_13 xs N) pc := (tk_12 pc (Nat.ble_eq_true_of_le (Nat.le_trans (by decide) (Nat.le_of_ble_eq_true h)))).trans (bh_tb_ne (A := T_L_law_12 xs N) (b := 876) rfl (Nat.le_of_ble_eq_true h))
theorem tk_14 {xs : Nat → Int32} {N : Nat} (pc : Nat) (h : Nat.ble 938 pc = true) : bh_tb (T_L_law xs N) pc = bh_tb (tr_14 xs N) pc := (tk_13 pc (Nat.ble_eq_true_of_le (Nat.le_trans (by decide) (Nat.le_of_ble_eq_true h)))).trans (bh_tb_ne (A := T_L_law_13 xs N) (b := 938) rfl (Nat.le_of_ble_eq_true h))
theorem tk_15 {xs : Nat → Int32} {N : Nat} (pc : Nat) (h : Nat.ble 1000 pc = true) : bh_tb (T_L_law xs N) pc = bh_tb (tr_15 xs N) pc := (tk_14 pc (Nat.ble_eq_true_of_le (Nat.le_trans (by decide) (Nat.le_of_ble_eq_true h)))).trans (bh_tb_ne (A := T_L_law_14 xs N) (b := 1000) rfl (Nat.le_of_ble_eq_true h))
theorem tk_16 {xs : Nat → Int32} {N : Nat} (pc : Nat) (h : Nat.ble 1059 pc = true) : bh_tb (T_L_law xs N) pc = bh_tb (tr_16 xs N) pc := (tk_15 pc (Nat.ble_eq_true_of_le (Nat.le_trans (by decide) (Nat.le_of_ble_eq_true h)))).trans (bh_tb_ne (A := T_L_law_15 xs N) (b := 1059) rfl (Nat.le_of_ble_eq_true h))
theorem tk_17 {xs : Nat → Int32} {N : Nat} (pc : Nat) (h : Nat.ble 1126 pc = true) : bh_tb (T_L_law xs N) pc = bh_tb (tr_17 xs N) pc := (tk_16 pc (Nat.ble_eq_true_of_le (Nat.le_trans (by decide) (Nat.le_of_ble_eq_true h)))).trans (bh_tb_ne (A := T_L_law_16 xs N) (b := 1126) rfl (Nat.le_of_ble_eq_true h))
theorem tk_18 {xs : Nat → Int32} {N : Nat} (pc : Nat) (h : Nat.ble 1194 pc = true) : bh_tb (T_L_law xs N) pc = bh_tb (tr_18 xs N) pc := (tk_17 pc (Nat.ble_eq_true_of_le (Nat.le_trans (by decide) (Nat.le_of_ble_eq_true h)))).trans (bh_tb_ne (A := T_L_law_17 xs N) (b := 1194) rfl (Nat.le_of_ble_eq_true h))
theorem tk_19 {xs : Nat → Int32} {N : Nat} (pc : Nat) (h : Nat.ble 1256 pc = true) : bh_tb (T_L_law xs N) pc = bh_tb (tr_19 xs N) pc := (tk_18 pc (Nat.ble_eq_true_of_le (Nat.le_trans (by decide) (Nat.le_of_ble_eq_true h)))).trans (bh_tb_ne (A := T_L_law_18 xs N) (b := 1256) rfl (Nat.le_of_ble_eq_true h))
theorem l_L_law_0 {xs : Nat → Int32} {N : Nat} : bh_tb (T_L_law xs N) 0 = bo_new 3 3 5000 := (tk_0 0).trans rfl
theorem l_L_law_3 {xs : Nat → Int32} {N : Nat} : bh_tb (T_L_law xs N) 3 = bo_st 4 bg_dup := (tk_0 3).trans rfl
theorem l_L_law_4 {xs : Nat → Int32} {N : Nat} : bh_tb (T_L_law xs N) 4 = bo_callA 7 1 129 5000 3 F_H_init := (tk_0 4).trans rfl
theorem l_L_law_7 {xs : Nat → Int32} {N : Nat} : bh_tb (T_L_law xs N) 7 = bo_ast 8 1 := (tk_0 7).trans rfl
theorem l_L_law_8 {xs : Nat → Int32} {N : Nat} : bh_tb (T_L_law xs N) 8 = bo_new 11 40 5000 := (tk_0 8).trans rfl
theorem l_L_law_11 {xs : Nat → Int32} {N : Nat} : bh_tb (T_L_law xs N) 11 = bo_st 12 bg_dup := (tk_0 11).trans rfl
theorem l_L_law_12 {xs : Nat → Int32} {N : Nat} : bh_tb (T_L_law xs N) 12 = bo_callA 15 1 30 5000 40 F_M_init := (tk_0 12).trans rfl
theorem l_L_law_15 {xs : Nat → Int32} {N : Nat} : bh_tb (T_L_law xs N) 15 = bo_ast 16 2 := (tk_0 15).trans rfl
theorem l_L_law_16 {xs : Nat → Int32} {N : Nat} : bh_tb (T_L_law xs N) 16 = bo_st 17 (bg_push (.inl (.int 1))) := (tk_0 16).trans rfl
theorem l_L_law_17 {xs : Nat → Int32} {N : Nat} : bh_tb (T_L_law xs N) 17 = bo_newa bh_al 19 25 5000 := (tk_0 17).trans rfl
theorem l_L_law_19 {xs : Nat → Int32} {N : Nat} : bh_tb (T_L_law xs N) 19 = bo_ast 20 3 := (tk_0 19).trans rfl
theorem l_L_law_20 {xs : Nat → Int32} {N : Nat} : bh_tb (T_L_law xs N) 20 = bo_st 21 (bg_push (.inl (.int 1))) := (tk_0 20).trans rfl
theorem l_L_law_21 {xs : Nat → Int32} {N : Nat} : bh_tb (T_L_law xs N) 21 = bo_newa bh_al 23 26 5000 := (tk_0 21).trans rfl
theorem l_L_law_23 {xs : Nat → Int32} {N : Nat} : bh_tb (T_L_law xs N) 23 = bo_ast 25 4 := (tk_0 23).trans rfl
theorem l_L_law_25 {xs : Nat → Int32} {N : Nat} : bh_tb (T_L_law xs N) 25 = bo_st 26 (bg_push (.inl (.int 0))) := (tk_0 25).trans rfl
theorem l_L_law_26 {xs : Nat → Int32} {N : Nat} : bh_tb (T_L_law xs N) 26 = bo_ist 28 5 := (tk_0 26).trans rfl
theorem l_L_law_28 {xs : Nat → Int32} {N : Nat} : bh_tb (T_L_law xs N) 28 = bo_ild 30 5 := (tk_0 28).trans rfl
theorem l_L_law_30 {xs : Nat → Int32} {N : Nat} : bh_tb (T_L_law xs N) 30 = bo_ald 31 0 := (tk_0 30).trans rfl
theorem l_L_law_31 {xs : Nat → Int32} {N : Nat} : bh_tb (T_L_law xs N) 31 = bo_slen N 32 := (tk_0 31).trans rfl
theorem l_L_law_32 {xs : Nat → Int32} {N : Nat} : bh_tb (T_L_law xs N) 32 = bo_st 34 (bg_push (.inl (.int 6))) := (tk_0 32).trans rfl
theorem l_L_law_34 {xs : Nat → Int32} {N : Nat} : bh_tb (T_L_law xs N) 34 = bo_st 35 (bg_ii (fun x y => x - y)) := (tk_0 34).trans rfl
theorem l_L_law_35 {xs : Nat → Int32} {N : Nat} : bh_tb (T_L_law xs N) 35 = bo_if2 38 1318 (fun x y => y < x) := (tk_0 35).trans rfl
theorem l_L_law_38 {xs : Nat → Int32} {N : Nat} : bh_tb (T_L_law xs N) 38 = bo_ald 39 0 := (tk_0 38).trans rfl
theorem l_L_law_39 {xs : Nat → Int32} {N : Nat} : bh_tb (T_L_law xs N) 39 = bo_ild 41 5 := (tk_0 39).trans rfl
theorem l_L_law_41 {xs : Nat → Int32} {N : Nat} : bh_tb (T_L_law xs N) 41 = bo_sald xs N 42 := (tk_0 41).trans rfl
theorem l_L_law_42 {xs : Nat → Int32} {N : Nat} : bh_tb (T_L_law xs N) 42 = bo_st 44 (bg_push (.inl (.int 31))) := (tk_0 42).trans rfl
theorem l_L_law_44 {xs : Nat → Int32} {N : Nat} : bh_tb (T_L_law xs N) 44 = bo_st 45 (bg_ii (fun x y => x &&& y)) := (tk_0 44).trans rfl
theorem l_L_law_45 {xs : Nat → Int32} {N : Nat} : bh_tb (T_L_law xs N) 45 = bo_sw [(0, 132), (1, 224), (2, 304), (3, 424), (4, 480), (5, 536), (6, 592), (7, 648), (8, 704), (9, 760), (10, 773), (11, 863), (12, 931), (13, 999), (14, 1067), (15, 1144), (16, 1188), (17, 1256)] 1312 := (tk_0 45).trans rfl
theorem l_L_law_132 {xs : Nat → Int32} {N : Nat} : bh_tb (T_L_law xs N) 132 = bo_ald 133 1 := (tk_0 132).trans rfl
theorem l_L_law_133 {xs : Nat → Int32} {N : Nat} : bh_tb (T_L_law xs N) 133 = bo_ald 134 0 := (tk_0 133).trans rfl
theorem l_L_law_134 {xs : Nat → Int32} {N : Nat} : bh_tb (T_L_law xs N) 134 = bo_ild 136 5 := (tk_0 134).trans rfl
theorem l_L_law_136 {xs : Nat → Int32} {N : Nat} : bh_tb (T_L_law xs N) 136 = bo_st 137 (bg_push (.inl (.int 1))) := (tk_0 136).trans rfl
theorem l_L_law_137 {xs : Nat → Int32} {N : Nat} : bh_tb (T_L_law xs N) 137 = bo_st 138 (bg_ii (fun x y => x + y)) := (tk_0 137).trans rfl
theorem l_L_law_138 {xs : Nat → Int32} {N : Nat} : bh_tb (T_L_law xs N) 138 = bo_sald xs N 139 := (tk_0 138).trans rfl
theorem l_L_law_139 {xs : Nat → Int32} {N : Nat} : bh_tb (T_L_law xs N) 139 = bo_ald 140 0 := (tk_0 139).trans rfl
theorem l_L_law_140 {xs : Nat → Int32} {N : Nat} : bh_tb (T_L_law xs N) 140 = bo_ild 142 5 := (tk_0 140).trans rfl
theorem l_L_law_142 {xs : Nat → Int32} {N : Nat} : bh_tb (T_L_law xs N) 142 = bo_st 143 (bg_push (.inl (.int 2))) := (tk_0 142).trans rfl
theorem l_L_law_143 {xs : Nat → Int32} {N : Nat} : bh_tb (T_L_law xs N) 143 = bo_st 144 (bg_ii (fun x y => x + y)) := (tk_0 143).trans rfl
theorem l_L_law_144 {xs : Nat → Int32} {N : Nat} : bh_tb (T_L_law xs N) 144 = bo_sald xs N 145 := (tk_0 144).trans rfl
theorem l_L_law_145 {xs : Nat → Int32} {N : Nat} : bh_tb (T_L_law xs N) 145 = bo_ald 146 0 := (tk_0 145).trans rfl
theorem l_L_law_146 {xs : Nat → Int32} {N : Nat} : bh_tb (T_L_law xs N) 146 = bo_ild 148 5 := (tk_1 146 rfl).trans rfl
theorem l_L_law_148 {xs : Nat → Int32} {N : Nat} : bh_tb (T_L_law xs N) 148 = bo_st 149 (bg_push (.inl (.int 3))) := (tk_1 148 rfl).trans rfl
theorem l_L_law_149 {xs : Nat → Int32} {N : Nat} : bh_tb (T_L_law xs N) 149 = bo_st 150 (bg_ii (fun x y => x + y)) := (tk_1 149 rfl).trans rfl
theorem l_L_law_150 {xs : Nat → Int32} {N : Nat} : bh_tb (T_L_law xs N) 150 = bo_sald xs N 151 := (tk_1 150 rfl).trans rfl
theorem l_L_law_151 {xs : Nat → Int32} {N : Nat} : bh_tb (T_L_law xs N) 151 = bo_ald 152 0 := (tk_1 151 rfl).trans rfl
theorem l_L_law_152 {xs : Nat → Int32} {N : Nat} : bh_tb (T_L_law xs N) 152 = bo_ild 154 5 := (tk_1 152 rfl).trans rfl
theorem l_L_law_154 {xs : Nat → Int32} {N : Nat} : bh_tb (T_L_law xs N) 154 = bo_st 155 (bg_push (.inl (.int 4))) := (tk_1 154 rfl).trans rfl
theorem l_L_law_155 {xs : Nat → Int32} {N : Nat} : bh_tb (T_L_law xs N) 155 = bo_st 156 (bg_ii (fun x y => x + y)) := (tk_1 155 rfl).trans rfl
theorem l_L_law_156 {xs : Nat → Int32} {N : Nat} : bh_tb (T_L_law xs N) 156 = bo_sald xs N 157 := (tk_1 156 rfl).trans rfl
theorem l_L_law_157 {xs : Nat → Int32} {N : Nat} : bh_tb (T_L_law xs N) 157 = bo_ald 158 3 := (tk_1 157 rfl).trans rfl
theorem l_L_law_158 {xs : Nat → Int32} {N : Nat} : bh_tb (T_L_law xs N) 158 = bo_callS 161 6 5 5000 F_L_install := (tk_1 158 rfl).trans rfl
theorem l_L_law_161 {xs : Nat → Int32} {N : Nat} : bh_tb (T_L_law xs N) 161 = bo_ist 163 6 := (tk_1 161 rfl).trans rfl
theorem l_L_law_163 {xs : Nat → Int32} {N : Nat} : bh_tb (T_L_law xs N) 163 = bo_ald 164 2 := (tk_1 163 rfl).trans rfl
theorem l_L_law_164 {xs : Nat → Int32} {N : Nat} : bh_tb (T_L_law xs N) 164 = bo_ald 165 0 := (tk_1 164 rfl).trans rfl
theorem l_L_law_165 {xs : Nat → Int32} {N : Nat} : bh_tb (T_L_law xs N) 165 = bo_ild 167 5 := (tk_1 165 rfl).trans rfl
theorem l_L_law_167 {xs : Nat → Int32} {N : Nat} : bh_tb (T_L_law xs N) 167 = bo_st 168 (bg_push (.inl (.int 1))) := (tk_1 167 rfl).trans rfl
theorem l_L_law_168 {xs : Nat → Int32} {N : Nat} : bh_tb (T_L_law xs N) 168 = bo_st 169 (bg_ii (fun x y => x + y)) := (tk_1 168 rfl).trans rfl
theorem l_L_law_169 {xs : Nat → Int32} {N : Nat} : bh_tb (T_L_law xs N) 169 = bo_sald xs N 170 := (tk_1 169 rfl).trans rfl
theorem l_L_law_170 {xs : Nat → Int32} {N : Nat} : bh_tb (T_L_law xs N) 170 = bo_ald 171 0 := (tk_1 170 rfl).trans rfl
theorem l_L_law_171 {xs : Nat → Int32} {N : Nat} : bh_tb (T_L_law xs N) 171 = bo_ild 173 5 := (tk_1 171 rfl).trans rfl
theorem l_L_law_173 {xs : Nat → Int32} {N : Nat} : bh_tb (T_L_law xs N) 173 = bo_st 174 (bg_push (.inl (.int 2))) := (tk_1 173 rfl).trans rfl
theorem l_L_law_174 {xs : Nat → Int32} {N : Nat} : bh_tb (T_L_law xs N) 174 = bo_st 175 (bg_ii (fun x y => x + y)) := (tk_1 174 rfl).trans rfl
theorem l_L_law_175 {xs : Nat → Int32} {N : Nat} : bh_tb (T_L_law xs N) 175 = bo_sald xs N 176 := (tk_1 175 rfl).trans rfl
theorem l_L_law_176 {xs : Nat → Int32} {N : Nat} : bh_tb (T_L_law xs N) 176 = bo_ald 177 0 := (tk_1 176 rfl).trans rfl
theorem l_L_law_177 {xs : Nat → Int32} {N : Nat} : bh_tb (T_L_law xs N) 177 = bo_ild 179 5 := (tk_1 177 rfl).trans rfl
theorem l_L_law_179 {xs : Nat → Int32} {N : Nat} : bh_tb (T_L_law xs N) 179 = bo_st 180 (bg_push (.inl (.int 3))) := (tk_1 179 rfl).trans rfl
theorem l_L_law_180 {xs : Nat → Int32} {N : Nat} : bh_tb (T_L_law xs N) 180 = bo_st 181 (bg_ii (fun x y => x + y)) := (tk_1 180 rfl).trans rfl
theorem l_L_law_181 {xs : Nat → Int32} {N : Nat} : bh_tb (T_L_law xs N) 181 = bo_sald xs N 182 := (tk_1 181 rfl).trans rfl
theorem l_L_law_182 {xs : Nat → Int32} {N : Nat} : bh_tb (T_L_law xs N) 182 = bo_ald 183 0 := (tk_1 182 rfl).trans rfl
theorem l_L_law_183 {xs : Nat → Int32} {N : Nat} : bh_tb (T_L_law xs N) 183 = bo_ild 185 5 := (tk_1 183 rfl).trans rfl
theorem l_L_law_185 {xs : Nat → Int32} {N : Nat} : bh_tb (T_L_law xs N) 185 = bo_st 186 (bg_push (.inl (.int 4))) := (tk_1 185 rfl).trans rfl
theorem l_L_law_186 {xs : Nat → Int32} {N : Nat} : bh_tb (T_L_law xs N) 186 = bo_st 187 (bg_ii (fun x y => x + y)) := (tk_1 186 rfl).trans rfl
theorem l_L_law_187 {xs : Nat → Int32} {N : Nat} : bh_tb (T_L_law xs N) 187 = bo_sald xs N 188 := (tk_1 187 rfl).trans rfl
theorem l_L_law_188 {xs : Nat → Int32} {N : Nat} : bh_tb (T_L_law xs N) 188 = bo_callV 191 5 0 5000 40 F_M_install := (tk_1 188 rfl).trans rfl
theorem l_L_law_191 {xs : Nat → Int32} {N : Nat} : bh_tb (T_L_law xs N) 191 = bo_ist 193 7 := (tk_1 191 rfl).trans rfl
theorem l_L_law_193 {xs : Nat → Int32} {N : Nat} : bh_tb (T_L_law xs N) 193 = bo_ald 194 2 := (tk_1 193 rfl).trans rfl
theorem l_L_law_194 {xs : Nat → Int32} {N : Nat} : bh_tb (T_L_law xs N) 194 = bo_callV 197 1 0 5000 40 F_M_thrown := (tk_1 194 rfl).trans rfl
theorem l_L_law_197 {xs : Nat → Int32} {N : Nat} : bh_tb (T_L_law xs N) 197 = bo_ild 199 6 := (tk_1 197 rfl).trans rfl
theorem l_L_law_199 {xs : Nat → Int32} {N : Nat} : bh_tb (T_L_law xs N) 199 = bo_if2 202 204 (fun x y => x = y) := (tk_1 199 rfl).trans rfl
theorem l_L_law_202 {xs : Nat → Int32} {N : Nat} : bh_tb (T_L_law xs N) 202 = bo_st 203 (bg_push (.inl (.int 0))) := (tk_1 202 rfl).trans rfl
theorem l_L_law_203 {xs : Nat → Int32} {N : Nat} : bh_tb (T_L_law xs N) 203 = bo_zret 5000 := (tk_2 203 rfl).trans rfl
theorem l_L_law_204 {xs : Nat → Int32} {N : Nat} : bh_tb (T_L_law xs N) 204 = bo_ild 206 6 := (tk_2 204 rfl).trans rfl
theorem l_L_law_206 {xs : Nat → Int32} {N : Nat} : bh_tb (T_L_law xs N) 206 = bo_if1 209 221 (fun x => ¬ x = 0) := (tk_2 206 rfl).trans rfl
theorem l_L_law_209 {xs : Nat → Int32} {N : Nat} : bh_tb (T_L_law xs N) 209 = bo_ald 210 3 := (tk_2 209 rfl).trans rfl
theorem l_L_law_210 {xs : Nat → Int32} {N : Nat} : bh_tb (T_L_law xs N) 210 = bo_st 211 (bg_push (.inl (.int 0))) := (tk_2 210 rfl).trans rfl
theorem l_L_law_211 {xs : Nat → Int32} {N : Nat} : bh_tb (T_L_law xs N) 211 = bo_Jald bh_ak bh_al 212 := (tk_2 211 rfl).trans rfl
theorem l_L_law_212 {xs : Nat → Int32} {N : Nat} : bh_tb (T_L_law xs N) 212 = bo_ild 214 7 := (tk_2 212 rfl).trans rfl
theorem l_L_law_214 {xs : Nat → Int32} {N : Nat} : bh_tb (T_L_law xs N) 214 = bo_st 215 (bg_i1 (fun x => .inl (.long x.toInt64))) := (tk_2 214 rfl).trans rfl
theorem l_L_law_215 {xs : Nat → Int32} {N : Nat} : bh_tb (T_L_law xs N) 215 = bo_st 216 (bg_lc lg_cmp) := (tk_2 215 rfl).trans rfl
theorem l_L_law_216 {xs : Nat → Int32} {N : Nat} : bh_tb (T_L_law xs N) 216 = bo_if1 219 221 (fun x => x = 0) := (tk_2 216 rfl).trans rfl
theorem l_L_law_219 {xs : Nat → Int32} {N : Nat} : bh_tb (T_L_law xs N) 219 = bo_st 220 (bg_push (.inl (.int 0))) := (tk_2 219 rfl).trans rfl
theorem l_L_law_220 {xs : Nat → Int32} {N : Nat} : bh_tb (T_L_law xs N) 220 = bo_zret 5000 := (tk_2 220 rfl).trans rfl
theorem l_L_law_221 {xs : Nat → Int32} {N : Nat} : bh_tb (T_L_law xs N) 221 = bo_go 1312 := (tk_2 221 rfl).trans rfl
theorem l_L_law_224 {xs : Nat → Int32} {N : Nat} : bh_tb (T_L_law xs N) 224 = bo_ald 225 1 := (tk_2 224 rfl).trans rfl
theorem l_L_law_225 {xs : Nat → Int32} {N : Nat} : bh_tb (T_L_law xs N) 225 = bo_ald 226 0 := (tk_2 225 rfl).trans rfl
theorem l_L_law_226 {xs : Nat → Int32} {N : Nat} : bh_tb (T_L_law xs N) 226 = bo_ild 228 5 := (tk_2 226 rfl).trans rfl
theorem l_L_law_228 {xs : Nat → Int32} {N : Nat} : bh_tb (T_L_law xs N) 228 = bo_st 229 (bg_push (.inl (.int 1))) := (tk_2 228 rfl).trans rfl
theorem l_L_law_229 {xs : Nat → Int32} {N : Nat} : bh_tb (T_L_law xs N) 229 = bo_st 230 (bg_ii (fun x y => x + y)) := (tk_2 229 rfl).trans rfl
theorem l_L_law_230 {xs : Nat → Int32} {N : Nat} : bh_tb (T_L_law xs N) 230 = bo_sald xs N 231 := (tk_2 230 rfl).trans rfl
theorem l_L_law_231 {xs : Nat → Int32} {N : Nat} : bh_tb (T_L_law xs N) 231 = bo_ald 232 0 := (tk_2 231 rfl).trans rfl
theorem l_L_law_232 {xs : Nat → Int32} {N : Nat} : bh_tb (T_L_law xs N) 232 = bo_ild 234 5 := (tk_2 232 rfl).trans rfl
theorem l_L_law_234 {xs : Nat → Int32} {N : Nat} : bh_tb (T_L_law xs N) 234 = bo_st 235 (bg_push (.inl (.int 2))) := (tk_2 234 rfl).trans rfl
theorem l_L_law_235 {xs : Nat → Int32} {N : Nat} : bh_tb (T_L_law xs N) 235 = bo_st 236 (bg_ii (fun x y => x + y)) := (tk_2 235 rfl).trans rfl
theorem l_L_law_236 {xs : Nat → Int32} {N : Nat} : bh_tb (T_L_law xs N) 236 = bo_sald xs N 237 := (tk_2 236 rfl).trans rfl
theorem l_L_law_237 {xs : Nat → Int32} {N : Nat} : bh_tb (T_L_law xs N) 237 = bo_ald 238 0 := (tk_2 237 rfl).trans rfl
theorem l_L_law_238 {xs : Nat → Int32} {N : Nat} : bh_tb (T_L_law xs N) 238 = bo_ild 240 5 := (tk_2 238 rfl).trans rfl
theorem l_L_law_240 {xs : Nat → Int32} {N : Nat} : bh_tb (T_L_law xs N) 240 = bo_st 241 (bg_push (.inl (.int 3))) := (tk_2 240 rfl).trans rfl
theorem l_L_law_241 {xs : Nat → Int32} {N : Nat} : bh_tb (T_L_law xs N) 241 = bo_st 242 (bg_ii (fun x y => x + y)) := (tk_2 241 rfl).trans rfl
theorem l_L_law_242 {xs : Nat → Int32} {N : Nat} : bh_tb (T_L_law xs N) 242 = bo_sald xs N 243 := (tk_2 242 rfl).trans rfl
theorem l_L_law_243 {xs : Nat → Int32} {N : Nat} : bh_tb (T_L_law xs N) 243 = bo_ald 244 3 := (tk_2 243 rfl).trans rfl
theorem l_L_law_244 {xs : Nat → Int32} {N : Nat} : bh_tb (T_L_law xs N) 244 = bo_callS 247 5 6 5000 F_L_export := (tk_2 244 rfl).trans rfl
theorem l_L_law_247 {xs : Nat → Int32} {N : Nat} : bh_tb (T_L_law xs N) 247 = bo_ist 249 6 := (tk_2 247 rfl).trans rfl
theorem l_L_law_249 {xs : Nat → Int32} {N : Nat} : bh_tb (T_L_law xs N) 249 = bo_ald 250 2 := (tk_2 249 rfl).trans rfl
theorem l_L_law_250 {xs : Nat → Int32} {N : Nat} : bh_tb (T_L_law xs N) 250 = bo_ald 251 0 := (tk_2 250 rfl).trans rfl
theorem l_L_law_251 {xs : Nat → Int32} {N : Nat} : bh_tb (T_L_law xs N) 251 = bo_ild 253 5 := (tk_2 251 rfl).trans rfl
theorem l_L_law_253 {xs : Nat → Int32} {N : Nat} : bh_tb (T_L_law xs N) 253 = bo_st 254 (bg_push (.inl (.int 1))) := (tk_2 253 rfl).trans rfl
theorem l_L_law_254 {xs : Nat → Int32} {N : Nat} : bh_tb (T_L_law xs N) 254 = bo_st 255 (bg_ii (fun x y => x + y)) := (tk_2 254 rfl).trans rfl
theorem l_L_law_255 {xs : Nat → Int32} {N : Nat} : bh_tb (T_L_law xs N) 255 = bo_sald xs N 256 := (tk_2 255 rfl).trans rfl
theorem l_L_law_256 {xs : Nat → Int32} {N : Nat} : bh_tb (T_L_law xs N) 256 = bo_ald 257 0 := (tk_2 256 rfl).trans rfl
theorem l_L_law_257 {xs : Nat → Int32} {N : Nat} : bh_tb (T_L_law xs N) 257 = bo_ild 259 5 := (tk_2 257 rfl).trans rfl
theorem l_L_law_259 {xs : Nat → Int32} {N : Nat} : bh_tb (T_L_law xs N) 259 = bo_st 260 (bg_push (.inl (.int 2))) := (tk_3 259 rfl).trans rfl
theorem l_L_law_260 {xs : Nat → Int32} {N : Nat} : bh_tb (T_L_law xs N) 260 = bo_st 261 (bg_ii (fun x y => x + y)) := (tk_3 260 rfl).trans rfl
theorem l_L_law_261 {xs : Nat → Int32} {N : Nat} : bh_tb (T_L_law xs N) 261 = bo_sald xs N 262 := (tk_3 261 rfl).trans rfl
theorem l_L_law_262 {xs : Nat → Int32} {N : Nat} : bh_tb (T_L_law xs N) 262 = bo_ald 263 0 := (tk_3 262 rfl).trans rfl
theorem l_L_law_263 {xs : Nat → Int32} {N : Nat} : bh_tb (T_L_law xs N) 263 = bo_ild 265 5 := (tk_3 263 rfl).trans rfl
theorem l_L_law_265 {xs : Nat → Int32} {N : Nat} : bh_tb (T_L_law xs N) 265 = bo_st 266 (bg_push (.inl (.int 3))) := (tk_3 265 rfl).trans rfl
theorem l_L_law_266 {xs : Nat → Int32} {N : Nat} : bh_tb (T_L_law xs N) 266 = bo_st 267 (bg_ii (fun x y => x + y)) := (tk_3 266 rfl).trans rfl
theorem l_L_law_267 {xs : Nat → Int32} {N : Nat} : bh_tb (T_L_law xs N) 267 = bo_sald xs N 268 := (tk_3 267 rfl).trans rfl
theorem l_L_law_268 {xs : Nat → Int32} {N : Nat} : bh_tb (T_L_law xs N) 268 = bo_callV 271 4 0 5000 40 F_M_export := (tk_3 268 rfl).trans rfl
theorem l_L_law_271 {xs : Nat → Int32} {N : Nat} : bh_tb (T_L_law xs N) 271 = bo_ist 273 7 := (tk_3 271 rfl).trans rfl
theorem l_L_law_273 {xs : Nat → Int32} {N : Nat} : bh_tb (T_L_law xs N) 273 = bo_ald 274 2 := (tk_3 273 rfl).trans rfl
theorem l_L_law_274 {xs : Nat → Int32} {N : Nat} : bh_tb (T_L_law xs N) 274 = bo_callV 277 1 0 5000 40 F_M_thrown := (tk_3 274 rfl).trans rfl
theorem l_L_law_277 {xs : Nat → Int32} {N : Nat} : bh_tb (T_L_law xs N) 277 = bo_ild 279 6 := (tk_3 277 rfl).trans rfl
theorem l_L_law_279 {xs : Nat → Int32} {N : Nat} : bh_tb (T_L_law xs N) 279 = bo_if2 282 284 (fun x y => x = y) := (tk_3 279 rfl).trans rfl
theorem l_L_law_282 {xs : Nat → Int32} {N : Nat} : bh_tb (T_L_law xs N) 282 = bo_st 283 (bg_push (.inl (.int 0))) := (tk_3 282 rfl).trans rfl
theorem l_L_law_283 {xs : Nat → Int32} {N : Nat} : bh_tb (T_L_law xs N) 283 = bo_zret 5000 := (tk_3 283 rfl).trans rfl
theorem l_L_law_284 {xs : Nat → Int32} {N : Nat} : bh_tb (T_L_law xs N) 284 = bo_ild 286 6 := (tk_3 284 rfl).trans rfl
theorem l_L_law_286 {xs : Nat → Int32} {N : Nat} : bh_tb (T_L_law xs N) 286 = bo_if1 289 301 (fun x => ¬ x = 0) := (tk_3 286 rfl).trans rfl
theorem l_L_law_289 {xs : Nat → Int32} {N : Nat} : bh_tb (T_L_law xs N) 289 = bo_ald 290 3 := (tk_3 289 rfl).trans rfl
theorem l_L_law_290 {xs : Nat → Int32} {N : Nat} : bh_tb (T_L_law xs N) 290 = bo_st 291 (bg_push (.inl (.int 0))) := (tk_3 290 rfl).trans rfl
theorem l_L_law_291 {xs : Nat → Int32} {N : Nat} : bh_tb (T_L_law xs N) 291 = bo_Jald bh_ak bh_al 292 := (tk_3 291 rfl).trans rfl
theorem l_L_law_292 {xs : Nat → Int32} {N : Nat} : bh_tb (T_L_law xs N) 292 = bo_ild 294 7 := (tk_3 292 rfl).trans rfl
theorem l_L_law_294 {xs : Nat → Int32} {N : Nat} : bh_tb (T_L_law xs N) 294 = bo_st 295 (bg_i1 (fun x => .inl (.long x.toInt64))) := (tk_3 294 rfl).trans rfl
theorem l_L_law_295 {xs : Nat → Int32} {N : Nat} : bh_tb (T_L_law xs N) 295 = bo_st 296 (bg_lc lg_cmp) := (tk_3 295 rfl).trans rfl
theorem l_L_law_296 {xs : Nat → Int32} {N : Nat} : bh_tb (T_L_law xs N) 296 = bo_if1 299 301 (fun x => x = 0) := (tk_3 296 rfl).trans rfl
theorem l_L_law_299 {xs : Nat → Int32} {N : Nat} : bh_tb (T_L_law xs N) 299 = bo_st 300 (bg_push (.inl (.int 0))) := (tk_3 299 rfl).trans rfl
theorem l_L_law_300 {xs : Nat → Int32} {N : Nat} : bh_tb (T_L_law xs N) 300 = bo_zret 5000 := (tk_3 300 rfl).trans rfl
theorem l_L_law_301 {xs : Nat → Int32} {N : Nat} : bh_tb (T_L_law xs N) 301 = bo_go 1312 := (tk_3 301 rfl).trans rfl
theorem l_L_law_304 {xs : Nat → Int32} {N : Nat} : bh_tb (T_L_law xs N) 304 = bo_ald 305 1 := (tk_3 304 rfl).trans rfl
theorem l_L_law_305 {xs : Nat → Int32} {N : Nat} : bh_tb (T_L_law xs N) 305 = bo_ald 306 0 := (tk_3 305 rfl).trans rfl
theorem l_L_law_306 {xs : Nat → Int32} {N : Nat} : bh_tb (T_L_law xs N) 306 = bo_ild 308 5 := (tk_3 306 rfl).trans rfl
theorem l_L_law_308 {xs : Nat → Int32} {N : Nat} : bh_tb (T_L_law xs N) 308 = bo_st 309 (bg_push (.inl (.int 1))) := (tk_3 308 rfl).trans rfl
theorem l_L_law_309 {xs : Nat → Int32} {N : Nat} : bh_tb (T_L_law xs N) 309 = bo_st 310 (bg_ii (fun x y => x + y)) := (tk_3 309 rfl).trans rfl
theorem l_L_law_310 {xs : Nat → Int32} {N : Nat} : bh_tb (T_L_law xs N) 310 = bo_sald xs N 311 := (tk_3 310 rfl).trans rfl
theorem l_L_law_311 {xs : Nat → Int32} {N : Nat} : bh_tb (T_L_law xs N) 311 = bo_ald 312 0 := (tk_3 311 rfl).trans rfl
theorem l_L_law_312 {xs : Nat → Int32} {N : Nat} : bh_tb (T_L_law xs N) 312 = bo_ild 314 5 := (tk_3 312 rfl).trans rfl
theorem l_L_law_314 {xs : Nat → Int32} {N : Nat} : bh_tb (T_L_law xs N) 314 = bo_st 315 (bg_push (.inl (.int 2))) := (tk_3 314 rfl).trans rfl
theorem l_L_law_315 {xs : Nat → Int32} {N : Nat} : bh_tb (T_L_law xs N) 315 = bo_st 316 (bg_ii (fun x y => x + y)) := (tk_3 315 rfl).trans rfl
theorem l_L_law_316 {xs : Nat → Int32} {N : Nat} : bh_tb (T_L_law xs N) 316 = bo_sald xs N 317 := (tk_3 316 rfl).trans rfl
theorem l_L_law_317 {xs : Nat → Int32} {N : Nat} : bh_tb (T_L_law xs N) 317 = bo_ald 318 0 := (tk_3 317 rfl).trans rfl
theorem l_L_law_318 {xs : Nat → Int32} {N : Nat} : bh_tb (T_L_law xs N) 318 = bo_ild 320 5 := (tk_4 318 rfl).trans rfl
theorem l_L_law_320 {xs : Nat → Int32} {N : Nat} : bh_tb (T_L_law xs N) 320 = bo_st 321 (bg_push (.inl (.int 3))) := (tk_4 320 rfl).trans rfl
theorem l_L_law_321 {xs : Nat → Int32} {N : Nat} : bh_tb (T_L_law xs N) 321 = bo_st 322 (bg_ii (fun x y => x + y)) := (tk_4 321 rfl).trans rfl
theorem l_L_law_322 {xs : Nat → Int32} {N : Nat} : bh_tb (T_L_law xs N) 322 = bo_sald xs N 323 := (tk_4 322 rfl).trans rfl
theorem l_L_law_323 {xs : Nat → Int32} {N : Nat} : bh_tb (T_L_law xs N) 323 = bo_ald 324 0 := (tk_4 323 rfl).trans rfl
theorem l_L_law_324 {xs : Nat → Int32} {N : Nat} : bh_tb (T_L_law xs N) 324 = bo_ild 326 5 := (tk_4 324 rfl).trans rfl
theorem l_L_law_326 {xs : Nat → Int32} {N : Nat} : bh_tb (T_L_law xs N) 326 = bo_st 327 (bg_push (.inl (.int 4))) := (tk_4 326 rfl).trans rfl
theorem l_L_law_327 {xs : Nat → Int32} {N : Nat} : bh_tb (T_L_law xs N) 327 = bo_st 328 (bg_ii (fun x y => x + y)) := (tk_4 327 rfl).trans rfl
theorem l_L_law_328 {xs : Nat → Int32} {N : Nat} : bh_tb (T_L_law xs N) 328 = bo_sald xs N 329 := (tk_4 328 rfl).trans rfl
theorem l_L_law_329 {xs : Nat → Int32} {N : Nat} : bh_tb (T_L_law xs N) 329 = bo_ald 330 0 := (tk_4 329 rfl).trans rfl
theorem l_L_law_330 {xs : Nat → Int32} {N : Nat} : bh_tb (T_L_law xs N) 330 = bo_ild 332 5 := (tk_4 330 rfl).trans rfl
theorem l_L_law_332 {xs : Nat → Int32} {N : Nat} : bh_tb (T_L_law xs N) 332 = bo_st 333 (bg_push (.inl (.int 5))) := (tk_4 332 rfl).trans rfl
theorem l_L_law_333 {xs : Nat → Int32} {N : Nat} : bh_tb (T_L_law xs N) 333 = bo_st 334 (bg_ii (fun x y => x + y)) := (tk_4 333 rfl).trans rfl
theorem l_L_law_334 {xs : Nat → Int32} {N : Nat} : bh_tb (T_L_law xs N) 334 = bo_sald xs N 335 := (tk_4 334 rfl).trans rfl
theorem l_L_law_335 {xs : Nat → Int32} {N : Nat} : bh_tb (T_L_law xs N) 335 = bo_if1 338 342 (fun x => x = 0) := (tk_4 335 rfl).trans rfl
theorem l_L_law_338 {xs : Nat → Int32} {N : Nat} : bh_tb (T_L_law xs N) 338 = bo_st 339 (bg_push (.inl (.int 1))) := (tk_4 338 rfl).trans rfl
theorem l_L_law_339 {xs : Nat → Int32} {N : Nat} : bh_tb (T_L_law xs N) 339 = bo_go 343 := (tk_4 339 rfl).trans rfl
theorem l_L_law_342 {xs : Nat → Int32} {N : Nat} : bh_tb (T_L_law xs N) 342 = bo_st 343 (bg_push (.inl (.int 0))) := (tk_4 342 rfl).trans rfl
theorem l_L_law_343 {xs : Nat → Int32} {N : Nat} : bh_tb (T_L_law xs N) 343 = bo_ald 344 3 := (tk_4 343 rfl).trans rfl
theorem l_L_law_344 {xs : Nat → Int32} {N : Nat} : bh_tb (T_L_law xs N) 344 = bo_callS 347 7 7 5000 F_L_need := (tk_4 344 rfl).trans rfl
theorem l_L_law_347 {xs : Nat → Int32} {N : Nat} : bh_tb (T_L_law xs N) 347 = bo_ist 349 6 := (tk_4 347 rfl).trans rfl
theorem l_L_law_349 {xs : Nat → Int32} {N : Nat} : bh_tb (T_L_law xs N) 349 = bo_ald 350 2 := (tk_4 349 rfl).trans rfl
theorem l_L_law_350 {xs : Nat → Int32} {N : Nat} : bh_tb (T_L_law xs N) 350 = bo_ald 351 0 := (tk_4 350 rfl).trans rfl
theorem l_L_law_351 {xs : Nat → Int32} {N : Nat} : bh_tb (T_L_law xs N) 351 = bo_ild 353 5 := (tk_4 351 rfl).trans rfl
theorem l_L_law_353 {xs : Nat → Int32} {N : Nat} : bh_tb (T_L_law xs N) 353 = bo_st 354 (bg_push (.inl (.int 1))) := (tk_4 353 rfl).trans rfl
theorem l_L_law_354 {xs : Nat → Int32} {N : Nat} : bh_tb (T_L_law xs N) 354 = bo_st 355 (bg_ii (fun x y => x + y)) := (tk_4 354 rfl).trans rfl
theorem l_L_law_355 {xs : Nat → Int32} {N : Nat} : bh_tb (T_L_law xs N) 355 = bo_sald xs N 356 := (tk_4 355 rfl).trans rfl
theorem l_L_law_356 {xs : Nat → Int32} {N : Nat} : bh_tb (T_L_law xs N) 356 = bo_ald 357 0 := (tk_4 356 rfl).trans rfl
theorem l_L_law_357 {xs : Nat → Int32} {N : Nat} : bh_tb (T_L_law xs N) 357 = bo_ild 359 5 := (tk_4 357 rfl).trans rfl
theorem l_L_law_359 {xs : Nat → Int32} {N : Nat} : bh_tb (T_L_law xs N) 359 = bo_st 360 (bg_push (.inl (.int 2))) := (tk_4 359 rfl).trans rfl
theorem l_L_law_360 {xs : Nat → Int32} {N : Nat} : bh_tb (T_L_law xs N) 360 = bo_st 361 (bg_ii (fun x y => x + y)) := (tk_4 360 rfl).trans rfl
theorem l_L_law_361 {xs : Nat → Int32} {N : Nat} : bh_tb (T_L_law xs N) 361 = bo_sald xs N 362 := (tk_4 361 rfl).trans rfl
theorem l_L_law_362 {xs : Nat → Int32} {N : Nat} : bh_tb (T_L_law xs N) 362 = bo_ald 363 0 := (tk_4 362 rfl).trans rfl
theorem l_L_law_363 {xs : Nat → Int32} {N : Nat} : bh_tb (T_L_law xs N) 363 = bo_ild 365 5 := (tk_4 363 rfl).trans rfl
theorem l_L_law_365 {xs : Nat → Int32} {N : Nat} : bh_tb (T_L_law xs N) 365 = bo_st 366 (bg_push (.inl (.int 3))) := (tk_4 365 rfl).trans rfl
theorem l_L_law_366 {xs : Nat → Int32} {N : Nat} : bh_tb (T_L_law xs N) 366 = bo_st 367 (bg_ii (fun x y => x + y)) := (tk_4 366 rfl).trans rfl
theorem l_L_law_367 {xs : Nat → Int32} {N : Nat} : bh_tb (T_L_law xs N) 367 = bo_sald xs N 368 := (tk_4 367 rfl).trans rfl
theorem l_L_law_368 {xs : Nat → Int32} {N : Nat} : bh_tb (T_L_law xs N) 368 = bo_ald 369 0 := (tk_4 368 rfl).trans rfl
theorem l_L_law_369 {xs : Nat → Int32} {N : Nat} : bh_tb (T_L_law xs N) 369 = bo_ild 371 5 := (tk_4 369 rfl).trans rfl
theorem l_L_law_371 {xs : Nat → Int32} {N : Nat} : bh_tb (T_L_law xs N) 371 = bo_st 372 (bg_push (.inl (.int 4))) := (tk_4 371 rfl).trans rfl
theorem l_L_law_372 {xs : Nat → Int32} {N : Nat} : bh_tb (T_L_law xs N) 372 = bo_st 373 (bg_ii (fun x y => x + y)) := (tk_5 372 rfl).trans rfl
theorem l_L_law_373 {xs : Nat → Int32} {N : Nat} : bh_tb (T_L_law xs N) 373 = bo_sald xs N 374 := (tk_5 373 rfl).trans rfl
theorem l_L_law_374 {xs : Nat → Int32} {N : Nat} : bh_tb (T_L_law xs N) 374 = bo_ald 375 0 := (tk_5 374 rfl).trans rfl
theorem l_L_law_375 {xs : Nat → Int32} {N : Nat} : bh_tb (T_L_law xs N) 375 = bo_ild 377 5 := (tk_5 375 rfl).trans rfl
theorem l_L_law_377 {xs : Nat → Int32} {N : Nat} : bh_tb (T_L_law xs N) 377 = bo_st 378 (bg_push (.inl (.int 5))) := (tk_5 377 rfl).trans rfl
theorem l_L_law_378 {xs : Nat → Int32} {N : Nat} : bh_tb (T_L_law xs N) 378 = bo_st 379 (bg_ii (fun x y => x + y)) := (tk_5 378 rfl).trans rfl
theorem l_L_law_379 {xs : Nat → Int32} {N : Nat} : bh_tb (T_L_law xs N) 379 = bo_sald xs N 380 := (tk_5 379 rfl).trans rfl
theorem l_L_law_380 {xs : Nat → Int32} {N : Nat} : bh_tb (T_L_law xs N) 380 = bo_if1 383 387 (fun x => x = 0) := (tk_5 380 rfl).trans rfl
theorem l_L_law_383 {xs : Nat → Int32} {N : Nat} : bh_tb (T_L_law xs N) 383 = bo_st 384 (bg_push (.inl (.int 1))) := (tk_5 383 rfl).trans rfl
theorem l_L_law_384 {xs : Nat → Int32} {N : Nat} : bh_tb (T_L_law xs N) 384 = bo_go 388 := (tk_5 384 rfl).trans rfl
theorem l_L_law_387 {xs : Nat → Int32} {N : Nat} : bh_tb (T_L_law xs N) 387 = bo_st 388 (bg_push (.inl (.int 0))) := (tk_5 387 rfl).trans rfl
theorem l_L_law_388 {xs : Nat → Int32} {N : Nat} : bh_tb (T_L_law xs N) 388 = bo_callV 391 6 0 5000 40 F_M_need := (tk_5 388 rfl).trans rfl
theorem l_L_law_391 {xs : Nat → Int32} {N : Nat} : bh_tb (T_L_law xs N) 391 = bo_ist 393 7 := (tk_5 391 rfl).trans rfl
theorem l_L_law_393 {xs : Nat → Int32} {N : Nat} : bh_tb (T_L_law xs N) 393 = bo_ald 394 2 := (tk_5 393 rfl).trans rfl
theorem l_L_law_394 {xs : Nat → Int32} {N : Nat} : bh_tb (T_L_law xs N) 394 = bo_callV 397 1 0 5000 40 F_M_thrown := (tk_5 394 rfl).trans rfl
theorem l_L_law_397 {xs : Nat → Int32} {N : Nat} : bh_tb (T_L_law xs N) 397 = bo_ild 399 6 := (tk_5 397 rfl).trans rfl
theorem l_L_law_399 {xs : Nat → Int32} {N : Nat} : bh_tb (T_L_law xs N) 399 = bo_if2 402 404 (fun x y => x = y) := (tk_5 399 rfl).trans rfl
theorem l_L_law_402 {xs : Nat → Int32} {N : Nat} : bh_tb (T_L_law xs N) 402 = bo_st 403 (bg_push (.inl (.int 0))) := (tk_5 402 rfl).trans rfl
theorem l_L_law_403 {xs : Nat → Int32} {N : Nat} : bh_tb (T_L_law xs N) 403 = bo_zret 5000 := (tk_5 403 rfl).trans rfl
theorem l_L_law_404 {xs : Nat → Int32} {N : Nat} : bh_tb (T_L_law xs N) 404 = bo_ild 406 6 := (tk_5 404 rfl).trans rfl
theorem l_L_law_406 {xs : Nat → Int32} {N : Nat} : bh_tb (T_L_law xs N) 406 = bo_if1 409 421 (fun x => ¬ x = 0) := (tk_5 406 rfl).trans rfl
theorem l_L_law_409 {xs : Nat → Int32} {N : Nat} : bh_tb (T_L_law xs N) 409 = bo_ald 410 3 := (tk_5 409 rfl).trans rfl
theorem l_L_law_410 {xs : Nat → Int32} {N : Nat} : bh_tb (T_L_law xs N) 410 = bo_st 411 (bg_push (.inl (.int 0))) := (tk_5 410 rfl).trans rfl
theorem l_L_law_411 {xs : Nat → Int32} {N : Nat} : bh_tb (T_L_law xs N) 411 = bo_Jald bh_ak bh_al 412 := (tk_5 411 rfl).trans rfl
theorem l_L_law_412 {xs : Nat → Int32} {N : Nat} : bh_tb (T_L_law xs N) 412 = bo_ild 414 7 := (tk_5 412 rfl).trans rfl
theorem l_L_law_414 {xs : Nat → Int32} {N : Nat} : bh_tb (T_L_law xs N) 414 = bo_st 415 (bg_i1 (fun x => .inl (.long x.toInt64))) := (tk_5 414 rfl).trans rfl
theorem l_L_law_415 {xs : Nat → Int32} {N : Nat} : bh_tb (T_L_law xs N) 415 = bo_st 416 (bg_lc lg_cmp) := (tk_5 415 rfl).trans rfl
theorem l_L_law_416 {xs : Nat → Int32} {N : Nat} : bh_tb (T_L_law xs N) 416 = bo_if1 419 421 (fun x => x = 0) := (tk_5 416 rfl).trans rfl
theorem l_L_law_419 {xs : Nat → Int32} {N : Nat} : bh_tb (T_L_law xs N) 419 = bo_st 420 (bg_push (.inl (.int 0))) := (tk_5 419 rfl).trans rfl
theorem l_L_law_420 {xs : Nat → Int32} {N : Nat} : bh_tb (T_L_law xs N) 420 = bo_zret 5000 := (tk_5 420 rfl).trans rfl
theorem l_L_law_421 {xs : Nat → Int32} {N : Nat} : bh_tb (T_L_law xs N) 421 = bo_go 1312 := (tk_5 421 rfl).trans rfl
theorem l_L_law_424 {xs : Nat → Int32} {N : Nat} : bh_tb (T_L_law xs N) 424 = bo_ald 425 1 := (tk_5 424 rfl).trans rfl
theorem l_L_law_425 {xs : Nat → Int32} {N : Nat} : bh_tb (T_L_law xs N) 425 = bo_ald 426 0 := (tk_5 425 rfl).trans rfl
theorem l_L_law_426 {xs : Nat → Int32} {N : Nat} : bh_tb (T_L_law xs N) 426 = bo_ild 428 5 := (tk_5 426 rfl).trans rfl
theorem l_L_law_428 {xs : Nat → Int32} {N : Nat} : bh_tb (T_L_law xs N) 428 = bo_st 429 (bg_push (.inl (.int 1))) := (tk_5 428 rfl).trans rfl
theorem l_L_law_429 {xs : Nat → Int32} {N : Nat} : bh_tb (T_L_law xs N) 429 = bo_st 430 (bg_ii (fun x y => x + y)) := (tk_5 429 rfl).trans rfl
theorem l_L_law_430 {xs : Nat → Int32} {N : Nat} : bh_tb (T_L_law xs N) 430 = bo_sald xs N 431 := (tk_5 430 rfl).trans rfl
theorem l_L_law_431 {xs : Nat → Int32} {N : Nat} : bh_tb (T_L_law xs N) 431 = bo_ald 432 3 := (tk_5 431 rfl).trans rfl
theorem l_L_law_432 {xs : Nat → Int32} {N : Nat} : bh_tb (T_L_law xs N) 432 = bo_callS 435 3 5 5000 F_L_resolve := (tk_5 432 rfl).trans rfl
theorem l_L_law_435 {xs : Nat → Int32} {N : Nat} : bh_tb (T_L_law xs N) 435 = bo_ist 437 6 := (tk_5 435 rfl).trans rfl
theorem l_L_law_437 {xs : Nat → Int32} {N : Nat} : bh_tb (T_L_law xs N) 437 = bo_ald 438 2 := (tk_6 437 rfl).trans rfl
theorem l_L_law_438 {xs : Nat → Int32} {N : Nat} : bh_tb (T_L_law xs N) 438 = bo_ald 439 0 := (tk_6 438 rfl).trans rfl
theorem l_L_law_439 {xs : Nat → Int32} {N : Nat} : bh_tb (T_L_law xs N) 439 = bo_ild 441 5 := (tk_6 439 rfl).trans rfl
theorem l_L_law_441 {xs : Nat → Int32} {N : Nat} : bh_tb (T_L_law xs N) 441 = bo_st 442 (bg_push (.inl (.int 1))) := (tk_6 441 rfl).trans rfl
theorem l_L_law_442 {xs : Nat → Int32} {N : Nat} : bh_tb (T_L_law xs N) 442 = bo_st 443 (bg_ii (fun x y => x + y)) := (tk_6 442 rfl).trans rfl
theorem l_L_law_443 {xs : Nat → Int32} {N : Nat} : bh_tb (T_L_law xs N) 443 = bo_sald xs N 444 := (tk_6 443 rfl).trans rfl
theorem l_L_law_444 {xs : Nat → Int32} {N : Nat} : bh_tb (T_L_law xs N) 444 = bo_callV 447 2 0 5000 40 F_M_resolve := (tk_6 444 rfl).trans rfl
theorem l_L_law_447 {xs : Nat → Int32} {N : Nat} : bh_tb (T_L_law xs N) 447 = bo_ist 449 7 := (tk_6 447 rfl).trans rfl
theorem l_L_law_449 {xs : Nat → Int32} {N : Nat} : bh_tb (T_L_law xs N) 449 = bo_ald 450 2 := (tk_6 449 rfl).trans rfl
theorem l_L_law_450 {xs : Nat → Int32} {N : Nat} : bh_tb (T_L_law xs N) 450 = bo_callV 453 1 0 5000 40 F_M_thrown := (tk_6 450 rfl).trans rfl
theorem l_L_law_453 {xs : Nat → Int32} {N : Nat} : bh_tb (T_L_law xs N) 453 = bo_ild 455 6 := (tk_6 453 rfl).trans rfl
theorem l_L_law_455 {xs : Nat → Int32} {N : Nat} : bh_tb (T_L_law xs N) 455 = bo_if2 458 460 (fun x y => x = y) := (tk_6 455 rfl).trans rfl
theorem l_L_law_458 {xs : Nat → Int32} {N : Nat} : bh_tb (T_L_law xs N) 458 = bo_st 459 (bg_push (.inl (.int 0))) := (tk_6 458 rfl).trans rfl
theorem l_L_law_459 {xs : Nat → Int32} {N : Nat} : bh_tb (T_L_law xs N) 459 = bo_zret 5000 := (tk_6 459 rfl).trans rfl
theorem l_L_law_460 {xs : Nat → Int32} {N : Nat} : bh_tb (T_L_law xs N) 460 = bo_ild 462 6 := (tk_6 460 rfl).trans rfl
theorem l_L_law_462 {xs : Nat → Int32} {N : Nat} : bh_tb (T_L_law xs N) 462 = bo_if1 465 477 (fun x => ¬ x = 0) := (tk_6 462 rfl).trans rfl
theorem l_L_law_465 {xs : Nat → Int32} {N : Nat} : bh_tb (T_L_law xs N) 465 = bo_ald 466 3 := (tk_6 465 rfl).trans rfl
theorem l_L_law_466 {xs : Nat → Int32} {N : Nat} : bh_tb (T_L_law xs N) 466 = bo_st 467 (bg_push (.inl (.int 0))) := (tk_6 466 rfl).trans rfl
theorem l_L_law_467 {xs : Nat → Int32} {N : Nat} : bh_tb (T_L_law xs N) 467 = bo_Jald bh_ak bh_al 468 := (tk_6 467 rfl).trans rfl
theorem l_L_law_468 {xs : Nat → Int32} {N : Nat} : bh_tb (T_L_law xs N) 468 = bo_ild 470 7 := (tk_6 468 rfl).trans rfl
theorem l_L_law_470 {xs : Nat → Int32} {N : Nat} : bh_tb (T_L_law xs N) 470 = bo_st 471 (bg_i1 (fun x => .inl (.long x.toInt64))) := (tk_6 470 rfl).trans rfl
theorem l_L_law_471 {xs : Nat → Int32} {N : Nat} : bh_tb (T_L_law xs N) 471 = bo_st 472 (bg_lc lg_cmp) := (tk_6 471 rfl).trans rfl
theorem l_L_law_472 {xs : Nat → Int32} {N : Nat} : bh_tb (T_L_law xs N) 472 = bo_if1 475 477 (fun x => x = 0) := (tk_6 472 rfl).trans rfl
theorem l_L_law_475 {xs : Nat → Int32} {N : Nat} : bh_tb (T_L_law xs N) 475 = bo_st 476 (bg_push (.inl (.int 0))) := (tk_6 475 rfl).trans rfl
theorem l_L_law_476 {xs : Nat → Int32} {N : Nat} : bh_tb (T_L_law xs N) 476 = bo_zret 5000 := (tk_6 476 rfl).trans rfl
theorem l_L_law_477 {xs : Nat → Int32} {N : Nat} : bh_tb (T_L_law xs N) 477 = bo_go 1312 := (tk_6 477 rfl).trans rfl
theorem l_L_law_480 {xs : Nat → Int32} {N : Nat} : bh_tb (T_L_law xs N) 480 = bo_ald 481 1 := (tk_6 480 rfl).trans rfl
theorem l_L_law_481 {xs : Nat → Int32} {N : Nat} : bh_tb (T_L_law xs N) 481 = bo_ald 482 0 := (tk_6 481 rfl).trans rfl
theorem l_L_law_482 {xs : Nat → Int32} {N : Nat} : bh_tb (T_L_law xs N) 482 = bo_ild 484 5 := (tk_6 482 rfl).trans rfl
theorem l_L_law_484 {xs : Nat → Int32} {N : Nat} : bh_tb (T_L_law xs N) 484 = bo_st 485 (bg_push (.inl (.int 1))) := (tk_6 484 rfl).trans rfl
theorem l_L_law_485 {xs : Nat → Int32} {N : Nat} : bh_tb (T_L_law xs N) 485 = bo_st 486 (bg_ii (fun x y => x + y)) := (tk_6 485 rfl).trans rfl
theorem l_L_law_486 {xs : Nat → Int32} {N : Nat} : bh_tb (T_L_law xs N) 486 = bo_sald xs N 487 := (tk_6 486 rfl).trans rfl
theorem l_L_law_487 {xs : Nat → Int32} {N : Nat} : bh_tb (T_L_law xs N) 487 = bo_ald 488 3 := (tk_6 487 rfl).trans rfl
theorem l_L_law_488 {xs : Nat → Int32} {N : Nat} : bh_tb (T_L_law xs N) 488 = bo_callS 491 3 5 5000 F_L_start := (tk_6 488 rfl).trans rfl
theorem l_L_law_491 {xs : Nat → Int32} {N : Nat} : bh_tb (T_L_law xs N) 491 = bo_ist 493 6 := (tk_6 491 rfl).trans rfl
theorem l_L_law_493 {xs : Nat → Int32} {N : Nat} : bh_tb (T_L_law xs N) 493 = bo_ald 494 2 := (tk_6 493 rfl).trans rfl
theorem l_L_law_494 {xs : Nat → Int32} {N : Nat} : bh_tb (T_L_law xs N) 494 = bo_ald 495 0 := (tk_6 494 rfl).trans rfl
theorem l_L_law_495 {xs : Nat → Int32} {N : Nat} : bh_tb (T_L_law xs N) 495 = bo_ild 497 5 := (tk_6 495 rfl).trans rfl
theorem l_L_law_497 {xs : Nat → Int32} {N : Nat} : bh_tb (T_L_law xs N) 497 = bo_st 498 (bg_push (.inl (.int 1))) := (tk_6 497 rfl).trans rfl
theorem l_L_law_498 {xs : Nat → Int32} {N : Nat} : bh_tb (T_L_law xs N) 498 = bo_st 499 (bg_ii (fun x y => x + y)) := (tk_6 498 rfl).trans rfl
theorem l_L_law_499 {xs : Nat → Int32} {N : Nat} : bh_tb (T_L_law xs N) 499 = bo_sald xs N 500 := (tk_7 499 rfl).trans rfl
theorem l_L_law_500 {xs : Nat → Int32} {N : Nat} : bh_tb (T_L_law xs N) 500 = bo_callV 503 2 0 5000 40 F_M_start := (tk_7 500 rfl).trans rfl
theorem l_L_law_503 {xs : Nat → Int32} {N : Nat} : bh_tb (T_L_law xs N) 503 = bo_ist 505 7 := (tk_7 503 rfl).trans rfl
theorem l_L_law_505 {xs : Nat → Int32} {N : Nat} : bh_tb (T_L_law xs N) 505 = bo_ald 506 2 := (tk_7 505 rfl).trans rfl
theorem l_L_law_506 {xs : Nat → Int32} {N : Nat} : bh_tb (T_L_law xs N) 506 = bo_callV 509 1 0 5000 40 F_M_thrown := (tk_7 506 rfl).trans rfl
theorem l_L_law_509 {xs : Nat → Int32} {N : Nat} : bh_tb (T_L_law xs N) 509 = bo_ild 511 6 := (tk_7 509 rfl).trans rfl
theorem l_L_law_511 {xs : Nat → Int32} {N : Nat} : bh_tb (T_L_law xs N) 511 = bo_if2 514 516 (fun x y => x = y) := (tk_7 511 rfl).trans rfl
theorem l_L_law_514 {xs : Nat → Int32} {N : Nat} : bh_tb (T_L_law xs N) 514 = bo_st 515 (bg_push (.inl (.int 0))) := (tk_7 514 rfl).trans rfl
theorem l_L_law_515 {xs : Nat → Int32} {N : Nat} : bh_tb (T_L_law xs N) 515 = bo_zret 5000 := (tk_7 515 rfl).trans rfl
theorem l_L_law_516 {xs : Nat → Int32} {N : Nat} : bh_tb (T_L_law xs N) 516 = bo_ild 518 6 := (tk_7 516 rfl).trans rfl
theorem l_L_law_518 {xs : Nat → Int32} {N : Nat} : bh_tb (T_L_law xs N) 518 = bo_if1 521 533 (fun x => ¬ x = 0) := (tk_7 518 rfl).trans rfl
theorem l_L_law_521 {xs : Nat → Int32} {N : Nat} : bh_tb (T_L_law xs N) 521 = bo_ald 522 3 := (tk_7 521 rfl).trans rfl
theorem l_L_law_522 {xs : Nat → Int32} {N : Nat} : bh_tb (T_L_law xs N) 522 = bo_st 523 (bg_push (.inl (.int 0))) := (tk_7 522 rfl).trans rfl
theorem l_L_law_523 {xs : Nat → Int32} {N : Nat} : bh_tb (T_L_law xs N) 523 = bo_Jald bh_ak bh_al 524 := (tk_7 523 rfl).trans rfl
theorem l_L_law_524 {xs : Nat → Int32} {N : Nat} : bh_tb (T_L_law xs N) 524 = bo_ild 526 7 := (tk_7 524 rfl).trans rfl
theorem l_L_law_526 {xs : Nat → Int32} {N : Nat} : bh_tb (T_L_law xs N) 526 = bo_st 527 (bg_i1 (fun x => .inl (.long x.toInt64))) := (tk_7 526 rfl).trans rfl
theorem l_L_law_527 {xs : Nat → Int32} {N : Nat} : bh_tb (T_L_law xs N) 527 = bo_st 528 (bg_lc lg_cmp) := (tk_7 527 rfl).trans rfl
theorem l_L_law_528 {xs : Nat → Int32} {N : Nat} : bh_tb (T_L_law xs N) 528 = bo_if1 531 533 (fun x => x = 0) := (tk_7 528 rfl).trans rfl
theorem l_L_law_531 {xs : Nat → Int32} {N : Nat} : bh_tb (T_L_law xs N) 531 = bo_st 532 (bg_push (.inl (.int 0))) := (tk_7 531 rfl).trans rfl
theorem l_L_law_532 {xs : Nat → Int32} {N : Nat} : bh_tb (T_L_law xs N) 532 = bo_zret 5000 := (tk_7 532 rfl).trans rfl
theorem l_L_law_533 {xs : Nat → Int32} {N : Nat} : bh_tb (T_L_law xs N) 533 = bo_go 1312 := (tk_7 533 rfl).trans rfl
theorem l_L_law_536 {xs : Nat → Int32} {N : Nat} : bh_tb (T_L_law xs N) 536 = bo_ald 537 1 := (tk_7 536 rfl).trans rfl
theorem l_L_law_537 {xs : Nat → Int32} {N : Nat} : bh_tb (T_L_law xs N) 537 = bo_ald 538 0 := (tk_7 537 rfl).trans rfl
theorem l_L_law_538 {xs : Nat → Int32} {N : Nat} : bh_tb (T_L_law xs N) 538 = bo_ild 540 5 := (tk_7 538 rfl).trans rfl
theorem l_L_law_540 {xs : Nat → Int32} {N : Nat} : bh_tb (T_L_law xs N) 540 = bo_st 541 (bg_push (.inl (.int 1))) := (tk_7 540 rfl).trans rfl
theorem l_L_law_541 {xs : Nat → Int32} {N : Nat} : bh_tb (T_L_law xs N) 541 = bo_st 542 (bg_ii (fun x y => x + y)) := (tk_7 541 rfl).trans rfl
theorem l_L_law_542 {xs : Nat → Int32} {N : Nat} : bh_tb (T_L_law xs N) 542 = bo_sald xs N 543 := (tk_7 542 rfl).trans rfl
theorem l_L_law_543 {xs : Nat → Int32} {N : Nat} : bh_tb (T_L_law xs N) 543 = bo_ald 544 3 := (tk_7 543 rfl).trans rfl
theorem l_L_law_544 {xs : Nat → Int32} {N : Nat} : bh_tb (T_L_law xs N) 544 = bo_callS 547 3 2 5000 F_L_stop := (tk_7 544 rfl).trans rfl
theorem l_L_law_547 {xs : Nat → Int32} {N : Nat} : bh_tb (T_L_law xs N) 547 = bo_ist 549 6 := (tk_7 547 rfl).trans rfl
theorem l_L_law_549 {xs : Nat → Int32} {N : Nat} : bh_tb (T_L_law xs N) 549 = bo_ald 550 2 := (tk_7 549 rfl).trans rfl
theorem l_L_law_550 {xs : Nat → Int32} {N : Nat} : bh_tb (T_L_law xs N) 550 = bo_ald 551 0 := (tk_7 550 rfl).trans rfl
theorem l_L_law_551 {xs : Nat → Int32} {N : Nat} : bh_tb (T_L_law xs N) 551 = bo_ild 553 5 := (tk_7 551 rfl).trans rfl
theorem l_L_law_553 {xs : Nat → Int32} {N : Nat} : bh_tb (T_L_law xs N) 553 = bo_st 554 (bg_push (.inl (.int 1))) := (tk_7 553 rfl).trans rfl
theorem l_L_law_554 {xs : Nat → Int32} {N : Nat} : bh_tb (T_L_law xs N) 554 = bo_st 555 (bg_ii (fun x y => x + y)) := (tk_7 554 rfl).trans rfl
theorem l_L_law_555 {xs : Nat → Int32} {N : Nat} : bh_tb (T_L_law xs N) 555 = bo_sald xs N 556 := (tk_7 555 rfl).trans rfl
theorem l_L_law_556 {xs : Nat → Int32} {N : Nat} : bh_tb (T_L_law xs N) 556 = bo_callV 559 2 0 5000 40 F_M_stop := (tk_7 556 rfl).trans rfl
theorem l_L_law_559 {xs : Nat → Int32} {N : Nat} : bh_tb (T_L_law xs N) 559 = bo_ist 561 7 := (tk_7 559 rfl).trans rfl
theorem l_L_law_561 {xs : Nat → Int32} {N : Nat} : bh_tb (T_L_law xs N) 561 = bo_ald 562 2 := (tk_7 561 rfl).trans rfl
theorem l_L_law_562 {xs : Nat → Int32} {N : Nat} : bh_tb (T_L_law xs N) 562 = bo_callV 565 1 0 5000 40 F_M_thrown := (tk_7 562 rfl).trans rfl
theorem l_L_law_565 {xs : Nat → Int32} {N : Nat} : bh_tb (T_L_law xs N) 565 = bo_ild 567 6 := (tk_8 565 rfl).trans rfl
theorem l_L_law_567 {xs : Nat → Int32} {N : Nat} : bh_tb (T_L_law xs N) 567 = bo_if2 570 572 (fun x y => x = y) := (tk_8 567 rfl).trans rfl
theorem l_L_law_570 {xs : Nat → Int32} {N : Nat} : bh_tb (T_L_law xs N) 570 = bo_st 571 (bg_push (.inl (.int 0))) := (tk_8 570 rfl).trans rfl
theorem l_L_law_571 {xs : Nat → Int32} {N : Nat} : bh_tb (T_L_law xs N) 571 = bo_zret 5000 := (tk_8 571 rfl).trans rfl
theorem l_L_law_572 {xs : Nat → Int32} {N : Nat} : bh_tb (T_L_law xs N) 572 = bo_ild 574 6 := (tk_8 572 rfl).trans rfl
theorem l_L_law_574 {xs : Nat → Int32} {N : Nat} : bh_tb (T_L_law xs N) 574 = bo_if1 577 589 (fun x => ¬ x = 0) := (tk_8 574 rfl).trans rfl
theorem l_L_law_577 {xs : Nat → Int32} {N : Nat} : bh_tb (T_L_law xs N) 577 = bo_ald 578 3 := (tk_8 577 rfl).trans rfl
theorem l_L_law_578 {xs : Nat → Int32} {N : Nat} : bh_tb (T_L_law xs N) 578 = bo_st 579 (bg_push (.inl (.int 0))) := (tk_8 578 rfl).trans rfl
theorem l_L_law_579 {xs : Nat → Int32} {N : Nat} : bh_tb (T_L_law xs N) 579 = bo_Jald bh_ak bh_al 580 := (tk_8 579 rfl).trans rfl
theorem l_L_law_580 {xs : Nat → Int32} {N : Nat} : bh_tb (T_L_law xs N) 580 = bo_ild 582 7 := (tk_8 580 rfl).trans rfl
theorem l_L_law_582 {xs : Nat → Int32} {N : Nat} : bh_tb (T_L_law xs N) 582 = bo_st 583 (bg_i1 (fun x => .inl (.long x.toInt64))) := (tk_8 582 rfl).trans rfl
theorem l_L_law_583 {xs : Nat → Int32} {N : Nat} : bh_tb (T_L_law xs N) 583 = bo_st 584 (bg_lc lg_cmp) := (tk_8 583 rfl).trans rfl
theorem l_L_law_584 {xs : Nat → Int32} {N : Nat} : bh_tb (T_L_law xs N) 584 = bo_if1 587 589 (fun x => x = 0) := (tk_8 584 rfl).trans rfl
theorem l_L_law_587 {xs : Nat → Int32} {N : Nat} : bh_tb (T_L_law xs N) 587 = bo_st 588 (bg_push (.inl (.int 0))) := (tk_8 587 rfl).trans rfl
theorem l_L_law_588 {xs : Nat → Int32} {N : Nat} : bh_tb (T_L_law xs N) 588 = bo_zret 5000 := (tk_8 588 rfl).trans rfl
theorem l_L_law_589 {xs : Nat → Int32} {N : Nat} : bh_tb (T_L_law xs N) 589 = bo_go 1312 := (tk_8 589 rfl).trans rfl
theorem l_L_law_592 {xs : Nat → Int32} {N : Nat} : bh_tb (T_L_law xs N) 592 = bo_ald 593 1 := (tk_8 592 rfl).trans rfl
theorem l_L_law_593 {xs : Nat → Int32} {N : Nat} : bh_tb (T_L_law xs N) 593 = bo_ald 594 0 := (tk_8 593 rfl).trans rfl
theorem l_L_law_594 {xs : Nat → Int32} {N : Nat} : bh_tb (T_L_law xs N) 594 = bo_ild 596 5 := (tk_8 594 rfl).trans rfl
theorem l_L_law_596 {xs : Nat → Int32} {N : Nat} : bh_tb (T_L_law xs N) 596 = bo_st 597 (bg_push (.inl (.int 1))) := (tk_8 596 rfl).trans rfl
theorem l_L_law_597 {xs : Nat → Int32} {N : Nat} : bh_tb (T_L_law xs N) 597 = bo_st 598 (bg_ii (fun x y => x + y)) := (tk_8 597 rfl).trans rfl
theorem l_L_law_598 {xs : Nat → Int32} {N : Nat} : bh_tb (T_L_law xs N) 598 = bo_sald xs N 599 := (tk_8 598 rfl).trans rfl
theorem l_L_law_599 {xs : Nat → Int32} {N : Nat} : bh_tb (T_L_law xs N) 599 = bo_ald 600 3 := (tk_8 599 rfl).trans rfl
theorem l_L_law_600 {xs : Nat → Int32} {N : Nat} : bh_tb (T_L_law xs N) 600 = bo_callS 603 3 1 5000 F_L_level := (tk_8 600 rfl).trans rfl
theorem l_L_law_603 {xs : Nat → Int32} {N : Nat} : bh_tb (T_L_law xs N) 603 = bo_ist 605 6 := (tk_8 603 rfl).trans rfl
theorem l_L_law_605 {xs : Nat → Int32} {N : Nat} : bh_tb (T_L_law xs N) 605 = bo_ald 606 2 := (tk_8 605 rfl).trans rfl
theorem l_L_law_606 {xs : Nat → Int32} {N : Nat} : bh_tb (T_L_law xs N) 606 = bo_ald 607 0 := (tk_8 606 rfl).trans rfl
theorem l_L_law_607 {xs : Nat → Int32} {N : Nat} : bh_tb (T_L_law xs N) 607 = bo_ild 609 5 := (tk_8 607 rfl).trans rfl
theorem l_L_law_609 {xs : Nat → Int32} {N : Nat} : bh_tb (T_L_law xs N) 609 = bo_st 610 (bg_push (.inl (.int 1))) := (tk_8 609 rfl).trans rfl
theorem l_L_law_610 {xs : Nat → Int32} {N : Nat} : bh_tb (T_L_law xs N) 610 = bo_st 611 (bg_ii (fun x y => x + y)) := (tk_8 610 rfl).trans rfl
theorem l_L_law_611 {xs : Nat → Int32} {N : Nat} : bh_tb (T_L_law xs N) 611 = bo_sald xs N 612 := (tk_8 611 rfl).trans rfl
theorem l_L_law_612 {xs : Nat → Int32} {N : Nat} : bh_tb (T_L_law xs N) 612 = bo_callV 615 2 0 5000 40 F_M_level := (tk_8 612 rfl).trans rfl
theorem l_L_law_615 {xs : Nat → Int32} {N : Nat} : bh_tb (T_L_law xs N) 615 = bo_ist 617 7 := (tk_8 615 rfl).trans rfl
theorem l_L_law_617 {xs : Nat → Int32} {N : Nat} : bh_tb (T_L_law xs N) 617 = bo_ald 618 2 := (tk_8 617 rfl).trans rfl
theorem l_L_law_618 {xs : Nat → Int32} {N : Nat} : bh_tb (T_L_law xs N) 618 = bo_callV 621 1 0 5000 40 F_M_thrown := (tk_8 618 rfl).trans rfl
theorem l_L_law_621 {xs : Nat → Int32} {N : Nat} : bh_tb (T_L_law xs N) 621 = bo_ild 623 6 := (tk_8 621 rfl).trans rfl
theorem l_L_law_623 {xs : Nat → Int32} {N : Nat} : bh_tb (T_L_law xs N) 623 = bo_if2 626 628 (fun x y => x = y) := (tk_8 623 rfl).trans rfl
theorem l_L_law_626 {xs : Nat → Int32} {N : Nat} : bh_tb (T_L_law xs N) 626 = bo_st 627 (bg_push (.inl (.int 0))) := (tk_8 626 rfl).trans rfl
theorem l_L_law_627 {xs : Nat → Int32} {N : Nat} : bh_tb (T_L_law xs N) 627 = bo_zret 5000 := (tk_8 627 rfl).trans rfl
theorem l_L_law_628 {xs : Nat → Int32} {N : Nat} : bh_tb (T_L_law xs N) 628 = bo_ild 630 6 := (tk_8 628 rfl).trans rfl
theorem l_L_law_630 {xs : Nat → Int32} {N : Nat} : bh_tb (T_L_law xs N) 630 = bo_if1 633 645 (fun x => ¬ x = 0) := (tk_9 630 rfl).trans rfl
theorem l_L_law_633 {xs : Nat → Int32} {N : Nat} : bh_tb (T_L_law xs N) 633 = bo_ald 634 3 := (tk_9 633 rfl).trans rfl
theorem l_L_law_634 {xs : Nat → Int32} {N : Nat} : bh_tb (T_L_law xs N) 634 = bo_st 635 (bg_push (.inl (.int 0))) := (tk_9 634 rfl).trans rfl
theorem l_L_law_635 {xs : Nat → Int32} {N : Nat} : bh_tb (T_L_law xs N) 635 = bo_Jald bh_ak bh_al 636 := (tk_9 635 rfl).trans rfl
theorem l_L_law_636 {xs : Nat → Int32} {N : Nat} : bh_tb (T_L_law xs N) 636 = bo_ild 638 7 := (tk_9 636 rfl).trans rfl
theorem l_L_law_638 {xs : Nat → Int32} {N : Nat} : bh_tb (T_L_law xs N) 638 = bo_st 639 (bg_i1 (fun x => .inl (.long x.toInt64))) := (tk_9 638 rfl).trans rfl
theorem l_L_law_639 {xs : Nat → Int32} {N : Nat} : bh_tb (T_L_law xs N) 639 = bo_st 640 (bg_lc lg_cmp) := (tk_9 639 rfl).trans rfl
theorem l_L_law_640 {xs : Nat → Int32} {N : Nat} : bh_tb (T_L_law xs N) 640 = bo_if1 643 645 (fun x => x = 0) := (tk_9 640 rfl).trans rfl
theorem l_L_law_643 {xs : Nat → Int32} {N : Nat} : bh_tb (T_L_law xs N) 643 = bo_st 644 (bg_push (.inl (.int 0))) := (tk_9 643 rfl).trans rfl
theorem l_L_law_644 {xs : Nat → Int32} {N : Nat} : bh_tb (T_L_law xs N) 644 = bo_zret 5000 := (tk_9 644 rfl).trans rfl
theorem l_L_law_645 {xs : Nat → Int32} {N : Nat} : bh_tb (T_L_law xs N) 645 = bo_go 1312 := (tk_9 645 rfl).trans rfl
theorem l_L_law_648 {xs : Nat → Int32} {N : Nat} : bh_tb (T_L_law xs N) 648 = bo_ald 649 1 := (tk_9 648 rfl).trans rfl
theorem l_L_law_649 {xs : Nat → Int32} {N : Nat} : bh_tb (T_L_law xs N) 649 = bo_ald 650 0 := (tk_9 649 rfl).trans rfl
theorem l_L_law_650 {xs : Nat → Int32} {N : Nat} : bh_tb (T_L_law xs N) 650 = bo_ild 652 5 := (tk_9 650 rfl).trans rfl
theorem l_L_law_652 {xs : Nat → Int32} {N : Nat} : bh_tb (T_L_law xs N) 652 = bo_st 653 (bg_push (.inl (.int 1))) := (tk_9 652 rfl).trans rfl
theorem l_L_law_653 {xs : Nat → Int32} {N : Nat} : bh_tb (T_L_law xs N) 653 = bo_st 654 (bg_ii (fun x y => x + y)) := (tk_9 653 rfl).trans rfl
theorem l_L_law_654 {xs : Nat → Int32} {N : Nat} : bh_tb (T_L_law xs N) 654 = bo_sald xs N 655 := (tk_9 654 rfl).trans rfl
theorem l_L_law_655 {xs : Nat → Int32} {N : Nat} : bh_tb (T_L_law xs N) 655 = bo_ald 656 3 := (tk_9 655 rfl).trans rfl
theorem l_L_law_656 {xs : Nat → Int32} {N : Nat} : bh_tb (T_L_law xs N) 656 = bo_callS 659 3 2 5000 F_L_uninstall := (tk_9 656 rfl).trans rfl
theorem l_L_law_659 {xs : Nat → Int32} {N : Nat} : bh_tb (T_L_law xs N) 659 = bo_ist 661 6 := (tk_9 659 rfl).trans rfl
theorem l_L_law_661 {xs : Nat → Int32} {N : Nat} : bh_tb (T_L_law xs N) 661 = bo_ald 662 2 := (tk_9 661 rfl).trans rfl
theorem l_L_law_662 {xs : Nat → Int32} {N : Nat} : bh_tb (T_L_law xs N) 662 = bo_ald 663 0 := (tk_9 662 rfl).trans rfl
theorem l_L_law_663 {xs : Nat → Int32} {N : Nat} : bh_tb (T_L_law xs N) 663 = bo_ild 665 5 := (tk_9 663 rfl).trans rfl
theorem l_L_law_665 {xs : Nat → Int32} {N : Nat} : bh_tb (T_L_law xs N) 665 = bo_st 666 (bg_push (.inl (.int 1))) := (tk_9 665 rfl).trans rfl
theorem l_L_law_666 {xs : Nat → Int32} {N : Nat} : bh_tb (T_L_law xs N) 666 = bo_st 667 (bg_ii (fun x y => x + y)) := (tk_9 666 rfl).trans rfl
theorem l_L_law_667 {xs : Nat → Int32} {N : Nat} : bh_tb (T_L_law xs N) 667 = bo_sald xs N 668 := (tk_9 667 rfl).trans rfl
theorem l_L_law_668 {xs : Nat → Int32} {N : Nat} : bh_tb (T_L_law xs N) 668 = bo_callV 671 2 0 5000 40 F_M_uninstall := (tk_9 668 rfl).trans rfl
theorem l_L_law_671 {xs : Nat → Int32} {N : Nat} : bh_tb (T_L_law xs N) 671 = bo_ist 673 7 := (tk_9 671 rfl).trans rfl
theorem l_L_law_673 {xs : Nat → Int32} {N : Nat} : bh_tb (T_L_law xs N) 673 = bo_ald 674 2 := (tk_9 673 rfl).trans rfl
theorem l_L_law_674 {xs : Nat → Int32} {N : Nat} : bh_tb (T_L_law xs N) 674 = bo_callV 677 1 0 5000 40 F_M_thrown := (tk_9 674 rfl).trans rfl
theorem l_L_law_677 {xs : Nat → Int32} {N : Nat} : bh_tb (T_L_law xs N) 677 = bo_ild 679 6 := (tk_9 677 rfl).trans rfl
theorem l_L_law_679 {xs : Nat → Int32} {N : Nat} : bh_tb (T_L_law xs N) 679 = bo_if2 682 684 (fun x y => x = y) := (tk_9 679 rfl).trans rfl
theorem l_L_law_682 {xs : Nat → Int32} {N : Nat} : bh_tb (T_L_law xs N) 682 = bo_st 683 (bg_push (.inl (.int 0))) := (tk_9 682 rfl).trans rfl
theorem l_L_law_683 {xs : Nat → Int32} {N : Nat} : bh_tb (T_L_law xs N) 683 = bo_zret 5000 := (tk_9 683 rfl).trans rfl
theorem l_L_law_684 {xs : Nat → Int32} {N : Nat} : bh_tb (T_L_law xs N) 684 = bo_ild 686 6 := (tk_9 684 rfl).trans rfl
theorem l_L_law_686 {xs : Nat → Int32} {N : Nat} : bh_tb (T_L_law xs N) 686 = bo_if1 689 701 (fun x => ¬ x = 0) := (tk_9 686 rfl).trans rfl
theorem l_L_law_689 {xs : Nat → Int32} {N : Nat} : bh_tb (T_L_law xs N) 689 = bo_ald 690 3 := (tk_9 689 rfl).trans rfl
theorem l_L_law_690 {xs : Nat → Int32} {N : Nat} : bh_tb (T_L_law xs N) 690 = bo_st 691 (bg_push (.inl (.int 0))) := (tk_9 690 rfl).trans rfl
theorem l_L_law_691 {xs : Nat → Int32} {N : Nat} : bh_tb (T_L_law xs N) 691 = bo_Jald bh_ak bh_al 692 := (tk_9 691 rfl).trans rfl
theorem l_L_law_692 {xs : Nat → Int32} {N : Nat} : bh_tb (T_L_law xs N) 692 = bo_ild 694 7 := (tk_9 692 rfl).trans rfl
theorem l_L_law_694 {xs : Nat → Int32} {N : Nat} : bh_tb (T_L_law xs N) 694 = bo_st 695 (bg_i1 (fun x => .inl (.long x.toInt64))) := (tk_10 694 rfl).trans rfl
theorem l_L_law_695 {xs : Nat → Int32} {N : Nat} : bh_tb (T_L_law xs N) 695 = bo_st 696 (bg_lc lg_cmp) := (tk_10 695 rfl).trans rfl
theorem l_L_law_696 {xs : Nat → Int32} {N : Nat} : bh_tb (T_L_law xs N) 696 = bo_if1 699 701 (fun x => x = 0) := (tk_10 696 rfl).trans rfl
theorem l_L_law_699 {xs : Nat → Int32} {N : Nat} : bh_tb (T_L_law xs N) 699 = bo_st 700 (bg_push (.inl (.int 0))) := (tk_10 699 rfl).trans rfl
theorem l_L_law_700 {xs : Nat → Int32} {N : Nat} : bh_tb (T_L_law xs N) 700 = bo_zret 5000 := (tk_10 700 rfl).trans rfl
theorem l_L_law_701 {xs : Nat → Int32} {N : Nat} : bh_tb (T_L_law xs N) 701 = bo_go 1312 := (tk_10 701 rfl).trans rfl
theorem l_L_law_704 {xs : Nat → Int32} {N : Nat} : bh_tb (T_L_law xs N) 704 = bo_ald 705 1 := (tk_10 704 rfl).trans rfl
theorem l_L_law_705 {xs : Nat → Int32} {N : Nat} : bh_tb (T_L_law xs N) 705 = bo_ald 706 0 := (tk_10 705 rfl).trans rfl
theorem l_L_law_706 {xs : Nat → Int32} {N : Nat} : bh_tb (T_L_law xs N) 706 = bo_ild 708 5 := (tk_10 706 rfl).trans rfl
theorem l_L_law_708 {xs : Nat → Int32} {N : Nat} : bh_tb (T_L_law xs N) 708 = bo_st 709 (bg_push (.inl (.int 1))) := (tk_10 708 rfl).trans rfl
theorem l_L_law_709 {xs : Nat → Int32} {N : Nat} : bh_tb (T_L_law xs N) 709 = bo_st 710 (bg_ii (fun x y => x + y)) := (tk_10 709 rfl).trans rfl
theorem l_L_law_710 {xs : Nat → Int32} {N : Nat} : bh_tb (T_L_law xs N) 710 = bo_sald xs N 711 := (tk_10 710 rfl).trans rfl
theorem l_L_law_711 {xs : Nat → Int32} {N : Nat} : bh_tb (T_L_law xs N) 711 = bo_ald 712 3 := (tk_10 711 rfl).trans rfl
theorem l_L_law_712 {xs : Nat → Int32} {N : Nat} : bh_tb (T_L_law xs N) 712 = bo_callS 715 3 2 5000 F_L_update := (tk_10 712 rfl).trans rfl
theorem l_L_law_715 {xs : Nat → Int32} {N : Nat} : bh_tb (T_L_law xs N) 715 = bo_ist 717 6 := (tk_10 715 rfl).trans rfl
theorem l_L_law_717 {xs : Nat → Int32} {N : Nat} : bh_tb (T_L_law xs N) 717 = bo_ald 718 2 := (tk_10 717 rfl).trans rfl
theorem l_L_law_718 {xs : Nat → Int32} {N : Nat} : bh_tb (T_L_law xs N) 718 = bo_ald 719 0 := (tk_10 718 rfl).trans rfl
theorem l_L_law_719 {xs : Nat → Int32} {N : Nat} : bh_tb (T_L_law xs N) 719 = bo_ild 721 5 := (tk_10 719 rfl).trans rfl
theorem l_L_law_721 {xs : Nat → Int32} {N : Nat} : bh_tb (T_L_law xs N) 721 = bo_st 722 (bg_push (.inl (.int 1))) := (tk_10 721 rfl).trans rfl
theorem l_L_law_722 {xs : Nat → Int32} {N : Nat} : bh_tb (T_L_law xs N) 722 = bo_st 723 (bg_ii (fun x y => x + y)) := (tk_10 722 rfl).trans rfl
theorem l_L_law_723 {xs : Nat → Int32} {N : Nat} : bh_tb (T_L_law xs N) 723 = bo_sald xs N 724 := (tk_10 723 rfl).trans rfl
theorem l_L_law_724 {xs : Nat → Int32} {N : Nat} : bh_tb (T_L_law xs N) 724 = bo_callV 727 2 0 5000 40 F_M_update := (tk_10 724 rfl).trans rfl
theorem l_L_law_727 {xs : Nat → Int32} {N : Nat} : bh_tb (T_L_law xs N) 727 = bo_ist 729 7 := (tk_10 727 rfl).trans rfl
theorem l_L_law_729 {xs : Nat → Int32} {N : Nat} : bh_tb (T_L_law xs N) 729 = bo_ald 730 2 := (tk_10 729 rfl).trans rfl
theorem l_L_law_730 {xs : Nat → Int32} {N : Nat} : bh_tb (T_L_law xs N) 730 = bo_callV 733 1 0 5000 40 F_M_thrown := (tk_10 730 rfl).trans rfl
theorem l_L_law_733 {xs : Nat → Int32} {N : Nat} : bh_tb (T_L_law xs N) 733 = bo_ild 735 6 := (tk_10 733 rfl).trans rfl
theorem l_L_law_735 {xs : Nat → Int32} {N : Nat} : bh_tb (T_L_law xs N) 735 = bo_if2 738 740 (fun x y => x = y) := (tk_10 735 rfl).trans rfl
theorem l_L_law_738 {xs : Nat → Int32} {N : Nat} : bh_tb (T_L_law xs N) 738 = bo_st 739 (bg_push (.inl (.int 0))) := (tk_10 738 rfl).trans rfl
theorem l_L_law_739 {xs : Nat → Int32} {N : Nat} : bh_tb (T_L_law xs N) 739 = bo_zret 5000 := (tk_10 739 rfl).trans rfl
theorem l_L_law_740 {xs : Nat → Int32} {N : Nat} : bh_tb (T_L_law xs N) 740 = bo_ild 742 6 := (tk_10 740 rfl).trans rfl
theorem l_L_law_742 {xs : Nat → Int32} {N : Nat} : bh_tb (T_L_law xs N) 742 = bo_if1 745 757 (fun x => ¬ x = 0) := (tk_10 742 rfl).trans rfl
theorem l_L_law_745 {xs : Nat → Int32} {N : Nat} : bh_tb (T_L_law xs N) 745 = bo_ald 746 3 := (tk_10 745 rfl).trans rfl
theorem l_L_law_746 {xs : Nat → Int32} {N : Nat} : bh_tb (T_L_law xs N) 746 = bo_st 747 (bg_push (.inl (.int 0))) := (tk_10 746 rfl).trans rfl
theorem l_L_law_747 {xs : Nat → Int32} {N : Nat} : bh_tb (T_L_law xs N) 747 = bo_Jald bh_ak bh_al 748 := (tk_10 747 rfl).trans rfl
theorem l_L_law_748 {xs : Nat → Int32} {N : Nat} : bh_tb (T_L_law xs N) 748 = bo_ild 750 7 := (tk_10 748 rfl).trans rfl
theorem l_L_law_750 {xs : Nat → Int32} {N : Nat} : bh_tb (T_L_law xs N) 750 = bo_st 751 (bg_i1 (fun x => .inl (.long x.toInt64))) := (tk_10 750 rfl).trans rfl
theorem l_L_law_751 {xs : Nat → Int32} {N : Nat} : bh_tb (T_L_law xs N) 751 = bo_st 752 (bg_lc lg_cmp) := (tk_10 751 rfl).trans rfl
theorem l_L_law_752 {xs : Nat → Int32} {N : Nat} : bh_tb (T_L_law xs N) 752 = bo_if1 755 757 (fun x => x = 0) := (tk_10 752 rfl).trans rfl
theorem l_L_law_755 {xs : Nat → Int32} {N : Nat} : bh_tb (T_L_law xs N) 755 = bo_st 756 (bg_push (.inl (.int 0))) := (tk_10 755 rfl).trans rfl
theorem l_L_law_756 {xs : Nat → Int32} {N : Nat} : bh_tb (T_L_law xs N) 756 = bo_zret 5000 := (tk_10 756 rfl).trans rfl
theorem l_L_law_757 {xs : Nat → Int32} {N : Nat} : bh_tb (T_L_law xs N) 757 = bo_go 1312 := (tk_11 757 rfl).trans rfl
theorem l_L_law_760 {xs : Nat → Int32} {N : Nat} : bh_tb (T_L_law xs N) 760 = bo_ald 761 1 := (tk_11 760 rfl).trans rfl
theorem l_L_law_761 {xs : Nat → Int32} {N : Nat} : bh_tb (T_L_law xs N) 761 = bo_callV 764 1 0 5000 3 F_H_refresh := (tk_11 761 rfl).trans rfl
theorem l_L_law_764 {xs : Nat → Int32} {N : Nat} : bh_tb (T_L_law xs N) 764 = bo_ald 765 2 := (tk_11 764 rfl).trans rfl
theorem l_L_law_765 {xs : Nat → Int32} {N : Nat} : bh_tb (T_L_law xs N) 765 = bo_callV 768 1 0 5000 40 F_M_refresh := (tk_11 765 rfl).trans rfl
theorem l_L_law_768 {xs : Nat → Int32} {N : Nat} : bh_tb (T_L_law xs N) 768 = bo_if2 771 1312 (fun x y => x = y) := (tk_11 768 rfl).trans rfl
theorem l_L_law_771 {xs : Nat → Int32} {N : Nat} : bh_tb (T_L_law xs N) 771 = bo_st 772 (bg_push (.inl (.int 0))) := (tk_11 771 rfl).trans rfl
theorem l_L_law_772 {xs : Nat → Int32} {N : Nat} : bh_tb (T_L_law xs N) 772 = bo_zret 5000 := (tk_11 772 rfl).trans rfl
theorem l_L_law_773 {xs : Nat → Int32} {N : Nat} : bh_tb (T_L_law xs N) 773 = bo_ald 774 1 := (tk_11 773 rfl).trans rfl
theorem l_L_law_774 {xs : Nat → Int32} {N : Nat} : bh_tb (T_L_law xs N) 774 = bo_ald 775 0 := (tk_11 774 rfl).trans rfl
theorem l_L_law_775 {xs : Nat → Int32} {N : Nat} : bh_tb (T_L_law xs N) 775 = bo_ild 777 5 := (tk_11 775 rfl).trans rfl
theorem l_L_law_777 {xs : Nat → Int32} {N : Nat} : bh_tb (T_L_law xs N) 777 = bo_st 778 (bg_push (.inl (.int 1))) := (tk_11 777 rfl).trans rfl
theorem l_L_law_778 {xs : Nat → Int32} {N : Nat} : bh_tb (T_L_law xs N) 778 = bo_st 779 (bg_ii (fun x y => x + y)) := (tk_11 778 rfl).trans rfl
theorem l_L_law_779 {xs : Nat → Int32} {N : Nat} : bh_tb (T_L_law xs N) 779 = bo_sald xs N 780 := (tk_11 779 rfl).trans rfl
theorem l_L_law_780 {xs : Nat → Int32} {N : Nat} : bh_tb (T_L_law xs N) 780 = bo_ald 781 0 := (tk_11 780 rfl).trans rfl
theorem l_L_law_781 {xs : Nat → Int32} {N : Nat} : bh_tb (T_L_law xs N) 781 = bo_ild 783 5 := (tk_11 781 rfl).trans rfl
theorem l_L_law_783 {xs : Nat → Int32} {N : Nat} : bh_tb (T_L_law xs N) 783 = bo_st 784 (bg_push (.inl (.int 2))) := (tk_11 783 rfl).trans rfl
theorem l_L_law_784 {xs : Nat → Int32} {N : Nat} : bh_tb (T_L_law xs N) 784 = bo_st 785 (bg_ii (fun x y => x + y)) := (tk_11 784 rfl).trans rfl
theorem l_L_law_785 {xs : Nat → Int32} {N : Nat} : bh_tb (T_L_law xs N) 785 = bo_sald xs N 786 := (tk_11 785 rfl).trans rfl
theorem l_L_law_786 {xs : Nat → Int32} {N : Nat} : bh_tb (T_L_law xs N) 786 = bo_ald 787 0 := (tk_11 786 rfl).trans rfl
theorem l_L_law_787 {xs : Nat → Int32} {N : Nat} : bh_tb (T_L_law xs N) 787 = bo_ild 789 5 := (tk_11 787 rfl).trans rfl
theorem l_L_law_789 {xs : Nat → Int32} {N : Nat} : bh_tb (T_L_law xs N) 789 = bo_st 790 (bg_push (.inl (.int 3))) := (tk_11 789 rfl).trans rfl
theorem l_L_law_790 {xs : Nat → Int32} {N : Nat} : bh_tb (T_L_law xs N) 790 = bo_st 791 (bg_ii (fun x y => x + y)) := (tk_11 790 rfl).trans rfl
theorem l_L_law_791 {xs : Nat → Int32} {N : Nat} : bh_tb (T_L_law xs N) 791 = bo_sald xs N 792 := (tk_11 791 rfl).trans rfl
theorem l_L_law_792 {xs : Nat → Int32} {N : Nat} : bh_tb (T_L_law xs N) 792 = bo_st 793 (bg_i1 (fun x => .inl (.double (FP.i2d x)))) := (tk_11 792 rfl).trans rfl
theorem l_L_law_793 {xs : Nat → Int32} {N : Nat} : bh_tb (T_L_law xs N) 793 = bo_st 796 (bg_push (.inl (.double 4593671619917905920))) := (tk_11 793 rfl).trans rfl
theorem l_L_law_796 {xs : Nat → Int32} {N : Nat} : bh_tb (T_L_law xs N) 796 = bo_st 797 (bg_dd FP.dmul) := (tk_11 796 rfl).trans rfl
theorem l_L_law_797 {xs : Nat → Int32} {N : Nat} : bh_tb (T_L_law xs N) 797 = bo_ald 798 3 := (tk_11 797 rfl).trans rfl
theorem l_L_law_798 {xs : Nat → Int32} {N : Nat} : bh_tb (T_L_law xs N) 798 = bo_callS 801 5 6 5000 F_L_register := (tk_11 798 rfl).trans rfl
theorem l_L_law_801 {xs : Nat → Int32} {N : Nat} : bh_tb (T_L_law xs N) 801 = bo_ist 803 6 := (tk_11 801 rfl).trans rfl
theorem l_L_law_803 {xs : Nat → Int32} {N : Nat} : bh_tb (T_L_law xs N) 803 = bo_ald 804 2 := (tk_11 803 rfl).trans rfl
theorem l_L_law_804 {xs : Nat → Int32} {N : Nat} : bh_tb (T_L_law xs N) 804 = bo_ald 805 0 := (tk_11 804 rfl).trans rfl
theorem l_L_law_805 {xs : Nat → Int32} {N : Nat} : bh_tb (T_L_law xs N) 805 = bo_ild 807 5 := (tk_11 805 rfl).trans rfl
theorem l_L_law_807 {xs : Nat → Int32} {N : Nat} : bh_tb (T_L_law xs N) 807 = bo_st 808 (bg_push (.inl (.int 1))) := (tk_11 807 rfl).trans rfl
theorem l_L_law_808 {xs : Nat → Int32} {N : Nat} : bh_tb (T_L_law xs N) 808 = bo_st 809 (bg_ii (fun x y => x + y)) := (tk_11 808 rfl).trans rfl
theorem l_L_law_809 {xs : Nat → Int32} {N : Nat} : bh_tb (T_L_law xs N) 809 = bo_sald xs N 810 := (tk_11 809 rfl).trans rfl
theorem l_L_law_810 {xs : Nat → Int32} {N : Nat} : bh_tb (T_L_law xs N) 810 = bo_ald 811 0 := (tk_11 810 rfl).trans rfl
theorem l_L_law_811 {xs : Nat → Int32} {N : Nat} : bh_tb (T_L_law xs N) 811 = bo_ild 813 5 := (tk_11 811 rfl).trans rfl
theorem l_L_law_813 {xs : Nat → Int32} {N : Nat} : bh_tb (T_L_law xs N) 813 = bo_st 814 (bg_push (.inl (.int 2))) := (tk_11 813 rfl).trans rfl
theorem l_L_law_814 {xs : Nat → Int32} {N : Nat} : bh_tb (T_L_law xs N) 814 = bo_st 815 (bg_ii (fun x y => x + y)) := (tk_11 814 rfl).trans rfl
theorem l_L_law_815 {xs : Nat → Int32} {N : Nat} : bh_tb (T_L_law xs N) 815 = bo_sald xs N 816 := (tk_12 815 rfl).trans rfl
theorem l_L_law_816 {xs : Nat → Int32} {N : Nat} : bh_tb (T_L_law xs N) 816 = bo_ald 817 0 := (tk_12 816 rfl).trans rfl
theorem l_L_law_817 {xs : Nat → Int32} {N : Nat} : bh_tb (T_L_law xs N) 817 = bo_ild 819 5 := (tk_12 817 rfl).trans rfl
theorem l_L_law_819 {xs : Nat → Int32} {N : Nat} : bh_tb (T_L_law xs N) 819 = bo_st 820 (bg_push (.inl (.int 3))) := (tk_12 819 rfl).trans rfl
theorem l_L_law_820 {xs : Nat → Int32} {N : Nat} : bh_tb (T_L_law xs N) 820 = bo_st 821 (bg_ii (fun x y => x + y)) := (tk_12 820 rfl).trans rfl
theorem l_L_law_821 {xs : Nat → Int32} {N : Nat} : bh_tb (T_L_law xs N) 821 = bo_sald xs N 822 := (tk_12 821 rfl).trans rfl
theorem l_L_law_822 {xs : Nat → Int32} {N : Nat} : bh_tb (T_L_law xs N) 822 = bo_st 823 (bg_i1 (fun x => .inl (.double (FP.i2d x)))) := (tk_12 822 rfl).trans rfl
theorem l_L_law_823 {xs : Nat → Int32} {N : Nat} : bh_tb (T_L_law xs N) 823 = bo_st 826 (bg_push (.inl (.double 4593671619917905920))) := (tk_12 823 rfl).trans rfl
theorem l_L_law_826 {xs : Nat → Int32} {N : Nat} : bh_tb (T_L_law xs N) 826 = bo_st 827 (bg_dd FP.dmul) := (tk_12 826 rfl).trans rfl
theorem l_L_law_827 {xs : Nat → Int32} {N : Nat} : bh_tb (T_L_law xs N) 827 = bo_callV 830 4 0 5000 40 F_M_register := (tk_12 827 rfl).trans rfl
theorem l_L_law_830 {xs : Nat → Int32} {N : Nat} : bh_tb (T_L_law xs N) 830 = bo_ist 832 7 := (tk_12 830 rfl).trans rfl
theorem l_L_law_832 {xs : Nat → Int32} {N : Nat} : bh_tb (T_L_law xs N) 832 = bo_ald 833 2 := (tk_12 832 rfl).trans rfl
theorem l_L_law_833 {xs : Nat → Int32} {N : Nat} : bh_tb (T_L_law xs N) 833 = bo_callV 836 1 0 5000 40 F_M_thrown := (tk_12 833 rfl).trans rfl
theorem l_L_law_836 {xs : Nat → Int32} {N : Nat} : bh_tb (T_L_law xs N) 836 = bo_ild 838 6 := (tk_12 836 rfl).trans rfl
theorem l_L_law_838 {xs : Nat → Int32} {N : Nat} : bh_tb (T_L_law xs N) 838 = bo_if2 841 843 (fun x y => x = y) := (tk_12 838 rfl).trans rfl
theorem l_L_law_841 {xs : Nat → Int32} {N : Nat} : bh_tb (T_L_law xs N) 841 = bo_st 842 (bg_push (.inl (.int 0))) := (tk_12 841 rfl).trans rfl
theorem l_L_law_842 {xs : Nat → Int32} {N : Nat} : bh_tb (T_L_law xs N) 842 = bo_zret 5000 := (tk_12 842 rfl).trans rfl
theorem l_L_law_843 {xs : Nat → Int32} {N : Nat} : bh_tb (T_L_law xs N) 843 = bo_ild 845 6 := (tk_12 843 rfl).trans rfl
theorem l_L_law_845 {xs : Nat → Int32} {N : Nat} : bh_tb (T_L_law xs N) 845 = bo_if1 848 860 (fun x => ¬ x = 0) := (tk_12 845 rfl).trans rfl
theorem l_L_law_848 {xs : Nat → Int32} {N : Nat} : bh_tb (T_L_law xs N) 848 = bo_ald 849 3 := (tk_12 848 rfl).trans rfl
theorem l_L_law_849 {xs : Nat → Int32} {N : Nat} : bh_tb (T_L_law xs N) 849 = bo_st 850 (bg_push (.inl (.int 0))) := (tk_12 849 rfl).trans rfl
theorem l_L_law_850 {xs : Nat → Int32} {N : Nat} : bh_tb (T_L_law xs N) 850 = bo_Jald bh_ak bh_al 851 := (tk_12 850 rfl).trans rfl
theorem l_L_law_851 {xs : Nat → Int32} {N : Nat} : bh_tb (T_L_law xs N) 851 = bo_ild 853 7 := (tk_12 851 rfl).trans rfl
theorem l_L_law_853 {xs : Nat → Int32} {N : Nat} : bh_tb (T_L_law xs N) 853 = bo_st 854 (bg_i1 (fun x => .inl (.long x.toInt64))) := (tk_12 853 rfl).trans rfl
theorem l_L_law_854 {xs : Nat → Int32} {N : Nat} : bh_tb (T_L_law xs N) 854 = bo_st 855 (bg_lc lg_cmp) := (tk_12 854 rfl).trans rfl
theorem l_L_law_855 {xs : Nat → Int32} {N : Nat} : bh_tb (T_L_law xs N) 855 = bo_if1 858 860 (fun x => x = 0) := (tk_12 855 rfl).trans rfl
theorem l_L_law_858 {xs : Nat → Int32} {N : Nat} : bh_tb (T_L_law xs N) 858 = bo_st 859 (bg_push (.inl (.int 0))) := (tk_12 858 rfl).trans rfl
theorem l_L_law_859 {xs : Nat → Int32} {N : Nat} : bh_tb (T_L_law xs N) 859 = bo_zret 5000 := (tk_12 859 rfl).trans rfl
theorem l_L_law_860 {xs : Nat → Int32} {N : Nat} : bh_tb (T_L_law xs N) 860 = bo_go 1312 := (tk_12 860 rfl).trans rfl
theorem l_L_law_863 {xs : Nat → Int32} {N : Nat} : bh_tb (T_L_law xs N) 863 = bo_ald 864 1 := (tk_12 863 rfl).trans rfl
theorem l_L_law_864 {xs : Nat → Int32} {N : Nat} : bh_tb (T_L_law xs N) 864 = bo_ald 865 0 := (tk_12 864 rfl).trans rfl
theorem l_L_law_865 {xs : Nat → Int32} {N : Nat} : bh_tb (T_L_law xs N) 865 = bo_ild 867 5 := (tk_12 865 rfl).trans rfl
theorem l_L_law_867 {xs : Nat → Int32} {N : Nat} : bh_tb (T_L_law xs N) 867 = bo_st 868 (bg_push (.inl (.int 1))) := (tk_12 867 rfl).trans rfl
theorem l_L_law_868 {xs : Nat → Int32} {N : Nat} : bh_tb (T_L_law xs N) 868 = bo_st 869 (bg_ii (fun x y => x + y)) := (tk_12 868 rfl).trans rfl
theorem l_L_law_869 {xs : Nat → Int32} {N : Nat} : bh_tb (T_L_law xs N) 869 = bo_sald xs N 870 := (tk_12 869 rfl).trans rfl
theorem l_L_law_870 {xs : Nat → Int32} {N : Nat} : bh_tb (T_L_law xs N) 870 = bo_ald 871 0 := (tk_12 870 rfl).trans rfl
theorem l_L_law_871 {xs : Nat → Int32} {N : Nat} : bh_tb (T_L_law xs N) 871 = bo_ild 873 5 := (tk_12 871 rfl).trans rfl
theorem l_L_law_873 {xs : Nat → Int32} {N : Nat} : bh_tb (T_L_law xs N) 873 = bo_st 874 (bg_push (.inl (.int 2))) := (tk_12 873 rfl).trans rfl
theorem l_L_law_874 {xs : Nat → Int32} {N : Nat} : bh_tb (T_L_law xs N) 874 = bo_st 875 (bg_ii (fun x y => x + y)) := (tk_12 874 rfl).trans rfl
theorem l_L_law_875 {xs : Nat → Int32} {N : Nat} : bh_tb (T_L_law xs N) 875 = bo_sald xs N 876 := (tk_12 875 rfl).trans rfl
theorem l_L_law_876 {xs : Nat → Int32} {N : Nat} : bh_tb (T_L_law xs N) 876 = bo_ald 877 3 := (tk_13 876 rfl).trans rfl
theorem l_L_law_877 {xs : Nat → Int32} {N : Nat} : bh_tb (T_L_law xs N) 877 = bo_callS 880 4 5 5000 F_L_get := (tk_13 877 rfl).trans rfl
theorem l_L_law_880 {xs : Nat → Int32} {N : Nat} : bh_tb (T_L_law xs N) 880 = bo_ist 882 6 := (tk_13 880 rfl).trans rfl
theorem l_L_law_882 {xs : Nat → Int32} {N : Nat} : bh_tb (T_L_law xs N) 882 = bo_ald 883 2 := (tk_13 882 rfl).trans rfl
theorem l_L_law_883 {xs : Nat → Int32} {N : Nat} : bh_tb (T_L_law xs N) 883 = bo_ald 884 0 := (tk_13 883 rfl).trans rfl
theorem l_L_law_884 {xs : Nat → Int32} {N : Nat} : bh_tb (T_L_law xs N) 884 = bo_ild 886 5 := (tk_13 884 rfl).trans rfl
theorem l_L_law_886 {xs : Nat → Int32} {N : Nat} : bh_tb (T_L_law xs N) 886 = bo_st 887 (bg_push (.inl (.int 1))) := (tk_13 886 rfl).trans rfl
theorem l_L_law_887 {xs : Nat → Int32} {N : Nat} : bh_tb (T_L_law xs N) 887 = bo_st 888 (bg_ii (fun x y => x + y)) := (tk_13 887 rfl).trans rfl
theorem l_L_law_888 {xs : Nat → Int32} {N : Nat} : bh_tb (T_L_law xs N) 888 = bo_sald xs N 889 := (tk_13 888 rfl).trans rfl
theorem l_L_law_889 {xs : Nat → Int32} {N : Nat} : bh_tb (T_L_law xs N) 889 = bo_ald 890 0 := (tk_13 889 rfl).trans rfl
theorem l_L_law_890 {xs : Nat → Int32} {N : Nat} : bh_tb (T_L_law xs N) 890 = bo_ild 892 5 := (tk_13 890 rfl).trans rfl
theorem l_L_law_892 {xs : Nat → Int32} {N : Nat} : bh_tb (T_L_law xs N) 892 = bo_st 893 (bg_push (.inl (.int 2))) := (tk_13 892 rfl).trans rfl
theorem l_L_law_893 {xs : Nat → Int32} {N : Nat} : bh_tb (T_L_law xs N) 893 = bo_st 894 (bg_ii (fun x y => x + y)) := (tk_13 893 rfl).trans rfl
theorem l_L_law_894 {xs : Nat → Int32} {N : Nat} : bh_tb (T_L_law xs N) 894 = bo_sald xs N 895 := (tk_13 894 rfl).trans rfl
theorem l_L_law_895 {xs : Nat → Int32} {N : Nat} : bh_tb (T_L_law xs N) 895 = bo_callV 898 3 0 5000 40 F_M_get := (tk_13 895 rfl).trans rfl
theorem l_L_law_898 {xs : Nat → Int32} {N : Nat} : bh_tb (T_L_law xs N) 898 = bo_ist 900 7 := (tk_13 898 rfl).trans rfl
theorem l_L_law_900 {xs : Nat → Int32} {N : Nat} : bh_tb (T_L_law xs N) 900 = bo_ald 901 2 := (tk_13 900 rfl).trans rfl
theorem l_L_law_901 {xs : Nat → Int32} {N : Nat} : bh_tb (T_L_law xs N) 901 = bo_callV 904 1 0 5000 40 F_M_thrown := (tk_13 901 rfl).trans rfl
theorem l_L_law_904 {xs : Nat → Int32} {N : Nat} : bh_tb (T_L_law xs N) 904 = bo_ild 906 6 := (tk_13 904 rfl).trans rfl
theorem l_L_law_906 {xs : Nat → Int32} {N : Nat} : bh_tb (T_L_law xs N) 906 = bo_if2 909 911 (fun x y => x = y) := (tk_13 906 rfl).trans rfl
theorem l_L_law_909 {xs : Nat → Int32} {N : Nat} : bh_tb (T_L_law xs N) 909 = bo_st 910 (bg_push (.inl (.int 0))) := (tk_13 909 rfl).trans rfl
theorem l_L_law_910 {xs : Nat → Int32} {N : Nat} : bh_tb (T_L_law xs N) 910 = bo_zret 5000 := (tk_13 910 rfl).trans rfl
theorem l_L_law_911 {xs : Nat → Int32} {N : Nat} : bh_tb (T_L_law xs N) 911 = bo_ild 913 6 := (tk_13 911 rfl).trans rfl
theorem l_L_law_913 {xs : Nat → Int32} {N : Nat} : bh_tb (T_L_law xs N) 913 = bo_if1 916 928 (fun x => ¬ x = 0) := (tk_13 913 rfl).trans rfl
theorem l_L_law_916 {xs : Nat → Int32} {N : Nat} : bh_tb (T_L_law xs N) 916 = bo_ald 917 3 := (tk_13 916 rfl).trans rfl
theorem l_L_law_917 {xs : Nat → Int32} {N : Nat} : bh_tb (T_L_law xs N) 917 = bo_st 918 (bg_push (.inl (.int 0))) := (tk_13 917 rfl).trans rfl
theorem l_L_law_918 {xs : Nat → Int32} {N : Nat} : bh_tb (T_L_law xs N) 918 = bo_Jald bh_ak bh_al 919 := (tk_13 918 rfl).trans rfl
theorem l_L_law_919 {xs : Nat → Int32} {N : Nat} : bh_tb (T_L_law xs N) 919 = bo_ild 921 7 := (tk_13 919 rfl).trans rfl
theorem l_L_law_921 {xs : Nat → Int32} {N : Nat} : bh_tb (T_L_law xs N) 921 = bo_st 922 (bg_i1 (fun x => .inl (.long x.toInt64))) := (tk_13 921 rfl).trans rfl
theorem l_L_law_922 {xs : Nat → Int32} {N : Nat} : bh_tb (T_L_law xs N) 922 = bo_st 923 (bg_lc lg_cmp) := (tk_13 922 rfl).trans rfl
theorem l_L_law_923 {xs : Nat → Int32} {N : Nat} : bh_tb (T_L_law xs N) 923 = bo_if1 926 928 (fun x => x = 0) := (tk_13 923 rfl).trans rfl
theorem l_L_law_926 {xs : Nat → Int32} {N : Nat} : bh_tb (T_L_law xs N) 926 = bo_st 927 (bg_push (.inl (.int 0))) := (tk_13 926 rfl).trans rfl
theorem l_L_law_927 {xs : Nat → Int32} {N : Nat} : bh_tb (T_L_law xs N) 927 = bo_zret 5000 := (tk_13 927 rfl).trans rfl
theorem l_L_law_928 {xs : Nat → Int32} {N : Nat} : bh_tb (T_L_law xs N) 928 = bo_go 1312 := (tk_13 928 rfl).trans rfl
theorem l_L_law_931 {xs : Nat → Int32} {N : Nat} : bh_tb (T_L_law xs N) 931 = bo_ald 932 1 := (tk_13 931 rfl).trans rfl
theorem l_L_law_932 {xs : Nat → Int32} {N : Nat} : bh_tb (T_L_law xs N) 932 = bo_ald 933 0 := (tk_13 932 rfl).trans rfl
theorem l_L_law_933 {xs : Nat → Int32} {N : Nat} : bh_tb (T_L_law xs N) 933 = bo_ild 935 5 := (tk_13 933 rfl).trans rfl
theorem l_L_law_935 {xs : Nat → Int32} {N : Nat} : bh_tb (T_L_law xs N) 935 = bo_st 936 (bg_push (.inl (.int 1))) := (tk_13 935 rfl).trans rfl
theorem l_L_law_936 {xs : Nat → Int32} {N : Nat} : bh_tb (T_L_law xs N) 936 = bo_st 937 (bg_ii (fun x y => x + y)) := (tk_13 936 rfl).trans rfl
theorem l_L_law_937 {xs : Nat → Int32} {N : Nat} : bh_tb (T_L_law xs N) 937 = bo_sald xs N 938 := (tk_13 937 rfl).trans rfl
theorem l_L_law_938 {xs : Nat → Int32} {N : Nat} : bh_tb (T_L_law xs N) 938 = bo_ald 939 0 := (tk_14 938 rfl).trans rfl
theorem l_L_law_939 {xs : Nat → Int32} {N : Nat} : bh_tb (T_L_law xs N) 939 = bo_ild 941 5 := (tk_14 939 rfl).trans rfl
theorem l_L_law_941 {xs : Nat → Int32} {N : Nat} : bh_tb (T_L_law xs N) 941 = bo_st 942 (bg_push (.inl (.int 2))) := (tk_14 941 rfl).trans rfl
theorem l_L_law_942 {xs : Nat → Int32} {N : Nat} : bh_tb (T_L_law xs N) 942 = bo_st 943 (bg_ii (fun x y => x + y)) := (tk_14 942 rfl).trans rfl
theorem l_L_law_943 {xs : Nat → Int32} {N : Nat} : bh_tb (T_L_law xs N) 943 = bo_sald xs N 944 := (tk_14 943 rfl).trans rfl
theorem l_L_law_944 {xs : Nat → Int32} {N : Nat} : bh_tb (T_L_law xs N) 944 = bo_ald 945 3 := (tk_14 944 rfl).trans rfl
theorem l_L_law_945 {xs : Nat → Int32} {N : Nat} : bh_tb (T_L_law xs N) 945 = bo_callS 948 4 4 5000 F_L_giveBack := (tk_14 945 rfl).trans rfl
theorem l_L_law_948 {xs : Nat → Int32} {N : Nat} : bh_tb (T_L_law xs N) 948 = bo_ist 950 6 := (tk_14 948 rfl).trans rfl
theorem l_L_law_950 {xs : Nat → Int32} {N : Nat} : bh_tb (T_L_law xs N) 950 = bo_ald 951 2 := (tk_14 950 rfl).trans rfl
theorem l_L_law_951 {xs : Nat → Int32} {N : Nat} : bh_tb (T_L_law xs N) 951 = bo_ald 952 0 := (tk_14 951 rfl).trans rfl
theorem l_L_law_952 {xs : Nat → Int32} {N : Nat} : bh_tb (T_L_law xs N) 952 = bo_ild 954 5 := (tk_14 952 rfl).trans rfl
theorem l_L_law_954 {xs : Nat → Int32} {N : Nat} : bh_tb (T_L_law xs N) 954 = bo_st 955 (bg_push (.inl (.int 1))) := (tk_14 954 rfl).trans rfl
theorem l_L_law_955 {xs : Nat → Int32} {N : Nat} : bh_tb (T_L_law xs N) 955 = bo_st 956 (bg_ii (fun x y => x + y)) := (tk_14 955 rfl).trans rfl
theorem l_L_law_956 {xs : Nat → Int32} {N : Nat} : bh_tb (T_L_law xs N) 956 = bo_sald xs N 957 := (tk_14 956 rfl).trans rfl
theorem l_L_law_957 {xs : Nat → Int32} {N : Nat} : bh_tb (T_L_law xs N) 957 = bo_ald 958 0 := (tk_14 957 rfl).trans rfl
theorem l_L_law_958 {xs : Nat → Int32} {N : Nat} : bh_tb (T_L_law xs N) 958 = bo_ild 960 5 := (tk_14 958 rfl).trans rfl
theorem l_L_law_960 {xs : Nat → Int32} {N : Nat} : bh_tb (T_L_law xs N) 960 = bo_st 961 (bg_push (.inl (.int 2))) := (tk_14 960 rfl).trans rfl
theorem l_L_law_961 {xs : Nat → Int32} {N : Nat} : bh_tb (T_L_law xs N) 961 = bo_st 962 (bg_ii (fun x y => x + y)) := (tk_14 961 rfl).trans rfl
theorem l_L_law_962 {xs : Nat → Int32} {N : Nat} : bh_tb (T_L_law xs N) 962 = bo_sald xs N 963 := (tk_14 962 rfl).trans rfl
theorem l_L_law_963 {xs : Nat → Int32} {N : Nat} : bh_tb (T_L_law xs N) 963 = bo_callV 966 3 0 5000 40 F_M_giveBack := (tk_14 963 rfl).trans rfl
theorem l_L_law_966 {xs : Nat → Int32} {N : Nat} : bh_tb (T_L_law xs N) 966 = bo_ist 968 7 := (tk_14 966 rfl).trans rfl
theorem l_L_law_968 {xs : Nat → Int32} {N : Nat} : bh_tb (T_L_law xs N) 968 = bo_ald 969 2 := (tk_14 968 rfl).trans rfl
theorem l_L_law_969 {xs : Nat → Int32} {N : Nat} : bh_tb (T_L_law xs N) 969 = bo_callV 972 1 0 5000 40 F_M_thrown := (tk_14 969 rfl).trans rfl
theorem l_L_law_972 {xs : Nat → Int32} {N : Nat} : bh_tb (T_L_law xs N) 972 = bo_ild 974 6 := (tk_14 972 rfl).trans rfl
theorem l_L_law_974 {xs : Nat → Int32} {N : Nat} : bh_tb (T_L_law xs N) 974 = bo_if2 977 979 (fun x y => x = y) := (tk_14 974 rfl).trans rfl
theorem l_L_law_977 {xs : Nat → Int32} {N : Nat} : bh_tb (T_L_law xs N) 977 = bo_st 978 (bg_push (.inl (.int 0))) := (tk_14 977 rfl).trans rfl
theorem l_L_law_978 {xs : Nat → Int32} {N : Nat} : bh_tb (T_L_law xs N) 978 = bo_zret 5000 := (tk_14 978 rfl).trans rfl
theorem l_L_law_979 {xs : Nat → Int32} {N : Nat} : bh_tb (T_L_law xs N) 979 = bo_ild 981 6 := (tk_14 979 rfl).trans rfl
theorem l_L_law_981 {xs : Nat → Int32} {N : Nat} : bh_tb (T_L_law xs N) 981 = bo_if1 984 996 (fun x => ¬ x = 0) := (tk_14 981 rfl).trans rfl
theorem l_L_law_984 {xs : Nat → Int32} {N : Nat} : bh_tb (T_L_law xs N) 984 = bo_ald 985 3 := (tk_14 984 rfl).trans rfl
theorem l_L_law_985 {xs : Nat → Int32} {N : Nat} : bh_tb (T_L_law xs N) 985 = bo_st 986 (bg_push (.inl (.int 0))) := (tk_14 985 rfl).trans rfl
theorem l_L_law_986 {xs : Nat → Int32} {N : Nat} : bh_tb (T_L_law xs N) 986 = bo_Jald bh_ak bh_al 987 := (tk_14 986 rfl).trans rfl
theorem l_L_law_987 {xs : Nat → Int32} {N : Nat} : bh_tb (T_L_law xs N) 987 = bo_ild 989 7 := (tk_14 987 rfl).trans rfl
theorem l_L_law_989 {xs : Nat → Int32} {N : Nat} : bh_tb (T_L_law xs N) 989 = bo_st 990 (bg_i1 (fun x => .inl (.long x.toInt64))) := (tk_14 989 rfl).trans rfl
theorem l_L_law_990 {xs : Nat → Int32} {N : Nat} : bh_tb (T_L_law xs N) 990 = bo_st 991 (bg_lc lg_cmp) := (tk_14 990 rfl).trans rfl
theorem l_L_law_991 {xs : Nat → Int32} {N : Nat} : bh_tb (T_L_law xs N) 991 = bo_if1 994 996 (fun x => x = 0) := (tk_14 991 rfl).trans rfl
theorem l_L_law_994 {xs : Nat → Int32} {N : Nat} : bh_tb (T_L_law xs N) 994 = bo_st 995 (bg_push (.inl (.int 0))) := (tk_14 994 rfl).trans rfl
theorem l_L_law_995 {xs : Nat → Int32} {N : Nat} : bh_tb (T_L_law xs N) 995 = bo_zret 5000 := (tk_14 995 rfl).trans rfl
theorem l_L_law_996 {xs : Nat → Int32} {N : Nat} : bh_tb (T_L_law xs N) 996 = bo_go 1312 := (tk_14 996 rfl).trans rfl
theorem l_L_law_999 {xs : Nat → Int32} {N : Nat} : bh_tb (T_L_law xs N) 999 = bo_ald 1000 1 := (tk_14 999 rfl).trans rfl
theorem l_L_law_1000 {xs : Nat → Int32} {N : Nat} : bh_tb (T_L_law xs N) 1000 = bo_ald 1001 0 := (tk_15 1000 rfl).trans rfl
theorem l_L_law_1001 {xs : Nat → Int32} {N : Nat} : bh_tb (T_L_law xs N) 1001 = bo_ild 1003 5 := (tk_15 1001 rfl).trans rfl
theorem l_L_law_1003 {xs : Nat → Int32} {N : Nat} : bh_tb (T_L_law xs N) 1003 = bo_st 1004 (bg_push (.inl (.int 1))) := (tk_15 1003 rfl).trans rfl
theorem l_L_law_1004 {xs : Nat → Int32} {N : Nat} : bh_tb (T_L_law xs N) 1004 = bo_st 1005 (bg_ii (fun x y => x + y)) := (tk_15 1004 rfl).trans rfl
theorem l_L_law_1005 {xs : Nat → Int32} {N : Nat} : bh_tb (T_L_law xs N) 1005 = bo_sald xs N 1006 := (tk_15 1005 rfl).trans rfl
theorem l_L_law_1006 {xs : Nat → Int32} {N : Nat} : bh_tb (T_L_law xs N) 1006 = bo_ald 1007 0 := (tk_15 1006 rfl).trans rfl
theorem l_L_law_1007 {xs : Nat → Int32} {N : Nat} : bh_tb (T_L_law xs N) 1007 = bo_ild 1009 5 := (tk_15 1007 rfl).trans rfl
theorem l_L_law_1009 {xs : Nat → Int32} {N : Nat} : bh_tb (T_L_law xs N) 1009 = bo_st 1010 (bg_push (.inl (.int 2))) := (tk_15 1009 rfl).trans rfl
theorem l_L_law_1010 {xs : Nat → Int32} {N : Nat} : bh_tb (T_L_law xs N) 1010 = bo_st 1011 (bg_ii (fun x y => x + y)) := (tk_15 1010 rfl).trans rfl
theorem l_L_law_1011 {xs : Nat → Int32} {N : Nat} : bh_tb (T_L_law xs N) 1011 = bo_sald xs N 1012 := (tk_15 1011 rfl).trans rfl
theorem l_L_law_1012 {xs : Nat → Int32} {N : Nat} : bh_tb (T_L_law xs N) 1012 = bo_ald 1013 3 := (tk_15 1012 rfl).trans rfl
theorem l_L_law_1013 {xs : Nat → Int32} {N : Nat} : bh_tb (T_L_law xs N) 1013 = bo_callS 1016 4 4 5000 F_L_unregister := (tk_15 1013 rfl).trans rfl
theorem l_L_law_1016 {xs : Nat → Int32} {N : Nat} : bh_tb (T_L_law xs N) 1016 = bo_ist 1018 6 := (tk_15 1016 rfl).trans rfl
theorem l_L_law_1018 {xs : Nat → Int32} {N : Nat} : bh_tb (T_L_law xs N) 1018 = bo_ald 1019 2 := (tk_15 1018 rfl).trans rfl
theorem l_L_law_1019 {xs : Nat → Int32} {N : Nat} : bh_tb (T_L_law xs N) 1019 = bo_ald 1020 0 := (tk_15 1019 rfl).trans rfl
theorem l_L_law_1020 {xs : Nat → Int32} {N : Nat} : bh_tb (T_L_law xs N) 1020 = bo_ild 1022 5 := (tk_15 1020 rfl).trans rfl
theorem l_L_law_1022 {xs : Nat → Int32} {N : Nat} : bh_tb (T_L_law xs N) 1022 = bo_st 1023 (bg_push (.inl (.int 1))) := (tk_15 1022 rfl).trans rfl
theorem l_L_law_1023 {xs : Nat → Int32} {N : Nat} : bh_tb (T_L_law xs N) 1023 = bo_st 1024 (bg_ii (fun x y => x + y)) := (tk_15 1023 rfl).trans rfl
theorem l_L_law_1024 {xs : Nat → Int32} {N : Nat} : bh_tb (T_L_law xs N) 1024 = bo_sald xs N 1025 := (tk_15 1024 rfl).trans rfl
theorem l_L_law_1025 {xs : Nat → Int32} {N : Nat} : bh_tb (T_L_law xs N) 1025 = bo_ald 1026 0 := (tk_15 1025 rfl).trans rfl
theorem l_L_law_1026 {xs : Nat → Int32} {N : Nat} : bh_tb (T_L_law xs N) 1026 = bo_ild 1028 5 := (tk_15 1026 rfl).trans rfl
theorem l_L_law_1028 {xs : Nat → Int32} {N : Nat} : bh_tb (T_L_law xs N) 1028 = bo_st 1029 (bg_push (.inl (.int 2))) := (tk_15 1028 rfl).trans rfl
theorem l_L_law_1029 {xs : Nat → Int32} {N : Nat} : bh_tb (T_L_law xs N) 1029 = bo_st 1030 (bg_ii (fun x y => x + y)) := (tk_15 1029 rfl).trans rfl
theorem l_L_law_1030 {xs : Nat → Int32} {N : Nat} : bh_tb (T_L_law xs N) 1030 = bo_sald xs N 1031 := (tk_15 1030 rfl).trans rfl
theorem l_L_law_1031 {xs : Nat → Int32} {N : Nat} : bh_tb (T_L_law xs N) 1031 = bo_callV 1034 3 0 5000 40 F_M_unregister := (tk_15 1031 rfl).trans rfl
theorem l_L_law_1034 {xs : Nat → Int32} {N : Nat} : bh_tb (T_L_law xs N) 1034 = bo_ist 1036 7 := (tk_15 1034 rfl).trans rfl
theorem l_L_law_1036 {xs : Nat → Int32} {N : Nat} : bh_tb (T_L_law xs N) 1036 = bo_ald 1037 2 := (tk_15 1036 rfl).trans rfl
theorem l_L_law_1037 {xs : Nat → Int32} {N : Nat} : bh_tb (T_L_law xs N) 1037 = bo_callV 1040 1 0 5000 40 F_M_thrown := (tk_15 1037 rfl).trans rfl
theorem l_L_law_1040 {xs : Nat → Int32} {N : Nat} : bh_tb (T_L_law xs N) 1040 = bo_ild 1042 6 := (tk_15 1040 rfl).trans rfl
theorem l_L_law_1042 {xs : Nat → Int32} {N : Nat} : bh_tb (T_L_law xs N) 1042 = bo_if2 1045 1047 (fun x y => x = y) := (tk_15 1042 rfl).trans rfl
theorem l_L_law_1045 {xs : Nat → Int32} {N : Nat} : bh_tb (T_L_law xs N) 1045 = bo_st 1046 (bg_push (.inl (.int 0))) := (tk_15 1045 rfl).trans rfl
theorem l_L_law_1046 {xs : Nat → Int32} {N : Nat} : bh_tb (T_L_law xs N) 1046 = bo_zret 5000 := (tk_15 1046 rfl).trans rfl
theorem l_L_law_1047 {xs : Nat → Int32} {N : Nat} : bh_tb (T_L_law xs N) 1047 = bo_ild 1049 6 := (tk_15 1047 rfl).trans rfl
theorem l_L_law_1049 {xs : Nat → Int32} {N : Nat} : bh_tb (T_L_law xs N) 1049 = bo_if1 1052 1064 (fun x => ¬ x = 0) := (tk_15 1049 rfl).trans rfl
theorem l_L_law_1052 {xs : Nat → Int32} {N : Nat} : bh_tb (T_L_law xs N) 1052 = bo_ald 1053 3 := (tk_15 1052 rfl).trans rfl
theorem l_L_law_1053 {xs : Nat → Int32} {N : Nat} : bh_tb (T_L_law xs N) 1053 = bo_st 1054 (bg_push (.inl (.int 0))) := (tk_15 1053 rfl).trans rfl
theorem l_L_law_1054 {xs : Nat → Int32} {N : Nat} : bh_tb (T_L_law xs N) 1054 = bo_Jald bh_ak bh_al 1055 := (tk_15 1054 rfl).trans rfl
theorem l_L_law_1055 {xs : Nat → Int32} {N : Nat} : bh_tb (T_L_law xs N) 1055 = bo_ild 1057 7 := (tk_15 1055 rfl).trans rfl
theorem l_L_law_1057 {xs : Nat → Int32} {N : Nat} : bh_tb (T_L_law xs N) 1057 = bo_st 1058 (bg_i1 (fun x => .inl (.long x.toInt64))) := (tk_15 1057 rfl).trans rfl
theorem l_L_law_1058 {xs : Nat → Int32} {N : Nat} : bh_tb (T_L_law xs N) 1058 = bo_st 1059 (bg_lc lg_cmp) := (tk_15 1058 rfl).trans rfl
theorem l_L_law_1059 {xs : Nat → Int32} {N : Nat} : bh_tb (T_L_law xs N) 1059 = bo_if1 1062 1064 (fun x => x = 0) := (tk_16 1059 rfl).trans rfl
theorem l_L_law_1062 {xs : Nat → Int32} {N : Nat} : bh_tb (T_L_law xs N) 1062 = bo_st 1063 (bg_push (.inl (.int 0))) := (tk_16 1062 rfl).trans rfl
theorem l_L_law_1063 {xs : Nat → Int32} {N : Nat} : bh_tb (T_L_law xs N) 1063 = bo_zret 5000 := (tk_16 1063 rfl).trans rfl
theorem l_L_law_1064 {xs : Nat → Int32} {N : Nat} : bh_tb (T_L_law xs N) 1064 = bo_go 1312 := (tk_16 1064 rfl).trans rfl
theorem l_L_law_1067 {xs : Nat → Int32} {N : Nat} : bh_tb (T_L_law xs N) 1067 = bo_ald 1068 1 := (tk_16 1067 rfl).trans rfl
theorem l_L_law_1068 {xs : Nat → Int32} {N : Nat} : bh_tb (T_L_law xs N) 1068 = bo_ald 1069 0 := (tk_16 1068 rfl).trans rfl
theorem l_L_law_1069 {xs : Nat → Int32} {N : Nat} : bh_tb (T_L_law xs N) 1069 = bo_ild 1071 5 := (tk_16 1069 rfl).trans rfl
theorem l_L_law_1071 {xs : Nat → Int32} {N : Nat} : bh_tb (T_L_law xs N) 1071 = bo_st 1072 (bg_push (.inl (.int 1))) := (tk_16 1071 rfl).trans rfl
theorem l_L_law_1072 {xs : Nat → Int32} {N : Nat} : bh_tb (T_L_law xs N) 1072 = bo_st 1073 (bg_ii (fun x y => x + y)) := (tk_16 1072 rfl).trans rfl
theorem l_L_law_1073 {xs : Nat → Int32} {N : Nat} : bh_tb (T_L_law xs N) 1073 = bo_sald xs N 1074 := (tk_16 1073 rfl).trans rfl
theorem l_L_law_1074 {xs : Nat → Int32} {N : Nat} : bh_tb (T_L_law xs N) 1074 = bo_ald 1076 4 := (tk_16 1074 rfl).trans rfl
theorem l_L_law_1076 {xs : Nat → Int32} {N : Nat} : bh_tb (T_L_law xs N) 1076 = bo_callS 1079 3 2 5000 F_L_rank := (tk_16 1076 rfl).trans rfl
theorem l_L_law_1079 {xs : Nat → Int32} {N : Nat} : bh_tb (T_L_law xs N) 1079 = bo_ist 1081 6 := (tk_16 1079 rfl).trans rfl
theorem l_L_law_1081 {xs : Nat → Int32} {N : Nat} : bh_tb (T_L_law xs N) 1081 = bo_ald 1082 2 := (tk_16 1081 rfl).trans rfl
theorem l_L_law_1082 {xs : Nat → Int32} {N : Nat} : bh_tb (T_L_law xs N) 1082 = bo_ald 1083 0 := (tk_16 1082 rfl).trans rfl
theorem l_L_law_1083 {xs : Nat → Int32} {N : Nat} : bh_tb (T_L_law xs N) 1083 = bo_ild 1085 5 := (tk_16 1083 rfl).trans rfl
theorem l_L_law_1085 {xs : Nat → Int32} {N : Nat} : bh_tb (T_L_law xs N) 1085 = bo_st 1086 (bg_push (.inl (.int 1))) := (tk_16 1085 rfl).trans rfl
theorem l_L_law_1086 {xs : Nat → Int32} {N : Nat} : bh_tb (T_L_law xs N) 1086 = bo_st 1087 (bg_ii (fun x y => x + y)) := (tk_16 1086 rfl).trans rfl
theorem l_L_law_1087 {xs : Nat → Int32} {N : Nat} : bh_tb (T_L_law xs N) 1087 = bo_sald xs N 1088 := (tk_16 1087 rfl).trans rfl
theorem l_L_law_1088 {xs : Nat → Int32} {N : Nat} : bh_tb (T_L_law xs N) 1088 = bo_callV 1091 2 0 5000 40 F_M_rank := (tk_16 1088 rfl).trans rfl
theorem l_L_law_1091 {xs : Nat → Int32} {N : Nat} : bh_tb (T_L_law xs N) 1091 = bo_dst 1093 7 := (tk_16 1091 rfl).trans rfl
theorem l_L_law_1093 {xs : Nat → Int32} {N : Nat} : bh_tb (T_L_law xs N) 1093 = bo_ald 1094 2 := (tk_16 1093 rfl).trans rfl
theorem l_L_law_1094 {xs : Nat → Int32} {N : Nat} : bh_tb (T_L_law xs N) 1094 = bo_callV 1097 1 0 5000 40 F_M_thrown := (tk_16 1094 rfl).trans rfl
theorem l_L_law_1097 {xs : Nat → Int32} {N : Nat} : bh_tb (T_L_law xs N) 1097 = bo_ild 1099 6 := (tk_16 1097 rfl).trans rfl
theorem l_L_law_1099 {xs : Nat → Int32} {N : Nat} : bh_tb (T_L_law xs N) 1099 = bo_if2 1102 1104 (fun x y => x = y) := (tk_16 1099 rfl).trans rfl
theorem l_L_law_1102 {xs : Nat → Int32} {N : Nat} : bh_tb (T_L_law xs N) 1102 = bo_st 1103 (bg_push (.inl (.int 0))) := (tk_16 1102 rfl).trans rfl
theorem l_L_law_1103 {xs : Nat → Int32} {N : Nat} : bh_tb (T_L_law xs N) 1103 = bo_zret 5000 := (tk_16 1103 rfl).trans rfl
theorem l_L_law_1104 {xs : Nat → Int32} {N : Nat} : bh_tb (T_L_law xs N) 1104 = bo_ild 1106 6 := (tk_16 1104 rfl).trans rfl
theorem l_L_law_1106 {xs : Nat → Int32} {N : Nat} : bh_tb (T_L_law xs N) 1106 = bo_if1 1109 1141 (fun x => ¬ x = 0) := (tk_16 1106 rfl).trans rfl
theorem l_L_law_1109 {xs : Nat → Int32} {N : Nat} : bh_tb (T_L_law xs N) 1109 = bo_ald 1111 4 := (tk_16 1109 rfl).trans rfl
theorem l_L_law_1111 {xs : Nat → Int32} {N : Nat} : bh_tb (T_L_law xs N) 1111 = bo_st 1112 (bg_push (.inl (.int 0))) := (tk_16 1111 rfl).trans rfl
theorem l_L_law_1112 {xs : Nat → Int32} {N : Nat} : bh_tb (T_L_law xs N) 1112 = bo_Dald bh_ak bh_al 1113 := (tk_16 1112 rfl).trans rfl
theorem l_L_law_1113 {xs : Nat → Int32} {N : Nat} : bh_tb (T_L_law xs N) 1113 = bo_dld 1115 7 := (tk_16 1113 rfl).trans rfl
theorem l_L_law_1115 {xs : Nat → Int32} {N : Nat} : bh_tb (T_L_law xs N) 1115 = bo_st 1116 (bg_dc (fun x y => Op.cmpValue (FP.dcmp x y) .l)) := (tk_16 1115 rfl).trans rfl
theorem l_L_law_1116 {xs : Nat → Int32} {N : Nat} : bh_tb (T_L_law xs N) 1116 = bo_if1 1119 1141 (fun x => x = 0) := (tk_16 1116 rfl).trans rfl
theorem l_L_law_1119 {xs : Nat → Int32} {N : Nat} : bh_tb (T_L_law xs N) 1119 = bo_ald 1121 4 := (tk_16 1119 rfl).trans rfl
theorem l_L_law_1121 {xs : Nat → Int32} {N : Nat} : bh_tb (T_L_law xs N) 1121 = bo_st 1122 (bg_push (.inl (.int 0))) := (tk_16 1121 rfl).trans rfl
theorem l_L_law_1122 {xs : Nat → Int32} {N : Nat} : bh_tb (T_L_law xs N) 1122 = bo_Dald bh_ak bh_al 1123 := (tk_16 1122 rfl).trans rfl
theorem l_L_law_1123 {xs : Nat → Int32} {N : Nat} : bh_tb (T_L_law xs N) 1123 = bo_ald 1125 4 := (tk_16 1123 rfl).trans rfl
theorem l_L_law_1125 {xs : Nat → Int32} {N : Nat} : bh_tb (T_L_law xs N) 1125 = bo_st 1126 (bg_push (.inl (.int 0))) := (tk_16 1125 rfl).trans rfl
theorem l_L_law_1126 {xs : Nat → Int32} {N : Nat} : bh_tb (T_L_law xs N) 1126 = bo_Dald bh_ak bh_al 1127 := (tk_17 1126 rfl).trans rfl
theorem l_L_law_1127 {xs : Nat → Int32} {N : Nat} : bh_tb (T_L_law xs N) 1127 = bo_st 1128 (bg_dc (fun x y => Op.cmpValue (FP.dcmp x y) .l)) := (tk_17 1127 rfl).trans rfl
theorem l_L_law_1128 {xs : Nat → Int32} {N : Nat} : bh_tb (T_L_law xs N) 1128 = bo_if1 1131 1139 (fun x => x = 0) := (tk_17 1128 rfl).trans rfl
theorem l_L_law_1131 {xs : Nat → Int32} {N : Nat} : bh_tb (T_L_law xs N) 1131 = bo_dld 1133 7 := (tk_17 1131 rfl).trans rfl
theorem l_L_law_1133 {xs : Nat → Int32} {N : Nat} : bh_tb (T_L_law xs N) 1133 = bo_dld 1135 7 := (tk_17 1133 rfl).trans rfl
theorem l_L_law_1135 {xs : Nat → Int32} {N : Nat} : bh_tb (T_L_law xs N) 1135 = bo_st 1136 (bg_dc (fun x y => Op.cmpValue (FP.dcmp x y) .l)) := (tk_17 1135 rfl).trans rfl
theorem l_L_law_1136 {xs : Nat → Int32} {N : Nat} : bh_tb (T_L_law xs N) 1136 = bo_if1 1139 1141 (fun x => ¬ x = 0) := (tk_17 1136 rfl).trans rfl
theorem l_L_law_1139 {xs : Nat → Int32} {N : Nat} : bh_tb (T_L_law xs N) 1139 = bo_st 1140 (bg_push (.inl (.int 0))) := (tk_17 1139 rfl).trans rfl
theorem l_L_law_1140 {xs : Nat → Int32} {N : Nat} : bh_tb (T_L_law xs N) 1140 = bo_zret 5000 := (tk_17 1140 rfl).trans rfl
theorem l_L_law_1141 {xs : Nat → Int32} {N : Nat} : bh_tb (T_L_law xs N) 1141 = bo_go 1312 := (tk_17 1141 rfl).trans rfl
theorem l_L_law_1144 {xs : Nat → Int32} {N : Nat} : bh_tb (T_L_law xs N) 1144 = bo_ald 1145 1 := (tk_17 1144 rfl).trans rfl
theorem l_L_law_1145 {xs : Nat → Int32} {N : Nat} : bh_tb (T_L_law xs N) 1145 = bo_ald 1146 3 := (tk_17 1145 rfl).trans rfl
theorem l_L_law_1146 {xs : Nat → Int32} {N : Nat} : bh_tb (T_L_law xs N) 1146 = bo_callS 1149 2 1 5000 F_L_event := (tk_17 1146 rfl).trans rfl
theorem l_L_law_1149 {xs : Nat → Int32} {N : Nat} : bh_tb (T_L_law xs N) 1149 = bo_ist 1151 6 := (tk_17 1149 rfl).trans rfl
theorem l_L_law_1151 {xs : Nat → Int32} {N : Nat} : bh_tb (T_L_law xs N) 1151 = bo_ald 1152 2 := (tk_17 1151 rfl).trans rfl
theorem l_L_law_1152 {xs : Nat → Int32} {N : Nat} : bh_tb (T_L_law xs N) 1152 = bo_callV 1155 1 0 5000 40 F_M_event := (tk_17 1152 rfl).trans rfl
theorem l_L_law_1155 {xs : Nat → Int32} {N : Nat} : bh_tb (T_L_law xs N) 1155 = bo_ist 1157 7 := (tk_17 1155 rfl).trans rfl
theorem l_L_law_1157 {xs : Nat → Int32} {N : Nat} : bh_tb (T_L_law xs N) 1157 = bo_ald 1158 2 := (tk_17 1157 rfl).trans rfl
theorem l_L_law_1158 {xs : Nat → Int32} {N : Nat} : bh_tb (T_L_law xs N) 1158 = bo_callV 1161 1 0 5000 40 F_M_thrown := (tk_17 1158 rfl).trans rfl
theorem l_L_law_1161 {xs : Nat → Int32} {N : Nat} : bh_tb (T_L_law xs N) 1161 = bo_ild 1163 6 := (tk_17 1161 rfl).trans rfl
theorem l_L_law_1163 {xs : Nat → Int32} {N : Nat} : bh_tb (T_L_law xs N) 1163 = bo_if2 1166 1168 (fun x y => x = y) := (tk_17 1163 rfl).trans rfl
theorem l_L_law_1166 {xs : Nat → Int32} {N : Nat} : bh_tb (T_L_law xs N) 1166 = bo_st 1167 (bg_push (.inl (.int 0))) := (tk_17 1166 rfl).trans rfl
theorem l_L_law_1167 {xs : Nat → Int32} {N : Nat} : bh_tb (T_L_law xs N) 1167 = bo_zret 5000 := (tk_17 1167 rfl).trans rfl
theorem l_L_law_1168 {xs : Nat → Int32} {N : Nat} : bh_tb (T_L_law xs N) 1168 = bo_ild 1170 6 := (tk_17 1168 rfl).trans rfl
theorem l_L_law_1170 {xs : Nat → Int32} {N : Nat} : bh_tb (T_L_law xs N) 1170 = bo_if1 1173 1185 (fun x => ¬ x = 0) := (tk_17 1170 rfl).trans rfl
theorem l_L_law_1173 {xs : Nat → Int32} {N : Nat} : bh_tb (T_L_law xs N) 1173 = bo_ald 1174 3 := (tk_17 1173 rfl).trans rfl
theorem l_L_law_1174 {xs : Nat → Int32} {N : Nat} : bh_tb (T_L_law xs N) 1174 = bo_st 1175 (bg_push (.inl (.int 0))) := (tk_17 1174 rfl).trans rfl
theorem l_L_law_1175 {xs : Nat → Int32} {N : Nat} : bh_tb (T_L_law xs N) 1175 = bo_Jald bh_ak bh_al 1176 := (tk_17 1175 rfl).trans rfl
theorem l_L_law_1176 {xs : Nat → Int32} {N : Nat} : bh_tb (T_L_law xs N) 1176 = bo_ild 1178 7 := (tk_17 1176 rfl).trans rfl
theorem l_L_law_1178 {xs : Nat → Int32} {N : Nat} : bh_tb (T_L_law xs N) 1178 = bo_st 1179 (bg_i1 (fun x => .inl (.long x.toInt64))) := (tk_17 1178 rfl).trans rfl
theorem l_L_law_1179 {xs : Nat → Int32} {N : Nat} : bh_tb (T_L_law xs N) 1179 = bo_st 1180 (bg_lc lg_cmp) := (tk_17 1179 rfl).trans rfl
theorem l_L_law_1180 {xs : Nat → Int32} {N : Nat} : bh_tb (T_L_law xs N) 1180 = bo_if1 1183 1185 (fun x => x = 0) := (tk_17 1180 rfl).trans rfl
theorem l_L_law_1183 {xs : Nat → Int32} {N : Nat} : bh_tb (T_L_law xs N) 1183 = bo_st 1184 (bg_push (.inl (.int 0))) := (tk_17 1183 rfl).trans rfl
theorem l_L_law_1184 {xs : Nat → Int32} {N : Nat} : bh_tb (T_L_law xs N) 1184 = bo_zret 5000 := (tk_17 1184 rfl).trans rfl
theorem l_L_law_1185 {xs : Nat → Int32} {N : Nat} : bh_tb (T_L_law xs N) 1185 = bo_go 1312 := (tk_17 1185 rfl).trans rfl
theorem l_L_law_1188 {xs : Nat → Int32} {N : Nat} : bh_tb (T_L_law xs N) 1188 = bo_ald 1189 1 := (tk_17 1188 rfl).trans rfl
theorem l_L_law_1189 {xs : Nat → Int32} {N : Nat} : bh_tb (T_L_law xs N) 1189 = bo_ald 1190 0 := (tk_17 1189 rfl).trans rfl
theorem l_L_law_1190 {xs : Nat → Int32} {N : Nat} : bh_tb (T_L_law xs N) 1190 = bo_ild 1192 5 := (tk_17 1190 rfl).trans rfl
theorem l_L_law_1192 {xs : Nat → Int32} {N : Nat} : bh_tb (T_L_law xs N) 1192 = bo_st 1193 (bg_push (.inl (.int 1))) := (tk_17 1192 rfl).trans rfl
theorem l_L_law_1193 {xs : Nat → Int32} {N : Nat} : bh_tb (T_L_law xs N) 1193 = bo_st 1194 (bg_ii (fun x y => x + y)) := (tk_17 1193 rfl).trans rfl
theorem l_L_law_1194 {xs : Nat → Int32} {N : Nat} : bh_tb (T_L_law xs N) 1194 = bo_sald xs N 1195 := (tk_18 1194 rfl).trans rfl
theorem l_L_law_1195 {xs : Nat → Int32} {N : Nat} : bh_tb (T_L_law xs N) 1195 = bo_ald 1196 0 := (tk_18 1195 rfl).trans rfl
theorem l_L_law_1196 {xs : Nat → Int32} {N : Nat} : bh_tb (T_L_law xs N) 1196 = bo_ild 1198 5 := (tk_18 1196 rfl).trans rfl
theorem l_L_law_1198 {xs : Nat → Int32} {N : Nat} : bh_tb (T_L_law xs N) 1198 = bo_st 1199 (bg_push (.inl (.int 2))) := (tk_18 1198 rfl).trans rfl
theorem l_L_law_1199 {xs : Nat → Int32} {N : Nat} : bh_tb (T_L_law xs N) 1199 = bo_st 1200 (bg_ii (fun x y => x + y)) := (tk_18 1199 rfl).trans rfl
theorem l_L_law_1200 {xs : Nat → Int32} {N : Nat} : bh_tb (T_L_law xs N) 1200 = bo_sald xs N 1201 := (tk_18 1200 rfl).trans rfl
theorem l_L_law_1201 {xs : Nat → Int32} {N : Nat} : bh_tb (T_L_law xs N) 1201 = bo_ald 1202 3 := (tk_18 1201 rfl).trans rfl
theorem l_L_law_1202 {xs : Nat → Int32} {N : Nat} : bh_tb (T_L_law xs N) 1202 = bo_callS 1205 4 2 5000 F_L_about := (tk_18 1202 rfl).trans rfl
theorem l_L_law_1205 {xs : Nat → Int32} {N : Nat} : bh_tb (T_L_law xs N) 1205 = bo_ist 1207 6 := (tk_18 1205 rfl).trans rfl
theorem l_L_law_1207 {xs : Nat → Int32} {N : Nat} : bh_tb (T_L_law xs N) 1207 = bo_ald 1208 2 := (tk_18 1207 rfl).trans rfl
theorem l_L_law_1208 {xs : Nat → Int32} {N : Nat} : bh_tb (T_L_law xs N) 1208 = bo_ald 1209 0 := (tk_18 1208 rfl).trans rfl
theorem l_L_law_1209 {xs : Nat → Int32} {N : Nat} : bh_tb (T_L_law xs N) 1209 = bo_ild 1211 5 := (tk_18 1209 rfl).trans rfl
theorem l_L_law_1211 {xs : Nat → Int32} {N : Nat} : bh_tb (T_L_law xs N) 1211 = bo_st 1212 (bg_push (.inl (.int 1))) := (tk_18 1211 rfl).trans rfl
theorem l_L_law_1212 {xs : Nat → Int32} {N : Nat} : bh_tb (T_L_law xs N) 1212 = bo_st 1213 (bg_ii (fun x y => x + y)) := (tk_18 1212 rfl).trans rfl
theorem l_L_law_1213 {xs : Nat → Int32} {N : Nat} : bh_tb (T_L_law xs N) 1213 = bo_sald xs N 1214 := (tk_18 1213 rfl).trans rfl
theorem l_L_law_1214 {xs : Nat → Int32} {N : Nat} : bh_tb (T_L_law xs N) 1214 = bo_ald 1215 0 := (tk_18 1214 rfl).trans rfl
theorem l_L_law_1215 {xs : Nat → Int32} {N : Nat} : bh_tb (T_L_law xs N) 1215 = bo_ild 1217 5 := (tk_18 1215 rfl).trans rfl
theorem l_L_law_1217 {xs : Nat → Int32} {N : Nat} : bh_tb (T_L_law xs N) 1217 = bo_st 1218 (bg_push (.inl (.int 2))) := (tk_18 1217 rfl).trans rfl
theorem l_L_law_1218 {xs : Nat → Int32} {N : Nat} : bh_tb (T_L_law xs N) 1218 = bo_st 1219 (bg_ii (fun x y => x + y)) := (tk_18 1218 rfl).trans rfl
theorem l_L_law_1219 {xs : Nat → Int32} {N : Nat} : bh_tb (T_L_law xs N) 1219 = bo_sald xs N 1220 := (tk_18 1219 rfl).trans rfl
theorem l_L_law_1220 {xs : Nat → Int32} {N : Nat} : bh_tb (T_L_law xs N) 1220 = bo_callV 1223 3 0 5000 40 F_M_about := (tk_18 1220 rfl).trans rfl
theorem l_L_law_1223 {xs : Nat → Int32} {N : Nat} : bh_tb (T_L_law xs N) 1223 = bo_ist 1225 7 := (tk_18 1223 rfl).trans rfl
theorem l_L_law_1225 {xs : Nat → Int32} {N : Nat} : bh_tb (T_L_law xs N) 1225 = bo_ald 1226 2 := (tk_18 1225 rfl).trans rfl
theorem l_L_law_1226 {xs : Nat → Int32} {N : Nat} : bh_tb (T_L_law xs N) 1226 = bo_callV 1229 1 0 5000 40 F_M_thrown := (tk_18 1226 rfl).trans rfl
theorem l_L_law_1229 {xs : Nat → Int32} {N : Nat} : bh_tb (T_L_law xs N) 1229 = bo_ild 1231 6 := (tk_18 1229 rfl).trans rfl
theorem l_L_law_1231 {xs : Nat → Int32} {N : Nat} : bh_tb (T_L_law xs N) 1231 = bo_if2 1234 1236 (fun x y => x = y) := (tk_18 1231 rfl).trans rfl
theorem l_L_law_1234 {xs : Nat → Int32} {N : Nat} : bh_tb (T_L_law xs N) 1234 = bo_st 1235 (bg_push (.inl (.int 0))) := (tk_18 1234 rfl).trans rfl
theorem l_L_law_1235 {xs : Nat → Int32} {N : Nat} : bh_tb (T_L_law xs N) 1235 = bo_zret 5000 := (tk_18 1235 rfl).trans rfl
theorem l_L_law_1236 {xs : Nat → Int32} {N : Nat} : bh_tb (T_L_law xs N) 1236 = bo_ild 1238 6 := (tk_18 1236 rfl).trans rfl
theorem l_L_law_1238 {xs : Nat → Int32} {N : Nat} : bh_tb (T_L_law xs N) 1238 = bo_if1 1241 1253 (fun x => ¬ x = 0) := (tk_18 1238 rfl).trans rfl
theorem l_L_law_1241 {xs : Nat → Int32} {N : Nat} : bh_tb (T_L_law xs N) 1241 = bo_ald 1242 3 := (tk_18 1241 rfl).trans rfl
theorem l_L_law_1242 {xs : Nat → Int32} {N : Nat} : bh_tb (T_L_law xs N) 1242 = bo_st 1243 (bg_push (.inl (.int 0))) := (tk_18 1242 rfl).trans rfl
theorem l_L_law_1243 {xs : Nat → Int32} {N : Nat} : bh_tb (T_L_law xs N) 1243 = bo_Jald bh_ak bh_al 1244 := (tk_18 1243 rfl).trans rfl
theorem l_L_law_1244 {xs : Nat → Int32} {N : Nat} : bh_tb (T_L_law xs N) 1244 = bo_ild 1246 7 := (tk_18 1244 rfl).trans rfl
theorem l_L_law_1246 {xs : Nat → Int32} {N : Nat} : bh_tb (T_L_law xs N) 1246 = bo_st 1247 (bg_i1 (fun x => .inl (.long x.toInt64))) := (tk_18 1246 rfl).trans rfl
theorem l_L_law_1247 {xs : Nat → Int32} {N : Nat} : bh_tb (T_L_law xs N) 1247 = bo_st 1248 (bg_lc lg_cmp) := (tk_18 1247 rfl).trans rfl
theorem l_L_law_1248 {xs : Nat → Int32} {N : Nat} : bh_tb (T_L_law xs N) 1248 = bo_if1 1251 1253 (fun x => x = 0) := (tk_18 1248 rfl).trans rfl
theorem l_L_law_1251 {xs : Nat → Int32} {N : Nat} : bh_tb (T_L_law xs N) 1251 = bo_st 1252 (bg_push (.inl (.int 0))) := (tk_18 1251 rfl).trans rfl
theorem l_L_law_1252 {xs : Nat → Int32} {N : Nat} : bh_tb (T_L_law xs N) 1252 = bo_zret 5000 := (tk_18 1252 rfl).trans rfl
theorem l_L_law_1253 {xs : Nat → Int32} {N : Nat} : bh_tb (T_L_law xs N) 1253 = bo_go 1312 := (tk_18 1253 rfl).trans rfl
theorem l_L_law_1256 {xs : Nat → Int32} {N : Nat} : bh_tb (T_L_law xs N) 1256 = bo_ald 1257 1 := (tk_19 1256 rfl).trans rfl
theorem l_L_law_1257 {xs : Nat → Int32} {N : Nat} : bh_tb (T_L_law xs N) 1257 = bo_ald 1258 0 := (tk_19 1257 rfl).trans rfl
theorem l_L_law_1258 {xs : Nat → Int32} {N : Nat} : bh_tb (T_L_law xs N) 1258 = bo_ild 1260 5 := (tk_19 1258 rfl).trans rfl
theorem l_L_law_1260 {xs : Nat → Int32} {N : Nat} : bh_tb (T_L_law xs N) 1260 = bo_st 1261 (bg_push (.inl (.int 1))) := (tk_19 1260 rfl).trans rfl
theorem l_L_law_1261 {xs : Nat → Int32} {N : Nat} : bh_tb (T_L_law xs N) 1261 = bo_st 1262 (bg_ii (fun x y => x + y)) := (tk_19 1261 rfl).trans rfl
theorem l_L_law_1262 {xs : Nat → Int32} {N : Nat} : bh_tb (T_L_law xs N) 1262 = bo_sald xs N 1263 := (tk_19 1262 rfl).trans rfl
theorem l_L_law_1263 {xs : Nat → Int32} {N : Nat} : bh_tb (T_L_law xs N) 1263 = bo_ald 1264 3 := (tk_19 1263 rfl).trans rfl
theorem l_L_law_1264 {xs : Nat → Int32} {N : Nat} : bh_tb (T_L_law xs N) 1264 = bo_callS 1267 3 1 5000 F_L_count := (tk_19 1264 rfl).trans rfl
theorem l_L_law_1267 {xs : Nat → Int32} {N : Nat} : bh_tb (T_L_law xs N) 1267 = bo_ist 1269 6 := (tk_19 1267 rfl).trans rfl
theorem l_L_law_1269 {xs : Nat → Int32} {N : Nat} : bh_tb (T_L_law xs N) 1269 = bo_ald 1270 2 := (tk_19 1269 rfl).trans rfl
theorem l_L_law_1270 {xs : Nat → Int32} {N : Nat} : bh_tb (T_L_law xs N) 1270 = bo_ald 1271 0 := (tk_19 1270 rfl).trans rfl
theorem l_L_law_1271 {xs : Nat → Int32} {N : Nat} : bh_tb (T_L_law xs N) 1271 = bo_ild 1273 5 := (tk_19 1271 rfl).trans rfl
theorem l_L_law_1273 {xs : Nat → Int32} {N : Nat} : bh_tb (T_L_law xs N) 1273 = bo_st 1274 (bg_push (.inl (.int 1))) := (tk_19 1273 rfl).trans rfl
theorem l_L_law_1274 {xs : Nat → Int32} {N : Nat} : bh_tb (T_L_law xs N) 1274 = bo_st 1275 (bg_ii (fun x y => x + y)) := (tk_19 1274 rfl).trans rfl
theorem l_L_law_1275 {xs : Nat → Int32} {N : Nat} : bh_tb (T_L_law xs N) 1275 = bo_sald xs N 1276 := (tk_19 1275 rfl).trans rfl
theorem l_L_law_1276 {xs : Nat → Int32} {N : Nat} : bh_tb (T_L_law xs N) 1276 = bo_callV 1279 2 0 5000 40 F_M_count := (tk_19 1276 rfl).trans rfl
theorem l_L_law_1279 {xs : Nat → Int32} {N : Nat} : bh_tb (T_L_law xs N) 1279 = bo_ist 1281 7 := (tk_19 1279 rfl).trans rfl
theorem l_L_law_1281 {xs : Nat → Int32} {N : Nat} : bh_tb (T_L_law xs N) 1281 = bo_ald 1282 2 := (tk_19 1281 rfl).trans rfl
theorem l_L_law_1282 {xs : Nat → Int32} {N : Nat} : bh_tb (T_L_law xs N) 1282 = bo_callV 1285 1 0 5000 40 F_M_thrown := (tk_19 1282 rfl).trans rfl
theorem l_L_law_1285 {xs : Nat → Int32} {N : Nat} : bh_tb (T_L_law xs N) 1285 = bo_ild 1287 6 := (tk_19 1285 rfl).trans rfl
theorem l_L_law_1287 {xs : Nat → Int32} {N : Nat} : bh_tb (T_L_law xs N) 1287 = bo_if2 1290 1292 (fun x y => x = y) := (tk_19 1287 rfl).trans rfl
theorem l_L_law_1290 {xs : Nat → Int32} {N : Nat} : bh_tb (T_L_law xs N) 1290 = bo_st 1291 (bg_push (.inl (.int 0))) := (tk_19 1290 rfl).trans rfl
theorem l_L_law_1291 {xs : Nat → Int32} {N : Nat} : bh_tb (T_L_law xs N) 1291 = bo_zret 5000 := (tk_19 1291 rfl).trans rfl
theorem l_L_law_1292 {xs : Nat → Int32} {N : Nat} : bh_tb (T_L_law xs N) 1292 = bo_ild 1294 6 := (tk_19 1292 rfl).trans rfl
theorem l_L_law_1294 {xs : Nat → Int32} {N : Nat} : bh_tb (T_L_law xs N) 1294 = bo_if1 1297 1309 (fun x => ¬ x = 0) := (tk_19 1294 rfl).trans rfl
theorem l_L_law_1297 {xs : Nat → Int32} {N : Nat} : bh_tb (T_L_law xs N) 1297 = bo_ald 1298 3 := (tk_19 1297 rfl).trans rfl
theorem l_L_law_1298 {xs : Nat → Int32} {N : Nat} : bh_tb (T_L_law xs N) 1298 = bo_st 1299 (bg_push (.inl (.int 0))) := (tk_19 1298 rfl).trans rfl
theorem l_L_law_1299 {xs : Nat → Int32} {N : Nat} : bh_tb (T_L_law xs N) 1299 = bo_Jald bh_ak bh_al 1300 := (tk_19 1299 rfl).trans rfl
theorem l_L_law_1300 {xs : Nat → Int32} {N : Nat} : bh_tb (T_L_law xs N) 1300 = bo_ild 1302 7 := (tk_19 1300 rfl).trans rfl
theorem l_L_law_1302 {xs : Nat → Int32} {N : Nat} : bh_tb (T_L_law xs N) 1302 = bo_st 1303 (bg_i1 (fun x => .inl (.long x.toInt64))) := (tk_19 1302 rfl).trans rfl
theorem l_L_law_1303 {xs : Nat → Int32} {N : Nat} : bh_tb (T_L_law xs N) 1303 = bo_st 1304 (bg_lc lg_cmp) := (tk_19 1303 rfl).trans rfl
theorem l_L_law_1304 {xs : Nat → Int32} {N : Nat} : bh_tb (T_L_law xs N) 1304 = bo_if1 1307 1309 (fun x => x = 0) := (tk_19 1304 rfl).trans rfl
theorem l_L_law_1307 {xs : Nat → Int32} {N : Nat} : bh_tb (T_L_law xs N) 1307 = bo_st 1308 (bg_push (.inl (.int 0))) := (tk_19 1307 rfl).trans rfl
theorem l_L_law_1308 {xs : Nat → Int32} {N : Nat} : bh_tb (T_L_law xs N) 1308 = bo_zret 5000 := (tk_19 1308 rfl).trans rfl
theorem l_L_law_1309 {xs : Nat → Int32} {N : Nat} : bh_tb (T_L_law xs N) 1309 = bo_go 1312 := (tk_19 1309 rfl).trans rfl
theorem l_L_law_1312 {xs : Nat → Int32} {N : Nat} : bh_tb (T_L_law xs N) 1312 = bo_inc 1315 5 6 := (tk_19 1312 rfl).trans rfl
theorem l_L_law_1315 {xs : Nat → Int32} {N : Nat} : bh_tb (T_L_law xs N) 1315 = bo_go 28 := (tk_19 1315 rfl).trans rfl
theorem l_L_law_1318 {xs : Nat → Int32} {N : Nat} : bh_tb (T_L_law xs N) 1318 = bo_st 1319 (bg_push (.inl (.int 1))) := (tk_19 1318 rfl).trans rfl
theorem l_L_law_1319 {xs : Nat → Int32} {N : Nat} : bh_tb (T_L_law xs N) 1319 = bo_zret 5000 := (tk_19 1319 rfl).trans rfl
