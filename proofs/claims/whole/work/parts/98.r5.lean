/-! THE LAW FROM ITS FIRST STEP -/
theorem lf_3 {xs : Nat → Int32} {N : Nat} {Z : bh_F → Prop} {X : bh_M} (e1 : 1 ≤ bh_C X 1) (e3 : 1 ≤ bh_C X 3) (e40 : 1 ≤ bh_C X 40) (e25 : bh_C X 25 = 0) (e26 : bh_C X 26 = 0) (hz : bz X) (h : bh_wp (bh_tb (T_L_law xs N)) (28, [some (.inr (1, 1)), some (.inr (3, 1)), some (.inr (40, 1)), some (.inr (25, 1)), some (.inr (26, 1)), some (.inl (.int (nI 0))), none, none, none], [], bm_c (bm_c X 25 1) 26 1, 163) Z) : bh_wp (bh_tb (T_L_law xs N)) (15, [some (.inr (1, 1)), some (.inr (3, 1)), none, none, none, none, none, none, none], [.inr (40, 1)], X, 161) Z := by
  refine bw_here l_L_law_15 (bi_ast [some (.inr (1, 1)), some (.inr (3, 1)), some (.inr (40, 1)), none, none, none, none, none, none] rfl rfl rfl ?_)
  refine bw_here l_L_law_16 (bi_push (bw_here l_L_law_17 (bc_newa 1 hz (bq_r e1 (bq_r e3 (bq_r e40 (bq_n (bq_n (bq_n (bq_n (bq_n (bq_n (bq_nil _)))))))))) (bp_nil _) (Nat.le_of_ble_eq_true rfl) rfl (by rw [e25]) ?_)))
  intro z5
  have f25 : 1 ≤ bh_C (bm_c X 25 1) 25 := by rw [bh_C_c, if_pos rfl]; exact Nat.le_refl 1
  have f1 : 1 ≤ bh_C (bm_c X 25 1) 1 := by rw [bh_C_c, if_neg (by decide)]; exact e1
  have f3 : 1 ≤ bh_C (bm_c X 25 1) 3 := by rw [bh_C_c, if_neg (by decide)]; exact e3
  have f40 : 1 ≤ bh_C (bm_c X 25 1) 40 := by rw [bh_C_c, if_neg (by decide)]; exact e40
  refine bw_here l_L_law_19 (bi_ast [some (.inr (1, 1)), some (.inr (3, 1)), some (.inr (40, 1)), some (.inr (25, 1)), none, none, none, none, none] rfl rfl rfl ?_)
  refine bw_here l_L_law_20 (bi_push (bw_here l_L_law_21 (bc_newa 1 z5 (bq_r f1 (bq_r f3 (bq_r f40 (bq_r f25 (bq_n (bq_n (bq_n (bq_n (bq_n (bq_nil _)))))))))) (bp_nil _) (Nat.le_of_ble_eq_true rfl) rfl (by rw [bh_C_c, if_neg (by decide), e26]) ?_)))
  intro z6
  refine bw_here l_L_law_23 (bi_ast [some (.inr (1, 1)), some (.inr (3, 1)), some (.inr (40, 1)), some (.inr (25, 1)), some (.inr (26, 1)), none, none, none, none] rfl rfl rfl ?_)
  exact bw_here l_L_law_25 (bi_push (bw_here l_L_law_26 (bi_ist [some (.inr (1, 1)), some (.inr (3, 1)), some (.inr (40, 1)), some (.inr (25, 1)), some (.inr (26, 1)), some (.inl (.int (nI 0))), none, none, none] rfl rfl rfl h)))
theorem lf_2 {xs : Nat → Int32} {N : Nat} {Z : bh_F → Prop} {X : bh_M} (c1 : 1 ≤ bh_C X 1) (c3 : 1 ≤ bh_C X 3) (c40 : bh_C X 40 = 0) (hw : ∀ a, 41 ≤ a → a ≤ 70 → bh_C X a = 0) (hz : bz X) (h : bz (rM (bm_c X 40 1)) → bh_wp (bh_tb (T_L_law xs N)) (15, [some (.inr (1, 1)), some (.inr (3, 1)), none, none, none, none, none, none, none], [.inr (40, 1)], rM (bm_c X 40 1), 161) Z) : bh_wp (bh_tb (T_L_law xs N)) (7, [some (.inr (1, 1)), none, none, none, none, none, none, none, none], [.inr (3, 1)], X, 130) Z := by
  refine bw_here l_L_law_7 (bi_ast [some (.inr (1, 1)), some (.inr (3, 1)), none, none, none, none, none, none, none] rfl rfl rfl ?_)
  refine bw_here l_L_law_8 (bc_new 1 hz (bq_r c1 (bq_r c3 (bq_n (bq_n (bq_n (bq_n (bq_n (bq_n (bq_n (bq_nil _)))))))))) (bp_nil _) (Nat.le_of_ble_eq_true rfl) (by rw [c40]) ?_)
  intro z3
  have d1 : 1 ≤ bh_C (bm_c X 40 1) 1 := by rw [bh_C_c, if_neg (by decide)]; exact c1
  have d3 : 1 ≤ bh_C (bm_c X 40 1) 3 := by rw [bh_C_c, if_neg (by decide)]; exact c3
  have d40 : 1 ≤ bh_C (bm_c X 40 1) 40 := by rw [bh_C_c, if_pos rfl]; exact Nat.le_refl 1
  refine bw_here l_L_law_11 (bi_dup rfl (bw_here l_L_law_12 (bc_callA [] [.inr (40, 1)] rfl rfl rfl (bq_r d1 (bq_r d3 (bq_n (bq_n (bq_n (bq_n (bq_n (bq_n (bq_n (bq_nil _)))))))))) (bp_r d40 (bp_r d40 (bp_nil _))) (Nat.le_refl 1) d40 rfl (Nat.le_of_ble_eq_true rfl) (ci_M_init d40 ?_ z3 h))))
  intro a ha hb
  rw [bh_C_c, if_neg (by omega)]
  exact hw a ha hb
theorem lf_1 {xs : Nat → Int32} {N : Nat} {Z : bh_F → Prop} (h : bz lw_M1 → bh_wp (bh_tb (T_L_law xs N)) (7, [some (.inr (1, 1)), none, none, none, none, none, none, none, none], [.inr (3, 1)], lw_M1, 130) Z) : bh_wp (bh_tb (T_L_law xs N)) (0, [some (.inr (1, 1)), none, none, none, none, none, none, none, none], [], lw_M0, 0) Z := by
  have a1 : 1 ≤ bh_C lw_M0 1 := Nat.le_refl 1
  refine bw_here l_L_law_0 (bc_new 1 bz_0 (bq_r a1 (bq_n (bq_n (bq_n (bq_n (bq_n (bq_n (bq_n (bq_n (bq_nil _)))))))))) (bp_nil _) (Nat.le_of_ble_eq_true rfl) rfl ?_)
  intro z1
  have b1 : 1 ≤ bh_C (bm_c lw_M0 3 1) 1 := Nat.le_refl 1
  have b3 : 1 ≤ bh_C (bm_c lw_M0 3 1) 3 := Nat.le_refl 1
  refine bw_here l_L_law_3 (bi_dup rfl (bw_here l_L_law_4 (bc_callA [] [.inr (3, 1)] rfl rfl rfl (bq_r b1 (bq_n (bq_n (bq_n (bq_n (bq_n (bq_n (bq_n (bq_n (bq_nil _)))))))))) (bp_r b3 (bp_r b3 (bp_nil _))) (Nat.le_refl 1) b3 rfl (Nat.le_of_ble_eq_true rfl) (ci_H_init b3 ?_ z1 h))))
  intro a ha hb
  rw [C_0, if_neg (by omega), if_neg (by omega)]
theorem law_first {xs : Nat → Int32} {N : Nat} {Z : bh_F → Prop} (h : bh_wp (bh_tb (T_L_law xs N)) (28, [some (.inr (1, 1)), some (.inr (3, 1)), some (.inr (40, 1)), some (.inr (25, 1)), some (.inr (26, 1)), some (.inl (.int (nI 0))), none, none, none], [], lw_MF, 163) Z) : bh_wp (bh_tb (T_L_law xs N)) (0, [some (.inr (1, 1)), none, none, none, none, none, none, none, none], [], lw_M0, 0) Z := by
  refine lf_1 (fun z1 => lf_2 (by rw [C_1]; decide) (by rw [C_1]; decide) (by rw [C_1]; decide) (fun a ha hb => ?_) z1 (fun z2 => ?_))
  · rw [C_1, if_pos (by omega), if_neg (by omega), if_neg (by omega)]
  · have c2 := C_2
    unfold lw_MF at h
    unfold lw_M2 at c2 h
    generalize rM (bm_c lw_M1 40 1) = X at c2 h z2 ⊢
    exact lf_3 (by rw [c2, C_1]; decide) (by rw [c2, C_1]; decide) (by rw [c2, C_1]; decide) (by rw [c2, C_1]; decide) (by rw [c2, C_1]; decide) z2 h
/-- the law answers true -/
theorem law_true {xs : Nat → Int32} {N : Nat} (hN : N ≤ 3072) : bh_wp (bh_tb (T_L_law xs N)) (0, [some (.inr (1, 1)), none, none, none, none, none, none, none, none], [], lw_M0, 0) lw_z :=
  law_first (law_loop hN 512 0 lw_MF lw_A0 163 none none none (by omega) (by omega) RC_F RM_F WA_F (by decide) (by decide))
