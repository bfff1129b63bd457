theorem be_V_remove {M : bh_M} {Z : bh_F → Prop} (a1 : Nat) (ha : a1 < 20) (hs : bh_stat M.2.2.2) (h : bh_wp (bh_tb T_V_remove) (9, [some (.inr (19, 1)), some (.inl (.int (nI a1))), some (.inr (21, (bh_R M 20 1 a1))), some (.inl (.int (nI a1)))], [], M, 0) Z) : F_V_remove [.inr (19, 1), .inl (.int (nI a1))] M Z := bi_fn rfl [some (.inr (19, 1)), some (.inl (.int (nI a1))), none, none] rfl (bh_here m_V_remove l_V_remove_0 (bi_ald rfl (bh_here m_V_remove l_V_remove_1 (bi_gR hs ⟨by decide, by decide⟩ rfl rfl (bh_here m_V_remove l_V_remove_4 (bi_ild rfl (bh_here m_V_remove l_V_remove_5 (bi_vald a1 (bn_clamp ha rfl) hs (bn_in ha rfl) (bh_here m_V_remove l_V_remove_6 (bi_ast [some (.inr (19, 1)), some (.inl (.int (nI a1))), some (.inr (21, (bh_R M 20 1 a1))), none] rfl rfl rfl (bh_here m_V_remove l_V_remove_7 (bi_ild rfl (bh_here m_V_remove l_V_remove_8 (bi_ist [some (.inr (19, 1)), some (.inl (.int (nI a1))), some (.inr (21, (bh_R M 20 1 a1))), some (.inl (.int (nI a1)))] rfl rfl rfl h))))))))))))))
theorem bl_V_remove_9 {M : bh_M} {Z : bh_F → Prop} (a1 : Nat) (x2 : Nat) (hx2 : 1 ≤ x2 ∧ x2 ≤ bh_c0 21) (i : Nat) {m : Nat} (hi : i < m) (hi2 : i < 20) (hi3 : i + 1 < 20) (hm2 : m < 20) (hm : bh_I M 19 1 1 = nI (m + 1)) (hs : bh_stat M.2.2.2) (h : bh_wp (bh_tb T_V_remove) (9, [some (.inr (19, 1)), some (.inl (.int (nI a1))), some (.inr (21, x2)), some (.inl (.int (nI (i + 1))))], [], bh_sR M 20 1 i (bh_R M 20 1 (i + 1)), 0) Z) : bh_wp (bh_tb T_V_remove) (9, [some (.inr (19, 1)), some (.inl (.int (nI a1))), some (.inr (21, x2)), some (.inl (.int (nI i)))], [], M, 0) Z := (bh_here m_V_remove l_V_remove_9 (bi_ild rfl (bh_here m_V_remove l_V_remove_10 (bi_ald rfl (bh_here m_V_remove l_V_remove_11 (bi_gI (nI (m + 1)) hm hs ⟨by decide, by decide⟩ (bh_here m_V_remove l_V_remove_14 (bi_push (bh_here m_V_remove l_V_remove_15 (bi_ii (nI (m)) (bn_pred _) (bh_here m_V_remove l_V_remove_16 (bi_if2n (m ≤ i) (bn_le (bn_bd hm2 rfl) (bn_bd hi2 rfl)) (fun q => absurd q (Nat.not_le_of_lt hi)) (fun _ => (bh_here m_V_remove l_V_remove_19 (bi_ald rfl (bh_here m_V_remove l_V_remove_20 (bi_gR hs ⟨by decide, by decide⟩ rfl rfl (bh_here m_V_remove l_V_remove_23 (bi_ild rfl (bh_here m_V_remove l_V_remove_24 (bi_ald rfl (bh_here m_V_remove l_V_remove_25 (bi_gR hs ⟨by decide, by decide⟩ rfl rfl (bh_here m_V_remove l_V_remove_28 (bi_ild rfl (bh_here m_V_remove l_V_remove_29 (bi_push (bh_here m_V_remove l_V_remove_30 (bi_ii (nI (i + 1)) (bn_add i 1) (bh_here m_V_remove l_V_remove_31 (bi_vald (i + 1) (bn_clamp hi3 rfl) hs (bn_in hi3 rfl) (bh_here m_V_remove l_V_remove_32 (bi_vast i (bn_clamp hi2 rfl) hs (bh_stat.vk (M := M) hs hi3) (bn_in hi2 rfl) (bh_here m_V_remove l_V_remove_33 (bi_incn [some (.inr (19, 1)), some (.inl (.int (nI a1))), some (.inr (21, x2)), some (.inl (.int (nI (i + 1))))] rfl rfl rfl rfl (bh_here m_V_remove l_V_remove_36 (bi_go h)))))))))))))))))))))))))))))))))))))
theorem bx_V_remove_9 {M : bh_M} {Z : bh_F → Prop} (a1 : Nat) (x2 : Nat) (hx2 : 1 ≤ x2 ∧ x2 ≤ bh_c0 21) (m : Nat) (hm2 : m < 20) (hm : bh_I M 19 1 1 = nI (m + 1)) (hs : bh_stat M.2.2.2) (h : Z (.inl none, bh_sI (bh_sR M 20 1 m x2) 19 1 1 (nI m))) : bh_wp (bh_tb T_V_remove) (9, [some (.inr (19, 1)), some (.inl (.int (nI a1))), some (.inr (21, x2)), some (.inl (.int (nI m)))], [], M, 0) Z := (bh_here m_V_remove l_V_remove_9 (bi_ild rfl (bh_here m_V_remove l_V_remove_10 (bi_ald rfl (bh_here m_V_remove l_V_remove_11 (bi_gI (nI (m + 1)) hm hs ⟨by decide, by decide⟩ (bh_here m_V_remove l_V_remove_14 (bi_push (bh_here m_V_remove l_V_remove_15 (bi_ii (nI (m)) (bn_pred _) (bh_here m_V_remove l_V_remove_16 (bi_if2n (m ≤ m) (bn_le (bn_bd hm2 rfl) (bn_bd hm2 rfl)) (fun _ => (bh_here m_V_remove l_V_remove_39 (bi_ald rfl (bh_here m_V_remove l_V_remove_40 (bi_gR hs ⟨by decide, by decide⟩ rfl rfl (bh_here m_V_remove l_V_remove_43 (bi_ald rfl (bh_here m_V_remove l_V_remove_44 (bi_gI (nI (m + 1)) hm hs ⟨by decide, by decide⟩ (bh_here m_V_remove l_V_remove_47 (bi_push (bh_here m_V_remove l_V_remove_48 (bi_ii (nI (m)) (bn_pred _) (bh_here m_V_remove l_V_remove_49 (bi_ald rfl (bh_here m_V_remove l_V_remove_50 (bi_vast m (bn_clamp hm2 rfl) hs hx2 (bn_in hm2 rfl) (bh_here m_V_remove l_V_remove_51 (bi_ald rfl (bh_here m_V_remove l_V_remove_52 (bi_dup rfl (bh_here m_V_remove l_V_remove_53 (bi_gI (nI (m + 1)) hm (bh_stat_sR hs hx2) ⟨by decide, by decide⟩ (bh_here m_V_remove l_V_remove_56 (bi_push (bh_here m_V_remove l_V_remove_57 (bi_ii (nI (m)) (bn_pred _) (bh_here m_V_remove l_V_remove_58 (bi_pI (bh_stat_sR hs hx2) ⟨by decide, by decide⟩ (bh_here m_V_remove l_V_remove_61 (bi_vret rfl h))))))))))))))))))))))))))))))) (fun q => absurd (Nat.le_refl _) q)))))))))))))
theorem be_V_takeBackAll {M : bh_M} {Z : bh_F → Prop} (a1 : Nat) (hs : bh_stat M.2.2.2) (h : bh_wp (bh_tb T_V_takeBackAll) (2, [some (.inr (19, 1)), some (.inl (.int (nI a1))), some (.inl (.int 0))], [], M, 0) Z) : F_V_takeBackAll [.inr (19, 1), .inl (.int (nI a1))] M Z := bi_fn rfl [some (.inr (19, 1)), some (.inl (.int (nI a1))), none] rfl (bh_here m_V_takeBackAll l_V_takeBackAll_0 (bi_push (bh_here m_V_takeBackAll l_V_takeBackAll_1 (bi_ist [some (.inr (19, 1)), some (.inl (.int (nI a1))), some (.inl (.int 0))] rfl rfl rfl h))))
theorem bl_V_takeBackAll_2 {M : bh_M} {Z : bh_F → Prop} (a1 : Nat) (i : Nat) {n : Nat} (hi : i < n) (hi2 : i < 20) (hn2 : n ≤ 20) (hn : bh_I M 19 1 1 = nI n) (ha : a1 < 8) (hs : bh_stat M.2.2.2) (h : bh_wp (bh_tb T_V_takeBackAll) (2, [some (.inr (19, 1)), some (.inl (.int (nI a1))), some (.inl (.int (nI (i + 1))))], [], bh_sI M 22 (bh_R M 20 1 i) a1 0, 0) Z) : bh_wp (bh_tb T_V_takeBackAll) (2, [some (.inr (19, 1)), some (.inl (.int (nI a1))), some (.inl (.int (nI i)))], [], M, 0) Z := (bh_here m_V_takeBackAll l_V_takeBackAll_2 (bi_ild rfl (bh_here m_V_takeBackAll l_V_takeBackAll_3 (bi_ald rfl (bh_here m_V_takeBackAll l_V_takeBackAll_4 (bi_gI (nI n) hn hs ⟨by decide, by decide⟩ (bh_here m_V_takeBackAll l_V_takeBackAll_7 (bi_if2n (n ≤ i) (bn_le (bn_bd (Nat.lt_succ_of_le hn2) rfl) (bn_bd hi2 rfl)) (fun q => absurd q (Nat.not_le_of_lt hi)) (fun _ => (bh_here m_V_takeBackAll l_V_takeBackAll_10 (bi_ald rfl (bh_here m_V_takeBackAll l_V_takeBackAll_11 (bi_gR hs ⟨by decide, by decide⟩ rfl rfl (bh_here m_V_takeBackAll l_V_takeBackAll_14 (bi_ild rfl (bh_here m_V_takeBackAll l_V_takeBackAll_15 (bi_vald i (bn_clamp hi2 rfl) hs (bn_in hi2 rfl) (bh_here m_V_takeBackAll l_V_takeBackAll_16 (bi_gR hs (bh_stat.vk (M := M) hs hi2) rfl rfl (bh_here m_V_takeBackAll l_V_takeBackAll_19 (bi_ild rfl (bh_here m_V_takeBackAll l_V_takeBackAll_20 (bi_push (bh_here m_V_takeBackAll l_V_takeBackAll_21 (bi_Iast a1 (bn_clamp ha rfl) hs rfl (bh_stat.vk (M := M) hs hi2) (bn_in ha rfl)  (bh_here m_V_takeBackAll l_V_takeBackAll_22 (bi_incn [some (.inr (19, 1)), some (.inl (.int (nI a1))), some (.inl (.int (nI (i + 1))))] rfl rfl rfl rfl (bh_here m_V_takeBackAll l_V_takeBackAll_25 (bi_go h)))))))))))))))))))))))))))))
theorem bx_V_takeBackAll_2 {M : bh_M} {Z : bh_F → Prop} (a1 : Nat) (n : Nat) (hn2 : n ≤ 20) (hn : bh_I M 19 1 1 = nI n) (hs : bh_stat M.2.2.2) (h : Z (.inl none, M)) : bh_wp (bh_tb T_V_takeBackAll) (2, [some (.inr (19, 1)), some (.inl (.int (nI a1))), some (.inl (.int (nI n)))], [], M, 0) Z := (bh_here m_V_takeBackAll l_V_takeBackAll_2 (bi_ild rfl (bh_here m_V_takeBackAll l_V_takeBackAll_3 (bi_ald rfl (bh_here m_V_takeBackAll l_V_takeBackAll_4 (bi_gI (nI n) hn hs ⟨by decide, by decide⟩ (bh_here m_V_takeBackAll l_V_takeBackAll_7 (bi_if2n (n ≤ n) (bn_le (bn_bd (Nat.lt_succ_of_le hn2) rfl) (bn_bd (Nat.lt_succ_of_le hn2) rfl)) (fun _ => (bh_here m_V_takeBackAll l_V_takeBackAll_28 (bi_vret rfl h))) (fun q => absurd (Nat.le_refl _) q)))))))))
theorem be_H_dropService {M : bh_M} {Z : bh_F → Prop} (a1 : Nat) (ha : a1 < 20) (hs : bh_stat M.2.2.2) (h : F_E_add [.inr (23, 1), .inl (.int (400 + ((bh_I M 21 (bh_R M 20 1 a1) 1) - (bh_I M 21 (bh_R M 20 1 a1) 1) / 100 * 100)))] M (bh_after 26 [some (.inr (3, 1)), some (.inl (.int (nI a1)))] [] 0 (fun y => bh_wp (bh_tb T_H_dropService) y Z) Z)) : F_H_dropService [.inr (3, 1), .inl (.int (nI a1))] M Z := bi_fn rfl [some (.inr (3, 1)), some (.inl (.int (nI a1)))] rfl (bh_here m_H_dropService l_H_dropService_0 (bi_ald rfl (bh_here m_H_dropService l_H_dropService_1 (bi_gR hs ⟨by decide, by decide⟩ rfl rfl (bh_here m_H_dropService l_H_dropService_4 (bi_push (bh_here m_H_dropService l_H_dropService_7 (bi_ald rfl (bh_here m_H_dropService l_H_dropService_8 (bi_gR hs ⟨by decide, by decide⟩ rfl rfl (bh_here m_H_dropService l_H_dropService_11 (bi_gR hs ⟨by decide, by decide⟩ rfl rfl (bh_here m_H_dropService l_H_dropService_14 (bi_ild rfl (bh_here m_H_dropService l_H_dropService_15 (bi_vald a1 (bn_clamp ha rfl) hs (bn_in ha rfl) (bh_here m_H_dropService l_H_dropService_16 (bi_gI (bh_I M 21 (bh_R M 20 1 a1) 1) rfl hs (bh_stat.vk (M := M) hs ha) (bh_here m_H_dropService l_H_dropService_19 (bi_push (bh_here m_H_dropService l_H_dropService_21 (bi_dv ((bh_I M 21 (bh_R M 20 1 a1) 1) - (bh_I M 21 (bh_R M 20 1 a1) 1) / 100 * 100) rfl (by decide) (bh_here m_H_dropService l_H_dropService_22 (bi_ii (400 + ((bh_I M 21 (bh_R M 20 1 a1) 1) - (bh_I M 21 (bh_R M 20 1 a1) 1) / 100 * 100)) rfl (bh_here m_H_dropService l_H_dropService_23 (bi_callV [.inl (.int (400 + ((bh_I M 21 (bh_R M 20 1 a1) 1) - (bh_I M 21 (bh_R M 20 1 a1) 1) / 100 * 100)))] [] rfl rfl rfl hs ⟨by decide, by decide⟩ rfl rfl h))))))))))))))))))))))))))
theorem ct_V_add {M : bh_M} {Z : bh_F → Prop} (a1 : Int32) (a2 : Int32) (a3 : UInt64) (hs : bh_stat M.2.2.2) (h : vp_in (bh_I M 19 1 1) 20 ∧ Z (.inl (some (.inl (.int (bh_I (bh_sI (bh_sI (bh_sI M 21 (bh_R M 20 1 ((bh_I M 19 1 1).toNatClampNeg)) 1 (bh_I M 19 1 2)) 21 (bh_R M 20 1 ((bh_I M 19 1 1).toNatClampNeg)) 2 a1) 21 (bh_R M 20 1 ((bh_I M 19 1 1).toNatClampNeg)) 3 a2) 21 (bh_R M 20 1 ((bh_I M 19 1 1).toNatClampNeg)) 1)))), bh_sI (bh_sI (bm_fill (bh_sD (bh_sI (bh_sI (bh_sI M 21 (bh_R M 20 1 ((bh_I M 19 1 1).toNatClampNeg)) 1 (bh_I M 19 1 2)) 21 (bh_R M 20 1 ((bh_I M 19 1 1).toNatClampNeg)) 2 a1) 21 (bh_R M 20 1 ((bh_I M 19 1 1).toNatClampNeg)) 3 a2) 21 (bh_R M 20 1 ((bh_I M 19 1 1).toNatClampNeg)) 4 a3) 22 (bh_R M 20 1 ((bh_I M 19 1 1).toNatClampNeg)) 8 0) 19 1 1 ((bh_I M 19 1 1) + 1)) 19 1 2 ((bh_I M 19 1 2) + 1))) : F_V_add [.inr (19, 1), .inl (.int a1), .inl (.int a2), .inl (.double a3)] M Z := bi_fn rfl [some (.inr (19, 1)), some (.inl (.int a1)), some (.inl (.int a2)), some (.inl (.double a3)), none, none] rfl (bh_here m_V_add l_V_add_0 (bi_ald rfl (bh_here m_V_add l_V_add_1 (bi_gR hs ⟨by decide, by decide⟩ rfl rfl (bh_here m_V_add l_V_add_4 (bi_ald rfl (bh_here m_V_add l_V_add_5 (bi_gI (bh_I M 19 1 1) rfl hs ⟨by decide, by decide⟩ (bh_here m_V_add l_V_add_8 (bi_vald ((bh_I M 19 1 1).toNatClampNeg) rfl hs h.1 (bh_here m_V_add l_V_add_9 (bi_ast [some (.inr (19, 1)), some (.inl (.int a1)), some (.inl (.int a2)), some (.inl (.double a3)), none, some (.inr (21, (bh_R M 20 1 ((bh_I M 19 1 1).toNatClampNeg))))] rfl rfl rfl (bh_here m_V_add l_V_add_11 (bi_ald rfl (bh_here m_V_add l_V_add_13 (bi_ald rfl (bh_here m_V_add l_V_add_14 (bi_gI (bh_I M 19 1 2) rfl hs ⟨by decide, by decide⟩ (bh_here m_V_add l_V_add_17 (bi_pI hs (bh_stat.v (M := M) hs h.1) (bh_here m_V_add l_V_add_20 (bi_ald rfl (bh_here m_V_add l_V_add_22 (bi_ild rfl (bh_here m_V_add l_V_add_23 (bi_pI hs (bh_stat.v (M := M) hs h.1) (bh_here m_V_add l_V_add_26 (bi_ald rfl (bh_here m_V_add l_V_add_28 (bi_ild rfl (bh_here m_V_add l_V_add_29 (bi_pI hs (bh_stat.v (M := M) hs h.1) (bh_here m_V_add l_V_add_32 (bi_ald rfl (bh_here m_V_add l_V_add_34 (bi_dld rfl (bh_here m_V_add l_V_add_35 (bi_pD hs (bh_stat.v (M := M) hs h.1) (bh_here m_V_add l_V_add_38 (bi_ald rfl (bh_here m_V_add l_V_add_40 (bi_gR hs (bh_stat.v (M := M) hs h.1) rfl rfl (bh_here m_V_add l_V_add_43 (bi_push (bh_here m_V_add l_V_add_44 (bi_callS [.inr (22, (bh_R M 20 1 ((bh_I M 19 1 1).toNatClampNeg))), .inl (.int 0)] [] rfl rfl rfl rfl rfl (ct_A_fill_22 (bh_R M 20 1 ((bh_I M 19 1 1).toNatClampNeg)) (bh_stat.v (M := M) hs h.1) 0 hs (bh_here m_V_add l_V_add_47 (bi_ald rfl (bh_here m_V_add l_V_add_48 (bi_dup rfl (bh_here m_V_add l_V_add_49 (bi_gI (bh_I M 19 1 1) rfl hs ⟨by decide, by decide⟩ (bh_here m_V_add l_V_add_52 (bi_push (bh_here m_V_add l_V_add_53 (bi_ii ((bh_I M 19 1 1) + 1) rfl (bh_here m_V_add l_V_add_54 (bi_pI hs ⟨by decide, by decide⟩ (bh_here m_V_add l_V_add_57 (bi_ald rfl (bh_here m_V_add l_V_add_58 (bi_dup rfl (bh_here m_V_add l_V_add_59 (bi_gI (bh_I M 19 1 2) rfl hs ⟨by decide, by decide⟩ (bh_here m_V_add l_V_add_62 (bi_push (bh_here m_V_add l_V_add_63 (bi_ii ((bh_I M 19 1 2) + 1) rfl (bh_here m_V_add l_V_add_64 (bi_pI hs ⟨by decide, by decide⟩ (bh_here m_V_add l_V_add_67 (bi_ald rfl (bh_here m_V_add l_V_add_69 (bi_gI (bh_I (bh_sI (bh_sI (bh_sI M 21 (bh_R M 20 1 ((bh_I M 19 1 1).toNatClampNeg)) 1 (bh_I M 19 1 2)) 21 (bh_R M 20 1 ((bh_I M 19 1 1).toNatClampNeg)) 2 a1) 21 (bh_R M 20 1 ((bh_I M 19 1 1).toNatClampNeg)) 3 a2) 21 (bh_R M 20 1 ((bh_I M 19 1 1).toNatClampNeg)) 1) rfl hs (bh_stat.v (M := M) hs h.1) (bh_here m_V_add l_V_add_72 (bi_iret rfl h.2)))))))))))))))))))))))))))))))))))))))))))))))))))))))))))))))))))))))))))))
/-! THE RELATION of the class's memory to the reference's: events and services -/
def rc_E (M μ : bh_M) : Prop := ∃ o k, o < 10 ∧ k ≤ 10 ∧ bh_I M 23 1 1 = nI o ∧ bh_I M 23 1 2 = nI k ∧ bh_I μ 40 1 37 = nI k ∧ bh_I M 23 1 3 = bh_I μ 40 1 38 ∧ ∀ j, j < k → bh_I M 24 1 ((o + j) % 10) = bh_I μ 70 1 j
def rc_S (M μ : bh_M) (n : Nat) : Prop := n ≤ 20 ∧ bh_I M 19 1 1 = nI n ∧ bh_I μ 40 1 34 = nI n ∧ bh_I M 19 1 2 = bh_I μ 40 1 35 ∧ (∀ i j, i < 20 → j < 20 → bh_R M 20 1 i = bh_R M 20 1 j → i = j) ∧ ∀ i, i < n → bh_I M 21 (bh_R M 20 1 i) 1 = bh_I μ 65 1 i ∧ bh_I M 21 (bh_R M 20 1 i) 2 = bh_I μ 66 1 i ∧ bh_I M 21 (bh_R M 20 1 i) 3 = bh_I μ 67 1 i ∧ bh_D M 21 (bh_R M 20 1 i) 4 = bh_D μ 68 1 i ∧ ∀ b, b < 8 → bh_I M 22 (bh_R M 20 1 i) b = bh_I μ 69 1 (8 * i + b)
/-- only events changed -/
def fr_E (M M' : bh_M) : Prop := (∀ a, a ≠ 23 → a ≠ 24 → bh_I M' a = bh_I M a) ∧ M'.2 = M.2
/-- only events and services changed -/
def fr_SE (M M' : bh_M) : Prop := (∀ a, a ≠ 19 → a ≠ 21 → a ≠ 22 → a ≠ 23 → a ≠ 24 → bh_I M' a = bh_I M a) ∧ bh_J M' = bh_J M ∧ (∀ a, a ≠ 21 → bh_D M' a = bh_D M a) ∧ bh_stat M'.2.2.2 ∧ (∀ a, a ≠ 20 → bh_R M' a = bh_R M a)
theorem fr_SE_refl {M : bh_M} (hs : bh_stat M.2.2.2) : fr_SE M M := ⟨fun _ _ _ _ _ _ => rfl, rfl, fun _ _ => rfl, hs, fun _ _ => rfl⟩
theorem fr_SE_trans {M M' M'' : bh_M} (h : fr_SE M M') (g : fr_SE M' M'') : fr_SE M M'' := ⟨fun a h1 h2 h3 h4 h5 => (g.1 a h1 h2 h3 h4 h5).trans (h.1 a h1 h2 h3 h4 h5), g.2.1.trans h.2.1, fun a ha => (g.2.2.1 a ha).trans (h.2.2.1 a ha), g.2.2.2.1, fun a ha => (g.2.2.2.2 a ha).trans (h.2.2.2.2 a ha)⟩
theorem fr_E.se {M M' : bh_M} (h : fr_E M M') (hs : bh_stat M.2.2.2) : fr_SE M M' := ⟨fun a _ _ _ h4 h5 => h.1 a h4 h5, congrArg (fun q => q.1) h.2, fun a _ => congrFun (congrArg (fun q => q.2.1) h.2) a, by rw [h.2]; exact hs, fun a _ => congrFun (congrArg (fun q => q.2.2.1) h.2) a⟩
theorem fr_E.R {M M' : bh_M} (h : fr_E M M') : bh_R M' = bh_R M := congrArg (fun q => q.2.2.1) h.2
theorem fr_E.D {M M' : bh_M} (h : fr_E M M') : bh_D M' = bh_D M := congrArg (fun q => q.2.1) h.2
theorem rc_E_ev {M μ : bh_M} (h : rc_E M μ) : vp_in (bh_I μ 40 1 37) 11 := by
  obtain ⟨o, k, h1, h2, h3, h4, h5, -⟩ := h
  rw [h5]
  exact bn_in (by omega) rfl
theorem cs_E_add {M : bh_M} {Z : bh_F → Prop} (a1 : Int32) (hs : bh_stat M.2.2.2) {μ0 : bh_M} (h0 : rc_E M μ0) (h : ∀ M', (∀ μ, rc_E M μ → rc_E M' (sp_note μ a1)) → fr_E M M' → Z (.inl none, M')) : F_E_add [.inr (23, 1), .inl (.int a1)] M Z := by
  obtain ⟨o, k, h1, h2, h3, h4, -, -, -⟩ := h0
  have e10 : (10 : Int32) = nI 10 := rfl
  have er : nI (o + k) - nI (o + k) / 10 * 10 = nI ((o + k) % 10) := bn_rem 10 (by omega) (by omega)
  have ec : (nI ((o + k) % 10)).toNatClampNeg = (o + k) % 10 := bn_clamp (N := 10) (by omega) rfl
  refine ct_E_add a1 hs ?_
  rw [h3, h4, bn_add, er, ec]
  refine ⟨fun q => ⟨bn_in (by omega) rfl, h _ (fun μ hμ => ?_) ⟨fun a g1 g2 => ?_, rfl⟩⟩, fun q => h _ (fun μ hμ => ?_) ⟨fun a g1 g2 => ?_, rfl⟩⟩
  · obtain ⟨o', k', g1, g2, g3, g4, g5, g6, g7⟩ := hμ
    have eo : o' = o := (bn_inj (by omega) (by omega)).mp (g3.symm.trans h3)
    have ek : k' = k := (bn_inj (by omega) (by omega)).mp (g4.symm.trans h4)
    subst eo ek
    rw [e10, bn_lt (by omega) (by omega)] at q
    have nq : ¬ bh_I μ 40 1 37 = 10 := by
      rw [g5, e10, bn_inj (by omega) (by omega)]
      omega
    have ek : (bh_I μ 40 1 37).toNatClampNeg = k' := by rw [g5]; exact bn_clamp (N := 10) q rfl
    refine ⟨o', k' + 1, g1, by omega, g3, ?_, ?_, ?_, fun j hj => ?_⟩
    · show nI k' + 1 = _
      exact bn_s k'
    · unfold sp_note
      rw [if_neg nq, bh_I_sI, if_pos ⟨rfl, rfl, rfl⟩, g5, bn_s]
    · unfold sp_note
      rw [if_neg nq]
      exact g6
    · unfold sp_note
      rw [if_neg nq, ek]
      show (if 24 = 24 ∧ 1 = 1 ∧ (o' + j) % 10 = (o' + k') % 10 then a1 else bh_I M 24 1 ((o' + j) % 10)) = (if 70 = 70 ∧ 1 = 1 ∧ j = k' then a1 else bh_I μ 70 1 j)
      by_cases ej : j = k'
      · subst ej
        rw [if_pos ⟨rfl, rfl, rfl⟩, if_pos ⟨rfl, rfl, rfl⟩]
      · rw [if_neg (by omega), if_neg (by omega)]
        exact g7 j (by omega)
  · show (fun b c => if a = 23 ∧ b = 1 ∧ c = 2 then _ else if a = 24 ∧ b = 1 ∧ c = (o + k) % 10 then a1 else bh_I M a b c) = bh_I M a
    funext b c
    rw [if_neg (fun w => g1 w.1), if_neg (fun w => g2 w.1)]
  · obtain ⟨o', k', g1, g2, g3, g4, g5, g6, g7⟩ := hμ
    have eo : o' = o := (bn_inj (by omega) (by omega)).mp (g3.symm.trans h3)
    have ek : k' = k := (bn_inj (by omega) (by omega)).mp (g4.symm.trans h4)
    subst eo ek
    rw [e10, bn_lt (by omega) (by omega)] at q
    have ek : k' = 10 := by omega
    subst ek
    have pq : bh_I μ 40 1 37 = 10 := g5
    refine ⟨o', 10, g1, by omega, g3, g4, ?_, ?_, fun j hj => ?_⟩
    · unfold sp_note
      rw [if_pos pq, bh_I_sI, if_neg (by decide)]
      exact g5
    · unfold sp_note
      rw [if_pos pq, bh_I_sI, if_pos ⟨rfl, rfl, rfl⟩, ← g6]
      rfl
    · unfold sp_note
      rw [if_pos pq]
      exact g7 j hj
  · show (fun b c => if a = 23 ∧ b = 1 ∧ c = 3 then _ else bh_I M a b c) = bh_I M a
    funext b c
    rw [if_neg (fun w => g1 w.1)]
theorem rc_S_note {M M' μ : bh_M} {n : Nat} {e : Int32} (h : rc_S M μ n) (f : fr_E M M') : rc_S M' (sp_note μ e) n := by
  obtain ⟨h1, h2, h3, h4, h5, h6⟩ := h
  have i19 := f.1 19 (by decide) (by decide)
  have i21 := f.1 21 (by decide) (by decide)
  have i22 := f.1 22 (by decide) (by decide)
  refine ⟨h1, by rw [i19]; exact h2, sp_note_34 h3, by rw [i19, h4]; exact (sp_note_34 rfl).symm, by rw [f.R]; exact h5, fun i hi => ?_⟩
  obtain ⟨a1, a2, a3, a4, a5⟩ := h6 i hi
  rw [f.R, i21, i22, f.D, sp_note_65 _ _ _ _ _ (by decide) (by decide), sp_note_65 _ _ _ _ _ (by decide) (by decide), sp_note_65 _ _ _ _ _ (by decide) (by decide)]
  refine ⟨a1, a2, a3, ?_, fun b hb => ?_⟩
  · rw [a4]
    exact (congrFun (congrFun (congrFun (congrArg (fun q => q.2.1) (sp_note_st μ e)) 68) 1) i).symm
  · rw [sp_note_65 _ _ _ _ _ (by decide) (by decide)]
    exact a5 b hb
/-- row r goes to the end; m are left -/
def cm_rows (M : bh_M) (r i : Nat) : bh_M := (M.1, M.2.1, M.2.2.1, fun a b c => if a = 20 ∧ b = 1 ∧ r ≤ c ∧ c < i then M.2.2.2.1 20 1 (c + 1) else M.2.2.2.1 a b c, M.2.2.2.2)
theorem bh_R_rows (M : bh_M) (r i a b c : Nat) : bh_R (cm_rows M r i) a b c = if a = 20 ∧ b = 1 ∧ r ≤ c ∧ c < i then bh_R M 20 1 (c + 1) else bh_R M a b c := rfl
theorem cm_rows_0 (M : bh_M) (r : Nat) : cm_rows M r r = M := by
  unfold cm_rows
  refine Prod.ext rfl (Prod.ext rfl (Prod.ext rfl (Prod.ext ?_ rfl)))
  funext a b c
  show (if _ then _ else _) = _
  rw [if_neg (by omega)]
theorem cm_rows_s (M : bh_M) (r i : Nat) (h : r ≤ i) : bh_sR (cm_rows M r i) 20 1 i (bh_R (cm_rows M r i) 20 1 (i + 1)) = cm_rows M r (i + 1) := by
  have e : bh_R (cm_rows M r i) 20 1 (i + 1) = bh_R M 20 1 (i + 1) := by rw [bh_R_rows, if_neg (by omega)]
  rw [e]
  refine Prod.ext rfl (Prod.ext rfl (Prod.ext rfl (Prod.ext ?_ rfl)))
  funext a b c
  show (if a = 20 ∧ b = 1 ∧ c = i then bh_R M 20 1 (i + 1) else bh_R (cm_rows M r i) a b c) = bh_R (cm_rows M r (i + 1)) a b c
  rw [bh_R_rows, bh_R_rows]
  by_cases h1 : a = 20 ∧ b = 1 ∧ c = i
  · obtain ⟨ha, hb, hc⟩ := h1
    subst hc
    rw [if_pos ⟨ha, hb, rfl⟩, if_pos ⟨ha, hb, h, by omega⟩]
  · rw [if_neg h1]
    by_cases h2 : a = 20 ∧ b = 1 ∧ r ≤ c ∧ c < i
    · rw [if_pos h2, if_pos (by omega)]
    · rw [if_neg h2, if_neg (show ¬ (a = 20 ∧ b = 1 ∧ r ≤ c ∧ c < i + 1) by omega)]
theorem cm_rows_stat {M : bh_M} (h : bh_stat M.2.2.2) (r i : Nat) (hi : i < 20) : bh_stat (cm_rows M r i).2.2.2 := by
  obtain ⟨h1, h2, h3, h4⟩ := h
  refine ⟨h1, fun t x j a b c d e => ?_, fun j hj => ?_, fun j hj => ?_⟩
  · show (if t = 20 ∧ x = 1 ∧ r ≤ j ∧ j < i then M.2.2.2.1 20 1 (j + 1) else M.2.2.2.1 t x j) = x
    rw [if_neg (fun q => d q.1)]
    exact h2 t x j a b c d e
  · show (if 4 = 20 ∧ 1 = 1 ∧ r ≤ j ∧ j < i then M.2.2.2.1 20 1 (j + 1) else M.2.2.2.1 4 1 j) = j + 1
    rw [if_neg (fun q => absurd q.1 (by decide))]
    exact h3 j hj
  · show 1 ≤ (if 20 = 20 ∧ 1 = 1 ∧ r ≤ j ∧ j < i then M.2.2.2.1 20 1 (j + 1) else M.2.2.2.1 20 1 j) ∧ (if 20 = 20 ∧ 1 = 1 ∧ r ≤ j ∧ j < i then M.2.2.2.1 20 1 (j + 1) else M.2.2.2.1 20 1 j) ≤ 20
    split
    · exact h4 (j + 1) (by omega)
    · exact h4 j hj
def cm_rm (M : bh_M) (r m : Nat) : bh_M := bh_sI (bh_sR (cm_rows M r m) 20 1 m (bh_R M 20 1 r)) 19 1 1 (nI m)
theorem ct_V_remove {M : bh_M} {Z : bh_F → Prop} (a1 m : Nat) (hm : bh_I M 19 1 1 = nI (m + 1)) (hm2 : m < 20) (ha : a1 ≤ m) (hs : bh_stat M.2.2.2) (h : Z (.inl none, cm_rm M a1 m)) : F_V_remove [.inr (19, 1), .inl (.int (nI a1))] M Z := by
  refine be_V_remove a1 (by omega) hs ?_
  have hg := hs.vk (M := M) (k := a1) (by omega)
  have key : ∀ k i, a1 ≤ i → i + k = m → bh_wp (bh_tb T_V_remove) (9, [some (.inr (19, 1)), some (.inl (.int (nI a1))), some (.inr (21, bh_R M 20 1 a1)), some (.inl (.int (nI i)))], [], cm_rows M a1 i, 0) Z := by
    intro k
    induction k with
    | zero =>
      intro i hi e
      have : i = m := by omega
      subst this
      exact bx_V_remove_9 (M := cm_rows M a1 i) a1 _ hg i hm2 hm (cm_rows_stat hs a1 i hm2) h
    | succ k ih =>
      intro i hi e
      refine bl_V_remove_9 (M := cm_rows M a1 i) a1 _ hg i (m := m) (by omega) (by omega) (by omega) hm2 hm (cm_rows_stat hs a1 i (by omega)) ?_
      rw [cm_rows_s M a1 i hi]
      exact ih (i + 1) (by omega) (by omega)
  have := key (m - a1) a1 (Nat.le_refl _) (by omega)
  rw [cm_rows_0] at this
  exact this
theorem cm_rm_stat {M : bh_M} (h : bh_stat M.2.2.2) {r m : Nat} (hr : r < 20) (hm : m < 20) : bh_stat (cm_rm M r m).2.2.2 := bh_stat_sR (cm_rows_stat h r m hm) (h.vk (M := M) hr)
theorem bh_R_rm (M : bh_M) (r m c : Nat) : bh_R (cm_rm M r m) 20 1 c = if c = m then bh_R M 20 1 r else if r ≤ c ∧ c < m then bh_R M 20 1 (c + 1) else bh_R M 20 1 c := by
  show (if 20 = 20 ∧ 1 = 1 ∧ c = m then bh_R M 20 1 r else bh_R (cm_rows M r m) 20 1 c) = _
  rw [bh_R_rows]
  by_cases h1 : c = m
  · rw [if_pos ⟨rfl, rfl, h1⟩, if_pos h1]
  · rw [if_neg (fun q => h1 q.2.2), if_neg h1]
    by_cases h2 : r ≤ c ∧ c < m
    · rw [if_pos ⟨rfl, rfl, h2⟩, if_pos h2]
    · rw [if_neg (fun q => h2 q.2.2), if_neg h2]
def sp_rm (μ : bh_M) (s m : Nat) : bh_M := sp_dm (bh_sI μ 40 1 34 (nI m)) s m (8 * m)
theorem rc_S_rm {M μ : bh_M} {r m : Nat} (h : rc_S M μ (m + 1)) (hr : r ≤ m) : rc_S (cm_rm M r m) (sp_rm μ r m) m := by
  obtain ⟨h1, h2, h3, h4, h5, h6⟩ := h
  refine ⟨by omega, rfl, rfl, h4, fun i j hi hj => ?_, fun i hi => ?_⟩
  · rw [bh_R_rm, bh_R_rm]
    intro q
    by_cases c1 : i = m
    · rw [if_pos c1] at q
      by_cases c2 : j = m
      · omega
      · rw [if_neg c2] at q
        by_cases c3 : r ≤ j ∧ j < m
        · rw [if_pos c3] at q
          have := h5 _ _ (by omega) (by omega) q
          omega
        · rw [if_neg c3] at q
          have := h5 _ _ (by omega) (by omega) q
          omega
    · rw [if_neg c1] at q
      by_cases c2 : j = m
      · rw [if_pos c2] at q
        by_cases c3 : r ≤ i ∧ i < m
        · rw [if_pos c3] at q
          have := h5 _ _ (by omega) (by omega) q
          omega
        · rw [if_neg c3] at q
          have := h5 _ _ (by omega) (by omega) q
          omega
      · rw [if_neg c2] at q
        by_cases c3 : r ≤ i ∧ i < m
        · rw [if_pos c3] at q
          by_cases c4 : r ≤ j ∧ j < m
          · rw [if_pos c4] at q
            have := h5 _ _ (by omega) (by omega) q
            omega
          · rw [if_neg c4] at q
            have := h5 _ _ (by omega) (by omega) q
            omega
        · rw [if_neg c3] at q
          by_cases c4 : r ≤ j ∧ j < m
          · rw [if_pos c4] at q
            have := h5 _ _ (by omega) (by omega) q
            omega
          · rw [if_neg c4] at q
            exact h5 _ _ (by omega) (by omega) q
  · have eI : ∀ a b c, a = 21 ∨ a = 22 → bh_I (cm_rm M r m) a b c = bh_I M a b c := by
      intro a b c ha
      show (if a = 19 ∧ b = 1 ∧ c = 1 then _ else bh_I M a b c) = _
      rw [if_neg (by omega)]
    have eD : bh_D (cm_rm M r m) = bh_D M := rfl
    have eN : ∀ a c, a = 65 ∨ a = 66 ∨ a = 67 → bh_I (sp_rm μ r m) a 1 c = if r ≤ c ∧ c < m then bh_I μ a 1 (c + 1) else bh_I μ a 1 c := by
      intro a c ha
      unfold sp_rm
      rw [bh_I_dm]
      have e1 : ∀ j, bh_I (bh_sI μ 40 1 34 (nI m)) a 1 j = bh_I μ a 1 j := fun j => by rw [bh_I_sI, if_neg (by omega)]
      rw [e1, e1]
      by_cases w : r ≤ c ∧ c < m
      · rw [if_pos ⟨ha, rfl, w⟩, if_pos w]
      · rw [if_neg (fun q => w q.2.2), if_neg w, if_neg (by omega)]
    have eDm : ∀ c, bh_D (sp_rm μ r m) 68 1 c = if r ≤ c ∧ c < m then bh_D μ 68 1 (c + 1) else bh_D μ 68 1 c := by
      intro c
      unfold sp_rm
      rw [bh_D_dm]
      by_cases w : r ≤ c ∧ c < m
      · rw [if_pos ⟨rfl, rfl, w⟩, if_pos w]
        rfl
      · rw [if_neg (fun q => w q.2.2), if_neg w]
        rfl
    have eG : ∀ c, bh_I (sp_rm μ r m) 69 1 c = if 8 * r ≤ c ∧ c < 8 * m then bh_I μ 69 1 (c + 8) else bh_I μ 69 1 c := by
      intro c
      unfold sp_rm
      rw [bh_I_dm, if_neg (by omega)]
      by_cases w : 8 * r ≤ c ∧ c < 8 * m
      · rw [if_pos ⟨rfl, rfl, w⟩, if_pos w]
        rfl
      · rw [if_neg (fun q => w q.2.2), if_neg w]
        rfl
    rw [bh_R_rm, if_neg (by omega)]
    by_cases w : r ≤ i ∧ i < m
    · rw [if_pos w]
      obtain ⟨a1, a2, a3, a4, a5⟩ := h6 (i + 1) (by omega)
      refine ⟨?_, ?_, ?_, ?_, fun b hb => ?_⟩
      · rw [eI _ _ _ (by omega), eN _ _ (by omega), if_pos w]; exact a1
      · rw [eI _ _ _ (by omega), eN _ _ (by omega), if_pos w]; exact a2
      · rw [eI _ _ _ (by omega), eN _ _ (by omega), if_pos w]; exact a3
      · rw [eD, eDm, if_pos w]; exact a4
      · rw [eI _ _ _ (by omega), eG, if_pos (by omega), a5 b hb]
        congr 1
        omega
    · rw [if_neg w]
      obtain ⟨a1, a2, a3, a4, a5⟩ := h6 i (by omega)
      refine ⟨?_, ?_, ?_, ?_, fun b hb => ?_⟩
      · rw [eI _ _ _ (by omega), eN _ _ (by omega), if_neg w]; exact a1
      · rw [eI _ _ _ (by omega), eN _ _ (by omega), if_neg w]; exact a2
      · rw [eI _ _ _ (by omega), eN _ _ (by omega), if_neg w]; exact a3
      · rw [eD, eDm, if_neg w]; exact a4
      · rw [eI _ _ _ (by omega), eG, if_neg (by omega)]
        exact a5 b hb
theorem rc_E_rm {M μ : bh_M} {r m : Nat} (h : rc_E M μ) : rc_E (cm_rm M r m) (sp_rm μ r m) := h
