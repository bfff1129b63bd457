theorem bk_H_dropService_26 {M : bh_M} {Z : bh_F → Prop} (a1 : Nat) (hs : bh_stat M.2.2.2) (h : F_V_remove [.inr (19, 1), .inl (.int (nI a1))] M (bh_after 34 [some (.inr (3, 1)), some (.inl (.int (nI a1)))] [] 0 (fun y => bh_wp (bh_tb T_H_dropService) y Z) Z)) : bh_wp (bh_tb T_H_dropService) (26, [some (.inr (3, 1)), some (.inl (.int (nI a1)))], [], M, 0) Z := (bh_here m_H_dropService l_H_dropService_26 (bi_ald rfl (bh_here m_H_dropService l_H_dropService_27 (bi_gR hs ⟨by decide, by decide⟩ rfl rfl (bh_here m_H_dropService l_H_dropService_30 (bi_ild rfl (bh_here m_H_dropService l_H_dropService_31 (bi_callV [.inl (.int (nI a1))] [] rfl rfl rfl hs ⟨by decide, by decide⟩ rfl rfl h))))))))
theorem bk_H_dropService_34 {M : bh_M} {Z : bh_F → Prop} (a1 : Nat) (hs : bh_stat M.2.2.2) (h : Z (.inl none, M)) : bh_wp (bh_tb T_H_dropService) (34, [some (.inr (3, 1)), some (.inl (.int (nI a1)))], [], M, 0) Z := (bh_here m_H_dropService l_H_dropService_34 (bi_vret rfl h))
theorem cs_H_dropService {M : bh_M} {Z : bh_F → Prop} (r m : Nat) (hm : bh_I M 19 1 1 = nI (m + 1)) (hm2 : m < 20) (hr : r ≤ m) (hs : bh_stat M.2.2.2) {μ0 : bh_M} (h0 : rc_E M μ0) (h : ∀ M', (∀ μ, rc_E M μ → rc_S M μ (m + 1) → rc_E M' (sp_drop μ r m) ∧ rc_S M' (sp_drop μ r m) m) → fr_SE M M' → bh_I M' 19 1 1 = nI m → Z (.inl none, M')) : F_H_dropService [.inr (3, 1), .inl (.int (nI r))] M Z := by
  refine be_H_dropService r (by omega) hs ?_
  refine cs_E_add _ hs h0 (fun M1 g1 f1 => ?_)
  have hs1 : bh_stat M1.2.2.2 := (f1.se hs).2.2.2.1
  have i19 := f1.1 19 (by decide) (by decide)
  refine bk_H_dropService_26 r hs1 ?_
  refine ct_V_remove r m (by rw [i19]; exact hm) hm2 hr hs1 ?_
  refine bk_H_dropService_34 r (cm_rm_stat hs1 (by omega) hm2) ?_
  refine h _ (fun μ e1 e2 => ?_) (fr_SE_trans (f1.se hs) ⟨fun a w1 w2 w3 w4 w5 => ?_, rfl, fun a w => rfl, cm_rm_stat hs1 (by omega) hm2, fun a w => ?_⟩) rfl
  · have en : bh_I M 21 (bh_R M 20 1 r) 1 = bh_I μ 65 1 r := (e2.2.2.2.2.2 r (by omega)).1
    rw [en] at g1
    exact ⟨rc_E_rm (g1 μ e1), rc_S_rm (rc_S_note e2 f1) hr⟩
  · funext b c
    show (if a = 19 ∧ b = 1 ∧ c = 1 then _ else bh_I M1 a b c) = _
    rw [if_neg (fun q => w1 q.1)]
  · funext b c
    show (if a = 20 ∧ b = 1 ∧ c = m then _ else bh_R (cm_rows M1 r m) a b c) = _
    rw [if_neg (fun q => w q.1), bh_R_rows, if_neg (fun q => w q.1)]
def cm_tb (M : bh_M) (b i : Nat) : bh_M := (fun a x c => if a = 22 ∧ c = b ∧ (∃ j, j < i ∧ bh_R M 20 1 j = x) then 0 else M.1 a x c, M.2)
theorem bh_I_tb (M : bh_M) (b i a x c : Nat) : bh_I (cm_tb M b i) a x c = if a = 22 ∧ c = b ∧ (∃ j, j < i ∧ bh_R M 20 1 j = x) then 0 else bh_I M a x c := rfl
theorem cm_tb_0 (M : bh_M) (b : Nat) : cm_tb M b 0 = M := by
  refine Prod.ext ?_ rfl
  funext a x c
  show bh_I (cm_tb M b 0) a x c = _
  rw [bh_I_tb, if_neg]
  · rfl
  · rintro ⟨-, -, j, hj, -⟩
    omega
theorem cm_tb_s (M : bh_M) (b i : Nat) : bh_sI (cm_tb M b i) 22 (bh_R M 20 1 i) b 0 = cm_tb M b (i + 1) := by
  refine Prod.ext ?_ rfl
  funext a x c
  show (if a = 22 ∧ x = bh_R M 20 1 i ∧ c = b then 0 else bh_I (cm_tb M b i) a x c) = bh_I (cm_tb M b (i + 1)) a x c
  rw [bh_I_tb, bh_I_tb]
  by_cases h1 : a = 22 ∧ x = bh_R M 20 1 i ∧ c = b
  · rw [if_pos h1, if_pos ⟨h1.1, h1.2.2, i, by omega, h1.2.1.symm⟩]
  · rw [if_neg h1]
    by_cases h2 : a = 22 ∧ c = b ∧ (∃ j, j < i ∧ bh_R M 20 1 j = x)
    · rw [if_pos h2]
      obtain ⟨e1, e2, j, e3, e4⟩ := h2
      rw [if_pos ⟨e1, e2, j, by omega, e4⟩]
    · rw [if_neg h2, if_neg]
      rintro ⟨e1, e2, j, e3, e4⟩
      by_cases ej : j = i
      · subst ej
        exact h1 ⟨e1, e4.symm, e2⟩
      · exact h2 ⟨e1, e2, j, by omega, e4⟩
theorem ct_V_takeBackAll {M : bh_M} {Z : bh_F → Prop} (b n : Nat) (hb : b < 8) (hn : bh_I M 19 1 1 = nI n) (hn2 : n ≤ 20) (hs : bh_stat M.2.2.2) (h : Z (.inl none, cm_tb M b n)) : F_V_takeBackAll [.inr (19, 1), .inl (.int (nI b))] M Z := by
  refine be_V_takeBackAll b hs ?_
  have key := bh_lp (T := bh_tb T_V_takeBackAll) (Z := Z) 2 n (fun i => ([some (.inr (19, 1)), some (.inl (.int (nI b))), some (.inl (.int (nI i)))], [], cm_tb M b i, 0)) (fun _ => True) (fun i hi _ k => bl_V_takeBackAll_2 (M := cm_tb M b i) b i (n := n) hi (by omega) hn2 hn hb hs (by rw [show bh_sI (cm_tb M b i) 22 (bh_R (cm_tb M b i) 20 1 i) b 0 = _ from cm_tb_s M b i]; exact k trivial)) (fun _ => bx_V_takeBackAll_2 (M := cm_tb M b n) b n hn2 hn hs h) trivial
  simp only [cm_tb_0] at key
  exact key
theorem rc_S_tb {M μ : bh_M} {b n : Nat} (h : rc_S M μ n) (hb : b < 8) : rc_S (cm_tb M b n) (sp_back μ b n) n := by
  obtain ⟨h1, h2, h3, h4, h5, h6⟩ := h
  refine ⟨h1, h2, h3, h4, h5, fun i hi => ?_⟩
  obtain ⟨a1, a2, a3, a4, a5⟩ := h6 i hi
  refine ⟨a1, a2, a3, a4, fun b' hb' => ?_⟩
  show (if 22 = 22 ∧ b' = b ∧ (∃ j, j < n ∧ bh_R M 20 1 j = bh_R M 20 1 i) then 0 else bh_I M 22 (bh_R M 20 1 i) b') = (if 69 = 69 then (if 1 = 1 ∧ (8 * i + b') % 8 = b ∧ 8 * i + b' < 8 * n then 0 else bh_I μ 69 1 (8 * i + b')) else bh_I μ 69 1 (8 * i + b'))
  rw [if_pos (rfl : 69 = 69)]
  by_cases e : b' = b
  · rw [if_pos ⟨rfl, e, i, hi, rfl⟩, if_pos ⟨rfl, by omega, by omega⟩]
  · rw [if_neg (fun q => e q.2.1), if_neg (by omega)]
    exact a5 b' hb'
theorem rc_E_tb {M μ : bh_M} {b n k : Nat} (h : rc_E M μ) : rc_E (cm_tb M b n) (sp_back μ b k) := h
theorem be_H_deactivate {M : bh_M} {Z : bh_F → Prop} (x1 : Nat) (hx1 : 1 ≤ x1 ∧ x1 ≤ bh_c0 5) (hs : bh_stat M.2.2.2) (h : (((bh_I M 5 x1 3) = 3) → bh_wp (bh_tb T_H_deactivate) (19, [some (.inr (3, 1)), some (.inr (5, x1)), some (.inl (.int 0)), some (.inl (.int (bh_I M 19 1 1)))], [], M, 0) Z) ∧ (¬ ((bh_I M 5 x1 3) = 3) → Z (.inl none, M))) : F_H_deactivate [.inr (3, 1), .inr (5, x1)] M Z := bi_fn rfl [some (.inr (3, 1)), some (.inr (5, x1)), none, none] rfl (bh_here m_H_deactivate l_H_deactivate_0 (bi_ald rfl (bh_here m_H_deactivate l_H_deactivate_1 (bi_gI (bh_I M 5 x1 3) rfl hs hx1 (bh_here m_H_deactivate l_H_deactivate_4 (bi_push (bh_here m_H_deactivate l_H_deactivate_5 (bi_if2 (fun q206 => (bh_here m_H_deactivate l_H_deactivate_9 (bi_push (bh_here m_H_deactivate l_H_deactivate_10 (bi_ist [some (.inr (3, 1)), some (.inr (5, x1)), some (.inl (.int 0)), none] rfl rfl rfl (bh_here m_H_deactivate l_H_deactivate_11 (bi_ald rfl (bh_here m_H_deactivate l_H_deactivate_12 (bi_gR hs ⟨by decide, by decide⟩ rfl rfl (bh_here m_H_deactivate l_H_deactivate_15 (bi_gI (bh_I M 19 1 1) rfl hs ⟨by decide, by decide⟩ (bh_here m_H_deactivate l_H_deactivate_18 (bi_ist [some (.inr (3, 1)), some (.inr (5, x1)), some (.inl (.int 0)), some (.inl (.int (bh_I M 19 1 1)))] rfl rfl rfl (h.1 q206)))))))))))))) (fun q207 => (bh_here m_H_deactivate l_H_deactivate_8 (bi_vret rfl (h.2 q207))))))))))))
theorem bl_H_deactivate_19 {M : bh_M} {Z : bh_F → Prop} (x1 : Nat) (hx1 : 1 ≤ x1 ∧ x1 ≤ bh_c0 5) (r : Nat) (k : Nat) (b : Nat) (hk : k + 1 < 21) (hr : r < 20) (hb : bh_I M 5 x1 0 = nI b) (hs : bh_stat M.2.2.2) (h : ((¬ (bh_I M 21 (bh_R M 20 1 r) 2) = (nI b)) → bh_wp (bh_tb T_H_deactivate) (19, [some (.inr (3, 1)), some (.inr (5, x1)), some (.inl (.int (nI (r + 1)))), some (.inl (.int (nI k)))], [], M, 0) Z) ∧ (¬ (¬ (bh_I M 21 (bh_R M 20 1 r) 2) = (nI b)) → F_H_dropService [.inr (3, 1), .inl (.int (nI r))] M (bh_after 47 [some (.inr (3, 1)), some (.inr (5, x1)), some (.inl (.int (nI r))), some (.inl (.int (nI (k + 1))))] [] 0 (fun y => bh_wp (bh_tb T_H_deactivate) y Z) Z))) : bh_wp (bh_tb T_H_deactivate) (19, [some (.inr (3, 1)), some (.inr (5, x1)), some (.inl (.int (nI r))), some (.inl (.int (nI (k + 1))))], [], M, 0) Z := (bh_here m_H_deactivate l_H_deactivate_19 (bi_ild rfl (bh_here m_H_deactivate l_H_deactivate_20 (bi_if1n (k + 1 = 0) (bn_le0 (bn_bd hk rfl)) (fun q => absurd q (Nat.succ_ne_zero _)) (fun _ => (bh_here m_H_deactivate l_H_deactivate_23 (bi_ald rfl (bh_here m_H_deactivate l_H_deactivate_24 (bi_gR hs ⟨by decide, by decide⟩ rfl rfl (bh_here m_H_deactivate l_H_deactivate_27 (bi_gR hs ⟨by decide, by decide⟩ rfl rfl (bh_here m_H_deactivate l_H_deactivate_30 (bi_ild rfl (bh_here m_H_deactivate l_H_deactivate_31 (bi_vald r (bn_clamp hr rfl) hs (bn_in hr rfl) (bh_here m_H_deactivate l_H_deactivate_32 (bi_gI (bh_I M 21 (bh_R M 20 1 r) 2) rfl hs (bh_stat.vk (M := M) hs hr) (bh_here m_H_deactivate l_H_deactivate_35 (bi_ald rfl (bh_here m_H_deactivate l_H_deactivate_36 (bi_gI (nI b) hb hs hx1 (bh_here m_H_deactivate l_H_deactivate_39 (bi_if2 (fun q208 => (bh_here m_H_deactivate l_H_deactivate_50 (bi_incn [some (.inr (3, 1)), some (.inr (5, x1)), some (.inl (.int (nI (r + 1)))), some (.inl (.int (nI (k + 1))))] rfl rfl rfl rfl (bh_here m_H_deactivate l_H_deactivate_53 (bi_decn [some (.inr (3, 1)), some (.inr (5, x1)), some (.inl (.int (nI (r + 1)))), some (.inl (.int (nI k)))] rfl rfl rfl rfl (bh_here m_H_deactivate l_H_deactivate_56 (bi_go (h.1 q208)))))))) (fun q209 => (bh_here m_H_deactivate l_H_deactivate_42 (bi_ald rfl (bh_here m_H_deactivate l_H_deactivate_43 (bi_ild rfl (bh_here m_H_deactivate l_H_deactivate_44 (bi_callV [.inl (.int (nI r))] [] rfl rfl rfl hs ⟨by decide, by decide⟩ rfl rfl (h.2 q209)))))))))))))))))))))))))))))))
theorem bx_H_deactivate_19 {M : bh_M} {Z : bh_F → Prop} (x1 : Nat) (hx1 : 1 ≤ x1 ∧ x1 ≤ bh_c0 5) (r : Nat) (b : Nat) (hb : bh_I M 5 x1 0 = nI b) (hs : bh_stat M.2.2.2) (h : F_V_takeBackAll [.inr (19, 1), .inl (.int (nI b))] M (bh_after 70 [some (.inr (3, 1)), some (.inr (5, x1)), some (.inl (.int (nI r))), some (.inl (.int (nI 0)))] [] 0 (fun y => bh_wp (bh_tb T_H_deactivate) y Z) Z)) : bh_wp (bh_tb T_H_deactivate) (19, [some (.inr (3, 1)), some (.inr (5, x1)), some (.inl (.int (nI r))), some (.inl (.int (nI 0)))], [], M, 0) Z := (bh_here m_H_deactivate l_H_deactivate_19 (bi_ild rfl (bh_here m_H_deactivate l_H_deactivate_20 (bi_if1n (0 = 0) (bn_le0 (by decide)) (fun _ => (bh_here m_H_deactivate l_H_deactivate_59 (bi_ald rfl (bh_here m_H_deactivate l_H_deactivate_60 (bi_gR hs ⟨by decide, by decide⟩ rfl rfl (bh_here m_H_deactivate l_H_deactivate_63 (bi_ald rfl (bh_here m_H_deactivate l_H_deactivate_64 (bi_gI (nI b) hb hs hx1 (bh_here m_H_deactivate l_H_deactivate_67 (bi_callV [.inl (.int (nI b))] [] rfl rfl rfl hs ⟨by decide, by decide⟩ rfl rfl h))))))))))) (fun q => absurd (by decide) q)))))
theorem bk_H_deactivate_47 {M : bh_M} {Z : bh_F → Prop} (x1 : Nat) (hx1 : 1 ≤ x1 ∧ x1 ≤ bh_c0 5) (r : Nat) (k : Nat) (hk : k + 1 < 21) (hs : bh_stat M.2.2.2) (h : bh_wp (bh_tb T_H_deactivate) (19, [some (.inr (3, 1)), some (.inr (5, x1)), some (.inl (.int (nI r))), some (.inl (.int (nI k)))], [], M, 0) Z) : bh_wp (bh_tb T_H_deactivate) (47, [some (.inr (3, 1)), some (.inr (5, x1)), some (.inl (.int (nI r))), some (.inl (.int (nI (k + 1))))], [], M, 0) Z := (bh_here m_H_deactivate l_H_deactivate_47 (bi_go (bh_here m_H_deactivate l_H_deactivate_53 (bi_decn [some (.inr (3, 1)), some (.inr (5, x1)), some (.inl (.int (nI r))), some (.inl (.int (nI k)))] rfl rfl rfl rfl (bh_here m_H_deactivate l_H_deactivate_56 (bi_go h))))))
theorem bk_H_deactivate_70 {M : bh_M} {Z : bh_F → Prop} (x1 : Nat) (hx1 : 1 ≤ x1 ∧ x1 ≤ bh_c0 5) (a2 : Int32) (a3 : Int32) (hs : bh_stat M.2.2.2) (h : F_E_add [.inr (23, 1), .inl (.int (200 + (bh_I (bh_sI M 5 x1 3 2) 5 x1 0)))] (bh_sI M 5 x1 3 2) (bh_after 90 [some (.inr (3, 1)), some (.inr (5, x1)), some (.inl (.int a2)), some (.inl (.int a3))] [] 0 (fun y => bh_wp (bh_tb T_H_deactivate) y Z) Z)) : bh_wp (bh_tb T_H_deactivate) (70, [some (.inr (3, 1)), some (.inr (5, x1)), some (.inl (.int a2)), some (.inl (.int a3))], [], M, 0) Z := (bh_here m_H_deactivate l_H_deactivate_70 (bi_ald rfl (bh_here m_H_deactivate l_H_deactivate_71 (bi_push (bh_here m_H_deactivate l_H_deactivate_72 (bi_pI hs hx1 (bh_here m_H_deactivate l_H_deactivate_75 (bi_ald rfl (bh_here m_H_deactivate l_H_deactivate_76 (bi_gR hs ⟨by decide, by decide⟩ rfl rfl (bh_here m_H_deactivate l_H_deactivate_79 (bi_push (bh_here m_H_deactivate l_H_deactivate_82 (bi_ald rfl (bh_here m_H_deactivate l_H_deactivate_83 (bi_gI (bh_I (bh_sI M 5 x1 3 2) 5 x1 0) rfl hs hx1 (bh_here m_H_deactivate l_H_deactivate_86 (bi_ii (200 + (bh_I (bh_sI M 5 x1 3 2) 5 x1 0)) rfl (bh_here m_H_deactivate l_H_deactivate_87 (bi_callV [.inl (.int (200 + (bh_I (bh_sI M 5 x1 3 2) 5 x1 0)))] [] rfl rfl rfl hs ⟨by decide, by decide⟩ rfl rfl h))))))))))))))))))))
theorem bk_H_deactivate_90 {M : bh_M} {Z : bh_F → Prop} (x1 : Nat) (hx1 : 1 ≤ x1 ∧ x1 ≤ bh_c0 5) (a2 : Int32) (a3 : Int32) (hs : bh_stat M.2.2.2) (h : Z (.inl none, M)) : bh_wp (bh_tb T_H_deactivate) (90, [some (.inr (3, 1)), some (.inr (5, x1)), some (.inl (.int a2)), some (.inl (.int a3))], [], M, 0) Z := (bh_here m_H_deactivate l_H_deactivate_90 (bi_vret rfl h))
theorem cs_H_deactivate {M : bh_M} {Z : bh_F → Prop} (b : Nat) (hb8 : b < 8) (hb : bh_I M 5 (b + 1) 0 = nI b) (hs : bh_stat M.2.2.2) {μ0 : bh_M} {n : Nat} (h0 : rc_E M μ0) (h00 : rc_S M μ0 n) (h : (bh_I M 5 (b + 1) 3 = 3 → ∀ M', (∀ μ, rc_E M μ → rc_S M μ n → rc_E M' (sp_stop μ b) ∧ ∃ n', rc_S M' (sp_stop μ b) n') → fr_SE (bh_sI M 5 (b + 1) 3 2) M' → Z (.inl none, M')) ∧ (¬ bh_I M 5 (b + 1) 3 = 3 → Z (.inl none, M))) : F_H_deactivate [.inr (3, 1), .inr (5, b + 1)] M Z := by
  refine be_H_deactivate (b + 1) (bh_b8k hb8) hs ⟨fun q => ?_, h.2⟩
  have h := h.1 q
  clear q
  have key : ∀ (k : Nat) (M1 : bh_M) (r : Nat), r + k ≤ 20 → bh_I M1 19 1 1 = nI (r + k) → fr_SE M M1 → (∀ μ, rc_E M μ → rc_S M μ n → ∃ ν, sp_sweep b n μ 0 = sp_sweep b k ν r ∧ rc_E M1 ν ∧ rc_S M1 ν (r + k)) → bh_wp (bh_tb T_H_deactivate) (19, [some (.inr (3, 1)), some (.inr (5, b + 1)), some (.inl (.int (nI r))), some (.inl (.int (nI k)))], [], M1, 0) Z := by
    intro k
    induction k with
    | zero =>
      intro M1 r g1 g2 f1 g3
      have hs1 := f1.2.2.2.1
      have hb1 : bh_I M1 5 (b + 1) 0 = nI b := by rw [f1.1 5 (by decide) (by decide) (by decide) (by decide) (by decide)]; exact hb
      refine bx_H_deactivate_19 (b + 1) (bh_b8k hb8) r b hb1 hs1 ?_
      refine ct_V_takeBackAll b r hb8 g2 g1 hs1 ?_
      refine bk_H_deactivate_70 (M := cm_tb M1 b r) (b + 1) (bh_b8k hb8) _ _ hs1 ?_
      obtain ⟨ν0, -, v1, v2⟩ := g3 μ0 h0 h00
      have ee : (200 + bh_I (bh_sI (cm_tb M1 b r) 5 (b + 1) 3 2) 5 (b + 1) 0 : Int32) = nI (200 + b) := by
        rw [bh_I_sI, if_neg (by omega)]
        show 200 + bh_I M1 5 (b + 1) 0 = _
        rw [hb1]
        exact bn_add 200 b
      rw [ee]
      refine cs_E_add (M := bh_sI (cm_tb M1 b r) 5 (b + 1) 3 2) (nI (200 + b)) hs1 (μ0 := sp_back ν0 b r) (rc_E_tb (b := b) (n := r) (k := r) v1) (fun M2 k1 k2 => ?_)
      refine bk_H_deactivate_90 (b + 1) (bh_b8k hb8) _ _ (k2.se (M := bh_sI (cm_tb M1 b r) 5 (b + 1) 3 2) hs1).2.2.2.1 ?_
      refine h M2 (fun μ w1 w2 => ?_) (fr_SE_trans ?_ (k2.se (M := bh_sI (cm_tb M1 b r) 5 (b + 1) 3 2) hs1))
      · obtain ⟨ν, u1, u2, u3⟩ := g3 μ w1 w2
        have u1 : sp_sweep b n μ 0 = ν := u1
        have en : (bh_I μ 40 1 34).toNatClampNeg = n := by rw [w2.2.2.1]; exact bn_clamp (N := 21) (by have := w2.1; omega) rfl
        have er : (bh_I ν 40 1 34).toNatClampNeg = r := by rw [u3.2.2.1]; exact bn_clamp (N := 21) (by omega) rfl
        unfold sp_stop
        rw [en, u1, er]
        refine ⟨k1 (bh_sI (sp_back ν b r) 41 1 b 2) (rc_E_tb (b := b) (n := r) (k := r) u2), r, ?_⟩
        exact rc_S_note (M := bh_sI (cm_tb M1 b r) 5 (b + 1) 3 2) (μ := bh_sI (sp_back ν b r) 41 1 b 2) (rc_S_tb u3 hb8) k2
      · refine ⟨fun a w1 w2 w3 w4 w5 => ?_, f1.2.1, f1.2.2.1, hs1, f1.2.2.2.2⟩
        have f9 := f1.1 a w1 w2 w3 w4 w5
        funext x c
        show (if a = 5 ∧ x = b + 1 ∧ c = 3 then 2 else bh_I (cm_tb M1 b r) a x c) = (if a = 5 ∧ x = b + 1 ∧ c = 3 then 2 else bh_I M a x c)
        have e7 : bh_I (cm_tb M1 b r) a x c = bh_I M a x c := by rw [bh_I_tb, if_neg (fun q => w3 q.1), f9]
        rw [e7]
    | succ k ih =>
      intro M1 r g1 g2 f1 g3
      have hs1 := f1.2.2.2.1
      have hb1 : bh_I M1 5 (b + 1) 0 = nI b := by rw [f1.1 5 (by decide) (by decide) (by decide) (by decide) (by decide)]; exact hb
      obtain ⟨ν0, -, v1, v2⟩ := g3 μ0 h0 h00
      refine bl_H_deactivate_19 (b + 1) (bh_b8k hb8) r k b (by omega) (by omega) hb1 hs1 ⟨fun q => ?_, fun q => ?_⟩
      · refine ih M1 (r + 1) (by omega) (by rw [g2]; congr 1; omega) f1 (fun μ w1 w2 => ?_)
        obtain ⟨ν, u1, u2, u3⟩ := g3 μ w1 w2
        refine ⟨ν, ?_, u2, by rw [show r + 1 + k = r + (k + 1) by omega]; exact u3⟩
        rw [u1]
        show (if bh_I ν 66 1 r = nI b then _ else sp_sweep b k ν (r + 1)) = _
        rw [if_neg]
        rw [← (u3.2.2.2.2.2 r (by omega)).2.1]
        exact q
      · refine cs_H_dropService r (r + k) g2 (by omega) (by omega) hs1 v1 (fun M2 k1 k2 k3 => ?_)
        refine bk_H_deactivate_47 (b + 1) (bh_b8k hb8) r k (by omega) k2.2.2.2.1 ?_
        refine ih M2 r (by omega) k3 (fr_SE_trans f1 k2) (fun μ w1 w2 => ?_)
        obtain ⟨ν, u1, u2, u3⟩ := g3 μ w1 w2
        obtain ⟨y1, y2⟩ := k1 ν u2 u3
        refine ⟨sp_drop ν r (r + k), ?_, y1, y2⟩
        rw [u1]
        show (if bh_I ν 66 1 r = nI b then sp_sweep b k (sp_drop ν r (r + k)) r else _) = _
        rw [if_pos]
        rw [← (u3.2.2.2.2.2 r (by omega)).2.1]
        exact Decidable.of_not_not q
  have := key n M 0 (by have := h00.1; omega) (by rw [Nat.zero_add]; exact h00.2.1) (fr_SE_refl hs) (fun μ w1 w2 => ⟨μ, rfl, w1, by rw [Nat.zero_add]; exact w2⟩)
  rw [h00.2.1]
  exact this
