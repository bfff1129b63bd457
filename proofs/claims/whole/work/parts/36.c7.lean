def sp_add (μ : bh_M) (n : Nat) (b k : Int32) (r : UInt64) : bh_M := bh_sI (bh_sI (bm_A (bh_sD (bh_sI (bh_sI (bh_sI μ 65 1 n (bh_I μ 40 1 35)) 66 1 n b) 67 1 n k) 68 1 n r) 69 (fun x c => if x = 1 ∧ 8 * n ≤ c ∧ c < 8 * n + 8 then 0 else bh_I μ 69 x c)) 40 1 34 (bh_I μ 40 1 34 + 1)) 40 1 35 (bh_I μ 40 1 35 + 1)
def cm_add (M : bh_M) (x : Nat) (a1 a2 : Int32) (a3 : UInt64) : bh_M := bh_sI (bh_sI (bm_fill (bh_sD (bh_sI (bh_sI (bh_sI M 21 x 1 (bh_I M 19 1 2)) 21 x 2 a1) 21 x 3 a2) 21 x 4 a3) 22 x 8 0) 19 1 1 ((bh_I M 19 1 1) + 1)) 19 1 2 ((bh_I M 19 1 2) + 1)
theorem rc_S_add {M μ : bh_M} {n : Nat} {a1 a2 : Int32} {a3 : UInt64} (h : rc_S M μ n) (hn : n < 20) : rc_S (cm_add M (bh_R M 20 1 n) a1 a2 a3) (sp_add μ n a1 a2 a3) (n + 1) := by
  obtain ⟨h1, h2, h3, h4, h5, h6⟩ := h
  refine ⟨by omega, ?_, ?_, ?_, h5, fun i hi => ?_⟩
  · show bh_I M 19 1 1 + 1 = _
    rw [h2, bn_s]
  · show bh_I μ 40 1 34 + 1 = _
    rw [h3, bn_s]
  · show bh_I M 19 1 2 + 1 = bh_I μ 40 1 35 + 1
    rw [h4]
  · have eR : bh_R (cm_add M (bh_R M 20 1 n) a1 a2 a3) 20 1 i = bh_R M 20 1 i := rfl
    rw [eR]
    by_cases e : i = n
    · subst e
      refine ⟨?_, ?_, ?_, ?_, fun b hb => ?_⟩
      · simp [cm_add, sp_add, bh_I_sI, bh_I_fill, bh_I_sD, bh_I_A, h4]
      · simp [cm_add, sp_add, bh_I_sI, bh_I_fill, bh_I_sD, bh_I_A]
      · simp [cm_add, sp_add, bh_I_sI, bh_I_fill, bh_I_sD, bh_I_A]
      · simp [cm_add, sp_add, bh_D_sI, bh_D_sD, bh_D_fill, bh_D_A]
      · simp [cm_add, sp_add, bh_I_sI, bh_I_fill, bh_I_sD, bh_I_A, hb]
    · have ne : ¬ bh_R M 20 1 i = bh_R M 20 1 n := fun q => e (h5 i n (by omega) hn q)
      obtain ⟨b1, b2, b3, b4, b5⟩ := h6 i (by omega)
      refine ⟨?_, ?_, ?_, ?_, fun b hb => ?_⟩
      · simp [cm_add, sp_add, bh_I_sI, bh_I_fill, bh_I_sD, bh_I_A, ne, e, b1]
      · simp [cm_add, sp_add, bh_I_sI, bh_I_fill, bh_I_sD, bh_I_A, ne, e, b2]
      · simp [cm_add, sp_add, bh_I_sI, bh_I_fill, bh_I_sD, bh_I_A, ne, e, b3]
      · simp [cm_add, sp_add, bh_D_sI, bh_D_sD, bh_D_fill, bh_D_A, ne, e, b4]
      · have w : ¬ (8 * n ≤ 8 * i + b ∧ 8 * i + b < 8 * n + 8) := by omega
        simp only [cm_add, sp_add, bh_I_sI, bh_I_fill, bh_I_sD, bh_I_A]
        rw [if_neg (by omega), if_neg (by omega), if_neg (fun q => ne q.2.1), if_neg (by omega), if_neg (by omega), if_neg (by omega), if_neg (by omega), if_neg (by omega), if_pos trivial, if_neg (fun q => w q.2)]
        exact b5 b hb
theorem rc_E_add {M μ : bh_M} {n x : Nat} {a1 a2 : Int32} {a3 : UInt64} (h : rc_E M μ) : rc_E (cm_add M x a1 a2 a3) (sp_add μ n a1 a2 a3) := h
theorem be_H_addService {M : bh_M} {Z : bh_F → Prop} (a1 : Int32) (a2 : Int32) (a3 : UInt64) (hs : bh_stat M.2.2.2) (h : F_V_add [.inr (19, 1), .inl (.int a1), .inl (.int a2), .inl (.double a3)] M (bh_after 10 [some (.inr (3, 1)), some (.inl (.int a1)), some (.inl (.int a2)), some (.inl (.double a3)), none, none] [] 0 (fun y => bh_wp (bh_tb T_H_addService) y Z) Z)) : F_H_addService [.inr (3, 1), .inl (.int a1), .inl (.int a2), .inl (.double a3)] M Z := bi_fn rfl [some (.inr (3, 1)), some (.inl (.int a1)), some (.inl (.int a2)), some (.inl (.double a3)), none, none] rfl (bh_here m_H_addService l_H_addService_0 (bi_ald rfl (bh_here m_H_addService l_H_addService_1 (bi_gR hs ⟨by decide, by decide⟩ rfl rfl (bh_here m_H_addService l_H_addService_4 (bi_ild rfl (bh_here m_H_addService l_H_addService_5 (bi_ild rfl (bh_here m_H_addService l_H_addService_6 (bi_dld rfl (bh_here m_H_addService l_H_addService_7 (bi_callV [.inl (.int a1), .inl (.int a2), .inl (.double a3)] [] rfl rfl rfl hs ⟨by decide, by decide⟩ rfl rfl h))))))))))))
theorem bk_H_addService_10 {M : bh_M} {Z : bh_F → Prop} (a1 : Int32) (a2 : Int32) (a3 : UInt64) (w5 : Option bh_V) (a9 : Int32) (hs : bh_stat M.2.2.2) (h : F_E_add [.inr (23, 1), .inl (.int (300 + (a9 - a9 / 100 * 100)))] M (bh_after 28 [some (.inr (3, 1)), some (.inl (.int a1)), some (.inl (.int a2)), some (.inl (.double a3)), none, some (.inl (.int a9))] [] 0 (fun y => bh_wp (bh_tb T_H_addService) y Z) Z)) : bh_wp (bh_tb T_H_addService) (10, [some (.inr (3, 1)), some (.inl (.int a1)), some (.inl (.int a2)), some (.inl (.double a3)), none, w5], [.inl (.int a9)], M, 0) Z := (bh_here m_H_addService l_H_addService_10 (bi_ist [some (.inr (3, 1)), some (.inl (.int a1)), some (.inl (.int a2)), some (.inl (.double a3)), none, some (.inl (.int a9))] rfl rfl rfl (bh_here m_H_addService l_H_addService_12 (bi_ald rfl (bh_here m_H_addService l_H_addService_13 (bi_gR hs ⟨by decide, by decide⟩ rfl rfl (bh_here m_H_addService l_H_addService_16 (bi_push (bh_here m_H_addService l_H_addService_19 (bi_ild rfl (bh_here m_H_addService l_H_addService_21 (bi_push (bh_here m_H_addService l_H_addService_23 (bi_dv (a9 - a9 / 100 * 100) rfl (by decide) (bh_here m_H_addService l_H_addService_24 (bi_ii (300 + (a9 - a9 / 100 * 100)) rfl (bh_here m_H_addService l_H_addService_25 (bi_callV [.inl (.int (300 + (a9 - a9 / 100 * 100)))] [] rfl rfl rfl hs ⟨by decide, by decide⟩ rfl rfl h))))))))))))))))))
theorem bk_H_addService_28 {M : bh_M} {Z : bh_F → Prop} (a1 : Int32) (a2 : Int32) (a3 : UInt64) (a9 : Int32) (hs : bh_stat M.2.2.2) (h : Z (.inl (some (.inl (.int a9))), M)) : bh_wp (bh_tb T_H_addService) (28, [some (.inr (3, 1)), some (.inl (.int a1)), some (.inl (.int a2)), some (.inl (.double a3)), none, some (.inl (.int a9))], [], M, 0) Z := (bh_here m_H_addService l_H_addService_28 (bi_ild rfl (bh_here m_H_addService l_H_addService_30 (bi_iret rfl h))))
theorem cs_H_addService {M : bh_M} {Z : bh_F → Prop} (a1 a2 : Int32) (a3 : UInt64) {n : Nat} (hn : n < 20) (hs : bh_stat M.2.2.2) {μ0 : bh_M} (h0 : rc_E M μ0) (h00 : rc_S M μ0 n) (h : ∀ M', (∀ μ, rc_E M μ → rc_S M μ n → rc_E M' (sp_put μ n a1 a2 a3) ∧ rc_S M' (sp_put μ n a1 a2 a3) (n + 1)) → fr_SE M M' → Z (.inl (some (.inl (.int (bh_I M 19 1 2)))), M')) : F_H_addService [.inr (3, 1), .inl (.int a1), .inl (.int a2), .inl (.double a3)] M Z := by
  have e1 := h00.2.1
  have ec : (bh_I M 19 1 1).toNatClampNeg = n := by rw [e1]; exact bn_clamp (N := 20) hn rfl
  refine be_H_addService a1 a2 a3 hs ?_
  refine ct_V_add a1 a2 a3 hs ⟨by rw [e1]; exact bn_in hn rfl, ?_⟩
  rw [ec]
  have ev : bh_I (bh_sI (bh_sI (bh_sI M 21 (bh_R M 20 1 n) 1 (bh_I M 19 1 2)) 21 (bh_R M 20 1 n) 2 a1) 21 (bh_R M 20 1 n) 3 a2) 21 (bh_R M 20 1 n) 1 = bh_I M 19 1 2 := by
    simp [bh_I_sI]
  rw [ev]
  have fS : fr_SE M (cm_add M (bh_R M 20 1 n) a1 a2 a3) := ⟨fun a w1 w2 w3 w4 w5 => by
      funext x c
      show (if a = 19 ∧ x = 1 ∧ c = 2 then _ else if a = 19 ∧ x = 1 ∧ c = 1 then _ else if a = 22 ∧ x = _ ∧ c < 8 then 0 else if a = 21 ∧ x = _ ∧ c = 3 then a2 else if a = 21 ∧ x = _ ∧ c = 2 then a1 else if a = 21 ∧ x = _ ∧ c = 1 then _ else bh_I M a x c) = _
      rw [if_neg (fun q => w1 q.1), if_neg (fun q => w1 q.1), if_neg (fun q => w3 q.1), if_neg (fun q => w2 q.1), if_neg (fun q => w2 q.1), if_neg (fun q => w2 q.1)], rfl, fun a w => by
      funext x c
      show (if a = 21 ∧ x = _ ∧ c = 4 then a3 else bh_D M a x c) = _
      rw [if_neg (fun q => w q.1)], hs, fun a w => rfl⟩
  show bh_wp (bh_tb T_H_addService) (10, [some (.inr (3, 1)), some (.inl (.int a1)), some (.inl (.int a2)), some (.inl (.double a3)), none, none], [.inl (.int (bh_I M 19 1 2))], cm_add M (bh_R M 20 1 n) a1 a2 a3, 0) Z
  refine bk_H_addService_10 (M := cm_add M (bh_R M 20 1 n) a1 a2 a3) a1 a2 a3 none (bh_I M 19 1 2) hs ?_
  refine cs_E_add (M := cm_add M (bh_R M 20 1 n) a1 a2 a3) _ hs (μ0 := sp_add μ0 n a1 a2 a3) (rc_E_add h0) (fun M2 k1 k2 => ?_)
  refine bk_H_addService_28 a1 a2 a3 _ (k2.se (M := cm_add M (bh_R M 20 1 n) a1 a2 a3) hs).2.2.2.1 ?_
  refine h M2 (fun μ w1 w2 => ?_) (fr_SE_trans fS (k2.se (M := cm_add M (bh_R M 20 1 n) a1 a2 a3) hs))
  have ek : bh_I M 19 1 2 = bh_I μ 40 1 35 := w2.2.2.2.1
  rw [ek] at k1
  exact ⟨k1 (sp_add μ n a1 a2 a3) (rc_E_add w1), rc_S_note (μ := sp_add μ n a1 a2 a3) (rc_S_add w2 hn) k2⟩
