/-- what the reference's methods do to its memory -/
def sp_note (μ : bh_M) (e : Int32) : bh_M := if bh_I μ 40 1 37 = 10 then bh_sI μ 40 1 38 (bh_I μ 40 1 38 + 1) else bh_sI (bh_sI μ 70 1 (bh_I μ 40 1 37).toNatClampNeg e) 40 1 37 (bh_I μ 40 1 37 + 1)
theorem sp_note_st (μ : bh_M) (e : Int32) : (sp_note μ e).2 = μ.2 := by
  unfold sp_note
  split <;> rfl
theorem cu_M_note {M : bh_M} {Z : bh_F → Prop} (a1 : Int32) (hs : bh_stat M.2.2.2) (h : vp_in (bh_I M 40 1 37) 11 ∧ Z (.inl none, sp_note M a1)) : F_M_note [.inr (40, 1), .inl (.int a1)] M Z := by
  obtain ⟨h1, h2⟩ := h
  refine ct_M_note a1 hs ⟨fun q => ⟨?_, ?_⟩, fun q => ?_⟩
  · obtain ⟨e, hl⟩ := bn_of h1
    rw [e]
    refine bn_in ?_ rfl
    rw [e] at q
    have : ¬ (bh_I M 40 1 37).toNatClampNeg = 10 := fun w => q (by rw [w]; rfl)
    omega
  · unfold sp_note at h2
    rw [if_neg q] at h2
    exact h2
  · unfold sp_note at h2
    rw [if_pos (Decidable.of_not_not q)] at h2
    exact h2
theorem sp_note_stat {M : bh_M} {e : Int32} (h : bh_stat M.2.2.2) : bh_stat (sp_note M e).2.2.2 := by
  rw [sp_note_st]
  exact h
theorem be_M_unwire {M : bh_M} {Z : bh_F → Prop} (a1 : Nat) (hs : bh_stat M.2.2.2) (h : bh_wp (bh_tb T_M_unwire) (4, [some (.inr (40, 1)), some (.inl (.int (nI a1))), some (.inl (.int (nI (3 * a1))))], [], M, 0) Z) : F_M_unwire [.inr (40, 1), .inl (.int (nI a1))] M Z := bi_fn rfl [some (.inr (40, 1)), some (.inl (.int (nI a1))), none] rfl (bh_here m_M_unwire l_M_unwire_0 (bi_push (bh_here m_M_unwire l_M_unwire_1 (bi_ild rfl (bh_here m_M_unwire l_M_unwire_2 (bi_ii (nI (3 * a1)) (bn_mul 3 a1) (bh_here m_M_unwire l_M_unwire_3 (bi_ist [some (.inr (40, 1)), some (.inl (.int (nI a1))), some (.inl (.int (nI (3 * a1))))] rfl rfl rfl h))))))))
theorem bl_M_unwire_4 {M : bh_M} {Z : bh_F → Prop} (a1 : Nat) (i : Nat) (hi : 3 * a1 + i < 3 * a1 + 3) (hi2 : 3 * a1 + i < 24) (hi3 : 3 * a1 + 3 ≤ 24) (hs : bh_stat M.2.2.2) (h : bh_wp (bh_tb T_M_unwire) (4, [some (.inr (40, 1)), some (.inl (.int (nI a1))), some (.inl (.int (nI (3 * a1 + i + 1))))], [], bh_sJ M 57 1 (3 * a1 + i) (-1), 0) Z) : bh_wp (bh_tb T_M_unwire) (4, [some (.inr (40, 1)), some (.inl (.int (nI a1))), some (.inl (.int (nI (3 * a1 + i))))], [], M, 0) Z := (bh_here m_M_unwire l_M_unwire_4 (bi_ild rfl (bh_here m_M_unwire l_M_unwire_5 (bi_push (bh_here m_M_unwire l_M_unwire_6 (bi_ild rfl (bh_here m_M_unwire l_M_unwire_7 (bi_ii (nI (3 * a1)) (bn_mul 3 a1) (bh_here m_M_unwire l_M_unwire_8 (bi_push (bh_here m_M_unwire l_M_unwire_9 (bi_ii (nI (3 * a1 + 3)) (bn_add (3 * a1) 3) (bh_here m_M_unwire l_M_unwire_10 (bi_if2n (3 * a1 + 3 ≤ 3 * a1 + i) (bn_le (bn_bd (Nat.lt_succ_of_le hi3) rfl) (bn_bd hi2 rfl)) (fun q => absurd q (Nat.not_le_of_lt hi)) (fun _ => (bh_here m_M_unwire l_M_unwire_13 (bi_ald rfl (bh_here m_M_unwire l_M_unwire_14 (bi_gR hs ⟨by decide, by decide⟩ rfl rfl (bh_here m_M_unwire l_M_unwire_17 (bi_ild rfl (bh_here m_M_unwire l_M_unwire_18 (bi_push (bh_here m_M_unwire l_M_unwire_21 (bi_Jast (3 * a1 + i) (bn_clamp hi2 rfl) hs rfl ⟨by decide, by decide⟩ (bn_in hi2 rfl)  (bh_here m_M_unwire l_M_unwire_22 (bi_incn [some (.inr (40, 1)), some (.inl (.int (nI a1))), some (.inl (.int (nI (3 * a1 + i + 1))))] rfl rfl rfl rfl (bh_here m_M_unwire l_M_unwire_25 (bi_go h)))))))))))))))))))))))))))))
theorem bx_M_unwire_4 {M : bh_M} {Z : bh_F → Prop} (a1 : Nat) (hi3 : 3 * a1 + 3 ≤ 24) (hs : bh_stat M.2.2.2) (h : Z (.inl none, M)) : bh_wp (bh_tb T_M_unwire) (4, [some (.inr (40, 1)), some (.inl (.int (nI a1))), some (.inl (.int (nI (3 * a1 + 3))))], [], M, 0) Z := (bh_here m_M_unwire l_M_unwire_4 (bi_ild rfl (bh_here m_M_unwire l_M_unwire_5 (bi_push (bh_here m_M_unwire l_M_unwire_6 (bi_ild rfl (bh_here m_M_unwire l_M_unwire_7 (bi_ii (nI (3 * a1)) (bn_mul 3 a1) (bh_here m_M_unwire l_M_unwire_8 (bi_push (bh_here m_M_unwire l_M_unwire_9 (bi_ii (nI (3 * a1 + 3)) (bn_add (3 * a1) 3) (bh_here m_M_unwire l_M_unwire_10 (bi_if2n (3 * a1 + 3 ≤ 3 * a1 + 3) (bn_le (bn_bd (Nat.lt_succ_of_le hi3) rfl) (bn_bd (Nat.lt_succ_of_le hi3) rfl)) (fun _ => (bh_here m_M_unwire l_M_unwire_28 (bi_vret rfl h))) (fun q => absurd (Nat.le_refl _) q)))))))))))))))
def sp_unwire (μ : bh_M) (b : Nat) : bh_M := bm_AJ μ 57 (fun x c => if x = 1 ∧ 3 * b ≤ c ∧ c < 3 * b + 3 then -1 else bh_J μ 57 x c)
theorem ct_M_unwire {M : bh_M} {Z : bh_F → Prop} (a1 : Nat) (hs : bh_stat M.2.2.2) (h : a1 < 8 ∧ Z (.inl none, sp_unwire M a1)) : F_M_unwire [.inr (40, 1), .inl (.int (nI a1))] M Z := by
  obtain ⟨hb, h⟩ := h
  refine be_M_unwire a1 hs ?_
  have key := bh_lp (T := bh_tb T_M_unwire) (Z := Z) 4 3 (fun i => ([some (.inr (40, 1)), some (.inl (.int (nI a1))), some (.inl (.int (nI (3 * a1 + i))))], [], bm_AJ M 57 (fun x c => if x = 1 ∧ 3 * a1 ≤ c ∧ c < 3 * a1 + i then -1 else bh_J M 57 x c), 0)) (fun _ => True) (fun i hi _ k => bl_M_unwire_4 (M := bm_AJ M 57 (fun x c => if x = 1 ∧ 3 * a1 ≤ c ∧ c < 3 * a1 + i then -1 else bh_J M 57 x c)) a1 i (by omega) (by omega) (by omega) hs ?_) (fun _ => bx_M_unwire_4 (M := bm_AJ M 57 (fun x c => if x = 1 ∧ 3 * a1 ≤ c ∧ c < 3 * a1 + 3 then -1 else bh_J M 57 x c)) a1 (by omega) hs h) trivial
  · have e : (fun x c => if x = 1 ∧ 3 * a1 ≤ c ∧ c < 3 * a1 + 0 then (-1 : Int64) else bh_J M 57 x c) = bh_J M 57 := by
      funext x c
      rw [if_neg (by omega)]
    simp only [e, bm_AJ_eta] at key
    exact key
  · rw [bm_AJ_s (g' := fun x c => if x = 1 ∧ 3 * a1 ≤ c ∧ c < 3 * a1 + (i + 1) then -1 else bh_J M 57 x c)]
    · exact k trivial
    · intro b c
      by_cases h1 : b = 1 ∧ c = 3 * a1 + i
      · rw [if_pos (by omega), if_pos h1]
      · rw [if_neg h1]
        by_cases h2 : b = 1 ∧ 3 * a1 ≤ c ∧ c < 3 * a1 + i
        · rw [if_pos (by omega), if_pos h2]
        · rw [if_neg (by omega), if_neg h2]
theorem ct_M_empty {M : bh_M} {Z : bh_F → Prop} (a1 : Nat) (hs : bh_stat M.2.2.2) (h : a1 < 8 ∧ Z (.inl none, sp_unwire (bh_sJ (bh_sI (bh_sI (bh_sI M 48 1 a1 0) 52 1 a1 0) 46 1 a1 0) 47 1 a1 ((bh_J M 47 1 a1) + 1)) a1)) : F_M_empty [.inr (40, 1), .inl (.int (nI a1))] M Z := bi_fn rfl [some (.inr (40, 1)), some (.inl (.int (nI a1)))] rfl (bh_here m_M_empty l_M_empty_0 (bi_ald rfl (bh_here m_M_empty l_M_empty_1 (bi_gR hs ⟨by decide, by decide⟩ rfl rfl (bh_here m_M_empty l_M_empty_4 (bi_ild rfl (bh_here m_M_empty l_M_empty_5 (bi_push (bh_here m_M_empty l_M_empty_6 (bi_Iast a1 (bn_clamp h.1 rfl) hs rfl ⟨by decide, by decide⟩ (bn_in h.1 rfl)  (bh_here m_M_empty l_M_empty_7 (bi_ald rfl (bh_here m_M_empty l_M_empty_8 (bi_gR hs ⟨by decide, by decide⟩ rfl rfl (bh_here m_M_empty l_M_empty_11 (bi_ild rfl (bh_here m_M_empty l_M_empty_12 (bi_push (bh_here m_M_empty l_M_empty_13 (bi_Iast a1 (bn_clamp h.1 rfl) hs rfl ⟨by decide, by decide⟩ (bn_in h.1 rfl)  (bh_here m_M_empty l_M_empty_14 (bi_ald rfl (bh_here m_M_empty l_M_empty_15 (bi_gR hs ⟨by decide, by decide⟩ rfl rfl (bh_here m_M_empty l_M_empty_18 (bi_ild rfl (bh_here m_M_empty l_M_empty_19 (bi_push (bh_here m_M_empty l_M_empty_20 (bi_Zast a1 (bn_clamp h.1 rfl) hs rfl ⟨by decide, by decide⟩ (bn_in h.1 rfl) (by decide) (bh_here m_M_empty l_M_empty_21 (bi_ald rfl (bh_here m_M_empty l_M_empty_22 (bi_gR hs ⟨by decide, by decide⟩ rfl rfl (bh_here m_M_empty l_M_empty_25 (bi_ild rfl (bh_here m_M_empty l_M_empty_26 (bi_dup2 rfl rfl (bh_here m_M_empty l_M_empty_27 (bi_Jald a1 (bn_clamp h.1 rfl) (bh_J M 47 1 a1) rfl hs rfl ⟨by decide, by decide⟩ (bn_in h.1 rfl) (bh_here m_M_empty l_M_empty_28 (bi_push (bh_here m_M_empty l_M_empty_29 (bi_ll ((bh_J M 47 1 a1) + 1) rfl (bh_here m_M_empty l_M_empty_30 (bi_Jast a1 (bn_clamp h.1 rfl) hs rfl ⟨by decide, by decide⟩ (bn_in h.1 rfl)  (bh_here m_M_empty l_M_empty_31 (bi_ald rfl (bh_here m_M_empty l_M_empty_32 (bi_ild rfl (bh_here m_M_empty l_M_empty_33 (bi_callV [.inl (.int (nI a1))] [] rfl rfl rfl hs ⟨by decide, by decide⟩ rfl rfl (ct_M_unwire a1 hs ⟨h.1, (bh_here m_M_empty l_M_empty_36 (bi_vret rfl h.2))⟩)))))))))))))))))))))))))))))))))))))))))))))))))))))
theorem be_M_put {M : bh_M} {Z : bh_F → Prop} (a1 : Int32) (a2 : Int32) (a3 : UInt64) (n : Nat) (hn2 : n < 20) (hn : bh_I M 40 1 34 = nI n) (hs : bh_stat M.2.2.2) (h : bh_wp (bh_tb T_M_put) (44, [some (.inr (40, 1)), some (.inl (.int a1)), some (.inl (.int a2)), some (.inl (.double a3)), none, some (.inl (.int (nI n))), some (.inl (.int 0))], [], bh_sD (bh_sI (bh_sI (bh_sI M 65 1 n (bh_I M 40 1 35)) 66 1 n a1) 67 1 n a2) 68 1 n a3, 0) Z) : F_M_put [.inr (40, 1), .inl (.int a1), .inl (.int a2), .inl (.double a3)] M Z := bi_fn rfl [some (.inr (40, 1)), some (.inl (.int a1)), some (.inl (.int a2)), some (.inl (.double a3)), none, none, none] rfl (bh_here m_M_put l_M_put_0 (bi_ald rfl (bh_here m_M_put l_M_put_1 (bi_gI (nI n) hn hs ⟨by decide, by decide⟩ (bh_here m_M_put l_M_put_4 (bi_ist [some (.inr (40, 1)), some (.inl (.int a1)), some (.inl (.int a2)), some (.inl (.double a3)), none, some (.inl (.int (nI n))), none] rfl rfl rfl (bh_here m_M_put l_M_put_6 (bi_ald rfl (bh_here m_M_put l_M_put_7 (bi_gR hs ⟨by decide, by decide⟩ rfl rfl (bh_here m_M_put l_M_put_10 (bi_ild rfl (bh_here m_M_put l_M_put_12 (bi_ald rfl (bh_here m_M_put l_M_put_13 (bi_gI (bh_I M 40 1 35) rfl hs ⟨by decide, by decide⟩ (bh_here m_M_put l_M_put_16 (bi_Iast n (bn_clamp hn2 rfl) hs rfl ⟨by decide, by decide⟩ (bn_in hn2 rfl)  (bh_here m_M_put l_M_put_17 (bi_ald rfl (bh_here m_M_put l_M_put_18 (bi_gR hs ⟨by decide, by decide⟩ rfl rfl (bh_here m_M_put l_M_put_21 (bi_ild rfl (bh_here m_M_put l_M_put_23 (bi_ild rfl (bh_here m_M_put l_M_put_24 (bi_Iast n (bn_clamp hn2 rfl) hs rfl ⟨by decide, by decide⟩ (bn_in hn2 rfl)  (bh_here m_M_put l_M_put_25 (bi_ald rfl (bh_here m_M_put l_M_put_26 (bi_gR hs ⟨by decide, by decide⟩ rfl rfl (bh_here m_M_put l_M_put_29 (bi_ild rfl (bh_here m_M_put l_M_put_31 (bi_ild rfl (bh_here m_M_put l_M_put_32 (bi_Iast n (bn_clamp hn2 rfl) hs rfl ⟨by decide, by decide⟩ (bn_in hn2 rfl)  (bh_here m_M_put l_M_put_33 (bi_ald rfl (bh_here m_M_put l_M_put_34 (bi_gR hs ⟨by decide, by decide⟩ rfl rfl (bh_here m_M_put l_M_put_37 (bi_ild rfl (bh_here m_M_put l_M_put_39 (bi_dld rfl (bh_here m_M_put l_M_put_40 (bi_Dast n (bn_clamp hn2 rfl) hs rfl ⟨by decide, by decide⟩ (bn_in hn2 rfl)  (bh_here m_M_put l_M_put_41 (bi_push (bh_here m_M_put l_M_put_42 (bi_ist [some (.inr (40, 1)), some (.inl (.int a1)), some (.inl (.int a2)), some (.inl (.double a3)), none, some (.inl (.int (nI n))), some (.inl (.int 0))] rfl rfl rfl h))))))))))))))))))))))))))))))))))))))))))))))))))))
theorem bl_M_put_44 {M : bh_M} {Z : bh_F → Prop} (a1 : Int32) (a2 : Int32) (a3 : UInt64) (n : Nat) (i : Nat) (hi : i < 8) (hn3 : 8 * n + i < 160) (hs : bh_stat M.2.2.2) (h : bh_wp (bh_tb T_M_put) (44, [some (.inr (40, 1)), some (.inl (.int a1)), some (.inl (.int a2)), some (.inl (.double a3)), none, some (.inl (.int (nI n))), some (.inl (.int (nI (i + 1))))], [], bh_sI M 69 1 (8 * n + i) 0, 0) Z) : bh_wp (bh_tb T_M_put) (44, [some (.inr (40, 1)), some (.inl (.int a1)), some (.inl (.int a2)), some (.inl (.double a3)), none, some (.inl (.int (nI n))), some (.inl (.int (nI i)))], [], M, 0) Z := (bh_here m_M_put l_M_put_44 (bi_ild rfl (bh_here m_M_put l_M_put_46 (bi_push (bh_here m_M_put l_M_put_48 (bi_if2n (8 ≤ i) (bn_le (by decide) (bn_bd hi rfl)) (fun q => absurd q (by have h9 := hi; omega)) (fun _ => (bh_here m_M_put l_M_put_51 (bi_ald rfl (bh_here m_M_put l_M_put_52 (bi_gR hs ⟨by decide, by decide⟩ rfl rfl (bh_here m_M_put l_M_put_55 (bi_push (bh_here m_M_put l_M_put_57 (bi_ild rfl (bh_here m_M_put l_M_put_59 (bi_ii (nI (8 * n)) (bn_mul 8 n) (bh_here m_M_put l_M_put_60 (bi_ild rfl (bh_here m_M_put l_M_put_62 (bi_ii (nI (8 * n + i)) (bn_add (8 * n) i) (bh_here m_M_put l_M_put_63 (bi_push (bh_here m_M_put l_M_put_64 (bi_Iast (8 * n + i) (bn_clamp hn3 rfl) hs rfl ⟨by decide, by decide⟩ (bn_in hn3 rfl)  (bh_here m_M_put l_M_put_65 (bi_incn [some (.inr (40, 1)), some (.inl (.int a1)), some (.inl (.int a2)), some (.inl (.double a3)), none, some (.inl (.int (nI n))), some (.inl (.int (nI (i + 1))))] rfl rfl rfl rfl (bh_here m_M_put l_M_put_68 (bi_go h)))))))))))))))))))))))))))))
theorem bx_M_put_44 {M : bh_M} {Z : bh_F → Prop} (a1 : Int32) (a2 : Int32) (a3 : UInt64) (n : Nat) (hn2 : n < 20) (hs : bh_stat M.2.2.2) (h : vp_in (bh_I M 40 1 37) 11 ∧ Z (.inl (some (.inl (.int (bh_I (sp_note (bh_sI (bh_sI M 40 1 34 ((bh_I M 40 1 34) + 1)) 40 1 35 ((bh_I M 40 1 35) + 1)) (300 + ((bh_I M 65 1 n) - (bh_I M 65 1 n) / 100 * 100))) 65 1 n)))), sp_note (bh_sI (bh_sI M 40 1 34 ((bh_I M 40 1 34) + 1)) 40 1 35 ((bh_I M 40 1 35) + 1)) (300 + ((bh_I M 65 1 n) - (bh_I M 65 1 n) / 100 * 100)))) : bh_wp (bh_tb T_M_put) (44, [some (.inr (40, 1)), some (.inl (.int a1)), some (.inl (.int a2)), some (.inl (.double a3)), none, some (.inl (.int (nI n))), some (.inl (.int (nI 8)))], [], M, 0) Z := (bh_here m_M_put l_M_put_44 (bi_ild rfl (bh_here m_M_put l_M_put_46 (bi_push (bh_here m_M_put l_M_put_48 (bi_if2n (8 ≤ 8) (bn_le (by decide) (by decide)) (fun _ => (bh_here m_M_put l_M_put_71 (bi_ald rfl (bh_here m_M_put l_M_put_72 (bi_dup rfl (bh_here m_M_put l_M_put_73 (bi_gI (bh_I M 40 1 34) rfl hs ⟨by decide, by decide⟩ (bh_here m_M_put l_M_put_76 (bi_push (bh_here m_M_put l_M_put_77 (bi_ii ((bh_I M 40 1 34) + 1) rfl (bh_here m_M_put l_M_put_78 (bi_pI hs ⟨by decide, by decide⟩ (bh_here m_M_put l_M_put_81 (bi_ald rfl (bh_here m_M_put l_M_put_82 (bi_dup rfl (bh_here m_M_put l_M_put_83 (bi_gI (bh_I M 40 1 35) rfl hs ⟨by decide, by decide⟩ (bh_here m_M_put l_M_put_86 (bi_push (bh_here m_M_put l_M_put_87 (bi_ii ((bh_I M 40 1 35) + 1) rfl (bh_here m_M_put l_M_put_88 (bi_pI hs ⟨by decide, by decide⟩ (bh_here m_M_put l_M_put_91 (bi_ald rfl (bh_here m_M_put l_M_put_92 (bi_push (bh_here m_M_put l_M_put_95 (bi_ald rfl (bh_here m_M_put l_M_put_96 (bi_gR hs ⟨by decide, by decide⟩ rfl rfl (bh_here m_M_put l_M_put_99 (bi_ild rfl (bh_here m_M_put l_M_put_101 (bi_Iald n (bn_clamp hn2 rfl) (bh_I M 65 1 n) rfl hs rfl ⟨by decide, by decide⟩ (bn_in hn2 rfl) (bh_here m_M_put l_M_put_102 (bi_push (bh_here m_M_put l_M_put_104 (bi_dv ((bh_I M 65 1 n) - (bh_I M 65 1 n) / 100 * 100) rfl (by decide) (bh_here m_M_put l_M_put_105 (bi_ii (300 + ((bh_I M 65 1 n) - (bh_I M 65 1 n) / 100 * 100)) rfl (bh_here m_M_put l_M_put_106 (bi_callV [.inl (.int (300 + ((bh_I M 65 1 n) - (bh_I M 65 1 n) / 100 * 100)))] [] rfl rfl rfl hs ⟨by decide, by decide⟩ rfl rfl (cu_M_note (300 + ((bh_I M 65 1 n) - (bh_I M 65 1 n) / 100 * 100)) hs ⟨h.1, (bh_here m_M_put l_M_put_109 (bi_ald rfl (bh_here m_M_put l_M_put_110 (bi_gR (sp_note_stat hs) ⟨by decide, by decide⟩ rfl rfl (bh_here m_M_put l_M_put_113 (bi_ild rfl (bh_here m_M_put l_M_put_115 (bi_Iald n (bn_clamp hn2 rfl) (bh_I (sp_note (bh_sI (bh_sI M 40 1 34 ((bh_I M 40 1 34) + 1)) 40 1 35 ((bh_I M 40 1 35) + 1)) (300 + ((bh_I M 65 1 n) - (bh_I M 65 1 n) / 100 * 100))) 65 1 n) rfl (sp_note_stat hs) rfl ⟨by decide, by decide⟩ (bn_in hn2 rfl) (bh_here m_M_put l_M_put_116 (bi_iret rfl h.2))))))))))⟩)))))))))))))))))))))))))))))))))))))))))))))) (fun q => absurd (by decide) q)))))))
def sp_put (μ : bh_M) (n : Nat) (b k : Int32) (r : UInt64) : bh_M := sp_note (bh_sI (bh_sI (bm_A (bh_sD (bh_sI (bh_sI (bh_sI μ 65 1 n (bh_I μ 40 1 35)) 66 1 n b) 67 1 n k) 68 1 n r) 69 (fun x c => if x = 1 ∧ 8 * n ≤ c ∧ c < 8 * n + 8 then 0 else bh_I μ 69 x c)) 40 1 34 (bh_I μ 40 1 34 + 1)) 40 1 35 (bh_I μ 40 1 35 + 1)) (300 + (bh_I μ 40 1 35 - bh_I μ 40 1 35 / 100 * 100))
theorem sp_note_65 (μ : bh_M) (e : Int32) (t x j : Nat) (h40 : t ≠ 40) (h70 : t ≠ 70) : bh_I (sp_note μ e) t x j = bh_I μ t x j := by
  unfold sp_note
  split
  · rw [bh_I_sI, if_neg (fun q => h40 q.1)]
  · rw [bh_I_sI, if_neg (fun q => h40 q.1), bh_I_sI, if_neg (fun q => h70 q.1)]
theorem sp_put_stat {M : bh_M} {n : Nat} {b k : Int32} {r : UInt64} (h : bh_stat M.2.2.2) : bh_stat (sp_put M n b k r).2.2.2 := sp_note_stat h
theorem ct_M_put {M : bh_M} {Z : bh_F → Prop} (a1 : Int32) (a2 : Int32) (a3 : UInt64) (hs : bh_stat M.2.2.2) (h : vp_in (bh_I M 40 1 34) 20 ∧ vp_in (bh_I M 40 1 37) 11 ∧ Z (.inl (some (.inl (.int (bh_I M 40 1 35)))), sp_put M (bh_I M 40 1 34).toNatClampNeg a1 a2 a3)) : F_M_put [.inr (40, 1), .inl (.int a1), .inl (.int a2), .inl (.double a3)] M Z := by
  obtain ⟨h1, h2, h⟩ := h
  obtain ⟨e, hl⟩ := bn_of h1
  generalize (bh_I M 40 1 34).toNatClampNeg = n at e hl h
  refine be_M_put a1 a2 a3 n hl e hs ?_
  generalize hM1 : bh_sD (bh_sI (bh_sI (bh_sI M 65 1 n (bh_I M 40 1 35)) 66 1 n a1) 67 1 n a2) 68 1 n a3 = M1
  have hs1 : bh_stat M1.2.2.2 := by rw [← hM1]; exact hs
  have e69 : bh_I M1 69 = bh_I M 69 := by rw [← hM1]; rfl
  have e40 : bh_I M1 40 = bh_I M 40 := by rw [← hM1]; rfl
  have e65 : bh_I M1 65 1 n = bh_I M 40 1 35 := by
    rw [← hM1]
    simp [bh_I_sD, bh_I_sI]
  have key := bh_lp (T := bh_tb T_M_put) (Z := Z) 44 8 (fun i => ([some (.inr (40, 1)), some (.inl (.int a1)), some (.inl (.int a2)), some (.inl (.double a3)), none, some (.inl (.int (nI n))), some (.inl (.int (nI i)))], [], bm_A M1 69 (fun x c => if x = 1 ∧ 8 * n ≤ c ∧ c < 8 * n + i then 0 else bh_I M 69 x c), 0)) (fun _ => True) (fun i hi _ k => bl_M_put_44 (M := bm_A M1 69 (fun x c => if x = 1 ∧ 8 * n ≤ c ∧ c < 8 * n + i then 0 else bh_I M 69 x c)) a1 a2 a3 n i hi (by omega) hs1 ?_) (fun _ => bx_M_put_44 (M := bm_A M1 69 (fun x c => if x = 1 ∧ 8 * n ≤ c ∧ c < 8 * n + 8 then 0 else bh_I M 69 x c)) a1 a2 a3 n hl hs1 ?_) trivial
  · have e0 : (fun x c => if x = 1 ∧ 8 * n ≤ c ∧ c < 8 * n + 0 then (0 : Int32) else bh_I M 69 x c) = bh_I M1 69 := by
      funext x c
      rw [if_neg (by omega), e69]
    simp only [e0, bm_A_eta] at key
    exact key
  · rw [bm_A_s (g' := fun x c => if x = 1 ∧ 8 * n ≤ c ∧ c < 8 * n + (i + 1) then 0 else bh_I M 69 x c)]
    · exact k trivial
    · intro b c
      by_cases h3 : b = 1 ∧ c = 8 * n + i
      · rw [if_pos (by omega), if_pos h3]
      · rw [if_neg h3]
        by_cases h4 : b = 1 ∧ 8 * n ≤ c ∧ c < 8 * n + i
        · rw [if_pos (by omega), if_pos h4]
        · rw [if_neg (by omega), if_neg h4]
  · have r40 : ∀ j, bh_I (bm_A M1 69 (fun x c => if x = 1 ∧ 8 * n ≤ c ∧ c < 8 * n + 8 then 0 else bh_I M 69 x c)) 40 1 j = bh_I M 40 1 j := fun j => congrFun (congrFun e40 1) j
    have r65 : bh_I (bm_A M1 69 (fun x c => if x = 1 ∧ 8 * n ≤ c ∧ c < 8 * n + 8 then 0 else bh_I M 69 x c)) 65 1 n = bh_I M 40 1 35 := e65
    rw [r40, r40, r40, r65]
    refine ⟨h2, ?_⟩
    rw [sp_note_65 _ _ _ _ _ (by decide) (by decide)]
    have r65b : bh_I (bh_sI (bh_sI (bm_A M1 69 (fun x c => if x = 1 ∧ 8 * n ≤ c ∧ c < 8 * n + 8 then 0 else bh_I M 69 x c)) 40 1 34 (bh_I M 40 1 34 + 1)) 40 1 35 (bh_I M 40 1 35 + 1)) 65 1 n = bh_I M 40 1 35 := e65
    rw [r65b]
    unfold sp_put at h
    rw [hM1] at h
    exact h
theorem sp_note_34 {μ : bh_M} {e : Int32} {j : Nat} {v : Int32} (h : bh_I μ 40 1 j = v) (h1 : j ≠ 37 := by decide) (h2 : j ≠ 38 := by decide) : bh_I (sp_note μ e) 40 1 j = v := by
  unfold sp_note
  split
  · rw [bh_I_sI, if_neg (fun q => h2 q.2.2)]
    exact h
  · rw [bh_I_sI, if_neg (fun q => h1 q.2.2), bh_I_sI, if_neg (fun q => absurd q.1 (by decide))]
    exact h
theorem be_M_drop {M : bh_M} {Z : bh_F → Prop} (a1 : Nat) (m : Nat) (ha : a1 < 20) (hm : bh_I M 40 1 34 = nI (m + 1)) (hs : bh_stat M.2.2.2) (h : vp_in (bh_I M 40 1 37) 11 ∧ bh_wp (bh_tb T_M_drop) (29, [some (.inr (40, 1)), some (.inl (.int (nI a1))), some (.inl (.int (nI a1))), none], [], bh_sI (sp_note M (400 + ((bh_I M 65 1 a1) - (bh_I M 65 1 a1) / 100 * 100))) 40 1 34 (nI m), 0) Z) : F_M_drop [.inr (40, 1), .inl (.int (nI a1))] M Z := bi_fn rfl [some (.inr (40, 1)), some (.inl (.int (nI a1))), none, none] rfl (bh_here m_M_drop l_M_drop_0 (bi_ald rfl (bh_here m_M_drop l_M_drop_1 (bi_push (bh_here m_M_drop l_M_drop_4 (bi_ald rfl (bh_here m_M_drop l_M_drop_5 (bi_gR hs ⟨by decide, by decide⟩ rfl rfl (bh_here m_M_drop l_M_drop_8 (bi_ild rfl (bh_here m_M_drop l_M_drop_9 (bi_Iald a1 (bn_clamp ha rfl) (bh_I M 65 1 a1) rfl hs rfl ⟨by decide, by decide⟩ (bn_in ha rfl) (bh_here m_M_drop l_M_drop_10 (bi_push (bh_here m_M_drop l_M_drop_12 (bi_dv ((bh_I M 65 1 a1) - (bh_I M 65 1 a1) / 100 * 100) rfl (by decide) (bh_here m_M_drop l_M_drop_13 (bi_ii (400 + ((bh_I M 65 1 a1) - (bh_I M 65 1 a1) / 100 * 100)) rfl (bh_here m_M_drop l_M_drop_14 (bi_callV [.inl (.int (400 + ((bh_I M 65 1 a1) - (bh_I M 65 1 a1) / 100 * 100)))] [] rfl rfl rfl hs ⟨by decide, by decide⟩ rfl rfl (cu_M_note (400 + ((bh_I M 65 1 a1) - (bh_I M 65 1 a1) / 100 * 100)) hs ⟨h.1, (bh_here m_M_drop l_M_drop_17 (bi_ald rfl (bh_here m_M_drop l_M_drop_18 (bi_dup rfl (bh_here m_M_drop l_M_drop_19 (bi_gI (nI (m + 1)) (sp_note_34 hm) (sp_note_stat hs) ⟨by decide, by decide⟩ (bh_here m_M_drop l_M_drop_22 (bi_push (bh_here m_M_drop l_M_drop_23 (bi_ii (nI (m)) (bn_pred _) (bh_here m_M_drop l_M_drop_24 (bi_pI (sp_note_stat hs) ⟨by decide, by decide⟩ (bh_here m_M_drop l_M_drop_27 (bi_ild rfl (bh_here m_M_drop l_M_drop_28 (bi_ist [some (.inr (40, 1)), some (.inl (.int (nI a1))), some (.inl (.int (nI a1))), none] rfl rfl rfl h.2))))))))))))))))⟩)))))))))))))))))))))
theorem bl_M_drop_29 {M : bh_M} {Z : bh_F → Prop} (a1 : Nat) (i : Nat) (w3 : Option bh_V) {m : Nat} (hi : i < m) (hi2 : i < 19) (hi3 : i + 1 < 20) (hm2 : m < 20) (hm : bh_I M 40 1 34 = nI m) (hs : bh_stat M.2.2.2) (h : bh_wp (bh_tb T_M_drop) (95, [some (.inr (40, 1)), some (.inl (.int (nI a1))), some (.inl (.int (nI i))), some (.inl (.int 0))], [], bh_sD (bh_sI (bh_sI (bh_sI M 65 1 i (bh_I M 65 1 (i + 1))) 66 1 i (bh_I M 66 1 (i + 1))) 67 1 i (bh_I M 67 1 (i + 1))) 68 1 i (bh_D M 68 1 (i + 1)), 0) Z) : bh_wp (bh_tb T_M_drop) (29, [some (.inr (40, 1)), some (.inl (.int (nI a1))), some (.inl (.int (nI i))), w3], [], M, 0) Z := (bh_here m_M_drop l_M_drop_29 (bi_ild rfl (bh_here m_M_drop l_M_drop_30 (bi_ald rfl (bh_here m_M_drop l_M_drop_31 (bi_gI (nI m) hm hs ⟨by decide, by decide⟩ (bh_here m_M_drop l_M_drop_34 (bi_if2n (m ≤ i) (bn_le (bn_bd hm2 rfl) (bn_bd hi2 rfl)) (fun q => absurd q (Nat.not_le_of_lt hi)) (fun _ => (bh_here m_M_drop l_M_drop_37 (bi_ald rfl (bh_here m_M_drop l_M_drop_38 (bi_gR hs ⟨by decide, by decide⟩ rfl rfl (bh_here m_M_drop l_M_drop_41 (bi_ild rfl (bh_here m_M_drop l_M_drop_42 (bi_ald rfl (bh_here m_M_drop l_M_drop_43 (bi_gR hs ⟨by decide, by decide⟩ rfl rfl (bh_here m_M_drop l_M_drop_46 (bi_ild rfl (bh_here m_M_drop l_M_drop_47 (bi_push (bh_here m_M_drop l_M_drop_48 (bi_ii (nI (i + 1)) (bn_add i 1) (bh_here m_M_drop l_M_drop_49 (bi_Iald (i + 1) (bn_clamp hi3 rfl) (bh_I M 65 1 (i + 1)) rfl hs rfl ⟨by decide, by decide⟩ (bn_in hi3 rfl) (bh_here m_M_drop l_M_drop_50 (bi_Iast i (bn_clamp (Nat.lt_of_lt_of_le hi2 (by decide : 19 ≤ 20)) rfl) hs rfl ⟨by decide, by decide⟩ (bn_in (Nat.lt_of_lt_of_le hi2 (by decide : 19 ≤ 20)) rfl)  (bh_here m_M_drop l_M_drop_51 (bi_ald rfl (bh_here m_M_drop l_M_drop_52 (bi_gR hs ⟨by decide, by decide⟩ rfl rfl (bh_here m_M_drop l_M_drop_55 (bi_ild rfl (bh_here m_M_drop l_M_drop_56 (bi_ald rfl (bh_here m_M_drop l_M_drop_57 (bi_gR hs ⟨by decide, by decide⟩ rfl rfl (bh_here m_M_drop l_M_drop_60 (bi_ild rfl (bh_here m_M_drop l_M_drop_61 (bi_push (bh_here m_M_drop l_M_drop_62 (bi_ii (nI (i + 1)) (bn_add i 1) (bh_here m_M_drop l_M_drop_63 (bi_Iald (i + 1) (bn_clamp hi3 rfl) (bh_I M 66 1 (i + 1)) rfl hs rfl ⟨by decide, by decide⟩ (bn_in hi3 rfl) (bh_here m_M_drop l_M_drop_64 (bi_Iast i (bn_clamp (Nat.lt_of_lt_of_le hi2 (by decide : 19 ≤ 20)) rfl) hs rfl ⟨by decide, by decide⟩ (bn_in (Nat.lt_of_lt_of_le hi2 (by decide : 19 ≤ 20)) rfl)  (bh_here m_M_drop l_M_drop_65 (bi_ald rfl (bh_here m_M_drop l_M_drop_66 (bi_gR hs ⟨by decide, by decide⟩ rfl rfl (bh_here m_M_drop l_M_drop_69 (bi_ild rfl (bh_here m_M_drop l_M_drop_70 (bi_ald rfl (bh_here m_M_drop l_M_drop_71 (bi_gR hs ⟨by decide, by decide⟩ rfl rfl (bh_here m_M_drop l_M_drop_74 (bi_ild rfl (bh_here m_M_drop l_M_drop_75 (bi_push (bh_here m_M_drop l_M_drop_76 (bi_ii (nI (i + 1)) (bn_add i 1) (bh_here m_M_drop l_M_drop_77 (bi_Iald (i + 1) (bn_clamp hi3 rfl) (bh_I M 67 1 (i + 1)) rfl hs rfl ⟨by decide, by decide⟩ (bn_in hi3 rfl) (bh_here m_M_drop l_M_drop_78 (bi_Iast i (bn_clamp (Nat.lt_of_lt_of_le hi2 (by decide : 19 ≤ 20)) rfl) hs rfl ⟨by decide, by decide⟩ (bn_in (Nat.lt_of_lt_of_le hi2 (by decide : 19 ≤ 20)) rfl)  (bh_here m_M_drop l_M_drop_79 (bi_ald rfl (bh_here m_M_drop l_M_drop_80 (bi_gR hs ⟨by decide, by decide⟩ rfl rfl (bh_here m_M_drop l_M_drop_83 (bi_ild rfl (bh_here m_M_drop l_M_drop_84 (bi_ald rfl (bh_here m_M_drop l_M_drop_85 (bi_gR hs ⟨by decide, by decide⟩ rfl rfl (bh_here m_M_drop l_M_drop_88 (bi_ild rfl (bh_here m_M_drop l_M_drop_89 (bi_push (bh_here m_M_drop l_M_drop_90 (bi_ii (nI (i + 1)) (bn_add i 1) (bh_here m_M_drop l_M_drop_91 (bi_Dald (i + 1) (bn_clamp hi3 rfl) (bh_D M 68 1 (i + 1)) rfl hs rfl ⟨by decide, by decide⟩ (bn_in hi3 rfl) (bh_here m_M_drop l_M_drop_92 (bi_Dast i (bn_clamp (Nat.lt_of_lt_of_le hi2 (by decide : 19 ≤ 20)) rfl) hs rfl ⟨by decide, by decide⟩ (bn_in (Nat.lt_of_lt_of_le hi2 (by decide : 19 ≤ 20)) rfl)  (bh_here m_M_drop l_M_drop_93 (bi_push (bh_here m_M_drop l_M_drop_94 (bi_ist [some (.inr (40, 1)), some (.inl (.int (nI a1))), some (.inl (.int (nI i))), some (.inl (.int 0))] rfl rfl rfl h)))))))))))))))))))))))))))))))))))))))))))))))))))))))))))))))))))))))))))))))))))))))))))))
theorem bx_M_drop_29 {M : bh_M} {Z : bh_F → Prop} (a1 : Nat) (m : Nat) (w3 : Option bh_V) (hm2 : m < 20) (hm : bh_I M 40 1 34 = nI m) (hs : bh_stat M.2.2.2) (h : Z (.inl none, M)) : bh_wp (bh_tb T_M_drop) (29, [some (.inr (40, 1)), some (.inl (.int (nI a1))), some (.inl (.int (nI m))), w3], [], M, 0) Z := (bh_here m_M_drop l_M_drop_29 (bi_ild rfl (bh_here m_M_drop l_M_drop_30 (bi_ald rfl (bh_here m_M_drop l_M_drop_31 (bi_gI (nI m) hm hs ⟨by decide, by decide⟩ (bh_here m_M_drop l_M_drop_34 (bi_if2n (m ≤ m) (bn_le (bn_bd hm2 rfl) (bn_bd hm2 rfl)) (fun _ => (bh_here m_M_drop l_M_drop_138 (bi_vret rfl h))) (fun q => absurd (Nat.le_refl _) q)))))))))
theorem bl_M_drop_95 {M : bh_M} {Z : bh_F → Prop} (a1 : Nat) (i : Nat) (j : Nat) (hj : j < 8) (h1 : 8 * i + j < 160) (h2 : 8 * i + 8 + j < 160) (hs : bh_stat M.2.2.2) (h : bh_wp (bh_tb T_M_drop) (95, [some (.inr (40, 1)), some (.inl (.int (nI a1))), some (.inl (.int (nI i))), some (.inl (.int (nI (j + 1))))], [], bh_sI M 69 1 (8 * i + j) (bh_I M 69 1 (8 * i + 8 + j)), 0) Z) : bh_wp (bh_tb T_M_drop) (95, [some (.inr (40, 1)), some (.inl (.int (nI a1))), some (.inl (.int (nI i))), some (.inl (.int (nI j)))], [], M, 0) Z := (bh_here m_M_drop l_M_drop_95 (bi_ild rfl (bh_here m_M_drop l_M_drop_96 (bi_push (bh_here m_M_drop l_M_drop_98 (bi_if2n (8 ≤ j) (bn_le (by decide) (bn_bd hj rfl)) (fun q => absurd q (by have h9 := hj; omega)) (fun _ => (bh_here m_M_drop l_M_drop_101 (bi_ald rfl (bh_here m_M_drop l_M_drop_102 (bi_gR hs ⟨by decide, by decide⟩ rfl rfl (bh_here m_M_drop l_M_drop_105 (bi_push (bh_here m_M_drop l_M_drop_107 (bi_ild rfl (bh_here m_M_drop l_M_drop_108 (bi_ii (nI (8 * i)) (bn_mul 8 i) (bh_here m_M_drop l_M_drop_109 (bi_ild rfl (bh_here m_M_drop l_M_drop_110 (bi_ii (nI (8 * i + j)) (bn_add (8 * i) j) (bh_here m_M_drop l_M_drop_111 (bi_ald rfl (bh_here m_M_drop l_M_drop_112 (bi_gR hs ⟨by decide, by decide⟩ rfl rfl (bh_here m_M_drop l_M_drop_115 (bi_push (bh_here m_M_drop l_M_drop_117 (bi_ild rfl (bh_here m_M_drop l_M_drop_118 (bi_ii (nI (8 * i)) (bn_mul 8 i) (bh_here m_M_drop l_M_drop_119 (bi_push (bh_here m_M_drop l_M_drop_121 (bi_ii (nI (8 * i + 8)) (bn_add (8 * i) 8) (bh_here m_M_drop l_M_drop_122 (bi_ild rfl (bh_here m_M_drop l_M_drop_123 (bi_ii (nI (8 * i + 8 + j)) (bn_add (8 * i + 8) j) (bh_here m_M_drop l_M_drop_124 (bi_Iald (8 * i + 8 + j) (bn_clamp h2 rfl) (bh_I M 69 1 (8 * i + 8 + j)) rfl hs rfl ⟨by decide, by decide⟩ (bn_in h2 rfl) (bh_here m_M_drop l_M_drop_125 (bi_Iast (8 * i + j) (bn_clamp h1 rfl) hs rfl ⟨by decide, by decide⟩ (bn_in h1 rfl)  (bh_here m_M_drop l_M_drop_126 (bi_incn [some (.inr (40, 1)), some (.inl (.int (nI a1))), some (.inl (.int (nI i))), some (.inl (.int (nI (j + 1))))] rfl rfl rfl rfl (bh_here m_M_drop l_M_drop_129 (bi_go h)))))))))))))))))))))))))))))))))))))))))))))))
theorem bx_M_drop_95 {M : bh_M} {Z : bh_F → Prop} (a1 : Nat) (i : Nat) (hs : bh_stat M.2.2.2) (h : bh_wp (bh_tb T_M_drop) (29, [some (.inr (40, 1)), some (.inl (.int (nI a1))), some (.inl (.int (nI (i + 1)))), some (.inl (.int (nI 8)))], [], M, 0) Z) : bh_wp (bh_tb T_M_drop) (95, [some (.inr (40, 1)), some (.inl (.int (nI a1))), some (.inl (.int (nI i))), some (.inl (.int (nI 8)))], [], M, 0) Z := (bh_here m_M_drop l_M_drop_95 (bi_ild rfl (bh_here m_M_drop l_M_drop_96 (bi_push (bh_here m_M_drop l_M_drop_98 (bi_if2n (8 ≤ 8) (bn_le (by decide) (by decide)) (fun _ => (bh_here m_M_drop l_M_drop_132 (bi_incn [some (.inr (40, 1)), some (.inl (.int (nI a1))), some (.inl (.int (nI (i + 1)))), some (.inl (.int (nI 8)))] rfl rfl rfl rfl (bh_here m_M_drop l_M_drop_135 (bi_go h))))) (fun q => absurd (by decide) q)))))))
/-- the arrays of services from s on moved down, as far as i (got: as far as q) -/
def sp_dm (M : bh_M) (s i q : Nat) : bh_M := (fun a b c => if (a = 65 ∨ a = 66 ∨ a = 67) ∧ b = 1 ∧ s ≤ c ∧ c < i then M.1 a 1 (c + 1) else if a = 69 ∧ b = 1 ∧ 8 * s ≤ c ∧ c < q then M.1 69 1 (c + 8) else M.1 a b c, M.2.1, fun a b c => if a = 68 ∧ b = 1 ∧ s ≤ c ∧ c < i then M.2.2.1 68 1 (c + 1) else M.2.2.1 a b c, M.2.2.2)
theorem bh_I_dm (M : bh_M) (s i q a b c : Nat) : bh_I (sp_dm M s i q) a b c = if (a = 65 ∨ a = 66 ∨ a = 67) ∧ b = 1 ∧ s ≤ c ∧ c < i then bh_I M a 1 (c + 1) else if a = 69 ∧ b = 1 ∧ 8 * s ≤ c ∧ c < q then bh_I M 69 1 (c + 8) else bh_I M a b c := rfl
theorem bh_D_dm (M : bh_M) (s i q a b c : Nat) : bh_D (sp_dm M s i q) a b c = if a = 68 ∧ b = 1 ∧ s ≤ c ∧ c < i then bh_D M 68 1 (c + 1) else bh_D M a b c := rfl
theorem sp_dm_0 (M : bh_M) (s : Nat) : sp_dm M s s (8 * s) = M := by
  unfold sp_dm
  refine Prod.ext ?_ (Prod.ext rfl (Prod.ext ?_ rfl))
  · funext a b c
    show (if _ then _ else _) = _
    rw [if_neg (by omega), if_neg (by omega)]
  · funext a b c
    show (if _ then _ else _) = _
    rw [if_neg (by omega)]
theorem sp_dm_a (M : bh_M) (s i : Nat) (h : s ≤ i) : bh_sD (bh_sI (bh_sI (bh_sI (sp_dm M s i (8 * i)) 65 1 i (bh_I (sp_dm M s i (8 * i)) 65 1 (i + 1))) 66 1 i (bh_I (sp_dm M s i (8 * i)) 66 1 (i + 1))) 67 1 i (bh_I (sp_dm M s i (8 * i)) 67 1 (i + 1))) 68 1 i (bh_D (sp_dm M s i (8 * i)) 68 1 (i + 1)) = sp_dm M s (i + 1) (8 * i) := by
  have e1 : ∀ a, (a = 65 ∨ a = 66 ∨ a = 67) → bh_I (sp_dm M s i (8 * i)) a 1 (i + 1) = bh_I M a 1 (i + 1) := by
    intro a ha
    rw [bh_I_dm, if_neg (by omega), if_neg (by omega)]
  have e2 : bh_D (sp_dm M s i (8 * i)) 68 1 (i + 1) = bh_D M 68 1 (i + 1) := by
    rw [bh_D_dm, if_neg (by omega)]
  rw [e1 65 (by omega), e1 66 (by omega), e1 67 (by omega), e2]
  refine Prod.ext ?_ (Prod.ext rfl (Prod.ext ?_ rfl))
  · funext a b c
    show (if a = 67 ∧ b = 1 ∧ c = i then bh_I M 67 1 (i + 1) else if a = 66 ∧ b = 1 ∧ c = i then bh_I M 66 1 (i + 1) else if a = 65 ∧ b = 1 ∧ c = i then bh_I M 65 1 (i + 1) else bh_I (sp_dm M s i (8 * i)) a b c) = bh_I (sp_dm M s (i + 1) (8 * i)) a b c
    rw [bh_I_dm, bh_I_dm]
    by_cases h1 : (a = 65 ∨ a = 66 ∨ a = 67) ∧ b = 1 ∧ c = i
    · obtain ⟨ha, hb, hc⟩ := h1
      subst hc
      rw [if_pos (⟨ha, hb, h, by omega⟩ : (a = 65 ∨ a = 66 ∨ a = 67) ∧ b = 1 ∧ s ≤ c ∧ c < c + 1)]
      rcases ha with ha | ha | ha
      · subst ha
        rw [if_neg (by omega), if_neg (by omega), if_pos ⟨rfl, hb, rfl⟩]
      · subst ha
        rw [if_neg (by omega), if_pos ⟨rfl, hb, rfl⟩]
      · subst ha
        rw [if_pos ⟨rfl, hb, rfl⟩]
    · rw [if_neg (by omega), if_neg (by omega), if_neg (by omega)]
      by_cases h2 : (a = 65 ∨ a = 66 ∨ a = 67) ∧ b = 1 ∧ s ≤ c ∧ c < i
      · rw [if_pos h2, if_pos (by omega)]
      · rw [if_neg h2, if_neg (show ¬ ((a = 65 ∨ a = 66 ∨ a = 67) ∧ b = 1 ∧ s ≤ c ∧ c < i + 1) by omega)]
  · funext a b c
    show (if a = 68 ∧ b = 1 ∧ c = i then bh_D M 68 1 (i + 1) else bh_D (sp_dm M s i (8 * i)) a b c) = bh_D (sp_dm M s (i + 1) (8 * i)) a b c
    rw [bh_D_dm, bh_D_dm]
    by_cases h1 : a = 68 ∧ b = 1 ∧ c = i
    · obtain ⟨ha, hb, hc⟩ := h1
      subst hc
      rw [if_pos ⟨ha, hb, rfl⟩, if_pos ⟨ha, hb, h, by omega⟩]
    · rw [if_neg h1]
      by_cases h2 : a = 68 ∧ b = 1 ∧ s ≤ c ∧ c < i
      · rw [if_pos h2, if_pos (by omega)]
      · rw [if_neg h2, if_neg (show ¬ (a = 68 ∧ b = 1 ∧ s ≤ c ∧ c < i + 1) by omega)]
theorem sp_dm_b (M : bh_M) (s i j : Nat) (h : s ≤ i) : bh_sI (sp_dm M s (i + 1) (8 * i + j)) 69 1 (8 * i + j) (bh_I (sp_dm M s (i + 1) (8 * i + j)) 69 1 (8 * i + 8 + j)) = sp_dm M s (i + 1) (8 * i + (j + 1)) := by
  have e1 : bh_I (sp_dm M s (i + 1) (8 * i + j)) 69 1 (8 * i + 8 + j) = bh_I M 69 1 (8 * i + j + 8) := by
    rw [bh_I_dm, if_neg (by omega), if_neg (by omega)]
    congr 1
    omega
  rw [e1]
  refine Prod.ext ?_ rfl
  funext a b c
  show (if a = 69 ∧ b = 1 ∧ c = 8 * i + j then bh_I M 69 1 (8 * i + j + 8) else bh_I (sp_dm M s (i + 1) (8 * i + j)) a b c) = bh_I (sp_dm M s (i + 1) (8 * i + (j + 1))) a b c
  rw [bh_I_dm, bh_I_dm]
  by_cases h1 : a = 69 ∧ b = 1 ∧ c = 8 * i + j
  · obtain ⟨ha, hb, hc⟩ := h1
    subst hc
    rw [if_pos ⟨ha, hb, rfl⟩, if_neg (by omega), if_pos ⟨ha, hb, by omega, by omega⟩]
  · rw [if_neg h1]
    by_cases h2 : (a = 65 ∨ a = 66 ∨ a = 67) ∧ b = 1 ∧ s ≤ c ∧ c < i + 1
    · rw [if_pos h2, if_pos h2]
    · rw [if_neg h2, if_neg h2]
      by_cases h3 : a = 69 ∧ b = 1 ∧ 8 * s ≤ c ∧ c < 8 * i + j
      · rw [if_pos h3, if_pos (by omega)]
      · rw [if_neg h3, if_neg (show ¬ (a = 69 ∧ b = 1 ∧ 8 * s ≤ c ∧ c < 8 * i + (j + 1)) by omega)]
/-- service s goes; m are left -/
def sp_drop (μ : bh_M) (s m : Nat) : bh_M := sp_dm (bh_sI (sp_note μ (400 + (bh_I μ 65 1 s - bh_I μ 65 1 s / 100 * 100))) 40 1 34 (nI m)) s m (8 * m)
theorem sp_drop_stat {M : bh_M} {s m : Nat} (h : bh_stat M.2.2.2) : bh_stat (sp_drop M s m).2.2.2 := sp_note_stat h
theorem ct_M_drop {M : bh_M} {Z : bh_F → Prop} (a1 m : Nat) (hm : bh_I M 40 1 34 = nI (m + 1)) (hm2 : m < 20) (ha : a1 ≤ m) (hs : bh_stat M.2.2.2) (h : vp_in (bh_I M 40 1 37) 11 ∧ Z (.inl none, sp_drop M a1 m)) : F_M_drop [.inr (40, 1), .inl (.int (nI a1))] M Z := by
  obtain ⟨h1, h⟩ := h
  refine be_M_drop a1 m (by omega) hm hs ⟨h1, ?_⟩
  unfold sp_drop at h
  generalize hM1 : bh_sI (sp_note M (400 + ((bh_I M 65 1 a1) - (bh_I M 65 1 a1) / 100 * 100))) 40 1 34 (nI m) = M1 at h
  have hs1 : bh_stat M1.2.2.2 := by rw [← hM1]; exact sp_note_stat hs
  have hm1 : bh_I M1 40 1 34 = nI m := by rw [← hM1]; rfl
  have key : ∀ k i (w : Option bh_V), a1 ≤ i → i + k = m → bh_wp (bh_tb T_M_drop) (29, [some (.inr (40, 1)), some (.inl (.int (nI a1))), some (.inl (.int (nI i))), w], [], sp_dm M1 a1 i (8 * i), 0) Z := by
    intro k
    induction k with
    | zero =>
      intro i w hi e
      have : i = m := by omega
      subst this
      exact bx_M_drop_29 (M := sp_dm M1 a1 i (8 * i)) a1 i w hm2 hm1 hs1 h
    | succ k ih =>
      intro i w hi e
      refine bl_M_drop_29 (M := sp_dm M1 a1 i (8 * i)) a1 i w (m := m) (by omega) (by omega) (by omega) hm2 hm1 hs1 ?_
      rw [sp_dm_a M1 a1 i hi]
      refine bh_lp (T := bh_tb T_M_drop) (Z := Z) 95 8 (fun j => ([some (.inr (40, 1)), some (.inl (.int (nI a1))), some (.inl (.int (nI i))), some (.inl (.int (nI j)))], [], sp_dm M1 a1 (i + 1) (8 * i + j), 0)) (fun _ => True) (fun j hj _ k => bl_M_drop_95 (M := sp_dm M1 a1 (i + 1) (8 * i + j)) a1 i j hj (by omega) (by omega) hs1 ?_) (fun _ => bx_M_drop_95 (M := sp_dm M1 a1 (i + 1) (8 * i + 8)) a1 i hs1 ?_) trivial
      · rw [sp_dm_b M1 a1 i j hi]
        exact k trivial
      · exact ih (i + 1) _ (by omega) (by omega)
  have := key (m - a1) a1 none (Nat.le_refl _) (by omega)
  rw [sp_dm_0] at this
  exact this
