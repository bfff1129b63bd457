theorem be_M_stopping {M : bh_M} {Z : bh_F → Prop} (a1 : Nat) (hs : bh_stat M.2.2.2) (h : vp_in (bh_I M 40 1 34) 21 ∧ bh_wp (bh_tb T_M_stopping) (8, [some (.inr (40, 1)), some (.inl (.int (nI a1))), some (.inl (.int (bh_cnt (fun i => decide (bh_I M 66 1 i = (nI a1))) (bh_I M 40 1 34).toNatClampNeg))), some (.inl (.int 0)), none], [], M, 0) Z) : F_M_stopping [.inr (40, 1), .inl (.int (nI a1))] M Z := bi_fn rfl [some (.inr (40, 1)), some (.inl (.int (nI a1))), none, none, none] rfl (bh_here m_M_stopping l_M_stopping_0 (bi_ald rfl (bh_here m_M_stopping l_M_stopping_1 (bi_ild rfl (bh_here m_M_stopping l_M_stopping_2 (bi_callV [.inl (.int (nI a1))] [] rfl rfl rfl hs ⟨by decide, by decide⟩ rfl rfl (ct_M_servicesOf (nI a1) hs ⟨h.1, (bh_here m_M_stopping l_M_stopping_5 (bi_ist [some (.inr (40, 1)), some (.inl (.int (nI a1))), some (.inl (.int (bh_cnt (fun i => decide (bh_I M 66 1 i = (nI a1))) (bh_I M 40 1 34).toNatClampNeg))), none, none] rfl rfl rfl (bh_here m_M_stopping l_M_stopping_6 (bi_push (bh_here m_M_stopping l_M_stopping_7 (bi_ist [some (.inr (40, 1)), some (.inl (.int (nI a1))), some (.inl (.int (bh_cnt (fun i => decide (bh_I M 66 1 i = (nI a1))) (bh_I M 40 1 34).toNatClampNeg))), some (.inl (.int 0)), none] rfl rfl rfl h.2))))))⟩)))))))
theorem bl_M_stopping_8 {M : bh_M} {Z : bh_F → Prop} (a1 : Nat) (a2 : Int32) (i : Nat) (w4 : Option bh_V) {n : Nat} (hi : i < n) (hi2 : i < 20) (hn2 : n ≤ 20) (hn : bh_I M 40 1 34 = nI n) (hs : bh_stat M.2.2.2) (h : ((¬ (bh_I M 66 1 i) = (nI a1)) → bh_wp (bh_tb T_M_stopping) (8, [some (.inr (40, 1)), some (.inl (.int (nI a1))), some (.inl (.int a2)), some (.inl (.int (nI (i + 1)))), w4], [], M, 0) Z) ∧ (¬ (¬ (bh_I M 66 1 i) = (nI a1)) → F_M_drop [.inr (40, 1), .inl (.int (nI i))] M (bh_after 31 [some (.inr (40, 1)), some (.inl (.int (nI a1))), some (.inl (.int a2)), some (.inl (.int (nI i))), w4] [] 0 (fun y => bh_wp (bh_tb T_M_stopping) y Z) Z))) : bh_wp (bh_tb T_M_stopping) (8, [some (.inr (40, 1)), some (.inl (.int (nI a1))), some (.inl (.int a2)), some (.inl (.int (nI i))), w4], [], M, 0) Z := (bh_here m_M_stopping l_M_stopping_8 (bi_ild rfl (bh_here m_M_stopping l_M_stopping_9 (bi_ald rfl (bh_here m_M_stopping l_M_stopping_10 (bi_gI (nI n) hn hs ⟨by decide, by decide⟩ (bh_here m_M_stopping l_M_stopping_13 (bi_if2n (n ≤ i) (bn_le (bn_bd (Nat.lt_succ_of_le hn2) rfl) (bn_bd hi2 rfl)) (fun q => absurd q (Nat.not_le_of_lt hi)) (fun _ => (bh_here m_M_stopping l_M_stopping_16 (bi_ald rfl (bh_here m_M_stopping l_M_stopping_17 (bi_gR hs ⟨by decide, by decide⟩ rfl rfl (bh_here m_M_stopping l_M_stopping_20 (bi_ild rfl (bh_here m_M_stopping l_M_stopping_21 (bi_Iald i (bn_clamp hi2 rfl) (bh_I M 66 1 i) rfl hs rfl ⟨by decide, by decide⟩ (bn_in hi2 rfl) (bh_here m_M_stopping l_M_stopping_22 (bi_ild rfl (bh_here m_M_stopping l_M_stopping_23 (bi_if2 (fun q204 => (bh_here m_M_stopping l_M_stopping_34 (bi_incn [some (.inr (40, 1)), some (.inl (.int (nI a1))), some (.inl (.int a2)), some (.inl (.int (nI (i + 1)))), w4] rfl rfl rfl rfl (bh_here m_M_stopping l_M_stopping_37 (bi_go (h.1 q204)))))) (fun q205 => (bh_here m_M_stopping l_M_stopping_26 (bi_ald rfl (bh_here m_M_stopping l_M_stopping_27 (bi_ild rfl (bh_here m_M_stopping l_M_stopping_28 (bi_callV [.inl (.int (nI i))] [] rfl rfl rfl hs ⟨by decide, by decide⟩ rfl rfl (h.2 q205)))))))))))))))))))))))))))))
theorem bx_M_stopping_8 {M : bh_M} {Z : bh_F → Prop} (a1 : Nat) (a2 : Int32) (n : Nat) (w4 : Option bh_V) (hn2 : n ≤ 20) (hn : bh_I M 40 1 34 = nI n) (hs : bh_stat M.2.2.2) (h : bh_wp (bh_tb T_M_stopping) (43, [some (.inr (40, 1)), some (.inl (.int (nI a1))), some (.inl (.int a2)), some (.inl (.int (nI n))), some (.inl (.int 0))], [], M, 0) Z) : bh_wp (bh_tb T_M_stopping) (8, [some (.inr (40, 1)), some (.inl (.int (nI a1))), some (.inl (.int a2)), some (.inl (.int (nI n))), w4], [], M, 0) Z := (bh_here m_M_stopping l_M_stopping_8 (bi_ild rfl (bh_here m_M_stopping l_M_stopping_9 (bi_ald rfl (bh_here m_M_stopping l_M_stopping_10 (bi_gI (nI n) hn hs ⟨by decide, by decide⟩ (bh_here m_M_stopping l_M_stopping_13 (bi_if2n (n ≤ n) (bn_le (bn_bd (Nat.lt_succ_of_le hn2) rfl) (bn_bd (Nat.lt_succ_of_le hn2) rfl)) (fun _ => (bh_here m_M_stopping l_M_stopping_40 (bi_push (bh_here m_M_stopping l_M_stopping_41 (bi_ist [some (.inr (40, 1)), some (.inl (.int (nI a1))), some (.inl (.int a2)), some (.inl (.int (nI n))), some (.inl (.int 0))] rfl rfl rfl h))))) (fun q => absurd (Nat.le_refl _) q)))))))))
theorem bl_M_stopping_43 {M : bh_M} {Z : bh_F → Prop} (a1 : Nat) (a2 : Int32) (a3 : Int32) (i : Nat) {n : Nat} (hi : i < n) (hi2 : i < 20) (hn2 : n ≤ 20) (hn : bh_I M 40 1 34 = nI n) (hq : 8 * i + a1 < 160) (hs : bh_stat M.2.2.2) (h : bh_wp (bh_tb T_M_stopping) (43, [some (.inr (40, 1)), some (.inl (.int (nI a1))), some (.inl (.int a2)), some (.inl (.int a3)), some (.inl (.int (nI (i + 1))))], [], bh_sI M 69 1 (8 * i + a1) 0, 0) Z) : bh_wp (bh_tb T_M_stopping) (43, [some (.inr (40, 1)), some (.inl (.int (nI a1))), some (.inl (.int a2)), some (.inl (.int a3)), some (.inl (.int (nI i)))], [], M, 0) Z := (bh_here m_M_stopping l_M_stopping_43 (bi_ild rfl (bh_here m_M_stopping l_M_stopping_45 (bi_ald rfl (bh_here m_M_stopping l_M_stopping_46 (bi_gI (nI n) hn hs ⟨by decide, by decide⟩ (bh_here m_M_stopping l_M_stopping_49 (bi_if2n (n ≤ i) (bn_le (bn_bd (Nat.lt_succ_of_le hn2) rfl) (bn_bd hi2 rfl)) (fun q => absurd q (Nat.not_le_of_lt hi)) (fun _ => (bh_here m_M_stopping l_M_stopping_52 (bi_ald rfl (bh_here m_M_stopping l_M_stopping_53 (bi_gR hs ⟨by decide, by decide⟩ rfl rfl (bh_here m_M_stopping l_M_stopping_56 (bi_push (bh_here m_M_stopping l_M_stopping_58 (bi_ild rfl (bh_here m_M_stopping l_M_stopping_60 (bi_ii (nI (8 * i)) (bn_mul 8 i) (bh_here m_M_stopping l_M_stopping_61 (bi_ild rfl (bh_here m_M_stopping l_M_stopping_62 (bi_ii (nI (8 * i + a1)) (bn_add (8 * i) a1) (bh_here m_M_stopping l_M_stopping_63 (bi_push (bh_here m_M_stopping l_M_stopping_64 (bi_Iast (8 * i + a1) (bn_clamp hq rfl) hs rfl ⟨by decide, by decide⟩ (bn_in hq rfl)  (bh_here m_M_stopping l_M_stopping_65 (bi_incn [some (.inr (40, 1)), some (.inl (.int (nI a1))), some (.inl (.int a2)), some (.inl (.int a3)), some (.inl (.int (nI (i + 1))))] rfl rfl rfl rfl (bh_here m_M_stopping l_M_stopping_68 (bi_go h)))))))))))))))))))))))))))))))
theorem bx_M_stopping_43 {M : bh_M} {Z : bh_F → Prop} (a1 : Nat) (a2 : Int32) (a3 : Int32) (n : Nat) (hn2 : n ≤ 20) (hn : bh_I M 40 1 34 = nI n) (ha : a1 < 8) (hs : bh_stat M.2.2.2) (h : vp_in (bh_I M 40 1 37) 11 ∧ Z (.inl (some (.inl (.int a2))), sp_note (bh_sI M 41 1 a1 2) (nI (200 + a1)))) : bh_wp (bh_tb T_M_stopping) (43, [some (.inr (40, 1)), some (.inl (.int (nI a1))), some (.inl (.int a2)), some (.inl (.int a3)), some (.inl (.int (nI n)))], [], M, 0) Z := (bh_here m_M_stopping l_M_stopping_43 (bi_ild rfl (bh_here m_M_stopping l_M_stopping_45 (bi_ald rfl (bh_here m_M_stopping l_M_stopping_46 (bi_gI (nI n) hn hs ⟨by decide, by decide⟩ (bh_here m_M_stopping l_M_stopping_49 (bi_if2n (n ≤ n) (bn_le (bn_bd (Nat.lt_succ_of_le hn2) rfl) (bn_bd (Nat.lt_succ_of_le hn2) rfl)) (fun _ => (bh_here m_M_stopping l_M_stopping_71 (bi_ald rfl (bh_here m_M_stopping l_M_stopping_72 (bi_gR hs ⟨by decide, by decide⟩ rfl rfl (bh_here m_M_stopping l_M_stopping_75 (bi_ild rfl (bh_here m_M_stopping l_M_stopping_76 (bi_push (bh_here m_M_stopping l_M_stopping_77 (bi_Iast a1 (bn_clamp ha rfl) hs rfl ⟨by decide, by decide⟩ (bn_in ha rfl)  (bh_here m_M_stopping l_M_stopping_78 (bi_ald rfl (bh_here m_M_stopping l_M_stopping_79 (bi_push (bh_here m_M_stopping l_M_stopping_82 (bi_ild rfl (bh_here m_M_stopping l_M_stopping_83 (bi_ii (nI (200 + a1)) (bn_add 200 a1) (bh_here m_M_stopping l_M_stopping_84 (bi_callV [.inl (.int (nI (200 + a1)))] [] rfl rfl rfl hs ⟨by decide, by decide⟩ rfl rfl (cu_M_note (nI (200 + a1)) hs ⟨h.1, (bh_here m_M_stopping l_M_stopping_87 (bi_ild rfl (bh_here m_M_stopping l_M_stopping_88 (bi_iret rfl h.2))))⟩)))))))))))))))))))))) (fun q => absurd (Nat.le_refl _) q)))))))))
theorem bk_M_stopping_31 {M : bh_M} {Z : bh_F → Prop} (a1 : Nat) (a2 : Int32) (i : Nat) (w4 : Option bh_V) (hs : bh_stat M.2.2.2) (h : bh_wp (bh_tb T_M_stopping) (8, [some (.inr (40, 1)), some (.inl (.int (nI a1))), some (.inl (.int a2)), some (.inl (.int (nI i))), w4], [], M, 0) Z) : bh_wp (bh_tb T_M_stopping) (31, [some (.inr (40, 1)), some (.inl (.int (nI a1))), some (.inl (.int a2)), some (.inl (.int (nI i))), w4], [], M, 0) Z := (bh_here m_M_stopping l_M_stopping_31 (bi_go h))
theorem sp_note_ev {μ : bh_M} {e : Int32} (h : vp_in (bh_I μ 40 1 37) 11) : vp_in (bh_I (sp_note μ e) 40 1 37) 11 := by
  unfold sp_note
  split
  · rw [bh_I_sI, if_neg (by decide)]
    exact h
  · rename_i q
    rw [bh_I_sI, if_pos ⟨rfl, rfl, rfl⟩]
    obtain ⟨e1, hl⟩ := bn_of h
    rw [e1] at q ⊢
    have : ¬ (bh_I μ 40 1 37).toNatClampNeg = 10 := fun w => q (by rw [w]; rfl)
    rw [bn_s]
    exact bn_in (by omega) rfl
/-- services of bundle b go, k of them still to be looked at from place s on -/
def sp_sweep (b : Nat) : Nat → bh_M → Nat → bh_M
  | 0, μ, _ => μ
  | k + 1, μ, s => if bh_I μ 66 1 s = nI b then sp_sweep b k (sp_drop μ s (s + k)) s else sp_sweep b k μ (s + 1)
def sp_back (μ : bh_M) (b n : Nat) : bh_M := bm_A μ 69 (fun x c => if x = 1 ∧ c % 8 = b ∧ c < 8 * n then 0 else bh_I μ 69 x c)
def sp_stop (μ : bh_M) (b : Nat) : bh_M := sp_note (bh_sI (sp_back (sp_sweep b (bh_I μ 40 1 34).toNatClampNeg μ 0) b (bh_I (sp_sweep b (bh_I μ 40 1 34).toNatClampNeg μ 0) 40 1 34).toNatClampNeg) 41 1 b 2) (nI (200 + b))
theorem sp_drop_ev {μ : bh_M} {s m : Nat} (h : vp_in (bh_I μ 40 1 37) 11) : vp_in (bh_I (sp_drop μ s m) 40 1 37) 11 := sp_note_ev h
theorem sp_drop_34 (μ : bh_M) (s m : Nat) : bh_I (sp_drop μ s m) 40 1 34 = nI m := rfl
theorem sp_sweep_inv (b : Nat) : ∀ (k : Nat) (μ : bh_M) (s : Nat), s + k ≤ 20 → bh_I μ 40 1 34 = nI (s + k) → vp_in (bh_I μ 40 1 37) 11 → bh_stat μ.2.2.2 → vp_in (bh_I (sp_sweep b k μ s) 40 1 37) 11 ∧ bh_stat (sp_sweep b k μ s).2.2.2 ∧ ∃ n, n ≤ 20 ∧ bh_I (sp_sweep b k μ s) 40 1 34 = nI n
  | 0, μ, s, h1, h2, h3, h4 => ⟨h3, h4, s, h1, h2⟩
  | k + 1, μ, s, h1, h2, h3, h4 => by
    unfold sp_sweep
    split
    · exact sp_sweep_inv b k _ s (by omega) rfl (sp_drop_ev h3) (sp_drop_stat h4)
    · exact sp_sweep_inv b k μ (s + 1) (by omega) (by rw [h2]; congr 1; omega) h3 h4
theorem sp_back_s (μ : bh_M) (b i : Nat) (hb : b < 8) : bh_sI (sp_back μ b i) 69 1 (8 * i + b) 0 = sp_back μ b (i + 1) := by
  unfold sp_back
  refine bm_A_s _ _ _ _ _ _ _ (fun x c => ?_)
  by_cases h1 : x = 1 ∧ c = 8 * i + b
  · rw [if_pos (by omega), if_pos h1]
  · rw [if_neg h1]
    by_cases h2 : x = 1 ∧ c % 8 = b ∧ c < 8 * i
    · rw [if_pos (by omega), if_pos h2]
    · rw [if_neg (by omega), if_neg h2]
theorem sp_back_0 (μ : bh_M) (b : Nat) : sp_back μ b 0 = μ := by
  unfold sp_back
  have e : (fun x c => if x = 1 ∧ c % 8 = b ∧ c < 8 * 0 then (0 : Int32) else bh_I μ 69 x c) = bh_I μ 69 := by
    funext x c
    rw [if_neg (by omega)]
  rw [e, bm_A_eta]
theorem sp_stop_stat {M : bh_M} {b : Nat} (h0 : vp_in (bh_I M 40 1 34) 21) (h1 : vp_in (bh_I M 40 1 37) 11) (h : bh_stat M.2.2.2) : bh_stat (sp_stop M b).2.2.2 := by
  obtain ⟨e, hl⟩ := bn_of h0
  exact sp_note_stat (sp_sweep_inv b _ M 0 (by omega) (by rw [Nat.zero_add]; exact e) h1 h).2.1
theorem ct_M_stopping {M : bh_M} {Z : bh_F → Prop} (a1 : Nat) (hs : bh_stat M.2.2.2) (h : a1 < 8 ∧ vp_in (bh_I M 40 1 34) 21 ∧ vp_in (bh_I M 40 1 37) 11 ∧ ((bh_stat (sp_stop M a1).2.2.2) → Z (.inl (some (.inl (.int (bh_cnt (fun i => decide (bh_I M 66 1 i = nI a1)) (bh_I M 40 1 34).toNatClampNeg)))), sp_stop M a1))) : F_M_stopping [.inr (40, 1), .inl (.int (nI a1))] M Z := by
  obtain ⟨hb, h1, h2, h⟩ := h
  have h := h (sp_stop_stat h1 h2 hs)
  refine be_M_stopping a1 hs ⟨h1, ?_⟩
  obtain ⟨e, hl⟩ := bn_of h1
  unfold sp_stop at h
  generalize (bh_I M 40 1 34).toNatClampNeg = n at e hl h
  generalize bh_cnt _ n = v at h ⊢
  have last : ∀ (w : Option bh_V) (M1 : bh_M) (n1 : Nat), n1 ≤ 20 → bh_I M1 40 1 34 = nI n1 → vp_in (bh_I M1 40 1 37) 11 → bh_stat M1.2.2.2 → Z (.inl (some (.inl (.int v))), sp_note (bh_sI (sp_back M1 a1 n1) 41 1 a1 2) (nI (200 + a1))) → bh_wp (bh_tb T_M_stopping) (8, [some (.inr (40, 1)), some (.inl (.int (nI a1))), some (.inl (.int v)), some (.inl (.int (nI n1))), w], [], M1, 0) Z := by
    intro w M1 n1 g1 g2 g3 g4 g5
    refine bx_M_stopping_8 a1 v n1 w g1 g2 g4 ?_
    have key := bh_lp (T := bh_tb T_M_stopping) (Z := Z) 43 n1 (fun i => ([some (.inr (40, 1)), some (.inl (.int (nI a1))), some (.inl (.int v)), some (.inl (.int (nI n1))), some (.inl (.int (nI i)))], [], sp_back M1 a1 i, 0)) (fun _ => True) (fun i hi _ k => bl_M_stopping_43 (M := sp_back M1 a1 i) a1 v (nI n1) i (n := n1) hi (by omega) g1 g2 (by omega) g4 (by rw [sp_back_s _ _ _ hb]; exact k trivial)) (fun _ => bx_M_stopping_43 (M := sp_back M1 a1 n1) a1 v (nI n1) n1 g1 g2 hb g4 ⟨g3, g5⟩) trivial
    simp only [sp_back_0] at key
    exact key
  have key : ∀ (k : Nat) (M1 : bh_M) (s : Nat) (w : Option bh_V), s + k ≤ 20 → bh_I M1 40 1 34 = nI (s + k) → vp_in (bh_I M1 40 1 37) 11 → bh_stat M1.2.2.2 → Z (.inl (some (.inl (.int v))), sp_note (bh_sI (sp_back (sp_sweep a1 k M1 s) a1 (bh_I (sp_sweep a1 k M1 s) 40 1 34).toNatClampNeg) 41 1 a1 2) (nI (200 + a1))) → bh_wp (bh_tb T_M_stopping) (8, [some (.inr (40, 1)), some (.inl (.int (nI a1))), some (.inl (.int v)), some (.inl (.int (nI s))), w], [], M1, 0) Z := by
    intro k
    induction k with
    | zero =>
      intro M1 s w g1 g2 g3 g4 g5
      have g2' : bh_I M1 40 1 34 = nI s := g2
      refine last w M1 s g1 g2' g3 g4 ?_
      have : (bh_I M1 40 1 34).toNatClampNeg = s := by rw [g2']; exact bn_clamp (N := 21) (by omega) rfl
      unfold sp_sweep at g5
      rw [this] at g5
      exact g5
    | succ k ih =>
      intro M1 s w g1 g2 g3 g4 g5
      refine bl_M_stopping_8 a1 v s w (n := s + (k + 1)) (by omega) (by omega) g1 g2 g4 ⟨fun q => ?_, fun q => ?_⟩
      · refine ih M1 (s + 1) w (by omega) (by rw [g2]; congr 1; omega) g3 g4 ?_
        unfold sp_sweep at g5
        rw [if_neg q] at g5
        exact g5
      · refine ct_M_drop s (s + k) g2 (by omega) (by omega) g4 ⟨g3, ?_⟩
        refine bk_M_stopping_31 a1 v s w (sp_drop_stat g4) ?_
        refine ih (sp_drop M1 s (s + k)) s w (by omega) rfl (sp_drop_ev g3) (sp_drop_stat g4) ?_
        unfold sp_sweep at g5
        rw [if_pos (Decidable.of_not_not q)] at g5
        exact g5
  exact key n M 0 none (by omega) (by rw [Nat.zero_add]; exact e) h2 hs h
