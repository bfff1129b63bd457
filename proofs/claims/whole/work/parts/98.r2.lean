/-! THE CONSTRUCTORS OF THE HALL, OF THE SERVICES AND OF THE REFERENCE -/
def rBs : Nat → bh_M → bh_M
  | 0, M => M
  | k + 1, M => bh_sR (rB (k + 1) (nI k) (bm_c (rBs k M) 5 (k + 1))) 4 1 k (k + 1)
theorem C_rBs {M : bh_M} (hw : ∀ a, 5 ≤ a → a ≤ 14 → bh_C M a = 0) : ∀ (k a : Nat), bh_C (rBs k M) a = if 5 ≤ a ∧ a ≤ 14 then k else bh_C M a
  | 0, a => by
    by_cases q : 5 ≤ a ∧ a ≤ 14
    · rw [if_pos q]
      exact hw a q.1 q.2
    · rw [if_neg q]
      rfl
  | k + 1, a => by
    show bh_C (rB (k + 1) (nI k) (bm_c (rBs k M) 5 (k + 1))) a = _
    rw [C_rB, bh_C_c, C_rBs hw k]
    by_cases q1 : 6 ≤ a ∧ a ≤ 14
    · rw [if_pos q1, if_pos (by omega)]
    · rw [if_neg q1]
      by_cases q2 : a = 5
      · rw [if_pos q2, if_pos (by omega)]
      · rw [if_neg q2, if_neg (by omega), if_neg (by omega)]
theorem R_rBs (M : bh_M) {a : Nat} (h4 : a ≠ 4) (h5 : a ≠ 5) (h7 : a ≠ 7) (b c : Nat) : ∀ k : Nat, bh_R (rBs k M) a b c = bh_R M a b c
  | 0 => rfl
  | k + 1 => by
    show bh_R (bh_sR (rB (k + 1) (nI k) (bm_c (rBs k M) 5 (k + 1))) 4 1 k (k + 1)) a b c = _
    rw [bh_R_sR, if_neg (fun q => h4 q.1), R_rB _ _ _ h5 h7]
    exact R_rBs M h4 h5 h7 b c k
theorem c_loopH {M : bh_M} {Z : bh_F → Prop} (h3 : 1 ≤ bh_C M 3) (h4 : 1 ≤ bh_C M 4) (hr : bh_R M 3 1 0 = 1) (hw : ∀ a, 5 ≤ a → a ≤ 14 → bh_C M a = 0) (hz : bz M) (h : bz (rBs 8 M) → bh_wp (bh_tb T_H_init) (41, [some (.inr (3, 1)), some (.inl (.int 8))], [], rBs 8 M, 81) Z) : bh_wp (bh_tb T_H_init) (15, [some (.inr (3, 1)), some (.inl (.int 0))], [], M, 1) Z := by
  refine bh_lp (T := bh_tb T_H_init) (Z := Z) 15 8 (fun i => ([some (.inr (3, 1)), some (.inl (.int (nI i)))], [], rBs i M, 1 + 10 * i)) (fun i => bz (rBs i M)) ?_ ?_ hz
  · intro i hi hzi k
    have a3 : 1 ≤ bh_C (rBs i M) 3 := by rw [C_rBs hw, if_neg (by decide)]; exact h3
    have a4 : 1 ≤ bh_C (rBs i M) 4 := by rw [C_rBs hw, if_neg (by decide)]; exact h4
    have r3 : bh_R (rBs i M) 3 1 0 = 1 := by rw [R_rBs M (by decide) (by decide) (by decide)]; exact hr
    refine bh_here m_H_init l_H_init_15 (bi_ild rfl (bh_here m_H_init l_H_init_16 (bi_push (bh_here m_H_init l_H_init_18 (bi_if2n (8 ≤ i) (bn_le (b := i) (by decide) (by omega)) (fun q => absurd q (by omega)) (fun _ => ?_))))))
    refine bh_here m_H_init l_H_init_21 (bi_ald rfl (bh_here m_H_init l_H_init_22 ⟨rfl, Nat.le_refl 1, a3, ?_⟩))
    show bh_wp (bh_tb T_H_init) (25, [some (.inr (3, 1)), some (.inl (.int (nI i)))], [.inr (4, bh_R (rBs i M) 3 1 0)], rBs i M, 1 + 10 * i) Z
    rw [r3]
    refine bh_here m_H_init l_H_init_25 (bi_ild rfl (bh_here m_H_init l_H_init_26 (bc_new (i + 1) hzi (bq_r a3 (bq_l (bq_nil _))) (bp_l (bp_r a4 (bp_nil _))) (by omega) (by rw [C_rBs hw, if_pos (by decide)]) ?_)))
    intro z1
    have b3 : 1 ≤ bh_C (bm_c (rBs i M) 5 (i + 1)) 3 := a3
    have b4 : 1 ≤ bh_C (bm_c (rBs i M) 5 (i + 1)) 4 := a4
    have b5 : i + 1 ≤ bh_C (bm_c (rBs i M) 5 (i + 1)) 5 := Nat.le_refl (i + 1)
    refine bh_here m_H_init l_H_init_29 (bi_dup rfl (bh_here m_H_init l_H_init_30 (bi_ild rfl (bh_here m_H_init l_H_init_31 ?_))))
    refine bc_callA [.inl (.int (nI i))] [.inr (5, i + 1), .inl (.int (nI i)), .inr (4, 1)] rfl rfl rfl (bq_r b3 (bq_l (bq_nil _))) (bp_l (bp_r b5 (bp_r b5 (bp_l (bp_r b4 (bp_nil _)))))) (Nat.le_add_left 1 i) b5 rfl (by omega) ?_
    refine ci_B_init (Nat.le_add_left 1 i) b5 ?_ z1 ?_
    · intro a ha hb
      rw [bh_C_c, if_neg (by omega), C_rBs hw, if_pos (by omega)]
    · intro z2
      have d4 : 1 ≤ bh_C (rB (i + 1) (nI i) (bm_c (rBs i M) 5 (i + 1))) 4 := by rw [C_rB, if_neg (by decide)]; exact b4
      have d5 : i + 1 ≤ bh_C (rB (i + 1) (nI i) (bm_c (rBs i M) 5 (i + 1))) 5 := by rw [C_rB, if_neg (by decide)]; exact b5
      refine bh_here m_H_init l_H_init_34 ⟨rfl, Nat.le_refl 1, d4, Nat.le_add_left 1 i, d5, bn_in hi rfl, ?_⟩
      rw [bn_clamp hi rfl]
      refine bh_here m_H_init l_H_init_35 (bi_incn [some (.inr (3, 1)), some (.inl (.int (nI (i + 1))))] rfl rfl rfl rfl (bh_here m_H_init l_H_init_38 (bi_go ?_)))
      have := k (bz_sR z2 d4)
      rw [show 1 + 10 * (i + 1) = 1 + 10 * i + 1 + 9 from by omega] at this
      exact this
  · intro hz8
    exact bh_here m_H_init l_H_init_15 (bi_ild rfl (bh_here m_H_init l_H_init_16 (bi_push (bh_here m_H_init l_H_init_18 (bi_if2n (8 ≤ 8) (bn_le (a := 8) (b := 8) (by decide) (by decide)) (fun _ => h hz8) (fun q => absurd (Nat.le_refl 8) q))))))
theorem bh_C_sR (M : bh_M) (t x j v : Nat) (a : Nat) : bh_C (bh_sR M t x j v) a = bh_C M a := rfl
theorem bh_C_sI (M : bh_M) (t x j : Nat) (v : Int32) (a : Nat) : bh_C (bh_sI M t x j v) a = bh_C M a := rfl
/-- the services -/
def rVs : Nat → bh_M → bh_M
  | 0, M => M
  | k + 1, M => bh_sR (gs 21 (k + 1) lS (bm_c (rVs k M) 21 (k + 1))) 20 1 k (k + 1)
theorem C_rVs {M : bh_M} (hw : ∀ a, 21 ≤ a → a ≤ 22 → bh_C M a = 0) : ∀ (k a : Nat), bh_C (rVs k M) a = if 21 ≤ a ∧ a ≤ 22 then k else bh_C M a
  | 0, a => by
    by_cases q : 21 ≤ a ∧ a ≤ 22
    · rw [if_pos q]
      exact hw a q.1 q.2
    · rw [if_neg q]
      rfl
  | k + 1, a => by
    show bh_C (gs 21 (k + 1) lS (bm_c (rVs k M) 21 (k + 1))) a = _
    rw [C_gs, bh_C_c, C_rVs hw k]
    by_cases q1 : a = 22
    · rw [if_pos (by rw [q1]; decide), if_pos (by omega)]
    · rw [if_neg (show ¬ a ∈ lS.map Prod.fst from fun h => q1 (List.mem_singleton.mp h))]
      by_cases q2 : a = 21
      · rw [if_pos q2, if_pos (by omega)]
      · rw [if_neg q2, if_neg (by omega), if_neg (by omega)]
theorem R_rVs (M : bh_M) {a : Nat} (h4 : a ≠ 20) (h5 : a ≠ 21) (b c : Nat) : ∀ k : Nat, bh_R (rVs k M) a b c = bh_R M a b c
  | 0 => rfl
  | k + 1 => by
    show bh_R (bh_sR (gs 21 (k + 1) lS (bm_c (rVs k M) 21 (k + 1))) 20 1 k (k + 1)) a b c = _
    rw [bh_R_sR, if_neg (fun q => h4 q.1), R_gs, if_neg (fun q => h5 q.1)]
    exact R_rVs M h4 h5 b c k
def rV (M : bh_M) : bh_M := rVs 20 (gs 19 1 lV M)
theorem ci_V_init {M : bh_M} {Z : bh_F → Prop} (h2 : 1 ≤ bh_C M 19) (hw : ∀ a, 20 ≤ a → a ≤ 22 → bh_C M a = 0) (hz : bz M) (h : bz (rV M) → Z (.inl none, rV M)) : F_V_init [.inr (19, 1)] M Z := by
  refine bi_fn rfl [some (.inr (19, 1)), none] rfl (bc_pre m_V_init l_V_init_0 l_V_init_1 rfl (Nat.le_refl 1) ?_)
  refine bc_grps m_V_init rfl (Nat.le_refl 1) lV gV 4 0 M okV hz (bq_r h2 (bq_n (bq_nil _))) h2 (fun w q => ?_) (by decide) ?_
  · rw [List.mem_singleton.mp q, hw 20 (by decide) (by decide)]
  · intro k1 k2
    have hw1 : ∀ a, 21 ≤ a → a ≤ 22 → bh_C (gs 19 1 lV M) a = 0 := by
      intro a ha hb
      rw [C_gs, if_neg (show ¬ a ∈ lV.map Prod.fst from fun q => by have q' := List.mem_singleton.mp q; omega)]
      exact hw a (by omega) hb
    have g19 : 1 ≤ bh_C (gs 19 1 lV M) 19 := by rw [C_gs, if_neg (by decide)]; exact h2
    have g20 : 1 ≤ bh_C (gs 19 1 lV M) 20 := by rw [C_gs, if_pos (by decide)]; exact Nat.le_refl _
    have gr : bh_R (gs 19 1 lV M) 19 1 0 = 1 := by rw [R_gs, if_pos ⟨rfl, rfl, by decide⟩]
    refine bh_here m_V_init l_V_init_13 (bi_push (bh_here m_V_init l_V_init_14 (bi_ist [some (.inr (19, 1)), some (.inl (.int 0))] rfl rfl rfl ?_)))
    refine bh_lp (T := bh_tb T_V_init) (Z := Z) 15 20 (fun i => ([some (.inr (19, 1)), some (.inl (.int (nI i)))], [], rVs i (gs 19 1 lV M), 1 + 2 * i)) (fun i => bz (rVs i (gs 19 1 lV M))) ?_ ?_ k1
    · intro i hi hzi k
      have a3 : 1 ≤ bh_C (rVs i (gs 19 1 lV M)) 19 := by rw [C_rVs hw1, if_neg (by decide)]; exact g19
      have a4 : 1 ≤ bh_C (rVs i (gs 19 1 lV M)) 20 := by rw [C_rVs hw1, if_neg (by decide)]; exact g20
      have r3 : bh_R (rVs i (gs 19 1 lV M)) 19 1 0 = 1 := by rw [R_rVs _ (by decide) (by decide)]; exact gr
      refine bh_here m_V_init l_V_init_15 (bi_ild rfl (bh_here m_V_init l_V_init_16 (bi_push (bh_here m_V_init l_V_init_18 (bi_if2n (20 ≤ i) (bn_le (b := i) (by decide) (by omega)) (fun q => absurd q (by omega)) (fun _ => ?_))))))
      refine bh_here m_V_init l_V_init_21 (bi_ald rfl (bh_here m_V_init l_V_init_22 ⟨rfl, Nat.le_refl 1, a3, ?_⟩))
      show bh_wp (bh_tb T_V_init) (25, [some (.inr (19, 1)), some (.inl (.int (nI i)))], [.inr (20, bh_R (rVs i (gs 19 1 lV M)) 19 1 0)], rVs i (gs 19 1 lV M), 1 + 2 * i) Z
      rw [r3]
      refine bh_here m_V_init l_V_init_25 (bi_ild rfl (bh_here m_V_init l_V_init_26 (bc_new (i + 1) hzi (bq_r a3 (bq_l (bq_nil _))) (bp_l (bp_r a4 (bp_nil _))) (by omega) (by rw [C_rVs hw1, if_pos (by decide)]) ?_)))
      intro z1
      have b3 : 1 ≤ bh_C (bm_c (rVs i (gs 19 1 lV M)) 21 (i + 1)) 19 := a3
      have b4 : 1 ≤ bh_C (bm_c (rVs i (gs 19 1 lV M)) 21 (i + 1)) 20 := a4
      have b5 : i + 1 ≤ bh_C (bm_c (rVs i (gs 19 1 lV M)) 21 (i + 1)) 21 := Nat.le_refl (i + 1)
      refine bh_here m_V_init l_V_init_29 (bi_dup rfl (bh_here m_V_init l_V_init_30 ?_))
      refine bc_callA [] [.inr (21, i + 1), .inl (.int (nI i)), .inr (20, 1)] rfl rfl rfl (bq_r b3 (bq_l (bq_nil _))) (bp_r b5 (bp_r b5 (bp_l (bp_r b4 (bp_nil _))))) (Nat.le_add_left 1 i) b5 rfl (by omega) ?_
      refine ci_S_init (Nat.le_add_left 1 i) b5 ?_ z1 ?_
      · rw [bh_C_c, if_neg (by decide), C_rVs hw1, if_pos (by decide)]
      · intro z2
        have d4 : 1 ≤ bh_C (gs 21 (i + 1) lS (bm_c (rVs i (gs 19 1 lV M)) 21 (i + 1))) 20 := by rw [C_gs, if_neg (by decide)]; exact b4
        have d5 : i + 1 ≤ bh_C (gs 21 (i + 1) lS (bm_c (rVs i (gs 19 1 lV M)) 21 (i + 1))) 21 := by rw [C_gs, if_neg (by decide)]; exact b5
        refine bh_here m_V_init l_V_init_33 ⟨rfl, Nat.le_refl 1, d4, Nat.le_add_left 1 i, d5, bn_in hi rfl, ?_⟩
        rw [bn_clamp hi rfl]
        refine bh_here m_V_init l_V_init_34 (bi_incn [some (.inr (19, 1)), some (.inl (.int (nI (i + 1))))] rfl rfl rfl rfl (bh_here m_V_init l_V_init_37 (bi_go ?_)))
        have := k (bz_sR z2 d4)
        rw [show 1 + 2 * (i + 1) = 1 + 2 * i + 1 + 1 from by omega] at this
        exact this
    · intro hz8
      exact bh_here m_V_init l_V_init_15 (bi_ild rfl (bh_here m_V_init l_V_init_16 (bi_push (bh_here m_V_init l_V_init_18 (bi_if2n (20 ≤ 20) (bn_le (a := 20) (b := 20) (by decide) (by decide)) (fun _ => bh_here m_V_init l_V_init_40 (bi_vret rfl (h hz8))) (fun q => absurd (Nat.le_refl 20) q))))))
theorem C_rV {M : bh_M} (hw : ∀ a, 20 ≤ a → a ≤ 22 → bh_C M a = 0) (a : Nat) : bh_C (rV M) a = if 21 ≤ a ∧ a ≤ 22 then 20 else if a = 20 then 1 else bh_C M a := by
  unfold rV
  rw [C_rVs, C_gs]
  · by_cases q : a = 20
    · rw [if_pos (show a ∈ lV.map Prod.fst from by rw [q]; decide), if_pos q]
    · rw [if_neg (show ¬ a ∈ lV.map Prod.fst from fun h => q (List.mem_singleton.mp h)), if_neg q]
  · intro a ha hb
    rw [C_gs, if_neg (show ¬ a ∈ lV.map Prod.fst from fun q => by have q' := List.mem_singleton.mp q; omega)]
    exact hw a (by omega) hb
/-- the hall -/
def rH0 (M : bh_M) : bh_M := rBs 8 (gs 3 1 lH M)
def rH1 (M : bh_M) : bh_M := bh_sR (gs 15 1 lR (bm_c M 15 1)) 3 1 1 1
def rH2 (M : bh_M) : bh_M := bh_sR (rV (bm_c M 19 1)) 3 1 2 1
def rH3 (M : bh_M) : bh_M := bh_sI (bh_sR (gs 23 1 lE (bm_c M 23 1)) 3 1 3 1) 3 1 4 1
def rH (M : bh_M) : bh_M := rH3 (rH2 (rH1 (rH0 M)))
theorem C_rH0 {M : bh_M} (hw : ∀ a, 5 ≤ a → a ≤ 14 → bh_C M a = 0) (a : Nat) : bh_C (rH0 M) a = if 5 ≤ a ∧ a ≤ 14 then 8 else if a = 4 then 1 else bh_C M a := by
  unfold rH0
  rw [C_rBs, C_gs]
  · by_cases q : a = 4
    · rw [if_pos (show a ∈ lH.map Prod.fst from by rw [q]; decide), if_pos q]
    · rw [if_neg (show ¬ a ∈ lH.map Prod.fst from fun h => q (List.mem_singleton.mp h)), if_neg q]
  · intro a ha hb
    rw [C_gs, if_neg (show ¬ a ∈ lH.map Prod.fst from fun q => by have q' := List.mem_singleton.mp q; omega)]
    exact hw a ha hb
theorem lR_mem (a : Nat) : a ∈ lR.map Prod.fst ↔ 16 ≤ a ∧ a ≤ 18 := by
  show a ∈ [16, 17, 18] ↔ _
  simp only [List.mem_cons, List.not_mem_nil, or_false]
  omega
theorem C_rH1 (M : bh_M) (a : Nat) : bh_C (rH1 M) a = if 15 ≤ a ∧ a ≤ 18 then 1 else bh_C M a := by
  unfold rH1
  rw [bh_C_sR, C_gs, bh_C_c]
  by_cases q1 : 16 ≤ a ∧ a ≤ 18
  · rw [if_pos ((lR_mem a).mpr q1), if_pos (by omega)]
  · rw [if_neg (fun q => q1 ((lR_mem a).mp q))]
    by_cases q2 : a = 15
    · rw [if_pos q2, if_pos (by omega)]
    · rw [if_neg q2, if_neg (by omega)]
theorem C_rH2 {M : bh_M} (hw : ∀ a, 20 ≤ a → a ≤ 22 → bh_C M a = 0) (a : Nat) : bh_C (rH2 M) a = if 21 ≤ a ∧ a ≤ 22 then 20 else if a = 20 then 1 else if a = 19 then 1 else bh_C M a := by
  unfold rH2
  rw [bh_C_sR, C_rV, bh_C_c]
  intro a ha hb
  rw [bh_C_c, if_neg (by omega)]
  exact hw a ha hb
theorem C_rH3 (M : bh_M) (a : Nat) : bh_C (rH3 M) a = if a = 24 then 1 else if a = 23 then 1 else bh_C M a := by
  unfold rH3
  rw [bh_C_sI, bh_C_sR, C_gs, bh_C_c]
  by_cases q1 : a = 24
  · rw [if_pos (show a ∈ lE.map Prod.fst from by rw [q1]; decide), if_pos q1]
  · rw [if_neg (show ¬ a ∈ lE.map Prod.fst from fun h => q1 (List.mem_singleton.mp h)), if_neg q1]
theorem C_rH {M : bh_M} (hw : ∀ a, 4 ≤ a → a ≤ 24 → bh_C M a = 0) (a : Nat) : bh_C (rH M) a = if a < 4 ∨ 24 < a then bh_C M a else bh_c0 a := by
  have k0 := C_rH0 (M := M) (fun a ha hb => hw a (by omega) (by omega))
  have k2 : ∀ b, 20 ≤ b → b ≤ 22 → bh_C (rH1 (rH0 M)) b = 0 := by
    intro b hb hc
    rw [C_rH1, if_neg (by omega), k0, if_neg (by omega), if_neg (by omega)]
    exact hw b (by omega) (by omega)
  unfold rH
  rw [C_rH3, C_rH2 k2, C_rH1, k0]
  by_cases q : a < 4 ∨ 24 < a
  · rw [if_pos q, if_neg (by omega), if_neg (by omega), if_neg (by omega), if_neg (by omega), if_neg (by omega), if_neg (by omega), if_neg (by omega), if_neg (by omega)]
  · rw [if_neg q]
    have : a = 4 ∨ a = 5 ∨ a = 6 ∨ a = 7 ∨ a = 8 ∨ a = 9 ∨ a = 10 ∨ a = 11 ∨ a = 12 ∨ a = 13 ∨ a = 14 ∨ a = 15 ∨ a = 16 ∨ a = 17 ∨ a = 18 ∨ a = 19 ∨ a = 20 ∨ a = 21 ∨ a = 22 ∨ a = 23 ∨ a = 24 := by omega
    rcases this with rfl | rfl | rfl | rfl | rfl | rfl | rfl | rfl | rfl | rfl | rfl | rfl | rfl | rfl | rfl | rfl | rfl | rfl | rfl | rfl | rfl <;> rfl
theorem ci_H3 {Y : bh_M} {Z : bh_F → Prop} (h3 : 1 ≤ bh_C Y 3) (h23 : bh_C Y 23 = 0) (h24 : bh_C Y 24 = 0) (hz : bz Y) (h : bz (rH3 Y) → Z (.inl none, rH3 Y)) : bh_wp (bh_tb T_H_init) (63, [some (.inr (3, 1)), some (.inl (.int 8))], [], Y, 127) Z := by
  refine bh_here m_H_init l_H_init_63 (bi_ald rfl (bh_here m_H_init l_H_init_64 (bc_new 1 hz (bq_r h3 (bq_l (bq_nil _))) (bp_r h3 (bp_nil _)) (Nat.le_of_ble_eq_true rfl) (by rw [h23]) ?_)))
  intro z7
  have s3 : 1 ≤ bh_C (bm_c Y 23 1) 3 := by rw [bh_C_c, if_neg (by decide)]; exact h3
  have s23 : 1 ≤ bh_C (bm_c Y 23 1) 23 := by rw [bh_C_c, if_pos rfl]; exact Nat.le_refl 1
  refine bh_here m_H_init l_H_init_67 (bi_dup rfl (bh_here m_H_init l_H_init_68 (bc_callA [] [.inr (23, 1), .inr (3, 1)] rfl rfl rfl (bq_r s3 (bq_l (bq_nil _))) (bp_r s23 (bp_r s23 (bp_r s3 (bp_nil _)))) (Nat.le_refl 1) s23 rfl (Nat.le_of_ble_eq_true rfl) (ci_E_init (Nat.le_refl 1) s23 ?_ z7 ?_))))
  · rw [bh_C_c, if_neg (by decide), h24]
  intro z8
  have t3 : 1 ≤ bh_C (gs 23 1 lE (bm_c Y 23 1)) 3 := by rw [C_gs, if_neg (by decide)]; exact s3
  have t23 : 1 ≤ bh_C (gs 23 1 lE (bm_c Y 23 1)) 23 := by rw [C_gs, if_neg (by decide)]; exact s23
  refine bh_here m_H_init l_H_init_71 ⟨rfl, Nat.le_refl 1, t3, rfl, Nat.le_refl 1, t23, ?_⟩
  refine bh_here m_H_init l_H_init_74 (bi_ald rfl (bh_here m_H_init l_H_init_75 (bi_push (bh_here m_H_init l_H_init_76 ⟨rfl, Nat.le_refl 1, t3, ?_⟩))))
  exact bh_here m_H_init l_H_init_79 (bi_vret rfl (h (bz_sI (bz_sR z8 t3) t3)))
theorem ci_H2 {Y : bh_M} {Z : bh_F → Prop} (h3 : 1 ≤ bh_C Y 3) (hw : ∀ b, 19 ≤ b → b ≤ 24 → bh_C Y b = 0) (hz : bz Y) (h : bz (rH3 (rH2 Y)) → Z (.inl none, rH3 (rH2 Y))) : bh_wp (bh_tb T_H_init) (52, [some (.inr (3, 1)), some (.inl (.int 8))], [], Y, 85) Z := by
  refine bh_here m_H_init l_H_init_52 (bi_ald rfl (bh_here m_H_init l_H_init_53 (bc_new 1 hz (bq_r h3 (bq_l (bq_nil _))) (bp_r h3 (bp_nil _)) (Nat.le_of_ble_eq_true rfl) (by rw [hw 19 (by decide) (by decide)]) ?_)))
  intro z4
  have q3 : 1 ≤ bh_C (bm_c Y 19 1) 3 := by rw [bh_C_c, if_neg (by decide)]; exact h3
  have q19 : 1 ≤ bh_C (bm_c Y 19 1) 19 := by rw [bh_C_c, if_pos rfl]; exact Nat.le_refl 1
  have hw' : ∀ a, 20 ≤ a → a ≤ 22 → bh_C (bm_c Y 19 1) a = 0 := by
    intro a ha hb
    rw [bh_C_c, if_neg (by omega)]
    exact hw a (by omega) (by omega)
  refine bh_here m_H_init l_H_init_56 (bi_dup rfl (bh_here m_H_init l_H_init_57 (bc_callA [] [.inr (19, 1), .inr (3, 1)] rfl rfl rfl (bq_r q3 (bq_l (bq_nil _))) (bp_r q19 (bp_r q19 (bp_r q3 (bp_nil _)))) (Nat.le_refl 1) q19 rfl (Nat.le_of_ble_eq_true rfl) (ci_V_init q19 hw' z4 ?_))))
  intro z5
  have kv := C_rV hw'
  have c2 : ∀ a, bh_C (rH2 Y) a = if 21 ≤ a ∧ a ≤ 22 then 20 else if a = 20 then 1 else if a = 19 then 1 else bh_C Y a := C_rH2 (fun a ha hb => hw a (by omega) (by omega))
  unfold rH2 at h c2
  generalize rV (bm_c Y 19 1) = V at h c2 z5 kv ⊢
  have r3 : 1 ≤ bh_C V 3 := by rw [kv, if_neg (by decide), if_neg (by decide)]; exact q3
  have r19 : 1 ≤ bh_C V 19 := by rw [kv, if_neg (by decide), if_neg (by decide)]; exact q19
  refine bh_here m_H_init l_H_init_60 ⟨rfl, Nat.le_refl 1, r3, rfl, Nat.le_refl 1, r19, ?_⟩
  exact ci_H3 r3 (by rw [c2, if_neg (by decide), if_neg (by decide), if_neg (by decide)]; exact hw 23 (by decide) (by decide)) (by rw [c2, if_neg (by decide), if_neg (by decide), if_neg (by decide)]; exact hw 24 (by decide) (by decide)) (bz_sR z5 r3) h
theorem ci_H1 {Y : bh_M} {Z : bh_F → Prop} (h3 : 1 ≤ bh_C Y 3) (hw : ∀ b, 15 ≤ b → b ≤ 24 → bh_C Y b = 0) (hz : bz Y) (h : bz (rH3 (rH2 (rH1 Y))) → Z (.inl none, rH3 (rH2 (rH1 Y)))) : bh_wp (bh_tb T_H_init) (41, [some (.inr (3, 1)), some (.inl (.int 8))], [], Y, 81) Z := by
  refine bh_here m_H_init l_H_init_41 (bi_ald rfl (bh_here m_H_init l_H_init_42 (bc_new 1 hz (bq_r h3 (bq_l (bq_nil _))) (bp_r h3 (bp_nil _)) (Nat.le_of_ble_eq_true rfl) (by rw [hw 15 (by decide) (by decide)]) ?_)))
  intro z1
  have n3 : 1 ≤ bh_C (bm_c Y 15 1) 3 := by rw [bh_C_c, if_neg (by decide)]; exact h3
  have n15 : 1 ≤ bh_C (bm_c Y 15 1) 15 := by rw [bh_C_c, if_pos rfl]; exact Nat.le_refl 1
  refine bh_here m_H_init l_H_init_45 (bi_dup rfl (bh_here m_H_init l_H_init_46 (bc_callA [] [.inr (15, 1), .inr (3, 1)] rfl rfl rfl (bq_r n3 (bq_l (bq_nil _))) (bp_r n15 (bp_r n15 (bp_r n3 (bp_nil _)))) (Nat.le_refl 1) n15 rfl (Nat.le_of_ble_eq_true rfl) (ci_R_init (Nat.le_refl 1) n15 ?_ z1 ?_))))
  · intro a ha hb
    rw [bh_C_c, if_neg (by omega), hw a (by omega) (by omega)]
  intro z2
  have kg : ∀ a, bh_C (gs 15 1 lR (bm_c Y 15 1)) a = if 15 ≤ a ∧ a ≤ 18 then 1 else bh_C Y a := C_rH1 Y
  unfold rH1 at h
  generalize gs 15 1 lR (bm_c Y 15 1) = V at h z2 kg ⊢
  have p3 : 1 ≤ bh_C V 3 := by rw [kg, if_neg (by decide)]; exact h3
  have p15 : 1 ≤ bh_C V 15 := by rw [kg, if_pos (by decide)]; exact Nat.le_refl 1
  refine bh_here m_H_init l_H_init_49 ⟨rfl, Nat.le_refl 1, p3, rfl, Nat.le_refl 1, p15, ?_⟩
  refine ci_H2 p3 ?_ (bz_sR z2 p3) h
  intro b hb hc
  rw [bh_C_sR, kg, if_neg (by omega)]
  exact hw b (by omega) hc
theorem ci_H_init {M : bh_M} {Z : bh_F → Prop} (h3 : 1 ≤ bh_C M 3) (hw : ∀ a, 4 ≤ a → a ≤ 24 → bh_C M a = 0) (hz : bz M) (h : bz (rH M) → Z (.inl none, rH M)) : F_H_init [.inr (3, 1)] M Z := by
  refine bi_fn rfl [some (.inr (3, 1)), none] rfl (bc_pre m_H_init l_H_init_0 l_H_init_1 rfl (Nat.le_refl 1) ?_)
  refine bc_grps m_H_init rfl (Nat.le_refl 1) lH gH 4 0 M okH hz (bq_r h3 (bq_n (bq_nil _))) h3 (fun w q => ?_) (by decide) ?_
  · rw [List.mem_singleton.mp q, hw 4 (by decide) (by decide)]
  · intro k1 k2
    have hw1 : ∀ a, 5 ≤ a → a ≤ 14 → bh_C (gs 3 1 lH M) a = 0 := by
      intro a ha hb
      rw [C_gs, if_neg (show ¬ a ∈ lH.map Prod.fst from fun q => by have q' := List.mem_singleton.mp q; omega)]
      exact hw a (by omega) (by omega)
    have g3 : 1 ≤ bh_C (gs 3 1 lH M) 3 := by rw [C_gs, if_neg (by decide)]; exact h3
    have g4 : 1 ≤ bh_C (gs 3 1 lH M) 4 := by rw [C_gs, if_pos (by decide)]; exact Nat.le_refl _
    have gr : bh_R (gs 3 1 lH M) 3 1 0 = 1 := by rw [R_gs, if_pos ⟨rfl, rfl, by decide⟩]
    refine bh_here m_H_init l_H_init_13 (bi_push (bh_here m_H_init l_H_init_14 (bi_ist [some (.inr (3, 1)), some (.inl (.int 0))] rfl rfl rfl ?_)))
    refine c_loopH g3 g4 gr hw1 k1 ?_
    intro z0
    have kb := C_rBs hw1 8
    unfold rH rH0 at h
    generalize rBs 8 (gs 3 1 lH M) = X at h z0 kb ⊢
    refine ci_H1 (by rw [kb, if_neg (by decide)]; exact g3) ?_ z0 h
    intro b hb hc
    rw [kb, if_neg (by omega), C_gs, if_neg (show ¬ b ∈ lH.map Prod.fst from fun q => by have q' := List.mem_singleton.mp q; omega)]
    exact hw b (by omega) hc
/-- the reference -/
def bm_fillJ (M : bh_M) (t x n : Nat) (v : Int64) : bh_M := (M.1, fun a b c => if a = t ∧ b = x ∧ c < n then v else M.2.1 a b c, M.2.2)
theorem bm_fillJ_0 (M : bh_M) (t x : Nat) (v : Int64) : bm_fillJ M t x 0 v = M := by
  refine Prod.ext rfl (Prod.ext ?_ rfl)
  funext a b c
  exact if_neg (fun q => Nat.not_lt_zero _ q.2.2)
theorem bm_fillJ_s (M : bh_M) (t x n : Nat) (v : Int64) : bh_sJ (bm_fillJ M t x n v) t x n v = bm_fillJ M t x (n + 1) v := by
  refine Prod.ext rfl (Prod.ext ?_ rfl)
  funext a b c
  show (if a = t ∧ b = x ∧ c = n then v else if a = t ∧ b = x ∧ c < n then v else bh_J M a b c) = if a = t ∧ b = x ∧ c < n + 1 then v else bh_J M a b c
  by_cases q1 : a = t ∧ b = x ∧ c = n
  · rw [if_pos q1, if_pos ⟨q1.1, q1.2.1, by omega⟩]
  · rw [if_neg q1]
    by_cases q2 : a = t ∧ b = x ∧ c < n
    · rw [if_pos q2, if_pos ⟨q2.1, q2.2.1, by omega⟩]
    · rw [if_neg q2, if_neg (fun q => by
        by_cases e : c = n
        · exact q1 ⟨q.1, q.2.1, e⟩
        · exact q2 ⟨q.1, q.2.1, by omega⟩)]
theorem bz_fillJ {M : bh_M} {t x n : Nat} {v : Int64} (h : bz M) (e : x ≤ bh_C M t) : bz (bm_fillJ M t x n v) := by
  intro a y c hy
  have hy' : bh_C M a < y := hy
  have k := h a y c hy'
  refine ⟨k.1, ?_, k.2.2.1, k.2.2.2⟩
  show (if a = t ∧ y = x ∧ c < n then v else bh_J M a y c) = 0
  rw [if_neg (fun q => by rw [q.1, q.2.1] at hy'; omega)]
  exact k.2.1
def rM1 (M : bh_M) : bh_M := bh_sI (gs 40 1 lM M) 40 1 39 1
def rM (M : bh_M) : bh_M := bm_fillJ (rM1 M) 57 1 24 (-1)
theorem lM_in : ∀ w ∈ lM, 41 ≤ w.1 ∧ w.1 ≤ 70 := by decide
theorem ci_M_init {M : bh_M} {Z : bh_F → Prop} (h2 : 1 ≤ bh_C M 40) (hw : ∀ a, 41 ≤ a → a ≤ 70 → bh_C M a = 0) (hz : bz M) (h : bz (rM M) → Z (.inl none, rM M)) : F_M_init [.inr (40, 1)] M Z := by
  refine bi_fn rfl [some (.inr (40, 1)), none] rfl (bc_pre m_M_init l_M_init_0 l_M_init_1 rfl (Nat.le_refl 1) ?_)
  refine bc_grps m_M_init rfl (Nat.le_refl 1) lM gM 4 0 M okM hz (bq_r h2 (bq_n (bq_nil _))) h2 (fun w q => ?_) (by decide) ?_
  · rw [hw _ (lM_in w q).1 (lM_in w q).2]
  · intro k1 k2
    have g40 : 1 ≤ bh_C (gs 40 1 lM M) 40 := by rw [C_gs, if_neg (by decide)]; exact h2
    have g57 : 1 ≤ bh_C (gs 40 1 lM M) 57 := by rw [C_gs, if_pos (by decide)]; exact Nat.le_refl _
    have gr : bh_R (gs 40 1 lM M) 40 1 17 = 1 := by rw [R_gs, if_pos ⟨rfl, rfl, by decide⟩]
    refine bh_here m_M_init l_M_init_246 (bi_ald rfl (bh_here m_M_init l_M_init_247 (bi_push (bh_here m_M_init l_M_init_248 ⟨rfl, Nat.le_refl 1, g40, ?_⟩))))
    have z1 : bz (rM1 M) := bz_sI k1 g40
    have m40 : 1 ≤ bh_C (rM1 M) 40 := g40
    have m57 : 1 ≤ bh_C (rM1 M) 57 := g57
    have mr : bh_R (rM1 M) 40 1 17 = 1 := gr
    refine bh_here m_M_init l_M_init_251 (bi_push (bh_here m_M_init l_M_init_252 (bi_ist [some (.inr (40, 1)), some (.inl (.int 0))] rfl rfl rfl ?_)))
    have key := bh_lp (T := bh_tb T_M_init) (Z := Z) 253 24 (fun i => ([some (.inr (40, 1)), some (.inl (.int (nI i)))], [], bm_fillJ (rM1 M) 57 1 i (-1), 30)) (fun _ => True) ?_ ?_ trivial
    · rw [bm_fillJ_0] at key
      exact key
    · intro i hi _ k
      refine bh_here m_M_init l_M_init_253 (bi_ild rfl (bh_here m_M_init l_M_init_254 (bi_push (bh_here m_M_init l_M_init_256 (bi_if2n (24 ≤ i) (bn_le (b := i) (by decide) (by omega)) (fun q => absurd q (by omega)) (fun _ => ?_))))))
      refine bh_here m_M_init l_M_init_259 (bi_ald rfl (bh_here m_M_init l_M_init_260 ⟨rfl, Nat.le_refl 1, m40, ?_⟩))
      show bh_wp (bh_tb T_M_init) (263, [some (.inr (40, 1)), some (.inl (.int (nI i)))], [.inr (57, bh_R (rM1 M) 40 1 17)], bm_fillJ (rM1 M) 57 1 i (-1), 30) Z
      rw [mr]
      refine bh_here m_M_init l_M_init_263 (bi_ild rfl (bh_here m_M_init l_M_init_264 (bi_push (bh_here m_M_init l_M_init_267 ⟨rfl, Nat.le_refl 1, m57, bn_in hi rfl, ?_⟩))))
      rw [bn_clamp hi rfl, bm_fillJ_s]
      exact bh_here m_M_init l_M_init_268 (bi_incn [some (.inr (40, 1)), some (.inl (.int (nI (i + 1))))] rfl rfl rfl rfl (bh_here m_M_init l_M_init_271 (bi_go (k trivial))))
    · intro _
      exact bh_here m_M_init l_M_init_253 (bi_ild rfl (bh_here m_M_init l_M_init_254 (bi_push (bh_here m_M_init l_M_init_256 (bi_if2n (24 ≤ 24) (bn_le (a := 24) (b := 24) (by decide) (by decide)) (fun _ => bh_here m_M_init l_M_init_274 (bi_vret rfl (h (bz_fillJ z1 m57)))) (fun q => absurd (Nat.le_refl 24) q))))))
