/-! THE REFERENCE: install, uninstall, update, export, need -/
theorem cr_install {M : bh_M} {Z : bh_F → Prop} {A : sa} (h : RM M A) (hw : WA A) (hck : a_ck A < 999) (a nm lv ac : Int32) (hz : zr Z M (o_install A a nm lv ac)) : F_M_install [.inr (40, 1), .inl (.int a), .inl (.int nm), .inl (.int lv), .inl (.int ac)] M Z := by
  have hs := h.hs
  have h0 := h.th 0
  have bad1 : ¬ (¬ a < 0 ∧ a ≤ 7) → Z (.inl (some (.inl (.int 0))), bh_sI (bh_sI M 40 1 0 0) 40 1 0 1) := by
    intro q
    have e : o_install A a nm lv ac = (1, 0, A) := by
      unfold o_install
      rw [if_neg q]
      unfold o_c
      split <;> rfl
    rw [e] at hz
    exact zr_raise 1 hz h0 (fr_P_0 M)
  have bad2 : ¬ ((¬ nm < 0 ∧ nm ≤ 5) ∧ (¬ lv < 1 ∧ lv ≤ 5) ∧ (¬ ac < 0 ∧ ac ≤ 4)) → Z (.inl (some (.inl (.int 0))), bh_sI (bh_sI M 40 1 0 0) 40 1 0 1) := by
    intro q
    rw [show o_install A a nm lv ac = (1, 0, A) from o_c_out q] at hz
    exact zr_raise 1 hz h0 (fr_P_0 M)
  refine be_M_install a nm lv ac hs ⟨fun q => bad1 (fun c => c.1 q), fun q0 => ⟨fun q1 => bad1 (fun c => i_le.mpr c.2 q1), fun q1 => ⟨fun q => bad2 (fun c => c.1.1 q), fun r0 => ⟨fun r1 => bad2 (fun c => i_le.mpr c.1.2 r1), fun r1 => ⟨fun q => bad2 (fun c => c.2.1.1 q), fun s0 => ⟨fun s1 => bad2 (fun c => i_le.mpr c.2.1.2 s1), fun s1 => ⟨fun q => bad2 (fun c => c.2.2.1 q), fun t0 => ⟨fun t1 => bad2 (fun c => i_le.mpr c.2.2.2 t1), fun t1 => ?_⟩⟩⟩⟩⟩⟩⟩⟩
  have q1 := i_le.mp q1
  have r1 := i_le.mp r1
  have s1 := i_le.mp s1
  have t1 := i_le.mp t1
  have e1 : o_install A a nm lv ac = _ := o_c_in ⟨⟨r0, r1⟩, ⟨s0, s1⟩, t0, t1⟩
  rw [e1, if_pos ⟨q0, q1⟩] at hz
  clear e1 bad1 bad2
  obtain ⟨b, hb, rfl⟩ := i_nat (N := 7) q0 q1 (by decide)
  have hb : b < 8 := by omega
  obtain ⟨j, hj, rfl⟩ := i_nat (N := 4) t0 t1 (by decide)
  have s9 : ¬ lv < 0 := fun q => s0 (Int32.lt_trans q (by decide))
  obtain ⟨i, hi, rfl⟩ := i_nat (N := 5) s9 s1 (by decide)
  rw [bn_clamp hb rfl, bn_clamp (N := 6) (by omega) rfl, bn_clamp (N := 5) (by omega) rfl] at hz
  refine bk_M_install_46 b nm (nI i) (nI j) hb h0.hs ?_
  rw [show bh_I (bh_sI M 40 1 0 0) 41 1 b = 0 ↔ a_st A b = 0 from h0.stq hb 0 (by decide)]
  refine ⟨fun q3 => ?_, fun q3 => ?_⟩
  · rw [if_neg (fun c => c q3)] at hz
    generalize hM1 : bh_sI M 40 1 0 0 = M1 at h0
    have f1 : fr_P M M1 := by rw [← hM1]; exact fr_P_0 M
    have e0 : bh_I M1 40 1 0 = 0 := by rw [← hM1]; rfl
    have hR : RM (sp_unwire (bh_sJ (bh_sI (bh_sI (bh_sI (bh_sI (bh_sI (bh_sI (bh_sI (bh_sI M1 41 1 b 1) 42 1 b nm) 43 1 b (nI i)) 44 1 b (nI j)) 45 1 b 0) 48 1 b 0) 52 1 b 0) 46 1 b 0) 47 1 b ((bh_J M1 47 1 b) + 1)) b) (a_nl A b 1 nm (d_lf (a_d A) b + 1) i j false) := by
      refine h0.nl hb hck (hw.2.1 b hb).2.1 ?_ ?_ ?_ ?_ rfl ?_ (by decide) ?_ ?_ ?_ ?_ (Or.inr ⟨rfl, by decide⟩)
      · intro a w1 w2 w3 w4 w5 w6 w8 w9
        funext x c
        simp [sp_unwire, bh_I_AJ, bh_I_sJ, bh_I_sI, w1, w2, w3, w4, w5, w6, w8, w9]
      · intro a c w1 w2 hc
        simp [sp_unwire, bh_I_AJ, bh_I_sJ, bh_I_sI, hc]
      · intro c
        simp [sp_unwire, bh_J_AJ, bh_J_sJ, bh_J_sI]
      · intro c
        simp [sp_unwire, bh_J_AJ, bh_J_sJ, bh_J_sI]
      · simp [sp_unwire, bh_I_AJ, bh_I_sJ, bh_I_sI]
        rfl
      · intro _
        simp [sp_unwire, bh_I_AJ, bh_I_sJ, bh_I_sI]
      · simp [sp_unwire, bh_I_AJ, bh_I_sJ, bh_I_sI]
      · simp [sp_unwire, bh_I_AJ, bh_I_sJ, bh_I_sI]
      · intro _
        simp [sp_unwire, bh_I_AJ, bh_I_sJ, bh_I_sI]
        rfl
    have f2 : fr_P M (sp_unwire (bh_sJ (bh_sI (bh_sI (bh_sI (bh_sI (bh_sI (bh_sI (bh_sI (bh_sI M1 41 1 b 1) 42 1 b nm) 43 1 b (nI i)) 44 1 b (nI j)) 45 1 b 0) 48 1 b 0) 52 1 b 0) 46 1 b 0) 47 1 b ((bh_J M1 47 1 b) + 1)) b) := by
      refine fr_P_trans f1 ⟨fun a ha => ⟨?_, ?_⟩, fun a _ => rfl, rfl⟩
      · funext x c
        simp [sp_unwire, bh_I_AJ, bh_I_sJ, bh_I_sI]
        simp [show ¬ a = 46 by omega, show ¬ a = 52 by omega, show ¬ a = 48 by omega, show ¬ a = 45 by omega, show ¬ a = 44 by omega, show ¬ a = 43 by omega, show ¬ a = 42 by omega, show ¬ a = 41 by omega]
      · funext x c
        simp [sp_unwire, bh_J_AJ, bh_J_sJ, bh_J_sI]
        simp [show ¬ a = 57 by omega, show ¬ a = 47 by omega]
    generalize hM2 : sp_unwire (bh_sJ (bh_sI (bh_sI (bh_sI (bh_sI (bh_sI (bh_sI (bh_sI (bh_sI M1 41 1 b 1) 42 1 b nm) 43 1 b (nI i)) 44 1 b (nI j)) 45 1 b 0) 48 1 b 0) 52 1 b 0) 46 1 b 0) 47 1 b ((bh_J M1 47 1 b) + 1)) b = M2 at hR f2
    have e02 : bh_I M2 40 1 0 = 0 := by rw [← hM2]; exact e0
    refine bh_lpW (T := bh_tb T_M_install) (Z := Z) 108 8 (fun i' (v : Int32) => ([some (.inr (40, 1)), some (.inl (.int (nI b))), some (.inl (.int nm)), some (.inl (.int (nI i))), some (.inl (.int (nI j))), some (.inl (.int v)), some (.inl (.int (nI i')))], [], M2, 0)) (fun i' v => v = bh_cnt (fun x => decide (¬ a_st (a_nl A b 1 nm (d_lf (a_d A) b + 1) i j false) x = 0)) i') (fun i' v hi' hv nx => ?_) (fun v hv => bx_M_install_108 b nm (nI i) (nI j) v hR.hs (zr_ok (by rw [hv]; exact hz) hR f2 e02)) 0 rfl
    have es : bh_cnt (fun x => decide (¬ a_st (a_nl A b 1 nm (d_lf (a_d A) b + 1) i j false) x = 0)) (i' + 1) = if decide (¬ a_st (a_nl A b 1 nm (d_lf (a_d A) b + 1) i j false) i' = 0) then bh_cnt (fun x => decide (¬ a_st (a_nl A b 1 nm (d_lf (a_d A) b + 1) i j false) x = 0)) i' + 1 else bh_cnt (fun x => decide (¬ a_st (a_nl A b 1 nm (d_lf (a_d A) b + 1) i j false) x = 0)) i' := rfl
    refine bl_M_install_108 b nm (nI i) (nI j) v i' hi' hR.hs ?_
    rw [show bh_I M2 41 1 i' = 0 ↔ a_st (a_nl A b 1 nm (d_lf (a_d A) b + 1) i j false) i' = 0 from hR.stq hi' 0 (by decide)]
    refine ⟨fun q => nx v ?_, fun q => nx _ ?_⟩
    · rw [es, decide_eq_false (fun c => c q), if_neg Bool.false_ne_true]
      exact hv
    · rw [es, decide_eq_true q, if_pos rfl, hv]
  · rw [if_pos q3] at hz
    exact zr_raise 2 hz h0 (fr_P_0 M)
theorem cr_wiresTo {M : bh_M} {Z : bh_F → Prop} {d : sd} {w : sw} {e : sx} {τ : Nat → Nat → Nat} {b : Nat} (hb : b < 8) (h : rdM M d w e τ) (hs : bh_stat M.2.2.2) (hz : Z (.inl (some (.inl (.int (a_wt w b)))), M)) : F_M_wiresTo [.inr (40, 1), .inl (.int (nI b))] M Z := by
  refine be_M_wiresTo b hs ?_
  refine bh_lpW (T := bh_tb T_M_wiresTo) (Z := Z) 4 24 (fun i (v : Int32) => ([some (.inr (40, 1)), some (.inl (.int (nI b))), some (.inl (.int v)), some (.inl (.int (nI i)))], [], M, 0)) (fun i v => v = bh_cnt (w_to w b) i) (fun i v hi hv nx => ?_) (fun v hv => bx_M_wiresTo_4 b v hs (by rw [hv]; exact hz)) 0 rfl
  have es : bh_cnt (w_to w b) (i + 1) = if w_to w b i then bh_cnt (w_to w b) i + 1 else bh_cnt (w_to w b) i := rfl
  have hi8 : i / 3 < 8 := by omega
  obtain ⟨w1, w2⟩ := (h.2.2 (i / 3) hi8).2.2.2 (i % 3) (Nat.mod_lt _ (by decide))
  rw [show 3 * (i / 3) + i % 3 = i by omega] at w1
  have hno : w_to w b i = false → v = bh_cnt (w_to w b) (i + 1) := by
    intro q
    rw [es, q, if_neg Bool.false_ne_true]
    exact hv
  refine bl_M_wiresTo_4 b v i hi hb hs ?_
  rw [w1]
  refine ⟨fun q => nx v (hno ?_), fun q => ?_⟩
  · unfold w_to
    rw [decide_eq_false (fun c => c q), Bool.false_and]
  · cases ew : w (i / 3) (i % 3) with
    | none =>
      have : w_to w b i = false := by
        unfold w_to
        rw [ew, Bool.and_false]
      exact ⟨fun _ => nx v (hno this), fun q2 => absurd (show lg_cmp (-1) 0 < 0 by decide) q2⟩
    | some ol =>
      obtain ⟨o, l⟩ := ol
      obtain ⟨g1, g2, g3⟩ := w2 o l ew
      have hτ := h.2.1 o l g1 g2
      have hip := ((h.2.2 (i / 3) hi8).2.2.1.2.2.1 (i % 3) g3).2.1
      have hwt : w_to w b i = decide (o = b) := by
        unfold w_to
        rw [ew, decide_eq_true q, Bool.true_and]
      have e1 : (p_enc τ (d_ip d (i / 3) (i % 3)) (some (o, l)) / 8 - p_enc τ (d_ip d (i / 3) (i % 3)) (some (o, l)) / 8 / 8 * 8) = nJ o := by
        show (nJ ((τ o l * 8 + o) * 8 + d_ip d (i / 3) (i % 3)) / nJ 8) - (nJ ((τ o l * 8 + o) * 8 + d_ip d (i / 3) (i % 3)) / nJ 8) / nJ 8 * nJ 8 = nJ o
        rw [bj_div 8 (by omega) (by decide), bj_rem 8 (by omega) (by decide)]
        congr 1
        omega
      rw [e1, lg_cmp_lt, lg_cmp_eq, bj_of (by omega), bj_inj (by omega) (by omega)]
      refine ⟨fun q2 => absurd q2 (bj_0le (by omega)), fun _ => ⟨fun q2 => nx v (hno ?_), fun q2 => nx _ ?_⟩⟩
      · rw [hwt, decide_eq_false q2]
      · rw [es, hwt, decide_eq_true (Decidable.of_not_not q2), if_pos rfl, hv]
theorem cr_remove {M : bh_M} {Z : bh_F → Prop} {A : sa} {b : Nat} (hb : b < 8) (h : RM M A) (hw : WA A) (hck : a_ck A < 999) (h0 : ¬ a_st A b = 0) (to lf : Nat) (hto : (lf = d_lf (a_d A) b ∧ to = 0) ∨ (lf = d_lf (a_d A) b + 1 ∧ to = 1)) (wa : Bool) (hwa : to = 1 → wa = a_wa A b) (hz : ∀ M', RM M' (a_nl (a_stp A b) b to (d_nm (a_d A) b) lf (a_lv A b) (a_ac A b) wa) → fr_P M M' → bh_I M' 40 1 0 = bh_I M 40 1 0 → Z (.inl (some (.inl (.int (a_wt (a_w A) b)))), M')) : F_M_remove [.inr (40, 1), .inl (.int (nI b)), .inl (.int (nI to))] M Z := by
  have go : ∀ M1, RM M1 (a_stp A b) → fr_O M M1 → bh_wp (bh_tb T_M_remove) (16, [some (.inr (40, 1)), some (.inl (.int (nI b))), some (.inl (.int (nI to))), none], [], M1, 0) Z := by
    intro M1 h1 f1
    refine bk_M_remove_16 b (nI to) hb h1.hs ?_
    have ew : a_w (a_stp A b) = a_w A := by
      unfold a_stp
      split <;> rfl
    have elf : d_lf (a_d (a_stp A b)) b = d_lf (a_d A) b := by
      unfold a_stp
      split <;> rfl
    have eck : a_ck (a_stp A b) = a_ck A := by
      unfold a_stp
      split <;> rfl
    have enm : d_nm (a_d (a_stp A b)) b = d_nm (a_d A) b := by
      unfold a_stp
      split <;> rfl
    have est : ¬ a_st (a_stp A b) b = 0 := by
      unfold a_stp
      split
      · show ¬ (if b = b then 2 else d_st (a_d A) b) = 0
        rw [if_pos rfl]
        decide
      · exact h0
    have elv : a_lv (a_stp A b) = a_lv A ∧ a_ac (a_stp A b) = a_ac A ∧ a_wa (a_stp A b) = a_wa A := by
      unfold a_stp
      split <;> exact ⟨rfl, rfl, rfl⟩
    obtain ⟨τ, g1, g2⟩ := h1.1
    obtain ⟨z1, z2, z3, z4⟩ := h1.2.1 b hb est
    rw [elv.1] at z1
    rw [elv.2.1] at z2
    rw [elv.2.2] at z3
    have y4 := (g1.2.2 b hb).1.2.2.1 est
    rw [enm] at y4
    refine cr_wiresTo hb g1 h1.hs ?_
    rw [ew]
    refine bk_M_remove_21 b (nI to) _ hb h1.hs ?_
    refine hz _ ?_ ?_ ?_
    · refine h1.nl hb (by rw [eck]; exact hck) (by rw [elf, eck]; exact (hw.2.1 b hb).2.1) ?_ ?_ ?_ ?_ rfl ?_ (by omega) ?_ ?_ ?_ ?_ (by rw [elf]; omega)
      · intro a w1 w2 w3 w4 w5 w6 w8 w9
        funext x c
        simp [sp_unwire, bh_I_AJ, bh_I_sJ, bh_I_sI, w1, w6, w8, w9]
      · intro a c w1 w2 hc
        simp [sp_unwire, bh_I_AJ, bh_I_sJ, bh_I_sI, hc]
      · intro c
        simp [sp_unwire, bh_J_AJ, bh_J_sJ, bh_J_sI]
      · intro c
        simp [sp_unwire, bh_J_AJ, bh_J_sJ, bh_J_sI]
      · simp [sp_unwire, bh_I_AJ, bh_I_sJ, bh_I_sI]
      · intro _
        simp [sp_unwire, bh_I_AJ, bh_I_sJ, bh_I_sI, y4]
      · simp [sp_unwire, bh_I_AJ, bh_I_sJ, bh_I_sI]
      · simp [sp_unwire, bh_I_AJ, bh_I_sJ, bh_I_sI]
      · intro q
        simp [sp_unwire, bh_I_AJ, bh_I_sJ, bh_I_sI, z1, z2, z3]
        rw [hwa (by omega)]
    · refine fr_P_trans f1.1 ⟨fun a ha => ⟨?_, ?_⟩, fun a _ => rfl, rfl⟩
      · funext x c
        simp [sp_unwire, bh_I_AJ, bh_I_sJ, bh_I_sI]
        simp [show ¬ a = 46 by omega, show ¬ a = 52 by omega, show ¬ a = 48 by omega, show ¬ a = 41 by omega]
      · funext x c
        simp [sp_unwire, bh_J_AJ, bh_J_sJ, bh_J_sI]
        simp [show ¬ a = 57 by omega, show ¬ a = 47 by omega]
    · exact f1.2
  refine be_M_remove b (nI to) hb h.hs ?_
  rw [show bh_I M 41 1 b = 3 ↔ a_st A b = 3 from h.stq hb 3 (by decide)]
  refine ⟨fun q => go M ?_ (fr_O_refl M), fun q => ?_⟩
  · unfold a_stp
    rw [if_neg q]
    exact h
  · have q := Decidable.of_not_not q
    refine cr_stopping hb h q hw.2.2.2.1 (fun M1 h1 f1 => ?_)
    refine bk_M_remove_15 b (nI to) _ h1.hs (go M1 ?_ f1)
    unfold a_stp
    rw [if_pos q]
    exact h1
theorem cr_uninstall {M : bh_M} {Z : bh_F → Prop} {A : sa} (h : RM M A) (hw : WA A) (hck : a_ck A < 999) (a : Int32) (hz : zr Z M (o_uninstall A a)) : F_M_uninstall [.inr (40, 1), .inl (.int a)] M Z := by
  have hs := h.hs
  refine be_M_uninstall a hs ⟨fun q => o_b_zr h hz (fun c => c.1 q), fun q0 => ⟨fun q1 => o_b_zr h hz (fun c => i_le.mpr c.2 q1), fun q1 => ?_⟩⟩
  obtain ⟨b, hb, rfl⟩ := i_nat (N := 7) q0 (i_le.mp q1) (by decide)
  have hb : b < 8 := by omega
  have h0 := h.th 0
  refine bk_M_uninstall_18 b hb h0.hs ?_
  rw [show bh_I (bh_sI M 40 1 0 0) 41 1 b = 0 ↔ a_st A b = 0 from h0.stq hb 0 (by decide)]
  refine ⟨fun q3 => ?_, fun q3 => ?_⟩
  · have eo : o_uninstall A (nI b) = _ := o_b_in hb q3
    rw [eo] at hz
    refine cr_remove hb h0 hw hck q3 0 (d_lf (a_d A) b) (Or.inl ⟨rfl, rfl⟩) false (fun q => absurd q (by decide)) (fun M' h2 f2 e2 => ?_)
    exact bk_M_uninstall_41 b _ h2.hs (zr_ok hz h2 (fr_P_trans (fr_P_0 M) f2) e2)
  · have q3 := Decidable.of_not_not q3
    rw [show o_uninstall A (nI b) = (2, 0, A) from o_b_0 hb q3] at hz
    exact zr_raise 2 hz h0 (fr_P_0 M)
theorem cr_update {M : bh_M} {Z : bh_F → Prop} {A : sa} (h : RM M A) (hw : WA A) (hck : a_ck A < 999) (a : Int32) (hz : zr Z M (o_update A a)) : F_M_update [.inr (40, 1), .inl (.int a)] M Z := by
  have hs := h.hs
  refine be_M_update a hs ⟨fun q => o_b_zr h hz (fun c => c.1 q), fun q0 => ⟨fun q1 => o_b_zr h hz (fun c => i_le.mpr c.2 q1), fun q1 => ?_⟩⟩
  obtain ⟨b, hb, rfl⟩ := i_nat (N := 7) q0 (i_le.mp q1) (by decide)
  have hb : b < 8 := by omega
  have h0 := h.th 0
  refine bk_M_update_18 b hb h0.hs ?_
  rw [show bh_I (bh_sI M 40 1 0 0) 41 1 b = 0 ↔ a_st A b = 0 from h0.stq hb 0 (by decide)]
  refine ⟨fun q3 => ?_, fun q3 => ?_⟩
  · have eo : o_update A (nI b) = _ := o_b_in hb q3
    rw [eo] at hz
    refine cr_remove hb h0 hw hck q3 1 (d_lf (a_d A) b + 1) (Or.inr ⟨rfl, rfl⟩) (a_wa A b) (fun _ => rfl) (fun M' h2 f2 e2 => ?_)
    exact bk_M_update_41 b _ h2.hs (zr_ok hz h2 (fr_P_trans (fr_P_0 M) f2) e2)
  · have q3 := Decidable.of_not_not q3
    rw [show o_update A (nI b) = (2, 0, A) from o_b_0 hb q3] at hz
    exact zr_raise 2 hz h0 (fr_P_0 M)
