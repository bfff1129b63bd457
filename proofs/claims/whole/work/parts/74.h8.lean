/-! THE REFERENCE: resolve, start, stop, services, events, about, count -/
def zr (Z : bh_F → Prop) (M : bh_M) (r : sr) : Prop := ∀ M', RM M' r.2.2 → fr_P M M' → bh_I M' 40 1 0 = nI r.1 → Z (.inl (some (.inl (.int r.2.1))), M')
theorem RM.th {M : bh_M} {A : sa} (h : RM M A) (v : Int32) : RM (bh_sI M 40 1 0 v) A := by
  obtain ⟨⟨τ, h1, h2⟩, h3, h4, h5, h6, h7, h8⟩ := h
  exact ⟨⟨τ, h1, h2⟩, h3, ag_no h4 (by decide) (fun _ => by decide), h5, h6, h7, h8⟩
theorem RM.hs {M : bh_M} {A : sa} (h : RM M A) : bh_stat M.2.2.2 := h.2.2.2.2.2.2
theorem zr_raise {Z : bh_F → Prop} {M M1 : bh_M} {A : sa} (k : Nat) (hz : zr Z M (k, 0, A)) (h : RM M1 A) (f : fr_P M M1) : Z (.inl (some (.inl (.int 0))), bh_sI M1 40 1 0 (nI k)) := hz _ (h.th _) (fr_P_trans f (fr_P_I _ ⟨by decide, by decide⟩ _ _ _)) rfl
theorem zr_ok {Z : bh_F → Prop} {M M1 : bh_M} {A : sa} {v : Int32} (hz : zr Z M (0, v, A)) (h : RM M1 A) (f : fr_P M M1) (e : bh_I M1 40 1 0 = 0) : Z (.inl (some (.inl (.int v))), M1) := hz M1 h f e
theorem RM.stv {M : bh_M} {A : sa} (h : RM M A) {b : Nat} (hb : b < 8) : bh_I M 41 1 b = nI (a_st A b) ∧ a_st A b ≤ 3 := by
  obtain ⟨⟨τ, h1, -⟩, -⟩ := h
  exact ⟨(h1.2.2 b hb).1.1, (h1.2.2 b hb).1.2.1⟩
theorem RM.stq {M : bh_M} {A : sa} (h : RM M A) {b : Nat} (hb : b < 8) (v : Nat) (hv : v ≤ 3) : bh_I M 41 1 b = nI v ↔ a_st A b = v := by
  obtain ⟨h1, h2⟩ := h.stv hb
  rw [h1]
  exact bn_inj (by omega) (by omega)
theorem RM.swa {M : bh_M} {A : sa} (h : RM M A) (b : Nat) (v : Bool) : RM (bh_sI M 45 1 b (bI v)) (a_swa A b v) := by
  obtain ⟨⟨τ, h1, h2⟩, h3, h4, h5, h6, h7, h8⟩ := h
  refine ⟨⟨τ, h1, h2⟩, fun x hx q => ?_, ag_no h4 (by decide) (fun q => absurd q (by decide)), h5, h6, h7, h8⟩
  obtain ⟨y1, y2, y3, y4⟩ := h3 x hx q
  refine ⟨y1, y2, ?_, y4⟩
  show (if 45 = 45 ∧ 1 = 1 ∧ x = b then bI v else bh_I M 45 1 x) = bI (if x = b then v else a_wa A x)
  by_cases c : x = b
  · rw [if_pos ⟨rfl, rfl, c⟩, if_pos c]
  · rw [if_neg (fun q => c q.2.2), if_neg c]
    exact y3
theorem i_le {a b : Int32} : ¬ b < a ↔ a ≤ b := Int32.not_lt
theorem o_b_zr {Z : bh_F → Prop} {M : bh_M} {A : sa} {a : Int32} {f : Nat → sr} (h : RM M A) (hz : zr Z M (o_b a A f)) (hq : ¬ (¬ a < 0 ∧ a ≤ 7)) : Z (.inl (some (.inl (.int 0))), bh_sI (bh_sI M 40 1 0 0) 40 1 0 1) := by
  rw [o_b_out hq] at hz
  exact zr_raise 1 hz (h.th 0) (fr_P_I _ ⟨by decide, by decide⟩ _ _ _)
theorem fr_P_0 (M : bh_M) : fr_P M (bh_sI M 40 1 0 0) := fr_P_I _ ⟨by decide, by decide⟩ _ _ _
theorem cr_resolve {M : bh_M} {Z : bh_F → Prop} {A : sa} (h : RM M A) (hw : WA A) (a : Int32) (hz : zr Z M (o_resolve A a)) : F_M_resolve [.inr (40, 1), .inl (.int a)] M Z := by
  have hs := h.hs
  refine be_M_resolve a hs ⟨fun q => o_b_zr h hz (fun c => c.1 q), fun q0 => ⟨fun q1 => o_b_zr h hz (fun c => i_le.mpr c.2 q1), fun q1 => ?_⟩⟩
  obtain ⟨b, hb, rfl⟩ := i_nat (N := 7) q0 (i_le.mp q1) (by decide)
  have hb : b < 8 := by omega
  have h0 := h.th 0
  refine bk_M_resolve_18 b hb h0.hs ?_
  rw [show bh_I (bh_sI M 40 1 0 0) 41 1 b = 0 ↔ a_st A b = 0 from h0.stq hb 0 (by decide)]
  refine ⟨fun q3 => ?_, fun q3 => ?_⟩
  · have eo : o_resolve A (nI b) = _ := o_b_in hb q3
    rw [eo] at hz
    obtain ⟨τ, h1, hτ⟩ := h0.1
    rw [h1.lv hb]
    refine ⟨fun q4 => ?_, fun q4 => ?_⟩
    · rw [q4, if_neg Bool.false_ne_true] at hz
      have q5 : a_st A b = 1 := by
        have h1 := (h.stv hb).2
        unfold d_live at q4
        rw [decide_eq_false_iff_not] at q4
        have q4 : ¬ 2 ≤ a_st A b := q4
        omega
      have hst3 : ∀ o, o < 8 → d_st (a_d A) o ≤ 3 := fun o ho => (h.stv ho).2
      obtain ⟨k1, k2, -, k4, -⟩ := d_run_ok hb q5 hst3 hw.1
      refine cm_M_resolving hb q5 h1 hw.1 h0.hs (fun M' g1 g2 g3 f => ?_)
      have h2 : RM M' (a_res A (d_run (a_d A) (a_w A) b)) := h0.run hτ g1 g2 g3 f (fun x hx c => fun c2 => c ((d_run_st0 hb q5 hst3 hw.1 hx).mpr c2)) k2
      have fP : fr_P M M' := fr_P_trans (fr_P_0 M) f.O.1
      have e0 : bh_I M' 40 1 0 = 0 := f.O.2
      refine bk_M_resolve_48 b none _ h2.hs ?_
      rcases k4 with ⟨c, -⟩ | ⟨c | c, -⟩
      · rw [if_pos c] at hz
        rw [c, g3]
        exact ⟨fun q => absurd rfl q, fun _ => zr_ok hz h2 fP e0⟩
      · rw [if_neg (by omega), c] at hz
        rw [c]
        exact ⟨fun _ => zr_raise 3 hz h2 fP, fun q => absurd (by decide) q⟩
      · rw [if_neg (by omega), c] at hz
        rw [c]
        exact ⟨fun _ => zr_raise 4 hz h2 fP, fun q => absurd (by decide) q⟩
    · have q4 : d_live (a_d A) b = true := by simpa using q4
      rw [q4, if_pos rfl] at hz
      exact zr_ok hz h0 (fr_P_0 M) rfl
  · have q3 := Decidable.of_not_not q3
    rw [show o_resolve A (nI b) = (2, 0, A) from o_b_0 hb q3] at hz
    exact zr_raise 2 hz h0 (fr_P_0 M)
theorem cr_start {M : bh_M} {Z : bh_F → Prop} {A : sa} (h : RM M A) (hw : WA A) (a : Int32) (hz : zr Z M (o_start A a)) : F_M_start [.inr (40, 1), .inl (.int a)] M Z := by
  have hs := h.hs
  refine be_M_start a hs ⟨fun q => o_b_zr h hz (fun c => c.1 q), fun q0 => ⟨fun q1 => o_b_zr h hz (fun c => i_le.mpr c.2 q1), fun q1 => ?_⟩⟩
  obtain ⟨b, hb, rfl⟩ := i_nat (N := 7) q0 (i_le.mp q1) (by decide)
  have hb : b < 8 := by omega
  have h0 := h.th 0
  refine bk_M_start_18 b hb h0.hs ?_
  rw [show bh_I (bh_sI M 40 1 0 0) 41 1 b = 0 ↔ a_st A b = 0 from h0.stq hb 0 (by decide), show bh_I (bh_sI M 40 1 0 0) 41 1 b = 3 ↔ a_st A b = 3 from h0.stq hb 3 (by decide)]
  refine ⟨fun q3 => ?_, fun q3 => ?_⟩
  · have eo : o_start A (nI b) = _ := o_b_in hb q3
    rw [eo] at hz
    have h1 : RM (bh_sI (bh_sI M 40 1 0 0) 45 1 b 1) (a_swa A b true) := h0.swa b true
    have f1 : fr_P M (bh_sI (bh_sI M 40 1 0 0) 45 1 b 1) := fr_P_trans (fr_P_0 M) (fr_P_I _ ⟨by decide, by decide⟩ _ _ _)
    have hlv := ((hw.2.1 b hb).2.2.2 q3)
    refine ⟨fun q4 => ?_, fun q4 => ?_⟩
    · rw [if_neg q4] at hz
      rw [(h0.2.1 b hb q3).1, h0.2.2.2.1, bn_le (by omega) (by have := hw.2.2.1.2; omega)]
      refine ⟨fun q5 => ?_, fun q5 => ?_⟩
      · rw [if_neg (by omega)] at hz
        refine cr_starting (A := a_swa A b true) hb h1 q3 hlv.2.2.1 hw.1 hw.2.2.2.1 (fun M' h2 f2 => ?_)
        have hc := a_act_c (A := a_swa A b true) hb (fun o ho => (h.stv ho).2) hw.1
        have f3 : fr_P M M' := fr_P_trans f1 f2.1
        have e0 : bh_I M' 40 1 0 = 0 := f2.2
        refine bk_M_start_72 b none _ h2.hs ?_
        have hcs : (a_act (a_swa A b true) b).1 = 1 ∨ (a_act (a_swa A b true) b).1 = 2 ∨ (a_act (a_swa A b true) b).1 = 3 ∨ (a_act (a_swa A b true) b).1 = 4 := by omega
        rcases hcs with c | c | c | c
        · rw [if_pos c] at hz
          rw [c]
          exact ⟨fun q => absurd rfl q, fun _ => zr_ok hz h2 f3 e0⟩
        · rw [if_neg (by omega), c] at hz
          rw [c]
          exact ⟨fun _ => zr_raise 3 hz h2 f3, fun q => absurd (by decide) q⟩
        · rw [if_neg (by omega), c] at hz
          rw [c]
          exact ⟨fun _ => zr_raise 5 hz h2 f3, fun q => absurd (by decide) q⟩
        · rw [if_neg (by omega), c] at hz
          rw [c]
          exact ⟨fun _ => zr_raise 4 hz h2 f3, fun q => absurd (by decide) q⟩
      · rw [if_pos (by omega)] at hz
        exact zr_ok hz h1 f1 rfl
    · rw [if_pos (Decidable.of_not_not q4)] at hz
      exact zr_ok hz h1 f1 rfl
  · have q3 := Decidable.of_not_not q3
    rw [show o_start A (nI b) = (2, 0, A) from o_b_0 hb q3] at hz
    exact zr_raise 2 hz h0 (fr_P_0 M)
theorem own_0 {A : sa} {b : Nat} {P : UInt64 → Prop} (hb : b < 8) (hv : sv (a_nu A) (a_st A) P) (h : ¬ a_st A b = 3) : a_own A b = 0 := by
  obtain ⟨-, n, n1, n2, n3⟩ := hv
  have e1 : a_n A = n := by
    unfold a_n
    rw [n2]
    exact bn_clamp (N := 21) (by omega) rfl
  unfold a_own
  rw [e1, bh_cnt_congr (q := fun _ => false) (fun i hi => ?_)]
  · have : ∀ m, bh_cnt (fun _ => false) m = 0 := by
      intro m
      induction m with
      | zero => rfl
      | succ m ih =>
        show (if false = true then _ else bh_cnt (fun _ => false) m) = 0
        rw [if_neg Bool.false_ne_true]
        exact ih
    exact this n
  · obtain ⟨⟨o, o1, o2, o3⟩, -⟩ := n3 i hi
    show decide (bh_I (a_nu A) 66 1 i = nI b) = false
    rw [o2]
    refine decide_eq_false (fun c => ?_)
    rw [bn_inj (by omega) (by omega)] at c
    rw [c] at o3
    exact h o3
theorem cr_stop {M : bh_M} {Z : bh_F → Prop} {A : sa} (h : RM M A) (hw : WA A) (a : Int32) (hz : zr Z M (o_stop A a)) : F_M_stop [.inr (40, 1), .inl (.int a)] M Z := by
  have hs := h.hs
  refine be_M_stop a hs ⟨fun q => o_b_zr h hz (fun c => c.1 q), fun q0 => ⟨fun q1 => o_b_zr h hz (fun c => i_le.mpr c.2 q1), fun q1 => ?_⟩⟩
  obtain ⟨b, hb, rfl⟩ := i_nat (N := 7) q0 (i_le.mp q1) (by decide)
  have hb : b < 8 := by omega
  have h0 := h.th 0
  refine bk_M_stop_18 b hb h0.hs ?_
  rw [show bh_I (bh_sI M 40 1 0 0) 41 1 b = 0 ↔ a_st A b = 0 from h0.stq hb 0 (by decide), show bh_I (bh_sI M 40 1 0 0) 41 1 b = 3 ↔ a_st A b = 3 from h0.stq hb 3 (by decide)]
  refine ⟨fun q3 => ?_, fun q3 => ?_⟩
  · have eo : o_stop A (nI b) = _ := o_b_in hb q3
    rw [eo] at hz
    have h1 : RM (bh_sI (bh_sI M 40 1 0 0) 45 1 b 0) (a_swa A b false) := h0.swa b false
    have f1 : fr_P M (bh_sI (bh_sI M 40 1 0 0) 45 1 b 0) := fr_P_trans (fr_P_0 M) (fr_P_I _ ⟨by decide, by decide⟩ _ _ _)
    refine ⟨fun q4 => ?_, fun q4 => ?_⟩
    · rw [if_neg q4, own_0 hb hw.2.2.2.1 q4] at hz
      exact zr_ok hz h1 f1 rfl
    · have q4 := Decidable.of_not_not q4
      rw [if_pos q4] at hz
      refine cr_stopping (A := a_swa A b false) hb h1 q4 hw.2.2.2.1 (fun M' h2 f2 => ?_)
      exact bk_M_stop_55 b _ h2.hs (zr_ok hz h2 (fr_P_trans f1 f2.1) f2.2)
  · have q3 := Decidable.of_not_not q3
    rw [show o_stop A (nI b) = (2, 0, A) from o_b_0 hb q3] at hz
    exact zr_raise 2 hz h0 (fr_P_0 M)
theorem cr_register {M : bh_M} {Z : bh_F → Prop} {A : sa} (h : RM M A) (hw : WA A) (a k : Int32) (x : UInt64) (hz : zr Z M (o_register A a k x)) : F_M_register [.inr (40, 1), .inl (.int a), .inl (.int k), .inl (.double x)] M Z := by
  have hs := h.hs
  have h0 := h.th 0
  have bad1 : ¬ (¬ a < 0 ∧ a ≤ 7) → Z (.inl (some (.inl (.int 0))), bh_sI (bh_sI M 40 1 0 0) 40 1 0 1) := by
    intro q
    have e : o_register A a k x = (1, 0, A) := by
      unfold o_register
      rw [o_b_out q]
      unfold o_c
      split <;> rfl
    rw [e] at hz
    exact zr_raise 1 hz h0 (fr_P_0 M)
  have bad2 : ¬ ((¬ k < 0 ∧ k ≤ 3) ∧ r_ok x) → Z (.inl (some (.inl (.int 0))), bh_sI (bh_sI M 40 1 0 0) 40 1 0 1) := by
    intro q
    rw [show o_register A a k x = (1, 0, A) from o_c_out q] at hz
    exact zr_raise 1 hz h0 (fr_P_0 M)
  refine be_M_register a k x hs ⟨fun q => bad1 (fun c => c.1 q), fun q0 => ⟨fun q1 => bad1 (fun c => i_le.mpr c.2 q1), fun q1 => ⟨fun q => bad2 (fun c => c.1.1 q), fun r0 => ⟨fun r1 => bad2 (fun c => i_le.mpr c.1.2 r1), fun r1 => ⟨fun q => bad2 (fun c => c.2.1 q), fun s0 => ⟨fun s1 => ?_, fun s1 => bad2 (fun c => s1 c.2.2)⟩⟩⟩⟩⟩⟩
  obtain ⟨b, hb, rfl⟩ := i_nat (N := 7) q0 (i_le.mp q1) (by decide)
  have hb : b < 8 := by omega
  have e1 : o_register A (nI b) k x = _ := o_c_in ⟨⟨r0, i_le.mp r1⟩, s0, s1⟩
  rw [e1] at hz
  clear e1 bad1 bad2
  obtain ⟨b1, b2, b3, b4⟩ := h0.bd hw.2.2.2.1
  refine bk_M_register_43 b k x hb b3 (by omega) h0.hs ?_
  rw [show bh_I (bh_sI M 40 1 0 0) 41 1 b = 0 ↔ a_st A b = 0 from h0.stq hb 0 (by decide), show bh_I (bh_sI M 40 1 0 0) 41 1 b = 3 ↔ a_st A b = 3 from h0.stq hb 3 (by decide)]
  refine ⟨fun q3 => ?_, fun q3 => ?_⟩
  · rw [o_b_in hb q3] at hz
    refine ⟨fun q5 => ?_, fun q5 => ?_⟩
    · rw [if_neg (fun c => c q5)] at hz
      refine ⟨fun q => ?_, fun q => ?_⟩
      · rw [if_neg q] at hz
        refine ct_M_put (nI b) k x h0.hs ⟨?_, b2, ?_⟩
        · rw [b3]
          exact bn_in (by omega) rfl
        · rw [b3, bn_clamp (N := 21) (by omega) rfl, h0.2.2.1.2.1 35 (by decide) (by decide)]
          refine bk_M_register_98 b k x _ (sp_put_stat h0.hs) (zr_ok hz (h0.nu (fr_N_put _ _ _ _ _) (ag_put h0.2.2.1 _ _ _ _)) (fr_P_trans (fr_P_0 M) (fr_O_put _ _ _ _ _).1) (fr_O_put _ _ _ _ _).2)
      · rw [if_pos (Decidable.of_not_not q)] at hz
        exact zr_raise 4 hz h0 (fr_P_0 M)
    · rw [if_pos q5] at hz
      exact zr_raise 3 hz h0 (fr_P_0 M)
  · have q3 := Decidable.of_not_not q3
    rw [o_b_0 hb q3] at hz
    exact zr_raise 2 hz h0 (fr_P_0 M)
theorem cr_get {M : bh_M} {Z : bh_F → Prop} {A : sa} (h : RM M A) (hw : WA A) (a k : Int32) (hz : zr Z M (o_get A a k)) : F_M_get [.inr (40, 1), .inl (.int a), .inl (.int k)] M Z := by
  have hs := h.hs
  have h0 := h.th 0
  have bad1 : ¬ (¬ a < 0 ∧ a ≤ 7) → Z (.inl (some (.inl (.int 0))), bh_sI (bh_sI M 40 1 0 0) 40 1 0 1) := by
    intro q
    have e : o_get A a k = (1, 0, A) := by
      unfold o_get
      rw [o_b_out q]
      unfold o_c
      split <;> rfl
    rw [e] at hz
    exact zr_raise 1 hz h0 (fr_P_0 M)
  have bad2 : ¬ (¬ k < 0 ∧ k ≤ 3) → Z (.inl (some (.inl (.int 0))), bh_sI (bh_sI M 40 1 0 0) 40 1 0 1) := by
    intro q
    rw [show o_get A a k = (1, 0, A) from o_c_out q] at hz
    exact zr_raise 1 hz h0 (fr_P_0 M)
  refine be_M_get a k hs ⟨fun q => bad1 (fun c => c.1 q), fun q0 => ⟨fun q1 => bad1 (fun c => i_le.mpr c.2 q1), fun q1 => ⟨fun q => bad2 (fun c => c.1 q), fun r0 => ⟨fun r1 => bad2 (fun c => i_le.mpr c.2 r1), fun r1 => ?_⟩⟩⟩⟩
  obtain ⟨b, hb, rfl⟩ := i_nat (N := 7) q0 (i_le.mp q1) (by decide)
  have hb : b < 8 := by omega
  have e1 : o_get A (nI b) k = _ := o_c_in ⟨r0, i_le.mp r1⟩
  rw [e1] at hz
  clear e1 bad1 bad2
  obtain ⟨b1, b2, b3, b4⟩ := h0.bd hw.2.2.2.1
  refine bk_M_get_27 b k hb h0.hs ?_
  rw [show bh_I (bh_sI M 40 1 0 0) 41 1 b = 0 ↔ a_st A b = 0 from h0.stq hb 0 (by decide), show bh_I (bh_sI M 40 1 0 0) 41 1 b = 3 ↔ a_st A b = 3 from h0.stq hb 3 (by decide)]
  refine ⟨fun q3 => ?_, fun q3 => ?_⟩
  · rw [o_b_in hb q3] at hz
    refine ⟨fun q5 => ?_, fun q5 => ?_⟩
    · rw [if_neg (fun c => c q5)] at hz
      have eB : bh_best (fun i => decide (bh_I (bh_sI M 40 1 0 0) 67 1 i = k)) (fun i b => decide (¬ Op.cmpValue (FP.dcmp (bh_D (bh_sI M 40 1 0 0) 68 1 i) (bh_D (bh_sI M 40 1 0 0) 68 1 b)) .l ≤ 0)) (bh_I (bh_sI M 40 1 0 0) 40 1 34).toNatClampNeg = a_best (a_nu A) k := by
        unfold a_best
        rw [h0.2.2.1.1 67 (by decide), h0.2.2.1.2.2, h0.2.2.1.2.1 34 (by decide) (by decide)]
      refine ct_M_best k h0.hs ⟨b1, fun e => ?_, fun r e => ?_⟩
      · rw [eB] at e
        rw [e] at hz
        exact bz_M_get_63 b k hb h0.hs (zr_raise 4 hz h0 (fr_P_0 M))
      · have hr := bh_best_lt e
        rw [b3, bn_clamp (N := 21) (by omega) rfl] at hr
        rw [eB] at e
        rw [e] at hz
        refine bk_M_get_63 b k r hb (by omega) h0.hs ?_
        rw [h0.2.2.1.1 69 (by decide), h0.2.2.1.1 65 (by decide)]
        exact zr_ok hz (h0.nu (fr_N_I _ (by decide) _ _ _) (ag_sI h0.2.2.1 _ _ _ _)) (fr_P_trans (fr_P_0 M) (fr_P_I _ ⟨by decide, by decide⟩ _ _ _)) rfl
    · rw [if_pos q5] at hz
      exact zr_raise 3 hz h0 (fr_P_0 M)
  · have q3 := Decidable.of_not_not q3
    rw [o_b_0 hb q3] at hz
    exact zr_raise 2 hz h0 (fr_P_0 M)
theorem i_0le {a : Int32} : ¬ a < 0 ↔ 0 ≤ a := Int32.not_lt
theorem cr_giveBack {M : bh_M} {Z : bh_F → Prop} {A : sa} (h : RM M A) (hw : WA A) (a k : Int32) (hz : zr Z M (o_giveBack A a k)) : F_M_giveBack [.inr (40, 1), .inl (.int a), .inl (.int k)] M Z := by
  have hs := h.hs
  have h0 := h.th 0
  have bad1 : ¬ (¬ a < 0 ∧ a ≤ 7) → Z (.inl (some (.inl (.int 0))), bh_sI (bh_sI M 40 1 0 0) 40 1 0 1) := by
    intro q
    have e : o_giveBack A a k = (1, 0, A) := by
      unfold o_giveBack
      rw [o_b_out q]
      unfold o_c
      split <;> rfl
    rw [e] at hz
    exact zr_raise 1 hz h0 (fr_P_0 M)
  have bad2 : ¬ 0 ≤ k → Z (.inl (some (.inl (.int 0))), bh_sI (bh_sI M 40 1 0 0) 40 1 0 1) := by
    intro q
    rw [show o_giveBack A a k = (1, 0, A) from o_c_out q] at hz
    exact zr_raise 1 hz h0 (fr_P_0 M)
  refine be_M_giveBack a k hs ⟨fun q => bad1 (fun c => c.1 q), fun q0 => ⟨fun q1 => bad1 (fun c => i_le.mpr c.2 q1), fun q1 => ⟨fun r0 => ?_, fun r0 => bad2 r0⟩⟩⟩
  obtain ⟨b, hb, rfl⟩ := i_nat (N := 7) q0 (i_le.mp q1) (by decide)
  have hb : b < 8 := by omega
  have e1 : o_giveBack A (nI b) k = _ := o_c_in r0
  rw [e1] at hz
  clear e1 bad1 bad2
  obtain ⟨b1, b2, b3, b4⟩ := h0.bd hw.2.2.2.1
  refine bk_M_giveBack_22 b k hb h0.hs ?_
  rw [show bh_I (bh_sI M 40 1 0 0) 41 1 b = 0 ↔ a_st A b = 0 from h0.stq hb 0 (by decide)]
  refine ⟨fun q3 => ?_, fun q3 => ?_⟩
  · rw [o_b_in hb q3] at hz
    have eB : bh_ff (fun i => decide (bh_I (bh_sI M 40 1 0 0) 65 1 i = k)) (bh_I (bh_sI M 40 1 0 0) 40 1 34).toNatClampNeg = a_row (a_nu A) k := by
      unfold a_row
      rw [h0.2.2.1.1 65 (by decide), h0.2.2.1.2.1 34 (by decide) (by decide)]
    refine ct_M_placeOf k h0.hs ⟨b1, fun e => ?_, fun r e => ?_⟩
    · rw [eB] at e
      rw [e] at hz
      exact bz_M_giveBack_42 b k hb h0.hs (zr_raise 3 hz h0 (fr_P_0 M))
    · have hr := (bh_ff_lt e).1
      rw [b3, bn_clamp (N := 21) (by omega) rfl] at hr
      rw [eB] at e
      rw [e] at hz
      have hz : zr Z M (if bh_I (a_nu A) 69 1 (8 * r + b) = 0 then (3, 0, A) else (0, bh_I (a_nu A) 69 1 (8 * r + b) - 1, a_snu A (a_got (a_nu A) r b (bh_I (a_nu A) 69 1 (8 * r + b) - 1)))) := hz
      refine bk_M_giveBack_42 b k r hb (by omega) h0.hs ?_
      rw [h0.2.2.1.1 69 (by decide)]
      refine ⟨fun q => ?_, fun q => ?_⟩
      · rw [if_neg q] at hz
        rw [show bh_I (bh_sI (bh_sI M 40 1 0 0) 69 1 (8 * r + b) (bh_I (a_nu A) 69 1 (8 * r + b) - 1)) 69 1 (8 * r + b) = bh_I (a_nu A) 69 1 (8 * r + b) - 1 from if_pos ⟨rfl, rfl, rfl⟩]
        exact zr_ok hz (h0.nu (fr_N_I _ (by decide) _ _ _) (ag_sI h0.2.2.1 _ _ _ _)) (fr_P_trans (fr_P_0 M) (fr_P_I _ ⟨by decide, by decide⟩ _ _ _)) rfl
      · rw [if_pos (Decidable.of_not_not q)] at hz
        exact zr_raise 3 hz h0 (fr_P_0 M)
  · have q3 := Decidable.of_not_not q3
    rw [o_b_0 hb q3] at hz
    exact zr_raise 2 hz h0 (fr_P_0 M)
theorem cr_unregister {M : bh_M} {Z : bh_F → Prop} {A : sa} (h : RM M A) (hw : WA A) (a k : Int32) (hz : zr Z M (o_unregister A a k)) : F_M_unregister [.inr (40, 1), .inl (.int a), .inl (.int k)] M Z := by
  have hs := h.hs
  have h0 := h.th 0
  have bad1 : ¬ (¬ a < 0 ∧ a ≤ 7) → Z (.inl (some (.inl (.int 0))), bh_sI (bh_sI M 40 1 0 0) 40 1 0 1) := by
    intro q
    have e : o_unregister A a k = (1, 0, A) := by
      unfold o_unregister
      rw [o_b_out q]
      unfold o_c
      split <;> rfl
    rw [e] at hz
    exact zr_raise 1 hz h0 (fr_P_0 M)
  have bad2 : ¬ 0 ≤ k → Z (.inl (some (.inl (.int 0))), bh_sI (bh_sI M 40 1 0 0) 40 1 0 1) := by
    intro q
    rw [show o_unregister A a k = (1, 0, A) from o_c_out q] at hz
    exact zr_raise 1 hz h0 (fr_P_0 M)
  refine be_M_unregister a k hs ⟨fun q => bad1 (fun c => c.1 q), fun q0 => ⟨fun q1 => bad1 (fun c => i_le.mpr c.2 q1), fun q1 => ⟨fun r0 => ?_, fun r0 => bad2 r0⟩⟩⟩
  obtain ⟨b, hb, rfl⟩ := i_nat (N := 7) q0 (i_le.mp q1) (by decide)
  have hb : b < 8 := by omega
  have e1 : o_unregister A (nI b) k = _ := o_c_in r0
  rw [e1] at hz
  clear e1 bad1 bad2
  obtain ⟨b1, b2, b3, b4⟩ := h0.bd hw.2.2.2.1
  refine bk_M_unregister_22 b k hb h0.hs ?_
  rw [show bh_I (bh_sI M 40 1 0 0) 41 1 b = 0 ↔ a_st A b = 0 from h0.stq hb 0 (by decide)]
  refine ⟨fun q3 => ?_, fun q3 => ?_⟩
  · rw [o_b_in hb q3] at hz
    have eB : bh_ff (fun i => decide (bh_I (bh_sI M 40 1 0 0) 65 1 i = k)) (bh_I (bh_sI M 40 1 0 0) 40 1 34).toNatClampNeg = a_row (a_nu A) k := by
      unfold a_row
      rw [h0.2.2.1.1 65 (by decide), h0.2.2.1.2.1 34 (by decide) (by decide)]
    refine ct_M_placeOf k h0.hs ⟨b1, fun e => ?_, fun r e => ?_⟩
    · rw [eB] at e
      rw [e] at hz
      exact bz_M_unregister_42 b k hb h0.hs (zr_raise 3 hz h0 (fr_P_0 M))
    · have hr := (bh_ff_lt e).1
      rw [b3, bn_clamp (N := 21) (by omega) rfl] at hr
      rw [eB] at e
      rw [e] at hz
      have hz : zr Z M (if bh_I (a_nu A) 66 1 r = nI b then (0, bh_sum (fun i => bh_I (a_nu A) 69 1 (8 * r + i)) 8, a_snu A (sp_drop (a_nu A) r (a_n A - 1))) else (3, 0, A)) := hz
      refine bk_M_unregister_42 b k r hb (by omega) h0.hs ?_
      rw [h0.2.2.1.1 66 (by decide)]
      refine ⟨fun q => ?_, fun q => ?_⟩
      · rw [if_pos q] at hz
        refine bh_lpW (T := bh_tb T_M_unregister) (Z := Z) 69 8 (fun i (v : Int32) => ([some (.inr (40, 1)), some (.inl (.int (nI b))), some (.inl (.int k)), some (.inl (.int (nI r))), some (.inl (.int v)), some (.inl (.int (nI i)))], [], bh_sI M 40 1 0 0, 0)) (fun i v => v = bh_sum (fun i => bh_I (a_nu A) 69 1 (8 * r + i)) i) (fun i v hi hv nx => ?_) (fun v hv => ?_) 0 rfl
        · refine bl_M_unregister_69 b k r v i hi (by omega) h0.hs ?_
          rw [h0.2.2.1.1 69 (by decide)]
          refine nx _ ?_
          rw [hv]
          rfl
        · subst hv
          refine bx_M_unregister_69 b k r _ (by omega) h0.hs ?_
          refine ct_M_drop r (a_n A - 1) (by rw [b3]; congr 1; omega) (by omega) (by omega) h0.hs ⟨b2, ?_⟩
          exact bk_M_unregister_104 b k r _ _ (sp_drop_stat h0.hs) (zr_ok hz (h0.nu (fr_N_drop _ _ _) (ag_drop h0.2.2.1 _ _)) (fr_P_trans (fr_P_0 M) (fr_O_drop _ _ _).1) (fr_O_drop _ _ _).2)
      · rw [if_neg q] at hz
        exact zr_raise 3 hz h0 (fr_P_0 M)
  · have q3 := Decidable.of_not_not q3
    rw [o_b_0 hb q3] at hz
    exact zr_raise 2 hz h0 (fr_P_0 M)
