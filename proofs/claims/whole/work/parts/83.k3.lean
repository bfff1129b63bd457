/-! LEVEL, the reference -/
theorem RM.sfl {M : bh_M} {A : sa} (h : RM M A) (l : Nat) : RM (bh_sI M 40 1 39 (nI l)) (a_sfl A l) := by
  obtain ⟨⟨τ, h1, h2⟩, h3, h4, h5, h6, h7, h8⟩ := h
  exact ⟨⟨τ, h1, h2⟩, h3, ag_no h4 (by decide) (fun _ => by decide), rfl, h6, h7, h8⟩
theorem wr_level {A : sa} (h : WA A) (a : Int32) : WR A (o_level A a) := by
  have ck_u : ∀ m b (x : sn), a_ck (lv_u m b x).2 = a_ck x.2 := by
    intro m b x
    unfold lv_u
    split
    · exact a_act_ck _ _
    · rfl
  have ck_U : ∀ m k (x : sn), a_ck (lv_U m k x).2 = a_ck x.2 := by
    intro m k
    induction k with
    | zero => exact fun x => rfl
    | succ k ih => exact fun x => (ih _).trans (ck_u _ _ _)
  have ck_UL : ∀ k m (x : sn), a_ck (lv_UL m k x).2 = a_ck x.2 := by
    intro k
    induction k with
    | zero => exact fun m x => rfl
    | succ k ih => exact fun m x => (ih _ _).trans (ck_U _ _ _)
  have ck_d : ∀ m b (x : sn), a_ck (lv_d m b x).2 = a_ck x.2 := by
    intro m b x
    unfold lv_d
    split <;> rfl
  have ck_D : ∀ m k (x : sn), a_ck (lv_D m k x).2 = a_ck x.2 := by
    intro m k
    induction k with
    | zero => exact fun x => rfl
    | succ k ih => exact fun x => (ih _).trans (ck_d _ _ _)
  have ck_DL : ∀ l k (x : sn), a_ck (lv_DL l k x).2 = a_ck x.2 := by
    intro l k
    induction k with
    | zero => exact fun x => rfl
    | succ k ih => exact fun x => (ih _).trans (ck_D _ _ _)
  unfold o_level
  split
  · rename_i c
    have s9 : ¬ a < 0 := fun q => c.1 (Int32.lt_trans q (by decide))
    obtain ⟨l, hl, rfl⟩ := i_nat (N := 5) s9 c.2 (by decide)
    rw [bn_clamp (N := 6) (by omega) rfl]
    have hw : WA (lv_all (a_fl A) l A).2 := by
      unfold lv_all
      exact wa_DL _ (wa_UL _ _ h)
    have hk : a_ck (lv_all (a_fl A) l A).2 = a_ck A := by
      unfold lv_all
      exact (ck_DL _ _ _).trans (ck_UL _ _ _)
    refine ⟨⟨hw.1, hw.2.1, ?_, hw.2.2.2.1, hw.2.2.2.2⟩, ?_⟩
    · show 1 ≤ l ∧ l ≤ 5
      refine ⟨?_, hl⟩
      cases l with
      | zero => exact absurd (show nI 0 < 1 by decide) c.1
      | succ l => omega
    · show a_ck (lv_all (a_fl A) l A).2 ≤ a_ck A + 1
      rw [hk]
      exact Nat.le_succ _
  · exact wr_same h
theorem s_code_0 {n : Nat} (h : 1 ≤ n ∧ n ≤ 4) : s_code n = 0 ↔ n = 1 := by
  have : n = 1 ∨ n = 2 ∨ n = 3 ∨ n = 4 := by omega
  rcases this with rfl | rfl | rfl | rfl <;> decide
theorem cr_level {M : bh_M} {Z : bh_F → Prop} {A : sa} (h : RM M A) (hw : WA A) (a : Int32) (hz : zr Z M (o_level A a)) : F_M_level [.inr (40, 1), .inl (.int a)] M Z := by
  have hs := h.hs
  have h0 := h.th 0
  have bad : ¬ (¬ a < 1 ∧ a ≤ 5) → Z (.inl (some (.inl (.int 0))), bh_sI (bh_sI M 40 1 0 0) 40 1 0 1) := by
    intro q
    rw [show o_level A a = (1, 0, A) from if_neg q] at hz
    exact zr_raise 1 hz h0 (fr_P_0 M)
  refine be_M_level a hs ⟨fun q => bad (fun c => c.1 q), fun q0 => ⟨fun q1 => bad (fun c => i_le.mpr c.2 q1), fun q1 => ?_⟩⟩
  have q1 := i_le.mp q1
  have e1 : o_level A a = _ := if_pos ⟨q0, q1⟩
  rw [e1] at hz
  clear e1 bad
  have s9 : ¬ a < 0 := fun q => q0 (Int32.lt_trans q (by decide))
  obtain ⟨l, hl, rfl⟩ := i_nat (N := 5) s9 q1 (by decide)
  rw [bn_clamp (N := 6) (by omega) rfl] at hz
  have hf := hw.2.2.1
  rw [h.2.2.2.1, show (nI (a_fl A) + 1 : Int32) = nI (a_fl A + 1) from bn_add _ 1]
  have f1 : fr_P M (bh_sI M 40 1 0 0) := fr_P_0 M
  have e0 : bh_I (bh_sI M 40 1 0 0) 40 1 0 = 0 := rfl
  have hz : ∀ M', RM M' (lv_all (a_fl A) l A).2 → fr_P M M' → bh_I M' 40 1 0 = 0 → Z (.inl (some (.inl (.int (lv_all (a_fl A) l A).1))), bh_sI M' 40 1 39 (nI l)) := fun M' h2 f2 e2 => zr_ok hz (h2.sfl l) (fr_P_trans f2 (fr_P_I _ ⟨by decide, by decide⟩ _ _ _)) e2
  generalize hM1 : bh_sI M 40 1 0 0 = M0 at h0 f1 e0
  generalize hf9 : a_fl A = f at hz hf
  generalize hT : lv_all f l A = tgt at hz
  unfold lv_all at hT
  -- down
  have down : ∀ k (x : sn) (M1 : bh_M) (w4 : Option bh_V), l + k ≤ 5 → WA x.2 → RM M1 x.2 → fr_P M M1 → bh_I M1 40 1 0 = 0 → lv_DL l k x = tgt → bh_wp (bh_tb T_M_level) (109, [some (.inr (40, 1)), some (.inl (.int (nI l))), some (.inl (.int x.1)), some (.inl (.int (nI (l + k)))), w4], [], M1, 0) Z := by
    intro k
    induction k with
    | zero =>
      intro x M1 w4 hk hwx hx fx e0x ex
      refine bk_M_level_109 l x.1 (l + 0) w4 (by omega) (by omega) hx.hs ⟨fun _ => ?_, fun q => absurd (Nat.le_refl _) q⟩
      have ex : x = tgt := ex
      rw [← ex] at hz
      exact hz M1 hx fx e0x
    | succ k ih =>
      intro x M1 w4 hk hwx hx fx e0x ex
      refine bk_M_level_109 l x.1 (l + k + 1) w4 (by omega) (by omega) hx.hs ⟨fun q => absurd q (by omega), fun _ => ?_⟩
      have ex : lv_DL l k (lv_D (l + k + 1) 8 x) = tgt := ex
      have inner : ∀ b (y : sn) (M2 : bh_M), b < 8 → WA y.2 → RM M2 y.2 → fr_P M M2 → bh_I M2 40 1 0 = 0 → lv_DL l k (lv_D (l + k + 1) (b + 1) y) = tgt → bh_wp (bh_tb T_M_level) (118, [some (.inr (40, 1)), some (.inl (.int (nI l))), some (.inl (.int y.1)), some (.inl (.int (nI (l + k + 1)))), some (.inl (.int (nI b)))], [], M2, 0) Z := by
        intro b y M2 hb
        -- behind the bundle
        have one : ∀ (b : Nat) (y : sn) (M2 : bh_M), b < 8 → WA y.2 → RM M2 y.2 → fr_P M M2 → bh_I M2 40 1 0 = 0 → (∀ (z : sn) M3, lv_d (l + k + 1) b y = z → RM M3 z.2 → fr_P M M3 → bh_I M3 40 1 0 = 0 → bh_wp (bh_tb T_M_level) (158, [some (.inr (40, 1)), some (.inl (.int (nI l))), some (.inl (.int z.1)), some (.inl (.int (nI (l + k + 1)))), some (.inl (.int (nI b)))], [], M3, 0) Z) → bh_wp (bh_tb T_M_level) (118, [some (.inr (40, 1)), some (.inl (.int (nI l))), some (.inl (.int y.1)), some (.inl (.int (nI (l + k + 1)))), some (.inl (.int (nI b)))], [], M2, 0) Z := by
          intro b y M2 hb hwy hy fy e0y nx
          refine bl_M_level_118 l y.1 (l + k + 1) b hb hy.hs ?_
          rw [show bh_I M2 41 1 b = 3 ↔ a_st y.2 b = 3 from hy.stq hb 3 (by decide)]
          refine ⟨fun q => nx y M2 (if_neg (fun c => q c.1)) hy fy e0y, fun q => ?_⟩
          have q := Decidable.of_not_not q
          have hn0 : ¬ a_st y.2 b = 0 := by omega
          have hl5 := ((hwy.2.1 b hb).2.2.2 hn0).2.1
          rw [(hy.2.1 b hb hn0).1, bn_inj (by omega) (by omega)]
          refine ⟨fun q2 => ?_, fun q2 => nx y M2 (if_neg (fun c => q2 c.2)) hy fy e0y⟩
          refine cr_stopping hb hy q hwy.2.2.2.1 (fun M3 h3 f3 => ?_)
          exact bk_M_level_154 l y.1 (l + k + 1) b _ h3.hs (nx (y.1 + 1, a_stop y.2 b) M3 (if_pos ⟨q, q2⟩) h3 (fr_P_trans fy f3.1) (f3.2.trans e0y))
        revert y M2 hb
        induction b with
        | zero =>
          intro y M2 hb hwy hy fy e0y ey
          refine one 0 y M2 hb hwy hy fy e0y (fun z M3 ez h3 f3 e03 => ?_)
          have hwz : WA z.2 := by rw [← ez]; exact wa_d hb hwy
          refine bk0_M_level_158 l z.1 (l + k + 1) h3.hs (bx_M_level_118 l z.1 _ (l + k) (by decide) h3.hs ?_)
          refine ih z M3 _ (by omega) hwz h3 f3 e03 ?_
          have ey : lv_DL l k (lv_d (l + k + 1) 0 y) = tgt := ey
          rw [ez] at ey
          exact ey
        | succ b ihb =>
          intro y M2 hb hwy hy fy e0y ey
          refine one (b + 1) y M2 hb hwy hy fy e0y (fun z M3 ez h3 f3 e03 => ?_)
          have hwz : WA z.2 := by rw [← ez]; exact wa_d hb hwy
          refine bk_M_level_158 l z.1 (l + k + 1) b h3.hs (ihb z M3 (by omega) hwz h3 f3 e03 ?_)
          have ey : lv_DL l k (lv_D (l + k + 1) (b + 1) (lv_d (l + k + 1) (b + 1) y)) = tgt := ey
          rw [ez] at ey
          exact ey
      exact inner 7 x M1 (by decide) hwx hx fx e0x ex
  have fl_u : ∀ m b (x : sn), a_fl (lv_u m b x).2 = a_fl x.2 := by
    intro m b x
    have key : ∀ A : sa, a_fl (a_act A b).2 = a_fl A := by
      intro A
      have e := a_act_fl A b (a_fl A)
      have e2 : a_sfl A (a_fl A) = A := rfl
      rw [e2] at e
      have e3 := congrArg (fun q => a_fl q.2) e
      exact e3
    unfold lv_u
    split
    · exact key _
    · rfl
  by_cases c : l ≤ f
  · refine bk_M_level_29 l 0 (f + 1) none (by omega) (by omega) h0.hs ⟨fun _ => ?_, fun q => absurd (by omega) q⟩
    refine bk_M_level_104 l 0 _ none (f := f) (by rw [h0.2.2.2.1, hf9]) h0.hs ?_
    rw [show l - f = 0 by omega] at hT
    have := down (f - l) (0, A) M0 none (by omega) hw h0 f1 e0 hT
    rw [show l + (f - l) = f by omega] at this
    exact this
  · rw [show f - l = 0 by omega] at hT
    have hT : lv_UL (f + 1) (l - f) (0, A) = tgt := hT
    have up : ∀ k m (x : sn) (M1 : bh_M) (w4 : Option bh_V), m + k = l + 1 → WA x.2 → RM M1 x.2 → fr_P M M1 → bh_I M1 40 1 0 = 0 → a_fl x.2 = f → lv_UL m k x = tgt → bh_wp (bh_tb T_M_level) (29, [some (.inr (40, 1)), some (.inl (.int (nI l))), some (.inl (.int x.1)), some (.inl (.int (nI m))), w4], [], M1, 0) Z := by
      intro k
      induction k with
      | zero =>
        intro m x M1 w4 hm hwx hx fx e0x efx ex
        refine bk_M_level_29 l x.1 m w4 (by omega) (by omega) hx.hs ⟨fun _ => ?_, fun q => absurd (by omega) q⟩
        refine bk_M_level_104 l x.1 _ w4 (f := f) (by rw [hx.2.2.2.1, efx]) hx.hs ?_
        refine bk_M_level_109 l x.1 f w4 (by omega) (by omega) hx.hs ⟨fun _ => ?_, fun q => absurd (by omega) q⟩
        have ex : x = tgt := ex
        rw [← ex] at hz
        exact hz M1 hx fx e0x
      | succ k ih =>
        intro m x M1 w4 hm hwx hx fx e0x efx ex
        refine bk_M_level_29 l x.1 m w4 (by omega) (by omega) hx.hs ⟨fun q => absurd q (by omega), fun _ => ?_⟩
        have ex : lv_UL (m + 1) k (lv_U m 8 x) = tgt := ex
        have inner : ∀ k' b (y : sn) (M2 : bh_M), b + k' = 8 → WA y.2 → RM M2 y.2 → fr_P M M2 → bh_I M2 40 1 0 = 0 → a_fl y.2 = f → lv_UL (m + 1) k (lv_U m k' y) = tgt → bh_wp (bh_tb T_M_level) (37, [some (.inr (40, 1)), some (.inl (.int (nI l))), some (.inl (.int y.1)), some (.inl (.int (nI m))), some (.inl (.int (nI b)))], [], M2, 0) Z := by
          intro k'
          induction k' with
          | zero =>
            intro b y M2 hb hwy hy fy e0y efy ey
            have : b = 8 := by omega
            subst this
            exact bx_M_level_37 l y.1 m hy.hs (ih (m + 1) y M2 _ (by omega) hwy hy fy e0y efy ey)
          | succ k' ih' =>
            intro b y M2 hb hwy hy fy e0y efy ey
            have hb8 : b < 8 := by omega
            have ey : lv_UL (m + 1) k (lv_U m k' (lv_u m (7 - k') y)) = tgt := ey
            rw [show 7 - k' = b by omega] at ey
            have hwu : WA (lv_u m b y).2 := wa_u hb8 hwy
            have hfu : a_fl (lv_u m b y).2 = f := (fl_u m b y).trans efy
            have nx : ∀ (z : sn) M3, lv_u m b y = z → RM M3 z.2 → fr_P M M3 → bh_I M3 40 1 0 = 0 → bh_wp (bh_tb T_M_level) (37, [some (.inr (40, 1)), some (.inl (.int (nI l))), some (.inl (.int z.1)), some (.inl (.int (nI m))), some (.inl (.int (nI (b + 1))))], [], M3, 0) Z := by
              intro z M3 ez hz3 fz e0z
              rw [ez] at ey hwu hfu
              exact ih' (b + 1) z M3 (by omega) hwu hz3 fz e0z hfu ey
            refine bl_M_level_37 l y.1 m b hb8 hy.hs ?_
            obtain ⟨t1, t2⟩ := hy.stv hb8
            rw [t1, show (1 : Int32) = nI 1 from rfl, show (2 : Int32) = nI 2 from rfl, bn_lt (by omega) (by decide), bn_lt (by decide) (by omega)]
            refine ⟨fun q => nx y M2 (if_neg (fun c => c.2.2.2 (by omega))) hy fy e0y, fun q => ⟨fun q2 => nx y M2 (if_neg (fun c => c.2.2.1 (by omega))) hy fy e0y, fun q2 => ?_⟩⟩
            have hn0 : ¬ a_st y.2 b = 0 := by omega
            have hl5 := ((hwy.2.1 b hb8).2.2.2 hn0)
            obtain ⟨z1, z2, z3, z4⟩ := hy.2.1 b hb8 hn0
            rw [z3, z1, bI_0, bn_inj (by omega) (by omega)]
            refine ⟨fun q3 => nx y M2 (if_neg (fun c => by rw [q3] at c; cases c.1)) hy fy e0y, fun q3 => ⟨fun q4 => nx y M2 (if_neg (fun c => q4 c.2.1)) hy fy e0y, fun q4 => ?_⟩⟩
            have q3 : a_wa y.2 b = true := by simpa using q3
            have eu : lv_u m b y = (if (a_act y.2 b).1 = 1 then y.1 + 1 else y.1, (a_act y.2 b).2) := if_pos ⟨q3, Decidable.of_not_not q4, by omega, hn0⟩
            refine cr_starting hb8 hy hn0 hl5.2.2.1 hwy.1 hwy.2.2.2.1 (fun M3 h3 f3 => ?_)
            have hc := a_act_c (A := y.2) hb8 (fun o ho => (hy.stv ho).2) hwy.1
            refine bk_M_level_86 l y.1 m b _ h3.hs ?_
            rw [s_code_0 hc]
            refine ⟨fun q5 => ?_, fun q5 => ?_⟩
            · rw [if_neg q5] at eu
              exact nx (y.1, (a_act y.2 b).2) M3 eu h3 (fr_P_trans fy f3.1) (f3.2.trans e0y)
            · rw [if_pos (Decidable.of_not_not q5)] at eu
              exact nx _ M3 eu h3 (fr_P_trans fy f3.1) (f3.2.trans e0y)
        exact inner 8 0 x M1 (by omega) hwx hx fx e0x efx ex
    exact up (l - f) (f + 1) (0, A) M0 none (by omega) hw h0 f1 e0 hf9 hT
