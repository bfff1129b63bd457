/-! REFRESH, the class -/
theorem RC.un {M : bh_M} {A : sa} (h : RC M A) {b : Nat} (h0 : ¬ a_st A b = 0) : RC (bm_fill (bh_sI M 5 (b + 1) 3 1) 6 (b + 1) 3 (-1)) (a_un A b) := by
  have h1 := h.sst (i := b) (v := 1) (by decide) h0
  obtain ⟨g1, g2, g3, g4, g5, g6, g7, g8⟩ := h1
  refine ⟨fun x hx => ?_, g2, g3, g4, g5, g6, g7, g8⟩
  obtain ⟨y1, y2, y3, y4, y5, y6⟩ := g1 x hx
  refine ⟨y1, y2, y3, y4, y5, fun k hk => ?_⟩
  have e : a_w (a_un A b) x k = if x = b then none else a_w A x k := rfl
  rw [e, bh_I_fill]
  by_cases c : x = b
  · rw [if_pos c, if_pos ⟨rfl, by omega, hk⟩]
    exact ⟨rfl, fun o l q => by cases q⟩
  · rw [if_neg c, if_neg (fun q => c (by omega))]
    exact y6 k hk
theorem RC.n3 {M : bh_M} {A : sa} (h : RC M A) : RC M (a_n3 A) := by
  obtain ⟨g1, g2, g3, g4, g5, g6, g7, g8⟩ := h
  refine ⟨fun x hx => ?_, g2, g3, g4, g5, g6, g7, g8⟩
  obtain ⟨y1, y2, y3, y4, y5, y6⟩ := g1 x hx
  refine ⟨y1, y2, y3, y4, y5, fun k hk => ?_⟩
  have e : a_w (a_n3 A) x k = a_w A x k := if_neg (by omega)
  rw [e]
  exact y6 k hk
theorem cc_isOld {M : bh_M} {Z : bh_F → Prop} {d : sd} {w : sw} (h : rdC M d w) (hs : bh_stat M.2.2.2) {o l : Nat} (ho : o < 8) (hl : l ≤ 1000) (hz : Z (.inl (some (.inl (.int (bI (d_old d o l))))), M)) : F_H_isOld [.inr (3, 1), .inl (.int (nI (o + 8 * l)))] M Z := by
  have hlf := (h o ho).1.2.2.2.2
  refine ct_H_isOld _ hs ?_
  rw [bn_port ho hl, bn_clamp ho rfl, hlf.1, bn_inj (by omega) (by omega), h.lv ho]
  unfold d_old at hz
  refine ⟨bn_0le (by omega), bn_in ho rfl, fun q1 => ?_, fun q1 => ⟨fun q2 => ?_, fun q2 => ?_⟩⟩
  · rw [decide_eq_false (show ¬ l = d_lf d o by omega)] at hz
    exact hz
  · rw [q2, Bool.and_false] at hz
    exact hz
  · have q2 : d_live d o = true := by simpa using q2
    rw [decide_eq_true (show l = d_lf d o by omega), q2] at hz
    exact hz
theorem cc_isIn {M : bh_M} {Z : bh_F → Prop} {s b : Nat} (h8 : s < 256) (hb : b < 8) (hs : bh_stat M.2.2.2) (hz : Z (.inl (some (.inl (.int (bI (s.testBit b))))), M)) : F_H_isIn [.inl (.int (nI s)), .inl (.int (nI b))] M Z := by
  have e := bit_in ⟨s, h8⟩ ⟨b, hb⟩
  refine ct_H_isIn _ _ hs ⟨fun q => ?_, fun q => ?_⟩
  · rw [e.mp q] at hz
    exact hz
  · have : s.testBit b = true := by
      cases c : s.testBit b with
      | true => rfl
      | false => exact absurd (e.mpr c) q
    rw [this] at hz
    exact hz
theorem cc_leansOnStale {M : bh_M} {Z : bh_F → Prop} {d : sd} {w : sw} {b s : Nat} (hb : b < 8) (h8 : s < 256) (h : rdC M d w) (hs : bh_stat M.2.2.2) (hz : Z (.inl (some (.inl (.int (bI (bh_any (rf_c d w s b) 3))))), M)) : F_H_leansOnStale [.inr (3, 1), .inr (5, b + 1), .inl (.int (nI s))] M Z := by
  refine be_H_leansOnStale s hb hs ?_
  refine bh_lpW (T := bh_tb T_H_leansOnStale) (Z := Z) 2 3 (fun k (w4 : Option bh_V) => ([some (.inr (3, 1)), some (.inr (5, b + 1)), some (.inl (.int (nI s))), some (.inl (.int (nI k))), w4], [], M, 0)) (fun k _ => ∀ x, x < k → rf_c d w s b x = false) (fun k w4 hk hv nx => ?_) (fun w4 hv => bx_H_leansOnStale_2 s w4 hb hs (by rw [bh_any_false hv] at hz; exact hz)) none (fun x hx => absurd hx (Nat.not_lt_zero x))
  have no : ∀ w4, rf_c d w s b k = false → bh_wp (bh_tb T_H_leansOnStale) (2, [some (.inr (3, 1)), some (.inr (5, b + 1)), some (.inl (.int (nI s))), some (.inl (.int (nI (k + 1)))), w4], [], M, 0) Z := fun w4 q => nx w4 (bh_any_up hv q)
  have yes : rf_c d w s b k = true → Z (.inl (some (.inl (.int 1))), M) := fun q => by
    rw [bh_any_true hk q] at hz
    exact hz
  obtain ⟨w1, w2⟩ := (h b hb).2.2.2.2.2 k hk
  refine bl_H_leansOnStale_2 s k w4 hb hk hs ?_
  rw [w1]
  cases e : w b k with
  | none => exact ⟨fun _ => no _ (by unfold rf_c; rw [e]), fun q => absurd rfl q⟩
  | some ol =>
    obtain ⟨o, l⟩ := ol
    obtain ⟨ho, hl⟩ := w2 o l e
    have ec : rf_c d w s b k = (d_old d o l || s.testBit o) := by unfold rf_c; rw [e]
    refine ⟨fun q => absurd q (bn_not_neg1 (by omega)), fun _ => ?_⟩
    refine cc_isOld h hs ho hl ?_
    refine bk_H_leansOnStale_27 s k _ _ hb hs ⟨fun q => yes ?_, fun q => ?_⟩
    · rw [ec]
      cases c : d_old d o l with
      | true => rfl
      | false => exact absurd (by rw [c]; rfl) q
    · have c : d_old d o l = false := bI_0.mp (Decidable.of_not_not q)
      refine ct_H_ownerOf _ hs ⟨bn_0le (by omega), ?_⟩
      rw [show w_enc (some (o, l)) = nI (o + 8 * l) from rfl, bn_port ho hl]
      refine bk_H_leansOnStale_36 s k _ o s hb hs ?_
      refine cc_isIn h8 ho hs ?_
      refine bk_H_leansOnStale_39 s k _ _ hb hs ⟨fun q2 => no _ ?_, fun q2 => yes ?_⟩
      · rw [ec, c, bI_0.mp q2]
        rfl
      · rw [ec]
        cases c2 : s.testBit o with
        | true => rw [Bool.or_true]
        | false => exact absurd (by rw [c2]; rfl) q2
theorem cc_staleBundles {M : bh_M} {Z : bh_F → Prop} {d : sd} {w : sw} (h : rdC M d w) (hs : bh_stat M.2.2.2) (hz : Z (.inl (some (.inl (.int (nI (rf_R d w 8))))), M)) : F_H_staleBundles [.inr (3, 1)] M Z := by
  refine be_H_staleBundles hs ?_
  refine bh_lpW (T := bh_tb T_H_staleBundles) (Z := Z) 4 8 (fun r (w3 : Option bh_V) => ([some (.inr (3, 1)), some (.inl (.int (nI (rf_R d w r)))), some (.inl (.int (nI r))), w3], [], M, 0)) (fun _ _ => True) (fun r w3 hr _ nx => ?_) (fun w3 _ => bx_H_staleBundles_4 _ w3 hs hz) none trivial
  refine bl_H_staleBundles_4 _ r w3 hr hs ?_
  refine bh_lp (T := bh_tb T_H_staleBundles) (Z := Z) 12 8 (fun b => ([some (.inr (3, 1)), some (.inl (.int (nI (rf_B d w b (rf_R d w r))))), some (.inl (.int (nI r))), some (.inl (.int (nI b)))], [], M, 0)) (fun _ => True) (fun b hb _ nb => ?_) (fun _ => bx_H_staleBundles_12 _ r hs (nx _ trivial)) trivial
  have hlt : rf_B d w b (rf_R d w r) < 256 := rf_B_lt b (rf_R_lt r) (by omega)
  refine bl_H_staleBundles_12 _ r b hb hs ?_
  refine cc_leansOnStale hb hlt h hs ?_
  have nb : bh_wp (bh_tb T_H_staleBundles) (12, [some (.inr (3, 1)), some (.inl (.int (nI (rf_b d w b (rf_B d w b (rf_R d w r)))))), some (.inl (.int (nI r))), some (.inl (.int (nI (b + 1))))], [], M, 0) Z := nb trivial
  unfold rf_b at nb
  refine bk_H_staleBundles_29 _ r b _ hs ⟨fun q => ?_, fun q => ?_⟩
  · rw [bI_0.mp q, if_neg Bool.false_ne_true] at nb
    exact nb
  · have c : bh_any (rf_c d w (rf_B d w b (rf_R d w r)) b) 3 = true := by
      cases c : bh_any (rf_c d w (rf_B d w b (rf_R d w r)) b) 3 with
      | true => rfl
      | false => exact absurd (by rw [c]; rfl) q
    rw [c, if_pos rfl] at nb
    rw [show nI (rf_B d w b (rf_R d w r)) ||| (1 <<< (nI b &&& 31)) = nI (rf_B d w b (rf_R d w r) ||| 2 ^ b) from bit_or ⟨_, hlt⟩ ⟨b, hb⟩]
    exact nb
theorem wa_g {s b : Nat} {A : sa} (hb : b < 8) (h : WA A) : WA (rf_g s b A) := by
  unfold rf_g
  split
  · rename_i c
    refine wa_act hb h (fun q => ?_)
    have := ((h.2.1 b hb).2.2.1 q).1
    rw [c.2.1] at this
    cases this
  · exact h
theorem rf_g_ck (s b : Nat) (A : sa) : a_ck (rf_g s b A) = a_ck A := by
  unfold rf_g
  split
  · exact a_act_ck A b
  · rfl
theorem wr_refresh {A : sa} (h : WA A) : WR A (o_refresh A) := by
  obtain ⟨h1, -, h3⟩ := rf_u_wa h
  have key : ∀ k (B : sa), WA B → WA (rf_G (a_stale A) k B) ∧ a_ck (rf_G (a_stale A) k B) = a_ck B := by
    intro k
    induction k with
    | zero => exact fun B hB => ⟨hB, rfl⟩
    | succ k ih =>
      intro B hB
      obtain ⟨i1, i2⟩ := ih (rf_g (a_stale A) (7 - k) B) (wa_g (by omega) hB)
      exact ⟨i1, i2.trans (rf_g_ck _ _ _)⟩
  obtain ⟨k1, k2⟩ := key 8 _ h1
  refine ⟨k1, ?_⟩
  show a_ck (rf_G (a_stale A) 8 (a_n3 (rf_u (a_stale A) 8 (rf_s (a_stale A) 8 A)))) ≤ _
  rw [k2, h3]
  exact Nat.le_succ _
theorem cc_refresh {M : bh_M} {Z : bh_F → Prop} {A : sa} (h : RC M A) (hw : WA A) (hz : ∀ M', RC M' (o_refresh A).2.2 → fr_C M M' → Z (.inl (some (.inl (.int (o_refresh A).2.1))), M')) : F_H_refresh [.inr (3, 1)] M Z := by
  have hs := h.hs
  refine be_H_refresh hs ?_
  refine cc_staleBundles h.1 hs ?_
  have h8 : a_stale A < 256 := rf_R_lt 8
  have hlv : ∀ b, b < 8 → (a_stale A).testBit b = true → ¬ a_st A b = 0 := by
    intro b hb hx q
    have := rf_live hw.1 8 b hb hx
    unfold d_live at this
    rw [decide_eq_true_eq] at this
    have : 2 ≤ a_st A b := this
    omega
  obtain ⟨v1, v2, v3, v4, v5, v6, v7, v8⟩ := rf_s_keep (a_stale A) 8 A (Nat.le_refl _) hw
  obtain ⟨u1, u2, u3⟩ := rf_u_wa hw
  show bh_wp (bh_tb T_H_refresh) (4, [some (.inr (3, 1)), none, none], [.inl (.int (nI (a_stale A)))], M, 0) Z
  have hz : ∀ M', RC M' (rf_G (a_stale A) 8 (a_n3 (rf_u (a_stale A) 8 (rf_s (a_stale A) 8 A)))) → fr_C M M' → Z (.inl (some (.inl (.int (bh_cnt (fun b => (a_stale A).testBit b) 8)))), M') := hz
  generalize a_stale A = s at *
  refine bk_H_refresh_4 s hs ?_
  -- starting again
  have go3 : ∀ k b (B : sa) (M1 : bh_M), b + k = 8 → WA B → RC M1 B → fr_C M M1 → rf_G s k B = rf_G s 8 (a_n3 (rf_u s 8 (rf_s s 8 A))) → bh_wp (bh_tb T_H_refresh) (69, [some (.inr (3, 1)), some (.inl (.int (nI s))), some (.inl (.int (nI b)))], [], M1, 0) Z := by
    intro k
    induction k with
    | zero =>
      intro b B M1 hb hwB hB fB eB
      have : b = 8 := by omega
      subst this
      have eB : B = _ := eB
      rw [← eB] at hz
      exact bx_H_refresh_69 s hB.hs (cc_bitCount h8 hB.hs (bk_H_refresh_132 s _ hB.hs (hz M1 hB fB)))
    | succ k ih =>
      intro b B M1 hb hwB hB fB eB
      have hb8 : b < 8 := by omega
      have eB : rf_G s k (rf_g s (7 - k) B) = _ := eB
      rw [show 7 - k = b by omega] at eB
      have hwg := wa_g (s := s) hb8 hwB
      have nx : ∀ C M2, rf_g s b B = C → RC M2 C → fr_C M M2 → bh_wp (bh_tb T_H_refresh) (69, [some (.inr (3, 1)), some (.inl (.int (nI s))), some (.inl (.int (nI (b + 1))))], [], M2, 0) Z := by
        intro C M2 eC hC fC
        rw [eC] at eB hwg
        exact ih (b + 1) C M2 (by omega) hwg hC fC eB
      refine bl_H_refresh_69 s b hb8 hB.hs (cc_isIn h8 hb8 hB.hs ?_)
      refine bk_H_refresh_80 s b _ hb8 hB.hs ?_
      rw [(hB.2.1 b hb8).1, bI_0, bI_0, hB.2.2.2.2.1]
      refine ⟨fun q => nx B M1 (if_neg (fun c => by rw [q] at c; cases c.1)) hB fB, fun q => ⟨fun q2 => nx B M1 (if_neg (fun c => by rw [q2] at c; cases c.2.1)) hB fB, fun q2 => ?_⟩⟩
      have q : s.testBit b = true := by simpa using q
      have q2 : a_wa B b = true := by simpa using q2
      have h0 : ¬ a_st B b = 0 := fun c => by
        have := ((hwB.2.1 b hb8).2.2.1 c).1
        rw [q2] at this
        cases this
      have hl5 := (hwB.2.1 b hb8).2.2.2 h0
      rw [((hB.2.1 b hb8).2.2 h0).1, bn_lt (by have := hwB.2.2.1.2; omega) (by omega)]
      refine ⟨fun q3 => nx B M1 (if_neg (fun c => by have := c.2.2; omega)) hB fB, fun q3 => ?_⟩
      refine cc_activate hb8 hB h0 hl5.2.2.1 hwB.1 (fun M2 h2 f2 => ?_)
      exact bk_H_refresh_121 s b _ (a_act_c hb8 (fun o ho => (hB.st ho).2) hwB.1) h2.hs (nx _ M2 (if_pos ⟨q, q2, by omega⟩) h2 (fr_C_trans fB f2))
  -- unresolving
  have go2 : ∀ k b (M1 : bh_M), b + k = 8 → RC M1 (rf_u s b (rf_s s 8 A)) → fr_C M M1 → bh_wp (bh_tb T_H_refresh) (38, [some (.inr (3, 1)), some (.inl (.int (nI s))), some (.inl (.int (nI b)))], [], M1, 0) Z := by
    intro k
    induction k with
    | zero =>
      intro b M1 hb hB fB
      have : b = 8 := by omega
      subst this
      exact bx_H_refresh_38 s hB.hs (go3 8 0 _ M1 (by omega) u1 hB.n3 fB rfl)
    | succ k ih =>
      intro b M1 hb hB fB
      have hb8 : b < 8 := by omega
      have hs1 := hB.hs
      refine bl_H_refresh_38 s b hb8 hs1 (cc_isIn h8 hb8 hs1 ?_)
      refine bk_H_refresh_49 s b _ hb8 hs1 ⟨fun q => ih (b + 1) M1 (by omega) ?_ fB, fun q => ih (b + 1) _ (by omega) ?_ ?_⟩
      · have q := bI_0.mp q
        have e : rf_u s (b + 1) (rf_s s 8 A) = rf_u s b (rf_s s 8 A) := if_neg (by rw [q]; exact Bool.false_ne_true)
        rw [e]
        exact hB
      · have q : s.testBit b = true := by
          cases c : s.testBit b with
          | true => rfl
          | false => exact absurd (by rw [c]; rfl) q
        have e : rf_u s (b + 1) (rf_s s 8 A) = a_un (rf_u s b (rf_s s 8 A)) b := if_pos q
        rw [e]
        refine hB.un ?_
        rw [(rf_u_is s b (rf_s s 8 A)).1, if_neg (fun c => by omega), v8]
        exact hlv b hb8 q
      · have fa : fr_C M1 (bh_sI M1 5 (b + 1) 3 1) := fr_C_I hs1 ⟨by decide, by decide⟩ _ _ _
        exact fr_C_trans fB (fr_C_trans fa (fr_C_fill fa.2.2.2.2 ⟨by decide, by decide⟩ _ _ _))
  -- stopping
  have go1 : ∀ b (B : sa) (M1 : bh_M), b < 8 → RC M1 B → fr_C M M1 → rf_s s (b + 1) B = rf_s s 8 A → bh_wp (bh_tb T_H_refresh) (8, [some (.inr (3, 1)), some (.inl (.int (nI s))), some (.inl (.int (nI b)))], [], M1, 0) Z := by
    intro b
    have one : ∀ (b : Nat) (B : sa) (M1 : bh_M), b < 8 → RC M1 B → fr_C M M1 → (∀ C M2, (if s.testBit b = true ∧ a_st B b = 3 then a_stop B b else B) = C → RC M2 C → fr_C M M2 → bh_wp (bh_tb T_H_refresh) (30, [some (.inr (3, 1)), some (.inl (.int (nI s))), some (.inl (.int (nI b)))], [], M2, 0) Z) → bh_wp (bh_tb T_H_refresh) (8, [some (.inr (3, 1)), some (.inl (.int (nI s))), some (.inl (.int (nI b)))], [], M1, 0) Z := by
      intro b B M1 hb hB fB nx
      refine bl_H_refresh_8 s b hb hB.hs (cc_isIn h8 hb hB.hs ?_)
      refine bk_H_refresh_17 s b _ hb hB.hs ⟨fun q => nx B M1 (if_neg (fun c => by rw [bI_0.mp q] at c; cases c.1)) hB fB, fun q => ?_⟩
      have q : s.testBit b = true := by
        cases c : s.testBit b with
        | true => rfl
        | false => exact absurd (by rw [c]; rfl) q
      exact cc_deactivate hb hB (fun q2 M2 h2 f2 => nx _ M2 (if_pos ⟨q, q2⟩) h2 (fr_C_trans fB f2)) (fun q2 => nx B M1 (if_neg (fun c => q2 c.2)) hB fB)
    induction b with
    | zero =>
      intro B M1 hb hB fB eB
      refine one 0 B M1 hb hB fB (fun C M2 eC hC fC => ?_)
      have eB : (if s.testBit 0 = true ∧ a_st B 0 = 3 then a_stop B 0 else B) = _ := eB
      rw [eC] at eB
      subst eB
      exact bk0_H_refresh_30 s hC.hs (bx_H_refresh_8 s _ (by decide) hC.hs (go2 8 0 M2 (by omega) hC fC))
    | succ b ih =>
      intro B M1 hb hB fB eB
      refine one (b + 1) B M1 hb hB fB (fun C M2 eC hC fC => ?_)
      have eB : rf_s s (b + 1) (if s.testBit (b + 1) = true ∧ a_st B (b + 1) = 3 then a_stop B (b + 1) else B) = _ := eB
      rw [eC] at eB
      exact bk_H_refresh_30 s b hC.hs (ih C M2 (by omega) hC fC eB)
  exact go1 7 A M (by decide) h (fr_C_refl hs) rfl
