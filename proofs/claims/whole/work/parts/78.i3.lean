/-! THE REFERENCE: need, event, count, about -/
theorem RM.nee {M : bh_M} {A : sa} {b p lo hi : Nat} {op : Bool} (h : RM M A) (hb : b < 8) (hp : p < 8) (hl : lo ≤ 9) (hh : hi ≤ 9) (hn : d_ni (a_d A) b < 3) (hno : d_imp (a_d A) b p = none) : RM (bh_sI (bh_sI (bh_sI (bh_sI (bh_sI M 53 1 (3 * b + d_ni (a_d A) b) (nI p)) 54 1 (3 * b + d_ni (a_d A) b) (nI lo)) 55 1 (3 * b + d_ni (a_d A) b) (nI hi)) 56 1 (3 * b + d_ni (a_d A) b) (bI op)) 52 1 b (nI (d_ni (a_d A) b + 1))) (a_need A b p lo hi op) := by
  obtain ⟨⟨τ, h1, h2⟩, h3, h4, h5, h6, h7, h8⟩ := h
  have en : ∀ x, d_ni (a_d (a_need A b p lo hi op)) x = if x = b then d_ni (a_d A) x + 1 else d_ni (a_d A) x := fun _ => rfl
  have e1 : ∀ x k, d_ip (a_d (a_need A b p lo hi op)) x k = if x = b ∧ k = d_ni (a_d A) x then p else d_ip (a_d A) x k := fun _ _ => rfl
  have e2 : ∀ x k, d_lo (a_d (a_need A b p lo hi op)) x k = if x = b ∧ k = d_ni (a_d A) x then lo else d_lo (a_d A) x k := fun _ _ => rfl
  have e3 : ∀ x k, d_hi (a_d (a_need A b p lo hi op)) x k = if x = b ∧ k = d_ni (a_d A) x then hi else d_hi (a_d A) x k := fun _ _ => rfl
  have e4 : ∀ x k, d_op (a_d (a_need A b p lo hi op)) x k = if x = b ∧ k = d_ni (a_d A) x then op else d_op (a_d A) x k := fun _ _ => rfl
  have hnip : ∀ k, k < d_ni (a_d A) b → ¬ d_ip (a_d A) b k = p := by
    intro k hk q
    have hno : bh_ff (fun k => decide (d_ip (a_d A) b k = p)) (d_ni (a_d A) b) = none := hno
    unfold bh_ff at hno
    rw [List.find?_eq_none] at hno
    exact hno k (List.mem_range.mpr hk) (decide_eq_true q)
  refine ⟨⟨τ, ⟨h1.1, h1.2.1, fun x hx => ?_⟩, h2⟩, h3, ?_, h5, h6, h7, h8⟩
  · obtain ⟨y1, y2, ⟨c1, c2, c3, c4⟩, y4⟩ := h1.2.2 x hx
    have r52 : bh_I (bh_sI (bh_sI (bh_sI (bh_sI (bh_sI M 53 1 (3 * b + d_ni (a_d A) b) (nI p)) 54 1 (3 * b + d_ni (a_d A) b) (nI lo)) 55 1 (3 * b + d_ni (a_d A) b) (nI hi)) 56 1 (3 * b + d_ni (a_d A) b) (bI op)) 52 1 b (nI (d_ni (a_d A) b + 1))) 52 1 x = if x = b then nI (d_ni (a_d A) b + 1) else bh_I M 52 1 x := by
      simp [bh_I_sI]
    have r53 : ∀ c, bh_I (bh_sI (bh_sI (bh_sI (bh_sI (bh_sI M 53 1 (3 * b + d_ni (a_d A) b) (nI p)) 54 1 (3 * b + d_ni (a_d A) b) (nI lo)) 55 1 (3 * b + d_ni (a_d A) b) (nI hi)) 56 1 (3 * b + d_ni (a_d A) b) (bI op)) 52 1 b (nI (d_ni (a_d A) b + 1))) 53 1 c = if c = 3 * b + d_ni (a_d A) b then nI p else bh_I M 53 1 c := by
      intro c
      simp [bh_I_sI]
    have r54 : ∀ c, bh_I (bh_sI (bh_sI (bh_sI (bh_sI (bh_sI M 53 1 (3 * b + d_ni (a_d A) b) (nI p)) 54 1 (3 * b + d_ni (a_d A) b) (nI lo)) 55 1 (3 * b + d_ni (a_d A) b) (nI hi)) 56 1 (3 * b + d_ni (a_d A) b) (bI op)) 52 1 b (nI (d_ni (a_d A) b + 1))) 54 1 c = if c = 3 * b + d_ni (a_d A) b then nI lo else bh_I M 54 1 c := by
      intro c
      simp [bh_I_sI]
    have r55 : ∀ c, bh_I (bh_sI (bh_sI (bh_sI (bh_sI (bh_sI M 53 1 (3 * b + d_ni (a_d A) b) (nI p)) 54 1 (3 * b + d_ni (a_d A) b) (nI lo)) 55 1 (3 * b + d_ni (a_d A) b) (nI hi)) 56 1 (3 * b + d_ni (a_d A) b) (bI op)) 52 1 b (nI (d_ni (a_d A) b + 1))) 55 1 c = if c = 3 * b + d_ni (a_d A) b then nI hi else bh_I M 55 1 c := by
      intro c
      simp [bh_I_sI]
    have r56 : ∀ c, bh_I (bh_sI (bh_sI (bh_sI (bh_sI (bh_sI M 53 1 (3 * b + d_ni (a_d A) b) (nI p)) 54 1 (3 * b + d_ni (a_d A) b) (nI lo)) 55 1 (3 * b + d_ni (a_d A) b) (nI hi)) 56 1 (3 * b + d_ni (a_d A) b) (bI op)) 52 1 b (nI (d_ni (a_d A) b + 1))) 56 1 c = if c = 3 * b + d_ni (a_d A) b then bI op else bh_I M 56 1 c := by
      intro c
      simp [bh_I_sI]
    by_cases c : x = b
    · subst c
      refine ⟨y1, y2, ?_, fun k hk => ?_⟩
      · rw [r52, if_pos rfl, en, if_pos rfl]
        refine ⟨rfl, by omega, fun k hk => ?_, fun k k' hk hk' q => ?_⟩
        · rw [r53, r54, r55, r56, e1, e2, e3, e4]
          by_cases ck : k = d_ni (a_d A) x
          · have ca : x = x ∧ k = d_ni (a_d A) x := ⟨rfl, ck⟩
            have cb : 3 * x + k = 3 * x + d_ni (a_d A) x := by omega
            rw [if_pos ca, if_pos ca, if_pos ca, if_pos ca, if_pos cb, if_pos cb, if_pos cb, if_pos cb]
            exact ⟨rfl, hp, rfl, hl, rfl, hh, rfl⟩
          · have ca : ¬ (x = x ∧ k = d_ni (a_d A) x) := fun q => ck q.2
            have cb : ¬ 3 * x + k = 3 * x + d_ni (a_d A) x := by omega
            rw [if_neg ca, if_neg ca, if_neg ca, if_neg ca, if_neg cb, if_neg cb, if_neg cb, if_neg cb]
            exact c3 k (by omega)
        · rw [e1, e1] at q
          by_cases ck : k = d_ni (a_d A) x
          · by_cases ck' : k' = d_ni (a_d A) x
            · omega
            · rw [if_pos ⟨rfl, ck⟩, if_neg (fun q => ck' q.2)] at q
              exact absurd q.symm (hnip k' (by omega))
          · by_cases ck' : k' = d_ni (a_d A) x
            · rw [if_neg (fun q => ck q.2), if_pos ⟨rfl, ck'⟩] at q
              exact absurd q (hnip k (by omega))
            · rw [if_neg (fun q => ck q.2), if_neg (fun q => ck' q.2)] at q
              exact c4 k k' (by omega) (by omega) q
      · obtain ⟨z1, z2⟩ := y4 k hk
        have z3 : ∀ o l, a_w A x k = some (o, l) → o < 8 ∧ l ≤ d_lf (a_d A) o ∧ k < d_ni (a_d (a_need A x p lo hi op)) x := by
          intro o l q
          obtain ⟨u1, u2, u3⟩ := z2 o l q
          refine ⟨u1, u2, ?_⟩
          rw [en, if_pos rfl]
          omega
        refine ⟨?_, z3⟩
        show bh_J M 57 1 (3 * x + k) = p_enc τ (d_ip (a_d (a_need A x p lo hi op)) x k) (a_w A x k)
        rw [z1, e1]
        by_cases ck : k = d_ni (a_d A) x
        · cases ew : a_w A x k with
          | none => rfl
          | some ol =>
            have := (z2 ol.1 ol.2 ew).2.2
            omega
        · rw [if_neg (fun q => ck q.2)]
    · have n1 : ∀ k, d_ip (a_d (a_need A b p lo hi op)) x k = d_ip (a_d A) x k := fun k => by rw [e1, if_neg (fun q => c q.1)]
      refine ⟨y1, y2, ?_, fun k hk => ?_⟩
      · rw [r52, if_neg c, en, if_neg c]
        refine ⟨c1, c2, fun k hk => ?_, fun k k' hk hk' q => ?_⟩
        · have ca : ¬ (x = b ∧ k = d_ni (a_d A) x) := fun q => c q.1
          have cb : ¬ 3 * x + k = 3 * b + d_ni (a_d A) b := by omega
          rw [r53, r54, r55, r56, e1, e2, e3, e4, if_neg ca, if_neg ca, if_neg ca, if_neg ca, if_neg cb, if_neg cb, if_neg cb, if_neg cb]
          exact c3 k hk
        · rw [n1, n1] at q
          exact c4 k k' hk hk' q
      · rw [n1, en, if_neg c]
        exact y4 k hk
  · exact ag_no (ag_no (ag_no (ag_no (ag_no h4 (by decide) (fun q => absurd q (by decide))) (by decide) (fun q => absurd q (by decide))) (by decide) (fun q => absurd q (by decide))) (by decide) (fun q => absurd q (by decide))) (by decide) (fun q => absurd q (by decide))
theorem cr_need {M : bh_M} {Z : bh_F → Prop} {A : sa} (h : RM M A) (a p lo hi : Int32) (op : Bool) (hz : zr Z M (o_need A a p lo hi op)) : F_M_need [.inr (40, 1), .inl (.int a), .inl (.int p), .inl (.int lo), .inl (.int hi), .inl (.int (bI op))] M Z := by
  have hs := h.hs
  have h0 := h.th 0
  have bad1 : ¬ (¬ a < 0 ∧ a ≤ 7) → Z (.inl (some (.inl (.int 0))), bh_sI (bh_sI M 40 1 0 0) 40 1 0 1) := by
    intro q
    have e : o_need A a p lo hi op = (1, 0, A) := by
      unfold o_need
      rw [o_b_out q]
      unfold o_c
      split <;> rfl
    rw [e] at hz
    exact zr_raise 1 hz h0 (fr_P_0 M)
  have bad2 : ¬ ((¬ p < 0 ∧ p ≤ 7) ∧ (¬ lo < 0 ∧ lo ≤ 9) ∧ (¬ hi < 0 ∧ hi ≤ 9)) → Z (.inl (some (.inl (.int 0))), bh_sI (bh_sI M 40 1 0 0) 40 1 0 1) := by
    intro q
    rw [show o_need A a p lo hi op = (1, 0, A) from o_c_out q] at hz
    exact zr_raise 1 hz h0 (fr_P_0 M)
  refine be_M_need a p lo hi (bI op) hs ⟨fun q => bad1 (fun c => c.1 q), fun q0 => ⟨fun q1 => bad1 (fun c => i_le.mpr c.2 q1), fun q1 => ⟨fun q => bad2 (fun c => c.1.1 q), fun r0 => ⟨fun r1 => bad2 (fun c => i_le.mpr c.1.2 r1), fun r1 => ⟨fun q => bad2 (fun c => c.2.1.1 q), fun s0 => ⟨fun s1 => bad2 (fun c => i_le.mpr c.2.1.2 s1), fun s1 => ⟨fun q => bad2 (fun c => c.2.2.1 q), fun t0 => ⟨fun t1 => bad2 (fun c => i_le.mpr c.2.2.2 t1), fun t1 => ?_⟩⟩⟩⟩⟩⟩⟩⟩
  have q1 := i_le.mp q1
  have r1 := i_le.mp r1
  have s1 := i_le.mp s1
  have t1 := i_le.mp t1
  obtain ⟨b, hb, rfl⟩ := i_nat (N := 7) q0 q1 (by decide)
  have hb : b < 8 := by omega
  have e1 : o_need A (nI b) p lo hi op = _ := o_c_in ⟨⟨r0, r1⟩, ⟨s0, s1⟩, t0, t1⟩
  rw [e1] at hz
  clear e1 bad1 bad2
  obtain ⟨y, hy, rfl⟩ := i_nat (N := 7) r0 r1 (by decide)
  obtain ⟨l, hl, rfl⟩ := i_nat (N := 9) s0 s1 (by decide)
  obtain ⟨m9, hm, rfl⟩ := i_nat (N := 9) t0 t1 (by decide)
  have hp8 : y < 8 := by omega
  rw [bn_clamp (N := 8) hp8 rfl, bn_clamp (N := 10) (show l < 10 by omega) rfl, bn_clamp (N := 10) (show m9 < 10 by omega) rfl] at hz
  refine bk_M_need_49 b y _ _ _ hb hp8 h0.hs ?_
  rw [show bh_I (bh_sI M 40 1 0 0) 41 1 b = 0 ↔ a_st A b = 0 from h0.stq hb 0 (by decide), show bh_I (bh_sI M 40 1 0 0) 41 1 b = 1 ↔ a_st A b = 1 from h0.stq hb 1 (by decide)]
  refine ⟨fun q3 => ?_, fun q3 => ?_⟩
  · rw [o_b_in hb q3] at hz
    refine ⟨fun q5 => ?_, fun q5 => ?_⟩
    · rw [if_neg (fun c => c q5)] at hz
      obtain ⟨τ, g1, -⟩ := h0.1
      obtain ⟨-, -, ⟨c1, c2, c3, -⟩, -⟩ := g1.2.2 b hb
      have four : (d_ni (a_d A) b = 3 ∨ (d_imp (a_d A) b y).isSome = true) → Z (.inl (some (.inl (.int 0))), bh_sI (bh_sI M 40 1 0 0) 40 1 0 4) := by
        intro q
        rw [if_pos q] at hz
        exact zr_raise 4 hz h0 (fr_P_0 M)
      have key : ∀ m j, j + m = d_ni (a_d A) b → (∀ j', j' < j → ¬ d_ip (a_d A) b j' = y) → bh_wp (bh_tb T_M_need) (85, [some (.inr (40, 1)), some (.inl (.int (nI b))), some (.inl (.int (nI y))), some (.inl (.int (nI l))), some (.inl (.int (nI m9))), some (.inl (.int (bI op))), some (.inl (.int (nI (3 * b + j))))], [], bh_sI M 40 1 0 0, 0) Z := by
        intro m
        induction m with
        | succ m ih =>
          intro j ej hj
          obtain ⟨d1, d2, -⟩ := c3 j (by omega)
          refine bl_M_need_85 b y _ _ _ j hb c1 (by omega) hp8 (by omega) d2 d1 h0.hs ⟨fun q => ih (j + 1) (by omega) (fun j' hj' => ?_), fun q => four (Or.inr ?_)⟩
          · by_cases cj : j' = j
            · subst cj
              exact q
            · exact hj j' (by omega)
          · rw [show d_imp (a_d A) b y = some j from bh_ff_some (by omega) (decide_eq_true (Decidable.of_not_not q)) (fun j' hj' => decide_eq_false (hj j' hj'))]
            rfl
        | zero =>
          intro j ej hj
          have : j = d_ni (a_d A) b := by omega
          subst this
          have hno : d_imp (a_d A) b y = none := bh_ff_none (fun k hk => decide_eq_false (hj k hk))
          refine bx_M_need_85 b y _ _ _ hb c1 (by omega) hp8 h0.hs ?_
          refine bk_M_need_123 b y _ _ _ _ hb c1 (by omega) hp8 h0.hs ⟨fun q => ?_, fun q => four (Or.inl (by omega))⟩
          have hn3 : d_ni (a_d A) b < 3 := by omega
          rw [if_neg (by rw [hno]; rintro (c | c); omega; cases c)] at hz
          refine bk_M_need_139 b y _ _ _ _ hb c1 (by omega) hp8 hn3 h0.hs ⟨by cases op <;> simp [bI], ?_⟩
          rw [show bh_I (bh_sI (bh_sI (bh_sI (bh_sI (bh_sI (bh_sI M 40 1 0 0) 53 1 (3 * b + d_ni (a_d A) b) (nI y)) 54 1 (3 * b + d_ni (a_d A) b) (nI l)) 55 1 (3 * b + d_ni (a_d A) b) (nI m9)) 56 1 (3 * b + d_ni (a_d A) b) (bI op)) 52 1 b (nI (d_ni (a_d A) b + 1))) 52 1 b = nI (d_ni (a_d A) b + 1) from if_pos ⟨rfl, rfl, rfl⟩]
          exact zr_ok hz (h0.nee hb hp8 hl hm hn3 hno) (fr_P_trans (fr_P_trans (fr_P_trans (fr_P_trans (fr_P_trans (fr_P_0 M) (fr_P_I _ (t := 53) ⟨by decide, by decide⟩ _ _ _)) (fr_P_I _ (t := 54) ⟨by decide, by decide⟩ _ _ _)) (fr_P_I _ (t := 55) ⟨by decide, by decide⟩ _ _ _)) (fr_P_I _ (t := 56) ⟨by decide, by decide⟩ _ _ _)) (fr_P_I _ (t := 52) ⟨by decide, by decide⟩ _ _ _)) rfl
      exact key (d_ni (a_d A) b) 0 (by omega) (fun j' hj' => absurd hj' (Nat.not_lt_zero _))
    · rw [if_pos q5] at hz
      exact zr_raise 3 hz h0 (fr_P_0 M)
  · have q3 := Decidable.of_not_not q3
    rw [o_b_0 hb q3] at hz
    exact zr_raise 2 hz h0 (fr_P_0 M)
theorem cr_event {M : bh_M} {Z : bh_F → Prop} {A : sa} (h : RM M A) (hw : WA A) (hz : zr Z M (o_event A)) : F_M_event [.inr (40, 1)] M Z := by
  have hs := h.hs
  obtain ⟨⟨k, k1, k2⟩, -⟩ := hw.2.2.2.1
  have ek : a_k A = k := by
    unfold a_k
    rw [k2]
    exact bn_clamp (N := 11) (by omega) rfl
  have h0 := h.th 0
  unfold o_event at hz
  rw [ek] at hz
  refine be_M_event (k := k) (by rw [h.2.2.1.2.1 37 (by decide) (by decide)]; exact k2) (by omega) hs ⟨fun q => ?_, fun q => ?_⟩
  · rw [if_neg q] at hz
    rw [show (nI k - 1 : Int32) = nI (k - 1) from bn_sub (a := k) (b := 1) (by omega), h.2.2.1.1 70 (by decide)]
    have hR : ∀ M1, fr_N (bh_sI M 40 1 0 0) M1 → ag M1 (sp_take (a_nu A) k) → Z (.inl (some (.inl (.int (bh_I (a_nu A) 70 1 0)))), M1) := fun M1 f g => zr_ok hz (h0.nu f g) (fr_P_trans (fr_P_0 M) f.O.1) f.O.2
    have hag := h0.2.2.1
    refine bh_lpW (T := bh_tb T_M_event) (Z := Z) 37 (k - 1) (fun i (M1 : bh_M) => ([some (.inr (40, 1)), some (.inl (.int (bh_I (a_nu A) 70 1 0))), some (.inl (.int (nI i)))], [], M1, 0)) (fun i M1 => fr_N (bh_sI M 40 1 0 0) M1 ∧ bh_I M1 40 1 37 = nI (k - 1) ∧ (∀ a, (a = 65 ∨ a = 66 ∨ a = 67 ∨ a = 69) → bh_I M1 a = bh_I (a_nu A) a) ∧ (∀ c, c = 34 ∨ c = 35 ∨ c = 36 ∨ c = 38 → bh_I M1 40 1 c = bh_I (a_nu A) 40 1 c) ∧ bh_D M1 68 = bh_D (a_nu A) 68 ∧ ∀ x c, bh_I M1 70 x c = if x = 1 ∧ c < i then bh_I (a_nu A) 70 1 (c + 1) else bh_I (a_nu A) 70 x c) (fun i M1 hi hv nx => ?_) (fun M1 hv => ?_) (bh_sI (bh_sI M 40 1 0 0) 40 1 37 (nI (k - 1))) ⟨fr_N_40 _ ⟨by decide, by decide⟩ _, rfl, fun a ha => ?_, fun c hc => ?_, hag.2.2, fun x c => ?_⟩
    · obtain ⟨v1, v2, v3, v4, v5, v6⟩ := hv
      have hs1 : bh_stat M1.2.2.2 := by rw [v1.2.2.2.2]; exact h0.hs
      refine bl_M_event_37 _ i v2 (by omega) hi (by omega) hs1 (nx _ ⟨fr_N_trans v1 (fr_N_I _ (by decide) _ _ _), v2, fun a ha => ?_, v4, v5, fun x c => ?_⟩)
      · rw [← v3 a ha]
        funext y c
        exact if_neg (fun q => by omega)
      · rw [bh_I_sI]
        by_cases c1 : x = 1 ∧ c = i
        · rw [if_pos ⟨rfl, c1⟩, v6 1 (i + 1), if_neg (fun q => by omega), if_pos ⟨c1.1, by omega⟩, c1.2]
        · rw [if_neg (fun q => c1 q.2), v6 x c]
          by_cases c2 : x = 1 ∧ c < i
          · rw [if_pos c2, if_pos ⟨c2.1, by omega⟩]
          · rw [if_neg c2, if_neg (fun q => by omega)]
    · obtain ⟨v1, v2, v3, v4, v5, v6⟩ := hv
      have hs1 : bh_stat M1.2.2.2 := by rw [v1.2.2.2.2]; exact h0.hs
      refine bx_M_event_37 _ (k - 1) v2 (by omega) hs1 (hR M1 v1 ⟨fun a ha => ?_, fun c c1 c2 => ?_, v5⟩)
      · by_cases c70 : a = 70
        · subst c70
          funext x c
          rw [v6]
          rfl
        · rw [v3 a (by omega)]
          funext x c
          exact (if_neg (fun q => by omega) : (if a = 40 ∧ x = 1 ∧ c = 37 then _ else bh_I (bm_A (a_nu A) 70 (fun x c => if x = 1 ∧ c < k - 1 then bh_I (a_nu A) 70 1 (c + 1) else bh_I (a_nu A) 70 x c)) a x c) = _).trans (if_neg c70) |>.symm
      · by_cases c37 : c = 37
        · subst c37
          exact v2
        · rw [v4 c (by omega)]
          exact (bh_I_fld c37).symm
    · rw [← hag.1 a (by omega)]
      funext y c
      exact if_neg (fun q => by omega)
    · rw [← hag.2.1 c (by omega) (by omega)]
      exact bh_I_fld (by omega)
    · rw [if_neg (fun q => by omega), ← hag.1 70 (by decide)]
      rfl
  · rw [if_pos (Decidable.of_not_not q)] at hz
    exact zr_raise 1 hz h0 (fr_P_0 M)
theorem cr_count {M : bh_M} {Z : bh_F → Prop} {A : sa} (h : RM M A) (a : Int32) (hz : zr Z M (o_count A a)) : F_M_count [.inr (40, 1), .inl (.int a)] M Z := by
  have h0 := h.th 0
  have hag := h.2.2.1
  refine ct_M_count a h.hs ⟨?_, ?_, ?_, ?_, ?_, ?_, ?_⟩
  · intro c
    subst c
    rw [h.2.2.2.1]
    exact zr_ok (show zr Z M (0, nI (a_fl A), A) from hz) h0 (fr_P_0 M) rfl
  · intro c
    subst c
    rw [hag.2.1 34 (by decide) (by decide)]
    exact zr_ok (show zr Z M (0, bh_I (a_nu A) 40 1 34, A) from hz) h0 (fr_P_0 M) rfl
  · intro c
    subst c
    rw [hag.2.1 37 (by decide) (by decide)]
    exact zr_ok (show zr Z M (0, bh_I (a_nu A) 40 1 37, A) from hz) h0 (fr_P_0 M) rfl
  · intro c
    subst c
    rw [hag.2.1 38 (by decide) (by decide)]
    exact zr_ok (show zr Z M (0, bh_I (a_nu A) 40 1 38, A) from hz) h0 (fr_P_0 M) rfl
  · intro c
    subst c
    rw [h.2.2.2.2.1]
    exact zr_ok (show zr Z M (0, nI (a_tr A), A) from hz) h0 (fr_P_0 M) rfl
  · intro c
    subst c
    rw [h.2.2.2.2.2.1]
    exact zr_ok (show zr Z M (0, a_tk A, A) from hz) h0 (fr_P_0 M) rfl
  · rintro ⟨c0, c1, c2, c3, c4, c5⟩
    have e : o_count A a = (1, 0, A) := by
      unfold o_count
      rw [if_neg c0, if_neg c1, if_neg c2, if_neg c3, if_neg c4, if_neg c5]
    rw [e] at hz
    exact zr_raise 1 hz h0 (fr_P_0 M)
theorem d_old_iff {d : sd} {w : sw} (hok : d_ok d w) {b k o l : Nat} (hb : b < 8) (hw : w b k = some (o, l)) : d_old d o l = true ↔ (d_st d o = 0 ∨ ¬ l = d_lf d o) := by
  obtain ⟨h1, h2, h3⟩ := hok.2 b k o l hb hw
  unfold d_old
  by_cases c : l = d_lf d o
  · rw [decide_eq_true c, Bool.true_and]
    rcases h3 c with q | q
    · rw [q]
      constructor
      · intro c2
        cases c2
      · rintro (c2 | c2)
        · unfold d_live at q
          rw [decide_eq_true_eq] at q
          omega
        · exact absurd c c2
    · have : d_live d o = false := by
        unfold d_live
        rw [q]
        rfl
      rw [this]
      exact ⟨fun _ => Or.inl q, fun _ => rfl⟩
  · rw [decide_eq_false c, Bool.false_and]
    exact ⟨fun _ => Or.inr c, fun _ => rfl⟩
theorem cr_old {M : bh_M} {Z : bh_F → Prop} {d : sd} {w : sw} {e : sx} {τ : Nat → Nat → Nat} {b k o l : Nat} (hb : b < 8) (hk : k < 3) (h : rdM M d w e τ) (hok : d_ok d w) (hw : w b k = some (o, l)) (hs : bh_stat M.2.2.2) (hz : Z (.inl (some (.inl (.int (bI (d_old d o l))))), M)) : F_M_old [.inr (40, 1), .inl (.long (p_enc τ (d_ip d b k) (some (o, l))))] M Z := by
  obtain ⟨g1, g2, g3⟩ := ((h.2.2 b hb).2.2.2 k hk).2 o l hw
  have hτ := h.2.1 o l g1 g2
  have hip := ((h.2.2 b hb).2.2.1.2.2.1 k g3).2.1
  have e1 : (p_enc τ (d_ip d b k) (some (o, l)) / 8 - p_enc τ (d_ip d b k) (some (o, l)) / 8 / 8 * 8).toInt32 = nI o := by
    show ((nJ ((τ o l * 8 + o) * 8 + d_ip d b k) / nJ 8) - (nJ ((τ o l * 8 + o) * 8 + d_ip d b k) / nJ 8) / nJ 8 * nJ 8).toInt32 = nI o
    rw [bj_div 8 (by omega) (by decide), bj_rem 8 (by omega) (by decide), bj_32 (by omega)]
    congr 1
    omega
  have e2 : p_enc τ (d_ip d b k) (some (o, l)) / 64 = nJ (τ o l) := by
    show nJ ((τ o l * 8 + o) * 8 + d_ip d b k) / nJ 64 = nJ (τ o l)
    rw [bj_div 64 (by omega) (by decide)]
    congr 1
    omega
  have hof := d_old_iff hok hb hw
  refine ct_M_old _ hs ?_
  rw [e1, e2, bn_clamp g1 rfl, h.none g1]
  refine ⟨bn_in g1 rfl, fun q => ?_, fun q => ?_⟩
  · rw [hof.mpr (Or.inl q)] at hz
    exact hz
  · rw [(h.2.2 o g1).1.2.2.2 q, lg_cmp_eq, bj_inj (by omega) (by have := h.2.1 o (d_lf d o) g1 (Nat.le_refl _); omega)]
    refine ⟨fun q2 => ?_, fun q2 => ?_⟩
    · have : l = d_lf d o := h.1 o l (d_lf d o) g1 g2 (Nat.le_refl _) q2
      have hf : d_old d o l = false := by
        cases c : d_old d o l with
        | false => rfl
        | true =>
          rcases hof.mp c with c2 | c2
          · exact absurd c2 q
          · exact absurd this c2
      rw [hf] at hz
      exact hz
    · rw [hof.mpr (Or.inr (fun c => q2 (by rw [c])))] at hz
      exact hz
theorem cr_about {M : bh_M} {Z : bh_F → Prop} {A : sa} (h : RM M A) (hw : WA A) (a k : Int32) (hz : zr Z M (o_about A a k)) : F_M_about [.inr (40, 1), .inl (.int a), .inl (.int k)] M Z := by
  have h0 := h.th 0
  have bad1 : ¬ (¬ a < 0 ∧ a ≤ 7) → Z (.inl (some (.inl (.int 0))), bh_sI (bh_sI M 40 1 0 0) 40 1 0 1) := by
    intro q
    have e : o_about A a k = (1, 0, A) := by
      unfold o_about
      rw [if_neg q]
      unfold o_c
      split <;> rfl
    rw [e] at hz
    exact zr_raise 1 hz h0 (fr_P_0 M)
  have bad2 : ¬ (¬ k < 0 ∧ k ≤ 7) → Z (.inl (some (.inl (.int 0))), bh_sI (bh_sI M 40 1 0 0) 40 1 0 1) := by
    intro q
    rw [show o_about A a k = (1, 0, A) from o_c_out q] at hz
    exact zr_raise 1 hz h0 (fr_P_0 M)
  refine be_M_about a k h.hs ⟨fun q => bad1 (fun c => c.1 q), fun q0 => ⟨fun q1 => bad1 (fun c => i_le.mpr c.2 q1), fun q1 => ⟨fun q => bad2 (fun c => c.1 q), fun r0 => ⟨fun r1 => bad2 (fun c => i_le.mpr c.2 r1), fun r1 => ?_⟩⟩⟩⟩
  have q1 := i_le.mp q1
  have r1 := i_le.mp r1
  obtain ⟨b, hb, rfl⟩ := i_nat (N := 7) q0 q1 (by decide)
  have hb : b < 8 := by omega
  obtain ⟨j, hj, rfl⟩ := i_nat (N := 7) r0 r1 (by decide)
  have e1 : o_about A (nI b) (nI j) = (0, v_about A b j, A) := by
    unfold o_about
    rw [o_c_in ⟨r0, r1⟩, if_pos ⟨q0, q1⟩, bn_clamp hb rfl, bn_clamp (N := 8) (by omega) rfl]
  rw [e1] at hz
  clear e1 bad1 bad2
  have hz : Z (.inl (some (.inl (.int (v_about A b j)))), bh_sI M 40 1 0 0) := zr_ok hz h0 (fr_P_0 M) rfl
  obtain ⟨b1, b2, b3, b4⟩ := h0.bd hw.2.2.2.1
  obtain ⟨τ, g1, -⟩ := h0.1
  refine bk_M_about_28 b j hb (by omega) h0.hs ⟨fun q => ?_, fun q => ?_⟩
  · refine bk_M_about_82 b (nI j) hb h0.hs ?_
    rw [show bh_I (bh_sI M 40 1 0 0) 41 1 b = 0 ↔ a_st A b = 0 from h0.stq hb 0 (by decide)]
    refine ⟨fun q3 => ?_, fun q3 => ?_⟩
    · rw [(h0.stv hb).1, (h0.2.1 b hb q3).2.2.1, (g1.2.2 b hb).2.1.1, (g1.2.2 b hb).2.2.1.1]
      have hjs : j = 0 ∨ j = 1 ∨ j = 2 ∨ j = 3 ∨ j = 4 := by omega
      rcases hjs with rfl | rfl | rfl | rfl | rfl
      · exact ⟨fun _ => hz, fun q => absurd q (by decide), fun q => absurd q (by decide), fun q => absurd q (by decide), fun q => absurd rfl q.1⟩
      · refine ⟨fun q => absurd q (by decide), fun _ => ⟨fun q => ?_, fun q => ?_⟩, fun q => absurd q (by decide), fun q => absurd q (by decide), fun q => absurd rfl q.2.1⟩
        · have hz : Z (.inl (some (.inl (.int (bI (a_wa A b))))), bh_sI M 40 1 0 0) := hz
          rw [q] at hz
          exact hz
        · have hz : Z (.inl (some (.inl (.int (bI (a_wa A b))))), bh_sI M 40 1 0 0) := hz
          cases e : a_wa A b with
          | false => exact absurd (by rw [e]; rfl) q
          | true =>
            rw [e] at hz
            exact hz
      · refine ⟨fun q => absurd q (by decide), fun q => absurd q (by decide), fun _ => ?_, fun q => absurd q (by decide), fun q => absurd rfl q.2.2.1⟩
        refine ct_M_servicesOf (nI b) h0.hs ⟨b1, ?_⟩
        rw [h0.2.2.1.1 66 (by decide), h0.2.2.1.2.1 34 (by decide) (by decide)]
        exact bk_M_about_151 b _ _ h0.hs hz
      · exact ⟨fun q => absurd q (by decide), fun q => absurd q (by decide), fun q => absurd q (by decide), fun _ => hz, fun q => absurd rfl q.2.2.2⟩
      · exact ⟨fun q => absurd q (by decide), fun q => absurd q (by decide), fun q => absurd q (by decide), fun q => absurd q (by decide), fun _ => hz⟩
    · have q3 := Decidable.of_not_not q3
      obtain ⟨w1, w2, w3⟩ := (hw.2.1 b hb).2.2.1 q3
      have : v_about A b j = 0 := by
        unfold v_about
        have hjs : j = 0 ∨ j = 1 ∨ j = 2 ∨ j = 3 ∨ j = 4 := by omega
        rcases hjs with rfl | rfl | rfl | rfl | rfl
        · rw [if_pos rfl, q3]
          rfl
        · rw [if_neg (by decide), if_pos rfl, w1]
          rfl
        · rw [if_neg (by decide), if_neg (by decide), if_pos rfl]
          exact own_0 hb hw.2.2.2.1 (by rw [q3]; decide)
        · rw [if_neg (by decide), if_neg (by decide), if_neg (by decide), if_pos rfl, w2]
          rfl
        · rw [if_neg (by decide), if_neg (by decide), if_neg (by decide), if_neg (by decide), if_pos rfl, w3]
          rfl
      rw [this] at hz
      exact hz
  · obtain ⟨i, hi, rfl⟩ : ∃ i, i < 3 ∧ j = i + 5 := ⟨j - 5, by omega, by omega⟩
    have ev : v_about A b (i + 5) = v_wt (a_d A) (a_w A b i) := by
      unfold v_about
      rw [if_neg (by omega), if_neg (by omega), if_neg (by omega), if_neg (by omega), if_neg (by omega), Nat.add_sub_cancel]
    rw [ev] at hz
    refine bk_M_about_33 b hb i hi h0.hs ?_
    have e5 : (nI (3 * b + (i + 5)) - 5 : Int32) = nI (3 * b + i) := by
      rw [show (nI (3 * b + (i + 5)) - 5 : Int32) = nI (3 * b + (i + 5) - 5) from bn_sub (a := 3 * b + (i + 5)) (b := 5) (by omega)]
      congr 1
    rw [e5, bn_clamp (N := 24) (by omega) rfl, ((g1.2.2 b hb).2.2.2 i hi).1]
    refine ⟨bn_in (by omega) rfl, ?_⟩
    cases ew : a_w A b i with
    | none =>
      rw [ew] at hz
      exact ⟨fun q => absurd q (by show ¬ (0 : Int32) ≤ lg_cmp (-1) 0; decide), fun _ => hz⟩
    | some ol =>
      obtain ⟨o, l⟩ := ol
      rw [ew] at hz
      obtain ⟨u1, u2, u3⟩ := ((g1.2.2 b hb).2.2.2 i hi).2 o l ew
      have hτ := g1.2.1 o l u1 u2
      have hip := ((g1.2.2 b hb).2.2.1.2.2.1 i u3).2.1
      have e1 : (p_enc τ (d_ip (a_d A) b i) (some (o, l)) / 8 - p_enc τ (d_ip (a_d A) b i) (some (o, l)) / 8 / 8 * 8).toInt32 = nI o := by
        show ((nJ ((τ o l * 8 + o) * 8 + d_ip (a_d A) b i) / nJ 8) - (nJ ((τ o l * 8 + o) * 8 + d_ip (a_d A) b i) / nJ 8) / nJ 8 * nJ 8).toInt32 = nI o
        rw [bj_div 8 (by omega) (by decide), bj_rem 8 (by omega) (by decide), bj_32 (by omega)]
        congr 1
        omega
      rw [e1]
      refine ⟨fun _ => ?_, fun q2 => absurd ?_ q2⟩
      · refine cr_old hb hi g1 hw.1 ew h0.hs ?_
        refine bk_M_about_71 b _ _ _ i h0.hs ?_
        have hz : Z (.inl (some (.inl (.int (if d_old (a_d A) o l then nI (o + 100) else nI o)))), bh_sI M 40 1 0 0) := hz
        rw [show (nI o + 100 : Int32) = nI (o + 100) from bn_add o 100, Int32.add_zero]
        cases c : d_old (a_d A) o l with
        | true =>
          rw [c] at hz
          exact ⟨fun q => absurd q (by decide), fun _ => hz⟩
        | false =>
          rw [c] at hz
          exact ⟨fun _ => hz, fun q => absurd rfl q⟩
      · show (0 : Int32) ≤ lg_cmp (nJ ((τ o l * 8 + o) * 8 + d_ip (a_d A) b i)) 0
        have : ¬ lg_cmp (nJ ((τ o l * 8 + o) * 8 + d_ip (a_d A) b i)) 0 < 0 := by
          rw [lg_cmp_lt]
          exact bj_0le (by omega)
        exact i_0le.mp this
