/-! THE REFERENCE: export, need, event, count, about -/
theorem RM.exp {M : bh_M} {A : sa} {b p v : Nat} {u : Int32} (h : RM M A) (hb : b < 8) (hp : p < 8) (hv9 : v ≤ 9) (hst : ¬ a_st A b = 0) (hn : x_n (a_e A) b < 3) (hno : d_ver (a_d A) b p = none) : RM (bh_sI (bh_sI (bh_sI (bh_sI M 49 1 (3 * b + x_n (a_e A) b) (nI p)) 50 1 (3 * b + x_n (a_e A) b) (nI v)) 51 1 (3 * b + x_n (a_e A) b) u) 48 1 b (nI (x_n (a_e A) b + 1))) (a_exp A b p v u) := by
  obtain ⟨⟨τ, h1, h2⟩, h3, h4, h5, h6, h7, h8⟩ := h
  have ev : ∀ x q, d_ver (a_d (a_exp A b p v u)) x q = if x = b ∧ q = p then some v else d_ver (a_d A) x q := fun _ _ => rfl
  have eu : ∀ x q, d_us (a_d (a_exp A b p v u)) x q = if x = b ∧ q = p then u else d_us (a_d A) x q := fun _ _ => rfl
  have en : ∀ x, x_n (a_e (a_exp A b p v u)) x = if x = b then x_n (a_e A) x + 1 else x_n (a_e A) x := fun _ => rfl
  have ep : ∀ x j, x_p (a_e (a_exp A b p v u)) x j = if x = b ∧ j = x_n (a_e A) x then p else x_p (a_e A) x j := fun _ _ => rfl
  refine ⟨⟨τ, ⟨h1.1, h1.2.1, fun x hx => ?_⟩, h2⟩, h3, ?_, h5, h6, h7, h8⟩
  · obtain ⟨y1, ⟨c1, c2, c3, c4, c5, c6⟩, y3, y4⟩ := h1.2.2 x hx
    refine ⟨y1, ?_, y3, y4⟩
    have r48 : bh_I (bh_sI (bh_sI (bh_sI (bh_sI M 49 1 (3 * b + x_n (a_e A) b) (nI p)) 50 1 (3 * b + x_n (a_e A) b) (nI v)) 51 1 (3 * b + x_n (a_e A) b) u) 48 1 b (nI (x_n (a_e A) b + 1))) 48 1 x = if x = b then nI (x_n (a_e A) b + 1) else bh_I M 48 1 x := by
      simp [bh_I_sI]
    have r49 : ∀ c, bh_I (bh_sI (bh_sI (bh_sI (bh_sI M 49 1 (3 * b + x_n (a_e A) b) (nI p)) 50 1 (3 * b + x_n (a_e A) b) (nI v)) 51 1 (3 * b + x_n (a_e A) b) u) 48 1 b (nI (x_n (a_e A) b + 1))) 49 1 c = if c = 3 * b + x_n (a_e A) b then nI p else bh_I M 49 1 c := by
      intro c
      simp [bh_I_sI]
    have r50 : ∀ c, bh_I (bh_sI (bh_sI (bh_sI (bh_sI M 49 1 (3 * b + x_n (a_e A) b) (nI p)) 50 1 (3 * b + x_n (a_e A) b) (nI v)) 51 1 (3 * b + x_n (a_e A) b) u) 48 1 b (nI (x_n (a_e A) b + 1))) 50 1 c = if c = 3 * b + x_n (a_e A) b then nI v else bh_I M 50 1 c := by
      intro c
      simp [bh_I_sI]
    have r51 : ∀ c, bh_I (bh_sI (bh_sI (bh_sI (bh_sI M 49 1 (3 * b + x_n (a_e A) b) (nI p)) 50 1 (3 * b + x_n (a_e A) b) (nI v)) 51 1 (3 * b + x_n (a_e A) b) u) 48 1 b (nI (x_n (a_e A) b + 1))) 51 1 c = if c = 3 * b + x_n (a_e A) b then u else bh_I M 51 1 c := by
      intro c
      simp [bh_I_sI]
    by_cases c : x = b
    · subst c
      rw [r48, if_pos rfl, en, if_pos rfl]
      have hold : ∀ j, j < x_n (a_e A) x → x_p (a_e (a_exp A x p v u)) x j = x_p (a_e A) x j ∧ ¬ x_p (a_e A) x j = p := by
        intro j hj
        obtain ⟨-, -, -, v', z4, -⟩ := c3 j hj
        refine ⟨by rw [ep, if_neg (fun q => by omega)], fun q => ?_⟩
        rw [q, hno] at z4
        cases z4
      have hnew : x_p (a_e (a_exp A x p v u)) x (x_n (a_e A) x) = p := by rw [ep, if_pos ⟨rfl, rfl⟩]
      refine ⟨rfl, by omega, fun j hj => ?_, fun j j' hj hj' q => ?_, fun q hq hs => ?_, fun q => absurd q hst⟩
      · by_cases cj : j = x_n (a_e A) x
        · subst cj
          rw [hnew, r49, if_pos rfl, r50, if_pos rfl, r51, if_pos rfl, eu, if_pos ⟨rfl, rfl⟩, ev, if_pos ⟨rfl, rfl⟩]
          exact ⟨hp, rfl, rfl, v, rfl, hv9, rfl⟩
        · have hj : j < x_n (a_e A) x := by omega
          obtain ⟨e1, e2⟩ := hold j hj
          rw [e1, r49, if_neg (by omega), r50, if_neg (by omega), r51, if_neg (by omega), eu, if_neg (fun q => e2 q.2), ev, if_neg (fun q => e2 q.2)]
          exact c3 j hj
      · by_cases cj : j = x_n (a_e A) x
        · by_cases cj' : j' = x_n (a_e A) x
          · omega
          · rw [cj, hnew, (hold j' (by omega)).1] at q
            exact absurd q.symm (hold j' (by omega)).2
        · by_cases cj' : j' = x_n (a_e A) x
          · rw [cj', hnew, (hold j (by omega)).1] at q
            exact absurd q (hold j (by omega)).2
          · rw [(hold j (by omega)).1, (hold j' (by omega)).1] at q
            exact c4 j j' (by omega) (by omega) q
      · rw [ev] at hs
        by_cases cq : q = p
        · exact ⟨x_n (a_e A) x, by omega, by rw [hnew, cq]⟩
        · rw [if_neg (fun c => cq c.2)] at hs
          obtain ⟨j, j1, j2⟩ := c5 q hq hs
          exact ⟨j, by omega, by rw [(hold j j1).1]; exact j2⟩
    · rw [r48, if_neg c, en, if_neg c]
      have ep' : ∀ j, x_p (a_e (a_exp A b p v u)) x j = x_p (a_e A) x j := fun j => by rw [ep, if_neg (fun q => c q.1)]
      have ev' : ∀ q, d_ver (a_d (a_exp A b p v u)) x q = d_ver (a_d A) x q := fun q => by rw [ev, if_neg (fun q => c q.1)]
      have eu' : ∀ q, d_us (a_d (a_exp A b p v u)) x q = d_us (a_d A) x q := fun q => by rw [eu, if_neg (fun q => c q.1)]
      refine ⟨c1, c2, fun j hj => ?_, fun j j' hj hj' q => ?_, fun q hq hs => ?_, c6⟩
      · rw [ep', r49, if_neg (by omega), r50, if_neg (by omega), r51, if_neg (by omega), eu', ev']
        exact c3 j hj
      · rw [ep', ep'] at q
        exact c4 j j' hj hj' q
      · rw [ev'] at hs
        obtain ⟨j, j1, j2⟩ := c5 q hq hs
        exact ⟨j, j1, by rw [ep']; exact j2⟩
  · exact ag_no (ag_no (ag_no (ag_no h4 (by decide) (fun q => absurd q (by decide))) (by decide) (fun q => absurd q (by decide))) (by decide) (fun q => absurd q (by decide))) (by decide) (fun q => absurd q (by decide))
theorem cr_export {M : bh_M} {Z : bh_F → Prop} {A : sa} (h : RM M A) (hw : WA A) (a x u : Int32) (hz : zr Z M (o_export A a x u)) : F_M_export [.inr (40, 1), .inl (.int a), .inl (.int x), .inl (.int u)] M Z := by
  have hs := h.hs
  have h0 := h.th 0
  have bad1 : ¬ (¬ a < 0 ∧ a ≤ 7) → Z (.inl (some (.inl (.int 0))), bh_sI (bh_sI M 40 1 0 0) 40 1 0 1) := by
    intro q
    have e : o_export A a x u = (1, 0, A) := by
      unfold o_export
      rw [o_b_out q]
      unfold o_c
      split <;> rfl
    rw [e] at hz
    exact zr_raise 1 hz h0 (fr_P_0 M)
  have bad2 : ¬ ((¬ x < 0 ∧ x ≤ 79) ∧ (¬ u < 0 ∧ u ≤ 255)) → Z (.inl (some (.inl (.int 0))), bh_sI (bh_sI M 40 1 0 0) 40 1 0 1) := by
    intro q
    rw [show o_export A a x u = (1, 0, A) from o_c_out q] at hz
    exact zr_raise 1 hz h0 (fr_P_0 M)
  refine be_M_export a x u hs ⟨fun q => bad1 (fun c => c.1 q), fun q0 => ⟨fun q1 => bad1 (fun c => i_le.mpr c.2 q1), fun q1 => ⟨fun q => bad2 (fun c => c.1.1 q), fun r0 => ⟨fun r1 => bad2 (fun c => i_le.mpr c.1.2 r1), fun r1 => ⟨fun q => bad2 (fun c => c.2.1 q), fun s0 => ⟨fun s1 => bad2 (fun c => i_le.mpr c.2.2 s1), fun s1 => ?_⟩⟩⟩⟩⟩⟩
  have q1 := i_le.mp q1
  have r1 := i_le.mp r1
  obtain ⟨b, hb, rfl⟩ := i_nat (N := 7) q0 q1 (by decide)
  have hb : b < 8 := by omega
  have e1 : o_export A (nI b) x u = _ := o_c_in ⟨⟨r0, r1⟩, s0, i_le.mp s1⟩
  rw [e1] at hz
  clear e1 bad1 bad2
  obtain ⟨y, hy, rfl⟩ := i_nat (N := 79) r0 r1 (by decide)
  rw [bn_clamp (N := 80) (by omega) rfl] at hz
  refine bk_M_export_39 b y u hb (by omega) h0.hs ?_
  rw [show bh_I (bh_sI M 40 1 0 0) 41 1 b = 0 ↔ a_st A b = 0 from h0.stq hb 0 (by decide), show bh_I (bh_sI M 40 1 0 0) 41 1 b = 1 ↔ a_st A b = 1 from h0.stq hb 1 (by decide)]
  refine ⟨fun q3 => ?_, fun q3 => ?_⟩
  · rw [o_b_in hb q3] at hz
    refine ⟨fun q5 => ?_, fun q5 => ?_⟩
    · rw [if_neg (fun c => c q5)] at hz
      obtain ⟨τ, g1, -⟩ := h0.1
      obtain ⟨-, ⟨c1, c2, c3, -, c5, -⟩, -⟩ := g1.2.2 b hb
      have hp8 : y % 8 < 8 := Nat.mod_lt _ (by decide)
      have four : (x_n (a_e A) b = 3 ∨ (d_ver (a_d A) b (y % 8)).isSome = true) → Z (.inl (some (.inl (.int 0))), bh_sI (bh_sI M 40 1 0 0) 40 1 0 4) := by
        intro q
        rw [if_pos q] at hz
        exact zr_raise 4 hz h0 (fr_P_0 M)
      have key : ∀ m j, j + m = x_n (a_e A) b → (∀ j', j' < j → ¬ x_p (a_e A) b j' = y % 8) → bh_wp (bh_tb T_M_export) (75, [some (.inr (40, 1)), some (.inl (.int (nI b))), some (.inl (.int (nI y))), some (.inl (.int u)), some (.inl (.int (nI (3 * b + j))))], [], bh_sI M 40 1 0 0, 0) Z := by
        intro m
        induction m with
        | succ m ih =>
          intro j ej hj
          obtain ⟨d1, d2, -, v, d4, -⟩ := c3 j (by omega)
          refine bl_M_export_75 b y u j hb c1 (by omega) (by omega) (by omega) d1 d2 h0.hs ⟨fun q => ih (j + 1) (by omega) (fun j' hj' => ?_), fun q => four (Or.inr ?_)⟩
          · by_cases cj : j' = j
            · subst cj
              exact q
            · exact hj j' (by omega)
          · rw [← Decidable.of_not_not q, d4]
            rfl
        | zero =>
          intro j ej hj
          have : j = x_n (a_e A) b := by omega
          subst this
          have hno : d_ver (a_d A) b (y % 8) = none := by
            cases e : d_ver (a_d A) b (y % 8) with
            | none => rfl
            | some v =>
              obtain ⟨j, j1, j2⟩ := c5 (y % 8) hp8 (by rw [e]; rfl)
              exact absurd j2 (hj j j1)
          refine bx_M_export_75 b y u hb c1 (by omega) (by omega) h0.hs ?_
          refine bk_M_export_116 b y u _ hb c1 (by omega) (by omega) h0.hs ⟨fun q => ?_, fun q => four (Or.inl (by omega))⟩
          have hn3 : x_n (a_e A) b < 3 := by omega
          rw [if_neg (by rw [hno]; rintro (c | c); omega; cases c)] at hz
          refine bk_M_export_132 b y u _ hb c1 (by omega) (by omega) hn3 h0.hs ?_
          rw [show bh_I (bh_sI (bh_sI (bh_sI (bh_sI (bh_sI M 40 1 0 0) 49 1 (3 * b + x_n (a_e A) b) (nI (y % 8))) 50 1 (3 * b + x_n (a_e A) b) (nI (y / 8))) 51 1 (3 * b + x_n (a_e A) b) u) 48 1 b (nI (x_n (a_e A) b + 1))) 48 1 b = nI (x_n (a_e A) b + 1) from if_pos ⟨rfl, rfl, rfl⟩]
          exact zr_ok hz (h0.exp hb hp8 (by omega) q3 hn3 hno) (fr_P_trans (fr_P_trans (fr_P_trans (fr_P_trans (fr_P_0 M) (fr_P_I _ (t := 49) ⟨by decide, by decide⟩ _ _ _)) (fr_P_I _ (t := 50) ⟨by decide, by decide⟩ _ _ _)) (fr_P_I _ (t := 51) ⟨by decide, by decide⟩ _ _ _)) (fr_P_I _ (t := 48) ⟨by decide, by decide⟩ _ _ _)) rfl
      exact key (x_n (a_e A) b) 0 (by omega) (fun j' hj' => absurd hj' (Nat.not_lt_zero _))
    · rw [if_pos q5] at hz
      exact zr_raise 3 hz h0 (fr_P_0 M)
  · have q3 := Decidable.of_not_not q3
    rw [o_b_0 hb q3] at hz
    exact zr_raise 2 hz h0 (fr_P_0 M)
