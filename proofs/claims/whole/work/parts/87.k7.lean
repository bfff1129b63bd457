/-! REFRESH, the reference -/
theorem RM.un {M : bh_M} {A : sa} (h : RM M A) {b : Nat} (hb : b < 8) (h0 : ¬ a_st A b = 0) : RM (sp_unwire (bh_sI M 41 1 b 1) b) (a_un A b) := by
  have h1 := h.sst (i := b) (v := 1) (by decide) (by decide) h0
  obtain ⟨⟨τ, g1, g2⟩, g3, g4, g5, g6, g7, g8⟩ := h1
  refine ⟨⟨τ, ⟨g1.1, g1.2.1, fun x hx => ?_⟩, g2⟩, g3, g4, g5, g6, g7, g8⟩
  obtain ⟨y1, y2, y3, y4⟩ := g1.2.2 x hx
  refine ⟨y1, y2, y3, fun k hk => ?_⟩
  have e : a_w (a_un A b) x k = if x = b then none else a_w A x k := rfl
  have e57 : bh_J (sp_unwire (bh_sI M 41 1 b 1) b) 57 1 (3 * x + k) = if 1 = 1 ∧ 3 * b ≤ 3 * x + k ∧ 3 * x + k < 3 * b + 3 then -1 else bh_J M 57 1 (3 * x + k) := rfl
  rw [e, e57]
  by_cases c : x = b
  · rw [if_pos c, if_pos ⟨rfl, by omega, by omega⟩]
    exact ⟨rfl, fun o l q => by cases q⟩
  · rw [if_neg c, if_neg (fun q => c (by omega))]
    exact y4 k hk
theorem RM.n3 {M : bh_M} {A : sa} (h : RM M A) : RM M (a_n3 A) := by
  obtain ⟨⟨τ, g1, g2⟩, g3, g4, g5, g6, g7, g8⟩ := h
  refine ⟨⟨τ, ⟨g1.1, g1.2.1, fun x hx => ?_⟩, g2⟩, g3, g4, g5, g6, g7, g8⟩
  obtain ⟨y1, y2, y3, y4⟩ := g1.2.2 x hx
  refine ⟨y1, y2, y3, fun k hk => ?_⟩
  have e : a_w (a_n3 A) x k = a_w A x k := if_neg (by omega)
  rw [e]
  exact y4 k hk
theorem cr_stopping63 {M : bh_M} {Z : bh_F → Prop} {A : sa} {b : Nat} {st : Nat → Nat} {P : UInt64 → Prop} (hb : b < 8) (h : RM M A) (h0 : a_st A b = 3) (hv : sv (a_nu A) st P) (hz : ∀ M', RM M' (a_stop A b) → fr_O M M' → (∀ x, bh_I M' 63 1 x = bh_I M 63 1 x) → Z (.inl (some (.inl (.int (bh_cnt (fun i => decide (bh_I (a_nu A) 66 1 i = nI b)) (a_n A))))), M')) : F_M_stopping [.inr (40, 1), .inl (.int (nI b))] M Z := by
  have hs := h.2.2.2.2.2.2
  obtain ⟨b1, b2, b3, b4⟩ := h.bd hv
  refine ct_M_stopping b hs ⟨hb, b1, b2, fun hs2 => ?_⟩
  have eN : (bh_I M 40 1 34).toNatClampNeg = a_n A := by
    rw [b3]
    exact bn_clamp (N := 21) (by omega) rfl
  rw [eN, h.2.2.1.1 66 (by decide)]
  refine hz _ ?_ (fr_O_stop M b) (fun x => ?_)
  rotate_left
  · have f1 := fr_N_sweep (b := b) (bh_I M 40 1 34).toNatClampNeg M 0
    have e1 : bh_I (sp_stop M b) 63 1 x = bh_I (sp_sweep b (bh_I M 40 1 34).toNatClampNeg M 0) 63 1 x := (sp_note_65 _ _ 63 1 x (by decide) (by decide)).trans rfl
    rw [e1, f1.1 63 (by decide) (by decide) (by decide) (by decide) (by decide) (by decide)]
  have g := ag_stop h.2.2.1 b
  have f1 := fr_N_sweep (b := b) (bh_I M 40 1 34).toNatClampNeg M 0
  have f2 := fr_N_trans f1 (fr_N_A (sp_sweep b (bh_I M 40 1 34).toNatClampNeg M 0) (fun x c => if x = 1 ∧ c % 8 = b ∧ c < 8 * (bh_I (sp_sweep b (bh_I M 40 1 34).toNatClampNeg M 0) 40 1 34).toNatClampNeg then 0 else bh_I (sp_sweep b (bh_I M 40 1 34).toNatClampNeg M 0) 69 x c))
  have r1 := (h.nu f2 (ag_refl _)).sst (i := b) (v := 2) (by decide) (by decide) (by show ¬ a_st A b = 0; rw [h0]; decide)
  exact r1.nu (fr_N_note _ (nI (200 + b))) g
def rf_w (d : sd) (w : sw) (S i : Nat) : Nat := if bh_any (rf_c d w (rf_B d w (i / 3) S) (i / 3)) (i % 3) then rf_B d w (i / 3) S ||| 2 ^ (i / 3) else rf_B d w (i / 3) S
theorem bh_any_0 (p : Nat → Bool) : bh_any p 0 = false := rfl
theorem bh_any_s (p : Nat → Bool) (k : Nat) : bh_any p (k + 1) = (bh_any p k || p k) := by
  unfold bh_any
  rw [List.range_succ, List.any_append]
  simp
theorem rf_w_b (d : sd) (w : sw) (S b : Nat) : rf_w d w S (3 * b) = rf_B d w b S := by
  unfold rf_w
  rw [show 3 * b % 3 = 0 by omega, show 3 * b / 3 = b by omega, bh_any_0, if_neg Bool.false_ne_true]
theorem rf_B_s (d : sd) (w : sw) (b S : Nat) : rf_B d w (b + 1) S = rf_b d w b (rf_B d w b S) := rfl
theorem rf_w_s (d : sd) (w : sw) (S i : Nat) : rf_w d w S (i + 1) = if (bh_any (rf_c d w (rf_B d w (i / 3) S) (i / 3)) (i % 3) || rf_c d w (rf_B d w (i / 3) S) (i / 3) (i % 3)) = true then rf_B d w (i / 3) S ||| 2 ^ (i / 3) else rf_B d w (i / 3) S := by
  rw [← bh_any_s]
  by_cases c : i % 3 = 2
  · rw [show i + 1 = 3 * (i / 3 + 1) by omega, rf_w_b, rf_B_s, c]
    rfl
  · unfold rf_w
    rw [show (i + 1) / 3 = i / 3 by omega, show (i + 1) % 3 = i % 3 + 1 by omega]
theorem rf_R_s (d : sd) (w : sw) (r : Nat) : rf_R d w (r + 1) = rf_B d w 8 (rf_R d w r) := rfl
theorem rf_R_0 (d : sd) (w : sw) : rf_R d w 0 = 0 := rfl
theorem a_act_oth {A : sa} {b o : Nat} (hb : b < 8) (hw : WA A) (ho : o < 8) (hne : ¬ o = b) : a_st (a_act A b).2 o = a_st A o ∨ (a_st A o = 1 ∧ a_st (a_act A b).2 o = 2) := by
  have fin : ∀ B : sa, a_st (a_fin B b).2 o = a_st B o := by
    intro B
    unfold a_fin
    split
    · show (if o = b then 3 else a_st (a_actr B b).2 o) = _
      rw [if_neg hne, a_actr_st]
    · rw [a_actr_st]
  unfold a_act
  split
  · rename_i c
    obtain ⟨-, -, k3, -⟩ := d_run_ok hb c (fun o ho => (hw.2.1 o ho).1) hw.1
    split
    · rw [fin]
      exact k3 o ho
    · exact k3 o ho
  · exact Or.inl (fin A)
theorem cr_refresh {M : bh_M} {Z : bh_F → Prop} {A : sa} (h : RM M A) (hw : WA A) (hz : zr Z M (o_refresh A)) : F_M_refresh [.inr (40, 1)] M Z := by
  have h0 := h.th 0
  refine be_M_refresh h.hs ?_
  have hlv : ∀ b, b < 8 → (a_stale A).testBit b = true → ¬ a_st A b = 0 := by
    intro b hb hx q
    have := rf_live hw.1 8 b hb hx
    unfold d_live at this
    rw [decide_eq_true_eq] at this
    have : 2 ≤ a_st A b := this
    omega
  have h8 : a_stale A < 256 := rf_R_lt 8
  have h9 : rf_R (a_d A) (a_w A) 9 = a_stale A := by
    rw [rf_R_s]
    exact rf_fix (a_d A) (a_w A)
  obtain ⟨v1, v2, v3, v4, v5, v6, v7, v8⟩ := rf_s_keep (a_stale A) 8 A (Nat.le_refl _) hw
  obtain ⟨u1, u2, u3⟩ := rf_u_wa hw
  have hz : ∀ M', RM M' (rf_G (a_stale A) 8 (a_n3 (rf_u (a_stale A) 8 (rf_s (a_stale A) 8 A)))) → fr_P M M' → bh_I M' 40 1 0 = 0 → Z (.inl (some (.inl (.int (bh_cnt (fun b => (a_stale A).testBit b) 8)))), M') := fun M' k1 k2 k3 => zr_ok hz k1 k2 k3
  have f0 : fr_P M (bh_sI M 40 1 0 0) := fr_P_0 M
  have e00 : bh_I (bh_sI M 40 1 0 0) 40 1 0 = 0 := rfl
  generalize bh_sI M 40 1 0 0 = M0 at h0 f0 e00 ⊢
  generalize hs9 : a_stale A = s at *
  -- starting again
  have go3 : ∀ k b (B : sa) (M1 : bh_M), b + k = 8 → WA B → RM M1 B → (∀ x, b ≤ x → x < 8 → s.testBit x = true → ¬ a_st B x = 3 ∧ ¬ a_st B x = 0) → fr_P M M1 → bh_I M1 40 1 0 = 0 → rf_G s k B = rf_G s 8 (a_n3 (rf_u s 8 (rf_s s 8 A))) → bh_wp (bh_tb T_M_refresh) (203, [some (.inr (40, 1)), some (.inl (.int (bh_cnt (fun b => s.testBit b) 8))), some (.inl (.int (nI s))), some (.inl (.int (nI b)))], [], M1, 0) Z := by
    intro k
    induction k with
    | zero =>
      intro b B M1 hb hwB hB hst fB e0B eB
      have : b = 8 := by omega
      subst this
      have eB : B = _ := eB
      rw [← eB] at hz
      exact bx_M_refresh_203 _ s hB.hs (hz M1 hB fB e0B)
    | succ k ih =>
      intro b B M1 hb hwB hB hst fB e0B eB
      have hb8 : b < 8 := by omega
      have eB : rf_G s k (rf_g s (7 - k) B) = _ := eB
      rw [show 7 - k = b by omega] at eB
      have hwg := wa_g (s := s) hb8 hwB
      have hstg : ∀ x, b + 1 ≤ x → x < 8 → s.testBit x = true → ¬ a_st (rf_g s b B) x = 3 ∧ ¬ a_st (rf_g s b B) x = 0 := by
        intro x x1 x2 x3
        unfold rf_g
        split
        · rcases a_act_oth hb8 hwB x2 (show ¬ x = b by omega) with q | q
          · rw [q]
            exact hst x (by omega) x2 x3
          · rw [q.2]
            exact ⟨by decide, by decide⟩
        · exact hst x (by omega) x2 x3
      have nx : ∀ C M2, rf_g s b B = C → RM M2 C → fr_P M M2 → bh_I M2 40 1 0 = 0 → bh_wp (bh_tb T_M_refresh) (203, [some (.inr (40, 1)), some (.inl (.int (bh_cnt (fun b => s.testBit b) 8))), some (.inl (.int (nI s))), some (.inl (.int (nI (b + 1))))], [], M2, 0) Z := by
        intro C M2 eC hC fC e0C
        rw [eC] at eB hwg hstg
        exact ih (b + 1) C M2 (by omega) hwg hC hstg fC e0C eB
      have ebit := bit_in ⟨s, h8⟩ ⟨b, hb8⟩
      refine bl_M_refresh_203 _ s b hb8 hB.hs ?_
      rw [show (nI s >>> (nI b &&& 31)) &&& 1 = 0 ↔ s.testBit b = false from ebit]
      refine ⟨fun q => nx B M1 (if_neg (fun c => by rw [q] at c; cases c.1)) hB fB e0B, fun q => ?_⟩
      have q : s.testBit b = true := by simpa using q
      have hn3 := hst b (Nat.le_refl _) hb8 q
      have c0 := hn3.2
      obtain ⟨z1, z2, z3, z4⟩ := hB.2.1 b hb8 c0
      have hl5 := (hwB.2.1 b hb8).2.2.2 c0
      rw [z3, z1, bI_0, hB.2.2.2.1, bn_lt (by have := hwB.2.2.1.2; omega) (by omega), show bh_I M1 41 1 b = 3 ↔ a_st B b = 3 from hB.stq hb8 3 (by decide)]
      refine ⟨fun q2 => nx B M1 (if_neg (fun c => by rw [q2] at c; cases c.2.1)) hB fB e0B, fun q2 => ⟨fun q3 => nx B M1 (if_neg (fun c => by have := c.2.2; omega)) hB fB e0B, fun q3 => ⟨fun q4 => absurd q4 hn3.1, fun _ => ?_⟩⟩⟩
      have q2 : a_wa B b = true := by simpa using q2
      refine cr_starting hb8 hB c0 hl5.2.2.1 hwB.1 hwB.2.2.2.1 (fun M2 h2 f2 => ?_)
      exact bk_M_refresh_254 _ s b _ h2.hs (nx _ M2 (if_pos ⟨q, q2, by omega⟩) h2 (fr_P_trans fB f2.1) (f2.2.trans e0B))
  -- unresolving
  have go2 : ∀ k b (M1 : bh_M), b + k = 8 → RM M1 (rf_u s b (rf_s s 8 A)) → fr_P M M1 → bh_I M1 40 1 0 = 0 → bh_wp (bh_tb T_M_refresh) (166, [some (.inr (40, 1)), some (.inl (.int (bh_cnt (fun b => s.testBit b) 8))), some (.inl (.int (nI s))), some (.inl (.int (nI b)))], [], M1, 0) Z := by
    intro k
    induction k with
    | zero =>
      intro b M1 hb hB fB e0B
      have : b = 8 := by omega
      subst this
      refine bx_M_refresh_166 _ s hB.hs (go3 8 0 _ M1 (by omega) u1 hB.n3 (fun x _ x2 x3 => ?_) fB e0B rfl)
      rw [u2 x x2 x3]
      exact ⟨by decide, by decide⟩
    | succ k ih =>
      intro b M1 hb hB fB e0B
      have hb8 : b < 8 := by omega
      have ebit := bit_in ⟨s, h8⟩ ⟨b, hb8⟩
      refine bl_M_refresh_166 _ s b hb8 hB.hs ?_
      rw [show (nI s >>> (nI b &&& 31)) &&& 1 = 0 ↔ s.testBit b = false from ebit]
      refine ⟨fun q => ih (b + 1) _ (by omega) ?_ ?_ e0B, fun q => ih (b + 1) M1 (by omega) ?_ fB e0B⟩
      · have q : s.testBit b = true := by simpa using q
        have e : rf_u s (b + 1) (rf_s s 8 A) = a_un (rf_u s b (rf_s s 8 A)) b := if_pos q
        rw [e]
        refine hB.un hb8 ?_
        rw [(rf_u_is s b (rf_s s 8 A)).1, if_neg (fun c => by omega), v8]
        exact hlv b hb8 q
      · exact fr_P_trans fB (fr_P_trans (fr_P_I _ (t := 41) ⟨by decide, by decide⟩ 1 b 1) (fr_O_AJ _ ⟨by decide, by decide⟩ _).1)
      · have q := Decidable.of_not_not q
        have e : rf_u s (b + 1) (rf_s s 8 A) = rf_u s b (rf_s s 8 A) := if_neg (by rw [q]; exact Bool.false_ne_true)
        rw [e]
        exact hB
  -- stopping
  have go1 : ∀ b (B : sa) (M1 : bh_M) (v : Int32) (t : Nat), b < 8 → WA B → RM M1 B → tkM M1 (fun x => s.testBit x) → fr_P M M1 → bh_I M1 40 1 0 = 0 → rf_s s (b + 1) B = rf_s s 8 A → v + bh_cnt (fun b => s.testBit b) (b + 1) = bh_cnt (fun b => s.testBit b) 8 → t < 256 → (∀ x, x < 8 → t.testBit x = (s.testBit x && decide (b + 1 ≤ x))) → bh_wp (bh_tb T_M_refresh) (117, [some (.inr (40, 1)), some (.inl (.int v)), some (.inl (.int (nI t))), some (.inl (.int (nI b)))], [], M1, 0) Z := by
    intro b
    have one : ∀ (b : Nat) (B : sa) (M1 : bh_M) (v : Int32) (t : Nat), b < 8 → WA B → RM M1 B → tkM M1 (fun x => s.testBit x) → fr_P M M1 → bh_I M1 40 1 0 = 0 → v + bh_cnt (fun b => s.testBit b) (b + 1) = bh_cnt (fun b => s.testBit b) 8 → t < 256 → (∀ x, x < 8 → t.testBit x = (s.testBit x && decide (b + 1 ≤ x))) → (∀ C M2 v' t', (if s.testBit b = true ∧ a_st B b = 3 then a_stop B b else B) = C → RM M2 C → tkM M2 (fun x => s.testBit x) → fr_P M M2 → bh_I M2 40 1 0 = 0 → v' + bh_cnt (fun b => s.testBit b) b = bh_cnt (fun b => s.testBit b) 8 → t' < 256 → (∀ x, x < 8 → t'.testBit x = (s.testBit x && decide (b ≤ x))) → bh_wp (bh_tb T_M_refresh) (158, [some (.inr (40, 1)), some (.inl (.int v')), some (.inl (.int (nI t'))), some (.inl (.int (nI b)))], [], M2, 0) Z) → bh_wp (bh_tb T_M_refresh) (117, [some (.inr (40, 1)), some (.inl (.int v)), some (.inl (.int (nI t))), some (.inl (.int (nI b)))], [], M1, 0) Z := by
      intro b B M1 v t hb hwB hB htk fB e0B hv ht hbits nx
      have es : bh_cnt (fun b => s.testBit b) (b + 1) = if s.testBit b then bh_cnt (fun b => s.testBit b) b + 1 else bh_cnt (fun b => s.testBit b) b := rfl
      refine bl_M_refresh_117 v t b hb hB.hs ?_
      rw [htk.f hb, show bh_I M1 41 1 b = 3 ↔ a_st B b = 3 from hB.stq hb 3 (by decide), show nI t ||| (1 <<< (nI b &&& 31)) = nI (t ||| 2 ^ b) from bit_or ⟨t, ht⟩ ⟨b, hb⟩]
      refine ⟨fun q => ?_, fun q => ?_⟩
      · have q : s.testBit b = true := by simpa using q
        rw [es, if_pos q] at hv
        have hv' : v + 1 + bh_cnt (fun b => s.testBit b) b = bh_cnt (fun b => s.testBit b) 8 := by
          rw [← hv, Int32.add_assoc, Int32.add_comm 1]
        have hb' : ∀ x, x < 8 → (t ||| 2 ^ b).testBit x = (s.testBit x && decide (b ≤ x)) := by
          intro x hx
          rw [bit_set, hbits x hx]
          by_cases c : b = x
          · rw [decide_eq_true c, Bool.or_true, ← c, q, decide_eq_true (Nat.le_refl b)]
            rfl
          · rw [decide_eq_false c, Bool.or_false]
            congr 1
            by_cases c2 : b ≤ x
            · rw [decide_eq_true c2, decide_eq_true (show b + 1 ≤ x by omega)]
            · rw [decide_eq_false c2, decide_eq_false (show ¬ b + 1 ≤ x by omega)]
        refine ⟨fun q2 => nx B M1 (v + 1) _ (if_neg (fun c => q2 c.2)) hB htk fB e0B hv' (bit_lt ht hb) hb', fun q2 => ?_⟩
        have q2 := Decidable.of_not_not q2
        refine cr_stopping63 hb hB q2 hwB.2.2.2.1 (fun M2 h2 f2 e63 => ?_)
        exact bk_M_refresh_157 _ _ b _ h2.hs (nx _ M2 (v + 1) _ (if_pos ⟨q, q2⟩) h2 (fun x hx => by rw [e63]; exact htk x hx) (fr_P_trans fB f2.1) (f2.2.trans e0B) hv' (bit_lt ht hb) hb')
      · have q := Decidable.of_not_not q
        rw [es, if_neg (by rw [q]; exact Bool.false_ne_true)] at hv
        refine nx B M1 v t (if_neg (fun c => by rw [q] at c; cases c.1)) hB htk fB e0B hv ht (fun x hx => ?_)
        rw [hbits x hx]
        by_cases c : b = x
        · rw [← c, q]
          rfl
        · congr 1
          by_cases c2 : b ≤ x
          · rw [decide_eq_true c2, decide_eq_true (show b + 1 ≤ x by omega)]
          · rw [decide_eq_false c2, decide_eq_false (show ¬ b + 1 ≤ x by omega)]
    induction b with
    | zero =>
      intro B M1 v t hb hwB hB htk fB e0B eB hv ht hbits
      refine one 0 B M1 v t hb hwB hB htk fB e0B hv ht hbits (fun C M2 v' t' eC hC htk2 fC e0C hv2 ht2 hb2 => ?_)
      have eB : (if s.testBit 0 = true ∧ a_st B 0 = 3 then a_stop B 0 else B) = _ := eB
      rw [eC] at eB
      subst eB
      have et : t' = s := rf_same ht2 h8 (fun x hx => by rw [hb2 x hx, decide_eq_true (Nat.zero_le x), Bool.and_true])
      subst et
      have ev : v' = bh_cnt (fun b => t'.testBit b) 8 := by
        rw [← hv2]
        exact (Int32.add_zero _).symm
      subst ev
      exact bk0_M_refresh_158 _ t' hC.hs (bx_M_refresh_117 _ t' _ (by decide) hC.hs (go2 8 0 M2 (by omega) hC fC e0C))
    | succ b ih =>
      intro B M1 v t hb hwB hB htk fB e0B eB hv ht hbits
      refine one (b + 1) B M1 v t hb hwB hB htk fB e0B hv ht hbits (fun C M2 v' t' eC hC htk2 fC e0C hv2 ht2 hb2 => ?_)
      have eB : rf_s s (b + 1) (if s.testBit (b + 1) = true ∧ a_st B (b + 1) = 3 then a_stop B (b + 1) else B) = _ := eB
      rw [eC] at eB
      have hwC : WA C := by
        rw [← eC]
        split
        · rename_i c
          exact wa_stop hb hwB c.2
        · exact hwB
      exact bk_M_refresh_158 v' t' b hC.hs (ih C M2 v' t' (by omega) hwC hC htk2 fC e0C eB hv2 ht2 hb2)
  -- the rounds
  have hJ : ∀ M1, (∀ a, a ≠ 63 → bh_I M1 a = bh_I M0 a) → M1.2 = M0.2 → RM M1 A ∧ fr_P M M1 ∧ bh_I M1 40 1 0 = 0 := by
    intro M1 fI f2
    have g : RM M1 A := by
      obtain ⟨⟨τ, g1, g2⟩, g3, g4, g5, g6, g7, g8⟩ := h0
      have fJ : bh_J M1 = bh_J M0 := congrArg (fun q => q.1) f2
      refine ⟨⟨τ, ⟨g1.1, g1.2.1, fun x hx => ?_⟩, fun b hb => ?_⟩, fun b hb => ?_, ⟨fun a ha => ?_, fun c c1 c2 => ?_, ?_⟩, ?_, ?_, ?_, by rw [f2]; exact g8⟩
      · rw [fJ, fI 41 (by decide), fI 42 (by decide), fI 48 (by decide), fI 49 (by decide), fI 50 (by decide), fI 51 (by decide), fI 52 (by decide), fI 53 (by decide), fI 54 (by decide), fI 55 (by decide), fI 56 (by decide)]
        exact g1.2.2 x hx
      · rw [fJ]
        exact g2 b hb
      · rw [fI 43 (by decide), fI 44 (by decide), fI 45 (by decide), fI 46 (by decide)]
        exact g3 b hb
      · rw [fI a (by omega)]
        exact g4.1 a ha
      · rw [fI 40 (by decide)]
        exact g4.2.1 c c1 c2
      · rw [show bh_D M1 = bh_D M0 from congrArg (fun q => q.2.1) f2]
        exact g4.2.2
      · rw [fI 40 (by decide)]
        exact g5
      · rw [fI 40 (by decide)]
        exact g6
      · rw [fI 40 (by decide)]
        exact g7
    refine ⟨g, fr_P_trans f0 ⟨fun a ha => ⟨fI a (by omega), by rw [show bh_J M1 = bh_J M0 from congrArg (fun q => q.1) f2]⟩, fun a _ => by rw [show bh_D M1 = bh_D M0 from congrArg (fun q => q.2.1) f2], by rw [f2]⟩, ?_⟩
    rw [fI 40 (by decide)]
    exact e00
  have f63 : ∀ M1 x v, (∀ a, a ≠ 63 → bh_I M1 a = bh_I M0 a) → ∀ a, a ≠ 63 → bh_I (bh_sI M1 63 1 x v) a = bh_I M0 a := by
    intro M1 x v fI a ha
    rw [← fI a ha]
    funext y c
    exact if_neg (fun q => ha q.1)
  have rounds : ∀ k r (M1 : bh_M) (w3 : Option bh_V), r + k = 9 → (∀ a, a ≠ 63 → bh_I M1 a = bh_I M0 a) → M1.2 = M0.2 → tkM M1 (fun x => (rf_R (a_d A) (a_w A) r).testBit x) → bh_wp (bh_tb T_M_refresh) (30, [some (.inr (40, 1)), some (.inl (.int 0)), some (.inl (.int (nI r))), w3], [], M1, 0) Z := by
    intro k
    induction k with
    | zero =>
      intro r M1 w3 hr fI f2 htk
      have : r = 9 := by omega
      subst this
      obtain ⟨gR, gP, g0⟩ := hJ M1 fI f2
      rw [h9] at htk
      refine bx_M_refresh_30 0 w3 gR.hs (go1 7 A M1 0 0 (by decide) hw gR htk gP g0 rfl ?_ (by decide) (fun x hx => ?_))
      · rw [Int32.zero_add]
      · rw [Nat.zero_testBit, decide_eq_false (show ¬ 7 + 1 ≤ x by omega), Bool.and_false]
    | succ k ih =>
      intro r M1 w3 hr fI f2 htk
      obtain ⟨gR, -, -⟩ := hJ M1 fI f2
      refine bl_M_refresh_30 0 r w3 (by omega) gR.hs ?_
      generalize hS : rf_R (a_d A) (a_w A) r = S at htk
      have hSlt : S < 256 := by rw [← hS]; exact rf_R_lt r
      have wires : ∀ m i (M2 : bh_M), i + m = 24 → (∀ a, a ≠ 63 → bh_I M2 a = bh_I M0 a) → M2.2 = M0.2 → tkM M2 (fun x => (rf_w (a_d A) (a_w A) S i).testBit x) → bh_wp (bh_tb T_M_refresh) (38, [some (.inr (40, 1)), some (.inl (.int 0)), some (.inl (.int (nI r))), some (.inl (.int (nI i)))], [], M2, 0) Z := by
        intro m
        induction m with
        | zero =>
          intro i M2 hi fI2 f22 htk2
          have : i = 24 := by omega
          subst this
          obtain ⟨gR2, -, -⟩ := hJ M2 fI2 f22
          refine bx_M_refresh_38 0 r gR2.hs (ih (r + 1) M2 _ (by omega) fI2 f22 ?_)
          rw [rf_R_s, hS, ← rf_w_b]
          exact htk2
        | succ m ihm =>
          intro i M2 hi fI2 f22 htk2
          obtain ⟨gR2, -, -⟩ := hJ M2 fI2 f22
          have hi24 : i < 24 := by omega
          have hb8 : i / 3 < 8 := by omega
          have hk3 : i % 3 < 3 := Nat.mod_lt _ (by decide)
          have nxt : ∀ M3, (∀ a, a ≠ 63 → bh_I M3 a = bh_I M0 a) → M3.2 = M0.2 → tkM M3 (fun x => (rf_w (a_d A) (a_w A) S (i + 1)).testBit x) → bh_wp (bh_tb T_M_refresh) (38, [some (.inr (40, 1)), some (.inl (.int 0)), some (.inl (.int (nI r))), some (.inl (.int (nI (i + 1))))], [], M3, 0) Z := fun M3 fI3 f23 htk3 => ihm (i + 1) M3 (by omega) fI3 f23 htk3
          rw [rf_w_s] at nxt
          unfold rf_w at htk2
          have hSblt : rf_B (a_d A) (a_w A) (i / 3) S < 256 := rf_B_lt _ hSlt (by omega)
          generalize rf_B (a_d A) (a_w A) (i / 3) S = Sb at htk2 nxt hSblt
          obtain ⟨τ, g1, -⟩ := gR2.1
          obtain ⟨w1, w2⟩ := (g1.2.2 (i / 3) hb8).2.2.2 (i % 3) hk3
          rw [show 3 * (i / 3) + i % 3 = i by omega] at w1
          have set1 : (bh_any (rf_c (a_d A) (a_w A) Sb (i / 3)) (i % 3) || rf_c (a_d A) (a_w A) Sb (i / 3) (i % 3)) = true → bh_wp (bh_tb T_M_refresh) (91, [some (.inr (40, 1)), some (.inl (.int 0)), some (.inl (.int (nI r))), some (.inl (.int (nI i)))], [], M2, 0) Z := by
            intro q
            rw [q] at nxt
            refine bk_M_refresh_91 0 r i hi24 gR2.hs (nxt _ (f63 M2 _ _ fI2) f22 (fun x hx => ?_))
            show (if 63 = 63 ∧ 1 = 1 ∧ x = i / 3 then (1 : Int32) else bh_I M2 63 1 x) = if (if true = true then Sb ||| 2 ^ (i / 3) else Sb).testBit x = true then 1 else 0
            rw [if_pos (rfl : true = true)]
            rw [bit_set]
            by_cases c : x = i / 3
            · rw [if_pos ⟨rfl, rfl, c⟩, decide_eq_true c.symm, Bool.or_true, if_pos rfl]
            · rw [if_neg (fun q => c q.2.2), decide_eq_false (fun q => c q.symm), Bool.or_false, htk2 x hx]
              by_cases c2 : bh_any (rf_c (a_d A) (a_w A) Sb (i / 3)) (i % 3) = true
              · rw [if_pos c2]
                show (if (Sb ||| 2 ^ (i / 3)).testBit x = true then (1 : Int32) else 0) = _
                rw [bit_set, decide_eq_false (fun q => c q.symm), Bool.or_false]
              · rw [if_neg c2]
          have keep : (bh_any (rf_c (a_d A) (a_w A) Sb (i / 3)) (i % 3) = false → rf_c (a_d A) (a_w A) Sb (i / 3) (i % 3) = false) → bh_wp (bh_tb T_M_refresh) (38, [some (.inr (40, 1)), some (.inl (.int 0)), some (.inl (.int (nI r))), some (.inl (.int (nI (i + 1))))], [], M2, 0) Z := by
            intro q
            refine nxt M2 fI2 f22 ?_
            cases c : bh_any (rf_c (a_d A) (a_w A) Sb (i / 3)) (i % 3) with
            | true =>
              rw [c] at htk2
              exact htk2
            | false =>
              rw [c] at htk2
              rw [q c]
              exact htk2
          refine bl_M_refresh_38 0 r i hi24 gR2.hs ?_
          rw [w1]
          cases ew : a_w A (i / 3) (i % 3) with
          | none =>
            exact ⟨fun _ => keep (fun _ => by unfold rf_c; rw [ew]), fun q => absurd (show lg_cmp (-1) 0 < 0 by decide) q⟩
          | some ol =>
            obtain ⟨o, l⟩ := ol
            obtain ⟨x1, x2, x3⟩ := w2 o l ew
            have hτ := g1.2.1 o l x1 x2
            have hip := ((g1.2.2 (i / 3) hb8).2.2.1.2.2.1 (i % 3) x3).2.1
            have ec : ∀ t, rf_c (a_d A) (a_w A) t (i / 3) (i % 3) = (d_old (a_d A) o l || t.testBit o) := by
              intro t
              unfold rf_c
              rw [ew]
            have e1 : (p_enc τ (d_ip (a_d A) (i / 3) (i % 3)) (some (o, l)) / 8 - p_enc τ (d_ip (a_d A) (i / 3) (i % 3)) (some (o, l)) / 8 / 8 * 8).toInt32 = nI o := by
              show ((nJ ((τ o l * 8 + o) * 8 + d_ip (a_d A) (i / 3) (i % 3)) / nJ 8) - (nJ ((τ o l * 8 + o) * 8 + d_ip (a_d A) (i / 3) (i % 3)) / nJ 8) / nJ 8 * nJ 8).toInt32 = nI o
              rw [bj_div 8 (by omega) (by decide), bj_rem 8 (by omega) (by decide), bj_32 (by omega)]
              congr 1
              omega
            refine ⟨fun q => absurd q (by rw [lg_cmp_lt]; exact bj_0le (show (τ o l * 8 + o) * 8 + d_ip (a_d A) (i / 3) (i % 3) < 9223372036854775808 by omega)), fun _ => ?_⟩
            refine cr_old hb8 hk3 g1 hw.1 ew gR2.hs ?_
            refine bk_M_refresh_65 0 r i _ hi24 gR2.hs ?_
            rw [w1, ew, e1, bn_clamp x1 rfl, htk2.f x1]
            refine ⟨fun q => set1 ?_, fun q => ⟨bn_in x1 rfl, fun q2 => keep (fun c => ?_), fun q2 => set1 ?_⟩⟩
            · have : d_old (a_d A) o l = true := by
                cases c : d_old (a_d A) o l with
                | true => rfl
                | false => exact absurd (by rw [c]; rfl) q
              rw [ec, this, Bool.true_or, Bool.or_true]
            · have q := bI_0.mp (Decidable.of_not_not q)
              rw [c] at q2
              have q2 : Sb.testBit o = false := q2
              rw [ec, q, q2]
              rfl
            · cases c : bh_any (rf_c (a_d A) (a_w A) Sb (i / 3)) (i % 3) with
              | true => rfl
              | false =>
                rw [c] at q2
                have q2 : ¬ Sb.testBit o = false := q2
                have q2 : Sb.testBit o = true := by simpa using q2
                rw [ec, q2, Bool.or_true, Bool.or_true]
      refine wires 24 0 M1 (by omega) fI f2 ?_
      rw [show rf_w (a_d A) (a_w A) S 0 = S from rf_w_b (a_d A) (a_w A) S 0]
      exact htk
  have clear : ∀ m b (M1 : bh_M) (w3 : Option bh_V), b + m = 8 → (∀ a, a ≠ 63 → bh_I M1 a = bh_I M0 a) → M1.2 = M0.2 → (∀ x, x < b → bh_I M1 63 1 x = 0) → bh_wp (bh_tb T_M_refresh) (9, [some (.inr (40, 1)), some (.inl (.int 0)), some (.inl (.int (nI b))), w3], [], M1, 0) Z := by
    intro m
    induction m with
    | zero =>
      intro b M1 w3 hb fI f2 hc
      have : b = 8 := by omega
      subst this
      obtain ⟨gR, -, -⟩ := hJ M1 fI f2
      refine bx_M_refresh_9 0 w3 gR.hs (rounds 9 0 M1 _ (by omega) fI f2 (fun x hx => ?_))
      rw [hc x hx]
      show (0 : Int32) = if (rf_R (a_d A) (a_w A) 0).testBit x = true then 1 else 0
      rw [rf_R_0, Nat.zero_testBit]
      rfl
    | succ m ih =>
      intro b M1 w3 hb fI f2 hc
      obtain ⟨gR, -, -⟩ := hJ M1 fI f2
      refine bl_M_refresh_9 0 b w3 (by omega) gR.hs (ih (b + 1) _ w3 (by omega) (f63 M1 _ _ fI) f2 (fun x hx => ?_))
      show (if 63 = 63 ∧ 1 = 1 ∧ x = b then 0 else bh_I M1 63 1 x) = 0
      by_cases c : x = b
      · rw [if_pos ⟨rfl, rfl, c⟩]
      · rw [if_neg (fun q => c q.2.2)]
        exact hc x (by omega)
  exact clear 8 0 M0 none (by omega) (fun _ _ => rfl) rfl (fun x hx => absurd hx (Nat.not_lt_zero _))
