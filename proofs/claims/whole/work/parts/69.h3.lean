/-! THE CLASS: services, events, about, count -/
def sp_take (ν : bh_M) (k : Nat) : bh_M := bh_sI (bm_A ν 70 (fun x c => if x = 1 ∧ c < k - 1 then bh_I ν 70 1 (c + 1) else bh_I ν 70 x c)) 40 1 37 (nI (k - 1))
def a_k (A : sa) : Nat := (bh_I (a_nu A) 40 1 37).toNatClampNeg
def o_event (A : sa) : sr := if a_k A = 0 then (1, 0, A) else (0, bh_I (a_nu A) 70 1 0, a_snu A (sp_take (a_nu A) (a_k A)))
def o_count (A : sa) (a : Int32) : sr := if a = 0 then (0, nI (a_fl A), A) else if a = 1 then (0, bh_I (a_nu A) 40 1 34, A) else if a = 2 then (0, bh_I (a_nu A) 40 1 37, A) else if a = 3 then (0, bh_I (a_nu A) 40 1 38, A) else if a = 4 then (0, nI (a_tr A), A) else if a = 5 then (0, a_tk A, A) else (1, 0, A)
def d_old (d : sd) (o l : Nat) : Bool := !(decide (l = d_lf d o) && d_live d o)
def v_wt (d : sd) : Option (Nat × Nat) → Int32
  | none => -1
  | some (o, l) => if d_old d o l then nI (o + 100) else nI o
def v_about (A : sa) (b k : Nat) : Int32 := if k = 0 then nI (a_st A b) else if k = 1 then bI (a_wa A b) else if k = 2 then a_own A b else if k = 3 then nI (x_n (a_e A) b) else if k = 4 then nI (d_ni (a_d A) b) else v_wt (a_d A) (a_w A b (k - 5))
def o_about (A : sa) (a k : Int32) : sr := o_c (¬ k < 0 ∧ k ≤ 7) A (if ¬ a < 0 ∧ a ≤ 7 then (0, v_about A a.toNatClampNeg k.toNatClampNeg, A) else (1, 0, A))
theorem RC.nu_E {M M' : bh_M} {A : sa} (h : RC M A) {ν : bh_M} (f : fr_E M M') (h1 : rc_E M' ν) (h2 : ∃ n, rc_S M ν n) : RC M' (a_snu A ν) := by
  refine h.se (f.se h.hs) h1 ?_
  obtain ⟨n, h4⟩ := h2
  refine ⟨n, ?_⟩
  unfold rc_S
  rw [f.1 19 (by decide) (by decide), f.1 21 (by decide) (by decide), f.1 22 (by decide) (by decide), f.R, f.D]
  exact h4
theorem cc_event {M : bh_M} {Z : bh_F → Prop} {A : sa} (h : RC M A) (hz : ∀ M', RC M' (o_event A).2.2 → fr_C M M' → Z (rz E_ev (o_event A), M')) : F_H_event [.inr (3, 1)] M Z := by
  have hs := h.hs
  obtain ⟨o, k, k1, k2, k3, k4, k5, k6, k7⟩ := h.2.2.1
  have ek : a_k A = k := by
    unfold a_k
    rw [k5]
    exact bn_clamp (N := 11) (by omega) rfl
  unfold o_event at hz
  rw [ek] at hz
  refine ct_H_event hs ?_
  rw [k3, k4, bn_clamp (N := 10) k1 rfl, bn_0 (by omega)]
  refine ⟨fun q => ⟨bn_in k1 rfl, ?_⟩, fun q => ?_⟩
  · rw [if_neg q] at hz
    have e1 := k7 0 (by omega)
    rw [Nat.add_zero, Nat.mod_eq_of_lt k1] at e1
    rw [e1, show (nI o + 1 : Int32) = nI (o + 1) from bn_add o 1, show nI (o + 1) - nI (o + 1) / 10 * 10 = nI ((o + 1) % 10) from bn_rem 10 (by omega) (by decide), show (nI k - 1 : Int32) = nI (k - 1) from bn_sub (a := k) (b := 1) (by omega)]
    have f1 : fr_E M (bh_sI (bh_sI M 23 1 1 (nI ((o + 1) % 10))) 23 1 2 (nI (k - 1))) := ⟨fun a w1 _ => by
      funext y c
      show (if a = 23 ∧ y = 1 ∧ c = 2 then _ else if a = 23 ∧ y = 1 ∧ c = 1 then _ else bh_I M a y c) = _
      rw [if_neg (fun q => w1 q.1), if_neg (fun q => w1 q.1)], rfl⟩
    refine hz _ (h.nu_E f1 ⟨(o + 1) % 10, k - 1, Nat.mod_lt _ (by decide), by omega, rfl, rfl, rfl, k6, fun j hj => ?_⟩ h.2.2.2.1) (f1.se hs).C
    show bh_I M 24 1 (((o + 1) % 10 + j) % 10) = if 1 = 1 ∧ j < k - 1 then bh_I (a_nu A) 70 1 (j + 1) else bh_I (a_nu A) 70 1 j
    rw [if_pos ⟨rfl, hj⟩, ← k7 (j + 1) (by omega)]
    congr 1
    omega
  · rw [if_pos (Decidable.of_not_not q)] at hz
    exact hz M h (fr_C_refl hs)
theorem cc_count {M : bh_M} {Z : bh_F → Prop} {A : sa} (h : RC M A) (a : Int32) (hz : ∀ M', RC M' (o_count A a).2.2 → fr_C M M' → Z (rz E_one (o_count A a), M')) : F_H_count [.inr (3, 1), .inl (.int a)] M Z := by
  have hs := h.hs
  obtain ⟨o, k, -, -, -, k4, k5, k6, -⟩ := h.2.2.1
  obtain ⟨n, hn⟩ := h.2.2.2.1
  have hz := hz M
  have bad : (a < 0 ∨ ¬ a ≤ 5) → Z (.inr "java/lang/IllegalArgumentException", M) := by
    intro q
    have e : o_count A a = (1, 0, A) := by
      unfold o_count
      rw [if_neg, if_neg, if_neg, if_neg, if_neg, if_neg] <;> (intro c; subst c; exact absurd q (by decide))
    rw [e] at hz
    exact hz h (fr_C_refl hs)
  refine ct_H_count a hs ⟨fun q => bad (Or.inl q), fun q0 => ⟨fun q1 => ⟨?_, ?_, ?_, ?_, ?_, ?_⟩, fun q1 => bad (Or.inr q1)⟩⟩
  · intro c
    subst c
    have := hz h (fr_C_refl hs)
    rw [h.2.2.2.2.1]
    exact this
  · intro c
    subst c
    have := hz h (fr_C_refl hs)
    rw [hn.2.1, ← hn.2.2.1]
    exact this
  · intro c
    subst c
    have := hz h (fr_C_refl hs)
    rw [k4, ← k5]
    exact this
  · intro c
    subst c
    have := hz h (fr_C_refl hs)
    rw [k6]
    exact this
  · intro c
    subst c
    have := hz h (fr_C_refl hs)
    rw [h.2.2.2.2.2.1]
    exact this
  · rintro ⟨c0, c1, c2, c3, c4⟩
    obtain ⟨b, hb, rfl⟩ := i_nat (N := 5) q0 q1 (by decide)
    have hb5 : b = 5 := by
      have : b = 0 ∨ b = 1 ∨ b = 2 ∨ b = 3 ∨ b = 4 ∨ b = 5 := by omega
      rcases this with rfl | rfl | rfl | rfl | rfl | rfl
      · exact absurd rfl c0
      · exact absurd rfl c1
      · exact absurd rfl c2
      · exact absurd rfl c3
      · exact absurd rfl c4
      · rfl
    subst hb5
    have := hz h (fr_C_refl hs)
    rw [h.2.2.2.2.2.2.1]
    exact this
theorem cc_register {M : bh_M} {Z : bh_F → Prop} {A : sa} (h : RC M A) (a k : Int32) (x : UInt64) (hz : ∀ M', RC M' (o_register A a k x).2.2 → fr_C M M' → Z (rz E_std (o_register A a k x), M')) : F_H_register [.inr (3, 1), .inl (.int a), .inl (.int k), .inl (.double x)] M Z := by
  have hs := h.hs
  obtain ⟨n, hn⟩ := h.2.2.2.1
  have bad1 : ¬ (¬ a < 0 ∧ a ≤ 7) → Z (.inr "java/lang/IllegalArgumentException", M) := by
    intro q
    have e : o_register A a k x = (1, 0, A) := by
      unfold o_register
      rw [o_b_out q]
      unfold o_c
      split <;> rfl
    rw [e] at hz
    exact hz M h (fr_C_refl hs)
  have bad2 : ¬ ((¬ k < 0 ∧ k ≤ 3) ∧ r_ok x) → Z (.inr "java/lang/IllegalArgumentException", M) := by
    intro q
    rw [show o_register A a k x = (1, 0, A) from o_c_out q] at hz
    exact hz M h (fr_C_refl hs)
  refine be_H_register a k x hs ⟨fun q => bad1 (fun c => c.1 q), fun q0 => ⟨fun q1 => ⟨fun q => bad2 (fun c => c.1.1 q), fun r0 => ⟨fun r1 => ⟨fun q => bad2 (fun c => c.2.1 q), fun s0 => ⟨fun s1 => ?_, fun s1 => bad2 (fun c => s1 c.2.2)⟩⟩, fun r1 => bad2 (fun c => r1 c.1.2)⟩⟩, fun q1 => bad1 (fun c => q1 c.2)⟩⟩
  obtain ⟨b, hb, rfl⟩ := i_nat (N := 7) q0 q1 (by decide)
  have hb : b < 8 := by omega
  have e1 : o_register A (nI b) k x = _ := o_c_in ⟨⟨r0, r1⟩, s0, s1⟩
  rw [e1] at hz
  clear e1 bad1 bad2
  refine ⟨bn_in hb rfl, ?_⟩
  rw [bn_clamp hb rfl]
  refine ⟨fun q2 => ?_, fun q2 => ?_⟩
  · have q3 : ¬ a_st A b = 0 := fun c => q2 ((h.stq hb 0 (by decide)).mpr c)
    rw [o_b_in hb q3] at hz
    refine ⟨fun q4 => ?_, fun q4 => ?_⟩
    · have q5 : a_st A b = 3 := (h.stq hb 3 (by decide)).mp q4
      rw [if_neg (fun c => c q5)] at hz
      have en : a_n A = n := (rc_S_n hn).1
      rw [en] at hz
      rw [hn.2.1, show (20 : Int32) = nI 20 from rfl, bn_lt (by have := hn.1; omega) (by decide)]
      refine ⟨fun q => ?_, fun q => ?_⟩
      · rw [if_neg (by omega)] at hz
        refine cs_H_addService (nI b) k x q hs h.2.2.1 hn (fun M' g f => ?_)
        obtain ⟨g1, g2⟩ := g _ h.2.2.1 hn
        refine bk_H_register_49 b k x _ f.2.2.2.1 ?_
        rw [hn.2.2.2.1]
        exact hz M' (h.se f g1 ⟨_, g2⟩) f.C
      · rw [if_pos (by have := hn.1; omega)] at hz
        exact hz M h (fr_C_refl hs)
    · have q5 : ¬ a_st A b = 3 := fun c => q4 ((h.stq hb 3 (by decide)).mpr c)
      rw [if_pos q5] at hz
      exact hz M h (fr_C_refl hs)
  · have q3 : a_st A b = 0 := (h.stq hb 0 (by decide)).mp (Decidable.of_not_not q2)
    rw [o_b_0 hb q3] at hz
    exact hz M h (fr_C_refl hs)
theorem cc_get {M : bh_M} {Z : bh_F → Prop} {A : sa} (h : RC M A) (a k : Int32) (hz : ∀ M', RC M' (o_get A a k).2.2 → fr_C M M' → Z (rz E_std (o_get A a k), M')) : F_H_get [.inr (3, 1), .inl (.int a), .inl (.int k)] M Z := by
  have hs := h.hs
  obtain ⟨n, hn⟩ := h.2.2.2.1
  have bad1 : ¬ (¬ a < 0 ∧ a ≤ 7) → Z (.inr "java/lang/IllegalArgumentException", M) := by
    intro q
    have e : o_get A a k = (1, 0, A) := by
      unfold o_get
      rw [o_b_out q]
      unfold o_c
      split <;> rfl
    rw [e] at hz
    exact hz M h (fr_C_refl hs)
  have bad2 : ¬ (¬ k < 0 ∧ k ≤ 3) → Z (.inr "java/lang/IllegalArgumentException", M) := by
    intro q
    rw [show o_get A a k = (1, 0, A) from o_c_out q] at hz
    exact hz M h (fr_C_refl hs)
  refine be_H_get a k hs ⟨fun q => bad1 (fun c => c.1 q), fun q0 => ⟨fun q1 => ⟨fun q => bad2 (fun c => c.1 q), fun r0 => ⟨fun r1 => ?_, fun r1 => bad2 (fun c => r1 c.2)⟩⟩, fun q1 => bad1 (fun c => q1 c.2)⟩⟩
  obtain ⟨b, hb, rfl⟩ := i_nat (N := 7) q0 q1 (by decide)
  have hb : b < 8 := by omega
  have e1 : o_get A (nI b) k = _ := o_c_in ⟨r0, r1⟩
  rw [e1] at hz
  clear e1 bad1 bad2
  refine ⟨bn_in hb rfl, ?_⟩
  rw [bn_clamp hb rfl]
  refine ⟨fun q2 => ?_, fun q2 => ?_⟩
  · have q3 : ¬ a_st A b = 0 := fun c => q2 ((h.stq hb 0 (by decide)).mpr c)
    rw [o_b_in hb q3] at hz
    refine ⟨fun q4 => ?_, fun q4 => ?_⟩
    · have q5 : a_st A b = 3 := (h.stq hb 3 (by decide)).mp q4
      rw [if_neg (fun c => c q5)] at hz
      refine ct_V_bestRow k hs ⟨(rc_S_n hn).2.2, fun e => ?_, fun r e => ?_⟩
      · rw [rc_S_best hn] at e
        rw [e] at hz
        exact bz_H_get_26 b k hb hs (hz M h (fr_C_refl hs))
      · have hr := bh_best_lt e
        rw [(rc_S_n hn).2.1] at hr
        rw [rc_S_best hn] at e
        rw [e] at hz
        have hn20 := hn.1
        refine bk_H_get_26 b k r hb (by omega) hs ?_
        obtain ⟨v1, -, -, -, v5⟩ := hn.2.2.2.2.2 r hr
        rw [v5 b hb, v1]
        exact hz _ (h.se (fr_SE_22 hs _ _ _) h.2.2.1 ⟨n, rc_S_got hn hr hb _⟩) (fr_SE_22 hs _ _ _).C
    · have q5 : ¬ a_st A b = 3 := fun c => q4 ((h.stq hb 3 (by decide)).mpr c)
      rw [if_pos q5] at hz
      exact hz M h (fr_C_refl hs)
  · have q3 : a_st A b = 0 := (h.stq hb 0 (by decide)).mp (Decidable.of_not_not q2)
    rw [o_b_0 hb q3] at hz
    exact hz M h (fr_C_refl hs)
theorem rc_S_row {M ν : bh_M} {n : Nat} (h : rc_S M ν n) (k : Int32) : bh_ff (fun i => decide (bh_I M 21 (bh_R M 20 1 i) 1 = k)) (bh_I M 19 1 1).toNatClampNeg = a_row ν k := by
  unfold a_row
  rw [(rc_S_n h).1, (rc_S_n h).2.1]
  exact bh_ff_congr (fun i hi => by rw [(h.2.2.2.2.2 i hi).1])
theorem cc_giveBack {M : bh_M} {Z : bh_F → Prop} {A : sa} (h : RC M A) (a k : Int32) (hz : ∀ M', RC M' (o_giveBack A a k).2.2 → fr_C M M' → Z (rz E_gb (o_giveBack A a k), M')) : F_H_giveBack [.inr (3, 1), .inl (.int a), .inl (.int k)] M Z := by
  have hs := h.hs
  obtain ⟨n, hn⟩ := h.2.2.2.1
  have bad1 : ¬ (¬ a < 0 ∧ a ≤ 7) → Z (.inr "java/lang/IllegalArgumentException", M) := by
    intro q
    have e : o_giveBack A a k = (1, 0, A) := by
      unfold o_giveBack
      rw [o_b_out q]
      unfold o_c
      split <;> rfl
    rw [e] at hz
    exact hz M h (fr_C_refl hs)
  have bad2 : ¬ 0 ≤ k → Z (.inr "java/lang/IllegalArgumentException", M) := by
    intro q
    rw [show o_giveBack A a k = (1, 0, A) from o_c_out q] at hz
    exact hz M h (fr_C_refl hs)
  refine be_H_giveBack a k hs ⟨fun q => bad1 (fun c => c.1 q), fun q0 => ⟨fun q1 => ⟨fun r0 => ?_, fun r0 => bad2 r0⟩, fun q1 => bad1 (fun c => q1 c.2)⟩⟩
  obtain ⟨b, hb, rfl⟩ := i_nat (N := 7) q0 q1 (by decide)
  have hb : b < 8 := by omega
  have e1 : o_giveBack A (nI b) k = _ := o_c_in r0
  rw [e1] at hz
  clear e1 bad1 bad2
  refine ⟨bn_in hb rfl, ?_⟩
  rw [bn_clamp hb rfl]
  refine ⟨fun q2 => ?_, fun q2 => ?_⟩
  · have q3 : ¬ a_st A b = 0 := fun c => q2 ((h.stq hb 0 (by decide)).mpr c)
    rw [o_b_in hb q3] at hz
    refine ct_V_rowOf k hs ⟨(rc_S_n hn).2.2, fun e => ?_, fun r e => ?_⟩
    · rw [rc_S_row hn] at e
      rw [e] at hz
      exact bz_H_giveBack_22 b k hb hs (hz M h (fr_C_refl hs))
    · have hr := (bh_ff_lt e).1
      rw [(rc_S_n hn).2.1] at hr
      rw [rc_S_row hn] at e
      rw [e] at hz
      have hn20 := hn.1
      obtain ⟨-, -, -, -, v5⟩ := hn.2.2.2.2.2 r hr
      refine bk_H_giveBack_22 b k r hb (by omega) hs ?_
      rw [v5 b hb]
      refine ⟨fun q => ?_, fun q => ?_⟩
      · have hz : ∀ M', RC M' (if bh_I (a_nu A) 69 1 (8 * r + b) = 0 then (3, 0, A) else (0, bh_I (a_nu A) 69 1 (8 * r + b) - 1, a_snu A (a_got (a_nu A) r b (bh_I (a_nu A) 69 1 (8 * r + b) - 1)))).2.2 → fr_C M M' → Z (rz E_gb (if bh_I (a_nu A) 69 1 (8 * r + b) = 0 then (3, 0, A) else (0, bh_I (a_nu A) 69 1 (8 * r + b) - 1, a_snu A (a_got (a_nu A) r b (bh_I (a_nu A) 69 1 (8 * r + b) - 1)))), M') := hz
        rw [if_neg q] at hz
        rw [show bh_I (bh_sI M 22 (bh_R M 20 1 r) b (bh_I (a_nu A) 69 1 (8 * r + b) - 1)) 22 (bh_R M 20 1 r) b = bh_I (a_nu A) 69 1 (8 * r + b) - 1 from if_pos ⟨rfl, rfl, rfl⟩]
        exact hz _ (h.se (fr_SE_22 hs _ _ _) h.2.2.1 ⟨n, rc_S_got hn hr hb _⟩) (fr_SE_22 hs _ _ _).C
      · have hz : ∀ M', RC M' (if bh_I (a_nu A) 69 1 (8 * r + b) = 0 then (3, 0, A) else (0, bh_I (a_nu A) 69 1 (8 * r + b) - 1, a_snu A (a_got (a_nu A) r b (bh_I (a_nu A) 69 1 (8 * r + b) - 1)))).2.2 → fr_C M M' → Z (rz E_gb (if bh_I (a_nu A) 69 1 (8 * r + b) = 0 then (3, 0, A) else (0, bh_I (a_nu A) 69 1 (8 * r + b) - 1, a_snu A (a_got (a_nu A) r b (bh_I (a_nu A) 69 1 (8 * r + b) - 1)))), M') := hz
        rw [if_pos (Decidable.of_not_not q)] at hz
        exact hz M h (fr_C_refl hs)
  · have q3 : a_st A b = 0 := (h.stq hb 0 (by decide)).mp (Decidable.of_not_not q2)
    rw [o_b_0 hb q3] at hz
    exact hz M h (fr_C_refl hs)
theorem cc_unregister {M : bh_M} {Z : bh_F → Prop} {A : sa} (h : RC M A) (a k : Int32) (hz : ∀ M', RC M' (o_unregister A a k).2.2 → fr_C M M' → Z (rz E_gb (o_unregister A a k), M')) : F_H_unregister [.inr (3, 1), .inl (.int a), .inl (.int k)] M Z := by
  have hs := h.hs
  obtain ⟨n, hn⟩ := h.2.2.2.1
  have bad1 : ¬ (¬ a < 0 ∧ a ≤ 7) → Z (.inr "java/lang/IllegalArgumentException", M) := by
    intro q
    have e : o_unregister A a k = (1, 0, A) := by
      unfold o_unregister
      rw [o_b_out q]
      unfold o_c
      split <;> rfl
    rw [e] at hz
    exact hz M h (fr_C_refl hs)
  have bad2 : ¬ 0 ≤ k → Z (.inr "java/lang/IllegalArgumentException", M) := by
    intro q
    rw [show o_unregister A a k = (1, 0, A) from o_c_out q] at hz
    exact hz M h (fr_C_refl hs)
  refine be_H_unregister a k hs ⟨fun q => bad1 (fun c => c.1 q), fun q0 => ⟨fun q1 => ⟨fun r0 => ?_, fun r0 => bad2 r0⟩, fun q1 => bad1 (fun c => q1 c.2)⟩⟩
  obtain ⟨b, hb, rfl⟩ := i_nat (N := 7) q0 q1 (by decide)
  have hb : b < 8 := by omega
  have e1 : o_unregister A (nI b) k = _ := o_c_in r0
  rw [e1] at hz
  clear e1 bad1 bad2
  refine ⟨bn_in hb rfl, ?_⟩
  rw [bn_clamp hb rfl]
  refine ⟨fun q2 => ?_, fun q2 => ?_⟩
  · have q3 : ¬ a_st A b = 0 := fun c => q2 ((h.stq hb 0 (by decide)).mpr c)
    rw [o_b_in hb q3] at hz
    refine ct_V_rowOf k hs ⟨(rc_S_n hn).2.2, fun e => ?_, fun r e => ?_⟩
    · rw [rc_S_row hn] at e
      rw [e] at hz
      exact bz_H_unregister_22 b k hb hs (hz M h (fr_C_refl hs))
    · have hr := (bh_ff_lt e).1
      rw [(rc_S_n hn).2.1] at hr
      rw [rc_S_row hn] at e
      rw [e] at hz
      have hn20 := hn.1
      have en : a_n A = n := (rc_S_n hn).1
      obtain ⟨-, v2, -, -, v5⟩ := hn.2.2.2.2.2 r hr
      have hz : ∀ M', RC M' (if bh_I (a_nu A) 66 1 r = nI b then (0, bh_sum (fun i => bh_I (a_nu A) 69 1 (8 * r + i)) 8, a_snu A (sp_drop (a_nu A) r (a_n A - 1))) else (3, 0, A)).2.2 → fr_C M M' → Z (rz E_gb (if bh_I (a_nu A) 66 1 r = nI b then (0, bh_sum (fun i => bh_I (a_nu A) 69 1 (8 * r + i)) 8, a_snu A (sp_drop (a_nu A) r (a_n A - 1))) else (3, 0, A)), M') := hz
      refine bk_H_unregister_22 b k r hb (by omega) hs ?_
      rw [v2]
      refine ⟨fun q => ?_, fun q => ?_⟩
      · rw [if_pos q, en] at hz
        obtain ⟨m, rfl⟩ : ∃ m, n = m + 1 := ⟨n - 1, by omega⟩
        rw [Nat.add_sub_cancel] at hz
        have es : bh_sum (fun i => bh_I M 22 (bh_R M 20 1 r) i) 8 = bh_sum (fun i => bh_I (a_nu A) 69 1 (8 * r + i)) 8 := bh_sum_congr (fun i hi => v5 i hi)
        rw [es]
        refine cs_H_dropService r m hn.2.1 (by omega) (by omega) hs h.2.2.1 (fun M' g f _ => ?_)
        obtain ⟨g1, g2⟩ := g _ h.2.2.1 hn
        exact bk_H_unregister_73 b k r _ f.2.2.2.1 (hz M' (h.se f g1 ⟨_, g2⟩) f.C)
      · rw [if_neg q] at hz
        exact hz M h (fr_C_refl hs)
  · have q3 : a_st A b = 0 := (h.stq hb 0 (by decide)).mp (Decidable.of_not_not q2)
    rw [o_b_0 hb q3] at hz
    exact hz M h (fr_C_refl hs)
theorem bn_port {o l : Nat} (ho : o < 8) (hl : l ≤ 1000) : nI (o + 8 * l) - nI (o + 8 * l) / 8 * 8 = nI o := by
  rw [show nI (o + 8 * l) - nI (o + 8 * l) / 8 * 8 = nI ((o + 8 * l) % 8) from bn_rem 8 (by omega) (by decide)]
  congr 1
  omega
theorem cc_wireTarget {M : bh_M} {Z : bh_F → Prop} {d : sd} {w : sw} (h : rdC M d w) (hs : bh_stat M.2.2.2) {x : Option (Nat × Nat)} (hx : ∀ o l, x = some (o, l) → o < 8 ∧ l ≤ 1000) (hz : Z (.inl (some (.inl (.int (v_wt d x)))), M)) : F_H_wireTarget [.inr (3, 1), .inl (.int (w_enc x))] M Z := by
  refine ct_H_wireTarget _ hs ⟨fun q => ?_, fun q => ?_⟩
  · cases x with
    | none => exact absurd rfl q
    | some ol =>
      obtain ⟨o, l⟩ := ol
      obtain ⟨ho, hl⟩ := hx o l rfl
      show 0 ≤ nI (o + 8 * l) ∧ vp_in (nI (o + 8 * l) - nI (o + 8 * l) / 8 * 8) 8 ∧ (¬ nI (o + 8 * l) = bh_I M 5 ((nI (o + 8 * l) - nI (o + 8 * l) / 8 * 8).toNatClampNeg + 1) 9 → Z (.inl (some (.inl (.int (nI (o + 8 * l) - nI (o + 8 * l) / 8 * 8 + 100)))), M)) ∧ (¬ (¬ nI (o + 8 * l) = bh_I M 5 ((nI (o + 8 * l) - nI (o + 8 * l) / 8 * 8).toNatClampNeg + 1) 9) → (bh_I M 5 ((nI (o + 8 * l) - nI (o + 8 * l) / 8 * 8).toNatClampNeg + 1) 3 < 2 → Z (.inl (some (.inl (.int (nI (o + 8 * l) - nI (o + 8 * l) / 8 * 8 + 100)))), M)) ∧ (¬ bh_I M 5 ((nI (o + 8 * l) - nI (o + 8 * l) / 8 * 8).toNatClampNeg + 1) 3 < 2 → Z (.inl (some (.inl (.int (nI (o + 8 * l) - nI (o + 8 * l) / 8 * 8)))), M)))
      have hlf := (h o ho).1.2.2.2.2
      rw [bn_port ho hl, bn_clamp ho rfl, hlf.1, bn_inj (by omega) (by omega), h.lv ho, show (nI o + 100 : Int32) = nI (o + 100) from bn_add o 100]
      have hz : Z (.inl (some (.inl (.int (if d_old d o l then nI (o + 100) else nI o)))), M) := hz
      unfold d_old at hz
      refine ⟨bn_0le (by omega), bn_in ho rfl, fun q1 => ?_, fun q1 => ⟨fun q2 => ?_, fun q2 => ?_⟩⟩
      · rw [decide_eq_false (show ¬ l = d_lf d o by omega)] at hz
        exact hz
      · rw [q2, Bool.and_false] at hz
        exact hz
      · have q2 : d_live d o = true := by simpa using q2
        rw [decide_eq_true (show l = d_lf d o by omega), q2] at hz
        exact hz
  · have q := Decidable.of_not_not q
    rw [w_enc_neg hx] at q
    subst q
    exact hz
theorem cc_about {M : bh_M} {Z : bh_F → Prop} {A : sa} (h : RC M A) (a k : Int32) (hz : ∀ M', RC M' (o_about A a k).2.2 → fr_C M M' → Z (rz E_one (o_about A a k), M')) : F_H_about [.inr (3, 1), .inl (.int a), .inl (.int k)] M Z := by
  have hs := h.hs
  obtain ⟨n, hn⟩ := h.2.2.2.1
  have bad1 : ¬ (¬ a < 0 ∧ a ≤ 7) → Z (.inr "java/lang/IllegalArgumentException", M) := by
    intro q
    have e : o_about A a k = (1, 0, A) := by
      unfold o_about
      rw [if_neg q]
      unfold o_c
      split <;> rfl
    rw [e] at hz
    exact hz M h (fr_C_refl hs)
  have bad2 : ¬ (¬ k < 0 ∧ k ≤ 7) → Z (.inr "java/lang/IllegalArgumentException", M) := by
    intro q
    rw [show o_about A a k = (1, 0, A) from o_c_out q] at hz
    exact hz M h (fr_C_refl hs)
  refine be_H_about a k hs ⟨fun q => bad1 (fun c => c.1 q), fun q0 => ⟨fun q1 => ⟨fun q => bad2 (fun c => c.1 q), fun r0 => ⟨fun r1 => ?_, fun r1 => bad2 (fun c => r1 c.2)⟩⟩, fun q1 => bad1 (fun c => q1 c.2)⟩⟩
  obtain ⟨b, hb, rfl⟩ := i_nat (N := 7) q0 q1 (by decide)
  have hb : b < 8 := by omega
  obtain ⟨j, hj, rfl⟩ := i_nat (N := 7) r0 r1 (by decide)
  have e1 : o_about A (nI b) (nI j) = (0, v_about A b j, A) := by
    unfold o_about
    rw [o_c_in ⟨r0, r1⟩, if_pos ⟨q0, q1⟩, bn_clamp hb rfl, bn_clamp (N := 8) (by omega) rfl]
  rw [e1] at hz
  clear e1 bad1 bad2
  have hz : Z (.inl (some (.inl (.int (v_about A b j)))), M) := hz M h (fr_C_refl hs)
  refine ⟨bn_in hb rfl, ?_⟩
  rw [bn_clamp hb rfl, (h.st hb).1, (h.2.1 b hb).1, (h.2.1 b hb).2.1, (h.1 b hb).2.2.1.1]
  have hjs : j = 0 ∨ j = 1 ∨ j = 2 ∨ j = 3 ∨ j = 4 ∨ j = 5 ∨ j = 6 ∨ j = 7 := by omega
  have wt : ∀ i, i < 3 → j = i + 5 → vp_in (nI j - 5) 3 ∧ F_H_wireTarget [.inr (3, 1), .inl (.int (bh_I M 6 (b + 1) (nI j - 5).toNatClampNeg))] M (bh_after 107 [some (.inr (3, 1)), some (.inl (.int (nI b))), some (.inl (.int (nI j))), some (.inr (5, (b + 1)))] [] 2 (fun y => bh_wp (bh_tb T_H_about) y Z) Z) := by
    intro i hi hji
    have e5 : (nI j - 5 : Int32) = nI i := by
      rw [show (nI j - 5 : Int32) = nI (j - 5) from bn_sub (a := j) (b := 5) (by omega)]
      congr 1
      omega
    rw [e5, bn_clamp (N := 3) hi rfl, ((h.1 b hb).2.2.2.2.2 i hi).1]
    refine ⟨bn_in hi rfl, cc_wireTarget h.1 hs ((h.1 b hb).2.2.2.2.2 i hi).2 ?_⟩
    refine bk_H_about_107 b _ _ hb hs ?_
    have : v_about A b j = v_wt (a_d A) (a_w A b i) := by
      unfold v_about
      rw [if_neg (by omega), if_neg (by omega), if_neg (by omega), if_neg (by omega), if_neg (by omega), show j - 5 = i by omega]
    rw [this] at hz
    exact hz
  rcases hjs with rfl | rfl | rfl | rfl | rfl | rfl | rfl | rfl
  · exact ⟨fun _ => hz, fun q => absurd q (by decide), fun q => absurd q (by decide), fun q => absurd q (by decide), fun q => absurd q (by decide), fun q => absurd rfl q.1⟩
  · refine ⟨fun q => absurd q (by decide), fun _ => ⟨fun q => ?_, fun q => ?_⟩, fun q => absurd q (by decide), fun q => absurd q (by decide), fun q => absurd q (by decide), fun q => absurd rfl q.2.1⟩
    · have hz : Z (.inl (some (.inl (.int (bI (a_wa A b))))), M) := hz
      rw [q] at hz
      exact hz
    · have hz : Z (.inl (some (.inl (.int (bI (a_wa A b))))), M) := hz
      cases e : a_wa A b with
      | false => exact absurd (by rw [e]; rfl) q
      | true =>
        rw [e] at hz
        exact hz
  · refine ⟨fun q => absurd q (by decide), fun q => absurd q (by decide), fun _ => ?_, fun q => absurd q (by decide), fun q => absurd q (by decide), fun q => absurd rfl q.2.2.1⟩
    refine ct_V_ownedBy (nI b) hs ⟨(rc_S_n hn).2.2, ?_⟩
    rw [rc_S_own hn]
    exact bk_H_about_78 b _ _ hb hs hz
  · exact ⟨fun q => absurd q (by decide), fun q => absurd q (by decide), fun q => absurd q (by decide), fun _ => hz, fun q => absurd q (by decide), fun q => absurd rfl q.2.2.2.1⟩
  · exact ⟨fun q => absurd q (by decide), fun q => absurd q (by decide), fun q => absurd q (by decide), fun q => absurd q (by decide), fun _ => hz, fun q => absurd rfl q.2.2.2.2⟩
  · exact ⟨fun q => absurd q (by decide), fun q => absurd q (by decide), fun q => absurd q (by decide), fun q => absurd q (by decide), fun q => absurd q (by decide), fun _ => wt 0 (by decide) rfl⟩
  · exact ⟨fun q => absurd q (by decide), fun q => absurd q (by decide), fun q => absurd q (by decide), fun q => absurd q (by decide), fun q => absurd q (by decide), fun _ => wt 1 (by decide) rfl⟩
  · exact ⟨fun q => absurd q (by decide), fun q => absurd q (by decide), fun q => absurd q (by decide), fun q => absurd q (by decide), fun q => absurd q (by decide), fun _ => wt 2 (by decide) rfl⟩
