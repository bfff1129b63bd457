theorem ct_H_ownerOfn {M : bh_M} {Z : bh_F → Prop} (a0 : Nat) (hs : bh_stat M.2.2.2) (h : a0 < 2147483648 ∧ Z (.inl (some (.inl (.int (nI (a0 % 8))))), M)) : F_H_ownerOf [.inl (.int (nI a0))] M Z := by
  refine ct_H_ownerOf (nI a0) hs ⟨bn_0le h.1, ?_⟩
  rw [show nI a0 - nI a0 / 8 * 8 = nI (a0 % 8) from bn_rem 8 h.1 (by decide)]
  exact h.2
theorem d_imp_lt {d : sd} {b q k : Nat} (h : d_imp d b q = some k) : k < d_ni d b ∧ d_ip d b k = q := ⟨(bh_ff_lt h).1, of_decide_eq_true (bh_ff_lt h).2⟩
theorem d_src_ok {M : bh_M} {d : sd} {w : sw} (hd : rdC M d w) {b q o l : Nat} (hb : b < 8) (h : d_src d w b q = some (o, l)) : o < 8 ∧ l ≤ 1000 := by
  obtain ⟨⟨-, -, -, -, -, hl⟩, -, ⟨-, n3⟩, -, -, hw⟩ := hd b hb
  unfold d_src at h
  split at h
  · have := Option.some.inj h
    cases this
    exact ⟨hb, hl⟩
  · split at h
    · cases h
    · rename_i k hk
      exact (hw k (by have := (d_imp_lt hk).1; omega)).2 o l h
theorem cd_B_sourceOf {M : bh_M} {Z : bh_F → Prop} {d : sd} {w : sw} {b q : Nat} (hb : b < 8) (hq : q < 8) (hd : rdC M d w) (hs : bh_stat M.2.2.2) (h : Z (.inl (some (.inl (.int (w_enc (d_src d w b q))))), M)) : F_B_sourceOf [.inr (5, b + 1), .inl (.int (nI q))] M Z := by
  obtain ⟨⟨-, -, -, -, hp, hl⟩, hv, ⟨-, n3⟩, -, hi, hw⟩ := hd b hb
  have eq : (nI q).toNatClampNeg = q := bn_clamp hq rfl
  obtain ⟨v1, v2⟩ := hv q hq
  have vn : bh_oI (d_ver d b q) = -1 ↔ d_ver d b q = none := bh_oI_neg (N := 10) (fun v e => by have := (v2 v e).1; omega) rfl
  have i1 := hi q hq
  have inn : bh_oI (d_imp d b q) = -1 ↔ d_imp d b q = none := bh_oI_neg (N := 3) (fun v e => by have := (d_imp_lt e).1; omega) rfl
  refine ct_B_sourceOf (b + 1) (bh_b8k hb) (nI q) hs ?_
  rw [eq, v1, i1, vn, inn, hp]
  refine ⟨bn_in hq rfl, fun q1 => ⟨fun q2 => ?_, fun q2 => ?_⟩, fun q1 => ?_⟩
  · unfold d_src at h
    rw [q1] at h
    cases e : d_imp d b q with
    | none => exact absurd e q2
    | some k =>
      rw [e] at h
      have hk := (d_imp_lt e).1
      refine ⟨bn_in (a := k) (by omega) rfl, ?_⟩
      show Z (.inl (some (.inl (.int (bh_I M 6 (b + 1) (nI k).toNatClampNeg)))), M)
      rw [bn_clamp (a := k) (N := 3) (by omega) rfl, (hw k (by omega)).1]
      exact h
  · unfold d_src at h
    rw [q1, Decidable.of_not_not q2] at h
    exact h
  · unfold d_src at h
    cases e : d_ver d b q with
    | none => exact absurd e q1
    | some v =>
      rw [e] at h
      exact h
theorem be_R_sourcesDiffer {M : bh_M} {Z : bh_F → Prop} (x0 : Nat) (hx0 : 1 ≤ x0 ∧ x0 ≤ bh_c0 5) (x1 : Nat) (hx1 : 1 ≤ x1 ∧ x1 ≤ bh_c0 5) (a2 : Int32) (hs : bh_stat M.2.2.2) (h : bh_wp (bh_tb T_R_sourcesDiffer) (2, [some (.inr (5, x0)), some (.inr (5, x1)), some (.inl (.int a2)), some (.inl (.int 0)), none, none], [], M, 0) Z) : F_R_sourcesDiffer [.inr (5, x0), .inr (5, x1), .inl (.int a2)] M Z := bi_fn rfl [some (.inr (5, x0)), some (.inr (5, x1)), some (.inl (.int a2)), none, none, none] rfl (bh_here m_R_sourcesDiffer l_R_sourcesDiffer_0 (bi_push (bh_here m_R_sourcesDiffer l_R_sourcesDiffer_1 (bi_ist [some (.inr (5, x0)), some (.inr (5, x1)), some (.inl (.int a2)), some (.inl (.int 0)), none, none] rfl rfl rfl h))))
theorem bl_R_sourcesDiffer_2 {M : bh_M} {Z : bh_F → Prop} (x0 : Nat) (hx0 : 1 ≤ x0 ∧ x0 ≤ bh_c0 5) (x1 : Nat) (hx1 : 1 ≤ x1 ∧ x1 ≤ bh_c0 5) (a2 : Int32) (i : Nat) (w4 : Option bh_V) (w5 : Option bh_V) (hi : i < 8) (hs : bh_stat M.2.2.2) (h : ((((a2 >>> ((nI i) &&& 31)) &&& 1) = 0) → bh_wp (bh_tb T_R_sourcesDiffer) (2, [some (.inr (5, x0)), some (.inr (5, x1)), some (.inl (.int a2)), some (.inl (.int (nI (i + 1)))), w4, w5], [], M, 0) Z) ∧ (¬ (((a2 >>> ((nI i) &&& 31)) &&& 1) = 0) → F_B_sourceOf [.inr (5, x0), .inl (.int (nI i))] M (bh_after 21 [some (.inr (5, x0)), some (.inr (5, x1)), some (.inl (.int a2)), some (.inl (.int (nI i))), w4, w5] [] 0 (fun y => bh_wp (bh_tb T_R_sourcesDiffer) y Z) Z))) : bh_wp (bh_tb T_R_sourcesDiffer) (2, [some (.inr (5, x0)), some (.inr (5, x1)), some (.inl (.int a2)), some (.inl (.int (nI i))), w4, w5], [], M, 0) Z := (bh_here m_R_sourcesDiffer l_R_sourcesDiffer_2 (bi_ild rfl (bh_here m_R_sourcesDiffer l_R_sourcesDiffer_3 (bi_push (bh_here m_R_sourcesDiffer l_R_sourcesDiffer_5 (bi_if2n (8 ≤ i) (bn_le (by decide) (bn_bd hi rfl)) (fun q => absurd q (by have h9 := hi; omega)) (fun _ => (bh_here m_R_sourcesDiffer l_R_sourcesDiffer_8 (bi_ild rfl (bh_here m_R_sourcesDiffer l_R_sourcesDiffer_9 (bi_ild rfl (bh_here m_R_sourcesDiffer l_R_sourcesDiffer_10 (bi_callS [.inl (.int a2), .inl (.int (nI i))] [] rfl rfl rfl rfl rfl (ct_H_isIn a2 (nI i) hs ⟨(fun q232 => (bh_here m_R_sourcesDiffer l_R_sourcesDiffer_13 (bi_if1 (fun _ => (bh_here m_R_sourcesDiffer l_R_sourcesDiffer_51 (bi_incn [some (.inr (5, x0)), some (.inr (5, x1)), some (.inl (.int a2)), some (.inl (.int (nI (i + 1)))), w4, w5] rfl rfl rfl rfl (bh_here m_R_sourcesDiffer l_R_sourcesDiffer_54 (bi_go (h.1 q232)))))) (fun q => absurd (by decide) q)))), (fun q233 => (bh_here m_R_sourcesDiffer l_R_sourcesDiffer_13 (bi_if1 (fun q => absurd q (by decide)) (fun _ => (bh_here m_R_sourcesDiffer l_R_sourcesDiffer_16 (bi_ald rfl (bh_here m_R_sourcesDiffer l_R_sourcesDiffer_17 (bi_ild rfl (bh_here m_R_sourcesDiffer l_R_sourcesDiffer_18 (bi_callV [.inl (.int (nI i))] [] rfl rfl rfl hs hx0 rfl rfl (h.2 q233)))))))))))⟩))))))))))))))
theorem bx_R_sourcesDiffer_2 {M : bh_M} {Z : bh_F → Prop} (x0 : Nat) (hx0 : 1 ≤ x0 ∧ x0 ≤ bh_c0 5) (x1 : Nat) (hx1 : 1 ≤ x1 ∧ x1 ≤ bh_c0 5) (a2 : Int32) (w4 : Option bh_V) (w5 : Option bh_V) (hs : bh_stat M.2.2.2) (h : Z (.inl (some (.inl (.int 0))), M)) : bh_wp (bh_tb T_R_sourcesDiffer) (2, [some (.inr (5, x0)), some (.inr (5, x1)), some (.inl (.int a2)), some (.inl (.int (nI 8))), w4, w5], [], M, 0) Z := (bh_here m_R_sourcesDiffer l_R_sourcesDiffer_2 (bi_ild rfl (bh_here m_R_sourcesDiffer l_R_sourcesDiffer_3 (bi_push (bh_here m_R_sourcesDiffer l_R_sourcesDiffer_5 (bi_if2n (8 ≤ 8) (bn_le (by decide) (by decide)) (fun _ => (bh_here m_R_sourcesDiffer l_R_sourcesDiffer_57 (bi_push (bh_here m_R_sourcesDiffer l_R_sourcesDiffer_58 (bi_zret rfl (by decide) h))))) (fun q => absurd (by decide) q)))))))
theorem bk_R_sourcesDiffer_21 {M : bh_M} {Z : bh_F → Prop} (x0 : Nat) (hx0 : 1 ≤ x0 ∧ x0 ≤ bh_c0 5) (x1 : Nat) (hx1 : 1 ≤ x1 ∧ x1 ≤ bh_c0 5) (a2 : Int32) (i : Nat) (w4 : Option bh_V) (w5 : Option bh_V) (a6 : Int32) (hs : bh_stat M.2.2.2) (h : F_B_sourceOf [.inr (5, x1), .inl (.int (nI i))] M (bh_after 28 [some (.inr (5, x0)), some (.inr (5, x1)), some (.inl (.int a2)), some (.inl (.int (nI i))), some (.inl (.int a6)), w5] [] 0 (fun y => bh_wp (bh_tb T_R_sourcesDiffer) y Z) Z)) : bh_wp (bh_tb T_R_sourcesDiffer) (21, [some (.inr (5, x0)), some (.inr (5, x1)), some (.inl (.int a2)), some (.inl (.int (nI i))), w4, w5], [.inl (.int a6)], M, 0) Z := (bh_here m_R_sourcesDiffer l_R_sourcesDiffer_21 (bi_ist [some (.inr (5, x0)), some (.inr (5, x1)), some (.inl (.int a2)), some (.inl (.int (nI i))), some (.inl (.int a6)), w5] rfl rfl rfl (bh_here m_R_sourcesDiffer l_R_sourcesDiffer_23 (bi_ald rfl (bh_here m_R_sourcesDiffer l_R_sourcesDiffer_24 (bi_ild rfl (bh_here m_R_sourcesDiffer l_R_sourcesDiffer_25 (bi_callV [.inl (.int (nI i))] [] rfl rfl rfl hs hx1 rfl rfl h))))))))
theorem bk_R_sourcesDiffer_28 {M : bh_M} {Z : bh_F → Prop} (x0 : Nat) (hx0 : 1 ≤ x0 ∧ x0 ≤ bh_c0 5) (x1 : Nat) (hx1 : 1 ≤ x1 ∧ x1 ≤ bh_c0 5) (a2 : Int32) (i : Nat) (a6 : Int32) (w5 : Option bh_V) (a7 : Int32) (hs : bh_stat M.2.2.2) (h : ((a6 = (-1)) → bh_wp (bh_tb T_R_sourcesDiffer) (2, [some (.inr (5, x0)), some (.inr (5, x1)), some (.inl (.int a2)), some (.inl (.int (nI (i + 1)))), some (.inl (.int a6)), some (.inl (.int a7))], [], M, 0) Z) ∧ (¬ (a6 = (-1)) → ((a7 = (-1)) → bh_wp (bh_tb T_R_sourcesDiffer) (2, [some (.inr (5, x0)), some (.inr (5, x1)), some (.inl (.int a2)), some (.inl (.int (nI (i + 1)))), some (.inl (.int a6)), some (.inl (.int a7))], [], M, 0) Z) ∧ (¬ (a7 = (-1)) → ((a6 = a7) → bh_wp (bh_tb T_R_sourcesDiffer) (2, [some (.inr (5, x0)), some (.inr (5, x1)), some (.inl (.int a2)), some (.inl (.int (nI (i + 1)))), some (.inl (.int a6)), some (.inl (.int a7))], [], M, 0) Z) ∧ (¬ (a6 = a7) → Z (.inl (some (.inl (.int 1))), M))))) : bh_wp (bh_tb T_R_sourcesDiffer) (28, [some (.inr (5, x0)), some (.inr (5, x1)), some (.inl (.int a2)), some (.inl (.int (nI i))), some (.inl (.int a6)), w5], [.inl (.int a7)], M, 0) Z := (bh_here m_R_sourcesDiffer l_R_sourcesDiffer_28 (bi_ist [some (.inr (5, x0)), some (.inr (5, x1)), some (.inl (.int a2)), some (.inl (.int (nI i))), some (.inl (.int a6)), some (.inl (.int a7))] rfl rfl rfl (bh_here m_R_sourcesDiffer l_R_sourcesDiffer_30 (bi_ild rfl (bh_here m_R_sourcesDiffer l_R_sourcesDiffer_32 (bi_push (bh_here m_R_sourcesDiffer l_R_sourcesDiffer_33 (bi_if2 (fun q234 => (bh_here m_R_sourcesDiffer l_R_sourcesDiffer_51 (bi_incn [some (.inr (5, x0)), some (.inr (5, x1)), some (.inl (.int a2)), some (.inl (.int (nI (i + 1)))), some (.inl (.int a6)), some (.inl (.int a7))] rfl rfl rfl rfl (bh_here m_R_sourcesDiffer l_R_sourcesDiffer_54 (bi_go (h.1 q234)))))) (fun q235 => (bh_here m_R_sourcesDiffer l_R_sourcesDiffer_36 (bi_ild rfl (bh_here m_R_sourcesDiffer l_R_sourcesDiffer_38 (bi_push (bh_here m_R_sourcesDiffer l_R_sourcesDiffer_39 (bi_if2 (fun q236 => (bh_here m_R_sourcesDiffer l_R_sourcesDiffer_51 (bi_incn [some (.inr (5, x0)), some (.inr (5, x1)), some (.inl (.int a2)), some (.inl (.int (nI (i + 1)))), some (.inl (.int a6)), some (.inl (.int a7))] rfl rfl rfl rfl (bh_here m_R_sourcesDiffer l_R_sourcesDiffer_54 (bi_go ((h.2 q235).1 q236)))))) (fun q237 => (bh_here m_R_sourcesDiffer l_R_sourcesDiffer_42 (bi_ild rfl (bh_here m_R_sourcesDiffer l_R_sourcesDiffer_44 (bi_ild rfl (bh_here m_R_sourcesDiffer l_R_sourcesDiffer_46 (bi_if2 (fun q238 => (bh_here m_R_sourcesDiffer l_R_sourcesDiffer_51 (bi_incn [some (.inr (5, x0)), some (.inr (5, x1)), some (.inl (.int a2)), some (.inl (.int (nI (i + 1)))), some (.inl (.int a6)), some (.inl (.int a7))] rfl rfl rfl rfl (bh_here m_R_sourcesDiffer l_R_sourcesDiffer_54 (bi_go (((h.2 q235).2 q237).1 q238)))))) (fun q239 => (bh_here m_R_sourcesDiffer l_R_sourcesDiffer_49 (bi_push (bh_here m_R_sourcesDiffer l_R_sourcesDiffer_50 (bi_zret rfl (by decide) (((h.2 q235).2 q237).2 q239))))))))))))))))))))))))))))
theorem w_enc_inj {x y : Option (Nat × Nat)} (hx : ∀ o l, x = some (o, l) → o < 8 ∧ l ≤ 1000) (hy : ∀ o l, y = some (o, l) → o < 8 ∧ l ≤ 1000) : w_enc x = w_enc y ↔ x = y := by
  constructor
  · intro h
    cases x with
    | none => exact ((w_enc_neg hy).mp h.symm).symm
    | some a =>
      cases y with
      | none => exact (w_enc_neg hx).mp h
      | some c =>
        obtain ⟨o, l⟩ := a
        obtain ⟨o', l'⟩ := c
        have h1 := hx o l rfl
        have h2 := hy o' l' rfl
        have := (bn_inj (by omega) (by omega)).mp (show nI (o + 8 * l) = nI (o' + 8 * l') from h)
        have e1 : o = o' := by omega
        have e2 : l = l' := by omega
        rw [e1, e2]
  · intro h
    rw [h]
theorem cd_R_sourcesDiffer {M : bh_M} {Z : bh_F → Prop} {d : sd} {w : sw} {b o : Nat} {s : Int32} (hb : b < 8) (ho : o < 8) (hd : rdC M d w) (hs : bh_stat M.2.2.2) (h1 : d_diff d w b o s = true → Z (.inl (some (.inl (.int 1))), M)) (h0 : d_diff d w b o s = false → Z (.inl (some (.inl (.int 0))), M)) : F_R_sourcesDiffer [.inr (5, b + 1), .inr (5, o + 1), .inl (.int s)] M Z := by
  refine be_R_sourcesDiffer (b + 1) (bh_b8k hb) (o + 1) (bh_b8k ho) s hs ?_
  refine bh_lpW (T := bh_tb T_R_sourcesDiffer) (Z := Z) 2 8 (fun i (ww : Option bh_V × Option bh_V) => ([some (.inr (5, b + 1)), some (.inr (5, o + 1)), some (.inl (.int s)), some (.inl (.int (nI i))), ww.1, ww.2], [], M, 0)) (fun i _ => ∀ j, j < i → (fun q => decide (¬ (s >>> (nI q &&& 31) &&& 1) = 0) && d_two (d_src d w b q) (d_src d w o q)) j = false) (fun i ww hi hv k => ?_) (fun ww hv => bx_R_sourcesDiffer_2 (b + 1) (bh_b8k hb) (o + 1) (bh_b8k ho) s ww.1 ww.2 hs (h0 (bh_any_false hv))) (none, none) (fun j hj => absurd hj (Nat.not_lt_zero j))
  have nx : ∀ w1 w2, (fun q => decide (¬ (s >>> (nI q &&& 31) &&& 1) = 0) && d_two (d_src d w b q) (d_src d w o q)) i = false → bh_wp (bh_tb T_R_sourcesDiffer) (2, [some (.inr (5, b + 1)), some (.inr (5, o + 1)), some (.inl (.int s)), some (.inl (.int (nI (i + 1)))), w1, w2], [], M, 0) Z := fun w1 w2 q => k (w1, w2) (bh_any_up hv q)
  refine bl_R_sourcesDiffer_2 (b + 1) (bh_b8k hb) (o + 1) (bh_b8k ho) s i ww.1 ww.2 hi hs ⟨fun q => nx _ _ ?_, fun q => ?_⟩
  · simp only [q, not_true_eq_false, decide_false, Bool.false_and]
  · refine cd_B_sourceOf hb hi hd hs ?_
    refine bk_R_sourcesDiffer_21 (b + 1) (bh_b8k hb) (o + 1) (bh_b8k ho) s i _ _ _ hs ?_
    refine cd_B_sourceOf ho hi hd hs ?_
    have ok1 : ∀ x l, d_src d w b i = some (x, l) → x < 8 ∧ l ≤ 1000 := fun x l e => d_src_ok hd hb e
    have ok2 : ∀ x l, d_src d w o i = some (x, l) → x < 8 ∧ l ≤ 1000 := fun x l e => d_src_ok hd ho e
    refine bk_R_sourcesDiffer_28 (b + 1) (bh_b8k hb) (o + 1) (bh_b8k ho) s i _ _ _ hs ?_
    rw [w_enc_neg ok1, w_enc_neg ok2, w_enc_inj ok1 ok2]
    refine ⟨fun q1 => nx _ _ ?_, fun q1 => ⟨fun q2 => nx _ _ ?_, fun q2 => ⟨fun q3 => nx _ _ ?_, fun q3 => h1 (bh_any_true hi ?_)⟩⟩⟩
    · simp only [q1, d_two, Bool.and_false]
    · simp only [q2]
      cases d_src d w b i <;> simp [d_two]
    · simp only [q3]
      cases d_src d w o i <;> simp [d_two]
    · simp only [q, not_false_eq_true, decide_true, Bool.true_and]
      cases e1 : d_src d w b i with
      | none => exact absurd e1 q1
      | some x =>
        cases e2 : d_src d w o i with
        | none => exact absurd e2 q2
        | some y =>
          rw [e1, e2] at q3
          exact decide_eq_true (fun e => q3 (by rw [e]))
theorem be_R_hasClash {M : bh_M} {Z : bh_F → Prop}  (hs : bh_stat M.2.2.2) (h : bh_wp (bh_tb T_R_hasClash) (2, [some (.inr (15, 1)), some (.inr (4, 1)), some (.inl (.int 0)), none, none, none, none, none], [], M, 0) Z) : F_R_hasClash [.inr (15, 1), .inr (4, 1)] M Z := bi_fn rfl [some (.inr (15, 1)), some (.inr (4, 1)), none, none, none, none, none, none] rfl (bh_here m_R_hasClash l_R_hasClash_0 (bi_push (bh_here m_R_hasClash l_R_hasClash_1 (bi_ist [some (.inr (15, 1)), some (.inr (4, 1)), some (.inl (.int 0)), none, none, none, none, none] rfl rfl rfl h))))
theorem bl_R_hasClash_2 {M : bh_M} {Z : bh_F → Prop} (i : Nat) (w3 : Option bh_V) (w4 : Option bh_V) (w5 : Option bh_V) (w6 : Option bh_V) (w7 : Option bh_V) (hi : i < 8) (hs : bh_stat M.2.2.2) (h : bh_wp (bh_tb T_R_hasClash) (15, [some (.inr (15, 1)), some (.inr (4, 1)), some (.inl (.int (nI i))), some (.inr (5, (i + 1))), some (.inl (.int 0)), w5, w6, w7], [], M, 0) Z) : bh_wp (bh_tb T_R_hasClash) (2, [some (.inr (15, 1)), some (.inr (4, 1)), some (.inl (.int (nI i))), w3, w4, w5, w6, w7], [], M, 0) Z := (bh_here m_R_hasClash l_R_hasClash_2 (bi_ild rfl (bh_here m_R_hasClash l_R_hasClash_3 (bi_push (bh_here m_R_hasClash l_R_hasClash_5 (bi_if2n (8 ≤ i) (bn_le (by decide) (bn_bd hi rfl)) (fun q => absurd q (by have h9 := hi; omega)) (fun _ => (bh_here m_R_hasClash l_R_hasClash_8 (bi_ald rfl (bh_here m_R_hasClash l_R_hasClash_9 (bi_ild rfl (bh_here m_R_hasClash l_R_hasClash_10 (bi_bald i (bn_clamp hi rfl) hs (bn_in hi rfl) (bh_here m_R_hasClash l_R_hasClash_11 (bi_ast [some (.inr (15, 1)), some (.inr (4, 1)), some (.inl (.int (nI i))), some (.inr (5, (i + 1))), w4, w5, w6, w7] rfl rfl rfl (bh_here m_R_hasClash l_R_hasClash_12 (bi_push (bh_here m_R_hasClash l_R_hasClash_13 (bi_ist [some (.inr (15, 1)), some (.inr (4, 1)), some (.inl (.int (nI i))), some (.inr (5, (i + 1))), some (.inl (.int 0)), w5, w6, w7] rfl rfl rfl h)))))))))))))))))))
theorem bx_R_hasClash_2 {M : bh_M} {Z : bh_F → Prop} (w3 : Option bh_V) (w4 : Option bh_V) (w5 : Option bh_V) (w6 : Option bh_V) (w7 : Option bh_V) (hs : bh_stat M.2.2.2) (h : Z (.inl (some (.inl (.int 0))), M)) : bh_wp (bh_tb T_R_hasClash) (2, [some (.inr (15, 1)), some (.inr (4, 1)), some (.inl (.int (nI 8))), w3, w4, w5, w6, w7], [], M, 0) Z := (bh_here m_R_hasClash l_R_hasClash_2 (bi_ild rfl (bh_here m_R_hasClash l_R_hasClash_3 (bi_push (bh_here m_R_hasClash l_R_hasClash_5 (bi_if2n (8 ≤ 8) (bn_le (by decide) (by decide)) (fun _ => (bh_here m_R_hasClash l_R_hasClash_106 (bi_push (bh_here m_R_hasClash l_R_hasClash_107 (bi_zret rfl (by decide) h))))) (fun q => absurd (by decide) q)))))))
theorem bt_R_hasClash_15 {M : bh_M} {Z : bh_F → Prop} (i : Nat) (k : Nat) (w5 : Option bh_V) (w6 : Option bh_V) (w7 : Option bh_V) {n : Nat} (hi : i < 8) (hn : bh_I M 7 (i + 1) 8 = nI n) (hn2 : n < 4) (hk2 : k < 4) (hs : bh_stat M.2.2.2) (h : (((bh_I M 18 1 i) = 0) → bh_wp (bh_tb T_R_hasClash) (2, [some (.inr (15, 1)), some (.inr (4, 1)), some (.inl (.int (nI (i + 1)))), some (.inr (5, (i + 1))), some (.inl (.int (nI k))), w5, w6, w7], [], M, 0) Z) ∧ (¬ ((bh_I M 18 1 i) = 0) → ((n ≤ k) → bh_wp (bh_tb T_R_hasClash) (2, [some (.inr (15, 1)), some (.inr (4, 1)), some (.inl (.int (nI (i + 1)))), some (.inr (5, (i + 1))), some (.inl (.int (nI k))), w5, w6, w7], [], M, 0) Z) ∧ (¬ (n ≤ k) → bh_wp (bh_tb T_R_hasClash) (36, [some (.inr (15, 1)), some (.inr (4, 1)), some (.inl (.int (nI i))), some (.inr (5, (i + 1))), some (.inl (.int (nI k))), w5, w6, w7], [], M, 0) Z))) : bh_wp (bh_tb T_R_hasClash) (15, [some (.inr (15, 1)), some (.inr (4, 1)), some (.inl (.int (nI i))), some (.inr (5, (i + 1))), some (.inl (.int (nI k))), w5, w6, w7], [], M, 0) Z := (bh_here m_R_hasClash l_R_hasClash_15 (bi_ald rfl (bh_here m_R_hasClash l_R_hasClash_16 (bi_gR hs ⟨by decide, by decide⟩ rfl rfl (bh_here m_R_hasClash l_R_hasClash_19 (bi_ild rfl (bh_here m_R_hasClash l_R_hasClash_20 (bi_Zald i (bn_clamp hi rfl) (bh_I M 18 1 i) rfl hs rfl ⟨by decide, by decide⟩ (bn_in hi rfl) (bh_here m_R_hasClash l_R_hasClash_21 (bi_if1 (fun q240 => (bh_here m_R_hasClash l_R_hasClash_100 (bi_incn [some (.inr (15, 1)), some (.inr (4, 1)), some (.inl (.int (nI (i + 1)))), some (.inr (5, (i + 1))), some (.inl (.int (nI k))), w5, w6, w7] rfl rfl rfl rfl (bh_here m_R_hasClash l_R_hasClash_103 (bi_go (h.1 q240)))))) (fun q241 => (bh_here m_R_hasClash l_R_hasClash_24 (bi_ild rfl (bh_here m_R_hasClash l_R_hasClash_26 (bi_ald rfl (bh_here m_R_hasClash l_R_hasClash_27 (bi_gR hs (bh_b8k hi) rfl rfl (bh_here m_R_hasClash l_R_hasClash_30 (bi_gI (nI n) hn hs (bh_b8k hi) (bh_here m_R_hasClash l_R_hasClash_33 (bi_if2n (n ≤ k) (bn_le (bn_bd hn2 rfl) (bn_bd hk2 rfl)) (fun q242 => (bh_here m_R_hasClash l_R_hasClash_100 (bi_incn [some (.inr (15, 1)), some (.inr (4, 1)), some (.inl (.int (nI (i + 1)))), some (.inr (5, (i + 1))), some (.inl (.int (nI k))), w5, w6, w7] rfl rfl rfl rfl (bh_here m_R_hasClash l_R_hasClash_103 (bi_go ((h.2 q241).1 q242)))))) (fun q243 => ((h.2 q241).2 q243)))))))))))))))))))))))
theorem bn_R_hasClash_36 {M : bh_M} {Z : bh_F → Prop} (i : Nat) (k : Nat) (w5 : Option bh_V) (w6 : Option bh_V) (w7 : Option bh_V) {n : Nat} (hi : i < 8) (hn : bh_I M 7 (i + 1) 8 = nI n) (hn2 : n < 4) (hk2 : k < 4) (hk : k < n) (hk3 : k < 3) (hw : bh_I M 6 (i + 1) k = -1) (hs : bh_stat M.2.2.2) (h : bh_wp (bh_tb T_R_hasClash) (15, [some (.inr (15, 1)), some (.inr (4, 1)), some (.inl (.int (nI i))), some (.inr (5, (i + 1))), some (.inl (.int (nI (k + 1)))), some (.inl (.int (-1))), w6, w7], [], M, 0) Z) : bh_wp (bh_tb T_R_hasClash) (36, [some (.inr (15, 1)), some (.inr (4, 1)), some (.inl (.int (nI i))), some (.inr (5, (i + 1))), some (.inl (.int (nI k))), w5, w6, w7], [], M, 0) Z := (bh_here m_R_hasClash l_R_hasClash_36 (bi_ald rfl (bh_here m_R_hasClash l_R_hasClash_37 (bi_gR hs (bh_b8k hi) rfl rfl (bh_here m_R_hasClash l_R_hasClash_40 (bi_ild rfl (bh_here m_R_hasClash l_R_hasClash_42 (bi_Iald k (bn_clamp hk3 rfl) (-1) hw hs rfl (bh_b8k hi) (bn_in hk3 rfl) (bh_here m_R_hasClash l_R_hasClash_43 (bi_ist [some (.inr (15, 1)), some (.inr (4, 1)), some (.inl (.int (nI i))), some (.inr (5, (i + 1))), some (.inl (.int (nI k))), some (.inl (.int (-1))), w6, w7] rfl rfl rfl (bh_here m_R_hasClash l_R_hasClash_45 (bi_ild rfl (bh_here m_R_hasClash l_R_hasClash_47 (bi_push (bh_here m_R_hasClash l_R_hasClash_48 (bi_if2 (fun _ => (bh_here m_R_hasClash l_R_hasClash_94 (bi_incn [some (.inr (15, 1)), some (.inr (4, 1)), some (.inl (.int (nI i))), some (.inr (5, (i + 1))), some (.inl (.int (nI (k + 1)))), some (.inl (.int (-1))), w6, w7] rfl rfl rfl rfl (bh_here m_R_hasClash l_R_hasClash_97 (bi_go h))))) (fun q => absurd (by decide) q)))))))))))))))))
theorem bs_R_hasClash_36 {M : bh_M} {Z : bh_F → Prop} (i : Nat) (k : Nat) (w5 : Option bh_V) (w6 : Option bh_V) (w7 : Option bh_V) {n : Nat} (hi : i < 8) (hn : bh_I M 7 (i + 1) 8 = nI n) (hn2 : n < 4) (hk2 : k < 4) (hk : k < n) (hk3 : k < 3) (p q : Nat) (hp : p < 2147483648) (hq : q < 8) (hqe : bh_I M 11 (i + 1) k = nI q) (hw : bh_I M 6 (i + 1) k = nI p) (hs : bh_stat M.2.2.2) (h : F_R_sourcesDiffer [.inr (5, (i + 1)), .inr (5, (p % 8 + 1)), .inl (.int (bh_I M 9 (p % 8 + 1) q))] M (bh_after 89 [some (.inr (15, 1)), some (.inr (4, 1)), some (.inl (.int (nI i))), some (.inr (5, (i + 1))), some (.inl (.int (nI k))), some (.inl (.int (nI p))), some (.inr (5, (p % 8 + 1))), some (.inl (.int (bh_I M 9 (p % 8 + 1) q)))] [] 0 (fun y => bh_wp (bh_tb T_R_hasClash) y Z) Z)) : bh_wp (bh_tb T_R_hasClash) (36, [some (.inr (15, 1)), some (.inr (4, 1)), some (.inl (.int (nI i))), some (.inr (5, (i + 1))), some (.inl (.int (nI k))), w5, w6, w7], [], M, 0) Z := (bh_here m_R_hasClash l_R_hasClash_36 (bi_ald rfl (bh_here m_R_hasClash l_R_hasClash_37 (bi_gR hs (bh_b8k hi) rfl rfl (bh_here m_R_hasClash l_R_hasClash_40 (bi_ild rfl (bh_here m_R_hasClash l_R_hasClash_42 (bi_Iald k (bn_clamp hk3 rfl) (nI p) hw hs rfl (bh_b8k hi) (bn_in hk3 rfl) (bh_here m_R_hasClash l_R_hasClash_43 (bi_ist [some (.inr (15, 1)), some (.inr (4, 1)), some (.inl (.int (nI i))), some (.inr (5, (i + 1))), some (.inl (.int (nI k))), some (.inl (.int (nI p))), w6, w7] rfl rfl rfl (bh_here m_R_hasClash l_R_hasClash_45 (bi_ild rfl (bh_here m_R_hasClash l_R_hasClash_47 (bi_push (bh_here m_R_hasClash l_R_hasClash_48 (bi_if2 (fun q => absurd q (bn_not_neg1 (bn_bd hp rfl))) (fun _ => (bh_here m_R_hasClash l_R_hasClash_51 (bi_ald rfl (bh_here m_R_hasClash l_R_hasClash_52 (bi_ild rfl (bh_here m_R_hasClash l_R_hasClash_54 (bi_callS [.inl (.int (nI p))] [.inr (4, 1)] rfl rfl rfl rfl rfl (ct_H_ownerOfn p hs ⟨hp, (bh_here m_R_hasClash l_R_hasClash_57 (bi_bald (p % 8) (bn_clamp (Nat.mod_lt p (by decide)) rfl) hs (bn_in (Nat.mod_lt p (by decide)) rfl) (bh_here m_R_hasClash l_R_hasClash_58 (bi_ast [some (.inr (15, 1)), some (.inr (4, 1)), some (.inl (.int (nI i))), some (.inr (5, (i + 1))), some (.inl (.int (nI k))), some (.inl (.int (nI p))), some (.inr (5, (p % 8 + 1))), w7] rfl rfl rfl (bh_here m_R_hasClash l_R_hasClash_60 (bi_ald rfl (bh_here m_R_hasClash l_R_hasClash_62 (bi_gR hs (bh_b8k (Nat.mod_lt p (by decide))) rfl rfl (bh_here m_R_hasClash l_R_hasClash_65 (bi_gR hs (bh_b8k (Nat.mod_lt p (by decide))) rfl rfl (bh_here m_R_hasClash l_R_hasClash_68 (bi_ald rfl (bh_here m_R_hasClash l_R_hasClash_69 (bi_gR hs (bh_b8k hi) rfl rfl (bh_here m_R_hasClash l_R_hasClash_72 (bi_gR hs (bh_b8k hi) rfl rfl (bh_here m_R_hasClash l_R_hasClash_75 (bi_ild rfl (bh_here m_R_hasClash l_R_hasClash_77 (bi_Iald k (bn_clamp hk3 rfl) (nI q) hqe hs rfl (bh_b8k hi) (bn_in hk3 rfl) (bh_here m_R_hasClash l_R_hasClash_78 (bi_Iald q (bn_clamp hq rfl) (bh_I M 9 (p % 8 + 1) q) rfl hs rfl (bh_b8k (Nat.mod_lt p (by decide))) (bn_in hq rfl) (bh_here m_R_hasClash l_R_hasClash_79 (bi_ist [some (.inr (15, 1)), some (.inr (4, 1)), some (.inl (.int (nI i))), some (.inr (5, (i + 1))), some (.inl (.int (nI k))), some (.inl (.int (nI p))), some (.inr (5, (p % 8 + 1))), some (.inl (.int (bh_I M 9 (p % 8 + 1) q)))] rfl rfl rfl (bh_here m_R_hasClash l_R_hasClash_81 (bi_ald rfl (bh_here m_R_hasClash l_R_hasClash_82 (bi_ald rfl (bh_here m_R_hasClash l_R_hasClash_84 (bi_ild rfl (bh_here m_R_hasClash l_R_hasClash_86 (bi_callS [.inr (5, (i + 1)), .inr (5, (p % 8 + 1)), .inl (.int (bh_I M 9 (p % 8 + 1) q))] [] rfl rfl rfl rfl rfl h))))))))))))))))))))))))))))))))⟩))))))))))))))))))))))))
theorem bk_R_hasClash_89 {M : bh_M} {Z : bh_F → Prop} (i : Nat) (k : Nat) (w5 : Option bh_V) (w6 : Option bh_V) (w7 : Option bh_V) (a9 : Int32) (hi : i < 8) (hs : bh_stat M.2.2.2) (h : ((a9 = 0) → bh_wp (bh_tb T_R_hasClash) (15, [some (.inr (15, 1)), some (.inr (4, 1)), some (.inl (.int (nI i))), some (.inr (5, (i + 1))), some (.inl (.int (nI (k + 1)))), w5, w6, w7], [], M, 0) Z) ∧ (¬ (a9 = 0) → Z (.inl (some (.inl (.int 1))), M))) : bh_wp (bh_tb T_R_hasClash) (89, [some (.inr (15, 1)), some (.inr (4, 1)), some (.inl (.int (nI i))), some (.inr (5, (i + 1))), some (.inl (.int (nI k))), w5, w6, w7], [.inl (.int a9)], M, 0) Z := (bh_here m_R_hasClash l_R_hasClash_89 (bi_if1 (fun q244 => (bh_here m_R_hasClash l_R_hasClash_94 (bi_incn [some (.inr (15, 1)), some (.inr (4, 1)), some (.inl (.int (nI i))), some (.inr (5, (i + 1))), some (.inl (.int (nI (k + 1)))), w5, w6, w7] rfl rfl rfl rfl (bh_here m_R_hasClash l_R_hasClash_97 (bi_go (h.1 q244)))))) (fun q245 => (bh_here m_R_hasClash l_R_hasClash_92 (bi_push (bh_here m_R_hasClash l_R_hasClash_93 (bi_zret rfl (by decide) (h.2 q245))))))))
theorem cd_R_hasClash {M : bh_M} {Z : bh_F → Prop} {d : sd} {w : sw} {T : Nat → Bool} (hd : rdC M d w) (ht : tkC M T) (hv : ∀ b k o l, b < 8 → T b = true → k < d_ni d b → w b k = some (o, l) → (d_ver d o (d_ip d b k)).isSome = true) (hs : bh_stat M.2.2.2) (h1 : d_clash d w T = true → Z (.inl (some (.inl (.int 1))), M)) (h0 : d_clash d w T = false → Z (.inl (some (.inl (.int 0))), M)) : F_R_hasClash [.inr (15, 1), .inr (4, 1)] M Z := by
  refine be_R_hasClash hs ?_
  refine bh_lpW (T := bh_tb T_R_hasClash) (Z := Z) 2 8 (fun i (ww : Option bh_V × Option bh_V × Option bh_V × Option bh_V × Option bh_V) => ([some (.inr (15, 1)), some (.inr (4, 1)), some (.inl (.int (nI i))), ww.1, ww.2.1, ww.2.2.1, ww.2.2.2.1, ww.2.2.2.2], [], M, 0)) (fun i _ => ∀ j, j < i → (fun b => T b && bh_any (fun k => d_bad d w b k) (d_ni d b)) j = false) (fun i ww hi hI k => ?_) (fun ww hI => bx_R_hasClash_2 ww.1 ww.2.1 ww.2.2.1 ww.2.2.2.1 ww.2.2.2.2 hs (h0 (bh_any_false hI))) (none, none, none, none, none) (fun j hj => absurd hj (Nat.not_lt_zero j))
  have nx : ∀ w3 w4 w5 w6 w7, (fun b => T b && bh_any (fun k => d_bad d w b k) (d_ni d b)) i = false → bh_wp (bh_tb T_R_hasClash) (2, [some (.inr (15, 1)), some (.inr (4, 1)), some (.inl (.int (nI (i + 1)))), w3, w4, w5, w6, w7], [], M, 0) Z := fun w3 w4 w5 w6 w7 q => k (w3, w4, w5, w6, w7) (bh_any_up hI q)
  obtain ⟨-, -, ⟨hn, n3⟩, hi2, -, hw⟩ := hd i hi
  refine bl_R_hasClash_2 i _ _ _ _ _ hi hs ?_
  have key : ∀ m j w5 w6 w7, j + m = d_ni d i → (∀ x, x < j → (fun k => d_bad d w i k) x = false) → bh_wp (bh_tb T_R_hasClash) (15, [some (.inr (15, 1)), some (.inr (4, 1)), some (.inl (.int (nI i))), some (.inr (5, i + 1)), some (.inl (.int (nI j))), w5, w6, w7], [], M, 0) Z := by
    intro m
    induction m with
    | zero =>
      intro j w5 w6 w7 e hx
      refine bt_R_hasClash_15 i j w5 w6 w7 hi hn (by omega) (by omega) hs ⟨fun q => nx _ _ _ _ _ ?_, fun _ => ⟨fun _ => nx _ _ _ _ _ ?_, fun q => absurd (by omega) q⟩⟩
      · rw [ht.f hi] at q
        simp only [q, Bool.false_and]
      · have : j = d_ni d i := by omega
        subst this
        simp only [bh_any_false hx, Bool.and_false]
    | succ m ih =>
      intro j w5 w6 w7 e hx
      refine bt_R_hasClash_15 i j w5 w6 w7 hi hn (by omega) (by omega) hs ⟨fun q => nx _ _ _ _ _ ?_, fun qt => ⟨fun q => absurd q (by omega), fun _ => ?_⟩⟩
      · rw [ht.f hi] at q
        simp only [q, Bool.false_and]
      · rw [ht.f hi, Bool.not_eq_false] at qt
        obtain ⟨w1, w2⟩ := hw j (by omega)
        obtain ⟨i1, i2, -⟩ := hi2 j (by omega)
        cases ew : w i j with
        | none =>
          rw [ew] at w1
          refine bn_R_hasClash_36 i j w5 w6 w7 hi hn (by omega) (by omega) (by omega) (by omega) w1 hs ?_
          refine ih (j + 1) _ _ _ (by omega) (bh_any_up hx ?_)
          show d_bad d w i j = false
          unfold d_bad
          rw [ew]
        | some ol =>
          obtain ⟨o, l⟩ := ol
          rw [ew] at w1
          obtain ⟨ho, hl⟩ := w2 o l ew
          have ep : (o + 8 * l) % 8 = o := by omega
          refine bs_R_hasClash_36 i j w5 w6 w7 hi hn (by omega) (by omega) (by omega) (by omega) (o + 8 * l) (d_ip d i j) (by omega) i2 i1 w1 hs ?_
          rw [ep]
          have eu : bh_I M 9 (o + 1) (d_ip d i j) = d_us d o (d_ip d i j) := by
            have := hv i j o l hi qt (by omega) ew
            cases e9 : d_ver d o (d_ip d i j) with
            | none =>
              rw [e9] at this
              exact absurd this (by decide)
            | some v => exact (((hd o ho).2.1 _ i2).2 v e9).2
          rw [eu]
          have eb : d_bad d w i j = d_diff d w i o (d_us d o (d_ip d i j)) := by
            unfold d_bad
            rw [ew]
          refine cd_R_sourcesDiffer hi ho hd hs (fun q => ?_) (fun q => ?_)
          · refine bk_R_hasClash_89 i j _ _ _ 1 hi hs ⟨fun q9 => absurd q9 (by decide), fun _ => h1 (bh_any_true hi ?_)⟩
            simp only [qt, Bool.true_and]
            exact bh_any_true (i := j) (by omega) (by rw [eb]; exact q)
          · refine bk_R_hasClash_89 i j _ _ _ 0 hi hs ⟨fun _ => ih (j + 1) _ _ _ (by omega) (bh_any_up hx ?_), fun q9 => absurd rfl q9⟩
            show d_bad d w i j = false
            rw [eb]
            exact q
  exact key (d_ni d i) 0 _ _ _ (by omega) (fun x hx => absurd hx (Nat.not_lt_zero x))
