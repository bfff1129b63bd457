theorem be_R_nameIsTaken {M : bh_M} {Z : bh_F → Prop} (x2 : Nat) (hx2 : 1 ≤ x2 ∧ x2 ≤ bh_c0 5) (hs : bh_stat M.2.2.2) (h : bh_wp (bh_tb T_R_nameIsTaken) (2, [some (.inr (15, 1)), some (.inr (4, 1)), some (.inr (5, x2)), some (.inl (.int 0)), none], [], M, 0) Z) : F_R_nameIsTaken [.inr (15, 1), .inr (4, 1), .inr (5, x2)] M Z := bi_fn rfl [some (.inr (15, 1)), some (.inr (4, 1)), some (.inr (5, x2)), none, none] rfl (bh_here m_R_nameIsTaken l_R_nameIsTaken_0 (bi_push (bh_here m_R_nameIsTaken l_R_nameIsTaken_1 (bi_ist [some (.inr (15, 1)), some (.inr (4, 1)), some (.inr (5, x2)), some (.inl (.int 0)), none] rfl rfl rfl h))))
theorem bl_R_nameIsTaken_2 {M : bh_M} {Z : bh_F → Prop} (x2 : Nat) (hx2 : 1 ≤ x2 ∧ x2 ≤ bh_c0 5) (i : Nat) (w4 : Option bh_V) (hi : i < 8) (hs : bh_stat M.2.2.2) (h : (((bh_I M 5 (i + 1) 3) < 2) → (((bh_I M 18 1 i) = 0) → bh_wp (bh_tb T_R_nameIsTaken) (2, [some (.inr (15, 1)), some (.inr (4, 1)), some (.inr (5, x2)), some (.inl (.int (nI (i + 1)))), some (.inl (.int 0))], [], M, 0) Z) ∧ (¬ ((bh_I M 18 1 i) = 0) → (((nI i) = (bh_I M 5 x2 0)) → bh_wp (bh_tb T_R_nameIsTaken) (2, [some (.inr (15, 1)), some (.inr (4, 1)), some (.inr (5, x2)), some (.inl (.int (nI (i + 1)))), some (.inl (.int 1))], [], M, 0) Z) ∧ (¬ ((nI i) = (bh_I M 5 x2 0)) → ((¬ (bh_I M 5 (i + 1) 4) = (bh_I M 5 x2 4)) → bh_wp (bh_tb T_R_nameIsTaken) (2, [some (.inr (15, 1)), some (.inr (4, 1)), some (.inr (5, x2)), some (.inl (.int (nI (i + 1)))), some (.inl (.int 1))], [], M, 0) Z) ∧ (¬ (¬ (bh_I M 5 (i + 1) 4) = (bh_I M 5 x2 4)) → Z (.inl (some (.inl (.int 1))), M))))) ∧ (¬ ((bh_I M 5 (i + 1) 3) < 2) → (((nI i) = (bh_I M 5 x2 0)) → bh_wp (bh_tb T_R_nameIsTaken) (2, [some (.inr (15, 1)), some (.inr (4, 1)), some (.inr (5, x2)), some (.inl (.int (nI (i + 1)))), some (.inl (.int 1))], [], M, 0) Z) ∧ (¬ ((nI i) = (bh_I M 5 x2 0)) → ((¬ (bh_I M 5 (i + 1) 4) = (bh_I M 5 x2 4)) → bh_wp (bh_tb T_R_nameIsTaken) (2, [some (.inr (15, 1)), some (.inr (4, 1)), some (.inr (5, x2)), some (.inl (.int (nI (i + 1)))), some (.inl (.int 1))], [], M, 0) Z) ∧ (¬ (¬ (bh_I M 5 (i + 1) 4) = (bh_I M 5 x2 4)) → Z (.inl (some (.inl (.int 1))), M))))) : bh_wp (bh_tb T_R_nameIsTaken) (2, [some (.inr (15, 1)), some (.inr (4, 1)), some (.inr (5, x2)), some (.inl (.int (nI i))), w4], [], M, 0) Z := (bh_here m_R_nameIsTaken l_R_nameIsTaken_2 (bi_ild rfl (bh_here m_R_nameIsTaken l_R_nameIsTaken_3 (bi_push (bh_here m_R_nameIsTaken l_R_nameIsTaken_5 (bi_if2n (8 ≤ i) (bn_le (by decide) (bn_bd hi rfl)) (fun q => absurd q (by have h9 := hi; omega)) (fun _ => (bh_here m_R_nameIsTaken l_R_nameIsTaken_8 (bi_ald rfl (bh_here m_R_nameIsTaken l_R_nameIsTaken_9 (bi_ild rfl (bh_here m_R_nameIsTaken l_R_nameIsTaken_10 (bi_bald i (bn_clamp hi rfl) hs (bn_in hi rfl) (bh_here m_R_nameIsTaken l_R_nameIsTaken_11 (bi_callV [] [] rfl rfl rfl hs (bh_b8k hi) rfl rfl (ct_B_isResolved (i + 1) (bh_b8k hi) hs ⟨(fun q210 => (bh_here m_R_nameIsTaken l_R_nameIsTaken_14 (bi_if1 (fun q => absurd q (by decide)) (fun _ => (bh_here m_R_nameIsTaken l_R_nameIsTaken_17 (bi_ald rfl (bh_here m_R_nameIsTaken l_R_nameIsTaken_18 (bi_gR hs ⟨by decide, by decide⟩ rfl rfl (bh_here m_R_nameIsTaken l_R_nameIsTaken_21 (bi_ild rfl (bh_here m_R_nameIsTaken l_R_nameIsTaken_22 (bi_Zald i (bn_clamp hi rfl) (bh_I M 18 1 i) rfl hs rfl ⟨by decide, by decide⟩ (bn_in hi rfl) (bh_here m_R_nameIsTaken l_R_nameIsTaken_23 (bi_if1 (fun q212 => (bh_here m_R_nameIsTaken l_R_nameIsTaken_30 (bi_push (bh_here m_R_nameIsTaken l_R_nameIsTaken_31 (bi_ist [some (.inr (15, 1)), some (.inr (4, 1)), some (.inr (5, x2)), some (.inl (.int (nI i))), some (.inl (.int 0))] rfl rfl rfl (bh_here m_R_nameIsTaken l_R_nameIsTaken_33 (bi_ild rfl (bh_here m_R_nameIsTaken l_R_nameIsTaken_35 (bi_if1 (fun _ => (bh_here m_R_nameIsTaken l_R_nameIsTaken_61 (bi_incn [some (.inr (15, 1)), some (.inr (4, 1)), some (.inr (5, x2)), some (.inl (.int (nI (i + 1)))), some (.inl (.int 0))] rfl rfl rfl rfl (bh_here m_R_nameIsTaken l_R_nameIsTaken_64 (bi_go ((h.1 q210).1 q212)))))) (fun q => absurd (by decide) q)))))))))) (fun q213 => (bh_here m_R_nameIsTaken l_R_nameIsTaken_26 (bi_push (bh_here m_R_nameIsTaken l_R_nameIsTaken_27 (bi_go (bh_here m_R_nameIsTaken l_R_nameIsTaken_31 (bi_ist [some (.inr (15, 1)), some (.inr (4, 1)), some (.inr (5, x2)), some (.inl (.int (nI i))), some (.inl (.int 1))] rfl rfl rfl (bh_here m_R_nameIsTaken l_R_nameIsTaken_33 (bi_ild rfl (bh_here m_R_nameIsTaken l_R_nameIsTaken_35 (bi_if1 (fun q => absurd q (by decide)) (fun _ => (bh_here m_R_nameIsTaken l_R_nameIsTaken_38 (bi_ild rfl (bh_here m_R_nameIsTaken l_R_nameIsTaken_39 (bi_ald rfl (bh_here m_R_nameIsTaken l_R_nameIsTaken_40 (bi_gI (bh_I M 5 x2 0) rfl hs hx2 (bh_here m_R_nameIsTaken l_R_nameIsTaken_43 (bi_if2 (fun q214 => (bh_here m_R_nameIsTaken l_R_nameIsTaken_61 (bi_incn [some (.inr (15, 1)), some (.inr (4, 1)), some (.inr (5, x2)), some (.inl (.int (nI (i + 1)))), some (.inl (.int 1))] rfl rfl rfl rfl (bh_here m_R_nameIsTaken l_R_nameIsTaken_64 (bi_go (((h.1 q210).2 q213).1 q214)))))) (fun q215 => (bh_here m_R_nameIsTaken l_R_nameIsTaken_46 (bi_ald rfl (bh_here m_R_nameIsTaken l_R_nameIsTaken_47 (bi_ild rfl (bh_here m_R_nameIsTaken l_R_nameIsTaken_48 (bi_bald i (bn_clamp hi rfl) hs (bn_in hi rfl) (bh_here m_R_nameIsTaken l_R_nameIsTaken_49 (bi_gI (bh_I M 5 (i + 1) 4) rfl hs (bh_b8k hi) (bh_here m_R_nameIsTaken l_R_nameIsTaken_52 (bi_ald rfl (bh_here m_R_nameIsTaken l_R_nameIsTaken_53 (bi_gI (bh_I M 5 x2 4) rfl hs hx2 (bh_here m_R_nameIsTaken l_R_nameIsTaken_56 (bi_if2 (fun q216 => (bh_here m_R_nameIsTaken l_R_nameIsTaken_61 (bi_incn [some (.inr (15, 1)), some (.inr (4, 1)), some (.inr (5, x2)), some (.inl (.int (nI (i + 1)))), some (.inl (.int 1))] rfl rfl rfl rfl (bh_here m_R_nameIsTaken l_R_nameIsTaken_64 (bi_go ((((h.1 q210).2 q213).2 q215).1 q216)))))) (fun q217 => (bh_here m_R_nameIsTaken l_R_nameIsTaken_59 (bi_push (bh_here m_R_nameIsTaken l_R_nameIsTaken_60 (bi_zret rfl (by decide) ((((h.1 q210).2 q213).2 q215).2 q217))))))))))))))))))))))))))))))))))))))))))))))))))))))), (fun q211 => (bh_here m_R_nameIsTaken l_R_nameIsTaken_14 (bi_if1 (fun _ => (bh_here m_R_nameIsTaken l_R_nameIsTaken_26 (bi_push (bh_here m_R_nameIsTaken l_R_nameIsTaken_27 (bi_go (bh_here m_R_nameIsTaken l_R_nameIsTaken_31 (bi_ist [some (.inr (15, 1)), some (.inr (4, 1)), some (.inr (5, x2)), some (.inl (.int (nI i))), some (.inl (.int 1))] rfl rfl rfl (bh_here m_R_nameIsTaken l_R_nameIsTaken_33 (bi_ild rfl (bh_here m_R_nameIsTaken l_R_nameIsTaken_35 (bi_if1 (fun q => absurd q (by decide)) (fun _ => (bh_here m_R_nameIsTaken l_R_nameIsTaken_38 (bi_ild rfl (bh_here m_R_nameIsTaken l_R_nameIsTaken_39 (bi_ald rfl (bh_here m_R_nameIsTaken l_R_nameIsTaken_40 (bi_gI (bh_I M 5 x2 0) rfl hs hx2 (bh_here m_R_nameIsTaken l_R_nameIsTaken_43 (bi_if2 (fun q218 => (bh_here m_R_nameIsTaken l_R_nameIsTaken_61 (bi_incn [some (.inr (15, 1)), some (.inr (4, 1)), some (.inr (5, x2)), some (.inl (.int (nI (i + 1)))), some (.inl (.int 1))] rfl rfl rfl rfl (bh_here m_R_nameIsTaken l_R_nameIsTaken_64 (bi_go ((h.2 q211).1 q218)))))) (fun q219 => (bh_here m_R_nameIsTaken l_R_nameIsTaken_46 (bi_ald rfl (bh_here m_R_nameIsTaken l_R_nameIsTaken_47 (bi_ild rfl (bh_here m_R_nameIsTaken l_R_nameIsTaken_48 (bi_bald i (bn_clamp hi rfl) hs (bn_in hi rfl) (bh_here m_R_nameIsTaken l_R_nameIsTaken_49 (bi_gI (bh_I M 5 (i + 1) 4) rfl hs (bh_b8k hi) (bh_here m_R_nameIsTaken l_R_nameIsTaken_52 (bi_ald rfl (bh_here m_R_nameIsTaken l_R_nameIsTaken_53 (bi_gI (bh_I M 5 x2 4) rfl hs hx2 (bh_here m_R_nameIsTaken l_R_nameIsTaken_56 (bi_if2 (fun q220 => (bh_here m_R_nameIsTaken l_R_nameIsTaken_61 (bi_incn [some (.inr (15, 1)), some (.inr (4, 1)), some (.inr (5, x2)), some (.inl (.int (nI (i + 1)))), some (.inl (.int 1))] rfl rfl rfl rfl (bh_here m_R_nameIsTaken l_R_nameIsTaken_64 (bi_go (((h.2 q211).2 q219).1 q220)))))) (fun q221 => (bh_here m_R_nameIsTaken l_R_nameIsTaken_59 (bi_push (bh_here m_R_nameIsTaken l_R_nameIsTaken_60 (bi_zret rfl (by decide) (((h.2 q211).2 q219).2 q221))))))))))))))))))))))))))))))))))))))))) (fun q => absurd (by decide) q))))⟩))))))))))))))))
theorem bx_R_nameIsTaken_2 {M : bh_M} {Z : bh_F → Prop} (x2 : Nat) (hx2 : 1 ≤ x2 ∧ x2 ≤ bh_c0 5) (w4 : Option bh_V) (hs : bh_stat M.2.2.2) (h : Z (.inl (some (.inl (.int 0))), M)) : bh_wp (bh_tb T_R_nameIsTaken) (2, [some (.inr (15, 1)), some (.inr (4, 1)), some (.inr (5, x2)), some (.inl (.int (nI 8))), w4], [], M, 0) Z := (bh_here m_R_nameIsTaken l_R_nameIsTaken_2 (bi_ild rfl (bh_here m_R_nameIsTaken l_R_nameIsTaken_3 (bi_push (bh_here m_R_nameIsTaken l_R_nameIsTaken_5 (bi_if2n (8 ≤ 8) (bn_le (by decide) (by decide)) (fun _ => (bh_here m_R_nameIsTaken l_R_nameIsTaken_67 (bi_push (bh_here m_R_nameIsTaken l_R_nameIsTaken_68 (bi_zret rfl (by decide) h))))) (fun q => absurd (by decide) q)))))))
theorem rdC.lv {M : bh_M} {d : sd} {w : sw} (h : rdC M d w) {b : Nat} (hb : b < 8) : bh_I M 5 (b + 1) 3 < 2 ↔ d_live d b = false := by
  obtain ⟨⟨-, h1, h2, -⟩, -⟩ := h b hb
  rw [h1, show (2 : Int32) = nI 2 from rfl, bn_lt (by omega) (by decide)]
  unfold d_live
  rw [decide_eq_false_iff_not]
  omega
theorem rdC.none {M : bh_M} {d : sd} {w : sw} (h : rdC M d w) {b : Nat} (hb : b < 8) : bh_I M 5 (b + 1) 3 = 0 ↔ d_st d b = 0 := by
  obtain ⟨⟨-, h1, h2, -⟩, -⟩ := h b hb
  rw [h1]
  exact bn_0 (by omega)
theorem rdC.one {M : bh_M} {d : sd} {w : sw} (h : rdC M d w) {b : Nat} (hb : b < 8) : bh_I M 5 (b + 1) 3 = 1 ↔ d_st d b = 1 := by
  obtain ⟨⟨-, h1, h2, -⟩, -⟩ := h b hb
  rw [h1]
  exact bn_inj (b := 1) (by omega) (by decide)
theorem tkC.f {M : bh_M} {T : Nat → Bool} (h : tkC M T) {b : Nat} (hb : b < 8) : bh_I M 18 1 b = 0 ↔ T b = false := by
  rw [h b hb]
  cases T b
  · exact ⟨fun _ => rfl, fun _ => rfl⟩
  · constructor
    · intro q
      exact absurd q (by decide)
    · intro q
      cases q
theorem cd_R_nameIsTaken {M : bh_M} {Z : bh_F → Prop} {d : sd} {w : sw} {T : Nat → Bool} {b : Nat} (hb : b < 8) (hd : rdC M d w) (ht : tkC M T) (hT : ∀ o, T o = true → d_st d o = 1) (hst : ¬ d_st d b = 0) (hs : bh_stat M.2.2.2) (h1 : d_named d T b = true → Z (.inl (some (.inl (.int 1))), M)) (h0 : d_named d T b = false → Z (.inl (some (.inl (.int 0))), M)) : F_R_nameIsTaken [.inr (15, 1), .inr (4, 1), .inr (5, b + 1)] M Z := by
  refine be_R_nameIsTaken (b + 1) (bh_b8k hb) hs ?_
  refine bh_lpW (T := bh_tb T_R_nameIsTaken) (Z := Z) 2 8 (fun i (w4 : Option bh_V) => ([some (.inr (15, 1)), some (.inr (4, 1)), some (.inr (5, b + 1)), some (.inl (.int (nI i))), w4], [], M, 0)) (fun i _ => ∀ j, j < i → (fun o => (d_live d o || T o) && decide (¬ o = b) && decide (d_nm d o = d_nm d b)) j = false) (fun i w4 hi hv k => ?_) (fun w4 hv => bx_R_nameIsTaken_2 (b + 1) (bh_b8k hb) w4 hs (h0 (bh_any_false hv))) none (fun j hj => absurd hj (Nat.not_lt_zero j))
  have nb : nI i = bh_I M 5 (b + 1) 0 ↔ i = b := by
    rw [(hd b hb).1.1]
    exact bn_inj (by omega) (by omega)
  have enb := (hd b hb).1.2.2.2.1 hst
  have nx : ∀ w', (fun o => (d_live d o || T o) && decide (¬ o = b) && decide (d_nm d o = d_nm d b)) i = false → bh_wp (bh_tb T_R_nameIsTaken) (2, [some (.inr (15, 1)), some (.inr (4, 1)), some (.inr (5, b + 1)), some (.inl (.int (nI (i + 1)))), w'], [], M, 0) Z := fun w' q => k w' (bh_any_up hv q)
  have tail : (d_live d i || T i) = true → (nI i = bh_I M 5 (b + 1) 0 → bh_wp (bh_tb T_R_nameIsTaken) (2, [some (.inr (15, 1)), some (.inr (4, 1)), some (.inr (5, b + 1)), some (.inl (.int (nI (i + 1)))), some (.inl (.int 1))], [], M, 0) Z) ∧ (¬ nI i = bh_I M 5 (b + 1) 0 → (¬ bh_I M 5 (i + 1) 4 = bh_I M 5 (b + 1) 4 → bh_wp (bh_tb T_R_nameIsTaken) (2, [some (.inr (15, 1)), some (.inr (4, 1)), some (.inr (5, b + 1)), some (.inl (.int (nI (i + 1)))), some (.inl (.int 1))], [], M, 0) Z) ∧ (¬ ¬ bh_I M 5 (i + 1) 4 = bh_I M 5 (b + 1) 4 → Z (.inl (some (.inl (.int 1))), M))) := by
    intro hl
    have hsi : ¬ d_st d i = 0 := by
      rcases Bool.or_eq_true_iff.mp hl with q | q
      · have := of_decide_eq_true q
        omega
      · have := hT i q
        omega
    have eni := (hd i hi).1.2.2.2.1 hsi
    rw [eni, enb]
    refine ⟨fun q => nx _ ?_, fun q => ⟨fun q2 => nx _ ?_, fun q2 => h1 (bh_any_true hi ?_)⟩⟩
    · rw [nb] at q
      simp [q]
    · simp [q2]
    · rw [nb] at q
      simp only [hl, q, Decidable.of_not_not q2, not_false_eq_true, decide_true, Bool.and_self]
  refine bl_R_nameIsTaken_2 (b + 1) (bh_b8k hb) i w4 hi hs ⟨fun q => ⟨fun q2 => nx _ ?_, fun q2 => tail ?_⟩, fun q => tail ?_⟩
  · rw [hd.lv hi] at q
    rw [ht.f hi] at q2
    simp [q, q2]
  · rw [ht.f hi] at q2
    rw [Bool.not_eq_false] at q2
    rw [q2, Bool.or_true]
  · rw [hd.lv hi, Bool.not_eq_false] at q
    rw [q, Bool.true_or]
theorem cd_R_keyOf {M : bh_M} {Z : bh_F → Prop} {d : sd} {w : sw} {b k e : Nat} (hb : b < 8) (he : e < 8) (hk : k < d_ni d b) (hd : rdC M d w) (hs : bh_stat M.2.2.2) (h : Z (.inl (some (.inl (.int (nI ((d_key d b k e).getD 160))))), M)) : F_R_keyOf [.inr (5, e + 1), .inr (7, b + 1), .inl (.int (nI k))] M Z := by
  obtain ⟨-, -, ⟨-, n3⟩, hi, -, -⟩ := hd b hb
  obtain ⟨i1, i2, i3, i4, i5, i6, -⟩ := hi k hk
  obtain ⟨⟨f1, f2, f3, -⟩, fv, -⟩ := hd e he
  have ek : (nI k).toNatClampNeg = k := bn_clamp (N := 3) (by omega) rfl
  have ep : (nI (d_ip d b k)).toNatClampNeg = d_ip d b k := bn_clamp i2 rfl
  obtain ⟨v1, v2⟩ := fv _ i2
  have hz := hd.none he
  have hl := hd.lv he
  refine ct_R_keyOf (e + 1) (bh_b8k he) (b + 1) (bh_b8k hb) (nI k) hs ?_
  rw [ek, i1, ep, i3, i5, v1, f1]
  refine ⟨bn_in (by omega) rfl, bn_in i2 rfl, ?_⟩
  cases hv : d_ver d e (d_ip d b k) with
  | none =>
    have e1 : d_key d b k e = none := by
      unfold d_key
      rw [hv]
      split <;> rfl
    rw [e1] at h
    have a1 : bh_oI none < nI (d_lo d b k) := by
      rw [Int32.lt_iff_toInt_lt, bn_toInt (by omega)]
      show (-1 : Int) < _
      omega
    exact ⟨fun _ => ⟨fun _ => h, fun _ => h⟩, fun q => absurd a1 q⟩
  | some v =>
    have hv9 := (v2 v hv).1
    have c1 : bh_oI (some v) < nI (d_lo d b k) ↔ v < d_lo d b k := bn_lt (by omega) (by omega)
    have c2 : nI (d_hi d b k) < bh_oI (some v) ↔ d_hi d b k < v := bn_lt (by omega) (by omega)
    rw [c1, c2, hz]
    have e0 : d_st d e = 0 → d_key d b k e = none := by
      intro q
      unfold d_key
      rw [if_pos q]
    have e1 : ¬ (d_lo d b k ≤ v ∧ v ≤ d_hi d b k) → d_key d b k e = none := by
      intro q
      unfold d_key
      rw [hv]
      split
      · rfl
      · show (if d_lo d b k ≤ v ∧ v ≤ d_hi d b k then _ else _) = _
        rw [if_neg q]
    refine ⟨fun q => ?_, fun q => ⟨fun q2 => ?_, fun q2 => ⟨fun q3 => ?_, fun q3 => ⟨fun _ => ⟨fun q4 => ?_, fun q4 => ?_⟩, fun q4 => absurd (bn_not_neg1 (by omega)) q4⟩⟩⟩⟩
    · rw [e1 (by omega)] at h
      exact ⟨fun _ => h, fun _ => h⟩
    · rw [e1 (by omega)] at h
      exact ⟨fun _ => h, fun _ => h⟩
    · rw [e0 q3] at h
      exact h
    · rw [hl] at q4
      have e2 : d_key d b k e = some ((10 + (9 - v)) * 8 + e) := by
        unfold d_key
        rw [if_neg q3, hv]
        show (if d_lo d b k ≤ v ∧ v ≤ d_hi d b k then some (((if d_live d e = true then 0 else 10) + (9 - v)) * 8 + e) else none) = _
        rw [if_pos (by omega), if_neg (by rw [q4]; exact Bool.false_ne_true)]
      rw [e2] at h
      have e3 : ((1 : Int32) * 10 + 10 - 1 - bh_oI (some v)) * 8 + nI e = nI ((10 + (9 - v)) * 8 + e) := by
        show (nI 19 - nI v) * nI 8 + nI e = _
        rw [bn_sub (by omega), bn_mul, bn_add]
        congr 1
        omega
      rw [e3]
      exact h
    · rw [hl, Bool.not_eq_false] at q4
      have e2 : d_key d b k e = some ((0 + (9 - v)) * 8 + e) := by
        unfold d_key
        rw [if_neg q3, hv]
        show (if d_lo d b k ≤ v ∧ v ≤ d_hi d b k then some (((if d_live d e = true then 0 else 10) + (9 - v)) * 8 + e) else none) = _
        rw [if_pos (by omega), if_pos q4]
      rw [e2] at h
      have e3 : ((0 : Int32) * 10 + 10 - 1 - bh_oI (some v)) * 8 + nI e = nI ((0 + (9 - v)) * 8 + e) := by
        show (nI 9 - nI v) * nI 8 + nI e = _
        rw [bn_sub (by omega), bn_mul, bn_add]
        congr 1
        omega
      rw [e3]
      exact h
