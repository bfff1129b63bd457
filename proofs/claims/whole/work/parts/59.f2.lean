/-! THE REFERENCE: exportOf, allHold -/
theorem cm_M_exportOf {M : bh_M} {Z : bh_F → Prop} {d : sd} {w : sw} {e : sx} {τ : Nat → Nat → Nat} {o q : Nat} (ho : o < 8) (hq : q < 8) (hd : rdM M d w e τ) (hver : (d_ver d o q).isSome = true) (hs : bh_stat M.2.2.2) (h : ∀ j, j < x_n e o → x_p e o j = q → Z (.inl (some (.inl (.int (nI (3 * o + j))))), M)) : F_M_exportOf [.inr (40, 1), .inl (.long (p_enc τ q (some (o, d_lf d o))))] M Z := by
  have hτ := hd.2.1 o (d_lf d o) ho (Nat.le_refl _)
  obtain ⟨-, ⟨b1, b2, b3, b4, b5, -⟩, -⟩ := hd.2.2 o ho
  obtain ⟨j0, hj0, hq0⟩ := b5 q hq hver
  have e8 : ((p_enc τ q (some (o, d_lf d o)) / 8) - (p_enc τ q (some (o, d_lf d o)) / 8) / 8 * 8).toInt32 = nI o := by
    show ((nJ ((τ o (d_lf d o) * 8 + o) * 8 + q) / nJ 8) - (nJ ((τ o (d_lf d o) * 8 + o) * 8 + q) / nJ 8) / nJ 8 * nJ 8).toInt32 = nI o
    rw [bj_div 8 (by omega) (by decide), bj_rem 8 (by omega) (by decide), bj_32 (by omega)]
    congr 1
    omega
  refine bi_fn rfl [some (.inr (40, 1)), some (.inl (.long (p_enc τ q (some (o, d_lf d o))))), none, none, none] rfl (be0_M_exportOf _ hs ?_)
  rw [e8]
  have key : ∀ m j, j + m = x_n e o → (∀ j', j' < j → ¬ x_p e o j' = q) → bh_wp (bh_tb T_M_exportOf) (16, [some (.inr (40, 1)), some (.inl (.long (p_enc τ q (some (o, d_lf d o))))), none, some (.inl (.int (nI o))), some (.inl (.int (nI (3 * o + j))))], [], M, 0) Z := by
    intro m
    induction m with
    | zero =>
      intro j e1 hx
      exact absurd hq0 (hx j0 (by omega))
    | succ m ih =>
      intro j e1 hx
      have hj : j < x_n e o := by omega
      obtain ⟨c1, -⟩ := b3 j hj
      refine bl_M_exportOf_16 _ o j ho b1 b2 hj hs ?_
      refine cm_M_port ho hj hd hs ?_
      refine bk_M_exportOf_37 _ o _ j hs ?_
      rw [lg_cmp_eq]
      have e9 : p_enc τ (x_p e o j) (some (o, d_lf d o)) = p_enc τ q (some (o, d_lf d o)) ↔ x_p e o j = q := by
        show nJ ((τ o (d_lf d o) * 8 + o) * 8 + x_p e o j) = nJ ((τ o (d_lf d o) * 8 + o) * 8 + q) ↔ _
        rw [bj_inj (by omega) (by omega)]
        omega
      rw [e9]
      refine ⟨fun q1 => ih (j + 1) (by omega) (fun j' hj' => ?_), fun q1 => h j hj (Decidable.of_not_not q1)⟩
      by_cases c3 : j' = j
      · subst c3
        exact q1
      · exact hx j' (by omega)
  have := key (x_n e o) 0 (by omega) (fun j' hj' => absurd hj' (Nat.not_lt_zero _))
  rw [show (3 : Int32) * nI o = nI (3 * o) from bn_mul 3 o]
  exact this
/-- wires of those taken in go to what is resolved and lives -/
def d_wl (d : sd) (T : Nat → Bool) (w : sw) : Prop := ∀ b k o l, b < 8 → T b = true → w b k = some (o, l) → o < 8 ∧ l = d_lf d o ∧ d_live d o = true ∧ (d_ver d o (d_ip d b k)).isSome = true
theorem cm_M_allHold {M : bh_M} {Z : bh_F → Prop} {d : sd} {w : sw} {e : sx} {τ : Nat → Nat → Nat} {T : Nat → Bool} (hd : rdM M d w e τ) (ht : tkM M T) (hT : ∀ o, o < 8 → T o = true → d_live d o = true) (hl : d_wl d T w) (hok : d_wok d w) (hs : bh_stat M.2.2.2) (h1 : d_clash d w T = false → Z (.inl (some (.inl (.int 1))), M)) (h0 : d_clash d w T = true → Z (.inl (some (.inl (.int 0))), M)) : F_M_allHold [.inr (40, 1)] M Z := by
  refine be_M_allHold hs ?_
  refine bh_lpW (T := bh_tb T_M_allHold) (Z := Z) 2 24 (fun i (ww : Option bh_V) => ([some (.inr (40, 1)), some (.inl (.int (nI i))), ww], [], M, 0)) (fun i _ => ∀ x, x < i → (fun x => T (x / 3) && d_bad d w (x / 3) (x % 3)) x = false) (fun i ww hi hv k => ?_) (fun ww hv => bx_M_allHold_2 ww hs (h1 ?_)) none (fun x hx => absurd hx (Nat.not_lt_zero x))
  · have nx : ∀ ww, (fun x => T (x / 3) && d_bad d w (x / 3) (x % 3)) i = false → bh_wp (bh_tb T_M_allHold) (2, [some (.inr (40, 1)), some (.inl (.int (nI (i + 1)))), ww], [], M, 0) Z := fun ww q => k ww (bh_any_up hv q)
    have hb : i / 3 < 8 := by omega
    obtain ⟨-, -, ⟨-, hni, hip, -⟩, hw⟩ := hd.2.2 (i / 3) hb
    obtain ⟨w1, w2⟩ := hw (i % 3) (Nat.mod_lt _ (by decide))
    rw [show 3 * (i / 3) + i % 3 = i by omega] at w1
    refine bl_M_allHold_2 i ww hi hs ?_
    rw [ht.f hb, w1]
    refine ⟨fun q => nx _ (by simp only [q, Bool.false_and]), fun q => ?_⟩
    have hTb : T (i / 3) = true := by simpa using q
    cases ew : w (i / 3) (i % 3) with
    | none =>
      have hbad : d_bad d w (i / 3) (i % 3) = false := by unfold d_bad; rw [ew]
      refine ⟨fun q2 => absurd q2 (by show ¬ (0 : Int32) ≤ lg_cmp (-1) 0; decide), fun _ => nx _ (by simp only [hbad, Bool.and_false])⟩
    | some ol =>
      obtain ⟨o, l⟩ := ol
      obtain ⟨g1, g2, g3⟩ := w2 o l ew
      obtain ⟨p1, p2, p3, p4⟩ := hl (i / 3) (i % 3) o l hb hTb ew
      subst p2
      have hp8 := (hip (i % 3) g3).2.1
      have hτ := hd.2.1 o (d_lf d o) g1 (Nat.le_refl _)
      refine ⟨fun _ => ?_, fun q2 => absurd ?_ q2⟩
      · refine cm_M_exportOf g1 hp8 hd p4 hs (fun j hj hjq => ?_)
        obtain ⟨-, ⟨-, x2, -⟩, -⟩ := hd.2.2 o g1
        refine bk_M_allHold_43 i ww (3 * o + j) hi (by omega) hs ?_
        have hbad : d_bad d w (i / 3) (i % 3) = d_diff d w (i / 3) o (d_us d o (d_ip d (i / 3) (i % 3))) := by unfold d_bad; rw [ew]
        refine bcl_M_clash hb g1 hj hd (hT _ hb hTb) p3 hok hs (fun q3 => ?_) (fun q3 => ?_)
        · refine bk_M_allHold_56 i _ 1 hs ⟨fun q4 => absurd q4 (by decide), fun _ => h0 ?_⟩
          rw [hjq] at q3
          exact bh_any_true hb (by rw [hTb, Bool.true_and]; exact bh_any_true g3 (by rw [hbad]; exact q3))
        · refine bk_M_allHold_56 i _ 0 hs ⟨fun _ => nx _ ?_, fun q4 => absurd rfl q4⟩
          rw [hjq] at q3
          show (T (i / 3) && d_bad d w (i / 3) (i % 3)) = false
          rw [hbad, q3, Bool.and_false]
      · show (0 : Int32) ≤ lg_cmp (nJ ((τ o (d_lf d o) * 8 + o) * 8 + d_ip d (i / 3) (i % 3))) 0
        have : ¬ lg_cmp (nJ ((τ o (d_lf d o) * 8 + o) * 8 + d_ip d (i / 3) (i % 3))) 0 < 0 := by
          rw [lg_cmp_lt]
          exact bj_0le (by omega)
        rw [Int32.lt_iff_toInt_lt] at this
        rw [Int32.le_iff_toInt_le]
        omega
  · refine bh_any_false (fun b hb => ?_)
    cases hTb : T b with
    | false => rfl
    | true =>
      rw [Bool.true_and]
      refine bh_any_false (fun k hk => ?_)
      have hni := (hd.2.2 b hb).2.2.1.2.1
      have := hv (3 * b + k) (by omega)
      simp only [show (3 * b + k) / 3 = b by omega, show (3 * b + k) % 3 = k by omega, hTb, Bool.true_and] at this
      exact this
