/-! RANK: no sum and no mean of ranks is NaN; both sides -/
theorem fp_asm {s : Bool} {e t : Nat} (h : (e ≤ 2046 ∧ t < 4503599627370496) ∨ (e = 2047 ∧ t = 0)) : vf_n64 (UInt64.ofNat (FP.Core.assemble FP.Core.b64 s e t)) := by
  unfold vf_n64
  have e1 : FP.Core.assemble FP.Core.b64 s e t = (s.toNat * 2048 + e) * 4503599627370496 + t := rfl
  rw [UInt64.le_iff_toNat_le, UInt64.toNat_and, UInt64.toNat_ofNat', e1, show (0x7fffffffffffffff : UInt64).toNat = 2 ^ 63 - 1 from rfl, Nat.and_two_pow_sub_one_eq_mod, show (0x7ff0000000000000 : UInt64).toNat = 9218868437227405312 from rfl]
  cases s
  · show ((0 * 2048 + e) * 4503599627370496 + t) % 18446744073709551616 % 9223372036854775808 ≤ _
    omega
  · show ((1 * 2048 + e) * 4503599627370496 + t) % 18446744073709551616 % 9223372036854775808 ≤ _
    omega
def fp_ok : FP.Core.Datum → Prop
  | .nan => False
  | .inf _ => True
  | .fin _ c q => c < 9007199254740992 ∧ q ≤ 971
theorem fp_enc {x : FP.Core.Datum} (h : fp_ok x) : vf_n64 (UInt64.ofNat (FP.Core.encode FP.Core.b64 x)) := by
  cases x with
  | nan => exact h.elim
  | inf s => exact fp_asm (s := s) (e := 2047) (t := 0) (Or.inr ⟨rfl, rfl⟩)
  | fin s c q =>
    obtain ⟨h1, h2⟩ := h
    have e1 : FP.Core.encode FP.Core.b64 (.fin s c q) = if c < 4503599627370496 then FP.Core.assemble FP.Core.b64 s 0 c else FP.Core.assemble FP.Core.b64 s ((q - (-1074)).toNat + 1) (c - 4503599627370496) := rfl
    rw [e1]
    split
    · exact fp_asm (Or.inl ⟨by omega, by omega⟩)
    · exact fp_asm (Or.inl ⟨by omega, by omega⟩)
theorem fp_bound {s : Bool} {c : Nat} {q : Int} (h : c < 9007199254740992) : fp_ok (FP.Core.bound FP.Core.b64 s c q) := by
  have e1 : FP.Core.bound FP.Core.b64 s c q = if q ≤ 971 then .fin s c q else .inf s := rfl
  rw [e1]
  split
  · rename_i c1
    exact ⟨h, c1⟩
  · trivial
theorem fp_settle (s : Bool) (c : Nat) (q : Int) : fp_ok (FP.Core.settle FP.Core.b64 s c q) := by
  have e1 : FP.Core.settle FP.Core.b64 s c q = if c < 9007199254740992 then FP.Core.bound FP.Core.b64 s c q else FP.Core.bound FP.Core.b64 s 4503599627370496 (q + 1) := rfl
  rw [e1]
  split
  · rename_i c1
    exact fp_bound c1
  · exact fp_bound (by decide)
theorem fp_ratio (s : Bool) (n d : Nat) (e : Int) : fp_ok (FP.Core.roundRatio FP.Core.b64 s n d e) := by
  unfold FP.Core.roundRatio
  split
  · exact ⟨by decide, by decide⟩
  · exact fp_settle _ _ _
theorem fp_round {x : FP.Core.Datum} (h : ¬ x = .nan) : fp_ok (FP.Core.round FP.Core.b64 x) := by
  cases x with
  | nan => exact absurd rfl h
  | inf s => trivial
  | fin s c q => exact fp_ratio _ _ _ _
theorem fp_dec {x : UInt64} (h : vf_n64 x) : ¬ FP.Core.decode FP.Core.b64 x.toNat = .nan := by
  unfold vf_n64 at h
  rw [UInt64.le_iff_toNat_le, UInt64.toNat_and, show (0x7fffffffffffffff : UInt64).toNat = 2 ^ 63 - 1 from rfl, Nat.and_two_pow_sub_one_eq_mod, show (0x7ff0000000000000 : UInt64).toNat = 9218868437227405312 from rfl] at h
  have hx := x.toNat_lt
  have e1 : FP.Core.decode FP.Core.b64 x.toNat = if x.toNat / 4503599627370496 % 2048 = 2047 then (if x.toNat % 4503599627370496 = 0 then .inf (FP.Core.fieldS FP.Core.b64 x.toNat) else .nan) else if x.toNat / 4503599627370496 % 2048 = 0 then .fin (FP.Core.fieldS FP.Core.b64 x.toNat) (FP.Core.fieldT FP.Core.b64 x.toNat) FP.Core.b64.qmin else .fin (FP.Core.fieldS FP.Core.b64 x.toNat) (FP.Core.b64.tails + FP.Core.fieldT FP.Core.b64 x.toNat) (FP.Core.b64.qmin + ((FP.Core.fieldE FP.Core.b64 x.toNat : Int) - 1)) := rfl
  rw [e1]
  generalize x.toNat = n at h hx
  have h : n % 9223372036854775808 ≤ 9218868437227405312 := h
  split
  · rename_i c1
    split
    · exact fun q => by cases q
    · rename_i c2
      omega
  · split
    · exact fun q => by cases q
    · exact fun q => by cases q
theorem fp_add {x r : UInt64} (hx : vf_n64 x) (hr : fin64 r) : vf_n64 (FP.dadd x r) := by
  have h1 := fp_dec hx
  obtain ⟨s, c, q, e⟩ := hr
  refine fp_enc (fp_round ?_)
  rw [e]
  cases e2 : FP.Core.decode FP.Core.b64 x.toNat with
  | nan => exact absurd e2 h1
  | inf t => exact fun q => by cases q
  | fin t d p => exact fun q => by cases q
theorem fp_i2d : ∀ m : Fin 21, m.val = 0 ∨ (match FP.Core.decode FP.Core.b64 (FP.i2d (nI m.val)).toNat with
    | .fin _ d _ => decide (d ≠ 0)
    | _ => false) = true := by decide +kernel
theorem fp_div {x : UInt64} {m : Nat} (hx : vf_n64 x) (hm : m ≤ 20) (h0 : ¬ m = 0) : vf_n64 (FP.ddiv x (FP.i2d (nI m))) := by
  have h1 := fp_dec hx
  have h2 := fp_i2d ⟨m, by omega⟩
  rcases h2 with h2 | h2
  · exact absurd h2 h0
  · have h2 : (match FP.Core.decode FP.Core.b64 (FP.i2d (nI m)).toNat with
      | .fin _ d _ => decide (d ≠ 0)
      | _ => false) = true := h2
    refine fp_enc ?_
    cases e3 : FP.Core.decode FP.Core.b64 (FP.i2d (nI m)).toNat with
    | nan =>
      rw [e3] at h2
      cases h2
    | inf t =>
      rw [e3] at h2
      cases h2
    | fin t d r =>
      rw [e3] at h2
      have h2 : decide (d ≠ 0) = true := h2
      have hd : ¬ d = 0 := of_decide_eq_true h2
      cases e2 : FP.Core.decode FP.Core.b64 x.toNat with
      | nan => exact absurd e2 h1
      | inf u => trivial
      | fin u c q =>
        show fp_ok (if d = 0 then _ else FP.Core.roundRatio FP.Core.b64 (u != t) c d (q - r))
        rw [if_neg hd]
        exact fp_ratio _ _ _ _
theorem fp_0 : vf_n64 FP.dconst0 := by
  unfold vf_n64
  decide
theorem bh_cnt_nat (p : Nat → Bool) : ∀ n, ∃ m, m ≤ n ∧ bh_cnt p n = nI m
  | 0 => ⟨0, Nat.le_refl _, rfl⟩
  | n + 1 => by
    obtain ⟨m, h1, h2⟩ := bh_cnt_nat p n
    show ∃ m, m ≤ n + 1 ∧ (if p n then bh_cnt p n + 1 else bh_cnt p n) = nI m
    split
    · exact ⟨m + 1, by omega, by rw [h2]; exact bn_add m 1⟩
    · exact ⟨m, by omega, h2⟩
def a_cntk (A : sa) (k : Int32) : Int32 := bh_cnt (fun i => decide (bh_I (a_nu A) 67 1 i = k)) (a_n A)
def a_sumk (A : sa) (k : Int32) : UInt64 := bh_dsum (fun i => decide (bh_I (a_nu A) 67 1 i = k)) (fun i => bh_D (a_nu A) 68 1 i) (a_n A)
def o_rank (A : sa) (k : Int32) : Nat × UInt64 := if ¬ k < 0 ∧ k ≤ 3 then (if a_cntk A k = 0 then (2, FP.i2d 0) else (0, FP.ddiv (a_sumk A k) (FP.i2d (a_cntk A k)))) else (1, FP.i2d 0)
def E_rank : Nat → String
  | 1 => "java/lang/IllegalArgumentException"
  | _ => "java/lang/ArithmeticException"
def rzd (E : Nat → String) (r : Nat × UInt64) : Option bh_V ⊕ String := if r.1 = 0 then .inl (some (.inl (.double r.2))) else .inr (E r.1)
theorem sum_ok {A : sa} (hw : WA A) (k : Int32) : ∀ i, i ≤ a_n A → vf_n64 (bh_dsum (fun i => decide (bh_I (a_nu A) 67 1 i = k)) (fun i => bh_D (a_nu A) 68 1 i) i)
  | 0, _ => fp_0
  | i + 1, hi => by
    have ih := sum_ok hw k i (by omega)
    obtain ⟨-, n, n1, n2, n3⟩ := hw.2.2.2.1
    have en : a_n A = n := by
      unfold a_n
      rw [n2]
      exact bn_clamp (N := 21) (by omega) rfl
    show vf_n64 (if decide (bh_I (a_nu A) 67 1 i = k) = true then FP.dadd (bh_dsum (fun i => decide (bh_I (a_nu A) 67 1 i = k)) (fun i => bh_D (a_nu A) 68 1 i) i) (bh_D (a_nu A) 68 1 i) else _)
    split
    · exact fp_add ih (n3 i (by omega)).2
    · exact ih
theorem div_ok {A : sa} (hw : WA A) {k : Int32} (h0 : ¬ a_cntk A k = 0) : vf_n64 (FP.ddiv (a_sumk A k) (FP.i2d (a_cntk A k))) := by
  obtain ⟨m, m1, m2⟩ := bh_cnt_nat (fun i => decide (bh_I (a_nu A) 67 1 i = k)) (a_n A)
  have hn := (a_n_eq hw).2
  have e : a_cntk A k = nI m := m2
  rw [e] at h0 ⊢
  exact fp_div (sum_ok hw k _ (Nat.le_refl _)) (by omega) (fun q => h0 (by rw [q]; rfl))
theorem cc_rank {M : bh_M} {Z : bh_F → Prop} {A : sa} (h : RC M A) (hw : WA A) (k : Int32) (hz : Z (rzd E_rank (o_rank A k), M)) : F_H_rank [.inr (3, 1), .inl (.int k)] M Z := by
  have hs := h.hs
  obtain ⟨n, hn⟩ := h.2.2.2.1
  have en : a_n A = n := (rc_S_n hn).1
  have bad : ¬ (¬ k < 0 ∧ k ≤ 3) → Z (.inr "java/lang/IllegalArgumentException", M) := by
    intro q
    rw [show o_rank A k = (1, FP.i2d 0) from if_neg q] at hz
    exact hz
  refine be_H_rank k hs ⟨fun q => bad (fun c => c.1 q), fun q0 => ⟨fun q1 => ?_, fun q1 => bad (fun c => q1 c.2)⟩⟩
  have e1 : o_rank A k = _ := if_pos ⟨q0, q1⟩
  rw [e1] at hz
  have ec : bh_cnt (fun i => decide (bh_I M 21 (bh_R M 20 1 i) 3 = k)) (bh_I M 19 1 1).toNatClampNeg = a_cntk A k := by
    unfold a_cntk
    rw [en, (rc_S_n hn).2.1]
    exact bh_cnt_congr (fun i hi => by rw [(hn.2.2.2.2.2 i hi).2.2.1])
  refine ct_V_ofKind k hs ⟨(rc_S_n hn).2.2, ?_⟩
  rw [ec]
  refine bk_H_rank_14 k _ hs ⟨fun q => ?_, fun q => ?_⟩
  · rw [if_neg q] at hz
    refine be_V_sumOfRanks k hs ?_
    refine bh_lp (T := bh_tb T_V_sumOfRanks) (Z := _) 5 n (fun i => ([some (.inr (19, 1)), some (.inl (.int k)), some (.inl (.double (bh_dsum (fun i => decide (bh_I (a_nu A) 67 1 i = k)) (fun i => bh_D (a_nu A) 68 1 i) i))), none, some (.inl (.int (nI i)))], [], M, 0)) (fun _ => True) (fun i hi _ nx => ?_) (fun _ => ?_) trivial
    · have nx := nx trivial
      have hn20 := hn.1
      refine bl_V_sumOfRanks_5 k _ i hn.2.1 (by omega) hi (by omega) hs ?_
      obtain ⟨-, -, v3, v4, -⟩ := hn.2.2.2.2.2 i hi
      rw [v3, v4]
      have es : bh_dsum (fun i => decide (bh_I (a_nu A) 67 1 i = k)) (fun i => bh_D (a_nu A) 68 1 i) (i + 1) = if decide (bh_I (a_nu A) 67 1 i = k) = true then FP.dadd (bh_dsum (fun i => decide (bh_I (a_nu A) 67 1 i = k)) (fun i => bh_D (a_nu A) 68 1 i) i) (bh_D (a_nu A) 68 1 i) else bh_dsum (fun i => decide (bh_I (a_nu A) 67 1 i = k)) (fun i => bh_D (a_nu A) 68 1 i) i := rfl
      have hok := sum_ok hw k (i + 1) (by omega)
      rw [es] at nx hok
      refine ⟨fun q2 => ?_, fun q2 => ?_⟩
      · rw [decide_eq_false q2, if_neg Bool.false_ne_true] at nx
        exact nx
      · rw [decide_eq_true (Decidable.of_not_not q2), if_pos rfl] at nx hok
        exact ⟨hok, nx⟩
    · have hn20 := hn.1
      refine bx_V_sumOfRanks_5 k _ n hn.2.1 (by omega) hs ?_
      have e2 : bh_dsum (fun i => decide (bh_I (a_nu A) 67 1 i = k)) (fun i => bh_D (a_nu A) 68 1 i) n = a_sumk A k := by
        unfold a_sumk
        rw [en]
      rw [e2]
      exact bk_H_rank_37 k _ _ hs ⟨div_ok hw q, hz⟩
  · rw [if_pos (Decidable.of_not_not q)] at hz
    exact hz
theorem cr_rank {M : bh_M} {Z : bh_F → Prop} {A : sa} (h : RM M A) (hw : WA A) (k : Int32) (hz : ∀ M', RM M' A → fr_P M M' → bh_I M' 40 1 0 = nI (o_rank A k).1 → Z (.inl (some (.inl (.double (o_rank A k).2))), M')) : F_M_rank [.inr (40, 1), .inl (.int k)] M Z := by
  have h0 := h.th 0
  have bad : ¬ (¬ k < 0 ∧ k ≤ 3) → Z (.inl (some (.inl (.double (FP.i2d 0)))), bh_sI (bh_sI M 40 1 0 0) 40 1 0 1) := by
    intro q
    rw [show o_rank A k = (1, FP.i2d 0) from if_neg q] at hz
    exact hz _ (h0.th 1) (fr_P_trans (fr_P_0 M) (fr_P_I _ ⟨by decide, by decide⟩ _ _ _)) rfl
  refine be_M_rank k h.hs ⟨fun q => bad (fun c => c.1 q), fun q0 => ⟨fun q1 => bad (fun c => i_le.mpr c.2 q1), fun q1 => ?_⟩⟩
  have e1 : o_rank A k = _ := if_pos ⟨q0, i_le.mp q1⟩
  rw [e1] at hz
  obtain ⟨b1, b2, b3, b4⟩ := h0.bd hw.2.2.2.1
  refine bh_lp (T := bh_tb T_M_rank) (Z := Z) 29 (a_n A) (fun i => ([some (.inr (40, 1)), some (.inl (.int k)), some (.inl (.double (bh_dsum (fun i => decide (bh_I (a_nu A) 67 1 i = k)) (fun i => bh_D (a_nu A) 68 1 i) i))), none, some (.inl (.int (bh_cnt (fun i => decide (bh_I (a_nu A) 67 1 i = k)) i))), some (.inl (.int (nI i)))], [], bh_sI M 40 1 0 0, 0)) (fun _ => True) (fun i hi _ nx => ?_) (fun _ => ?_) trivial
  · have nx := nx trivial
    refine bl_M_rank_29 k _ _ i b3 (by omega) hi (by omega) h0.hs ?_
    rw [h0.2.2.1.1 67 (by decide), h0.2.2.1.2.2]
    have es : bh_dsum (fun i => decide (bh_I (a_nu A) 67 1 i = k)) (fun i => bh_D (a_nu A) 68 1 i) (i + 1) = if decide (bh_I (a_nu A) 67 1 i = k) = true then FP.dadd (bh_dsum (fun i => decide (bh_I (a_nu A) 67 1 i = k)) (fun i => bh_D (a_nu A) 68 1 i) i) (bh_D (a_nu A) 68 1 i) else bh_dsum (fun i => decide (bh_I (a_nu A) 67 1 i = k)) (fun i => bh_D (a_nu A) 68 1 i) i := rfl
    have ec : bh_cnt (fun i => decide (bh_I (a_nu A) 67 1 i = k)) (i + 1) = if decide (bh_I (a_nu A) 67 1 i = k) = true then bh_cnt (fun i => decide (bh_I (a_nu A) 67 1 i = k)) i + 1 else bh_cnt (fun i => decide (bh_I (a_nu A) 67 1 i = k)) i := rfl
    have hok := sum_ok hw k (i + 1) (by omega)
    rw [es] at hok
    rw [es, ec] at nx
    refine ⟨fun q2 => ?_, fun q2 => ?_⟩
    · rw [decide_eq_true q2, if_pos rfl] at hok
      rw [decide_eq_true q2, if_pos rfl, if_pos rfl] at nx
      exact ⟨hok, nx⟩
    · rw [decide_eq_false q2, if_neg Bool.false_ne_true, if_neg Bool.false_ne_true] at nx
      exact nx
  · refine bx_M_rank_29 k _ _ (a_n A) b3 (by omega) h0.hs ⟨fun q => ?_, fun q => ?_⟩
    · have q : ¬ a_cntk A k = 0 := q
      rw [if_neg q] at hz
      exact ⟨div_ok hw q, hz _ h0 (fr_P_0 M) rfl⟩
    · have q : a_cntk A k = 0 := Decidable.of_not_not q
      rw [if_pos q] at hz
      exact hz _ (h0.th 2) (fr_P_trans (fr_P_0 M) (fr_P_I _ ⟨by decide, by decide⟩ _ _ _)) rfl
