theorem cm_M_named {M : bh_M} {Z : bh_F → Prop} {d : sd} {w : sw} {e : sx} {τ : Nat → Nat → Nat} {T : Nat → Bool} {b : Nat} (hb : b < 8) (hd : rdM M d w e τ) (ht : tkM M T) (hT : ∀ o, T o = true → d_st d o = 1) (hst : ¬ d_st d b = 0) (hs : bh_stat M.2.2.2) (h1 : d_named d T b = true → Z (.inl (some (.inl (.int 1))), M)) (h0 : d_named d T b = false → Z (.inl (some (.inl (.int 0))), M)) : F_M_named [.inr (40, 1), .inl (.int (nI b))] M Z := by
  refine be_M_named b hs ?_
  refine bh_lp (T := bh_tb T_M_named) (Z := Z) 2 8 (fun i => ([some (.inr (40, 1)), some (.inl (.int (nI b))), some (.inl (.int (nI i)))], [], M, 0)) (fun i => ∀ j, j < i → (fun o => (d_live d o || T o) && decide (¬ o = b) && decide (d_nm d o = d_nm d b)) j = false) (fun i hi hv k => ?_) (fun hv => bx_M_named_2 b hb hs (h0 (bh_any_false hv))) (fun j hj => absurd hj (Nat.not_lt_zero j))
  have enb := (hd.2.2 b hb).1.2.2.1 hst
  have nx : (fun o => (d_live d o || T o) && decide (¬ o = b) && decide (d_nm d o = d_nm d b)) i = false → bh_wp (bh_tb T_M_named) (2, [some (.inr (40, 1)), some (.inl (.int (nI b))), some (.inl (.int (nI (i + 1))))], [], M, 0) Z := fun q => k (bh_any_up hv q)
  have tail : ¬ i = b → (d_live d i || T i) = true → (¬ bh_I M 42 1 i = bh_I M 42 1 b → bh_wp (bh_tb T_M_named) (2, [some (.inr (40, 1)), some (.inl (.int (nI b))), some (.inl (.int (nI (i + 1))))], [], M, 0) Z) ∧ (¬ ¬ bh_I M 42 1 i = bh_I M 42 1 b → Z (.inl (some (.inl (.int 1))), M)) := by
    intro hne hl
    have hsi : ¬ d_st d i = 0 := by
      rcases Bool.or_eq_true_iff.mp hl with q | q
      · have := of_decide_eq_true q
        omega
      · have := hT i q
        omega
    have eni := (hd.2.2 i hi).1.2.2.1 hsi
    rw [eni, enb]
    refine ⟨fun q2 => nx ?_, fun q2 => h1 (bh_any_true hi ?_)⟩
    · simp [q2]
    · simp only [hl, hne, Decidable.of_not_not q2, not_false_eq_true, decide_true, Bool.and_self]
  refine bl_M_named_2 b i hi hb hs ⟨fun q => nx ?_, fun q => ⟨fun q2 => ⟨fun q3 => nx ?_, fun q3 => tail q ?_⟩, fun q2 => tail q ?_⟩⟩
  · simp [q]
  · rw [hd.lv hi] at q2
    rw [ht.f hi] at q3
    simp [q2, q3]
  · rw [ht.f hi, Bool.not_eq_false] at q3
    rw [q3, Bool.or_true]
  · rw [hd.lv hi, Bool.not_eq_false] at q2
    rw [q2, Bool.true_or]
theorem rdM.st1 {M : bh_M} {d : sd} {w : sw} {e : sx} {τ : Nat → Nat → Nat} (h : rdM M d w e τ) {o j : Nat} (ho : o < 8) (hj : j < x_n e o) : ¬ d_st d o = 0 := by
  intro q
  have := (h.2.2 o ho).2.1.2.2.2.2.2 q
  omega
theorem cm_M_port {M : bh_M} {Z : bh_F → Prop} {d : sd} {w : sw} {e : sx} {τ : Nat → Nat → Nat} {o j : Nat} (ho : o < 8) (hj : j < x_n e o) (hd : rdM M d w e τ) (hs : bh_stat M.2.2.2) (h : Z (.inl (some (.inl (.long (p_enc τ (x_p e o j) (some (o, d_lf d o)))))), M)) : F_M_port [.inr (40, 1), .inl (.int (nI (3 * o + j)))] M Z := by
  have hst := hd.st1 ho hj
  obtain ⟨⟨-, -, -, a4⟩, ⟨-, b2, b3, -⟩, -⟩ := hd.2.2 o ho
  obtain ⟨c1, c2, -⟩ := b3 j hj
  refine ct_M_portn (3 * o + j) (by omega) hs ?_
  rw [show (3 * o + j) / 3 = o by omega, a4 hst, c2, bj_of (by omega), bj_of (by omega)]
  have e1 : (nJ (τ o (d_lf d o)) * 8 + nJ o) * 8 + nJ (x_p e o j) = nJ ((τ o (d_lf d o) * 8 + o) * 8 + x_p e o j) := by
    show (nJ (τ o (d_lf d o)) * nJ 8 + nJ o) * nJ 8 + nJ (x_p e o j) = _
    rw [bj_mul, bj_add, bj_mul, bj_add]
  rw [e1]
  exact h
/-- the reference in the midst of the search; c tasks have their choices -/
def smM (M : bh_M) (d : sd) (s : ss) (w0 : sw) (e : sx) (c : Nat) : Prop :=
  bh_I M 40 1 26 = nI c ∧ c ≤ s.2.2.length ∧
  (∀ i q, s.2.2[i]? = some q → bh_I M 58 1 i = nI (3 * q.1 + q.2)) ∧
  (∀ i q, i < c → s.2.2[i]? = some q → ∃ p o j, p < 8 ∧ bh_I M 61 1 i = nI p ∧ bh_I M 59 1 (8 * i + p) = nI (3 * o + j) ∧ o < 8 ∧ j < x_n e o ∧ x_p e o j = d_ip d q.1 q.2 ∧ s.1 q.1 q.2 = some (o, d_lf d o)) ∧
  (∀ b k o l, b < 8 → d_live d b = false → s.1 b k = some (o, l) → ∃ i, i < c ∧ s.2.2[i]? = some (b, k)) ∧
  (∀ b k, b < 8 → d_live d b = true → s.1 b k = w0 b k)
theorem cm_M_source {M : bh_M} {Z : bh_F → Prop} {d : sd} {w0 : sw} {e : sx} {τ : Nat → Nat → Nat} {s : ss} {c t0 b q : Nat} (hb : b < 8) (hq : q < 8) (hd : rdM M d w0 e τ) (hm : smM M d s w0 e c) (hI : sI d s t0) (hs : bh_stat M.2.2.2) (h : Z (.inl (some (.inl (.long (p_enc τ q (d_src d s.1 b q))))), M)) : F_M_source [.inr (40, 1), .inl (.int (nI b)), .inl (.int (nI q))] M Z := by
  obtain ⟨⟨-, -, -, -⟩, ⟨b1, b2, b3, b4, b5, -⟩, ⟨i1, i2, i3, i4⟩, hw⟩ := hd.2.2 b hb
  obtain ⟨m1, m2, m3, m4, m5, m6⟩ := hm
  have hlen := sI_len hI (fun b hb => (hd.2.2 b hb).2.2.1.2.1)
  -- the tasks
  have key3 : ∀ j, j < d_ni d b → d_ip d b j = q → d_live d b = false → d_src d s.1 b q = s.1 b j → (∀ w4, s.1 b j = none → bh_wp (bh_tb T_M_source) (44, [some (.inr (40, 1)), some (.inl (.int (nI b))), some (.inl (.int (nI q))), some (.inl (.int (nI (3 * b + j + 1)))), w4], [], M, 0) Z) → ∀ m t, t + m = c → (∀ t', t' < t → ¬ s.2.2[t']? = some (b, j)) → bh_wp (bh_tb T_M_source) (89, [some (.inr (40, 1)), some (.inl (.int (nI b))), some (.inl (.int (nI q))), some (.inl (.int (nI (3 * b + j)))), some (.inl (.int (nI t)))], [], M, 0) Z := by
    intro j hj hjq hlv hsrc hno m
    induction m with
    | zero =>
      intro t e1 hx
      have : t = c := by omega
      subst this
      refine bx_M_source_89 b q t j m1 (by omega) hs (hno _ ?_)
      cases ew : s.1 b j with
      | none => rfl
      | some ol =>
        obtain ⟨o, l⟩ := ol
        obtain ⟨i, hi, hi2⟩ := m5 b j o l hb hlv ew
        exact absurd hi2 (hx i hi)
    | succ m ih =>
      intro t e1 hx
      have htl : t < s.2.2.length := by omega
      obtain ⟨⟨b', k'⟩, hq'⟩ : ∃ q', s.2.2[t]? = some q' := ⟨s.2.2[t], List.getElem?_eq_getElem htl⟩
      have hmem := hI.2.2.1 _ (List.mem_of_getElem? hq')
      have hb' : b' < 8 := hmem.1
      have hk' : k' < d_ni d b' := hmem.2.2
      have hk3 := (hd.2.2 b' hb').2.2.1.2.1
      refine bl_M_source_89 b q t j (x := 3 * b' + k') m1 (by omega) (by omega) (by omega) (by omega) (by omega) (m3 t _ hq') hs ⟨fun q1 => ih (t + 1) (by omega) (fun t' ht' => ?_), fun q1 => ?_⟩
      · by_cases c1 : t' = t
        · subst c1
          rw [hq']
          intro c2
          have := Option.some.inj c2
          obtain ⟨rfl, rfl⟩ := Prod.mk.inj this
          exact q1 rfl
        · exact hx t' (by omega)
      · have q1 : 3 * b' + k' = 3 * b + j := Decidable.of_not_not q1
        have c1 : b' = b := by omega
        have c2 : k' = j := by omega
        subst c1 c2
        obtain ⟨p, o, j', p1, p2, p3, p4, p5, p6, p7⟩ := m4 t _ (by omega) hq'
        refine be_M_choice t p2 (by omega) (by omega) hs ?_
        rw [p3]
        refine bk_M_source_116 b' q t (3 * o + j') k' hs ?_
        refine cm_M_port p4 p5 hd hs ?_
        refine bk_M_source_119 b' q t _ k' hs ?_
        have p6 : x_p e o j' = d_ip d b' k' := p6
        have p7 : s.1 b' k' = some (o, d_lf d o) := p7
        rw [hsrc, p7] at h
        rw [p6, hjq]
        exact h
  -- the imports
  have key2 : d_ver d b q = none → ∀ m j (w4 : Option bh_V), j + m = d_ni d b → ((∀ j', j' < j → ¬ d_ip d b j' = q) ∨ (∃ j0, j0 < j ∧ d_ip d b j0 = q ∧ d_src d s.1 b q = none)) → bh_wp (bh_tb T_M_source) (44, [some (.inr (40, 1)), some (.inl (.int (nI b))), some (.inl (.int (nI q))), some (.inl (.int (nI (3 * b + j)))), w4], [], M, 0) Z := by
    intro hver m
    have hsrc0 : d_src d s.1 b q = match d_imp d b q with
        | none => none
        | some k => s.1 b k := by
      unfold d_src
      rw [hver]
      rfl
    induction m with
    | zero =>
      intro j w4 e1 hx
      have : j = d_ni d b := by omega
      subst this
      refine bx_M_source_44 b q w4 hb i1 i2 hs ?_
      have : d_src d s.1 b q = none := by
        rcases hx with hx | ⟨j0, -, -, hx⟩
        · rw [hsrc0, show d_imp d b q = none from bh_ff_none (fun k hk => decide_eq_false (hx k hk))]
        · exact hx
      rw [this] at h
      exact h
    | succ m ih =>
      intro j w4 e1 hx
      obtain ⟨c1, c2, -⟩ := i3 j (by omega)
      refine bl_M_source_44 b q w4 j hb i1 i2 (by omega) hq c2 c1 hs ⟨fun q1 => ?_, fun q1 => ih (j + 1) w4 (by omega) ?_⟩
      · have hx2 : ∀ j', j' < j → ¬ d_ip d b j' = q := by
          rcases hx with hx | ⟨j0, h0, h1, -⟩
          · exact hx
          · have := i4 j0 j (by omega) (by omega) (by omega)
            omega
        have himp : d_imp d b q = some j := bh_ff_some (by omega) (decide_eq_true q1) (fun j' hj' => decide_eq_false (hx2 j' hj'))
        have hsrc : d_src d s.1 b q = s.1 b j := by rw [hsrc0, himp]
        refine ⟨fun q2 => ?_, fun q2 => ?_⟩
        · rw [hd.lv hb] at q2
          refine key3 j (by omega) q1 q2 hsrc (fun w5 hn => ih (j + 1) w5 (by omega) (Or.inr ⟨j, by omega, q1, by rw [hsrc]; exact hn⟩)) c 0 (by omega) (fun t' ht' => absurd ht' (Nat.not_lt_zero _))
        · rw [hd.lv hb, Bool.not_eq_false] at q2
          rw [hsrc, m6 b j hb q2] at h
          rw [(hw j (by omega)).1, q1]
          exact h
      · rcases hx with hx | ⟨j0, h0, h1, h2⟩
        · refine Or.inl (fun j' hj' => ?_)
          by_cases c3 : j' = j
          · subst c3
            exact q1
          · exact hx j' (by omega)
        · exact Or.inr ⟨j0, by omega, h1, h2⟩
  -- the exports
  have key1 : ∀ m j (w4 : Option bh_V), j + m = x_n e b → (∀ j', j' < j → ¬ x_p e b j' = q) → bh_wp (bh_tb T_M_source) (4, [some (.inr (40, 1)), some (.inl (.int (nI b))), some (.inl (.int (nI q))), some (.inl (.int (nI (3 * b + j)))), w4], [], M, 0) Z := by
    intro m
    induction m with
    | zero =>
      intro j w4 e1 hx
      have : j = x_n e b := by omega
      subst this
      refine bx_M_source_4 b q w4 hb b1 b2 hs ?_
      have hver : d_ver d b q = none := by
        cases ev : d_ver d b q with
        | none => rfl
        | some v =>
          obtain ⟨j, hj, hj2⟩ := b5 q hq (by rw [ev]; rfl)
          exact absurd hj2 (hx j hj)
      exact key2 hver (d_ni d b) 0 w4 (by omega) (Or.inl (fun j' hj' => absurd hj' (Nat.not_lt_zero _)))
    | succ m ih =>
      intro j w4 e1 hx
      obtain ⟨c1, c2, -, v, c4, -⟩ := b3 j (by omega)
      refine bl_M_source_4 b q w4 j hb b1 b2 (by omega) hq c1 c2 hs ⟨fun q1 => ih (j + 1) w4 (by omega) (fun j' hj' => ?_), fun q1 => ?_⟩
      · by_cases c3 : j' = j
        · subst c3
          exact q1
        · exact hx j' (by omega)
      · have q1 := Decidable.of_not_not q1
        refine cm_M_port hb (show j < x_n e b by omega) hd hs ?_
        refine bk_M_source_33 b q w4 _ j hs ?_
        have : d_src d s.1 b q = some (b, d_lf d b) := by
          unfold d_src
          rw [← q1, c4]
          rfl
        rw [this] at h
        rw [q1]
        exact h
  refine be_M_source b q hs ?_
  exact key1 (x_n e b) 0 none (by omega) (fun j' hj' => absurd hj' (Nat.not_lt_zero _))
/-- every wire goes to a life that there was -/
def d_wok (d : sd) (w : sw) : Prop := ∀ b k o l, b < 8 → w b k = some (o, l) → o < 8 ∧ l ≤ d_lf d o
theorem d_src_okM {d : sd} {w : sw} (h : d_wok d w) {b q o l : Nat} (hb : b < 8) (h1 : d_src d w b q = some (o, l)) : o < 8 ∧ l ≤ d_lf d o := by
  unfold d_src at h1
  split at h1
  · cases h1
    exact ⟨hb, Nat.le_refl _⟩
  · split at h1
    · cases h1
    · exact h b _ o l hb h1
theorem cm_M_clash {M : bh_M} {Z : bh_F → Prop} {d : sd} {w0 : sw} {e : sx} {τ : Nat → Nat → Nat} {s : ss} {c t0 b o j : Nat} (hb : b < 8) (ho : o < 8) (hj : j < x_n e o) (hd : rdM M d w0 e τ) (hm : smM M d s w0 e c) (hI : sI d s t0) (hok : d_wok d s.1) (hs : bh_stat M.2.2.2) (h1 : d_diff d s.1 b o (d_us d o (x_p e o j)) = true → Z (.inl (some (.inl (.int 1))), M)) (h0 : d_diff d s.1 b o (d_us d o (x_p e o j)) = false → Z (.inl (some (.inl (.int 0))), M)) : F_M_clash [.inr (40, 1), .inl (.int (nI b)), .inl (.int (nI (3 * o + j)))] M Z := by
  obtain ⟨-, ⟨b1, b2, b3, -⟩, -⟩ := hd.2.2 o ho
  obtain ⟨-, -, eus, -⟩ := b3 j hj
  refine be_M_clash b (3 * o + j) hs ?_
  refine bh_lpW (T := bh_tb T_M_clash) (Z := Z) 2 8 (fun i (ww : Option bh_V × Option bh_V × Option bh_V × Option bh_V) => ([some (.inr (40, 1)), some (.inl (.int (nI b))), some (.inl (.int (nI (3 * o + j)))), some (.inl (.int (nI i))), ww.1, ww.2.1, ww.2.2.1, ww.2.2.2], [], M, 0)) (fun i _ => ∀ x, x < i → (fun q => decide (¬ (d_us d o (x_p e o j) >>> (nI q &&& 31) &&& 1) = 0) && d_two (d_src d s.1 b q) (d_src d s.1 o q)) x = false) (fun i ww hi hv k => ?_) (fun ww hv => bx_M_clash_2 b (3 * o + j) ww.1 ww.2.1 ww.2.2.1 ww.2.2.2 hs (h0 (bh_any_false hv))) (none, none, none, none) (fun x hx => absurd hx (Nat.not_lt_zero x))
  have nx : ∀ w4 w5 w6 w7, (fun q => decide (¬ (d_us d o (x_p e o j) >>> (nI q &&& 31) &&& 1) = 0) && d_two (d_src d s.1 b q) (d_src d s.1 o q)) i = false → bh_wp (bh_tb T_M_clash) (2, [some (.inr (40, 1)), some (.inl (.int (nI b))), some (.inl (.int (nI (3 * o + j)))), some (.inl (.int (nI (i + 1)))), w4, w5, w6, w7], [], M, 0) Z := fun w4 w5 w6 w7 q => k (w4, w5, w6, w7) (bh_any_up hv q)
  have hbit := bl_M_clash_2 (M := M) (Z := Z) b (3 * o + j) i ww.1 ww.2.1 ww.2.2.1 ww.2.2.2 hi (by omega) hs
  rw [eus] at hbit
  refine hbit ⟨fun q => ?_, fun q => nx _ _ _ _ ?_⟩
  · refine cm_M_source hb hi hd hm hI hs ?_
    refine bk_M_clash_30 b (3 * o + j) i _ _ _ _ _ (by omega) hs ?_
    rw [show (3 * o + j) / 3 = o by omega]
    refine cm_M_source ho hi hd hm hI hs ?_
    refine bk_M_clash_40 b (3 * o + j) i _ _ _ _ hs ?_
    have ok1 : ∀ x l, d_src d s.1 b i = some (x, l) → x < 8 ∧ l ≤ d_lf d x := fun x l e => d_src_okM hok hb e
    have ok2 : ∀ x l, d_src d s.1 o i = some (x, l) → x < 8 ∧ l ≤ d_lf d x := fun x l e => d_src_okM hok ho e
    rw [lg_cmp_lt, lg_cmp_lt, lg_cmp_eq, p_enc_neg (fun x l e9 => ⟨(ok1 x l e9).1, hd.2.1 x l (ok1 x l e9).1 (ok1 x l e9).2⟩) hi, p_enc_neg (fun x l e9 => ⟨(ok2 x l e9).1, hd.2.1 x l (ok2 x l e9).1 (ok2 x l e9).2⟩) hi]
    refine ⟨fun q1 => nx _ _ _ _ ?_, fun q1 => ⟨fun q2 => nx _ _ _ _ ?_, fun q2 => ?_⟩⟩
    · simp only [q1, d_two, Bool.and_false]
    · simp only [q2]
      cases d_src d s.1 b i <;> simp [d_two]
    · cases e1 : d_src d s.1 b i with
      | none => exact absurd e1 q1
      | some x =>
        cases e2 : d_src d s.1 o i with
        | none => exact absurd e2 q2
        | some y =>
          rw [p_enc_inj hd.1 hd.2.1 (ok1 x.1 x.2 e1) (ok2 y.1 y.2 e2) hi]
          refine ⟨fun q3 => nx _ _ _ _ ?_, fun q3 => h1 (bh_any_true hi ?_)⟩
          · simp only [e1, e2, d_two, q3, not_true_eq_false, decide_false, Bool.and_false]
          · simp only [e1, e2, d_two, q, q3, not_false_eq_true, decide_true, Bool.and_self]
  · simp only [Decidable.of_not_not q, not_true_eq_false, decide_false, Bool.false_and]
theorem cm_M_holds {M : bh_M} {Z : bh_F → Prop} {d : sd} {w0 : sw} {e : sx} {τ : Nat → Nat → Nat} {s : ss} {c t0 : Nat} (hd : rdM M d w0 e τ) (hm : smM M d s w0 e c) (hI : sI d s t0) (hok : d_wok d s.1) (hs : bh_stat M.2.2.2) (h1 : d_clash d s.1 s.2.1 = false → Z (.inl (some (.inl (.int 1))), M)) (h0 : d_clash d s.1 s.2.1 = true → Z (.inl (some (.inl (.int 0))), M)) : F_M_holds [.inr (40, 1)] M Z := by
  obtain ⟨m1, m2, m3, m4, m5, m6⟩ := id hm
  have hlen := sI_len hI (fun b hb => (hd.2.2 b hb).2.2.1.2.1)
  refine be_M_holds hs ?_
  refine bh_lp (T := bh_tb T_M_holds) (Z := Z) 2 c (fun i => ([some (.inr (40, 1)), some (.inl (.int (nI i)))], [], M, 0)) (fun i => ∀ t' q, t' < i → s.2.2[t']? = some q → d_bad d s.1 q.1 q.2 = false) (fun i hi hv k => ?_) (fun hv => bx_M_holds_2 c m1 (by omega) hs (h1 ?_)) (fun t' q ht' => absurd ht' (Nat.not_lt_zero _))
  · have htl : i < s.2.2.length := by omega
    obtain ⟨⟨b', k'⟩, hq'⟩ : ∃ q', s.2.2[i]? = some q' := ⟨s.2.2[i], List.getElem?_eq_getElem htl⟩
    have hmem := hI.2.2.1 _ (List.mem_of_getElem? hq')
    have hb' : b' < 8 := hmem.1
    have hk' : k' < d_ni d b' := hmem.2.2
    have hk3 := (hd.2.2 b' hb').2.2.1.2.1
    obtain ⟨p, o, j, p1, p2, p3, p4, p5, p6, p7⟩ := m4 i _ hi hq'
    have p6 : x_p e o j = d_ip d b' k' := p6
    have p7 : s.1 b' k' = some (o, d_lf d o) := p7
    have ebad : d_bad d s.1 b' k' = d_diff d s.1 b' o (d_us d o (x_p e o j)) := by
      unfold d_bad
      rw [p7, p6]
    refine bl_M_holds_2 i (x := 3 * b' + k') m1 (by omega) hi (by omega) (m3 i _ hq') (by omega) hs ?_
    refine be_M_choice i p2 (by omega) (by omega) hs ?_
    rw [p3]
    rw [show (3 * b' + k') / 3 = b' by omega]
    refine bk_M_holds_24 i (3 * o + j) b' hs ?_
    refine cm_M_clash hb' p4 p5 hd hm hI hok hs (fun q => ?_) (fun q => ?_)
    · refine bk_M_holds_27 i 1 hs ⟨fun q9 => absurd q9 (by decide), fun _ => h0 (bh_any_true hb' ?_)⟩
      have hT : s.2.1 b' = true := hmem.2.1
      simp only [hT, Bool.true_and]
      exact bh_any_true hk' (by rw [ebad]; exact q)
    · refine bk_M_holds_27 i 0 hs ⟨fun _ => k (fun t' q' ht' hq2 => ?_), fun q9 => absurd rfl q9⟩
      by_cases c1 : t' = i
      · subst c1
        rw [hq'] at hq2
        cases hq2
        rw [ebad]
        exact q
      · exact hv t' q' (by omega) hq2
  · refine bh_any_false (fun b hb => ?_)
    cases hT : s.2.1 b with
    | false => simp
    | true =>
      simp only [Bool.true_and]
      refine bh_any_false (fun k hk => ?_)
      show d_bad d s.1 b k = false
      cases ew : s.1 b k with
      | none =>
        unfold d_bad
        rw [ew]
      | some ol =>
        obtain ⟨o, l⟩ := ol
        have hlv : d_live d b = false := by
          unfold d_live
          rw [(hI.1 b hT).2]
          rfl
        obtain ⟨i, hi, hi2⟩ := m5 b k o l hb hlv ew
        exact hv i _ hi hi2
