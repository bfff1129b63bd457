/-! WHAT HOLDS OF THE STATE after each of the shorter calls -/
theorem dcmp_eq (a b : UInt64) : FP.dcmp a b = FP.Core.order (FP.Core.decode FP.Core.b64 a.toNat) (FP.Core.decode FP.Core.b64 b.toNat) := rfl
theorem r_ok_fin {x : UInt64} (h : r_ok x) : fin64 x := by
  obtain ⟨h1, h2⟩ := h
  rw [dcmp_eq] at h1 h2
  cases e : FP.Core.decode FP.Core.b64 x.toNat with
  | nan =>
    rw [e] at h1
    exact absurd (show Op.cmpValue (FP.Core.order .nan (FP.Core.decode FP.Core.b64 (13875379345695965184 : UInt64).toNat)) .l < 0 by decide +kernel) h1
  | inf s =>
    cases s with
    | true =>
      rw [e] at h1
      exact absurd (show Op.cmpValue (FP.Core.order (.inf true) (FP.Core.decode FP.Core.b64 (13875379345695965184 : UInt64).toNat)) .l < 0 by decide +kernel) h1
    | false =>
      rw [e] at h2
      exact absurd h2 (show ¬ Op.cmpValue (FP.Core.order (.inf false) (FP.Core.decode FP.Core.b64 (4652007308841189376 : UInt64).toNat)) .g ≤ 0 by decide +kernel)
  | fin s c q => exact ⟨s, c, q, e⟩
theorem wa_nl {A : sa} {b st lf lv ac : Nat} {nm : Int32} {wa : Bool} (hb : b < 8) (h : WA A) (h3 : ¬ a_st A b = 3) (hc : (lf = d_lf (a_d A) b ∧ st = 0 ∧ wa = false) ∨ (lf = d_lf (a_d A) b + 1 ∧ st = 1 ∧ 1 ≤ lv ∧ lv ≤ 5 ∧ ac ≤ 4)) : WA (a_nl A b st nm lf lv ac wa) := by
  obtain ⟨g1, g2, gf, g4, g5⟩ := h
  have est : ∀ x, a_st (a_nl A b st nm lf lv ac wa) x = if x = b then st else a_st A x := fun _ => rfl
  have elf : ∀ x, d_lf (a_d (a_nl A b st nm lf lv ac wa)) x = if x = b then lf else d_lf (a_d A) x := fun _ => rfl
  have ew : ∀ x k, a_w (a_nl A b st nm lf lv ac wa) x k = if x = b then none else a_w A x k := fun _ _ => rfl
  have elv : ∀ x, ¬ x = b → d_live (a_d (a_nl A b st nm lf lv ac wa)) x = d_live (a_d A) x := by
    intro x c
    show decide (2 ≤ if x = b then st else a_st A x) = _
    rw [if_neg c]
    rfl
  refine ⟨⟨fun x k hx hl => ?_, fun x k o l hx hw => ?_⟩, fun x hx => ?_, gf, ?_, g5⟩
  · rw [ew]
    by_cases c : x = b
    · rw [if_pos c]
    · rw [if_neg c]
      rw [elv x c] at hl
      exact g1.1 x k hx hl
  · rw [ew] at hw
    by_cases c : x = b
    · rw [if_pos c] at hw
      cases hw
    · rw [if_neg c] at hw
      obtain ⟨c1, c2, c3⟩ := g1.2 x k o l hx hw
      rw [elf]
      by_cases co : o = b
      · subst co
        rw [if_pos rfl]
        refine ⟨c1, by omega, fun q => Or.inr ?_⟩
        show (if o = o then st else a_st A o) = 0
        rw [if_pos rfl]
        omega
      · rw [if_neg co, elv o co]
        refine ⟨c1, c2, fun q => ?_⟩
        rcases c3 q with r | r
        · exact Or.inl r
        · refine Or.inr ?_
          show (if o = b then st else a_st A o) = 0
          rw [if_neg co]
          exact r
  · obtain ⟨c1, c2, c3, c4⟩ := g2 x hx
    show a_st (a_nl A b st nm lf lv ac wa) x ≤ 3 ∧ d_lf (a_d (a_nl A b st nm lf lv ac wa)) x ≤ a_ck A + 1 ∧ (a_st (a_nl A b st nm lf lv ac wa) x = 0 → (if x = b then wa else a_wa A x) = false ∧ (if x = b then 0 else x_n (a_e A) x) = 0 ∧ (if x = b then 0 else d_ni (a_d A) x) = 0) ∧ (¬ a_st (a_nl A b st nm lf lv ac wa) x = 0 → 1 ≤ (if x = b then lv else a_lv A x) ∧ (if x = b then lv else a_lv A x) ≤ 5 ∧ (if x = b then ac else a_ac A x) ≤ 4 ∧ (if x = b then 0 else x_n (a_e A) x) ≤ 3)
    rw [est, elf]
    by_cases c : x = b
    · subst c
      simp only [if_pos]
      refine ⟨by omega, by omega, fun q => ⟨?_, trivial, trivial⟩, fun q => ?_⟩
      · rcases hc with r | r
        · exact r.2.2
        · omega
      · rcases hc with r | r
        · exact absurd r.2.1 q
        · exact ⟨r.2.2.1, r.2.2.2.1, r.2.2.2.2, by decide⟩
    · simp only [if_neg c]
      exact ⟨c1, by omega, c3, c4⟩
  · refine sv_st g4 (fun o ho q => ?_)
    rw [est, if_neg (fun c => h3 (by rw [← c]; exact q))]
    exact q
theorem wa_stp {A : sa} {b : Nat} (hb : b < 8) (h : WA A) : WA (a_stp A b) ∧ ¬ a_st (a_stp A b) b = 3 ∧ d_lf (a_d (a_stp A b)) b = d_lf (a_d A) b ∧ a_ck (a_stp A b) = a_ck A := by
  unfold a_stp
  split
  · rename_i c
    refine ⟨wa_stop hb h c, ?_, rfl, rfl⟩
    show ¬ (if b = b then 2 else a_st A b) = 3
    rw [if_pos rfl]
    decide
  · rename_i c
    exact ⟨h, c, rfl, rfl⟩
theorem wa_snu {A : sa} {ν : bh_M} (h : WA A) (hv : sv ν (a_st A) fin64) : WA (a_snu A ν) := ⟨h.1, h.2.1, h.2.2.1, hv, h.2.2.2.2⟩
theorem sv_got {ν : bh_M} {st : Nat → Nat} {P : UInt64 → Prop} (h : sv ν st P) (s b : Nat) (v : Int32) : sv (a_got ν s b v) st P := h
/-- how a call's result stands -/
def WR (A : sa) (r : sr) : Prop := WA r.2.2 ∧ a_ck r.2.2 ≤ a_ck A + 1
theorem wr_same {A : sa} {k : Nat} {v : Int32} (h : WA A) : WR A (k, v, A) := ⟨h, Nat.le_succ _⟩
theorem wr_b {A : sa} {a : Int32} {f : Nat → sr} (h : WA A) (hf : ∀ b, b < 8 → ¬ a_st A b = 0 → WR A (f b)) : WR A (o_b a A f) := by
  by_cases c : ¬ a < 0 ∧ a ≤ 7
  · obtain ⟨b, hb, rfl⟩ := i_nat (N := 7) c.1 c.2 (by decide)
    by_cases c0 : a_st A b = 0
    · rw [o_b_0 (by omega) c0]
      exact wr_same h
    · rw [o_b_in (by omega) c0]
      exact hf b (by omega) c0
  · rw [o_b_out c]
    exact wr_same h
theorem wr_c {c : Prop} [Decidable c] {A : sa} {r : sr} (h : WA A) (hr : c → WR A r) : WR A (o_c c A r) := by
  unfold o_c
  split
  · rename_i q
    exact hr q
  · exact wr_same h
theorem a_act_ck (A : sa) (b : Nat) : a_ck (a_act A b).2 = a_ck A := by
  have h1 : ∀ A, a_ck (a_actr A b).2 = a_ck A := by
    intro A
    unfold a_actr
    split
    · rfl
    · rfl
    · split <;> rfl
    · split <;> rfl
    · rfl
  have h2 : ∀ A, a_ck (a_fin A b).2 = a_ck A := by
    intro A
    unfold a_fin
    split
    · exact h1 A
    · exact h1 A
  unfold a_act
  split
  · split
    · exact h2 _
    · rfl
  · exact h2 A
theorem wr_resolve {A : sa} (h : WA A) (a : Int32) : WR A (o_resolve A a) := by
  refine wr_b h (fun b hb h0 => ?_)
  show WR A (if d_live (a_d A) b then _ else _)
  cases c : d_live (a_d A) b with
  | true =>
    rw [if_pos rfl]
    exact wr_same h
  | false =>
    rw [if_neg Bool.false_ne_true]
    have h1 : a_st A b = 1 := by
      have := (h.2.1 b hb).1
      unfold d_live at c
      rw [decide_eq_false_iff_not] at c
      have c : ¬ 2 ≤ a_st A b := c
      omega
    split
    · exact ⟨wa_res hb h h1, Nat.le_succ _⟩
    · exact ⟨wa_res hb h h1, Nat.le_succ _⟩
theorem wr_start {A : sa} (h : WA A) (a : Int32) : WR A (o_start A a) := by
  refine wr_b h (fun b hb h0 => ?_)
  have h1 : WA (a_swa A b true) := wa_swa h h0
  show WR A (if a_st A b = 3 then _ else _)
  split
  · exact ⟨h1, Nat.le_succ _⟩
  · split
    · exact ⟨h1, Nat.le_succ _⟩
    · split
      · exact ⟨wa_act hb h1 h0, by rw [a_act_ck]; exact Nat.le_succ _⟩
      · exact ⟨wa_act hb h1 h0, by rw [a_act_ck]; exact Nat.le_succ _⟩
theorem wr_stop {A : sa} (h : WA A) (a : Int32) : WR A (o_stop A a) := by
  refine wr_b h (fun b hb h0 => ?_)
  have h1 : WA (a_swa A b false) := wa_swa h h0
  refine ⟨?_, ?_⟩
  · show WA (if a_st A b = 3 then _ else _)
    split
    · rename_i c
      exact wa_stop hb h1 c
    · exact h1
  · show a_ck (if a_st A b = 3 then _ else _) ≤ _
    split
    · exact Nat.le_succ _
    · exact Nat.le_succ _
theorem a_n_eq {A : sa} (h : WA A) : bh_I (a_nu A) 40 1 34 = nI (a_n A) ∧ a_n A ≤ 20 := by
  obtain ⟨-, n, n1, n2, -⟩ := h.2.2.2.1
  have : a_n A = n := by
    unfold a_n
    rw [n2]
    exact bn_clamp (N := 21) (by omega) rfl
  rw [this]
  exact ⟨n2, n1⟩
theorem wr_register {A : sa} (h : WA A) (a k : Int32) (x : UInt64) : WR A (o_register A a k x) := by
  refine wr_c h (fun q => wr_b h (fun b hb h0 => ?_))
  show WR A (if ¬ a_st A b = 3 then _ else _)
  split
  · exact wr_same h
  · rename_i c3
    split
    · exact wr_same h
    · rename_i c20
      obtain ⟨n1, n2⟩ := a_n_eq h
      exact ⟨wa_snu h (sv_put h.2.2.2.1 n1 (by omega) hb (Decidable.of_not_not c3) (r_ok_fin q.2)), Nat.le_succ _⟩
theorem wr_get {A : sa} (h : WA A) (a k : Int32) : WR A (o_get A a k) := by
  refine wr_c h (fun q => wr_b h (fun b hb h0 => ?_))
  show WR A (if ¬ a_st A b = 3 then _ else _)
  split
  · exact wr_same h
  · split
    · exact wr_same h
    · exact ⟨wa_snu h (sv_got h.2.2.2.1 _ _ _), Nat.le_succ _⟩
theorem wr_giveBack {A : sa} (h : WA A) (a k : Int32) : WR A (o_giveBack A a k) := by
  refine wr_c h (fun q => wr_b h (fun b hb h0 => ?_))
  split
  · exact wr_same h
  · split
    · exact wr_same h
    · exact ⟨wa_snu h (sv_got h.2.2.2.1 _ _ _), Nat.le_succ _⟩
theorem wr_unregister {A : sa} (h : WA A) (a k : Int32) : WR A (o_unregister A a k) := by
  refine wr_c h (fun q => wr_b h (fun b hb h0 => ?_))
  split
  · exact wr_same h
  · rename_i s e
    split
    · obtain ⟨n1, n2⟩ := a_n_eq h
      have hs := (bh_ff_lt e).1
      exact ⟨wa_snu h (sv_drop h.2.2.2.1 n1 n2 hs), Nat.le_succ _⟩
    · exact wr_same h
theorem wr_event {A : sa} (h : WA A) : WR A (o_event A) := by
  unfold o_event
  split
  · exact wr_same h
  · refine ⟨wa_snu h ?_, Nat.le_succ _⟩
    obtain ⟨⟨k, k1, k2⟩, n, n1, n2, n3⟩ := h.2.2.2.1
    have ek : a_k A = k := by
      unfold a_k
      rw [k2]
      exact bn_clamp (N := 11) (by omega) rfl
    exact ⟨⟨a_k A - 1, by omega, rfl⟩, n, n1, n2, n3⟩
theorem wr_count {A : sa} (h : WA A) (a : Int32) : WR A (o_count A a) := by
  unfold o_count
  split
  · exact wr_same h
  · split
    · exact wr_same h
    · split
      · exact wr_same h
      · split
        · exact wr_same h
        · split
          · exact wr_same h
          · split
            · exact wr_same h
            · exact wr_same h
theorem wr_about {A : sa} (h : WA A) (a k : Int32) : WR A (o_about A a k) := by
  refine wr_c h (fun q => ?_)
  split
  · exact wr_same h
  · exact wr_same h
theorem wr_install {A : sa} (h : WA A) (a nm lv ac : Int32) : WR A (o_install A a nm lv ac) := by
  refine wr_c h (fun q => ?_)
  split
  · rename_i c
    obtain ⟨b, hb, rfl⟩ := i_nat (N := 7) c.1 c.2 (by decide)
    have s9 : ¬ lv < 0 := fun q2 => q.2.1.1 (Int32.lt_trans q2 (by decide))
    obtain ⟨i, hi, rfl⟩ := i_nat (N := 5) s9 q.2.1.2 (by decide)
    obtain ⟨j, hj, rfl⟩ := i_nat (N := 4) q.2.2.1 q.2.2.2 (by decide)
    have hi1 : 1 ≤ i := by
      cases i with
      | zero => exact absurd (show nI 0 < 1 by decide) q.2.1.1
      | succ i => omega
    rw [bn_clamp (N := 8) (by omega) rfl, bn_clamp (N := 6) (by omega) rfl, bn_clamp (N := 5) (by omega) rfl]
    split
    · exact wr_same h
    · rename_i c0
      have c0 := Decidable.of_not_not c0
      exact ⟨wa_nl (by omega) h (by rw [c0]; decide) (Or.inr ⟨rfl, rfl, hi1, hi, hj⟩), Nat.le_refl _⟩
  · exact wr_same h
theorem wr_uninstall {A : sa} (h : WA A) (a : Int32) : WR A (o_uninstall A a) := by
  refine wr_b h (fun b hb h0 => ?_)
  obtain ⟨h1, h2, h3, h4⟩ := wa_stp hb h
  refine ⟨wa_nl hb h1 h2 (Or.inl ⟨h3.symm, rfl, rfl⟩), ?_⟩
  show a_ck (a_stp A b) + 1 ≤ _
  rw [h4]
  exact Nat.le_refl _
theorem wr_update {A : sa} (h : WA A) (a : Int32) : WR A (o_update A a) := by
  refine wr_b h (fun b hb h0 => ?_)
  obtain ⟨h1, h2, h3, h4⟩ := wa_stp hb h
  obtain ⟨c1, c2, c3, c4⟩ := h.2.1 b hb
  have c4 := c4 h0
  refine ⟨wa_nl hb h1 h2 (Or.inr ⟨by rw [h3], rfl, c4.1, c4.2.1, c4.2.2.1⟩), ?_⟩
  show a_ck (a_stp A b) + 1 ≤ _
  rw [h4]
  exact Nat.le_refl _
theorem wr_export {A : sa} (h : WA A) (a x u : Int32) : WR A (o_export A a x u) := by
  refine wr_c h (fun q => wr_b h (fun b hb h0 => ?_))
  split
  · exact wr_same h
  · split
    · exact wr_same h
    · rename_i c
      refine ⟨⟨h.1, fun x hx => ?_, h.2.2.1, h.2.2.2.1, h.2.2.2.2⟩, Nat.le_succ _⟩
      obtain ⟨c1, c2, c3, c4⟩ := h.2.1 x hx
      refine ⟨c1, c2, fun q => ?_, fun q => ?_⟩
      · obtain ⟨d1, d2, d3⟩ := c3 q
        refine ⟨d1, ?_, d3⟩
        show (if x = b then x_n (a_e A) x + 1 else x_n (a_e A) x) = 0
        rw [if_neg (fun c => h0 (by rw [← c]; exact q))]
        exact d2
      · obtain ⟨d1, d2, d3, d4⟩ := c4 q
        refine ⟨d1, d2, d3, ?_⟩
        show (if x = b then x_n (a_e A) x + 1 else x_n (a_e A) x) ≤ 3
        by_cases cx : x = b
        · rw [if_pos cx]
          have : ¬ x_n (a_e A) b = 3 := fun q => c (Or.inl q)
          rw [cx] at d4 ⊢
          omega
        · rw [if_neg cx]
          exact d4
theorem wr_need {A : sa} (h : WA A) (a p lo hi : Int32) (op : Bool) : WR A (o_need A a p lo hi op) := by
  refine wr_c h (fun q => wr_b h (fun b hb h0 => ?_))
  split
  · exact wr_same h
  · split
    · exact wr_same h
    · refine ⟨⟨h.1, fun x hx => ?_, h.2.2.1, h.2.2.2.1, h.2.2.2.2⟩, Nat.le_succ _⟩
      obtain ⟨c1, c2, c3, c4⟩ := h.2.1 x hx
      refine ⟨c1, c2, fun q => ?_, c4⟩
      obtain ⟨d1, d2, d3⟩ := c3 q
      refine ⟨d1, d2, ?_⟩
      show (if x = b then d_ni (a_d A) x + 1 else d_ni (a_d A) x) = 0
      rw [if_neg (fun c => h0 (by rw [← c]; exact q))]
      exact d3
