/-! THE REFERENCE: new lives -/
theorem RM.nl {M M' : bh_M} {A : sa} {b st lf lv ac : Nat} {nm : Int32} {wa : Bool} (h : RM M A) (hb : b < 8) (hck : a_ck A < 999) (hlc : d_lf (a_d A) b ≤ a_ck A) (f0 : ∀ a, a ≠ 41 → a ≠ 42 → a ≠ 43 → a ≠ 44 → a ≠ 45 → a ≠ 46 → a ≠ 48 → a ≠ 52 → bh_I M' a = bh_I M a) (f1 : ∀ a c, 41 ≤ a → a ≤ 52 → c ≠ b → bh_I M' a 1 c = bh_I M a 1 c) (f47 : ∀ c, bh_J M' 47 1 c = if c = b then bh_J M 47 1 b + 1 else bh_J M 47 1 c) (f57 : ∀ c, bh_J M' 57 1 c = if 3 * b ≤ c ∧ c < 3 * b + 3 then -1 else bh_J M 57 1 c) (fR : M'.2.2 = M.2.2) (q41 : bh_I M' 41 1 b = nI st) (hst : st ≤ 3) (q42 : ¬ st = 0 → bh_I M' 42 1 b = nm) (q48 : bh_I M' 48 1 b = 0) (q52 : bh_I M' 52 1 b = 0) (q : ¬ st = 0 → bh_I M' 43 1 b = nI lv ∧ bh_I M' 44 1 b = nI ac ∧ bh_I M' 45 1 b = bI wa ∧ bh_I M' 46 1 b = 0) (hlf : (lf = d_lf (a_d A) b ∧ st = 0) ∨ (lf = d_lf (a_d A) b + 1 ∧ ¬ st = 0)) : RM M' (a_nl A b st nm lf lv ac wa) := by
  obtain ⟨⟨τ, h1, h2⟩, h3, h4, h5, h6, h7, h8⟩ := h
  obtain ⟨t, t1, t2, t3⟩ := h2 b hb
  have elf : ∀ o, d_lf (a_d (a_nl A b st nm lf lv ac wa)) o = if o = b then lf else d_lf (a_d A) o := fun o => rfl
  -- what it is in every case
  have mk : ∀ τ' : Nat → Nat → Nat, (∀ o l, o < 8 → l ≤ d_lf (a_d A) o → τ' o l = τ o l) → (∀ o l l', o < 8 → l ≤ d_lf (a_d (a_nl A b st nm lf lv ac wa)) o → l' ≤ d_lf (a_d (a_nl A b st nm lf lv ac wa)) o → τ' o l = τ' o l' → l = l') → (∀ o l, o < 8 → l ≤ d_lf (a_d (a_nl A b st nm lf lv ac wa)) o → τ' o l ≤ 4000) → (¬ st = 0 → τ' b lf = t + 1) → (∀ l, l ≤ lf → τ' b l ≤ t + 1) → RM M' (a_nl A b st nm lf lv ac wa) := by
    intro τ' k1 k2 k3 k4 k5
    have penc : ∀ x k, x < 8 → k < 3 → p_enc τ' (d_ip (a_d A) x k) (a_w A x k) = p_enc τ (d_ip (a_d A) x k) (a_w A x k) := by
      intro x k hx hk
      cases e : a_w A x k with
      | none => rfl
      | some ol =>
        obtain ⟨o, l⟩ := ol
        obtain ⟨g1, g2, -⟩ := ((h1.2.2 x hx).2.2.2 k hk).2 o l e
        show nJ ((τ' o l * 8 + o) * 8 + _) = nJ ((τ o l * 8 + o) * 8 + _)
        rw [k1 o l g1 g2]
    have lfm : ∀ o l, l ≤ d_lf (a_d A) o → l ≤ d_lf (a_d (a_nl A b st nm lf lv ac wa)) o := by
      intro o l hl
      rw [elf]
      by_cases c : o = b
      · rw [if_pos c]
        rw [c] at hl
        omega
      · rw [if_neg c]
        exact hl
    refine ⟨⟨τ', ⟨k2, k3, fun x hx => ?_⟩, fun x hx => ?_⟩, fun x hx qs => ?_, ?_, ?_, ?_, ?_, by rw [fR]; exact h8⟩
    · obtain ⟨y1, y2, y3, y4⟩ := h1.2.2 x hx
      by_cases c : x = b
      · subst c
        have e1 : d_st (a_d (a_nl A x st nm lf lv ac wa)) x = st := if_pos rfl
        have e2 : d_ni (a_d (a_nl A x st nm lf lv ac wa)) x = 0 := if_pos rfl
        have e3 : ∀ p, d_ver (a_d (a_nl A x st nm lf lv ac wa)) x p = none := fun p => if_pos rfl
        have e4 : d_nm (a_d (a_nl A x st nm lf lv ac wa)) x = nm := if_pos rfl
        have e5 : x_n (a_e (a_nl A x st nm lf lv ac wa)) x = 0 := if_pos rfl
        have e6 : ∀ k, a_w (a_nl A x st nm lf lv ac wa) x k = none := fun k => if_pos rfl
        rw [e1, e2, e4, e5, elf, if_pos rfl]
        refine ⟨⟨q41, hst, q42, fun qs => ?_⟩, ⟨q48, by decide, fun j hj => absurd hj (Nat.not_lt_zero _), fun j j' hj => absurd hj (Nat.not_lt_zero _), fun p hp hv => ?_, fun _ => rfl⟩, ⟨q52, by decide, fun k hk => absurd hk (Nat.not_lt_zero _), fun k k' hk => absurd hk (Nat.not_lt_zero _)⟩, fun k hk => ⟨?_, fun o l qs => ?_⟩⟩
        · rw [f47, if_pos rfl, t1, k4 qs]
          exact bj_add t 1
        · rw [e3] at hv
          cases hv
        · rw [e6, f57, if_pos (by omega)]
          rfl
        · rw [e6] at qs
          cases qs
      · have e1 : d_st (a_d (a_nl A b st nm lf lv ac wa)) x = d_st (a_d A) x := if_neg c
        have e2 : d_ni (a_d (a_nl A b st nm lf lv ac wa)) x = d_ni (a_d A) x := if_neg c
        have e3 : ∀ p, d_ver (a_d (a_nl A b st nm lf lv ac wa)) x p = d_ver (a_d A) x p := fun p => if_neg c
        have e4 : d_nm (a_d (a_nl A b st nm lf lv ac wa)) x = d_nm (a_d A) x := if_neg c
        have e5 : x_n (a_e (a_nl A b st nm lf lv ac wa)) x = x_n (a_e A) x := if_neg c
        have e6 : ∀ k, a_w (a_nl A b st nm lf lv ac wa) x k = a_w A x k := fun k => if_neg c
        rw [e1, e2, e4, e5, elf, if_neg c, f1 41 x (by decide) (by decide) c, f1 42 x (by decide) (by decide) c, f1 48 x (by decide) (by decide) c, f1 52 x (by decide) (by decide) c, f0 49 (by decide) (by decide) (by decide) (by decide) (by decide) (by decide) (by decide) (by decide), f0 50 (by decide) (by decide) (by decide) (by decide) (by decide) (by decide) (by decide) (by decide), f0 51 (by decide) (by decide) (by decide) (by decide) (by decide) (by decide) (by decide) (by decide), f0 53 (by decide) (by decide) (by decide) (by decide) (by decide) (by decide) (by decide) (by decide), f0 54 (by decide) (by decide) (by decide) (by decide) (by decide) (by decide) (by decide) (by decide), f0 55 (by decide) (by decide) (by decide) (by decide) (by decide) (by decide) (by decide) (by decide), f0 56 (by decide) (by decide) (by decide) (by decide) (by decide) (by decide) (by decide) (by decide), f47, if_neg c]
        refine ⟨⟨y1.1, y1.2.1, y1.2.2.1, fun qs => ?_⟩, ⟨y2.1, y2.2.1, fun j hj => ?_, y2.2.2.2.1, fun p hp hv => ?_, y2.2.2.2.2.2⟩, y3, fun k hk => ⟨?_, fun o l qs => ?_⟩⟩
        · rw [k1 x _ hx (Nat.le_refl _)]
          exact y1.2.2.2 qs
        · obtain ⟨z1, z2, z3, v, z4, z5⟩ := y2.2.2.1 j hj
          exact ⟨z1, z2, z3, v, (e3 _).trans z4, z5⟩
        · rw [e3] at hv
          exact y2.2.2.2.2.1 p hp hv
        · rw [e6, f57, if_neg (by omega)]
          exact (y4 k hk).1.trans (penc x k hx hk).symm
        · rw [e6] at qs
          obtain ⟨z1, z2, z3⟩ := (y4 k hk).2 o l qs
          exact ⟨z1, lfm o l z2, z3⟩
    · rw [f47, elf]
      by_cases c : x = b
      · rw [if_pos c, if_pos c, t1]
        refine ⟨t + 1, bj_add t 1, ?_, fun l hl => by rw [c]; exact k5 l hl⟩
        show t + 1 ≤ a_ck A + 1
        omega
      · rw [if_neg c, if_neg c]
        obtain ⟨t', g1, g2, g3⟩ := h2 x hx
        refine ⟨t', g1, ?_, fun l hl => by rw [k1 x l hx hl]; exact g3 l hl⟩
        show t' ≤ a_ck A + 1
        omega
    · by_cases c : x = b
      · subst c
        have e1 : a_st (a_nl A x st nm lf lv ac wa) x = st := if_pos rfl
        have e2 : a_wa (a_nl A x st nm lf lv ac wa) x = wa := if_pos rfl
        have e4 : a_lv (a_nl A x st nm lf lv ac wa) x = lv := if_pos rfl
        have e5 : a_ac (a_nl A x st nm lf lv ac wa) x = ac := if_pos rfl
        have e6 : a_hs (a_nl A x st nm lf lv ac wa) x = false := if_pos rfl
        rw [e1] at qs
        rw [e2, e4, e5, e6]
        exact q qs
      · have e1 : a_st (a_nl A b st nm lf lv ac wa) x = a_st A x := if_neg c
        have e2 : a_wa (a_nl A b st nm lf lv ac wa) x = a_wa A x := if_neg c
        have e4 : a_lv (a_nl A b st nm lf lv ac wa) x = a_lv A x := if_neg c
        have e5 : a_ac (a_nl A b st nm lf lv ac wa) x = a_ac A x := if_neg c
        have e6 : a_hs (a_nl A b st nm lf lv ac wa) x = a_hs A x := if_neg c
        rw [e1] at qs
        rw [e2, e4, e5, e6, f1 43 x (by decide) (by decide) c, f1 44 x (by decide) (by decide) c, f1 45 x (by decide) (by decide) c, f1 46 x (by decide) (by decide) c]
        exact h3 x hx qs
    · refine ⟨fun a ha => ?_, fun c c1 c2 => ?_, ?_⟩
      · rw [f0 a (by omega) (by omega) (by omega) (by omega) (by omega) (by omega) (by omega) (by omega)]
        exact h4.1 a ha
      · rw [f0 40 (by decide) (by decide) (by decide) (by decide) (by decide) (by decide) (by decide) (by decide)]
        exact h4.2.1 c c1 c2
      · rw [show bh_D M' = bh_D M from congrArg (fun q => q.1) fR]
        exact h4.2.2
    · rw [f0 40 (by decide) (by decide) (by decide) (by decide) (by decide) (by decide) (by decide) (by decide)]
      exact h5
    · rw [f0 40 (by decide) (by decide) (by decide) (by decide) (by decide) (by decide) (by decide) (by decide)]
      exact h6
    · rw [f0 40 (by decide) (by decide) (by decide) (by decide) (by decide) (by decide) (by decide) (by decide)]
      exact h7
  rcases hlf with ⟨c1, c2⟩ | ⟨c1, c2⟩
  · have elf2 : ∀ o, d_lf (a_d (a_nl A b st nm lf lv ac wa)) o = d_lf (a_d A) o := by
      intro o
      rw [elf]
      by_cases c : o = b
      · rw [if_pos c, c1, c]
      · rw [if_neg c]
    refine mk τ (fun _ _ _ _ => rfl) (fun o l l' ho hl hl' => ?_) (fun o l ho hl => ?_) (fun q => absurd c2 q) (fun l hl => ?_)
    · rw [elf2] at hl hl'
      exact h1.1 o l l' ho hl hl'
    · rw [elf2] at hl
      exact h1.2.1 o l ho hl
    · have := t3 l (by omega)
      omega
  · have key : ∀ o l, o < 8 → l ≤ d_lf (a_d A) o → (if o = b ∧ l = lf then t + 1 else τ o l) = τ o l := by
      intro o l ho hl
      rw [if_neg (fun q => by have := q.1; subst this; omega)]
    refine mk (fun o l => if o = b ∧ l = lf then t + 1 else τ o l) key (fun o l l' ho hl hl' hq => ?_) (fun o l ho hl => ?_) (fun _ => if_pos ⟨rfl, rfl⟩) (fun l hl => ?_)
    · rw [elf] at hl hl'
      have hq : (if o = b ∧ l = lf then t + 1 else τ o l) = if o = b ∧ l' = lf then t + 1 else τ o l' := hq
      by_cases c : o = b
      · subst c
        rw [if_pos rfl] at hl hl'
        by_cases d1 : l = lf
        · by_cases d2 : l' = lf
          · omega
          · rw [if_pos ⟨rfl, d1⟩, if_neg (fun q => d2 q.2)] at hq
            have := t3 l' (by omega)
            omega
        · by_cases d2 : l' = lf
          · rw [if_neg (fun q => d1 q.2), if_pos ⟨rfl, d2⟩] at hq
            have := t3 l (by omega)
            omega
          · rw [if_neg (fun q => d1 q.2), if_neg (fun q => d2 q.2)] at hq
            exact h1.1 o l l' ho (by omega) (by omega) hq
      · rw [if_neg c] at hl hl'
        rw [if_neg (fun q => c q.1), if_neg (fun q => c q.1)] at hq
        exact h1.1 o l l' ho hl hl' hq
    · rw [elf] at hl
      show (if o = b ∧ l = lf then t + 1 else τ o l) ≤ 4000
      by_cases c : o = b ∧ l = lf
      · rw [if_pos c]
        omega
      · rw [if_neg c]
        refine h1.2.1 o l ho ?_
        by_cases c3 : o = b
        · rw [if_pos c3] at hl
          rw [c3]
          have : ¬ l = lf := fun q => c ⟨c3, q⟩
          omega
        · rw [if_neg c3] at hl
          exact hl
    · show (if b = b ∧ l = lf then t + 1 else τ b l) ≤ t + 1
      by_cases c : l = lf
      · rw [if_pos ⟨rfl, c⟩]
        omega
      · rw [if_neg (fun q => c q.2)]
        have := t3 l (by omega)
        omega
