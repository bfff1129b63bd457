/-! WHAT HOLDS OF THE STATE between and in calls -/
theorem sp_note_37 {ν : bh_M} {x : Int32} {k : Nat} (hk : k ≤ 10) (h : bh_I ν 40 1 37 = nI k) : ∃ k', k' ≤ 10 ∧ bh_I (sp_note ν x) 40 1 37 = nI k' := by
  unfold sp_note
  by_cases c : bh_I ν 40 1 37 = 10
  · rw [if_pos c]
    exact ⟨k, hk, h⟩
  · rw [if_neg c]
    refine ⟨k + 1, ?_, ?_⟩
    · have : ¬ k = 10 := fun q => c (by rw [h, q]; rfl)
      omega
    · show bh_I ν 40 1 37 + 1 = nI (k + 1)
      rw [h]
      exact bn_add k 1
theorem sp_note_D (ν : bh_M) (x : Int32) : bh_D (sp_note ν x) = bh_D ν := congrArg (fun q => q.2.1) (sp_note_st ν x)
theorem sv_note {ν : bh_M} {st : Nat → Nat} {P : UInt64 → Prop} (h : sv ν st P) (x : Int32) : sv (sp_note ν x) st P := by
  obtain ⟨⟨k, k1, k2⟩, n, n1, n2, n3⟩ := h
  refine ⟨sp_note_37 k1 k2, n, n1, sp_note_34 n2, fun i hi => ?_⟩
  rw [sp_note_65 ν x 66 1 i (by decide) (by decide), sp_note_D]
  exact n3 i hi
theorem sv_put {ν : bh_M} {st : Nat → Nat} {P : UInt64 → Prop} {n b : Nat} {k : Int32} {r : UInt64} (h : sv ν st P) (hn : bh_I ν 40 1 34 = nI n) (hn2 : n < 20) (hb : b < 8) (hs : st b = 3) (hr : P r) : sv (sp_put ν n (nI b) k r) st P := by
  obtain ⟨⟨k', k1, k2⟩, n', n1, n2, n3⟩ := h
  have : n' = n := (bn_inj (by omega) (by omega)).mp (n2.symm.trans hn)
  subst this
  unfold sp_put
  refine sv_note ?_ _
  refine ⟨⟨k', k1, k2⟩, n' + 1, by omega, ?_, fun i hi => ?_⟩
  · show bh_I ν 40 1 34 + 1 = nI (n' + 1)
    rw [hn]
    exact bn_add n' 1
  · show (∃ o, o < 8 ∧ (if 66 = 67 ∧ 1 = 1 ∧ i = n' then k else if 66 = 66 ∧ 1 = 1 ∧ i = n' then nI b else if 66 = 65 ∧ 1 = 1 ∧ i = n' then bh_I ν 40 1 35 else bh_I ν 66 1 i) = nI o ∧ st o = 3) ∧ P (if 68 = 68 ∧ 1 = 1 ∧ i = n' then r else bh_D ν 68 1 i)
    by_cases c : i = n'
    · rw [if_neg (fun q => absurd q.1 (by decide)), if_pos ⟨rfl, rfl, c⟩, if_pos ⟨rfl, rfl, c⟩]
      exact ⟨⟨b, hb, rfl, hs⟩, hr⟩
    · rw [if_neg (fun q => c q.2.2), if_neg (fun q => c q.2.2), if_neg (fun q => c q.2.2), if_neg (fun q => c q.2.2)]
      exact n3 i (by omega)
theorem sp_drop_66 (μ : bh_M) (s m i : Nat) : bh_I (sp_drop μ s m) 66 1 i = if s ≤ i ∧ i < m then bh_I μ 66 1 (i + 1) else bh_I μ 66 1 i := by
  have e : ∀ c, bh_I (bh_sI (sp_note μ (400 + (bh_I μ 65 1 s - bh_I μ 65 1 s / 100 * 100))) 40 1 34 (nI m)) 66 1 c = bh_I μ 66 1 c := fun c => (bh_I_tag (by decide)).trans (sp_note_65 _ _ 66 1 c (by decide) (by decide))
  show (if (66 = 65 ∨ 66 = 66 ∨ 66 = 67) ∧ 1 = 1 ∧ s ≤ i ∧ i < m then bh_I (bh_sI (sp_note μ (400 + (bh_I μ 65 1 s - bh_I μ 65 1 s / 100 * 100))) 40 1 34 (nI m)) 66 1 (i + 1) else if 66 = 69 ∧ 1 = 1 ∧ 8 * s ≤ i ∧ i < 8 * m then _ else bh_I (bh_sI (sp_note μ (400 + (bh_I μ 65 1 s - bh_I μ 65 1 s / 100 * 100))) 40 1 34 (nI m)) 66 1 i) = _
  rw [e, e]
  by_cases c : s ≤ i ∧ i < m
  · rw [if_pos ⟨by decide, rfl, c⟩, if_pos c]
  · rw [if_neg (fun q => c q.2.2), if_neg (fun q => absurd q.1 (by decide)), if_neg c]
theorem sp_drop_68 (μ : bh_M) (s m i : Nat) : bh_D (sp_drop μ s m) 68 1 i = if s ≤ i ∧ i < m then bh_D μ 68 1 (i + 1) else bh_D μ 68 1 i := by
  have e : bh_D (bh_sI (sp_note μ (400 + (bh_I μ 65 1 s - bh_I μ 65 1 s / 100 * 100))) 40 1 34 (nI m)) = bh_D μ := sp_note_D _ _
  show (if 68 = 68 ∧ 1 = 1 ∧ s ≤ i ∧ i < m then bh_D (bh_sI (sp_note μ (400 + (bh_I μ 65 1 s - bh_I μ 65 1 s / 100 * 100))) 40 1 34 (nI m)) 68 1 (i + 1) else bh_D (bh_sI (sp_note μ (400 + (bh_I μ 65 1 s - bh_I μ 65 1 s / 100 * 100))) 40 1 34 (nI m)) 68 1 i) = _
  rw [e]
  by_cases c : s ≤ i ∧ i < m
  · rw [if_pos ⟨rfl, rfl, c⟩, if_pos c]
  · rw [if_neg (fun q => c q.2.2), if_neg c]
theorem sp_drop_37 {μ : bh_M} {s m k : Nat} (hk : k ≤ 10) (h : bh_I μ 40 1 37 = nI k) : ∃ k', k' ≤ 10 ∧ bh_I (sp_drop μ s m) 40 1 37 = nI k' := sp_note_37 (x := 400 + (bh_I μ 65 1 s - bh_I μ 65 1 s / 100 * 100)) hk h
theorem sv_drop {ν : bh_M} {st : Nat → Nat} {P : UInt64 → Prop} {n s : Nat} (h : sv ν st P) (hn : bh_I ν 40 1 34 = nI n) (hn2 : n ≤ 20) (hs : s < n) : sv (sp_drop ν s (n - 1)) st P := by
  obtain ⟨⟨k', k1, k2⟩, n', n1, n2, n3⟩ := h
  have : n' = n := (bn_inj (by omega) (by omega)).mp (n2.symm.trans hn)
  subst this
  refine ⟨sp_drop_37 k1 k2, n' - 1, by omega, rfl, fun i hi => ?_⟩
  rw [sp_drop_66, sp_drop_68]
  by_cases c : s ≤ i ∧ i < n' - 1
  · rw [if_pos c, if_pos c]
    exact n3 (i + 1) (by omega)
  · rw [if_neg c, if_neg c]
    exact n3 i (by omega)
theorem sv_sweep {b : Nat} (hb : b < 8) {st : Nat → Nat} {P : UInt64 → Prop} : ∀ (k : Nat) (ν : bh_M) (s : Nat), s + k ≤ 20 → bh_I ν 40 1 34 = nI (s + k) → sv ν st P → (∀ i, i < s → ¬ bh_I ν 66 1 i = nI b) → ∃ n, n ≤ 20 ∧ bh_I (sp_sweep b k ν s) 40 1 34 = nI n ∧ sv (sp_sweep b k ν s) st P ∧ ∀ i, i < n → ¬ bh_I (sp_sweep b k ν s) 66 1 i = nI b
  | 0, ν, s, h1, h2, h3, h4 => ⟨s, h1, h2, h3, h4⟩
  | k + 1, ν, s, h1, h2, h3, h4 => by
    unfold sp_sweep
    by_cases c : bh_I ν 66 1 s = nI b
    · rw [if_pos c]
      have e := sv_drop h3 h2 h1 (show s < s + (k + 1) by omega)
      rw [show s + (k + 1) - 1 = s + k by omega] at e
      refine sv_sweep hb k _ s (by omega) rfl e (fun i hi => ?_)
      rw [sp_drop_66, if_neg (by omega)]
      exact h4 i hi
    · rw [if_neg c]
      refine sv_sweep hb k _ (s + 1) (by omega) (by rw [h2]; congr 1; omega) h3 (fun i hi => ?_)
      by_cases d : i = s
      · rw [d]
        exact c
      · exact h4 i (by omega)
theorem sv_stop {ν : bh_M} {b : Nat} {st st' : Nat → Nat} {P : UInt64 → Prop} (hb : b < 8) (h : sv ν st P) (hst : ∀ o, ¬ o = b → st o = 3 → st' o = 3) : sv (sp_stop ν b) st' P := by
  obtain ⟨⟨k', k1, k2⟩, n', n1, n2, n3⟩ := id h
  have en : (bh_I ν 40 1 34).toNatClampNeg = n' := by
    rw [n2]
    exact bn_clamp (N := 21) (by omega) rfl
  obtain ⟨n, m1, m2, m3, m4⟩ := sv_sweep hb n' ν 0 (by omega) (by rw [n2]; congr 1; omega) h (fun i hi => absurd hi (Nat.not_lt_zero _))
  obtain ⟨⟨k'', l1, l2⟩, n'', p1, p2, p3⟩ := m3
  have : n'' = n := (bn_inj (by omega) (by omega)).mp (p2.symm.trans m2)
  subst this
  unfold sp_stop
  rw [en]
  refine sv_note ?_ _
  refine ⟨⟨k'', l1, l2⟩, n'', p1, p2, fun i hi => ?_⟩
  obtain ⟨⟨o, o1, o2, o3⟩, o4⟩ := p3 i hi
  refine ⟨⟨o, o1, o2, hst o (fun q => m4 i hi ?_) o3⟩, o4⟩
  rw [o2, q]
theorem wa_stop {A : sa} {b : Nat} (hb : b < 8) (h : WA A) (h3 : a_st A b = 3) : WA (a_stop A b) := by
  obtain ⟨h1, h2, hf, h4, h5⟩ := h
  have est : ∀ x, a_st (a_stop A b) x = if x = b then 2 else a_st A x := fun _ => rfl
  have elv : ∀ x, d_live (a_d (a_stop A b)) x = d_live (a_d A) x := by
    intro x
    show decide (2 ≤ if x = b then 2 else a_st A x) = decide (2 ≤ a_st A x)
    by_cases c : x = b
    · rw [if_pos c, c, h3]
      decide
    · rw [if_neg c]
  refine ⟨⟨fun x k hx hl => h1.1 x k hx (by rw [← elv]; exact hl), fun x k o l hx hw => ?_⟩, fun x hx => ?_, hf, ?_, h5⟩
  · obtain ⟨c1, c2, c3⟩ := h1.2 x k o l hx hw
    refine ⟨c1, c2, fun q => ?_⟩
    rw [elv]
    rcases c3 q with c | c
    · exact Or.inl c
    · refine Or.inr ?_
      show (if o = b then 2 else a_st A o) = 0
      rw [if_neg (fun q => by rw [q] at c; have c : a_st A b = 0 := c; omega)]
      exact c
  · obtain ⟨c1, c2, c3, c4⟩ := h2 x hx
    rw [est]
    by_cases c : x = b
    · rw [if_pos c]
      exact ⟨by decide, c2, fun q => absurd q (by decide), fun _ => c4 (by rw [c, h3]; decide)⟩
    · rw [if_neg c]
      exact ⟨c1, c2, c3, c4⟩
  · exact sv_stop hb h4 (fun o ho q => by rw [est, if_neg ho]; exact q)
theorem wa_swa {A : sa} {b : Nat} {v : Bool} (h : WA A) (h0 : ¬ a_st A b = 0) : WA (a_swa A b v) := by
  obtain ⟨h1, h2, hf, h4, h5⟩ := h
  refine ⟨h1, fun x hx => ?_, hf, h4, h5⟩
  obtain ⟨c1, c2, c3, c4⟩ := h2 x hx
  refine ⟨c1, c2, fun q => ⟨?_, (c3 q).2⟩, c4⟩
  show (if x = b then v else a_wa A x) = false
  rw [if_neg (fun c => h0 (by rw [← c]; exact q))]
  exact (c3 q).1
theorem sv_st {ν : bh_M} {st st' : Nat → Nat} {P : UInt64 → Prop} (h : sv ν st P) (hst : ∀ o, o < 8 → st o = 3 → st' o = 3) : sv ν st' P := by
  obtain ⟨k, n, n1, n2, n3⟩ := h
  refine ⟨k, n, n1, n2, fun i hi => ?_⟩
  obtain ⟨⟨o, o1, o2, o3⟩, o4⟩ := n3 i hi
  exact ⟨⟨o, o1, o2, hst o o1 o3⟩, o4⟩
theorem wa_res {A : sa} {b : Nat} (hb : b < 8) (h : WA A) (h1 : a_st A b = 1) : WA (a_res A (d_run (a_d A) (a_w A) b)) := by
  obtain ⟨g1, g2, gf, g4, g5⟩ := h
  have hst3 : ∀ o, o < 8 → d_st (a_d A) o ≤ 3 := fun o ho => (g2 o ho).1
  obtain ⟨k1, k2, k3, k4, k5⟩ := d_run_ok hb h1 hst3 g1
  have est : a_st (a_res A (d_run (a_d A) (a_w A) b)) = d_st (d_run (a_d A) (a_w A) b).2.1 := rfl
  have elf : d_lf (a_d (a_res A (d_run (a_d A) (a_w A) b))) = d_lf (a_d A) := congrArg (fun q : (Nat → Int32) × (Nat → Nat → Option Nat) × (Nat → Nat → Int32) × (Nat → Nat) × (Nat → Nat → Nat) × (Nat → Nat → Nat) × (Nat → Nat → Nat) × (Nat → Nat → Bool) × (Nat → Nat) => q.2.2.2.2.2.2.2.2) k2
  have eni : d_ni (a_d (a_res A (d_run (a_d A) (a_w A) b))) = d_ni (a_d A) := congrArg (fun q : (Nat → Int32) × (Nat → Nat → Option Nat) × (Nat → Nat → Int32) × (Nat → Nat) × (Nat → Nat → Nat) × (Nat → Nat → Nat) × (Nat → Nat → Nat) × (Nat → Nat → Bool) × (Nat → Nat) => q.2.2.2.1) k2
  refine ⟨k1, fun x hx => ?_, gf, ?_, k5⟩
  · obtain ⟨c1, c2, c3, c4⟩ := g2 x hx
    have hz := d_run_st0 hb h1 hst3 g1 hx
    rw [est, elf, eni]
    refine ⟨?_, c2, fun q => c3 (hz.mp q), fun q => c4 (fun c => q (hz.mpr c))⟩
    rcases k3 x hx with q | q
    · rw [q]
      exact c1
    · omega
  · refine sv_st g4 (fun o ho q => ?_)
    rw [est]
    rcases k3 o ho with c | c
    · rw [c]
      exact q
    · have c := c.1
      have q : d_st (a_d A) o = 3 := q
      omega
theorem fin64_of {x : UInt64} (h : (match FP.Core.decode FP.Core.b64 x.toNat with
    | .fin _ _ _ => true
    | _ => false) = true) : fin64 x := by
  unfold fin64
  cases e : FP.Core.decode FP.Core.b64 x.toNat with
  | nan =>
    rw [e] at h
    cases h
  | inf s =>
    rw [e] at h
    cases h
  | fin s c q => exact ⟨s, c, q, rfl⟩
theorem fin_i2d : ∀ b, b < 8 → fin64 (FP.i2d (nI b)) := by
  intro b hb
  have hbs : b = 0 ∨ b = 1 ∨ b = 2 ∨ b = 3 ∨ b = 4 ∨ b = 5 ∨ b = 6 ∨ b = 7 := by omega
  rcases hbs with rfl | rfl | rfl | rfl | rfl | rfl | rfl | rfl <;> exact fin64_of (by decide +kernel)
theorem wa_actr {A : sa} {b : Nat} (hb : b < 8) (h : WA A) (h0 : ¬ a_st A b = 0) (hr : (a_actr A b).1 = true) : WA (a_done (a_actr A b).2 b) := by
  obtain ⟨g1, g2, gf, g4, g5⟩ := h
  have hst' : ∀ o, (if o = b then 3 else a_st A o) = 3 ∨ ¬ o = b := by
    intro o
    by_cases c : o = b
    · exact Or.inl (if_pos c)
    · exact Or.inr c
  have g4' : sv (a_nu A) (fun o => if o = b then 3 else a_st A o) fin64 := sv_st g4 (fun o ho q => by
    show (if o = b then 3 else a_st A o) = 3
    by_cases c : o = b
    · rw [if_pos c]
    · rw [if_neg c]
      exact q)
  have key : ∀ ν, sv ν (fun o => if o = b then 3 else a_st A o) fin64 → WA (a_done (a_snu A ν) b) := by
    intro ν hv
    have elv : ∀ x, d_live (a_d A) x = true → d_live (d_sst (a_d A) b 3) x = true := by
      intro x q
      show decide (2 ≤ if x = b then 3 else a_st A x) = true
      by_cases c : x = b
      · rw [if_pos c]
        rfl
      · rw [if_neg c]
        exact q
    refine ⟨⟨fun x k hx hl => ?_, fun x k o l hx hw => ?_⟩, fun x hx => ?_, gf, sv_note hv _, g5⟩
    · refine g1.1 x k hx ?_
      cases c : d_live (a_d A) x with
      | false => rfl
      | true =>
        have := elv x c
        have hl : d_live (d_sst (a_d A) b 3) x = false := hl
        rw [this] at hl
        cases hl
    · obtain ⟨c1, c2, c3⟩ := g1.2 x k o l hx hw
      refine ⟨c1, c2, fun q => ?_⟩
      rcases c3 q with c | c
      · exact Or.inl (elv o c)
      · refine Or.inr ?_
        show (if o = b then 3 else a_st A o) = 0
        rw [if_neg (fun q => by rw [q] at c; exact h0 c)]
        exact c
    · obtain ⟨c1, c2, c3, c4⟩ := g2 x hx
      have est : a_st (a_done (a_snu A ν) b) x = if x = b then 3 else a_st A x := rfl
      rw [est]
      by_cases c : x = b
      · rw [if_pos c]
        exact ⟨by decide, c2, fun q => absurd q (by decide), fun _ => c4 (by rw [c]; exact h0)⟩
      · rw [if_neg c]
        exact ⟨c1, c2, c3, c4⟩
  have kA : WA (a_done A b) := key (a_nu A) g4'
  unfold a_actr at hr ⊢
  split
  · exact kA
  · exact kA
  · split
    · exact kA
    · rename_i c
      obtain ⟨-, n, n1, n2, -⟩ := g4
      have en : a_n A = n := by
        unfold a_n
        rw [n2]
        exact bn_clamp (N := 21) (by omega) rfl
      rw [en] at c ⊢
      exact key _ (sv_put g4' n2 (by omega) hb (if_pos rfl) (fin_i2d b hb))
  · split
    · exact kA
    · exact key _ g4'
  · exact kA
theorem wa_actf {A : sa} {b : Nat} (h : WA A) (hr : (a_actr A b).1 = false) : WA (a_actr A b).2 := by
  unfold a_actr at hr ⊢
  split
  · exact h
  · exact h
  · split
    · exact h
    · rename_i c1 c2
      rw [c1] at hr
      have hr : (if a_n A = 20 then (false, A) else (true, a_snu A (sp_put (a_nu A) (a_n A) (nI b) 0 (FP.i2d (nI b))))).1 = false := hr
      rw [if_neg c2] at hr
      cases hr
  · split
    · exact h
    · rename_i c1 _ s c2
      rw [c1] at hr
      have hr : (match a_best (a_nu A) 0 with
        | none => (false, A)
        | some s => (true, a_snu A (a_got (a_nu A) s b (bh_I (a_nu A) 69 1 (8 * s + b) + 1)))).1 = false := hr
      rw [c2] at hr
      cases hr
  · exact h
theorem wa_fin {A : sa} {b : Nat} (hb : b < 8) (h : WA A) (h0 : ¬ a_st A b = 0) : WA (a_fin A b).2 := by
  unfold a_fin
  cases e : (a_actr A b).1 with
  | true =>
    rw [if_pos rfl]
    exact wa_actr hb h h0 e
  | false =>
    rw [if_neg Bool.false_ne_true]
    exact wa_actf h e
theorem wa_act {A : sa} {b : Nat} (hb : b < 8) (h : WA A) (h0 : ¬ a_st A b = 0) : WA (a_act A b).2 := by
  unfold a_act
  split
  · rename_i c
    have h2 := wa_res hb h c
    split
    · refine wa_fin hb h2 (fun q => ?_)
      exact h0 ((d_run_st0 hb c (fun o ho => (h.2.1 o ho).1) h.1 hb).mp q)
    · exact h2
  · exact wa_fin hb h h0
