/-! THE REFERENCE: resolving; what resolving keeps -/
def sL (d : sd) (s : ss) : Prop := ∀ b k o l, b < 8 → s.2.1 b = true → s.1 b k = some (o, l) → o < 8 ∧ l = d_lf d o ∧ (d_live d o = true ∨ s.2.1 o = true) ∧ (d_ver d o (d_ip d b k)).isSome = true
theorem d_key_st {d : sd} {b k o x : Nat} (h : d_key d b k o = some x) : ¬ d_st d o = 0 := by
  intro c
  unfold d_key at h
  rw [if_pos c] at h
  cases h
theorem sL_step {d : sd} {s : ss} {t b k x : Nat} (h : sI d s t) (hst3 : ∀ o, o < 8 → d_st d o ≤ 3) (hL : sL d s) (ht : s.2.2[t]? = some (b, k)) (hx : x ∈ d_cand d s.2.1 false b k) : sL d (d_step d s b k (x % 8)) := by
  intro b' k' o l hb8 hb' hw
  obtain ⟨x1, x2, x3⟩ := d_cand_mem.mp hx
  have hv := d_cand_ver hx
  have h0 := d_key_st x2
  have es1 : (d_step d s b k (x % 8)).1 = d_set s.1 b k (some (x % 8, d_lf d (x % 8))) := by
    unfold d_step
    split <;> rfl
  have eT : ∀ y, (d_step d s b k (x % 8)).2.1 y = (s.2.1 y || (d_new d s (x % 8) && decide (y = x % 8))) := by
    intro y
    unfold d_step
    cases hn : d_new d s (x % 8) with
    | true =>
      rw [if_pos rfl]
      show (if y = x % 8 then true else s.2.1 y) = _
      by_cases c : y = x % 8
      · rw [if_pos c, decide_eq_true c, Bool.true_and, Bool.or_true]
      · rw [if_neg c, decide_eq_false c, Bool.and_false, Bool.or_false]
    | false =>
      rw [if_neg Bool.false_ne_true, Bool.false_and, Bool.or_false]
  rw [es1] at hw
  unfold d_set at hw
  by_cases c : b' = b ∧ k' = k
  · rw [if_pos c] at hw
    cases hw
    rw [c.1, c.2]
    refine ⟨Nat.mod_lt _ (by decide), rfl, ?_, hv⟩
    cases hl : d_live d (x % 8) with
    | true => exact Or.inl rfl
    | false =>
      refine Or.inr ?_
      rw [eT, decide_eq_true rfl, Bool.and_true]
      have h1 : d_st d (x % 8) = 1 := by
        unfold d_live at hl
        rw [decide_eq_false_iff_not] at hl
        omega
      unfold d_new
      rw [decide_eq_true h1]
      cases s.2.1 (x % 8) <;> rfl
  · rw [if_neg c] at hw
    rw [eT, Bool.or_eq_true] at hb'
    have hTb : s.2.1 b' = true := by
      rcases hb' with q | q
      · exact q
      · rw [Bool.and_eq_true, decide_eq_true_eq] at q
        obtain ⟨q1, q2⟩ := q
        unfold d_new at q1
        rw [Bool.and_eq_true, decide_eq_true_eq] at q1
        rw [← q2] at q1
        cases hT : s.2.1 b' with
        | true => rfl
        | false =>
          rw [h.2.2.2.2.2 b' k' hb8 q1.1 hT] at hw
          cases hw
    obtain ⟨a1, a2, a3, a4⟩ := hL b' k' o l hb8 hTb hw
    refine ⟨a1, a2, ?_, a4⟩
    rcases a3 with a3 | a3
    · exact Or.inl a3
    · exact Or.inr (by rw [eT, a3, Bool.true_or])
theorem d_try_L {d : sd} {rec : ss → Nat → Option ss × Nat} {s : ss} {t b k : Nat} (h : sI d s t) (hst3 : ∀ o, o < 8 → d_st d o ≤ 3) (hL : sL d s) (ht : s.2.2[t]? = some (b, k)) (hrec : ∀ s1 n s' n', sI d s1 (t + 1) → sL d s1 → rec s1 n = (some s', n') → sL d s') : ∀ (xs : List Nat) (n : Nat) (s' : ss) (n' : Nat), (∀ x ∈ xs, x ∈ d_cand d s.2.1 false b k) → d_try d rec s b k xs n = (some s', n') → sL d s'
  | [], n, s', n', _, e => by
    unfold d_try at e
    cases e
  | x :: xs, n, s', n', hx, e => by
    unfold d_try at e
    split at e
    · cases e
    · split at e
      · exact d_try_L h hst3 hL ht hrec xs _ s' n' (fun y hy => hx y (List.mem_cons_of_mem _ hy)) e
      · split at e
        · rename_i f n2 e2
          cases e
          exact hrec _ _ _ _ (sI_step h ht (Nat.mod_lt _ (by decide)) (d_cand_ver (hx x List.mem_cons_self))) (sL_step h hst3 hL ht (hx x List.mem_cons_self)) e2
        · split at e
          · cases e
          · exact d_try_L h hst3 hL ht hrec xs _ s' n' (fun y hy => hx y (List.mem_cons_of_mem _ hy)) e
theorem d_dfs_L {d : sd} (hst3 : ∀ o, o < 8 → d_st d o ≤ 3) : ∀ (f : Nat) (s : ss) (t n : Nat) (s' : ss) (n' : Nat), sI d s t → sL d s → d_dfs d f s t n = (some s', n') → sL d s'
  | 0, s, t, n, s', n', _, _, e => by
    unfold d_dfs at e
    cases e
  | f + 1, s, t, n, s', n', h, hL, e => by
    unfold d_dfs at e
    split at e
    · cases e
      exact hL
    · rename_i b k e2
      exact d_try_L h hst3 hL e2 (fun s1 n1 s2 n2 h1 h2 e3 => d_dfs_L hst3 f s1 (t + 1) n1 s2 n2 h1 h2 e3) _ n s' n' (fun x hx => hx) e
theorem d_tk_r {r x : Nat} (hx : d_tk (fun _ => false) r true x = true) : x = r := by
  unfold d_tk at hx
  by_cases c : x = r
  · exact c
  · rw [if_neg c] at hx
    cases hx
theorem sI_0 {d : sd} {w : sw} {r : Nat} (hr : r < 8) (hst : d_st d r = 1) (hw0 : ∀ b k, b < 8 → d_st d b = 1 → w b k = none) : sI d (w, d_tk (fun _ => false) r true, d_tasks d r) 0 ∧ sJ d (w, d_tk (fun _ => false) r true, d_tasks d r) ∧ sL d (w, d_tk (fun _ => false) r true, d_tasks d r) := by
  have htr : d_tk (fun _ => false) r true r = true := by
    unfold d_tk
    rw [if_pos rfl]
  refine ⟨⟨fun o ho => ?_, fun b k o l hb hT hk hw => ?_, fun q hq => ?_, d_tasks_nodup d r, fun i q _ hq => ?_, fun b k hb hst9 _ => hw0 b k hb hst9⟩, fun q hq => ?_, fun b k o l hb hT hw => ?_⟩
  · rw [d_tk_r ho]
    exact ⟨hr, hst⟩
  · have := d_tk_r hT
    subst this
    have hw : w b k = some (o, l) := hw
    rw [hw0 b k hb hst] at hw
    cases hw
  · obtain ⟨a1, a2, -⟩ := d_tasks_mem hq
    rw [a1]
    exact ⟨hr, htr, a2⟩
  · have a1 := (d_tasks_mem (List.mem_of_getElem? hq)).1
    exact hw0 q.1 q.2 (by rw [a1]; exact hr) (by rw [a1]; exact hst)
  · obtain ⟨a1, -, a3⟩ := d_tasks_mem hq
    rw [a1]
    exact a3
  · have := d_tk_r hT
    subst this
    have hw : w b k = some (o, l) := hw
    rw [hw0 b k hb hst] at hw
    cases hw
/-- the wires as they stand between calls -/
def d_ok (d : sd) (w : sw) : Prop := (∀ b k, b < 8 → d_live d b = false → w b k = none) ∧ ∀ b k o l, b < 8 → w b k = some (o, l) → o < 8 ∧ l ≤ d_lf d o ∧ (l = d_lf d o → d_live d o = true ∨ d_st d o = 0)
theorem d_live_1 {d : sd} {b : Nat} (h : d_st d b = 1) : d_live d b = false := by
  unfold d_live
  rw [h]
  rfl
theorem d_ok.wok {d : sd} {w : sw} (h : d_ok d w) : d_wok d w := fun b k o l hb hw => ⟨(h.2 b k o l hb hw).1, (h.2 b k o l hb hw).2.1⟩
/-- what the search found, before the optional imports -/
theorem d_dfs_ok {d : sd} {w : sw} {r n : Nat} {s : ss} (hr : r < 8) (hst : d_st d r = 1) (hst3 : ∀ o, o < 8 → d_st d o ≤ 3) (hok : d_ok d w) (e : d_dfs d 25 (w, d_tk (fun _ => false) r true, d_tasks d r) 0 0 = (some s, n)) : (∃ t, sI d s t) ∧ sJ d s ∧ d_wok d s.1 ∧ d_wl (d_res d s.2.1) s.2.1 s.1 ∧ (∀ b k, b < 8 → s.2.1 b = false → s.1 b k = w b k) ∧ (∀ b k, b < 8 → s.2.1 b = true → d_op d b k = true → s.1 b k = none) := by
  obtain ⟨a1, a2, a3⟩ := sI_0 hr hst (fun b k hb h1 => hok.1 b k hb (d_live_1 h1))
  obtain ⟨⟨t, k1⟩, k2, k3⟩ := d_dfs_K 25 _ 0 0 s n a1 a2 e
  have k4 := d_dfs_L hst3 25 _ 0 0 s n a1 a3 e
  have out : ∀ b k, b < 8 → s.2.1 b = false → s.1 b k = w b k := by
    intro b k hb hT
    by_cases c : d_st d b = 1
    · rw [k1.2.2.2.2.2 b k hb c hT, hok.1 b k hb (d_live_1 c)]
    · exact k3 b k (Or.inr c)
  refine ⟨⟨t, k1⟩, k2, fun b k o l hb hw => ?_, fun b k o l hb hT hw => ?_, out, fun b k hb hT ho => ?_⟩
  · cases hT : s.2.1 b with
    | true =>
      obtain ⟨b1, b2, -⟩ := k4 b k o l hb hT hw
      exact ⟨b1, by omega⟩
    | false =>
      rw [out b k hb hT] at hw
      exact hok.wok b k o l hb hw
  · obtain ⟨b1, b2, b3, b4⟩ := k4 b k o l hb hT hw
    refine ⟨b1, b2, ?_, b4⟩
    unfold d_live
    show decide (2 ≤ if s.2.1 o = true then 2 else d.1 o) = true
    rcases b3 with b3 | b3
    · cases s.2.1 o with
      | true => rfl
      | false => exact b3
    · rw [b3]
      rfl
  · rw [k3 b k (Or.inl ho)]
    exact hok.1 b k hb (d_live_1 (k1.1 b hT).2)
theorem d_dfs_T {d : sd} {s s' : ss} : ∀ (f t n n' : Nat), d_dfs d f s t n = (some s', n') → ∀ b, s.2.1 b = true → s'.2.1 b = true := by
  intro f
  induction f generalizing s with
  | zero =>
    intro t n n' e
    unfold d_dfs at e
    cases e
  | succ f ih =>
    intro t n n' e b hb
    unfold d_dfs at e
    split at e
    · cases e
      exact hb
    · rename_i b0 k0 e2
      have key : ∀ (xs : List Nat) (n n' : Nat), d_try d (fun s' n' => d_dfs d f s' (t + 1) n') s b0 k0 xs n = (some s', n') → s'.2.1 b = true := by
        intro xs
        induction xs with
        | nil =>
          intro n n' e
          unfold d_try at e
          cases e
        | cons x xs ihx =>
          intro n n' e
          unfold d_try at e
          split at e
          · cases e
          · split at e
            · exact ihx _ _ e
            · split at e
              · rename_i g n2 e3
                cases e
                refine ih _ _ _ e3 b ?_
                unfold d_step
                split
                · show (if b = x % 8 then true else s.2.1 b) = true
                  split
                  · rfl
                  · exact hb
                · exact hb
              · split at e
                · cases e
                · exact ihx _ _ e
      exact key _ _ _ e
/-- what resolving keeps -/
theorem d_run_ok {d : sd} {w : sw} {r : Nat} (hr : r < 8) (hst : d_st d r = 1) (hst3 : ∀ o, o < 8 → d_st d o ≤ 3) (hok : d_ok d w) : d_ok (d_run d w r).2.1 (d_run d w r).2.2.1 ∧ (d_run d w r).2.1.2 = d.2 ∧ (∀ b, b < 8 → d_st (d_run d w r).2.1 b = d_st d b ∨ (d_st d b = 1 ∧ d_st (d_run d w r).2.1 b = 2)) ∧ (((d_run d w r).1 = 1 ∧ d_st (d_run d w r).2.1 r = 2) ∨ (((d_run d w r).1 = 2 ∨ (d_run d w r).1 = 3) ∧ (d_run d w r).2.1 = d ∧ (d_run d w r).2.2.1 = w)) ∧ (d_run d w r).2.2.2.1 ≤ 301 := by
  unfold d_run
  split
  · exact ⟨hok, rfl, fun _ _ => Or.inl rfl, Or.inr ⟨Or.inl rfl, rfl, rfl⟩, Nat.zero_le _⟩
  · have hle := d_dfs_le d 25 (w, d_tk (fun _ => false) r true, d_tasks d r) 0 0 (by decide)
    split
    · rename_i n e
      rw [e] at hle
      refine ⟨hok, rfl, fun _ _ => Or.inl rfl, Or.inr ⟨?_, rfl, rfl⟩, hle⟩
      show (if 300 < n then 3 else 2) = 2 ∨ (if 300 < n then 3 else 2) = 3
      split
      · exact Or.inr rfl
      · exact Or.inl rfl
    · rename_i s n e
      rw [e] at hle
      obtain ⟨⟨t, k1⟩, k2, k3, k4, k5, k6⟩ := d_dfs_ok hr hst hst3 hok e
      have hT : ∀ b, s.2.1 b = true → d_st d b = 1 := fun b hb => (k1.1 b hb).2
      have est : ∀ b, d_st (d_res d s.2.1) b = if s.2.1 b = true then 2 else d_st d b := fun b => rfl
      have hP := d_optB_ind (d := d_res d s.2.1) (T := s.2.1) (P := fun w' => (d_wl (d_res d s.2.1) s.2.1 w' ∧ d_wok (d_res d s.2.1) w') ∧ ∀ b k, s.2.1 b = false → w' b k = s.1 b k) (fun b k hTb x hx w' hw => ⟨d_wl_set hw.1 hx, fun b' k' hb' => by
        unfold d_set
        rw [if_neg (fun c => by rw [c.1, hTb] at hb'; cases hb')]
        exact hw.2 b' k' hb'⟩) 8 (w := s.1) ⟨⟨k4, k3⟩, fun _ _ _ => rfl⟩
      obtain ⟨⟨p1, p2⟩, p3⟩ := hP
      refine ⟨⟨fun b k hb hl => ?_, fun b k o l hb hw => ?_⟩, rfl, fun b hb => ?_, Or.inl ⟨rfl, ?_⟩, hle⟩
      · have hTb : s.2.1 b = false := by
          cases c : s.2.1 b with
          | false => rfl
          | true =>
            unfold d_live at hl
            rw [est, c] at hl
            cases hl
        refine (p3 b k hTb).trans ((k5 b k hb hTb).trans (hok.1 b k hb ?_))
        unfold d_live at hl ⊢
        rw [est, hTb] at hl
        exact hl
      · cases hTb : s.2.1 b with
        | true =>
          obtain ⟨c1, c2, c3, -⟩ := p1 b k o l hb hTb hw
          exact ⟨c1, by show l ≤ d_lf (d_res d s.2.1) o; omega, fun _ => Or.inl c3⟩
        | false =>
          have hw : w b k = some (o, l) := ((p3 b k hTb).trans (k5 b k hb hTb)).symm.trans hw
          obtain ⟨c1, c2, c3⟩ := hok.2 b k o l hb hw
          refine ⟨c1, c2, fun q => ?_⟩
          have c3 := c3 q
          unfold d_live at c3 ⊢
          show decide (2 ≤ d_st (d_res d s.2.1) o) = true ∨ d_st (d_res d s.2.1) o = 0
          rw [est]
          cases hTo : s.2.1 o with
          | true => exact Or.inl rfl
          | false => exact c3
      · show d_st (d_res d s.2.1) b = d_st d b ∨ _ ∧ d_st (d_res d s.2.1) b = 2
        rw [est]
        cases hTb : s.2.1 b with
        | true => exact Or.inr ⟨hT b hTb, rfl⟩
        | false => exact Or.inl rfl
      · show d_st (d_res d s.2.1) r = 2
        rw [est, if_pos]
        refine d_dfs_T 25 0 0 n e r ?_
        show (if r = r then true else false) = true
        rw [if_pos rfl]
