/-! REFRESH: which bundles are stale; what happens to them -/
def rf_c (d : sd) (w : sw) (s b k : Nat) : Bool := match w b k with
  | none => false
  | some (o, l) => d_old d o l || s.testBit o
def rf_b (d : sd) (w : sw) (b s : Nat) : Nat := if bh_any (rf_c d w s b) 3 then s ||| 2 ^ b else s
def rf_B (d : sd) (w : sw) : Nat → Nat → Nat
  | 0, s => s
  | b + 1, s => rf_b d w b (rf_B d w b s)
def rf_R (d : sd) (w : sw) : Nat → Nat
  | 0 => 0
  | r + 1 => rf_B d w 8 (rf_R d w r)
theorem bit_in : ∀ (s : Fin 256) (b : Fin 8), (nI s.val >>> (nI b.val &&& 31)) &&& 1 = 0 ↔ s.val.testBit b.val = false := by decide +kernel
theorem bit_or : ∀ (s : Fin 256) (b : Fin 8), (nI s.val ||| (1 <<< (nI b.val &&& 31))) = nI (s.val ||| 2 ^ b.val) := by decide +kernel
theorem bit_pc : ∀ (s : Fin 256) (b : Fin 8), (s.val.testBit b.val = true → s.val ||| 2 ^ b.val = s.val) ∧ (s.val.testBit b.val = false → ((List.range 8).filter (fun x => (s.val ||| 2 ^ b.val).testBit x)).length = ((List.range 8).filter (fun x => s.val.testBit x)).length + 1) := by decide +kernel
theorem bit_lt {s b : Nat} (hs : s < 256) (hb : b < 8) : s ||| 2 ^ b < 256 := Nat.or_lt_two_pow (n := 8) hs (Nat.pow_lt_pow_right (by decide) hb)
theorem bit_set (s b x : Nat) : (s ||| 2 ^ b).testBit x = (s.testBit x || decide (b = x)) := by rw [Nat.testBit_or, Nat.testBit_two_pow]
def rf_pc (s : Nat) : Nat := ((List.range 8).filter (fun x => s.testBit x)).length
theorem rf_b_lt {d : sd} {w : sw} {b s : Nat} (hs : s < 256) (hb : b < 8) : rf_b d w b s < 256 := by
  unfold rf_b
  split
  · exact bit_lt hs hb
  · exact hs
theorem rf_B_lt {d : sd} {w : sw} : ∀ (b : Nat) {s : Nat}, s < 256 → b ≤ 8 → rf_B d w b s < 256
  | 0, s, hs, _ => hs
  | b + 1, s, hs, hb => rf_b_lt (rf_B_lt b hs (by omega)) (by omega)
theorem rf_R_lt {d : sd} {w : sw} : ∀ (r : Nat), rf_R d w r < 256
  | 0 => by
    show 0 < 256
    decide
  | r + 1 => rf_B_lt 8 (rf_R_lt r) (by decide)
theorem rf_b_pc {d : sd} {w : sw} {b s : Nat} (hs : s < 256) (hb : b < 8) : rf_b d w b s = s ∨ rf_pc s < rf_pc (rf_b d w b s) := by
  unfold rf_b
  split
  · obtain ⟨h1, h2⟩ := bit_pc ⟨s, hs⟩ ⟨b, hb⟩
    cases c : s.testBit b with
    | true => exact Or.inl (h1 c)
    | false =>
      refine Or.inr ?_
      unfold rf_pc
      have h3 : ((List.range 8).filter (fun x => (s ||| 2 ^ b).testBit x)).length = ((List.range 8).filter (fun x => s.testBit x)).length + 1 := h2 c
      omega
  · exact Or.inl rfl
theorem rf_B_pc {d : sd} {w : sw} : ∀ (b : Nat) {s : Nat}, s < 256 → b ≤ 8 → rf_B d w b s = s ∨ rf_pc s < rf_pc (rf_B d w b s)
  | 0, s, _, _ => Or.inl rfl
  | b + 1, s, hs, hb => by
    show rf_b d w b (rf_B d w b s) = s ∨ rf_pc s < rf_pc (rf_b d w b (rf_B d w b s))
    have h1 := rf_b_pc (d := d) (w := w) (b := b) (rf_B_lt b hs (by omega) (d := d) (w := w)) (by omega)
    rcases rf_B_pc b hs (by omega) (d := d) (w := w) with q | q
    · rw [q] at h1 ⊢
      exact h1
    · rcases h1 with q1 | q1
      · rw [q1]
        exact Or.inr q
      · exact Or.inr (Nat.lt_trans q q1)
theorem rf_pc_8 (s : Nat) : rf_pc s ≤ 8 := by
  have := List.length_filter_le (fun x => s.testBit x) (List.range 8)
  rw [List.length_range] at this
  exact this
/-- after eight rounds nothing more comes -/
theorem rf_fix (d : sd) (w : sw) : rf_B d w 8 (rf_R d w 8) = rf_R d w 8 := by
  have key : ∀ r, rf_B d w 8 (rf_R d w r) = rf_R d w r ∨ r + 1 ≤ rf_pc (rf_R d w (r + 1)) := by
    intro r
    induction r with
    | zero =>
      rcases rf_B_pc 8 (rf_R_lt 0) (Nat.le_refl _) (d := d) (w := w) with q | q
      · exact Or.inl q
      · refine Or.inr ?_
        show 1 ≤ rf_pc (rf_B d w 8 (rf_R d w 0))
        omega
    | succ r ih =>
      rcases ih with q | q
      · refine Or.inl ?_
        have e : rf_R d w (r + 1) = rf_R d w r := q
        rw [e]
        exact q
      · rcases rf_B_pc 8 (rf_R_lt (r + 1)) (Nat.le_refl _) (d := d) (w := w) with q2 | q2
        · exact Or.inl q2
        · refine Or.inr ?_
          show r + 2 ≤ rf_pc (rf_B d w 8 (rf_R d w (r + 1)))
          omega
  rcases key 8 with q | q
  · exact q
  · have := rf_pc_8 (rf_R d w (8 + 1))
    omega
/-- the stale bundles, closed -/
theorem rf_b_up {d : sd} {w : sw} {b s x : Nat} (h : s.testBit x = true) : (rf_b d w b s).testBit x = true := by
  unfold rf_b
  split
  · rw [bit_set, h, Bool.true_or]
  · exact h
theorem rf_B_up {d : sd} {w : sw} : ∀ (b : Nat) {s x : Nat}, s.testBit x = true → (rf_B d w b s).testBit x = true
  | 0, s, x, h => h
  | b + 1, s, x, h => rf_b_up (rf_B_up b h)
theorem rf_same {s t : Nat} (hs : s < 256) (ht : t < 256) (h : ∀ x, x < 8 → s.testBit x = t.testBit x) : s = t := by
  refine Nat.eq_of_testBit_eq (fun x => ?_)
  by_cases c : x < 8
  · exact h x c
  · rw [Nat.testBit_lt_two_pow (Nat.lt_of_lt_of_le hs (show 2 ^ 8 ≤ 2 ^ x from Nat.pow_le_pow_right (by decide) (by omega))), Nat.testBit_lt_two_pow (Nat.lt_of_lt_of_le ht (show 2 ^ 8 ≤ 2 ^ x from Nat.pow_le_pow_right (by decide) (by omega)))]
theorem rf_B_fix {d : sd} {w : sw} {s : Nat} (hs : s < 256) (h : rf_B d w 8 s = s) : ∀ b, b ≤ 8 → rf_B d w b s = s := by
  intro b hb
  have mono : ∀ m b, (∀ x, (rf_B d w b s).testBit x = true → (rf_B d w (b + m) s).testBit x = true) := by
    intro m
    induction m with
    | zero => exact fun b x hx => hx
    | succ m ih => exact fun b x hx => rf_b_up (ih b x hx)
  refine rf_same (rf_B_lt b hs hb) hs (fun x hx => ?_)
  cases c : s.testBit x with
  | true => exact rf_B_up b c
  | false =>
    cases c2 : (rf_B d w b s).testBit x with
    | false => rfl
    | true =>
      have := mono (8 - b) b x c2
      rw [show b + (8 - b) = 8 by omega, h, c] at this
      cases this
theorem rf_closed {d : sd} {w : sw} {b k : Nat} (hb : b < 8) (hk : k < 3) (h : rf_c d w (rf_R d w 8) b k = true) : (rf_R d w 8).testBit b = true := by
  have h1 := rf_B_fix (rf_R_lt 8) (rf_fix d w) (b + 1) (by omega)
  have h0 := rf_B_fix (rf_R_lt 8) (rf_fix d w) b (by omega)
  have h1 : rf_b d w b (rf_B d w b (rf_R d w 8)) = rf_R d w 8 := h1
  rw [h0] at h1
  unfold rf_b at h1
  rw [if_pos (bh_any_true hk h)] at h1
  rw [← h1, bit_set, decide_eq_true rfl, Bool.or_true]
theorem rf_live {d : sd} {w : sw} (hok : d_ok d w) : ∀ (r b : Nat), b < 8 → (rf_R d w r).testBit b = true → d_live d b = true := by
  have one : ∀ n s, n ≤ 8 → (∀ b, b < 8 → s.testBit b = true → d_live d b = true) → ∀ b, b < 8 → (rf_B d w n s).testBit b = true → d_live d b = true := by
    intro n
    induction n with
    | zero => exact fun s _ h => h
    | succ n ih =>
      intro s hn h b hb hx
      have hx : (rf_b d w n (rf_B d w n s)).testBit b = true := hx
      unfold rf_b at hx
      split at hx
      · rename_i c
        rw [bit_set, Bool.or_eq_true, decide_eq_true_eq] at hx
        rcases hx with q | q
        · exact ih s (by omega) h b hb q
        · subst q
          obtain ⟨k, hk, hc⟩ := bh_any_iff.mp c
          cases e : d_live d n with
          | true => rfl
          | false =>
            unfold rf_c at hc
            rw [hok.1 n k hb e] at hc
            cases hc
      · exact ih s (by omega) h b hb hx
  intro r
  induction r with
  | zero =>
    intro b hb hx
    rw [show rf_R d w 0 = 0 from rfl, Nat.zero_testBit] at hx
    cases hx
  | succ r ih => exact one 8 (rf_R d w r) (by decide) ih
/-- stopping, unresolving, starting again -/
def rf_s (s : Nat) : Nat → sa → sa
  | 0, A => A
  | b + 1, A => rf_s s b (if s.testBit b = true ∧ a_st A b = 3 then a_stop A b else A)
def a_un (A : sa) (b : Nat) : sa := (d_sst (a_d A) b 1, w_cl (a_w A) b, A.2.2)
def rf_u (s : Nat) : Nat → sa → sa
  | 0, A => A
  | b + 1, A => if s.testBit b = true then a_un (rf_u s b A) b else rf_u s b A
def rf_g (s b : Nat) (A : sa) : sa := if s.testBit b = true ∧ a_wa A b = true ∧ a_lv A b ≤ a_fl A then (a_act A b).2 else A
def rf_G (s : Nat) : Nat → sa → sa
  | 0, A => A
  | k + 1, A => rf_G s k (rf_g s (7 - k) A)
def a_n3 (A : sa) : sa := (A.1, fun b k => if 3 ≤ k then none else a_w A b k, A.2.2)
def a_stale (A : sa) : Nat := rf_R (a_d A) (a_w A) 8
def o_refresh (A : sa) : sr := (0, bh_cnt (fun b => (a_stale A).testBit b) 8, rf_G (a_stale A) 8 (a_n3 (rf_u (a_stale A) 8 (rf_s (a_stale A) 8 A))))
/-- what stopping keeps -/
theorem rf_s_keep (s : Nat) : ∀ (n : Nat) (A : sa), n ≤ 8 → WA A → WA (rf_s s n A) ∧ a_w (rf_s s n A) = a_w A ∧ (a_d (rf_s s n A)).2 = (a_d A).2 ∧ a_ck (rf_s s n A) = a_ck A ∧ (∀ b, d_live (a_d (rf_s s n A)) b = d_live (a_d A) b) ∧ (∀ b, b < n → s.testBit b = true → ¬ a_st (rf_s s n A) b = 3) ∧ (∀ b, ¬ a_st A b = 3 → a_st (rf_s s n A) b = a_st A b) ∧ ∀ b, a_st (rf_s s n A) b = 0 ↔ a_st A b = 0
  | 0, A, _, h => ⟨h, rfl, rfl, rfl, fun _ => rfl, fun b hb => absurd hb (Nat.not_lt_zero _), fun _ _ => rfl, fun _ => Iff.rfl⟩
  | n + 1, A, hn, h => by
    have step : ∀ A1 : sa, (if s.testBit n = true ∧ a_st A n = 3 then a_stop A n else A) = A1 → WA A1 ∧ a_w A1 = a_w A ∧ (a_d A1).2 = (a_d A).2 ∧ a_ck A1 = a_ck A ∧ (∀ b, d_live (a_d A1) b = d_live (a_d A) b) ∧ (s.testBit n = true → ¬ a_st A1 n = 3) ∧ (∀ b, ¬ a_st A b = 3 → a_st A1 b = a_st A b) ∧ ∀ b, a_st A1 b = 0 ↔ a_st A b = 0 := by
      intro A1 e
      by_cases c : s.testBit n = true ∧ a_st A n = 3
      · rw [if_pos c] at e
        subst e
        have est : ∀ x, a_st (a_stop A n) x = if x = n then 2 else a_st A x := fun _ => rfl
        refine ⟨wa_stop (by omega) h c.2, rfl, rfl, rfl, fun b => ?_, fun _ => ?_, fun b hb => ?_, fun b => ?_⟩
        · show decide (2 ≤ if b = n then 2 else a_st A b) = decide (2 ≤ a_st A b)
          by_cases cb : b = n
          · rw [if_pos cb, cb, c.2]
            decide
          · rw [if_neg cb]
        · rw [est, if_pos rfl]
          decide
        · rw [est, if_neg (fun q => hb (by rw [q]; exact c.2))]
        · rw [est]
          by_cases cb : b = n
          · rw [if_pos cb, cb, c.2]
            decide
          · rw [if_neg cb]
      · rw [if_neg c] at e
        subst e
        exact ⟨h, rfl, rfl, rfl, fun _ => rfl, fun q q2 => c ⟨q, q2⟩, fun _ _ => rfl, fun _ => Iff.rfl⟩
    have e : rf_s s (n + 1) A = rf_s s n (if s.testBit n = true ∧ a_st A n = 3 then a_stop A n else A) := rfl
    rw [e]
    clear e
    generalize he : (if s.testBit n = true ∧ a_st A n = 3 then a_stop A n else A) = A1
    obtain ⟨k1, k2, k3, k4, k5, k6, k7, k8⟩ := step A1 he
    obtain ⟨r1, r2, r3, r4, r5, r6, r7, r8⟩ := rf_s_keep s n A1 (by omega) k1
    refine ⟨r1, r2.trans k2, r3.trans k3, r4.trans k4, fun b => (r5 b).trans (k5 b), fun b hb hx => ?_, fun b hb => ?_, fun b => (r8 b).trans (k8 b)⟩
    · by_cases c : b = n
      · subst c
        rw [r7 b (k6 hx)]
        exact k6 hx
      · exact r6 b (by omega) hx
    · have e1 := k7 b hb
      rw [r7 b (by rw [e1]; exact hb)]
      exact e1
theorem rf_u_is (s : Nat) : ∀ (n : Nat) (A : sa), (∀ b, a_st (rf_u s n A) b = if b < n ∧ s.testBit b = true then 1 else a_st A b) ∧ (∀ b k, a_w (rf_u s n A) b k = if b < n ∧ s.testBit b = true then none else a_w A b k) ∧ (a_d (rf_u s n A)).2 = (a_d A).2 ∧ (rf_u s n A).2.2 = A.2.2
  | 0, A => ⟨fun b => by rw [if_neg (fun q => absurd q.1 (Nat.not_lt_zero _))]; rfl, fun b k => by rw [if_neg (fun q => absurd q.1 (Nat.not_lt_zero _))]; rfl, rfl, rfl⟩
  | n + 1, A => by
    obtain ⟨h1, h2, h3, h4⟩ := rf_u_is s n A
    by_cases c : s.testBit n = true
    · have e : rf_u s (n + 1) A = a_un (rf_u s n A) n := if_pos c
      rw [e]
      refine ⟨fun b => ?_, fun b k => ?_, h3, h4⟩
      · show (if b = n then 1 else a_st (rf_u s n A) b) = _
        rw [h1]
        by_cases cb : b = n
        · rw [if_pos cb, if_pos ⟨by omega, by rw [cb]; exact c⟩]
        · rw [if_neg cb]
          by_cases c2 : b < n ∧ s.testBit b = true
          · rw [if_pos c2, if_pos ⟨by omega, c2.2⟩]
          · rw [if_neg c2, if_neg (fun q => c2 ⟨by omega, q.2⟩)]
      · show (if b = n then none else a_w (rf_u s n A) b k) = _
        rw [h2]
        by_cases cb : b = n
        · rw [if_pos cb, if_pos ⟨by omega, by rw [cb]; exact c⟩]
        · rw [if_neg cb]
          by_cases c2 : b < n ∧ s.testBit b = true
          · rw [if_pos c2, if_pos ⟨by omega, c2.2⟩]
          · rw [if_neg c2, if_neg (fun q => c2 ⟨by omega, q.2⟩)]
    · have e : rf_u s (n + 1) A = rf_u s n A := if_neg c
      rw [e]
      refine ⟨fun b => ?_, fun b k => ?_, h3, h4⟩
      · rw [h1]
        by_cases c2 : b < n ∧ s.testBit b = true
        · rw [if_pos c2, if_pos ⟨by omega, c2.2⟩]
        · rw [if_neg c2, if_neg (fun q => c2 ⟨by
            have : ¬ b = n := fun q2 => c (by rw [← q2]; exact q.2)
            omega, q.2⟩)]
      · rw [h2]
        by_cases c2 : b < n ∧ s.testBit b = true
        · rw [if_pos c2, if_pos ⟨by omega, c2.2⟩]
        · rw [if_neg c2, if_neg (fun q => c2 ⟨by
            have : ¬ b = n := fun q2 => c (by rw [← q2]; exact q.2)
            omega, q.2⟩)]
theorem sd_lf {d d' : sd} (h : d'.2 = d.2) : d_lf d' = d_lf d ∧ d_ni d' = d_ni d := ⟨congrArg (fun q : (Nat → Int32) × (Nat → Nat → Option Nat) × (Nat → Nat → Int32) × (Nat → Nat) × (Nat → Nat → Nat) × (Nat → Nat → Nat) × (Nat → Nat → Nat) × (Nat → Nat → Bool) × (Nat → Nat) => q.2.2.2.2.2.2.2.2) h, congrArg (fun q : (Nat → Int32) × (Nat → Nat → Option Nat) × (Nat → Nat → Int32) × (Nat → Nat) × (Nat → Nat → Nat) × (Nat → Nat → Nat) × (Nat → Nat → Nat) × (Nat → Nat → Bool) × (Nat → Nat) => q.2.2.2.1) h⟩
/-- after unresolving all stale ones the state is as it may be -/
theorem rf_u_wa {A : sa} (h : WA A) : WA (a_n3 (rf_u (a_stale A) 8 (rf_s (a_stale A) 8 A))) ∧ (∀ b, b < 8 → (a_stale A).testBit b = true → a_st (a_n3 (rf_u (a_stale A) 8 (rf_s (a_stale A) 8 A))) b = 1) ∧ a_ck (a_n3 (rf_u (a_stale A) 8 (rf_s (a_stale A) 8 A))) = a_ck A := by
  obtain ⟨r1, r2, r3, r4, r5, r6, r7, r8⟩ := rf_s_keep (a_stale A) 8 A (Nat.le_refl _) h
  obtain ⟨u1, u2, u3, u4⟩ := rf_u_is (a_stale A) 8 (rf_s (a_stale A) 8 A)
  generalize hA1 : rf_s (a_stale A) 8 A = A1 at *
  generalize hA2 : rf_u (a_stale A) 8 A1 = A2 at *
  have hlf := (sd_lf u3).1
  have hni := (sd_lf u3).2
  have hlf1 := (sd_lf r3).1
  have hlive : ∀ b, ¬ (b < 8 ∧ (a_stale A).testBit b = true) → d_live (a_d A2) b = d_live (a_d A1) b := by
    intro b c
    show decide (2 ≤ a_st A2 b) = decide (2 ≤ a_st A1 b)
    rw [u1, if_neg c]
  obtain ⟨g1, g2, gf, g4, g5⟩ := r1
  refine ⟨⟨⟨fun b k hb hl => ?_, fun b k o l hb hw => ?_⟩, fun b hb => ?_, ?_, ?_, ?_⟩, fun b hb hx => by
    show a_st A2 b = 1
    rw [u1, if_pos ⟨hb, hx⟩], ?_⟩
  · show (if 3 ≤ k then none else a_w A2 b k) = none
    by_cases c3 : 3 ≤ k
    · rw [if_pos c3]
    rw [if_neg c3, u2]
    by_cases c : b < 8 ∧ (a_stale A).testBit b = true
    · rw [if_pos c]
    · rw [if_neg c]
      have hl : d_live (a_d A2) b = false := hl
      rw [hlive b c] at hl
      exact g1.1 b k hb hl
  · have hw : (if 3 ≤ k then none else a_w A2 b k) = some (o, l) := hw
    by_cases c3 : 3 ≤ k
    · rw [if_pos c3] at hw
      cases hw
    rw [if_neg c3, u2] at hw
    by_cases c : b < 8 ∧ (a_stale A).testBit b = true
    · rw [if_pos c] at hw
      cases hw
    · rw [if_neg c] at hw
      obtain ⟨c1, c2, c4⟩ := g1.2 b k o l hb hw
      show o < 8 ∧ l ≤ d_lf (a_d A2) o ∧ (l = d_lf (a_d A2) o → d_live (a_d A2) o = true ∨ a_st A2 o = 0)
      rw [hlf]
      refine ⟨c1, c2, fun q => ?_⟩
      rw [r2] at hw
      have ho : ¬ (o < 8 ∧ (a_stale A).testBit o = true) := by
        intro co
        refine c ⟨hb, ?_⟩
        refine rf_closed (k := k) hb (by omega) ?_
        unfold rf_c
        rw [hw]
        show (d_old (a_d A) o l || (rf_R (a_d A) (a_w A) 8).testBit o) = true
        rw [show (rf_R (a_d A) (a_w A) 8).testBit o = true from co.2, Bool.or_true]
      rw [hlive o ho]
      rcases c4 q with d | d
      · exact Or.inl d
      · refine Or.inr ?_
        show a_st A2 o = 0
        rw [u1, if_neg ho]
        exact d
  · obtain ⟨c1, c2, c3, c4⟩ := g2 b hb
    have e2 : A2.2.2 = A1.2.2 := u4
    have e3 : a_wa A2 = a_wa A1 := congrArg (fun q : sx × (Nat → Nat) × (Nat → Nat) × (Nat → Bool) × (Nat → Bool) × bh_M × Nat × Nat × Int32 × Nat => q.2.2.2.1) e2
    have e4 : a_e A2 = a_e A1 := congrArg (fun q : sx × (Nat → Nat) × (Nat → Nat) × (Nat → Bool) × (Nat → Bool) × bh_M × Nat × Nat × Int32 × Nat => q.1) e2
    have e5 : a_lv A2 = a_lv A1 := congrArg (fun q : sx × (Nat → Nat) × (Nat → Nat) × (Nat → Bool) × (Nat → Bool) × bh_M × Nat × Nat × Int32 × Nat => q.2.1) e2
    have e6 : a_ac A2 = a_ac A1 := congrArg (fun q : sx × (Nat → Nat) × (Nat → Nat) × (Nat → Bool) × (Nat → Bool) × bh_M × Nat × Nat × Int32 × Nat => q.2.2.1) e2
    have e7 : a_ck A2 = a_ck A1 := congrArg (fun q : sx × (Nat → Nat) × (Nat → Nat) × (Nat → Bool) × (Nat → Bool) × bh_M × Nat × Nat × Int32 × Nat => q.2.2.2.2.2.2.2.2.2) e2
    show a_st A2 b ≤ 3 ∧ d_lf (a_d A2) b ≤ a_ck A2 ∧ (a_st A2 b = 0 → a_wa A2 b = false ∧ x_n (a_e A2) b = 0 ∧ d_ni (a_d A2) b = 0) ∧ (¬ a_st A2 b = 0 → 1 ≤ a_lv A2 b ∧ a_lv A2 b ≤ 5 ∧ a_ac A2 b ≤ 4 ∧ x_n (a_e A2) b ≤ 3)
    rw [hlf, hni, e3, e4, e5, e6, e7, u1]
    by_cases c : b < 8 ∧ (a_stale A).testBit b = true
    · rw [if_pos c]
      have hl := rf_live h.1 8 b hb c.2
      have h0 : ¬ a_st A1 b = 0 := by
        rw [r8 b]
        intro q
        unfold d_live at hl
        rw [decide_eq_true_eq] at hl
        have hl : 2 ≤ a_st A b := hl
        omega
      exact ⟨by decide, c2, fun q => absurd q (by decide), fun _ => c4 h0⟩
    · rw [if_neg c]
      exact ⟨c1, c2, c3, c4⟩
  · have e2 : A2.2.2 = A1.2.2 := u4
    have e3 : a_fl A2 = a_fl A1 := congrArg (fun q : sx × (Nat → Nat) × (Nat → Nat) × (Nat → Bool) × (Nat → Bool) × bh_M × Nat × Nat × Int32 × Nat => q.2.2.2.2.2.2.1) e2
    show 1 ≤ a_fl A2 ∧ a_fl A2 ≤ 5
    rw [e3]
    exact gf
  · have e2 : A2.2.2 = A1.2.2 := u4
    have e3 : a_nu A2 = a_nu A1 := congrArg (fun q : sx × (Nat → Nat) × (Nat → Nat) × (Nat → Bool) × (Nat → Bool) × bh_M × Nat × Nat × Int32 × Nat => q.2.2.2.2.2.1) e2
    show sv (a_nu A2) (a_st A2) fin64
    rw [e3]
    refine sv_st g4 (fun o ho q => ?_)
    rw [u1, if_neg (fun c => r6 o ho c.2 q)]
    exact q
  · have e2 : A2.2.2 = A1.2.2 := u4
    have e3 : a_tr A2 = a_tr A1 := congrArg (fun q : sx × (Nat → Nat) × (Nat → Nat) × (Nat → Bool) × (Nat → Bool) × bh_M × Nat × Nat × Int32 × Nat => q.2.2.2.2.2.2.2.1) e2
    show a_tr A2 ≤ 301
    rw [e3]
    exact g5
  · have e2 : A2.2.2 = A1.2.2 := u4
    have e7 : a_ck A2 = a_ck A1 := congrArg (fun q : sx × (Nat → Nat) × (Nat → Nat) × (Nat → Bool) × (Nat → Bool) × bh_M × Nat × Nat × Int32 × Nat => q.2.2.2.2.2.2.2.2.2) e2
    show a_ck A2 = a_ck A
    rw [e7, r4]
