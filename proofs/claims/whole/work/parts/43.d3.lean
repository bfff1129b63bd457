/-! candidates one after another -/
theorem d_cand_mem {d : sd} {T : Nat → Bool} {only : Bool} {b k x : Nat} : x ∈ d_cand d T only b k ↔ x < 160 ∧ d_key d b k (x % 8) = some x ∧ d_may d T only (x % 8) = true := by
  unfold d_cand
  rw [List.mem_filter, List.mem_range, Bool.and_eq_true, decide_eq_true_eq]
theorem d_cand_sorted (d : sd) (T : Nat → Bool) (only : Bool) (b k : Nat) : (d_cand d T only b k).Pairwise (· < ·) := List.Pairwise.filter _ List.pairwise_lt_range
theorem d_mn_A (lb : Nat) (f : Nat → Option Nat) (may : Nat → Bool) : ∀ n, d_mn lb f may n = 160 ∨ ∃ e, e < n ∧ (f e).getD 160 = d_mn lb f may n ∧ may e = true ∧ lb ≤ d_mn lb f may n ∧ d_mn lb f may n < 160
  | 0 => Or.inl rfl
  | n + 1 => by
    have ih := d_mn_A lb f may n
    have hle := d_mn_le lb f may n
    unfold d_mn
    split
    · rename_i h
      exact Or.inr ⟨n, by omega, rfl, h.2.2, h.1, by omega⟩
    · rcases ih with ih | ⟨e, h1, h2⟩
      · exact Or.inl ih
      · exact Or.inr ⟨e, by omega, h2⟩
theorem d_mn_B (lb : Nat) (f : Nat → Option Nat) (may : Nat → Bool) : ∀ n e x, e < n → f e = some x → may e = true → lb ≤ x → d_mn lb f may n ≤ x
  | 0, _, _, h, _, _, _ => absurd h (Nat.not_lt_zero _)
  | n + 1, e, x, h, h1, h2, h3 => by
    unfold d_mn
    by_cases q : e = n
    · subst q
      rw [h1]
      show (if lb ≤ x ∧ x < _ ∧ _ then x else _) ≤ x
      split
      · exact Nat.le_refl _
      · rename_i w
        by_cases q2 : x < d_mn lb f may e
        · exact absurd ⟨h3, q2, h2⟩ w
        · omega
    · have := d_mn_B lb f may n e x (by omega) h1 h2 h3
      split
      · rename_i w
        omega
      · exact this
theorem d_mn_find (d : sd) (T : Nat → Bool) (only : Bool) (b k lb : Nat) : d_mn lb (d_key d b k) (d_may d T only) 8 = ((d_cand d T only b k).find? (fun x => decide (lb ≤ x))).getD 160 := by
  have A := d_mn_A lb (d_key d b k) (d_may d T only) 8
  have B := d_mn_B lb (d_key d b k) (d_may d T only) 8
  generalize d_mn lb (d_key d b k) (d_may d T only) 8 = r at A B
  have memr : ¬ r = 160 → r ∈ d_cand d T only b k ∧ lb ≤ r := by
    intro hr
    rcases A with A | ⟨e, e1, e2, e3, e4, e5⟩
    · exact absurd A hr
    · cases hk : d_key d b k e with
      | none =>
        rw [hk] at e2
        exact absurd e2.symm hr
      | some x =>
        rw [hk] at e2
        have e2 : x = r := e2
        subst e2
        have := d_key_lt e1 hk
        refine ⟨d_cand_mem.mpr ⟨this.1, ?_, ?_⟩, e4⟩
        · rw [this.2.1]; exact hk
        · rw [this.2.1]; exact e3
  cases hf : (d_cand d T only b k).find? (fun x => decide (lb ≤ x)) with
  | none =>
    show r = 160
    apply Decidable.byContradiction
    intro hr
    obtain ⟨m1, m2⟩ := memr hr
    have := List.find?_eq_none.mp hf r m1
    exact this (decide_eq_true m2)
  | some x =>
    show r = x
    obtain ⟨hq, as, bs, hl, ha⟩ := List.find?_eq_some_iff_append.mp hf
    have hx : x ∈ d_cand d T only b k := by rw [hl]; exact List.mem_append_right _ List.mem_cons_self
    obtain ⟨x1, x2, x3⟩ := d_cand_mem.mp hx
    have h1 : r ≤ x := B (x % 8) x (Nat.mod_lt _ (by decide)) x2 x3 (of_decide_eq_true hq)
    obtain ⟨m1, m2⟩ := memr (by omega)
    have hs := d_cand_sorted d T only b k
    rw [hl] at m1 hs
    rcases List.mem_append.mp m1 with q | q
    · have := ha r q
      rw [decide_eq_true m2] at this
      exact absurd this (by decide)
    · rcases List.mem_cons.mp q with q | q
      · exact q
      · have h2 := (List.pairwise_cons.mp (List.pairwise_append.mp hs).2.1).1 r q
        omega
/-- xs is what comes from lb on -/
def d_suf (cs : List Nat) (lb : Nat) (xs : List Nat) : Prop := ∃ as, cs = as ++ xs ∧ (∀ a ∈ as, a < lb) ∧ ∀ a ∈ xs, lb ≤ a
theorem d_suf_0 (cs : List Nat) : d_suf cs 0 cs := ⟨[], rfl, fun _ h => absurd h List.not_mem_nil, fun _ _ => Nat.zero_le _⟩
theorem d_suf_s {cs xs : List Nat} {lb x : Nat} (hs : cs.Pairwise (· < ·)) (h : d_suf cs lb (x :: xs)) : d_suf cs (x + 1) xs := by
  obtain ⟨as, e, h1, h2⟩ := h
  refine ⟨as ++ [x], by rw [e, List.append_assoc]; rfl, fun a ha => ?_, fun a ha => ?_⟩
  · rcases List.mem_append.mp ha with q | q
    · have := h1 a q
      have := h2 x List.mem_cons_self
      omega
    · rw [List.mem_singleton.mp q]
      omega
  · rw [e] at hs
    exact (List.pairwise_cons.mp (List.pairwise_append.mp hs).2.1).1 a ha
theorem d_suf_find {cs xs : List Nat} {lb : Nat} (h : d_suf cs lb xs) : cs.find? (fun x => decide (lb ≤ x)) = xs.head? := by
  obtain ⟨as, e, h1, h2⟩ := h
  rw [e, List.find?_append]
  have e1 : as.find? (fun x => decide (lb ≤ x)) = none := by
    rw [List.find?_eq_none]
    intro x hx
    have := h1 x hx
    rw [decide_eq_false (by omega)]
    exact Bool.false_ne_true
  rw [e1, Option.none_or]
  cases xs with
  | nil => rfl
  | cons x xs =>
    rw [List.find?_cons, decide_eq_true (h2 x List.mem_cons_self)]
    rfl
theorem bh_nodup_le : ∀ (n : Nat) (l : List Nat), l.Nodup → (∀ x ∈ l, x < n) → l.length ≤ n
  | 0, [], _, _ => Nat.le_refl _
  | 0, x :: _, _, h => absurd (h x List.mem_cons_self) (Nat.not_lt_zero _)
  | n + 1, l, hn, h => by
    by_cases q : n ∈ l
    · have h1 := bh_nodup_le n (l.erase n) (hn.erase n) (fun x hx => by
        have h2 := (List.Nodup.mem_erase_iff hn).mp hx
        have := h x h2.2
        have := h2.1
        omega)
      rw [List.length_erase_of_mem q] at h1
      have : 0 < l.length := List.length_pos_of_mem q
      omega
    · have := bh_nodup_le n l hn (fun x hx => by
        have h1 := h x hx
        by_cases e : x = n
        · subst e; exact absurd hx q
        · omega)
      omega
theorem d_cand_8 (d : sd) (T : Nat → Bool) (only : Bool) (b k : Nat) : (d_cand d T only b k).length ≤ 8 := by
  have h := bh_nodup_le 8 ((d_cand d T only b k).map (· % 8)) (by
    rw [List.Nodup, List.pairwise_map]
    refine List.Pairwise.imp_of_mem (fun {x y} hx hy hlt e => ?_) (d_cand_sorted d T only b k)
    have e1 := (d_cand_mem.mp hx).2.1
    have e2 := (d_cand_mem.mp hy).2.1
    rw [e, e2] at e1
    have := Option.some.inj e1
    omega) (fun x hx => by
    obtain ⟨y, -, rfl⟩ := List.mem_map.mp hx
    exact Nat.mod_lt _ (by decide))
  rwa [List.length_map] at h
