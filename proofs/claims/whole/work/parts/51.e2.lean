/-! THE REFERENCE: its memory holds what is known of the bundles. Exports: how many, and which package at which place. τ: which times a life of a bundle has. -/
abbrev sx : Type := (Nat → Nat) × (Nat → Nat → Nat)
def x_n (e : sx) : Nat → Nat := e.1
def x_p (e : sx) : Nat → Nat → Nat := e.2
def p_enc (τ : Nat → Nat → Nat) (q : Nat) : Option (Nat × Nat) → Int64
  | none => -1
  | some (o, l) => nJ ((τ o l * 8 + o) * 8 + q)
def rdM (M : bh_M) (d : sd) (w : sw) (e : sx) (τ : Nat → Nat → Nat) : Prop :=
  (∀ o l l', o < 8 → l ≤ d_lf d o → l' ≤ d_lf d o → τ o l = τ o l' → l = l') ∧ (∀ o l, o < 8 → l ≤ d_lf d o → τ o l ≤ 4000) ∧ ∀ b, b < 8 →
  (bh_I M 41 1 b = nI (d_st d b) ∧ d_st d b ≤ 3 ∧ (¬ d_st d b = 0 → bh_I M 42 1 b = d_nm d b) ∧ (¬ d_st d b = 0 → bh_J M 47 1 b = nJ (τ b (d_lf d b)))) ∧
  (bh_I M 48 1 b = nI (x_n e b) ∧ x_n e b ≤ 3 ∧ (∀ j, j < x_n e b → x_p e b j < 8 ∧ bh_I M 49 1 (3 * b + j) = nI (x_p e b j) ∧ bh_I M 51 1 (3 * b + j) = d_us d b (x_p e b j) ∧ ∃ v, d_ver d b (x_p e b j) = some v ∧ v ≤ 9 ∧ bh_I M 50 1 (3 * b + j) = nI v) ∧ (∀ j j', j < x_n e b → j' < x_n e b → x_p e b j = x_p e b j' → j = j') ∧ (∀ p, p < 8 → (d_ver d b p).isSome = true → ∃ j, j < x_n e b ∧ x_p e b j = p) ∧ (d_st d b = 0 → x_n e b = 0)) ∧
  (bh_I M 52 1 b = nI (d_ni d b) ∧ d_ni d b ≤ 3 ∧ (∀ k, k < d_ni d b → bh_I M 53 1 (3 * b + k) = nI (d_ip d b k) ∧ d_ip d b k < 8 ∧ bh_I M 54 1 (3 * b + k) = nI (d_lo d b k) ∧ d_lo d b k ≤ 9 ∧ bh_I M 55 1 (3 * b + k) = nI (d_hi d b k) ∧ d_hi d b k ≤ 9 ∧ bh_I M 56 1 (3 * b + k) = (if d_op d b k then 1 else 0)) ∧ (∀ k k', k < d_ni d b → k' < d_ni d b → d_ip d b k = d_ip d b k' → k = k')) ∧
  (∀ k, k < 3 → bh_J M 57 1 (3 * b + k) = p_enc τ (d_ip d b k) (w b k) ∧ ∀ o l, w b k = some (o, l) → o < 8 ∧ l ≤ d_lf d o ∧ k < d_ni d b)
def tkM (M : bh_M) (T : Nat → Bool) : Prop := ∀ b, b < 8 → bh_I M 63 1 b = (if T b then 1 else 0)
theorem tkM.f {M : bh_M} {T : Nat → Bool} (h : tkM M T) {b : Nat} (hb : b < 8) : bh_I M 63 1 b = 0 ↔ T b = false := by
  rw [h b hb]
  cases T b
  · exact ⟨fun _ => rfl, fun _ => rfl⟩
  · constructor
    · intro q
      exact absurd q (by decide)
    · intro q
      cases q
theorem rdM.lv {M : bh_M} {d : sd} {w : sw} {e : sx} {τ : Nat → Nat → Nat} (h : rdM M d w e τ) {b : Nat} (hb : b < 8) : bh_I M 41 1 b ≤ 1 ↔ d_live d b = false := by
  obtain ⟨⟨h1, h2, -⟩, -⟩ := h.2.2 b hb
  rw [h1, show (1 : Int32) = nI 1 from rfl, bn_le (by omega) (by decide)]
  unfold d_live
  rw [decide_eq_false_iff_not]
  omega
theorem rdM.none {M : bh_M} {d : sd} {w : sw} {e : sx} {τ : Nat → Nat → Nat} (h : rdM M d w e τ) {b : Nat} (hb : b < 8) : bh_I M 41 1 b = 0 ↔ d_st d b = 0 := by
  obtain ⟨⟨h1, h2, -⟩, -⟩ := h.2.2 b hb
  rw [h1]
  exact bn_0 (by omega)
theorem rdM.one {M : bh_M} {d : sd} {w : sw} {e : sx} {τ : Nat → Nat → Nat} (h : rdM M d w e τ) {b : Nat} (hb : b < 8) : bh_I M 41 1 b = 1 ↔ d_st d b = 1 := by
  obtain ⟨⟨h1, h2, -⟩, -⟩ := h.2.2 b hb
  rw [h1]
  exact bn_inj (b := 1) (by omega) (by decide)
theorem p_enc_neg {τ : Nat → Nat → Nat} {q : Nat} {x : Option (Nat × Nat)} (h : ∀ o l, x = some (o, l) → o < 8 ∧ τ o l ≤ 4000) (hq : q < 8) : p_enc τ q x < 0 ↔ x = none := by
  cases x with
  | none => exact ⟨fun _ => rfl, fun _ => by show (-1 : Int64) < 0; decide⟩
  | some p =>
    obtain ⟨o, l⟩ := p
    obtain ⟨h1, h2⟩ := h o l rfl
    constructor
    · intro c
      exact absurd c (bj_0le (by omega))
    · intro c
      cases c
theorem p_enc_inj {d : sd} {τ : Nat → Nat → Nat} {q : Nat} (ht : ∀ o l l', o < 8 → l ≤ d_lf d o → l' ≤ d_lf d o → τ o l = τ o l' → l = l') (hb : ∀ o l, o < 8 → l ≤ d_lf d o → τ o l ≤ 4000) {x y : Nat × Nat} (hx : x.1 < 8 ∧ x.2 ≤ d_lf d x.1) (hy : y.1 < 8 ∧ y.2 ≤ d_lf d y.1) (hq : q < 8) : p_enc τ q (some x) = p_enc τ q (some y) ↔ x = y := by
  obtain ⟨o, l⟩ := x
  obtain ⟨o', l'⟩ := y
  have a1 := hb o l hx.1 hx.2
  have a2 := hb o' l' hy.1 hy.2
  show nJ ((τ o l * 8 + o) * 8 + q) = nJ ((τ o' l' * 8 + o') * 8 + q) ↔ _
  have b1 : o < 8 := hx.1
  have b2 : o' < 8 := hy.1
  rw [bj_inj (by omega) (by omega)]
  constructor
  · intro h
    have e1 : o = o' := by omega
    subst e1
    have e2 : τ o l = τ o l' := by omega
    rw [ht o l l' b1 hx.2 hy.2 e2]
  · intro h
    cases h
    rfl
