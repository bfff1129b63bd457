/-! THE SEARCH, as both sides do it. What is known of the bundles: state, name, versions exported, uses, imports (how many, package, low, high, optional), life. -/
abbrev sd : Type := (Nat → Nat) × (Nat → Int32) × (Nat → Nat → Option Nat) × (Nat → Nat → Int32) × (Nat → Nat) × (Nat → Nat → Nat) × (Nat → Nat → Nat) × (Nat → Nat → Nat) × (Nat → Nat → Bool) × (Nat → Nat)
def d_st (d : sd) : Nat → Nat := d.1
def d_nm (d : sd) : Nat → Int32 := d.2.1
def d_ver (d : sd) : Nat → Nat → Option Nat := d.2.2.1
def d_us (d : sd) : Nat → Nat → Int32 := d.2.2.2.1
def d_ni (d : sd) : Nat → Nat := d.2.2.2.2.1
def d_ip (d : sd) : Nat → Nat → Nat := d.2.2.2.2.2.1
def d_lo (d : sd) : Nat → Nat → Nat := d.2.2.2.2.2.2.1
def d_hi (d : sd) : Nat → Nat → Nat := d.2.2.2.2.2.2.2.1
def d_op (d : sd) : Nat → Nat → Bool := d.2.2.2.2.2.2.2.2.1
def d_lf (d : sd) : Nat → Nat := d.2.2.2.2.2.2.2.2.2
/-- wires: of a bundle's import the bundle and its life -/
abbrev sw : Type := Nat → Nat → Option (Nat × Nat)
def d_live (d : sd) (b : Nat) : Bool := decide (2 ≤ d_st d b)
def d_imp (d : sd) (b q : Nat) : Option Nat := bh_ff (fun k => decide (d_ip d b k = q)) (d_ni d b)
def d_key (d : sd) (b k e : Nat) : Option Nat := if d_st d e = 0 then none else match d_ver d e (d_ip d b k) with
  | none => none
  | some v => if d_lo d b k ≤ v ∧ v ≤ d_hi d b k then some (((if d_live d e then 0 else 10) + (9 - v)) * 8 + e) else none
def d_named (d : sd) (T : Nat → Bool) (b : Nat) : Bool := bh_any (fun o => (d_live d o || T o) && decide (¬ o = b) && decide (d_nm d o = d_nm d b)) 8
def d_may (d : sd) (T : Nat → Bool) (only : Bool) (e : Nat) : Bool := if only then d_live d e else !d_named d T e
def d_cand (d : sd) (T : Nat → Bool) (only : Bool) (b k : Nat) : List Nat := (List.range 160).filter (fun x => decide (d_key d b k (x % 8) = some x) && d_may d T only (x % 8))
def d_src (d : sd) (w : sw) (b q : Nat) : Option (Nat × Nat) := if (d_ver d b q).isSome then some (b, d_lf d b) else match d_imp d b q with
  | none => none
  | some k => w b k
def d_two (x y : Option (Nat × Nat)) : Bool := match x, y with
  | some a, some b => decide (¬ a = b)
  | _, _ => false
def d_diff (d : sd) (w : sw) (b o : Nat) (s : Int32) : Bool := bh_any (fun q => decide (¬ (s >>> (nI q &&& 31) &&& 1) = 0) && d_two (d_src d w b q) (d_src d w o q)) 8
def d_bad (d : sd) (w : sw) (b k : Nat) : Bool := match w b k with
  | none => false
  | some (o, _) => d_diff d w b o (d_us d o (d_ip d b k))
def d_clash (d : sd) (w : sw) (T : Nat → Bool) : Bool := bh_any (fun b => T b && bh_any (fun k => d_bad d w b k) (d_ni d b)) 8
/-- the state of the search: wires, who is taken in, tasks -/
abbrev ss : Type := sw × (Nat → Bool) × List (Nat × Nat)
def d_tasks (d : sd) (b : Nat) : List (Nat × Nat) := ((List.range (d_ni d b)).filter (fun k => !d_op d b k)).map (fun k => (b, k))
def d_set (w : sw) (b k : Nat) (v : Option (Nat × Nat)) : sw := fun x y => if x = b ∧ y = k then v else w x y
def d_tk (T : Nat → Bool) (b : Nat) (v : Bool) : Nat → Bool := fun x => if x = b then v else T x
def d_new (d : sd) (s : ss) (e : Nat) : Bool := decide (d_st d e = 1) && !s.2.1 e
def d_step (d : sd) (s : ss) (b k e : Nat) : ss := if d_new d s e then (d_set s.1 b k (some (e, d_lf d e)), d_tk s.2.1 e true, s.2.2 ++ d_tasks d e) else (d_set s.1 b k (some (e, d_lf d e)), s.2.1, s.2.2)
def d_try (d : sd) (rec : ss → Nat → Option ss × Nat) (s : ss) (b k : Nat) : List Nat → Nat → Option ss × Nat
  | [], n => (none, n)
  | x :: xs, n => if 300 < n + 1 then (none, n + 1) else
      if d_clash d (d_step d s b k (x % 8)).1 (d_step d s b k (x % 8)).2.1 then d_try d rec s b k xs (n + 1) else
      match rec (d_step d s b k (x % 8)) (n + 1) with
      | (some f, n') => (some f, n')
      | (none, n') => if 300 < n' then (none, n') else d_try d rec s b k xs n'
def d_dfs (d : sd) : Nat → ss → Nat → Nat → Option ss × Nat
  | 0, _, _, n => (none, n)
  | f + 1, s, t, n => match s.2.2[t]? with
    | none => (some s, n)
    | some (b, k) => d_try d (fun s' n' => d_dfs d f s' (t + 1) n') s b k (d_cand d s.2.1 false b k) n
/-- the class's memory holds it -/
def w_enc : Option (Nat × Nat) → Int32
  | none => -1
  | some (o, l) => nI (o + 8 * l)
def rdC (M : bh_M) (d : sd) (w : sw) : Prop := ∀ b, b < 8 →
  (bh_I M 5 (b + 1) 0 = nI b ∧ bh_I M 5 (b + 1) 3 = nI (d_st d b) ∧ d_st d b ≤ 3 ∧ (¬ d_st d b = 0 → bh_I M 5 (b + 1) 4 = d_nm d b) ∧ bh_I M 5 (b + 1) 9 = nI (b + 8 * d_lf d b) ∧ d_lf d b ≤ 1000) ∧
  (∀ p, p < 8 → bh_I M 8 (b + 1) p = bh_oI (d_ver d b p) ∧ (∀ v, d_ver d b p = some v → v ≤ 9 ∧ bh_I M 9 (b + 1) p = d_us d b p)) ∧
  (bh_I M 7 (b + 1) 8 = nI (d_ni d b) ∧ d_ni d b ≤ 3) ∧
  (∀ k, k < d_ni d b → bh_I M 11 (b + 1) k = nI (d_ip d b k) ∧ d_ip d b k < 8 ∧ bh_I M 12 (b + 1) k = nI (d_lo d b k) ∧ d_lo d b k ≤ 9 ∧ bh_I M 13 (b + 1) k = nI (d_hi d b k) ∧ d_hi d b k ≤ 9 ∧ bh_I M 14 (b + 1) k = (if d_op d b k then 1 else 0)) ∧
  (∀ p, p < 8 → bh_I M 10 (b + 1) p = bh_oI (d_imp d b p)) ∧
  (∀ k, k < 3 → bh_I M 6 (b + 1) k = w_enc (w b k) ∧ ∀ o l, w b k = some (o, l) → o < 8 ∧ l ≤ 1000)
def tkC (M : bh_M) (T : Nat → Bool) : Prop := ∀ b, b < 8 → bh_I M 18 1 b = (if T b then 1 else 0)
theorem bn_0 {b : Nat} (h : b < 2147483648) : nI b = 0 ↔ b = 0 := bn_inj (b := 0) h (by decide)
theorem w_enc_neg {w : Option (Nat × Nat)} (h : ∀ o l, w = some (o, l) → o < 8 ∧ l ≤ 1000) : w_enc w = -1 ↔ w = none := by
  cases w with
  | none => exact ⟨fun _ => rfl, fun _ => rfl⟩
  | some p =>
    obtain ⟨o, l⟩ := p
    have := h o l rfl
    constructor
    · intro q
      exact absurd q (bn_not_neg1 (by omega))
    · intro q
      cases q
theorem bh_oI_neg {x : Option Nat} {N : Nat} (h : ∀ v, x = some v → v < N) (hN : Nat.ble N 2147483648 = true) : bh_oI x = -1 ↔ x = none := by
  cases x with
  | none => exact ⟨fun _ => rfl, fun _ => rfl⟩
  | some v =>
    constructor
    · intro q
      exact absurd q (bn_not_neg1 (bn_bd (h v rfl) hN))
    · intro q
      cases q
