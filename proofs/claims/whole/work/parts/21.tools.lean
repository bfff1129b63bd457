/-! reading a memory behind a write; filling; counting; loops -/
theorem bh_I_sI (M : bh_M) (t x j : Nat) (v : Int32) (a b c : Nat) : bh_I (bh_sI M t x j v) a b c = if a = t ∧ b = x ∧ c = j then v else bh_I M a b c := rfl
theorem bh_I_sJ (M : bh_M) (t x j : Nat) (v : Int64) : bh_I (bh_sJ M t x j v) = bh_I M := rfl
theorem bh_I_sD (M : bh_M) (t x j : Nat) (v : UInt64) : bh_I (bh_sD M t x j v) = bh_I M := rfl
theorem bh_I_sR (M : bh_M) (t x j : Nat) (v : Nat) : bh_I (bh_sR M t x j v) = bh_I M := rfl
theorem bh_J_sI (M : bh_M) (t x j : Nat) (v : Int32) : bh_J (bh_sI M t x j v) = bh_J M := rfl
theorem bh_J_sJ (M : bh_M) (t x j : Nat) (v : Int64) (a b c : Nat) : bh_J (bh_sJ M t x j v) a b c = if a = t ∧ b = x ∧ c = j then v else bh_J M a b c := rfl
theorem bh_J_sD (M : bh_M) (t x j : Nat) (v : UInt64) : bh_J (bh_sD M t x j v) = bh_J M := rfl
theorem bh_J_sR (M : bh_M) (t x j : Nat) (v : Nat) : bh_J (bh_sR M t x j v) = bh_J M := rfl
theorem bh_D_sI (M : bh_M) (t x j : Nat) (v : Int32) : bh_D (bh_sI M t x j v) = bh_D M := rfl
theorem bh_D_sJ (M : bh_M) (t x j : Nat) (v : Int64) : bh_D (bh_sJ M t x j v) = bh_D M := rfl
theorem bh_D_sD (M : bh_M) (t x j : Nat) (v : UInt64) (a b c : Nat) : bh_D (bh_sD M t x j v) a b c = if a = t ∧ b = x ∧ c = j then v else bh_D M a b c := rfl
theorem bh_D_sR (M : bh_M) (t x j : Nat) (v : Nat) : bh_D (bh_sR M t x j v) = bh_D M := rfl
theorem bh_R_sI (M : bh_M) (t x j : Nat) (v : Int32) : bh_R (bh_sI M t x j v) = bh_R M := rfl
theorem bh_R_sJ (M : bh_M) (t x j : Nat) (v : Int64) : bh_R (bh_sJ M t x j v) = bh_R M := rfl
theorem bh_R_sD (M : bh_M) (t x j : Nat) (v : UInt64) : bh_R (bh_sD M t x j v) = bh_R M := rfl
theorem bh_R_sR (M : bh_M) (t x j : Nat) (v : Nat) (a b c : Nat) : bh_R (bh_sR M t x j v) a b c = if a = t ∧ b = x ∧ c = j then v else bh_R M a b c := rfl
/-- the first n ints of an array are v -/
def bm_fill (M : bh_M) (t x n : Nat) (v : Int32) : bh_M := (fun a b c => if a = t ∧ b = x ∧ c < n then v else M.1 a b c, M.2)
theorem bh_I_fill (M : bh_M) (t x n : Nat) (v : Int32) (a b c : Nat) : bh_I (bm_fill M t x n v) a b c = if a = t ∧ b = x ∧ c < n then v else bh_I M a b c := rfl
theorem bh_J_fill (M : bh_M) (t x n : Nat) (v : Int32) : bh_J (bm_fill M t x n v) = bh_J M := rfl
theorem bh_D_fill (M : bh_M) (t x n : Nat) (v : Int32) : bh_D (bm_fill M t x n v) = bh_D M := rfl
theorem bh_R_fill (M : bh_M) (t x n : Nat) (v : Int32) : bh_R (bm_fill M t x n v) = bh_R M := rfl
theorem bm_fill_0 (M : bh_M) (t x : Nat) (v : Int32) : bm_fill M t x 0 v = M := by
  unfold bm_fill
  refine Prod.ext ?_ rfl
  funext a b c
  show (if a = t ∧ b = x ∧ c < 0 then v else M.1 a b c) = M.1 a b c
  rw [if_neg (by omega)]
theorem bm_fill_s (M : bh_M) (t x n : Nat) (v : Int32) : bh_sI (bm_fill M t x n v) t x n v = bm_fill M t x (n + 1) v := by
  unfold bm_fill bh_sI
  refine Prod.ext ?_ rfl
  funext a b c
  show bh_up _ t x n v a b c = (if a = t ∧ b = x ∧ c < n + 1 then v else M.1 a b c)
  unfold bh_up
  show (if a = t ∧ b = x ∧ c = n then v else if a = t ∧ b = x ∧ c < n then v else M.1 a b c) = _
  by_cases h1 : a = t ∧ b = x
  · by_cases h2 : c = n
    · rw [if_pos ⟨h1.1, h1.2, h2⟩, if_pos ⟨h1.1, h1.2, by omega⟩]
    · rw [if_neg (fun q => h2 q.2.2)]
      by_cases h3 : c < n
      · rw [if_pos ⟨h1.1, h1.2, h3⟩, if_pos ⟨h1.1, h1.2, by omega⟩]
      · rw [if_neg (fun q => h3 q.2.2), if_neg (fun q => by omega)]
  · rw [if_neg (fun q => h1 ⟨q.1, q.2.1⟩), if_neg (fun q => h1 ⟨q.1, q.2.1⟩), if_neg (fun q => h1 ⟨q.1, q.2.1⟩)]
/-- how many i below n have p -/
def bh_cnt (p : Nat → Bool) : Nat → Int32
  | 0 => 0
  | n + 1 => if p n then bh_cnt p n + 1 else bh_cnt p n
theorem bh_cnt_congr {p q : Nat → Bool} : ∀ {n : Nat}, (∀ i, i < n → p i = q i) → bh_cnt p n = bh_cnt q n
  | 0, _ => rfl
  | n + 1, h => by
    unfold bh_cnt
    rw [h n (by omega), bh_cnt_congr (n := n) (fun i hi => h i (by omega))]
def bh_sum (f : Nat → Int32) : Nat → Int32
  | 0 => 0
  | n + 1 => bh_sum f n + f n
theorem bh_sum_congr {p q : Nat → Int32} : ∀ {n : Nat}, (∀ i, i < n → p i = q i) → bh_sum p n = bh_sum q n
  | 0, _ => rfl
  | n + 1, h => by
    unfold bh_sum
    rw [h n (by omega), bh_sum_congr (n := n) (fun i hi => h i (by omega))]
def bh_dsum (q : Nat → Bool) (f : Nat → UInt64) : Nat → UInt64
  | 0 => FP.dconst0
  | n + 1 => if q n then FP.dadd (bh_dsum q f n) (f n) else bh_dsum q f n
theorem bh_dsum_congr {p q : Nat → Bool} {f g : Nat → UInt64} : ∀ {n : Nat}, (∀ i, i < n → p i = q i ∧ f i = g i) → bh_dsum p f n = bh_dsum q g n
  | 0, _ => rfl
  | n + 1, h => by
    unfold bh_dsum
    rw [(h n (by omega)).1, (h n (by omega)).2, bh_dsum_congr (n := n) (fun i hi => h i (by omega))]
/-- the best so far, or -1 -/
def bh_best (q : Nat → Bool) (r : Nat → Nat → Bool) : Nat → Option Nat
  | 0 => none
  | n + 1 => match bh_best q r n with
    | none => if q n then some n else none
    | some k => if q n && r n k then some n else some k
theorem bh_best_lt {q : Nat → Bool} {r : Nat → Nat → Bool} : ∀ {n k : Nat}, bh_best q r n = some k → k < n
  | 0, _, h => by cases h
  | n + 1, k, h => by
    unfold bh_best at h
    split at h
    · split at h
      · cases h; omega
      · cases h
    · rename_i k' e
      have := bh_best_lt e
      split at h
      · cases h; omega
      · cases h; omega
theorem bh_best_congr {p q : Nat → Bool} {r s : Nat → Nat → Bool} : ∀ {n : Nat}, (∀ i, i < n → p i = q i) → (∀ i j, i < n → j < n → r i j = s i j) → bh_best p r n = bh_best q s n
  | 0, _, _ => rfl
  | n + 1, h, g => by
    have e := bh_best_congr (n := n) (fun i hi => h i (by omega)) (fun i j hi hj => g i j (by omega) (by omega))
    unfold bh_best
    rw [e]
    cases hb : bh_best q s n with
    | none => rw [h n (by omega)]
    | some k =>
      have := bh_best_lt hb
      simp only
      rw [h n (by omega), g n k (by omega) (by omega)]
def bh_oI : Option Nat → Int32
  | none => -1
  | some k => nI k
/-- the first i below n with p -/
def bh_ff (p : Nat → Bool) (n : Nat) : Option Nat := (List.range n).find? p
theorem bh_ff_some {p : Nat → Bool} {n i : Nat} (hi : i < n) (hp : p i = true) (hn : ∀ j, j < i → p j = false) : bh_ff p n = some i := by
  unfold bh_ff
  rw [List.find?_range_eq_some]
  exact ⟨hp, List.mem_range.mpr hi, fun j hj => by rw [hn j hj]; rfl⟩
theorem bh_ff_none {p : Nat → Bool} {n : Nat} (hn : ∀ j, j < n → p j = false) : bh_ff p n = none := by
  unfold bh_ff
  rw [List.find?_eq_none]
  intro x hx
  rw [hn x (List.mem_range.mp hx)]
  exact Bool.false_ne_true
theorem bh_ff_congr {p q : Nat → Bool} {n : Nat} (h : ∀ i, i < n → p i = q i) : bh_ff p n = bh_ff q n := by
  unfold bh_ff
  have : ∀ (l : List Nat), (∀ i ∈ l, p i = q i) → l.find? p = l.find? q := by
    intro l
    induction l with
    | nil => intro _; rfl
    | cons a l ih =>
      intro hl
      rw [List.find?_cons, List.find?_cons, hl a List.mem_cons_self, ih (fun i hi => hl i (List.mem_cons_of_mem _ hi))]
  exact this _ (fun i hi => h i (List.mem_range.mp hi))
theorem bh_ff_lt {p : Nat → Bool} {n i : Nat} (h : bh_ff p n = some i) : i < n ∧ p i = true := by
  unfold bh_ff at h
  exact ⟨List.mem_range.mp (List.mem_of_find?_eq_some h), List.find?_some h⟩
/-- some i below n has p -/
def bh_any (p : Nat → Bool) (n : Nat) : Bool := (List.range n).any p
theorem bh_any_true {p : Nat → Bool} {n i : Nat} (hi : i < n) (hp : p i = true) : bh_any p n = true := List.any_eq_true.mpr ⟨i, List.mem_range.mpr hi, hp⟩
theorem bh_any_false {p : Nat → Bool} {n : Nat} (hn : ∀ j, j < n → p j = false) : bh_any p n = false := by
  unfold bh_any
  rw [List.any_eq_false]
  intro x hx
  rw [hn x (List.mem_range.mp hx)]
  exact Bool.false_ne_true
theorem bh_any_iff {p : Nat → Bool} {n : Nat} : bh_any p n = true ↔ ∃ i, i < n ∧ p i = true := by
  unfold bh_any
  rw [List.any_eq_true]
  constructor
  · rintro ⟨i, h1, h2⟩
    exact ⟨i, List.mem_range.mp h1, h2⟩
  · rintro ⟨i, h1, h2⟩
    exact ⟨i, List.mem_range.mpr h1, h2⟩
theorem bh_any_congr {p q : Nat → Bool} {n : Nat} (h : ∀ i, i < n → p i = q i) : bh_any p n = bh_any q n := by
  rw [Bool.eq_iff_iff, bh_any_iff, bh_any_iff]
  constructor
  · rintro ⟨i, h1, h2⟩
    exact ⟨i, h1, by rw [← h i h1]; exact h2⟩
  · rintro ⟨i, h1, h2⟩
    exact ⟨i, h1, by rw [h i h1]; exact h2⟩
/-- a loop with a counter -/
theorem bh_lp {T : Nat → bh_Op} {Z : bh_F → Prop} (pc n : Nat) (St : Nat → bh_S) (Inv : Nat → Prop) (step : ∀ i, i < n → Inv i → (Inv (i + 1) → bh_wp T (pc, St (i + 1)) Z) → bh_wp T (pc, St i) Z) (last : Inv n → bh_wp T (pc, St n) Z) (h0 : Inv 0) : bh_wp T (pc, St 0) Z := by
  have key : ∀ k i, i + k = n → Inv i → bh_wp T (pc, St i) Z := by
    intro k
    induction k with
    | zero => intro i e hi; have : i = n := by omega
              subst this; exact last hi
    | succ k ih => intro i e hi; exact step i (by omega) hi (fun h => ih (i + 1) (by omega) h)
  exact key n 0 (by omega) h0
/-- a loop whose states are told by what they keep -/
theorem bh_lpS {T : Nat → bh_Op} {Z : bh_F → Prop} (pc n : Nat) (Inv : Nat → bh_S → Prop) (step : ∀ i S, i < n → Inv i S → (∀ S', Inv (i + 1) S' → bh_wp T (pc, S') Z) → bh_wp T (pc, S) Z) (last : ∀ S, Inv n S → bh_wp T (pc, S) Z) (S : bh_S) (h0 : Inv 0 S) : bh_wp T (pc, S) Z := by
  have key : ∀ k i S, i + k = n → Inv i S → bh_wp T (pc, S) Z := by
    intro k
    induction k with
    | zero => intro i S e hi; have : i = n := by omega
              subst this; exact last S hi
    | succ k ih => intro i S e hi; exact step i S (by omega) hi (fun S' h => ih (i + 1) S' (by omega) h)
  exact key n 0 S (by omega) h0
theorem bn_rem {q : Nat} (k : Nat) (hq : q < 2147483648) (hk : 0 < k ∧ k < 2147483648) : nI q - nI q / nI k * nI k = nI (q % k) := by
  apply Int32.toInt_inj.mp
  have e1 := bn_toInt hq
  have e2 := bn_toInt hk.2
  have e4 : (nI q / nI k) = nI (q / k) := by
    apply Int32.toInt_inj.mp
    rw [Int32.toInt_div_of_ne_left _ _ (by
      intro h
      have := congrArg Int32.toInt h
      rw [e1] at this
      have h9 : (Int32.minValue).toInt = -2147483648 := rfl
      omega), e1, e2, bn_toInt (Nat.lt_of_le_of_lt (Nat.div_le_self _ _) hq)]
    exact (Int.ofNat_tdiv q k).symm ▸ rfl
  have h3 : q / k * k ≤ q := Nat.div_mul_le_self q k
  rw [e4, bn_mul]
  have h5 : nI q = nI (q % k) + nI (q / k * k) := by
    rw [bn_add]
    congr 1
    have := Nat.mod_add_div q k
    rw [Nat.mul_comm] at this
    omega
  rw [h5]
  congr 1
  exact Int32.add_sub_cancel _ _
/-- the ints of a tag are g -/
def bm_A (M : bh_M) (t : Nat) (g : Nat → Nat → Int32) : bh_M := (fun a b c => if a = t then g b c else M.1 a b c, M.2)
theorem bh_I_A (M : bh_M) (t : Nat) (g : Nat → Nat → Int32) (a b c : Nat) : bh_I (bm_A M t g) a b c = if a = t then g b c else bh_I M a b c := rfl
theorem bh_J_A (M : bh_M) (t : Nat) (g : Nat → Nat → Int32) : bh_J (bm_A M t g) = bh_J M := rfl
theorem bh_D_A (M : bh_M) (t : Nat) (g : Nat → Nat → Int32) : bh_D (bm_A M t g) = bh_D M := rfl
theorem bh_R_A (M : bh_M) (t : Nat) (g : Nat → Nat → Int32) : bh_R (bm_A M t g) = bh_R M := rfl
theorem bm_A_eta (M : bh_M) (t : Nat) : bm_A M t (bh_I M t) = M := by
  unfold bm_A
  refine Prod.ext ?_ rfl
  funext a b c
  show (if a = t then bh_I M t b c else M.1 a b c) = M.1 a b c
  split
  · rename_i h; rw [h]; rfl
  · rfl
theorem bm_A_s (M : bh_M) (t x j : Nat) (v : Int32) (g g' : Nat → Nat → Int32) (h : ∀ b c, g' b c = if b = x ∧ c = j then v else g b c) : bh_sI (bm_A M t g) t x j v = bm_A M t g' := by
  unfold bm_A bh_sI
  refine Prod.ext ?_ rfl
  funext a b c
  show (if a = t ∧ b = x ∧ c = j then v else if a = t then g b c else M.1 a b c) = (if a = t then g' b c else M.1 a b c)
  by_cases e : a = t
  · rw [if_pos e, if_pos e, h b c]
    by_cases e2 : b = x ∧ c = j
    · rw [if_pos ⟨e, e2⟩, if_pos e2]
    · rw [if_neg (fun q => e2 q.2), if_neg e2]
  · rw [if_neg e, if_neg e, if_neg (fun q => e q.1)]
/-- the longs of a tag are g -/
def bm_AJ (M : bh_M) (t : Nat) (g : Nat → Nat → Int64) : bh_M := (M.1, fun a b c => if a = t then g b c else M.2.1 a b c, M.2.2)
theorem bh_J_AJ (M : bh_M) (t : Nat) (g : Nat → Nat → Int64) (a b c : Nat) : bh_J (bm_AJ M t g) a b c = if a = t then g b c else bh_J M a b c := rfl
theorem bh_I_AJ (M : bh_M) (t : Nat) (g : Nat → Nat → Int64) : bh_I (bm_AJ M t g) = bh_I M := rfl
theorem bh_D_AJ (M : bh_M) (t : Nat) (g : Nat → Nat → Int64) : bh_D (bm_AJ M t g) = bh_D M := rfl
theorem bh_R_AJ (M : bh_M) (t : Nat) (g : Nat → Nat → Int64) : bh_R (bm_AJ M t g) = bh_R M := rfl
theorem bm_AJ_eta (M : bh_M) (t : Nat) : bm_AJ M t (bh_J M t) = M := by
  unfold bm_AJ
  refine Prod.ext rfl (Prod.ext ?_ rfl)
  funext a b c
  show (if a = t then bh_J M t b c else M.2.1 a b c) = M.2.1 a b c
  split
  · rename_i h; rw [h]; rfl
  · rfl
theorem bm_AJ_s (M : bh_M) (t x j : Nat) (v : Int64) (g g' : Nat → Nat → Int64) (h : ∀ b c, g' b c = if b = x ∧ c = j then v else g b c) : bh_sJ (bm_AJ M t g) t x j v = bm_AJ M t g' := by
  unfold bm_AJ bh_sJ
  refine Prod.ext rfl (Prod.ext ?_ rfl)
  funext a b c
  show (if a = t ∧ b = x ∧ c = j then v else if a = t then g b c else M.2.1 a b c) = (if a = t then g' b c else M.2.1 a b c)
  by_cases e : a = t
  · rw [if_pos e, if_pos e, h b c]
    by_cases e2 : b = x ∧ c = j
    · rw [if_pos ⟨e, e2⟩, if_pos e2]
    · rw [if_neg (fun q => e2 q.2), if_neg e2]
  · rw [if_neg e, if_neg e, if_neg (fun q => e q.1)]
/-- a loop with a counter and something else that changes -/
theorem bh_lpW {α : Type} {T : Nat → bh_Op} {Z : bh_F → Prop} (pc n : Nat) (St : Nat → α → bh_S) (Inv : Nat → α → Prop) (step : ∀ i w, i < n → Inv i w → (∀ w', Inv (i + 1) w' → bh_wp T (pc, St (i + 1) w') Z) → bh_wp T (pc, St i w) Z) (last : ∀ w, Inv n w → bh_wp T (pc, St n w) Z) (w : α) (h0 : Inv 0 w) : bh_wp T (pc, St 0 w) Z := by
  have key : ∀ k i w, i + k = n → Inv i w → bh_wp T (pc, St i w) Z := by
    intro k
    induction k with
    | zero => intro i w e hi; have : i = n := by omega
              subst this; exact last w hi
    | succ k ih => intro i w e hi; exact step i w (by omega) hi (fun w' h => ih (i + 1) w' (by omega) h)
  exact key n 0 w (by omega) h0
theorem bn_sub {a b : Nat} (h : b ≤ a) : nI a - nI b = nI (a - b) := by
  have e : nI a = nI (a - b) + nI b := by rw [bn_add]; congr 1; omega
  rw [e]
  exact Int32.add_sub_cancel _ _
theorem bh_any_up {p : Nat → Bool} {i : Nat} (h : ∀ j, j < i → p j = false) (hi : p i = false) : ∀ j, j < i + 1 → p j = false := by
  intro j hj
  by_cases e : j = i
  · subst e; exact hi
  · exact h j (by omega)
theorem bn_div {q : Nat} (k : Nat) (hq : q < 2147483648) (hk : 0 < k ∧ k < 2147483648) : nI q / nI k = nI (q / k) := by
  have e1 := bn_toInt hq
  have e2 := bn_toInt hk.2
  apply Int32.toInt_inj.mp
  rw [Int32.toInt_div_of_ne_left _ _ (by
    intro h
    have := congrArg Int32.toInt h
    rw [e1] at this
    have h9 : (Int32.minValue).toInt = -2147483648 := rfl
    omega), e1, e2, bn_toInt (Nat.lt_of_le_of_lt (Nat.div_le_self _ _) hq)]
  exact (Int.ofNat_tdiv q k).symm ▸ rfl
/-- longs that are natural numbers -/
def nJ (n : Nat) : Int64 := Int64.ofNat n
theorem bj_toInt {a : Nat} (h : a < 9223372036854775808) : (nJ a).toInt = (a : Int) := Int64.toInt_ofNat_of_lt h
theorem bj_add (a b : Nat) : nJ a + nJ b = nJ (a + b) := (Int64.ofNat_add a b).symm
theorem bj_mul (a b : Nat) : nJ a * nJ b = nJ (a * b) := (Int64.ofNat_mul a b).symm
theorem bj_of {a : Nat} (h : a < 2147483648) : (nI a).toInt64 = nJ a := by
  apply Int64.toInt_inj.mp
  rw [Int32.toInt_toInt64, bn_toInt h, bj_toInt (by omega)]
theorem bj_inj {a b : Nat} (ha : a < 9223372036854775808) (hb : b < 9223372036854775808) : nJ a = nJ b ↔ a = b := by
  rw [← Int64.toInt_inj, bj_toInt ha, bj_toInt hb]
  omega
theorem bj_div {q : Nat} (k : Nat) (hq : q < 9223372036854775808) (hk : 0 < k ∧ k < 9223372036854775808) : nJ q / nJ k = nJ (q / k) := by
  have e1 := bj_toInt hq
  have e2 := bj_toInt hk.2
  apply Int64.toInt_inj.mp
  rw [Int64.toInt_div_of_ne_left _ _ (by
    intro h
    have := congrArg Int64.toInt h
    rw [e1] at this
    have h9 : (Int64.minValue).toInt = -9223372036854775808 := rfl
    omega), e1, e2, bj_toInt (Nat.lt_of_le_of_lt (Nat.div_le_self _ _) hq)]
  exact (Int.ofNat_tdiv q k).symm ▸ rfl
theorem bj_rem {q : Nat} (k : Nat) (hq : q < 9223372036854775808) (hk : 0 < k ∧ k < 9223372036854775808) : nJ q - nJ q / nJ k * nJ k = nJ (q % k) := by
  rw [bj_div k hq hk, bj_mul]
  have h5 : nJ q = nJ (q % k) + nJ (q / k * k) := by
    rw [bj_add]
    congr 1
    have := Nat.mod_add_div q k
    rw [Nat.mul_comm] at this
    omega
  rw [h5]
  exact Int64.add_sub_cancel _ _
theorem bj_0le {a : Nat} (h : a < 9223372036854775808) : ¬ nJ a < 0 := by
  rw [Int64.lt_iff_toInt_lt, bj_toInt h, show (0 : Int64).toInt = 0 from rfl]
  omega
theorem bj_32 {a : Nat} (h : a < 2147483648) : (nJ a).toInt32 = nI a := by
  apply Int32.toInt_inj.mp
  rw [Int64.toInt_toInt32, bj_toInt (by omega), bn_toInt h]
  rw [Int.bmod_eq_of_le] <;> omega
