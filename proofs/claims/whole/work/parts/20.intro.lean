/-! PURE PART. How many objects of each tag there are behind the constructors; the references that never change. -/
def bh_c0 (t : Nat) : Nat := match t with
  | 3 => 1
  | 4 => 1
  | 5 => 8
  | 6 => 8
  | 7 => 8
  | 8 => 8
  | 9 => 8
  | 10 => 8
  | 11 => 8
  | 12 => 8
  | 13 => 8
  | 14 => 8
  | 15 => 1
  | 16 => 1
  | 17 => 1
  | 18 => 1
  | 19 => 1
  | 20 => 1
  | 21 => 20
  | 22 => 20
  | 23 => 1
  | 24 => 1
  | 25 => 1
  | 26 => 1
  | 40 => 1
  | n => if 41 ≤ n ∧ n ≤ 70 then 1 else 0
def bh_stat (P : (Nat → Nat → Nat → Nat) × (Nat → Nat)) : Prop :=
  (∀ t, bh_c0 t ≤ P.2 t) ∧ (∀ t x j, 1 ≤ x → x ≤ bh_c0 t → t ≠ 4 → t ≠ 20 → 3 ≤ bh_kd t j → P.1 t x j = x) ∧ (∀ j, j < 8 → P.1 4 1 j = j + 1) ∧
  (∀ j, j < 20 → 1 ≤ P.1 20 1 j ∧ P.1 20 1 j ≤ 20)
theorem bh_stat.c {M : bh_M} (h : bh_stat M.2.2.2) {t x : Nat} (hx : 1 ≤ x ∧ x ≤ bh_c0 t) : x ≤ bh_C M t := Nat.le_trans hx.2 (h.1 t)
theorem bh_stat.r {M : bh_M} (h : bh_stat M.2.2.2) {t x j : Nat} (hx : 1 ≤ x ∧ x ≤ bh_c0 t) (h4 : (t == 4 || t == 20) = false) (hk : Nat.ble 3 (bh_kd t j) = true) : bh_R M t x j = x := by
  have h5 : t ≠ 4 ∧ t ≠ 20 := by
    simp only [Bool.or_eq_false_iff, beq_eq_false_iff_ne] at h4
    exact h4
  exact h.2.1 t x j hx.1 hx.2 h5.1 h5.2 (Nat.le_of_ble_eq_true hk)
theorem vp_in_lt {i : Int32} {n : Nat} (h : vp_in i n) : i.toNatClampNeg < n := by
  unfold vp_in at h
  omega
theorem bh_stat.b {M : bh_M} (h : bh_stat M.2.2.2) {i : Int32} (hi : vp_in i 8) : bh_R M 4 1 i.toNatClampNeg = i.toNatClampNeg + 1 := h.2.2.1 _ (vp_in_lt hi)
theorem bn_toInt {a : Nat} (h : a < 2147483648) : (nI a).toInt = (a : Int) := Int32.toInt_ofNat_small (by omega)
theorem bn_clamp {a N : Nat} (h : a < N) (hN : Nat.ble N 2147483648 = true) : (nI a).toNatClampNeg = a := by
  have h2 := Nat.le_of_ble_eq_true hN
  have := bn_toInt (a := a) (by omega)
  show (nI a).toInt.toNat = a
  omega
theorem bn_in {a N : Nat} (h : a < N) (hN : Nat.ble N 2147483648 = true) : vp_in (nI a) N := by
  have h2 := Nat.le_of_ble_eq_true hN
  have h3 := bn_toInt (a := a) (by omega)
  unfold vp_in
  rw [bn_clamp h hN]
  intro q
  rcases q with q | q
  · have h4 := Int32.lt_iff_toInt_lt.mp q
    rw [h3] at h4
    have h5 : (0 : Int32).toInt = 0 := rfl
    omega
  · omega
theorem bn_s (a : Nat) : nI a + 1 = nI (a + 1) := (Int32.ofNat_add a 1).symm
theorem bn_add (a b : Nat) : nI a + nI b = nI (a + b) := (Int32.ofNat_add a b).symm
theorem bn_pred (a : Nat) : nI (a + 1) - 1 = nI a := by
  rw [← bn_s]
  exact Int32.add_sub_cancel _ _
theorem bn_dec (x : Nat) : nI (x + 1) + (-1) = nI x := by
  rw [← bn_s, Int32.add_assoc, show (1 : Int32) + (-1) = 0 from rfl, Int32.add_zero]
theorem bn_mul (a b : Nat) : nI a * nI b = nI (a * b) := (Int32.ofNat_mul a b).symm
theorem bn_lt {a b : Nat} (ha : a < 2147483648) (hb : b < 2147483648) : nI a < nI b ↔ a < b := by
  rw [Int32.lt_iff_toInt_lt, bn_toInt ha, bn_toInt hb]
  omega
theorem bn_le {a b : Nat} (ha : a < 2147483648) (hb : b < 2147483648) : nI a ≤ nI b ↔ a ≤ b := by
  rw [Int32.le_iff_toInt_le, bn_toInt ha, bn_toInt hb]
  omega
theorem bn_inj {a b : Nat} (ha : a < 2147483648) (hb : b < 2147483648) : nI a = nI b ↔ a = b := by
  constructor
  · intro h
    have := congrArg Int32.toInt h
    rw [bn_toInt ha, bn_toInt hb] at this
    omega
  · intro h
    rw [h]
theorem bn_ne {a b : Nat} (ha : a < 2147483648) (hb : b < 2147483648) : ¬ nI a = nI b ↔ ¬ a = b := not_congr (bn_inj ha hb)
theorem bn_bd {a N : Nat} (h : a < N) (hN : Nat.ble N 2147483648 = true) : a < 2147483648 := Nat.lt_of_lt_of_le h (Nat.le_of_ble_eq_true hN)
theorem bn_of {i : Int32} {n : Nat} (h : vp_in i n) : i = nI i.toNatClampNeg ∧ i.toNatClampNeg < n := by
  refine ⟨?_, vp_in_lt h⟩
  unfold vp_in at h
  apply Int32.toInt_inj.mp
  have h1 : ¬ i < 0 := fun q => h (Or.inl q)
  rw [Int32.lt_iff_toInt_lt] at h1
  have h5 : (0 : Int32).toInt = 0 := rfl
  have h6 : i.toInt < 2147483648 := Int32.toInt_lt i
  have h7 : i.toNatClampNeg = i.toInt.toNat := rfl
  rw [h7, bn_toInt (by omega)]
  omega
theorem bn_not_neg1 {b : Nat} (h : b < 2147483648) : ¬ nI b = -1 := by
  intro q
  have := congrArg Int32.toInt q
  rw [bn_toInt h] at this
  have h2 : (-1 : Int32).toInt = -1 := rfl
  omega
theorem bn_nonneg {b : Nat} (h : b < 2147483648) : ¬ nI b < 0 := by
  intro q
  have := Int32.lt_iff_toInt_lt.mp q
  rw [bn_toInt h] at this
  have h2 : (0 : Int32).toInt = 0 := rfl
  omega
theorem bn_0le {b : Nat} (h : b < 2147483648) : 0 ≤ nI b := by
  rw [Int32.le_iff_toInt_le, bn_toInt h]
  have h2 : (0 : Int32).toInt = 0 := rfl
  omega
theorem bn_le0 {b : Nat} (h : b < 2147483648) : nI b ≤ 0 ↔ b = 0 := by
  rw [show (0 : Int32) = nI 0 from rfl, bn_le h (by decide)]
  omega
theorem bn_gt0 {b : Nat} (h : b < 2147483648) : 0 < nI b ↔ ¬ b = 0 := by
  rw [show (0 : Int32) = nI 0 from rfl, bn_lt (by decide) h]
  omega
theorem bh_b8k {k : Nat} (h : k < 8) : 1 ≤ k + 1 ∧ k + 1 ≤ 8 := ⟨Nat.le_add_left _ _, h⟩
theorem bh_stat.vk {M : bh_M} (h : bh_stat M.2.2.2) {k : Nat} (hk : k < 20) : 1 ≤ bh_R M 20 1 k ∧ bh_R M 20 1 k ≤ 20 := h.2.2.2 _ hk
theorem bh_b8 {i : Int32} (hi : vp_in i 8) : 1 ≤ i.toNatClampNeg + 1 ∧ i.toNatClampNeg + 1 ≤ 8 := ⟨Nat.le_add_left _ _, vp_in_lt hi⟩
theorem bh_stat.v {M : bh_M} (h : bh_stat M.2.2.2) {i : Int32} (hi : vp_in i 20) : 1 ≤ bh_R M 20 1 i.toNatClampNeg ∧ bh_R M 20 1 i.toNatClampNeg ≤ 20 := h.2.2.2 _ (vp_in_lt hi)
theorem bh_stat_sR {M : bh_M} (h : bh_stat M.2.2.2) {k y : Nat} (hy : 1 ≤ y ∧ y ≤ 20) : bh_stat (bh_sR M 20 1 k y).2.2.2 := by
  obtain ⟨h1, h2, h3, h4⟩ := h
  refine ⟨h1, fun t x j a b c d e => ?_, fun j hj => ?_, fun j hj => ?_⟩
  · show (if t = 20 ∧ x = 1 ∧ j = k then y else M.2.2.2.1 t x j) = x
    rw [if_neg (fun q => d q.1)]
    exact h2 t x j a b c d e
  · show (if 4 = 20 ∧ 1 = 1 ∧ j = k then y else M.2.2.2.1 4 1 j) = j + 1
    rw [if_neg (fun q => absurd q.1 (by decide))]
    exact h3 j hj
  · show 1 ≤ (if 20 = 20 ∧ 1 = 1 ∧ j = k then y else M.2.2.2.1 20 1 j) ∧ (if 20 = 20 ∧ 1 = 1 ∧ j = k then y else M.2.2.2.1 20 1 j) ≤ 20
    split
    · exact hy
    · exact h4 j hj
theorem bh_here {T : List (Nat × bh_Op)} (hT : ∀ pc, bh_mono (bh_tb T pc)) {pc : Nat} {o : bh_Op} (e : bh_tb T pc = o) {S : bh_S} {Z : bh_F → Prop} (h : o S (fun y => bh_wp (bh_tb T) y Z) Z) : bh_wp (bh_tb T) (pc, S) Z := bh_step hT (by rw [e]; exact h)
theorem bi_fn {n : Nat} {T : Nat → bh_Op} {a : List bh_V} {M : bh_M} {Z : bh_F → Prop} (e1 : Nat.ble (bh_args a).length n = true) (L : List (Option bh_V)) (e2 : bh_args a ++ List.replicate (n - (bh_args a).length) none = L) (h : bh_wp T (0, L, [], M, 0) Z) : bh_fn n T a M Z := ⟨Nat.le_of_ble_eq_true e1, by unfold bh_init; rw [e2]; exact h⟩
section
variable {K : Nat × bh_S → Prop} {Z : bh_F → Prop} {L : List (Option bh_V)} {st : List bh_V} {M : bh_M} {c : Nat} {n : Nat}
theorem bi_push {v : bh_V} (h : K (n, L, v :: st, M, c)) : bo_st n (bg_push v) (L, st, M, c) K Z := h
theorem bi_ii {f : Int32 → Int32 → Int32} {x y : Int32} (v : Int32) (e : f x y = v) (h : K (n, L, .inl (.int v) :: st, M, c)) : bo_st n (bg_ii f) (L, .inl (.int y) :: .inl (.int x) :: st, M, c) K Z := by subst e; exact h
theorem bi_dv {f : Int32 → Int32 → Int32} {x y : Int32} (v : Int32) (e : f x y = v) (h0 : ¬ y = 0) (h : K (n, L, .inl (.int v) :: st, M, c)) : bo_st n (bg_dv f) (L, .inl (.int y) :: .inl (.int x) :: st, M, c) K Z := by subst e; exact ⟨h0, h⟩
theorem bi_ll {f : Int64 → Int64 → Int64} {x y : Int64} (v : Int64) (e : f x y = v) (h : K (n, L, .inl (.long v) :: st, M, c)) : bo_st n (bg_ll f) (L, .inl (.long y) :: .inl (.long x) :: st, M, c) K Z := by subst e; exact h
theorem bi_lv {f : Int64 → Int64 → Int64} {x y : Int64} (v : Int64) (e : f x y = v) (h0 : ¬ y = 0) (h : K (n, L, .inl (.long v) :: st, M, c)) : bo_st n (bg_lv f) (L, .inl (.long y) :: .inl (.long x) :: st, M, c) K Z := by subst e; exact ⟨h0, h⟩
theorem bi_i1 {f : Int32 → bh_V} {x : Int32} (v : bh_V) (e : f x = v) (h : K (n, L, v :: st, M, c)) : bo_st n (bg_i1 f) (L, .inl (.int x) :: st, M, c) K Z := by subst e; exact h
theorem bi_l1 {f : Int64 → bh_V} {x : Int64} (v : bh_V) (e : f x = v) (h : K (n, L, v :: st, M, c)) : bo_st n (bg_l1 f) (L, .inl (.long x) :: st, M, c) K Z := by subst e; exact h
theorem bi_dd {f : UInt64 → UInt64 → UInt64} {x y : UInt64} (v : UInt64) (e : f x y = v) (h0 : vf_n64 v) (h : K (n, L, .inl (.double v) :: st, M, c)) : bo_st n (bg_dd f) (L, .inl (.double y) :: .inl (.double x) :: st, M, c) K Z := by subst e; exact ⟨h0, h⟩
theorem bi_dc {f : UInt64 → UInt64 → Int32} {x y : UInt64} (v : Int32) (e : f x y = v) (h : K (n, L, .inl (.int v) :: st, M, c)) : bo_st n (bg_dc f) (L, .inl (.double y) :: .inl (.double x) :: st, M, c) K Z := by subst e; exact h
theorem bi_lc {f : Int64 → Int64 → Int32} {x y : Int64} (v : Int32) (e : f x y = v) (h : K (n, L, .inl (.int v) :: st, M, c)) : bo_st n (bg_lc f) (L, .inl (.long y) :: .inl (.long x) :: st, M, c) K Z := by subst e; exact h
theorem bi_dup {v : bh_V} (e : bh_cat v = 1) (h : K (n, L, v :: v :: st, M, c)) : bo_st n bg_dup (L, v :: st, M, c) K Z := ⟨e, h⟩
theorem bi_dup2 {v w : bh_V} (e : bh_cat v = 1) (e2 : bh_cat w = 1) (h : K (n, L, v :: w :: v :: w :: st, M, c)) : bo_st n bg_dup2 (L, v :: w :: st, M, c) K Z := ⟨e, e2, h⟩
theorem bi_dup_x1 {v w : bh_V} (e : bh_cat v = 1) (e2 : bh_cat w = 1) (h : K (n, L, v :: w :: v :: st, M, c)) : bo_st n bg_dup_x1 (L, v :: w :: st, M, c) K Z := ⟨e, e2, h⟩
theorem bi_pop {v : bh_V} (e : bh_cat v = 1) (h : K (n, L, st, M, c)) : bo_st n bg_pop (L, v :: st, M, c) K Z := ⟨e, h⟩
theorem bi_ild {i : Nat} {x : Int32} (e : L[i]? = some (some (.inl (.int x)))) (h : K (n, L, .inl (.int x) :: st, M, c)) : bo_ild n i (L, st, M, c) K Z := by
  unfold bo_ild
  simp only [e]
  exact h
theorem bi_lld {i : Nat} {x : Int64} (e : L[i]? = some (some (.inl (.long x)))) (h : K (n, L, .inl (.long x) :: st, M, c)) : bo_lld n i (L, st, M, c) K Z := by
  unfold bo_lld
  simp only [e]
  exact h
theorem bi_dld {i : Nat} {x : UInt64} (e : L[i]? = some (some (.inl (.double x)))) (h : K (n, L, .inl (.double x) :: st, M, c)) : bo_dld n i (L, st, M, c) K Z := by
  unfold bo_dld
  simp only [e]
  exact h
theorem bi_ald {i : Nat} {q : Nat × Nat} (e : L[i]? = some (some (.inr q))) (h : K (n, L, .inr q :: st, M, c)) : bo_ald n i (L, st, M, c) K Z := by
  unfold bo_ald
  simp only [e]
  exact h
theorem bi_ist {i : Nat} {x : Int32} (L' : List (Option bh_V)) (e1 : bh_free L i = true) (e2 : Nat.blt i L.length = true) (e3 : L.set i (some (.inl (.int x))) = L') (h : K (n, L', st, M, c)) : bo_ist n i (L, .inl (.int x) :: st, M, c) K Z := by
  subst e3; exact ⟨e1, Nat.le_of_ble_eq_true e2, h⟩
theorem bi_ast {i : Nat} {q : Nat × Nat} (L' : List (Option bh_V)) (e1 : bh_free L i = true) (e2 : Nat.blt i L.length = true) (e3 : L.set i (some (.inr q)) = L') (h : K (n, L', st, M, c)) : bo_ast n i (L, .inr q :: st, M, c) K Z := by
  subst e3; exact ⟨e1, Nat.le_of_ble_eq_true e2, h⟩
theorem bi_dst {i : Nat} {x : UInt64} (L' : List (Option bh_V)) (e1 : bh_free L i = true) (e2 : Nat.blt (i + 1) L.length = true) (e3 : (L.set i (some (.inl (.double x)))).set (i + 1) none = L') (h : K (n, L', st, M, c)) : bo_dst n i (L, .inl (.double x) :: st, M, c) K Z := by
  subst e3; exact ⟨e1, Nat.le_of_ble_eq_true e2, h⟩
theorem bi_lst {i : Nat} {x : Int64} (L' : List (Option bh_V)) (e1 : bh_free L i = true) (e2 : Nat.blt (i + 1) L.length = true) (e3 : (L.set i (some (.inl (.long x)))).set (i + 1) none = L') (h : K (n, L', st, M, c)) : bo_lst n i (L, .inl (.long x) :: st, M, c) K Z := by
  subst e3; exact ⟨e1, Nat.le_of_ble_eq_true e2, h⟩
theorem bi_inc {i : Nat} {x d : Int32} (L' : List (Option bh_V)) (e : L[i]? = some (some (.inl (.int x)))) (e1 : bh_free L i = true) (e2 : Nat.blt i L.length = true) (e3 : L.set i (some (.inl (.int (x + d)))) = L') (h : K (n, L', st, M, c)) : bo_inc n i d (L, st, M, c) K Z := by
  unfold bo_inc
  simp only [e]
  subst e3
  exact ⟨e1, Nat.le_of_ble_eq_true e2, h⟩
theorem bi_incn {i : Nat} {x : Nat} (L' : List (Option bh_V)) (e : L[i]? = some (some (.inl (.int (nI x))))) (e1 : bh_free L i = true) (e2 : Nat.blt i L.length = true) (e3 : L.set i (some (.inl (.int (nI (x + 1))))) = L') (h : K (n, L', st, M, c)) : bo_inc n i 1 (L, st, M, c) K Z := by
  unfold bo_inc
  simp only [e]
  subst e3
  exact ⟨e1, Nat.le_of_ble_eq_true e2, by rw [bn_s]; exact h⟩
theorem bi_decn {i : Nat} {x : Nat} (L' : List (Option bh_V)) (e : L[i]? = some (some (.inl (.int (nI (x + 1)))))) (e1 : bh_free L i = true) (e2 : Nat.blt i L.length = true) (e3 : L.set i (some (.inl (.int (nI x)))) = L') (h : K (n, L', st, M, c)) : bo_inc n i (-1) (L, st, M, c) K Z := by
  unfold bo_inc
  simp only [e]
  subst e3
  exact ⟨e1, Nat.le_of_ble_eq_true e2, by rw [bn_dec]; exact h⟩
theorem bi_if1n {t : Nat} {P : Int32 → Prop} {x : Int32} (Q : Prop) (e : P x ↔ Q) (h1 : Q → K (t, L, st, M, c)) (h2 : ¬ Q → K (n, L, st, M, c)) : bo_if1 n t P (L, .inl (.int x) :: st, M, c) K Z := ⟨fun q => h1 (e.mp q), fun q => h2 (fun w => q (e.mpr w))⟩
theorem bi_if2n {t : Nat} {P : Int32 → Int32 → Prop} {x y : Int32} (Q : Prop) (e : P x y ↔ Q) (h1 : Q → K (t, L, st, M, c)) (h2 : ¬ Q → K (n, L, st, M, c)) : bo_if2 n t P (L, .inl (.int y) :: .inl (.int x) :: st, M, c) K Z := ⟨fun q => h1 (e.mp q), fun q => h2 (fun w => q (e.mpr w))⟩
theorem bi_if1 {t : Nat} {P : Int32 → Prop} {x : Int32} (h1 : P x → K (t, L, st, M, c)) (h2 : ¬ P x → K (n, L, st, M, c)) : bo_if1 n t P (L, .inl (.int x) :: st, M, c) K Z := ⟨h1, h2⟩
theorem bi_if2 {t : Nat} {P : Int32 → Int32 → Prop} {x y : Int32} (h1 : P x y → K (t, L, st, M, c)) (h2 : ¬ P x y → K (n, L, st, M, c)) : bo_if2 n t P (L, .inl (.int y) :: .inl (.int x) :: st, M, c) K Z := ⟨h1, h2⟩
theorem bi_go {t : Nat} {S : bh_S} (h : K (t, S)) : bo_go t S K Z := h
theorem bi_sw {cs : List (Int32 × Nat)} {d : Nat} {x : Int32} (h1 : ∀ q ∈ cs, x = q.1 → K (q.2, L, st, M, c)) (h2 : (∀ q ∈ cs, ¬ x = q.1) → K (d, L, st, M, c)) : bo_sw cs d (L, .inl (.int x) :: st, M, c) K Z := ⟨h1, h2⟩
theorem bi_gI {t j x : Nat} (w : Int32) (ew : bh_I M t x j = w) (hs : bh_stat M.2.2.2) (hx : 1 ≤ x ∧ x ≤ bh_c0 t) (h : K (n, L, .inl (.int w) :: st, M, c)) : bo_gI n t j (L, .inr (t, x) :: st, M, c) K Z := by subst ew; exact ⟨rfl, hx.1, hs.c hx, h⟩
theorem bi_gD {t j x : Nat} (w : UInt64) (ew : bh_D M t x j = w) (hs : bh_stat M.2.2.2) (hx : 1 ≤ x ∧ x ≤ bh_c0 t) (h : K (n, L, .inl (.double w) :: st, M, c)) : bo_gD n t j (L, .inr (t, x) :: st, M, c) K Z := by subst ew; exact ⟨rfl, hx.1, hs.c hx, h⟩
theorem bi_gR {t j k x : Nat} (hs : bh_stat M.2.2.2) (hx : 1 ≤ x ∧ x ≤ bh_c0 t) (h4 : (t == 4 || t == 20) = false) (hk : Nat.ble 3 (bh_kd t j) = true) (h : K (n, L, .inr (k, x) :: st, M, c)) : bo_gR n t j k (L, .inr (t, x) :: st, M, c) K Z := ⟨rfl, hx.1, hs.c hx, by rw [show bh_R M t x j = x from hs.r hx h4 hk]; exact h⟩
theorem bi_pI {t j x : Nat} {v : Int32} (hs : bh_stat M.2.2.2) (hx : 1 ≤ x ∧ x ≤ bh_c0 t) (h : K (n, L, st, bh_sI M t x j v, c)) : bo_pI n t j (L, .inl (.int v) :: .inr (t, x) :: st, M, c) K Z := ⟨rfl, hx.1, hs.c hx, h⟩
theorem bi_pZ {t j x : Nat} {v : Int32} (hs : bh_stat M.2.2.2) (hx : 1 ≤ x ∧ x ≤ bh_c0 t) (hv : v = 0 ∨ v = 1) (h : K (n, L, st, bh_sI M t x j v, c)) : bo_pZ n t j (L, .inl (.int v) :: .inr (t, x) :: st, M, c) K Z := ⟨rfl, hx.1, hs.c hx, hv, h⟩
theorem bi_pD {t j x : Nat} {v : UInt64} (hs : bh_stat M.2.2.2) (hx : 1 ≤ x ∧ x ≤ bh_c0 t) (h : K (n, L, st, bh_sD M t x j v, c)) : bo_pD n t j (L, .inl (.double v) :: .inr (t, x) :: st, M, c) K Z := ⟨rfl, hx.1, hs.c hx, h⟩
theorem bi_Iald {t x : Nat} {i : Int32} (k : Nat) (e : i.toNatClampNeg = k) (w : Int32) (ew : bh_I M t x k = w) (hs : bh_stat M.2.2.2) (ht : bh_ak t = 1) (hx : 1 ≤ x ∧ x ≤ bh_c0 t) (hi : vp_in i (bh_al t)) (h : K (n, L, .inl (.int w) :: st, M, c)) : bo_Iald bh_ak bh_al n (L, .inl (.int i) :: .inr (t, x) :: st, M, c) K Z := by subst e; subst ew; exact ⟨ht, hx.1, hs.c hx, hi, h⟩
theorem bi_Zald {t x : Nat} {i : Int32} (k : Nat) (e : i.toNatClampNeg = k) (w : Int32) (ew : bh_I M t x k = w) (hs : bh_stat M.2.2.2) (ht : bh_ak t = 2) (hx : 1 ≤ x ∧ x ≤ bh_c0 t) (hi : vp_in i (bh_al t)) (h : K (n, L, .inl (.int w) :: st, M, c)) : bo_Zald bh_ak bh_al n (L, .inl (.int i) :: .inr (t, x) :: st, M, c) K Z := by subst e; subst ew; exact ⟨ht, hx.1, hs.c hx, hi, h⟩
theorem bi_Jald {t x : Nat} {i : Int32} (k : Nat) (e : i.toNatClampNeg = k) (w : Int64) (ew : bh_J M t x k = w) (hs : bh_stat M.2.2.2) (ht : bh_ak t = 3) (hx : 1 ≤ x ∧ x ≤ bh_c0 t) (hi : vp_in i (bh_al t)) (h : K (n, L, .inl (.long w) :: st, M, c)) : bo_Jald bh_ak bh_al n (L, .inl (.int i) :: .inr (t, x) :: st, M, c) K Z := by subst e; subst ew; exact ⟨ht, hx.1, hs.c hx, hi, h⟩
theorem bi_Dald {t x : Nat} {i : Int32} (k : Nat) (e : i.toNatClampNeg = k) (w : UInt64) (ew : bh_D M t x k = w) (hs : bh_stat M.2.2.2) (ht : bh_ak t = 4) (hx : 1 ≤ x ∧ x ≤ bh_c0 t) (hi : vp_in i (bh_al t)) (h : K (n, L, .inl (.double w) :: st, M, c)) : bo_Dald bh_ak bh_al n (L, .inl (.int i) :: .inr (t, x) :: st, M, c) K Z := by subst e; subst ew; exact ⟨ht, hx.1, hs.c hx, hi, h⟩
/-- a bundle out of the array of bundles -/
theorem bi_bald {i : Int32} (k : Nat) (e : i.toNatClampNeg = k) (hs : bh_stat M.2.2.2) (hi : vp_in i 8) (h : K (n, L, .inr (5, k + 1) :: st, M, c)) : bo_Rald bh_ak bh_al n (L, .inl (.int i) :: .inr (4, 1) :: st, M, c) K Z := by
  subst e
  exact ⟨(by decide : 5 ≤ bh_ak 4), Nat.le_refl 1, hs.c (t := 4) (x := 1) ⟨Nat.le_refl 1, Nat.le_refl 1⟩, hi, by rw [show bh_R M 4 1 i.toNatClampNeg = i.toNatClampNeg + 1 from hs.b hi]; exact h⟩
/-- a service out of the rows -/
theorem bi_vald {i : Int32} (k : Nat) (e : i.toNatClampNeg = k) (hs : bh_stat M.2.2.2) (hi : vp_in i 20) (h : K (n, L, .inr (21, bh_R M 20 1 k) :: st, M, c)) : bo_Rald bh_ak bh_al n (L, .inl (.int i) :: .inr (20, 1) :: st, M, c) K Z := by
  subst e
  exact ⟨(by decide : 5 ≤ bh_ak 20), Nat.le_refl 1, hs.c (t := 20) (x := 1) ⟨Nat.le_refl 1, Nat.le_refl 1⟩, hi, h⟩
theorem bi_Iast {t x : Nat} {i v : Int32} (k : Nat) (e : i.toNatClampNeg = k) (hs : bh_stat M.2.2.2) (ht : bh_ak t = 1) (hx : 1 ≤ x ∧ x ≤ bh_c0 t) (hi : vp_in i (bh_al t)) (h : K (n, L, st, bh_sI M t x k v, c)) : bo_Iast bh_ak bh_al n (L, .inl (.int v) :: .inl (.int i) :: .inr (t, x) :: st, M, c) K Z := by subst e; exact ⟨ht, hx.1, hs.c hx, hi, h⟩
theorem bi_Zast {t x : Nat} {i v : Int32} (k : Nat) (e : i.toNatClampNeg = k) (hs : bh_stat M.2.2.2) (ht : bh_ak t = 2) (hx : 1 ≤ x ∧ x ≤ bh_c0 t) (hi : vp_in i (bh_al t)) (hv : v = 0 ∨ v = 1) (h : K (n, L, st, bh_sI M t x k v, c)) : bo_Zast bh_ak bh_al n (L, .inl (.int v) :: .inl (.int i) :: .inr (t, x) :: st, M, c) K Z := by subst e; exact ⟨ht, hx.1, hs.c hx, hi, hv, h⟩
theorem bi_Jast {t x : Nat} {i : Int32} {v : Int64} (k : Nat) (e : i.toNatClampNeg = k) (hs : bh_stat M.2.2.2) (ht : bh_ak t = 3) (hx : 1 ≤ x ∧ x ≤ bh_c0 t) (hi : vp_in i (bh_al t)) (h : K (n, L, st, bh_sJ M t x k v, c)) : bo_Jast bh_ak bh_al n (L, .inl (.long v) :: .inl (.int i) :: .inr (t, x) :: st, M, c) K Z := by subst e; exact ⟨ht, hx.1, hs.c hx, hi, h⟩
theorem bi_Dast {t x : Nat} {i : Int32} {v : UInt64} (k : Nat) (e : i.toNatClampNeg = k) (hs : bh_stat M.2.2.2) (ht : bh_ak t = 4) (hx : 1 ≤ x ∧ x ≤ bh_c0 t) (hi : vp_in i (bh_al t)) (h : K (n, L, st, bh_sD M t x k v, c)) : bo_Dast bh_ak bh_al n (L, .inl (.double v) :: .inl (.int i) :: .inr (t, x) :: st, M, c) K Z := by subst e; exact ⟨ht, hx.1, hs.c hx, hi, h⟩
/-- a service into the rows -/
theorem bi_vast {i : Int32} {y : Nat} (k : Nat) (e : i.toNatClampNeg = k) (hs : bh_stat M.2.2.2) (hy : 1 ≤ y ∧ y ≤ 20) (hi : vp_in i 20) (h : K (n, L, st, bh_sR M 20 1 k y, c)) : bo_Rast bh_ak bh_al n (L, .inr (21, y) :: .inl (.int i) :: .inr (20, 1) :: st, M, c) K Z := by
  subst e
  exact ⟨rfl, Nat.le_refl 1, hs.c (t := 20) (x := 1) ⟨Nat.le_refl 1, Nat.le_refl 1⟩, hy.1, hs.c (t := 21) (x := y) hy, hi, h⟩
theorem bi_len {t x : Nat} (hs : bh_stat M.2.2.2) (ht : Nat.ble 1 (bh_ak t) = true) (hx : 1 ≤ x ∧ x ≤ bh_c0 t) (h : K (n, L, .inl (.int (nI (bh_al t))) :: st, M, c)) : bo_len bh_ak bh_al n (L, .inr (t, x) :: st, M, c) K Z := ⟨Nat.le_of_ble_eq_true ht, hx.1, hs.c hx, h⟩
theorem bi_callV {a b C t x : Nat} {F : bh_Fn} (as rest : List bh_V) (e1 : (st.take a).reverse = .inr (t, x) :: as) (e2 : st.drop a = rest) (e3 : Nat.ble a st.length = true) (hs : bh_stat M.2.2.2) (hx : 1 ≤ x ∧ x ≤ bh_c0 t) (e4 : Nat.ble ((rest.map bh_cat).sum) 8 = true) (e5 : Nat.ble (c + b) C = true) (h : F (.inr (t, x) :: as) M (bh_after n L rest (c + b) K Z)) : bo_callV n a b C t F (L, st, M, c) K Z := by
  unfold bo_callV
  simp only [e1]
  subst e2
  exact ⟨Nat.le_of_ble_eq_true e3, trivial, hx.1, hs.c hx, Nat.le_of_ble_eq_true e4, Nat.le_of_ble_eq_true e5, h⟩
theorem bi_callS {a b C : Nat} {F : bh_Fn} (as rest : List bh_V) (e1 : (st.take a).reverse = as) (e2 : st.drop a = rest) (e3 : Nat.ble a st.length = true) (e4 : Nat.ble ((rest.map bh_cat).sum) 8 = true) (e5 : Nat.ble (c + b) C = true) (h : F as M (bh_after n L rest (c + b) K Z)) : bo_callS n a b C F (L, st, M, c) K Z := by
  subst e1
  subst e2
  exact ⟨Nat.le_of_ble_eq_true e3, Nat.le_of_ble_eq_true e4, Nat.le_of_ble_eq_true e5, h⟩
theorem bi_iret {C : Nat} {v : Int32} (e : Nat.ble c C = true) (h : Z (.inl (some (.inl (.int v))), M)) : bo_iret C (L, [.inl (.int v)], M, c) K Z := ⟨Nat.le_of_ble_eq_true e, h⟩
theorem bi_zret {C : Nat} {v : Int32} (e : Nat.ble c C = true) (hv : v = 0 ∨ v = 1) (h : Z (.inl (some (.inl (.int v))), M)) : bo_zret C (L, [.inl (.int v)], M, c) K Z := ⟨Nat.le_of_ble_eq_true e, hv, h⟩
theorem bi_jret {C : Nat} {v : Int64} (e : Nat.ble c C = true) (h : Z (.inl (some (.inl (.long v))), M)) : bo_jret C (L, [.inl (.long v)], M, c) K Z := ⟨Nat.le_of_ble_eq_true e, h⟩
theorem bi_dret {C : Nat} {v : UInt64} (e : Nat.ble c C = true) (h : Z (.inl (some (.inl (.double v))), M)) : bo_dret C (L, [.inl (.double v)], M, c) K Z := ⟨Nat.le_of_ble_eq_true e, h⟩
theorem bi_aret {C : Nat} {q : Nat × Nat} (e : Nat.ble c C = true) (h : Z (.inl (some (.inr q)), M)) : bo_aret C (L, [.inr q], M, c) K Z := ⟨Nat.le_of_ble_eq_true e, h⟩
theorem bi_vret {C : Nat} (e : Nat.ble c C = true) (h : Z (.inl none, M)) : bo_vret C (L, [], M, c) K Z := ⟨Nat.le_of_ble_eq_true e, h⟩
theorem bi_thr {C : Nat} {E : String} (e : Nat.ble (c + 1) C = true) (h : Z (.inr E, M)) : bo_thr C E (L, [], M, c) K Z := ⟨Nat.le_of_ble_eq_true e, h⟩
theorem bi_acmp {t x y : Nat} {e : Bool} (hx : 1 ≤ x ∧ x ≤ 4) (hy : 1 ≤ y ∧ y ≤ 4) (h1 : x = y → K ((if e then t else n), L, st, M, c)) (h2 : ¬ x = y → K ((if e then n else t), L, st, M, c)) : bo_acmp n t e (L, .inr (2, y) :: .inr (2, x) :: st, M, c) K Z := ⟨rfl, rfl, hx.1, hx.2, hy.1, hy.2, h1, h2⟩
end
