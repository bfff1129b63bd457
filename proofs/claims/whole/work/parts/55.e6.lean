theorem cm_M_fits {M : bh_M} {Z : bh_F → Prop} {d : sd} {w : sw} {e : sx} {τ : Nat → Nat → Nat} {o j b k v : Nat} (ho : o < 8) (hj : j < x_n e o) (hb : b < 8) (hk : k < d_ni d b) (hv : d_ver d o (x_p e o j) = some v) (hd : rdM M d w e τ) (hs : bh_stat M.2.2.2) (h1 : x_p e o j = d_ip d b k → d_lo d b k ≤ v ∧ v ≤ d_hi d b k → Z (.inl (some (.inl (.int 1))), M)) (h0 : ¬ (x_p e o j = d_ip d b k ∧ d_lo d b k ≤ v ∧ v ≤ d_hi d b k) → Z (.inl (some (.inl (.int 0))), M)) : F_M_fits [.inr (40, 1), .inl (.int (nI (3 * o + j))), .inl (.int (nI (3 * b + k)))] M Z := by
  obtain ⟨-, ⟨a1, a2, a3, -⟩, -⟩ := hd.2.2 o ho
  obtain ⟨b1, b2, -, v', b4, b5, b6⟩ := a3 j hj
  have ev : v' = v := Option.some.inj (b4.symm.trans hv)
  subst ev
  obtain ⟨-, -, ⟨-, c2, c3, -⟩, -⟩ := hd.2.2 b hb
  obtain ⟨e1, e2, e3, e4, e5, e6, -⟩ := c3 k hk
  refine ct_M_fitsn (3 * o + j) (3 * b + k) hs ?_
  rw [b2, e1, b6, e3, e5, bn_inj (by omega) (by omega), bn_lt (by omega) (by omega), bn_lt (by omega) (by omega)]
  refine ⟨by omega, by omega, fun q => h0 (fun c => q c.1), fun q => ⟨fun q2 => h0 (fun c => by omega), fun q2 => ⟨fun q3 => h0 (fun c => by omega), fun q3 => h1 (Decidable.of_not_not q) (by omega)⟩⟩⟩
def d_P (d : sd) (T : Nat → Bool) (only : Bool) (b k x : Nat) : Bool := decide (d_key d b k (x % 8) = some x) && d_may d T only (x % 8)
def d_L (d : sd) (T : Nat → Bool) (only : Bool) (b k n : Nat) : List Nat := (List.range n).filter (d_P d T only b k)
theorem d_L_s (d : sd) (T : Nat → Bool) (only : Bool) (b k n : Nat) : d_L d T only b k (n + 1) = if d_P d T only b k n then d_L d T only b k n ++ [n] else d_L d T only b k n := by
  unfold d_L
  rw [List.range_succ, List.filter_append]
  cases h : d_P d T only b k n
  · simp [h]
  · simp [h]
theorem d_L_len (d : sd) (T : Nat → Bool) (only : Bool) (b k n : Nat) (hn : n ≤ 160) : (d_L d T only b k n).length ≤ 8 := by
  have h1 : (d_L d T only b k n).Sublist (d_L d T only b k 160) := (List.range_sublist.mpr hn).filter _
  have h2 := h1.length_le
  have h3 := d_cand_8 d T only b k
  have h4 : d_cand d T only b k = d_L d T only b k 160 := rfl
  rw [h4] at h3
  omega
theorem d_L_80 (d : sd) (T : Nat → Bool) (b k : Nat) : ∀ m, d_L d T true b k (80 + m) = d_L d T true b k 80 := by
  intro m
  induction m with
  | zero => rfl
  | succ m ih =>
    rw [show 80 + (m + 1) = (80 + m) + 1 by omega, d_L_s, ih]
    rw [if_neg]
    intro c
    unfold d_P at c
    rw [Bool.and_eq_true, decide_eq_true_eq] at c
    obtain ⟨c1, c2⟩ := c
    have c2 : d_live d ((80 + m) % 8) = true := c2
    unfold d_key at c1
    split at c1
    · cases c1
    · split at c1
      · cases c1
      · split at c1
        · have := Option.some.inj c1
          omega
        · cases c1
/-- the candidates so far of task t, import k of bundle b -/
def cdM (M : bh_M) (d : sd) (e : sx) (b k t : Nat) (L : List Nat) : Prop := bh_I M 60 1 t = nI L.length ∧ ∀ j x, L[j]? = some x → ∃ j', j' < x_n e (x % 8) ∧ x_p e (x % 8) j' = d_ip d b k ∧ bh_I M 59 1 (8 * t + j) = nI (3 * (x % 8) + j')
def fr_F (M M' : bh_M) (t : Nat) : Prop := (∀ a, a ≠ 59 → a ≠ 60 → a ≠ 61 → bh_I M' a = bh_I M a) ∧ (∀ c, (c < 8 * t ∨ 8 * t + 8 ≤ c) → bh_I M' 59 1 c = bh_I M 59 1 c) ∧ (∀ c, c ≠ t → bh_I M' 60 1 c = bh_I M 60 1 c) ∧ (∀ c, c ≠ t → bh_I M' 61 1 c = bh_I M 61 1 c) ∧ M'.2 = M.2
theorem fr_F_refl (M : bh_M) (t : Nat) : fr_F M M t := ⟨fun _ _ _ _ => rfl, fun _ _ => rfl, fun _ _ => rfl, fun _ _ => rfl, rfl⟩
theorem fr_F_trans {M M' M'' : bh_M} {t : Nat} (h : fr_F M M' t) (g : fr_F M' M'' t) : fr_F M M'' t := ⟨fun a h1 h2 h3 => (g.1 a h1 h2 h3).trans (h.1 a h1 h2 h3), fun c hc => (g.2.1 c hc).trans (h.2.1 c hc), fun c hc => (g.2.2.1 c hc).trans (h.2.2.1 c hc), fun c hc => (g.2.2.2.1 c hc).trans (h.2.2.2.1 c hc), g.2.2.2.2.trans h.2.2.2.2⟩
theorem fr_F.stat {M M' : bh_M} {t : Nat} (h : fr_F M M' t) (hs : bh_stat M.2.2.2) : bh_stat M'.2.2.2 := by rw [h.2.2.2.2]; exact hs
/-- only what the reference writes in a search has changed -/
def fr_m (M M' : bh_M) : Prop := (∀ a, a ≠ 40 → a ≠ 58 → a ≠ 59 → a ≠ 60 → a ≠ 61 → a ≠ 62 → a ≠ 63 → a ≠ 64 → bh_I M' a = bh_I M a) ∧ (∀ c, c ≠ 19 → c ≠ 26 → c ≠ 27 → bh_I M' 40 1 c = bh_I M 40 1 c) ∧ M'.2 = M.2
theorem fr_m_refl (M : bh_M) : fr_m M M := ⟨fun _ _ _ _ _ _ _ _ _ => rfl, fun _ _ _ _ => rfl, rfl⟩
theorem fr_m_trans {M M' M'' : bh_M} (h : fr_m M M') (g : fr_m M' M'') : fr_m M M'' := ⟨fun a h1 h2 h3 h4 h5 h6 h7 h8 => (g.1 a h1 h2 h3 h4 h5 h6 h7 h8).trans (h.1 a h1 h2 h3 h4 h5 h6 h7 h8), fun c h1 h2 h3 => (g.2.1 c h1 h2 h3).trans (h.2.1 c h1 h2 h3), g.2.2.trans h.2.2⟩
theorem fr_m.stat {M M' : bh_M} (h : fr_m M M') (hs : bh_stat M.2.2.2) : bh_stat M'.2.2.2 := by rw [h.2.2]; exact hs
theorem fr_F.m {M M' : bh_M} {t : Nat} (h : fr_F M M' t) : fr_m M M' := ⟨fun a _ _ h3 h4 h5 _ _ _ => h.1 a h3 h4 h5, fun c _ _ _ => by rw [h.1 40 (by decide) (by decide) (by decide)], h.2.2.2.2⟩
theorem rdM.mv {M M' : bh_M} {d : sd} {w : sw} {e : sx} {τ : Nat → Nat → Nat} (h : rdM M d w e τ) (f : fr_m M M') : rdM M' d w e τ := by
  refine ⟨h.1, h.2.1, fun b hb => ?_⟩
  have g := h.2.2 b hb
  have gJ : bh_J M' = bh_J M := congrArg (fun q => q.1) f.2.2
  rw [gJ, f.1 41 (by decide) (by decide) (by decide) (by decide) (by decide) (by decide) (by decide) (by decide), f.1 42 (by decide) (by decide) (by decide) (by decide) (by decide) (by decide) (by decide) (by decide), f.1 48 (by decide) (by decide) (by decide) (by decide) (by decide) (by decide) (by decide) (by decide), f.1 49 (by decide) (by decide) (by decide) (by decide) (by decide) (by decide) (by decide) (by decide), f.1 50 (by decide) (by decide) (by decide) (by decide) (by decide) (by decide) (by decide) (by decide), f.1 51 (by decide) (by decide) (by decide) (by decide) (by decide) (by decide) (by decide) (by decide), f.1 52 (by decide) (by decide) (by decide) (by decide) (by decide) (by decide) (by decide) (by decide), f.1 53 (by decide) (by decide) (by decide) (by decide) (by decide) (by decide) (by decide) (by decide), f.1 54 (by decide) (by decide) (by decide) (by decide) (by decide) (by decide) (by decide) (by decide), f.1 55 (by decide) (by decide) (by decide) (by decide) (by decide) (by decide) (by decide) (by decide), f.1 56 (by decide) (by decide) (by decide) (by decide) (by decide) (by decide) (by decide) (by decide)]
  exact g
theorem cm_M_find0 {M : bh_M} {Z : bh_F → Prop} {d : sd} {w : sw} {e : sx} {τ : Nat → Nat → Nat} {T : Nat → Bool} {b0 k0 t : Nat} (ht29 : t < 29) (hb0 : b0 < 8) (hk0 : k0 < d_ni d b0) (e58 : bh_I M 58 1 t = nI (3 * b0 + k0)) (hd : rdM M d w e τ) (htk : tkM M T) (hT : ∀ o, T o = true → d_st d o = 1) (hs : bh_stat M.2.2.2) (h : ∀ M', cdM M' d e b0 k0 t (d_cand d T false b0 k0) → bh_I M' 61 1 t = 0 → fr_F M M' t → Z (.inl none, M')) : F_M_find [.inr (40, 1), .inl (.int (nI t)), .inl (.int 0)] M Z := by
  have hk3 := (hd.2.2 b0 hb0).2.2.1.2.1
  have ht : t < 30 := by omega
  refine be0_M_find t ht hs ?_
  -- one bundle at one version
  have cell : ∀ (k v b : Nat) (M1 : bh_M) (w6 w7 : Option bh_V), k < 2 → v < 10 → b < 8 → cdM M1 d e b0 k0 t (d_L d T false b0 k0 ((k * 10 + (9 - v)) * 8 + b)) → fr_F M M1 t → (∀ M2 w6 w7, cdM M2 d e b0 k0 t (d_L d T false b0 k0 ((k * 10 + (9 - v)) * 8 + (b + 1))) → fr_F M M2 t → bh_wp (bh_tb T_M_find) (34, [some (.inr (40, 1)), some (.inl (.int (nI t))), some (.inl (.int 0)), some (.inl (.int (nI k))), some (.inl (.int (nI v))), some (.inl (.int (nI (b + 1)))), w6, w7], [], M2, 0) Z) → bh_wp (bh_tb T_M_find) (34, [some (.inr (40, 1)), some (.inl (.int (nI t))), some (.inl (.int 0)), some (.inl (.int (nI k))), some (.inl (.int (nI v))), some (.inl (.int (nI b))), w6, w7], [], M1, 0) Z := by
    intro k v b M1 w6 w7 hk hv hb h1 f1 nx
    have hs1 := f1.stat hs
    have hd1 := hd.mv f1.m
    have htk1 : tkM M1 T := fun x hx => by rw [f1.1 63 (by decide) (by decide) (by decide)]; exact htk x hx
    have e581 : bh_I M1 58 1 t = nI (3 * b0 + k0) := by rw [f1.1 58 (by decide) (by decide) (by decide)]; exact e58
    have hL := d_L_s d T false b0 k0 ((k * 10 + (9 - v)) * 8 + b)
    have hmod : ((k * 10 + (9 - v)) * 8 + b) % 8 = b := by omega
    have skip : ∀ w6 w7, d_P d T false b0 k0 ((k * 10 + (9 - v)) * 8 + b) = false → bh_wp (bh_tb T_M_find) (34, [some (.inr (40, 1)), some (.inl (.int (nI t))), some (.inl (.int 0)), some (.inl (.int (nI k))), some (.inl (.int (nI v))), some (.inl (.int (nI (b + 1)))), w6, w7], [], M1, 0) Z := by
      intro w6 w7 q
      rw [q, if_neg Bool.false_ne_true] at hL
      exact nx M1 w6 w7 (by rw [show (k * 10 + (9 - v)) * 8 + (b + 1) = (k * 10 + (9 - v)) * 8 + b + 1 by omega, hL]; exact h1) f1
    -- its exports
    have exps : ∀ (a6 : Int32), d_may d T false b = true → (d_live d b = true ↔ k = 0) → bh_wp (bh_tb T_M_find) (99, [some (.inr (40, 1)), some (.inl (.int (nI t))), some (.inl (.int 0)), some (.inl (.int (nI k))), some (.inl (.int (nI v))), some (.inl (.int (nI b))), some (.inl (.int a6)), some (.inl (.int (nI (3 * b))))], [], M1, 0) Z := by
      intro a6 hmay hlk
      obtain ⟨-, ⟨x1, x2, x3, x4, x5, x6⟩, -⟩ := hd1.2.2 b hb
      have hkey : ∀ j, j < x_n e b → d_ver d b (x_p e b j) = some v → x_p e b j = d_ip d b0 k0 → d_lo d b0 k0 ≤ v → v ≤ d_hi d b0 k0 → d_P d T false b0 k0 ((k * 10 + (9 - v)) * 8 + b) = true := by
        intro j hj hv1 hv2 hv3 hv4
        unfold d_P
        rw [hmod, hmay, Bool.and_true, decide_eq_true_eq]
        unfold d_key
        rw [if_neg (hd1.st1 hb hj), ← hv2, hv1]
        show (if d_lo d b0 k0 ≤ v ∧ v ≤ d_hi d b0 k0 then some (((if d_live d b = true then 0 else 10) + (9 - v)) * 8 + b) else none) = _
        rw [if_pos ⟨hv3, hv4⟩]
        by_cases c : k = 0
        · rw [if_pos (hlk.mpr c), c]
        · rw [if_neg (fun q => c (hlk.mp q)), show k = 1 by omega]
      have key : ∀ (m j : Nat) (M2 : bh_M), j + m = x_n e b → fr_F M M2 t → ((cdM M2 d e b0 k0 t (d_L d T false b0 k0 ((k * 10 + (9 - v)) * 8 + b)) ∧ ∀ j', j' < j → ¬ (d_ver d b (x_p e b j') = some v ∧ x_p e b j' = d_ip d b0 k0 ∧ d_lo d b0 k0 ≤ v ∧ v ≤ d_hi d b0 k0)) ∨ (cdM M2 d e b0 k0 t (d_L d T false b0 k0 ((k * 10 + (9 - v)) * 8 + b) ++ [(k * 10 + (9 - v)) * 8 + b]) ∧ d_P d T false b0 k0 ((k * 10 + (9 - v)) * 8 + b) = true ∧ ∃ j0, j0 < j ∧ x_p e b j0 = d_ip d b0 k0)) → bh_wp (bh_tb T_M_find) (99, [some (.inr (40, 1)), some (.inl (.int (nI t))), some (.inl (.int 0)), some (.inl (.int (nI k))), some (.inl (.int (nI v))), some (.inl (.int (nI b))), some (.inl (.int a6)), some (.inl (.int (nI (3 * b + j))))], [], M2, 0) Z := by
        intro m
        induction m with
        | zero =>
          intro j M2 e1 f2 hx
          have : j = x_n e b := by omega
          subst this
          have hd2 := hd.mv f2.m
          refine bx0_M_find_99 t k v b a6 hb (hd2.2.2 b hb).2.1.1 x2 ht (f2.stat hs) ?_
          refine nx M2 _ _ ?_ f2
          rw [show (k * 10 + (9 - v)) * 8 + (b + 1) = (k * 10 + (9 - v)) * 8 + b + 1 by omega, hL]
          rcases hx with ⟨hx, hno⟩ | ⟨hx, hP, -⟩
          · rw [if_neg]
            · exact hx
            · intro hP
              unfold d_P at hP
              rw [hmod, hmay, Bool.and_true, decide_eq_true_eq] at hP
              unfold d_key at hP
              split at hP
              · cases hP
              · split at hP
                · cases hP
                · rename_i v' hv'
                  split at hP
                  · rename_i hlo
                    have hP := Option.some.inj hP
                    have hp8 : d_ip d b0 k0 < 8 := ((hd.2.2 b0 hb0).2.2.1.2.2.1 k0 hk0).2.1
                    obtain ⟨j, hj, hj2⟩ := x5 _ hp8 (by rw [hv']; rfl)
                    obtain ⟨-, -, -, v2, y1, y2, -⟩ := x3 j hj
                    rw [hj2, hv'] at y1
                    have y1 := Option.some.inj y1
                    have hvv : v' = v := by
                      by_cases c : k = 0
                      · rw [if_pos (hlk.mpr c)] at hP
                        omega
                      · rw [if_neg (fun q => c (hlk.mp q))] at hP
                        omega
                    subst hvv
                    exact hno j hj ⟨by rw [hj2]; exact hv', hj2, hlo.1, hlo.2⟩
                  · cases hP
          · rw [if_pos hP]
            exact hx
        | succ m ih =>
          intro j M2 e1 f2 hx
          have hd2 := hd.mv f2.m
          have hs2 := f2.stat hs
          obtain ⟨-, ⟨z1, z2, z3, -⟩, -⟩ := hd2.2.2 b hb
          have hj : j < x_n e b := by omega
          obtain ⟨y1, y2, -, u, y4, y5, y6⟩ := z3 j hj
          have e582 : bh_I M2 58 1 t = nI (3 * b0 + k0) := by rw [f2.1 58 (by decide) (by decide) (by decide)]; exact e58
          have hc : ∃ c, bh_I M2 60 1 t = nI c ∧ c ≤ 8 := by
            rcases hx with ⟨hx, -⟩ | ⟨hx, hP, -⟩
            · exact ⟨_, hx.1, d_L_len _ _ _ _ _ _ (by omega)⟩
            · rw [hP, if_pos rfl] at hL
              rw [← hL] at hx
              exact ⟨_, hx.1, d_L_len _ _ _ _ _ _ (by omega)⟩
          obtain ⟨c, hc1, hc2⟩ := hc
          refine bl0_M_find_99 t k v b a6 j hb z1 z2 ht hj (x := 3 * b0 + k0) (u := u) e582 (by omega) y6 (by omega) hv hs2 ⟨fun q => ih (j + 1) M2 (by omega) f2 ?_, fun q => ?_⟩
          · rcases hx with ⟨hx, hno⟩ | ⟨hx, hP, j0, g1, g2⟩
            · refine Or.inl ⟨hx, fun j' hj' => ?_⟩
              by_cases c9 : j' = j
              · subst c9
                intro w9
                rw [y4] at w9
                exact q (Option.some.inj w9.1)
              · exact hno j' (by omega)
            · exact Or.inr ⟨hx, hP, j0, by omega, g2⟩
          · have q : u = v := Decidable.of_not_not q
            subst q
            refine cm_M_fits hb hj hb0 hk0 y4 hd2 hs2 (fun q1 q2 => ?_) (fun q1 => ?_)
            · -- it fits
              rcases hx with ⟨hx, hno⟩ | ⟨hx, hP, j0, g1, g2⟩
              · have hP := hkey j hj y4 q1 q2.1 q2.2
                have hlen : (d_L d T false b0 k0 ((k * 10 + (9 - u)) * 8 + b)).length < 8 := by
                  have := d_L_len d T false b0 k0 ((k * 10 + (9 - u)) * 8 + b + 1) (by omega)
                  rw [hL, hP, if_pos rfl, List.length_append] at this
                  have e9 : ([(k * 10 + (9 - u)) * 8 + b] : List Nat).length = 1 := rfl
                  omega
                refine bk0_M_find_140 t k u b a6 1 j (by omega) ht hx.1 (by omega) hs2 ⟨fun _ => ?_, fun q9 => absurd (by decide) q9⟩
                refine ih (j + 1) _ (by omega) (fr_F_trans f2 ⟨fun a w1 w2 w3 => ?_, fun c9 hc9 => ?_, fun c9 hc9 => ?_, fun c9 hc9 => rfl, rfl⟩) (Or.inr ⟨⟨?_, fun j9 x9 hq9 => ?_⟩, hP, j, by omega, q1⟩)
                · funext y c9
                  show (if a = 60 ∧ y = 1 ∧ c9 = t then _ else if a = 59 ∧ y = 1 ∧ c9 = 8 * t + (d_L d T false b0 k0 ((k * 10 + (9 - u)) * 8 + b)).length then _ else bh_I M2 a y c9) = _
                  rw [if_neg (fun q => w2 q.1), if_neg (fun q => w1 q.1)]
                · show (if 59 = 60 ∧ 1 = 1 ∧ c9 = t then nI ((d_L d T false b0 k0 ((k * 10 + (9 - u)) * 8 + b)).length + 1) else if 59 = 59 ∧ 1 = 1 ∧ c9 = 8 * t + (d_L d T false b0 k0 ((k * 10 + (9 - u)) * 8 + b)).length then nI (3 * b + j) else bh_I M2 59 1 c9) = _
                  rw [if_neg (by omega), if_neg (by omega)]
                · show (if 60 = 60 ∧ 1 = 1 ∧ c9 = t then _ else bh_I M2 60 1 c9) = _
                  rw [if_neg (fun q => hc9 q.2.2)]
                · show (if 60 = 60 ∧ 1 = 1 ∧ t = t then nI ((d_L d T false b0 k0 ((k * 10 + (9 - u)) * 8 + b)).length + 1) else bh_I M2 60 1 t) = _
                  rw [if_pos ⟨rfl, rfl, rfl⟩, List.length_append]
                  rfl
                · show ∃ j', j' < x_n e (x9 % 8) ∧ x_p e (x9 % 8) j' = d_ip d b0 k0 ∧ (if 59 = 60 ∧ 1 = 1 ∧ 8 * t + j9 = t then nI ((d_L d T false b0 k0 ((k * 10 + (9 - u)) * 8 + b)).length + 1) else if 59 = 59 ∧ 1 = 1 ∧ 8 * t + j9 = 8 * t + (d_L d T false b0 k0 ((k * 10 + (9 - u)) * 8 + b)).length then nI (3 * b + j) else bh_I M2 59 1 (8 * t + j9)) = nI (3 * (x9 % 8) + j')
                  by_cases c9 : j9 = (d_L d T false b0 k0 ((k * 10 + (9 - u)) * 8 + b)).length
                  · rw [List.getElem?_append_right (by omega), c9, Nat.sub_self] at hq9
                    have hq9 : (k * 10 + (9 - u)) * 8 + b = x9 := Option.some.inj hq9
                    subst hq9
                    rw [hmod]
                    refine ⟨j, hj, q1, ?_⟩
                    rw [if_neg (by omega), if_pos ⟨rfl, rfl, by omega⟩]
                  · have hlt : j9 < (d_L d T false b0 k0 ((k * 10 + (9 - u)) * 8 + b)).length := by
                      have := (List.getElem?_eq_some_iff.mp hq9).1
                      rw [List.length_append] at this
                      have e9 : ([(k * 10 + (9 - u)) * 8 + b] : List Nat).length = 1 := rfl
                      omega
                    rw [List.getElem?_append_left hlt] at hq9
                    obtain ⟨j', r1, r2, r3⟩ := hx.2 j9 x9 hq9
                    refine ⟨j', r1, r2, ?_⟩
                    rw [if_neg (by omega), if_neg (by omega)]
                    exact r3
              · have := x4 j0 j (by omega) hj (g2.trans q1.symm)
                omega
            · refine bk0_M_find_140 t k u b a6 0 j (by omega) ht hc1 (by omega) hs2 ⟨fun q9 => absurd rfl q9, fun _ => ih (j + 1) M2 (by omega) f2 ?_⟩
              rcases hx with ⟨hx, hno⟩ | ⟨hx, hP, j0, g1, g2⟩
              · refine Or.inl ⟨hx, fun j' hj' => ?_⟩
                by_cases c9 : j' = j
                · subst c9
                  intro w9
                  exact q1 w9.2
                · exact hno j' (by omega)
              · exact Or.inr ⟨hx, hP, j0, by omega, g2⟩
      exact key (x_n e b) 0 M1 (by omega) f1 (Or.inl ⟨h1, fun j' hj' => absurd hj' (Nat.not_lt_zero _)⟩)
    have noP : (d_key d b0 k0 b = some ((k * 10 + (9 - v)) * 8 + b) → False) → d_P d T false b0 k0 ((k * 10 + (9 - v)) * 8 + b) = false := by
      intro q
      unfold d_P
      rw [hmod, decide_eq_false q, Bool.false_and]
    have hone := hd1.one hb
    have hlv := hd1.lv hb
    refine bl0_M_find_34 t k v b w6 w7 hb (by omega) hs1 ⟨fun q => ⟨fun q2 => skip _ _ (noP ?_), fun q2 => ?_⟩, fun q => ⟨fun q2 => skip _ _ (noP ?_), fun q2 => ?_⟩⟩
    · intro c
      rw [hone] at q2
      unfold d_key at c
      split at c
      · cases c
      · rename_i hz
        split at c
        · cases c
        · split at c
          · have hl : d_live d b = true := by
              unfold d_live
              exact decide_eq_true (by omega)
            rw [if_pos hl] at c
            have := Option.some.inj c
            omega
          · cases c
    · have q2 := hone.mp (Decidable.of_not_not q2)
      have hl : d_live d b = false := by
        unfold d_live
        exact decide_eq_false (by omega)
      have hlk : d_live d b = true ↔ k = 0 := by
        rw [hl]
        exact ⟨fun c => absurd c Bool.false_ne_true, fun c => absurd c q⟩
      have hmm : d_may d T false b = !d_named d T b := rfl
      refine cm_M_named hb hd1 htk1 hT (by omega) hs1 (fun q5 => ?_) (fun q5 => ?_)
      · refine bk0_M_find_87 t k v b _ _ 1 hb hs1 ⟨fun q9 => absurd q9 (by decide), fun _ => skip _ _ ?_⟩
        unfold d_P
        rw [hmod, hmm, q5]
        exact Bool.and_false _
      · refine bk0_M_find_87 t k v b _ _ 0 hb hs1 ⟨fun _ => exps 1 ?_ hlk, fun q9 => absurd rfl q9⟩
        rw [hmm, q5]
        rfl
    · intro c
      rw [hlv] at q2
      unfold d_key at c
      split at c
      · cases c
      · split at c
        · cases c
        · split at c
          · rw [if_neg (by rw [q2]; exact Bool.false_ne_true)] at c
            have := Option.some.inj c
            omega
          · cases c
    · rw [hlv, Bool.not_eq_false] at q2
      have hlk : d_live d b = true ↔ k = 0 := ⟨fun _ => by omega, fun _ => q2⟩
      have hmm : d_may d T false b = !d_named d T b := rfl
      have hz : ¬ d_st d b = 0 := by
        have := of_decide_eq_true q2
        omega
      refine cm_M_named hb hd1 htk1 hT hz hs1 (fun q5 => ?_) (fun q5 => ?_)
      · refine bk0_M_find_87 t k v b _ _ 1 hb hs1 ⟨fun q9 => absurd q9 (by decide), fun _ => skip _ _ ?_⟩
        unfold d_P
        rw [hmod, hmm, q5]
        exact Bool.and_false _
      · refine bk0_M_find_87 t k v b _ _ 0 hb hs1 ⟨fun _ => exps 1 ?_ hlk, fun q9 => absurd rfl q9⟩
        rw [hmm, q5]
        rfl
  -- all bundles at one version
  have bunds : ∀ (m b k v : Nat) (M1 : bh_M) (w6 w7 : Option bh_V), b + m = 8 → k < 2 → v < 10 → cdM M1 d e b0 k0 t (d_L d T false b0 k0 ((k * 10 + (9 - v)) * 8 + b)) → fr_F M M1 t → (∀ M2 w6 w7, cdM M2 d e b0 k0 t (d_L d T false b0 k0 ((k * 10 + (9 - v)) * 8 + 8)) → fr_F M M2 t → bh_wp (bh_tb T_M_find) (34, [some (.inr (40, 1)), some (.inl (.int (nI t))), some (.inl (.int 0)), some (.inl (.int (nI k))), some (.inl (.int (nI v))), some (.inl (.int (nI 8))), w6, w7], [], M2, 0) Z) → bh_wp (bh_tb T_M_find) (34, [some (.inr (40, 1)), some (.inl (.int (nI t))), some (.inl (.int 0)), some (.inl (.int (nI k))), some (.inl (.int (nI v))), some (.inl (.int (nI b))), w6, w7], [], M1, 0) Z := by
    intro m
    induction m with
    | zero =>
      intro b k v M1 w6 w7 e1 hk hv h1 f1 nx
      have : b = 8 := by omega
      subst this
      exact nx M1 w6 w7 h1 f1
    | succ m ih =>
      intro b k v M1 w6 w7 e1 hk hv h1 f1 nx
      exact cell k v b M1 w6 w7 hk hv (by omega) h1 f1 (fun M2 w6 w7 h2 f2 => ih (b + 1) k v M2 w6 w7 (by omega) hk hv h2 f2 nx)
  -- all versions
  have vers : ∀ (v k : Nat) (M1 : bh_M) (w5 w6 w7 : Option bh_V), k < 2 → v < 10 → cdM M1 d e b0 k0 t (d_L d T false b0 k0 ((k * 10 + (9 - v)) * 8)) → fr_F M M1 t → (∀ M2 w4 w5 w6 w7, cdM M2 d e b0 k0 t (d_L d T false b0 k0 ((k + 1) * 80)) → fr_F M M2 t → bh_wp (bh_tb T_M_find) (9, [some (.inr (40, 1)), some (.inl (.int (nI t))), some (.inl (.int 0)), some (.inl (.int (nI (k + 1)))), w4, w5, w6, w7], [], M2, 0) Z) → bh_wp (bh_tb T_M_find) (26, [some (.inr (40, 1)), some (.inl (.int (nI t))), some (.inl (.int 0)), some (.inl (.int (nI k))), some (.inl (.int (nI v))), w5, w6, w7], [], M1, 0) Z := by
    intro v
    induction v with
    | zero =>
      intro k M1 w5 w6 w7 hk hv h1 f1 nx
      refine bl0_M_find_26 t k 0 w5 w6 w7 hv (f1.stat hs) ?_
      refine bunds 8 0 k 0 M1 w6 w7 rfl hk hv h1 f1 (fun M2 w6 w7 h2 f2 => ?_)
      refine bx00_M_find_34 t k w6 w7 (f2.stat hs) ?_
      refine bx0_M_find_26 t k _ _ w6 w7 (by decide) (f2.stat hs) ?_
      refine nx M2 _ _ _ _ ?_ f2
      rw [show (k + 1) * 80 = (k * 10 + (9 - 0)) * 8 + 8 by omega]
      exact h2
    | succ v ih =>
      intro k M1 w5 w6 w7 hk hv h1 f1 nx
      refine bl0_M_find_26 t k (v + 1) w5 w6 w7 hv (f1.stat hs) ?_
      refine bunds 8 0 k (v + 1) M1 w6 w7 rfl hk hv h1 f1 (fun M2 w6 w7 h2 f2 => ?_)
      refine bxs0_M_find_34 t k w6 w7 v (f2.stat hs) ?_
      refine ih k M2 _ w6 w7 hk (by omega) ?_ f2 nx
      rw [show (k * 10 + (9 - v)) * 8 = (k * 10 + (9 - (v + 1))) * 8 + 8 by omega]
      exact h2
  have kinds : ∀ (m k : Nat) (M1 : bh_M) (w4 w5 w6 w7 : Option bh_V), k + m = 2 → cdM M1 d e b0 k0 t (d_L d T false b0 k0 (k * 80)) → fr_F M M1 t → bh_wp (bh_tb T_M_find) (9, [some (.inr (40, 1)), some (.inl (.int (nI t))), some (.inl (.int 0)), some (.inl (.int (nI k))), w4, w5, w6, w7], [], M1, 0) Z := by
    intro m
    induction m with
    | zero =>
      intro k M1 w4 w5 w6 w7 e1 h1 f1
      have : k = 2 := by omega
      subst this
      refine bx0_M_find_9 t w4 w5 w6 w7 ht (f1.stat hs) (h _ ⟨h1.1, fun j x hq => ?_⟩ ?_ (fr_F_trans f1 ⟨fun a w1 w2 w3 => ?_, fun c hc => rfl, fun c hc => rfl, fun c hc => ?_, rfl⟩))
      · exact h1.2 j x hq
      · show (if 61 = 61 ∧ 1 = 1 ∧ t = t then 0 else bh_I M1 61 1 t) = 0
        rw [if_pos ⟨rfl, rfl, rfl⟩]
      · funext y c9
        show (if a = 61 ∧ y = 1 ∧ c9 = t then _ else bh_I M1 a y c9) = _
        rw [if_neg (fun q => w3 q.1)]
      · show (if 61 = 61 ∧ 1 = 1 ∧ c = t then _ else bh_I M1 61 1 c) = _
        rw [if_neg (fun q => hc q.2.2)]
    | succ m ih =>
      intro k M1 w4 w5 w6 w7 e1 h1 f1
      refine bl0_M_find_9 t k w4 w5 w6 w7 (by omega) (f1.stat hs) ?_
      refine vers 9 k M1 w5 w6 w7 (by omega) (by decide) ?_ f1 (fun M2 w4 w5 w6 w7 h2 f2 => ih (k + 1) M2 w4 w5 w6 w7 (by omega) h2 f2)
      rw [show (k * 10 + (9 - 9)) * 8 = k * 80 by omega]
      exact h1
  refine kinds 2 0 _ none none none none rfl ⟨?_, fun j x hq => by cases hq⟩ ⟨fun a w1 w2 w3 => ?_, fun c hc => rfl, fun c hc => ?_, fun c hc => rfl, rfl⟩
  · show (if 60 = 60 ∧ 1 = 1 ∧ t = t then 0 else bh_I M 60 1 t) = _
    rw [if_pos ⟨rfl, rfl, rfl⟩]
    rfl
  · funext y c9
    show (if a = 60 ∧ y = 1 ∧ c9 = t then _ else bh_I M a y c9) = _
    rw [if_neg (fun q => w2 q.1)]
  · show (if 60 = 60 ∧ 1 = 1 ∧ c = t then _ else bh_I M 60 1 c) = _
    rw [if_neg (fun q => hc q.2.2)]
theorem cm_M_find1 {M : bh_M} {Z : bh_F → Prop} {d : sd} {w : sw} {e : sx} {τ : Nat → Nat → Nat} {T : Nat → Bool} {b0 k0 t : Nat} (ht29 : t < 29) (hb0 : b0 < 8) (hk0 : k0 < d_ni d b0) (e58 : bh_I M 58 1 t = nI (3 * b0 + k0)) (hd : rdM M d w e τ) (htk : tkM M T) (hT : True) (hs : bh_stat M.2.2.2) (h : ∀ M', cdM M' d e b0 k0 t (d_cand d T true b0 k0) → bh_I M' 61 1 t = 0 → fr_F M M' t → Z (.inl none, M')) : F_M_find [.inr (40, 1), .inl (.int (nI t)), .inl (.int 1)] M Z := by
  have hk3 := (hd.2.2 b0 hb0).2.2.1.2.1
  have ht : t < 30 := by omega
  refine be1_M_find t ht hs ?_
  -- one bundle at one version
  have cell : ∀ (k v b : Nat) (M1 : bh_M) (w6 w7 : Option bh_V), k < 1 → v < 10 → b < 8 → cdM M1 d e b0 k0 t (d_L d T true b0 k0 ((k * 10 + (9 - v)) * 8 + b)) → fr_F M M1 t → (∀ M2 w6 w7, cdM M2 d e b0 k0 t (d_L d T true b0 k0 ((k * 10 + (9 - v)) * 8 + (b + 1))) → fr_F M M2 t → bh_wp (bh_tb T_M_find) (34, [some (.inr (40, 1)), some (.inl (.int (nI t))), some (.inl (.int 1)), some (.inl (.int (nI k))), some (.inl (.int (nI v))), some (.inl (.int (nI (b + 1)))), w6, w7], [], M2, 0) Z) → bh_wp (bh_tb T_M_find) (34, [some (.inr (40, 1)), some (.inl (.int (nI t))), some (.inl (.int 1)), some (.inl (.int (nI k))), some (.inl (.int (nI v))), some (.inl (.int (nI b))), w6, w7], [], M1, 0) Z := by
    intro k v b M1 w6 w7 hk hv hb h1 f1 nx
    have hs1 := f1.stat hs
    have hd1 := hd.mv f1.m
    have htk1 : tkM M1 T := fun x hx => by rw [f1.1 63 (by decide) (by decide) (by decide)]; exact htk x hx
    have e581 : bh_I M1 58 1 t = nI (3 * b0 + k0) := by rw [f1.1 58 (by decide) (by decide) (by decide)]; exact e58
    have hL := d_L_s d T true b0 k0 ((k * 10 + (9 - v)) * 8 + b)
    have hmod : ((k * 10 + (9 - v)) * 8 + b) % 8 = b := by omega
    have skip : ∀ w6 w7, d_P d T true b0 k0 ((k * 10 + (9 - v)) * 8 + b) = false → bh_wp (bh_tb T_M_find) (34, [some (.inr (40, 1)), some (.inl (.int (nI t))), some (.inl (.int 1)), some (.inl (.int (nI k))), some (.inl (.int (nI v))), some (.inl (.int (nI (b + 1)))), w6, w7], [], M1, 0) Z := by
      intro w6 w7 q
      rw [q, if_neg Bool.false_ne_true] at hL
      exact nx M1 w6 w7 (by rw [show (k * 10 + (9 - v)) * 8 + (b + 1) = (k * 10 + (9 - v)) * 8 + b + 1 by omega, hL]; exact h1) f1
    -- its exports
    have exps : ∀ (a6 : Int32), d_may d T true b = true → (d_live d b = true ↔ k = 0) → bh_wp (bh_tb T_M_find) (99, [some (.inr (40, 1)), some (.inl (.int (nI t))), some (.inl (.int 1)), some (.inl (.int (nI k))), some (.inl (.int (nI v))), some (.inl (.int (nI b))), some (.inl (.int a6)), some (.inl (.int (nI (3 * b))))], [], M1, 0) Z := by
      intro a6 hmay hlk
      obtain ⟨-, ⟨x1, x2, x3, x4, x5, x6⟩, -⟩ := hd1.2.2 b hb
      have hkey : ∀ j, j < x_n e b → d_ver d b (x_p e b j) = some v → x_p e b j = d_ip d b0 k0 → d_lo d b0 k0 ≤ v → v ≤ d_hi d b0 k0 → d_P d T true b0 k0 ((k * 10 + (9 - v)) * 8 + b) = true := by
        intro j hj hv1 hv2 hv3 hv4
        unfold d_P
        rw [hmod, hmay, Bool.and_true, decide_eq_true_eq]
        unfold d_key
        rw [if_neg (hd1.st1 hb hj), ← hv2, hv1]
        show (if d_lo d b0 k0 ≤ v ∧ v ≤ d_hi d b0 k0 then some (((if d_live d b = true then 0 else 10) + (9 - v)) * 8 + b) else none) = _
        rw [if_pos ⟨hv3, hv4⟩]
        by_cases c : k = 0
        · rw [if_pos (hlk.mpr c), c]
        · rw [if_neg (fun q => c (hlk.mp q)), show k = 1 by omega]
      have key : ∀ (m j : Nat) (M2 : bh_M), j + m = x_n e b → fr_F M M2 t → ((cdM M2 d e b0 k0 t (d_L d T true b0 k0 ((k * 10 + (9 - v)) * 8 + b)) ∧ ∀ j', j' < j → ¬ (d_ver d b (x_p e b j') = some v ∧ x_p e b j' = d_ip d b0 k0 ∧ d_lo d b0 k0 ≤ v ∧ v ≤ d_hi d b0 k0)) ∨ (cdM M2 d e b0 k0 t (d_L d T true b0 k0 ((k * 10 + (9 - v)) * 8 + b) ++ [(k * 10 + (9 - v)) * 8 + b]) ∧ d_P d T true b0 k0 ((k * 10 + (9 - v)) * 8 + b) = true ∧ ∃ j0, j0 < j ∧ x_p e b j0 = d_ip d b0 k0)) → bh_wp (bh_tb T_M_find) (99, [some (.inr (40, 1)), some (.inl (.int (nI t))), some (.inl (.int 1)), some (.inl (.int (nI k))), some (.inl (.int (nI v))), some (.inl (.int (nI b))), some (.inl (.int a6)), some (.inl (.int (nI (3 * b + j))))], [], M2, 0) Z := by
        intro m
        induction m with
        | zero =>
          intro j M2 e1 f2 hx
          have : j = x_n e b := by omega
          subst this
          have hd2 := hd.mv f2.m
          refine bx1_M_find_99 t k v b a6 hb (hd2.2.2 b hb).2.1.1 x2 ht (f2.stat hs) ?_
          refine nx M2 _ _ ?_ f2
          rw [show (k * 10 + (9 - v)) * 8 + (b + 1) = (k * 10 + (9 - v)) * 8 + b + 1 by omega, hL]
          rcases hx with ⟨hx, hno⟩ | ⟨hx, hP, -⟩
          · rw [if_neg]
            · exact hx
            · intro hP
              unfold d_P at hP
              rw [hmod, hmay, Bool.and_true, decide_eq_true_eq] at hP
              unfold d_key at hP
              split at hP
              · cases hP
              · split at hP
                · cases hP
                · rename_i v' hv'
                  split at hP
                  · rename_i hlo
                    have hP := Option.some.inj hP
                    have hp8 : d_ip d b0 k0 < 8 := ((hd.2.2 b0 hb0).2.2.1.2.2.1 k0 hk0).2.1
                    obtain ⟨j, hj, hj2⟩ := x5 _ hp8 (by rw [hv']; rfl)
                    obtain ⟨-, -, -, v2, y1, y2, -⟩ := x3 j hj
                    rw [hj2, hv'] at y1
                    have y1 := Option.some.inj y1
                    have hvv : v' = v := by
                      by_cases c : k = 0
                      · rw [if_pos (hlk.mpr c)] at hP
                        omega
                      · rw [if_neg (fun q => c (hlk.mp q))] at hP
                        omega
                    subst hvv
                    exact hno j hj ⟨by rw [hj2]; exact hv', hj2, hlo.1, hlo.2⟩
                  · cases hP
          · rw [if_pos hP]
            exact hx
        | succ m ih =>
          intro j M2 e1 f2 hx
          have hd2 := hd.mv f2.m
          have hs2 := f2.stat hs
          obtain ⟨-, ⟨z1, z2, z3, -⟩, -⟩ := hd2.2.2 b hb
          have hj : j < x_n e b := by omega
          obtain ⟨y1, y2, -, u, y4, y5, y6⟩ := z3 j hj
          have e582 : bh_I M2 58 1 t = nI (3 * b0 + k0) := by rw [f2.1 58 (by decide) (by decide) (by decide)]; exact e58
          have hc : ∃ c, bh_I M2 60 1 t = nI c ∧ c ≤ 8 := by
            rcases hx with ⟨hx, -⟩ | ⟨hx, hP, -⟩
            · exact ⟨_, hx.1, d_L_len _ _ _ _ _ _ (by omega)⟩
            · rw [hP, if_pos rfl] at hL
              rw [← hL] at hx
              exact ⟨_, hx.1, d_L_len _ _ _ _ _ _ (by omega)⟩
          obtain ⟨c, hc1, hc2⟩ := hc
          refine bl1_M_find_99 t k v b a6 j hb z1 z2 ht hj (x := 3 * b0 + k0) (u := u) e582 (by omega) y6 (by omega) hv hs2 ⟨fun q => ih (j + 1) M2 (by omega) f2 ?_, fun q => ?_⟩
          · rcases hx with ⟨hx, hno⟩ | ⟨hx, hP, j0, g1, g2⟩
            · refine Or.inl ⟨hx, fun j' hj' => ?_⟩
              by_cases c9 : j' = j
              · subst c9
                intro w9
                rw [y4] at w9
                exact q (Option.some.inj w9.1)
              · exact hno j' (by omega)
            · exact Or.inr ⟨hx, hP, j0, by omega, g2⟩
          · have q : u = v := Decidable.of_not_not q
            subst q
            refine cm_M_fits hb hj hb0 hk0 y4 hd2 hs2 (fun q1 q2 => ?_) (fun q1 => ?_)
            · -- it fits
              rcases hx with ⟨hx, hno⟩ | ⟨hx, hP, j0, g1, g2⟩
              · have hP := hkey j hj y4 q1 q2.1 q2.2
                have hlen : (d_L d T true b0 k0 ((k * 10 + (9 - u)) * 8 + b)).length < 8 := by
                  have := d_L_len d T true b0 k0 ((k * 10 + (9 - u)) * 8 + b + 1) (by omega)
                  rw [hL, hP, if_pos rfl, List.length_append] at this
                  have e9 : ([(k * 10 + (9 - u)) * 8 + b] : List Nat).length = 1 := rfl
                  omega
                refine bk1_M_find_140 t k u b a6 1 j (by omega) ht hx.1 (by omega) hs2 ⟨fun _ => ?_, fun q9 => absurd (by decide) q9⟩
                refine ih (j + 1) _ (by omega) (fr_F_trans f2 ⟨fun a w1 w2 w3 => ?_, fun c9 hc9 => ?_, fun c9 hc9 => ?_, fun c9 hc9 => rfl, rfl⟩) (Or.inr ⟨⟨?_, fun j9 x9 hq9 => ?_⟩, hP, j, by omega, q1⟩)
                · funext y c9
                  show (if a = 60 ∧ y = 1 ∧ c9 = t then _ else if a = 59 ∧ y = 1 ∧ c9 = 8 * t + (d_L d T true b0 k0 ((k * 10 + (9 - u)) * 8 + b)).length then _ else bh_I M2 a y c9) = _
                  rw [if_neg (fun q => w2 q.1), if_neg (fun q => w1 q.1)]
                · show (if 59 = 60 ∧ 1 = 1 ∧ c9 = t then nI ((d_L d T true b0 k0 ((k * 10 + (9 - u)) * 8 + b)).length + 1) else if 59 = 59 ∧ 1 = 1 ∧ c9 = 8 * t + (d_L d T true b0 k0 ((k * 10 + (9 - u)) * 8 + b)).length then nI (3 * b + j) else bh_I M2 59 1 c9) = _
                  rw [if_neg (by omega), if_neg (by omega)]
                · show (if 60 = 60 ∧ 1 = 1 ∧ c9 = t then _ else bh_I M2 60 1 c9) = _
                  rw [if_neg (fun q => hc9 q.2.2)]
                · show (if 60 = 60 ∧ 1 = 1 ∧ t = t then nI ((d_L d T true b0 k0 ((k * 10 + (9 - u)) * 8 + b)).length + 1) else bh_I M2 60 1 t) = _
                  rw [if_pos ⟨rfl, rfl, rfl⟩, List.length_append]
                  rfl
                · show ∃ j', j' < x_n e (x9 % 8) ∧ x_p e (x9 % 8) j' = d_ip d b0 k0 ∧ (if 59 = 60 ∧ 1 = 1 ∧ 8 * t + j9 = t then nI ((d_L d T true b0 k0 ((k * 10 + (9 - u)) * 8 + b)).length + 1) else if 59 = 59 ∧ 1 = 1 ∧ 8 * t + j9 = 8 * t + (d_L d T true b0 k0 ((k * 10 + (9 - u)) * 8 + b)).length then nI (3 * b + j) else bh_I M2 59 1 (8 * t + j9)) = nI (3 * (x9 % 8) + j')
                  by_cases c9 : j9 = (d_L d T true b0 k0 ((k * 10 + (9 - u)) * 8 + b)).length
                  · rw [List.getElem?_append_right (by omega), c9, Nat.sub_self] at hq9
                    have hq9 : (k * 10 + (9 - u)) * 8 + b = x9 := Option.some.inj hq9
                    subst hq9
                    rw [hmod]
                    refine ⟨j, hj, q1, ?_⟩
                    rw [if_neg (by omega), if_pos ⟨rfl, rfl, by omega⟩]
                  · have hlt : j9 < (d_L d T true b0 k0 ((k * 10 + (9 - u)) * 8 + b)).length := by
                      have := (List.getElem?_eq_some_iff.mp hq9).1
                      rw [List.length_append] at this
                      have e9 : ([(k * 10 + (9 - u)) * 8 + b] : List Nat).length = 1 := rfl
                      omega
                    rw [List.getElem?_append_left hlt] at hq9
                    obtain ⟨j', r1, r2, r3⟩ := hx.2 j9 x9 hq9
                    refine ⟨j', r1, r2, ?_⟩
                    rw [if_neg (by omega), if_neg (by omega)]
                    exact r3
              · have := x4 j0 j (by omega) hj (g2.trans q1.symm)
                omega
            · refine bk1_M_find_140 t k u b a6 0 j (by omega) ht hc1 (by omega) hs2 ⟨fun q9 => absurd rfl q9, fun _ => ih (j + 1) M2 (by omega) f2 ?_⟩
              rcases hx with ⟨hx, hno⟩ | ⟨hx, hP, j0, g1, g2⟩
              · refine Or.inl ⟨hx, fun j' hj' => ?_⟩
                by_cases c9 : j' = j
                · subst c9
                  intro w9
                  exact q1 w9.2
                · exact hno j' (by omega)
              · exact Or.inr ⟨hx, hP, j0, by omega, g2⟩
      exact key (x_n e b) 0 M1 (by omega) f1 (Or.inl ⟨h1, fun j' hj' => absurd hj' (Nat.not_lt_zero _)⟩)
    have noP : (d_key d b0 k0 b = some ((k * 10 + (9 - v)) * 8 + b) → False) → d_P d T true b0 k0 ((k * 10 + (9 - v)) * 8 + b) = false := by
      intro q
      unfold d_P
      rw [hmod, decide_eq_false q, Bool.false_and]
    have hone := hd1.one hb
    have hlv := hd1.lv hb
    refine bl1_M_find_34 t k v b w6 w7 hb (by omega) hs1 ⟨fun q => ⟨fun q2 => skip _ _ (noP ?_), fun q2 => ?_⟩, fun q => ⟨fun q2 => skip _ _ (noP ?_), fun q2 => ?_⟩⟩
    · intro c
      rw [hone] at q2
      unfold d_key at c
      split at c
      · cases c
      · rename_i hz
        split at c
        · cases c
        · split at c
          · have hl : d_live d b = true := by
              unfold d_live
              exact decide_eq_true (by omega)
            rw [if_pos hl] at c
            have := Option.some.inj c
            omega
          · cases c
    · have q2 := hone.mp (Decidable.of_not_not q2)
      have hl : d_live d b = false := by
        unfold d_live
        exact decide_eq_false (by omega)
      have hlk : d_live d b = true ↔ k = 0 := by
        rw [hl]
        exact ⟨fun c => absurd c Bool.false_ne_true, fun c => absurd c q⟩
      omega
    · intro c
      rw [hlv] at q2
      unfold d_key at c
      split at c
      · cases c
      · split at c
        · cases c
        · split at c
          · rw [if_neg (by rw [q2]; exact Bool.false_ne_true)] at c
            have := Option.some.inj c
            omega
          · cases c
    · rw [hlv, Bool.not_eq_false] at q2
      have hlk : d_live d b = true ↔ k = 0 := ⟨fun _ => by omega, fun _ => q2⟩
      exact exps 1 q2 hlk
  -- all bundles at one version
  have bunds : ∀ (m b k v : Nat) (M1 : bh_M) (w6 w7 : Option bh_V), b + m = 8 → k < 1 → v < 10 → cdM M1 d e b0 k0 t (d_L d T true b0 k0 ((k * 10 + (9 - v)) * 8 + b)) → fr_F M M1 t → (∀ M2 w6 w7, cdM M2 d e b0 k0 t (d_L d T true b0 k0 ((k * 10 + (9 - v)) * 8 + 8)) → fr_F M M2 t → bh_wp (bh_tb T_M_find) (34, [some (.inr (40, 1)), some (.inl (.int (nI t))), some (.inl (.int 1)), some (.inl (.int (nI k))), some (.inl (.int (nI v))), some (.inl (.int (nI 8))), w6, w7], [], M2, 0) Z) → bh_wp (bh_tb T_M_find) (34, [some (.inr (40, 1)), some (.inl (.int (nI t))), some (.inl (.int 1)), some (.inl (.int (nI k))), some (.inl (.int (nI v))), some (.inl (.int (nI b))), w6, w7], [], M1, 0) Z := by
    intro m
    induction m with
    | zero =>
      intro b k v M1 w6 w7 e1 hk hv h1 f1 nx
      have : b = 8 := by omega
      subst this
      exact nx M1 w6 w7 h1 f1
    | succ m ih =>
      intro b k v M1 w6 w7 e1 hk hv h1 f1 nx
      exact cell k v b M1 w6 w7 hk hv (by omega) h1 f1 (fun M2 w6 w7 h2 f2 => ih (b + 1) k v M2 w6 w7 (by omega) hk hv h2 f2 nx)
  -- all versions
  have vers : ∀ (v k : Nat) (M1 : bh_M) (w5 w6 w7 : Option bh_V), k < 1 → v < 10 → cdM M1 d e b0 k0 t (d_L d T true b0 k0 ((k * 10 + (9 - v)) * 8)) → fr_F M M1 t → (∀ M2 w4 w5 w6 w7, cdM M2 d e b0 k0 t (d_L d T true b0 k0 ((k + 1) * 80)) → fr_F M M2 t → bh_wp (bh_tb T_M_find) (9, [some (.inr (40, 1)), some (.inl (.int (nI t))), some (.inl (.int 1)), some (.inl (.int (nI (k + 1)))), w4, w5, w6, w7], [], M2, 0) Z) → bh_wp (bh_tb T_M_find) (26, [some (.inr (40, 1)), some (.inl (.int (nI t))), some (.inl (.int 1)), some (.inl (.int (nI k))), some (.inl (.int (nI v))), w5, w6, w7], [], M1, 0) Z := by
    intro v
    induction v with
    | zero =>
      intro k M1 w5 w6 w7 hk hv h1 f1 nx
      refine bl1_M_find_26 t k 0 w5 w6 w7 hv (f1.stat hs) ?_
      refine bunds 8 0 k 0 M1 w6 w7 rfl hk hv h1 f1 (fun M2 w6 w7 h2 f2 => ?_)
      refine bx01_M_find_34 t k w6 w7 (f2.stat hs) ?_
      refine bx1_M_find_26 t k _ _ w6 w7 (by decide) (f2.stat hs) ?_
      refine nx M2 _ _ _ _ ?_ f2
      rw [show (k + 1) * 80 = (k * 10 + (9 - 0)) * 8 + 8 by omega]
      exact h2
    | succ v ih =>
      intro k M1 w5 w6 w7 hk hv h1 f1 nx
      refine bl1_M_find_26 t k (v + 1) w5 w6 w7 hv (f1.stat hs) ?_
      refine bunds 8 0 k (v + 1) M1 w6 w7 rfl hk hv h1 f1 (fun M2 w6 w7 h2 f2 => ?_)
      refine bxs1_M_find_34 t k w6 w7 v (f2.stat hs) ?_
      refine ih k M2 _ w6 w7 hk (by omega) ?_ f2 nx
      rw [show (k * 10 + (9 - v)) * 8 = (k * 10 + (9 - (v + 1))) * 8 + 8 by omega]
      exact h2
  have kinds : ∀ (m k : Nat) (M1 : bh_M) (w4 w5 w6 w7 : Option bh_V), k + m = 1 → cdM M1 d e b0 k0 t (d_L d T true b0 k0 (k * 80)) → fr_F M M1 t → bh_wp (bh_tb T_M_find) (9, [some (.inr (40, 1)), some (.inl (.int (nI t))), some (.inl (.int 1)), some (.inl (.int (nI k))), w4, w5, w6, w7], [], M1, 0) Z := by
    intro m
    induction m with
    | zero =>
      intro k M1 w4 w5 w6 w7 e1 h1 f1
      have : k = 1 := by omega
      subst this
      refine bx1_M_find_9 t w4 w5 w6 w7 ht (f1.stat hs) (h _ ⟨by have := h1.1; rw [← d_L_80 d T b0 k0 80] at this; exact this, fun j x hq => ?_⟩ ?_ (fr_F_trans f1 ⟨fun a w1 w2 w3 => ?_, fun c hc => rfl, fun c hc => rfl, fun c hc => ?_, rfl⟩))
      · exact h1.2 j x (by rw [← d_L_80 d T b0 k0 80]; exact hq)
      · show (if 61 = 61 ∧ 1 = 1 ∧ t = t then 0 else bh_I M1 61 1 t) = 0
        rw [if_pos ⟨rfl, rfl, rfl⟩]
      · funext y c9
        show (if a = 61 ∧ y = 1 ∧ c9 = t then _ else bh_I M1 a y c9) = _
        rw [if_neg (fun q => w3 q.1)]
      · show (if 61 = 61 ∧ 1 = 1 ∧ c = t then _ else bh_I M1 61 1 c) = _
        rw [if_neg (fun q => hc q.2.2)]
    | succ m ih =>
      intro k M1 w4 w5 w6 w7 e1 h1 f1
      refine bl1_M_find_9 t k w4 w5 w6 w7 (by omega) (f1.stat hs) ?_
      refine vers 9 k M1 w5 w6 w7 (by omega) (by decide) ?_ f1 (fun M2 w4 w5 w6 w7 h2 f2 => ih (k + 1) M2 w4 w5 w6 w7 (by omega) h2 f2)
      rw [show (k * 10 + (9 - 9)) * 8 = k * 80 by omega]
      exact h1
  refine kinds 1 0 _ none none none none rfl ⟨?_, fun j x hq => by cases hq⟩ ⟨fun a w1 w2 w3 => ?_, fun c hc => rfl, fun c hc => ?_, fun c hc => rfl, rfl⟩
  · show (if 60 = 60 ∧ 1 = 1 ∧ t = t then 0 else bh_I M 60 1 t) = _
    rw [if_pos ⟨rfl, rfl, rfl⟩]
    rfl
  · funext y c9
    show (if a = 60 ∧ y = 1 ∧ c9 = t then _ else bh_I M a y c9) = _
    rw [if_neg (fun q => w2 q.1)]
  · show (if 60 = 60 ∧ 1 = 1 ∧ c = t then _ else bh_I M 60 1 c) = _
    rw [if_neg (fun q => hc q.2.2)]
