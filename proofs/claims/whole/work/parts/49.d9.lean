/-! optional imports; the whole resolving of the class -/
def d_res (d : sd) (T : Nat → Bool) : sd := (fun b => if T b then 2 else d.1 b, d.2)
def d_opt (d : sd) (T : Nat → Bool) (b k : Nat) : List Nat → sw → sw
  | [], w => w
  | x :: xs, w => if d_clash d (d_set w b k (some (x % 8, d_lf d (x % 8)))) T then d_opt d T b k xs w else d_set w b k (some (x % 8, d_lf d (x % 8)))
def d_optK (d : sd) (T : Nat → Bool) (b : Nat) : Nat → sw → sw
  | 0, w => w
  | k + 1, w => if d_op d b k then d_opt d T b k (d_cand d T true b k) (d_optK d T b k w) else d_optK d T b k w
def d_optB (d : sd) (T : Nat → Bool) : Nat → sw → sw
  | 0, w => w
  | b + 1, w => if T b then d_optK d T b (d_ni d b) (d_optB d T b w) else d_optB d T b w
def d_run (d : sd) (w : sw) (r : Nat) : Nat × sd × sw × Nat × Int32 := if d_named d (fun _ => false) r then (2, d, w, 0, 0) else match d_dfs d 25 (w, d_tk (fun _ => false) r true, d_tasks d r) 0 0 with
  | (none, n) => (if 300 < n then 3 else 2, d, w, n, 0)
  | (some s, n) => (1, d_res d s.2.1, d_optB (d_res d s.2.1) s.2.1 8 s.1, n, bh_cnt s.2.1 8)
def d_hv (d : sd) (T : Nat → Bool) (w : sw) : Prop := ∀ b k o l, b < 8 → T b = true → k < d_ni d b → w b k = some (o, l) → (d_ver d o (d_ip d b k)).isSome = true
def fr_6 (M M' : bh_M) : Prop := (∀ a, a ≠ 6 → bh_I M' a = bh_I M a) ∧ M'.2 = M.2
theorem fr_6_refl (M : bh_M) : fr_6 M M := ⟨fun _ _ => rfl, rfl⟩
theorem fr_6_trans {M M' M'' : bh_M} (h : fr_6 M M') (g : fr_6 M' M'') : fr_6 M M'' := ⟨fun a h1 => (g.1 a h1).trans (h.1 a h1), g.2.trans h.2⟩
theorem fr_6.w {M M' : bh_M} (h : fr_6 M M') : fr_W M M' := ⟨fun a h1 _ _ _ _ => h.1 a h1, h.2⟩
theorem fr_6_set (M : bh_M) (x k : Nat) (v : Int32) : fr_6 M (bh_sI M 6 x k v) := ⟨fun a h1 => by
  funext y c
  show (if a = 6 ∧ y = x ∧ c = k then _ else bh_I M a y c) = _
  rw [if_neg (fun q => h1 q.1)], rfl⟩
theorem d_cand_ver {d : sd} {T : Nat → Bool} {only : Bool} {b k x : Nat} (h : x ∈ d_cand d T only b k) : (d_ver d (x % 8) (d_ip d b k)).isSome = true := by
  have x2 := (d_cand_mem.mp h).2.1
  unfold d_key at x2
  split at x2
  · cases x2
  · split at x2
    · cases x2
    · rename_i v e9
      rw [e9]
      rfl
theorem d_hv_set {d : sd} {T : Nat → Bool} {w : sw} {b k e : Nat} (h : d_hv d T w) (hv : (d_ver d e (d_ip d b k)).isSome = true) : d_hv d T (d_set w b k (some (e, d_lf d e))) := by
  intro b' k' o l hb hT hk hw
  unfold d_set at hw
  by_cases c : b' = b ∧ k' = k
  · rw [if_pos c] at hw
    obtain ⟨rfl, rfl⟩ := c
    obtain ⟨rfl, -⟩ := Prod.mk.inj (Option.some.inj hw)
    exact hv
  · rw [if_neg c] at hw
    exact h b' k' o l hb hT hk hw
theorem d_opt_hv {d : sd} {T : Nat → Bool} {b k : Nat} : ∀ {xs : List Nat} {w : sw}, (∀ x ∈ xs, (d_ver d (x % 8) (d_ip d b k)).isSome = true) → d_hv d T w → d_hv d T (d_opt d T b k xs w)
  | [], w, _, h => h
  | x :: xs, w, hx, h => by
    unfold d_opt
    split
    · exact d_opt_hv (fun y hy => hx y (List.mem_cons_of_mem _ hy)) h
    · exact d_hv_set h (hx x List.mem_cons_self)
theorem d_opt_out {d : sd} {T : Nat → Bool} {b k x y : Nat} (hne : ¬ (x = b ∧ y = k)) : ∀ (xs : List Nat) (w : sw), d_opt d T b k xs w x y = w x y
  | [], w => rfl
  | z :: xs, w => by
    unfold d_opt
    split
    · exact d_opt_out hne xs w
    · unfold d_set
      rw [if_neg hne]
theorem d_optK_out {d : sd} {T : Nat → Bool} {b x y : Nat} : ∀ (n : Nat) (w : sw), ¬ (x = b ∧ y < n) → d_optK d T b n w x y = w x y
  | 0, w, _ => rfl
  | n + 1, w, h => by
    unfold d_optK
    split
    · rw [d_opt_out (by omega), d_optK_out n w (by omega)]
    · exact d_optK_out n w (by omega)
theorem d_optK_hv {d : sd} {T : Nat → Bool} {b : Nat} : ∀ (n : Nat) {w : sw}, d_hv d T w → d_hv d T (d_optK d T b n w)
  | 0, _, h => h
  | n + 1, w, h => by
    unfold d_optK
    split
    · exact d_opt_hv (fun x hx => d_cand_ver hx) (d_optK_hv n h)
    · exact d_optK_hv n h
theorem d_optB_out {d : sd} {T : Nat → Bool} {x y : Nat} : ∀ (n : Nat) (w : sw), ¬ x < n → d_optB d T n w x y = w x y
  | 0, w, _ => rfl
  | n + 1, w, h => by
    unfold d_optB
    split
    · rw [d_optK_out _ _ (by omega), d_optB_out n w (by omega)]
    · exact d_optB_out n w (by omega)
theorem d_optB_hv {d : sd} {T : Nat → Bool} : ∀ (n : Nat) {w : sw}, d_hv d T w → d_hv d T (d_optB d T n w)
  | 0, _, h => h
  | n + 1, w, h => by
    unfold d_optB
    split
    · exact d_optK_hv _ (d_optB_hv n h)
    · exact d_optB_hv n h
theorem cd_R_wireOptional {M : bh_M} {Z : bh_F → Prop} {d : sd} {w : sw} {T : Nat → Bool} {b k : Nat} (hb : b < 8) (hk : k < d_ni d b) (hd : rdC M d w) (ht : tkC M T) (hwn : w b k = none) (hv : d_hv d T w) (hs : bh_stat M.2.2.2) (h : ∀ M', rdC M' d (d_opt d T b k (d_cand d T true b k) w) → fr_6 M M' → Z (.inl none, M')) : F_R_wireOptional [.inr (15, 1), .inr (4, 1), .inr (5, b + 1), .inl (.int (nI k))] M Z := by
  refine be_R_wireOptional k hb hs ?_
  have hk3 : k < 3 := by have := (hd b hb).2.2.1.2; omega
  have hcs := d_cand_sorted d T true b k
  have hc8 := d_cand_8 d T true b k
  have key : ∀ (xs : List Nat) (i : Nat) (a4 : Int32) (lb : Nat) (M1 : bh_M), i + xs.length ≤ 8 → d_suf (d_cand d T true b k) lb xs → (∀ x, x ≤ 160 → (nI x ≤ a4 ↔ x < lb)) → rdC M1 d w → fr_6 M M1 → (∀ M', rdC M' d (d_opt d T b k xs w) → fr_6 M M' → Z (.inl none, M')) → bh_wp (bh_tb T_R_wireOptional) (6, [some (.inr (15, 1)), some (.inr (4, 1)), some (.inr (5, b + 1)), some (.inl (.int (nI k))), some (.inl (.int a4)), some (.inl (.int (nI i)))], [], M1, 0) Z := by
    intro xs
    induction xs with
    | nil =>
      intro i a4 lb M1 hi hsuf hlb h1 f1 hp
      have hs1 := f1.w.stat hs
      have ht1 : tkC M1 T := fun x hx => by rw [f1.1 18 (by decide)]; exact ht x hx
      have hi : i ≤ 8 := hi
      by_cases ei : i = 8
      · subst ei
        exact bx_R_wireOptional_6 k a4 hb hs1 (hp M1 h1 f1)
      · refine bl_R_wireOptional_6 k a4 i hb (by omega) hs1 ?_
        refine cd_R_candidateAfter a4 lb true hlb hb hk h1 ht1 (fun q => absurd q (by decide)) hs1 ?_
        rw [d_mn_find, d_suf_find hsuf]
        exact bk_R_wireOptional_26 k _ i 160 hb (by decide) hk3 hs1 ⟨fun q => absurd rfl q, fun _ => hp M1 h1 f1⟩
    | cons x xs ih =>
      intro i a4 lb M1 hi hsuf hlb h1 f1 hp
      have hs1 := f1.w.stat hs
      have ht1 : tkC M1 T := fun x hx => by rw [f1.1 18 (by decide)]; exact ht x hx
      have hi : i + (xs.length + 1) ≤ 8 := hi
      have hx : x ∈ d_cand d T true b k := by
        obtain ⟨as, e1, -⟩ := hsuf
        rw [e1]
        exact List.mem_append_right _ List.mem_cons_self
      obtain ⟨x1, x2, x3⟩ := d_cand_mem.mp hx
      have he : x % 8 < 8 := Nat.mod_lt _ (by decide)
      refine bl_R_wireOptional_6 k a4 i hb (by omega) hs1 ?_
      refine cd_R_candidateAfter a4 lb true hlb hb hk h1 ht1 (fun q => absurd q (by decide)) hs1 ?_
      rw [d_mn_find, d_suf_find hsuf]
      refine bk_R_wireOptional_26 k _ i x hb (by omega) hk3 hs1 ⟨fun _ => ?_, fun q => absurd (show ¬ x = 160 by omega) q⟩
      obtain ⟨⟨-, -, -, -, eport, hlf⟩, -⟩ := h1 (x % 8) he
      rw [eport]
      have g1 : rdC (bh_sI M1 6 (b + 1) k (nI (x % 8 + 8 * d_lf d (x % 8)))) d (d_set w b k (some (x % 8, d_lf d (x % 8)))) := rdC_set h1 b k (some (x % 8, d_lf d (x % 8))) (fun o l q => by cases q; exact ⟨he, hlf⟩)
      have f2 : fr_6 M (bh_sI M1 6 (b + 1) k (nI (x % 8 + 8 * d_lf d (x % 8)))) := fr_6_trans f1 (fr_6_set _ _ _ _)
      refine cd_R_hasClash g1 ht1 (d_hv_set hv (d_cand_ver hx)) hs1 (fun q => ?_) (fun q => ?_)
      · refine bk_R_wireOptional_58 (M := bh_sI M1 6 (b + 1) k (nI (x % 8 + 8 * d_lf d (x % 8)))) k x i 1 hb hk3 hs1 ⟨fun _ => ?_, fun q9 => absurd (by decide) q9⟩
        refine ih (i + 1) (nI x) (x + 1) _ (by omega) (d_suf_s hcs hsuf) (fun y hy => by rw [bn_le (by omega) (by omega)]; omega) ?_ (fr_6_trans f2 (fr_6_set _ _ _ _)) (fun M' y1 y2 => hp M' ?_ y2)
        · have := rdC_set g1 b k none (fun o l q => by cases q)
          rw [d_set_back hwn] at this
          exact this
        · unfold d_opt
          rw [if_pos q]
          exact y1
      · refine bk_R_wireOptional_58 (M := bh_sI M1 6 (b + 1) k (nI (x % 8 + 8 * d_lf d (x % 8)))) k x i 0 hb hk3 hs1 ⟨fun q9 => absurd rfl q9, fun _ => hp _ ?_ f2⟩
        unfold d_opt
        rw [if_neg (by rw [q]; exact Bool.false_ne_true)]
        exact g1
  exact key (d_cand d T true b k) 0 (-1) 0 M (by omega) (d_suf_0 _) (fun x hx => by
    rw [Int32.le_iff_toInt_le, bn_toInt (by omega), show (-1 : Int32).toInt = -1 from rfl]
    omega) hd (fr_6_refl M) h
def fr_R (M M' : bh_M) : Prop := (∀ a, a ≠ 5 → a ≠ 6 → a ≠ 15 → a ≠ 16 → a ≠ 17 → a ≠ 18 → bh_I M' a = bh_I M a) ∧ (∀ x c, c ≠ 3 → bh_I M' 5 x c = bh_I M 5 x c) ∧ M'.2 = M.2
theorem fr_R_refl (M : bh_M) : fr_R M M := ⟨fun _ _ _ _ _ _ _ => rfl, fun _ _ _ => rfl, rfl⟩
theorem fr_R_trans {M M' M'' : bh_M} (h : fr_R M M') (g : fr_R M' M'') : fr_R M M'' := ⟨fun a h1 h2 h3 h4 h5 h6 => (g.1 a h1 h2 h3 h4 h5 h6).trans (h.1 a h1 h2 h3 h4 h5 h6), fun x c hc => (g.2.1 x c hc).trans (h.2.1 x c hc), g.2.2.trans h.2.2⟩
theorem fr_W.r {M M' : bh_M} (h : fr_W M M') : fr_R M M' := ⟨fun a _ h2 h3 h4 h5 h6 => h.1 a h2 h3 h4 h5 h6, fun x c _ => by rw [h.1 5 (by decide) (by decide) (by decide) (by decide) (by decide)], h.2⟩
theorem fr_R.stat {M M' : bh_M} (h : fr_R M M') (hs : bh_stat M.2.2.2) : bh_stat M'.2.2.2 := by rw [h.2.2]; exact hs
def d_resN (d : sd) (T : Nat → Bool) (n : Nat) : sd := (fun b => if decide (b < n) && T b then 2 else d.1 b, d.2)
theorem rdC_st2 {M : bh_M} {d : sd} {w : sw} {T : Nat → Bool} {i : Nat} (h : rdC M (d_resN d T i) w) (hi : i < 8) (hT : T i = true) (hst : d_st d i = 1) : rdC (bh_sI M 5 (i + 1) 3 2) (d_resN d T (i + 1)) w := by
  intro b hb
  obtain ⟨⟨h1, h2, h3, h4, h5, h6⟩, h7, h8, h9, h10, h11⟩ := h b hb
  have e5 : ∀ c, ¬ c = 3 → bh_I (bh_sI M 5 (i + 1) 3 2) 5 (b + 1) c = bh_I M 5 (b + 1) c := by
    intro c hc
    rw [bh_I_sI, if_neg (by omega)]
  refine ⟨⟨?_, ?_, ?_, ?_, ?_, h6⟩, h7, h8, h9, h10, h11⟩
  · rw [e5 0 (by decide)]; exact h1
  · show (if 5 = 5 ∧ b + 1 = i + 1 ∧ 3 = 3 then 2 else bh_I M 5 (b + 1) 3) = nI (if decide (b < i + 1) && T b then 2 else d.1 b)
    by_cases c : b = i
    · subst c
      rw [if_pos ⟨rfl, rfl, rfl⟩, hT, decide_eq_true (Nat.lt_succ_self b), Bool.true_and, if_pos rfl]
      rfl
    · rw [if_neg (by omega), h2]
      show nI (if decide (b < i) && T b then 2 else d.1 b) = _
      rw [show decide (b < i) = decide (b < i + 1) from decide_eq_decide.mpr (by omega)]
  · show (if decide (b < i + 1) && T b then 2 else d.1 b) ≤ 3
    by_cases c : b = i
    · subst c
      rw [hT, decide_eq_true (Nat.lt_succ_self b), Bool.true_and, if_pos rfl]
      decide
    · have h3 : (if decide (b < i) && T b then 2 else d.1 b) ≤ 3 := h3
      rw [show decide (b < i + 1) = decide (b < i) from decide_eq_decide.mpr (by omega)]
      exact h3
  · intro q
    rw [e5 4 (by decide)]
    refine h4 (fun q2 => q ?_)
    by_cases c : b = i
    · subst c
      have q2 : (if decide (b < b) && T b then 2 else d.1 b) = 0 := q2
      rw [decide_eq_false (Nat.lt_irrefl b), Bool.false_and, if_neg Bool.false_ne_true] at q2
      have : d.1 b = 1 := hst
      omega
    · have q2 : (if decide (b < i) && T b then 2 else d.1 b) = 0 := q2
      show (if decide (b < i + 1) && T b then 2 else d.1 b) = 0
      rw [show decide (b < i + 1) = decide (b < i) from decide_eq_decide.mpr (by omega)]
      exact q2
  · rw [e5 9 (by decide)]; exact h5
theorem d_resN_f {d : sd} {T : Nat → Bool} {i : Nat} (h : T i = false) : d_resN d T (i + 1) = d_resN d T i := by
  unfold d_resN
  refine Prod.ext ?_ rfl
  funext b
  show (if decide (b < i + 1) && T b then 2 else d.1 b) = (if decide (b < i) && T b then 2 else d.1 b)
  by_cases c : b = i
  · subst c
    rw [h, Bool.and_false, Bool.and_false]
  · rw [show decide (b < i + 1) = decide (b < i) from decide_eq_decide.mpr (by omega)]
theorem d_resN_0 (d : sd) (T : Nat → Bool) : d_resN d T 0 = d := by
  unfold d_resN
  refine Prod.ext ?_ rfl
  funext b
  show (if decide (b < 0) && T b then 2 else d.1 b) = d.1 b
  rw [decide_eq_false (Nat.not_lt_zero b), Bool.false_and, if_neg Bool.false_ne_true]
theorem d_resN_8 {d : sd} {T : Nat → Bool} (h : ∀ b, T b = true → b < 8) : d_resN d T 8 = d_res d T := by
  unfold d_resN d_res
  refine Prod.ext ?_ rfl
  funext b
  show (if decide (b < 8) && T b then 2 else d.1 b) = (if T b then 2 else d.1 b)
  cases c : T b with
  | false => rw [Bool.and_false]
  | true => rw [decide_eq_true (h b c), Bool.true_and]
