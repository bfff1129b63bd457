/-! the search of the class -/
def tsC (M : bh_M) (ts : List (Nat × Nat)) : Prop := bh_I M 15 1 3 = nI ts.length ∧ ts.length ≤ 24 ∧ ∀ i q, ts[i]? = some q → bh_I M 16 1 i = nI q.1 ∧ bh_I M 17 1 i = nI q.2
def fr_W (M M' : bh_M) : Prop := (∀ a, a ≠ 6 → a ≠ 15 → a ≠ 16 → a ≠ 17 → a ≠ 18 → bh_I M' a = bh_I M a) ∧ M'.2 = M.2
def fr_T (M M' : bh_M) : Prop := (∀ a, a ≠ 15 → a ≠ 16 → a ≠ 17 → a ≠ 18 → bh_I M' a = bh_I M a) ∧ M'.2 = M.2
theorem fr_W_refl (M : bh_M) : fr_W M M := ⟨fun _ _ _ _ _ _ => rfl, rfl⟩
theorem fr_W_trans {M M' M'' : bh_M} (h : fr_W M M') (g : fr_W M' M'') : fr_W M M'' := ⟨fun a h1 h2 h3 h4 h5 => (g.1 a h1 h2 h3 h4 h5).trans (h.1 a h1 h2 h3 h4 h5), g.2.trans h.2⟩
theorem fr_T.w {M M' : bh_M} (h : fr_T M M') : fr_W M M' := ⟨fun a _ h2 h3 h4 h5 => h.1 a h2 h3 h4 h5, h.2⟩
theorem fr_W.stat {M M' : bh_M} (h : fr_W M M') (hs : bh_stat M.2.2.2) : bh_stat M'.2.2.2 := by rw [h.2]; exact hs
def stC (M : bh_M) (d : sd) (s : ss) (n : Nat) : Prop := rdC M d s.1 ∧ tkC M s.2.1 ∧ tsC M s.2.2 ∧ bh_I M 15 1 4 = nI n ∧ bh_I M 15 1 5 = bh_cnt s.2.1 8
theorem rdC.mv {M M' : bh_M} {d : sd} {w w' : sw} (h : rdC M d w) (f : fr_W M M') (hw : ∀ b, b < 8 → ∀ k, k < 3 → bh_I M' 6 (b + 1) k = w_enc (w' b k) ∧ ∀ o l, w' b k = some (o, l) → o < 8 ∧ l ≤ 1000) : rdC M' d w' := by
  intro b hb
  obtain ⟨h1, h2, h3, h4, h5, -⟩ := h b hb
  have g : ∀ a, a ≠ 6 → a ≠ 15 → a ≠ 16 → a ≠ 17 → a ≠ 18 → bh_I M' a = bh_I M a := f.1
  rw [g 5 (by decide) (by decide) (by decide) (by decide) (by decide), g 7 (by decide) (by decide) (by decide) (by decide) (by decide), g 8 (by decide) (by decide) (by decide) (by decide) (by decide), g 9 (by decide) (by decide) (by decide) (by decide) (by decide), g 10 (by decide) (by decide) (by decide) (by decide) (by decide), g 11 (by decide) (by decide) (by decide) (by decide) (by decide), g 12 (by decide) (by decide) (by decide) (by decide) (by decide), g 13 (by decide) (by decide) (by decide) (by decide) (by decide), g 14 (by decide) (by decide) (by decide) (by decide) (by decide)]
  exact ⟨h1, h2, h3, h4, h5, hw b hb⟩
theorem rdC.w {M : bh_M} {d : sd} {w : sw} (h : rdC M d w) : ∀ b, b < 8 → ∀ k, k < 3 → bh_I M 6 (b + 1) k = w_enc (w b k) ∧ ∀ o l, w b k = some (o, l) → o < 8 ∧ l ≤ 1000 := fun b hb => (h b hb).2.2.2.2.2
def d_tasksN (d : sd) (b n : Nat) : List (Nat × Nat) := ((List.range n).filter (fun k => !d_op d b k)).map (fun k => (b, k))
theorem d_tasksN_s (d : sd) (b n : Nat) : d_tasksN d b (n + 1) = if d_op d b n then d_tasksN d b n else d_tasksN d b n ++ [(b, n)] := by
  unfold d_tasksN
  rw [List.range_succ, List.filter_append, List.map_append]
  cases h : d_op d b n
  · simp [h]
  · simp [h]
theorem d_tasksN_len (d : sd) (b : Nat) : ∀ m n, (d_tasksN d b n).length ≤ (d_tasksN d b (n + m)).length
  | 0, n => Nat.le_refl _
  | m + 1, n => by
    have h := d_tasksN_len d b m n
    have e : n + (m + 1) = (n + m) + 1 := by omega
    rw [e, d_tasksN_s]
    split
    · exact h
    · rw [List.length_append]
      omega
theorem tkC_set {M : bh_M} {T : Nat → Bool} (h : tkC M T) (b : Nat) : tkC (bh_sI M 18 1 b 1) (d_tk T b true) := by
  intro x hx
  show (if 18 = 18 ∧ 1 = 1 ∧ x = b then 1 else bh_I M 18 1 x) = (if (if x = b then true else T x) then 1 else 0)
  by_cases e : x = b
  · rw [if_pos ⟨rfl, rfl, e⟩, if_pos e, if_pos rfl]
  · rw [if_neg (fun q => e q.2.2), if_neg e]
    exact h x hx
theorem cd_R_takeIn {M : bh_M} {Z : bh_F → Prop} {d : sd} {w : sw} {T : Nat → Bool} {ts : List (Nat × Nat)} {b : Nat} (hb : b < 8) (hd : rdC M d w) (ht : tkC M T) (hts : tsC M ts) (hl : ts.length + (d_tasks d b).length ≤ 24) (hs : bh_stat M.2.2.2) (h : ∀ M', tkC M' (d_tk T b true) → tsC M' (ts ++ d_tasks d b) → bh_I M' 15 1 5 = bh_I M 15 1 5 + 1 → bh_I M' 15 1 4 = bh_I M 15 1 4 → fr_T M M' → Z (.inl none, M')) : F_R_takeIn [.inr (15, 1), .inr (5, b + 1)] M Z := by
  obtain ⟨⟨h0, -⟩, -, ⟨hn, n3⟩, hi, -, -⟩ := hd b hb
  refine be_R_takeIn hb h0 hs ?_
  have key : ∀ m i M1, i + m = d_ni d b → fr_T M M1 → tkC M1 (d_tk T b true) → tsC M1 (ts ++ d_tasksN d b i) → bh_I M1 15 1 5 = bh_I M 15 1 5 + 1 → bh_I M1 15 1 4 = bh_I M 15 1 4 → bh_wp (bh_tb T_R_takeIn) (22, [some (.inr (15, 1)), some (.inr (5, b + 1)), some (.inl (.int (nI i)))], [], M1, 0) Z := by
    intro m
    induction m with
    | zero =>
      intro i M1 e f1 f2 f3 f4 f5
      have : i = d_ni d b := by omega
      subst this
      have g7 := f1.1 7 (by decide) (by decide) (by decide) (by decide)
      exact bx_R_takeIn_22 _ hb (by rw [g7]; exact hn) (by omega) (by rw [f1.2]; exact hs) (h M1 f2 f3 f4 f5 f1)
    | succ m ih =>
      intro i M1 e f1 f2 f3 f4 f5
      have g5 := f1.1 5 (by decide) (by decide) (by decide) (by decide)
      have g7 := f1.1 7 (by decide) (by decide) (by decide) (by decide)
      have g14 := f1.1 14 (by decide) (by decide) (by decide) (by decide)
      have ho := (hi i (by omega)).2.2.2.2.2.2
      have hs1 : bh_stat M1.2.2.2 := by rw [f1.2]; exact hs
      have hT : d_tasksN d b (i + 1) = if d_op d b i then d_tasksN d b i else d_tasksN d b i ++ [(b, i)] := d_tasksN_s d b i
      cases eo : d_op d b i with
      | true =>
        rw [eo] at ho hT
        rw [if_pos rfl] at ho hT
        refine bo_R_takeIn_22 i (n := d_ni d b) (t := (ts ++ d_tasksN d b i).length) hb (by rw [g5]; exact h0) (by rw [g7]; exact hn) f3.1 (by omega) (by omega) (by omega) (by rw [g14, ho]; decide) hs1 ?_
        exact ih (i + 1) M1 (by omega) f1 f2 (by rw [hT]; exact f3) f4 f5
      | false =>
        rw [eo] at ho hT
        rw [if_neg Bool.false_ne_true] at ho hT
        have hlen : (ts ++ d_tasksN d b (i + 1)).length ≤ 24 := by
          have := d_tasksN_len d b m (i + 1)
          rw [show i + 1 + m = d_ni d b by omega] at this
          have e9 : (d_tasks d b).length = (d_tasksN d b (d_ni d b)).length := rfl
          rw [List.length_append]
          omega
        have hlen2 : (ts ++ d_tasksN d b (i + 1)).length = (ts ++ d_tasksN d b i).length + 1 := by
          rw [hT, ← List.append_assoc, List.length_append]
          rfl
        refine bl_R_takeIn_22 i (n := d_ni d b) (t := (ts ++ d_tasksN d b i).length) hb (by rw [g5]; exact h0) (by rw [g7]; exact hn) f3.1 (by omega) (by omega) (by omega) (by omega) (by rw [g14, ho]) hs1 ?_
        obtain ⟨q1, q2, q3⟩ := f3
        refine ih (i + 1) _ (by omega) ⟨fun a w1 w2 w3 w4 => ?_, f1.2⟩ (fun x hx => f2 x hx) ⟨?_, hlen, fun j q hq => ?_⟩ f4 f5
        · rw [← f1.1 a w1 w2 w3 w4]
          funext x c
          show (if a = 15 ∧ x = 1 ∧ c = 3 then _ else if a = 17 ∧ x = 1 ∧ c = _ then _ else if a = 16 ∧ x = 1 ∧ c = _ then _ else bh_I M1 a x c) = _
          rw [if_neg (fun q => w1 q.1), if_neg (fun q => w3 q.1), if_neg (fun q => w2 q.1)]
        · show nI ((ts ++ d_tasksN d b i).length + 1) = _
          rw [hlen2]
        · rw [hT, ← List.append_assoc] at hq
          show (if 16 = 17 ∧ 1 = 1 ∧ j = (ts ++ d_tasksN d b i).length then nI i else if 16 = 16 ∧ 1 = 1 ∧ j = (ts ++ d_tasksN d b i).length then nI b else bh_I M1 16 1 j) = _ ∧ (if 17 = 17 ∧ 1 = 1 ∧ j = (ts ++ d_tasksN d b i).length then nI i else if 17 = 16 ∧ 1 = 1 ∧ j = (ts ++ d_tasksN d b i).length then nI b else bh_I M1 17 1 j) = _
          by_cases ej : j = (ts ++ d_tasksN d b i).length
          · rw [List.getElem?_append_right (by omega), ej, Nat.sub_self] at hq
            have hq : (b, i) = q := Option.some.inj hq
            subst hq
            rw [if_neg (by omega), if_pos ⟨rfl, rfl, ej⟩, if_pos ⟨rfl, rfl, ej⟩]
            exact ⟨rfl, rfl⟩
          · rw [if_neg (by omega), if_neg (fun q => ej q.2.2), if_neg (fun q => ej q.2.2), if_neg (by omega)]
            have hj : j < (ts ++ d_tasksN d b i).length := by
              have := (List.getElem?_eq_some_iff.mp hq).1
              rw [List.length_append] at this
              have e1 : ([(b, i)] : List (Nat × Nat)).length = 1 := rfl
              omega
            rw [List.getElem?_append_left hj] at hq
            exact q3 j q hq
  refine key (d_ni d b) 0 _ (by omega) ⟨fun a w1 w2 w3 w4 => ?_, rfl⟩ (tkC_set ht b) ?_ rfl rfl
  · funext x c
    show (if a = 15 ∧ x = 1 ∧ c = 5 then _ else if a = 18 ∧ x = 1 ∧ c = b then _ else bh_I M a x c) = _
    rw [if_neg (fun q => w1 q.1), if_neg (fun q => w4 q.1)]
  · have e0 : d_tasksN d b 0 = [] := rfl
    rw [e0, List.append_nil]
    exact hts
/-- what every state of the search keeps -/
def sI (d : sd) (s : ss) (t : Nat) : Prop :=
  (∀ o, s.2.1 o = true → o < 8 ∧ d_st d o = 1) ∧
  (∀ b k o l, b < 8 → s.2.1 b = true → k < d_ni d b → s.1 b k = some (o, l) → (d_ver d o (d_ip d b k)).isSome = true) ∧
  (∀ q ∈ s.2.2, q.1 < 8 ∧ s.2.1 q.1 = true ∧ q.2 < d_ni d q.1) ∧ s.2.2.Nodup ∧
  (∀ i q, t ≤ i → s.2.2[i]? = some q → s.1 q.1 q.2 = none) ∧
  (∀ b k, b < 8 → d_st d b = 1 → s.2.1 b = false → s.1 b k = none)
theorem sI_len {d : sd} {s : ss} {t : Nat} (h : sI d s t) (hn : ∀ b, b < 8 → d_ni d b ≤ 3) : s.2.2.length ≤ 24 := by
  obtain ⟨-, -, h3, h4, -, -⟩ := h
  have := bh_nodup_le 24 (s.2.2.map (fun q => 3 * q.1 + q.2)) (by
    rw [List.Nodup, List.pairwise_map]
    refine List.Pairwise.imp_of_mem (fun {x y} hx hy hne e => ?_) h4
    obtain ⟨x1, -, x2⟩ := h3 x hx
    obtain ⟨y1, -, y2⟩ := h3 y hy
    have := hn _ x1
    have := hn _ y1
    exact hne (Prod.ext (by omega) (by omega))) (fun x hx => by
    obtain ⟨q, hq, rfl⟩ := List.mem_map.mp hx
    obtain ⟨x1, -, x2⟩ := h3 q hq
    have := hn _ x1
    omega)
  rwa [List.length_map] at this
theorem d_tasks_mem {d : sd} {b : Nat} {q : Nat × Nat} (h : q ∈ d_tasks d b) : q.1 = b ∧ q.2 < d_ni d b ∧ d_op d b q.2 = false := by
  unfold d_tasks at h
  obtain ⟨k, hk, rfl⟩ := List.mem_map.mp h
  obtain ⟨h1, h2⟩ := List.mem_filter.mp hk
  refine ⟨rfl, List.mem_range.mp h1, ?_⟩
  cases e : d_op d b k with
  | false => rfl
  | true =>
    rw [e] at h2
    exact absurd h2 (by decide)
theorem d_tasks_nodup (d : sd) (b : Nat) : (d_tasks d b).Nodup := by
  unfold d_tasks
  rw [List.Nodup, List.pairwise_map]
  exact ((List.nodup_range).filter _).imp (fun hne e => hne (Prod.mk.inj e).2)
theorem sI_step {d : sd} {s : ss} {t b k e : Nat} (h : sI d s t) (ht : s.2.2[t]? = some (b, k)) (he : e < 8) (hv : (d_ver d e (d_ip d b k)).isSome = true) : sI d (d_step d s b k e) (t + 1) := by
  obtain ⟨h1, h2, h3, h4, h5, h6⟩ := h
  obtain ⟨w, T, ts⟩ := s
  have hmem : (b, k) ∈ ts := List.mem_of_getElem? ht
  obtain ⟨hb, hTb, hk⟩ := h3 _ hmem
  have hneq : ∀ i q, t + 1 ≤ i → ts[i]? = some q → ¬ q = (b, k) := by
    intro i q hi hq e2
    subst e2
    obtain ⟨l1, e1⟩ := List.getElem?_eq_some_iff.mp hq
    obtain ⟨l2, e2⟩ := List.getElem?_eq_some_iff.mp ht
    have := (List.getElem_inj (h₀ := l1) (h₁ := l2) h4).mp (e1.trans e2.symm)
    omega
  have hset : ∀ x y, ¬ (x, y) = (b, k) → d_set w b k (some (e, d_lf d e)) x y = w x y := by
    intro x y hne
    unfold d_set
    rw [if_neg (fun q => hne (by rw [q.1, q.2]))]
  unfold d_step
  cases hnew : d_new d (w, T, ts) e with
  | false =>
    rw [if_neg Bool.false_ne_true]
    refine ⟨h1, fun b' k' o l hb' hT' hk' hw => ?_, h3, h4, fun i q hi hq => ?_, fun b' k' hb' hst hT' => ?_⟩
    · by_cases c : (b', k') = (b, k)
      · obtain ⟨rfl, rfl⟩ := Prod.mk.inj c
        have hw : d_set w b' k' (some (e, d_lf d e)) b' k' = some (o, l) := hw
        unfold d_set at hw
        rw [if_pos ⟨rfl, rfl⟩] at hw
        obtain ⟨rfl, -⟩ := Prod.mk.inj (Option.some.inj hw)
        exact hv
      · exact h2 b' k' o l hb' hT' hk' ((hset _ _ c).symm.trans hw)
    · exact (hset _ _ (hneq i q hi hq)).trans (h5 i q (by omega) hq)
    · refine (hset _ _ (fun c => ?_)).trans (h6 b' k' hb' hst hT')
      obtain ⟨rfl, -⟩ := Prod.mk.inj c
      exact absurd (hTb.symm.trans hT') (by decide)
  | true =>
    rw [if_pos rfl]
    unfold d_new at hnew
    rw [Bool.and_eq_true, decide_eq_true_eq] at hnew
    obtain ⟨hst, hTe⟩ := hnew
    have hTe : T e = false := by
      cases c : T e with
      | false => rfl
      | true =>
        rw [show (w, T, ts).2.1 e = T e from rfl, c] at hTe
        exact absurd hTe (by decide)
    have hbe : ¬ b = e := by
      intro c
      subst c
      exact absurd (hTb.symm.trans hTe) (by decide)
    have htk : ∀ x, d_tk T e true x = true → x = e ∨ T x = true := by
      intro x hx
      unfold d_tk at hx
      by_cases c : x = e
      · exact Or.inl c
      · rw [if_neg c] at hx
        exact Or.inr hx
    have htk2 : ∀ x, T x = true → d_tk T e true x = true := by
      intro x hx
      unfold d_tk
      split
      · rfl
      · exact hx
    refine ⟨fun o ho => ?_, fun b' k' o l hb' hT' hk' hw => ?_, fun q hq => ?_, ?_, fun i q hi hq => ?_, fun b' k' hb' hst' hT' => ?_⟩
    · rcases htk o ho with c | c
      · subst c
        exact ⟨he, hst⟩
      · exact h1 o c
    · by_cases c : (b', k') = (b, k)
      · obtain ⟨rfl, rfl⟩ := Prod.mk.inj c
        have hw : d_set w b' k' (some (e, d_lf d e)) b' k' = some (o, l) := hw
        unfold d_set at hw
        rw [if_pos ⟨rfl, rfl⟩] at hw
        obtain ⟨rfl, -⟩ := Prod.mk.inj (Option.some.inj hw)
        exact hv
      · have hw2 : w b' k' = some (o, l) := (hset _ _ c).symm.trans hw
        rcases htk b' hT' with c2 | c2
        · subst c2
          have := h6 b' k' hb' hst hTe
          rw [show (w, T, ts).1 b' k' = w b' k' from rfl, hw2] at this
          cases this
        · exact h2 b' k' o l hb' c2 hk' hw2
    · rcases List.mem_append.mp hq with c | c
      · obtain ⟨a1, a2, a3⟩ := h3 q c
        exact ⟨a1, htk2 _ a2, a3⟩
      · obtain ⟨a1, a2, -⟩ := d_tasks_mem c
        rw [a1]
        refine ⟨he, ?_, a2⟩
        show d_tk T e true e = true
        unfold d_tk
        rw [if_pos rfl]
    · show (ts ++ d_tasks d e).Nodup
      rw [List.nodup_append]
      refine ⟨h4, d_tasks_nodup d e, fun x hx y hy c => ?_⟩
      subst c
      have := (h3 x hx).2.1
      rw [(d_tasks_mem hy).1] at this
      exact absurd (this.symm.trans hTe) (by decide)
    · have hq : (ts ++ d_tasks d e)[i]? = some q := hq
      by_cases c : i < ts.length
      · rw [List.getElem?_append_left c] at hq
        exact (hset _ _ (hneq i q hi hq)).trans (h5 i q (by omega) hq)
      · rw [List.getElem?_append_right (by omega)] at hq
        have a1 := (d_tasks_mem (List.mem_of_getElem? hq)).1
        refine (hset _ _ (fun c2 => ?_)).trans (h6 q.1 q.2 (by rw [a1]; exact he) (by rw [a1]; exact hst) (by rw [a1]; exact hTe))
        exact hbe ((Prod.mk.inj c2).1.symm.trans a1)
    · have c3 : ¬ b' = e := by
        intro c
        subst c
        have hT' : d_tk T b' true b' = false := hT'
        unfold d_tk at hT'
        rw [if_pos rfl] at hT'
        cases hT'
      have hT2 : T b' = false := by
        have hT' : d_tk T e true b' = false := hT'
        unfold d_tk at hT'
        rw [if_neg c3] at hT'
        exact hT'
      refine (hset _ _ (fun c => ?_)).trans (h6 b' k' hb' hst' hT2)
      obtain ⟨rfl, -⟩ := Prod.mk.inj c
      exact absurd (hTb.symm.trans hT2) (by decide)
theorem bh_cnt_tk {T : Nat → Bool} {e : Nat} (h : T e = false) : ∀ n, bh_cnt (d_tk T e true) n = if e < n then bh_cnt T n + 1 else bh_cnt T n
  | 0 => by rw [if_neg (Nat.not_lt_zero e)]; rfl
  | n + 1 => by
    have ih := bh_cnt_tk h n
    unfold bh_cnt
    rw [ih]
    unfold d_tk
    by_cases c : n = e
    · subst c
      rw [if_pos rfl, if_pos rfl, if_neg (Nat.lt_irrefl n), if_pos (Nat.lt_succ_self n), h, if_neg Bool.false_ne_true]
    · rw [if_neg c]
      by_cases c2 : e < n
      · rw [if_pos c2, if_pos (show e < n + 1 by omega)]
        cases T n <;> rfl
      · rw [if_neg c2, if_neg (show ¬ e < n + 1 by omega)]
theorem d_try_le {d : sd} {rec : ss → Nat → Option ss × Nat} (hrec : ∀ s n, n ≤ 300 → (rec s n).2 ≤ 301) (s : ss) (b k : Nat) : ∀ (xs : List Nat) (n : Nat), n ≤ 300 → (d_try d rec s b k xs n).2 ≤ 301
  | [], n, h => by
    show n ≤ 301
    omega
  | x :: xs, n, h => by
    unfold d_try
    split
    · show n + 1 ≤ 301
      omega
    · rename_i h2
      split
      · exact d_try_le hrec s b k xs (n + 1) (by omega)
      · have h3 := hrec (d_step d s b k (x % 8)) (n + 1) (by omega)
        split
        · rename_i f n' e
          rw [e] at h3
          exact h3
        · rename_i n' e
          rw [e] at h3
          split
          · exact h3
          · exact d_try_le hrec s b k xs n' (by omega)
theorem d_dfs_le (d : sd) : ∀ (f : Nat) (s : ss) (t n : Nat), n ≤ 300 → (d_dfs d f s t n).2 ≤ 301
  | 0, s, t, n, h => by
    show n ≤ 301
    omega
  | f + 1, s, t, n, h => by
    unfold d_dfs
    split
    · show n ≤ 301
      omega
    · exact d_try_le (fun s' n' h' => d_dfs_le d f s' (t + 1) n' h') s _ _ _ n h
