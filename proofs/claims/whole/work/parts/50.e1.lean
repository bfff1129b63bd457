def fr_56 (M M' : bh_M) : Prop := (∀ a, a ≠ 5 → a ≠ 6 → bh_I M' a = bh_I M a) ∧ (∀ x c, c ≠ 3 → bh_I M' 5 x c = bh_I M 5 x c) ∧ M'.2 = M.2
theorem fr_56_refl (M : bh_M) : fr_56 M M := ⟨fun _ _ _ => rfl, fun _ _ _ => rfl, rfl⟩
theorem fr_56_trans {M M' M'' : bh_M} (h : fr_56 M M') (g : fr_56 M' M'') : fr_56 M M'' := ⟨fun a h1 h2 => (g.1 a h1 h2).trans (h.1 a h1 h2), fun x c hc => (g.2.1 x c hc).trans (h.2.1 x c hc), g.2.2.trans h.2.2⟩
theorem fr_56.r {M M' : bh_M} (h : fr_56 M M') : fr_R M M' := ⟨fun a h1 h2 _ _ _ _ => h.1 a h1 h2, h.2.1, h.2.2⟩
theorem fr_6.f {M M' : bh_M} (h : fr_6 M M') : fr_56 M M' := ⟨fun a _ h2 => h.1 a h2, fun x c _ => by rw [h.1 5 (by decide)], h.2⟩
theorem cd_R_settle {M : bh_M} {Z : bh_F → Prop} {d : sd} {w : sw} {T : Nat → Bool} (hd : rdC M d w) (ht : tkC M T) (hT : ∀ o, T o = true → o < 8 ∧ d_st d o = 1) (hv : d_hv d T w) (hop : ∀ b k, b < 8 → T b = true → d_op d b k = true → w b k = none) (hs : bh_stat M.2.2.2) (h : ∀ M', rdC M' (d_res d T) (d_optB (d_res d T) T 8 w) → fr_56 M M' → Z (.inl none, M')) : F_R_settle [.inr (15, 1), .inr (4, 1)] M Z := by
  have hv2 : d_hv (d_res d T) T w := hv
  refine be_R_settle hs ?_
  -- the second loop
  have key2 : ∀ m i M1 (w3 w4 : Option bh_V), i + m = 8 → rdC M1 (d_res d T) (d_optB (d_res d T) T i w) → fr_56 M M1 → bh_wp (bh_tb T_R_settle) (32, [some (.inr (15, 1)), some (.inr (4, 1)), some (.inl (.int (nI i))), w3, w4], [], M1, 0) Z := by
    intro m
    induction m with
    | zero =>
      intro i M1 w3 w4 e h1 f1
      have : i = 8 := by omega
      subst this
      exact bx_R_settle_32 w3 w4 (f1.r.stat hs) (h M1 h1 f1)
    | succ m ih =>
      intro i M1 w3 w4 e h1 f1
      have hi : i < 8 := by omega
      refine bl_R_settle_32 i w3 w4 hi (f1.r.stat hs) ?_
      have ht9 : ∀ M2, fr_56 M M2 → tkC M2 T := fun M2 f x hx => by rw [f.1 18 (by decide) (by decide)]; exact ht x hx
      cases hTi : T i with
      | false =>
        obtain ⟨-, -, ⟨hn, n3⟩, -⟩ := h1 i hi
        refine bt_R_settle_45 i 0 hi hn (by omega) (by omega) (f1.r.stat hs) ⟨fun _ => ih (i + 1) M1 _ _ (by omega) ?_ f1, fun q => absurd ((ht9 M1 f1).f hi |>.mpr hTi) q⟩
        unfold d_optB
        rw [if_neg (by rw [hTi]; exact Bool.false_ne_true)]
        exact h1
      | true =>
        have key3 : ∀ m2 k M2, k + m2 = d_ni d i → rdC M2 (d_res d T) (d_optK (d_res d T) T i k (d_optB (d_res d T) T i w)) → fr_56 M M2 → bh_wp (bh_tb T_R_settle) (45, [some (.inr (15, 1)), some (.inr (4, 1)), some (.inl (.int (nI i))), some (.inr (5, i + 1)), some (.inl (.int (nI k)))], [], M2, 0) Z := by
          intro m2
          induction m2 with
          | zero =>
            intro k M2 e2 h2 f2
            have e2 : k = d_ni d i := e2
            obtain ⟨-, -, ⟨hn, n3⟩, -⟩ := h2 i hi
            have n3 : d_ni d i ≤ 3 := n3
            have nt : ¬ bh_I M2 18 1 i = 0 := fun q => absurd ((ht9 M2 f2).f hi |>.mp q) (by rw [hTi]; decide)
            refine bt_R_settle_45 i k hi hn (by show d_ni d i < 4; omega) (by omega) (f2.r.stat hs) ⟨fun q => absurd q nt, fun _ => ⟨fun _ => ih (i + 1) M2 _ _ (by omega) ?_ f2, fun q => absurd (show d_ni d i ≤ k by omega) q⟩⟩
            unfold d_optB
            rw [if_pos hTi]
            subst e2
            exact h2
          | succ m2 ih2 =>
            intro k M2 e2 h2 f2
            obtain ⟨-, -, ⟨hn, n3⟩, hi2, -⟩ := h2 i hi
            have n3 : d_ni d i ≤ 3 := n3
            have nt : ¬ bh_I M2 18 1 i = 0 := fun q => absurd ((ht9 M2 f2).f hi |>.mp q) (by rw [hTi]; decide)
            refine bt_R_settle_45 i k hi hn (by show d_ni d i < 4; omega) (by omega) (f2.r.stat hs) ⟨fun q => absurd q nt, fun _ => ⟨fun q => absurd q (show ¬ d_ni d i ≤ k by omega), fun _ => ?_⟩⟩
            have eo : bh_I M2 14 (i + 1) k = (if d_op d i k then 1 else 0) := (hi2 k (show k < d_ni d i by omega)).2.2.2.2.2.2
            refine bk_R_settle_66 i k hi (by omega) (f2.r.stat hs) ⟨fun q => ?_, fun q => ?_⟩
            · refine ih2 (k + 1) M2 (by omega) ?_ f2
              unfold d_optK
              rw [if_neg]
              · exact h2
              · intro c
                have c : d_op d i k = true := c
                rw [eo, c] at q
                exact absurd q (by decide)
            · have c : d_op d i k = true := by
                cases c : d_op d i k with
                | true => rfl
                | false =>
                  rw [eo, c] at q
                  exact absurd rfl q
              have hwn : d_optK (d_res d T) T i k (d_optB (d_res d T) T i w) i k = none := by
                rw [d_optK_out _ _ (by omega), d_optB_out _ _ (by omega)]
                exact hop i k hi hTi c
              refine cd_R_wireOptional (d := d_res d T) hi (show k < d_ni d i by omega) h2 (ht9 M2 f2) hwn (d_optK_hv k (d_optB_hv i hv2)) (f2.r.stat hs) (fun M3 y1 y2 => ?_)
              refine bk_R_settle_87 i k hi (y2.f.r.stat (f2.r.stat hs)) ?_
              refine ih2 (k + 1) M3 (by omega) ?_ (fr_56_trans f2 y2.f)
              unfold d_optK
              rw [if_pos (show d_op (d_res d T) i k = true from c)]
              exact y1
        exact key3 (d_ni d i) 0 M1 (by omega) h1 f1
  -- the first loop
  have key1 : ∀ m i M1 (w3 w4 : Option bh_V), i + m = 8 → rdC M1 (d_resN d T i) w → fr_56 M M1 → bh_wp (bh_tb T_R_settle) (2, [some (.inr (15, 1)), some (.inr (4, 1)), some (.inl (.int (nI i))), w3, w4], [], M1, 0) Z := by
    intro m
    induction m with
    | zero =>
      intro i M1 w3 w4 e h1 f1
      have : i = 8 := by omega
      subst this
      rw [d_resN_8 (fun b hb => (hT b hb).1)] at h1
      exact bx_R_settle_2 w3 w4 (f1.r.stat hs) (key2 8 0 M1 w3 w4 rfl h1 f1)
    | succ m ih =>
      intro i M1 w3 w4 e h1 f1
      have hi : i < 8 := by omega
      have htf : bh_I M1 18 1 i = 0 ↔ T i = false := by rw [f1.1 18 (by decide) (by decide)]; exact ht.f hi
      refine bl_R_settle_2 i w3 w4 hi (f1.r.stat hs) ⟨fun q => ih (i + 1) M1 w3 w4 (by omega) ?_ f1, fun q => ih (i + 1) _ w3 w4 (by omega) ?_ (fr_56_trans f1 ⟨fun a w1 w2 => ?_, fun x c hc => ?_, rfl⟩)⟩
      · rw [d_resN_f (htf.mp q)]
        exact h1
      · rw [htf, Bool.not_eq_false] at q
        exact rdC_st2 h1 hi q (hT i q).2
      · funext x c
        show (if a = 5 ∧ x = i + 1 ∧ c = 3 then _ else bh_I M1 a x c) = _
        rw [if_neg (fun q => w1 q.1)]
      · show (if 5 = 5 ∧ x = i + 1 ∧ c = 3 then _ else bh_I M1 5 x c) = _
        rw [if_neg (fun q => hc q.2.2)]
  exact key1 8 0 M none none rfl (by rw [d_resN_0]; exact hd) (fr_56_refl M)
/-- what the end of a search keeps -/
def sJ (d : sd) (s : ss) : Prop := ∀ q ∈ s.2.2, d_op d q.1 q.2 = false
theorem sJ_step {d : sd} {s : ss} {b k e : Nat} (h : sJ d s) : sJ d (d_step d s b k e) := by
  intro q hq
  unfold d_step at hq
  split at hq
  · rcases List.mem_append.mp hq with c | c
    · exact h q c
    · obtain ⟨a1, -, a3⟩ := d_tasks_mem c
      rw [a1]
      exact a3
  · exact h q hq
def sK (d : sd) (s s' : ss) : Prop := (∃ t, sI d s' t) ∧ sJ d s' ∧ ∀ b k, (d_op d b k = true ∨ ¬ d_st d b = 1) → s'.1 b k = s.1 b k
theorem d_step_keep {d : sd} {s : ss} {t b k e : Nat} (h : sI d s t) (hJ : sJ d s) (ht : s.2.2[t]? = some (b, k)) : ∀ x y, (d_op d x y = true ∨ ¬ d_st d x = 1) → (d_step d s b k e).1 x y = s.1 x y := by
  intro x y hxy
  have hm := List.mem_of_getElem? ht
  have h1 : d_op d b k = false := hJ _ hm
  have h2 : d_st d b = 1 := (h.1 b (h.2.2.1 _ hm).2.1).2
  have e1 : (d_step d s b k e).1 = d_set s.1 b k (some (e, d_lf d e)) := by
    unfold d_step
    split <;> rfl
  rw [e1]
  unfold d_set
  rw [if_neg]
  rintro ⟨rfl, rfl⟩
  rcases hxy with c | c
  · exact absurd (c.symm.trans h1) (by decide)
  · exact c h2
theorem d_try_K {d : sd} {rec : ss → Nat → Option ss × Nat} {s : ss} {t b k : Nat} (h : sI d s t) (hJ : sJ d s) (ht : s.2.2[t]? = some (b, k)) (hrec : ∀ s1 n s' n', sI d s1 (t + 1) → sJ d s1 → rec s1 n = (some s', n') → sK d s1 s') : ∀ (xs : List Nat) (n : Nat) (s' : ss) (n' : Nat), (∀ x ∈ xs, x ∈ d_cand d s.2.1 false b k) → d_try d rec s b k xs n = (some s', n') → sK d s s'
  | [], n, s', n', _, e => by
    unfold d_try at e
    cases e
  | x :: xs, n, s', n', hx, e => by
    unfold d_try at e
    split at e
    · cases e
    · split at e
      · exact d_try_K h hJ ht hrec xs _ s' n' (fun y hy => hx y (List.mem_cons_of_mem _ hy)) e
      · split at e
        · rename_i f n2 e2
          cases e
          obtain ⟨k1, k2, k3⟩ := hrec _ _ _ _ (sI_step h ht (Nat.mod_lt _ (by decide)) (d_cand_ver (hx x List.mem_cons_self))) (sJ_step hJ) e2
          exact ⟨k1, k2, fun y z hyz => (k3 y z hyz).trans (d_step_keep h hJ ht y z hyz)⟩
        · split at e
          · cases e
          · exact d_try_K h hJ ht hrec xs _ s' n' (fun y hy => hx y (List.mem_cons_of_mem _ hy)) e
theorem d_dfs_K {d : sd} : ∀ (f : Nat) (s : ss) (t n : Nat) (s' : ss) (n' : Nat), sI d s t → sJ d s → d_dfs d f s t n = (some s', n') → sK d s s'
  | 0, s, t, n, s', n', _, _, e => by
    unfold d_dfs at e
    cases e
  | f + 1, s, t, n, s', n', h, hJ, e => by
    unfold d_dfs at e
    split at e
    · cases e
      exact ⟨⟨t, h⟩, hJ, fun _ _ _ => rfl⟩
    · rename_i b k e2
      exact d_try_K h hJ e2 (fun s1 n1 s2 n2 h1 h2 e3 => d_dfs_K f s1 (t + 1) n1 s2 n2 h1 h2 e3) _ n s' n' (fun x hx => hx) e
theorem cd_R_run {M : bh_M} {Z : bh_F → Prop} {d : sd} {w : sw} {r : Nat} (hr : r < 8) (hst : d_st d r = 1) (hd : rdC M d w) (hw0 : ∀ b k, b < 8 → d_st d b = 1 → w b k = none) (hs : bh_stat M.2.2.2) (h : ∀ M', rdC M' (d_run d w r).2.1 (d_run d w r).2.2.1 → bh_I M' 15 1 4 = nI (d_run d w r).2.2.2.1 → bh_I M' 15 1 5 = (d_run d w r).2.2.2.2 → fr_R M M' → Z (.inl (some (.inr (2, (d_run d w r).1))), M')) : F_R_run [.inr (15, 1), .inr (4, 1), .inr (5, r + 1)] M Z := by
  refine be_R_run hr hs ?_
  have key : ∀ m i M1, i + m = 8 → (∀ x, x < i → bh_I M1 18 1 x = 0) → fr_T M M1 → bh_wp (bh_tb T_R_run) (2, [some (.inr (15, 1)), some (.inr (4, 1)), some (.inr (5, r + 1)), some (.inl (.int (nI i)))], [], M1, 0) Z := by
    intro m
    induction m with
    | succ m ih =>
      intro i M1 e h1 f1
      have hs1 := f1.w.stat hs
      refine bl_R_run_2 i hr (by omega) hs1 (ih (i + 1) _ (by omega) (fun x hx => ?_) ⟨fun a w1 w2 w3 w4 => ?_, f1.2⟩)
      · show (if 18 = 18 ∧ 1 = 1 ∧ x = i then 0 else bh_I M1 18 1 x) = 0
        by_cases c : x = i
        · rw [if_pos ⟨rfl, rfl, c⟩]
        · rw [if_neg (fun q => c q.2.2)]
          exact h1 x (by omega)
      · rw [← f1.1 a w1 w2 w3 w4]
        funext x c
        show (if a = 18 ∧ x = 1 ∧ c = i then _ else bh_I M1 a x c) = _
        rw [if_neg (fun q => w4 q.1)]
    | zero =>
      intro i M1 e h1 f1
      have : i = 8 := by omega
      subst this
      have hs1 := f1.w.stat hs
      refine bx_R_run_2 hr hs1 ?_
      generalize hM2 : bh_sI (bh_sI (bh_sI M1 15 1 3 0) 15 1 4 0) 15 1 5 0 = M2
      have hs2 : bh_stat M2.2.2.2 := by rw [← hM2]; exact hs1
      have f2 : fr_T M M2 := by
        refine ⟨fun a w1 w2 w3 w4 => ?_, by rw [← hM2]; exact f1.2⟩
        rw [← f1.1 a w1 w2 w3 w4, ← hM2]
        funext x c
        show (if a = 15 ∧ x = 1 ∧ c = 5 then _ else if a = 15 ∧ x = 1 ∧ c = 4 then _ else if a = 15 ∧ x = 1 ∧ c = 3 then _ else bh_I M1 a x c) = _
        rw [if_neg (fun q => w1 q.1), if_neg (fun q => w1 q.1), if_neg (fun q => w1 q.1)]
      have e3 : bh_I M2 15 1 3 = 0 := by rw [← hM2]; rfl
      have e4 : bh_I M2 15 1 4 = 0 := by rw [← hM2]; rfl
      have e5 : bh_I M2 15 1 5 = 0 := by rw [← hM2]; rfl
      have ht2 : tkC M2 (fun _ => false) := by
        intro x hx
        rw [← hM2]
        exact h1 x hx
      have hd2 : rdC M2 d w := hd.mv f2.w (fun b hb k hk => by rw [f2.1 6 (by decide) (by decide) (by decide) (by decide)]; exact hd.w b hb k hk)
      refine cd_R_nameIsTaken hr hd2 ht2 (fun o ho => absurd ho (by decide)) (by omega) hs2 (fun q => ?_) (fun q => ?_)
      · refine bk_R_run_42 1 hr hs2 ⟨fun q9 => absurd q9 (by decide), fun _ => ?_⟩
        have eR : d_run d w r = (2, d, w, 0, 0) := by
          unfold d_run
          rw [if_pos q]
        rw [eR] at h
        exact h M2 hd2 e4 e5 f2.w.r
      · have eR : d_run d w r = match d_dfs d 25 (w, d_tk (fun _ => false) r true, d_tasks d r) 0 0 with
            | (none, n) => (if 300 < n then 3 else 2, d, w, n, 0)
            | (some s, n) => (1, d_res d s.2.1, d_optB (d_res d s.2.1) s.2.1 8 s.1, n, bh_cnt s.2.1 8) := by
          unfold d_run
          rw [if_neg (by rw [q]; exact Bool.false_ne_true)]
          all_goals rfl
        rw [eR] at h
        clear eR
        refine bk_R_run_42 0 hr hs2 ⟨fun _ => ?_, fun q9 => absurd rfl q9⟩
        have hlen : (d_tasks d r).length ≤ 24 := by
          have h9 := List.length_filter_le (fun k => !d_op d r k) (List.range (d_ni d r))
          rw [List.length_range] at h9
          have h10 := (hd r hr).2.2.1.2
          unfold d_tasks
          rw [List.length_map]
          omega
        refine cd_R_takeIn (ts := []) hr hd2 ht2 ⟨e3, by decide, fun i q hq => by cases hq⟩ (by rw [List.length_nil]; omega) hs2 (fun M3 y1 y2 y3 y4 y5 => ?_)
        rw [List.nil_append] at y2
        have f3 : fr_W M M3 := fr_W_trans f2.w y5.w
        have hs3 := f3.stat hs
        refine bk_R_run_54 hr hs3 ?_
        have hst3 : stC M3 d (w, d_tk (fun _ => false) r true, d_tasks d r) 0 := by
          refine ⟨hd.mv f3 (fun b hb k hk => ?_), y1, y2, by rw [y4, e4]; rfl, ?_⟩
          · rw [y5.1 6 (by decide) (by decide) (by decide) (by decide)]
            exact hd2.w b hb k hk
          · rw [y3, e5]
            show _ = bh_cnt (d_tk (fun _ => false) r true) 8
            rw [bh_cnt_tk rfl 8, if_pos hr]
            rfl
        have htk : ∀ x, d_tk (fun _ => false) r true x = true → x = r := by
          intro x hx
          unfold d_tk at hx
          by_cases c : x = r
          · exact c
          · rw [if_neg c] at hx
            cases hx
        have htr : d_tk (fun _ => false) r true r = true := by
          unfold d_tk
          rw [if_pos rfl]
        have hsI : sI d (w, d_tk (fun _ => false) r true, d_tasks d r) 0 := by
          refine ⟨fun o ho => ?_, fun b k o l hb hT hk hw => ?_, fun q hq => ?_, d_tasks_nodup d r, fun i q _ hq => ?_, fun b k hb hst9 _ => hw0 b k hb hst9⟩
          · rw [htk o ho]
            exact ⟨hr, hst⟩
          · have := htk b hT
            subst this
            have hw : w b k = some (o, l) := hw
            rw [hw0 b k hb hst] at hw
            cases hw
          · obtain ⟨a1, a2, -⟩ := d_tasks_mem hq
            rw [a1]
            exact ⟨hr, htr, a2⟩
          · have a1 := (d_tasks_mem (List.mem_of_getElem? hq)).1
            exact hw0 q.1 q.2 (by rw [a1]; exact hr) (by rw [a1]; exact hst)
        have hsJ : sJ d (w, d_tk (fun _ => false) r true, d_tasks d r) := by
          intro q hq
          obtain ⟨a1, -, a3⟩ := d_tasks_mem hq
          rw [a1]
          exact a3
        refine cd_solve 25 26 M3 _ (w, d_tk (fun _ => false) r true, d_tasks d r) 0 0 (by decide) (by decide) (Nat.zero_le _) hst3 hsI (by decide) hs3 ?_
        have hle := d_dfs_le d 25 (w, d_tk (fun _ => false) r true, d_tasks d r) 0 0 (by decide)
        cases hres : d_dfs d 25 (w, d_tk (fun _ => false) r true, d_tasks d r) 0 0 with
        | mk res n =>
          rw [hres] at h hle
          have hle : n ≤ 301 := hle
          cases res with
          | none =>
            intro M4 g1 g2
            have hs4 := g2.stat hs3
            refine bk_R_run_60 0 hr g1.2.2.2.1 (by show n < 400; omega) hs4 ⟨fun q9 => absurd rfl q9, fun _ => ?_⟩
            have f4 : fr_R M (bh_sI M4 15 1 5 0) := by
              refine fr_R_trans (fr_W_trans f3 g2).r ⟨fun a w1 w2 w3 w4 w5 w6 => ?_, fun x c hc => rfl, rfl⟩
              funext x c
              show (if a = 15 ∧ x = 1 ∧ c = 5 then _ else bh_I M4 a x c) = _
              rw [if_neg (fun q => w3 q.1)]
            have hz : Z (.inl (some (.inr (2, if 300 < n then 3 else 2))), bh_sI M4 15 1 5 0) := h (bh_sI M4 15 1 5 0) g1.1 g1.2.2.2.1 rfl f4
            refine ⟨fun q9 => ?_, fun q9 => ?_⟩
            · have q9 : n ≤ 300 := q9
              have e9 : (if 300 < n then 3 else 2) = 2 := if_neg (by omega)
              rw [e9] at hz
              exact hz
            · have q9 : ¬ n ≤ 300 := q9
              have e9 : (if 300 < n then 3 else 2) = 3 := if_pos (by omega)
              rw [e9] at hz
              exact hz
          | some s' =>
            intro M4 g1 g2
            have hs4 := g2.stat hs3
            obtain ⟨⟨t', k1⟩, -, k3⟩ := d_dfs_K 25 _ 0 0 s' n hsI hsJ hres
            refine bk_R_run_60 1 hr g1.2.2.2.1 (by show n < 400; omega) hs4 ⟨fun _ => ?_, fun q9 => absurd (by decide) q9⟩
            refine cd_R_settle g1.1 g1.2.1 (fun o ho => k1.1 o ho) k1.2.1 (fun b k hb hT ho => ?_) hs4 (fun M5 y1 y2 => ?_)
            · rw [k3 b k (Or.inl ho)]
              exact hw0 b k hb (k1.1 b hT).2
            · refine bk_R_run_93 hr (y2.r.stat hs4) (h M5 y1 ?_ ?_ (fr_R_trans (fr_W_trans f3 g2).r y2.r))
              · rw [y2.1 15 (by decide) (by decide)]
                exact g1.2.2.2.1
              · rw [y2.1 15 (by decide) (by decide)]
                exact g1.2.2.2.2
  exact key 8 0 M rfl (fun x hx => absurd hx (Nat.not_lt_zero x)) ⟨fun _ _ _ _ _ => rfl, rfl⟩
