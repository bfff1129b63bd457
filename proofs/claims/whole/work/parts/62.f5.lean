/-! THE REFERENCE: resolving -/
def fr_Q (M M' : bh_M) : Prop := (∀ a, a ≠ 40 → a ≠ 41 → a ≠ 58 → a ≠ 59 → a ≠ 60 → a ≠ 61 → a ≠ 62 → a ≠ 63 → a ≠ 64 → bh_I M' a = bh_I M a) ∧ (∀ c, c ≠ 19 → c ≠ 26 → c ≠ 27 → c ≠ 28 → bh_I M' 40 1 c = bh_I M 40 1 c) ∧ (∀ a, a ≠ 57 → bh_J M' a = bh_J M a) ∧ M'.2.2 = M.2.2
theorem fr_Q_refl (M : bh_M) : fr_Q M M := ⟨fun _ _ _ _ _ _ _ _ _ _ => rfl, fun _ _ _ _ _ => rfl, fun _ _ => rfl, rfl⟩
theorem fr_Q_trans {M M' M'' : bh_M} (h : fr_Q M M') (g : fr_Q M' M'') : fr_Q M M'' := ⟨fun a h1 h2 h3 h4 h5 h6 h7 h8 h9 => (g.1 a h1 h2 h3 h4 h5 h6 h7 h8 h9).trans (h.1 a h1 h2 h3 h4 h5 h6 h7 h8 h9), fun c h1 h2 h3 h4 => (g.2.1 c h1 h2 h3 h4).trans (h.2.1 c h1 h2 h3 h4), fun a h1 => (g.2.2.1 a h1).trans (h.2.2.1 a h1), g.2.2.2.trans h.2.2.2⟩
theorem fr_Q.stat {M M' : bh_M} (h : fr_Q M M') (hs : bh_stat M.2.2.2) : bh_stat M'.2.2.2 := by rw [h.2.2.2]; exact hs
theorem fr_m.Q {M M' : bh_M} (h : fr_m M M') : fr_Q M M' := ⟨fun a h1 _ h3 h4 h5 h6 h7 h8 h9 => h.1 a h1 h3 h4 h5 h6 h7 h8 h9, fun c h1 h2 h3 _ => h.2.1 c h1 h2 h3, fun a _ => by rw [show bh_J M' = bh_J M from congrArg (fun q => q.1) h.2.2], by rw [h.2.2]⟩
theorem fr_V.Q {M M' : bh_M} (h : fr_V M M') : fr_Q M M' := ⟨fun a _ h2 h3 h4 h5 h6 _ _ _ => h.1 a h2 h3 h4 h5 h6, fun c _ _ _ _ => by rw [h.1 40 (by decide) (by decide) (by decide) (by decide) (by decide)], h.2.1, h.2.2⟩
def q_code (n : Nat) : Int32 := if n = 1 then 0 else if n = 2 then 3 else 4
theorem cm_M_resolving {M : bh_M} {Z : bh_F → Prop} {d : sd} {w : sw} {e : sx} {τ : Nat → Nat → Nat} {r : Nat} (hr : r < 8) (hst : d_st d r = 1) (hd : rdM M d w e τ) (hok : d_ok d w) (hs : bh_stat M.2.2.2) (h : ∀ M', rdM M' (d_run d w r).2.1 (d_run d w r).2.2.1 e τ → bh_I M' 40 1 27 = nI (d_run d w r).2.2.2.1 → bh_I M' 40 1 28 = (d_run d w r).2.2.2.2 → fr_Q M M' → Z (.inl (some (.inl (.int (q_code (d_run d w r).1)))), M')) : F_M_resolving [.inr (40, 1), .inl (.int (nI r))] M Z := by
  have hst3 : ∀ o, o < 8 → d_st d o ≤ 3 := fun o ho => (hd.2.2 o ho).1.2.1
  refine be_M_resolving r hs ?_
  generalize hM1 : bh_sI (bh_sI (bh_sI M 40 1 27 0) 40 1 28 0) 40 1 19 0 = M1
  have f1 : fr_Q M M1 := by
    rw [← hM1]
    refine ⟨fun a w1 _ _ _ _ _ _ _ _ => ?_, fun c w1 w2 w3 w4 => ?_, fun _ _ => rfl, rfl⟩
    · funext x c
      show (if a = 40 ∧ x = 1 ∧ c = 19 then _ else if a = 40 ∧ x = 1 ∧ c = 28 then _ else if a = 40 ∧ x = 1 ∧ c = 27 then _ else bh_I M a x c) = _
      rw [if_neg (fun q => w1 q.1), if_neg (fun q => w1 q.1), if_neg (fun q => w1 q.1)]
    · show (if 40 = 40 ∧ 1 = 1 ∧ c = 19 then _ else if 40 = 40 ∧ 1 = 1 ∧ c = 28 then _ else if 40 = 40 ∧ 1 = 1 ∧ c = 27 then _ else bh_I M 40 1 c) = _
      rw [if_neg (fun q => w1 q.2.2), if_neg (fun q => w4 q.2.2), if_neg (fun q => w3 q.2.2)]
  have g1 : rdM M1 d w e τ := by
    rw [← hM1]
    exact hd
  have e27 : bh_I M1 40 1 27 = 0 := by rw [← hM1]; rfl
  have e28 : bh_I M1 40 1 28 = 0 := by rw [← hM1]; rfl
  have e19 : bh_I M1 40 1 19 = 0 := by rw [← hM1]; rfl
  have key : ∀ m i (M2 : bh_M), i + m = 8 → (∀ x, x < i → bh_I M2 63 1 x = 0) → fr_K M1 M2 → bh_I M2 40 1 19 = 0 → bh_wp (bh_tb T_M_resolving) (17, [some (.inr (40, 1)), some (.inl (.int (nI r))), some (.inl (.int (nI i))), none], [], M2, 0) Z := by
    intro m
    induction m with
    | succ m ih =>
      intro i M2 e1 h1 f2 e2
      refine bl_M_resolving_17 r i none (by omega) (f2.m.stat (f1.stat hs)) (ih (i + 1) _ (by omega) (fun x hx => ?_) ⟨fun a w1 w2 w3 w4 => ?_, fun c hc => f2.2.1 c hc, f2.2.2⟩ e2)
      · show (if 63 = 63 ∧ 1 = 1 ∧ x = i then 0 else bh_I M2 63 1 x) = 0
        by_cases c : x = i
        · rw [if_pos ⟨rfl, rfl, c⟩]
        · rw [if_neg (fun q => c q.2.2)]
          exact h1 x (by omega)
      · rw [← f2.1 a w1 w2 w3 w4]
        funext x c
        show (if a = 63 ∧ x = 1 ∧ c = i then _ else bh_I M2 a x c) = _
        rw [if_neg (fun q => w3 q.1)]
    | zero =>
      intro i M2 e1 h1 f2 e2
      have : i = 8 := by omega
      subst this
      have f3 : fr_Q M M2 := fr_Q_trans f1 f2.m.Q
      have hs2 := f3.stat hs
      have g2 := g1.mv f2.m
      have ht2 : tkM M2 (fun _ => false) := h1
      have e272 : bh_I M2 40 1 27 = 0 := by rw [f2.2.1 27 (by decide)]; exact e27
      have e282 : bh_I M2 40 1 28 = 0 := by rw [f2.2.1 28 (by decide)]; exact e28
      refine bx_M_resolving_17 r none hs2 ?_
      refine cm_M_named hr g2 ht2 (fun o ho => by cases ho) (by rw [hst]; decide) hs2 (fun q => ?_) (fun q => ?_)
      · refine bk_M_resolving_41 r _ _ 1 hs2 ⟨fun q9 => absurd q9 (by decide), fun _ => ?_⟩
        have eR : d_run d w r = (2, d, w, 0, 0) := by
          unfold d_run
          rw [if_pos q]
        rw [eR] at h
        exact h M2 g2 e272 e282 f3
      · have eR : d_run d w r = match d_dfs d 25 (w, d_tk (fun _ => false) r true, d_tasks d r) 0 0 with
            | (none, n) => (if 300 < n then 3 else 2, d, w, n, 0)
            | (some s, n) => (1, d_res d s.2.1, d_optB (d_res d s.2.1) s.2.1 8 s.1, n, bh_cnt s.2.1 8) := by
          unfold d_run
          rw [if_neg (by rw [q]; exact Bool.false_ne_true)]
          all_goals rfl
        rw [eR] at h
        clear eR
        refine bk_M_resolving_41 r _ _ 0 hs2 ⟨fun _ => ?_, fun q9 => absurd rfl q9⟩
        have hlen : (d_tasks d r).length ≤ 3 := by
          have h9 := List.length_filter_le (fun k => !d_op d r k) (List.range (d_ni d r))
          rw [List.length_range] at h9
          have h10 := (hd.2.2 r hr).2.2.1.2.1
          unfold d_tasks
          rw [List.length_map]
          omega
        refine cm_M_takeIn (ts := []) (-1) hr g2 ht2 ⟨e2, by decide, fun i q hq => by cases hq⟩ (by rw [List.length_nil]; omega) hs2 (fun M3 y1 y2 y3 f4 => ?_)
        rw [List.nil_append] at y2
        have f5 : fr_Q M M3 := fr_Q_trans f3 f4.m.Q
        have hs3 := f5.stat hs
        have g3 := g2.mv f4.m
        have e273 : bh_I M3 40 1 27 = 0 := by rw [f4.2.1 27 (by decide)]; exact e272
        have e283 : bh_I M3 40 1 28 = 0 := by rw [f4.2.1 28 (by decide)]; exact e282
        refine bk_M_resolving_52 r _ _ hs3 ?_
        obtain ⟨hsI, hsJ, hsL⟩ := sI_0 hr hst (fun b k hb h1 => hok.1 b k hb (d_live_1 h1))
        -- the search, from its beginning
        have hrun : ∀ (M4 : bh_M), fr_m M3 M4 → tkM M4 (d_tk (fun _ => false) r true) → tsM M4 (d_tasks d r) → bh_I M4 40 1 26 = 0 → bh_I M4 40 1 27 = 0 → (∀ x, bh_I M4 64 1 x = bh_I M3 64 1 x) → (∀ b k, (d_tasks d r)[0]? = some (b, k) → cdM M4 d e b k 0 (d_cand d (d_tk (fun _ => false) r true) false b k) ∧ bh_I M4 61 1 0 = 0) → bh_wp (bh_tb T_M_solve) (20, [some (.inr (40, 1)), some (.inl (.int (nI 0))), none], [], M4, 0) (bh_after 56 [some (.inr (40, 1)), some (.inl (.int (nI r))), some (.inl (.int (nI 8))), none] [] 0 (fun y => bh_wp (bh_tb T_M_resolving) y Z) Z) := by
          intro M4 f6 z1 z2 z3 z4 z5 z6
          have f7 : fr_Q M M4 := fr_Q_trans f5 f6.Q
          have hs4 := f7.stat hs
          have g4 := g3.mv f6
          have e284 : bh_I M4 40 1 28 = 0 := by rw [f6.2.1 28 (by decide) (by decide) (by decide)]; exact e283
          have hst4 : stM M4 d (w, d_tk (fun _ => false) r true, d_tasks d r) w e τ 0 0 := by
            refine ⟨g4, z1, z2, z4, ⟨z3, Nat.zero_le _, z2.2.2, fun i q hi => absurd hi (Nat.not_lt_zero _), fun b k o l hb hl hw => ?_, fun b k _ _ => rfl⟩, fun b hb j _ hj c => ?_⟩
            · have hw : w b k = some (o, l) := hw
              rw [hok.1 b k hb hl] at hw
              cases hw
            · rw [z5, y3, if_pos (d_tk_r hb)] at c
              exact bn_not_neg1 (by omega) c.symm
          refine cm_solve 25 M4 _ (w, d_tk (fun _ => false) r true, d_tasks d r) 0 0 none (by decide) (Nat.zero_le _) hst4 hsI hok.wok (by decide) hs4 z6 ?_
          have hle := d_dfs_le d 25 (w, d_tk (fun _ => false) r true, d_tasks d r) 0 0 (by decide)
          cases hres : d_dfs d 25 (w, d_tk (fun _ => false) r true, d_tasks d r) 0 0 with
          | mk res n =>
            rw [hres] at h hle
            have hle : n ≤ 301 := hle
            cases res with
            | none =>
              constructor
              · intro q9 M5 k1 f8
                have q9 : 300 < n := q9
                have f9 : fr_Q M M5 := fr_Q_trans f7 f8.Q
                refine bk_M_resolving_56 r _ _ 4 (f9.stat hs) ⟨fun _ => ?_, fun q8 => absurd (by decide) q8⟩
                refine bk_M_resolving_98 r 4 _ (f9.stat hs) ?_
                have hz := h M5 (g4.mv f8) k1 (by rw [f8.2.1 28 (by decide) (by decide) (by decide)]; exact e284) f9
                have e9 : q_code (if 300 < n then 3 else 2) = 4 := by rw [if_pos q9]; rfl
                have hz : Z (.inl (some (.inl (.int (q_code (if 300 < n then 3 else 2))))), M5) := hz
                rw [e9] at hz
                exact hz
              · intro q9 M5 w2 k1 f8
                have q9 : ¬ 300 < n := q9
                have f9 : fr_Q M M5 := fr_Q_trans f7 f8.1.Q
                refine bx_M_solve_43 w2 (f9.stat hs) ⟨fun q8 => absurd q8 (by decide), fun _ => ?_⟩
                refine bk_M_resolving_56 r _ _ 3 (f9.stat hs) ⟨fun _ => ?_, fun q8 => absurd (by decide) q8⟩
                refine bk_M_resolving_98 r 3 _ (f9.stat hs) ?_
                have hz := h M5 (g4.mv f8.1) k1.2.2.2.1 (by rw [f8.1.2.1 28 (by decide) (by decide) (by decide)]; exact e284) f9
                have e9 : q_code (if 300 < n then 3 else 2) = 3 := by rw [if_neg q9]; rfl
                have hz : Z (.inl (some (.inl (.int (q_code (if 300 < n then 3 else 2))))), M5) := hz
                rw [e9] at hz
                exact hz
            | some s' =>
              intro M5 k1 k2 k3 k4 k5 f8
              have f9 : fr_Q M M5 := fr_Q_trans f7 f8.Q
              have e285 : bh_I M5 40 1 28 = 0 := by rw [f8.2.1 28 (by decide) (by decide) (by decide)]; exact e284
              refine bk_M_resolving_56 r _ _ 0 (f9.stat hs) ⟨fun q8 => absurd rfl q8, fun _ => ?_⟩
              obtain ⟨⟨t', j1⟩, j2, j3, j4, j5, j6⟩ := d_dfs_ok hr hst hst3 hok hres
              -- how many were taken in
              have cnt : ∀ m i (M6 : bh_M), i + m = 8 → bh_I M6 40 1 28 = bh_cnt s'.2.1 i → (∀ a, a ≠ 40 → bh_I M6 a = bh_I M5 a) → (∀ c, c ≠ 28 → bh_I M6 40 1 c = bh_I M5 40 1 c) → M6.2 = M5.2 → bh_wp (bh_tb T_M_resolving) (63, [some (.inr (40, 1)), some (.inl (.int (nI r))), some (.inl (.int 0)), some (.inl (.int (nI i)))], [], M6, 0) Z := by
                intro m
                induction m with
                | succ m ih =>
                  intro i M6 e6 x1 x2 x3 x4
                  have hs6 : bh_stat M6.2.2.2 := by rw [x4]; exact f9.stat hs
                  refine bl_M_resolving_63 r 0 i (by omega) hs6 ?_
                  rw [x2 63 (by decide), k2.f (show i < 8 by omega)]
                  have es : bh_cnt s'.2.1 (i + 1) = if s'.2.1 i then bh_cnt s'.2.1 i + 1 else bh_cnt s'.2.1 i := rfl
                  refine ⟨fun q8 => ih (i + 1) M6 (by omega) (by rw [es, q8, if_neg Bool.false_ne_true]; exact x1) x2 x3 x4, fun q8 => ?_⟩
                  have q8 : s'.2.1 i = true := by simpa using q8
                  refine ih (i + 1) _ (by omega) ?_ (fun a ha => ?_) (fun c hc => ?_) x4
                  · rw [es, q8, if_pos rfl, ← x1]
                    rfl
                  · rw [← x2 a ha]
                    funext x c
                    show (if a = 40 ∧ x = 1 ∧ c = 28 then _ else bh_I M6 a x c) = _
                    rw [if_neg (fun q => ha q.1)]
                  · rw [← x3 c hc]
                    show (if 40 = 40 ∧ 1 = 1 ∧ c = 28 then _ else bh_I M6 40 1 c) = _
                    rw [if_neg (fun q => hc q.2.2)]
                | zero =>
                  intro i M6 e6 x1 x2 x3 x4
                  have : i = 8 := by omega
                  subst this
                  have hs6 : bh_stat M6.2.2.2 := by rw [x4]; exact f9.stat hs
                  have f10 : fr_Q M5 M6 := ⟨fun a w1 _ _ _ _ _ _ _ _ => x2 a w1, fun c _ _ _ w4 => x3 c w4, fun a _ => by rw [show bh_J M6 = bh_J M5 from congrArg (fun q => q.1) x4], by rw [x4]⟩
                  refine bx_M_resolving_63 r 0 hs6 ?_
                  have g6 : rdM M6 d w e τ := by
                    refine ⟨k1.1, k1.2.1, fun b hb => ?_⟩
                    have g := k1.2.2 b hb
                    rw [show bh_J M6 = bh_J M5 from congrArg (fun q => q.1) x4, x2 41 (by decide), x2 42 (by decide), x2 48 (by decide), x2 49 (by decide), x2 50 (by decide), x2 51 (by decide), x2 52 (by decide), x2 53 (by decide), x2 54 (by decide), x2 55 (by decide), x2 56 (by decide)]
                    exact g
                  refine cm_M_wireAll g6 (fun b hb => by rw [x2 63 (by decide)]; exact k2 b hb) ⟨by rw [x3 19 (by decide)]; exact k3.1, k3.2.1, fun i q hq => by rw [x2 58 (by decide)]; exact k3.2.2 i q hq⟩ ?_ j1.1 (fun q hq => ⟨(j1.2.2.1 q hq).1, (j1.2.2.1 q hq).2.2⟩) j3 hok.1 j6 j4 hs6 (fun M7 v1 v2 => ?_)
                  · unfold smM at k5 ⊢
                    rw [x3 26 (by decide), x2 58 (by decide), x2 61 (by decide), x2 59 (by decide)]
                    exact k5
                  · have f11 : fr_Q M M7 := fr_Q_trans f9 (fr_Q_trans f10 v2.Q)
                    refine bk_M_resolving_98 r 0 _ (f11.stat hs) ?_
                    refine h M7 v1 ?_ ?_ f11
                    · rw [v2.1 40 (by decide) (by decide) (by decide) (by decide) (by decide), x3 27 (by decide)]
                      exact k4
                    · rw [v2.1 40 (by decide) (by decide) (by decide) (by decide) (by decide)]
                      exact x1
              exact cnt 8 0 M5 (by omega) e285 (fun _ _ => rfl) (fun _ _ => rfl) rfl
        have f6 : fr_m M3 (bh_sI M3 40 1 26 0) := ⟨fun a w1 _ _ _ _ _ _ _ => by
          funext x c
          show (if a = 40 ∧ x = 1 ∧ c = 26 then _ else bh_I M3 a x c) = _
          rw [if_neg (fun q => w1 q.1)], fun c _ w2 _ => by
          show (if 40 = 40 ∧ 1 = 1 ∧ c = 26 then _ else bh_I M3 40 1 c) = _
          rw [if_neg (fun q => w2 q.2.2)], rfl⟩
        refine be_M_solve (m := (d_tasks d r).length) y2.1 (by omega) hs3 ⟨fun q0 => ?_, fun q0 => ?_⟩
        · refine hrun (bh_sI M3 40 1 26 0) f6 y1 y2 rfl e273 (fun _ => rfl) (fun b k c => ?_)
          rw [List.getElem?_eq_none (by omega)] at c
          cases c
        · have hl0 : 0 < (d_tasks d r).length := Nat.pos_of_ne_zero q0
          have eget : (d_tasks d r)[0]? = some ((d_tasks d r)[0]) := List.getElem?_eq_getElem hl0
          generalize hbk : (d_tasks d r)[0] = bk at eget
          obtain ⟨b, k⟩ := bk
          obtain ⟨a1, a2, -⟩ := d_tasks_mem (List.mem_of_getElem? eget)
          have a1 : b = r := a1
          subst a1
          have a2 : k < d_ni d b := a2
          have e58 : bh_I M3 58 1 0 = nI (3 * b + k) := y2.2.2 0 _ eget
          refine cm_M_find0 (b0 := b) (k0 := k) (t := 0) (by decide) hr a2 (show bh_I M3 58 1 0 = _ from e58) (g3.mv f6) (show tkM (bh_sI M3 40 1 26 0) (d_tk (fun _ => false) b true) from y1) (fun o ho => by rw [d_tk_r ho]; exact hst) hs3 (fun M5 c1 c2 f8 => ?_)
          refine hrun M5 (fr_m_trans f6 f8.m) (fun x hx => by rw [f8.1 63 (by decide) (by decide) (by decide)]; exact y1 x hx) ⟨by rw [f8.1 40 (by decide) (by decide) (by decide)]; exact y2.1, y2.2.1, fun i q hq => by rw [f8.1 58 (by decide) (by decide) (by decide)]; exact y2.2.2 i q hq⟩ (by rw [f8.1 40 (by decide) (by decide) (by decide)]; rfl) (by rw [f8.1 40 (by decide) (by decide) (by decide)]; exact e273) (fun x => by rw [f8.1 64 (by decide) (by decide) (by decide)]; rfl) (fun b' k' c => ?_)
          rw [eget] at c
          cases c
          exact ⟨c1, c2⟩
  exact key 8 0 M1 rfl (fun x hx => absurd hx (Nat.not_lt_zero x)) ⟨fun _ _ _ _ _ => rfl, fun _ _ => rfl, rfl⟩ e19
