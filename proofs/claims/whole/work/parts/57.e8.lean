def mPost (d : sd) (s : ss) (w0 : sw) (e : sx) (τ : Nat → Nat → Nat) (M : bh_M) (Z : bh_F → Prop) (t : Nat) (r : Option ss × Nat) : Prop := match r.1 with
  | some s' => ∀ M', rdM M' d w0 e τ → tkM M' s'.2.1 → tsM M' s'.2.2 → bh_I M' 40 1 27 = nI r.2 → smM M' d s' w0 e s'.2.2.length → fr_m M M' → Z (.inl (some (.inl (.int 0))), M')
  | none => (300 < r.2 → ∀ M', bh_I M' 40 1 27 = nI r.2 → fr_m M M' → Z (.inl (some (.inl (.int 4))), M')) ∧ (¬ 300 < r.2 → ∀ M' w2, stM M' d s w0 e τ r.2 t → fr_L M M' s t → bh_wp (bh_tb T_M_solve) (43, [some (.inr (40, 1)), some (.inl (.int (nI t))), w2], [], M', 0) Z)
theorem mPost_mono {d : sd} {s : ss} {w0 : sw} {e : sx} {τ : Nat → Nat → Nat} {M M1 : bh_M} {Z : bh_F → Prop} {t : Nat} {r : Option ss × Nat} (h : mPost d s w0 e τ M Z t r) (f : fr_L M M1 s t) : mPost d s w0 e τ M1 Z t r := by
  unfold mPost at h ⊢
  split
  · rename_i s' e1
    rw [e1] at h
    exact fun M' g1 g2 g3 g4 g5 g6 => h M' g1 g2 g3 g4 g5 (fr_m_trans f.1 g6)
  · rename_i e1
    rw [e1] at h
    exact ⟨fun q M' g1 g2 => h.1 q M' g1 (fr_m_trans f.1 g2), fun q M' w2 g1 g2 => h.2 q M' w2 g1 (fr_L_trans f g2)⟩
theorem cm_solve {d : sd} {w0 : sw} {e : sx} {τ : Nat → Nat → Nat} : ∀ (f : Nat) (M : bh_M) (Z : bh_F → Prop) (s : ss) (t n : Nat) (w2 : Option bh_V), 25 ≤ t + f → t ≤ s.2.2.length → stM M d s w0 e τ n t → sI d s t → d_wok d s.1 → n ≤ 300 → bh_stat M.2.2.2 → (∀ b k, s.2.2[t]? = some (b, k) → cdM M d e b k t (d_cand d s.2.1 false b k) ∧ bh_I M 61 1 t = 0) → mPost d s w0 e τ M Z t (d_dfs d f s t n) → bh_wp (bh_tb T_M_solve) (20, [some (.inr (40, 1)), some (.inl (.int (nI t))), w2], [], M, 0) Z := by
  intro f
  induction f with
  | zero =>
    intro M Z s t n w2 hf ht hst hsI hok hn hs hcd h
    have := sI_len hsI (fun b hb => (hst.1.2.2 b hb).2.2.1.2.1)
    omega
  | succ f ihf =>
    intro M Z s t n w2 hf ht hst hsI hok hn hs hcd h
    have hlen := sI_len hsI (fun b hb => (hst.1.2.2 b hb).2.2.1.2.1)
    unfold d_dfs at h
    cases e1 : s.2.2[t]? with
    | none =>
      rw [e1] at h
      have hl : s.2.2.length ≤ t := List.getElem?_eq_none_iff.mp e1
      have he : t = s.2.2.length := by omega
      refine bt_M_solve_20 t w2 hst.2.2.1.1 (by omega) (by omega) hs ⟨fun _ => ?_, fun q => absurd hl q⟩
      have hm := hst.2.2.2.2.1
      rw [he] at hm
      exact h M hst.1 hst.2.1 hst.2.2.1 hst.2.2.2.1 hm (fr_m_refl M)
    | some q =>
      obtain ⟨b, k⟩ := q
      rw [e1] at h
      obtain ⟨hcd0, hpos0⟩ := hcd b k e1
      have hl := (List.getElem?_eq_some_iff.mp e1).1
      obtain ⟨hb, hTb, hk⟩ := hsI.2.2.1 _ (List.mem_of_getElem? e1)
      have hb : b < 8 := hb
      have hTb : s.2.1 b = true := hTb
      have hk : k < d_ni d b := hk
      have hbst := (hsI.1 b hTb).2
      have hblv : d_live d b = false := by
        unfold d_live
        rw [hbst]
        rfl
      have hwn : s.1 b k = none := hsI.2.2.2.2.1 t (b, k) (Nat.le_refl _) e1
      have hc8 := d_cand_8 d s.2.1 false b k
      have hneq : ∀ i q, i < t → s.2.2[i]? = some q → ¬ q = (b, k) := by
        intro i q hi hq c
        subst c
        obtain ⟨l1, r1⟩ := List.getElem?_eq_some_iff.mp hq
        obtain ⟨l2, r2⟩ := List.getElem?_eq_some_iff.mp e1
        have := (List.getElem_inj (h₀ := l1) (h₁ := l2) hsI.2.2.2.1).mp (r1.trans r2.symm)
        omega
      have key : ∀ (xs pre : List Nat) (M1 : bh_M) (n1 : Nat) (w2 : Option bh_V), d_cand d s.2.1 false b k = pre ++ xs → stM M1 d s w0 e τ n1 t → cdM M1 d e b k t (d_cand d s.2.1 false b k) → bh_I M1 61 1 t = nI pre.length → fr_L M M1 s t → n1 ≤ 300 → mPost d s w0 e τ M Z t (d_try d (fun s' n' => d_dfs d f s' (t + 1) n') s b k xs n1) → bh_wp (bh_tb T_M_solve) (20, [some (.inr (40, 1)), some (.inl (.int (nI t))), w2], [], M1, 0) Z := by
        intro xs
        induction xs with
        | nil =>
          intro pre M1 n1 w2 hcs h1 hcd1 hpos f1 hn1 hp
          have hs1 := f1.1.stat hs
          rw [List.append_nil] at hcs
          refine bt_M_solve_20 t w2 h1.2.2.1.1 (by omega) (by omega) hs1 ⟨fun q => absurd q (by omega), fun _ => ?_⟩
          refine bt_M_solve_28 t w2 (by omega) hpos hcd1.1 (by rw [← hcs]; omega) (by omega) hs1 ⟨fun q => absurd (by rw [hcs]) q, fun _ => ?_⟩
          exact hp.2 (show ¬ 300 < n1 by omega) M1 w2 h1 f1
        | cons x xs ih =>
          intro pre M1 n1 w2 hcs h1 hcd1 hpos f1 hn1 hp
          have hs1 := f1.1.stat hs
          obtain ⟨r1, r2, r3, r4, r5, r6⟩ := h1
          have hlc : pre.length + (xs.length + 1) ≤ 8 := by
            rw [hcs, List.length_append, List.length_cons] at hc8
            exact hc8
          have hpl : ¬ pre.length = (d_cand d s.2.1 false b k).length := by
            rw [hcs, List.length_append, List.length_cons]
            omega
          have hxget : (d_cand d s.2.1 false b k)[pre.length]? = some x := by
            rw [hcs, List.getElem?_append_right (Nat.le_refl _), Nat.sub_self]
            rfl
          have hx : x ∈ d_cand d s.2.1 false b k := List.mem_of_getElem? hxget
          obtain ⟨x1, x2, x3⟩ := d_cand_mem.mp hx
          have ho : x % 8 < 8 := Nat.mod_lt _ (by decide)
          have hstep := sI_step hsI e1 ho (d_cand_ver hx)
          have hsl := sI_len hstep (fun b hb => (hst.1.2.2 b hb).2.2.1.2.1)
          have hok' := d_wok_step (d := d) (b := b) (k := k) hok ho
          have es1 : (d_step d s b k (x % 8)).1 = d_set s.1 b k (some (x % 8, d_lf d (x % 8))) := by
            unfold d_step
            split <;> rfl
          have ets : ∃ l, (d_step d s b k (x % 8)).2.2 = s.2.2 ++ l := by
            unfold d_step
            split
            · exact ⟨_, rfl⟩
            · exact ⟨[], (List.append_nil _).symm⟩
          obtain ⟨lnew, ets⟩ := ets
          have hsets : ∀ y z, ¬ (y, z) = (b, k) → (d_step d s b k (x % 8)).1 y z = s.1 y z := by
            intro y z hne
            rw [es1]
            unfold d_set
            rw [if_neg (fun q => hne (by rw [q.1, q.2]))]
          obtain ⟨j', j1, j2, j3⟩ := hcd1.2 _ _ hxget
          have hxn := (r1.2.2 _ ho).2.1.2.1
          -- back at this level, the choice undone
          have again : ∀ (M4 : bh_M) (n4 : Nat), stM M4 d (d_step d s b k (x % 8)) w0 e τ n4 (t + 1) → cdM M4 d e b k t (d_cand d s.2.1 false b k) → bh_I M4 61 1 t = nI pre.length → bh_I M4 62 1 t = nI s.2.2.length → fr_L M M4 s t → (d_new d s (x % 8) = true → bh_I M4 64 1 (x % 8) = nI t) → n4 ≤ 300 → mPost d s w0 e τ M Z t (d_try d (fun s' n' => d_dfs d f s' (t + 1) n') s b k xs n4) → ∀ (M5 : bh_M) (w2 : Option bh_V), bh_I M5 40 1 26 = nI t → bh_I M5 40 1 19 = bh_I M4 62 1 t → tkM M5 (fun b' => (d_step d s b k (x % 8)).2.1 b' && !decide (bh_I M4 64 1 b' = nI t)) → bh_I M5 61 1 t = bh_I M4 61 1 t + 1 → fr_U M4 M5 t → bh_wp (bh_tb T_M_solve) (20, [some (.inr (40, 1)), some (.inl (.int (nI t))), w2], [], M5, 0) Z := by
            intro M4 n4 g1 g2 g3 g4 g5 g6 g7 g8 M5 w2 k1 k2 k3 k4 k5
            have f5 : fr_L M M5 s t := by
              refine ⟨fr_m_trans g5.1 k5.m, fun c hc => ?_, fun c hc => ⟨?_, ?_, ?_⟩, fun b' hb' => ?_⟩
              · rw [k5.1 59 (by decide) (by decide) (by decide)]; exact g5.2.1 c hc
              · rw [k5.1 60 (by decide) (by decide) (by decide)]; exact (g5.2.2.1 c hc).1
              · rw [k5.2.2.1 c (by omega)]; exact (g5.2.2.1 c hc).2.1
              · rw [k5.1 62 (by decide) (by decide) (by decide)]; exact (g5.2.2.1 c hc).2.2
              · rw [k5.1 64 (by decide) (by decide) (by decide)]; exact g5.2.2.2 b' hb'
            have notby : ∀ b', s.2.1 b' = true → ¬ bh_I M4 64 1 b' = nI t := by
              intro b' hb' c
              rw [g5.2.2.2 b' hb'] at c
              exact hst.2.2.2.2.2 b' hb' t (Nat.le_refl _) (by omega) c
            refine ih (pre ++ [x]) M5 n4 w2 (by rw [hcs, List.append_assoc]; rfl) ⟨hst.1.mv f5.1, fun b' hb' => ?_, ⟨?_, hlen, fun i q hq => ?_⟩, ?_, ⟨k1, ht, fun i q hq => ?_, fun i q hi hq => ?_, r5.2.2.2.2.1, r5.2.2.2.2.2⟩, fun b' hb' j hj hj2 => ?_⟩ ?_ ?_ f5 g7 g8
            · rw [k3 b' hb']
              have e9 : ((d_step d s b k (x % 8)).2.1 b' && !decide (bh_I M4 64 1 b' = nI t)) = s.2.1 b' := by
                cases hnew : d_new d s (x % 8) with
                | false =>
                  have e8 : (d_step d s b k (x % 8)).2.1 = s.2.1 := by
                    unfold d_step
                    rw [hnew]
                    rfl
                  rw [e8]
                  cases hT : s.2.1 b' with
                  | false => rfl
                  | true =>
                    rw [decide_eq_false (notby b' hT)]
                    rfl
                | true =>
                  have e8 : (d_step d s b k (x % 8)).2.1 = d_tk s.2.1 (x % 8) true := by
                    unfold d_step
                    rw [hnew]
                    rfl
                  have hTo : s.2.1 (x % 8) = false := by
                    unfold d_new at hnew
                    rw [Bool.and_eq_true] at hnew
                    cases c : s.2.1 (x % 8) with
                    | false => rfl
                    | true =>
                      rw [c] at hnew
                      exact absurd hnew.2 (by decide)
                  rw [e8]
                  unfold d_tk
                  by_cases c : b' = x % 8
                  · rw [if_pos c, c, hTo, decide_eq_true (g6 hnew)]
                    rfl
                  · rw [if_neg c]
                    cases hT : s.2.1 b' with
                    | false => rfl
                    | true =>
                      rw [decide_eq_false (notby b' hT)]
                      rfl
              show (if ((d_step d s b k (x % 8)).2.1 b' && !decide (bh_I M4 64 1 b' = nI t)) = true then _ else _) = _
              rw [e9]
            · rw [k2, g4]
            · rw [k5.1 58 (by decide) (by decide) (by decide)]
              refine g1.2.2.1.2.2 i q ?_
              rw [ets, List.getElem?_append_left (List.getElem?_eq_some_iff.mp hq).1]
              exact hq
            · rw [k5.2.1 27 (by decide) (by decide)]
              exact g1.2.2.2.1
            · rw [k5.1 58 (by decide) (by decide) (by decide)]
              refine g1.2.2.1.2.2 i q ?_
              rw [ets, List.getElem?_append_left (List.getElem?_eq_some_iff.mp hq).1]
              exact hq
            · obtain ⟨p, o, jj, p1, p2, p3, p4⟩ := r5.2.2.2.1 i q hi hq
              refine ⟨p, o, jj, p1, ?_, ?_, p4⟩
              · rw [(f5.2.2.1 i hi).2.1, ← (f1.2.2.1 i hi).2.1]
                exact p2
              · rw [f5.2.1 _ (by omega), ← f1.2.1 _ (by omega)]
                exact p3
            · rw [f5.2.2.2 b' hb']
              exact hst.2.2.2.2.2 b' hb' j hj hj2
            · refine ⟨?_, fun jj y hy => ?_⟩
              · rw [k5.1 60 (by decide) (by decide) (by decide)]
                exact g2.1
              · rw [k5.1 59 (by decide) (by decide) (by decide)]
                exact g2.2 jj y hy
            · rw [k4, g3, bn_s, List.length_append]
              rfl
          -- the choice has been made
          have at132 : ∀ (M3 : bh_M) (w2 : Option bh_V), n1 + 1 ≤ 300 → stM M3 d (d_step d s b k (x % 8)) w0 e τ (n1 + 1) (t + 1) → cdM M3 d e b k t (d_cand d s.2.1 false b k) → bh_I M3 61 1 t = nI pre.length → bh_I M3 62 1 t = nI s.2.2.length → fr_L M M3 s t → (d_new d s (x % 8) = true → bh_I M3 64 1 (x % 8) = nI t) → bh_wp (bh_tb T_M_solve) (132, [some (.inr (40, 1)), some (.inl (.int (nI t))), w2], [], M3, 0) Z := by
            intro M3 w2 hle g1 g2 g3 g4 g5 g6
            have hs3 := g5.1.stat hs
            unfold d_try at hp
            rw [if_neg (by omega)] at hp
            refine bk_M_solve_132 t w2 hs3 ?_
            refine cm_M_holds g1.1 g1.2.2.2.2.1 hstep hok' hs3 (fun q => ?_) (fun q => ?_)
            · rw [if_neg (by rw [q]; exact Bool.false_ne_true)] at hp
              refine bk_M_solve_136 t w2 1 hs3 ⟨fun _ => ?_, fun q9 => absurd (by decide) q9⟩
              have hle2 := d_dfs_le d f (d_step d s b k (x % 8)) (t + 1) (n1 + 1) hle
              have hl2 : t + 1 ≤ (d_step d s b k (x % 8)).2.2.length := by
                rw [ets, List.length_append]
                omega
              -- what the next level leaves
              have nxt : ∀ (M4 : bh_M) (w2 : Option bh_V), stM M4 d (d_step d s b k (x % 8)) w0 e τ (n1 + 1) (t + 1) → cdM M4 d e b k t (d_cand d s.2.1 false b k) → bh_I M4 61 1 t = nI pre.length → bh_I M4 62 1 t = nI s.2.2.length → fr_L M M4 s t → (d_new d s (x % 8) = true → bh_I M4 64 1 (x % 8) = nI t) → (∀ b' k', (d_step d s b k (x % 8)).2.2[t + 1]? = some (b', k') → cdM M4 d e b' k' (t + 1) (d_cand d (d_step d s b k (x % 8)).2.1 false b' k') ∧ bh_I M4 61 1 (t + 1) = 0) → bh_wp (bh_tb T_M_solve) (20, [some (.inr (40, 1)), some (.inl (.int (nI (t + 1)))), w2], [], M4, 0) Z := by
                intro M4 w2 y1 y2 y3 y4 y5 y6 y7
                have hs4 := y5.1.stat hs
                refine ihf M4 Z (d_step d s b k (x % 8)) (t + 1) (n1 + 1) w2 (by omega) hl2 y1 hstep hok' hle hs4 y7 ?_
                cases hr : d_dfs d f (d_step d s b k (x % 8)) (t + 1) (n1 + 1) with
                | mk r n' =>
                  rw [hr] at hle2
                  have hle2 : n' ≤ 301 := hle2
                  simp only [hr] at hp
                  cases r with
                  | some s' =>
                    intro M' z1 z2 z3 z4 z5 z6
                    exact hp M' z1 z2 z3 z4 z5 (fr_m_trans y5.1 z6)
                  | none =>
                    have hp : mPost d s w0 e τ M Z t (if 300 < n' then (none, n') else d_try d (fun s' n' => d_dfs d f s' (t + 1) n') s b k xs n') := hp
                    refine ⟨fun q9 M' z1 z2 => ?_, fun q9 M' w2 z1 z2 => ?_⟩
                    · have q9 : 300 < n' := q9
                      rw [if_pos q9] at hp
                      exact hp.1 q9 M' z1 (fr_m_trans y5.1 z2)
                    · have q9 : ¬ 300 < n' := q9
                      rw [if_neg q9] at hp
                      have hs6 := z2.1.stat hs4
                      refine bk_M_solve_43 w2 t (by omega) hs6 ?_
                      have c2 : cdM M' d e b k t (d_cand d s.2.1 false b k) := by
                        refine ⟨?_, fun jj y hy => ?_⟩
                        · rw [(z2.2.2.1 t (by omega)).1]
                          exact y2.1
                        · have hjl := (List.getElem?_eq_some_iff.mp hy).1
                          rw [z2.2.1 (8 * t + jj) (by omega)]
                          exact y2.2 jj y hy
                      have keepT : ∀ b', s.2.1 b' = true → (d_step d s b k (x % 8)).2.1 b' = true := by
                        intro b' hb'
                        unfold d_step
                        split
                        · show d_tk s.2.1 (x % 8) true b' = true
                          unfold d_tk
                          split
                          · rfl
                          · exact hb'
                        · exact hb'
                      have f6 : fr_L M M' s t := by
                        refine fr_L_trans y5 ⟨z2.1, fun c hc => z2.2.1 c (by omega), fun c hc => z2.2.2.1 c (by omega), fun b' hb' => z2.2.2.2 b' (keepT b' hb')⟩
                      have n6 : d_new d s (x % 8) = true → bh_I M' 64 1 (x % 8) = nI t := by
                        intro hnew
                        rw [z2.2.2.2 (x % 8) (by
                          unfold d_step
                          rw [hnew]
                          show d_tk s.2.1 (x % 8) true (x % 8) = true
                          unfold d_tk
                          rw [if_pos rfl])]
                        exact y6 hnew
                      refine cm_M_undo (by omega) z1.2.1 hs6 (fun M5 u1 u2 u3 u4 u5 => ?_)
                      refine bk_M_solve_57 t w2 (u5.m.stat hs6) ?_
                      exact again M' n' z1 c2 (by rw [(z2.2.2.1 t (by omega)).2.1]; exact y3) (by rw [(z2.2.2.1 t (by omega)).2.2]; exact y4) f6 n6 (by omega) hp M5 w2 u1 u2 u3 u4 u5
              refine bk_M_solve_147 t w2 g1.2.2.1.1 (by omega) (by omega) hs3 ⟨fun q9 => ?_, fun q9 => ?_⟩
              · refine nxt M3 w2 g1 g2 g3 g4 g5 g6 (fun b' k' hq => ?_)
                have := (List.getElem?_eq_some_iff.mp hq).1
                omega
              · have htl : t + 1 < (d_step d s b k (x % 8)).2.2.length := by omega
                obtain ⟨⟨b', k'⟩, hq'⟩ : ∃ q', (d_step d s b k (x % 8)).2.2[t + 1]? = some q' := ⟨(d_step d s b k (x % 8)).2.2[t + 1], List.getElem?_eq_getElem htl⟩
                have hmem := hstep.2.2.1 _ (List.mem_of_getElem? hq')
                refine cm_M_find0 (by omega) hmem.1 hmem.2.2 (g1.2.2.1.2.2 _ _ hq') g1.1 g1.2.1 (fun o ho => (hstep.1 o ho).2) hs3 (fun M4 y1 y2 y3 => ?_)
                have hs4 := y3.stat hs3
                refine bk_M_solve_164 (t + 1) w2 hs4 ?_
                refine nxt M4 w2 ⟨g1.1.mv y3.m, fun b9 hb9 => ?_, ⟨?_, g1.2.2.1.2.1, fun i q hq => ?_⟩, ?_, ⟨?_, g1.2.2.2.2.1.2.1, fun i q hq => ?_, fun i q hi hq => ?_, g1.2.2.2.2.1.2.2.2.2.1, g1.2.2.2.2.1.2.2.2.2.2⟩, fun b9 hb9 j hj hj2 => ?_⟩ ⟨?_, fun jj y hy => ?_⟩ ?_ ?_ (fr_L_trans g5 ⟨y3.m, fun c hc => y3.2.1 c (by omega), fun c hc => ⟨y3.2.2.1 c (by omega), y3.2.2.2.1 c (by omega), by rw [y3.1 62 (by decide) (by decide) (by decide)]⟩, fun b9 hb9 => by rw [y3.1 64 (by decide) (by decide) (by decide)]⟩) ?_ (fun b9 k9 hq9 => ?_)
                · rw [y3.1 63 (by decide) (by decide) (by decide)]; exact g1.2.1 b9 hb9
                · rw [y3.1 40 (by decide) (by decide) (by decide)]; exact g1.2.2.1.1
                · rw [y3.1 58 (by decide) (by decide) (by decide)]; exact g1.2.2.1.2.2 i q hq
                · rw [y3.1 40 (by decide) (by decide) (by decide)]; exact g1.2.2.2.1
                · rw [y3.1 40 (by decide) (by decide) (by decide)]; exact g1.2.2.2.2.1.1
                · rw [y3.1 58 (by decide) (by decide) (by decide)]; exact g1.2.2.1.2.2 i q hq
                · obtain ⟨p, o, jj, p1, p2, p3, p4⟩ := g1.2.2.2.2.1.2.2.2.1 i q hi hq
                  exact ⟨p, o, jj, p1, by rw [y3.2.2.2.1 i (by omega)]; exact p2, by rw [y3.2.1 _ (by omega)]; exact p3, p4⟩
                · rw [y3.1 64 (by decide) (by decide) (by decide)]; exact g1.2.2.2.2.2 b9 hb9 j hj hj2
                · rw [y3.2.2.1 t (by omega)]; exact g2.1
                · have hjl := (List.getElem?_eq_some_iff.mp hy).1
                  rw [y3.2.1 (8 * t + jj) (by omega)]
                  exact g2.2 jj y hy
                · rw [y3.2.2.2.1 t (by omega)]; exact g3
                · rw [y3.1 62 (by decide) (by decide) (by decide)]; exact g4
                · intro hnew
                  rw [y3.1 64 (by decide) (by decide) (by decide)]
                  exact g6 hnew
                · rw [hq'] at hq9
                  cases hq9
                  exact ⟨y1, y2⟩
            · rw [if_pos q] at hp
              refine bk_M_solve_136 t w2 0 hs3 ⟨fun q9 => absurd rfl q9, fun _ => ?_⟩
              refine cm_M_undo (by omega) g1.2.1 hs3 (fun M5 u1 u2 u3 u4 u5 => ?_)
              refine bk_M_solve_144 t w2 (u5.m.stat hs3) ?_
              exact again M3 (n1 + 1) g1 g2 g3 g4 g5 g6 hle hp M5 w2 u1 u2 u3 u4 u5
          refine bt_M_solve_20 t w2 r3.1 (by omega) (by omega) hs1 ⟨fun q => absurd q (by omega), fun _ => ?_⟩
          refine bt_M_solve_28 t w2 (by omega) hpos hcd1.1 (by omega) (by omega) hs1 ⟨fun _ => ?_, fun q => absurd hpl q⟩
          refine bk_M_solve_60 t w2 (by omega) r4 (by omega) hs1 ⟨fun hle => ?_, fun hle => ?_⟩
          · generalize hM2 : bh_sI (bh_sI (bh_sI M1 40 1 27 (nI (n1 + 1))) 62 1 t (bh_I M1 40 1 19)) 40 1 26 (nI (t + 1)) = M2
            have i2 : ∀ a, a ≠ 40 → a ≠ 62 → bh_I M2 a = bh_I M1 a := by
              intro a w1 w3
              rw [← hM2]
              funext y c
              show (if a = 40 ∧ y = 1 ∧ c = 26 then _ else if a = 62 ∧ y = 1 ∧ c = t then _ else if a = 40 ∧ y = 1 ∧ c = 27 then _ else bh_I M1 a y c) = _
              rw [if_neg (fun q => w1 q.1), if_neg (fun q => w3 q.1), if_neg (fun q => w1 q.1)]
            have i40 : ∀ c, c ≠ 26 → c ≠ 27 → bh_I M2 40 1 c = bh_I M1 40 1 c := by
              intro c w1 w3
              rw [← hM2]
              show (if 40 = 40 ∧ 1 = 1 ∧ c = 26 then nI (t + 1) else if 40 = 62 ∧ 1 = 1 ∧ c = t then bh_I M1 40 1 19 else if 40 = 40 ∧ 1 = 1 ∧ c = 27 then nI (n1 + 1) else bh_I M1 40 1 c) = _
              rw [if_neg (fun q => w1 q.2.2), if_neg (by omega), if_neg (fun q => w3 q.2.2)]
            have i26 : bh_I M2 40 1 26 = nI (t + 1) := by rw [← hM2]; rfl
            have i27 : bh_I M2 40 1 27 = nI (n1 + 1) := by rw [← hM2]; rfl
            have i62 : bh_I M2 62 1 t = nI s.2.2.length := by
              rw [← hM2]
              show (if 62 = 62 ∧ 1 = 1 ∧ t = t then bh_I M1 40 1 19 else bh_I M1 62 1 t) = _
              rw [if_pos ⟨rfl, rfl, rfl⟩]
              exact r3.1
            have i62b : ∀ c, c ≠ t → bh_I M2 62 1 c = bh_I M1 62 1 c := by
              intro c hc
              rw [← hM2]
              show (if 62 = 62 ∧ 1 = 1 ∧ c = t then bh_I M1 40 1 19 else bh_I M1 62 1 c) = _
              rw [if_neg (fun q => hc q.2.2)]
            have iM : M2.2 = M1.2 := by rw [← hM2]; rfl
            have fm2 : fr_m M1 M2 := ⟨fun a w1 _ _ _ _ w6 _ _ => i2 a w1 w6, fun c _ w2 w3 => i40 c w2 w3, iM⟩
            have hs2 := fm2.stat hs1
            have fl2 : fr_L M1 M2 s t := ⟨fm2, fun c _ => by rw [i2 59 (by decide) (by decide)], fun c hc => ⟨by rw [i2 60 (by decide) (by decide)], by rw [i2 61 (by decide) (by decide)], i62b c (by omega)⟩, fun b' _ => by rw [i2 64 (by decide) (by decide)]⟩
            have rd2 := r1.mv fm2
            have tk2 : tkM M2 s.2.1 := fun b' hb' => by rw [i2 63 (by decide) (by decide)]; exact r2 b' hb'
            have ts2 : tsM M2 s.2.2 := ⟨by rw [i40 19 (by decide) (by decide)]; exact r3.1, r3.2.1, fun i q hq => by rw [i2 58 (by decide) (by decide)]; exact r3.2.2 i q hq⟩
            have cd2 : cdM M2 d e b k t (d_cand d s.2.1 false b k) := ⟨by rw [i2 60 (by decide) (by decide)]; exact hcd1.1, fun jj y hy => by rw [i2 59 (by decide) (by decide)]; exact hcd1.2 jj y hy⟩
            have ps2 : bh_I M2 61 1 t = nI pre.length := by rw [i2 61 (by decide) (by decide)]; exact hpos
            refine be_M_choice t ps2 (by omega) (by omega) hs2 ?_
            rw [i2 59 (by decide) (by decide), j3]
            refine bk_M_solve_104 t w2 (3 * (x % 8) + j') (by omega) (by omega) hs2 ?_
            have e3 : (3 * (x % 8) + j') / 3 = x % 8 := by omega
            rw [e3]
            have sm3 : ∀ M3, bh_I M3 40 1 26 = nI (t + 1) → tsM M3 (d_step d s b k (x % 8)).2.2 → bh_I M3 61 = bh_I M2 61 → bh_I M3 59 = bh_I M2 59 → smM M3 d (d_step d s b k (x % 8)) w0 e (t + 1) := by
              intro M3 z1 z2 z3 z4
              refine ⟨z1, by rw [ets, List.length_append]; omega, z2.2.2, fun i q hi hq => ?_, fun b' k' o l hb' hlv hw => ?_, fun b' k' hb' hlv => ?_⟩
              · have hil : i < s.2.2.length := by omega
                rw [ets, List.getElem?_append_left hil] at hq
                by_cases c : i = t
                · subst c
                  rw [e1] at hq
                  cases hq
                  refine ⟨pre.length, x % 8, j', by omega, by rw [z3]; exact ps2, by rw [z4, i2 59 (by decide) (by decide)]; exact j3, ho, j1, j2, ?_⟩
                  rw [es1]
                  unfold d_set
                  rw [if_pos ⟨rfl, rfl⟩]
                · obtain ⟨p, o, jj, p1, p2, p3, p4, p5, p6, p7⟩ := r5.2.2.2.1 i q (by omega) hq
                  exact ⟨p, o, jj, p1, by rw [z3, i2 61 (by decide) (by decide)]; exact p2, by rw [z4, i2 59 (by decide) (by decide)]; exact p3, p4, p5, p6, (hsets _ _ (hneq i q (by omega) hq)).trans p7⟩
              · by_cases c : (b', k') = (b, k)
                · obtain ⟨rfl, rfl⟩ := Prod.mk.inj c
                  exact ⟨t, by omega, by rw [ets, List.getElem?_append_left hl]; exact e1⟩
                · rw [hsets _ _ c] at hw
                  obtain ⟨i, hi, hi2⟩ := r5.2.2.2.2.1 b' k' o l hb' hlv hw
                  exact ⟨i, by omega, by rw [ets, List.getElem?_append_left (by omega)]; exact hi2⟩
              · rw [hsets b' k' (fun c => by
                  obtain ⟨rfl, -⟩ := Prod.mk.inj c
                  exact absurd (hlv.symm.trans hblv) (by decide))]
                exact r5.2.2.2.2.2 b' k' hb' hlv
            have notnew : ∀ w2, d_new d s (x % 8) = false → bh_wp (bh_tb T_M_solve) (132, [some (.inr (40, 1)), some (.inl (.int (nI t))), w2], [], M2, 0) Z := by
              intro w2 hnew
              have e8 : (d_step d s b k (x % 8)).2 = s.2 := by
                unfold d_step
                rw [hnew]
                rfl
              refine at132 M2 w2 hle ⟨rd2, by rw [e8]; exact tk2, by rw [e8]; exact ts2, i27, sm3 M2 i26 (by rw [e8]; exact ts2) rfl rfl, fun b' hb' j hj hj2 => ?_⟩ cd2 ps2 i62 (fr_L_trans f1 fl2) (fun c => absurd (hnew.symm.trans c) (by decide))
              rw [e8] at hb'
              rw [i2 64 (by decide) (by decide)]
              exact r6 b' hb' j (by omega) hj2
            have hone := rd2.one ho
            have htf := tk2.f ho
            refine ⟨fun q => notnew _ ?_, fun q => ⟨fun q2 => notnew _ ?_, fun q2 => ?_⟩⟩
            · rw [hone] at q
              unfold d_new
              rw [decide_eq_false q, Bool.false_and]
            · rw [htf, Bool.not_eq_false] at q2
              unfold d_new
              rw [q2, Bool.not_true, Bool.and_false]
            · have q := hone.mp (Decidable.of_not_not q)
              have q2 := htf.mp (Decidable.of_not_not q2)
              have hnew : d_new d s (x % 8) = true := by
                unfold d_new
                rw [decide_eq_true q, q2]
                rfl
              have e8 : (d_step d s b k (x % 8)).2 = (d_tk s.2.1 (x % 8) true, s.2.2 ++ d_tasks d (x % 8)) := by
                unfold d_step
                rw [hnew]
                rfl
              have hsl2 : s.2.2.length + (d_tasks d (x % 8)).length ≤ 24 := by
                rw [e8] at hsl
                have hsl : (s.2.2 ++ d_tasks d (x % 8)).length ≤ 24 := hsl
                rw [List.length_append] at hsl
                exact hsl
              refine cm_M_takeIn (nI t) ho rd2 tk2 ts2 hsl2 hs2 (fun M3 y1 y2 y3 y4 => ?_)
              have ts3 : tsM M3 (d_step d s b k (x % 8)).2.2 := by rw [e8]; exact y2
              refine at132 M3 _ hle ⟨rd2.mv y4.m, by rw [e8]; exact y1, ts3, by rw [y4.2.1 27 (by decide)]; exact i27, sm3 M3 (by rw [y4.2.1 26 (by decide)]; exact i26) ts3 (y4.1 61 (by decide) (by decide) (by decide) (by decide)) (y4.1 59 (by decide) (by decide) (by decide) (by decide)), fun b' hb' j hj hj2 => ?_⟩ ⟨by rw [y4.1 60 (by decide) (by decide) (by decide) (by decide)]; exact cd2.1, fun jj y hy => by rw [y4.1 59 (by decide) (by decide) (by decide) (by decide)]; exact cd2.2 jj y hy⟩ (by rw [y4.1 61 (by decide) (by decide) (by decide) (by decide)]; exact ps2) (by rw [y4.1 62 (by decide) (by decide) (by decide) (by decide)]; exact i62) (fr_L_trans (fr_L_trans f1 fl2) ⟨y4.m, fun c _ => by rw [y4.1 59 (by decide) (by decide) (by decide) (by decide)], fun c _ => ⟨by rw [y4.1 60 (by decide) (by decide) (by decide) (by decide)], by rw [y4.1 61 (by decide) (by decide) (by decide) (by decide)], by rw [y4.1 62 (by decide) (by decide) (by decide) (by decide)]⟩, fun b' hb' => ?_⟩) (fun _ => ?_)
              · rw [e8] at hb'
                rw [y3]
                have hb' : d_tk s.2.1 (x % 8) true b' = true := hb'
                by_cases c : b' = x % 8
                · rw [if_pos c, bn_inj (by omega) (by omega)]
                  omega
                · rw [if_neg c]
                  unfold d_tk at hb'
                  rw [if_neg c] at hb'
                  rw [i2 64 (by decide) (by decide)]
                  exact r6 b' hb' j (by omega) hj2
              · rw [y3, if_neg]
                intro c
                subst c
                exact absurd (hb'.symm.trans q2) (by decide)
              · rw [y3, if_pos rfl]
          · unfold d_try at hp
            rw [if_pos (by omega)] at hp
            refine hp.1 (show 300 < n1 + 1 by omega) _ rfl (fr_m_trans f1.1 ⟨fun a w1 _ _ _ _ _ _ _ => ?_, fun c _ _ w3 => ?_, rfl⟩)
            · funext y c
              show (if a = 40 ∧ y = 1 ∧ c = 27 then _ else bh_I M1 a y c) = _
              rw [if_neg (fun q => w1 q.1)]
            · show (if 40 = 40 ∧ 1 = 1 ∧ c = 27 then _ else bh_I M1 40 1 c) = _
              rw [if_neg (fun q => w3 q.2.2)]
      exact key (d_cand d s.2.1 false b k) [] M n w2 rfl hst hcd0 hpos0 (fr_L_refl M s t) hn h
