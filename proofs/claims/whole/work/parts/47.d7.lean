/-- what holds at the end of the search from task t on -/
def sPost (d : sd) (s : ss) (M : bh_M) (Z : bh_F → Prop) (r : Option ss × Nat) : Prop := match r.1 with
  | some s' => ∀ M', stC M' d s' r.2 → fr_W M M' → Z (.inl (some (.inl (.int 1))), M')
  | none => ∀ M', stC M' d s r.2 → fr_W M M' → Z (.inl (some (.inl (.int 0))), M')
theorem stC_n {M : bh_M} {d : sd} {s : ss} {n : Nat} (h : stC M d s n) (n' : Nat) : stC (bh_sI M 15 1 4 (nI n')) d s n' := by
  obtain ⟨h1, h2, h3, -, h5⟩ := h
  exact ⟨h1, h2, h3, rfl, h5⟩
theorem fr_W_n (M : bh_M) (n' : Nat) : fr_W M (bh_sI M 15 1 4 (nI n')) := ⟨fun a _ h2 _ _ _ => by
  funext x c
  show (if a = 15 ∧ x = 1 ∧ c = 4 then _ else bh_I M a x c) = _
  rw [if_neg (fun q => h2 q.1)], rfl⟩
theorem fr_W_6 (M : bh_M) (x k : Nat) (v : Int32) : fr_W M (bh_sI M 6 x k v) := ⟨fun a h1 _ _ _ _ => by
  funext y c
  show (if a = 6 ∧ y = x ∧ c = k then _ else bh_I M a y c) = _
  rw [if_neg (fun q => h1 q.1)], rfl⟩
theorem rdC_set {M : bh_M} {d : sd} {w : sw} (h : rdC M d w) (b k : Nat) (v : Option (Nat × Nat)) (hv : ∀ o l, v = some (o, l) → o < 8 ∧ l ≤ 1000) : rdC (bh_sI M 6 (b + 1) k (w_enc v)) d (d_set w b k v) := by
  refine h.mv (fr_W_6 _ _ _ _) (fun b' hb' k' hk' => ?_)
  show (if 6 = 6 ∧ b' + 1 = b + 1 ∧ k' = k then w_enc v else bh_I M 6 (b' + 1) k') = w_enc (if b' = b ∧ k' = k then v else w b' k') ∧ ∀ o l, (if b' = b ∧ k' = k then v else w b' k') = some (o, l) → o < 8 ∧ l ≤ 1000
  by_cases c : b' = b ∧ k' = k
  · rw [if_pos ⟨rfl, by omega, c.2⟩, if_pos c]
    exact ⟨rfl, hv⟩
  · rw [if_neg (by omega), if_neg c]
    exact h.w b' hb' k' hk'
theorem d_set_back {w : sw} {b k : Nat} {v : Option (Nat × Nat)} (h : w b k = none) : d_set (d_set w b k v) b k none = w := by
  funext x y
  unfold d_set
  by_cases c : x = b ∧ y = k
  · rw [if_pos c, c.1, c.2, h]
  · rw [if_neg c, if_neg c]
/-- what was chosen is undone -/
theorem stC_undo0 {M : bh_M} {d : sd} {s : ss} {b k e n : Nat} (h : stC M d (d_step d s b k e) n) (hw : s.1 b k = none) (hn : d_new d s e = false) : stC (bh_sI M 6 (b + 1) k (-1)) d s n := by
  unfold d_step at h
  rw [hn, if_neg Bool.false_ne_true] at h
  obtain ⟨h1, h2, h3, h4, h5⟩ := h
  refine ⟨?_, h2, h3, h4, h5⟩
  have := rdC_set h1 b k none (fun o l q => by cases q)
  rw [d_set_back hw] at this
  exact this
theorem stC_undo1 {M : bh_M} {d : sd} {s : ss} {b k e n : Nat} (h : stC M d (d_step d s b k e) n) (he : e < 8) (hw : s.1 b k = none) (hn : d_new d s e = true) : stC (bh_sI (bh_sI (bh_sI (bh_sI M 6 (b + 1) k (-1)) 18 1 e 0) 15 1 5 ((bh_I M 15 1 5) - 1)) 15 1 3 (nI s.2.2.length)) d s n := by
  have hTe : s.2.1 e = false := by
    unfold d_new at hn
    rw [Bool.and_eq_true] at hn
    cases c : s.2.1 e with
    | false => rfl
    | true =>
      rw [c] at hn
      exact absurd hn.2 (by decide)
  unfold d_step at h
  rw [hn, if_pos rfl] at h
  obtain ⟨h1, h2, ⟨h3, h3a, h3b⟩, h4, h5⟩ := h
  refine ⟨?_, fun x hx => ?_, ⟨rfl, ?_, fun i q hq => ?_⟩, h4, ?_⟩
  · have := rdC_set h1 b k none (fun o l q => by cases q)
    rw [d_set_back hw] at this
    exact this
  · have g := h2 x hx
    show (if 18 = 18 ∧ 1 = 1 ∧ x = e then 0 else bh_I M 18 1 x) = _
    by_cases c : x = e
    · rw [if_pos ⟨rfl, rfl, c⟩, c, hTe]
      rfl
    · rw [if_neg (fun q => c q.2.2), g]
      show (if (if x = e then true else s.2.1 x) = true then _ else _) = _
      rw [if_neg c]
  · rw [List.length_append] at h3a
    omega
  · have l1 := (List.getElem?_eq_some_iff.mp hq).1
    exact h3b i q (by rw [List.getElem?_append_left l1]; exact hq)
  · show bh_I M 15 1 5 - 1 = _
    rw [h5]
    show bh_cnt (d_tk s.2.1 e true) 8 - 1 = _
    rw [bh_cnt_tk hTe 8, if_pos he]
    exact Int32.add_sub_cancel _ _
theorem cd_solve {d : sd} : ∀ (f N : Nat) (M : bh_M) (Z : bh_F → Prop) (s : ss) (t n : Nat), f ≤ N → 25 ≤ t + f → t ≤ s.2.2.length → stC M d s n → sI d s t → n ≤ 300 → bh_stat M.2.2.2 → sPost d s M Z (d_dfs d f s t n) → F_R_solveFrom N [.inr (15, 1), .inr (4, 1), .inl (.int (nI t))] M Z := by
  intro f
  induction f with
  | zero =>
    intro N M Z s t n hN hf ht hst hsI hn hs h
    have := sI_len hsI (fun b hb => (hst.1 b hb).2.2.1.2)
    omega
  | succ f ihf =>
    intro N M Z s t n hN hf ht hst hsI hn hs h
    obtain ⟨N', rfl⟩ : ∃ N', N = N' + 1 := ⟨N - 1, by omega⟩
    have hF := mF_R_solveFrom N'
    have hlen := sI_len hsI (fun b hb => (hst.1 b hb).2.2.1.2)
    show bh_fn 10 (bh_tb (T_R_solveFrom (F_R_solveFrom N'))) _ M Z
    unfold d_dfs at h
    cases e : s.2.2[t]? with
    | none =>
      rw [e] at h
      have hl : s.2.2.length ≤ t := List.getElem?_eq_none_iff.mp e
      exact bx_R_solveFrom_0 hF t hst.2.2.1.1 (by omega) (by omega) hl hs (h M hst (fr_W_refl M))
    | some q =>
      obtain ⟨b, k⟩ := q
      rw [e] at h
      have hl := (List.getElem?_eq_some_iff.mp e).1
      obtain ⟨hb, hTb, hk⟩ := hsI.2.2.1 _ (List.mem_of_getElem? e)
      have hb : b < 8 := hb
      have hk : k < d_ni d b := hk
      have hwn : s.1 b k = none := hsI.2.2.2.2.1 t (b, k) (Nat.le_refl _) e
      have hk3 : k < 3 := by have := (hst.1 b hb).2.2.1.2; omega
      obtain ⟨e16, e17⟩ := hst.2.2.1.2.2 t (b, k) e
      refine be_R_solveFrom_0 hF t hst.2.2.1.1 (by omega) (by omega) hl hb e16 e17 hs ?_
      have hT1 : ∀ o, s.2.1 o = true → d_st d o = 1 := fun o ho => (hsI.1 o ho).2
      have hcs := d_cand_sorted d s.2.1 false b k
      have hc8 := d_cand_8 d s.2.1 false b k
      have key : ∀ (xs : List Nat) (i : Nat) (a6 : Int32) (lb : Nat) (M1 : bh_M) (n1 : Nat) (w8 w9 : Option bh_V), i + xs.length ≤ 8 → d_suf (d_cand d s.2.1 false b k) lb xs → (∀ x, x ≤ 160 → (nI x ≤ a6 ↔ x < lb)) → stC M1 d s n1 → fr_W M M1 → n1 ≤ 300 → sPost d s M Z (d_try d (fun s' n' => d_dfs d f s' (t + 1) n') s b k xs n1) → bh_wp (bh_tb (T_R_solveFrom (F_R_solveFrom N'))) (39, [some (.inr (15, 1)), some (.inr (4, 1)), some (.inl (.int (nI t))), some (.inr (5, b + 1)), some (.inl (.int (nI k))), some (.inl (.int (nI s.2.2.length))), some (.inl (.int a6)), some (.inl (.int (nI i))), w8, w9], [], M1, 0) Z := by
        intro xs
        induction xs with
        | nil =>
          intro i a6 lb M1 n1 w8 w9 hi hsuf hlb h1 f1 hn1 hp
          have hs1 := f1.stat hs
          have hp : ∀ M', stC M' d s n1 → fr_W M M' → Z (.inl (some (.inl (.int 0))), M') := hp
          have hi : i ≤ 8 := hi
          by_cases ei : i = 8
          · subst ei
            exact bx_R_solveFrom_39 hF t k _ a6 w8 w9 hb hs1 (hp M1 h1 f1)
          · refine bl_R_solveFrom_39 hF t k _ a6 i w8 w9 hb (by omega) h1.2.2.2.1 (by omega) hs1 ?_
            refine cd_R_candidateAfter a6 lb false hlb hb hk h1.1 h1.2.1 (fun _ => hT1) hs1 ?_
            rw [d_mn_find, d_suf_find hsuf]
            refine bk_R_solveFrom_70 hF t k _ (some (.inl (.int a6))) i w8 w9 160 hb h1.2.2.2.1 (by omega) (by decide) hk3 (h1.1 0 (by decide)).1.1 hs1 ⟨fun q => absurd rfl q, fun _ => hp M1 h1 f1⟩
        | cons x xs ih =>
          intro i a6 lb M1 n1 w8 w9 hi hsuf hlb h1 f1 hn1 hp
          have hs1 := f1.stat hs
          have hi : i + (xs.length + 1) ≤ 8 := hi
          have hx : x ∈ d_cand d s.2.1 false b k := by
            obtain ⟨as, e1, -⟩ := hsuf
            rw [e1]
            exact List.mem_append_right _ List.mem_cons_self
          obtain ⟨x1, x2, x3⟩ := d_cand_mem.mp hx
          have he : x % 8 < 8 := Nat.mod_lt _ (by decide)
          have hver : (d_ver d (x % 8) (d_ip d b k)).isSome = true := by
            unfold d_key at x2
            split at x2
            · cases x2
            · split at x2
              · cases x2
              · rename_i v e9
                rw [e9]
                rfl
          have hstep := sI_step hsI e he hver
          refine bl_R_solveFrom_39 hF t k _ a6 i w8 w9 hb (by omega) h1.2.2.2.1 (by omega) hs1 ?_
          refine cd_R_candidateAfter a6 lb false hlb hb hk h1.1 h1.2.1 (fun _ => hT1) hs1 ?_
          rw [d_mn_find, d_suf_find hsuf]
          show bh_wp (bh_tb (T_R_solveFrom (F_R_solveFrom N'))) (70, [some (.inr (15, 1)), some (.inr (4, 1)), some (.inl (.int (nI t))), some (.inr (5, b + 1)), some (.inl (.int (nI k))), some (.inl (.int (nI s.2.2.length))), some (.inl (.int a6)), some (.inl (.int (nI i))), w8, w9], [.inl (.int (nI x))], M1, 0) Z
          -- behind an undone choice
          have at186 : ∀ (M4 : bh_M) (n4 : Nat), stC M4 d (d_step d s b k (x % 8)) n4 → fr_W M M4 → n4 ≤ 301 → (300 < n4 → sPost d s M Z (none, n4)) → (¬ 300 < n4 → sPost d s M Z (d_try d (fun s' n' => d_dfs d f s' (t + 1) n') s b k xs n4)) → bh_wp (bh_tb (T_R_solveFrom (F_R_solveFrom N'))) (186, [some (.inr (15, 1)), some (.inr (4, 1)), some (.inl (.int (nI t))), some (.inr (5, b + 1)), some (.inl (.int (nI k))), some (.inl (.int (nI s.2.2.length))), some (.inl (.int (nI x))), some (.inl (.int (nI i))), some (.inr (5, x % 8 + 1)), some (.inl (.int (if d_new d s (x % 8) then 1 else 0)))], [], M4, 0) Z := by
            intro M4 n4 g1 g2 g3 g4 g5
            have hs4 := g2.stat hs
            have again : ∀ (M5 : bh_M) (w9 : Option bh_V), stC M5 d s n4 → fr_W M M5 → bh_wp (bh_tb (T_R_solveFrom (F_R_solveFrom N'))) (39, [some (.inr (15, 1)), some (.inr (4, 1)), some (.inl (.int (nI t))), some (.inr (5, b + 1)), some (.inl (.int (nI k))), some (.inl (.int (nI s.2.2.length))), some (.inl (.int (nI x))), some (.inl (.int (nI (i + 1)))), some (.inr (5, x % 8 + 1)), w9], [], M5, 0) Z := by
              intro M5 w9 y1 y2
              have hs5 := y2.stat hs
              by_cases c : 300 < n4
              · have hz : Z (.inl (some (.inl (.int 0))), M5) := g4 c M5 y1 y2
                by_cases ei : i + 1 = 8
                · rw [ei]
                  exact bx_R_solveFrom_39 hF t k _ _ _ w9 hb hs5 hz
                · exact by_R_solveFrom_39 hF t k _ _ (i + 1) _ w9 hb (by omega) y1.2.2.2.1 (by omega) c hs5 hz
              · exact ih (i + 1) (nI x) (x + 1) M5 n4 _ w9 (by omega) (d_suf_s hcs hsuf) (fun y hy => by rw [bn_le (by omega) (by omega)]; omega) y1 y2 (by omega) (g5 c)
            have e0 := (g1.1 (x % 8) he).1.1
            cases hnew : d_new d s (x % 8) with
            | false =>
              refine bk0_R_solveFrom_186 hF t k _ x i hb he hk3 e0 hs4 ?_
              exact again _ _ (stC_undo0 g1 hwn hnew) (fr_W_trans g2 (fr_W_6 _ _ _ _))
            | true =>
              refine bk1_R_solveFrom_186 hF t k _ x i hb he hk3 e0 hs4 ?_
              rw [e0, bn_clamp he rfl]
              refine ⟨bn_in he rfl, again _ _ (stC_undo1 g1 he hwn hnew) (fr_W_trans g2 ⟨fun a w1 w2 w3 w4 w5 => ?_, rfl⟩)⟩
              funext y c
              show (if a = 15 ∧ y = 1 ∧ c = 3 then _ else if a = 15 ∧ y = 1 ∧ c = 5 then _ else if a = 18 ∧ y = 1 ∧ c = x % 8 then _ else if a = 6 ∧ y = b + 1 ∧ c = k then _ else bh_I M4 a y c) = _
              rw [if_neg (fun q => w2 q.1), if_neg (fun q => w2 q.1), if_neg (fun q => w5 q.1), if_neg (fun q => w1 q.1)]
          -- the choice has been made
          have at165 : ∀ (M3 : bh_M), n1 + 1 ≤ 300 → stC M3 d (d_step d s b k (x % 8)) (n1 + 1) → fr_W M M3 → bh_wp (bh_tb (T_R_solveFrom (F_R_solveFrom N'))) (165, [some (.inr (15, 1)), some (.inr (4, 1)), some (.inl (.int (nI t))), some (.inr (5, b + 1)), some (.inl (.int (nI k))), some (.inl (.int (nI s.2.2.length))), some (.inl (.int (nI x))), some (.inl (.int (nI i))), some (.inr (5, x % 8 + 1)), some (.inl (.int (if d_new d s (x % 8) then 1 else 0)))], [], M3, 0) Z := by
            intro M3 hle g1 g2
            have hs3 := g2.stat hs
            unfold d_try at hp
            rw [if_neg (by omega)] at hp
            refine bk_R_solveFrom_165 hF t k _ x i _ hb he hk3 hs3 ?_
            refine cd_R_hasClash g1.1 g1.2.1 (fun b' k' o l => hstep.2.1 b' k' o l) hs3 (fun q => ?_) (fun q => ?_)
            · rw [if_pos q] at hp
              exact bk_R_solveFrom_170 hF t k _ x i _ 1 hb he hk3 hs3 ⟨fun _ => at186 M3 (n1 + 1) g1 g2 (by omega) (fun c => absurd c (by omega)) (fun _ => hp), fun q9 => absurd (by decide) q9⟩
            · rw [if_neg (by rw [q]; exact Bool.false_ne_true)] at hp
              refine bk_R_solveFrom_170 hF t k _ x i _ 0 hb he hk3 hs3 ⟨fun q9 => absurd rfl q9, fun _ => ?_⟩
              have hle2 := d_dfs_le d f (d_step d s b k (x % 8)) (t + 1) (n1 + 1) hle
              have hl2 : t + 1 ≤ (d_step d s b k (x % 8)).2.2.length := by
                unfold d_step
                split
                · show t + 1 ≤ (s.2.2 ++ d_tasks d (x % 8)).length
                  rw [List.length_append]
                  omega
                · exact hl
              refine ihf N' M3 _ (d_step d s b k (x % 8)) (t + 1) (n1 + 1) (by omega) (by omega) hl2 g1 hstep hle hs3 ?_
              cases hr : d_dfs d f (d_step d s b k (x % 8)) (t + 1) (n1 + 1) with
              | mk r n' =>
                rw [hr] at hle2
                simp only [hr] at hp
                cases r with
                | some s' =>
                  intro M' y1 y2
                  exact bk_R_solveFrom_181 hF t k _ x i _ 1 hb he hk3 (y2.stat hs3) ⟨fun q9 => absurd q9 (by decide), fun _ => hp M' y1 (fr_W_trans g2 y2)⟩
                | none =>
                  have hp : sPost d s M Z (if 300 < n' then (none, n') else d_try d (fun s' n' => d_dfs d f s' (t + 1) n') s b k xs n') := hp
                  intro M' y1 y2
                  refine bk_R_solveFrom_181 hF t k _ x i _ 0 hb he hk3 (y2.stat hs3) ⟨fun _ => at186 M' n' y1 (fr_W_trans g2 y2) hle2 (fun c => ?_) (fun c => ?_), fun q9 => absurd rfl q9⟩
                  · rw [if_pos c] at hp
                    exact hp
                  · rw [if_neg c] at hp
                    exact hp
          have h1d := h1.1
          obtain ⟨⟨e0, -, -, -, eport, hlf⟩, -⟩ := h1d (x % 8) he
          have hone := h1d.one he
          have htf := h1.2.1.f he
          refine bk_R_solveFrom_70 hF t k _ _ i w8 w9 x hb h1.2.2.2.1 (by omega) (by omega) hk3 e0 hs1 ⟨fun _ => ⟨fun hle => ?_, fun hle => ?_⟩, fun q => absurd (show ¬ x = 160 by omega) q⟩
          · have hset : stC (bh_sI (bh_sI M1 15 1 4 (nI (n1 + 1))) 6 (b + 1) k (bh_I M1 5 (x % 8 + 1) 9)) d (d_set s.1 b k (some (x % 8, d_lf d (x % 8))), s.2.1, s.2.2) (n1 + 1) := by
              obtain ⟨g1, g2, g3, g4, g5⟩ := stC_n h1 (n1 + 1)
              refine ⟨?_, g2, g3, g4, g5⟩
              rw [eport]
              exact rdC_set g1 b k (some (x % 8, d_lf d (x % 8))) (fun o l q => by cases q; exact ⟨he, hlf⟩)
            have hfr : fr_W M (bh_sI (bh_sI M1 15 1 4 (nI (n1 + 1))) 6 (b + 1) k (bh_I M1 5 (x % 8 + 1) 9)) := fr_W_trans (fr_W_trans f1 (fr_W_n _ _)) (fr_W_6 _ _ _ _)
            have notnew : d_new d s (x % 8) = false → bh_wp (bh_tb (T_R_solveFrom (F_R_solveFrom N'))) (165, [some (.inr (15, 1)), some (.inr (4, 1)), some (.inl (.int (nI t))), some (.inr (5, b + 1)), some (.inl (.int (nI k))), some (.inl (.int (nI s.2.2.length))), some (.inl (.int (nI x))), some (.inl (.int (nI i))), some (.inr (5, x % 8 + 1)), some (.inl (.int 0))], [], bh_sI (bh_sI M1 15 1 4 (nI (n1 + 1))) 6 (b + 1) k (bh_I M1 5 (x % 8 + 1) 9), 0) Z := by
              intro hnew
              have := at165 _ hle (by unfold d_step; rw [hnew, if_neg Bool.false_ne_true]; exact hset) hfr
              rw [hnew] at this
              exact this
            refine ⟨fun q => notnew ?_, fun q => ⟨fun q2 => notnew ?_, fun q2 => ?_⟩⟩
            · rw [hone] at q
              unfold d_new
              rw [decide_eq_false q, Bool.false_and]
            · rw [htf, Bool.not_eq_false] at q2
              unfold d_new
              rw [q2, Bool.not_true, Bool.and_false]
            · have q := hone.mp (Decidable.of_not_not q)
              have q2 := htf.mp (Decidable.of_not_not q2)
              have hnew : d_new d s (x % 8) = true := by
                unfold d_new
                rw [decide_eq_true q, q2]
                rfl
              have hstl := sI_len hstep (fun b hb => (hst.1 b hb).2.2.1.2)
              have hstl2 : (d_step d s b k (x % 8)).2.2 = s.2.2 ++ d_tasks d (x % 8) := by
                unfold d_step
                rw [hnew]
                rfl
              rw [hstl2, List.length_append] at hstl
              obtain ⟨g1, g2, g3, g4, g5⟩ := hset
              refine cd_R_takeIn (M := bh_sI (bh_sI M1 15 1 4 (nI (n1 + 1))) 6 (b + 1) k (bh_I M1 5 (x % 8 + 1) 9)) he g1 g2 g3 hstl (hfr.stat hs) (fun M3 y1 y2 y3 y4 y5 => ?_)
              have := at165 M3 hle (by
                unfold d_step
                rw [hnew, if_pos rfl]
                refine ⟨g1.mv y5.w (fun b' hb' k' hk' => ?_), y1, y2, ?_, ?_⟩
                · rw [y5.1 6 (by decide) (by decide) (by decide) (by decide)]
                  exact g1.w b' hb' k' hk'
                · rw [y4]; exact g4
                · rw [y3, g5]
                  show _ = bh_cnt (d_tk s.2.1 (x % 8) true) 8
                  rw [bh_cnt_tk q2 8, if_pos he]) (fr_W_trans hfr y5.w)
              rw [hnew] at this
              exact this
          · unfold d_try at hp
            rw [if_pos (by omega)] at hp
            exact hp _ (stC_n h1 (n1 + 1)) (fr_W_trans f1 (fr_W_n _ _))
      exact key (d_cand d s.2.1 false b k) 0 (-1) 0 M n none none (by omega) (d_suf_0 _) (fun x hx => by
        rw [Int32.le_iff_toInt_le, bn_toInt (by omega), show (-1 : Int32).toInt = -1 from rfl]
        omega) hst (fr_W_refl M) hn h
