/-! THE REFERENCE: wiring what was found -/
def d_sst (d : sd) (i v : Nat) : sd := (fun b => if b = i then v else d.1 b, d.2)
theorem rdM.sst {M : bh_M} {d : sd} {w : sw} {e : sx} {τ : Nat → Nat → Nat} (h : rdM M d w e τ) {i v : Nat} (hv : v ≤ 3) (hv0 : ¬ v = 0) (h0 : ¬ d_st d i = 0) : rdM (bh_sI M 41 1 i (nI v)) (d_sst d i v) w e τ := by
  refine ⟨h.1, h.2.1, fun b hb => ?_⟩
  obtain ⟨⟨a1, a2, a3, a4⟩, ⟨c1, c2, c3, c4, c5, c6⟩, a6, a7⟩ := h.2.2 b hb
  by_cases c : b = i
  · subst c
    have e1 : d_st (d_sst d b v) b = v := if_pos rfl
    refine ⟨⟨?_, ?_, fun _ => a3 h0, fun _ => a4 h0⟩, ⟨c1, c2, c3, c4, c5, fun q => absurd q ?_⟩, a6, a7⟩
    · rw [e1]
      exact if_pos ⟨rfl, rfl, rfl⟩
    · rw [e1]
      exact hv
    · rw [e1]
      exact hv0
  · have e1 : d_st (d_sst d i v) b = d_st d b := if_neg c
    refine ⟨⟨?_, ?_, ?_, ?_⟩, ⟨c1, c2, c3, c4, c5, ?_⟩, a6, a7⟩
    · rw [e1, ← a1]
      exact if_neg (fun q => c q.2.2)
    · rw [e1]
      exact a2
    · rw [e1]
      exact a3
    · rw [e1]
      exact a4
    · rw [e1]
      exact c6
theorem rdM.setw {M : bh_M} {d : sd} {w : sw} {e : sx} {τ : Nat → Nat → Nat} (h : rdM M d w e τ) {b k : Nat} (hk : k < d_ni d b) (hb : b < 8) (v : Option (Nat × Nat)) (hv : ∀ o l, v = some (o, l) → o < 8 ∧ l ≤ d_lf d o) : rdM (bh_sJ M 57 1 (3 * b + k) (p_enc τ (d_ip d b k) v)) d (d_set w b k v) e τ := by
  have hk3 := (h.2.2 b hb).2.2.1.2.1
  refine ⟨h.1, h.2.1, fun y hy => ?_⟩
  obtain ⟨a1, a2, a3, a4⟩ := h.2.2 y hy
  refine ⟨a1, a2, a3, fun z hz => ?_⟩
  unfold d_set
  by_cases c : y = b ∧ z = k
  · obtain ⟨rfl, rfl⟩ := c
    rw [if_pos ⟨rfl, rfl⟩]
    exact ⟨if_pos ⟨rfl, rfl, rfl⟩, fun o l q => ⟨(hv o l q).1, (hv o l q).2, hk⟩⟩
  · rw [if_neg c]
    refine ⟨?_, (a4 z hz).2⟩
    rw [← (a4 z hz).1]
    exact if_neg (fun q => c (by have := q.2.2; omega))
theorem rdM.cw {M : bh_M} {d : sd} {w w' : sw} {e : sx} {τ : Nat → Nat → Nat} (h : rdM M d w e τ) (hw : ∀ b k, b < 8 → w' b k = w b k) : rdM M d w' e τ := by
  refine ⟨h.1, h.2.1, fun y hy => ?_⟩
  obtain ⟨a1, a2, a3, a4⟩ := h.2.2 y hy
  refine ⟨a1, a2, a3, fun z hz => ?_⟩
  rw [hw y z hy]
  exact a4 z hz
theorem d_resN_t {d : sd} {T : Nat → Bool} {i : Nat} (h : T i = true) : d_resN d T (i + 1) = d_sst (d_resN d T i) i 2 := by
  unfold d_resN d_sst
  refine Prod.ext (funext fun b => ?_) rfl
  show (if (decide (b < i + 1) && T b) = true then 2 else d.1 b) = if b = i then 2 else if (decide (b < i) && T b) = true then 2 else d.1 b
  by_cases c : b = i
  · rw [if_pos c, c, h, Bool.and_true, if_pos (decide_eq_true (Nat.lt_succ_self i))]
  · rw [if_neg c]
    by_cases c2 : b < i
    · rw [decide_eq_true c2, decide_eq_true (show b < i + 1 by omega)]
    · rw [decide_eq_false c2, decide_eq_false (show ¬ b < i + 1 by omega)]
def fr_V (M M' : bh_M) : Prop := (∀ a, a ≠ 41 → a ≠ 58 → a ≠ 59 → a ≠ 60 → a ≠ 61 → bh_I M' a = bh_I M a) ∧ (∀ a, a ≠ 57 → bh_J M' a = bh_J M a) ∧ M'.2.2 = M.2.2
theorem fr_V_refl (M : bh_M) : fr_V M M := ⟨fun _ _ _ _ _ _ => rfl, fun _ _ => rfl, rfl⟩
theorem fr_V_trans {M M' M'' : bh_M} (h : fr_V M M') (g : fr_V M' M'') : fr_V M M'' := ⟨fun a h1 h2 h3 h4 h5 => (g.1 a h1 h2 h3 h4 h5).trans (h.1 a h1 h2 h3 h4 h5), fun a h1 => (g.2.1 a h1).trans (h.2.1 a h1), g.2.2.trans h.2.2⟩
theorem fr_V.stat {M M' : bh_M} (h : fr_V M M') (hs : bh_stat M.2.2.2) : bh_stat M'.2.2.2 := by rw [h.2.2]; exact hs
theorem fr_V_J (M : bh_M) (c : Nat) (v : Int64) : fr_V M (bh_sJ M 57 1 c v) := ⟨fun _ _ _ _ _ _ => rfl, fun a h1 => by
  funext x y
  exact if_neg (fun q => h1 q.1), rfl⟩
theorem fr_V_41 (M : bh_M) (c : Nat) (v : Int32) : fr_V M (bh_sI M 41 1 c v) := ⟨fun a h1 _ _ _ _ => by
  funext x y
  exact if_neg (fun q => h1 q.1), fun _ _ => rfl, rfl⟩
theorem fr_V_58 (M : bh_M) (c : Nat) (v : Int32) : fr_V M (bh_sI M 58 1 c v) := ⟨fun a _ h1 _ _ _ => by
  funext x y
  exact if_neg (fun q => h1 q.1), fun _ _ => rfl, rfl⟩
theorem fr_F.V {M M' : bh_M} {t : Nat} (h : fr_F M M' t) : fr_V M M' := ⟨fun a _ _ h3 h4 h5 => h.1 a h3 h4 h5, fun a _ => by rw [show bh_J M' = bh_J M from congrArg (fun q => q.1) h.2.2.2.2], by rw [h.2.2.2.2]⟩
theorem fr_V.tk {M M' : bh_M} {T : Nat → Bool} (h : fr_V M M') (g : tkM M T) : tkM M' T := fun b hb => by rw [h.1 63 (by decide) (by decide) (by decide) (by decide) (by decide)]; exact g b hb
theorem d_opt_ind {d : sd} {T : Nat → Bool} {b k : Nat} {P : sw → Prop} : ∀ {xs : List Nat} {w : sw}, (∀ x ∈ xs, ∀ w, P w → P (d_set w b k (some (x % 8, d_lf d (x % 8))))) → P w → P (d_opt d T b k xs w)
  | [], w, _, hw => hw
  | x :: xs, w, h, hw => by
    unfold d_opt
    split
    · exact d_opt_ind (fun y hy => h y (List.mem_cons_of_mem _ hy)) hw
    · exact h x List.mem_cons_self w hw
theorem d_optK_ind {d : sd} {T : Nat → Bool} {b : Nat} {P : sw → Prop} (h : ∀ k, ∀ x ∈ d_cand d T true b k, ∀ w, P w → P (d_set w b k (some (x % 8, d_lf d (x % 8))))) : ∀ (n : Nat) {w : sw}, P w → P (d_optK d T b n w)
  | 0, w, hw => hw
  | k + 1, w, hw => by
    unfold d_optK
    split
    · exact d_opt_ind (h k) (d_optK_ind h k hw)
    · exact d_optK_ind h k hw
theorem d_optB_ind {d : sd} {T : Nat → Bool} {P : sw → Prop} (h : ∀ b k, T b = true → ∀ x ∈ d_cand d T true b k, ∀ w, P w → P (d_set w b k (some (x % 8, d_lf d (x % 8))))) : ∀ (n : Nat) {w : sw}, P w → P (d_optB d T n w)
  | 0, w, hw => hw
  | b + 1, w, hw => by
    unfold d_optB
    split
    · rename_i c
      exact d_optK_ind (fun k => h b k c) _ (d_optB_ind h b hw)
    · exact d_optB_ind h b hw
theorem d_wl_set {d : sd} {T : Nat → Bool} {w : sw} {b k x : Nat} (h : d_wl d T w ∧ d_wok d w) (hx : x ∈ d_cand d T true b k) : d_wl d T (d_set w b k (some (x % 8, d_lf d (x % 8)))) ∧ d_wok d (d_set w b k (some (x % 8, d_lf d (x % 8)))) := by
  obtain ⟨x1, x2, x3⟩ := d_cand_mem.mp hx
  have x3 : d_live d (x % 8) = true := x3
  have hv := d_cand_ver hx
  constructor
  · intro y z o l hy hT hw
    unfold d_set at hw
    by_cases c : y = b ∧ z = k
    · rw [if_pos c] at hw
      cases hw
      rw [c.1, c.2]
      exact ⟨Nat.mod_lt _ (by decide), rfl, x3, hv⟩
    · rw [if_neg c] at hw
      exact h.1 y z o l hy hT hw
  · intro y z o l hy hw
    unfold d_set at hw
    by_cases c : y = b ∧ z = k
    · rw [if_pos c] at hw
      cases hw
      exact ⟨Nat.mod_lt _ (by decide), Nat.le_refl _⟩
    · rw [if_neg c] at hw
      exact h.2 y z o l hy hw
theorem cm_M_wireAll {M : bh_M} {Z : bh_F → Prop} {d : sd} {w0 : sw} {e : sx} {τ : Nat → Nat → Nat} {s : ss} (hd : rdM M d w0 e τ) (htk : tkM M s.2.1) (hts : tsM M s.2.2) (hm : smM M d s w0 e s.2.2.length) (hT : ∀ o, s.2.1 o = true → o < 8 ∧ d_st d o = 1) (hq : ∀ q ∈ s.2.2, q.1 < 8 ∧ q.2 < d_ni d q.1) (hok : d_wok d s.1) (hw0 : ∀ b k, b < 8 → d_live d b = false → w0 b k = none) (hop : ∀ b k, b < 8 → s.2.1 b = true → d_op d b k = true → s.1 b k = none) (hl : d_wl (d_res d s.2.1) s.2.1 s.1) (hs : bh_stat M.2.2.2) (h : ∀ M', rdM M' (d_res d s.2.1) (d_optB (d_res d s.2.1) s.2.1 8 s.1) e τ → fr_V M M' → Z (.inl none, M')) : F_M_wireAll [.inr (40, 1)] M Z := by
  obtain ⟨t1, t2, t3⟩ := hts
  obtain ⟨m1, m2, m3, m4, m5, m6⟩ := hm
  refine be_M_wireAll hs ?_
  -- the optional imports
  have key3 : ∀ m b (M1 : bh_M) (w2 w3 w4 : Option bh_V), b + m = 8 → rdM M1 (d_res d s.2.1) (d_optB (d_res d s.2.1) s.2.1 b s.1) e τ → fr_V M M1 → bh_wp (bh_tb T_M_wireAll) (68, [some (.inr (40, 1)), some (.inl (.int (nI b))), w2, w3, w4], [], M1, 0) Z := by
    intro m
    induction m with
    | zero =>
      intro b M1 w2 w3 w4 e1 h1 f1
      have : b = 8 := by omega
      subst this
      exact bx_M_wireAll_68 w2 w3 w4 (f1.stat hs) (h M1 h1 f1)
    | succ m ih =>
      intro b M1 w2 w3 w4 e1 h1 f1
      have hb : b < 8 := by omega
      refine bl_M_wireAll_68 b w2 w3 w4 hb (f1.stat hs) ?_
      cases hTb : s.2.1 b with
      | false =>
        have eB : d_optB (d_res d s.2.1) s.2.1 (b + 1) s.1 = d_optB (d_res d s.2.1) s.2.1 b s.1 := by
          show (if s.2.1 b = true then _ else _) = _
          rw [hTb, if_neg Bool.false_ne_true]
        have hni := (h1.2.2 b hb).2.2.1
        by_cases c : d_ni d b = 0
        · have hni1 := hni.1
          rw [show d_ni (d_res d s.2.1) b = 0 from c] at hni1
          exact bx_M_wireAll_78 b w3 w4 hb hni1 (by omega) (f1.stat hs) (ih (b + 1) M1 _ _ _ (by omega) (by rw [eB]; exact h1) f1)
        · refine bl_M_wireAll_78 b w3 w4 0 hb hni.1 hni.2.1 (Nat.pos_of_ne_zero c) (f1.stat hs) ⟨fun _ => ih (b + 1) M1 _ _ _ (by omega) (by rw [eB]; exact h1) f1, fun q => absurd ?_ q⟩
          rw [(f1.tk htk).f hb]
          exact hTb
      | true =>
        have eB : d_optB (d_res d s.2.1) s.2.1 (b + 1) s.1 = d_optK (d_res d s.2.1) s.2.1 b (d_ni d b) (d_optB (d_res d s.2.1) s.2.1 b s.1) := by
          show (if s.2.1 b = true then _ else _) = _
          rw [hTb, if_pos rfl]
          rfl
        have key4 : ∀ m k (M2 : bh_M) (w3 w4 : Option bh_V), k + m = d_ni d b → rdM M2 (d_res d s.2.1) (d_optK (d_res d s.2.1) s.2.1 b k (d_optB (d_res d s.2.1) s.2.1 b s.1)) e τ → fr_V M M2 → bh_wp (bh_tb T_M_wireAll) (78, [some (.inr (40, 1)), some (.inl (.int (nI b))), some (.inl (.int (nI (3 * b + k)))), w3, w4], [], M2, 0) Z := by
          intro m
          induction m with
          | zero =>
            intro k M2 w3 w4 e2 h2 f2
            have : k = d_ni d b := by omega
            subst this
            have hni := (h2.2.2 b hb).2.2.1
            exact bx_M_wireAll_78 b w3 w4 hb hni.1 hni.2.1 (f2.stat hs) (ih (b + 1) M2 _ _ _ (by omega) (by rw [eB]; exact h2) f2)
          | succ m ih4 =>
            intro k M2 w3 w4 e2 h2 f2
            have hk : k < d_ni d b := by omega
            have hni := (h2.2.2 b hb).2.2.1
            have hni3 : d_ni d b ≤ 3 := hni.2.1
            have hop2 : bh_I M2 56 1 (3 * b + k) = (if d_op d b k then 1 else 0) := (hni.2.2.1 k hk).2.2.2.2.2.2
            refine bl_M_wireAll_78 b w3 w4 k hb hni.1 hni.2.1 hk (f2.stat hs) ⟨fun q => absurd (((f2.tk htk).f hb).mp q) (by rw [hTb]; decide), fun _ => ?_⟩
            rw [hop2]
            cases eop : d_op d b k with
            | false =>
              refine ⟨fun q => absurd rfl q, fun _ => ih4 (k + 1) M2 w3 w4 (by omega) ?_ f2⟩
              have : d_optK (d_res d s.2.1) s.2.1 b (k + 1) (d_optB (d_res d s.2.1) s.2.1 b s.1) = d_optK (d_res d s.2.1) s.2.1 b k (d_optB (d_res d s.2.1) s.2.1 b s.1) := by
                show (if d_op (d_res d s.2.1) b k = true then _ else _) = _
                rw [show d_op (d_res d s.2.1) b k = false from eop, if_neg Bool.false_ne_true]
              rw [this]
              exact h2
            | true =>
              refine ⟨fun _ => ?_, fun q => absurd (by decide) q⟩
              have eK : d_optK (d_res d s.2.1) s.2.1 b (k + 1) (d_optB (d_res d s.2.1) s.2.1 b s.1) = d_opt (d_res d s.2.1) s.2.1 b k (d_cand (d_res d s.2.1) s.2.1 true b k) (d_optK (d_res d s.2.1) s.2.1 b k (d_optB (d_res d s.2.1) s.2.1 b s.1)) := by
                show (if d_op (d_res d s.2.1) b k = true then _ else _) = _
                rw [show d_op (d_res d s.2.1) b k = true from eop, if_pos rfl]
              generalize hW : d_optK (d_res d s.2.1) s.2.1 b k (d_optB (d_res d s.2.1) s.2.1 b s.1) = W at h2 eK
              have hWn : W b k = none := by
                rw [← hW, d_optK_out k _ (fun q => absurd q.2 (Nat.lt_irrefl _)), d_optB_out b _ (Nat.lt_irrefl _)]
                exact hop b k hb hTb eop
              have hWl : d_wl (d_res d s.2.1) s.2.1 W ∧ d_wok (d_res d s.2.1) W := by
                rw [← hW]
                exact d_optK_ind (P := fun w => d_wl (d_res d s.2.1) s.2.1 w ∧ d_wok (d_res d s.2.1) w) (fun k x hx w hw => d_wl_set hw hx) k (d_optB_ind (P := fun w => d_wl (d_res d s.2.1) s.2.1 w ∧ d_wok (d_res d s.2.1) w) (fun b k _ x hx w hw => d_wl_set hw hx) b ⟨hl, hok⟩)
              have f3 : fr_V M (bh_sI M2 58 1 0 (nI (3 * b + k))) := fr_V_trans f2 (fr_V_58 _ _ _)
              have hd3 : rdM (bh_sI M2 58 1 0 (nI (3 * b + k))) (d_res d s.2.1) W e τ := h2.mv ⟨fun a _ w2 _ _ _ _ _ _ => by
                funext x y
                exact if_neg (fun q => w2 q.1), fun _ _ _ _ => rfl, rfl⟩
              refine cm_M_find1 (d := d_res d s.2.1) (b0 := b) (k0 := k) (t := 0) (by decide) hb hk (show (if 58 = 58 ∧ 1 = 1 ∧ 0 = 0 then nI (3 * b + k) else bh_I M2 58 1 0) = nI (3 * b + k) from if_pos ⟨rfl, rfl, rfl⟩) hd3 (f3.tk htk) trivial (f3.stat hs) (fun M3 hcd _ f4 => ?_)
              have hd4 := hd3.mv f4.m
              have f5 : fr_V M M3 := fr_V_trans f3 f4.V
              refine bk_M_wireAll_126 b (3 * b + k) _ _ (f5.stat hs) ?_
              have hc8 := d_cand_8 (d_res d s.2.1) s.2.1 true b k
              have key5 : ∀ (xs pre : List Nat) (M4 : bh_M), d_cand (d_res d s.2.1) s.2.1 true b k = pre ++ xs → rdM M4 (d_res d s.2.1) W e τ → cdM M4 (d_res d s.2.1) e b k 0 (d_cand (d_res d s.2.1) s.2.1 true b k) → fr_V M M4 → d_opt (d_res d s.2.1) s.2.1 b k (d_cand (d_res d s.2.1) s.2.1 true b k) W = d_opt (d_res d s.2.1) s.2.1 b k xs W → bh_wp (bh_tb T_M_wireAll) (131, [some (.inr (40, 1)), some (.inl (.int (nI b))), some (.inl (.int (nI (3 * b + k)))), some (.inl (.int 1)), some (.inl (.int (nI pre.length)))], [], M4, 0) Z := by
                intro xs
                induction xs with
                | nil =>
                  intro pre M4 ecs h4 hcd4 f6 eo
                  rw [List.append_nil] at ecs
                  rw [← ecs]
                  refine bx_M_wireAll_131 b (3 * b + k) _ hcd4.1 (by omega) (f6.stat hs) (ih4 (k + 1) M4 _ _ (by omega) ?_ f6)
                  rw [eK, eo]
                  exact h4
                | cons x xs ih5 =>
                  intro pre M4 ecs h4 hcd4 f6 eo
                  have hxget : (d_cand (d_res d s.2.1) s.2.1 true b k)[pre.length]? = some x := by
                    rw [ecs, List.getElem?_append_right (Nat.le_refl _), Nat.sub_self]
                    rfl
                  have hx : x ∈ d_cand (d_res d s.2.1) s.2.1 true b k := List.mem_of_getElem? hxget
                  have hlen : pre.length < (d_cand (d_res d s.2.1) s.2.1 true b k).length := (List.getElem?_eq_some_iff.mp hxget).1
                  obtain ⟨j', j1, j2, j3⟩ := hcd4.2 _ _ hxget
                  rw [Nat.mul_zero, Nat.zero_add] at j3
                  have ho : x % 8 < 8 := Nat.mod_lt _ (by decide)
                  refine bl_M_wireAll_131 b (3 * b + k) pre.length hcd4.1 (by omega) hlen (by omega) j3 (f6.stat hs) ?_
                  refine cm_M_port ho j1 h4 (f6.stat hs) ?_
                  refine bk_M_wireAll_162 b 0 1 pre.length _ (3 * b + k) (by omega) (f6.stat hs) ?_
                  rw [j2]
                  have f7 : fr_V M (bh_sJ M4 57 1 (3 * b + k) (p_enc τ (d_ip (d_res d s.2.1) b k) (some (x % 8, d_lf (d_res d s.2.1) (x % 8))))) := fr_V_trans f6 (fr_V_J _ _ _)
                  have h7 := h4.setw hk hb (some (x % 8, d_lf (d_res d s.2.1) (x % 8))) (fun o l q => by cases q; exact ⟨ho, Nat.le_refl _⟩)
                  have hW7 := d_wl_set hWl hx
                  have eo2 : d_opt (d_res d s.2.1) s.2.1 b k (x :: xs) W = if d_clash (d_res d s.2.1) (d_set W b k (some (x % 8, d_lf (d_res d s.2.1) (x % 8)))) s.2.1 then d_opt (d_res d s.2.1) s.2.1 b k xs W else d_set W b k (some (x % 8, d_lf (d_res d s.2.1) (x % 8))) := rfl
                  refine cm_M_allHold h7 (f7.tk htk) (fun o _ hTo => ?_) hW7.1 hW7.2 (f7.stat hs) (fun q => ?_) (fun q => ?_)
                  · unfold d_live
                    show decide (2 ≤ if s.2.1 o = true then 2 else d.1 o) = true
                    rw [hTo]
                    rfl
                  · refine bk_M_wireAll_167 b (3 * b + k) 1 pre.length 1 (by omega) (f7.stat hs) ⟨fun _ => ?_, fun q9 => absurd (by decide) q9⟩
                    have fin : ∀ w3 w4, bh_wp (bh_tb T_M_wireAll) (78, [some (.inr (40, 1)), some (.inl (.int (nI b))), some (.inl (.int (nI (3 * b + k + 1)))), w3, w4], [], bh_sJ M4 57 1 (3 * b + k) (p_enc τ (d_ip (d_res d s.2.1) b k) (some (x % 8, d_lf (d_res d s.2.1) (x % 8)))), 0) Z := fun w3 w4 => ih4 (k + 1) _ w3 w4 (by omega) (by
                      rw [eK, eo, eo2, q, if_neg Bool.false_ne_true]
                      exact h7) f7
                    exact bz_M_wireAll_131 b (3 * b + k) (pre.length + 1) (show bh_I M4 60 1 0 = _ from hcd4.1) (by omega) (by omega) (f7.stat hs) ⟨fun _ => fin _ _, fun _ => fin _ _⟩
                  · refine bk_M_wireAll_167 b (3 * b + k) 1 pre.length 0 (by omega) (f7.stat hs) ⟨fun q9 => absurd rfl q9, fun _ => ?_⟩
                    have h8 := h7.setw hk hb none (fun o l q => by cases q)
                    rw [d_set_back hWn] at h8
                    have := ih5 (pre ++ [x]) _ (by rw [ecs, List.append_assoc]; rfl) h8 hcd4 (fr_V_trans f7 (fr_V_J _ _ _)) (by rw [eo, eo2, q, if_pos rfl])
                    rw [List.length_append] at this
                    exact this
              exact key5 _ [] M3 rfl hd4 hcd f5 rfl
        exact key4 (d_ni d b) 0 M1 w3 w4 (by omega) h1 f1
  -- the states
  have key2 : ∀ m i (M1 : bh_M) (w2 w3 w4 : Option bh_V), i + m = 8 → rdM M1 (d_resN d s.2.1 i) s.1 e τ → fr_V M M1 → bh_wp (bh_tb T_M_wireAll) (38, [some (.inr (40, 1)), some (.inl (.int (nI i))), w2, w3, w4], [], M1, 0) Z := by
    intro m
    induction m with
    | zero =>
      intro i M1 w2 w3 w4 e1 h1 f1
      have : i = 8 := by omega
      subst this
      rw [d_resN_8 (fun b hb => (hT b hb).1)] at h1
      exact bx_M_wireAll_38 w2 w3 w4 (f1.stat hs) (key3 8 0 M1 _ _ _ (by omega) h1 f1)
    | succ m ih =>
      intro i M1 w2 w3 w4 e1 h1 f1
      have hi : i < 8 := by omega
      refine bl_M_wireAll_38 i w2 w3 w4 hi (f1.stat hs) ?_
      rw [(f1.tk htk).f hi]
      refine ⟨fun q => ih (i + 1) M1 _ _ _ (by omega) (by rw [d_resN_f q]; exact h1) f1, fun q => ?_⟩
      have q : s.2.1 i = true := by simpa using q
      refine ih (i + 1) _ _ _ _ (by omega) ?_ (fr_V_trans f1 (fr_V_41 _ _ _))
      rw [d_resN_t q]
      refine h1.sst (by decide) (by decide) ?_
      show ¬ (if (decide (i < i) && s.2.1 i) = true then 2 else d.1 i) = 0
      rw [decide_eq_false (Nat.lt_irrefl i), Bool.false_and, if_neg Bool.false_ne_true, show d.1 i = 1 from (hT i q).2]
      decide
  -- the wires of the tasks
  have key1 : ∀ m t (M1 : bh_M) (wt : sw) (w2 w3 w4 : Option bh_V), t + m = s.2.2.length → rdM M1 d wt e τ → (∀ b k, (b, k) ∈ s.2.2.take t → wt b k = s.1 b k) → (∀ b k, ¬ (b, k) ∈ s.2.2.take t → wt b k = w0 b k) → M1.1 = M.1 → fr_V M M1 → bh_wp (bh_tb T_M_wireAll) (2, [some (.inr (40, 1)), some (.inl (.int (nI t))), w2, w3, w4], [], M1, 0) Z := by
    intro m
    induction m with
    | zero =>
      intro t M1 wt w2 w3 w4 e1 h1 g1 g2 eI f1
      have : t = s.2.2.length := by omega
      subst this
      have eI2 : bh_I M1 = bh_I M := congrArg (fun q => q) eI
      refine bx_M_wireAll_2 _ w2 w3 w4 (by rw [eI2]; exact t1) (by omega) (f1.stat hs) (key2 8 0 M1 _ _ _ (by omega) ?_ f1)
      rw [d_resN_0]
      refine h1.cw (fun b k hb => ?_)
      rw [List.take_length] at g1 g2
      by_cases c : (b, k) ∈ s.2.2
      · exact (g1 b k c).symm
      · rw [g2 b k c]
        cases hlv : d_live d b with
        | true => exact m6 b k hb hlv
        | false =>
          rw [hw0 b k hb hlv]
          cases ew : s.1 b k with
          | none => rfl
          | some ol =>
            obtain ⟨i, -, hi⟩ := m5 b k ol.1 ol.2 hb hlv ew
            exact absurd (List.mem_of_getElem? hi) c
    | succ m ih =>
      intro t M1 wt w2 w3 w4 e1 h1 g1 g2 eI f1
      have eI2 : bh_I M1 = bh_I M := congrArg (fun q => q) eI
      have ht : t < s.2.2.length := by omega
      have eget : s.2.2[t]? = some s.2.2[t] := List.getElem?_eq_getElem ht
      generalize hbk : s.2.2[t] = bk at eget
      obtain ⟨b, k⟩ := bk
      obtain ⟨hb, hk⟩ := hq _ (List.mem_of_getElem? eget)
      have hb : b < 8 := hb
      have hk : k < d_ni d b := hk
      have hk3 := (hd.2.2 b hb).2.2.1.2.1
      obtain ⟨p, o, j, p1, p2, p3, p4, p5, p6, p7⟩ := m4 t _ ht eget
      have p6 : x_p e o j = d_ip d b k := p6
      have p7 : s.1 b k = some (o, d_lf d o) := p7
      refine bl_M_wireAll_2 t w2 w3 w4 (m := s.2.2.length) (x := 3 * b + k) (by rw [eI2]; exact t1) (by omega) ht (by omega) (by rw [eI2]; exact t3 t _ eget) (by omega) (f1.stat hs) ?_
      refine be_M_choice t (p := p) (by rw [eI2]; exact p2) (by omega) (by omega) (f1.stat hs) ?_
      rw [eI2, p3]
      refine bk_M_wireAll_26 t w2 w3 w4 (3 * o + j) (3 * b + k) (f1.stat hs) ?_
      refine cm_M_port p4 p5 h1 (f1.stat hs) ?_
      refine bk_M_wireAll_29 t w2 w3 w4 _ (3 * b + k) (by omega) (f1.stat hs) ?_
      rw [p6, ← p7]
      refine ih (t + 1) _ (d_set wt b k (s.1 b k)) _ _ _ (by omega) (h1.setw hk hb (s.1 b k) (fun o' l' q => hok b k o' l' hb q)) (fun x y hxy => ?_) (fun x y hxy => ?_) eI (fr_V_trans f1 (fr_V_J _ _ _))
      · unfold d_set
        by_cases c : x = b ∧ y = k
        · rw [if_pos c, c.1, c.2]
        · rw [if_neg c]
          refine g1 x y ?_
          rw [List.take_add_one, eget] at hxy
          rcases List.mem_append.mp hxy with c2 | c2
          · exact c2
          · have c2 := List.mem_singleton.mp c2
            cases c2
            exact absurd ⟨rfl, rfl⟩ c
      · unfold d_set
        rw [List.take_add_one, eget] at hxy
        rw [if_neg (fun c => hxy (List.mem_append_right _ (by rw [c.1, c.2]; exact List.mem_singleton.mpr rfl)))]
        exact g2 x y (fun c => hxy (List.mem_append_left _ c))
  exact key1 s.2.2.length 0 M w0 none none none (by omega) hd (fun b k q => absurd q (by rw [List.take_zero]; exact List.not_mem_nil)) (fun b k _ => rfl) rfl (fr_V_refl M)
