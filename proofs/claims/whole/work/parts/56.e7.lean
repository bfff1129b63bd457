/-! the search of the reference -/
def tsM (M : bh_M) (ts : List (Nat × Nat)) : Prop := bh_I M 40 1 19 = nI ts.length ∧ ts.length ≤ 24 ∧ ∀ i q, ts[i]? = some q → bh_I M 58 1 i = nI (3 * q.1 + q.2)
def fr_K (M M' : bh_M) : Prop := (∀ a, a ≠ 40 → a ≠ 58 → a ≠ 63 → a ≠ 64 → bh_I M' a = bh_I M a) ∧ (∀ c, c ≠ 19 → bh_I M' 40 1 c = bh_I M 40 1 c) ∧ M'.2 = M.2
theorem fr_K.m {M M' : bh_M} (h : fr_K M M') : fr_m M M' := ⟨fun a h1 h2 _ _ _ _ h7 h8 => h.1 a h1 h2 h7 h8, fun c h1 _ _ => h.2.1 c h1, h.2.2⟩
theorem tkM_set {M : bh_M} {T : Nat → Bool} (h : tkM M T) (b : Nat) : tkM (bh_sI M 63 1 b 1) (d_tk T b true) := by
  intro x hx
  show (if 63 = 63 ∧ 1 = 1 ∧ x = b then 1 else bh_I M 63 1 x) = (if (if x = b then true else T x) then 1 else 0)
  by_cases e : x = b
  · rw [if_pos ⟨rfl, rfl, e⟩, if_pos e, if_pos rfl]
  · rw [if_neg (fun q => e q.2.2), if_neg e]
    exact h x hx
theorem cm_M_takeIn {M : bh_M} {Z : bh_F → Prop} {d : sd} {w : sw} {e : sx} {τ : Nat → Nat → Nat} {T : Nat → Bool} {ts : List (Nat × Nat)} {b : Nat} (a2 : Int32) (hb : b < 8) (hd : rdM M d w e τ) (ht : tkM M T) (hts : tsM M ts) (hl : ts.length + (d_tasks d b).length ≤ 24) (hs : bh_stat M.2.2.2) (h : ∀ M', tkM M' (d_tk T b true) → tsM M' (ts ++ d_tasks d b) → (∀ x, bh_I M' 64 1 x = if x = b then a2 else bh_I M 64 1 x) → fr_K M M' → Z (.inl none, M')) : F_M_takeIn [.inr (40, 1), .inl (.int (nI b)), .inl (.int a2)] M Z := by
  obtain ⟨-, -, ⟨hn, n3, hi, -⟩, -⟩ := hd.2.2 b hb
  refine be_M_takeIn b a2 hb hs ?_
  have key : ∀ m i M1, i + m = d_ni d b → fr_K M M1 → tkM M1 (d_tk T b true) → tsM M1 (ts ++ d_tasksN d b i) → (∀ x, bh_I M1 64 1 x = if x = b then a2 else bh_I M 64 1 x) → bh_wp (bh_tb T_M_takeIn) (18, [some (.inr (40, 1)), some (.inl (.int (nI b))), some (.inl (.int a2)), some (.inl (.int (nI (3 * b + i))))], [], M1, 0) Z := by
    intro m
    induction m with
    | zero =>
      intro i M1 e1 f1 f2 f3 f4
      have : i = d_ni d b := by omega
      subst this
      have g52 := f1.1 52 (by decide) (by decide) (by decide) (by decide)
      exact bx_M_takeIn_18 b a2 hb (by rw [g52]; exact hn) n3 (by rw [f1.2.2]; exact hs) (h M1 f2 f3 f4 f1)
    | succ m ih =>
      intro i M1 e1 f1 f2 f3 f4
      have g52 := f1.1 52 (by decide) (by decide) (by decide) (by decide)
      have g56 := f1.1 56 (by decide) (by decide) (by decide) (by decide)
      have ho := (hi i (by omega)).2.2.2.2.2.2
      have hs1 : bh_stat M1.2.2.2 := by rw [f1.2.2]; exact hs
      have hT : d_tasksN d b (i + 1) = if d_op d b i then d_tasksN d b i else d_tasksN d b i ++ [(b, i)] := d_tasksN_s d b i
      cases eo : d_op d b i with
      | true =>
        rw [eo] at ho hT
        rw [if_pos rfl] at ho hT
        refine bo_M_takeIn_18 b a2 i hb (by rw [g52]; exact hn) n3 (by omega) (by rw [g56, ho]; decide) hs1 ?_
        exact ih (i + 1) M1 (by omega) f1 f2 (by rw [hT]; exact f3) f4
      | false =>
        rw [eo] at ho hT
        rw [if_neg Bool.false_ne_true] at ho hT
        have hlen : (ts ++ d_tasksN d b (i + 1)).length ≤ 24 := by
          have := d_tasksN_len d b m (i + 1)
          rw [show i + 1 + m = d_ni d b by omega] at this
          have e9 : (d_tasks d b).length = (d_tasksN d b (d_ni d b)).length := rfl
          rw [List.length_append]
          omega
        have hlen2 : (ts ++ d_tasksN d b (i + 1)).length = (ts ++ d_tasksN d b i).length + 1 := by
          rw [hT, ← List.append_assoc, List.length_append]
          rfl
        refine bl_M_takeIn_18 b a2 i hb (by rw [g52]; exact hn) n3 (by omega) f3.1 (by omega) (by rw [g56, ho]) hs1 ?_
        obtain ⟨q1, q2, q3⟩ := f3
        refine ih (i + 1) _ (by omega) ⟨fun a w1 w2 w3 w4 => ?_, fun c hc => ?_, f1.2.2⟩ (fun x hx => f2 x hx) ⟨?_, hlen, fun j q hq => ?_⟩ f4
        · rw [← f1.1 a w1 w2 w3 w4]
          funext x c
          show (if a = 40 ∧ x = 1 ∧ c = 19 then _ else if a = 58 ∧ x = 1 ∧ c = _ then _ else bh_I M1 a x c) = _
          rw [if_neg (fun q => w1 q.1), if_neg (fun q => w2 q.1)]
        · rw [← f1.2.1 c hc]
          show (if 40 = 40 ∧ 1 = 1 ∧ c = 19 then _ else bh_I M1 40 1 c) = _
          rw [if_neg (fun q => hc q.2.2)]
        · show nI ((ts ++ d_tasksN d b i).length + 1) = _
          rw [hlen2]
        · rw [hT, ← List.append_assoc] at hq
          show (if 58 = 58 ∧ 1 = 1 ∧ j = (ts ++ d_tasksN d b i).length then nI (3 * b + i) else bh_I M1 58 1 j) = _
          by_cases ej : j = (ts ++ d_tasksN d b i).length
          · rw [List.getElem?_append_right (by omega), ej, Nat.sub_self] at hq
            have hq : (b, i) = q := Option.some.inj hq
            subst hq
            rw [if_pos ⟨rfl, rfl, ej⟩]
          · rw [if_neg (fun q => ej q.2.2)]
            have hj : j < (ts ++ d_tasksN d b i).length := by
              have := (List.getElem?_eq_some_iff.mp hq).1
              rw [List.length_append] at this
              have e1 : ([(b, i)] : List (Nat × Nat)).length = 1 := rfl
              omega
            rw [List.getElem?_append_left hj] at hq
            exact q3 j q hq
  refine key (d_ni d b) 0 _ (by omega) ⟨fun a w1 w2 w3 w4 => ?_, fun c hc => rfl, rfl⟩ (tkM_set ht b) ?_ (fun x => ?_)
  · funext x c
    show (if a = 64 ∧ x = 1 ∧ c = b then _ else if a = 63 ∧ x = 1 ∧ c = b then _ else bh_I M a x c) = _
    rw [if_neg (fun q => w4 q.1), if_neg (fun q => w3 q.1)]
  · have e0 : d_tasksN d b 0 = [] := rfl
    rw [e0, List.append_nil]
    exact hts
  · show (if 64 = 64 ∧ 1 = 1 ∧ x = b then a2 else bh_I M 64 1 x) = _
    by_cases c : x = b
    · rw [if_pos ⟨rfl, rfl, c⟩, if_pos c]
    · rw [if_neg (fun q => c q.2.2), if_neg c]
def fr_U (M M' : bh_M) (t : Nat) : Prop := (∀ a, a ≠ 40 → a ≠ 61 → a ≠ 63 → bh_I M' a = bh_I M a) ∧ (∀ c, c ≠ 19 → c ≠ 26 → bh_I M' 40 1 c = bh_I M 40 1 c) ∧ (∀ c, c ≠ t → bh_I M' 61 1 c = bh_I M 61 1 c) ∧ M'.2 = M.2
theorem fr_U.m {M M' : bh_M} {t : Nat} (h : fr_U M M' t) : fr_m M M' := ⟨fun a h1 _ _ _ h5 _ h7 _ => h.1 a h1 h5 h7, fun c h1 h2 _ => h.2.1 c h1 h2, h.2.2.2⟩
theorem cm_M_undo {M : bh_M} {Z : bh_F → Prop} {T : Nat → Bool} {t : Nat} (ht : t < 30) (htk : tkM M T) (hs : bh_stat M.2.2.2) (h : ∀ M', bh_I M' 40 1 26 = nI t → bh_I M' 40 1 19 = bh_I M 62 1 t → tkM M' (fun b => T b && !decide (bh_I M 64 1 b = nI t)) → bh_I M' 61 1 t = bh_I M 61 1 t + 1 → fr_U M M' t → Z (.inl none, M')) : F_M_undo [.inr (40, 1), .inl (.int (nI t))] M Z := by
  refine be_M_undo t ht hs ?_
  have key : ∀ m i M1, i + m = 8 → bh_I M1 40 1 26 = nI t → bh_I M1 40 1 19 = bh_I M 62 1 t → (∀ b, b < i → bh_I M1 63 1 b = (if (T b && !decide (bh_I M 64 1 b = nI t)) then 1 else 0)) → (∀ b, i ≤ b → b < 8 → bh_I M1 63 1 b = (if T b then 1 else 0)) → bh_I M1 61 1 t = bh_I M 61 1 t → fr_U M M1 t → bh_wp (bh_tb T_M_undo) (17, [some (.inr (40, 1)), some (.inl (.int (nI t))), some (.inl (.int (nI i)))], [], M1, 0) Z := by
    intro m
    induction m with
    | zero =>
      intro i M1 e1 g1 g2 g3 g4 g5 f1
      have : i = 8 := by omega
      subst this
      refine bx_M_undo_17 t ht (by rw [f1.2.2.2]; exact hs) (h _ g1 g2 (fun b hb => g3 b hb) ?_ ⟨fun a w1 w2 w3 => ?_, f1.2.1, fun c hc => ?_, f1.2.2.2⟩)
      · show (if 61 = 61 ∧ 1 = 1 ∧ t = t then bh_I M1 61 1 t + 1 else bh_I M1 61 1 t) = _
        rw [if_pos ⟨rfl, rfl, rfl⟩, g5]
      · rw [← f1.1 a w1 w2 w3]
        funext x c
        show (if a = 61 ∧ x = 1 ∧ c = t then _ else bh_I M1 a x c) = _
        rw [if_neg (fun q => w2 q.1)]
      · rw [← f1.2.2.1 c hc]
        show (if 61 = 61 ∧ 1 = 1 ∧ c = t then _ else bh_I M1 61 1 c) = _
        rw [if_neg (fun q => hc q.2.2)]
    | succ m ih =>
      intro i M1 e1 g1 g2 g3 g4 g5 f1
      have hi : i < 8 := by omega
      have g64 := f1.1 64 (by decide) (by decide) (by decide)
      have hb := g4 i (Nat.le_refl _) hi
      refine bl_M_undo_17 t i hi (by rw [f1.2.2.2]; exact hs) ⟨fun q => ?_, fun q => ⟨fun q2 => ?_, fun q2 => ?_⟩⟩
      · refine ih (i + 1) M1 (by omega) g1 g2 (fun b hb9 => ?_) (fun b h1 h2 => g4 b (by omega) h2) g5 f1
        by_cases c : b = i
        · subst c
          rw [hb] at q ⊢
          cases hT : T b with
          | false => rfl
          | true =>
            rw [hT] at q
            exact absurd q (by decide)
        · exact g3 b (by omega)
      · refine ih (i + 1) M1 (by omega) g1 g2 (fun b hb9 => ?_) (fun b h1 h2 => g4 b (by omega) h2) g5 f1
        by_cases c : b = i
        · subst c
          rw [g64] at q2
          rw [hb, decide_eq_false q2, Bool.not_false, Bool.and_true]
        · exact g3 b (by omega)
      · have q2 := Decidable.of_not_not q2
        rw [g64] at q2
        refine ih (i + 1) _ (by omega) g1 g2 (fun b hb9 => ?_) (fun b h1 h2 => ?_) g5 ⟨fun a w1 w2 w3 => ?_, f1.2.1, f1.2.2.1, f1.2.2.2⟩
        · show (if 63 = 63 ∧ 1 = 1 ∧ b = i then 0 else bh_I M1 63 1 b) = _
          by_cases c : b = i
          · subst c
            rw [if_pos ⟨rfl, rfl, rfl⟩, decide_eq_true q2, Bool.not_true, Bool.and_false, if_neg Bool.false_ne_true]
          · rw [if_neg (fun q => c q.2.2)]
            exact g3 b (by omega)
        · show (if 63 = 63 ∧ 1 = 1 ∧ b = i then 0 else bh_I M1 63 1 b) = _
          rw [if_neg (by omega)]
          exact g4 b (by omega) h2
        · rw [← f1.1 a w1 w2 w3]
          funext x c
          show (if a = 63 ∧ x = 1 ∧ c = i then _ else bh_I M1 a x c) = _
          rw [if_neg (fun q => w3 q.1)]
  refine key 8 0 _ rfl rfl rfl (fun b hb => absurd hb (Nat.not_lt_zero b)) (fun b _ hb => htk b hb) rfl ⟨fun a w1 w2 w3 => ?_, fun c h1 h2 => ?_, fun c hc => rfl, rfl⟩
  · funext x c
    show (if a = 40 ∧ x = 1 ∧ c = 19 then _ else if a = 40 ∧ x = 1 ∧ c = 26 then _ else bh_I M a x c) = _
    rw [if_neg (fun q => w1 q.1), if_neg (fun q => w1 q.1)]
  · show (if 40 = 40 ∧ 1 = 1 ∧ c = 19 then _ else if 40 = 40 ∧ 1 = 1 ∧ c = 26 then nI t else bh_I M 40 1 c) = _
    rw [if_neg (fun q => h1 q.2.2), if_neg (fun q => h2 q.2.2)]
/-- the reference at level t of the search -/
def stM (M : bh_M) (d : sd) (s : ss) (w0 : sw) (e : sx) (τ : Nat → Nat → Nat) (n t : Nat) : Prop :=
  rdM M d w0 e τ ∧ tkM M s.2.1 ∧ tsM M s.2.2 ∧ bh_I M 40 1 27 = nI n ∧ smM M d s w0 e t ∧ ∀ b, s.2.1 b = true → ∀ j, t ≤ j → j < 30 → ¬ bh_I M 64 1 b = nI j
/-- what a level leaves as it was for those below -/
def fr_L (M M' : bh_M) (s : ss) (t : Nat) : Prop := fr_m M M' ∧ (∀ c, c < 8 * t → bh_I M' 59 1 c = bh_I M 59 1 c) ∧ (∀ c, c < t → bh_I M' 60 1 c = bh_I M 60 1 c ∧ bh_I M' 61 1 c = bh_I M 61 1 c ∧ bh_I M' 62 1 c = bh_I M 62 1 c) ∧ ∀ b, s.2.1 b = true → bh_I M' 64 1 b = bh_I M 64 1 b
theorem fr_L_refl (M : bh_M) (s : ss) (t : Nat) : fr_L M M s t := ⟨fr_m_refl M, fun _ _ => rfl, fun _ _ => ⟨rfl, rfl, rfl⟩, fun _ _ => rfl⟩
theorem fr_L_trans {M M' M'' : bh_M} {s : ss} {t : Nat} (h : fr_L M M' s t) (g : fr_L M' M'' s t) : fr_L M M'' s t := ⟨fr_m_trans h.1 g.1, fun c hc => (g.2.1 c hc).trans (h.2.1 c hc), fun c hc => ⟨(g.2.2.1 c hc).1.trans (h.2.2.1 c hc).1, (g.2.2.1 c hc).2.1.trans (h.2.2.1 c hc).2.1, (g.2.2.1 c hc).2.2.trans (h.2.2.1 c hc).2.2⟩, fun b hb => (g.2.2.2 b hb).trans (h.2.2.2 b hb)⟩
theorem d_wok_step {d : sd} {s : ss} {b k e : Nat} (h : d_wok d s.1) (he : e < 8) : d_wok d (d_step d s b k e).1 := by
  have e1 : (d_step d s b k e).1 = d_set s.1 b k (some (e, d_lf d e)) := by
    unfold d_step
    split <;> rfl
  rw [e1]
  intro b' k' o l hb hw
  unfold d_set at hw
  by_cases c : b' = b ∧ k' = k
  · rw [if_pos c] at hw
    cases hw
    exact ⟨he, Nat.le_refl _⟩
  · rw [if_neg c] at hw
    exact h b' k' o l hb hw
