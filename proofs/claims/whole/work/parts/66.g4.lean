/-! ACTIVATING AND STOPPING in the reference -/
/-- only services and events have changed -/
def fr_N (M M' : bh_M) : Prop := (∀ a, a ≠ 40 → a ≠ 65 → a ≠ 66 → a ≠ 67 → a ≠ 69 → a ≠ 70 → bh_I M' a = bh_I M a) ∧ (∀ c, ¬ (34 ≤ c ∧ c ≤ 38) → bh_I M' 40 1 c = bh_I M 40 1 c) ∧ bh_J M' = bh_J M ∧ (∀ a, a ≠ 68 → bh_D M' a = bh_D M a) ∧ M'.2.2.2 = M.2.2.2
theorem fr_N_refl (M : bh_M) : fr_N M M := ⟨fun _ _ _ _ _ _ _ => rfl, fun _ _ => rfl, rfl, fun _ _ => rfl, rfl⟩
theorem fr_N_trans {M M' M'' : bh_M} (h : fr_N M M') (g : fr_N M' M'') : fr_N M M'' := ⟨fun a h1 h2 h3 h4 h5 h6 => (g.1 a h1 h2 h3 h4 h5 h6).trans (h.1 a h1 h2 h3 h4 h5 h6), fun c hc => (g.2.1 c hc).trans (h.2.1 c hc), g.2.2.1.trans h.2.2.1, fun a ha => (g.2.2.2.1 a ha).trans (h.2.2.2.1 a ha), g.2.2.2.2.trans h.2.2.2.2⟩
theorem fr_N_I (M : bh_M) {t : Nat} (ht : t = 65 ∨ t = 66 ∨ t = 67 ∨ t = 69 ∨ t = 70) (x j : Nat) (v : Int32) : fr_N M (bh_sI M t x j v) := ⟨fun a h1 h2 h3 h4 h5 h6 => by
  funext y c
  exact if_neg (fun q => by omega), fun c _ => bh_I_tag (by omega), rfl, fun _ _ => rfl, rfl⟩
theorem fr_N_40 (M : bh_M) {j : Nat} (hj : 34 ≤ j ∧ j ≤ 38) (v : Int32) : fr_N M (bh_sI M 40 1 j v) := ⟨fun a h1 h2 h3 h4 h5 h6 => by
  funext y c
  exact if_neg (fun q => h1 q.1), fun c hc => bh_I_fld (fun q => hc (by omega)), rfl, fun _ _ => rfl, rfl⟩
theorem fr_N_D (M : bh_M) (x j : Nat) (v : UInt64) : fr_N M (bh_sD M 68 x j v) := ⟨fun a h1 h2 h3 h4 h5 h6 => rfl, fun _ _ => rfl, rfl, fun a ha => by
  funext y c
  exact if_neg (fun q => ha q.1), rfl⟩
theorem fr_N_A (M : bh_M) (f : Nat → Nat → Int32) : fr_N M (bm_A M 69 f) := ⟨fun a h1 h2 h3 h4 h5 h6 => by
  funext y c
  exact if_neg h5, fun _ _ => rfl, rfl, fun _ _ => rfl, rfl⟩
theorem fr_N_note (M : bh_M) (x : Int32) : fr_N M (sp_note M x) := by
  unfold sp_note
  split
  · exact fr_N_40 M ⟨by decide, by decide⟩ _
  · exact fr_N_trans (fr_N_I M (by decide) _ _ _) (fr_N_40 _ ⟨by decide, by decide⟩ _)
theorem fr_N_put (M : bh_M) (n : Nat) (b k : Int32) (r : UInt64) : fr_N M (sp_put M n b k r) := by
  unfold sp_put
  exact fr_N_trans (fr_N_trans (fr_N_trans (fr_N_trans (fr_N_trans (fr_N_trans (fr_N_trans (fr_N_I M (by decide) _ _ _) (fr_N_I _ (by decide) _ _ _)) (fr_N_I _ (by decide) _ _ _)) (fr_N_D _ _ _ _)) (fr_N_A _ _)) (fr_N_40 _ ⟨by decide, by decide⟩ _)) (fr_N_40 _ ⟨by decide, by decide⟩ _)) (fr_N_note _ _)
theorem fr_N_dm (M : bh_M) (s i q : Nat) : fr_N M (sp_dm M s i q) := ⟨fun a h1 h2 h3 h4 h5 h6 => by
  funext b c
  show (if (a = 65 ∨ a = 66 ∨ a = 67) ∧ b = 1 ∧ s ≤ c ∧ c < i then bh_I M a 1 (c + 1) else if a = 69 ∧ b = 1 ∧ 8 * s ≤ c ∧ c < q then bh_I M 69 1 (c + 8) else bh_I M a b c) = _
  rw [if_neg (fun q => by omega), if_neg (fun q => by omega)], fun c _ => rfl, rfl, fun a ha => by
  funext b c
  exact if_neg (fun q => ha q.1), rfl⟩
theorem fr_N_drop (M : bh_M) (s m : Nat) : fr_N M (sp_drop M s m) := fr_N_trans (fr_N_trans (fr_N_note _ _) (fr_N_40 _ ⟨by decide, by decide⟩ _)) (fr_N_dm _ _ _ _)
theorem fr_N_sweep {b : Nat} : ∀ (k : Nat) (M : bh_M) (s : Nat), fr_N M (sp_sweep b k M s)
  | 0, M, s => fr_N_refl M
  | k + 1, M, s => by
    unfold sp_sweep
    split
    · exact fr_N_trans (fr_N_drop M _ _) (fr_N_sweep k _ s)
    · exact fr_N_sweep k M (s + 1)
theorem fr_N.O {M M' : bh_M} (h : fr_N M M') : fr_O M M' := ⟨⟨fun a h1 => ⟨h.1 a (by omega) (by omega) (by omega) (by omega) (by omega) (by omega), by rw [h.2.2.1]⟩, h.2.2.2.1, h.2.2.2.2⟩, h.2.1 0 (by decide)⟩
theorem RM.nu {M M' : bh_M} {A : sa} (h : RM M A) (f : fr_N M M') {ν : bh_M} (g : ag M' ν) : RM M' (a_snu A ν) := by
  obtain ⟨⟨τ, h1, h2⟩, h3, -, h5, h6, h7, h8⟩ := h
  have fI : ∀ a, a ≠ 40 → a ≠ 65 → a ≠ 66 → a ≠ 67 → a ≠ 69 → a ≠ 70 → bh_I M' a = bh_I M a := f.1
  refine ⟨⟨τ, ⟨h1.1, h1.2.1, fun b hb => ?_⟩, fun b hb => ?_⟩, fun b hb => ?_, g, ?_, ?_, ?_, by rw [f.2.2.2.2]; exact h8⟩
  · rw [f.2.2.1, fI 41 (by decide) (by decide) (by decide) (by decide) (by decide) (by decide), fI 42 (by decide) (by decide) (by decide) (by decide) (by decide) (by decide), fI 48 (by decide) (by decide) (by decide) (by decide) (by decide) (by decide), fI 49 (by decide) (by decide) (by decide) (by decide) (by decide) (by decide), fI 50 (by decide) (by decide) (by decide) (by decide) (by decide) (by decide), fI 51 (by decide) (by decide) (by decide) (by decide) (by decide) (by decide), fI 52 (by decide) (by decide) (by decide) (by decide) (by decide) (by decide), fI 53 (by decide) (by decide) (by decide) (by decide) (by decide) (by decide), fI 54 (by decide) (by decide) (by decide) (by decide) (by decide) (by decide), fI 55 (by decide) (by decide) (by decide) (by decide) (by decide) (by decide), fI 56 (by decide) (by decide) (by decide) (by decide) (by decide) (by decide)]
    exact h1.2.2 b hb
  · rw [f.2.2.1]
    exact h2 b hb
  · rw [fI 43 (by decide) (by decide) (by decide) (by decide) (by decide) (by decide), fI 44 (by decide) (by decide) (by decide) (by decide) (by decide) (by decide), fI 45 (by decide) (by decide) (by decide) (by decide) (by decide) (by decide), fI 46 (by decide) (by decide) (by decide) (by decide) (by decide) (by decide)]
    exact h3 b hb
  · rw [f.2.1 39 (by decide)]
    exact h5
  · rw [f.2.1 27 (by decide)]
    exact h6
  · rw [f.2.1 28 (by decide)]
    exact h7
theorem RM.sst {M : bh_M} {A : sa} (h : RM M A) {i v : Nat} (hv : v ≤ 3) (hv0 : ¬ v = 0) (h0 : ¬ a_st A i = 0) : RM (bh_sI M 41 1 i (nI v)) (a_sd A (d_sst (a_d A) i v)) := by
  obtain ⟨⟨τ, h1, h2⟩, h3, h4, h5, h6, h7, h8⟩ := h
  refine ⟨⟨τ, h1.sst hv hv0 h0, h2⟩, fun b hb q => h3 b hb ?_, ag_no h4 (by decide) (fun q => absurd q (by decide)), h5, h6, h7, h8⟩
  have q : ¬ (if b = i then v else d_st (a_d A) b) = 0 := q
  by_cases c : b = i
  · rw [c]
    exact h0
  · rw [if_neg c] at q
    exact q
/-- services and events as they may be; owners are active -/
def sv (ν : bh_M) (st : Nat → Nat) (P : UInt64 → Prop) : Prop := (∃ k, k ≤ 10 ∧ bh_I ν 40 1 37 = nI k) ∧ ∃ n, n ≤ 20 ∧ bh_I ν 40 1 34 = nI n ∧ ∀ i, i < n → (∃ o, o < 8 ∧ bh_I ν 66 1 i = nI o ∧ st o = 3) ∧ P (bh_D ν 68 1 i)
theorem RM.bd {M : bh_M} {A : sa} (h : RM M A) {st : Nat → Nat} {P : UInt64 → Prop} (hv : sv (a_nu A) st P) : vp_in (bh_I M 40 1 34) 21 ∧ vp_in (bh_I M 40 1 37) 11 ∧ bh_I M 40 1 34 = nI (a_n A) ∧ a_n A ≤ 20 := by
  obtain ⟨⟨k, k1, k2⟩, n, n1, n2, -⟩ := hv
  have e1 : a_n A = n := by
    unfold a_n
    rw [n2]
    exact bn_clamp (N := 21) (by omega) rfl
  rw [h.2.2.1.2.1 34 (by decide) (by decide), h.2.2.1.2.1 37 (by decide) (by decide), n2, k2, e1]
  exact ⟨bn_in (by omega) rfl, bn_in (by omega) rfl, rfl, n1⟩
theorem cr_stopping {M : bh_M} {Z : bh_F → Prop} {A : sa} {b : Nat} {st : Nat → Nat} {P : UInt64 → Prop} (hb : b < 8) (h : RM M A) (h0 : a_st A b = 3) (hv : sv (a_nu A) st P) (hz : ∀ M', RM M' (a_stop A b) → fr_O M M' → Z (.inl (some (.inl (.int (bh_cnt (fun i => decide (bh_I (a_nu A) 66 1 i = nI b)) (a_n A))))), M')) : F_M_stopping [.inr (40, 1), .inl (.int (nI b))] M Z := by
  have hs := h.2.2.2.2.2.2
  obtain ⟨b1, b2, b3, b4⟩ := h.bd hv
  refine ct_M_stopping b hs ⟨hb, b1, b2, fun hs2 => ?_⟩
  have eN : (bh_I M 40 1 34).toNatClampNeg = a_n A := by
    rw [b3]
    exact bn_clamp (N := 21) (by omega) rfl
  rw [eN, h.2.2.1.1 66 (by decide)]
  refine hz _ ?_ (fr_O_stop M b)
  have g := ag_stop h.2.2.1 b
  have f1 := fr_N_sweep (b := b) (bh_I M 40 1 34).toNatClampNeg M 0
  have f2 := fr_N_trans f1 (fr_N_A (sp_sweep b (bh_I M 40 1 34).toNatClampNeg M 0) (fun x c => if x = 1 ∧ c % 8 = b ∧ c < 8 * (bh_I (sp_sweep b (bh_I M 40 1 34).toNatClampNeg M 0) 40 1 34).toNatClampNeg then 0 else bh_I (sp_sweep b (bh_I M 40 1 34).toNatClampNeg M 0) 69 x c))
  have r1 := (h.nu f2 (ag_refl _)).sst (i := b) (v := 2) (by decide) (by decide) (by show ¬ a_st A b = 0; rw [h0]; decide)
  exact r1.nu (fr_N_note _ (nI (200 + b))) g
theorem cr_activate {M : bh_M} {Z : bh_F → Prop} {A : sa} {b : Nat} {st : Nat → Nat} {P : UInt64 → Prop} (hb : b < 8) (h : RM M A) (h0 : ¬ a_st A b = 0) (hac : a_ac A b ≤ 4) (hv : sv (a_nu A) st P) (hz : ∀ M', RM M' (a_actr A b).2 → fr_O M M' → Z (.inl (some (.inl (.int (bI (a_actr A b).1)))), M')) : F_M_activate [.inr (40, 1), .inl (.int (nI b))] M Z := by
  have hs := h.2.2.2.2.2.2
  obtain ⟨b1, b2, b3, b4⟩ := h.bd hv
  obtain ⟨-, f44, -, f46⟩ := h.2.1 b hb h0
  have hz0 := hz M
  refine be_M_activate b hb hs ?_
  rw [f44, f46]
  unfold a_actr at hz hz0
  generalize hc : a_ac A b = c at hac hz hz0
  have hcs : c = 0 ∨ c = 1 ∨ c = 2 ∨ c = 3 ∨ c = 4 := by omega
  rcases hcs with rfl | rfl | rfl | rfl | rfl
  · exact ⟨fun _ => hz0 h (fr_O_refl M), fun q => absurd q (by decide), fun q => absurd q (by decide), fun q => absurd q (by decide), fun q => absurd rfl q.1⟩
  · exact ⟨fun q => absurd q (by decide), fun _ => hz0 h (fr_O_refl M), fun q => absurd q (by decide), fun q => absurd q (by decide), fun q => absurd rfl q.2.1⟩
  · refine ⟨fun q => absurd q (by decide), fun q => absurd q (by decide), fun _ => ?_, fun q => absurd q (by decide), fun q => absurd rfl q.2.2.1⟩
    have hz : ∀ M', RM M' (if a_n A = 20 then (false, A) else (true, a_snu A (sp_put (a_nu A) (a_n A) (nI b) 0 (FP.i2d (nI b))))).2 → fr_O M M' → Z (.inl (some (.inl (.int (bI (if a_n A = 20 then (false, A) else (true, a_snu A (sp_put (a_nu A) (a_n A) (nI b) 0 (FP.i2d (nI b))))).1)))), M') := hz
    rw [b3, show (20 : Int32) = nI 20 from rfl, bn_inj (by omega) (by decide)]
    refine ⟨fun q => ?_, fun q => ?_⟩
    · rw [if_neg q] at hz
      refine ct_M_put (nI b) 0 (FP.i2d (nI b)) hs ⟨?_, b2, ?_⟩
      · rw [b3]
        exact bn_in (by omega) rfl
      · rw [b3, bn_clamp (N := 21) (by omega) rfl]
        refine bk_M_activate_59 b _ _ (sp_put_stat hs) (hz _ (h.nu (fr_N_put _ _ _ _ _) (ag_put h.2.2.1 _ _ _ _)) (fr_O_put _ _ _ _ _))
    · rw [if_pos (Decidable.of_not_not q)] at hz
      exact hz M h (fr_O_refl M)
  · refine ⟨fun q => absurd q (by decide), fun q => absurd q (by decide), fun q => absurd q (by decide), fun _ => ?_, fun q => absurd rfl q.2.2.2⟩
    have hz : ∀ M', RM M' (match a_best (a_nu A) 0 with
      | none => (false, A)
      | some s => (true, a_snu A (a_got (a_nu A) s b (bh_I (a_nu A) 69 1 (8 * s + b) + 1)))).2 → fr_O M M' → Z (.inl (some (.inl (.int (bI (match a_best (a_nu A) 0 with
      | none => (false, A)
      | some s => (true, a_snu A (a_got (a_nu A) s b (bh_I (a_nu A) 69 1 (8 * s + b) + 1)))).1)))), M') := hz
    have eB : bh_best (fun i => decide (bh_I M 67 1 i = 0)) (fun i b => decide (¬ Op.cmpValue (FP.dcmp (bh_D M 68 1 i) (bh_D M 68 1 b)) .l ≤ 0)) (bh_I M 40 1 34).toNatClampNeg = a_best (a_nu A) 0 := by
      unfold a_best
      rw [h.2.2.1.1 67 (by decide), h.2.2.1.2.2, h.2.2.1.2.1 34 (by decide) (by decide)]
    refine ct_M_best 0 hs ⟨b1, fun e => ?_, fun r e => ?_⟩
    · rw [eB] at e
      rw [e] at hz
      exact bz_M_activate_67 b none hb hs (hz M h (fr_O_refl M))
    · have hr := bh_best_lt e
      rw [b3, bn_clamp (N := 21) (by omega) rfl] at hr
      rw [eB] at e
      rw [e] at hz
      refine bk_M_activate_67 b none r hb (by omega) hs ?_
      rw [h.2.2.1.1 69 (by decide)]
      exact hz _ (h.nu (fr_N_I _ (by decide) _ _ _) (ag_sI h.2.2.1 _ _ _ _)) (fr_O_I _ ⟨by decide, by decide⟩ _ _ _)
  · refine ⟨fun q => absurd q (by decide), fun q => absurd q (by decide), fun q => absurd q (by decide), fun q => absurd q (by decide), fun _ => ⟨fun q => ?_, fun q => ?_⟩⟩
    · have e1 : a_hs A b = true := by
        cases e : a_hs A b with
        | true => rfl
        | false => exact absurd (by rw [e]; rfl) q
      have := hz0 h (fr_O_refl M)
      rw [e1] at this
      exact this
    · have e1 : a_hs A b = false := bI_0.mp (Decidable.of_not_not q)
      have := hz0 h (fr_O_refl M)
      rw [e1] at this
      exact this
def s_code (n : Nat) : Int32 := if n = 1 then 0 else if n = 2 then 3 else if n = 3 then 5 else 4
theorem RM.run {M M' : bh_M} {A : sa} (h : RM M A) {r : Nat × sd × sw × Nat × Int32} {τ : Nat → Nat → Nat} (hτ : ∀ b, b < 8 → ∃ t, bh_J M 47 1 b = nJ t ∧ t ≤ a_ck A ∧ ∀ l, l ≤ d_lf (a_d A) b → τ b l ≤ t) (h1 : rdM M' r.2.1 r.2.2.1 (a_e A) τ) (h2 : bh_I M' 40 1 27 = nI r.2.2.2.1) (h3 : bh_I M' 40 1 28 = r.2.2.2.2) (f : fr_Q M M') (hst : ∀ b, b < 8 → ¬ d_st r.2.1 b = 0 → ¬ a_st A b = 0) (hd : r.2.1.2 = (a_d A).2) : RM M' (a_res A r) := by
  obtain ⟨-, g3, g4, g5, g6, g7, g8⟩ := h
  have fI : ∀ a, a ≠ 40 → a ≠ 41 → a ≠ 58 → a ≠ 59 → a ≠ 60 → a ≠ 61 → a ≠ 62 → a ≠ 63 → a ≠ 64 → bh_I M' a = bh_I M a := f.1
  refine ⟨⟨τ, h1, fun b hb => ?_⟩, fun b hb q => ?_, ?_, ?_, h2, h3, f.stat g8⟩
  · rw [f.2.2.1 47 (by decide), show d_lf (a_d (a_res A r)) = d_lf (a_d A) from congrArg (fun q : (Nat → Int32) × (Nat → Nat → Option Nat) × (Nat → Nat → Int32) × (Nat → Nat) × (Nat → Nat → Nat) × (Nat → Nat → Nat) × (Nat → Nat → Nat) × (Nat → Nat → Bool) × (Nat → Nat) => q.2.2.2.2.2.2.2.2) hd]
    exact hτ b hb
  · rw [fI 43 (by decide) (by decide) (by decide) (by decide) (by decide) (by decide) (by decide) (by decide) (by decide), fI 44 (by decide) (by decide) (by decide) (by decide) (by decide) (by decide) (by decide) (by decide) (by decide), fI 45 (by decide) (by decide) (by decide) (by decide) (by decide) (by decide) (by decide) (by decide) (by decide), fI 46 (by decide) (by decide) (by decide) (by decide) (by decide) (by decide) (by decide) (by decide) (by decide)]
    exact g3 b hb (hst b hb q)
  · refine ⟨fun a ha => ?_, fun c c1 c2 => ?_, ?_⟩
    · rw [fI a (by omega) (by omega) (by omega) (by omega) (by omega) (by omega) (by omega) (by omega) (by omega)]
      exact g4.1 a ha
    · rw [f.2.1 c (by omega) (by omega) (by omega) (by omega)]
      exact g4.2.1 c c1 c2
    · rw [show bh_D M' = bh_D M from congrArg (fun q => q.1) f.2.2.2]
      exact g4.2.2
  · rw [f.2.1 39 (by decide) (by decide) (by decide) (by decide)]
    exact g5
theorem cr_fin {M : bh_M} {Z : bh_F → Prop} {A : sa} {b : Nat} {st : Nat → Nat} {P : UInt64 → Prop} (w2 : Option bh_V) (hb : b < 8) (h : RM M A) (h0 : ¬ a_st A b = 0) (hac : a_ac A b ≤ 4) (hv : sv (a_nu A) st P) (hz : ∀ M', RM M' (a_fin A b).2 → fr_O M M' → Z (.inl (some (.inl (.int (s_code (a_fin A b).1)))), M')) : F_M_activate [.inr (40, 1), .inl (.int (nI b))] M (bh_after 36 [some (.inr (40, 1)), some (.inl (.int (nI b))), w2] [] 0 (fun y => bh_wp (bh_tb T_M_starting) y Z) Z) := by
  refine cr_activate hb h h0 hac hv (fun M' h1 f1 => ?_)
  have hs1 := h1.2.2.2.2.2.2
  refine bk_M_starting_36 b w2 _ hb hs1 ⟨fun q => ?_, fun q => ?_⟩
  · have e1 : (a_actr A b).1 = true := by
      cases e : (a_actr A b).1 with
      | true => rfl
      | false => exact absurd (by rw [e]; rfl) q
    have eF : a_fin A b = (1, a_done (a_actr A b).2 b) := by
      unfold a_fin
      rw [e1, if_pos rfl]
    rw [eF] at hz
    have hst : ¬ a_st (a_actr A b).2 b = 0 := by
      have : a_st (a_actr A b).2 = a_st A := by
        unfold a_actr
        split
        · rfl
        · rfl
        · split <;> rfl
        · split <;> rfl
        · rfl
      rw [this]
      exact h0
    have h2 := h1.sst (i := b) (v := 3) (by decide) (by decide) hst
    have h3 : RM (bh_sI (bh_sI M' 41 1 b 3) 46 1 b 1) (a_shs (a_sd (a_actr A b).2 (d_sst (a_d (a_actr A b).2) b 3)) b true) := by
      obtain ⟨⟨τ, g1, g2⟩, g3, g4, g5, g6, g7, g8⟩ := h2
      refine ⟨⟨τ, g1, g2⟩, fun x hx q => ?_, ag_no g4 (by decide) (fun q => absurd q (by decide)), g5, g6, g7, g8⟩
      obtain ⟨y1, y2, y3, y4⟩ := g3 x hx q
      refine ⟨y1, y2, y3, ?_⟩
      show (if 46 = 46 ∧ 1 = 1 ∧ x = b then 1 else bh_I (bh_sI M' 41 1 b 3) 46 1 x) = bI (if x = b then true else a_hs (a_actr A b).2 x)
      by_cases c : x = b
      · rw [if_pos ⟨rfl, rfl, c⟩, if_pos c]
        rfl
      · rw [if_neg (fun q => c q.2.2), if_neg c]
        exact y4
    have ev : vp_in (bh_I (bh_sI (bh_sI M' 41 1 b 3) 46 1 b 1) 40 1 37) 11 := by
      show vp_in (bh_I M' 40 1 37) 11
      rw [h1.2.2.1.2.1 37 (by decide) (by decide)]
      have ev0 : vp_in (bh_I (a_nu A) 40 1 37) 11 := by
        obtain ⟨⟨k, k1, k2⟩, -⟩ := hv
        rw [k2]
        exact bn_in (by omega) rfl
      unfold a_actr
      split
      · exact ev0
      · exact ev0
      · split
        · exact ev0
        · exact sp_note_ev ev0
      · split
        · exact ev0
        · exact ev0
      · exact ev0
    refine cu_M_note (nI (100 + b)) hs1 ⟨ev, ?_⟩
    refine bk_M_starting_63 b w2 (sp_note_stat hs1) (hz _ (h3.nu (fr_N_note _ _) (ag_note h3.2.2.1 _)) ?_)
    exact fr_O_trans f1 (fr_O_trans (fr_O_trans (fr_O_I M' (t := 41) ⟨by decide, by decide⟩ 1 b 3) (fr_O_I _ (t := 46) ⟨by decide, by decide⟩ 1 b 1)) (fr_O_note _ _))
  · have e1 : (a_actr A b).1 = false := bI_0.mp (Decidable.of_not_not q)
    have eF : a_fin A b = (4, (a_actr A b).2) := by
      unfold a_fin
      rw [e1, if_neg Bool.false_ne_true]
    rw [eF] at hz
    exact hz M' h1 f1
theorem cr_starting {M : bh_M} {Z : bh_F → Prop} {A : sa} {b : Nat} {st : Nat → Nat} {P : UInt64 → Prop} (hb : b < 8) (h : RM M A) (h0 : ¬ a_st A b = 0) (hac : a_ac A b ≤ 4) (hok : d_ok (a_d A) (a_w A)) (hv : sv (a_nu A) st P) (hz : ∀ M', RM M' (a_act A b).2 → fr_O M M' → Z (.inl (some (.inl (.int (s_code (a_act A b).1)))), M')) : F_M_starting [.inr (40, 1), .inl (.int (nI b))] M Z := by
  have hs := h.2.2.2.2.2.2
  obtain ⟨τ, h1, hτ⟩ := h.1
  have hst3 : ∀ o, o < 8 → d_st (a_d A) o ≤ 3 := fun o ho => (h1.2.2 o ho).1.2.1
  refine be_M_starting b hb hs ⟨fun q => ?_, fun q => ?_⟩
  · have q1 : ¬ a_st A b = 1 := fun c => q ((h1.one hb).mpr c)
    have eA : a_act A b = a_fin A b := by
      unfold a_act
      rw [if_neg q1]
    rw [eA] at hz
    exact cr_fin none hb h h0 hac hv hz
  · have q1 : a_st A b = 1 := (h1.one hb).mp (Decidable.of_not_not q)
    have eA : a_act A b = if (d_run (a_d A) (a_w A) b).1 = 1 then a_fin (a_res A (d_run (a_d A) (a_w A) b)) b else ((d_run (a_d A) (a_w A) b).1, a_res A (d_run (a_d A) (a_w A) b)) := by
      unfold a_act
      rw [if_pos q1]
    rw [eA] at hz
    obtain ⟨k1, k2, -, k4, -⟩ := d_run_ok hb q1 hst3 hok
    refine cm_M_resolving hb q1 h1 hok hs (fun M' g1 g2 g3 f => ?_)
    have h2 : RM M' (a_res A (d_run (a_d A) (a_w A) b)) := h.run hτ g1 g2 g3 f (fun x hx c => fun c2 => c ((d_run_st0 hb q1 hst3 hok hx).mpr c2)) k2
    have hs2 := h2.2.2.2.2.2.2
    refine bk_M_starting_15 b none _ hb hs2 ⟨fun q2 => ?_, fun q2 => ?_⟩
    · have q3 : (d_run (a_d A) (a_w A) b).1 = 1 := by
        rcases k4 with ⟨c, -⟩ | ⟨c | c, -⟩
        · exact c
        · rw [c] at q2
          exact absurd q2 (by decide)
        · rw [c] at q2
          exact absurd q2 (by decide)
      rw [if_pos q3] at hz
      refine cr_fin _ hb h2 (fun c => ?_) hac hv (fun M2 h3 f2 => hz M2 h3 (fr_O_trans f.O f2))
      have c := (d_run_st0 hb q1 hst3 hok hb).mp c
      exact h0 c
    · rcases k4 with ⟨c, -⟩ | ⟨c | c, -⟩
      · rw [c] at q2
        exact absurd rfl q2
      · rw [if_neg (by omega), c] at hz
        rw [c]
        exact ⟨fun q3 => absurd rfl q3, fun _ => hz M' h2 f.O⟩
      · rw [if_neg (by omega), c] at hz
        rw [c]
        exact ⟨fun _ => hz M' h2 f.O, fun q3 => absurd (by decide) q3⟩
