/-! WHAT BOTH HOLD: services and events as the reference keeps them (the memory ν), the rest as functions -/
def ag (μ ν : bh_M) : Prop := (∀ a, (a = 65 ∨ a = 66 ∨ a = 67 ∨ a = 69 ∨ a = 70) → bh_I μ a = bh_I ν a) ∧ (∀ c, 34 ≤ c → c ≤ 38 → bh_I μ 40 1 c = bh_I ν 40 1 c) ∧ bh_D μ 68 = bh_D ν 68
theorem ag_refl (μ : bh_M) : ag μ μ := ⟨fun _ _ => rfl, fun _ _ _ => rfl, rfl⟩
theorem ag_symm {μ ν : bh_M} (h : ag μ ν) : ag ν μ := ⟨fun a ha => (h.1 a ha).symm, fun c h1 h2 => (h.2.1 c h1 h2).symm, h.2.2.symm⟩
theorem ag_trans {μ ν ρ : bh_M} (h : ag μ ν) (g : ag ν ρ) : ag μ ρ := ⟨fun a ha => (h.1 a ha).trans (g.1 a ha), fun c h1 h2 => (h.2.1 c h1 h2).trans (g.2.1 c h1 h2), h.2.2.trans g.2.2⟩
theorem ag_sI {μ ν : bh_M} (h : ag μ ν) (t x j : Nat) (v : Int32) : ag (bh_sI μ t x j v) (bh_sI ν t x j v) := by
  refine ⟨fun a ha => ?_, fun c h1 h2 => ?_, h.2.2⟩
  · funext y c
    show (if a = t ∧ y = x ∧ c = j then v else bh_I μ a y c) = if a = t ∧ y = x ∧ c = j then v else bh_I ν a y c
    rw [h.1 a ha]
  · show (if 40 = t ∧ 1 = x ∧ c = j then v else bh_I μ 40 1 c) = if 40 = t ∧ 1 = x ∧ c = j then v else bh_I ν 40 1 c
    rw [h.2.1 c h1 h2]
theorem ag_sD {μ ν : bh_M} (h : ag μ ν) (x j : Nat) (v : UInt64) : ag (bh_sD μ 68 x j v) (bh_sD ν 68 x j v) := by
  refine ⟨h.1, h.2.1, ?_⟩
  funext y c
  show (if 68 = 68 ∧ y = x ∧ c = j then v else bh_D μ 68 y c) = if 68 = 68 ∧ y = x ∧ c = j then v else bh_D ν 68 y c
  rw [h.2.2]
theorem ag_A {μ ν : bh_M} (h : ag μ ν) {f g : Nat → Nat → Int32} (hf : f = g) : ag (bm_A μ 69 f) (bm_A ν 69 g) := by
  subst hf
  refine ⟨fun a ha => ?_, h.2.1, h.2.2⟩
  funext y c
  show (if a = 69 then f y c else bh_I μ a y c) = if a = 69 then f y c else bh_I ν a y c
  rw [h.1 a ha]
theorem ag_no {μ ν : bh_M} (h : ag μ ν) {t x j : Nat} {v : Int32} (ht : ¬ (t = 65 ∨ t = 66 ∨ t = 67 ∨ t = 69 ∨ t = 70)) (hj : t = 40 → ¬ (34 ≤ j ∧ j ≤ 38)) : ag (bh_sI μ t x j v) ν := by
  refine ⟨fun a ha => ?_, fun c h1 h2 => ?_, h.2.2⟩
  · rw [← h.1 a ha]
    funext y c
    show (if a = t ∧ y = x ∧ c = j then v else bh_I μ a y c) = _
    rw [if_neg (fun q => ht (by rw [← q.1]; exact ha))]
  · rw [← h.2.1 c h1 h2]
    show (if 40 = t ∧ 1 = x ∧ c = j then v else bh_I μ 40 1 c) = _
    rw [if_neg (fun q => hj q.1.symm (by omega))]
theorem ag_note {μ ν : bh_M} (h : ag μ ν) (x : Int32) : ag (sp_note μ x) (sp_note ν x) := by
  unfold sp_note
  rw [h.2.1 37 (by decide) (by decide), h.2.1 38 (by decide) (by decide)]
  split
  · exact ag_sI h _ _ _ _
  · exact ag_sI (ag_sI h _ _ _ _) _ _ _ _
theorem ag_put {μ ν : bh_M} (h : ag μ ν) (n : Nat) (b k : Int32) (r : UInt64) : ag (sp_put μ n b k r) (sp_put ν n b k r) := by
  unfold sp_put
  rw [h.2.1 34 (by decide) (by decide), h.2.1 35 (by decide) (by decide)]
  refine ag_note (ag_sI (ag_sI (ag_A (ag_sD (ag_sI (ag_sI (ag_sI h _ _ _ _) _ _ _ _) _ _ _ _) _ _ _) ?_) _ _ _ _) _ _ _ _) _
  rw [h.1 69 (by decide)]
theorem ag_dm {μ ν : bh_M} (h : ag μ ν) (s i q : Nat) : ag (sp_dm μ s i q) (sp_dm ν s i q) := by
  refine ⟨fun a ha => ?_, fun c h1 h2 => h.2.1 c h1 h2, ?_⟩
  · funext b c
    show (if (a = 65 ∨ a = 66 ∨ a = 67) ∧ b = 1 ∧ s ≤ c ∧ c < i then bh_I μ a 1 (c + 1) else if a = 69 ∧ b = 1 ∧ 8 * s ≤ c ∧ c < q then bh_I μ 69 1 (c + 8) else bh_I μ a b c) = if (a = 65 ∨ a = 66 ∨ a = 67) ∧ b = 1 ∧ s ≤ c ∧ c < i then bh_I ν a 1 (c + 1) else if a = 69 ∧ b = 1 ∧ 8 * s ≤ c ∧ c < q then bh_I ν 69 1 (c + 8) else bh_I ν a b c
    rw [h.1 a ha, h.1 69 (by decide)]
  · funext b c
    show (if 68 = 68 ∧ b = 1 ∧ s ≤ c ∧ c < i then bh_D μ 68 1 (c + 1) else bh_D μ 68 b c) = if 68 = 68 ∧ b = 1 ∧ s ≤ c ∧ c < i then bh_D ν 68 1 (c + 1) else bh_D ν 68 b c
    rw [h.2.2]
theorem ag_drop {μ ν : bh_M} (h : ag μ ν) (s m : Nat) : ag (sp_drop μ s m) (sp_drop ν s m) := by
  unfold sp_drop
  rw [h.1 65 (by decide)]
  exact ag_dm (ag_sI (ag_note h _) _ _ _ _) _ _ _
theorem ag_sweep {b : Nat} : ∀ (k : Nat) {μ ν : bh_M} (s : Nat), ag μ ν → ag (sp_sweep b k μ s) (sp_sweep b k ν s)
  | 0, μ, ν, s, h => h
  | k + 1, μ, ν, s, h => by
    unfold sp_sweep
    rw [h.1 66 (by decide)]
    split
    · exact ag_sweep k s (ag_drop h _ _)
    · exact ag_sweep k (s + 1) h
theorem ag_back {μ ν : bh_M} (h : ag μ ν) (b n : Nat) : ag (sp_back μ b n) (sp_back ν b n) := by
  unfold sp_back
  refine ag_A h ?_
  rw [h.1 69 (by decide)]
theorem ag_stop {μ ν : bh_M} (h : ag μ ν) (b : Nat) : ag (sp_stop μ b) (sp_stop ν b) := by
  unfold sp_stop
  rw [h.2.1 34 (by decide) (by decide)]
  have h1 := ag_sweep (b := b) (bh_I ν 40 1 34).toNatClampNeg 0 h
  rw [h1.2.1 34 (by decide) (by decide)]
  exact ag_note (ag_sI (ag_back h1 _ _) _ _ _ _) _
/-- the class sees only these cells of ν -/
theorem rc_E_ag {M μ ν : bh_M} (h : rc_E M μ) (g : ag μ ν) : rc_E M ν := by
  obtain ⟨o, k, h1, h2, h3, h4, h5, h6, h7⟩ := h
  refine ⟨o, k, h1, h2, h3, h4, ?_, ?_, ?_⟩
  · rw [← g.2.1 37 (by decide) (by decide)]; exact h5
  · rw [← g.2.1 38 (by decide) (by decide)]; exact h6
  · rw [← g.1 70 (by decide)]; exact h7
theorem rc_S_ag {M μ ν : bh_M} {n : Nat} (h : rc_S M μ n) (g : ag μ ν) : rc_S M ν n := by
  obtain ⟨h1, h2, h3, h4, h5, h6⟩ := h
  refine ⟨h1, h2, ?_, ?_, h5, ?_⟩
  · rw [← g.2.1 34 (by decide) (by decide)]; exact h3
  · rw [← g.2.1 35 (by decide) (by decide)]; exact h4
  · rw [← g.1 65 (by decide), ← g.1 66 (by decide), ← g.1 67 (by decide), ← g.1 69 (by decide), ← g.2.2]
    exact h6
/-- the state: bundles, wires, exports, then levels, activators, wanted, started; services and events; level of the framework, tries, taken in; how many new lives there were -/
abbrev sa : Type := sd × sw × sx × (Nat → Nat) × (Nat → Nat) × (Nat → Bool) × (Nat → Bool) × bh_M × Nat × Nat × Int32 × Nat
def a_d (A : sa) : sd := A.1
def a_w (A : sa) : sw := A.2.1
def a_e (A : sa) : sx := A.2.2.1
def a_lv (A : sa) : Nat → Nat := A.2.2.2.1
def a_ac (A : sa) : Nat → Nat := A.2.2.2.2.1
def a_wa (A : sa) : Nat → Bool := A.2.2.2.2.2.1
def a_hs (A : sa) : Nat → Bool := A.2.2.2.2.2.2.1
def a_nu (A : sa) : bh_M := A.2.2.2.2.2.2.2.1
def a_fl (A : sa) : Nat := A.2.2.2.2.2.2.2.2.1
def a_tr (A : sa) : Nat := A.2.2.2.2.2.2.2.2.2.1
def a_tk (A : sa) : Int32 := A.2.2.2.2.2.2.2.2.2.2.1
def a_ck (A : sa) : Nat := A.2.2.2.2.2.2.2.2.2.2.2
def a_st (A : sa) : Nat → Nat := d_st (a_d A)
def bI (b : Bool) : Int32 := if b then 1 else 0
def RC (M : bh_M) (A : sa) : Prop :=
  rdC M (a_d A) (a_w A) ∧
  (∀ b, b < 8 → bh_I M 5 (b + 1) 7 = bI (a_wa A b) ∧ bh_I M 7 (b + 1) 7 = nI (x_n (a_e A) b) ∧ (¬ a_st A b = 0 → bh_I M 5 (b + 1) 5 = nI (a_lv A b) ∧ bh_I M 5 (b + 1) 6 = nI (a_ac A b) ∧ bh_I M 5 (b + 1) 8 = bI (a_hs A b))) ∧
  rc_E M (a_nu A) ∧ (∃ n, rc_S M (a_nu A) n) ∧ bh_I M 3 1 4 = nI (a_fl A) ∧ bh_I M 15 1 4 = nI (a_tr A) ∧ bh_I M 15 1 5 = a_tk A ∧ bh_stat M.2.2.2
def RM (M : bh_M) (A : sa) : Prop :=
  (∃ τ, rdM M (a_d A) (a_w A) (a_e A) τ ∧ ∀ b, b < 8 → ∃ t, bh_J M 47 1 b = nJ t ∧ t ≤ a_ck A ∧ ∀ l, l ≤ d_lf (a_d A) b → τ b l ≤ t) ∧
  (∀ b, b < 8 → ¬ a_st A b = 0 → bh_I M 43 1 b = nI (a_lv A b) ∧ bh_I M 44 1 b = nI (a_ac A b) ∧ bh_I M 45 1 b = bI (a_wa A b) ∧ bh_I M 46 1 b = bI (a_hs A b)) ∧
  ag M (a_nu A) ∧ bh_I M 40 1 39 = nI (a_fl A) ∧ bh_I M 40 1 27 = nI (a_tr A) ∧ bh_I M 40 1 28 = a_tk A ∧ bh_stat M.2.2.2
def fr_C (M M' : bh_M) : Prop := (∀ a, (a < 3 ∨ 24 < a) → bh_I M' a = bh_I M a) ∧ bh_J M' = bh_J M ∧ (∀ a, a ≠ 21 → bh_D M' a = bh_D M a) ∧ (∀ a, a ≠ 20 → bh_R M' a = bh_R M a) ∧ bh_stat M'.2.2.2
theorem fr_C_refl {M : bh_M} (hs : bh_stat M.2.2.2) : fr_C M M := ⟨fun _ _ => rfl, rfl, fun _ _ => rfl, fun _ _ => rfl, hs⟩
theorem fr_C_trans {M M' M'' : bh_M} (h : fr_C M M') (g : fr_C M' M'') : fr_C M M'' := ⟨fun a h1 => (g.1 a h1).trans (h.1 a h1), g.2.1.trans h.2.1, fun a h1 => (g.2.2.1 a h1).trans (h.2.2.1 a h1), fun a h1 => (g.2.2.2.1 a h1).trans (h.2.2.2.1 a h1), g.2.2.2.2⟩
theorem fr_SE.C {M M' : bh_M} (h : fr_SE M M') : fr_C M M' := ⟨fun a h1 => h.1 a (by omega) (by omega) (by omega) (by omega) (by omega), h.2.1, h.2.2.1, h.2.2.2.2, h.2.2.2.1⟩
theorem fr_R.C {M M' : bh_M} (h : fr_R M M') (hs : bh_stat M.2.2.2) : fr_C M M' := ⟨fun a h1 => h.1 a (by omega) (by omega) (by omega) (by omega) (by omega) (by omega), congrArg (fun q => q.1) h.2.2, fun a _ => congrFun (congrArg (fun q => q.2.1) h.2.2) a, fun a _ => congrFun (congrArg (fun q => q.2.2.1) h.2.2) a, by rw [h.2.2]; exact hs⟩
theorem fr_C_I {M : bh_M} (hs : bh_stat M.2.2.2) {t : Nat} (ht : 3 ≤ t ∧ t ≤ 24) (x j : Nat) (v : Int32) : fr_C M (bh_sI M t x j v) := ⟨fun a h1 => by
  funext y c
  exact if_neg (fun q => by omega), rfl, fun _ _ => rfl, fun _ _ => rfl, hs⟩
theorem fr_C_fill {M : bh_M} (hs : bh_stat M.2.2.2) {t : Nat} (ht : 3 ≤ t ∧ t ≤ 24) (x n : Nat) (v : Int32) : fr_C M (bm_fill M t x n v) := ⟨fun a h1 => by
  funext y c
  exact if_neg (fun q => by omega), rfl, fun _ _ => rfl, fun _ _ => rfl, hs⟩
def fr_P (M M' : bh_M) : Prop := (∀ a, (a < 40 ∨ 70 < a) → bh_I M' a = bh_I M a ∧ bh_J M' a = bh_J M a) ∧ (∀ a, a ≠ 68 → bh_D M' a = bh_D M a) ∧ M'.2.2.2 = M.2.2.2
theorem fr_P_refl (M : bh_M) : fr_P M M := ⟨fun _ _ => ⟨rfl, rfl⟩, fun _ _ => rfl, rfl⟩
theorem fr_P_trans {M M' M'' : bh_M} (h : fr_P M M') (g : fr_P M' M'') : fr_P M M'' := ⟨fun a h1 => ⟨(g.1 a h1).1.trans (h.1 a h1).1, (g.1 a h1).2.trans (h.1 a h1).2⟩, fun a h1 => (g.2.1 a h1).trans (h.2.1 a h1), g.2.2.trans h.2.2⟩
theorem fr_P.stat {M M' : bh_M} (h : fr_P M M') (hs : bh_stat M.2.2.2) : bh_stat M'.2.2.2 := by rw [h.2.2]; exact hs
theorem fr_P_I (M : bh_M) {t : Nat} (ht : 40 ≤ t ∧ t ≤ 70) (x j : Nat) (v : Int32) : fr_P M (bh_sI M t x j v) := ⟨fun a h1 => ⟨by
  funext y c
  exact if_neg (fun q => by omega), rfl⟩, fun _ _ => rfl, rfl⟩
/-- the same, and what was thrown is as it was -/
def fr_O (M M' : bh_M) : Prop := fr_P M M' ∧ bh_I M' 40 1 0 = bh_I M 40 1 0
theorem fr_O_refl (M : bh_M) : fr_O M M := ⟨fr_P_refl M, rfl⟩
theorem fr_O_trans {M M' M'' : bh_M} (h : fr_O M M') (g : fr_O M' M'') : fr_O M M'' := ⟨fr_P_trans h.1 g.1, g.2.trans h.2⟩
theorem fr_O.stat {M M' : bh_M} (h : fr_O M M') (hs : bh_stat M.2.2.2) : bh_stat M'.2.2.2 := h.1.stat hs
theorem fr_O_I (M : bh_M) {t : Nat} (ht : 40 ≤ t ∧ t ≤ 70) (x j : Nat) (v : Int32) (h0 : ¬ (t = 40 ∧ x = 1 ∧ j = 0) := by omega) : fr_O M (bh_sI M t x j v) := ⟨fr_P_I M ht x j v, if_neg (fun q => h0 ⟨q.1.symm, q.2.1.symm, q.2.2.symm⟩)⟩
theorem fr_O_J (M : bh_M) {t : Nat} (ht : 40 ≤ t ∧ t ≤ 70) (x j : Nat) (v : Int64) : fr_O M (bh_sJ M t x j v) := ⟨⟨fun a h1 => ⟨rfl, by
  funext y c
  exact if_neg (fun q => by omega)⟩, fun _ _ => rfl, rfl⟩, rfl⟩
theorem fr_O_D (M : bh_M) (x j : Nat) (v : UInt64) : fr_O M (bh_sD M 68 x j v) := ⟨⟨fun a h1 => ⟨rfl, rfl⟩, fun a h1 => by
  funext y c
  exact if_neg (fun q => h1 q.1), rfl⟩, rfl⟩
theorem fr_O_A (M : bh_M) {t : Nat} (ht : 41 ≤ t ∧ t ≤ 70) (f : Nat → Nat → Int32) : fr_O M (bm_A M t f) := ⟨⟨fun a h1 => ⟨by
  funext y c
  exact if_neg (fun q => by omega), rfl⟩, fun _ _ => rfl, rfl⟩, if_neg (fun q => by omega)⟩
theorem fr_O_AJ (M : bh_M) {t : Nat} (ht : 40 ≤ t ∧ t ≤ 70) (f : Nat → Nat → Int64) : fr_O M (bm_AJ M t f) := ⟨⟨fun a h1 => ⟨rfl, by
  funext y c
  exact if_neg (fun q => by omega)⟩, fun _ _ => rfl, rfl⟩, rfl⟩
theorem fr_O_note (M : bh_M) (x : Int32) : fr_O M (sp_note M x) := by
  unfold sp_note
  split
  · exact fr_O_I M ⟨by decide, by decide⟩ _ _ _
  · exact fr_O_trans (fr_O_I M ⟨by decide, by decide⟩ _ _ _) (fr_O_I _ ⟨by decide, by decide⟩ _ _ _)
theorem fr_O_put (M : bh_M) (n : Nat) (b k : Int32) (r : UInt64) : fr_O M (sp_put M n b k r) := by
  unfold sp_put
  exact fr_O_trans (fr_O_trans (fr_O_trans (fr_O_trans (fr_O_trans (fr_O_trans (fr_O_trans (fr_O_I M ⟨by decide, by decide⟩ _ _ _) (fr_O_I _ ⟨by decide, by decide⟩ _ _ _)) (fr_O_I _ ⟨by decide, by decide⟩ _ _ _)) (fr_O_D _ _ _ _)) (fr_O_A _ ⟨by decide, by decide⟩ _)) (fr_O_I _ ⟨by decide, by decide⟩ _ _ _)) (fr_O_I _ ⟨by decide, by decide⟩ _ _ _)) (fr_O_note _ _)
theorem fr_O_dm (M : bh_M) (s i q : Nat) : fr_O M (sp_dm M s i q) := ⟨⟨fun a h1 => ⟨by
  funext b c
  show (if (a = 65 ∨ a = 66 ∨ a = 67) ∧ b = 1 ∧ s ≤ c ∧ c < i then bh_I M a 1 (c + 1) else if a = 69 ∧ b = 1 ∧ 8 * s ≤ c ∧ c < q then bh_I M 69 1 (c + 8) else bh_I M a b c) = _
  rw [if_neg (fun q => by omega), if_neg (fun q => by omega)], rfl⟩, fun a h1 => by
  funext b c
  exact if_neg (fun q => h1 q.1), rfl⟩, rfl⟩
theorem fr_O_drop (M : bh_M) (s m : Nat) : fr_O M (sp_drop M s m) := fr_O_trans (fr_O_trans (fr_O_note _ _) (fr_O_I _ ⟨by decide, by decide⟩ _ _ _)) (fr_O_dm _ _ _ _)
theorem fr_O_sweep {b : Nat} : ∀ (k : Nat) (M : bh_M) (s : Nat), fr_O M (sp_sweep b k M s)
  | 0, M, s => fr_O_refl M
  | k + 1, M, s => by
    unfold sp_sweep
    split
    · exact fr_O_trans (fr_O_drop M _ _) (fr_O_sweep k _ s)
    · exact fr_O_sweep k M (s + 1)
theorem fr_O_stop (M : bh_M) (b : Nat) : fr_O M (sp_stop M b) := fr_O_trans (fr_O_trans (fr_O_trans (fr_O_sweep _ M 0) (fr_O_A _ ⟨by decide, by decide⟩ _)) (fr_O_I _ ⟨by decide, by decide⟩ _ _ _)) (fr_O_note _ _)
theorem fr_Q.O {M M' : bh_M} (h : fr_Q M M') : fr_O M M' := ⟨⟨fun a h1 => ⟨h.1 a (by omega) (by omega) (by omega) (by omega) (by omega) (by omega) (by omega) (by omega) (by omega), h.2.2.1 a (by omega)⟩, fun a _ => congrFun (congrArg (fun q => q.1) h.2.2.2) a, congrArg (fun q => q.2) h.2.2.2⟩, h.2.1 0 (by decide) (by decide) (by decide) (by decide)⟩
theorem RC.mv {M M' : bh_M} {A : sa} (h : RC M A) (f : fr_P M M') : RC M' A := by
  have fI : ∀ a, a < 40 → bh_I M' a = bh_I M a := fun a ha => (f.1 a (Or.inl ha)).1
  have fD : bh_D M' 21 = bh_D M 21 := f.2.1 21 (by decide)
  have fR : bh_R M' = bh_R M := congrArg (fun q => q.1) f.2.2
  obtain ⟨h1, h2, h3, ⟨n, h4⟩, h5, h6, h7, h8⟩ := h
  refine ⟨fun b hb => ?_, fun b hb => ?_, ?_, ⟨n, ?_⟩, ?_, ?_, ?_, by rw [f.2.2]; exact h8⟩
  · rw [fI 5 (by decide), fI 8 (by decide), fI 9 (by decide), fI 7 (by decide), fI 11 (by decide), fI 12 (by decide), fI 13 (by decide), fI 14 (by decide), fI 10 (by decide), fI 6 (by decide)]
    exact h1 b hb
  · rw [fI 5 (by decide), fI 7 (by decide)]
    exact h2 b hb
  · unfold rc_E
    rw [fI 23 (by decide), fI 24 (by decide)]
    exact h3
  · unfold rc_S
    rw [fI 19 (by decide), fI 21 (by decide), fI 22 (by decide), fR, fD]
    exact h4
  · rw [fI 3 (by decide)]; exact h5
  · rw [fI 15 (by decide)]; exact h6
  · rw [fI 15 (by decide)]; exact h7
theorem RM.mv {M M' : bh_M} {A : sa} (h : RM M A) (f : fr_C M M') : RM M' A := by
  have fI : ∀ a, 24 < a → bh_I M' a = bh_I M a := fun a ha => f.1 a (Or.inr ha)
  obtain ⟨⟨τ, h1, h2⟩, h3, h4, h5, h6, h7, h8⟩ := h
  refine ⟨⟨τ, ⟨h1.1, h1.2.1, fun b hb => ?_⟩, fun b hb => ?_⟩, fun b hb => ?_, ?_, ?_, ?_, ?_, f.2.2.2.2⟩
  · rw [f.2.1, fI 41 (by decide), fI 42 (by decide), fI 48 (by decide), fI 49 (by decide), fI 50 (by decide), fI 51 (by decide), fI 52 (by decide), fI 53 (by decide), fI 54 (by decide), fI 55 (by decide), fI 56 (by decide)]
    exact h1.2.2 b hb
  · rw [f.2.1]
    exact h2 b hb
  · rw [fI 43 (by decide), fI 44 (by decide), fI 45 (by decide), fI 46 (by decide)]
    exact h3 b hb
  · refine ⟨fun a ha => by rw [fI a (by omega)]; exact h4.1 a ha, fun c c1 c2 => by rw [fI 40 (by decide)]; exact h4.2.1 c c1 c2, by rw [f.2.2.1 68 (by decide)]; exact h4.2.2⟩
  · rw [fI 40 (by decide)]; exact h5
  · rw [fI 40 (by decide)]; exact h6
  · rw [fI 40 (by decide)]; exact h7
