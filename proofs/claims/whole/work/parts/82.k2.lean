/-! LEVEL, both sides -/
abbrev sn : Type := Int32 × sa
def a_sfl (A : sa) (v : Nat) : sa := (A.1, A.2.1, A.2.2.1, A.2.2.2.1, A.2.2.2.2.1, A.2.2.2.2.2.1, A.2.2.2.2.2.2.1, A.2.2.2.2.2.2.2.1, v, A.2.2.2.2.2.2.2.2.2)
def lv_u (m b : Nat) (x : sn) : sn := if a_wa x.2 b = true ∧ a_lv x.2 b = m ∧ ¬ a_st x.2 b = 3 ∧ ¬ a_st x.2 b = 0 then (if (a_act x.2 b).1 = 1 then x.1 + 1 else x.1, (a_act x.2 b).2) else x
def lv_U (m : Nat) : Nat → sn → sn
  | 0, x => x
  | k + 1, x => lv_U m k (lv_u m (7 - k) x)
def lv_UL : Nat → Nat → sn → sn
  | _, 0, x => x
  | m, k + 1, x => lv_UL (m + 1) k (lv_U m 8 x)
def lv_d (m b : Nat) (x : sn) : sn := if a_st x.2 b = 3 ∧ a_lv x.2 b = m then (x.1 + 1, a_stop x.2 b) else x
def lv_D (m : Nat) : Nat → sn → sn
  | 0, x => x
  | b + 1, x => lv_D m b (lv_d m b x)
def lv_DL (l : Nat) : Nat → sn → sn
  | 0, x => x
  | k + 1, x => lv_DL l k (lv_D (l + k + 1) 8 x)
def lv_all (f l : Nat) (A : sa) : sn := lv_DL l (f - l) (lv_UL (f + 1) (l - f) (0, A))
def o_level (A : sa) (a : Int32) : sr := if ¬ a < 1 ∧ a ≤ 5 then (0, (lv_all (a_fl A) a.toNatClampNeg A).1, a_sfl (lv_all (a_fl A) a.toNatClampNeg A).2 a.toNatClampNeg) else (1, 0, A)
theorem wa_u {m b : Nat} {x : sn} (hb : b < 8) (h : WA x.2) : WA (lv_u m b x).2 := by
  unfold lv_u
  split
  · rename_i c
    exact wa_act hb h c.2.2.2
  · exact h
theorem wa_U {m : Nat} : ∀ (k : Nat) {x : sn}, WA x.2 → WA (lv_U m k x).2
  | 0, x, h => h
  | k + 1, x, h => wa_U k (wa_u (by omega) h)
theorem wa_UL : ∀ (k m : Nat) {x : sn}, WA x.2 → WA (lv_UL m k x).2
  | 0, m, x, h => h
  | k + 1, m, x, h => wa_UL k (m + 1) (wa_U 8 h)
theorem wa_d {m b : Nat} {x : sn} (hb : b < 8) (h : WA x.2) : WA (lv_d m b x).2 := by
  unfold lv_d
  split
  · rename_i c
    exact wa_stop hb h c.1
  · exact h
theorem wa_D {m : Nat} : ∀ (k : Nat) {x : sn}, k ≤ 8 → WA x.2 → WA (lv_D m k x).2
  | 0, x, _, h => h
  | k + 1, x, hk, h => wa_D k (by omega) (wa_d (by omega) h)
theorem wa_DL {l : Nat} : ∀ (k : Nat) {x : sn}, WA x.2 → WA (lv_DL l k x).2
  | 0, x, h => h
  | k + 1, x, h => wa_DL k (wa_D 8 (Nat.le_refl _) h)
theorem lv_d_add (m b : Nat) (v : Int32) (x : sn) : lv_d m b (v + x.1, x.2) = (v + (lv_d m b x).1, (lv_d m b x).2) := by
  unfold lv_d
  split
  · show (v + x.1 + 1, a_stop x.2 b) = (v + (x.1 + 1), a_stop x.2 b)
    rw [Int32.add_assoc]
  · rfl
theorem lv_D_add (m : Nat) (v : Int32) : ∀ (k : Nat) (x : sn), lv_D m k (v + x.1, x.2) = (v + (lv_D m k x).1, (lv_D m k x).2)
  | 0, x => rfl
  | k + 1, x => by
    show lv_D m k (lv_d m k (v + x.1, x.2)) = _
    rw [lv_d_add, lv_D_add m v k (lv_d m k x)]
    rfl
/-- the framework's level is not looked at -/
def a_actc (c : Nat) (A : sa) (b : Nat) : Bool × sa := match c with
  | 0 => (true, A)
  | 1 => (false, A)
  | 2 => if a_n A = 20 then (false, A) else (true, a_snu A (sp_put (a_nu A) (a_n A) (nI b) 0 (FP.i2d (nI b))))
  | 3 => match a_best (a_nu A) 0 with
    | none => (false, A)
    | some s => (true, a_snu A (a_got (a_nu A) s b (bh_I (a_nu A) 69 1 (8 * s + b) + 1)))
  | _ => (!a_hs A b, A)
theorem a_actc_fl (c : Nat) (A : sa) (b v : Nat) : a_actc c (a_sfl A v) b = ((a_actc c A b).1, a_sfl (a_actc c A b).2 v) := by
  match c with
  | 0 => rfl
  | 1 => rfl
  | 2 =>
    show (if a_n A = 20 then (false, a_sfl A v) else (true, a_snu (a_sfl A v) (sp_put (a_nu A) (a_n A) (nI b) 0 (FP.i2d (nI b))))) = ((if a_n A = 20 then (false, A) else (true, a_snu A (sp_put (a_nu A) (a_n A) (nI b) 0 (FP.i2d (nI b))))).1, a_sfl (if a_n A = 20 then (false, A) else (true, a_snu A (sp_put (a_nu A) (a_n A) (nI b) 0 (FP.i2d (nI b))))).2 v)
    split <;> rfl
  | 3 =>
    show (match a_best (a_nu A) 0 with
      | none => (false, a_sfl A v)
      | some s => (true, a_snu (a_sfl A v) (a_got (a_nu A) s b (bh_I (a_nu A) 69 1 (8 * s + b) + 1)))) = ((match a_best (a_nu A) 0 with
      | none => (false, A)
      | some s => (true, a_snu A (a_got (a_nu A) s b (bh_I (a_nu A) 69 1 (8 * s + b) + 1)))).1, a_sfl (match a_best (a_nu A) 0 with
      | none => (false, A)
      | some s => (true, a_snu A (a_got (a_nu A) s b (bh_I (a_nu A) 69 1 (8 * s + b) + 1)))).2 v)
    cases a_best (a_nu A) 0 <;> rfl
  | n + 4 => rfl
theorem a_actr_fl (A : sa) (b v : Nat) : a_actr (a_sfl A v) b = ((a_actr A b).1, a_sfl (a_actr A b).2 v) := a_actc_fl (a_ac A b) A b v
theorem a_fin_fl (A : sa) (b v : Nat) : a_fin (a_sfl A v) b = ((a_fin A b).1, a_sfl (a_fin A b).2 v) := by
  unfold a_fin
  rw [a_actr_fl]
  show (if (a_actr A b).1 then (1, a_done (a_sfl (a_actr A b).2 v) b) else (4, a_sfl (a_actr A b).2 v)) = _
  split <;> rfl
theorem a_act_fl (A : sa) (b v : Nat) : a_act (a_sfl A v) b = ((a_act A b).1, a_sfl (a_act A b).2 v) := by
  unfold a_act
  show (if a_st A b = 1 then (if (d_run (a_d A) (a_w A) b).1 = 1 then a_fin (a_sfl (a_res A (d_run (a_d A) (a_w A) b)) v) b else ((d_run (a_d A) (a_w A) b).1, a_sfl (a_res A (d_run (a_d A) (a_w A) b)) v)) else a_fin (a_sfl A v) b) = _
  rw [a_fin_fl, a_fin_fl]
  split
  · split <;> rfl
  · rfl
theorem lv_u_fl (m b v : Nat) (x : sn) : lv_u m b (x.1, a_sfl x.2 v) = ((lv_u m b x).1, a_sfl (lv_u m b x).2 v) := by
  unfold lv_u
  show (if a_wa x.2 b = true ∧ a_lv x.2 b = m ∧ ¬ a_st x.2 b = 3 ∧ ¬ a_st x.2 b = 0 then (if (a_act (a_sfl x.2 v) b).1 = 1 then x.1 + 1 else x.1, (a_act (a_sfl x.2 v) b).2) else (x.1, a_sfl x.2 v)) = _
  rw [a_act_fl]
  split <;> rfl
theorem lv_U_fl (m v : Nat) : ∀ (k : Nat) (x : sn), lv_U m k (x.1, a_sfl x.2 v) = ((lv_U m k x).1, a_sfl (lv_U m k x).2 v)
  | 0, x => rfl
  | k + 1, x => by
    show lv_U m k (lv_u m (7 - k) (x.1, a_sfl x.2 v)) = _
    rw [lv_u_fl, lv_U_fl m v k]
    rfl
theorem lv_UL_fl (v : Nat) : ∀ (k m : Nat) (x : sn), lv_UL m k (x.1, a_sfl x.2 v) = ((lv_UL m k x).1, a_sfl (lv_UL m k x).2 v)
  | 0, m, x => rfl
  | k + 1, m, x => by
    show lv_UL (m + 1) k (lv_U m 8 (x.1, a_sfl x.2 v)) = _
    rw [lv_U_fl, lv_UL_fl v k (m + 1)]
    rfl
theorem lv_d_fl (m b v : Nat) (x : sn) : lv_d m b (x.1, a_sfl x.2 v) = ((lv_d m b x).1, a_sfl (lv_d m b x).2 v) := by
  unfold lv_d
  show (if a_st x.2 b = 3 ∧ a_lv x.2 b = m then (x.1 + 1, a_sfl (a_stop x.2 b) v) else (x.1, a_sfl x.2 v)) = _
  split <;> rfl
theorem lv_D_fl (m v : Nat) : ∀ (k : Nat) (x : sn), lv_D m k (x.1, a_sfl x.2 v) = ((lv_D m k x).1, a_sfl (lv_D m k x).2 v)
  | 0, x => rfl
  | k + 1, x => by
    show lv_D m k (lv_d m k (x.1, a_sfl x.2 v)) = _
    rw [lv_d_fl, lv_D_fl m v k]
    rfl
theorem lv_DL_fl (l v : Nat) : ∀ (k : Nat) (x : sn), lv_DL l k (x.1, a_sfl x.2 v) = ((lv_DL l k x).1, a_sfl (lv_DL l k x).2 v)
  | 0, x => rfl
  | k + 1, x => by
    show lv_DL l k (lv_D (l + k + 1) 8 (x.1, a_sfl x.2 v)) = _
    rw [lv_D_fl, lv_DL_fl l v k]
    rfl
theorem lv_all_fl (f l v : Nat) (A : sa) : lv_all f l (a_sfl A v) = ((lv_all f l A).1, a_sfl (lv_all f l A).2 v) := by
  unfold lv_all
  have := lv_UL_fl v (l - f) (f + 1) (0, A)
  show lv_DL l (f - l) (lv_UL (f + 1) (l - f) (0, a_sfl A v)) = _
  rw [show lv_UL (f + 1) (l - f) (0, a_sfl A v) = _ from this, lv_DL_fl]
theorem cc_deactivateLevel {M : bh_M} {Z : bh_F → Prop} {A : sa} (h : RC M A) (hw : WA A) (m : Nat) (hm : m < 7) (hz : ∀ M', RC M' (lv_D m 8 (0, A)).2 → fr_C M M' → Z (.inl (some (.inl (.int (lv_D m 8 (0, A)).1))), M')) : F_H_deactivateLevel [.inr (3, 1), .inl (.int (nI m))] M Z := by
  refine be_H_deactivateLevel m h.hs ?_
  have key : ∀ b (x : sn) (M1 : bh_M), b < 8 → WA x.2 → RC M1 x.2 → fr_C M M1 → lv_D m (b + 1) x = lv_D m 8 (0, A) → bh_wp (bh_tb T_H_deactivateLevel) (5, [some (.inr (3, 1)), some (.inl (.int (nI m))), some (.inl (.int x.1)), some (.inl (.int (nI b)))], [], M1, 0) Z := by
    intro b
    induction b with
    | zero =>
      intro x M1 hb hw1 h1 f1 e1
      have fin : ∀ (y : sn) M2, lv_d m 0 x = y → RC M2 y.2 → fr_C M M2 → bh_wp (bh_tb T_H_deactivateLevel) (48, [some (.inr (3, 1)), some (.inl (.int (nI m))), some (.inl (.int y.1)), some (.inl (.int (nI 0)))], [], M2, 0) Z := by
        intro y M2 ey h2 f2
        have e2 : y = lv_D m 8 (0, A) := by rw [← e1, ← ey]; rfl
        rw [← e2] at hz
        exact bk0_H_deactivateLevel_48 m y.1 h2.hs (bx_H_deactivateLevel_5 m y.1 _ (by decide) h2.hs (hz M2 h2 f2))
      refine bl_H_deactivateLevel_5 m x.1 0 hb h1.hs ?_
      rw [show bh_I M1 5 (0 + 1) 3 = 3 ↔ a_st x.2 0 = 3 from h1.stq hb 3 (by decide)]
      refine ⟨fun q => fin x M1 (if_neg (fun c => q c.1)) h1 f1, fun q => ?_⟩
      have q := Decidable.of_not_not q
      have h0 : ¬ a_st x.2 0 = 0 := by omega
      have hl5 := ((hw1.2.1 0 hb).2.2.2 h0).2.1
      rw [((h1.2.1 0 hb).2.2 h0).1, bn_inj (by omega) (by omega)]
      refine ⟨fun q2 => fin x M1 (if_neg (fun c => q2 c.2)) h1 f1, fun q2 => ?_⟩
      refine cc_deactivate hb h1 (fun _ M2 h2 f2 => ?_) (fun c => absurd q c)
      exact bk_H_deactivateLevel_45 m x.1 0 h2.hs (fin (x.1 + 1, a_stop x.2 0) M2 (if_pos ⟨q, Decidable.of_not_not q2⟩) h2 (fr_C_trans f1 f2))
    | succ b ih =>
      intro x M1 hb hw1 h1 f1 e1
      have nx : ∀ (y : sn) M2, lv_d m (b + 1) x = y → RC M2 y.2 → fr_C M M2 → bh_wp (bh_tb T_H_deactivateLevel) (48, [some (.inr (3, 1)), some (.inl (.int (nI m))), some (.inl (.int y.1)), some (.inl (.int (nI (b + 1))))], [], M2, 0) Z := by
        intro y M2 ey h2 f2
        have hw2 : WA y.2 := by rw [← ey]; exact wa_d hb hw1
        exact bk_H_deactivateLevel_48 m y.1 b h2.hs (ih y M2 (by omega) hw2 h2 f2 (by rw [← e1, ← ey]; rfl))
      refine bl_H_deactivateLevel_5 m x.1 (b + 1) hb h1.hs ?_
      rw [show bh_I M1 5 (b + 1 + 1) 3 = 3 ↔ a_st x.2 (b + 1) = 3 from h1.stq hb 3 (by decide)]
      refine ⟨fun q => nx x M1 (if_neg (fun c => q c.1)) h1 f1, fun q => ?_⟩
      have q := Decidable.of_not_not q
      have h0 : ¬ a_st x.2 (b + 1) = 0 := by omega
      have hl5 := ((hw1.2.1 (b + 1) hb).2.2.2 h0).2.1
      rw [((h1.2.1 (b + 1) hb).2.2 h0).1, bn_inj (by omega) (by omega)]
      refine ⟨fun q2 => nx x M1 (if_neg (fun c => q2 c.2)) h1 f1, fun q2 => ?_⟩
      refine cc_deactivate hb h1 (fun _ M2 h2 f2 => ?_) (fun c => absurd q c)
      exact bk_H_deactivateLevel_45 m x.1 (b + 1) h2.hs (nx (x.1 + 1, a_stop x.2 (b + 1)) M2 (if_pos ⟨q, Decidable.of_not_not q2⟩) h2 (fr_C_trans f1 f2))
  exact key 7 (0, A) M (by decide) hw h (fr_C_refl h.hs) rfl
theorem cc_level {M : bh_M} {Z : bh_F → Prop} {A : sa} (h : RC M A) (hw : WA A) (a : Int32) (hz : ∀ M', RC M' (o_level A a).2.2 → fr_C M M' → Z (rz E_one (o_level A a), M')) : F_H_level [.inr (3, 1), .inl (.int a)] M Z := by
  have hs := h.hs
  have bad : ¬ (¬ a < 1 ∧ a ≤ 5) → Z (.inr "java/lang/IllegalArgumentException", M) := by
    intro q
    rw [show o_level A a = (1, 0, A) from if_neg q] at hz
    exact hz M h (fr_C_refl hs)
  refine be_H_level a hs ⟨fun q => bad (fun c => c.1 q), fun q0 => ⟨fun q1 => ?_, fun q1 => bad (fun c => q1 c.2)⟩⟩
  have e1 : o_level A a = _ := if_pos ⟨q0, q1⟩
  rw [e1] at hz
  clear e1 bad
  have s9 : ¬ a < 0 := fun q => q0 (Int32.lt_trans q (by decide))
  obtain ⟨l, hl, rfl⟩ := i_nat (N := 5) s9 q1 (by decide)
  rw [bn_clamp (N := 6) (by omega) rfl] at hz
  have hf := hw.2.2.1
  rw [h.2.2.2.2.1, show (nI (a_fl A) + 1 : Int32) = nI (a_fl A + 1) from bn_add _ 1]
  have h1 : RC (bh_sI M 3 1 4 (nI l)) (a_sfl A l) := by
    obtain ⟨g1, g2, g3, g4, g5, g6, g7, g8⟩ := h
    exact ⟨g1, g2, g3, g4, rfl, g6, g7, g8⟩
  have f1 : fr_C M (bh_sI M 3 1 4 (nI l)) := fr_C_I hs ⟨by decide, by decide⟩ _ _ _
  have hw1 : WA (a_sfl A l) := ⟨hw.1, hw.2.1, by
    show 1 ≤ l ∧ l ≤ 5
    refine ⟨?_, hl⟩
    cases l with
    | zero => exact absurd (show nI 0 < 1 by decide) q0
    | succ l => omega, hw.2.2.2.1, hw.2.2.2.2⟩
  have hz : ∀ M', RC M' (lv_all (a_fl A) l (a_sfl A l)).2 → fr_C M M' → Z (.inl (some (.inl (.int (lv_all (a_fl A) l (a_sfl A l)).1))), M') := by
    rw [lv_all_fl]
    exact hz
  generalize hf9 : a_fl A = f at hz hf
  generalize hA1 : a_sfl A l = A1 at hz h1 hw1
  generalize hT : lv_all f l A1 = tgt at hz
  unfold lv_all at hT
  -- down
  have down : ∀ k (x : sn) (M1 : bh_M) (w5 : Option bh_V), l + k ≤ 5 → WA x.2 → RC M1 x.2 → fr_C M M1 → lv_DL l k x = tgt → bh_wp (bh_tb T_H_level) (89, [some (.inr (3, 1)), some (.inl (.int (nI l))), some (.inl (.int (nI f))), some (.inl (.int x.1)), some (.inl (.int (nI (l + k)))), w5], [], M1, 1) Z := by
    intro k
    induction k with
    | zero =>
      intro x M1 w5 hk hwx hx fx ex
      refine bk_H_level_89 l f x.1 (l + 0) w5 (by omega) (by omega) hx.hs ⟨fun _ => ?_, fun q => absurd (Nat.le_refl _) q⟩
      have ex : x = tgt := ex
      rw [← ex] at hz
      exact hz M1 hx fx
    | succ k ih =>
      intro x M1 w5 hk hwx hx fx ex
      have hw2 := wa_D (m := l + k + 1) 8 (Nat.le_refl _) hwx
      have ea := lv_D_add (l + k + 1) x.1 8 (0, x.2)
      rw [show x.1 + ((0, x.2) : sn).1 = x.1 from Int32.add_zero _] at ea
      have ex : lv_DL l k (lv_D (l + k + 1) 8 (x.1, x.2)) = tgt := ex
      have hw2 : WA (lv_D (l + k + 1) 8 (x.1, x.2)).2 := hw2
      rw [ea] at ex hw2
      refine bk_H_level_89 l f x.1 (l + k + 1) w5 (by omega) (by omega) hx.hs ⟨fun q => absurd q (by omega), fun _ => ?_⟩
      refine cc_deactivateLevel hx hwx (l + k + 1) (by omega) (fun M2 h2 f2 => ?_)
      generalize lv_D (l + k + 1) 8 (0, x.2) = y at h2 ex hw2 ⊢
      exact bk_H_level_102 l f x.1 w5 _ x.1 (l + k) h2.hs (ih (x.1 + y.1, y.2) M2 w5 (by omega) hw2 h2 (fr_C_trans fx f2) ex)
  by_cases c : l ≤ f
  · refine bk_H_level_23 l f 0 (f + 1) none (by omega) (by omega) h1.hs ⟨fun _ => ?_, fun q => absurd (by omega) q⟩
    refine bk_H_level_86 l f 0 _ none h1.hs ?_
    rw [show l - f = 0 by omega] at hT
    have := down (f - l) (0, A1) _ none (by omega) hw1 h1 f1 hT
    rw [show l + (f - l) = f by omega] at this
    exact this
  · rw [show f - l = 0 by omega] at hT
    have hT : lv_UL (f + 1) (l - f) (0, A1) = tgt := hT
    have up : ∀ k m (x : sn) (M1 : bh_M) (w5 : Option bh_V), m + k = l + 1 → WA x.2 → RC M1 x.2 → fr_C M M1 → lv_UL m k x = tgt → bh_wp (bh_tb T_H_level) (23, [some (.inr (3, 1)), some (.inl (.int (nI l))), some (.inl (.int (nI f))), some (.inl (.int x.1)), some (.inl (.int (nI m))), w5], [], M1, 1) Z := by
      intro k
      induction k with
      | zero =>
        intro m x M1 w5 hm hwx hx fx ex
        refine bk_H_level_23 l f x.1 m w5 (by omega) (by omega) hx.hs ⟨fun _ => ?_, fun q => absurd (by omega) q⟩
        refine bk_H_level_86 l f x.1 _ w5 hx.hs ?_
        refine bk_H_level_89 l f x.1 f w5 (by omega) (by omega) hx.hs ⟨fun _ => ?_, fun q => absurd (by omega) q⟩
        have ex : x = tgt := ex
        rw [← ex] at hz
        exact hz M1 hx fx
      | succ k ih =>
        intro m x M1 w5 hm hwx hx fx ex
        refine bk_H_level_23 l f x.1 m w5 (by omega) (by omega) hx.hs ⟨fun q => absurd q (by omega), fun _ => ?_⟩
        have ex : lv_UL (m + 1) k (lv_U m 8 x) = tgt := ex
        have inner : ∀ k' b (y : sn) (M2 : bh_M), b + k' = 8 → WA y.2 → RC M2 y.2 → fr_C M M2 → lv_UL (m + 1) k (lv_U m k' y) = tgt → bh_wp (bh_tb T_H_level) (32, [some (.inr (3, 1)), some (.inl (.int (nI l))), some (.inl (.int (nI f))), some (.inl (.int y.1)), some (.inl (.int (nI m))), some (.inl (.int (nI b)))], [], M2, 1) Z := by
          intro k'
          induction k' with
          | zero =>
            intro b y M2 hb hwy hy fy ey
            have : b = 8 := by omega
            subst this
            exact bx_H_level_32 l f y.1 m hy.hs (ih (m + 1) y M2 _ (by omega) hwy hy fy ey)
          | succ k' ih' =>
            intro b y M2 hb hwy hy fy ey
            have hb8 : b < 8 := by omega
            have ey : lv_UL (m + 1) k (lv_U m k' (lv_u m (7 - k') y)) = tgt := ey
            rw [show 7 - k' = b by omega] at ey
            have hwu : WA (lv_u m b y).2 := wa_u hb8 hwy
            have nx : ∀ (z : sn) M3, lv_u m b y = z → RC M3 z.2 → fr_C M M3 → bh_wp (bh_tb T_H_level) (32, [some (.inr (3, 1)), some (.inl (.int (nI l))), some (.inl (.int (nI f))), some (.inl (.int z.1)), some (.inl (.int (nI m))), some (.inl (.int (nI (b + 1))))], [], M3, 1) Z := by
              intro z M3 ez hz3 fz
              rw [ez] at ey hwu
              exact ih' (b + 1) z M3 (by omega) hwu hz3 fz ey
            refine bl_H_level_32 l f y.1 m b hb8 hy.hs ?_
            rw [(hy.2.1 b hb8).1, bI_0]
            refine ⟨fun q => nx y M2 (if_neg (fun c => by rw [q] at c; cases c.1)) hy fy, fun q => ?_⟩
            have q : a_wa y.2 b = true := by simpa using q
            have h0 : ¬ a_st y.2 b = 0 := fun c => by
              have := ((hwy.2.1 b hb8).2.2.1 c).1
              rw [q] at this
              cases this
            have hl5 := ((hwy.2.1 b hb8).2.2.2 h0)
            rw [((hy.2.1 b hb8).2.2 h0).1, bn_inj (by omega) (by omega), show bh_I M2 5 (b + 1) 3 = 3 ↔ a_st y.2 b = 3 from hy.stq hb8 3 (by decide)]
            refine ⟨fun q2 => nx y M2 (if_neg (fun c => q2 c.2.1)) hy fy, fun q2 => ⟨fun q3 => nx y M2 (if_neg (fun c => c.2.2.1 q3)) hy fy, fun q3 => ?_⟩⟩
            have eu : lv_u m b y = (if (a_act y.2 b).1 = 1 then y.1 + 1 else y.1, (a_act y.2 b).2) := if_pos ⟨q, Decidable.of_not_not q2, q3, h0⟩
            refine cc_activate hb8 hy h0 hl5.2.2.1 hwy.1 (fun M3 h3 f3 => ?_)
            refine bk_H_level_65 l f y.1 m b _ (a_act_c hb8 (fun o ho => (hy.st ho).2) hwy.1) h3.hs ⟨fun q4 => ?_, fun q4 => ?_⟩
            · rw [if_pos q4] at eu
              exact nx _ M3 eu h3 (fr_C_trans fy f3)
            · rw [if_neg q4] at eu
              exact nx (y.1, (a_act y.2 b).2) M3 eu h3 (fr_C_trans fy f3)
        exact inner 8 0 x M1 (by omega) hwx hx fx ex
    exact up (l - f) (f + 1) (0, A1) _ none (by omega) hw1 h1 f1 hT
