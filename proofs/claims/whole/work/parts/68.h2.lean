/-! THE CALLS: code (0: an answer), answer, state; and the class's side of the shorter ones -/
abbrev sr : Type := Nat × Int32 × sa
def fin64 (x : UInt64) : Prop := ∃ s c q, FP.Core.decode FP.Core.b64 x.toNat = .fin s c q
def WA (A : sa) : Prop := d_ok (a_d A) (a_w A) ∧ (∀ b, b < 8 → a_st A b ≤ 3 ∧ d_lf (a_d A) b ≤ a_ck A ∧ (a_st A b = 0 → a_wa A b = false ∧ x_n (a_e A) b = 0 ∧ d_ni (a_d A) b = 0) ∧ (¬ a_st A b = 0 → 1 ≤ a_lv A b ∧ a_lv A b ≤ 5 ∧ a_ac A b ≤ 4 ∧ x_n (a_e A) b ≤ 3)) ∧ (1 ≤ a_fl A ∧ a_fl A ≤ 5) ∧ sv (a_nu A) (a_st A) fin64 ∧ a_tr A ≤ 301
def rz (E : Nat → String) (r : sr) : Option bh_V ⊕ String := if r.1 = 0 then .inl (some (.inl (.int r.2.1))) else .inr (E r.1)
def E_ins : Nat → String
  | 1 => "java/lang/IllegalArgumentException"
  | _ => "java/lang/IllegalStateException"
def E_std : Nat → String
  | 1 => "java/lang/IllegalArgumentException"
  | 2 => "java/util/NoSuchElementException"
  | 3 => "java/lang/IllegalStateException"
  | _ => "java/lang/UnsupportedOperationException"
def E_res : Nat → String
  | 1 => "java/lang/IllegalArgumentException"
  | 2 => "java/util/NoSuchElementException"
  | 3 => "java/lang/IllegalStateException"
  | _ => "java/lang/ArithmeticException"
def E_sta : Nat → String
  | 1 => "java/lang/IllegalArgumentException"
  | 2 => "java/util/NoSuchElementException"
  | 3 => "java/lang/IllegalStateException"
  | 4 => "java/lang/UnsupportedOperationException"
  | _ => "java/lang/ArithmeticException"
def E_two : Nat → String
  | 1 => "java/lang/IllegalArgumentException"
  | _ => "java/util/NoSuchElementException"
def E_one : Nat → String := fun _ => "java/lang/IllegalArgumentException"
def E_gb : Nat → String
  | 1 => "java/lang/IllegalArgumentException"
  | 2 => "java/util/NoSuchElementException"
  | _ => "java/lang/UnsupportedOperationException"
def E_ev : Nat → String := fun _ => "java/lang/IllegalStateException"
def a_swa (A : sa) (b : Nat) (v : Bool) : sa := (A.1, A.2.1, A.2.2.1, A.2.2.2.1, A.2.2.2.2.1, fun x => if x = b then v else a_wa A x, A.2.2.2.2.2.2)
theorem i_nat {a : Int32} {N : Nat} (h0 : ¬ a < 0) (h1 : a ≤ nI N) (hN : N < 2147483648) : ∃ b, b ≤ N ∧ a = nI b := by
  rw [Int32.lt_iff_toInt_lt] at h0
  rw [Int32.le_iff_toInt_le, bn_toInt hN] at h1
  have h2 : (0 : Int32).toInt = 0 := rfl
  refine ⟨a.toInt.toNat, by omega, ?_⟩
  apply Int32.toInt_inj.mp
  rw [bn_toInt (by omega)]
  omega
theorem i_in {b N : Nat} (h : b ≤ N) (hN : N < 2147483648) : ¬ nI b < 0 ∧ nI b ≤ nI N := by
  rw [Int32.lt_iff_toInt_lt, Int32.le_iff_toInt_le, bn_toInt hN, bn_toInt (by omega)]
  have h2 : (0 : Int32).toInt = 0 := rfl
  omega
def o_b (a : Int32) (A : sa) (f : Nat → sr) : sr := if ¬ a < 0 ∧ a ≤ 7 then (if a_st A a.toNatClampNeg = 0 then (2, 0, A) else f a.toNatClampNeg) else (1, 0, A)
theorem o_b_in {A : sa} {f : Nat → sr} {b : Nat} (hb : b < 8) (h : ¬ a_st A b = 0) : o_b (nI b) A f = f b := by
  unfold o_b
  rw [if_pos (show ¬ nI b < 0 ∧ nI b ≤ 7 from i_in (N := 7) (by omega) (by decide)), bn_clamp hb rfl, if_neg h]
theorem o_b_0 {A : sa} {f : Nat → sr} {b : Nat} (hb : b < 8) (h : a_st A b = 0) : o_b (nI b) A f = (2, 0, A) := by
  unfold o_b
  rw [if_pos (show ¬ nI b < 0 ∧ nI b ≤ 7 from i_in (N := 7) (by omega) (by decide)), bn_clamp hb rfl, if_pos h]
theorem o_b_out {A : sa} {f : Nat → sr} {a : Int32} (h : ¬ (¬ a < 0 ∧ a ≤ 7)) : o_b a A f = (1, 0, A) := if_neg h
def o_c (c : Prop) [Decidable c] (A : sa) (r : sr) : sr := if c then r else (1, 0, A)
theorem o_c_in {c : Prop} [Decidable c] {A : sa} {r : sr} (h : c) : o_c c A r = r := if_pos h
theorem o_c_out {c : Prop} [Decidable c] {A : sa} {r : sr} (h : ¬ c) : o_c c A r = (1, 0, A) := if_neg h
def o_resolve (A : sa) (a : Int32) : sr := o_b a A (fun b => if d_live (a_d A) b then (0, 0, A) else if (d_run (a_d A) (a_w A) b).1 = 1 then (0, (d_run (a_d A) (a_w A) b).2.2.2.2, a_res A (d_run (a_d A) (a_w A) b)) else ((d_run (a_d A) (a_w A) b).1 + 1, 0, a_res A (d_run (a_d A) (a_w A) b)))
def c_sta (n : Nat) : Nat := if n = 2 then 3 else if n = 3 then 5 else 4
def o_start (A : sa) (a : Int32) : sr := o_b a A (fun b => if a_st A b = 3 then (0, 1, a_swa A b true) else if a_fl A < a_lv A b then (0, 0, a_swa A b true) else if (a_act (a_swa A b true) b).1 = 1 then (0, 1, (a_act (a_swa A b true) b).2) else (c_sta (a_act (a_swa A b true) b).1, 0, (a_act (a_swa A b true) b).2))
def a_own (A : sa) (b : Nat) : Int32 := bh_cnt (fun i => decide (bh_I (a_nu A) 66 1 i = nI b)) (a_n A)
def o_stop (A : sa) (a : Int32) : sr := o_b a A (fun b => (0, a_own A b, if a_st A b = 3 then a_stop (a_swa A b false) b else a_swa A b false))
abbrev r_ok (x : UInt64) : Prop := ¬ Op.cmpValue (FP.dcmp x 13875379345695965184) .l < 0 ∧ Op.cmpValue (FP.dcmp x 4652007308841189376) .g ≤ 0
def o_register (A : sa) (a k : Int32) (x : UInt64) : sr := o_c ((¬ k < 0 ∧ k ≤ 3) ∧ r_ok x) A (o_b a A (fun b => if ¬ a_st A b = 3 then (3, 0, A) else if a_n A = 20 then (4, 0, A) else (0, bh_I (a_nu A) 40 1 35, a_snu A (sp_put (a_nu A) (a_n A) (nI b) k x))))
def o_get (A : sa) (a k : Int32) : sr := o_c (¬ k < 0 ∧ k ≤ 3) A (o_b a A (fun b => if ¬ a_st A b = 3 then (3, 0, A) else match a_best (a_nu A) k with
  | none => (4, 0, A)
  | some s => (0, bh_I (a_nu A) 65 1 s, a_snu A (a_got (a_nu A) s b (bh_I (a_nu A) 69 1 (8 * s + b) + 1)))))
def a_row (ν : bh_M) (k : Int32) : Option Nat := bh_ff (fun i => decide (bh_I ν 65 1 i = k)) (bh_I ν 40 1 34).toNatClampNeg
def o_giveBack (A : sa) (a k : Int32) : sr := o_c (0 ≤ k) A (o_b a A (fun b => match a_row (a_nu A) k with
  | none => (3, 0, A)
  | some s => if bh_I (a_nu A) 69 1 (8 * s + b) = 0 then (3, 0, A) else (0, bh_I (a_nu A) 69 1 (8 * s + b) - 1, a_snu A (a_got (a_nu A) s b (bh_I (a_nu A) 69 1 (8 * s + b) - 1)))))
def o_unregister (A : sa) (a k : Int32) : sr := o_c (0 ≤ k) A (o_b a A (fun b => match a_row (a_nu A) k with
  | none => (3, 0, A)
  | some s => if bh_I (a_nu A) 66 1 s = nI b then (0, bh_sum (fun i => bh_I (a_nu A) 69 1 (8 * s + i)) 8, a_snu A (sp_drop (a_nu A) s (a_n A - 1))) else (3, 0, A)))
theorem RC.swa {M : bh_M} {A : sa} (h : RC M A) (b : Nat) (v : Bool) : RC (bh_sI M 5 (b + 1) 7 (bI v)) (a_swa A b v) := by
  obtain ⟨g1, g2, g3, g4, g5, g6, g7, g8⟩ := h
  refine ⟨fun x hx => ?_, fun x hx => ⟨?_, (g2 x hx).2.1, fun q => ⟨(bh_I_fld (by decide)).trans ((g2 x hx).2.2 q).1, (bh_I_fld (by decide)).trans ((g2 x hx).2.2 q).2.1, (bh_I_fld (by decide)).trans ((g2 x hx).2.2 q).2.2⟩⟩, g3, g4, g5, g6, g7, g8⟩
  · obtain ⟨⟨y1, y2, y3, y4, y5, y6⟩, yr⟩ := g1 x hx
    exact ⟨⟨(bh_I_fld (by decide)).trans y1, (bh_I_fld (by decide)).trans y2, y3, fun q => (bh_I_fld (by decide)).trans (y4 q), (bh_I_fld (by decide)).trans y5, y6⟩, yr⟩
  · show (if 5 = 5 ∧ x + 1 = b + 1 ∧ 7 = 7 then bI v else bh_I M 5 (x + 1) 7) = bI (if x = b then v else a_wa A x)
    by_cases c : x = b
    · rw [if_pos ⟨rfl, by omega, rfl⟩, if_pos c]
    · rw [if_neg (fun q => c (by omega)), if_neg c]
      exact (g2 x hx).1
theorem RC.hs {M : bh_M} {A : sa} (h : RC M A) : bh_stat M.2.2.2 := h.2.2.2.2.2.2.2
theorem RC.live {M : bh_M} {A : sa} (h : RC M A) {b : Nat} (hb : b < 8) : bh_I M 5 (b + 1) 3 < 2 ↔ d_live (a_d A) b = false := h.1.lv hb
theorem cc_resolve {M : bh_M} {Z : bh_F → Prop} {A : sa} (h : RC M A) (hw : WA A) (a : Int32) (hz : ∀ M', RC M' (o_resolve A a).2.2 → fr_C M M' → Z (rz E_res (o_resolve A a), M')) : F_H_resolve [.inr (3, 1), .inl (.int a)] M Z := by
  have hs := h.hs
  have bad : ¬ (¬ a < 0 ∧ a ≤ 7) → Z (.inr "java/lang/IllegalArgumentException", M) := by
    intro q
    rw [show o_resolve A a = (1, 0, A) from o_b_out q] at hz
    exact hz M h (fr_C_refl hs)
  refine be_H_resolve a hs ⟨fun q => bad (fun c => c.1 q), fun q0 => ⟨fun q1 => ?_, fun q1 => bad (fun c => q1 c.2)⟩⟩
  obtain ⟨b, hb, rfl⟩ := i_nat (N := 7) q0 q1 (by decide)
  have hb : b < 8 := by omega
  refine ⟨bn_in hb rfl, ?_⟩
  rw [bn_clamp hb rfl]
  refine ⟨fun q2 => ?_, fun q2 => ?_⟩
  · have q3 : ¬ a_st A b = 0 := fun c => q2 ((h.stq hb 0 (by decide)).mpr c)
    have eo : o_resolve A (nI b) = _ := o_b_in hb q3
    rw [eo] at hz
    rw [h.live hb]
    refine ⟨fun q4 => ?_, fun q4 => ?_⟩
    · rw [q4, if_neg Bool.false_ne_true] at hz
      have q5 : a_st A b = 1 := by
        have h1 := (h.st hb).2
        unfold d_live at q4
        rw [decide_eq_false_iff_not] at q4
        have q4 : ¬ 2 ≤ a_st A b := q4
        omega
      have hst3 : ∀ o, o < 8 → d_st (a_d A) o ≤ 3 := fun o ho => (h.st ho).2
      obtain ⟨k1, -, -, k4, -⟩ := d_run_ok hb q5 hst3 hw.1
      refine cd_R_run hb q5 h.1 (fun x k hx h1 => hw.1.1 x k hx (d_live_1 h1)) hs (fun M' g1 g2 g3 f => ?_)
      have h2 : RC M' (a_res A (d_run (a_d A) (a_w A) b)) := h.run g1 g2 g3 f (fun x hx c => fun c2 => c ((d_run_st0 hb q5 hst3 hw.1 hx).mpr c2))
      have fC := f.C hs
      refine bk_H_resolve_31 b _ (by omega) hb fC.2.2.2.2 ?_
      rcases k4 with ⟨c, -⟩ | ⟨c | c, -⟩
      · rw [c]
        rw [if_pos c] at hz
        rw [g3]
        exact ⟨fun q => absurd q (by decide), fun _ => ⟨fun q => absurd q (by decide), fun _ => ⟨fun q => absurd q (by decide), fun _ => hz M' h2 fC⟩⟩⟩
      · rw [if_neg (by omega)] at hz
        rw [c] at hz ⊢
        exact ⟨fun _ => hz M' h2 fC, fun q => absurd rfl q⟩
      · rw [if_neg (by omega)] at hz
        rw [c] at hz ⊢
        exact ⟨fun q => absurd q (by decide), fun _ => ⟨fun _ => hz M' h2 fC, fun q => absurd rfl q⟩⟩
    · have q4 : d_live (a_d A) b = true := by simpa using q4
      rw [q4, if_pos rfl] at hz
      exact hz M h (fr_C_refl hs)
  · have q3 : a_st A b = 0 := (h.stq hb 0 (by decide)).mp (Decidable.of_not_not q2)
    rw [show o_resolve A (nI b) = (2, 0, A) from o_b_0 hb q3] at hz
    exact hz M h (fr_C_refl hs)
theorem a_actr_st (A : sa) (b : Nat) : a_st (a_actr A b).2 = a_st A := by
  unfold a_actr
  split
  · rfl
  · rfl
  · split <;> rfl
  · split <;> rfl
  · rfl
theorem a_fin_1 {A : sa} {b : Nat} (h : (a_fin A b).1 = 1) : a_st (a_fin A b).2 b = 3 := by
  unfold a_fin at h ⊢
  split at h
  · rename_i c
    rw [if_pos c]
    exact if_pos rfl
  · exact absurd (show 4 = 1 from h) (by decide)
theorem a_fin_c (A : sa) (b : Nat) : (a_fin A b).1 = 1 ∨ (a_fin A b).1 = 4 := by
  unfold a_fin
  split
  · exact Or.inl rfl
  · exact Or.inr rfl
theorem a_act_1 {A : sa} {b : Nat} (h : (a_act A b).1 = 1) : a_st (a_act A b).2 b = 3 := by
  unfold a_act at h ⊢
  split at h
  · rename_i c
    rw [if_pos c]
    split at h
    · rename_i c2
      rw [if_pos c2]
      exact a_fin_1 h
    · rename_i c2
      exact absurd h c2
  · rename_i c
    rw [if_neg c]
    exact a_fin_1 h
theorem a_act_c {A : sa} {b : Nat} (hb : b < 8) (hst3 : ∀ o, o < 8 → d_st (a_d A) o ≤ 3) (hok : d_ok (a_d A) (a_w A)) : 1 ≤ (a_act A b).1 ∧ (a_act A b).1 ≤ 4 := by
  unfold a_act
  split
  · rename_i c
    obtain ⟨-, -, -, k4, -⟩ := d_run_ok hb c hst3 hok
    split
    · rcases a_fin_c (a_res A (d_run (a_d A) (a_w A) b)) b with q | q <;> rw [q] <;> decide
    · show 1 ≤ (d_run (a_d A) (a_w A) b).1 ∧ (d_run (a_d A) (a_w A) b).1 ≤ 4
      omega
  · rcases a_fin_c A b with q | q <;> rw [q] <;> decide
theorem cc_start {M : bh_M} {Z : bh_F → Prop} {A : sa} (h : RC M A) (hw : WA A) (a : Int32) (hz : ∀ M', RC M' (o_start A a).2.2 → fr_C M M' → Z (rz E_sta (o_start A a), M')) : F_H_start [.inr (3, 1), .inl (.int a)] M Z := by
  have hs := h.hs
  have bad : ¬ (¬ a < 0 ∧ a ≤ 7) → Z (.inr "java/lang/IllegalArgumentException", M) := by
    intro q
    rw [show o_start A a = (1, 0, A) from o_b_out q] at hz
    exact hz M h (fr_C_refl hs)
  refine be_H_start a hs ⟨fun q => bad (fun c => c.1 q), fun q0 => ⟨fun q1 => ?_, fun q1 => bad (fun c => q1 c.2)⟩⟩
  obtain ⟨b, hb, rfl⟩ := i_nat (N := 7) q0 q1 (by decide)
  have hb : b < 8 := by omega
  refine ⟨bn_in hb rfl, ?_⟩
  rw [bn_clamp hb rfl]
  refine ⟨fun q2 => ?_, fun q2 => ?_⟩
  · have q3 : ¬ a_st A b = 0 := fun c => q2 ((h.stq hb 0 (by decide)).mpr c)
    have eo : o_start A (nI b) = _ := o_b_in hb q3
    rw [eo] at hz
    have h1 : RC (bh_sI M 5 (b + 1) 7 1) (a_swa A b true) := h.swa b true
    have f1 : fr_C M (bh_sI M 5 (b + 1) 7 1) := fr_C_I hs ⟨by decide, by decide⟩ _ _ _
    have e3 : bh_I (bh_sI M 5 (b + 1) 7 1) 5 (b + 1) 3 = bh_I M 5 (b + 1) 3 := bh_I_fld (by decide)
    have e5 : bh_I (bh_sI M 5 (b + 1) 7 1) 5 (b + 1) 5 = nI (a_lv A b) := (bh_I_fld (by decide)).trans ((h.2.1 b hb).2.2 q3).1
    have hlv := ((hw.2.1 b hb).2.2.2 q3)
    rw [e3, e5, h.2.2.2.2.1, show bh_I M 5 (b + 1) 3 = 3 ↔ a_st A b = 3 from h.stq hb 3 (by decide), bn_lt (by have := hw.2.2.1.2; omega) (by omega)]
    refine ⟨fun q4 => ⟨fun q5 => absurd q4 q5, fun _ => ?_⟩, fun q4 => ⟨fun q5 => ⟨fun _ => ?_, fun q6 => absurd q4 q6⟩, fun q5 => ?_⟩⟩
    · rw [if_pos q4] at hz
      exact hz _ h1 f1
    · rw [if_neg q4, if_pos q5] at hz
      exact hz _ h1 f1
    · rw [if_neg q4, if_neg q5] at hz
      refine cc_activate hb h1 q3 hlv.2.2.1 hw.1 (fun M' h2 f2 => ?_)
      have hc := a_act_c (A := a_swa A b true) hb (fun o ho => (h.st ho).2) hw.1
      refine bk_H_start_39 b _ hc hb f2.2.2.2.2 ?_
      have f3 := fr_C_trans f1 f2
      have hcs : (a_act (a_swa A b true) b).1 = 1 ∨ (a_act (a_swa A b true) b).1 = 2 ∨ (a_act (a_swa A b true) b).1 = 3 ∨ (a_act (a_swa A b true) b).1 = 4 := by omega
      rcases hcs with c | c | c | c
      · have e9 : bh_I M' 5 (b + 1) 3 = 3 := (h2.stq hb 3 (by decide)).mpr (a_act_1 c)
        rw [if_pos c] at hz
        rw [c, e9]
        exact ⟨fun q => absurd q (by decide), fun _ => ⟨fun q => absurd q (by decide), fun _ => ⟨fun q => absurd q (by decide), fun _ => ⟨fun q => absurd rfl q, fun _ => hz M' h2 f3⟩⟩⟩⟩
      · rw [if_neg (by omega)] at hz
        rw [c] at hz ⊢
        exact ⟨fun _ => hz M' h2 f3, fun q => absurd rfl q⟩
      · rw [if_neg (by omega)] at hz
        rw [c] at hz ⊢
        exact ⟨fun q => absurd q (by decide), fun _ => ⟨fun _ => hz M' h2 f3, fun q => absurd rfl q⟩⟩
      · rw [if_neg (by omega)] at hz
        rw [c] at hz ⊢
        exact ⟨fun q => absurd q (by decide), fun _ => ⟨fun q => absurd q (by decide), fun _ => ⟨fun _ => hz M' h2 f3, fun q => absurd rfl q⟩⟩⟩
  · have q3 : a_st A b = 0 := (h.stq hb 0 (by decide)).mp (Decidable.of_not_not q2)
    rw [show o_start A (nI b) = (2, 0, A) from o_b_0 hb q3] at hz
    exact hz M h (fr_C_refl hs)
theorem rc_S_own {M ν : bh_M} {n : Nat} (h : rc_S M ν n) (k : Int32) : bh_cnt (fun i => decide (bh_I M 21 (bh_R M 20 1 i) 2 = k)) (bh_I M 19 1 1).toNatClampNeg = bh_cnt (fun i => decide (bh_I ν 66 1 i = k)) (bh_I ν 40 1 34).toNatClampNeg := by
  rw [(rc_S_n h).1, (rc_S_n h).2.1]
  exact bh_cnt_congr (fun i hi => by rw [(h.2.2.2.2.2 i hi).2.1])
theorem cc_stop {M : bh_M} {Z : bh_F → Prop} {A : sa} (h : RC M A) (a : Int32) (hz : ∀ M', RC M' (o_stop A a).2.2 → fr_C M M' → Z (rz E_two (o_stop A a), M')) : F_H_stop [.inr (3, 1), .inl (.int a)] M Z := by
  have hs := h.hs
  obtain ⟨n, hn⟩ := h.2.2.2.1
  have bad : ¬ (¬ a < 0 ∧ a ≤ 7) → Z (.inr "java/lang/IllegalArgumentException", M) := by
    intro q
    rw [show o_stop A a = (1, 0, A) from o_b_out q] at hz
    exact hz M h (fr_C_refl hs)
  refine be_H_stop a hs ⟨fun q => bad (fun c => c.1 q), fun q0 => ⟨fun q1 => ?_, fun q1 => bad (fun c => q1 c.2)⟩⟩
  obtain ⟨b, hb, rfl⟩ := i_nat (N := 7) q0 q1 (by decide)
  have hb : b < 8 := by omega
  refine ⟨bn_in hb rfl, ?_⟩
  rw [bn_clamp hb rfl]
  refine ⟨fun q2 => ?_, fun q2 => ?_⟩
  · have q3 : ¬ a_st A b = 0 := fun c => q2 ((h.stq hb 0 (by decide)).mpr c)
    have eo : o_stop A (nI b) = _ := o_b_in hb q3
    rw [eo] at hz
    refine ct_V_ownedBy (nI b) hs ⟨(rc_S_n hn).2.2, ?_⟩
    rw [rc_S_own hn]
    refine bk_H_stop_18 b _ hb hs ?_
    have h1 : RC (bh_sI M 5 (b + 1) 7 0) (a_swa A b false) := h.swa b false
    have f1 : fr_C M (bh_sI M 5 (b + 1) 7 0) := fr_C_I hs ⟨by decide, by decide⟩ _ _ _
    refine cc_deactivate hb h1 (fun q4 M' h2 f2 => ?_) (fun q4 => ?_)
    · have q4 : a_st A b = 3 := q4
      rw [if_pos q4] at hz
      exact bk_H_stop_29 b _ hb f2.2.2.2.2 (hz M' h2 (fr_C_trans f1 f2))
    · have q4 : ¬ a_st A b = 3 := q4
      rw [if_neg q4] at hz
      exact bk_H_stop_29 b _ hb hs (hz _ h1 f1)
  · have q3 : a_st A b = 0 := (h.stq hb 0 (by decide)).mp (Decidable.of_not_not q2)
    rw [show o_stop A (nI b) = (2, 0, A) from o_b_0 hb q3] at hz
    exact hz M h (fr_C_refl hs)
