/-! ACTIVATING AND DEACTIVATING, both sides -/
def a_sd (A : sa) (d : sd) : sa := (d, A.2)
def a_snu (A : sa) (ν : bh_M) : sa := (A.1, A.2.1, A.2.2.1, A.2.2.2.1, A.2.2.2.2.1, A.2.2.2.2.2.1, A.2.2.2.2.2.2.1, ν, A.2.2.2.2.2.2.2.2)
def a_res (A : sa) (r : Nat × sd × sw × Nat × Int32) : sa := (r.2.1, r.2.2.1, A.2.2.1, A.2.2.2.1, A.2.2.2.2.1, A.2.2.2.2.2.1, A.2.2.2.2.2.2.1, a_nu A, a_fl A, r.2.2.2.1, r.2.2.2.2, a_ck A)
def a_shs (A : sa) (b : Nat) (v : Bool) : sa := (A.1, A.2.1, A.2.2.1, A.2.2.2.1, A.2.2.2.2.1, A.2.2.2.2.2.1, fun x => if x = b then v else a_hs A x, A.2.2.2.2.2.2.2)
def a_n (A : sa) : Nat := (bh_I (a_nu A) 40 1 34).toNatClampNeg
def a_best (ν : bh_M) (k : Int32) : Option Nat := bh_best (fun i => decide (bh_I ν 67 1 i = k)) (fun i b => decide (¬ Op.cmpValue (FP.dcmp (bh_D ν 68 1 i) (bh_D ν 68 1 b)) .l ≤ 0)) (bh_I ν 40 1 34).toNatClampNeg
def a_got (ν : bh_M) (s b : Nat) (v : Int32) : bh_M := bh_sI ν 69 1 (8 * s + b) v
def a_stop (A : sa) (b : Nat) : sa := a_snu (a_sd A (d_sst (a_d A) b 2)) (sp_stop (a_nu A) b)
def a_actr (A : sa) (b : Nat) : Bool × sa := match a_ac A b with
  | 0 => (true, A)
  | 1 => (false, A)
  | 2 => if a_n A = 20 then (false, A) else (true, a_snu A (sp_put (a_nu A) (a_n A) (nI b) 0 (FP.i2d (nI b))))
  | 3 => match a_best (a_nu A) 0 with
    | none => (false, A)
    | some s => (true, a_snu A (a_got (a_nu A) s b (bh_I (a_nu A) 69 1 (8 * s + b) + 1)))
  | _ => (!a_hs A b, A)
def a_done (A : sa) (b : Nat) : sa := a_snu (a_shs (a_sd A (d_sst (a_d A) b 3)) b true) (sp_note (a_nu A) (nI (100 + b)))
def a_fin (A : sa) (b : Nat) : Nat × sa := if (a_actr A b).1 then (1, a_done (a_actr A b).2 b) else (4, (a_actr A b).2)
def a_act (A : sa) (b : Nat) : Nat × sa := if a_st A b = 1 then (if (d_run (a_d A) (a_w A) b).1 = 1 then a_fin (a_res A (d_run (a_d A) (a_w A) b)) b else ((d_run (a_d A) (a_w A) b).1, a_res A (d_run (a_d A) (a_w A) b))) else a_fin A b
theorem bh_I_fld {M : bh_M} {t x j a b c : Nat} {v : Int32} (h : c ≠ j) : bh_I (bh_sI M t x j v) a b c = bh_I M a b c := if_neg (fun q => h q.2.2)
theorem bh_I_tag {M : bh_M} {t x j a b c : Nat} {v : Int32} (h : a ≠ t) : bh_I (bh_sI M t x j v) a b c = bh_I M a b c := if_neg (fun q => h q.1)
theorem bI_0 {b : Bool} : bI b = 0 ↔ b = false := by
  cases b
  · exact ⟨fun _ => rfl, fun _ => rfl⟩
  · exact ⟨fun q => absurd q (by decide), fun q => by cases q⟩
theorem rdC.sst {M : bh_M} {d : sd} {w : sw} (h : rdC M d w) {i v : Nat} (hv : v ≤ 3) (h0 : ¬ d_st d i = 0) : rdC (bh_sI M 5 (i + 1) 3 (nI v)) (d_sst d i v) w := by
  intro b hb
  obtain ⟨⟨a1, a2, a3, a4, a5, a6⟩, c2, c3, c4, c5, c6⟩ := h b hb
  refine ⟨⟨(bh_I_fld (by decide)).trans a1, ?_, ?_, fun q => (bh_I_fld (by decide)).trans ?_, (bh_I_fld (by decide)).trans a5, a6⟩, c2, c3, c4, c5, c6⟩
  · show (if 5 = 5 ∧ b + 1 = i + 1 ∧ 3 = 3 then nI v else bh_I M 5 (b + 1) 3) = nI (if b = i then v else d_st d b)
    by_cases c : b = i
    · rw [if_pos ⟨rfl, by omega, rfl⟩, if_pos c]
    · rw [if_neg (fun q => c (by omega)), if_neg c]
      exact a2
  · show (if b = i then v else d_st d b) ≤ 3
    by_cases c : b = i
    · rw [if_pos c]
      exact hv
    · rw [if_neg c]
      exact a3
  · refine a4 ?_
    have q : ¬ (if b = i then v else d_st d b) = 0 := q
    by_cases c : b = i
    · rw [c]
      exact h0
    · rw [if_neg c] at q
      exact q
theorem rdC.mvI {M M' : bh_M} {d : sd} {w : sw} (h : rdC M d w) (f : ∀ a, 5 ≤ a → a ≤ 14 → bh_I M' a = bh_I M a) : rdC M' d w := by
  intro b hb
  rw [f 5 (by decide) (by decide), f 8 (by decide) (by decide), f 9 (by decide) (by decide), f 7 (by decide) (by decide), f 11 (by decide) (by decide), f 12 (by decide) (by decide), f 13 (by decide) (by decide), f 14 (by decide) (by decide), f 10 (by decide) (by decide), f 6 (by decide) (by decide)]
  exact h b hb
theorem RC.se {M M' : bh_M} {A : sa} (h : RC M A) {ν : bh_M} (f : fr_SE M M') (h1 : rc_E M' ν) (h2 : ∃ n, rc_S M' ν n) : RC M' (a_snu A ν) := by
  obtain ⟨g1, g2, -, -, g5, g6, g7, g8⟩ := h
  have fI : ∀ a, a ≠ 19 → a ≠ 21 → a ≠ 22 → a ≠ 23 → a ≠ 24 → bh_I M' a = bh_I M a := f.1
  refine ⟨g1.mvI (fun a a1 a2 => fI a (by omega) (by omega) (by omega) (by omega) (by omega)), fun b hb => ?_, h1, h2, ?_, ?_, ?_, f.2.2.2.1⟩
  · rw [fI 5 (by decide) (by decide) (by decide) (by decide) (by decide), fI 7 (by decide) (by decide) (by decide) (by decide) (by decide)]
    exact g2 b hb
  · rw [fI 3 (by decide) (by decide) (by decide) (by decide) (by decide)]
    exact g5
  · rw [fI 15 (by decide) (by decide) (by decide) (by decide) (by decide)]
    exact g6
  · rw [fI 15 (by decide) (by decide) (by decide) (by decide) (by decide)]
    exact g7
/-- the class sees of a state of a bundle only this -/
theorem RC.sst {M : bh_M} {A : sa} (h : RC M A) {i v : Nat} (hv : v ≤ 3) (h0 : ¬ a_st A i = 0) : RC (bh_sI M 5 (i + 1) 3 (nI v)) (a_sd A (d_sst (a_d A) i v)) := by
  obtain ⟨g1, g2, g3, g4, g5, g6, g7, g8⟩ := h
  refine ⟨g1.sst hv h0, fun b hb => ⟨(bh_I_fld (by decide)).trans (g2 b hb).1, (g2 b hb).2.1, fun q => ?_⟩, g3, g4, g5, g6, g7, g8⟩
  suffices h9 : ¬ a_st A b = 0 by
    have g := (g2 b hb).2.2 h9
    exact ⟨(bh_I_fld (by decide)).trans g.1, (bh_I_fld (by decide)).trans g.2.1, (bh_I_fld (by decide)).trans g.2.2⟩
  have q : ¬ (if b = i then v else d_st (a_d A) b) = 0 := q
  by_cases c : b = i
  · rw [c]
    exact h0
  · rw [if_neg c] at q
    exact q
theorem RC.st {M : bh_M} {A : sa} (h : RC M A) {b : Nat} (hb : b < 8) : bh_I M 5 (b + 1) 3 = nI (a_st A b) ∧ a_st A b ≤ 3 := ⟨(h.1 b hb).1.2.1, (h.1 b hb).1.2.2.1⟩
theorem RC.stq {M : bh_M} {A : sa} (h : RC M A) {b : Nat} (hb : b < 8) (v : Nat) (hv : v ≤ 3) : bh_I M 5 (b + 1) 3 = nI v ↔ a_st A b = v := by
  obtain ⟨h1, h2⟩ := h.st hb
  rw [h1]
  exact bn_inj (by omega) (by omega)
theorem cc_deactivate {M : bh_M} {Z : bh_F → Prop} {A : sa} {b : Nat} (hb : b < 8) (h : RC M A) (h1 : a_st A b = 3 → ∀ M', RC M' (a_stop A b) → fr_C M M' → Z (.inl none, M')) (h0 : ¬ a_st A b = 3 → Z (.inl none, M)) : F_H_deactivate [.inr (3, 1), .inr (5, b + 1)] M Z := by
  have hs := h.2.2.2.2.2.2.2
  obtain ⟨n, hn⟩ := h.2.2.2.1
  refine cs_H_deactivate b hb (h.1 b hb).1.1 hs h.2.2.1 hn ⟨fun q M' g f => ?_, fun q => h0 (fun c => q ?_)⟩
  · have q3 : a_st A b = 3 := (h.stq hb 3 (by decide)).mp q
    have g := g _ h.2.2.1 hn
    have h2 := h.sst (i := b) (v := 2) (by decide) (by rw [q3]; decide)
    exact h1 q3 M' (h2.se f g.1 g.2) (fr_C_trans (fr_C_I hs ⟨by decide, by decide⟩ _ _ _) f.C)
  · exact (h.stq hb 3 (by decide)).mpr c
theorem rc_S_n {M ν : bh_M} {n : Nat} (h : rc_S M ν n) : (bh_I ν 40 1 34).toNatClampNeg = n ∧ (bh_I M 19 1 1).toNatClampNeg = n ∧ vp_in (bh_I M 19 1 1) 21 := by
  obtain ⟨h1, h2, h3, -⟩ := h
  rw [h2, h3]
  exact ⟨bn_clamp (N := 21) (by omega) rfl, bn_clamp (N := 21) (by omega) rfl, bn_in (by omega) rfl⟩
theorem rc_S_best {M ν : bh_M} {n : Nat} (h : rc_S M ν n) (k : Int32) : bh_best (fun i => decide (bh_I M 21 (bh_R M 20 1 i) 3 = k)) (fun i b => decide (¬ Op.cmpValue (FP.dcmp (bh_D M 21 (bh_R M 20 1 i) 4) (bh_D M 21 (bh_R M 20 1 b) 4)) .l ≤ 0)) (bh_I M 19 1 1).toNatClampNeg = a_best ν k := by
  unfold a_best
  rw [(rc_S_n h).1, (rc_S_n h).2.1]
  refine bh_best_congr (fun i hi => ?_) (fun i j hi hj => ?_)
  · rw [(h.2.2.2.2.2 i hi).2.2.1]
  · rw [(h.2.2.2.2.2 i hi).2.2.2.1, (h.2.2.2.2.2 j hj).2.2.2.1]
theorem rc_S_got {M ν : bh_M} {n : Nat} (h : rc_S M ν n) {r b : Nat} (hr : r < n) (hb : b < 8) (v : Int32) : rc_S (bh_sI M 22 (bh_R M 20 1 r) b v) (a_got ν r b v) n := by
  obtain ⟨h1, h2, h3, h4, h5, h6⟩ := h
  refine ⟨h1, h2, h3, h4, h5, fun i hi => ?_⟩
  obtain ⟨k1, k2, k3, k4, k5⟩ := h6 i hi
  refine ⟨k1, k2, k3, k4, fun b' hb' => ?_⟩
  have e1 : bh_I (bh_sI M 22 (bh_R M 20 1 r) b v) 22 (bh_R M 20 1 i) b' = if 22 = 22 ∧ bh_R M 20 1 i = bh_R M 20 1 r ∧ b' = b then v else bh_I M 22 (bh_R M 20 1 i) b' := rfl
  have e2 : bh_I (a_got ν r b v) 69 1 (8 * i + b') = if 69 = 69 ∧ 1 = 1 ∧ 8 * i + b' = 8 * r + b then v else bh_I ν 69 1 (8 * i + b') := rfl
  refine e1.trans (Eq.trans ?_ e2.symm)
  by_cases c : i = r ∧ b' = b
  · rw [if_pos (show 22 = 22 ∧ bh_R M 20 1 i = bh_R M 20 1 r ∧ b' = b from ⟨rfl, by rw [c.1], c.2⟩), if_pos (show 69 = 69 ∧ 1 = 1 ∧ 8 * i + b' = 8 * r + b from ⟨rfl, rfl, by omega⟩)]
  · rw [if_neg (show ¬ (22 = 22 ∧ bh_R M 20 1 i = bh_R M 20 1 r ∧ b' = b) from fun q => c ⟨h5 i r (by omega) (by omega) q.2.1, q.2.2⟩), if_neg (show ¬ (69 = 69 ∧ 1 = 1 ∧ 8 * i + b' = 8 * r + b) from fun q => c (by omega))]
    exact k5 b' hb'
theorem fr_SE_22 {M : bh_M} (hs : bh_stat M.2.2.2) (x c : Nat) (v : Int32) : fr_SE M (bh_sI M 22 x c v) := ⟨fun a _ _ h1 _ _ => by
  funext y z
  exact if_neg (fun q => h1 q.1), rfl, fun _ _ => rfl, hs, fun _ _ => rfl⟩
theorem cc_runActivator {M : bh_M} {Z : bh_F → Prop} {A : sa} {b : Nat} (hb : b < 8) (h : RC M A) (h0 : ¬ a_st A b = 0) (hac : a_ac A b ≤ 4) (hz : ∀ M', RC M' (a_actr A b).2 → fr_C M M' → Z (.inl (some (.inl (.int (bI (a_actr A b).1)))), M')) : F_H_runActivator [.inr (3, 1), .inr (5, b + 1)] M Z := by
  have hs := h.2.2.2.2.2.2.2
  obtain ⟨n, hn⟩ := h.2.2.2.1
  obtain ⟨-, -, hf⟩ := h.2.1 b hb
  obtain ⟨-, f6, f8⟩ := hf h0
  have f0 := (h.1 b hb).1.1
  have hz0 := hz M
  refine be_H_runActivator hb hs ?_
  rw [f6, f8, f0]
  unfold a_actr at hz hz0
  generalize hc : a_ac A b = c at hac hz hz0
  have hcs : c = 0 ∨ c = 1 ∨ c = 2 ∨ c = 3 ∨ c = 4 := by omega
  rcases hcs with rfl | rfl | rfl | rfl | rfl
  · exact ⟨fun q => absurd q (by decide), fun q => absurd q (by decide), fun q => absurd q (by decide), fun q => absurd q (by decide), fun _ => hz0 h (fr_C_refl hs)⟩
  · exact ⟨fun _ => hz0 h (fr_C_refl hs), fun q => absurd q (by decide), fun q => absurd q (by decide), fun q => absurd q (by decide), fun q => absurd rfl q.1⟩
  · refine ⟨fun q => absurd q (by decide), fun _ => ?_, fun q => absurd q (by decide), fun q => absurd q (by decide), fun q => absurd rfl q.2.1⟩
    have hz : ∀ M', RC M' (if a_n A = 20 then (false, A) else (true, a_snu A (sp_put (a_nu A) (a_n A) (nI b) 0 (FP.i2d (nI b))))).2 → fr_C M M' → Z (.inl (some (.inl (.int (bI (if a_n A = 20 then (false, A) else (true, a_snu A (sp_put (a_nu A) (a_n A) (nI b) 0 (FP.i2d (nI b))))).1)))), M') := hz
    have en : a_n A = n := (rc_S_n hn).1
    rw [en] at hz
    refine be_H_activatorRegisters b hb hn.2.1 (by have := hn.1; omega) hs ?_
    rw [hn.2.1, show (20 : Int32) = nI 20 from rfl, bn_lt (by have := hn.1; omega) (by decide)]
    refine ⟨fun q => ?_, fun q => ?_⟩
    · rw [if_neg (by omega)] at hz
      refine cs_H_addService (nI b) 0 (FP.i2d (nI b)) q hs h.2.2.1 hn (fun M' g f => ?_)
      obtain ⟨g1, g2⟩ := g _ h.2.2.1 hn
      refine bk_H_activatorRegisters_20 b _ f.2.2.2.1 ?_
      refine bk_H_runActivator_46 1 hb f.2.2.2.1 ⟨Or.inr rfl, ?_⟩
      exact hz M' (h.se f g1 ⟨_, g2⟩) f.C
    · rw [if_pos (by have := hn.1; omega)] at hz
      exact bk_H_runActivator_46 0 hb hs ⟨Or.inl rfl, hz M h (fr_C_refl hs)⟩
  · refine ⟨fun q => absurd q (by decide), fun q => absurd q (by decide), fun _ => ?_, fun q => absurd q (by decide), fun q => absurd rfl q.2.2.1⟩
    have hz : ∀ M', RC M' (match a_best (a_nu A) 0 with
      | none => (false, A)
      | some s => (true, a_snu A (a_got (a_nu A) s b (bh_I (a_nu A) 69 1 (8 * s + b) + 1)))).2 → fr_C M M' → Z (.inl (some (.inl (.int (bI (match a_best (a_nu A) 0 with
      | none => (false, A)
      | some s => (true, a_snu A (a_got (a_nu A) s b (bh_I (a_nu A) 69 1 (8 * s + b) + 1)))).1)))), M') := hz
    refine be_H_activatorGets b hb hs ?_
    refine ct_V_bestRow 0 hs ⟨(rc_S_n hn).2.2, fun e => ?_, fun r e => ?_⟩
    · rw [rc_S_best hn] at e
      rw [e] at hz
      refine bz_H_activatorGets_8 b hb hs ?_
      exact bk_H_runActivator_55 0 hb hs ⟨Or.inl rfl, hz M h (fr_C_refl hs)⟩
    · have hr := bh_best_lt e
      rw [(rc_S_n hn).2.1] at hr
      rw [rc_S_best hn] at e
      rw [e] at hz
      have hn20 := hn.1
      refine bk_H_activatorGets_8 b r hb (by omega) hs ?_
      have ev : bh_I M 22 (bh_R M 20 1 r) b = bh_I (a_nu A) 69 1 (8 * r + b) := (hn.2.2.2.2.2 r hr).2.2.2.2 b hb
      rw [ev]
      refine bk_H_runActivator_55 1 hb hs ⟨Or.inr rfl, hz _ (h.se (fr_SE_22 hs _ _ _) ?_ ⟨n, rc_S_got hn hr hb _⟩) (fr_SE_22 hs _ _ _).C⟩
      exact h.2.2.1
  · refine ⟨fun q => absurd q (by decide), fun q => absurd q (by decide), fun q => absurd q (by decide), fun _ => ⟨fun q => ?_, fun q => ?_⟩, fun q => absurd rfl q.2.2.2⟩
    · have e1 : a_hs A b = true := by
        cases e : a_hs A b with
        | true => rfl
        | false => exact absurd (by rw [e]; rfl) q
      have := hz0 h (fr_C_refl hs)
      rw [e1] at this
      exact this
    · have e1 : a_hs A b = false := bI_0.mp (Decidable.of_not_not q)
      have := hz0 h (fr_C_refl hs)
      rw [e1] at this
      exact this
theorem RC.run {M M' : bh_M} {A : sa} (h : RC M A) {r : Nat × sd × sw × Nat × Int32} (h1 : rdC M' r.2.1 r.2.2.1) (h2 : bh_I M' 15 1 4 = nI r.2.2.2.1) (h3 : bh_I M' 15 1 5 = r.2.2.2.2) (f : fr_R M M') (hst : ∀ b, b < 8 → ¬ d_st r.2.1 b = 0 → ¬ a_st A b = 0) : RC M' (a_res A r) := by
  obtain ⟨-, g2, g3, ⟨n, g4⟩, g5, g6, g7, g8⟩ := h
  have fI : ∀ a, a ≠ 5 → a ≠ 6 → a ≠ 15 → a ≠ 16 → a ≠ 17 → a ≠ 18 → bh_I M' a = bh_I M a := f.1
  have fD : bh_D M' = bh_D M := congrArg (fun q => q.2.1) f.2.2
  have fR : bh_R M' = bh_R M := congrArg (fun q => q.2.2.1) f.2.2
  refine ⟨h1, fun b hb => ?_, ?_, ⟨n, ?_⟩, ?_, h2, h3, by rw [f.2.2]; exact g8⟩
  · rw [f.2.1 (b + 1) 7 (by decide), f.2.1 (b + 1) 5 (by decide), f.2.1 (b + 1) 6 (by decide), f.2.1 (b + 1) 8 (by decide), fI 7 (by decide) (by decide) (by decide) (by decide) (by decide) (by decide)]
    exact ⟨(g2 b hb).1, (g2 b hb).2.1, fun q => (g2 b hb).2.2 (hst b hb q)⟩
  · unfold rc_E
    rw [fI 23 (by decide) (by decide) (by decide) (by decide) (by decide) (by decide), fI 24 (by decide) (by decide) (by decide) (by decide) (by decide) (by decide)]
    exact g3
  · unfold rc_S
    rw [fI 19 (by decide) (by decide) (by decide) (by decide) (by decide) (by decide), fI 21 (by decide) (by decide) (by decide) (by decide) (by decide) (by decide), fI 22 (by decide) (by decide) (by decide) (by decide) (by decide) (by decide), fD, fR]
    exact g4
  · rw [fI 3 (by decide) (by decide) (by decide) (by decide) (by decide) (by decide)]
    exact g5
theorem d_run_st0 {d : sd} {w : sw} {r b : Nat} (hr : r < 8) (hst : d_st d r = 1) (hst3 : ∀ o, o < 8 → d_st d o ≤ 3) (hok : d_ok d w) (hb : b < 8) : d_st (d_run d w r).2.1 b = 0 ↔ d_st d b = 0 := by
  obtain ⟨-, -, h, -⟩ := d_run_ok hr hst hst3 hok
  rcases h b hb with q | q
  · rw [q]
  · constructor
    · intro c
      omega
    · intro c
      omega
theorem sp_note_S {M ν : bh_M} {n : Nat} {x : Int32} (h : rc_S M ν n) : rc_S M (sp_note ν x) n := by
  obtain ⟨h1, h2, h3, h4, h5, h6⟩ := h
  have eD : bh_D (sp_note ν x) = bh_D ν := congrArg (fun q => q.2.1) (sp_note_st ν x)
  refine ⟨h1, h2, sp_note_34 h3, h4.trans (sp_note_34 rfl).symm, h5, fun i hi => ?_⟩
  rw [sp_note_65 ν x 65 1 i (by decide) (by decide), sp_note_65 ν x 66 1 i (by decide) (by decide), sp_note_65 ν x 67 1 i (by decide) (by decide), eD]
  obtain ⟨k1, k2, k3, k4, k5⟩ := h6 i hi
  exact ⟨k1, k2, k3, k4, fun b hb => (k5 b hb).trans (sp_note_65 ν x 69 1 _ (by decide) (by decide)).symm⟩
theorem cc_fin {M : bh_M} {Z : bh_F → Prop} {A : sa} {b : Nat} (w2 : Option bh_V) (hb : b < 8) (h : RC M A) (h0 : ¬ a_st A b = 0) (hac : a_ac A b ≤ 4) (hz : ∀ M', RC M' (a_fin A b).2 → fr_C M M' → Z (.inl (some (.inr (2, (a_fin A b).1))), M')) : F_H_runActivator [.inr (3, 1), .inr (5, b + 1)] M (bh_after 35 [some (.inr (3, 1)), some (.inr (5, (b + 1))), w2] [] 0 (fun y => bh_wp (bh_tb T_H_activate) y Z) Z) := by
  refine cc_runActivator hb h h0 hac (fun M' h1 f1 => ?_)
  refine bk_H_activate_35 w2 _ hb f1.2.2.2.2 ⟨fun q => ?_, fun q => ?_⟩
  · have e1 : (a_actr A b).1 = true := by
      cases e : (a_actr A b).1 with
      | true => rfl
      | false => exact absurd (by rw [e]; rfl) q
    have eF : a_fin A b = (1, a_done (a_actr A b).2 b) := by
      unfold a_fin
      rw [e1, if_pos rfl]
    rw [eF] at hz
    have hst : ¬ a_st (a_actr A b).2 b = 0 := by
      have : a_st (a_actr A b).2 = a_st A := by
        unfold a_actr
        split
        · rfl
        · rfl
        · split <;> rfl
        · split <;> rfl
        · rfl
      rw [this]
      exact h0
    have f0 : bh_I (bh_sI (bh_sI M' 5 (b + 1) 8 1) 5 (b + 1) 3 3) 5 (b + 1) 0 = nI b := (bh_I_fld (by decide)).trans ((bh_I_fld (by decide)).trans (h1.1 b hb).1.1)
    rw [f0, show (100 : Int32) + nI b = nI (100 + b) from bn_add 100 b]
    have h2 : RC (bh_sI M' 5 (b + 1) 8 1) (a_shs (a_actr A b).2 b true) := by
      obtain ⟨g1, g2, g3, g4, g5, g6, g7, g8⟩ := h1
      refine ⟨fun x hx => ?_, fun x hx => ⟨(bh_I_fld (by decide)).trans (g2 x hx).1, (g2 x hx).2.1, fun q => ⟨(bh_I_fld (by decide)).trans ((g2 x hx).2.2 q).1, (bh_I_fld (by decide)).trans ((g2 x hx).2.2 q).2.1, ?_⟩⟩, g3, g4, g5, g6, g7, g8⟩
      · obtain ⟨⟨y1, y2, y3, y4, y5, y6⟩, yr⟩ := g1 x hx
        exact ⟨⟨(bh_I_fld (by decide)).trans y1, (bh_I_fld (by decide)).trans y2, y3, fun q => (bh_I_fld (by decide)).trans (y4 q), (bh_I_fld (by decide)).trans y5, y6⟩, yr⟩
      show (if 5 = 5 ∧ x + 1 = b + 1 ∧ 8 = 8 then 1 else bh_I M' 5 (x + 1) 8) = bI (if x = b then true else a_hs (a_actr A b).2 x)
      by_cases c : x = b
      · rw [if_pos ⟨rfl, by omega, rfl⟩, if_pos c]
        rfl
      · rw [if_neg (fun q => c (by omega)), if_neg c]
        exact ((g2 x hx).2.2 q).2.2
    have h3 := h2.sst (i := b) (v := 3) (by decide) hst
    refine cs_E_add (nI (100 + b)) f1.2.2.2.2 (μ0 := a_nu (a_actr A b).2) h3.2.2.1 (fun M2 g f => ?_)
    have hs2 : bh_stat M2.2.2.2 := by rw [f.2]; exact f1.2.2.2.2
    refine bk_H_activate_66 w2 hb hs2 (hz M2 ?_ ?_)
    · have fs := f.se h3.2.2.2.2.2.2.2
      refine h3.se fs (g _ h3.2.2.1) ?_
      obtain ⟨n, h4⟩ := h3.2.2.2.1
      refine ⟨n, ?_⟩
      unfold rc_S
      rw [f.1 19 (by decide) (by decide), f.1 21 (by decide) (by decide), f.1 22 (by decide) (by decide), f.R, f.D]
      exact sp_note_S h4
    · have fa : fr_C M' (bh_sI M' 5 (b + 1) 8 1) := fr_C_I f1.2.2.2.2 ⟨by decide, by decide⟩ _ _ _
      have fb : fr_C (bh_sI M' 5 (b + 1) 8 1) (bh_sI (bh_sI M' 5 (b + 1) 8 1) 5 (b + 1) 3 3) := fr_C_I fa.2.2.2.2 ⟨by decide, by decide⟩ _ _ _
      exact fr_C_trans f1 (fr_C_trans fa (fr_C_trans fb (f.se fb.2.2.2.2).C))
  · have e1 : (a_actr A b).1 = false := bI_0.mp (Decidable.of_not_not q)
    have eF : a_fin A b = (4, (a_actr A b).2) := by
      unfold a_fin
      rw [e1, if_neg Bool.false_ne_true]
    rw [eF] at hz
    exact hz M' h1 f1
theorem cc_activate {M : bh_M} {Z : bh_F → Prop} {A : sa} {b : Nat} (hb : b < 8) (h : RC M A) (h0 : ¬ a_st A b = 0) (hac : a_ac A b ≤ 4) (hok : d_ok (a_d A) (a_w A)) (hz : ∀ M', RC M' (a_act A b).2 → fr_C M M' → Z (.inl (some (.inr (2, (a_act A b).1))), M')) : F_H_activate [.inr (3, 1), .inr (5, b + 1)] M Z := by
  have hs := h.2.2.2.2.2.2.2
  have hst3 : ∀ o, o < 8 → d_st (a_d A) o ≤ 3 := fun o ho => (h.st ho).2
  refine be_H_activate hb hs ⟨fun q => ?_, fun q => ?_⟩
  · have q1 : ¬ a_st A b = 1 := fun c => q ((h.stq hb 1 (by decide)).mpr c)
    have eA : a_act A b = a_fin A b := by
      unfold a_act
      rw [if_neg q1]
    rw [eA] at hz
    exact cc_fin none hb h h0 hac hz
  · have q1 : a_st A b = 1 := (h.stq hb 1 (by decide)).mp (Decidable.of_not_not q)
    have eA : a_act A b = if (d_run (a_d A) (a_w A) b).1 = 1 then a_fin (a_res A (d_run (a_d A) (a_w A) b)) b else ((d_run (a_d A) (a_w A) b).1, a_res A (d_run (a_d A) (a_w A) b)) := by
      unfold a_act
      rw [if_pos q1]
    rw [eA] at hz
    refine cd_R_run hb q1 h.1 (fun x k hx h1 => hok.1 x k hx (d_live_1 h1)) hs (fun M' g1 g2 g3 f => ?_)
    have h2 : RC M' (a_res A (d_run (a_d A) (a_w A) b)) := h.run g1 g2 g3 f (fun x hx c => fun c2 => c ((d_run_st0 hb q1 hst3 hok hx).mpr c2))
    have fC := f.C hs
    obtain ⟨k1, -, -, k4, -⟩ := d_run_ok hb q1 hst3 hok
    refine bk_H_activate_20 none (d_run (a_d A) (a_w A) b).1 (by omega) hb fC.2.2.2.2 ⟨fun q2 => ?_, fun q2 => ?_⟩
    · rw [if_pos q2] at hz
      refine cc_fin _ hb h2 (fun c => ?_) hac (fun M2 h3 f2 => hz M2 h3 (fr_C_trans fC f2))
      have c := (d_run_st0 hb q1 hst3 hok hb).mp c
      exact h0 c
    · rw [if_neg q2] at hz
      exact hz M' h2 fC
