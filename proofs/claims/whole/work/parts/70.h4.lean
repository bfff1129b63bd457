/-! NEW LIVES, EXPORTS AND IMPORTS, the class's side -/
def d_nl (d : sd) (b st : Nat) (nm : Int32) (lf : Nat) : sd := (fun x => if x = b then st else d_st d x, fun x => if x = b then nm else d_nm d x, fun x p => if x = b then none else d_ver d x p, d_us d, fun x => if x = b then 0 else d_ni d x, d_ip d, d_lo d, d_hi d, d_op d, fun x => if x = b then lf else d_lf d x)
def w_cl (w : sw) (b : Nat) : sw := fun x k => if x = b then none else w x k
def e_cl (e : sx) (b : Nat) : sx := (fun x => if x = b then 0 else x_n e x, x_p e)
def a_nl (A : sa) (b st : Nat) (nm : Int32) (lf lv ac : Nat) (wa : Bool) : sa := (d_nl (a_d A) b st nm lf, w_cl (a_w A) b, e_cl (a_e A) b, fun x => if x = b then lv else a_lv A x, fun x => if x = b then ac else a_ac A x, fun x => if x = b then wa else a_wa A x, fun x => if x = b then false else a_hs A x, a_nu A, a_fl A, a_tr A, a_tk A, a_ck A + 1)
theorem RC.nl {M M' : bh_M} {A : sa} {b st lf lv ac : Nat} {nm : Int32} {wa : Bool} (h : RC M A) (f0 : ∀ a, a ≠ 5 → a ≠ 6 → a ≠ 7 → a ≠ 8 → a ≠ 10 → bh_I M' a = bh_I M a) (f1 : ∀ a x c, x ≠ b + 1 → bh_I M' a x c = bh_I M a x c) (f2 : M'.2 = M.2) (p8 : ∀ p, p < 8 → bh_I M' 8 (b + 1) p = -1) (p10 : ∀ p, p < 8 → bh_I M' 10 (b + 1) p = -1) (p7 : bh_I M' 7 (b + 1) 7 = 0) (p78 : bh_I M' 7 (b + 1) 8 = 0) (p6 : ∀ k, k < 3 → bh_I M' 6 (b + 1) k = -1) (q0 : bh_I M' 5 (b + 1) 0 = nI b) (q3 : bh_I M' 5 (b + 1) 3 = nI st) (hst : st ≤ 3) (q4 : ¬ st = 0 → bh_I M' 5 (b + 1) 4 = nm) (q9 : bh_I M' 5 (b + 1) 9 = nI (b + 8 * lf)) (hlf : lf ≤ 1000) (q7 : bh_I M' 5 (b + 1) 7 = bI wa) (q5 : ¬ st = 0 → bh_I M' 5 (b + 1) 5 = nI lv ∧ bh_I M' 5 (b + 1) 6 = nI ac ∧ bh_I M' 5 (b + 1) 8 = 0) : RC M' (a_nl A b st nm lf lv ac wa) := by
  obtain ⟨g1, g2, g3, ⟨n, g4⟩, g5, g6, g7, g8⟩ := h
  have fD : bh_D M' = bh_D M := congrArg (fun q => q.2.1) f2
  have fR : bh_R M' = bh_R M := congrArg (fun q => q.2.2.1) f2
  refine ⟨fun x hx => ?_, fun x hx => ?_, ?_, ⟨n, ?_⟩, ?_, ?_, ?_, by rw [f2]; exact g8⟩
  · by_cases c : x = b
    · subst c
      have e1 : d_st (d_nl (a_d A) x st nm lf) x = st := if_pos rfl
      have e2 : d_ni (d_nl (a_d A) x st nm lf) x = 0 := if_pos rfl
      have e3 : ∀ p, d_ver (d_nl (a_d A) x st nm lf) x p = none := fun p => if_pos rfl
      have e4 : d_nm (d_nl (a_d A) x st nm lf) x = nm := if_pos rfl
      have e5 : d_lf (d_nl (a_d A) x st nm lf) x = lf := if_pos rfl
      have e6 : ∀ k, a_w (a_nl A x st nm lf lv ac wa) x k = none := fun k => if_pos rfl
      refine ⟨⟨q0, q3.trans (by rw [show a_d (a_nl A x st nm lf lv ac wa) = d_nl (a_d A) x st nm lf from rfl, e1]), ?_, fun q => ?_, ?_, ?_⟩, fun p hp => ⟨?_, fun v hv => ?_⟩, ⟨?_, ?_⟩, fun k hk => ?_, fun p hp => ?_, fun k hk => ⟨?_, fun o l q => ?_⟩⟩
      · show d_st (d_nl (a_d A) x st nm lf) x ≤ 3
        rw [e1]
        exact hst
      · have q : ¬ d_st (d_nl (a_d A) x st nm lf) x = 0 := q
        rw [e1] at q
        show _ = d_nm (d_nl (a_d A) x st nm lf) x
        rw [e4]
        exact q4 q
      · show _ = nI (x + 8 * d_lf (d_nl (a_d A) x st nm lf) x)
        rw [e5]
        exact q9
      · show d_lf (d_nl (a_d A) x st nm lf) x ≤ 1000
        rw [e5]
        exact hlf
      · show _ = bh_oI (d_ver (d_nl (a_d A) x st nm lf) x p)
        rw [e3]
        exact p8 p hp
      · have hv : d_ver (d_nl (a_d A) x st nm lf) x p = some v := hv
        rw [e3] at hv
        cases hv
      · show _ = nI (d_ni (d_nl (a_d A) x st nm lf) x)
        rw [e2]
        exact p78
      · show d_ni (d_nl (a_d A) x st nm lf) x ≤ 3
        rw [e2]
        decide
      · have hk : k < d_ni (d_nl (a_d A) x st nm lf) x := hk
        rw [e2] at hk
        exact absurd hk (Nat.not_lt_zero _)
      · show _ = bh_oI (bh_ff _ (d_ni (d_nl (a_d A) x st nm lf) x))
        rw [e2]
        exact p10 p hp
      · rw [e6]
        exact p6 k hk
      · rw [e6] at q
        cases q
    · have hne : x + 1 ≠ b + 1 := by omega
      have e1 : d_st (a_d (a_nl A b st nm lf lv ac wa)) x = d_st (a_d A) x := if_neg c
      have e2 : d_ni (a_d (a_nl A b st nm lf lv ac wa)) x = d_ni (a_d A) x := if_neg c
      have e3 : ∀ p, d_ver (a_d (a_nl A b st nm lf lv ac wa)) x p = d_ver (a_d A) x p := fun p => if_neg c
      have e4 : d_nm (a_d (a_nl A b st nm lf lv ac wa)) x = d_nm (a_d A) x := if_neg c
      have e5 : d_lf (a_d (a_nl A b st nm lf lv ac wa)) x = d_lf (a_d A) x := if_neg c
      have e6 : ∀ k, a_w (a_nl A b st nm lf lv ac wa) x k = a_w A x k := fun k => if_neg c
      have e7 : ∀ p, d_imp (a_d (a_nl A b st nm lf lv ac wa)) x p = d_imp (a_d A) x p := fun p => by
        unfold d_imp
        rw [e2]
        rfl
      obtain ⟨y1, y2, y3, y4, y5, y6⟩ := g1 x hx
      rw [e1, e2, e4, e5, f1 5 _ _ hne, f1 5 _ _ hne, f1 5 _ _ hne, f1 5 _ _ hne, f1 7 _ _ hne]
      refine ⟨y1, fun p hp => ?_, y3, fun k hk => ?_, fun p hp => ?_, fun k hk => ?_⟩
      · rw [e3, f1 8 _ _ hne, f1 9 _ _ hne]
        exact y2 p hp
      · rw [f1 11 _ _ hne, f1 12 _ _ hne, f1 13 _ _ hne, f1 14 _ _ hne]
        exact y4 k hk
      · rw [e7, f1 10 _ _ hne]
        exact y5 p hp
      · rw [e6, f1 6 _ _ hne]
        exact y6 k hk
  · by_cases c : x = b
    · subst c
      have e1 : a_st (a_nl A x st nm lf lv ac wa) x = st := if_pos rfl
      have e2 : a_wa (a_nl A x st nm lf lv ac wa) x = wa := if_pos rfl
      have e3 : x_n (a_e (a_nl A x st nm lf lv ac wa)) x = 0 := if_pos rfl
      have e4 : a_lv (a_nl A x st nm lf lv ac wa) x = lv := if_pos rfl
      have e5 : a_ac (a_nl A x st nm lf lv ac wa) x = ac := if_pos rfl
      have e6 : a_hs (a_nl A x st nm lf lv ac wa) x = false := if_pos rfl
      rw [e1, e2, e3, e4, e5, e6]
      exact ⟨q7, p7, q5⟩
    · have hne : x + 1 ≠ b + 1 := by omega
      have e1 : a_st (a_nl A b st nm lf lv ac wa) x = a_st A x := if_neg c
      have e2 : a_wa (a_nl A b st nm lf lv ac wa) x = a_wa A x := if_neg c
      have e3 : x_n (a_e (a_nl A b st nm lf lv ac wa)) x = x_n (a_e A) x := if_neg c
      have e4 : a_lv (a_nl A b st nm lf lv ac wa) x = a_lv A x := if_neg c
      have e5 : a_ac (a_nl A b st nm lf lv ac wa) x = a_ac A x := if_neg c
      have e6 : a_hs (a_nl A b st nm lf lv ac wa) x = a_hs A x := if_neg c
      rw [e1, e2, e3, e4, e5, e6, f1 5 _ _ hne, f1 7 _ _ hne, f1 5 _ _ hne, f1 5 _ _ hne, f1 5 _ _ hne]
      exact g2 x hx
  · unfold rc_E
    rw [f0 23 (by decide) (by decide) (by decide) (by decide) (by decide), f0 24 (by decide) (by decide) (by decide) (by decide) (by decide)]
    exact g3
  · unfold rc_S
    rw [f0 19 (by decide) (by decide) (by decide) (by decide) (by decide), f0 21 (by decide) (by decide) (by decide) (by decide) (by decide), f0 22 (by decide) (by decide) (by decide) (by decide) (by decide), fD, fR]
    exact g4
  · rw [f0 3 (by decide) (by decide) (by decide) (by decide) (by decide)]
    exact g5
  · rw [f0 15 (by decide) (by decide) (by decide) (by decide) (by decide)]
    exact g6
  · rw [f0 15 (by decide) (by decide) (by decide) (by decide) (by decide)]
    exact g7
def a_cnt (A : sa) : Int32 := bh_cnt (fun i => decide (¬ a_st A i = 0)) 8
def o_install (A : sa) (a nm lv ac : Int32) : sr := o_c ((¬ nm < 0 ∧ nm ≤ 5) ∧ (¬ lv < 1 ∧ lv ≤ 5) ∧ (¬ ac < 0 ∧ ac ≤ 4)) A (if ¬ a < 0 ∧ a ≤ 7 then (if ¬ a_st A a.toNatClampNeg = 0 then (2, 0, A) else (0, a_cnt (a_nl A a.toNatClampNeg 1 nm (d_lf (a_d A) a.toNatClampNeg + 1) lv.toNatClampNeg ac.toNatClampNeg false), a_nl A a.toNatClampNeg 1 nm (d_lf (a_d A) a.toNatClampNeg + 1) lv.toNatClampNeg ac.toNatClampNeg false)) else (1, 0, A))
theorem fr_C.of {M M' : bh_M} (hs : bh_stat M.2.2.2) (f0 : ∀ a, a ≠ 5 → a ≠ 6 → a ≠ 7 → a ≠ 8 → a ≠ 10 → bh_I M' a = bh_I M a) (f2 : M'.2 = M.2) : fr_C M M' := ⟨fun a h1 => f0 a (by omega) (by omega) (by omega) (by omega) (by omega), congrArg (fun q => q.1) f2, fun a _ => congrFun (congrArg (fun q => q.2.1) f2) a, fun a _ => congrFun (congrArg (fun q => q.2.2.1) f2) a, by rw [f2]; exact hs⟩
theorem bh_stp {P Q : Prop} (e : P = Q) (q : Q) : P := e ▸ q
theorem cc_install {M : bh_M} {Z : bh_F → Prop} {A : sa} (h : RC M A) (hw : WA A) (hck : a_ck A < 999) (a nm lv ac : Int32) (hz : ∀ M', RC M' (o_install A a nm lv ac).2.2 → fr_C M M' → Z (rz E_ins (o_install A a nm lv ac), M')) : F_H_install [.inr (3, 1), .inl (.int a), .inl (.int nm), .inl (.int lv), .inl (.int ac)] M Z := by
  have hs := h.hs
  have bad1 : ¬ (¬ a < 0 ∧ a ≤ 7) → Z (.inr "java/lang/IllegalArgumentException", M) := by
    intro q
    have e : o_install A a nm lv ac = (1, 0, A) := by
      unfold o_install
      rw [if_neg q]
      unfold o_c
      split <;> rfl
    rw [e] at hz
    exact hz M h (fr_C_refl hs)
  have bad2 : ¬ ((¬ nm < 0 ∧ nm ≤ 5) ∧ (¬ lv < 1 ∧ lv ≤ 5) ∧ (¬ ac < 0 ∧ ac ≤ 4)) → Z (.inr "java/lang/IllegalArgumentException", M) := by
    intro q
    rw [show o_install A a nm lv ac = (1, 0, A) from o_c_out q] at hz
    exact hz M h (fr_C_refl hs)
  refine be_H_install a nm lv ac hs ⟨fun q => bad1 (fun c => c.1 q), fun q0 => ⟨fun q1 => ⟨fun q => bad2 (fun c => c.1.1 q), fun r0 => ⟨fun r1 => ⟨fun q => bad2 (fun c => c.2.1.1 q), fun s0 => ⟨fun s1 => ⟨fun q => bad2 (fun c => c.2.2.1 q), fun t0 => ⟨fun t1 => ?_, fun t1 => bad2 (fun c => t1 c.2.2.2)⟩⟩, fun s1 => bad2 (fun c => s1 c.2.1.2)⟩⟩, fun r1 => bad2 (fun c => r1 c.1.2)⟩⟩, fun q1 => bad1 (fun c => q1 c.2)⟩⟩
  have e1 : o_install A a nm lv ac = _ := o_c_in ⟨⟨r0, r1⟩, ⟨s0, s1⟩, t0, t1⟩
  rw [e1, if_pos ⟨q0, q1⟩] at hz
  clear e1 bad1 bad2
  obtain ⟨b, hb, rfl⟩ := i_nat (N := 7) q0 q1 (by decide)
  have hb : b < 8 := by omega
  obtain ⟨j, hj, rfl⟩ := i_nat (N := 4) t0 t1 (by decide)
  have s9 : ¬ lv < 0 := fun q => s0 (Int32.lt_trans q (by decide))
  obtain ⟨i, hi, rfl⟩ := i_nat (N := 5) s9 s1 (by decide)
  refine ⟨bn_in hb rfl, ?_⟩
  rw [bn_clamp hb rfl]
  rw [bn_clamp hb rfl, bn_clamp (N := 6) (by omega) rfl, bn_clamp (N := 5) (by omega) rfl] at hz
  refine ⟨fun q2 => ?_, fun q2 => ?_⟩
  · have q3 : a_st A b = 0 := (h.stq hb 0 (by decide)).mp q2
    rw [if_neg (fun c => c q3)] at hz
    obtain ⟨⟨y0, y3, -, -, y9, y10⟩, -⟩ := h.1 b hb
    have hlf := (hw.2.1 b hb).2.1
    have hwa : a_wa A b = false := ((hw.2.1 b hb).2.2.1 q3).1
    have hr : ∀ M', (∀ a, a ≠ 5 → a ≠ 6 → a ≠ 7 → a ≠ 8 → a ≠ 10 → bh_I M' a = bh_I M a) → M'.2 = M.2 → RC M' (a_nl A b 1 nm (d_lf (a_d A) b + 1) i j false) → Z (.inl (some (.inl (.int (a_cnt (a_nl A b 1 nm (d_lf (a_d A) b + 1) i j false))))), M') := fun M' f0 f2 hR => hz M' hR (fr_C.of hs f0 f2)
    refine bh_stp (congrArg (fun v => Z (.inl (some (.inl (.int v))), _)) (bh_cnt_congr (q := fun i' => decide (¬ a_st (a_nl A b 1 nm (d_lf (a_d A) b + 1) i j false) i' = 0)) (fun i' hi' => ?_))) (hr _ ?_ rfl ?_)
    · have e9 : a_st (a_nl A b 1 nm (d_lf (a_d A) b + 1) i j false) i' = if i' = b then 1 else a_st A i' := rfl
      by_cases c : i' = b
      · subst c
        simp [bh_I_sI, bh_I_fill, e9]
      · have hne : ¬ i' + 1 = b + 1 := by omega
        simp only [bh_I_sI, bh_I_fill, e9, if_neg c, hne, false_and, and_false, if_false]
        rw [(h.st hi').1]
        exact decide_eq_decide.mpr (not_congr (bn_0 (by have := (h.st hi').2; omega)))
    · intro a w5 w6 w7 w8 w10
      funext x c
      simp [bh_I_sI, bh_I_fill, w5, w6, w7, w8, w10]
    · refine h.nl ?_ ?_ rfl ?_ ?_ ?_ ?_ ?_ ?_ ?_ (by decide) ?_ ?_ (by omega) ?_ ?_
      · intro a w5 w6 w7 w8 w10
        funext x c
        simp [bh_I_sI, bh_I_fill, w5, w6, w7, w8, w10]
      · intro a x c hx
        simp [bh_I_sI, bh_I_fill, hx]
      · intro p hp
        simp [bh_I_sI, bh_I_fill, hp]
      · intro p hp
        simp [bh_I_sI, bh_I_fill, hp]
      · simp [bh_I_sI, bh_I_fill]
      · simp [bh_I_sI, bh_I_fill]
      · intro k hk
        simp [bh_I_sI, bh_I_fill, hk]
      · simp [bh_I_sI, bh_I_fill, y0]
      · simp [bh_I_sI, bh_I_fill]
        rfl
      · intro _
        simp [bh_I_sI, bh_I_fill]
      · simp only [bh_I_sI, bh_I_fill]
        simp [y9]
        rw [show (8 : Int32) = nI 8 from rfl, bn_add]
        congr 1
      · simp only [bh_I_sI, bh_I_fill]
        simp
        rw [(h.2.1 b hb).1, hwa]
      · intro _
        simp [bh_I_sI, bh_I_fill]
  · have q3 : ¬ a_st A b = 0 := fun c => q2 ((h.stq hb 0 (by decide)).mpr c)
    rw [if_pos q3] at hz
    exact hz M h (fr_C_refl hs)
