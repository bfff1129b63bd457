/-! THE CLASS: export, need -/
def d_exp (d : sd) (b p v : Nat) (u : Int32) : sd := (d.1, d.2.1, fun x q => if x = b ∧ q = p then some v else d_ver d x q, fun x q => if x = b ∧ q = p then u else d_us d x q, d.2.2.2.2)
def e_exp (e : sx) (b p : Nat) : sx := (fun x => if x = b then x_n e x + 1 else x_n e x, fun x j => if x = b ∧ j = x_n e x then p else x_p e x j)
def a_exp (A : sa) (b p v : Nat) (u : Int32) : sa := (d_exp (a_d A) b p v u, a_w A, e_exp (a_e A) b p, A.2.2.2)
def o_export (A : sa) (a x u : Int32) : sr := o_c ((¬ x < 0 ∧ x ≤ 79) ∧ (¬ u < 0 ∧ u ≤ 255)) A (o_b a A (fun b => if ¬ a_st A b = 1 then (3, 0, A) else if x_n (a_e A) b = 3 ∨ (d_ver (a_d A) b (x.toNatClampNeg % 8)).isSome = true then (4, 0, A) else (0, nI (x_n (a_e A) b + 1), a_exp A b (x.toNatClampNeg % 8) (x.toNatClampNeg / 8) u)))
def d_need (d : sd) (b p lo hi : Nat) (op : Bool) : sd := (d_st d, d_nm d, d_ver d, d_us d, fun x => if x = b then d_ni d x + 1 else d_ni d x, fun x k => if x = b ∧ k = d_ni d x then p else d_ip d x k, fun x k => if x = b ∧ k = d_ni d x then lo else d_lo d x k, fun x k => if x = b ∧ k = d_ni d x then hi else d_hi d x k, fun x k => if x = b ∧ k = d_ni d x then op else d_op d x k, d_lf d)
def a_need (A : sa) (b p lo hi : Nat) (op : Bool) : sa := (d_need (a_d A) b p lo hi op, A.2)
def o_need (A : sa) (a p lo hi : Int32) (op : Bool) : sr := o_c ((¬ p < 0 ∧ p ≤ 7) ∧ (¬ lo < 0 ∧ lo ≤ 9) ∧ (¬ hi < 0 ∧ hi ≤ 9)) A (o_b a A (fun b => if ¬ a_st A b = 1 then (3, 0, A) else if d_ni (a_d A) b = 3 ∨ (d_imp (a_d A) b p.toNatClampNeg).isSome = true then (4, 0, A) else (0, nI (d_ni (a_d A) b + 1), a_need A b p.toNatClampNeg lo.toNatClampNeg hi.toNatClampNeg op)))
theorem fr_C_n {M M1 : bh_M} (f : fr_C M M1) {t : Nat} (ht : 3 ≤ t ∧ t ≤ 24) (x j : Nat) (v : Int32) : fr_C M (bh_sI M1 t x j v) := fr_C_trans f (fr_C_I f.2.2.2.2 ht x j v)
theorem cc_export {M : bh_M} {Z : bh_F → Prop} {A : sa} (h : RC M A) (hw : WA A) (a x u : Int32) (hz : ∀ M', RC M' (o_export A a x u).2.2 → fr_C M M' → Z (rz E_std (o_export A a x u), M')) : F_H_export [.inr (3, 1), .inl (.int a), .inl (.int x), .inl (.int u)] M Z := by
  have hs := h.hs
  have bad1 : ¬ (¬ a < 0 ∧ a ≤ 7) → Z (.inr "java/lang/IllegalArgumentException", M) := by
    intro q
    have e : o_export A a x u = (1, 0, A) := by
      unfold o_export
      rw [o_b_out q]
      unfold o_c
      split <;> rfl
    rw [e] at hz
    exact hz M h (fr_C_refl hs)
  have bad2 : ¬ ((¬ x < 0 ∧ x ≤ 79) ∧ (¬ u < 0 ∧ u ≤ 255)) → Z (.inr "java/lang/IllegalArgumentException", M) := by
    intro q
    rw [show o_export A a x u = (1, 0, A) from o_c_out q] at hz
    exact hz M h (fr_C_refl hs)
  refine ct_H_export a x u hs ⟨fun q => bad1 (fun c => c.1 q), fun q0 => ⟨fun q1 => ⟨fun q => bad2 (fun c => c.1.1 q), fun r0 => ⟨fun r1 => ⟨fun q => bad2 (fun c => c.2.1 q), fun s0 => ⟨fun s1 => ?_, fun s1 => bad2 (fun c => s1 c.2.2)⟩⟩, fun r1 => bad2 (fun c => r1 c.1.2)⟩⟩, fun q1 => bad1 (fun c => q1 c.2)⟩⟩
  obtain ⟨b, hb, rfl⟩ := i_nat (N := 7) q0 q1 (by decide)
  have hb : b < 8 := by omega
  have e1 : o_export A (nI b) x u = _ := o_c_in ⟨⟨r0, r1⟩, s0, s1⟩
  rw [e1] at hz
  clear e1 bad1 bad2
  obtain ⟨y, hy, rfl⟩ := i_nat (N := 79) r0 r1 (by decide)
  refine ⟨bn_in hb rfl, ?_⟩
  rw [bn_clamp hb rfl]
  rw [bn_clamp (N := 80) (by omega) rfl] at hz
  refine ⟨fun q2 => ?_, fun q2 => ?_⟩
  · have q3 : ¬ a_st A b = 0 := fun c => q2 ((h.stq hb 0 (by decide)).mpr c)
    rw [o_b_in hb q3] at hz
    have hx3 := ((hw.2.1 b hb).2.2.2 q3).2.2.2
    have hp8 : y % 8 < 8 := Nat.mod_lt _ (by decide)
    rw [show nI y - nI y / 8 * 8 = nI (y % 8) from bn_rem 8 (by omega) (by decide), show nI y / 8 = nI (y / 8) from bn_div 8 (by omega) (by decide), bn_clamp hp8 rfl, (h.2.1 b hb).2.1, show (3 : Int32) = nI 3 from rfl, bn_le (by decide) (by omega), ((h.1 b hb).2.1 (y % 8) hp8).1]
    refine ⟨fun q4 => ?_, fun q4 => ?_⟩
    · have q5 : a_st A b = 1 := (h.stq hb 1 (by decide)).mp q4
      rw [if_neg (fun c => c q5)] at hz
      refine ⟨fun q6 => ?_, fun q6 => ⟨bn_in hp8 rfl, fun q7 => ?_, fun q7 => ?_⟩⟩
      · rw [if_pos (Or.inl (by omega))] at hz
        exact hz M h (fr_C_refl hs)
      · rw [if_pos (Or.inr ?_)] at hz
        · exact hz M h (fr_C_refl hs)
        · cases e : d_ver (a_d A) b (y % 8) with
          | none => exact absurd (by rw [e]; rfl) q7
          | some v => rfl
      · have q8 : d_ver (a_d A) b (y % 8) = none := (bh_oI_neg (N := 10) (fun v hv => by have := (((h.1 b hb).2.1 (y % 8) hp8).2 v hv).1; omega) rfl).mp (Decidable.of_not_not q7)
        rw [if_neg (by rw [q8]; rintro (c | c); omega; cases c)] at hz
        rw [show (nI (x_n (a_e A) b) + 1 : Int32) = nI (x_n (a_e A) b + 1) from bn_add _ 1]
        rw [show bh_I (bh_sI (bh_sI (bh_sI M 8 (b + 1) (y % 8) (nI (y / 8))) 9 (b + 1) (y % 8) u) 7 (b + 1) 7 (nI (x_n (a_e A) b + 1))) 7 (b + 1) 7 = nI (x_n (a_e A) b + 1) from if_pos ⟨rfl, rfl, rfl⟩]
        have f : fr_C M (bh_sI (bh_sI (bh_sI M 8 (b + 1) (y % 8) (nI (y / 8))) 9 (b + 1) (y % 8) u) 7 (b + 1) 7 (nI (x_n (a_e A) b + 1))) := fr_C_n (fr_C_n (fr_C_I hs ⟨by decide, by decide⟩ _ _ _) ⟨by decide, by decide⟩ _ _ _) ⟨by decide, by decide⟩ _ _ _
        refine hz _ ?_ f
        obtain ⟨g1, g2, g3, g4, g5, g6, g7, g8⟩ := h
        refine ⟨fun z hz => ?_, fun z hz => ⟨(g2 z hz).1, ?_, (g2 z hz).2.2⟩, g3, g4, g5, g6, g7, g8⟩
        · obtain ⟨y1, y2, ⟨y3, y3'⟩, y4, y5, y6⟩ := g1 z hz
          refine ⟨y1, fun p hp => ⟨?_, fun v hv => ?_⟩, ⟨(bh_I_fld (by decide)).trans y3, y3'⟩, y4, y5, y6⟩
          · show bh_I (bh_sI M 8 (b + 1) (y % 8) (nI (y / 8))) 8 (z + 1) p = bh_oI (if z = b ∧ p = y % 8 then some (y / 8) else d_ver (a_d A) z p)
            rw [bh_I_sI]
            by_cases c : z = b ∧ p = y % 8
            · rw [if_pos ⟨rfl, by omega, c.2⟩, if_pos c]
              rfl
            · rw [if_neg (fun q => c ⟨by omega, q.2.2⟩), if_neg c]
              exact (y2 p hp).1
          · have hv : (if z = b ∧ p = y % 8 then some (y / 8) else d_ver (a_d A) z p) = some v := hv
            show v ≤ 9 ∧ bh_I (bh_sI M 9 (b + 1) (y % 8) u) 9 (z + 1) p = if z = b ∧ p = y % 8 then u else d_us (a_d A) z p
            rw [bh_I_sI]
            by_cases c : z = b ∧ p = y % 8
            · rw [if_pos c] at hv
              rw [if_pos ⟨rfl, by omega, c.2⟩, if_pos c]
              have hv := Option.some.inj hv
              exact ⟨by omega, rfl⟩
            · rw [if_neg c] at hv
              rw [if_neg (fun q => c ⟨by omega, q.2.2⟩), if_neg c]
              exact (y2 p hp).2 v hv
        · show bh_I (bh_sI M 7 (b + 1) 7 (nI (x_n (a_e A) b + 1))) 7 (z + 1) 7 = nI (if z = b then x_n (a_e A) z + 1 else x_n (a_e A) z)
          rw [bh_I_sI]
          by_cases c : z = b
          · rw [if_pos ⟨rfl, by omega, rfl⟩, if_pos c, c]
          · rw [if_neg (fun q => c (by omega)), if_neg c]
            exact (g2 z hz).2.1
    · have q5 : ¬ a_st A b = 1 := fun c => q4 ((h.stq hb 1 (by decide)).mpr c)
      rw [if_pos q5] at hz
      exact hz M h (fr_C_refl hs)
  · have q3 : a_st A b = 0 := (h.stq hb 0 (by decide)).mp (Decidable.of_not_not q2)
    rw [o_b_0 hb q3] at hz
    exact hz M h (fr_C_refl hs)
theorem bh_ff_succ (f : Nat → Bool) (n : Nat) : bh_ff f (n + 1) = match bh_ff f n with
    | some k => some k
    | none => if f n then some n else none := by
  unfold bh_ff
  rw [List.range_succ, List.find?_append]
  cases (List.range n).find? f with
  | some k => rfl
  | none =>
    show [n].find? f = _
    cases h : f n
    · simp [h]
    · simp [h]
theorem d_imp_need {d : sd} {b p lo hi q : Nat} {op : Bool} (x : Nat) (hn : d_imp d b p = none) : d_imp (d_need d b p lo hi op) x q = if x = b ∧ q = p then some (d_ni d b) else d_imp d x q := by
  unfold d_imp
  by_cases c : x = b
  · subst c
    have e1 : d_ni (d_need d x p lo hi op) x = d_ni d x + 1 := if_pos rfl
    rw [e1, bh_ff_succ]
    have e2 : bh_ff (fun k => decide (d_ip (d_need d x p lo hi op) x k = q)) (d_ni d x) = bh_ff (fun k => decide (d_ip d x k = q)) (d_ni d x) := bh_ff_congr (fun k hk => by
      rw [show d_ip (d_need d x p lo hi op) x k = d_ip d x k from if_neg (fun c => by omega)])
    have e3 : d_ip (d_need d x p lo hi op) x (d_ni d x) = p := if_pos ⟨rfl, rfl⟩
    rw [e2]
    have hn : bh_ff (fun k => decide (d_ip d x k = p)) (d_ni d x) = none := hn
    by_cases c2 : q = p
    · subst c2
      rw [hn, if_pos (show x = x ∧ q = q from ⟨rfl, rfl⟩)]
      show (if decide (d_ip (d_need d x q lo hi op) x (d_ni d x) = q) = true then some (d_ni d x) else none) = _
      rw [e3, decide_eq_true rfl, if_pos rfl]
    · rw [if_neg (show ¬ (x = x ∧ q = p) from fun c => c2 c.2)]
      cases bh_ff (fun k => decide (d_ip d x k = q)) (d_ni d x) with
      | some k => rfl
      | none =>
        show (if decide (d_ip (d_need d x p lo hi op) x (d_ni d x) = q) = true then some (d_ni d x) else none) = _
        rw [e3, decide_eq_false (fun c => c2 c.symm), if_neg Bool.false_ne_true]
  · rw [if_neg (fun q => c q.1), show d_ni (d_need d b p lo hi op) x = d_ni d x from if_neg c]
    exact bh_ff_congr (fun k hk => by rw [show d_ip (d_need d b p lo hi op) x k = d_ip d x k from if_neg (fun q => c q.1)])
theorem cc_need {M : bh_M} {Z : bh_F → Prop} {A : sa} (h : RC M A) (a p lo hi : Int32) (op : Bool) (hz : ∀ M', RC M' (o_need A a p lo hi op).2.2 → fr_C M M' → Z (rz E_std (o_need A a p lo hi op), M')) : F_H_need [.inr (3, 1), .inl (.int a), .inl (.int p), .inl (.int lo), .inl (.int hi), .inl (.int (bI op))] M Z := by
  have hs := h.hs
  have bad1 : ¬ (¬ a < 0 ∧ a ≤ 7) → Z (.inr "java/lang/IllegalArgumentException", M) := by
    intro q
    have e : o_need A a p lo hi op = (1, 0, A) := by
      unfold o_need
      rw [o_b_out q]
      unfold o_c
      split <;> rfl
    rw [e] at hz
    exact hz M h (fr_C_refl hs)
  have bad2 : ¬ ((¬ p < 0 ∧ p ≤ 7) ∧ (¬ lo < 0 ∧ lo ≤ 9) ∧ (¬ hi < 0 ∧ hi ≤ 9)) → Z (.inr "java/lang/IllegalArgumentException", M) := by
    intro q
    rw [show o_need A a p lo hi op = (1, 0, A) from o_c_out q] at hz
    exact hz M h (fr_C_refl hs)
  refine ct_H_need a p lo hi (bI op) hs ⟨fun q => bad1 (fun c => c.1 q), fun q0 => ⟨fun q1 => ⟨fun q => bad2 (fun c => c.1.1 q), fun r0 => ⟨fun r1 => ⟨fun q => bad2 (fun c => c.2.1.1 q), fun s0 => ⟨fun s1 => ⟨fun q => bad2 (fun c => c.2.2.1 q), fun t0 => ⟨fun t1 => ?_, fun t1 => bad2 (fun c => t1 c.2.2.2)⟩⟩, fun s1 => bad2 (fun c => s1 c.2.1.2)⟩⟩, fun r1 => bad2 (fun c => r1 c.1.2)⟩⟩, fun q1 => bad1 (fun c => q1 c.2)⟩⟩
  obtain ⟨b, hb, rfl⟩ := i_nat (N := 7) q0 q1 (by decide)
  have hb : b < 8 := by omega
  have e1 : o_need A (nI b) p lo hi op = _ := o_c_in ⟨⟨r0, r1⟩, ⟨s0, s1⟩, t0, t1⟩
  rw [e1] at hz
  clear e1 bad1 bad2
  obtain ⟨y, hy, rfl⟩ := i_nat (N := 7) r0 r1 (by decide)
  obtain ⟨l, hl, rfl⟩ := i_nat (N := 9) s0 s1 (by decide)
  obtain ⟨m, hm, rfl⟩ := i_nat (N := 9) t0 t1 (by decide)
  have hp8 : y < 8 := by omega
  refine ⟨bn_in hb rfl, ?_⟩
  rw [bn_clamp hb rfl]
  rw [bn_clamp (N := 8) hp8 rfl, bn_clamp (N := 10) (show l < 10 by omega) rfl, bn_clamp (N := 10) (show m < 10 by omega) rfl] at hz
  refine ⟨fun q2 => ?_, fun q2 => ?_⟩
  · have q3 : ¬ a_st A b = 0 := fun c => q2 ((h.stq hb 0 (by decide)).mpr c)
    rw [o_b_in hb q3] at hz
    obtain ⟨n1, n3⟩ := (h.1 b hb).2.2.1
    rw [bn_clamp hp8 rfl, n1, show (3 : Int32) = nI 3 from rfl, bn_le (by decide) (by omega), (h.1 b hb).2.2.2.2.1 y hp8]
    refine ⟨fun q4 => ?_, fun q4 => ?_⟩
    · have q5 : a_st A b = 1 := (h.stq hb 1 (by decide)).mp q4
      rw [if_neg (fun c => c q5)] at hz
      refine ⟨fun q6 => ?_, fun q6 => ⟨bn_in hp8 rfl, fun q7 => ?_, fun q7 => ?_⟩⟩
      · rw [if_pos (Or.inl (by omega))] at hz
        exact hz M h (fr_C_refl hs)
      · rw [if_pos (Or.inr ?_)] at hz
        · exact hz M h (fr_C_refl hs)
        · cases e : d_imp (a_d A) b y with
          | none => exact absurd (by rw [e]; rfl) q7
          | some v => rfl
      · have q8 : d_imp (a_d A) b y = none := (bh_oI_neg (N := 10) (fun v hv => by have := (d_imp_lt hv).1; omega) rfl).mp (Decidable.of_not_not q7)
        rw [if_neg (by rw [q8]; rintro (c | c); omega; cases c)] at hz
        have hn3 : d_ni (a_d A) b < 3 := by omega
        rw [show (nI (d_ni (a_d A) b) + 1 : Int32) = nI (d_ni (a_d A) b + 1) from bn_add _ 1, bn_clamp (N := 3) hn3 rfl]
        refine ⟨bn_in hn3 rfl, by cases op <;> simp [bI], ?_⟩
        rw [show bh_I (bh_sI (bh_sI (bh_sI (bh_sI (bh_sI (bh_sI M 10 (b + 1) y (nI (d_ni (a_d A) b))) 11 (b + 1) (d_ni (a_d A) b) (nI y)) 12 (b + 1) (d_ni (a_d A) b) (nI l)) 13 (b + 1) (d_ni (a_d A) b) (nI m)) 14 (b + 1) (d_ni (a_d A) b) (bI op)) 7 (b + 1) 8 (nI (d_ni (a_d A) b + 1))) 7 (b + 1) 8 = nI (d_ni (a_d A) b + 1) from if_pos ⟨rfl, rfl, rfl⟩]
        have f : fr_C M (bh_sI (bh_sI (bh_sI (bh_sI (bh_sI (bh_sI M 10 (b + 1) y (nI (d_ni (a_d A) b))) 11 (b + 1) (d_ni (a_d A) b) (nI y)) 12 (b + 1) (d_ni (a_d A) b) (nI l)) 13 (b + 1) (d_ni (a_d A) b) (nI m)) 14 (b + 1) (d_ni (a_d A) b) (bI op)) 7 (b + 1) 8 (nI (d_ni (a_d A) b + 1))) := fr_C_n (fr_C_n (fr_C_n (fr_C_n (fr_C_n (fr_C_I hs ⟨by decide, by decide⟩ _ _ _) ⟨by decide, by decide⟩ _ _ _) ⟨by decide, by decide⟩ _ _ _) ⟨by decide, by decide⟩ _ _ _) ⟨by decide, by decide⟩ _ _ _) ⟨by decide, by decide⟩ _ _ _
        refine hz _ ?_ f
        obtain ⟨g1, g2, g3, g4, g5, g6, g7, g8⟩ := h
        refine ⟨fun z hz => ?_, fun z hz => ⟨(g2 z hz).1, (bh_I_fld (by decide)).trans (g2 z hz).2.1, (g2 z hz).2.2⟩, g3, g4, g5, g6, g7, g8⟩
        obtain ⟨y1, y2, ⟨y3, y3'⟩, y4, y5, y6⟩ := g1 z hz
        refine ⟨y1, y2, ⟨?_, ?_⟩, fun k hk => ?_, fun q hq => ?_, y6⟩
        · show bh_I (bh_sI M 7 (b + 1) 8 (nI (d_ni (a_d A) b + 1))) 7 (z + 1) 8 = nI (if z = b then d_ni (a_d A) z + 1 else d_ni (a_d A) z)
          rw [bh_I_sI]
          by_cases c : z = b
          · rw [if_pos ⟨rfl, by omega, rfl⟩, if_pos c, c]
          · rw [if_neg (fun q => c (by omega)), if_neg c]
            exact y3
        · show (if z = b then d_ni (a_d A) z + 1 else d_ni (a_d A) z) ≤ 3
          by_cases c : z = b
          · rw [if_pos c, c]
            omega
          · rw [if_neg c]
            exact y3'
        · have hk : k < if z = b then d_ni (a_d A) z + 1 else d_ni (a_d A) z := hk
          show bh_I (bh_sI M 11 (b + 1) (d_ni (a_d A) b) (nI y)) 11 (z + 1) k = nI (if z = b ∧ k = d_ni (a_d A) z then y else d_ip (a_d A) z k) ∧ (if z = b ∧ k = d_ni (a_d A) z then y else d_ip (a_d A) z k) < 8 ∧ bh_I (bh_sI M 12 (b + 1) (d_ni (a_d A) b) (nI l)) 12 (z + 1) k = nI (if z = b ∧ k = d_ni (a_d A) z then l else d_lo (a_d A) z k) ∧ (if z = b ∧ k = d_ni (a_d A) z then l else d_lo (a_d A) z k) ≤ 9 ∧ bh_I (bh_sI M 13 (b + 1) (d_ni (a_d A) b) (nI m)) 13 (z + 1) k = nI (if z = b ∧ k = d_ni (a_d A) z then m else d_hi (a_d A) z k) ∧ (if z = b ∧ k = d_ni (a_d A) z then m else d_hi (a_d A) z k) ≤ 9 ∧ bh_I (bh_sI M 14 (b + 1) (d_ni (a_d A) b) (bI op)) 14 (z + 1) k = if (if z = b ∧ k = d_ni (a_d A) z then op else d_op (a_d A) z k) then 1 else 0
          rw [bh_I_sI, bh_I_sI, bh_I_sI, bh_I_sI]
          by_cases c : z = b ∧ k = d_ni (a_d A) z
          · have c2 : z + 1 = b + 1 ∧ k = d_ni (a_d A) b := by rw [c.2, c.1]; exact ⟨rfl, rfl⟩
            rw [if_pos c, if_pos c, if_pos c, if_pos c, if_pos ⟨rfl, c2⟩, if_pos ⟨rfl, c2⟩, if_pos ⟨rfl, c2⟩, if_pos ⟨rfl, c2⟩]
            exact ⟨rfl, hp8, rfl, hl, rfl, hm, rfl⟩
          · have c2 : ¬ (z + 1 = b + 1 ∧ k = d_ni (a_d A) b) := fun q => c (by have : z = b := by omega
                                                                               subst this
                                                                               exact ⟨rfl, q.2⟩)
            have hk2 : k < d_ni (a_d A) z := by
              by_cases c3 : z = b
              · rw [if_pos c3] at hk
                have : ¬ k = d_ni (a_d A) z := fun q => c ⟨c3, q⟩
                omega
              · rw [if_neg c3] at hk
                exact hk
            rw [if_neg c, if_neg c, if_neg c, if_neg c, if_neg (fun q => c2 q.2), if_neg (fun q => c2 q.2), if_neg (fun q => c2 q.2), if_neg (fun q => c2 q.2)]
            exact y4 k hk2
        · show bh_I (bh_sI M 10 (b + 1) y (nI (d_ni (a_d A) b))) 10 (z + 1) q = bh_oI (d_imp (d_need (a_d A) b y l m op) z q)
          rw [bh_I_sI, d_imp_need z q8]
          by_cases c : z = b ∧ q = y
          · rw [if_pos ⟨rfl, by omega, c.2⟩, if_pos c]
            rfl
          · rw [if_neg (fun q => c ⟨by omega, q.2.2⟩), if_neg c]
            exact y5 q hq
    · have q5 : ¬ a_st A b = 1 := fun c => q4 ((h.stq hb 1 (by decide)).mpr c)
      rw [if_pos q5] at hz
      exact hz M h (fr_C_refl hs)
  · have q3 : a_st A b = 0 := (h.stq hb 0 (by decide)).mp (Decidable.of_not_not q2)
    rw [o_b_0 hb q3] at hz
    exact hz M h (fr_C_refl hs)
