/-! THE CLASS: uninstall, update, export, need -/
def w_to (w : sw) (b x : Nat) : Bool := decide (¬ x / 3 = b) && match w (x / 3) (x % 3) with
  | none => false
  | some (o, _) => decide (o = b)
def a_wt (w : sw) (b : Nat) : Int32 := bh_cnt (w_to w b) 24
theorem bh_cnt_add (p : Nat → Bool) (n : Nat) : ∀ m, bh_cnt p (n + m) = bh_cnt p n + bh_cnt (fun k => p (n + k)) m
  | 0 => by
    show bh_cnt p n = bh_cnt p n + 0
    rw [Int32.add_zero]
  | m + 1 => by
    show (if p (n + m) then bh_cnt p (n + m) + 1 else bh_cnt p (n + m)) = bh_cnt p n + (if p (n + m) then bh_cnt (fun k => p (n + k)) m + 1 else bh_cnt (fun k => p (n + k)) m)
    rw [bh_cnt_add p n m]
    split
    · rw [Int32.add_assoc]
    · rfl
theorem cc_wiresTo {M : bh_M} {Z : bh_F → Prop} {d : sd} {w : sw} {i b : Nat} (hi : i < 8) (hb : b < 8) (hib : ¬ i = b) (h : rdC M d w) (hs : bh_stat M.2.2.2) (hz : Z (.inl (some (.inl (.int (bh_cnt (fun k => w_to w b (3 * i + k)) 3)))), M)) : F_B_wiresTo [.inr (5, i + 1), .inl (.int (nI b))] M Z := by
  refine be_B_wiresTo b hi hs ?_
  refine bh_lpW (T := bh_tb T_B_wiresTo) (Z := Z) 4 3 (fun k (v : Int32) => ([some (.inr (5, i + 1)), some (.inl (.int (nI b))), some (.inl (.int v)), some (.inl (.int (nI k)))], [], M, 0)) (fun k v => v = bh_cnt (fun k => w_to w b (3 * i + k)) k) (fun k v hk hv nx => ?_) (fun v hv => bx_B_wiresTo_4 b v hi hs (by rw [hv]; exact hz)) 0 rfl
  obtain ⟨w1, w2⟩ := (h i hi).2.2.2.2.2 k hk
  have es : bh_cnt (fun k => w_to w b (3 * i + k)) (k + 1) = if w_to w b (3 * i + k) then bh_cnt (fun k => w_to w b (3 * i + k)) k + 1 else bh_cnt (fun k => w_to w b (3 * i + k)) k := rfl
  have ew : w_to w b (3 * i + k) = match w i k with
      | none => false
      | some (o, _) => decide (o = b) := by
    unfold w_to
    rw [show (3 * i + k) / 3 = i by omega, show (3 * i + k) % 3 = k by omega, decide_eq_true hib, Bool.true_and]
  refine bl_B_wiresTo_4 b v k hi hb hk hs ?_
  rw [w1]
  cases e : w i k with
  | none =>
    rw [e] at ew
    refine ⟨fun _ => nx v ?_, fun q => absurd rfl q⟩
    rw [es, ew, if_neg Bool.false_ne_true]
    exact hv
  | some ol =>
    obtain ⟨o, l⟩ := ol
    obtain ⟨ho, hl⟩ := w2 o l e
    rw [e] at ew
    refine ⟨fun q => absurd q (bn_not_neg1 (by omega)), fun _ => ?_⟩
    refine ct_H_ownerOf _ hs ⟨bn_0le (by omega), ?_⟩
    rw [show w_enc (some (o, l)) = nI (o + 8 * l) from rfl, bn_port ho hl]
    refine bk_B_wiresTo_28 b v k o hi hb ho hs ⟨fun q => nx v ?_, fun q => nx _ ?_⟩
    · rw [es, ew]
      show v = if decide (o = b) = true then _ else _
      rw [decide_eq_false q, if_neg Bool.false_ne_true]
      exact hv
    · rw [es, ew]
      show v + 1 = if decide (o = b) = true then _ else _
      rw [decide_eq_true (Decidable.of_not_not q), if_pos rfl, hv]
theorem cc_wiresOfOthersTo {M : bh_M} {Z : bh_F → Prop} {d : sd} {w : sw} {b : Nat} (hb : b < 8) (h : rdC M d w) (hs : bh_stat M.2.2.2) (hz : Z (.inl (some (.inl (.int (a_wt w b)))), M)) : F_H_wiresOfOthersTo [.inr (3, 1), .inl (.int (nI b))] M Z := by
  refine be_H_wiresOfOthersTo b hs ?_
  refine bh_lpW (T := bh_tb T_H_wiresOfOthersTo) (Z := Z) 4 8 (fun i (v : Int32) => ([some (.inr (3, 1)), some (.inl (.int (nI b))), some (.inl (.int v)), some (.inl (.int (nI i)))], [], M, 0)) (fun i v => v = bh_cnt (w_to w b) (3 * i)) (fun i v hi hv nx => ?_) (fun v hv => bx_H_wiresOfOthersTo_4 b v hs (by rw [hv]; exact hz)) 0 rfl
  have es : bh_cnt (w_to w b) (3 * (i + 1)) = bh_cnt (w_to w b) (3 * i) + bh_cnt (fun k => w_to w b (3 * i + k)) 3 := by
    rw [show 3 * (i + 1) = 3 * i + 3 by omega]
    exact bh_cnt_add _ _ _
  refine bl_H_wiresOfOthersTo_4 b v i hi hb hs ⟨fun q => nx v ?_, fun q => ?_⟩
  · have e0 : bh_cnt (fun k => w_to w b (3 * i + k)) 3 = 0 := by
      have : ∀ k, k < 3 → (fun k => w_to w b (3 * i + k)) k = (fun _ => false) k := by
        intro k hk
        show w_to w b (3 * i + k) = false
        unfold w_to
        rw [show (3 * i + k) / 3 = i by omega, decide_eq_false (fun c => c q), Bool.false_and]
      rw [bh_cnt_congr this]
      rfl
    rw [es, e0, Int32.add_zero]
    exact hv
  · refine cc_wiresTo hi hb q h hs ?_
    refine bk_H_wiresOfOthersTo_26 b v i _ v hs (nx _ ?_)
    rw [es, hv]
def a_stp (A : sa) (b : Nat) : sa := if a_st A b = 3 then a_stop A b else A
def a_lve (A : sa) (b : Nat) : sa := a_nl (a_stp A b) b 0 (d_nm (a_d A) b) (d_lf (a_d A) b) (a_lv A b) (a_ac A b) false
def a_upd (A : sa) (b : Nat) : sa := a_nl (a_stp A b) b 1 (d_nm (a_d A) b) (d_lf (a_d A) b + 1) (a_lv A b) (a_ac A b) (a_wa A b)
def o_uninstall (A : sa) (a : Int32) : sr := o_b a A (fun b => (0, a_wt (a_w A) b, a_lve A b))
def o_update (A : sa) (a : Int32) : sr := o_b a A (fun b => (0, a_wt (a_w A) b, a_upd A b))
theorem a_wt_cl (w : sw) (b : Nat) : a_wt (w_cl w b) b = a_wt w b := by
  unfold a_wt
  refine bh_cnt_congr (fun x hx => ?_)
  unfold w_to w_cl
  by_cases c : x / 3 = b
  · rw [decide_eq_false (fun q => q c), Bool.false_and, Bool.false_and]
  · rw [if_neg c]
theorem cc_uninstall {M : bh_M} {Z : bh_F → Prop} {A : sa} (h : RC M A) (a : Int32) (hz : ∀ M', RC M' (o_uninstall A a).2.2 → fr_C M M' → Z (rz E_two (o_uninstall A a), M')) : F_H_uninstall [.inr (3, 1), .inl (.int a)] M Z := by
  have hs := h.hs
  have bad : ¬ (¬ a < 0 ∧ a ≤ 7) → Z (.inr "java/lang/IllegalArgumentException", M) := by
    intro q
    rw [show o_uninstall A a = (1, 0, A) from o_b_out q] at hz
    exact hz M h (fr_C_refl hs)
  refine be_H_uninstall a hs ⟨fun q => bad (fun c => c.1 q), fun q0 => ⟨fun q1 => ?_, fun q1 => bad (fun c => q1 c.2)⟩⟩
  obtain ⟨b, hb, rfl⟩ := i_nat (N := 7) q0 q1 (by decide)
  have hb : b < 8 := by omega
  refine ⟨bn_in hb rfl, ?_⟩
  rw [bn_clamp hb rfl]
  refine ⟨fun q2 => ?_, fun q2 => ?_⟩
  · have q3 : ¬ a_st A b = 0 := fun c => q2 ((h.stq hb 0 (by decide)).mpr c)
    have eo : o_uninstall A (nI b) = _ := o_b_in hb q3
    rw [eo] at hz
    have go : ∀ M1, RC M1 (a_stp A b) → fr_C M M1 → bh_wp (bh_tb T_H_uninstall) (15, [some (.inr (3, 1)), some (.inl (.int (nI b))), some (.inr (5, b + 1))], [], M1, 2) Z := by
      intro M1 h1 f1
      refine bk_H_uninstall_15 b hb f1.2.2.2.2 ?_
      obtain ⟨⟨y0, y3, -, -, y9, y10⟩, -⟩ := h1.1 b hb
      have elf : d_lf (a_d (a_stp A b)) b = d_lf (a_d A) b := by
        unfold a_stp
        split <;> rfl
      have ew : a_w (a_stp A b) = a_w A := by
        unfold a_stp
        split <;> rfl
      have hf0 : ∀ a, a ≠ 5 → a ≠ 6 → a ≠ 7 → a ≠ 8 → a ≠ 10 → bh_I (bh_sI (bh_sI (bm_fill (bh_sI (bh_sI (bh_sI (bm_fill (bm_fill M1 8 (b + 1) 8 (-1)) 10 (b + 1) 8 (-1)) 7 (b + 1) 7 0) 7 (b + 1) 8 0) 5 (b + 1) 3 1) 6 (b + 1) 3 (-1)) 5 (b + 1) 7 0) 5 (b + 1) 3 0) a = bh_I M1 a := by
        intro a w5 w6 w7 w8 w10
        funext x c
        simp [bh_I_sI, bh_I_fill, w5, w6, w7, w8, w10]
      have hR : RC (bh_sI (bh_sI (bm_fill (bh_sI (bh_sI (bh_sI (bm_fill (bm_fill M1 8 (b + 1) 8 (-1)) 10 (b + 1) 8 (-1)) 7 (b + 1) 7 0) 7 (b + 1) 8 0) 5 (b + 1) 3 1) 6 (b + 1) 3 (-1)) 5 (b + 1) 7 0) 5 (b + 1) 3 0) (a_lve A b) := by
        refine h1.nl hf0 ?_ rfl ?_ ?_ ?_ ?_ ?_ ?_ ?_ (by decide) ?_ ?_ (by omega) ?_ ?_
        · intro a x c hx
          simp [bh_I_sI, bh_I_fill, hx]
        · intro p hp
          simp [bh_I_sI, bh_I_fill, hp]
        · intro p hp
          simp [bh_I_sI, bh_I_fill, hp]
        · simp [bh_I_sI, bh_I_fill]
        · simp [bh_I_sI, bh_I_fill]
        · intro k hk
          simp [bh_I_sI, bh_I_fill, hk]
        · simp [bh_I_sI, bh_I_fill, y0]
        · simp [bh_I_sI, bh_I_fill]
          rfl
        · intro q
          exact absurd rfl q
        · simp [bh_I_sI, bh_I_fill, y9, elf]
        · simp [bh_I_sI, bh_I_fill]
          rfl
        · intro q
          exact absurd rfl q
      have f2 := fr_C.of f1.2.2.2.2 hf0 rfl
      refine cc_wiresOfOthersTo (w := a_w (a_lve A b)) hb hR.1 f2.2.2.2.2 ?_
      rw [show a_wt (a_w (a_lve A b)) b = a_wt (a_w A) b by
        show a_wt (w_cl (a_w (a_stp A b)) b) b = _
        rw [a_wt_cl, ew]]
      exact bk_H_uninstall_24 b _ hb f2.2.2.2.2 (hz _ hR (fr_C_trans f1 f2))
    refine cc_deactivate hb h (fun q4 M1 h1 f1 => ?_) (fun q4 => ?_)
    · refine go M1 ?_ f1
      unfold a_stp
      rw [if_pos q4]
      exact h1
    · refine go M ?_ (fr_C_refl hs)
      unfold a_stp
      rw [if_neg q4]
      exact h
  · have q3 : a_st A b = 0 := (h.stq hb 0 (by decide)).mp (Decidable.of_not_not q2)
    rw [show o_uninstall A (nI b) = (2, 0, A) from o_b_0 hb q3] at hz
    exact hz M h (fr_C_refl hs)
theorem cc_update {M : bh_M} {Z : bh_F → Prop} {A : sa} (h : RC M A) (hw : WA A) (hck : a_ck A < 999) (a : Int32) (hz : ∀ M', RC M' (o_update A a).2.2 → fr_C M M' → Z (rz E_two (o_update A a), M')) : F_H_update [.inr (3, 1), .inl (.int a)] M Z := by
  have hs := h.hs
  have bad : ¬ (¬ a < 0 ∧ a ≤ 7) → Z (.inr "java/lang/IllegalArgumentException", M) := by
    intro q
    rw [show o_update A a = (1, 0, A) from o_b_out q] at hz
    exact hz M h (fr_C_refl hs)
  refine be_H_update a hs ⟨fun q => bad (fun c => c.1 q), fun q0 => ⟨fun q1 => ?_, fun q1 => bad (fun c => q1 c.2)⟩⟩
  obtain ⟨b, hb, rfl⟩ := i_nat (N := 7) q0 q1 (by decide)
  have hb : b < 8 := by omega
  refine ⟨bn_in hb rfl, ?_⟩
  rw [bn_clamp hb rfl]
  refine ⟨fun q2 => ?_, fun q2 => ?_⟩
  · have q3 : ¬ a_st A b = 0 := fun c => q2 ((h.stq hb 0 (by decide)).mpr c)
    have eo : o_update A (nI b) = _ := o_b_in hb q3
    rw [eo] at hz
    have hlf := (hw.2.1 b hb).2.1
    have go : ∀ M1, RC M1 (a_stp A b) → fr_C M M1 → bh_wp (bh_tb T_H_update) (15, [some (.inr (3, 1)), some (.inl (.int (nI b))), some (.inr (5, b + 1))], [], M1, 2) Z := by
      intro M1 h1 f1
      refine bk_H_update_15 b hb f1.2.2.2.2 ?_
      obtain ⟨⟨y0, y3, -, y4, y9, y10⟩, -⟩ := h1.1 b hb
      have elf : d_lf (a_d (a_stp A b)) b = d_lf (a_d A) b := by
        unfold a_stp
        split <;> rfl
      have enm : d_nm (a_d (a_stp A b)) b = d_nm (a_d A) b := by
        unfold a_stp
        split <;> rfl
      have ew : a_w (a_stp A b) = a_w A := by
        unfold a_stp
        split <;> rfl
      have est : ¬ a_st (a_stp A b) b = 0 := by
        unfold a_stp
        split
        · show ¬ (if b = b then 2 else d_st (a_d A) b) = 0
          rw [if_pos rfl]
          decide
        · exact q3
      have elv : a_lv (a_stp A b) = a_lv A ∧ a_ac (a_stp A b) = a_ac A ∧ a_wa (a_stp A b) = a_wa A := by
        unfold a_stp
        split <;> exact ⟨rfl, rfl, rfl⟩
      obtain ⟨z7, -, z5⟩ := h1.2.1 b hb
      obtain ⟨z5, z6, -⟩ := z5 est
      rw [elv.1] at z5
      rw [elv.2.1] at z6
      rw [elv.2.2] at z7
      rw [elf] at y9
      have y4 := y4 est
      rw [enm] at y4
      have hf0 : ∀ a, a ≠ 5 → a ≠ 6 → a ≠ 7 → a ≠ 8 → a ≠ 10 → bh_I (bm_fill (bh_sI (bh_sI (bh_sI (bh_sI (bh_sI (bm_fill (bm_fill M1 8 (b + 1) 8 (-1)) 10 (b + 1) 8 (-1)) 7 (b + 1) 7 0) 7 (b + 1) 8 0) 5 (b + 1) 8 0) 5 (b + 1) 9 ((bh_I (bh_sI (bh_sI (bh_sI (bm_fill (bm_fill M1 8 (b + 1) 8 (-1)) 10 (b + 1) 8 (-1)) 7 (b + 1) 7 0) 7 (b + 1) 8 0) 5 (b + 1) 8 0) 5 (b + 1) 9) + 8)) 5 (b + 1) 3 1) 6 (b + 1) 3 (-1)) a = bh_I M1 a := by
        intro a w5 w6 w7 w8 w10
        funext x c
        simp [bh_I_sI, bh_I_fill, w5, w6, w7, w8, w10]
      have hR : RC (bm_fill (bh_sI (bh_sI (bh_sI (bh_sI (bh_sI (bm_fill (bm_fill M1 8 (b + 1) 8 (-1)) 10 (b + 1) 8 (-1)) 7 (b + 1) 7 0) 7 (b + 1) 8 0) 5 (b + 1) 8 0) 5 (b + 1) 9 ((bh_I (bh_sI (bh_sI (bh_sI (bm_fill (bm_fill M1 8 (b + 1) 8 (-1)) 10 (b + 1) 8 (-1)) 7 (b + 1) 7 0) 7 (b + 1) 8 0) 5 (b + 1) 8 0) 5 (b + 1) 9) + 8)) 5 (b + 1) 3 1) 6 (b + 1) 3 (-1)) (a_upd A b) := by
        refine h1.nl hf0 ?_ rfl ?_ ?_ ?_ ?_ ?_ ?_ ?_ (by decide) ?_ ?_ (by omega) ?_ ?_
        · intro a x c hx
          simp [bh_I_sI, bh_I_fill, hx]
        · intro p hp
          simp [bh_I_sI, bh_I_fill, hp]
        · intro p hp
          simp [bh_I_sI, bh_I_fill, hp]
        · simp [bh_I_sI, bh_I_fill]
        · simp [bh_I_sI, bh_I_fill]
        · intro k hk
          simp [bh_I_sI, bh_I_fill, hk]
        · simp [bh_I_sI, bh_I_fill, y0]
        · simp [bh_I_sI, bh_I_fill]
          rfl
        · intro q
          simp [bh_I_sI, bh_I_fill, y4]
        · simp only [bh_I_sI, bh_I_fill]
          simp [y9]
          rw [show (8 : Int32) = nI 8 from rfl, bn_add]
          congr 1
        · simp [bh_I_sI, bh_I_fill, z7]
        · intro q
          simp [bh_I_sI, bh_I_fill, z5, z6]
      have f2 := fr_C.of f1.2.2.2.2 hf0 rfl
      refine cc_wiresOfOthersTo (w := a_w (a_upd A b)) hb hR.1 f2.2.2.2.2 ?_
      rw [show a_wt (a_w (a_upd A b)) b = a_wt (a_w A) b by
        show a_wt (w_cl (a_w (a_stp A b)) b) b = _
        rw [a_wt_cl, ew]]
      exact bk_H_update_24 b _ hb f2.2.2.2.2 (hz _ hR (fr_C_trans f1 f2))
    refine cc_deactivate hb h (fun q4 M1 h1 f1 => ?_) (fun q4 => ?_)
    · refine go M1 ?_ f1
      unfold a_stp
      rw [if_pos q4]
      exact h1
    · refine go M ?_ (fr_C_refl hs)
      unfold a_stp
      rw [if_neg q4]
      exact h
  · have q3 : a_st A b = 0 := (h.stq hb 0 (by decide)).mp (Decidable.of_not_not q2)
    rw [show o_update A (nI b) = (2, 0, A) from o_b_0 hb q3] at hz
    exact hz M h (fr_C_refl hs)
