/-! THE LAW'S METHODS: what they answer -/
def bh_cz (hs : List (String × Int32)) (Z : bh_F → Prop) : bh_F → Prop := fun f => match f with
  | (.inr E, M) => ∃ k, (E, k) ∈ hs ∧ Z (.inl (some (.inl (.int k))), M)
  | _ => False
theorem bi_callC {K : Nat × bh_S → Prop} {Z : bh_F → Prop} {L : List (Option bh_V)} {st : List bh_V} {M : bh_M} {c n a b C t x : Nat} {F : bh_Fn} {hl : List (String × Int32)} (as rest : List bh_V) (e1 : (st.take a).reverse = .inr (t, x) :: as) (e2 : st.drop a = rest) (e3 : Nat.ble a st.length = true) (hs : bh_stat M.2.2.2) (hx : 1 ≤ x ∧ x ≤ bh_c0 t) (e4 : Nat.ble ((rest.map bh_cat).sum) 8 = true) (e5 : Nat.ble (c + b) C = true) (h : F (.inr (t, x) :: as) M (bh_after n L rest (c + b) K (bh_cz hl Z))) : bo_callC n a b C t F hl (L, st, M, c) K Z := by
  unfold bo_callC
  simp only [e1]
  subst e2
  exact ⟨Nat.le_of_ble_eq_true e3, trivial, hx.1, hs.c hx, Nat.le_of_ble_eq_true e4, Nat.le_of_ble_eq_true e5, h⟩
theorem RC.J {M : bh_M} {A : sa} (h : RC M A) (v : Int64) : RC (bh_sJ M 25 1 0 v) A := h
theorem RC.D {M : bh_M} {A : sa} (h : RC M A) (v : UInt64) : RC (bh_sD M 26 1 0 v) A := by
  obtain ⟨h1, h2, h3, ⟨n, h4⟩, h5⟩ := h
  exact ⟨h1, h2, h3, ⟨n, h4⟩, h5⟩
theorem RM.J {M : bh_M} {A : sa} (h : RM M A) (v : Int64) : RM (bh_sJ M 25 1 0 v) A := h
theorem RM.D {M : bh_M} {A : sa} (h : RM M A) (v : UInt64) : RM (bh_sD M 26 1 0 v) A := h
/-- what a method of the law tells: the code of what was thrown, or 0 and the answer -/
def zh (Z : bh_F → Prop) (A : sa) (r : sr) : Prop := ∀ M', RC M' r.2.2 → RM M' A → (r.1 = 0 → bh_J M' 25 1 0 = Int32.toInt64 r.2.1) → Z (.inl (some (.inl (.int (nI r.1)))), M')
theorem ch_fin {M M' : bh_M} {Z : bh_F → Prop} {A : sa} {r : sr} {E : Nat → String} {hl : List (String × Int32)} {n pc c : Nat} {L : List (Option bh_V)} {rest : List bh_V} {K : Nat × bh_S → Prop} (h2 : fr_C M M') (h1 : RC M' r.2.2) (hm : RM M A) (hz : zh Z A r)
    (hk : ∀ v : Int32, Z (.inl (some (.inl (.int 0))), bh_sJ M' 25 1 0 (Int32.toInt64 v)) → K (pc, L, .inl (.int v) :: rest, M', c)) (hE : ∀ k : Fin (n + 1), ¬ k.val = 0 → (E k.val, nI k.val) ∈ hl) (hn : r.1 ≤ n) : bh_after pc L rest c K (bh_cz hl Z) (rz E r, M') := by
  unfold rz
  by_cases h0 : r.1 = 0
  · rw [if_pos h0]
    refine hk _ ?_
    have := hz (bh_sJ M' 25 1 0 (Int32.toInt64 r.2.1)) (RC.J h1 _) (RM.J (hm.mv h2) _) (fun _ => rfl)
    rw [h0] at this
    exact this
  · rw [if_neg h0]
    exact ⟨nI r.1, hE ⟨r.1, by omega⟩ h0, hz M' h1 (hm.mv h2) (fun q => absurd q h0)⟩
theorem oc_b {a : Int32} {A : sa} {f : Nat → sr} {n : Nat} (hf : ∀ b, (f b).1 ≤ n) (hn : 2 ≤ n) : (o_b a A f).1 ≤ n := by
  unfold o_b
  split
  · split
    · exact hn
    · exact hf _
  · show 1 ≤ n
    omega
theorem oc_c {c : Prop} [Decidable c] {A : sa} {r : sr} {n : Nat} (hr : r.1 ≤ n) (hn : 1 ≤ n) : (o_c c A r).1 ≤ n := by
  unfold o_c
  split
  · exact hr
  · exact hn
theorem d_run_code (d : sd) (w : sw) (r : Nat) : (d_run d w r).1 ≤ 3 := by
  unfold d_run
  split
  · exact Nat.le_of_ble_eq_true rfl
  · split
    · show (if _ then 3 else 2) ≤ 3
      split <;> exact Nat.le_of_ble_eq_true rfl
    · exact Nat.le_of_ble_eq_true rfl
theorem oc_resolve {A : sa} {a : Int32} : (o_resolve A a).1 ≤ 4 := oc_b (fun b => by
  split
  · exact Nat.le_of_ble_eq_true rfl
  · split
    · exact Nat.le_of_ble_eq_true rfl
    · exact Nat.succ_le_succ (d_run_code _ _ _)) (by decide)
theorem oc_start {A : sa} {a : Int32} : (o_start A a).1 ≤ 5 := oc_b (fun b => by
  split
  · exact Nat.le_of_ble_eq_true rfl
  · split
    · exact Nat.le_of_ble_eq_true rfl
    · split
      · exact Nat.le_of_ble_eq_true rfl
      · show c_sta _ ≤ 5
        unfold c_sta
        split
        · decide
        · split <;> decide) (by decide)
theorem oc_stop {A : sa} {a : Int32} : (o_stop A a).1 ≤ 2 := oc_b (fun b => Nat.zero_le _) (by decide)
theorem oc_uninstall {A : sa} {a : Int32} : (o_uninstall A a).1 ≤ 2 := oc_b (fun b => Nat.zero_le _) (by decide)
theorem oc_update {A : sa} {a : Int32} : (o_update A a).1 ≤ 2 := oc_b (fun b => Nat.zero_le _) (by decide)
theorem oc_register {A : sa} {a k : Int32} {x : UInt64} : (o_register A a k x).1 ≤ 4 := oc_c (oc_b (fun b => by
  split
  · exact Nat.le_of_ble_eq_true rfl
  · split <;> exact Nat.le_of_ble_eq_true rfl) (by decide)) (by decide)
theorem oc_get {A : sa} {a k : Int32} : (o_get A a k).1 ≤ 4 := oc_c (oc_b (fun b => by
  repeat' split
  all_goals exact Nat.le_of_ble_eq_true rfl) (by decide)) (by decide)
theorem oc_giveBack {A : sa} {a k : Int32} : (o_giveBack A a k).1 ≤ 3 := oc_c (oc_b (fun b => by
  repeat' split
  all_goals exact Nat.le_of_ble_eq_true rfl) (by decide)) (by decide)
theorem oc_unregister {A : sa} {a k : Int32} : (o_unregister A a k).1 ≤ 3 := oc_c (oc_b (fun b => by
  repeat' split
  all_goals exact Nat.le_of_ble_eq_true rfl) (by decide)) (by decide)
theorem oc_export {A : sa} {a x u : Int32} : (o_export A a x u).1 ≤ 4 := oc_c (oc_b (fun b => by
  repeat' split
  all_goals exact Nat.le_of_ble_eq_true rfl) (by decide)) (by decide)
theorem oc_need {A : sa} {a p lo hi : Int32} {op : Bool} : (o_need A a p lo hi op).1 ≤ 4 := oc_c (oc_b (fun b => by
  repeat' split
  all_goals exact Nat.le_of_ble_eq_true rfl) (by decide)) (by decide)
theorem oc_install {A : sa} {a nm lv ac : Int32} : (o_install A a nm lv ac).1 ≤ 2 := oc_c (by
  repeat' split
  all_goals exact Nat.le_of_ble_eq_true rfl) (by decide)
theorem oc_event {A : sa} : (o_event A).1 ≤ 1 := by
  unfold o_event
  split <;> exact Nat.le_of_ble_eq_true rfl
theorem oc_count {A : sa} {a : Int32} : (o_count A a).1 ≤ 1 := by
  unfold o_count
  repeat' split
  all_goals exact Nat.le_of_ble_eq_true rfl
theorem oc_about {A : sa} {a k : Int32} : (o_about A a k).1 ≤ 1 := oc_c (by
  split <;> exact Nat.le_of_ble_eq_true rfl) (by decide)
theorem oc_level {A : sa} {a : Int32} : (o_level A a).1 ≤ 1 := by
  unfold o_level
  split <;> exact Nat.le_of_ble_eq_true rfl
def hs_L_install : List (String × Int32) := [("java/lang/IllegalArgumentException", 1), ("java/lang/IllegalStateException", 2)]
theorem be_L_install {M : bh_M} {Z : bh_F → Prop} (a1 : Int32) (a2 : Int32) (a3 : Int32) (a4 : Int32) (hs : bh_stat M.2.2.2) (h : F_H_install [.inr (3, 1), .inl (.int a1), .inl (.int a2), .inl (.int a3), .inl (.int a4)] M (bh_after 12 [some (.inr (3, 1)), some (.inl (.int a1)), some (.inl (.int a2)), some (.inl (.int a3)), some (.inl (.int a4)), some (.inr (25, 1)), none] [.inl (.int 0), .inr (25, 1)] 5 (fun y => bh_wp (bh_tb T_L_install) y Z) (bh_cz hs_L_install Z))) : F_L_install [.inr (3, 1), .inl (.int a1), .inl (.int a2), .inl (.int a3), .inl (.int a4), .inr (25, 1)] M Z := bi_fn rfl [some (.inr (3, 1)), some (.inl (.int a1)), some (.inl (.int a2)), some (.inl (.int a3)), some (.inl (.int a4)), some (.inr (25, 1)), none] rfl (bh_here m_L_install l_L_install_0 (bi_ald rfl (bh_here m_L_install l_L_install_2 (bi_push (bh_here m_L_install l_L_install_3 (bi_ald rfl (bh_here m_L_install l_L_install_4 (bi_ild rfl (bh_here m_L_install l_L_install_5 (bi_ild rfl (bh_here m_L_install l_L_install_6 (bi_ild rfl (bh_here m_L_install l_L_install_7 (bi_ild rfl (bh_here m_L_install l_L_install_9 (bi_callC [.inl (.int a1), .inl (.int a2), .inl (.int a3), .inl (.int a4)] [.inl (.int 0), .inr (25, 1)] rfl rfl rfl hs ⟨by decide, by decide⟩ rfl rfl h))))))))))))))))
theorem bk_L_install {M : bh_M} {Z : bh_F → Prop} (a1 : Int32) (a2 : Int32) (a3 : Int32) (a4 : Int32) (v : Int32) (hs : bh_stat M.2.2.2) (h : Z (.inl (some (.inl (.int 0))), bh_sJ M 25 1 0 (Int32.toInt64 v))) : bh_wp (bh_tb T_L_install) (12, [some (.inr (3, 1)), some (.inl (.int a1)), some (.inl (.int a2)), some (.inl (.int a3)), some (.inl (.int a4)), some (.inr (25, 1)), none], [.inl (.int v), .inl (.int 0), .inr (25, 1)], M, 5) Z := (bh_here m_L_install l_L_install_12 (bi_i1 (.inl (.long (Int32.toInt64 v))) rfl (bh_here m_L_install l_L_install_13 (bi_Jast 0 rfl hs rfl ⟨by decide, by decide⟩ (bn_in (a := 0) (N := 1) (by decide) rfl)  (bh_here m_L_install l_L_install_14 (bi_go (bh_here m_L_install l_L_install_25 (bi_push (bh_here m_L_install l_L_install_26 (bi_iret rfl h))))))))))
theorem em_L_install : ∀ n : Fin 3, ¬ n.val = 0 → (E_ins n.val, nI n.val) ∈ hs_L_install := by decide +kernel
theorem ch_install {M : bh_M} {Z : bh_F → Prop} {A : sa} (h : RC M A) (hm : RM M A) (hw : WA A) (hck : a_ck A < 999) (a : Int32) (nm : Int32) (lv : Int32) (ac : Int32) (hz : zh Z A (o_install A a nm lv ac)) : F_L_install [.inr (3, 1), .inl (.int a), .inl (.int nm), .inl (.int lv), .inl (.int ac), .inr (25, 1)] M Z := by
  refine be_L_install a nm lv ac h.2.2.2.2.2.2.2 (cc_install h hw hck a nm lv ac (fun M' h1 h2 => ch_fin (n := 2) h2 h1 hm hz (fun v hv => ?_) em_L_install oc_install))
  exact bk_L_install a nm lv ac v h1.2.2.2.2.2.2.2 hv
def hs_L_export : List (String × Int32) := [("java/lang/IllegalArgumentException", 1), ("java/util/NoSuchElementException", 2), ("java/lang/IllegalStateException", 3), ("java/lang/UnsupportedOperationException", 4)]
theorem be_L_export {M : bh_M} {Z : bh_F → Prop} (a1 : Int32) (a2 : Int32) (a3 : Int32) (hs : bh_stat M.2.2.2) (h : F_H_export [.inr (3, 1), .inl (.int a1), .inl (.int a2), .inl (.int a3)] M (bh_after 10 [some (.inr (3, 1)), some (.inl (.int a1)), some (.inl (.int a2)), some (.inl (.int a3)), some (.inr (25, 1)), none] [.inl (.int 0), .inr (25, 1)] 6 (fun y => bh_wp (bh_tb T_L_export) y Z) (bh_cz hs_L_export Z))) : F_L_export [.inr (3, 1), .inl (.int a1), .inl (.int a2), .inl (.int a3), .inr (25, 1)] M Z := bi_fn rfl [some (.inr (3, 1)), some (.inl (.int a1)), some (.inl (.int a2)), some (.inl (.int a3)), some (.inr (25, 1)), none] rfl (bh_here m_L_export l_L_export_0 (bi_ald rfl (bh_here m_L_export l_L_export_2 (bi_push (bh_here m_L_export l_L_export_3 (bi_ald rfl (bh_here m_L_export l_L_export_4 (bi_ild rfl (bh_here m_L_export l_L_export_5 (bi_ild rfl (bh_here m_L_export l_L_export_6 (bi_ild rfl (bh_here m_L_export l_L_export_7 (bi_callC [.inl (.int a1), .inl (.int a2), .inl (.int a3)] [.inl (.int 0), .inr (25, 1)] rfl rfl rfl hs ⟨by decide, by decide⟩ rfl rfl h))))))))))))))
theorem bk_L_export {M : bh_M} {Z : bh_F → Prop} (a1 : Int32) (a2 : Int32) (a3 : Int32) (v : Int32) (hs : bh_stat M.2.2.2) (h : Z (.inl (some (.inl (.int 0))), bh_sJ M 25 1 0 (Int32.toInt64 v))) : bh_wp (bh_tb T_L_export) (10, [some (.inr (3, 1)), some (.inl (.int a1)), some (.inl (.int a2)), some (.inl (.int a3)), some (.inr (25, 1)), none], [.inl (.int v), .inl (.int 0), .inr (25, 1)], M, 6) Z := (bh_here m_L_export l_L_export_10 (bi_i1 (.inl (.long (Int32.toInt64 v))) rfl (bh_here m_L_export l_L_export_11 (bi_Jast 0 rfl hs rfl ⟨by decide, by decide⟩ (bn_in (a := 0) (N := 1) (by decide) rfl)  (bh_here m_L_export l_L_export_12 (bi_go (bh_here m_L_export l_L_export_31 (bi_push (bh_here m_L_export l_L_export_32 (bi_iret rfl h))))))))))
theorem em_L_export : ∀ n : Fin 5, ¬ n.val = 0 → (E_std n.val, nI n.val) ∈ hs_L_export := by decide +kernel
theorem ch_export {M : bh_M} {Z : bh_F → Prop} {A : sa} (h : RC M A) (hm : RM M A) (hw : WA A) (hck : a_ck A < 999) (a : Int32) (x : Int32) (u : Int32) (hz : zh Z A (o_export A a x u)) : F_L_export [.inr (3, 1), .inl (.int a), .inl (.int x), .inl (.int u), .inr (25, 1)] M Z := by
  refine be_L_export a x u h.2.2.2.2.2.2.2 (cc_export h hw a x u (fun M' h1 h2 => ch_fin (n := 4) h2 h1 hm hz (fun v hv => ?_) em_L_export oc_export))
  exact bk_L_export a x u v h1.2.2.2.2.2.2.2 hv
def hs_L_need : List (String × Int32) := [("java/lang/IllegalArgumentException", 1), ("java/util/NoSuchElementException", 2), ("java/lang/IllegalStateException", 3), ("java/lang/UnsupportedOperationException", 4)]
theorem be_L_need {M : bh_M} {Z : bh_F → Prop} (a1 : Int32) (a2 : Int32) (a3 : Int32) (a4 : Int32) (a5 : Int32) (hs : bh_stat M.2.2.2) (h : F_H_need [.inr (3, 1), .inl (.int a1), .inl (.int a2), .inl (.int a3), .inl (.int a4), .inl (.int a5)] M (bh_after 14 [some (.inr (3, 1)), some (.inl (.int a1)), some (.inl (.int a2)), some (.inl (.int a3)), some (.inl (.int a4)), some (.inl (.int a5)), some (.inr (25, 1)), none] [.inl (.int 0), .inr (25, 1)] 7 (fun y => bh_wp (bh_tb T_L_need) y Z) (bh_cz hs_L_need Z))) : F_L_need [.inr (3, 1), .inl (.int a1), .inl (.int a2), .inl (.int a3), .inl (.int a4), .inl (.int a5), .inr (25, 1)] M Z := bi_fn rfl [some (.inr (3, 1)), some (.inl (.int a1)), some (.inl (.int a2)), some (.inl (.int a3)), some (.inl (.int a4)), some (.inl (.int a5)), some (.inr (25, 1)), none] rfl (bh_here m_L_need l_L_need_0 (bi_ald rfl (bh_here m_L_need l_L_need_2 (bi_push (bh_here m_L_need l_L_need_3 (bi_ald rfl (bh_here m_L_need l_L_need_4 (bi_ild rfl (bh_here m_L_need l_L_need_5 (bi_ild rfl (bh_here m_L_need l_L_need_6 (bi_ild rfl (bh_here m_L_need l_L_need_7 (bi_ild rfl (bh_here m_L_need l_L_need_9 (bi_ild rfl (bh_here m_L_need l_L_need_11 (bi_callC [.inl (.int a1), .inl (.int a2), .inl (.int a3), .inl (.int a4), .inl (.int a5)] [.inl (.int 0), .inr (25, 1)] rfl rfl rfl hs ⟨by decide, by decide⟩ rfl rfl h))))))))))))))))))
theorem bk_L_need {M : bh_M} {Z : bh_F → Prop} (a1 : Int32) (a2 : Int32) (a3 : Int32) (a4 : Int32) (a5 : Int32) (v : Int32) (hs : bh_stat M.2.2.2) (h : Z (.inl (some (.inl (.int 0))), bh_sJ M 25 1 0 (Int32.toInt64 v))) : bh_wp (bh_tb T_L_need) (14, [some (.inr (3, 1)), some (.inl (.int a1)), some (.inl (.int a2)), some (.inl (.int a3)), some (.inl (.int a4)), some (.inl (.int a5)), some (.inr (25, 1)), none], [.inl (.int v), .inl (.int 0), .inr (25, 1)], M, 7) Z := (bh_here m_L_need l_L_need_14 (bi_i1 (.inl (.long (Int32.toInt64 v))) rfl (bh_here m_L_need l_L_need_15 (bi_Jast 0 rfl hs rfl ⟨by decide, by decide⟩ (bn_in (a := 0) (N := 1) (by decide) rfl)  (bh_here m_L_need l_L_need_16 (bi_go (bh_here m_L_need l_L_need_35 (bi_push (bh_here m_L_need l_L_need_36 (bi_iret rfl h))))))))))
theorem em_L_need : ∀ n : Fin 5, ¬ n.val = 0 → (E_std n.val, nI n.val) ∈ hs_L_need := by decide +kernel
theorem ch_need {M : bh_M} {Z : bh_F → Prop} {A : sa} (h : RC M A) (hm : RM M A) (hw : WA A) (hck : a_ck A < 999) (a : Int32) (p : Int32) (lo : Int32) (hi : Int32) (op : Bool) (hz : zh Z A (o_need A a p lo hi op)) : F_L_need [.inr (3, 1), .inl (.int a), .inl (.int p), .inl (.int lo), .inl (.int hi), .inl (.int (bI op)), .inr (25, 1)] M Z := by
  refine be_L_need a p lo hi (bI op) h.2.2.2.2.2.2.2 (cc_need h  a p lo hi op (fun M' h1 h2 => ch_fin (n := 4) h2 h1 hm hz (fun v hv => ?_) em_L_need oc_need))
  exact bk_L_need a p lo hi (bI op) v h1.2.2.2.2.2.2.2 hv
def hs_L_resolve : List (String × Int32) := [("java/lang/IllegalArgumentException", 1), ("java/util/NoSuchElementException", 2), ("java/lang/IllegalStateException", 3), ("java/lang/ArithmeticException", 4)]
theorem be_L_resolve {M : bh_M} {Z : bh_F → Prop} (a1 : Int32) (hs : bh_stat M.2.2.2) (h : F_H_resolve [.inr (3, 1), .inl (.int a1)] M (bh_after 7 [some (.inr (3, 1)), some (.inl (.int a1)), some (.inr (25, 1)), none] [.inl (.int 0), .inr (25, 1)] 5 (fun y => bh_wp (bh_tb T_L_resolve) y Z) (bh_cz hs_L_resolve Z))) : F_L_resolve [.inr (3, 1), .inl (.int a1), .inr (25, 1)] M Z := bi_fn rfl [some (.inr (3, 1)), some (.inl (.int a1)), some (.inr (25, 1)), none] rfl (bh_here m_L_resolve l_L_resolve_0 (bi_ald rfl (bh_here m_L_resolve l_L_resolve_1 (bi_push (bh_here m_L_resolve l_L_resolve_2 (bi_ald rfl (bh_here m_L_resolve l_L_resolve_3 (bi_ild rfl (bh_here m_L_resolve l_L_resolve_4 (bi_callC [.inl (.int a1)] [.inl (.int 0), .inr (25, 1)] rfl rfl rfl hs ⟨by decide, by decide⟩ rfl rfl h))))))))))
theorem bk_L_resolve {M : bh_M} {Z : bh_F → Prop} (a1 : Int32) (v : Int32) (hs : bh_stat M.2.2.2) (h : Z (.inl (some (.inl (.int 0))), bh_sJ M 25 1 0 (Int32.toInt64 v))) : bh_wp (bh_tb T_L_resolve) (7, [some (.inr (3, 1)), some (.inl (.int a1)), some (.inr (25, 1)), none], [.inl (.int v), .inl (.int 0), .inr (25, 1)], M, 5) Z := (bh_here m_L_resolve l_L_resolve_7 (bi_i1 (.inl (.long (Int32.toInt64 v))) rfl (bh_here m_L_resolve l_L_resolve_8 (bi_Jast 0 rfl hs rfl ⟨by decide, by decide⟩ (bn_in (a := 0) (N := 1) (by decide) rfl)  (bh_here m_L_resolve l_L_resolve_9 (bi_go (bh_here m_L_resolve l_L_resolve_24 (bi_push (bh_here m_L_resolve l_L_resolve_25 (bi_iret rfl h))))))))))
theorem em_L_resolve : ∀ n : Fin 5, ¬ n.val = 0 → (E_res n.val, nI n.val) ∈ hs_L_resolve := by decide +kernel
theorem ch_resolve {M : bh_M} {Z : bh_F → Prop} {A : sa} (h : RC M A) (hm : RM M A) (hw : WA A) (hck : a_ck A < 999) (a : Int32) (hz : zh Z A (o_resolve A a)) : F_L_resolve [.inr (3, 1), .inl (.int a), .inr (25, 1)] M Z := by
  refine be_L_resolve a h.2.2.2.2.2.2.2 (cc_resolve h hw a (fun M' h1 h2 => ch_fin (n := 4) h2 h1 hm hz (fun v hv => ?_) em_L_resolve oc_resolve))
  exact bk_L_resolve a v h1.2.2.2.2.2.2.2 hv
def hs_L_start : List (String × Int32) := [("java/lang/IllegalArgumentException", 1), ("java/util/NoSuchElementException", 2), ("java/lang/IllegalStateException", 3), ("java/lang/UnsupportedOperationException", 4), ("java/lang/ArithmeticException", 5)]
theorem be_L_start {M : bh_M} {Z : bh_F → Prop} (a1 : Int32) (hs : bh_stat M.2.2.2) (h : F_H_start [.inr (3, 1), .inl (.int a1)] M (bh_after 7 [some (.inr (3, 1)), some (.inl (.int a1)), some (.inr (25, 1)), none] [.inl (.int 0), .inr (25, 1)] 5 (fun y => bh_wp (bh_tb T_L_start) y Z) (bh_cz hs_L_start Z))) : F_L_start [.inr (3, 1), .inl (.int a1), .inr (25, 1)] M Z := bi_fn rfl [some (.inr (3, 1)), some (.inl (.int a1)), some (.inr (25, 1)), none] rfl (bh_here m_L_start l_L_start_0 (bi_ald rfl (bh_here m_L_start l_L_start_1 (bi_push (bh_here m_L_start l_L_start_2 (bi_ald rfl (bh_here m_L_start l_L_start_3 (bi_ild rfl (bh_here m_L_start l_L_start_4 (bi_callC [.inl (.int a1)] [.inl (.int 0), .inr (25, 1)] rfl rfl rfl hs ⟨by decide, by decide⟩ rfl rfl h))))))))))
theorem bk_L_start {M : bh_M} {Z : bh_F → Prop} (a1 : Int32) (v : Int32) (hs : bh_stat M.2.2.2) (h : Z (.inl (some (.inl (.int 0))), bh_sJ M 25 1 0 (Int32.toInt64 v))) : bh_wp (bh_tb T_L_start) (7, [some (.inr (3, 1)), some (.inl (.int a1)), some (.inr (25, 1)), none], [.inl (.int v), .inl (.int 0), .inr (25, 1)], M, 5) Z := (bh_here m_L_start l_L_start_7 (bi_i1 (.inl (.long (Int32.toInt64 v))) rfl (bh_here m_L_start l_L_start_8 (bi_Jast 0 rfl hs rfl ⟨by decide, by decide⟩ (bn_in (a := 0) (N := 1) (by decide) rfl)  (bh_here m_L_start l_L_start_9 (bi_go (bh_here m_L_start l_L_start_27 (bi_push (bh_here m_L_start l_L_start_28 (bi_iret rfl h))))))))))
theorem em_L_start : ∀ n : Fin 6, ¬ n.val = 0 → (E_sta n.val, nI n.val) ∈ hs_L_start := by decide +kernel
theorem ch_start {M : bh_M} {Z : bh_F → Prop} {A : sa} (h : RC M A) (hm : RM M A) (hw : WA A) (hck : a_ck A < 999) (a : Int32) (hz : zh Z A (o_start A a)) : F_L_start [.inr (3, 1), .inl (.int a), .inr (25, 1)] M Z := by
  refine be_L_start a h.2.2.2.2.2.2.2 (cc_start h hw a (fun M' h1 h2 => ch_fin (n := 5) h2 h1 hm hz (fun v hv => ?_) em_L_start oc_start))
  exact bk_L_start a v h1.2.2.2.2.2.2.2 hv
def hs_L_stop : List (String × Int32) := [("java/lang/IllegalArgumentException", 1), ("java/util/NoSuchElementException", 2)]
theorem be_L_stop {M : bh_M} {Z : bh_F → Prop} (a1 : Int32) (hs : bh_stat M.2.2.2) (h : F_H_stop [.inr (3, 1), .inl (.int a1)] M (bh_after 7 [some (.inr (3, 1)), some (.inl (.int a1)), some (.inr (25, 1)), none] [.inl (.int 0), .inr (25, 1)] 2 (fun y => bh_wp (bh_tb T_L_stop) y Z) (bh_cz hs_L_stop Z))) : F_L_stop [.inr (3, 1), .inl (.int a1), .inr (25, 1)] M Z := bi_fn rfl [some (.inr (3, 1)), some (.inl (.int a1)), some (.inr (25, 1)), none] rfl (bh_here m_L_stop l_L_stop_0 (bi_ald rfl (bh_here m_L_stop l_L_stop_1 (bi_push (bh_here m_L_stop l_L_stop_2 (bi_ald rfl (bh_here m_L_stop l_L_stop_3 (bi_ild rfl (bh_here m_L_stop l_L_stop_4 (bi_callC [.inl (.int a1)] [.inl (.int 0), .inr (25, 1)] rfl rfl rfl hs ⟨by decide, by decide⟩ rfl rfl h))))))))))
theorem bk_L_stop {M : bh_M} {Z : bh_F → Prop} (a1 : Int32) (v : Int32) (hs : bh_stat M.2.2.2) (h : Z (.inl (some (.inl (.int 0))), bh_sJ M 25 1 0 (Int32.toInt64 v))) : bh_wp (bh_tb T_L_stop) (7, [some (.inr (3, 1)), some (.inl (.int a1)), some (.inr (25, 1)), none], [.inl (.int v), .inl (.int 0), .inr (25, 1)], M, 2) Z := (bh_here m_L_stop l_L_stop_7 (bi_i1 (.inl (.long (Int32.toInt64 v))) rfl (bh_here m_L_stop l_L_stop_8 (bi_Jast 0 rfl hs rfl ⟨by decide, by decide⟩ (bn_in (a := 0) (N := 1) (by decide) rfl)  (bh_here m_L_stop l_L_stop_9 (bi_go (bh_here m_L_stop l_L_stop_18 (bi_push (bh_here m_L_stop l_L_stop_19 (bi_iret rfl h))))))))))
theorem em_L_stop : ∀ n : Fin 3, ¬ n.val = 0 → (E_two n.val, nI n.val) ∈ hs_L_stop := by decide +kernel
theorem ch_stop {M : bh_M} {Z : bh_F → Prop} {A : sa} (h : RC M A) (hm : RM M A) (hw : WA A) (hck : a_ck A < 999) (a : Int32) (hz : zh Z A (o_stop A a)) : F_L_stop [.inr (3, 1), .inl (.int a), .inr (25, 1)] M Z := by
  refine be_L_stop a h.2.2.2.2.2.2.2 (cc_stop h  a (fun M' h1 h2 => ch_fin (n := 2) h2 h1 hm hz (fun v hv => ?_) em_L_stop oc_stop))
  exact bk_L_stop a v h1.2.2.2.2.2.2.2 hv
def hs_L_level : List (String × Int32) := [("java/lang/IllegalArgumentException", 1)]
theorem be_L_level {M : bh_M} {Z : bh_F → Prop} (a1 : Int32) (hs : bh_stat M.2.2.2) (h : F_H_level [.inr (3, 1), .inl (.int a1)] M (bh_after 7 [some (.inr (3, 1)), some (.inl (.int a1)), some (.inr (25, 1)), none] [.inl (.int 0), .inr (25, 1)] 1 (fun y => bh_wp (bh_tb T_L_level) y Z) (bh_cz hs_L_level Z))) : F_L_level [.inr (3, 1), .inl (.int a1), .inr (25, 1)] M Z := bi_fn rfl [some (.inr (3, 1)), some (.inl (.int a1)), some (.inr (25, 1)), none] rfl (bh_here m_L_level l_L_level_0 (bi_ald rfl (bh_here m_L_level l_L_level_1 (bi_push (bh_here m_L_level l_L_level_2 (bi_ald rfl (bh_here m_L_level l_L_level_3 (bi_ild rfl (bh_here m_L_level l_L_level_4 (bi_callC [.inl (.int a1)] [.inl (.int 0), .inr (25, 1)] rfl rfl rfl hs ⟨by decide, by decide⟩ rfl rfl h))))))))))
theorem bk_L_level {M : bh_M} {Z : bh_F → Prop} (a1 : Int32) (v : Int32) (hs : bh_stat M.2.2.2) (h : Z (.inl (some (.inl (.int 0))), bh_sJ M 25 1 0 (Int32.toInt64 v))) : bh_wp (bh_tb T_L_level) (7, [some (.inr (3, 1)), some (.inl (.int a1)), some (.inr (25, 1)), none], [.inl (.int v), .inl (.int 0), .inr (25, 1)], M, 1) Z := (bh_here m_L_level l_L_level_7 (bi_i1 (.inl (.long (Int32.toInt64 v))) rfl (bh_here m_L_level l_L_level_8 (bi_Jast 0 rfl hs rfl ⟨by decide, by decide⟩ (bn_in (a := 0) (N := 1) (by decide) rfl)  (bh_here m_L_level l_L_level_9 (bi_go (bh_here m_L_level l_L_level_15 (bi_push (bh_here m_L_level l_L_level_16 (bi_iret rfl h))))))))))
theorem em_L_level : ∀ n : Fin 2, ¬ n.val = 0 → (E_one n.val, nI n.val) ∈ hs_L_level := by decide +kernel
theorem ch_level {M : bh_M} {Z : bh_F → Prop} {A : sa} (h : RC M A) (hm : RM M A) (hw : WA A) (hck : a_ck A < 999) (a : Int32) (hz : zh Z A (o_level A a)) : F_L_level [.inr (3, 1), .inl (.int a), .inr (25, 1)] M Z := by
  refine be_L_level a h.2.2.2.2.2.2.2 (cc_level h hw a (fun M' h1 h2 => ch_fin (n := 1) h2 h1 hm hz (fun v hv => ?_) em_L_level oc_level))
  exact bk_L_level a v h1.2.2.2.2.2.2.2 hv
def hs_L_uninstall : List (String × Int32) := [("java/lang/IllegalArgumentException", 1), ("java/util/NoSuchElementException", 2)]
theorem be_L_uninstall {M : bh_M} {Z : bh_F → Prop} (a1 : Int32) (hs : bh_stat M.2.2.2) (h : F_H_uninstall [.inr (3, 1), .inl (.int a1)] M (bh_after 7 [some (.inr (3, 1)), some (.inl (.int a1)), some (.inr (25, 1)), none] [.inl (.int 0), .inr (25, 1)] 2 (fun y => bh_wp (bh_tb T_L_uninstall) y Z) (bh_cz hs_L_uninstall Z))) : F_L_uninstall [.inr (3, 1), .inl (.int a1), .inr (25, 1)] M Z := bi_fn rfl [some (.inr (3, 1)), some (.inl (.int a1)), some (.inr (25, 1)), none] rfl (bh_here m_L_uninstall l_L_uninstall_0 (bi_ald rfl (bh_here m_L_uninstall l_L_uninstall_1 (bi_push (bh_here m_L_uninstall l_L_uninstall_2 (bi_ald rfl (bh_here m_L_uninstall l_L_uninstall_3 (bi_ild rfl (bh_here m_L_uninstall l_L_uninstall_4 (bi_callC [.inl (.int a1)] [.inl (.int 0), .inr (25, 1)] rfl rfl rfl hs ⟨by decide, by decide⟩ rfl rfl h))))))))))
theorem bk_L_uninstall {M : bh_M} {Z : bh_F → Prop} (a1 : Int32) (v : Int32) (hs : bh_stat M.2.2.2) (h : Z (.inl (some (.inl (.int 0))), bh_sJ M 25 1 0 (Int32.toInt64 v))) : bh_wp (bh_tb T_L_uninstall) (7, [some (.inr (3, 1)), some (.inl (.int a1)), some (.inr (25, 1)), none], [.inl (.int v), .inl (.int 0), .inr (25, 1)], M, 2) Z := (bh_here m_L_uninstall l_L_uninstall_7 (bi_i1 (.inl (.long (Int32.toInt64 v))) rfl (bh_here m_L_uninstall l_L_uninstall_8 (bi_Jast 0 rfl hs rfl ⟨by decide, by decide⟩ (bn_in (a := 0) (N := 1) (by decide) rfl)  (bh_here m_L_uninstall l_L_uninstall_9 (bi_go (bh_here m_L_uninstall l_L_uninstall_18 (bi_push (bh_here m_L_uninstall l_L_uninstall_19 (bi_iret rfl h))))))))))
theorem em_L_uninstall : ∀ n : Fin 3, ¬ n.val = 0 → (E_two n.val, nI n.val) ∈ hs_L_uninstall := by decide +kernel
theorem ch_uninstall {M : bh_M} {Z : bh_F → Prop} {A : sa} (h : RC M A) (hm : RM M A) (hw : WA A) (hck : a_ck A < 999) (a : Int32) (hz : zh Z A (o_uninstall A a)) : F_L_uninstall [.inr (3, 1), .inl (.int a), .inr (25, 1)] M Z := by
  refine be_L_uninstall a h.2.2.2.2.2.2.2 (cc_uninstall h  a (fun M' h1 h2 => ch_fin (n := 2) h2 h1 hm hz (fun v hv => ?_) em_L_uninstall oc_uninstall))
  exact bk_L_uninstall a v h1.2.2.2.2.2.2.2 hv
def hs_L_update : List (String × Int32) := [("java/lang/IllegalArgumentException", 1), ("java/util/NoSuchElementException", 2)]
theorem be_L_update {M : bh_M} {Z : bh_F → Prop} (a1 : Int32) (hs : bh_stat M.2.2.2) (h : F_H_update [.inr (3, 1), .inl (.int a1)] M (bh_after 7 [some (.inr (3, 1)), some (.inl (.int a1)), some (.inr (25, 1)), none] [.inl (.int 0), .inr (25, 1)] 2 (fun y => bh_wp (bh_tb T_L_update) y Z) (bh_cz hs_L_update Z))) : F_L_update [.inr (3, 1), .inl (.int a1), .inr (25, 1)] M Z := bi_fn rfl [some (.inr (3, 1)), some (.inl (.int a1)), some (.inr (25, 1)), none] rfl (bh_here m_L_update l_L_update_0 (bi_ald rfl (bh_here m_L_update l_L_update_1 (bi_push (bh_here m_L_update l_L_update_2 (bi_ald rfl (bh_here m_L_update l_L_update_3 (bi_ild rfl (bh_here m_L_update l_L_update_4 (bi_callC [.inl (.int a1)] [.inl (.int 0), .inr (25, 1)] rfl rfl rfl hs ⟨by decide, by decide⟩ rfl rfl h))))))))))
theorem bk_L_update {M : bh_M} {Z : bh_F → Prop} (a1 : Int32) (v : Int32) (hs : bh_stat M.2.2.2) (h : Z (.inl (some (.inl (.int 0))), bh_sJ M 25 1 0 (Int32.toInt64 v))) : bh_wp (bh_tb T_L_update) (7, [some (.inr (3, 1)), some (.inl (.int a1)), some (.inr (25, 1)), none], [.inl (.int v), .inl (.int 0), .inr (25, 1)], M, 2) Z := (bh_here m_L_update l_L_update_7 (bi_i1 (.inl (.long (Int32.toInt64 v))) rfl (bh_here m_L_update l_L_update_8 (bi_Jast 0 rfl hs rfl ⟨by decide, by decide⟩ (bn_in (a := 0) (N := 1) (by decide) rfl)  (bh_here m_L_update l_L_update_9 (bi_go (bh_here m_L_update l_L_update_18 (bi_push (bh_here m_L_update l_L_update_19 (bi_iret rfl h))))))))))
theorem em_L_update : ∀ n : Fin 3, ¬ n.val = 0 → (E_two n.val, nI n.val) ∈ hs_L_update := by decide +kernel
theorem ch_update {M : bh_M} {Z : bh_F → Prop} {A : sa} (h : RC M A) (hm : RM M A) (hw : WA A) (hck : a_ck A < 999) (a : Int32) (hz : zh Z A (o_update A a)) : F_L_update [.inr (3, 1), .inl (.int a), .inr (25, 1)] M Z := by
  refine be_L_update a h.2.2.2.2.2.2.2 (cc_update h hw hck a (fun M' h1 h2 => ch_fin (n := 2) h2 h1 hm hz (fun v hv => ?_) em_L_update oc_update))
  exact bk_L_update a v h1.2.2.2.2.2.2.2 hv
def hs_L_register : List (String × Int32) := [("java/lang/IllegalArgumentException", 1), ("java/util/NoSuchElementException", 2), ("java/lang/IllegalStateException", 3), ("java/lang/UnsupportedOperationException", 4)]
theorem be_L_register {M : bh_M} {Z : bh_F → Prop} (a1 : Int32) (a2 : Int32) (a3 : UInt64) (hs : bh_stat M.2.2.2) (h : F_H_register [.inr (3, 1), .inl (.int a1), .inl (.int a2), .inl (.double a3)] M (bh_after 10 [some (.inr (3, 1)), some (.inl (.int a1)), some (.inl (.int a2)), some (.inl (.double a3)), none, some (.inr (25, 1)), none] [.inl (.int 0), .inr (25, 1)] 6 (fun y => bh_wp (bh_tb T_L_register) y Z) (bh_cz hs_L_register Z))) : F_L_register [.inr (3, 1), .inl (.int a1), .inl (.int a2), .inl (.double a3), .inr (25, 1)] M Z := bi_fn rfl [some (.inr (3, 1)), some (.inl (.int a1)), some (.inl (.int a2)), some (.inl (.double a3)), none, some (.inr (25, 1)), none] rfl (bh_here m_L_register l_L_register_0 (bi_ald rfl (bh_here m_L_register l_L_register_2 (bi_push (bh_here m_L_register l_L_register_3 (bi_ald rfl (bh_here m_L_register l_L_register_4 (bi_ild rfl (bh_here m_L_register l_L_register_5 (bi_ild rfl (bh_here m_L_register l_L_register_6 (bi_dld rfl (bh_here m_L_register l_L_register_7 (bi_callC [.inl (.int a1), .inl (.int a2), .inl (.double a3)] [.inl (.int 0), .inr (25, 1)] rfl rfl rfl hs ⟨by decide, by decide⟩ rfl rfl h))))))))))))))
theorem bk_L_register {M : bh_M} {Z : bh_F → Prop} (a1 : Int32) (a2 : Int32) (a3 : UInt64) (v : Int32) (hs : bh_stat M.2.2.2) (h : Z (.inl (some (.inl (.int 0))), bh_sJ M 25 1 0 (Int32.toInt64 v))) : bh_wp (bh_tb T_L_register) (10, [some (.inr (3, 1)), some (.inl (.int a1)), some (.inl (.int a2)), some (.inl (.double a3)), none, some (.inr (25, 1)), none], [.inl (.int v), .inl (.int 0), .inr (25, 1)], M, 6) Z := (bh_here m_L_register l_L_register_10 (bi_i1 (.inl (.long (Int32.toInt64 v))) rfl (bh_here m_L_register l_L_register_11 (bi_Jast 0 rfl hs rfl ⟨by decide, by decide⟩ (bn_in (a := 0) (N := 1) (by decide) rfl)  (bh_here m_L_register l_L_register_12 (bi_go (bh_here m_L_register l_L_register_31 (bi_push (bh_here m_L_register l_L_register_32 (bi_iret rfl h))))))))))
theorem em_L_register : ∀ n : Fin 5, ¬ n.val = 0 → (E_std n.val, nI n.val) ∈ hs_L_register := by decide +kernel
theorem ch_register {M : bh_M} {Z : bh_F → Prop} {A : sa} (h : RC M A) (hm : RM M A) (hw : WA A) (hck : a_ck A < 999) (a : Int32) (k : Int32) (x : UInt64) (hz : zh Z A (o_register A a k x)) : F_L_register [.inr (3, 1), .inl (.int a), .inl (.int k), .inl (.double x), .inr (25, 1)] M Z := by
  refine be_L_register a k x h.2.2.2.2.2.2.2 (cc_register h  a k x (fun M' h1 h2 => ch_fin (n := 4) h2 h1 hm hz (fun v hv => ?_) em_L_register oc_register))
  exact bk_L_register a k x v h1.2.2.2.2.2.2.2 hv
def hs_L_get : List (String × Int32) := [("java/lang/IllegalArgumentException", 1), ("java/util/NoSuchElementException", 2), ("java/lang/IllegalStateException", 3), ("java/lang/UnsupportedOperationException", 4)]
theorem be_L_get {M : bh_M} {Z : bh_F → Prop} (a1 : Int32) (a2 : Int32) (hs : bh_stat M.2.2.2) (h : F_H_get [.inr (3, 1), .inl (.int a1), .inl (.int a2)] M (bh_after 8 [some (.inr (3, 1)), some (.inl (.int a1)), some (.inl (.int a2)), some (.inr (25, 1)), none] [.inl (.int 0), .inr (25, 1)] 5 (fun y => bh_wp (bh_tb T_L_get) y Z) (bh_cz hs_L_get Z))) : F_L_get [.inr (3, 1), .inl (.int a1), .inl (.int a2), .inr (25, 1)] M Z := bi_fn rfl [some (.inr (3, 1)), some (.inl (.int a1)), some (.inl (.int a2)), some (.inr (25, 1)), none] rfl (bh_here m_L_get l_L_get_0 (bi_ald rfl (bh_here m_L_get l_L_get_1 (bi_push (bh_here m_L_get l_L_get_2 (bi_ald rfl (bh_here m_L_get l_L_get_3 (bi_ild rfl (bh_here m_L_get l_L_get_4 (bi_ild rfl (bh_here m_L_get l_L_get_5 (bi_callC [.inl (.int a1), .inl (.int a2)] [.inl (.int 0), .inr (25, 1)] rfl rfl rfl hs ⟨by decide, by decide⟩ rfl rfl h))))))))))))
theorem bk_L_get {M : bh_M} {Z : bh_F → Prop} (a1 : Int32) (a2 : Int32) (v : Int32) (hs : bh_stat M.2.2.2) (h : Z (.inl (some (.inl (.int 0))), bh_sJ M 25 1 0 (Int32.toInt64 v))) : bh_wp (bh_tb T_L_get) (8, [some (.inr (3, 1)), some (.inl (.int a1)), some (.inl (.int a2)), some (.inr (25, 1)), none], [.inl (.int v), .inl (.int 0), .inr (25, 1)], M, 5) Z := (bh_here m_L_get l_L_get_8 (bi_i1 (.inl (.long (Int32.toInt64 v))) rfl (bh_here m_L_get l_L_get_9 (bi_Jast 0 rfl hs rfl ⟨by decide, by decide⟩ (bn_in (a := 0) (N := 1) (by decide) rfl)  (bh_here m_L_get l_L_get_10 (bi_go (bh_here m_L_get l_L_get_29 (bi_push (bh_here m_L_get l_L_get_30 (bi_iret rfl h))))))))))
theorem em_L_get : ∀ n : Fin 5, ¬ n.val = 0 → (E_std n.val, nI n.val) ∈ hs_L_get := by decide +kernel
theorem ch_get {M : bh_M} {Z : bh_F → Prop} {A : sa} (h : RC M A) (hm : RM M A) (hw : WA A) (hck : a_ck A < 999) (a : Int32) (k : Int32) (hz : zh Z A (o_get A a k)) : F_L_get [.inr (3, 1), .inl (.int a), .inl (.int k), .inr (25, 1)] M Z := by
  refine be_L_get a k h.2.2.2.2.2.2.2 (cc_get h  a k (fun M' h1 h2 => ch_fin (n := 4) h2 h1 hm hz (fun v hv => ?_) em_L_get oc_get))
  exact bk_L_get a k v h1.2.2.2.2.2.2.2 hv
def hs_L_giveBack : List (String × Int32) := [("java/lang/IllegalArgumentException", 1), ("java/util/NoSuchElementException", 2), ("java/lang/UnsupportedOperationException", 3)]
theorem be_L_giveBack {M : bh_M} {Z : bh_F → Prop} (a1 : Int32) (a2 : Int32) (hs : bh_stat M.2.2.2) (h : F_H_giveBack [.inr (3, 1), .inl (.int a1), .inl (.int a2)] M (bh_after 8 [some (.inr (3, 1)), some (.inl (.int a1)), some (.inl (.int a2)), some (.inr (25, 1)), none] [.inl (.int 0), .inr (25, 1)] 4 (fun y => bh_wp (bh_tb T_L_giveBack) y Z) (bh_cz hs_L_giveBack Z))) : F_L_giveBack [.inr (3, 1), .inl (.int a1), .inl (.int a2), .inr (25, 1)] M Z := bi_fn rfl [some (.inr (3, 1)), some (.inl (.int a1)), some (.inl (.int a2)), some (.inr (25, 1)), none] rfl (bh_here m_L_giveBack l_L_giveBack_0 (bi_ald rfl (bh_here m_L_giveBack l_L_giveBack_1 (bi_push (bh_here m_L_giveBack l_L_giveBack_2 (bi_ald rfl (bh_here m_L_giveBack l_L_giveBack_3 (bi_ild rfl (bh_here m_L_giveBack l_L_giveBack_4 (bi_ild rfl (bh_here m_L_giveBack l_L_giveBack_5 (bi_callC [.inl (.int a1), .inl (.int a2)] [.inl (.int 0), .inr (25, 1)] rfl rfl rfl hs ⟨by decide, by decide⟩ rfl rfl h))))))))))))
theorem bk_L_giveBack {M : bh_M} {Z : bh_F → Prop} (a1 : Int32) (a2 : Int32) (v : Int32) (hs : bh_stat M.2.2.2) (h : Z (.inl (some (.inl (.int 0))), bh_sJ M 25 1 0 (Int32.toInt64 v))) : bh_wp (bh_tb T_L_giveBack) (8, [some (.inr (3, 1)), some (.inl (.int a1)), some (.inl (.int a2)), some (.inr (25, 1)), none], [.inl (.int v), .inl (.int 0), .inr (25, 1)], M, 4) Z := (bh_here m_L_giveBack l_L_giveBack_8 (bi_i1 (.inl (.long (Int32.toInt64 v))) rfl (bh_here m_L_giveBack l_L_giveBack_9 (bi_Jast 0 rfl hs rfl ⟨by decide, by decide⟩ (bn_in (a := 0) (N := 1) (by decide) rfl)  (bh_here m_L_giveBack l_L_giveBack_10 (bi_go (bh_here m_L_giveBack l_L_giveBack_25 (bi_push (bh_here m_L_giveBack l_L_giveBack_26 (bi_iret rfl h))))))))))
theorem em_L_giveBack : ∀ n : Fin 4, ¬ n.val = 0 → (E_gb n.val, nI n.val) ∈ hs_L_giveBack := by decide +kernel
theorem ch_giveBack {M : bh_M} {Z : bh_F → Prop} {A : sa} (h : RC M A) (hm : RM M A) (hw : WA A) (hck : a_ck A < 999) (a : Int32) (k : Int32) (hz : zh Z A (o_giveBack A a k)) : F_L_giveBack [.inr (3, 1), .inl (.int a), .inl (.int k), .inr (25, 1)] M Z := by
  refine be_L_giveBack a k h.2.2.2.2.2.2.2 (cc_giveBack h  a k (fun M' h1 h2 => ch_fin (n := 3) h2 h1 hm hz (fun v hv => ?_) em_L_giveBack oc_giveBack))
  exact bk_L_giveBack a k v h1.2.2.2.2.2.2.2 hv
def hs_L_unregister : List (String × Int32) := [("java/lang/IllegalArgumentException", 1), ("java/util/NoSuchElementException", 2), ("java/lang/UnsupportedOperationException", 3)]
theorem be_L_unregister {M : bh_M} {Z : bh_F → Prop} (a1 : Int32) (a2 : Int32) (hs : bh_stat M.2.2.2) (h : F_H_unregister [.inr (3, 1), .inl (.int a1), .inl (.int a2)] M (bh_after 8 [some (.inr (3, 1)), some (.inl (.int a1)), some (.inl (.int a2)), some (.inr (25, 1)), none] [.inl (.int 0), .inr (25, 1)] 4 (fun y => bh_wp (bh_tb T_L_unregister) y Z) (bh_cz hs_L_unregister Z))) : F_L_unregister [.inr (3, 1), .inl (.int a1), .inl (.int a2), .inr (25, 1)] M Z := bi_fn rfl [some (.inr (3, 1)), some (.inl (.int a1)), some (.inl (.int a2)), some (.inr (25, 1)), none] rfl (bh_here m_L_unregister l_L_unregister_0 (bi_ald rfl (bh_here m_L_unregister l_L_unregister_1 (bi_push (bh_here m_L_unregister l_L_unregister_2 (bi_ald rfl (bh_here m_L_unregister l_L_unregister_3 (bi_ild rfl (bh_here m_L_unregister l_L_unregister_4 (bi_ild rfl (bh_here m_L_unregister l_L_unregister_5 (bi_callC [.inl (.int a1), .inl (.int a2)] [.inl (.int 0), .inr (25, 1)] rfl rfl rfl hs ⟨by decide, by decide⟩ rfl rfl h))))))))))))
theorem bk_L_unregister {M : bh_M} {Z : bh_F → Prop} (a1 : Int32) (a2 : Int32) (v : Int32) (hs : bh_stat M.2.2.2) (h : Z (.inl (some (.inl (.int 0))), bh_sJ M 25 1 0 (Int32.toInt64 v))) : bh_wp (bh_tb T_L_unregister) (8, [some (.inr (3, 1)), some (.inl (.int a1)), some (.inl (.int a2)), some (.inr (25, 1)), none], [.inl (.int v), .inl (.int 0), .inr (25, 1)], M, 4) Z := (bh_here m_L_unregister l_L_unregister_8 (bi_i1 (.inl (.long (Int32.toInt64 v))) rfl (bh_here m_L_unregister l_L_unregister_9 (bi_Jast 0 rfl hs rfl ⟨by decide, by decide⟩ (bn_in (a := 0) (N := 1) (by decide) rfl)  (bh_here m_L_unregister l_L_unregister_10 (bi_go (bh_here m_L_unregister l_L_unregister_25 (bi_push (bh_here m_L_unregister l_L_unregister_26 (bi_iret rfl h))))))))))
theorem em_L_unregister : ∀ n : Fin 4, ¬ n.val = 0 → (E_gb n.val, nI n.val) ∈ hs_L_unregister := by decide +kernel
theorem ch_unregister {M : bh_M} {Z : bh_F → Prop} {A : sa} (h : RC M A) (hm : RM M A) (hw : WA A) (hck : a_ck A < 999) (a : Int32) (k : Int32) (hz : zh Z A (o_unregister A a k)) : F_L_unregister [.inr (3, 1), .inl (.int a), .inl (.int k), .inr (25, 1)] M Z := by
  refine be_L_unregister a k h.2.2.2.2.2.2.2 (cc_unregister h  a k (fun M' h1 h2 => ch_fin (n := 3) h2 h1 hm hz (fun v hv => ?_) em_L_unregister oc_unregister))
  exact bk_L_unregister a k v h1.2.2.2.2.2.2.2 hv
def hs_L_rank : List (String × Int32) := [("java/lang/IllegalArgumentException", 1), ("java/lang/ArithmeticException", 2)]
theorem be_L_rank {M : bh_M} {Z : bh_F → Prop} (a1 : Int32) (hs : bh_stat M.2.2.2) (h : F_H_rank [.inr (3, 1), .inl (.int a1)] M (bh_after 7 [some (.inr (3, 1)), some (.inl (.int a1)), some (.inr (26, 1)), none] [.inl (.int 0), .inr (26, 1)] 2 (fun y => bh_wp (bh_tb T_L_rank) y Z) (bh_cz hs_L_rank Z))) : F_L_rank [.inr (3, 1), .inl (.int a1), .inr (26, 1)] M Z := bi_fn rfl [some (.inr (3, 1)), some (.inl (.int a1)), some (.inr (26, 1)), none] rfl (bh_here m_L_rank l_L_rank_0 (bi_ald rfl (bh_here m_L_rank l_L_rank_1 (bi_push (bh_here m_L_rank l_L_rank_2 (bi_ald rfl (bh_here m_L_rank l_L_rank_3 (bi_ild rfl (bh_here m_L_rank l_L_rank_4 (bi_callC [.inl (.int a1)] [.inl (.int 0), .inr (26, 1)] rfl rfl rfl hs ⟨by decide, by decide⟩ rfl rfl h))))))))))
theorem bk_L_rank {M : bh_M} {Z : bh_F → Prop} (a1 : Int32) (v : UInt64) (hs : bh_stat M.2.2.2) (h : Z (.inl (some (.inl (.int 0))), bh_sD M 26 1 0 v)) : bh_wp (bh_tb T_L_rank) (7, [some (.inr (3, 1)), some (.inl (.int a1)), some (.inr (26, 1)), none], [.inl (.double v), .inl (.int 0), .inr (26, 1)], M, 2) Z := (bh_here m_L_rank l_L_rank_7 (bi_Dast 0 rfl hs rfl ⟨by decide, by decide⟩ (bn_in (a := 0) (N := 1) (by decide) rfl)  (bh_here m_L_rank l_L_rank_8 (bi_go (bh_here m_L_rank l_L_rank_17 (bi_push (bh_here m_L_rank l_L_rank_18 (bi_iret rfl h))))))))
def hs_L_event : List (String × Int32) := [("java/lang/IllegalStateException", 1)]
theorem be_L_event {M : bh_M} {Z : bh_F → Prop}  (hs : bh_stat M.2.2.2) (h : F_H_event [.inr (3, 1)] M (bh_after 6 [some (.inr (3, 1)), some (.inr (25, 1)), none] [.inl (.int 0), .inr (25, 1)] 1 (fun y => bh_wp (bh_tb T_L_event) y Z) (bh_cz hs_L_event Z))) : F_L_event [.inr (3, 1), .inr (25, 1)] M Z := bi_fn rfl [some (.inr (3, 1)), some (.inr (25, 1)), none] rfl (bh_here m_L_event l_L_event_0 (bi_ald rfl (bh_here m_L_event l_L_event_1 (bi_push (bh_here m_L_event l_L_event_2 (bi_ald rfl (bh_here m_L_event l_L_event_3 (bi_callC [] [.inl (.int 0), .inr (25, 1)] rfl rfl rfl hs ⟨by decide, by decide⟩ rfl rfl h))))))))
theorem bk_L_event {M : bh_M} {Z : bh_F → Prop} (v : Int32) (hs : bh_stat M.2.2.2) (h : Z (.inl (some (.inl (.int 0))), bh_sJ M 25 1 0 (Int32.toInt64 v))) : bh_wp (bh_tb T_L_event) (6, [some (.inr (3, 1)), some (.inr (25, 1)), none], [.inl (.int v), .inl (.int 0), .inr (25, 1)], M, 1) Z := (bh_here m_L_event l_L_event_6 (bi_i1 (.inl (.long (Int32.toInt64 v))) rfl (bh_here m_L_event l_L_event_7 (bi_Jast 0 rfl hs rfl ⟨by decide, by decide⟩ (bn_in (a := 0) (N := 1) (by decide) rfl)  (bh_here m_L_event l_L_event_8 (bi_go (bh_here m_L_event l_L_event_14 (bi_push (bh_here m_L_event l_L_event_15 (bi_iret rfl h))))))))))
theorem em_L_event : ∀ n : Fin 2, ¬ n.val = 0 → (E_ev n.val, nI n.val) ∈ hs_L_event := by decide +kernel
theorem ch_event {M : bh_M} {Z : bh_F → Prop} {A : sa} (h : RC M A) (hm : RM M A) (hw : WA A) (hck : a_ck A < 999)  (hz : zh Z A (o_event A)) : F_L_event [.inr (3, 1), .inr (25, 1)] M Z := by
  refine be_L_event  h.2.2.2.2.2.2.2 (cc_event h   (fun M' h1 h2 => ch_fin (n := 1) h2 h1 hm hz (fun v hv => ?_) em_L_event oc_event))
  exact bk_L_event  v h1.2.2.2.2.2.2.2 hv
def hs_L_about : List (String × Int32) := [("java/lang/IllegalArgumentException", 1)]
theorem be_L_about {M : bh_M} {Z : bh_F → Prop} (a1 : Int32) (a2 : Int32) (hs : bh_stat M.2.2.2) (h : F_H_about [.inr (3, 1), .inl (.int a1), .inl (.int a2)] M (bh_after 8 [some (.inr (3, 1)), some (.inl (.int a1)), some (.inl (.int a2)), some (.inr (25, 1)), none] [.inl (.int 0), .inr (25, 1)] 2 (fun y => bh_wp (bh_tb T_L_about) y Z) (bh_cz hs_L_about Z))) : F_L_about [.inr (3, 1), .inl (.int a1), .inl (.int a2), .inr (25, 1)] M Z := bi_fn rfl [some (.inr (3, 1)), some (.inl (.int a1)), some (.inl (.int a2)), some (.inr (25, 1)), none] rfl (bh_here m_L_about l_L_about_0 (bi_ald rfl (bh_here m_L_about l_L_about_1 (bi_push (bh_here m_L_about l_L_about_2 (bi_ald rfl (bh_here m_L_about l_L_about_3 (bi_ild rfl (bh_here m_L_about l_L_about_4 (bi_ild rfl (bh_here m_L_about l_L_about_5 (bi_callC [.inl (.int a1), .inl (.int a2)] [.inl (.int 0), .inr (25, 1)] rfl rfl rfl hs ⟨by decide, by decide⟩ rfl rfl h))))))))))))
theorem bk_L_about {M : bh_M} {Z : bh_F → Prop} (a1 : Int32) (a2 : Int32) (v : Int32) (hs : bh_stat M.2.2.2) (h : Z (.inl (some (.inl (.int 0))), bh_sJ M 25 1 0 (Int32.toInt64 v))) : bh_wp (bh_tb T_L_about) (8, [some (.inr (3, 1)), some (.inl (.int a1)), some (.inl (.int a2)), some (.inr (25, 1)), none], [.inl (.int v), .inl (.int 0), .inr (25, 1)], M, 2) Z := (bh_here m_L_about l_L_about_8 (bi_i1 (.inl (.long (Int32.toInt64 v))) rfl (bh_here m_L_about l_L_about_9 (bi_Jast 0 rfl hs rfl ⟨by decide, by decide⟩ (bn_in (a := 0) (N := 1) (by decide) rfl)  (bh_here m_L_about l_L_about_10 (bi_go (bh_here m_L_about l_L_about_17 (bi_push (bh_here m_L_about l_L_about_18 (bi_iret rfl h))))))))))
theorem em_L_about : ∀ n : Fin 2, ¬ n.val = 0 → (E_one n.val, nI n.val) ∈ hs_L_about := by decide +kernel
theorem ch_about {M : bh_M} {Z : bh_F → Prop} {A : sa} (h : RC M A) (hm : RM M A) (hw : WA A) (hck : a_ck A < 999) (a : Int32) (k : Int32) (hz : zh Z A (o_about A a k)) : F_L_about [.inr (3, 1), .inl (.int a), .inl (.int k), .inr (25, 1)] M Z := by
  refine be_L_about a k h.2.2.2.2.2.2.2 (cc_about h  a k (fun M' h1 h2 => ch_fin (n := 1) h2 h1 hm hz (fun v hv => ?_) em_L_about oc_about))
  exact bk_L_about a k v h1.2.2.2.2.2.2.2 hv
def hs_L_count : List (String × Int32) := [("java/lang/IllegalArgumentException", 1)]
theorem be_L_count {M : bh_M} {Z : bh_F → Prop} (a1 : Int32) (hs : bh_stat M.2.2.2) (h : F_H_count [.inr (3, 1), .inl (.int a1)] M (bh_after 7 [some (.inr (3, 1)), some (.inl (.int a1)), some (.inr (25, 1)), none] [.inl (.int 0), .inr (25, 1)] 1 (fun y => bh_wp (bh_tb T_L_count) y Z) (bh_cz hs_L_count Z))) : F_L_count [.inr (3, 1), .inl (.int a1), .inr (25, 1)] M Z := bi_fn rfl [some (.inr (3, 1)), some (.inl (.int a1)), some (.inr (25, 1)), none] rfl (bh_here m_L_count l_L_count_0 (bi_ald rfl (bh_here m_L_count l_L_count_1 (bi_push (bh_here m_L_count l_L_count_2 (bi_ald rfl (bh_here m_L_count l_L_count_3 (bi_ild rfl (bh_here m_L_count l_L_count_4 (bi_callC [.inl (.int a1)] [.inl (.int 0), .inr (25, 1)] rfl rfl rfl hs ⟨by decide, by decide⟩ rfl rfl h))))))))))
theorem bk_L_count {M : bh_M} {Z : bh_F → Prop} (a1 : Int32) (v : Int32) (hs : bh_stat M.2.2.2) (h : Z (.inl (some (.inl (.int 0))), bh_sJ M 25 1 0 (Int32.toInt64 v))) : bh_wp (bh_tb T_L_count) (7, [some (.inr (3, 1)), some (.inl (.int a1)), some (.inr (25, 1)), none], [.inl (.int v), .inl (.int 0), .inr (25, 1)], M, 1) Z := (bh_here m_L_count l_L_count_7 (bi_i1 (.inl (.long (Int32.toInt64 v))) rfl (bh_here m_L_count l_L_count_8 (bi_Jast 0 rfl hs rfl ⟨by decide, by decide⟩ (bn_in (a := 0) (N := 1) (by decide) rfl)  (bh_here m_L_count l_L_count_9 (bi_go (bh_here m_L_count l_L_count_15 (bi_push (bh_here m_L_count l_L_count_16 (bi_iret rfl h))))))))))
theorem em_L_count : ∀ n : Fin 2, ¬ n.val = 0 → (E_one n.val, nI n.val) ∈ hs_L_count := by decide +kernel
theorem ch_count {M : bh_M} {Z : bh_F → Prop} {A : sa} (h : RC M A) (hm : RM M A) (hw : WA A) (hck : a_ck A < 999) (a : Int32) (hz : zh Z A (o_count A a)) : F_L_count [.inr (3, 1), .inl (.int a), .inr (25, 1)] M Z := by
  refine be_L_count a h.2.2.2.2.2.2.2 (cc_count h  a (fun M' h1 h2 => ch_fin (n := 1) h2 h1 hm hz (fun v hv => ?_) em_L_count oc_count))
  exact bk_L_count a v h1.2.2.2.2.2.2.2 hv
def zhd (Z : bh_F → Prop) (A : sa) (r : Nat × UInt64) : Prop := ∀ M', RC M' A → RM M' A → (r.1 = 0 → bh_D M' 26 1 0 = r.2) → Z (.inl (some (.inl (.int (nI r.1)))), M')
theorem em_L_rank : ∀ n : Fin 3, ¬ n.val = 0 → (E_rank n.val, nI n.val) ∈ hs_L_rank := by decide +kernel
theorem oc_rank {A : sa} {k : Int32} : (o_rank A k).1 ≤ 2 := by
  unfold o_rank
  repeat' split
  all_goals exact Nat.le_of_ble_eq_true rfl
theorem ch_rank {M : bh_M} {Z : bh_F → Prop} {A : sa} (h : RC M A) (hm : RM M A) (hw : WA A) (k : Int32) (hz : zhd Z A (o_rank A k)) : F_L_rank [.inr (3, 1), .inl (.int k), .inr (26, 1)] M Z := by
  refine be_L_rank k h.2.2.2.2.2.2.2 (cc_rank h hw k ?_)
  unfold rzd
  by_cases h0 : (o_rank A k).1 = 0
  · rw [if_pos h0]
    refine bk_L_rank k _ h.2.2.2.2.2.2.2 ?_
    have := hz (bh_sD M 26 1 0 (o_rank A k).2) (RC.D h _) (RM.D hm _) (fun _ => rfl)
    rw [h0] at this
    exact this
  · rw [if_neg h0]
    exact ⟨nI (o_rank A k).1, em_L_rank ⟨(o_rank A k).1, by have := oc_rank (A := A) (k := k); omega⟩ h0, hz M h hm (fun q => absurd q h0)⟩
