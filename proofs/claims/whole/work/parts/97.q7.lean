/-! THE LAW'S BODY: every call answers alike, and the loop -/
theorem fp_i2dn (x : Int32) : vf_n64 (FP.i2d x) := by
  refine fp_enc (fp_round ?_)
  unfold FP.Core.ofInt
  exact fun q => by cases q
theorem fp_mul (x : Int32) : vf_n64 (FP.dmul (FP.i2d x) 4593671619917905920) := by
  have h1 := fp_dec (fp_i2dn x)
  refine fp_enc (fp_round ?_)
  have e2 : FP.Core.decode FP.Core.b64 (4593671619917905920 : UInt64).toNat = .fin false 4503599627370496 (-55) := by decide +kernel
  rw [e2]
  cases e3 : FP.Core.decode FP.Core.b64 (FP.i2d x).toNat with
  | nan => exact absurd e3 h1
  | inf s =>
    show ¬ (if 4503599627370496 = 0 then FP.Core.Datum.nan else .inf (s != false)) = .nan
    rw [if_neg (by decide)]
    exact fun q => by cases q
  | fin s d q => exact fun q => by cases q
def lk (xs : Nat → Int32) (N n : Nat) (A : sa) (c : Nat) : Prop := ∀ (M' : bh_M) (A' : sa) (c' : Nat) (w6 w7 w8 : Option bh_V), RC M' A' → RM M' A' → WA A' → a_ck A' ≤ a_ck A + 1 → c' ≤ c + 7 → bh_wp (bh_tb (T_L_law xs N)) (1312, [some (.inr (1, 1)), some (.inr (3, 1)), some (.inr (40, 1)), some (.inr (25, 1)), some (.inr (26, 1)), some (.inl (.int (nI n))), w6, w7, w8], [], M', c') lw_z
theorem lg_cmp_self (x : Int64) : lg_cmp x x = 0 := by
  unfold lg_cmp
  simp
theorem lc_end {M : bh_M} {k v : Int32} {W Y : Prop} (ht : bh_I M 40 1 0 = k) (hJ : k = 0 → bh_J M 25 1 0 = Int32.toInt64 v) (hW : W) : (((bh_I M 40 1 0) = k) → ((¬ k = 0) → W) ∧ (¬ (¬ k = 0) → (((lg_cmp (bh_J M 25 1 0) (Int32.toInt64 v)) = 0) → W) ∧ (¬ ((lg_cmp (bh_J M 25 1 0) (Int32.toInt64 v)) = 0) → Y))) ∧ (¬ ((bh_I M 40 1 0) = k) → Y) :=
  ⟨fun _ => ⟨fun _ => hW, fun h0 => ⟨fun _ => hW, fun q => absurd (by rw [hJ (Classical.not_not.mp h0)]; exact lg_cmp_self _) q⟩⟩, fun q => absurd ht q⟩
theorem lc_endD {M : bh_M} {k : Int32} {r : UInt64} {W Y : Prop} (ht : bh_I M 40 1 0 = k) (hD : k = 0 → bh_D M 26 1 0 = r) (hW : W) : (((bh_I M 40 1 0) = k) → ((¬ k = 0) → W) ∧ (¬ (¬ k = 0) → (((Op.cmpValue (FP.dcmp (bh_D M 26 1 0) r) .l) = 0) → W) ∧ (¬ ((Op.cmpValue (FP.dcmp (bh_D M 26 1 0) r) .l) = 0) → (((Op.cmpValue (FP.dcmp (bh_D M 26 1 0) (bh_D M 26 1 0)) .l) = 0) → Y) ∧ (¬ ((Op.cmpValue (FP.dcmp (bh_D M 26 1 0) (bh_D M 26 1 0)) .l) = 0) → ((¬ (Op.cmpValue (FP.dcmp r r) .l) = 0) → W) ∧ (¬ (¬ (Op.cmpValue (FP.dcmp r r) .l) = 0) → Y))))) ∧ (¬ ((bh_I M 40 1 0) = k) → Y) := by
  refine ⟨fun _ => ⟨fun _ => hW, fun h0 => ?_⟩, fun q => absurd ht q⟩
  rw [hD (Classical.not_not.mp h0)]
  exact ⟨fun _ => hW, fun q => ⟨fun q2 => absurd q2 q, fun _ => ⟨fun _ => hW, fun q3 => absurd q q3⟩⟩⟩
theorem lc_0 {k : Nat} (h : k ≤ 5) (q : nI k = 0) : k = 0 := (bn_inj (b := 0) (by omega) (by decide)).mp q
theorem lc_J {M M' : bh_M} {k : Nat} {v : Int32} (f : fr_P M M') (hJ : k = 0 → bh_J M 25 1 0 = Int32.toInt64 v) (hk : k ≤ 5) : nI k = 0 → bh_J M' 25 1 0 = Int32.toInt64 v :=
  fun q => (congrFun (congrFun (f.1 25 (Or.inl (by decide))).2 1) 0).trans (hJ (lc_0 hk q))
theorem lc_D {M M' : bh_M} {k : Nat} {v : UInt64} (f : fr_P M M') (hJ : k = 0 → bh_D M 26 1 0 = v) (hk : k ≤ 5) : nI k = 0 → bh_D M' 26 1 0 = v :=
  fun q => (congrFun (congrFun (f.2.1 26 (by decide)) 1) 0).trans (hJ (lc_0 hk q))
theorem lt6 {N n : Nat} (hN : N ≤ 3072) (hn : n ≤ 4000) : nI N - 6 < nI n ↔ ¬ n + 6 ≤ N := by
  by_cases h : 6 ≤ N
  · obtain ⟨m, rfl⟩ : ∃ m, N = m + 6 := ⟨N - 6, by omega⟩
    have e : nI (m + 6) - 6 = nI m := by
      rw [show nI (m + 6) = nI m + 6 from (bn_add m 6).symm]
      exact Int32.add_sub_cancel _ _
    rw [e, bn_lt (by omega) (by omega)]
    omega
  · refine ⟨fun _ => by omega, fun _ => ?_⟩
    rw [Int32.lt_iff_toInt_lt, bn_toInt (a := n) (by omega)]
    have h6 : N = 0 ∨ N = 1 ∨ N = 2 ∨ N = 3 ∨ N = 4 ∨ N = 5 := by omega
    have k0 : (nI 0 - 6).toInt = -6 := by decide
    have k1 : (nI 1 - 6).toInt = -5 := by decide
    have k2 : (nI 2 - 6).toInt = -4 := by decide
    have k3 : (nI 3 - 6).toInt = -3 := by decide
    have k4 : (nI 4 - 6).toInt = -2 := by decide
    have k5 : (nI 5 - 6).toInt = -1 := by decide
    rcases h6 with rfl | rfl | rfl | rfl | rfl | rfl <;> omega
theorem lc_install {xs : Nat → Int32} {N n c : Nat} {M : bh_M} {A : sa} {w6 w7 w8 : Option bh_V} (hN : N ≤ 3072) (hn : n + 6 ≤ N) (hc : c ≤ 4800) (h : RC M A) (hm : RM M A) (hw : WA A) (hck : a_ck A < 999) (hK : lk xs N n A c) : bh_wp (bh_tb (T_L_law xs N)) (132, [some (.inr (1, 1)), some (.inr (3, 1)), some (.inr (40, 1)), some (.inr (25, 1)), some (.inr (26, 1)), some (.inl (.int (nI n))), w6, w7, w8], [], M, c) lw_z := by
  refine bw_install_0 n w6 w7 w8 hN (by omega) hn h.2.2.2.2.2.2.2 (ch_install h hm hw hck (xs (n + 1)) (xs (n + 2)) (xs (n + 3)) (xs (n + 4)) (fun M1 h1 hm1 hJ => ?_))
  refine bw_install_1 n w6 w7 w8 _ hN (by omega) hn h1.2.2.2.2.2.2.2 (cr_install hm1 hw hck (xs (n + 1)) (xs (n + 2)) (xs (n + 3)) (xs (n + 4)) (fun M2 hm2 f2 ht => ?_))
  exact bw_install_2 n _ w7 w8 _ hN (by omega) hn (f2.stat h1.2.2.2.2.2.2.2) (lc_end ht (lc_J f2 hJ (Nat.le_trans oc_install (by decide))) (hK M2 _ _ _ _ _ (h1.mv f2) hm2 (wr_install hw (xs (n + 1)) (xs (n + 2)) (xs (n + 3)) (xs (n + 4))).1 (wr_install hw (xs (n + 1)) (xs (n + 2)) (xs (n + 3)) (xs (n + 4))).2 (by omega)))
theorem lc_export {xs : Nat → Int32} {N n c : Nat} {M : bh_M} {A : sa} {w6 w7 w8 : Option bh_V} (hN : N ≤ 3072) (hn : n + 6 ≤ N) (hc : c ≤ 4800) (h : RC M A) (hm : RM M A) (hw : WA A) (hck : a_ck A < 999) (hK : lk xs N n A c) : bh_wp (bh_tb (T_L_law xs N)) (224, [some (.inr (1, 1)), some (.inr (3, 1)), some (.inr (40, 1)), some (.inr (25, 1)), some (.inr (26, 1)), some (.inl (.int (nI n))), w6, w7, w8], [], M, c) lw_z := by
  refine bw_export_0 n w6 w7 w8 hN (by omega) hn h.2.2.2.2.2.2.2 (ch_export h hm hw hck (xs (n + 1)) (xs (n + 2)) (xs (n + 3)) (fun M1 h1 hm1 hJ => ?_))
  refine bw_export_1 n w6 w7 w8 _ hN (by omega) hn h1.2.2.2.2.2.2.2 (cr_export hm1 hw (xs (n + 1)) (xs (n + 2)) (xs (n + 3)) (fun M2 hm2 f2 ht => ?_))
  exact bw_export_2 n _ w7 w8 _ hN (by omega) hn (f2.stat h1.2.2.2.2.2.2.2) (lc_end ht (lc_J f2 hJ (Nat.le_trans oc_export (by decide))) (hK M2 _ _ _ _ _ (h1.mv f2) hm2 (wr_export hw (xs (n + 1)) (xs (n + 2)) (xs (n + 3))).1 (wr_export hw (xs (n + 1)) (xs (n + 2)) (xs (n + 3))).2 (by omega)))
theorem lc_need {xs : Nat → Int32} {N n c : Nat} {M : bh_M} {A : sa} {w6 w7 w8 : Option bh_V} (hN : N ≤ 3072) (hn : n + 6 ≤ N) (hc : c ≤ 4800) (h : RC M A) (hm : RM M A) (hw : WA A) (hck : a_ck A < 999) (hK : lk xs N n A c) : bh_wp (bh_tb (T_L_law xs N)) (304, [some (.inr (1, 1)), some (.inr (3, 1)), some (.inr (40, 1)), some (.inr (25, 1)), some (.inr (26, 1)), some (.inl (.int (nI n))), w6, w7, w8], [], M, c) lw_z := by
  by_cases h5 : xs (n + 5) = 0
  · refine bw_need_0 n w6 w7 w8 hN (by omega) hn h.2.2.2.2.2.2.2 ⟨fun _ => (ch_need h hm hw hck (xs (n + 1)) (xs (n + 2)) (xs (n + 3)) (xs (n + 4)) false (fun M1 h1 hm1 hJ => ?_)), fun q => absurd h5 q⟩
    refine bw_need_1 n w6 w7 w8 _ hN (by omega) hn h1.2.2.2.2.2.2.2 ⟨fun _ => (cr_need hm1  (xs (n + 1)) (xs (n + 2)) (xs (n + 3)) (xs (n + 4)) false (fun M2 hm2 f2 ht => ?_)), fun q => absurd h5 q⟩
    exact bw_need_2 n _ w7 w8 _ hN (by omega) hn (f2.stat h1.2.2.2.2.2.2.2) (lc_end ht (lc_J f2 hJ (Nat.le_trans oc_need (by decide))) (hK M2 _ _ _ _ _ (h1.mv f2) hm2 (wr_need hw (xs (n + 1)) (xs (n + 2)) (xs (n + 3)) (xs (n + 4)) false).1 (wr_need hw (xs (n + 1)) (xs (n + 2)) (xs (n + 3)) (xs (n + 4)) false).2 (by omega)))
  · refine bw_need_0 n w6 w7 w8 hN (by omega) hn h.2.2.2.2.2.2.2 ⟨fun q => absurd q h5, fun _ => (ch_need h hm hw hck (xs (n + 1)) (xs (n + 2)) (xs (n + 3)) (xs (n + 4)) true (fun M1 h1 hm1 hJ => ?_))⟩
    refine bw_need_1 n w6 w7 w8 _ hN (by omega) hn h1.2.2.2.2.2.2.2 ⟨fun q => absurd q h5, fun _ => (cr_need hm1  (xs (n + 1)) (xs (n + 2)) (xs (n + 3)) (xs (n + 4)) true (fun M2 hm2 f2 ht => ?_))⟩
    exact bw_need_2 n _ w7 w8 _ hN (by omega) hn (f2.stat h1.2.2.2.2.2.2.2) (lc_end ht (lc_J f2 hJ (Nat.le_trans oc_need (by decide))) (hK M2 _ _ _ _ _ (h1.mv f2) hm2 (wr_need hw (xs (n + 1)) (xs (n + 2)) (xs (n + 3)) (xs (n + 4)) true).1 (wr_need hw (xs (n + 1)) (xs (n + 2)) (xs (n + 3)) (xs (n + 4)) true).2 (by omega)))
theorem lc_resolve {xs : Nat → Int32} {N n c : Nat} {M : bh_M} {A : sa} {w6 w7 w8 : Option bh_V} (hN : N ≤ 3072) (hn : n + 6 ≤ N) (hc : c ≤ 4800) (h : RC M A) (hm : RM M A) (hw : WA A) (hck : a_ck A < 999) (hK : lk xs N n A c) : bh_wp (bh_tb (T_L_law xs N)) (424, [some (.inr (1, 1)), some (.inr (3, 1)), some (.inr (40, 1)), some (.inr (25, 1)), some (.inr (26, 1)), some (.inl (.int (nI n))), w6, w7, w8], [], M, c) lw_z := by
  refine bw_resolve_0 n w6 w7 w8 hN (by omega) hn h.2.2.2.2.2.2.2 (ch_resolve h hm hw hck (xs (n + 1)) (fun M1 h1 hm1 hJ => ?_))
  refine bw_resolve_1 n w6 w7 w8 _ hN (by omega) hn h1.2.2.2.2.2.2.2 (cr_resolve hm1 hw (xs (n + 1)) (fun M2 hm2 f2 ht => ?_))
  exact bw_resolve_2 n _ w7 w8 _ hN (by omega) hn (f2.stat h1.2.2.2.2.2.2.2) (lc_end ht (lc_J f2 hJ (Nat.le_trans oc_resolve (by decide))) (hK M2 _ _ _ _ _ (h1.mv f2) hm2 (wr_resolve hw (xs (n + 1))).1 (wr_resolve hw (xs (n + 1))).2 (by omega)))
theorem lc_start {xs : Nat → Int32} {N n c : Nat} {M : bh_M} {A : sa} {w6 w7 w8 : Option bh_V} (hN : N ≤ 3072) (hn : n + 6 ≤ N) (hc : c ≤ 4800) (h : RC M A) (hm : RM M A) (hw : WA A) (hck : a_ck A < 999) (hK : lk xs N n A c) : bh_wp (bh_tb (T_L_law xs N)) (480, [some (.inr (1, 1)), some (.inr (3, 1)), some (.inr (40, 1)), some (.inr (25, 1)), some (.inr (26, 1)), some (.inl (.int (nI n))), w6, w7, w8], [], M, c) lw_z := by
  refine bw_start_0 n w6 w7 w8 hN (by omega) hn h.2.2.2.2.2.2.2 (ch_start h hm hw hck (xs (n + 1)) (fun M1 h1 hm1 hJ => ?_))
  refine bw_start_1 n w6 w7 w8 _ hN (by omega) hn h1.2.2.2.2.2.2.2 (cr_start hm1 hw (xs (n + 1)) (fun M2 hm2 f2 ht => ?_))
  exact bw_start_2 n _ w7 w8 _ hN (by omega) hn (f2.stat h1.2.2.2.2.2.2.2) (lc_end ht (lc_J f2 hJ (Nat.le_trans oc_start (by decide))) (hK M2 _ _ _ _ _ (h1.mv f2) hm2 (wr_start hw (xs (n + 1))).1 (wr_start hw (xs (n + 1))).2 (by omega)))
theorem lc_stop {xs : Nat → Int32} {N n c : Nat} {M : bh_M} {A : sa} {w6 w7 w8 : Option bh_V} (hN : N ≤ 3072) (hn : n + 6 ≤ N) (hc : c ≤ 4800) (h : RC M A) (hm : RM M A) (hw : WA A) (hck : a_ck A < 999) (hK : lk xs N n A c) : bh_wp (bh_tb (T_L_law xs N)) (536, [some (.inr (1, 1)), some (.inr (3, 1)), some (.inr (40, 1)), some (.inr (25, 1)), some (.inr (26, 1)), some (.inl (.int (nI n))), w6, w7, w8], [], M, c) lw_z := by
  refine bw_stop_0 n w6 w7 w8 hN (by omega) hn h.2.2.2.2.2.2.2 (ch_stop h hm hw hck (xs (n + 1)) (fun M1 h1 hm1 hJ => ?_))
  refine bw_stop_1 n w6 w7 w8 _ hN (by omega) hn h1.2.2.2.2.2.2.2 (cr_stop hm1 hw (xs (n + 1)) (fun M2 hm2 f2 ht => ?_))
  exact bw_stop_2 n _ w7 w8 _ hN (by omega) hn (f2.stat h1.2.2.2.2.2.2.2) (lc_end ht (lc_J f2 hJ (Nat.le_trans oc_stop (by decide))) (hK M2 _ _ _ _ _ (h1.mv f2) hm2 (wr_stop hw (xs (n + 1))).1 (wr_stop hw (xs (n + 1))).2 (by omega)))
theorem lc_level {xs : Nat → Int32} {N n c : Nat} {M : bh_M} {A : sa} {w6 w7 w8 : Option bh_V} (hN : N ≤ 3072) (hn : n + 6 ≤ N) (hc : c ≤ 4800) (h : RC M A) (hm : RM M A) (hw : WA A) (hck : a_ck A < 999) (hK : lk xs N n A c) : bh_wp (bh_tb (T_L_law xs N)) (592, [some (.inr (1, 1)), some (.inr (3, 1)), some (.inr (40, 1)), some (.inr (25, 1)), some (.inr (26, 1)), some (.inl (.int (nI n))), w6, w7, w8], [], M, c) lw_z := by
  refine bw_level_0 n w6 w7 w8 hN (by omega) hn h.2.2.2.2.2.2.2 (ch_level h hm hw hck (xs (n + 1)) (fun M1 h1 hm1 hJ => ?_))
  refine bw_level_1 n w6 w7 w8 _ hN (by omega) hn h1.2.2.2.2.2.2.2 (cr_level hm1 hw (xs (n + 1)) (fun M2 hm2 f2 ht => ?_))
  exact bw_level_2 n _ w7 w8 _ hN (by omega) hn (f2.stat h1.2.2.2.2.2.2.2) (lc_end ht (lc_J f2 hJ (Nat.le_trans oc_level (by decide))) (hK M2 _ _ _ _ _ (h1.mv f2) hm2 (wr_level hw (xs (n + 1))).1 (wr_level hw (xs (n + 1))).2 (by omega)))
theorem lc_uninstall {xs : Nat → Int32} {N n c : Nat} {M : bh_M} {A : sa} {w6 w7 w8 : Option bh_V} (hN : N ≤ 3072) (hn : n + 6 ≤ N) (hc : c ≤ 4800) (h : RC M A) (hm : RM M A) (hw : WA A) (hck : a_ck A < 999) (hK : lk xs N n A c) : bh_wp (bh_tb (T_L_law xs N)) (648, [some (.inr (1, 1)), some (.inr (3, 1)), some (.inr (40, 1)), some (.inr (25, 1)), some (.inr (26, 1)), some (.inl (.int (nI n))), w6, w7, w8], [], M, c) lw_z := by
  refine bw_uninstall_0 n w6 w7 w8 hN (by omega) hn h.2.2.2.2.2.2.2 (ch_uninstall h hm hw hck (xs (n + 1)) (fun M1 h1 hm1 hJ => ?_))
  refine bw_uninstall_1 n w6 w7 w8 _ hN (by omega) hn h1.2.2.2.2.2.2.2 (cr_uninstall hm1 hw hck (xs (n + 1)) (fun M2 hm2 f2 ht => ?_))
  exact bw_uninstall_2 n _ w7 w8 _ hN (by omega) hn (f2.stat h1.2.2.2.2.2.2.2) (lc_end ht (lc_J f2 hJ (Nat.le_trans oc_uninstall (by decide))) (hK M2 _ _ _ _ _ (h1.mv f2) hm2 (wr_uninstall hw (xs (n + 1))).1 (wr_uninstall hw (xs (n + 1))).2 (by omega)))
theorem lc_update {xs : Nat → Int32} {N n c : Nat} {M : bh_M} {A : sa} {w6 w7 w8 : Option bh_V} (hN : N ≤ 3072) (hn : n + 6 ≤ N) (hc : c ≤ 4800) (h : RC M A) (hm : RM M A) (hw : WA A) (hck : a_ck A < 999) (hK : lk xs N n A c) : bh_wp (bh_tb (T_L_law xs N)) (704, [some (.inr (1, 1)), some (.inr (3, 1)), some (.inr (40, 1)), some (.inr (25, 1)), some (.inr (26, 1)), some (.inl (.int (nI n))), w6, w7, w8], [], M, c) lw_z := by
  refine bw_update_0 n w6 w7 w8 hN (by omega) hn h.2.2.2.2.2.2.2 (ch_update h hm hw hck (xs (n + 1)) (fun M1 h1 hm1 hJ => ?_))
  refine bw_update_1 n w6 w7 w8 _ hN (by omega) hn h1.2.2.2.2.2.2.2 (cr_update hm1 hw hck (xs (n + 1)) (fun M2 hm2 f2 ht => ?_))
  exact bw_update_2 n _ w7 w8 _ hN (by omega) hn (f2.stat h1.2.2.2.2.2.2.2) (lc_end ht (lc_J f2 hJ (Nat.le_trans oc_update (by decide))) (hK M2 _ _ _ _ _ (h1.mv f2) hm2 (wr_update hw (xs (n + 1))).1 (wr_update hw (xs (n + 1))).2 (by omega)))
theorem lc_register {xs : Nat → Int32} {N n c : Nat} {M : bh_M} {A : sa} {w6 w7 w8 : Option bh_V} (hN : N ≤ 3072) (hn : n + 6 ≤ N) (hc : c ≤ 4800) (h : RC M A) (hm : RM M A) (hw : WA A) (hck : a_ck A < 999) (hK : lk xs N n A c) : bh_wp (bh_tb (T_L_law xs N)) (773, [some (.inr (1, 1)), some (.inr (3, 1)), some (.inr (40, 1)), some (.inr (25, 1)), some (.inr (26, 1)), some (.inl (.int (nI n))), w6, w7, w8], [], M, c) lw_z := by
  refine bw_register_0 n w6 w7 w8 hN (by omega) hn h.2.2.2.2.2.2.2 ⟨fp_mul _, (ch_register h hm hw hck (xs (n + 1)) (xs (n + 2)) (FP.dmul (FP.i2d (xs (n + 3))) 4593671619917905920) (fun M1 h1 hm1 hJ => ?_))⟩
  refine bw_register_1 n w6 w7 w8 _ hN (by omega) hn h1.2.2.2.2.2.2.2 ⟨fp_mul _, (cr_register hm1 hw (xs (n + 1)) (xs (n + 2)) (FP.dmul (FP.i2d (xs (n + 3))) 4593671619917905920) (fun M2 hm2 f2 ht => ?_))⟩
  exact bw_register_2 n _ w7 w8 _ hN (by omega) hn (f2.stat h1.2.2.2.2.2.2.2) (lc_end ht (lc_J f2 hJ (Nat.le_trans oc_register (by decide))) (hK M2 _ _ _ _ _ (h1.mv f2) hm2 (wr_register hw (xs (n + 1)) (xs (n + 2)) (FP.dmul (FP.i2d (xs (n + 3))) 4593671619917905920)).1 (wr_register hw (xs (n + 1)) (xs (n + 2)) (FP.dmul (FP.i2d (xs (n + 3))) 4593671619917905920)).2 (by omega)))
theorem lc_get {xs : Nat → Int32} {N n c : Nat} {M : bh_M} {A : sa} {w6 w7 w8 : Option bh_V} (hN : N ≤ 3072) (hn : n + 6 ≤ N) (hc : c ≤ 4800) (h : RC M A) (hm : RM M A) (hw : WA A) (hck : a_ck A < 999) (hK : lk xs N n A c) : bh_wp (bh_tb (T_L_law xs N)) (863, [some (.inr (1, 1)), some (.inr (3, 1)), some (.inr (40, 1)), some (.inr (25, 1)), some (.inr (26, 1)), some (.inl (.int (nI n))), w6, w7, w8], [], M, c) lw_z := by
  refine bw_get_0 n w6 w7 w8 hN (by omega) hn h.2.2.2.2.2.2.2 (ch_get h hm hw hck (xs (n + 1)) (xs (n + 2)) (fun M1 h1 hm1 hJ => ?_))
  refine bw_get_1 n w6 w7 w8 _ hN (by omega) hn h1.2.2.2.2.2.2.2 (cr_get hm1 hw (xs (n + 1)) (xs (n + 2)) (fun M2 hm2 f2 ht => ?_))
  exact bw_get_2 n _ w7 w8 _ hN (by omega) hn (f2.stat h1.2.2.2.2.2.2.2) (lc_end ht (lc_J f2 hJ (Nat.le_trans oc_get (by decide))) (hK M2 _ _ _ _ _ (h1.mv f2) hm2 (wr_get hw (xs (n + 1)) (xs (n + 2))).1 (wr_get hw (xs (n + 1)) (xs (n + 2))).2 (by omega)))
theorem lc_giveBack {xs : Nat → Int32} {N n c : Nat} {M : bh_M} {A : sa} {w6 w7 w8 : Option bh_V} (hN : N ≤ 3072) (hn : n + 6 ≤ N) (hc : c ≤ 4800) (h : RC M A) (hm : RM M A) (hw : WA A) (hck : a_ck A < 999) (hK : lk xs N n A c) : bh_wp (bh_tb (T_L_law xs N)) (931, [some (.inr (1, 1)), some (.inr (3, 1)), some (.inr (40, 1)), some (.inr (25, 1)), some (.inr (26, 1)), some (.inl (.int (nI n))), w6, w7, w8], [], M, c) lw_z := by
  refine bw_giveBack_0 n w6 w7 w8 hN (by omega) hn h.2.2.2.2.2.2.2 (ch_giveBack h hm hw hck (xs (n + 1)) (xs (n + 2)) (fun M1 h1 hm1 hJ => ?_))
  refine bw_giveBack_1 n w6 w7 w8 _ hN (by omega) hn h1.2.2.2.2.2.2.2 (cr_giveBack hm1 hw (xs (n + 1)) (xs (n + 2)) (fun M2 hm2 f2 ht => ?_))
  exact bw_giveBack_2 n _ w7 w8 _ hN (by omega) hn (f2.stat h1.2.2.2.2.2.2.2) (lc_end ht (lc_J f2 hJ (Nat.le_trans oc_giveBack (by decide))) (hK M2 _ _ _ _ _ (h1.mv f2) hm2 (wr_giveBack hw (xs (n + 1)) (xs (n + 2))).1 (wr_giveBack hw (xs (n + 1)) (xs (n + 2))).2 (by omega)))
theorem lc_unregister {xs : Nat → Int32} {N n c : Nat} {M : bh_M} {A : sa} {w6 w7 w8 : Option bh_V} (hN : N ≤ 3072) (hn : n + 6 ≤ N) (hc : c ≤ 4800) (h : RC M A) (hm : RM M A) (hw : WA A) (hck : a_ck A < 999) (hK : lk xs N n A c) : bh_wp (bh_tb (T_L_law xs N)) (999, [some (.inr (1, 1)), some (.inr (3, 1)), some (.inr (40, 1)), some (.inr (25, 1)), some (.inr (26, 1)), some (.inl (.int (nI n))), w6, w7, w8], [], M, c) lw_z := by
  refine bw_unregister_0 n w6 w7 w8 hN (by omega) hn h.2.2.2.2.2.2.2 (ch_unregister h hm hw hck (xs (n + 1)) (xs (n + 2)) (fun M1 h1 hm1 hJ => ?_))
  refine bw_unregister_1 n w6 w7 w8 _ hN (by omega) hn h1.2.2.2.2.2.2.2 (cr_unregister hm1 hw (xs (n + 1)) (xs (n + 2)) (fun M2 hm2 f2 ht => ?_))
  exact bw_unregister_2 n _ w7 w8 _ hN (by omega) hn (f2.stat h1.2.2.2.2.2.2.2) (lc_end ht (lc_J f2 hJ (Nat.le_trans oc_unregister (by decide))) (hK M2 _ _ _ _ _ (h1.mv f2) hm2 (wr_unregister hw (xs (n + 1)) (xs (n + 2))).1 (wr_unregister hw (xs (n + 1)) (xs (n + 2))).2 (by omega)))
theorem lc_event {xs : Nat → Int32} {N n c : Nat} {M : bh_M} {A : sa} {w6 w7 w8 : Option bh_V} (hN : N ≤ 3072) (hn : n + 6 ≤ N) (hc : c ≤ 4800) (h : RC M A) (hm : RM M A) (hw : WA A) (hck : a_ck A < 999) (hK : lk xs N n A c) : bh_wp (bh_tb (T_L_law xs N)) (1144, [some (.inr (1, 1)), some (.inr (3, 1)), some (.inr (40, 1)), some (.inr (25, 1)), some (.inr (26, 1)), some (.inl (.int (nI n))), w6, w7, w8], [], M, c) lw_z := by
  refine bw_event_0 n w6 w7 w8 hN (by omega) hn h.2.2.2.2.2.2.2 (ch_event h hm hw hck  (fun M1 h1 hm1 hJ => ?_))
  refine bw_event_1 n w6 w7 w8 _ hN (by omega) hn h1.2.2.2.2.2.2.2 (cr_event hm1 hw  (fun M2 hm2 f2 ht => ?_))
  exact bw_event_2 n _ w7 w8 _ hN (by omega) hn (f2.stat h1.2.2.2.2.2.2.2) (lc_end ht (lc_J f2 hJ (Nat.le_trans oc_event (by decide))) (hK M2 _ _ _ _ _ (h1.mv f2) hm2 (wr_event hw ).1 (wr_event hw ).2 (by omega)))
theorem lc_about {xs : Nat → Int32} {N n c : Nat} {M : bh_M} {A : sa} {w6 w7 w8 : Option bh_V} (hN : N ≤ 3072) (hn : n + 6 ≤ N) (hc : c ≤ 4800) (h : RC M A) (hm : RM M A) (hw : WA A) (hck : a_ck A < 999) (hK : lk xs N n A c) : bh_wp (bh_tb (T_L_law xs N)) (1188, [some (.inr (1, 1)), some (.inr (3, 1)), some (.inr (40, 1)), some (.inr (25, 1)), some (.inr (26, 1)), some (.inl (.int (nI n))), w6, w7, w8], [], M, c) lw_z := by
  refine bw_about_0 n w6 w7 w8 hN (by omega) hn h.2.2.2.2.2.2.2 (ch_about h hm hw hck (xs (n + 1)) (xs (n + 2)) (fun M1 h1 hm1 hJ => ?_))
  refine bw_about_1 n w6 w7 w8 _ hN (by omega) hn h1.2.2.2.2.2.2.2 (cr_about hm1 hw (xs (n + 1)) (xs (n + 2)) (fun M2 hm2 f2 ht => ?_))
  exact bw_about_2 n _ w7 w8 _ hN (by omega) hn (f2.stat h1.2.2.2.2.2.2.2) (lc_end ht (lc_J f2 hJ (Nat.le_trans oc_about (by decide))) (hK M2 _ _ _ _ _ (h1.mv f2) hm2 (wr_about hw (xs (n + 1)) (xs (n + 2))).1 (wr_about hw (xs (n + 1)) (xs (n + 2))).2 (by omega)))
theorem lc_count {xs : Nat → Int32} {N n c : Nat} {M : bh_M} {A : sa} {w6 w7 w8 : Option bh_V} (hN : N ≤ 3072) (hn : n + 6 ≤ N) (hc : c ≤ 4800) (h : RC M A) (hm : RM M A) (hw : WA A) (hck : a_ck A < 999) (hK : lk xs N n A c) : bh_wp (bh_tb (T_L_law xs N)) (1256, [some (.inr (1, 1)), some (.inr (3, 1)), some (.inr (40, 1)), some (.inr (25, 1)), some (.inr (26, 1)), some (.inl (.int (nI n))), w6, w7, w8], [], M, c) lw_z := by
  refine bw_count_0 n w6 w7 w8 hN (by omega) hn h.2.2.2.2.2.2.2 (ch_count h hm hw hck (xs (n + 1)) (fun M1 h1 hm1 hJ => ?_))
  refine bw_count_1 n w6 w7 w8 _ hN (by omega) hn h1.2.2.2.2.2.2.2 (cr_count hm1  (xs (n + 1)) (fun M2 hm2 f2 ht => ?_))
  exact bw_count_2 n _ w7 w8 _ hN (by omega) hn (f2.stat h1.2.2.2.2.2.2.2) (lc_end ht (lc_J f2 hJ (Nat.le_trans oc_count (by decide))) (hK M2 _ _ _ _ _ (h1.mv f2) hm2 (wr_count hw (xs (n + 1))).1 (wr_count hw (xs (n + 1))).2 (by omega)))
theorem lc_refresh {xs : Nat → Int32} {N n c : Nat} {M : bh_M} {A : sa} {w6 w7 w8 : Option bh_V} (hN : N ≤ 3072) (hn : n + 6 ≤ N) (hc : c ≤ 4800) (h : RC M A) (hm : RM M A) (hw : WA A) (hck : a_ck A < 999) (hK : lk xs N n A c) : bh_wp (bh_tb (T_L_law xs N)) (760, [some (.inr (1, 1)), some (.inr (3, 1)), some (.inr (40, 1)), some (.inr (25, 1)), some (.inr (26, 1)), some (.inl (.int (nI n))), w6, w7, w8], [], M, c) lw_z := by
  refine bw_refresh_0 n w6 w7 w8 hN (by omega) hn h.2.2.2.2.2.2.2 (cc_refresh h hw (fun M1 h1 f1 => ?_))
  refine bw_refresh_1 n w6 w7 w8 _ hN (by omega) hn h1.2.2.2.2.2.2.2 (cr_refresh (hm.mv f1) hw (fun M2 hm2 f2 ht => ?_))
  exact bw_refresh_2 n w6 w7 w8 _ _ hN (by omega) hn (f2.stat h1.2.2.2.2.2.2.2) ⟨fun _ => hK M2 _ _ _ _ _ (h1.mv f2) hm2 (wr_refresh hw).1 (wr_refresh hw).2 (by omega), fun q => absurd rfl q⟩
theorem lc_rank {xs : Nat → Int32} {N n c : Nat} {M : bh_M} {A : sa} {w6 w7 w8 : Option bh_V} (hN : N ≤ 3072) (hn : n + 6 ≤ N) (hc : c ≤ 4800) (h : RC M A) (hm : RM M A) (hw : WA A) (hck : a_ck A < 999) (hK : lk xs N n A c) : bh_wp (bh_tb (T_L_law xs N)) (1067, [some (.inr (1, 1)), some (.inr (3, 1)), some (.inr (40, 1)), some (.inr (25, 1)), some (.inr (26, 1)), some (.inl (.int (nI n))), w6, w7, w8], [], M, c) lw_z := by
  refine bw_rank_0 n w6 w7 w8 hN (by omega) hn h.2.2.2.2.2.2.2 (ch_rank h hm hw (xs (n + 1)) (fun M1 h1 hm1 hD => ?_))
  refine bw_rank_1 n w6 w7 w8 _ hN (by omega) hn h1.2.2.2.2.2.2.2 (cr_rank hm1 hw (xs (n + 1)) (fun M2 hm2 f2 ht => ?_))
  exact bw_rank_2 n _ w7 w8 _ hN (by omega) hn (f2.stat h1.2.2.2.2.2.2.2) (lc_endD ht (lc_D f2 hD (Nat.le_trans oc_rank (by decide))) (hK M2 _ _ _ _ _ (h1.mv f2) hm2 hw (Nat.le_succ _) (by omega)))
theorem law_loop {xs : Nat → Int32} {N : Nat} (hN : N ≤ 3072) : ∀ (f n : Nat) (M : bh_M) (A : sa) (c : Nat) (w6 w7 w8 : Option bh_V), N ≤ n + 6 * f → n ≤ N + 6 → RC M A → RM M A → WA A → 6 * a_ck A ≤ n → 6 * c ≤ 3600 + 7 * n → bh_wp (bh_tb (T_L_law xs N)) (28, [some (.inr (1, 1)), some (.inr (3, 1)), some (.inr (40, 1)), some (.inr (25, 1)), some (.inr (26, 1)), some (.inl (.int (nI n))), w6, w7, w8], [], M, c) lw_z
  | 0, n, M, A, c, w6, w7, w8, hf, hb, h, hm, hw, hck, hc => bw_28 n w6 w7 w8 hN (by omega) h.2.2.2.2.2.2.2 ⟨fun _ => rfl, fun q => absurd ((lt6 hN (by omega)).mpr (by omega)) q⟩
  | f + 1, n, M, A, c, w6, w7, w8, hf, hb, h, hm, hw, hck, hc => by
    refine bw_28 n w6 w7 w8 hN (by omega) h.2.2.2.2.2.2.2 ⟨fun _ => rfl, fun q => ?_⟩
    have hn : n + 6 ≤ N := Classical.byContradiction (fun e => q ((lt6 hN (by omega)).mpr e))
    have hK : lk xs N n A c := fun M' A' c' v6 v7 v8 g1 g2 g3 g4 g5 => bw_1312 n v6 v7 v8 hN (by omega) g1.2.2.2.2.2.2.2 (law_loop hN f (n + 6) M' A' c' v6 v7 v8 (by omega) (by omega) g1 g2 g3 (by omega) (by omega))
    exact bw_38 n w6 w7 w8 hN (by omega) hn h.2.2.2.2.2.2.2 ⟨fun _ => lc_install hN hn (by omega) h hm hw (by omega) hK, fun _ => lc_export hN hn (by omega) h hm hw (by omega) hK, fun _ => lc_need hN hn (by omega) h hm hw (by omega) hK, fun _ => lc_resolve hN hn (by omega) h hm hw (by omega) hK, fun _ => lc_start hN hn (by omega) h hm hw (by omega) hK, fun _ => lc_stop hN hn (by omega) h hm hw (by omega) hK, fun _ => lc_level hN hn (by omega) h hm hw (by omega) hK, fun _ => lc_uninstall hN hn (by omega) h hm hw (by omega) hK, fun _ => lc_update hN hn (by omega) h hm hw (by omega) hK, fun _ => lc_refresh hN hn (by omega) h hm hw (by omega) hK, fun _ => lc_register hN hn (by omega) h hm hw (by omega) hK, fun _ => lc_get hN hn (by omega) h hm hw (by omega) hK, fun _ => lc_giveBack hN hn (by omega) h hm hw (by omega) hK, fun _ => lc_unregister hN hn (by omega) h hm hw (by omega) hK, fun _ => lc_rank hN hn (by omega) h hm hw (by omega) hK, fun _ => lc_event hN hn (by omega) h hm hw (by omega) hK, fun _ => lc_about hN hn (by omega) h hm hw (by omega) hK, fun _ => lc_count hN hn (by omega) h hm hw (by omega) hK, fun _ => hK M A c w6 w7 w8 h hm hw (Nat.le_succ _) (by omega)⟩
