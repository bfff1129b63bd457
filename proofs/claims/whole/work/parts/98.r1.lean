/-! THE CONSTRUCTORS. Beyond the counts all is blank: then a new object changes only a count -/
def bm_c (M : bh_M) (t y : Nat) : bh_M := (M.1, M.2.1, M.2.2.1, M.2.2.2.1, fun a => if a = t then y else M.2.2.2.2 a)
theorem bh_C_c (M : bh_M) (t y a : Nat) : bh_C (bm_c M t y) a = if a = t then y else bh_C M a := rfl
def bz (M : bh_M) : Prop := ∀ t x c, bh_C M t < x → bh_I M t x c = 0 ∧ bh_J M t x c = 0 ∧ bh_D M t x c = 0 ∧ bh_R M t x c = 0
theorem bz_nw {M : bh_M} {t y : Nat} (h : bz M) (e : bh_C M t + 1 = y) : bh_nw M t = bm_c M t y := by
  subst e
  refine Prod.ext ?_ (Prod.ext ?_ (Prod.ext ?_ (Prod.ext ?_ rfl)))
  · funext a b c
    show (if a = t ∧ b = bh_C M t + 1 then 0 else bh_I M a b c) = bh_I M a b c
    by_cases q : a = t ∧ b = bh_C M t + 1
    · rw [if_pos q, q.1, q.2]
      exact (h t _ c (Nat.lt_succ_self _)).1.symm
    · rw [if_neg q]
  · funext a b c
    show (if a = t ∧ b = bh_C M t + 1 then 0 else bh_J M a b c) = bh_J M a b c
    by_cases q : a = t ∧ b = bh_C M t + 1
    · rw [if_pos q, q.1, q.2]
      exact (h t _ c (Nat.lt_succ_self _)).2.1.symm
    · rw [if_neg q]
  · funext a b c
    show (if a = t ∧ b = bh_C M t + 1 then 0 else bh_D M a b c) = bh_D M a b c
    by_cases q : a = t ∧ b = bh_C M t + 1
    · rw [if_pos q, q.1, q.2]
      exact (h t _ c (Nat.lt_succ_self _)).2.2.1.symm
    · rw [if_neg q]
  · funext a b c
    show (if a = t ∧ b = bh_C M t + 1 then 0 else bh_R M a b c) = bh_R M a b c
    by_cases q : a = t ∧ b = bh_C M t + 1
    · rw [if_pos q, q.1, q.2]
      exact (h t _ c (Nat.lt_succ_self _)).2.2.2.symm
    · rw [if_neg q]
theorem bz_c {M : bh_M} {t y : Nat} (h : bz M) (e : bh_C M t ≤ y) : bz (bm_c M t y) := by
  intro a x c hx
  refine h a x c ?_
  rw [bh_C_c] at hx
  by_cases q : a = t
  · rw [if_pos q] at hx
    rw [q]
    omega
  · rw [if_neg q] at hx
    exact hx
theorem bz_sI {M : bh_M} {t x j : Nat} {v : Int32} (h : bz M) (e : x ≤ bh_C M t) : bz (bh_sI M t x j v) := by
  intro a y c hy
  have hy' : bh_C M a < y := hy
  have k := h a y c hy'
  refine ⟨?_, k.2.1, k.2.2.1, k.2.2.2⟩
  rw [bh_I_sI, if_neg (fun q => by rw [q.1, q.2.1] at hy'; omega)]
  exact k.1
theorem bz_sJ {M : bh_M} {t x j : Nat} {v : Int64} (h : bz M) (e : x ≤ bh_C M t) : bz (bh_sJ M t x j v) := by
  intro a y c hy
  have hy' : bh_C M a < y := hy
  have k := h a y c hy'
  refine ⟨k.1, ?_, k.2.2.1, k.2.2.2⟩
  rw [bh_J_sJ, if_neg (fun q => by rw [q.1, q.2.1] at hy'; omega)]
  exact k.2.1
theorem bz_sR {M : bh_M} {t x j v : Nat} (h : bz M) (e : x ≤ bh_C M t) : bz (bh_sR M t x j v) := by
  intro a y c hy
  have hy' : bh_C M a < y := hy
  have k := h a y c hy'
  refine ⟨k.1, k.2.1, k.2.2.1, ?_⟩
  rw [bh_R_sR, if_neg (fun q => by rw [q.1, q.2.1] at hy'; omega)]
  exact k.2.2.2
theorem bz_fill {M : bh_M} {t x n : Nat} {v : Int32} (h : bz M) (e : x ≤ bh_C M t) : bz (bm_fill M t x n v) := by
  intro a y c hy
  have hy' : bh_C M a < y := hy
  have k := h a y c hy'
  refine ⟨?_, k.2.1, k.2.2.1, k.2.2.2⟩
  rw [bh_I_fill, if_neg (fun q => by rw [q.1, q.2.1] at hy'; omega)]
  exact k.1
def bq (M : bh_M) (L : List (Option bh_V)) : Prop := ∀ v, some v ∈ L → bh_ok M v
theorem bq_mono {M M' : bh_M} {L : List (Option bh_V)} (h : bq M L) (e : ∀ a, bh_C M a ≤ bh_C M' a) : bq M' L := by
  intro v hv
  have k := h v hv
  cases v with
  | inl v => trivial
  | inr q => exact Nat.le_trans k (e q.1)
/-- the arrays of an object, one behind the other -/
def gs (t x : Nat) : List (Nat × Nat) → bh_M → bh_M
  | [], M => M
  | q :: r, M => gs t x r (bh_sR (bm_c M q.1 x) t x q.2 x)
theorem C_gs {t x : Nat} : ∀ (l : List (Nat × Nat)) (M : bh_M) (a : Nat), bh_C (gs t x l M) a = if a ∈ l.map Prod.fst then x else bh_C M a
  | [], M, a => (if_neg (by simp)).symm
  | q :: r, M, a => by
    unfold gs
    rw [C_gs r]
    show (if a ∈ r.map Prod.fst then x else if a = q.1 then x else bh_C M a) = _
    by_cases h1 : a ∈ r.map Prod.fst
    · rw [if_pos h1, if_pos (by rw [List.map_cons]; exact List.mem_cons_of_mem _ h1)]
    · rw [if_neg h1]
      by_cases h2 : a = q.1
      · rw [if_pos h2, if_pos (by rw [List.map_cons, h2]; exact List.mem_cons_self)]
      · rw [if_neg h2, if_neg (by rw [List.map_cons]; intro h3; rcases List.mem_cons.mp h3 with h4 | h4; exact h2 h4; exact h1 h4)]
/-- the places of such arrays in a table: where the four steps stand -/
def gOK (T : List (Nat × bh_Op)) (t Cx : Nat) : List (Nat × Nat) → List (Nat × Nat × Nat × Nat × Int32) → Nat → Nat → Prop
  | [], _, p, z => p = z
  | _ :: _, [], _, _ => False
  | q :: r, g :: gr, p, z => bh_tb T p = bo_ald g.1 0 ∧ bh_tb T g.1 = bo_st g.2.1 (bg_push (.inl (.int g.2.2.2.2))) ∧ bh_tb T g.2.1 = bo_newa bh_al g.2.2.1 q.1 Cx ∧ bh_tb T g.2.2.1 = bo_pR g.2.2.2.1 t q.2 q.1 ∧ g.2.2.2.2 = nI (bh_al q.1) ∧ q.1 ≠ t ∧ (∀ w ∈ r, w.1 ≠ q.1) ∧ gOK T t Cx r gr g.2.2.2.1 z
theorem bc_grps {T : List (Nat × bh_Op)} (hT : ∀ pc, bh_mono (bh_tb T pc)) {t x Cx z : Nat} {L : List (Option bh_V)} {Z : bh_F → Prop} (hL : L[0]? = some (some (.inr (t, x)))) (h1 : 1 ≤ x) : ∀ (l : List (Nat × Nat)) (gl : List (Nat × Nat × Nat × Nat × Int32)) (p c : Nat) (M : bh_M), gOK T t Cx l gl p z → bz M → bq M L → x ≤ bh_C M t → (∀ w ∈ l, bh_C M w.1 + 1 = x) → c + l.length ≤ Cx → (bz (gs t x l M) → bq (gs t x l M) L → bh_wp (bh_tb T) (z, L, [], gs t x l M, c + l.length) Z) → bh_wp (bh_tb T) (p, L, [], M, c) Z
  | [], gl, p, c, M, hg, hz, hq, h2, hw, hc, h => by
    have e : p = z := by unfold gOK at hg; exact hg
    rw [e]
    exact h hz hq
  | q :: r, [], p, c, M, hg, hz, hq, h2, hw, hc, h => (by unfold gOK at hg; exact hg : False).elim
  | q :: r, g :: gr, p, c, M, hg, hz, hq, h2, hw, hc, h => by
    unfold gOK at hg
    obtain ⟨e0, e1, e2, e3, e4, e5, e6, e7⟩ := hg
    have hq1 : bh_C M q.1 + 1 = x := hw q List.mem_cons_self
    have hc' : c + 1 + r.length ≤ Cx := by rw [List.length_cons] at hc; omega
    refine bh_here hT e0 (bi_ald hL (bh_here hT e1 (bi_push (bh_here hT e2 ?_))))
    refine ⟨⟨hq, ?_⟩, by show c + 1 ≤ Cx; omega, e4, ?_⟩
    · intro v hv
      rcases List.mem_cons.mp hv with rfl | hv
      · trivial
      · rcases List.mem_cons.mp hv with rfl | hv
        · exact h2
        · exact absurd hv List.not_mem_nil
    · show bh_wp (bh_tb T) (g.2.2.1, L, [.inr (q.1, bh_C M q.1 + 1), .inr (t, x)], bh_nw M q.1, c + 1) Z
      rw [bz_nw hz hq1, hq1]
      have hct : bh_C (bm_c M q.1 x) t = bh_C M t := by rw [bh_C_c, if_neg (fun w => e5 w.symm)]
      have hle : ∀ a, bh_C M a ≤ bh_C (bh_sR (bm_c M q.1 x) t x q.2 x) a := by
        intro a
        show bh_C M a ≤ if a = q.1 then x else bh_C M a
        by_cases w : a = q.1
        · rw [if_pos w, w]; omega
        · rw [if_neg w]; exact Nat.le_refl _
      refine bh_here hT e3 ⟨rfl, h1, ?_, rfl, h1, ?_, ?_⟩
      · show x ≤ bh_C (bm_c M q.1 x) t
        rw [hct]; exact h2
      · show x ≤ bh_C (bm_c M q.1 x) q.1
        rw [bh_C_c, if_pos rfl]; exact Nat.le_refl _
      · refine bc_grps hT hL h1 r gr g.2.2.2.1 (c + 1) (bh_sR (bm_c M q.1 x) t x q.2 x) e7 (bz_sR (bz_c hz (by omega)) (by rw [hct]; exact h2)) (bq_mono hq hle) (Nat.le_trans h2 (hle t)) ?_ hc' ?_
        · intro w hw'
          show (if w.1 = q.1 then x else bh_C M w.1) + 1 = x
          rw [if_neg (e6 w hw')]
          exact hw w (List.mem_cons_of_mem _ hw')
        · intro k1 k2
          have := h k1 k2
          rw [List.length_cons, show c + (r.length + 1) = c + 1 + r.length from by omega] at this
          exact this
theorem bc_pre {T : List (Nat × bh_Op)} (hT : ∀ pc, bh_mono (bh_tb T pc)) {t x c : Nat} {M : bh_M} {L : List (Option bh_V)} {Z : bh_F → Prop} (e0 : bh_tb T 0 = bo_ald 1 0) (e1 : bh_tb T 1 = bo_obj 4) (hL : L[0]? = some (some (.inr (t, x)))) (h1 : 1 ≤ x) (h : bh_wp (bh_tb T) (4, L, [], M, c) Z) : bh_wp (bh_tb T) (0, L, [], M, c) Z :=
  bh_here hT e0 (bi_ald hL (bh_here hT e1 ⟨h1, Nat.zero_le _, h⟩))
/-- Arrays.fill -/
theorem bc_fill {M : bh_M} {Z : bh_F → Prop} {t x : Nat} (n : Nat) (v : Int32) (hk : bh_ak t = 1) (hn : bh_al t = n) (hb : Nat.ble n 2147483647 = true) (h1 : 1 ≤ x) (h2 : x ≤ bh_C M t) (h : Z (.inl none, bm_fill M t x n v)) : F_A_fill [.inr (t, x), .inl (.int v)] M Z := by
  have hbn : n < 2147483648 := Nat.lt_succ_of_le (Nat.le_of_ble_eq_true hb)
  refine bi_fn rfl [some (.inr (t, x)), some (.inl (.int v)), none, none] rfl ?_
  refine bh_here m_A_fill l_A_fill_0 (bi_push (bh_here m_A_fill l_A_fill_1 (bi_ist [some (.inr (t, x)), some (.inl (.int v)), some (.inl (.int 0)), none] rfl rfl rfl (bh_here m_A_fill l_A_fill_2 (bi_ald rfl (bh_here m_A_fill l_A_fill_3 ⟨?_, h1, h2, ?_⟩))))))
  · rw [hk]; exact Nat.le_refl _
  · show bh_wp (bh_tb T_A_fill) (4, [some (.inr (t, x)), some (.inl (.int v)), some (.inl (.int 0)), none], [.inl (.int (nI (bh_al t)))], M, 0) Z
    rw [hn]
    refine bh_here m_A_fill l_A_fill_4 (bi_ist [some (.inr (t, x)), some (.inl (.int v)), some (.inl (.int 0)), some (.inl (.int (nI n)))] rfl rfl rfl ?_)
    have key := bh_lp (T := bh_tb T_A_fill) (Z := Z) 5 n (fun i => ([some (.inr (t, x)), some (.inl (.int v)), some (.inl (.int (nI i))), some (.inl (.int (nI n)))], [], bm_fill M t x i v, 0)) (fun _ => True) ?_ ?_ trivial
    · rw [bm_fill_0] at key
      exact key
    · intro i hi _ k
      have hi' : i < 2147483648 := Nat.lt_trans hi hbn
      refine bh_here m_A_fill l_A_fill_5 (bi_ild rfl (bh_here m_A_fill l_A_fill_6 (bi_ild rfl (bh_here m_A_fill l_A_fill_7 (bi_if2n (n ≤ i) (bn_le hbn hi') (fun q => absurd q (by omega)) (fun _ => bh_here m_A_fill l_A_fill_10 (bi_ald rfl (bh_here m_A_fill l_A_fill_11 (bi_ild rfl (bh_here m_A_fill l_A_fill_12 (bi_ild rfl (bh_here m_A_fill l_A_fill_13 ⟨hk, h1, h2, ?_, ?_⟩))))))))))))
      · rw [hn]
        exact bn_in hi (Nat.ble_eq.mpr (by omega))
      · rw [bn_clamp hi (Nat.ble_eq.mpr (by omega)), bm_fill_s]
        exact bh_here m_A_fill l_A_fill_14 (bi_incn [some (.inr (t, x)), some (.inl (.int v)), some (.inl (.int (nI (i + 1)))), some (.inl (.int (nI n)))] rfl rfl rfl rfl (bh_here m_A_fill l_A_fill_17 (bi_go (k trivial))))
    · intro _
      exact bh_here m_A_fill l_A_fill_5 (bi_ild rfl (bh_here m_A_fill l_A_fill_6 (bi_ild rfl (bh_here m_A_fill l_A_fill_7 (bi_if2n (n ≤ n) (bn_le hbn hbn) (fun _ => bh_here m_A_fill l_A_fill_20 (bi_vret rfl h)) (fun q => absurd (Nat.le_refl n) q))))))
def lF : List (Nat × Nat) := [(8, 0), (9, 1), (10, 2), (11, 3), (12, 4), (13, 5), (14, 6)]
def gF : List (Nat × Nat × Nat × Nat × Int32) := [(5, 7, 9, 12, 8), (13, 15, 17, 20, 8), (21, 23, 25, 28, 8), (29, 30, 32, 35, 3), (36, 37, 39, 42, 3), (43, 44, 46, 49, 3), (50, 51, 53, 56, 3)]
theorem okF : gOK T_F_init 7 7 lF gF 4 56 := And.intro l_F_init_4 (And.intro l_F_init_5 (And.intro l_F_init_7 (And.intro l_F_init_9 (And.intro rfl (And.intro (by decide) (And.intro (by decide) (And.intro l_F_init_12 (And.intro l_F_init_13 (And.intro l_F_init_15 (And.intro l_F_init_17 (And.intro rfl (And.intro (by decide) (And.intro (by decide) (And.intro l_F_init_20 (And.intro l_F_init_21 (And.intro l_F_init_23 (And.intro l_F_init_25 (And.intro rfl (And.intro (by decide) (And.intro (by decide) (And.intro l_F_init_28 (And.intro l_F_init_29 (And.intro l_F_init_30 (And.intro l_F_init_32 (And.intro rfl (And.intro (by decide) (And.intro (by decide) (And.intro l_F_init_35 (And.intro l_F_init_36 (And.intro l_F_init_37 (And.intro l_F_init_39 (And.intro rfl (And.intro (by decide) (And.intro (by decide) (And.intro l_F_init_42 (And.intro l_F_init_43 (And.intro l_F_init_44 (And.intro l_F_init_46 (And.intro rfl (And.intro (by decide) (And.intro (by decide) (And.intro l_F_init_49 (And.intro l_F_init_50 (And.intro l_F_init_51 (And.intro l_F_init_53 (And.intro rfl (And.intro (by decide) (And.intro (by decide) (rfl)))))))))))))))))))))))))))))))))))))))))))))))))
def lB : List (Nat × Nat) := [(6, 2)]
def gB : List (Nat × Nat × Nat × Nat × Int32) := [(26, 27, 29, 32, 3)]
theorem okB : gOK T_B_init 5 9 lB gB 25 32 := And.intro l_B_init_25 (And.intro l_B_init_26 (And.intro l_B_init_27 (And.intro l_B_init_29 (And.intro rfl (And.intro (by decide) (And.intro (by decide) (rfl)))))))
def lR : List (Nat × Nat) := [(16, 0), (17, 1), (18, 2)]
def gR : List (Nat × Nat × Nat × Nat × Int32) := [(5, 7, 9, 12, 24), (13, 15, 17, 20, 24), (21, 23, 25, 28, 8)]
theorem okR : gOK T_R_init 15 3 lR gR 4 28 := And.intro l_R_init_4 (And.intro l_R_init_5 (And.intro l_R_init_7 (And.intro l_R_init_9 (And.intro rfl (And.intro (by decide) (And.intro (by decide) (And.intro l_R_init_12 (And.intro l_R_init_13 (And.intro l_R_init_15 (And.intro l_R_init_17 (And.intro rfl (And.intro (by decide) (And.intro (by decide) (And.intro l_R_init_20 (And.intro l_R_init_21 (And.intro l_R_init_23 (And.intro l_R_init_25 (And.intro rfl (And.intro (by decide) (And.intro (by decide) (rfl)))))))))))))))))))))
def lS : List (Nat × Nat) := [(22, 0)]
def gS : List (Nat × Nat × Nat × Nat × Int32) := [(5, 7, 9, 12, 8)]
theorem okS : gOK T_S_init 21 1 lS gS 4 12 := And.intro l_S_init_4 (And.intro l_S_init_5 (And.intro l_S_init_7 (And.intro l_S_init_9 (And.intro rfl (And.intro (by decide) (And.intro (by decide) (rfl)))))))
def lV : List (Nat × Nat) := [(20, 0)]
def gV : List (Nat × Nat × Nat × Nat × Int32) := [(5, 7, 10, 13, 20)]
theorem okV : gOK T_V_init 19 41 lV gV 4 13 := And.intro l_V_init_4 (And.intro l_V_init_5 (And.intro l_V_init_7 (And.intro l_V_init_10 (And.intro rfl (And.intro (by decide) (And.intro (by decide) (rfl)))))))
def lE : List (Nat × Nat) := [(24, 0)]
def gE : List (Nat × Nat × Nat × Nat × Int32) := [(5, 7, 9, 12, 10)]
theorem okE : gOK T_E_init 23 1 lE gE 4 12 := And.intro l_E_init_4 (And.intro l_E_init_5 (And.intro l_E_init_7 (And.intro l_E_init_9 (And.intro rfl (And.intro (by decide) (And.intro (by decide) (rfl)))))))
def lH : List (Nat × Nat) := [(4, 0)]
def gH : List (Nat × Nat × Nat × Nat × Int32) := [(5, 7, 10, 13, 8)]
theorem okH : gOK T_H_init 3 129 lH gH 4 13 := And.intro l_H_init_4 (And.intro l_H_init_5 (And.intro l_H_init_7 (And.intro l_H_init_10 (And.intro rfl (And.intro (by decide) (And.intro (by decide) (rfl)))))))
def lM : List (Nat × Nat) := [(41, 1), (42, 2), (43, 3), (44, 4), (45, 5), (46, 6), (47, 7), (48, 8), (49, 9), (50, 10), (51, 11), (52, 12), (53, 13), (54, 14), (55, 15), (56, 16), (57, 17), (58, 18), (59, 20), (60, 21), (61, 22), (62, 23), (63, 24), (64, 25), (65, 29), (66, 30), (67, 31), (68, 32), (69, 33), (70, 36)]
def gM : List (Nat × Nat × Nat × Nat × Int32) := [(5, 7, 9, 12, 8), (13, 15, 17, 20, 8), (21, 23, 25, 28, 8), (29, 31, 33, 36, 8), (37, 39, 41, 44, 8), (45, 47, 49, 52, 8), (53, 55, 57, 60, 8), (61, 63, 65, 68, 8), (69, 71, 73, 76, 24), (77, 79, 81, 84, 24), (85, 87, 89, 92, 24), (93, 95, 97, 100, 8), (101, 103, 105, 108, 24), (109, 111, 113, 116, 24), (117, 119, 121, 124, 24), (125, 127, 129, 132, 24), (133, 135, 137, 140, 24), (141, 143, 145, 148, 30), (149, 152, 154, 157, 240), (158, 160, 162, 165, 30), (166, 168, 170, 173, 30), (174, 176, 178, 181, 30), (182, 184, 186, 189, 8), (190, 192, 194, 197, 8), (198, 200, 202, 205, 20), (206, 208, 210, 213, 20), (214, 216, 218, 221, 20), (222, 224, 226, 229, 20), (230, 233, 235, 238, 160), (239, 241, 243, 246, 10)]
theorem okM : gOK T_M_init 40 30 lM gM 4 246 := And.intro l_M_init_4 (And.intro l_M_init_5 (And.intro l_M_init_7 (And.intro l_M_init_9 (And.intro rfl (And.intro (by decide) (And.intro (by decide) (And.intro l_M_init_12 (And.intro l_M_init_13 (And.intro l_M_init_15 (And.intro l_M_init_17 (And.intro rfl (And.intro (by decide) (And.intro (by decide) (And.intro l_M_init_20 (And.intro l_M_init_21 (And.intro l_M_init_23 (And.intro l_M_init_25 (And.intro rfl (And.intro (by decide) (And.intro (by decide) (And.intro l_M_init_28 (And.intro l_M_init_29 (And.intro l_M_init_31 (And.intro l_M_init_33 (And.intro rfl (And.intro (by decide) (And.intro (by decide) (And.intro l_M_init_36 (And.intro l_M_init_37 (And.intro l_M_init_39 (And.intro l_M_init_41 (And.intro rfl (And.intro (by decide) (And.intro (by decide) (And.intro l_M_init_44 (And.intro l_M_init_45 (And.intro l_M_init_47 (And.intro l_M_init_49 (And.intro rfl (And.intro (by decide) (And.intro (by decide) (And.intro l_M_init_52 (And.intro l_M_init_53 (And.intro l_M_init_55 (And.intro l_M_init_57 (And.intro rfl (And.intro (by decide) (And.intro (by decide) (And.intro l_M_init_60 (And.intro l_M_init_61 (And.intro l_M_init_63 (And.intro l_M_init_65 (And.intro rfl (And.intro (by decide) (And.intro (by decide) (And.intro l_M_init_68 (And.intro l_M_init_69 (And.intro l_M_init_71 (And.intro l_M_init_73 (And.intro rfl (And.intro (by decide) (And.intro (by decide) (And.intro l_M_init_76 (And.intro l_M_init_77 (And.intro l_M_init_79 (And.intro l_M_init_81 (And.intro rfl (And.intro (by decide) (And.intro (by decide) (And.intro l_M_init_84 (And.intro l_M_init_85 (And.intro l_M_init_87 (And.intro l_M_init_89 (And.intro rfl (And.intro (by decide) (And.intro (by decide) (And.intro l_M_init_92 (And.intro l_M_init_93 (And.intro l_M_init_95 (And.intro l_M_init_97 (And.intro rfl (And.intro (by decide) (And.intro (by decide) (And.intro l_M_init_100 (And.intro l_M_init_101 (And.intro l_M_init_103 (And.intro l_M_init_105 (And.intro rfl (And.intro (by decide) (And.intro (by decide) (And.intro l_M_init_108 (And.intro l_M_init_109 (And.intro l_M_init_111 (And.intro l_M_init_113 (And.intro rfl (And.intro (by decide) (And.intro (by decide) (And.intro l_M_init_116 (And.intro l_M_init_117 (And.intro l_M_init_119 (And.intro l_M_init_121 (And.intro rfl (And.intro (by decide) (And.intro (by decide) (And.intro l_M_init_124 (And.intro l_M_init_125 (And.intro l_M_init_127 (And.intro l_M_init_129 (And.intro rfl (And.intro (by decide) (And.intro (by decide) (And.intro l_M_init_132 (And.intro l_M_init_133 (And.intro l_M_init_135 (And.intro l_M_init_137 (And.intro rfl (And.intro (by decide) (And.intro (by decide) (And.intro l_M_init_140 (And.intro l_M_init_141 (And.intro l_M_init_143 (And.intro l_M_init_145 (And.intro rfl (And.intro (by decide) (And.intro (by decide) (And.intro l_M_init_148 (And.intro l_M_init_149 (And.intro l_M_init_152 (And.intro l_M_init_154 (And.intro rfl (And.intro (by decide) (And.intro (by decide) (And.intro l_M_init_157 (And.intro l_M_init_158 (And.intro l_M_init_160 (And.intro l_M_init_162 (And.intro rfl (And.intro (by decide) (And.intro (by decide) (And.intro l_M_init_165 (And.intro l_M_init_166 (And.intro l_M_init_168 (And.intro l_M_init_170 (And.intro rfl (And.intro (by decide) (And.intro (by decide) (And.intro l_M_init_173 (And.intro l_M_init_174 (And.intro l_M_init_176 (And.intro l_M_init_178 (And.intro rfl (And.intro (by decide) (And.intro (by decide) (And.intro l_M_init_181 (And.intro l_M_init_182 (And.intro l_M_init_184 (And.intro l_M_init_186 (And.intro rfl (And.intro (by decide) (And.intro (by decide) (And.intro l_M_init_189 (And.intro l_M_init_190 (And.intro l_M_init_192 (And.intro l_M_init_194 (And.intro rfl (And.intro (by decide) (And.intro (by decide) (And.intro l_M_init_197 (And.intro l_M_init_198 (And.intro l_M_init_200 (And.intro l_M_init_202 (And.intro rfl (And.intro (by decide) (And.intro (by decide) (And.intro l_M_init_205 (And.intro l_M_init_206 (And.intro l_M_init_208 (And.intro l_M_init_210 (And.intro rfl (And.intro (by decide) (And.intro (by decide) (And.intro l_M_init_213 (And.intro l_M_init_214 (And.intro l_M_init_216 (And.intro l_M_init_218 (And.intro rfl (And.intro (by decide) (And.intro (by decide) (And.intro l_M_init_221 (And.intro l_M_init_222 (And.intro l_M_init_224 (And.intro l_M_init_226 (And.intro rfl (And.intro (by decide) (And.intro (by decide) (And.intro l_M_init_229 (And.intro l_M_init_230 (And.intro l_M_init_233 (And.intro l_M_init_235 (And.intro rfl (And.intro (by decide) (And.intro (by decide) (And.intro l_M_init_238 (And.intro l_M_init_239 (And.intro l_M_init_241 (And.intro l_M_init_243 (And.intro rfl (And.intro (by decide) (And.intro (by decide) (rfl))))))))))))))))))))))))))))))))))))))))))))))))))))))))))))))))))))))))))))))))))))))))))))))))))))))))))))))))))))))))))))))))))))))))))))))))))))))))))))))))))))))))))))))))))))))))))))))))))))))))))))))))))
theorem R_gs {t x : Nat} : ∀ (l : List (Nat × Nat)) (M : bh_M) (a b c : Nat), bh_R (gs t x l M) a b c = if a = t ∧ b = x ∧ c ∈ l.map Prod.snd then x else bh_R M a b c
  | [], M, a, b, c => (if_neg (by simp)).symm
  | q :: r, M, a, b, c => by
    unfold gs
    rw [R_gs r]
    show (if a = t ∧ b = x ∧ c ∈ r.map Prod.snd then x else if a = t ∧ b = x ∧ c = q.2 then x else bh_R M a b c) = _
    by_cases h1 : a = t ∧ b = x ∧ c ∈ r.map Prod.snd
    · rw [if_pos h1, if_pos ⟨h1.1, h1.2.1, by rw [List.map_cons]; exact List.mem_cons_of_mem _ h1.2.2⟩]
    · rw [if_neg h1]
      by_cases h2 : a = t ∧ b = x ∧ c = q.2
      · rw [if_pos h2, if_pos ⟨h2.1, h2.2.1, by rw [List.map_cons, h2.2.2]; exact List.mem_cons_self⟩]
      · rw [if_neg h2, if_neg (by rw [List.map_cons]; intro h3; rcases List.mem_cons.mp h3.2.2 with h4 | h4; exact h2 ⟨h3.1, h3.2.1, h4⟩; exact h1 ⟨h3.1, h3.2.1, h4⟩)]
theorem bq_nil (M : bh_M) : bq M [] := fun _ h => absurd h List.not_mem_nil
theorem bq_r {M : bh_M} {t x : Nat} {L : List (Option bh_V)} (h : x ≤ bh_C M t) (k : bq M L) : bq M (some (.inr (t, x)) :: L) := by
  intro v hv
  rcases List.mem_cons.mp hv with e | hv
  · rw [Option.some.inj e]; exact h
  · exact k v hv
theorem bq_l {M : bh_M} {w : Value} {L : List (Option bh_V)} (k : bq M L) : bq M (some (.inl w) :: L) := by
  intro v hv
  rcases List.mem_cons.mp hv with e | hv
  · rw [Option.some.inj e]; trivial
  · exact k v hv
theorem bq_n {M : bh_M} {L : List (Option bh_V)} (k : bq M L) : bq M (none :: L) := by
  intro v hv
  rcases List.mem_cons.mp hv with e | hv
  · exact absurd e (by simp)
  · exact k v hv
def bp (M : bh_M) (st : List bh_V) : Prop := ∀ v ∈ st, bh_ok M v
theorem bp_nil (M : bh_M) : bp M [] := fun _ h => absurd h List.not_mem_nil
theorem bp_r {M : bh_M} {t x : Nat} {L : List bh_V} (h : x ≤ bh_C M t) (k : bp M L) : bp M (.inr (t, x) :: L) := by
  intro v hv
  rcases List.mem_cons.mp hv with e | hv
  · rw [e]; exact h
  · exact k v hv
theorem bp_l {M : bh_M} {w : Value} {L : List bh_V} (k : bp M L) : bp M (.inl w :: L) := by
  intro v hv
  rcases List.mem_cons.mp hv with e | hv
  · rw [e]; trivial
  · exact k v hv
/-- new objects, calls -/
theorem bc_new {K : Nat × bh_S → Prop} {Z : bh_F → Prop} {L : List (Option bh_V)} {st : List bh_V} {M : bh_M} {c n t Cx : Nat} (y : Nat) (hz : bz M) (hq : bq M L) (hp : bp M st) (hc : c + 1 ≤ Cx) (e : bh_C M t + 1 = y) (h : bz (bm_c M t y) → K (n, L, .inr (t, y) :: st, bm_c M t y, c + 1)) : bo_new n t Cx (L, st, M, c) K Z := by
  refine ⟨⟨hq, hp⟩, hc, ?_⟩
  show K (n, L, .inr (t, bh_C M t + 1) :: st, bh_nw M t, c + 1)
  rw [bz_nw hz e, e]
  exact h (bz_c hz (by omega))
theorem bc_newa {K : Nat × bh_S → Prop} {Z : bh_F → Prop} {L : List (Option bh_V)} {st : List bh_V} {M : bh_M} {c n t Cx : Nat} {v : Int32} (y : Nat) (hz : bz M) (hq : bq M L) (hp : bp M st) (hc : c + 1 ≤ Cx) (hv : v = nI (bh_al t)) (e : bh_C M t + 1 = y) (h : bz (bm_c M t y) → K (n, L, .inr (t, y) :: st, bm_c M t y, c + 1)) : bo_newa bh_al n t Cx (L, .inl (.int v) :: st, M, c) K Z := by
  refine ⟨⟨hq, bp_l hp⟩, hc, hv, ?_⟩
  show K (n, L, .inr (t, bh_C M t + 1) :: st, bh_nw M t, c + 1)
  rw [bz_nw hz e, e]
  exact h (bz_c hz (by omega))
theorem bc_callA {K : Nat × bh_S → Prop} {Z : bh_F → Prop} {L : List (Option bh_V)} {st : List bh_V} {M : bh_M} {c n a b Cx t x : Nat} {F : bh_Fn} (as rest : List bh_V) (e1 : (st.take a).reverse = .inr (t, x) :: as) (e2 : st.drop a = rest) (e3 : Nat.ble a st.length = true) (hq : bq M L) (hp : bp M st) (h1 : 1 ≤ x) (h2 : x ≤ bh_C M t) (e4 : Nat.ble ((rest.map bh_cat).sum) 8 = true) (e5 : c + b ≤ Cx) (h : F (.inr (t, x) :: as) M (bh_after n L rest (c + b) K Z)) : bo_callA n a b Cx t F (L, st, M, c) K Z := by
  refine ⟨⟨hq, hp⟩, ?_⟩
  subst e2
  unfold bo_callV
  show (match (st.take a).reverse with
    | .inr (t', x) :: as => a ≤ st.length ∧ t' = t ∧ 1 ≤ x ∧ x ≤ bh_C M t ∧ ((st.drop a).map bh_cat).sum ≤ 8 ∧ c + b ≤ Cx ∧ F (.inr (t', x) :: as) M (bh_after n L (st.drop a) (c + b) K Z)
    | _ => False)
  rw [e1]
  exact ⟨Nat.le_of_ble_eq_true e3, rfl, h1, h2, Nat.le_of_ble_eq_true e4, e5, h⟩
/-- the manifest -/
def rF (x : Nat) (M : bh_M) : bh_M := bm_fill (bm_fill (gs 7 x lF M) 8 x 8 (-1)) 10 x 8 (-1)
theorem lF_in : ∀ w ∈ lF, 8 ≤ w.1 ∧ w.1 ≤ 14 := by decide
theorem lF_mem (a : Nat) : a ∈ lF.map Prod.fst ↔ 8 ≤ a ∧ a ≤ 14 := by
  show a ∈ [8, 9, 10, 11, 12, 13, 14] ↔ _
  simp only [List.mem_cons, List.not_mem_nil, or_false]
  omega
theorem C_rF (x : Nat) (M : bh_M) (a : Nat) : bh_C (rF x M) a = if 8 ≤ a ∧ a ≤ 14 then x else bh_C M a := by
  show bh_C (gs 7 x lF M) a = _
  rw [C_gs]
  simp only [lF_mem]
theorem R_rF (x : Nat) (M : bh_M) {a : Nat} (ha : a ≠ 7) (b c : Nat) : bh_R (rF x M) a b c = bh_R M a b c := by
  show bh_R (gs 7 x lF M) a b c = _
  rw [R_gs, if_neg (fun q => ha q.1)]
theorem ci_F_init {x : Nat} {M : bh_M} {Z : bh_F → Prop} (h1 : 1 ≤ x) (h2 : x ≤ bh_C M 7) (hw : ∀ a, 8 ≤ a → a ≤ 14 → bh_C M a + 1 = x) (hz : bz M) (h : bz (rF x M) → Z (.inl none, rF x M)) : F_F_init [.inr (7, x)] M Z := by
  refine bi_fn rfl [some (.inr (7, x))] rfl (bc_pre m_F_init l_F_init_0 l_F_init_1 rfl h1 ?_)
  refine bc_grps m_F_init rfl h1 lF gF 4 0 M okF hz (bq_r h2 (bq_nil _)) h2 (fun w q => hw _ (lF_in w q).1 (lF_in w q).2) (by decide) ?_
  intro k1 k2
  have c7 : x ≤ bh_C (gs 7 x lF M) 7 := by rw [C_gs, if_neg (by decide)]; exact h2
  have c8 : x ≤ bh_C (gs 7 x lF M) 8 := by rw [C_gs, if_pos (by decide)]; exact Nat.le_refl _
  have c10 : x ≤ bh_C (gs 7 x lF M) 10 := by rw [C_gs, if_pos (by decide)]; exact Nat.le_refl _
  have r0 : bh_R (gs 7 x lF M) 7 x 0 = x := by rw [R_gs, if_pos ⟨rfl, rfl, by decide⟩]
  have r2 : bh_R (bm_fill (gs 7 x lF M) 8 x 8 (-1)) 7 x 2 = x := by rw [bh_R_fill, R_gs, if_pos ⟨rfl, rfl, by decide⟩]
  refine bh_here m_F_init l_F_init_56 (bi_ald rfl (bh_here m_F_init l_F_init_57 ⟨rfl, h1, c7, ?_⟩))
  show bh_wp (bh_tb T_F_init) (60, [some (.inr (7, x))], [.inr (8, bh_R (gs 7 x lF M) 7 x 0)], gs 7 x lF M, 0 + lF.length) Z
  rw [r0]
  refine bh_here m_F_init l_F_init_60 (bi_push (bh_here m_F_init l_F_init_61 (bi_callS [.inr (8, x), .inl (.int (-1))] [] rfl rfl rfl rfl rfl (bc_fill 8 (-1) rfl rfl rfl h1 c8 ?_))))
  refine bh_here m_F_init l_F_init_64 (bi_ald rfl (bh_here m_F_init l_F_init_65 ⟨rfl, h1, c7, ?_⟩))
  show bh_wp (bh_tb T_F_init) (68, [some (.inr (7, x))], [.inr (10, bh_R (bm_fill (gs 7 x lF M) 8 x 8 (-1)) 7 x 2)], bm_fill (gs 7 x lF M) 8 x 8 (-1), 0 + lF.length + 0) Z
  rw [r2]
  refine bh_here m_F_init l_F_init_68 (bi_push (bh_here m_F_init l_F_init_69 (bi_callS [.inr (10, x), .inl (.int (-1))] [] rfl rfl rfl rfl rfl (bc_fill 8 (-1) rfl rfl rfl h1 c10 ?_))))
  exact bh_here m_F_init l_F_init_72 (bi_vret rfl (h (bz_fill (bz_fill k1 c8) c10)))
/-- the bundle -/
def rB1 (x : Nat) (v : Int32) (M : bh_M) : bh_M := bh_sR (rF x (bm_c (bh_sI (bh_sI M 5 x 0 v) 5 x 9 v) 7 x)) 5 x 1 x
def rB (x : Nat) (v : Int32) (M : bh_M) : bh_M := bm_fill (gs 5 x lB (rB1 x v M)) 6 x 3 (-1)
theorem C_rB1 (x : Nat) (v : Int32) (M : bh_M) (a : Nat) : bh_C (rB1 x v M) a = if 7 ≤ a ∧ a ≤ 14 then x else bh_C M a := by
  show bh_C (rF x (bm_c (bh_sI (bh_sI M 5 x 0 v) 5 x 9 v) 7 x)) a = _
  rw [C_rF, bh_C_c]
  show (if 8 ≤ a ∧ a ≤ 14 then x else if a = 7 then x else bh_C M a) = _
  by_cases q1 : 8 ≤ a ∧ a ≤ 14
  · rw [if_pos q1, if_pos (by omega)]
  · rw [if_neg q1]
    by_cases q2 : a = 7
    · rw [if_pos q2, if_pos (by omega)]
    · rw [if_neg q2, if_neg (by omega)]
theorem C_rB (x : Nat) (v : Int32) (M : bh_M) (a : Nat) : bh_C (rB x v M) a = if 6 ≤ a ∧ a ≤ 14 then x else bh_C M a := by
  show bh_C (gs 5 x lB (rB1 x v M)) a = _
  rw [C_gs, C_rB1]
  by_cases q : a = 6
  · rw [if_pos (by rw [q]; decide), if_pos (by omega)]
  · rw [if_neg (show ¬ a ∈ lB.map Prod.fst from fun h => q (List.mem_singleton.mp h))]
    by_cases q2 : 7 ≤ a ∧ a ≤ 14
    · rw [if_pos q2, if_pos (by omega)]
    · rw [if_neg q2, if_neg (by omega)]
theorem R_rB (x : Nat) (v : Int32) (M : bh_M) {a : Nat} (h5 : a ≠ 5) (h7 : a ≠ 7) (b c : Nat) : bh_R (rB x v M) a b c = bh_R M a b c := by
  show bh_R (gs 5 x lB (rB1 x v M)) a b c = _
  rw [R_gs, if_neg (fun q => h5 q.1)]
  show bh_R (bh_sR (rF x (bm_c (bh_sI (bh_sI M 5 x 0 v) 5 x 9 v) 7 x)) 5 x 1 x) a b c = _
  rw [bh_R_sR, if_neg (fun q => h5 q.1), R_rF _ _ h7]
  rfl
theorem ci_B_init {x : Nat} {v : Int32} {M : bh_M} {Z : bh_F → Prop} (h1 : 1 ≤ x) (h2 : x ≤ bh_C M 5) (hw : ∀ a, 6 ≤ a → a ≤ 14 → bh_C M a + 1 = x) (hz : bz M) (h : bz (rB x v M) → Z (.inl none, rB x v M)) : F_B_init [.inr (5, x), .inl (.int v)] M Z := by
  refine bi_fn rfl [some (.inr (5, x)), some (.inl (.int v))] rfl (bc_pre m_B_init l_B_init_0 l_B_init_1 rfl h1 ?_)
  refine bh_here m_B_init l_B_init_4 (bi_ald rfl (bh_here m_B_init l_B_init_5 (bi_ild rfl (bh_here m_B_init l_B_init_6 ⟨rfl, h1, h2, ?_⟩))))
  refine bh_here m_B_init l_B_init_9 (bi_ald rfl (bh_here m_B_init l_B_init_10 (bi_ild rfl (bh_here m_B_init l_B_init_11 ⟨rfl, h1, h2, ?_⟩))))
  have z1 : bz (bh_sI (bh_sI M 5 x 0 v) 5 x 9 v) := bz_sI (bz_sI hz h2) h2
  refine bh_here m_B_init l_B_init_14 (bi_ald rfl (bh_here m_B_init l_B_init_15 (bc_new x z1 (bq_r h2 (bq_l (bq_nil _))) (bp_r h2 (bp_nil _)) (Nat.le_of_ble_eq_true rfl) (hw 7 (by decide) (by decide)) ?_)))
  intro z2
  refine bh_here m_B_init l_B_init_18 (bi_dup rfl (bh_here m_B_init l_B_init_19 ?_))
  have d7 : x ≤ bh_C (bm_c (bh_sI (bh_sI M 5 x 0 v) 5 x 9 v) 7 x) 7 := Nat.le_refl x
  refine bc_callA [] [.inr (7, x), .inr (5, x)] rfl rfl rfl (bq_r h2 (bq_l (bq_nil _))) (bp_r d7 (bp_r d7 (bp_r h2 (bp_nil _)))) h1 d7 rfl (Nat.le_of_ble_eq_true rfl) ?_
  refine ci_F_init h1 d7 ?_ z2 ?_
  · intro a ha hb
    rw [bh_C_c, if_neg (by omega)]
    exact hw a (by omega) hb
  · intro z3
    have e5 : x ≤ bh_C (rB1 x v M) 5 := by rw [C_rB1, if_neg (by decide)]; exact h2
    have e7 : x ≤ bh_C (rB1 x v M) 7 := by rw [C_rB1, if_pos (by decide)]; exact Nat.le_refl _
    refine bh_here m_B_init l_B_init_22 ⟨rfl, h1, e5, rfl, h1, e7, ?_⟩
    have z4 : bz (rB1 x v M) := bz_sR z3 e5
    refine bc_grps m_B_init rfl h1 lB gB 25 8 (rB1 x v M) okB z4 (bq_r e5 (bq_l (bq_nil _))) e5 ?_ (by decide) ?_
    · intro w q
      rw [List.mem_singleton.mp q]
      show bh_C (rB1 x v M) 6 + 1 = x
      rw [C_rB1, if_neg (by decide)]
      exact hw 6 (by decide) (by decide)
    · intro k1 k2
      have f5 : x ≤ bh_C (gs 5 x lB (rB1 x v M)) 5 := by rw [C_gs, if_neg (by decide)]; exact e5
      have f6 : x ≤ bh_C (gs 5 x lB (rB1 x v M)) 6 := by rw [C_gs, if_pos (by decide)]; exact Nat.le_refl _
      have r2 : bh_R (gs 5 x lB (rB1 x v M)) 5 x 2 = x := by rw [R_gs, if_pos ⟨rfl, rfl, by decide⟩]
      refine bh_here m_B_init l_B_init_32 (bi_ald rfl (bh_here m_B_init l_B_init_33 ⟨rfl, h1, f5, ?_⟩))
      show bh_wp (bh_tb T_B_init) (36, [some (.inr (5, x)), some (.inl (.int v))], [.inr (6, bh_R (gs 5 x lB (rB1 x v M)) 5 x 2)], gs 5 x lB (rB1 x v M), 8 + lB.length) Z
      rw [r2]
      refine bh_here m_B_init l_B_init_36 (bi_push (bh_here m_B_init l_B_init_37 (bi_callS [.inr (6, x), .inl (.int (-1))] [] rfl rfl rfl rfl rfl (bc_fill 3 (-1) rfl rfl rfl h1 f6 ?_))))
      exact bh_here m_B_init l_B_init_40 (bi_vret rfl (h (bz_fill k1 f6)))
/-- resolver, events, a service -/
theorem ci_R_init {x : Nat} {M : bh_M} {Z : bh_F → Prop} (h1 : 1 ≤ x) (h2 : x ≤ bh_C M 15) (hw : ∀ a, 16 ≤ a → a ≤ 18 → bh_C M a + 1 = x) (hz : bz M) (h : bz (gs 15 x lR M) → Z (.inl none, gs 15 x lR M)) : F_R_init [.inr (15, x)] M Z := by
  refine bi_fn rfl [some (.inr (15, x))] rfl (bc_pre m_R_init l_R_init_0 l_R_init_1 rfl h1 ?_)
  refine bc_grps m_R_init rfl h1 lR gR 4 0 M okR hz (bq_r h2 (bq_nil _)) h2 (fun w q => ?_) (by decide) ?_
  · have : ∀ w ∈ lR, 16 ≤ w.1 ∧ w.1 ≤ 18 := by decide
    exact hw _ (this w q).1 (this w q).2
  · intro k1 k2
    exact bh_here m_R_init l_R_init_28 (bi_vret rfl (h k1))
theorem ci_S_init {x : Nat} {M : bh_M} {Z : bh_F → Prop} (h1 : 1 ≤ x) (h2 : x ≤ bh_C M 21) (hw : bh_C M 22 + 1 = x) (hz : bz M) (h : bz (gs 21 x lS M) → Z (.inl none, gs 21 x lS M)) : F_S_init [.inr (21, x)] M Z := by
  refine bi_fn rfl [some (.inr (21, x))] rfl (bc_pre m_S_init l_S_init_0 l_S_init_1 rfl h1 ?_)
  refine bc_grps m_S_init rfl h1 lS gS 4 0 M okS hz (bq_r h2 (bq_nil _)) h2 (fun w q => ?_) (by decide) ?_
  · rw [List.mem_singleton.mp q]; exact hw
  · intro k1 k2
    exact bh_here m_S_init l_S_init_12 (bi_vret rfl (h k1))
theorem ci_E_init {x : Nat} {M : bh_M} {Z : bh_F → Prop} (h1 : 1 ≤ x) (h2 : x ≤ bh_C M 23) (hw : bh_C M 24 + 1 = x) (hz : bz M) (h : bz (gs 23 x lE M) → Z (.inl none, gs 23 x lE M)) : F_E_init [.inr (23, x)] M Z := by
  refine bi_fn rfl [some (.inr (23, x))] rfl (bc_pre m_E_init l_E_init_0 l_E_init_1 rfl h1 ?_)
  refine bc_grps m_E_init rfl h1 lE gE 4 0 M okE hz (bq_r h2 (bq_nil _)) h2 (fun w q => ?_) (by decide) ?_
  · rw [List.mem_singleton.mp q]; exact hw
  · intro k1 k2
    exact bh_here m_E_init l_E_init_12 (bi_vret rfl (h k1))
