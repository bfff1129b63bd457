/-! THE MEMORY BEHIND THE CONSTRUCTORS, AND THE LAW FROM ITS FIRST STEP -/
def lw_M0 : bh_M := (fun _ _ _ => 0, fun _ _ _ => 0, fun _ _ _ => 0, fun _ _ _ => 0, fun t => if t = 1 then 1 else 0)
def lw_M1 : bh_M := rH (bm_c lw_M0 3 1)
def lw_M2 : bh_M := rM (bm_c lw_M1 40 1)
def lw_MF : bh_M := bm_c (bm_c lw_M2 25 1) 26 1
theorem lM_mem (a : Nat) : a ∈ lM.map Prod.fst ↔ 41 ≤ a ∧ a ≤ 70 := by
  show a ∈ [41, 42, 43, 44, 45, 46, 47, 48, 49, 50, 51, 52, 53, 54, 55, 56, 57, 58, 59, 60, 61, 62, 63, 64, 65, 66, 67, 68, 69, 70] ↔ _
  simp only [List.mem_cons, List.not_mem_nil, or_false]
  omega
theorem C_rM (M : bh_M) (a : Nat) : bh_C (rM M) a = if 41 ≤ a ∧ a ≤ 70 then 1 else bh_C M a := by
  show bh_C (gs 40 1 lM M) a = _
  rw [C_gs]
  simp only [lM_mem]
theorem bz_0 : bz lw_M0 := fun _ _ _ _ => ⟨rfl, rfl, rfl, rfl⟩
theorem C_0 (a : Nat) : bh_C (bm_c lw_M0 3 1) a = if a = 3 then 1 else if a = 1 then 1 else 0 := rfl
theorem C_1 (a : Nat) : bh_C lw_M1 a = if a < 4 ∨ 24 < a then (if a = 3 then 1 else if a = 1 then 1 else 0) else bh_c0 a := by
  unfold lw_M1
  rw [C_rH, C_0]
  intro a ha hb
  rw [C_0, if_neg (by omega), if_neg (by omega)]
theorem C_2 (a : Nat) : bh_C lw_M2 a = if 41 ≤ a ∧ a ≤ 70 then 1 else if a = 40 then 1 else bh_C lw_M1 a := by
  unfold lw_M2
  rw [C_rM, bh_C_c]
theorem C_F (a : Nat) : bh_C lw_MF a = if a = 26 then 1 else if a = 25 then 1 else if 41 ≤ a ∧ a ≤ 70 then 1 else if a = 40 then 1 else if a < 4 ∨ 24 < a then (if a = 3 then 1 else if a = 1 then 1 else 0) else bh_c0 a := by
  unfold lw_MF
  rw [bh_C_c, bh_C_c, C_2, C_1]
theorem c0_F (a : Nat) : bh_c0 a ≤ bh_C lw_MF a := by
  rw [C_F]
  by_cases h : a < 71
  · have : ∀ a, a < 71 → bh_c0 a ≤ (if a = 26 then 1 else if a = 25 then 1 else if 41 ≤ a ∧ a ≤ 70 then 1 else if a = 40 then 1 else if a < 4 ∨ 24 < a then (if a = 3 then 1 else if a = 1 then 1 else 0) else bh_c0 a) := by decide
    exact this a h
  · have : bh_c0 a = 0 := by
      unfold bh_c0
      split <;> first | omega | exact if_neg (by omega)
    rw [this]
    exact Nat.zero_le _
/-- what stands in it -/
theorem bh_I_c (M : bh_M) (t y : Nat) : bh_I (bm_c M t y) = bh_I M := rfl
theorem bh_J_c (M : bh_M) (t y : Nat) : bh_J (bm_c M t y) = bh_J M := rfl
theorem bh_D_c (M : bh_M) (t y : Nat) : bh_D (bm_c M t y) = bh_D M := rfl
theorem bh_R_c (M : bh_M) (t y : Nat) : bh_R (bm_c M t y) = bh_R M := rfl
theorem bh_I_fJ (M : bh_M) (t x n : Nat) (v : Int64) : bh_I (bm_fillJ M t x n v) = bh_I M := rfl
theorem bh_R_fJ (M : bh_M) (t x n : Nat) (v : Int64) : bh_R (bm_fillJ M t x n v) = bh_R M := rfl
theorem bh_J_fJ (M : bh_M) (t x n : Nat) (v : Int64) (a b c : Nat) : bh_J (bm_fillJ M t x n v) a b c = if a = t ∧ b = x ∧ c < n then v else bh_J M a b c := rfl
theorem I_gs {t x : Nat} : ∀ (l : List (Nat × Nat)) (M : bh_M), bh_I (gs t x l M) = bh_I M ∧ bh_J (gs t x l M) = bh_J M ∧ bh_D (gs t x l M) = bh_D M
  | [], M => ⟨rfl, rfl, rfl⟩
  | q :: r, M => by
    unfold gs
    exact I_gs r (bh_sR (bm_c M q.1 x) t x q.2 x)
theorem I_rB (x : Nat) (v : Int32) (M : bh_M) (a b c : Nat) : bh_I (rB x v M) a b c = if b = x then (if a = 6 ∧ c < 3 then -1 else if (a = 8 ∨ a = 10) ∧ c < 8 then -1 else if a = 5 ∧ (c = 9 ∨ c = 0) then v else bh_I M a b c) else bh_I M a b c := by
  unfold rB rB1 rF
  rw [bh_I_fill, (I_gs _ _).1, bh_I_sR, bh_I_fill, bh_I_fill, (I_gs _ _).1, bh_I_c, bh_I_sI, bh_I_sI]
  by_cases hb : b = x
  · rw [if_pos hb]
    subst hb
    simp only [true_and]
    by_cases h6 : a = 6 ∧ c < 3
    · rw [if_pos h6, if_pos h6]
    · rw [if_neg h6, if_neg h6]
      by_cases h10 : a = 10 ∧ c < 8
      · rw [if_pos h10, if_pos (show (a = 8 ∨ a = 10) ∧ c < 8 from ⟨Or.inr h10.1, h10.2⟩)]
      · rw [if_neg h10]
        by_cases h8 : a = 8 ∧ c < 8
        · rw [if_pos h8, if_pos (show (a = 8 ∨ a = 10) ∧ c < 8 from ⟨Or.inl h8.1, h8.2⟩)]
        · have e8 : ¬ ((a = 8 ∨ a = 10) ∧ c < 8) := by omega
          rw [if_neg h8, if_neg e8]
          by_cases h9 : a = 5 ∧ c = 9
          · rw [if_pos h9, if_pos (show a = 5 ∧ (c = 9 ∨ c = 0) from ⟨h9.1, Or.inl h9.2⟩)]
          · rw [if_neg h9]
            by_cases h0 : a = 5 ∧ c = 0
            · rw [if_pos h0, if_pos (show a = 5 ∧ (c = 9 ∨ c = 0) from ⟨h0.1, Or.inr h0.2⟩)]
            · have e0 : ¬ (a = 5 ∧ (c = 9 ∨ c = 0)) := by omega
              rw [if_neg h0, if_neg e0]
  · have n1 : ∀ P Q : Prop, ¬ (P ∧ b = x ∧ Q) := fun P Q q => hb q.2.1
    rw [if_neg hb, if_neg (n1 _ _), if_neg (n1 _ _), if_neg (n1 _ _), if_neg (n1 _ _), if_neg (n1 _ _)]
theorem J_rB (x : Nat) (v : Int32) (M : bh_M) : bh_J (rB x v M) = bh_J M ∧ bh_D (rB x v M) = bh_D M := by
  unfold rB rB1 rF
  constructor
  · rw [bh_J_fill, (I_gs _ _).2.1, bh_J_sR, bh_J_fill, bh_J_fill, (I_gs _ _).2.1, bh_J_c, bh_J_sI, bh_J_sI]
  · rw [bh_D_fill, (I_gs _ _).2.2, bh_D_sR, bh_D_fill, bh_D_fill, (I_gs _ _).2.2, bh_D_c, bh_D_sI, bh_D_sI]
theorem I_rBs (M : bh_M) : ∀ k a b c : Nat, bh_I (rBs k M) a b c = if 1 ≤ b ∧ b ≤ k then (if a = 6 ∧ c < 3 then -1 else if (a = 8 ∨ a = 10) ∧ c < 8 then -1 else if a = 5 ∧ (c = 9 ∨ c = 0) then nI (b - 1) else bh_I M a b c) else bh_I M a b c
  | 0, a, b, c => (if_neg (by omega)).symm
  | k + 1, a, b, c => by
    unfold rBs
    rw [bh_I_sR, I_rB, bh_I_c, I_rBs M k]
    by_cases hb : b = k + 1
    · have n1 : ¬ (1 ≤ b ∧ b ≤ k) := by omega
      have p1 : 1 ≤ b ∧ b ≤ k + 1 := by omega
      rw [if_pos hb, if_neg n1, if_pos p1, hb]
      rfl
    · rw [if_neg hb]
      by_cases hb2 : 1 ≤ b ∧ b ≤ k
      · have p1 : 1 ≤ b ∧ b ≤ k + 1 := by omega
        rw [if_pos hb2, if_pos p1]
      · have n1 : ¬ (1 ≤ b ∧ b ≤ k + 1) := by omega
        rw [if_neg hb2, if_neg n1]
theorem J_rBs (M : bh_M) : ∀ k : Nat, bh_J (rBs k M) = bh_J M ∧ bh_D (rBs k M) = bh_D M
  | 0 => ⟨rfl, rfl⟩
  | k + 1 => by
    unfold rBs
    rw [bh_J_sR, bh_D_sR, (J_rB _ _ _).1, (J_rB _ _ _).2, bh_J_c, bh_D_c]
    exact J_rBs M k
theorem I_rVs (M : bh_M) : ∀ k : Nat, bh_I (rVs k M) = bh_I M ∧ bh_J (rVs k M) = bh_J M ∧ bh_D (rVs k M) = bh_D M
  | 0 => ⟨rfl, rfl, rfl⟩
  | k + 1 => by
    unfold rVs
    rw [bh_I_sR, bh_J_sR, bh_D_sR, (I_gs _ _).1, (I_gs _ _).2.1, (I_gs _ _).2.2, bh_I_c, bh_J_c, bh_D_c]
    exact I_rVs M k
theorem I_rV (M : bh_M) : bh_I (rV M) = bh_I M ∧ bh_J (rV M) = bh_J M ∧ bh_D (rV M) = bh_D M := by
  unfold rV
  rw [(I_rVs _ _).1, (I_rVs _ _).2.1, (I_rVs _ _).2.2]
  exact I_gs _ _
theorem I_rH (M : bh_M) (a b c : Nat) : bh_I (rH M) a b c = if a = 3 ∧ b = 1 ∧ c = 4 then 1 else bh_I (rBs 8 (gs 3 1 lH M)) a b c := by
  unfold rH rH3
  rw [bh_I_sI, bh_I_sR, (I_gs _ _).1, bh_I_c]
  unfold rH2
  rw [bh_I_sR, (I_rV _).1, bh_I_c]
  unfold rH1
  rw [bh_I_sR, (I_gs _ _).1, bh_I_c]
  unfold rH0
  rfl
theorem J_rH (M : bh_M) : bh_J (rH M) = bh_J M ∧ bh_D (rH M) = bh_D M := by
  unfold rH rH3 rH2 rH1 rH0
  constructor
  · rw [bh_J_sI, bh_J_sR, (I_gs _ _).2.1, bh_J_c, bh_J_sR, (I_rV _).2.1, bh_J_c, bh_J_sR, (I_gs _ _).2.1, bh_J_c, (J_rBs _ _).1, (I_gs _ _).2.1]
  · rw [bh_D_sI, bh_D_sR, (I_gs _ _).2.2, bh_D_c, bh_D_sR, (I_rV _).2.2, bh_D_c, bh_D_sR, (I_gs _ _).2.2, bh_D_c, (J_rBs _ _).2, (I_gs _ _).2.2]
def iF (a b c : Nat) : Int32 := if a = 40 ∧ b = 1 ∧ c = 39 then 1 else if a = 3 ∧ b = 1 ∧ c = 4 then 1 else if 1 ≤ b ∧ b ≤ 8 then (if a = 6 ∧ c < 3 then -1 else if (a = 8 ∨ a = 10) ∧ c < 8 then -1 else if a = 5 ∧ (c = 9 ∨ c = 0) then nI (b - 1) else 0) else 0
theorem I_0 (a b c : Nat) : bh_I lw_M0 a b c = 0 := rfl
theorem J_0 (a b c : Nat) : bh_J lw_M0 a b c = 0 := rfl
theorem I_F (a b c : Nat) : bh_I lw_MF a b c = iF a b c := by
  unfold lw_MF lw_M2 rM rM1
  rw [bh_I_c, bh_I_c, bh_I_fJ, bh_I_sI, (I_gs _ _).1, bh_I_c]
  unfold lw_M1
  rw [I_rH, I_rBs, (I_gs _ _).1, bh_I_c, I_0]
  rfl
theorem J_F (a b c : Nat) : bh_J lw_MF a b c = if a = 57 ∧ b = 1 ∧ c < 24 then -1 else 0 := by
  unfold lw_MF lw_M2 rM rM1
  rw [bh_J_c, bh_J_c, bh_J_fJ, bh_J_sI, (I_gs _ _).2.1, bh_J_c]
  unfold lw_M1
  rw [(J_rH _).1, bh_J_c, J_0]
theorem iF_in {a b : Nat} (h : (a == 3 || a == 40) = false) (hb : b < 8) (c : Nat) : bh_I lw_MF a (b + 1) c = if a = 6 ∧ c < 3 then -1 else if (a = 8 ∨ a = 10) ∧ c < 8 then -1 else if a = 5 ∧ (c = 9 ∨ c = 0) then nI b else 0 := by
  have h' : a ≠ 3 ∧ a ≠ 40 := by simpa using h
  have p1 : 1 ≤ b + 1 ∧ b + 1 ≤ 8 := by omega
  rw [I_F]
  unfold iF
  rw [if_neg (fun q => h'.2 q.1), if_neg (fun q => h'.1 q.1), if_pos p1]
  rfl
theorem iF_0 {a : Nat} (h : (a == 3 || a == 40 || a == 5 || a == 6 || a == 8 || a == 10) = false) (b c : Nat) : bh_I lw_MF a b c = 0 := by
  have h' : a ≠ 3 ∧ a ≠ 40 ∧ a ≠ 5 ∧ a ≠ 6 ∧ a ≠ 8 ∧ a ≠ 10 := by simpa [and_assoc] using h
  have n1 : ¬ (a = 6 ∧ c < 3) := by omega
  have n2 : ¬ ((a = 8 ∨ a = 10) ∧ c < 8) := by omega
  have n3 : ¬ (a = 5 ∧ (c = 9 ∨ c = 0)) := by omega
  rw [I_F]
  unfold iF
  rw [if_neg (fun q => h'.2.1 q.1), if_neg (fun q => h'.1 q.1), if_neg n1, if_neg n2, if_neg n3]
  split <;> rfl
theorem iF_l (a b c : Nat) {v : Int32} (h : iF a b c = v) : bh_I lw_MF a b c = v := (I_F a b c).trans h
