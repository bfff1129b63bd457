/-! THE REFERENCES BEHIND THE CONSTRUCTORS; WHAT HOLDS THERE -/
theorem kd_at {t j : Nat} (h : 3 ≤ bh_kd t j) (h4 : t ≠ 4) (h20 : t ≠ 20) : (t = 3 ∧ j < 4) ∨ (t = 5 ∧ (j = 1 ∨ j = 2)) ∨ (t = 7 ∧ j < 7) ∨ (t = 15 ∧ j < 3) ∨ (t = 19 ∧ j = 0) ∨ (t = 21 ∧ j = 0) ∨ (t = 23 ∧ j = 0) ∨ (t = 40 ∧ j ∈ lM.map Prod.snd) := by
  unfold bh_kd at h
  split at h
  · unfold bh_ok0 at h
    split at h <;> first | omega | exact Or.inr (Or.inr (Or.inr (Or.inr (Or.inr (Or.inr (Or.inr ⟨rfl, by decide⟩))))))
  · omega
  · omega
  · omega
  · omega
  · rename_i k e
    unfold bh_ak at e
    split at e <;> omega
theorem R_gsn {t x : Nat} (l : List (Nat × Nat)) (M : bh_M) {a : Nat} (h : a ≠ t) (b c : Nat) : bh_R (gs t x l M) a b c = bh_R M a b c := by
  rw [R_gs, if_neg (fun q => h q.1)]
theorem R_gsp {t x c : Nat} (l : List (Nat × Nat)) (M : bh_M) (h : c ∈ l.map Prod.snd) : bh_R (gs t x l M) t x c = x := by
  rw [R_gs, if_pos ⟨rfl, rfl, h⟩]
theorem R_gsb {t x : Nat} (l : List (Nat × Nat)) (M : bh_M) {b : Nat} (h : b ≠ x) (a c : Nat) : bh_R (gs t x l M) a b c = bh_R M a b c := by
  rw [R_gs, if_neg (fun q => h q.2.1)]
theorem R_gsc {t x : Nat} (l : List (Nat × Nat)) (M : bh_M) {c : Nat} (h : ¬ c ∈ l.map Prod.snd) (a b : Nat) : bh_R (gs t x l M) a b c = bh_R M a b c := by
  rw [R_gs, if_neg (fun q => h q.2.2)]
theorem R_sRn (M : bh_M) {t x j v : Nat} {a : Nat} (h : a ≠ t) (b c : Nat) : bh_R (bh_sR M t x j v) a b c = bh_R M a b c := by
  rw [bh_R_sR, if_neg (fun q => h q.1)]
theorem R_sRb (M : bh_M) {t x j v : Nat} {b : Nat} (h : b ≠ x) (a c : Nat) : bh_R (bh_sR M t x j v) a b c = bh_R M a b c := by
  rw [bh_R_sR, if_neg (fun q => h q.2.1)]
theorem R_sRc (M : bh_M) {t x j v : Nat} {c : Nat} (h : c ≠ j) (a b : Nat) : bh_R (bh_sR M t x j v) a b c = bh_R M a b c := by
  rw [bh_R_sR, if_neg (fun q => h q.2.2)]
theorem R_sRp (M : bh_M) (t x j v : Nat) : bh_R (bh_sR M t x j v) t x j = v := by
  rw [bh_R_sR, if_pos ⟨rfl, rfl, rfl⟩]
theorem R_rBx (x : Nat) (v : Int32) (M : bh_M) {b : Nat} (h : b ≠ x) (a c : Nat) : bh_R (rB x v M) a b c = bh_R M a b c := by
  unfold rB rB1 rF
  rw [bh_R_fill, R_gsb _ _ h, R_sRb _ h, bh_R_fill, bh_R_fill, R_gsb _ _ h, bh_R_c, bh_R_sI, bh_R_sI]
theorem R_rB5 (x : Nat) (v : Int32) (M : bh_M) : bh_R (rB x v M) 5 x 1 = x ∧ bh_R (rB x v M) 5 x 2 = x := by
  unfold rB rB1
  constructor
  · rw [bh_R_fill, R_gsc _ _ (by decide), R_sRp]
  · rw [bh_R_fill, R_gsp _ _ (by decide)]
theorem lF_snd {j : Nat} (h : j < 7) : j ∈ lF.map Prod.snd := by
  have : j = 0 ∨ j = 1 ∨ j = 2 ∨ j = 3 ∨ j = 4 ∨ j = 5 ∨ j = 6 := by omega
  rcases this with rfl | rfl | rfl | rfl | rfl | rfl | rfl <;> decide
theorem R_rB7 (x : Nat) (v : Int32) (M : bh_M) {j : Nat} (h : j < 7) : bh_R (rB x v M) 7 x j = x := by
  unfold rB rB1 rF
  rw [bh_R_fill, R_gsn _ _ (by decide), R_sRn _ (by decide), bh_R_fill, bh_R_fill, R_gsp _ _ (lF_snd h)]
theorem R_rBs5 (M : bh_M) : ∀ k b : Nat, 1 ≤ b → b ≤ k → (bh_R (rBs k M) 5 b 1 = b ∧ bh_R (rBs k M) 5 b 2 = b) ∧ ∀ j, j < 7 → bh_R (rBs k M) 7 b j = b
  | 0, b, h1, h2 => by omega
  | k + 1, b, h1, h2 => by
    unfold rBs
    rw [R_sRn _ (by decide), R_sRn _ (by decide)]
    by_cases hb : b = k + 1
    · subst hb
      refine ⟨R_rB5 _ _ _, fun j hj => ?_⟩
      rw [R_sRn _ (by decide)]
      exact R_rB7 _ _ _ hj
    · have ih := R_rBs5 M k b h1 (by omega)
      refine ⟨⟨?_, ?_⟩, fun j hj => ?_⟩
      · rw [R_rBx _ _ _ hb, bh_R_c]
        exact ih.1.1
      · rw [R_rBx _ _ _ hb, bh_R_c]
        exact ih.1.2
      · rw [R_sRn _ (by decide), R_rBx _ _ _ hb, bh_R_c]
        exact ih.2 j hj
theorem R_rBs4 (M : bh_M) : ∀ k j : Nat, j < k → bh_R (rBs k M) 4 1 j = j + 1
  | 0, j, h => by omega
  | k + 1, j, h => by
    unfold rBs
    by_cases q : j = k
    · subst q
      rw [R_sRp]
    · rw [R_sRc _ q, R_rB _ _ _ (by decide) (by decide), bh_R_c]
      exact R_rBs4 M k j (by omega)
theorem R_rVs21 (M : bh_M) : ∀ k b : Nat, 1 ≤ b → b ≤ k → bh_R (rVs k M) 21 b 0 = b
  | 0, b, h1, h2 => by omega
  | k + 1, b, h1, h2 => by
    unfold rVs
    rw [R_sRn _ (by decide)]
    by_cases hb : b = k + 1
    · subst hb
      rw [R_gsp _ _ (by decide)]
    · rw [R_gsb _ _ hb, bh_R_c]
      exact R_rVs21 M k b h1 (by omega)
theorem R_rVs20 (M : bh_M) : ∀ k j : Nat, j < k → bh_R (rVs k M) 20 1 j = j + 1
  | 0, j, h => by omega
  | k + 1, j, h => by
    unfold rVs
    by_cases q : j = k
    · subst q
      rw [R_sRp]
    · rw [R_sRc _ q, R_gsn _ _ (by decide), bh_R_c]
      exact R_rVs20 M k j (by omega)
/-- from the last memory back -/
theorem R_F1 {a : Nat} (h : a ≠ 40) (b c : Nat) : bh_R lw_MF a b c = bh_R lw_M1 a b c := by
  unfold lw_MF lw_M2 rM rM1
  rw [bh_R_c, bh_R_c, bh_R_fJ, bh_R_sI, R_gsn _ _ h, bh_R_c]
theorem R_H3 {M : bh_M} {a : Nat} (h : a ≠ 23) (b c : Nat) : bh_R (rH3 M) a b c = if a = 3 ∧ b = 1 ∧ c = 3 then 1 else bh_R M a b c := by
  unfold rH3
  rw [bh_R_sI, bh_R_sR, R_gsn _ _ h, bh_R_c]
theorem R_H2 {M : bh_M} {a : Nat} (h : a ≠ 19) (h1 : a ≠ 20) (h2 : a ≠ 21) (b c : Nat) : bh_R (rH2 M) a b c = if a = 3 ∧ b = 1 ∧ c = 2 then 1 else bh_R M a b c := by
  unfold rH2 rV
  rw [bh_R_sR, R_rVs _ h1 h2, R_gsn _ _ h, bh_R_c]
theorem R_H1 {M : bh_M} {a : Nat} (h : a ≠ 15) (b c : Nat) : bh_R (rH1 M) a b c = if a = 3 ∧ b = 1 ∧ c = 1 then 1 else bh_R M a b c := by
  unfold rH1
  rw [bh_R_sR, R_gsn _ _ h, bh_R_c]
theorem R_Fx {a : Nat} (h40 : a ≠ 40) (h23 : a ≠ 23) (h19 : a ≠ 19) (h20 : a ≠ 20) (h21 : a ≠ 21) (h15 : a ≠ 15) (h3 : a ≠ 3) (b c : Nat) : bh_R lw_MF a b c = bh_R (rBs 8 (gs 3 1 lH (bm_c lw_M0 3 1))) a b c := by
  rw [R_F1 h40]
  unfold lw_M1 rH
  rw [R_H3 h23, if_neg (fun q => h3 q.1), R_H2 h19 h20 h21, if_neg (fun q => h3 q.1), R_H1 h15, if_neg (fun q => h3 q.1)]
  unfold rH0
  rfl
theorem R_F4 {j : Nat} (h : j < 8) : bh_R lw_MF 4 1 j = j + 1 := by
  rw [R_Fx (by decide) (by decide) (by decide) (by decide) (by decide) (by decide) (by decide)]
  exact R_rBs4 _ 8 j h
theorem R_F20 {j : Nat} (h : j < 20) : bh_R lw_MF 20 1 j = j + 1 := by
  rw [R_F1 (by decide)]
  unfold lw_M1 rH
  rw [R_H3 (by decide), if_neg (fun q => absurd q.1 (by decide))]
  unfold rH2 rV
  rw [R_sRn _ (by decide)]
  exact R_rVs20 _ 20 j h
theorem R_F21 {b : Nat} (h1 : 1 ≤ b) (h2 : b ≤ 20) : bh_R lw_MF 21 b 0 = b := by
  rw [R_F1 (by decide)]
  unfold lw_M1 rH
  rw [R_H3 (by decide), if_neg (fun q => absurd q.1 (by decide))]
  unfold rH2 rV
  rw [R_sRn _ (by decide)]
  exact R_rVs21 _ 20 b h1 h2
theorem R_F3 {j : Nat} (h : j < 4) : bh_R lw_MF 3 1 j = 1 := by
  rw [R_F1 (by decide)]
  unfold lw_M1 rH
  rw [R_H3 (by decide)]
  by_cases q3 : j = 3
  · rw [if_pos ⟨rfl, rfl, q3⟩]
  · rw [if_neg (fun q => q3 q.2.2), R_H2 (by decide) (by decide) (by decide)]
    by_cases q2 : j = 2
    · rw [if_pos ⟨rfl, rfl, q2⟩]
    · rw [if_neg (fun q => q2 q.2.2), R_H1 (by decide)]
      by_cases q1 : j = 1
      · rw [if_pos ⟨rfl, rfl, q1⟩]
      · rw [if_neg (fun q => q1 q.2.2)]
        have q0 : j = 0 := by omega
        subst q0
        unfold rH0
        rw [R_rBs _ (by decide) (by decide) (by decide), R_gsp _ _ (by decide)]
theorem R_F15 {j : Nat} (h : j < 3) : bh_R lw_MF 15 1 j = 1 := by
  rw [R_F1 (by decide)]
  unfold lw_M1 rH
  rw [R_H3 (by decide), if_neg (fun q => absurd q.1 (by decide)), R_H2 (by decide) (by decide) (by decide), if_neg (fun q => absurd q.1 (by decide))]
  unfold rH1
  have : j ∈ lR.map Prod.snd := by
    have : j = 0 ∨ j = 1 ∨ j = 2 := by omega
    rcases this with rfl | rfl | rfl <;> decide
  rw [R_sRn _ (by decide), R_gsp _ _ this]
theorem R_F19 : bh_R lw_MF 19 1 0 = 1 := by
  rw [R_F1 (by decide)]
  unfold lw_M1 rH
  rw [R_H3 (by decide), if_neg (fun q => absurd q.1 (by decide))]
  unfold rH2 rV
  rw [R_sRn _ (by decide), R_rVs _ (by decide) (by decide), R_gsp _ _ (by decide)]
theorem R_F23 : bh_R lw_MF 23 1 0 = 1 := by
  rw [R_F1 (by decide)]
  unfold lw_M1 rH rH3
  rw [bh_R_sI, R_sRn _ (by decide), R_gsp _ _ (by decide)]
theorem R_F40 {j : Nat} (h : j ∈ lM.map Prod.snd) : bh_R lw_MF 40 1 j = 1 := by
  unfold lw_MF lw_M2 rM rM1
  rw [bh_R_c, bh_R_c, bh_R_fJ, bh_R_sI, R_gsp _ _ h]
theorem stat_F : bh_stat lw_MF.2.2.2 := by
  refine ⟨c0_F, ?_, fun j hj => R_F4 hj, fun j hj => ?_⟩
  · intro t x j h1 h2 h4 h20 hk
    show bh_R lw_MF t x j = x
    rcases kd_at hk h4 h20 with ⟨rfl, q⟩ | ⟨rfl, q⟩ | ⟨rfl, q⟩ | ⟨rfl, q⟩ | ⟨rfl, rfl⟩ | ⟨rfl, rfl⟩ | ⟨rfl, rfl⟩ | ⟨rfl, q⟩
    · have : x ≤ 1 := h2
      rw [show x = 1 from by omega]
      exact R_F3 q
    · have : x ≤ 8 := h2
      rw [R_Fx (by decide) (by decide) (by decide) (by decide) (by decide) (by decide) (by decide)]
      rcases q with rfl | rfl
      · exact (R_rBs5 _ 8 x h1 this).1.1
      · exact (R_rBs5 _ 8 x h1 this).1.2
    · have : x ≤ 8 := h2
      rw [R_Fx (by decide) (by decide) (by decide) (by decide) (by decide) (by decide) (by decide)]
      exact (R_rBs5 _ 8 x h1 this).2 j q
    · have : x ≤ 1 := h2
      rw [show x = 1 from by omega]
      exact R_F15 q
    · have : x ≤ 1 := h2
      rw [show x = 1 from by omega]
      exact R_F19
    · exact R_F21 h1 h2
    · have : x ≤ 1 := h2
      rw [show x = 1 from by omega]
      exact R_F23
    · have : x ≤ 1 := h2
      rw [show x = 1 from by omega]
      exact R_F40 q
  · show 1 ≤ bh_R lw_MF 20 1 j ∧ bh_R lw_MF 20 1 j ≤ 20
    rw [R_F20 hj]
    omega
/-- the first state -/
def lw_d0 : sd := (fun _ => 0, fun _ => 0, fun _ _ => none, fun _ _ => 0, fun _ => 0, fun _ _ => 0, fun _ _ => 0, fun _ _ => 0, fun _ _ => false, fun _ => 0)
def lw_A0 : sa := (lw_d0, fun _ _ => none, (fun _ => 0, fun _ _ => 0), fun _ => 0, fun _ => 0, fun _ => false, fun _ => false, lw_MF, 1, 0, 0, 0)
theorem rdC_F : rdC lw_MF (a_d lw_A0) (a_w lw_A0) := by
  intro b hb
  refine ⟨⟨?_, ?_, Nat.zero_le _, fun q => absurd rfl q, ?_, Nat.zero_le _⟩, ?_, ⟨?_, Nat.zero_le _⟩, ?_, ?_, ?_⟩
  · rw [iF_in rfl hb]; rfl
  · rw [iF_in rfl hb]; rfl
  · rw [iF_in rfl hb]; rfl
  · intro p hp
    refine ⟨?_, fun v q => (by cases q)⟩
    rw [iF_in rfl hb, if_neg (fun q => absurd q.1 (by decide)), if_pos ⟨Or.inl rfl, hp⟩]
    rfl
  · rw [iF_in rfl hb]; rfl
  · intro k hk
    exact absurd hk (Nat.not_lt_zero k)
  · intro p hp
    rw [iF_in rfl hb, if_neg (fun q => absurd q.1 (by decide)), if_pos ⟨Or.inr rfl, hp⟩]
    rfl
  · intro k hk
    refine ⟨?_, fun o l q => (by cases q)⟩
    rw [iF_in rfl hb, if_pos ⟨rfl, hk⟩]
    rfl
theorem RC_F : RC lw_MF lw_A0 := by
  refine ⟨rdC_F, ?_, ⟨0, 0, by decide, by decide, iF_l _ _ _ rfl, iF_l _ _ _ rfl, iF_l _ _ _ rfl, ?_, fun j hj => absurd hj (Nat.not_lt_zero j)⟩, ⟨0, by decide, iF_l _ _ _ rfl, iF_l _ _ _ rfl, ?_, ?_, fun j hj => absurd hj (Nat.not_lt_zero j)⟩, iF_l _ _ _ rfl, iF_l _ _ _ rfl, iF_l _ _ _ rfl, stat_F⟩
  · intro b hb
    refine ⟨?_, ?_, fun q => absurd rfl q⟩
    · rw [iF_in rfl hb]; rfl
    · rw [iF_in rfl hb]; rfl
  · show bh_I lw_MF 23 1 3 = bh_I lw_MF 40 1 38
    rw [I_F, I_F]
    rfl
  · show bh_I lw_MF 19 1 2 = bh_I lw_MF 40 1 35
    rw [I_F, I_F]
    rfl
  · intro i j hi hj q
    rw [R_F20 hi, R_F20 hj] at q
    omega
theorem rdM_F : rdM lw_MF (a_d lw_A0) (a_w lw_A0) (a_e lw_A0) (fun _ _ => 0) := by
  refine ⟨?_, fun _ _ _ _ => Nat.zero_le _, ?_⟩
  · intro o l l' _ h1 h2 _
    have k1 : l ≤ 0 := h1
    have k2 : l' ≤ 0 := h2
    omega
  · intro b hb
    refine ⟨⟨iF_0 rfl _ _, Nat.zero_le _, fun q => absurd rfl q, fun q => absurd rfl q⟩, ⟨iF_0 rfl _ _, Nat.zero_le _, ?_, ?_, ?_, fun _ => rfl⟩, ⟨iF_0 rfl _ _, Nat.zero_le _, ?_, ?_⟩, ?_⟩
    · intro j hj
      exact absurd hj (Nat.not_lt_zero j)
    · intro j j' hj
      exact absurd hj (Nat.not_lt_zero j)
    · intro p hp q
      cases q
    · intro j hj
      exact absurd hj (Nat.not_lt_zero j)
    · intro j j' hj
      exact absurd hj (Nat.not_lt_zero j)
    · intro k hk
      refine ⟨?_, fun o l q => (by cases q)⟩
      rw [J_F, if_pos ⟨rfl, rfl, by omega⟩]
      rfl
theorem RM_F : RM lw_MF lw_A0 := by
  refine ⟨⟨fun _ _ => 0, rdM_F, ?_⟩, fun b hb q => absurd rfl q, ag_refl _, iF_l _ _ _ rfl, iF_l _ _ _ rfl, iF_l _ _ _ rfl, stat_F⟩
  intro b hb
  refine ⟨0, ?_, Nat.zero_le _, fun _ _ => Nat.zero_le _⟩
  rw [J_F, if_neg (fun q => absurd q.1 (by decide))]
  rfl
theorem WA_F : WA lw_A0 := by
  refine ⟨⟨fun _ _ _ _ => rfl, fun b k o l _ q => (by cases q)⟩, ?_, ⟨by decide, by decide⟩, ⟨⟨0, by decide, iF_l _ _ _ rfl⟩, 0, by decide, iF_l _ _ _ rfl, fun j hj => absurd hj (Nat.not_lt_zero j)⟩, Nat.zero_le _⟩
  intro b hb
  exact ⟨Nat.zero_le _, Nat.zero_le _, fun _ => ⟨rfl, rfl, rfl⟩, fun q => absurd rfl q⟩
