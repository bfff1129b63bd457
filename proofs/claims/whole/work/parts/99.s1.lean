/-! THE START: what the tables and the Statement give of the first state -/
def lw_fl : List Cond := flatC (Jvm.Cond.and given_1 narrow_1)
theorem s_K {s : State} {args : Array Value} (hts : ∀ w ∈ bh_ws, w.before args s = true) (hH : (Cond.instantiable R_H 5).before args s = true) (hM : (Cond.instantiable R_M 40).before args s = true) : ∃ (dC : Nat → ClassId) (dI : Nat → Nat → Nat), va_K (dC, dI) classes [] s := by
  obtain ⟨a0, b0, h0⟩ := u_known (C := R_H) (T := F_H) (N := 5) (n := 5) hts iw_H hH
  obtain ⟨a1, b1, h1⟩ := u_known (C := R_B) (T := F_B) (N := 10) (n := 10) hts iw_B (hts _ wd_32)
  obtain ⟨a2, b2, h2⟩ := u_known (C := R_F) (T := F_F) (N := 9) (n := 9) hts iw_F (hts _ wd_38)
  obtain ⟨a3, b3, h3⟩ := u_known (C := R_R) (T := F_R) (N := 6) (n := 6) hts iw_R (hts _ wd_132)
  obtain ⟨a4, b4, h4⟩ := u_known (C := R_V) (T := F_V) (N := 3) (n := 3) hts iw_V (hts _ wd_159)
  obtain ⟨a5, b5, h5⟩ := u_known (C := R_S) (T := F_S) (N := 5) (n := 5) hts iw_S (hts _ wd_166)
  obtain ⟨a6, b6, h6⟩ := u_known (C := R_E) (T := F_E) (N := 4) (n := 4) hts iw_E (hts _ wd_204)
  obtain ⟨a7, b7, h7⟩ := u_known (C := R_M) (T := F_M) (N := 40) (n := 40) hts iw_M hM
  have h : ∀ k : Nat, ∃ q : ClassId × (Nat → Nat), ∀ w : vw_C, classes[k]? = some w → u_Kn s w.1 w.2.1 w.2.2 q.1 q.2 := by
    intro k
    match k with
    | 0 => exact ⟨(a0, b0), fun w hw => by cases hw; exact h0⟩
    | 1 => exact ⟨(a1, b1), fun w hw => by cases hw; exact h1⟩
    | 2 => exact ⟨(a2, b2), fun w hw => by cases hw; exact h2⟩
    | 3 => exact ⟨(a3, b3), fun w hw => by cases hw; exact h3⟩
    | 4 => exact ⟨(a4, b4), fun w hw => by cases hw; exact h4⟩
    | 5 => exact ⟨(a5, b5), fun w hw => by cases hw; exact h5⟩
    | 6 => exact ⟨(a6, b6), fun w hw => by cases hw; exact h6⟩
    | 7 => exact ⟨(a7, b7), fun w hw => by cases hw; exact h7⟩
    | k + 8 => exact ⟨(a7, b7), fun w hw => by simp [classes] at hw⟩
  obtain ⟨f, hf⟩ := Classical.axiomOfChoice h
  exact ⟨fun k => (f k).1, fun k => (f k).2, fun k w hw => hf k w hw, fun k q hq => by simp at hq⟩
theorem s_et (t : Nat) : bh_et t = .int ∨ bh_et t = .boolean ∨ bh_et t = .long ∨ bh_et t = .double ∨ bh_et t = .object "BundleHall$Bundle" ∨ bh_et t = .object "BundleHall$Service" := by
  unfold bh_et
  split <;> simp
theorem s_A {s : State} {args : Array Value} (hts : ∀ w ∈ bh_ws, w.before args s = true) (hao : ∀ C ∈ bh_aos, (Cond.arrayOver (.object C)).before args s = true) : ∃ f : Nat → ClassId, ∀ t, 1 ≤ bh_ak t → ArrOfT s (f t) (bh_et t) ∧ va_RA s (f t) (bh_et t) := by
  obtain ⟨cI, kI, pI, i1, i2, i3⟩ := Cond.arrayClass_spec (hts _ wd_82)
  obtain ⟨cZ, kZ, pZ, z1, z2, z3⟩ := Cond.arrayClass_spec (hts _ wd_83)
  obtain ⟨cJ, kJ, pJ, j1, j2, j3⟩ := Cond.arrayClass_spec (hts _ wd_905)
  obtain ⟨cD, kD, pD, d1, d2, d3⟩ := Cond.arrayClass_spec (hts _ wd_906)
  obtain ⟨pB, cB, kB, b1, -, b2, b3, b4⟩ := Cond.arrayOver_spec (hao "BundleHall$Bundle" (by decide))
  obtain ⟨pS, cS, kS, s1, -, s2, s3, s4⟩ := Cond.arrayOver_spec (hao "BundleHall$Service" (by decide))
  have h : ∀ t, ∃ cA, ArrOfT s cA (bh_et t) ∧ va_RA s cA (bh_et t) := by
    intro t
    rcases s_et t with e | e | e | e | e | e <;> rw [e]
    · exact ⟨cI, fun N z => ⟨(fun k h => by cases h), kI, i2, pI, i3⟩, i1⟩
    · exact ⟨cZ, fun N z => ⟨(fun k h => by cases h), kZ, z2, pZ, z3⟩, z1⟩
    · exact ⟨cJ, fun N z => ⟨(fun k h => by cases h), kJ, j2, pJ, j3⟩, j1⟩
    · exact ⟨cD, fun N z => ⟨(fun k h => by cases h), kD, d2, pD, d3⟩, d1⟩
    · exact ⟨cB, fun N z => ⟨(fun k h => by cases h), kB, b2, pB, b3⟩, kB, pB, b2, b3, b1, b4⟩
    · exact ⟨cS, fun N z => ⟨(fun k h => by cases h), kS, s2, pS, s3⟩, kS, pS, s2, s3, s1, s4⟩
  obtain ⟨f, hf⟩ := Classical.axiomOfChoice h
  exact ⟨f, fun t _ => hf t⟩
theorem s_lay {s : State} {args : Array Value} {C n d : String} (h1 : (Cond.laysStatic C n d).before args s = true) (h2 : (Cond.isRef (.static C n d)).before args s = true) : bh_lay C n d s.heap.size s := by
  obtain ⟨k0, k, i, f, a, cell, q1, q2, q3, q4, q5, q6, q7, q8, q9⟩ := Cond.laysStatic_spec h1
  obtain ⟨v, hv, hr⟩ := Cond.isRef_spec h2
  obtain ⟨-, a', cell', g1, g2, -, g4⟩ := Term.static_spec q2 hv
  cases Option.some.inj (q4.symm.trans g1)
  cases Option.some.inj (q5.symm.trans g2)
  exact ⟨k0, k, i, f, a, cell, v, q1, q2, q3, q4, q5, q6, q7, q8, q9, g4, hr, (Array.getElem?_eq_some_iff.mp q5).1⟩
def lw_nm : List String := ["DONE", "UNSOLVABLE", "TOO_HARD", "REFUSED"]
theorem s_E {s : State} {args : Array Value} (hts : ∀ w ∈ lw_tbl, w.before args s = true) (hfl : ∀ w ∈ lw_fl, w.before args s = true) : ∃ ad : Nat → Nat, va_En "BundleHall$Outcome" "LBundleHall$Outcome;" lw_nm [] ad (fun q : Nat => s.heap.size ≤ q) s s.heap := by
  have k1 : ∀ i, i < 4 → (Cond.laysStatic "BundleHall$Outcome" (lw_nm.getD i "") "LBundleHall$Outcome;") ∈ lw_tbl := by decide +kernel
  have k2 : (Cond.initialized "BundleHall$Outcome") ∈ lw_tbl := by decide +kernel
  have k3 : ∀ i, i < 4 → (Cond.exactly (.static "BundleHall$Outcome" (lw_nm.getD i "") "LBundleHall$Outcome;") "BundleHall$Outcome") ∈ lw_fl := by decide +kernel
  have k4 : ∀ i, i < 4 → ∀ j, j < 4 → i ≠ j → (Cond.not (.eq (.static "BundleHall$Outcome" (lw_nm.getD i "") "LBundleHall$Outcome;") (.static "BundleHall$Outcome" (lw_nm.getD j "") "LBundleHall$Outcome;"))) ∈ lw_fl ∨ (Cond.not (.eq (.static "BundleHall$Outcome" (lw_nm.getD j "") "LBundleHall$Outcome;") (.static "BundleHall$Outcome" (lw_nm.getD i "") "LBundleHall$Outcome;"))) ∈ lw_fl := by decide +kernel
  refine va_Enof (args := args) (fun i hi => hts _ (k1 i hi)) (hts _ k2) (fun i hi => hfl _ (k3 i hi)) (fun q hq => absurd hq List.not_mem_nil) (fun i j hi hj hij => ?_) (fun a ha => Nat.not_le.mpr ha)
  rcases k4 i hi j hj hij with q | q
  · exact Or.inl (hfl _ q)
  · exact Or.inr (hfl _ q)
theorem s_S {s : State} {args : Array Value} (hts : ∀ w ∈ lw_tbl, w.before args s = true) (hfl : ∀ w ∈ lw_fl, w.before args s = true) : ∀ i tx, (i, tx) ∈ bh_strs → ∃ sa, vk_R "BundleHall" i tx sa s := by
  have k1 : ∀ q ∈ bh_strs, (Cond.stringRef "BundleHall" q.1 q.2) ∈ lw_tbl ∧ (Cond.exactly (.string "BundleHall" q.1) "java/lang/String") ∈ lw_fl := by decide +kernel
  intro i tx h
  obtain ⟨h1, h2⟩ := k1 (i, tx) h
  obtain ⟨a, c, cell, k, q1, -⟩ := Cond.exactly_spec (hfl _ h2)
  exact ⟨a, vk_R.of (hts _ h1) q1⟩
theorem s_X {s : State} {args : Array Value} (hts : ∀ w ∈ lw_tbl, w.before args s = true) (hfl : ∀ w ∈ lw_fl, w.before args s = true) : (∀ w ∈ bh_xws, va_Nw w s) ∧ (∀ C ∈ bh_aos, va_AO C s) ∧ ∀ q ∈ bh_ncs, va_Nc q.1 q.2 s := by
  have k1 : ∀ w ∈ bh_xws, w ∈ lw_tbl ∧ w.onTables = true := by decide +kernel
  have k2 : ∀ C ∈ bh_aos, (Cond.arrayOver (.object C)) ∈ lw_tbl := by decide +kernel
  have k3 : ∀ q ∈ bh_ncs, (Cond.not (.castable q.1 q.2)) ∈ lw_fl := by decide +kernel
  exact ⟨fun w hw => va_Nw.of (k1 w hw).2 (hts _ (k1 w hw).1), fun C hC => va_AO.of (hts _ (k2 C hC)), fun q hq => va_Nc.of (hfl _ (k3 q hq))⟩
theorem s_Bg {s : State} {args : Array Value} {b L : Nat} {xs : Nat → Int32} (hts : ∀ w ∈ lw_tbl, w.before args s = true) (hfl : ∀ w ∈ lw_fl, w.before args s = true) (hX : va_X b L xs s s.heap) (hbl : b < s.heap.size) : ∃ G : bh_G, bh_Bg G s.heap.size b L xs s := by
  have hw : ∀ w ∈ bh_ws, w.before args s = true := fun w h => hts w (List.mem_filter.mp h).1
  have kH : (Cond.instantiable R_H 5) ∈ lw_tbl := by decide +kernel
  have kM : (Cond.instantiable R_M 40) ∈ lw_tbl := by decide +kernel
  have k2 : ∀ C ∈ bh_aos, (Cond.arrayOver (.object C)) ∈ lw_tbl := by decide +kernel
  have k3 : (Cond.laysStatic Bundle.tN "UNASSIGNED_STACK" Bundle.steD) ∈ lw_tbl := by decide +kernel
  have k4 : (Cond.laysStatic Bundle.tN "SUPPRESSED_SENTINEL" Bundle.listD) ∈ lw_tbl := by decide +kernel
  have k5 : (Cond.isRef (.static Bundle.tN "UNASSIGNED_STACK" Bundle.steD)) ∈ lw_fl := by decide +kernel
  have k6 : (Cond.isRef (.static Bundle.tN "SUPPRESSED_SENTINEL" Bundle.listD)) ∈ lw_fl := by decide +kernel
  obtain ⟨dC, dI, hK⟩ := s_K hw (hts _ kH) (hts _ kM)
  obtain ⟨f, hf⟩ := s_A hw (fun C hC => hts _ (k2 C hC))
  obtain ⟨ad, hE⟩ := s_E hts hfl
  obtain ⟨x1, x2, x3⟩ := s_X hts hfl
  refine ⟨(dC, dI, f, fun t x => if t = 1 then b else ad (x - 1)), hK, hf, ?_, ?_, s_lay (hts _ k3) (hfl _ k5), s_lay (hts _ k4) (hfl _ k6), s_S hts hfl, hX, hbl, rfl, x1, x2, x3⟩
  · intro x h1 h2
    have : x = 1 ∨ x = 2 ∨ x = 3 ∨ x = 4 := by omega
    rcases this with rfl | rfl | rfl | rfl
    · exact (hE.1 0 (by decide)).1
    · exact (hE.1 1 (by decide)).1
    · exact (hE.1 2 (by decide)).1
    · exact (hE.1 3 (by decide)).1
  · intro x y h1 h2 h3 h4 e
    have e' : ad (x - 1) = ad (y - 1) := e
    have := hE.2 (x - 1) (y - 1) (show x - 1 < 4 from by omega) (show y - 1 < 4 from by omega) e'
    omega
