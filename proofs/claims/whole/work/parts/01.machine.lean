/-! THE ABSTRACT MACHINE: a value is a plain value or an object (tag, number); number 0 is null. The memory: ints, longs, doubles, references (the number of an object of a tag that the place fixes), and how many objects of each tag there are. -/
abbrev bh_V : Type := Value ⊕ (Nat × Nat)
abbrev bh_M : Type := (Nat → Nat → Nat → Int32) × (Nat → Nat → Nat → Int64) × (Nat → Nat → Nat → UInt64) × (Nat → Nat → Nat → Nat) × (Nat → Nat)
def bh_I (M : bh_M) : Nat → Nat → Nat → Int32 := M.1
def bh_J (M : bh_M) : Nat → Nat → Nat → Int64 := M.2.1
def bh_D (M : bh_M) : Nat → Nat → Nat → UInt64 := M.2.2.1
def bh_R (M : bh_M) : Nat → Nat → Nat → Nat := M.2.2.2.1
def bh_C (M : bh_M) : Nat → Nat := M.2.2.2.2
def bh_up {α : Type} (f : Nat → Nat → Nat → α) (t x j : Nat) (v : α) : Nat → Nat → Nat → α := fun a b c => if a = t ∧ b = x ∧ c = j then v else f a b c
def bh_sI (M : bh_M) (t x j : Nat) (v : Int32) : bh_M := (bh_up M.1 t x j v, M.2.1, M.2.2.1, M.2.2.2.1, M.2.2.2.2)
def bh_sJ (M : bh_M) (t x j : Nat) (v : Int64) : bh_M := (M.1, bh_up M.2.1 t x j v, M.2.2.1, M.2.2.2.1, M.2.2.2.2)
def bh_sD (M : bh_M) (t x j : Nat) (v : UInt64) : bh_M := (M.1, M.2.1, bh_up M.2.2.1 t x j v, M.2.2.2.1, M.2.2.2.2)
def bh_sR (M : bh_M) (t x j : Nat) (v : Nat) : bh_M := (M.1, M.2.1, M.2.2.1, bh_up M.2.2.2.1 t x j v, M.2.2.2.2)
/-- one object more of the tag t, blank -/
def bh_nw (M : bh_M) (t : Nat) : bh_M :=
  (fun a b c => if a = t ∧ b = M.2.2.2.2 t + 1 then 0 else M.1 a b c, fun a b c => if a = t ∧ b = M.2.2.2.2 t + 1 then 0 else M.2.1 a b c, fun a b c => if a = t ∧ b = M.2.2.2.2 t + 1 then 0 else M.2.2.1 a b c, fun a b c => if a = t ∧ b = M.2.2.2.2 t + 1 then 0 else M.2.2.2.1 a b c, fun a => if a = t then M.2.2.2.2 t + 1 else M.2.2.2.2 a)
/-- locals, operand stack, memory, cells made so far -/
abbrev bh_S : Type := List (Option bh_V) × List bh_V × bh_M × Nat
/-- an end: returned (something or nothing) or thrown, and the memory -/
abbrev bh_F : Type := (Option bh_V ⊕ String) × bh_M
abbrev bh_Op : Type := bh_S → (Nat × bh_S → Prop) → (bh_F → Prop) → Prop
def bh_mono (o : bh_Op) : Prop := ∀ (S : bh_S) (K K' : Nat × bh_S → Prop) (Z Z' : bh_F → Prop), (∀ y, K y → K' y) → (∀ f, Z f → Z' f) → o S K Z → o S K' Z'
/-- the machine with the table T comes from y to an end with Z: the least such predicate -/
def bh_wp (T : Nat → bh_Op) (y : Nat × bh_S) (Z : bh_F → Prop) : Prop := ∀ X : Nat × bh_S → Prop, (∀ (pc : Nat) (S : bh_S), T pc S X Z → X (pc, S)) → X y
theorem bh_step {T : Nat → bh_Op} (hT : ∀ pc, bh_mono (T pc)) {pc : Nat} {S : bh_S} {Z : bh_F → Prop} (h : T pc S (fun y => bh_wp T y Z) Z) : bh_wp T (pc, S) Z := by
  intro X hX
  exact hX pc S (hT pc S _ _ _ _ (fun y hy => hy X hX) (fun _ hf => hf) h)
theorem bh_wp_mono {T : Nat → bh_Op} (hT : ∀ pc, bh_mono (T pc)) {y : Nat × bh_S} {Z Z' : bh_F → Prop} (hZ : ∀ f, Z f → Z' f) (h : bh_wp T y Z) : bh_wp T y Z' := by
  intro X hX
  exact h X (fun pc S hs => hX pc S (hT pc S _ _ _ _ (fun _ hy => hy) hZ hs))
/-- n steps at once -/
def bh_wn (T : Nat → bh_Op) : Nat → Nat × bh_S → (bh_F → Prop) → Prop
  | 0, y, Z => bh_wp T y Z
  | n + 1, y, Z => T y.1 y.2 (fun y' => bh_wn T n y' Z) Z
theorem bh_of_wn {T : Nat → bh_Op} (hT : ∀ pc, bh_mono (T pc)) : ∀ (n : Nat) {y : Nat × bh_S} {Z : bh_F → Prop}, bh_wn T n y Z → bh_wp T y Z
  | 0, _, _, h => h
  | n + 1, y, Z, h => bh_step hT (pc := y.1) (S := y.2) (hT y.1 y.2 _ _ _ _ (fun _ hy => bh_of_wn hT n hy) (fun _ hf => hf) h)
/-- a called method -/
abbrev bh_Fn : Type := List bh_V → bh_M → (bh_F → Prop) → Prop
def bh_monoF (F : bh_Fn) : Prop := ∀ (a : List bh_V) (M : bh_M) (Z Z' : bh_F → Prop), (∀ f, Z f → Z' f) → F a M Z → F a M Z'
def bh_cat : bh_V → Nat
  | .inl v => v.category
  | .inr _ => 1
def bh_args : List bh_V → List (Option bh_V)
  | [] => []
  | v :: r => if bh_cat v = 2 then some v :: none :: bh_args r else some v :: bh_args r
def bh_init (n : Nat) (a : List bh_V) (M : bh_M) : bh_S := (bh_args a ++ List.replicate (n - (bh_args a).length) none, [], M, 0)
-- the operations
/-- a pure operation on the stack; n is the next instruction's place -/
def bo_st (n : Nat) (g : List bh_V → (List bh_V → Prop) → Prop) : bh_Op := fun S K _ => g S.2.1 (fun r => K (n, S.1, r, S.2.2))
def bh_gmono (g : List bh_V → (List bh_V → Prop) → Prop) : Prop := ∀ st k k', (∀ r, k r → k' r) → g st k → g st k'
theorem bo_st_mono {n : Nat} {g : List bh_V → (List bh_V → Prop) → Prop} (hg : bh_gmono g) : bh_mono (bo_st n g) := fun _ _ _ _ _ hK _ h => hg _ _ _ (fun _ hr => hK _ hr) h
def bg_push (v : bh_V) : List bh_V → (List bh_V → Prop) → Prop := fun st k => k (v :: st)
def bg_ii (f : Int32 → Int32 → Int32) : List bh_V → (List bh_V → Prop) → Prop
  | .inl (.int y) :: .inl (.int x) :: r, k => k (.inl (.int (f x y)) :: r)
  | _, _ => False
/-- division and remainder: the divisor isn't 0 -/
def bg_dv (f : Int32 → Int32 → Int32) : List bh_V → (List bh_V → Prop) → Prop
  | .inl (.int y) :: .inl (.int x) :: r, k => ¬ y = 0 ∧ k (.inl (.int (f x y)) :: r)
  | _, _ => False
def bg_i1 (f : Int32 → bh_V) : List bh_V → (List bh_V → Prop) → Prop
  | .inl (.int x) :: r, k => k (f x :: r)
  | _, _ => False
def bg_dd (f : UInt64 → UInt64 → UInt64) : List bh_V → (List bh_V → Prop) → Prop
  | .inl (.double y) :: .inl (.double x) :: r, k => vf_n64 (f x y) ∧ k (.inl (.double (f x y)) :: r)
  | _, _ => False
def bg_dc (f : UInt64 → UInt64 → Int32) : List bh_V → (List bh_V → Prop) → Prop
  | .inl (.double y) :: .inl (.double x) :: r, k => k (.inl (.int (f x y)) :: r)
  | _, _ => False
def bg_lc (f : Int64 → Int64 → Int32) : List bh_V → (List bh_V → Prop) → Prop
  | .inl (.long y) :: .inl (.long x) :: r, k => k (.inl (.int (f x y)) :: r)
  | _, _ => False
def bg_dup : List bh_V → (List bh_V → Prop) → Prop
  | v :: r, k => bh_cat v = 1 ∧ k (v :: v :: r)
  | _, _ => False
def bg_dup2 : List bh_V → (List bh_V → Prop) → Prop
  | v :: w :: r, k => bh_cat v = 1 ∧ bh_cat w = 1 ∧ k (v :: w :: v :: w :: r)
  | _, _ => False
def bg_dup_x1 : List bh_V → (List bh_V → Prop) → Prop
  | v :: w :: r, k => bh_cat v = 1 ∧ bh_cat w = 1 ∧ k (v :: w :: v :: r)
  | _, _ => False
def bg_pop : List bh_V → (List bh_V → Prop) → Prop
  | v :: r, k => bh_cat v = 1 ∧ k r
  | _, _ => False
theorem bg_push_m (v : bh_V) : bh_gmono (bg_push v) := fun _ _ _ h q => h _ q
theorem bg_ii_m (f : Int32 → Int32 → Int32) : bh_gmono (bg_ii f) := by
  intro st k k' h q
  unfold bg_ii at q ⊢
  split at q
  · exact h _ q
  · exact q.elim
theorem bg_dv_m (f : Int32 → Int32 → Int32) : bh_gmono (bg_dv f) := by
  intro st k k' h q
  unfold bg_dv at q ⊢
  split at q
  · exact ⟨q.1, h _ q.2⟩
  · exact q.elim
theorem bg_i1_m (f : Int32 → bh_V) : bh_gmono (bg_i1 f) := by
  intro st k k' h q
  unfold bg_i1 at q ⊢
  split at q
  · exact h _ q
  · exact q.elim
theorem bg_dd_m (f : UInt64 → UInt64 → UInt64) : bh_gmono (bg_dd f) := by
  intro st k k' h q
  unfold bg_dd at q ⊢
  split at q
  · exact ⟨q.1, h _ q.2⟩
  · exact q.elim
theorem bg_dc_m (f : UInt64 → UInt64 → Int32) : bh_gmono (bg_dc f) := by
  intro st k k' h q
  unfold bg_dc at q ⊢
  split at q
  · exact h _ q
  · exact q.elim
theorem bg_lc_m (f : Int64 → Int64 → Int32) : bh_gmono (bg_lc f) := by
  intro st k k' h q
  unfold bg_lc at q ⊢
  split at q
  · exact h _ q
  · exact q.elim
theorem bg_dup_m : bh_gmono bg_dup := by
  intro st k k' h q
  unfold bg_dup at q ⊢
  split at q
  · exact ⟨q.1, h _ q.2⟩
  · exact q.elim
theorem bg_dup2_m : bh_gmono bg_dup2 := by
  intro st k k' h q
  unfold bg_dup2 at q ⊢
  split at q
  · exact ⟨q.1, q.2.1, h _ q.2.2⟩
  · exact q.elim
theorem bg_dup_x1_m : bh_gmono bg_dup_x1 := by
  intro st k k' h q
  unfold bg_dup_x1 at q ⊢
  split at q
  · exact ⟨q.1, q.2.1, h _ q.2.2⟩
  · exact q.elim
theorem bg_pop_m : bh_gmono bg_pop := by
  intro st k k' h q
  unfold bg_pop at q ⊢
  split at q
  · exact ⟨q.1, h _ q.2⟩
  · exact q.elim
/-- loads: by the kind of the value -/
def bo_ild (n i : Nat) : bh_Op := fun S K _ => match S.1[i]? with
  | some (some (.inl (.int x))) => K (n, S.1, .inl (.int x) :: S.2.1, S.2.2)
  | _ => False
def bo_dld (n i : Nat) : bh_Op := fun S K _ => match S.1[i]? with
  | some (some (.inl (.double x))) => K (n, S.1, .inl (.double x) :: S.2.1, S.2.2)
  | _ => False
def bo_ald (n i : Nat) : bh_Op := fun S K _ => match S.1[i]? with
  | some (some (.inr q)) => K (n, S.1, .inr q :: S.2.1, S.2.2)
  | _ => False
theorem bo_ild_m (n i : Nat) : bh_mono (bo_ild n i) := by
  intro S K K' Z Z' hK hZ q
  unfold bo_ild at q ⊢
  split at q
  · exact hK _ q
  · exact q.elim
theorem bo_dld_m (n i : Nat) : bh_mono (bo_dld n i) := by
  intro S K K' Z Z' hK hZ q
  unfold bo_dld at q ⊢
  split at q
  · exact hK _ q
  · exact q.elim
theorem bo_ald_m (n i : Nat) : bh_mono (bo_ald n i) := by
  intro S K K' Z Z' hK hZ q
  unfold bo_ald at q ⊢
  split at q
  · exact hK _ q
  · exact q.elim
/-- the place below i holds no value of two words -/
def bh_free (L : List (Option bh_V)) (i : Nat) : Bool := i == 0 || (match L[i - 1]? with
  | some (some v) => bh_cat v == 1
  | _ => true)
def bo_ist (n i : Nat) : bh_Op := fun S K _ => match S.2.1 with
  | .inl (.int x) :: r => bh_free S.1 i = true ∧ i < S.1.length ∧ K (n, S.1.set i (some (.inl (.int x))), r, S.2.2)
  | _ => False
def bo_ast (n i : Nat) : bh_Op := fun S K _ => match S.2.1 with
  | .inr q :: r => bh_free S.1 i = true ∧ i < S.1.length ∧ K (n, S.1.set i (some (.inr q)), r, S.2.2)
  | _ => False
def bo_dst (n i : Nat) : bh_Op := fun S K _ => match S.2.1 with
  | .inl (.double x) :: r => bh_free S.1 i = true ∧ i + 1 < S.1.length ∧ K (n, (S.1.set i (some (.inl (.double x)))).set (i + 1) none, r, S.2.2)
  | _ => False
def bo_inc (n i : Nat) (d : Int32) : bh_Op := fun S K _ => match S.1[i]? with
  | some (some (.inl (.int x))) => bh_free S.1 i = true ∧ i < S.1.length ∧ K (n, S.1.set i (some (.inl (.int (x + d)))), S.2.1, S.2.2)
  | _ => False
theorem bo_ist_m (n i : Nat) : bh_mono (bo_ist n i) := by
  intro S K K' Z Z' hK hZ q
  unfold bo_ist at q ⊢
  split at q
  · exact ⟨q.1, q.2.1, hK _ q.2.2⟩
  · exact q.elim
theorem bo_ast_m (n i : Nat) : bh_mono (bo_ast n i) := by
  intro S K K' Z Z' hK hZ q
  unfold bo_ast at q ⊢
  split at q
  · exact ⟨q.1, q.2.1, hK _ q.2.2⟩
  · exact q.elim
theorem bo_dst_m (n i : Nat) : bh_mono (bo_dst n i) := by
  intro S K K' Z Z' hK hZ q
  unfold bo_dst at q ⊢
  split at q
  · exact ⟨q.1, q.2.1, hK _ q.2.2⟩
  · exact q.elim
theorem bo_inc_m (n i : Nat) (d : Int32) : bh_mono (bo_inc n i d) := by
  intro S K K' Z Z' hK hZ q
  unfold bo_inc at q ⊢
  split at q
  · exact ⟨q.1, q.2.1, hK _ q.2.2⟩
  · exact q.elim
/-- branches: to t if the condition holds, else to n -/
def bo_if1 (n t : Nat) (P : Int32 → Prop) : bh_Op := fun S K _ => match S.2.1 with
  | .inl (.int x) :: r => (P x → K (t, S.1, r, S.2.2)) ∧ (¬ P x → K (n, S.1, r, S.2.2))
  | _ => False
def bo_if2 (n t : Nat) (P : Int32 → Int32 → Prop) : bh_Op := fun S K _ => match S.2.1 with
  | .inl (.int y) :: .inl (.int x) :: r => (P x y → K (t, S.1, r, S.2.2)) ∧ (¬ P x y → K (n, S.1, r, S.2.2))
  | _ => False
def bo_go (t : Nat) : bh_Op := fun S K _ => K (t, S)
/-- switches -/
def bo_sw (cs : List (Int32 × Nat)) (d : Nat) : bh_Op := fun S K _ => match S.2.1 with
  | .inl (.int x) :: r => (∀ q ∈ cs, x = q.1 → K (q.2, S.1, r, S.2.2)) ∧ ((∀ q ∈ cs, ¬ x = q.1) → K (d, S.1, r, S.2.2))
  | _ => False
theorem bo_if1_m (n t : Nat) (P : Int32 → Prop) : bh_mono (bo_if1 n t P) := by
  intro S K K' Z Z' hK hZ q
  unfold bo_if1 at q ⊢
  split at q
  · exact ⟨fun h => hK _ (q.1 h), fun h => hK _ (q.2 h)⟩
  · exact q.elim
theorem bo_if2_m (n t : Nat) (P : Int32 → Int32 → Prop) : bh_mono (bo_if2 n t P) := by
  intro S K K' Z Z' hK hZ q
  unfold bo_if2 at q ⊢
  split at q
  · exact ⟨fun h => hK _ (q.1 h), fun h => hK _ (q.2 h)⟩
  · exact q.elim
theorem bo_go_m (t : Nat) : bh_mono (bo_go t) := fun _ _ _ _ _ hK _ q => hK _ q
theorem bo_sw_m (cs : List (Int32 × Nat)) (d : Nat) : bh_mono (bo_sw cs d) := by
  intro S K K' Z Z' hK hZ q
  unfold bo_sw at q ⊢
  split at q
  · exact ⟨fun z hz h => hK _ (q.1 z hz h), fun h => hK _ (q.2 h)⟩
  · exact q.elim
/-- fields: tag t, place j -/
def bo_gI (n t j : Nat) : bh_Op := fun S K _ => match S.2.1 with
  | .inr (t', x) :: r => t' = t ∧ 1 ≤ x ∧ x ≤ bh_C S.2.2.1 t ∧ K (n, S.1, .inl (.int (bh_I S.2.2.1 t x j)) :: r, S.2.2)
  | _ => False
def bo_gD (n t j : Nat) : bh_Op := fun S K _ => match S.2.1 with
  | .inr (t', x) :: r => t' = t ∧ 1 ≤ x ∧ x ≤ bh_C S.2.2.1 t ∧ K (n, S.1, .inl (.double (bh_D S.2.2.1 t x j)) :: r, S.2.2)
  | _ => False
def bo_gR (n t j k : Nat) : bh_Op := fun S K _ => match S.2.1 with
  | .inr (t', x) :: r => t' = t ∧ 1 ≤ x ∧ x ≤ bh_C S.2.2.1 t ∧ K (n, S.1, .inr (k, bh_R S.2.2.1 t x j) :: r, S.2.2)
  | _ => False
def bo_pI (n t j : Nat) : bh_Op := fun S K _ => match S.2.1 with
  | .inl (.int v) :: .inr (t', x) :: r => t' = t ∧ 1 ≤ x ∧ x ≤ bh_C S.2.2.1 t ∧ K (n, S.1, r, bh_sI S.2.2.1 t x j v, S.2.2.2)
  | _ => False
def bo_pZ (n t j : Nat) : bh_Op := fun S K _ => match S.2.1 with
  | .inl (.int v) :: .inr (t', x) :: r => t' = t ∧ 1 ≤ x ∧ x ≤ bh_C S.2.2.1 t ∧ (v = 0 ∨ v = 1) ∧ K (n, S.1, r, bh_sI S.2.2.1 t x j v, S.2.2.2)
  | _ => False
def bo_pD (n t j : Nat) : bh_Op := fun S K _ => match S.2.1 with
  | .inl (.double v) :: .inr (t', x) :: r => t' = t ∧ 1 ≤ x ∧ x ≤ bh_C S.2.2.1 t ∧ K (n, S.1, r, bh_sD S.2.2.1 t x j v, S.2.2.2)
  | _ => False
def bo_pR (n t j k : Nat) : bh_Op := fun S K _ => match S.2.1 with
  | .inr (k', y) :: .inr (t', x) :: r => t' = t ∧ 1 ≤ x ∧ x ≤ bh_C S.2.2.1 t ∧ k' = k ∧ 1 ≤ y ∧ y ≤ bh_C S.2.2.1 k ∧ K (n, S.1, r, bh_sR S.2.2.1 t x j y, S.2.2.2)
  | _ => False
theorem bo_gI_m (n t j : Nat) : bh_mono (bo_gI n t j) := by
  intro S K K' Z Z' hK hZ q
  unfold bo_gI at q ⊢
  split at q
  · exact ⟨q.1, q.2.1, q.2.2.1, hK _ q.2.2.2⟩
  · exact q.elim
theorem bo_gD_m (n t j : Nat) : bh_mono (bo_gD n t j) := by
  intro S K K' Z Z' hK hZ q
  unfold bo_gD at q ⊢
  split at q
  · exact ⟨q.1, q.2.1, q.2.2.1, hK _ q.2.2.2⟩
  · exact q.elim
theorem bo_gR_m (n t j k : Nat) : bh_mono (bo_gR n t j k) := by
  intro S K K' Z Z' hK hZ q
  unfold bo_gR at q ⊢
  split at q
  · exact ⟨q.1, q.2.1, q.2.2.1, hK _ q.2.2.2⟩
  · exact q.elim
theorem bo_pI_m (n t j : Nat) : bh_mono (bo_pI n t j) := by
  intro S K K' Z Z' hK hZ q
  unfold bo_pI at q ⊢
  split at q
  · exact ⟨q.1, q.2.1, q.2.2.1, hK _ q.2.2.2⟩
  · exact q.elim
theorem bo_pZ_m (n t j : Nat) : bh_mono (bo_pZ n t j) := by
  intro S K K' Z Z' hK hZ q
  unfold bo_pZ at q ⊢
  split at q
  · exact ⟨q.1, q.2.1, q.2.2.1, q.2.2.2.1, hK _ q.2.2.2.2⟩
  · exact q.elim
theorem bo_pD_m (n t j : Nat) : bh_mono (bo_pD n t j) := by
  intro S K K' Z Z' hK hZ q
  unfold bo_pD at q ⊢
  split at q
  · exact ⟨q.1, q.2.1, q.2.2.1, hK _ q.2.2.2⟩
  · exact q.elim
theorem bo_pR_m (n t j k : Nat) : bh_mono (bo_pR n t j k) := by
  intro S K K' Z Z' hK hZ q
  unfold bo_pR at q ⊢
  split at q
  · exact ⟨q.1, q.2.1, q.2.2.1, q.2.2.2.1, q.2.2.2.2.1, q.2.2.2.2.2.1, hK _ q.2.2.2.2.2.2⟩
  · exact q.elim
/-- arrays: ak t tells the kind of the arrays of tag t (1 int, 2 boolean, 3 long, 4 double, 5 + k references to tag k, 0 none), al t their length -/
def bo_Iald (ak al : Nat → Nat) (n : Nat) : bh_Op := fun S K _ => match S.2.1 with
  | .inl (.int i) :: .inr (t, x) :: r => ak t = 1 ∧ 1 ≤ x ∧ x ≤ bh_C S.2.2.1 t ∧ vp_in i (al t) ∧ K (n, S.1, .inl (.int (bh_I S.2.2.1 t x i.toNatClampNeg)) :: r, S.2.2)
  | _ => False
def bo_Zald (ak al : Nat → Nat) (n : Nat) : bh_Op := fun S K _ => match S.2.1 with
  | .inl (.int i) :: .inr (t, x) :: r => ak t = 2 ∧ 1 ≤ x ∧ x ≤ bh_C S.2.2.1 t ∧ vp_in i (al t) ∧ K (n, S.1, .inl (.int (bh_I S.2.2.1 t x i.toNatClampNeg)) :: r, S.2.2)
  | _ => False
def bo_Jald (ak al : Nat → Nat) (n : Nat) : bh_Op := fun S K _ => match S.2.1 with
  | .inl (.int i) :: .inr (t, x) :: r => ak t = 3 ∧ 1 ≤ x ∧ x ≤ bh_C S.2.2.1 t ∧ vp_in i (al t) ∧ K (n, S.1, .inl (.long (bh_J S.2.2.1 t x i.toNatClampNeg)) :: r, S.2.2)
  | _ => False
def bo_Dald (ak al : Nat → Nat) (n : Nat) : bh_Op := fun S K _ => match S.2.1 with
  | .inl (.int i) :: .inr (t, x) :: r => ak t = 4 ∧ 1 ≤ x ∧ x ≤ bh_C S.2.2.1 t ∧ vp_in i (al t) ∧ K (n, S.1, .inl (.double (bh_D S.2.2.1 t x i.toNatClampNeg)) :: r, S.2.2)
  | _ => False
def bo_Rald (ak al : Nat → Nat) (n : Nat) : bh_Op := fun S K _ => match S.2.1 with
  | .inl (.int i) :: .inr (t, x) :: r => 5 ≤ ak t ∧ 1 ≤ x ∧ x ≤ bh_C S.2.2.1 t ∧ vp_in i (al t) ∧ K (n, S.1, .inr (ak t - 5, bh_R S.2.2.1 t x i.toNatClampNeg) :: r, S.2.2)
  | _ => False
def bo_Iast (ak al : Nat → Nat) (n : Nat) : bh_Op := fun S K _ => match S.2.1 with
  | .inl (.int v) :: .inl (.int i) :: .inr (t, x) :: r => ak t = 1 ∧ 1 ≤ x ∧ x ≤ bh_C S.2.2.1 t ∧ vp_in i (al t) ∧ K (n, S.1, r, bh_sI S.2.2.1 t x i.toNatClampNeg v, S.2.2.2)
  | _ => False
def bo_Zast (ak al : Nat → Nat) (n : Nat) : bh_Op := fun S K _ => match S.2.1 with
  | .inl (.int v) :: .inl (.int i) :: .inr (t, x) :: r => ak t = 2 ∧ 1 ≤ x ∧ x ≤ bh_C S.2.2.1 t ∧ vp_in i (al t) ∧ (v = 0 ∨ v = 1) ∧ K (n, S.1, r, bh_sI S.2.2.1 t x i.toNatClampNeg v, S.2.2.2)
  | _ => False
def bo_Jast (ak al : Nat → Nat) (n : Nat) : bh_Op := fun S K _ => match S.2.1 with
  | .inl (.long v) :: .inl (.int i) :: .inr (t, x) :: r => ak t = 3 ∧ 1 ≤ x ∧ x ≤ bh_C S.2.2.1 t ∧ vp_in i (al t) ∧ K (n, S.1, r, bh_sJ S.2.2.1 t x i.toNatClampNeg v, S.2.2.2)
  | _ => False
def bo_Dast (ak al : Nat → Nat) (n : Nat) : bh_Op := fun S K _ => match S.2.1 with
  | .inl (.double v) :: .inl (.int i) :: .inr (t, x) :: r => ak t = 4 ∧ 1 ≤ x ∧ x ≤ bh_C S.2.2.1 t ∧ vp_in i (al t) ∧ K (n, S.1, r, bh_sD S.2.2.1 t x i.toNatClampNeg v, S.2.2.2)
  | _ => False
def bo_Rast (ak al : Nat → Nat) (n : Nat) : bh_Op := fun S K _ => match S.2.1 with
  | .inr (k, y) :: .inl (.int i) :: .inr (t, x) :: r => ak t = 5 + k ∧ 1 ≤ x ∧ x ≤ bh_C S.2.2.1 t ∧ 1 ≤ y ∧ y ≤ bh_C S.2.2.1 k ∧ vp_in i (al t) ∧ K (n, S.1, r, bh_sR S.2.2.1 t x i.toNatClampNeg y, S.2.2.2)
  | _ => False
def bo_len (ak al : Nat → Nat) (n : Nat) : bh_Op := fun S K _ => match S.2.1 with
  | .inr (t, x) :: r => 1 ≤ ak t ∧ 1 ≤ x ∧ x ≤ bh_C S.2.2.1 t ∧ K (n, S.1, .inl (.int (nI (al t))) :: r, S.2.2)
  | _ => False
theorem bo_Iald_m (ak al : Nat → Nat) (n : Nat) : bh_mono (bo_Iald ak al n) := by
  intro S K K' Z Z' hK hZ q
  unfold bo_Iald at q ⊢
  split at q
  · exact ⟨q.1, q.2.1, q.2.2.1, q.2.2.2.1, hK _ q.2.2.2.2⟩
  · exact q.elim
theorem bo_Zald_m (ak al : Nat → Nat) (n : Nat) : bh_mono (bo_Zald ak al n) := by
  intro S K K' Z Z' hK hZ q
  unfold bo_Zald at q ⊢
  split at q
  · exact ⟨q.1, q.2.1, q.2.2.1, q.2.2.2.1, hK _ q.2.2.2.2⟩
  · exact q.elim
theorem bo_Jald_m (ak al : Nat → Nat) (n : Nat) : bh_mono (bo_Jald ak al n) := by
  intro S K K' Z Z' hK hZ q
  unfold bo_Jald at q ⊢
  split at q
  · exact ⟨q.1, q.2.1, q.2.2.1, q.2.2.2.1, hK _ q.2.2.2.2⟩
  · exact q.elim
theorem bo_Dald_m (ak al : Nat → Nat) (n : Nat) : bh_mono (bo_Dald ak al n) := by
  intro S K K' Z Z' hK hZ q
  unfold bo_Dald at q ⊢
  split at q
  · exact ⟨q.1, q.2.1, q.2.2.1, q.2.2.2.1, hK _ q.2.2.2.2⟩
  · exact q.elim
theorem bo_Rald_m (ak al : Nat → Nat) (n : Nat) : bh_mono (bo_Rald ak al n) := by
  intro S K K' Z Z' hK hZ q
  unfold bo_Rald at q ⊢
  split at q
  · exact ⟨q.1, q.2.1, q.2.2.1, q.2.2.2.1, hK _ q.2.2.2.2⟩
  · exact q.elim
theorem bo_Iast_m (ak al : Nat → Nat) (n : Nat) : bh_mono (bo_Iast ak al n) := by
  intro S K K' Z Z' hK hZ q
  unfold bo_Iast at q ⊢
  split at q
  · exact ⟨q.1, q.2.1, q.2.2.1, q.2.2.2.1, hK _ q.2.2.2.2⟩
  · exact q.elim
theorem bo_Zast_m (ak al : Nat → Nat) (n : Nat) : bh_mono (bo_Zast ak al n) := by
  intro S K K' Z Z' hK hZ q
  unfold bo_Zast at q ⊢
  split at q
  · exact ⟨q.1, q.2.1, q.2.2.1, q.2.2.2.1, q.2.2.2.2.1, hK _ q.2.2.2.2.2⟩
  · exact q.elim
theorem bo_Jast_m (ak al : Nat → Nat) (n : Nat) : bh_mono (bo_Jast ak al n) := by
  intro S K K' Z Z' hK hZ q
  unfold bo_Jast at q ⊢
  split at q
  · exact ⟨q.1, q.2.1, q.2.2.1, q.2.2.2.1, hK _ q.2.2.2.2⟩
  · exact q.elim
theorem bo_Dast_m (ak al : Nat → Nat) (n : Nat) : bh_mono (bo_Dast ak al n) := by
  intro S K K' Z Z' hK hZ q
  unfold bo_Dast at q ⊢
  split at q
  · exact ⟨q.1, q.2.1, q.2.2.1, q.2.2.2.1, hK _ q.2.2.2.2⟩
  · exact q.elim
theorem bo_Rast_m (ak al : Nat → Nat) (n : Nat) : bh_mono (bo_Rast ak al n) := by
  intro S K K' Z Z' hK hZ q
  unfold bo_Rast at q ⊢
  split at q
  · exact ⟨q.1, q.2.1, q.2.2.1, q.2.2.2.1, q.2.2.2.2.1, q.2.2.2.2.2.1, hK _ q.2.2.2.2.2.2⟩
  · exact q.elim
theorem bo_len_m (ak al : Nat → Nat) (n : Nat) : bh_mono (bo_len ak al n) := by
  intro S K K' Z Z' hK hZ q
  unfold bo_len at q ⊢
  split at q
  · exact ⟨q.1, q.2.1, q.2.2.1, hK _ q.2.2.2⟩
  · exact q.elim
/-- a value that is no object beyond those there are -/
def bh_ok (M : bh_M) : bh_V → Prop
  | .inl _ => True
  | .inr (t, x) => x ≤ bh_C M t
def bh_oks (S : bh_S) : Prop := (∀ v, some v ∈ S.1 → bh_ok S.2.2.1 v) ∧ ∀ v ∈ S.2.1, bh_ok S.2.2.1 v
/-- new objects and arrays: of tag t; C the cells that the method may make -/
def bo_new (n t C : Nat) : bh_Op := fun S K _ => bh_oks S ∧ S.2.2.2 + 1 ≤ C ∧ K (n, S.1, .inr (t, bh_C S.2.2.1 t + 1) :: S.2.1, bh_nw S.2.2.1 t, S.2.2.2 + 1)
def bo_newa (al : Nat → Nat) (n t C : Nat) : bh_Op := fun S K _ => match S.2.1 with
  | .inl (.int i) :: r => bh_oks S ∧ S.2.2.2 + 1 ≤ C ∧ i = nI (al t) ∧ K (n, S.1, .inr (t, bh_C S.2.2.1 t + 1) :: r, bh_nw S.2.2.1 t, S.2.2.2 + 1)
  | _ => False
theorem bo_new_m (n t C : Nat) : bh_mono (bo_new n t C) := fun _ _ _ _ _ hK _ q => ⟨q.1, q.2.1, hK _ q.2.2⟩
theorem bo_newa_m (al : Nat → Nat) (n t C : Nat) : bh_mono (bo_newa al n t C) := by
  intro S K K' Z Z' hK hZ q
  unfold bo_newa at q ⊢
  split at q
  · exact ⟨q.1, q.2.1, q.2.2.1, hK _ q.2.2.2⟩
  · exact q.elim
/-- behind a call -/
def bh_after (n : Nat) (L : List (Option bh_V)) (r : List bh_V) (c : Nat) (K : Nat × bh_S → Prop) (Z : bh_F → Prop) : bh_F → Prop
  | (.inl (some v), M) => K (n, L, v :: r, M, c)
  | (.inl none, M) => K (n, L, r, M, c)
  | (.inr E, M) => Z (.inr E, M)
/-- calls: a arguments (the receiver is one), b the cells that the callee may make; the receiver is an object of tag t -/
def bo_callV (n a b C t : Nat) (F : bh_Fn) : bh_Op := fun S K Z => match (S.2.1.take a).reverse with
  | .inr (t', x) :: as => a ≤ S.2.1.length ∧ t' = t ∧ 1 ≤ x ∧ x ≤ bh_C S.2.2.1 t ∧ ((S.2.1.drop a).map bh_cat).sum ≤ 8 ∧ S.2.2.2 + b ≤ C ∧ F (.inr (t', x) :: as) S.2.2.1 (bh_after n S.1 (S.2.1.drop a) (S.2.2.2 + b) K Z)
  | _ => False
def bo_callS (n a b C : Nat) (F : bh_Fn) : bh_Op := fun S K Z => a ≤ S.2.1.length ∧ ((S.2.1.drop a).map bh_cat).sum ≤ 8 ∧ S.2.2.2 + b ≤ C ∧ F (S.2.1.take a).reverse S.2.2.1 (bh_after n S.1 (S.2.1.drop a) (S.2.2.2 + b) K Z)
/-- the same, of a method that may make objects -/
def bo_callA (n a b C t : Nat) (F : bh_Fn) : bh_Op := fun S K Z => bh_oks S ∧ bo_callV n a b C t F S K Z
/-- a call whose exceptions are caught, the handlers answering numbers -/
def bo_callC (n a b C t : Nat) (F : bh_Fn) (hs : List (String × Int32)) : bh_Op := fun S K Z => match (S.2.1.take a).reverse with
  | .inr (t', x) :: as => a ≤ S.2.1.length ∧ t' = t ∧ 1 ≤ x ∧ x ≤ bh_C S.2.2.1 t ∧ ((S.2.1.drop a).map bh_cat).sum ≤ 8 ∧ S.2.2.2 + b ≤ C ∧ F (.inr (t', x) :: as) S.2.2.1 (bh_after n S.1 (S.2.1.drop a) (S.2.2.2 + b) K (fun f => match f with
      | (.inr E, M) => ∃ k, (E, k) ∈ hs ∧ Z (.inl (some (.inl (.int k))), M)
      | _ => False))
  | _ => False
theorem bh_after_m {n : Nat} {L : List (Option bh_V)} {r : List bh_V} {c : Nat} {K K' : Nat × bh_S → Prop} {Z Z' : bh_F → Prop} (hK : ∀ y, K y → K' y) (hZ : ∀ f, Z f → Z' f) : ∀ f, bh_after n L r c K Z f → bh_after n L r c K' Z' f
  | (.inl (some _), _), h => hK _ h
  | (.inl none, _), h => hK _ h
  | (.inr _, _), h => hZ _ h
theorem bo_callV_m {F : bh_Fn} (hF : bh_monoF F) (n a b C t : Nat) : bh_mono (bo_callV n a b C t F) := by
  intro S K K' Z Z' hK hZ q
  unfold bo_callV at q ⊢
  split at q
  · exact ⟨q.1, q.2.1, q.2.2.1, q.2.2.2.1, q.2.2.2.2.1, q.2.2.2.2.2.1, hF _ _ _ _ (bh_after_m hK hZ) q.2.2.2.2.2.2⟩
  · exact q.elim
theorem bo_callS_m {F : bh_Fn} (hF : bh_monoF F) (n a b C : Nat) : bh_mono (bo_callS n a b C F) := by
  intro S K K' Z Z' hK hZ q
  exact ⟨q.1, q.2.1, q.2.2.1, hF _ _ _ _ (bh_after_m hK hZ) q.2.2.2⟩
theorem bo_callA_m {F : bh_Fn} (hF : bh_monoF F) (n a b C t : Nat) : bh_mono (bo_callA n a b C t F) := fun S K K' Z Z' hK hZ q => ⟨q.1, bo_callV_m hF n a b C t S K K' Z Z' hK hZ q.2⟩
theorem bo_callC_m {F : bh_Fn} (hF : bh_monoF F) (n a b C t : Nat) (hs : List (String × Int32)) : bh_mono (bo_callC n a b C t F hs) := by
  intro S K K' Z Z' hK hZ q
  unfold bo_callC at q ⊢
  split at q
  · refine ⟨q.1, q.2.1, q.2.2.1, q.2.2.2.1, q.2.2.2.2.1, q.2.2.2.2.2.1, hF _ _ _ _ (bh_after_m hK ?_) q.2.2.2.2.2.2⟩
    intro f hf
    split at hf
    · obtain ⟨k, h1, h2⟩ := hf
      exact ⟨k, h1, hZ _ h2⟩
    · exact hf.elim
  · exact q.elim
/-- ends -/
def bo_iret (C : Nat) : bh_Op := fun S _ Z => match S.2.1 with
  | [.inl (.int v)] => S.2.2.2 ≤ C ∧ Z (.inl (some (.inl (.int v))), S.2.2.1)
  | _ => False
def bo_zret (C : Nat) : bh_Op := fun S _ Z => match S.2.1 with
  | [.inl (.int v)] => S.2.2.2 ≤ C ∧ (v = 0 ∨ v = 1) ∧ Z (.inl (some (.inl (.int v))), S.2.2.1)
  | _ => False
def bo_dret (C : Nat) : bh_Op := fun S _ Z => match S.2.1 with
  | [.inl (.double v)] => S.2.2.2 ≤ C ∧ Z (.inl (some (.inl (.double v))), S.2.2.1)
  | _ => False
def bo_aret (C : Nat) : bh_Op := fun S _ Z => match S.2.1 with
  | [.inr q] => S.2.2.2 ≤ C ∧ Z (.inl (some (.inr q)), S.2.2.1)
  | _ => False
def bo_vret (C : Nat) : bh_Op := fun S _ Z => match S.2.1 with
  | [] => S.2.2.2 ≤ C ∧ Z (.inl none, S.2.2.1)
  | _ => False
def bo_thr (C : Nat) (E : String) : bh_Op := fun S _ Z => match S.2.1 with
  | [] => S.2.2.2 + 1 ≤ C ∧ Z (.inr E, S.2.2.1)
  | _ => False
def bo_no : bh_Op := fun _ _ _ => False
theorem bo_iret_m (C : Nat) : bh_mono (bo_iret C) := by
  intro S K K' Z Z' hK hZ q
  unfold bo_iret at q ⊢
  split at q
  · exact ⟨q.1, hZ _ q.2⟩
  · exact q.elim
theorem bo_zret_m (C : Nat) : bh_mono (bo_zret C) := by
  intro S K K' Z Z' hK hZ q
  unfold bo_zret at q ⊢
  split at q
  · exact ⟨q.1, q.2.1, hZ _ q.2.2⟩
  · exact q.elim
theorem bo_dret_m (C : Nat) : bh_mono (bo_dret C) := by
  intro S K K' Z Z' hK hZ q
  unfold bo_dret at q ⊢
  split at q
  · exact ⟨q.1, hZ _ q.2⟩
  · exact q.elim
theorem bo_aret_m (C : Nat) : bh_mono (bo_aret C) := by
  intro S K K' Z Z' hK hZ q
  unfold bo_aret at q ⊢
  split at q
  · exact ⟨q.1, hZ _ q.2⟩
  · exact q.elim
theorem bo_vret_m (C : Nat) : bh_mono (bo_vret C) := by
  intro S K K' Z Z' hK hZ q
  unfold bo_vret at q ⊢
  split at q
  · exact ⟨q.1, hZ _ q.2⟩
  · exact q.elim
theorem bo_thr_m (C : Nat) (E : String) : bh_mono (bo_thr C E) := by
  intro S K K' Z Z' hK hZ q
  unfold bo_thr at q ⊢
  split at q
  · exact ⟨q.1, hZ _ q.2⟩
  · exact q.elim
theorem bo_no_m : bh_mono bo_no := fun _ _ _ _ _ _ _ q => q.elim
/-- Object's own constructor -/
def bo_obj (n : Nat) : bh_Op := fun S K _ => match S.2.1 with
  | .inr (_, x) :: r => 1 ≤ x ∧ ((r.map bh_cat).sum ≤ 8) ∧ K (n, S.1, r, S.2.2)
  | _ => False
theorem bo_obj_m (n : Nat) : bh_mono (bo_obj n) := by
  intro S K K' Z Z' hK hZ q
  unfold bo_obj at q ⊢
  split at q
  · exact ⟨q.1, q.2.1, hK _ q.2.2⟩
  · exact q.elim
/-- longs -/
def bg_ll (f : Int64 → Int64 → Int64) : List bh_V → (List bh_V → Prop) → Prop
  | .inl (.long y) :: .inl (.long x) :: r, k => k (.inl (.long (f x y)) :: r)
  | _, _ => False
def bg_lv (f : Int64 → Int64 → Int64) : List bh_V → (List bh_V → Prop) → Prop
  | .inl (.long y) :: .inl (.long x) :: r, k => ¬ y = 0 ∧ k (.inl (.long (f x y)) :: r)
  | _, _ => False
def bg_l1 (f : Int64 → bh_V) : List bh_V → (List bh_V → Prop) → Prop
  | .inl (.long x) :: r, k => k (f x :: r)
  | _, _ => False
theorem bg_ll_m (f : Int64 → Int64 → Int64) : bh_gmono (bg_ll f) := by
  intro st k k' h q
  unfold bg_ll at q ⊢
  split at q
  · exact h _ q
  · exact q.elim
theorem bg_lv_m (f : Int64 → Int64 → Int64) : bh_gmono (bg_lv f) := by
  intro st k k' h q
  unfold bg_lv at q ⊢
  split at q
  · exact ⟨q.1, h _ q.2⟩
  · exact q.elim
theorem bg_l1_m (f : Int64 → bh_V) : bh_gmono (bg_l1 f) := by
  intro st k k' h q
  unfold bg_l1 at q ⊢
  split at q
  · exact h _ q
  · exact q.elim
def bo_lld (n i : Nat) : bh_Op := fun S K _ => match S.1[i]? with
  | some (some (.inl (.long x))) => K (n, S.1, .inl (.long x) :: S.2.1, S.2.2)
  | _ => False
theorem bo_lld_m (n i : Nat) : bh_mono (bo_lld n i) := by
  intro S K K' Z Z' hK hZ q
  unfold bo_lld at q ⊢
  split at q
  · exact hK _ q
  · exact q.elim
def bo_lst (n i : Nat) : bh_Op := fun S K _ => match S.2.1 with
  | .inl (.long x) :: r => bh_free S.1 i = true ∧ i + 1 < S.1.length ∧ K (n, (S.1.set i (some (.inl (.long x)))).set (i + 1) none, r, S.2.2)
  | _ => False
theorem bo_lst_m (n i : Nat) : bh_mono (bo_lst n i) := by
  intro S K K' Z Z' hK hZ q
  unfold bo_lst at q ⊢
  split at q
  · exact ⟨q.1, q.2.1, hK _ q.2.2⟩
  · exact q.elim
def bo_jret (C : Nat) : bh_Op := fun S _ Z => match S.2.1 with
  | [.inl (.long v)] => S.2.2.2 ≤ C ∧ Z (.inl (some (.inl (.long v))), S.2.2.1)
  | _ => False
theorem bo_jret_m (C : Nat) : bh_mono (bo_jret C) := by
  intro S K K' Z Z' hK hZ q
  unfold bo_jret at q ⊢
  split at q
  · exact ⟨q.1, hZ _ q.2⟩
  · exact q.elim
/-- two constants of the enum (tag 2, numbers 1 to 4) compared; e: jump where they are one -/
def bo_acmp (n t : Nat) (e : Bool) : bh_Op := fun S K _ => match S.2.1 with
  | .inr (ty, y) :: .inr (tx, x) :: r => ty = 2 ∧ tx = 2 ∧ 1 ≤ x ∧ x ≤ 4 ∧ 1 ≤ y ∧ y ≤ 4 ∧ ((x = y) → K ((if e then t else n), S.1, r, S.2.2)) ∧ (¬ (x = y) → K ((if e then n else t), S.1, r, S.2.2))
  | _ => False
theorem bo_acmp_m (n t : Nat) (e : Bool) : bh_mono (bo_acmp n t e) := by
  intro S K K' Z Z' hK hZ q
  unfold bo_acmp at q ⊢
  split at q
  · exact ⟨q.1, q.2.1, q.2.2.1, q.2.2.2.1, q.2.2.2.2.1, q.2.2.2.2.2.1, fun h => hK _ (q.2.2.2.2.2.2.1 h), fun h => hK _ (q.2.2.2.2.2.2.2 h)⟩
  · exact q.elim
/-- the script (tag 1, number 1): xs, of length L -/
def bo_sald (xs : Nat → Int32) (L : Nat) (n : Nat) : bh_Op := fun S K _ => match S.2.1 with
  | .inl (.int i) :: .inr (t, x) :: r => t = 1 ∧ x = 1 ∧ vp_in i L ∧ K (n, S.1, .inl (.int (xs i.toNatClampNeg)) :: r, S.2.2)
  | _ => False
def bo_slen (L : Nat) (n : Nat) : bh_Op := fun S K _ => match S.2.1 with
  | .inr (t, x) :: r => t = 1 ∧ x = 1 ∧ K (n, S.1, .inl (.int (nI L)) :: r, S.2.2)
  | _ => False
theorem bo_sald_m (xs : Nat → Int32) (L : Nat) (n : Nat) : bh_mono (bo_sald xs L n) := by
  intro S K K' Z Z' hK hZ q
  unfold bo_sald at q ⊢
  split at q
  · exact ⟨q.1, q.2.1, q.2.2.1, hK _ q.2.2.2⟩
  · exact q.elim
theorem bo_slen_m (L : Nat) (n : Nat) : bh_mono (bo_slen L n) := by
  intro S K K' Z Z' hK hZ q
  unfold bo_slen at q ⊢
  split at q
  · exact ⟨q.1, q.2.1, hK _ q.2.2⟩
  · exact q.elim
/-- a table of operations by their places -/
def bh_tb : List (Nat × bh_Op) → Nat → bh_Op
  | [], _ => bo_no
  | (k, o) :: r, pc => if pc = k then o else bh_tb r pc
theorem bh_tb_all {P : Nat → bh_Op → Prop} (h0 : ∀ pc, P pc bo_no) : ∀ (T : List (Nat × bh_Op)), (∀ q ∈ T, P q.1 q.2) → ∀ pc, P pc (bh_tb T pc)
  | [], _, pc => h0 pc
  | (k, o) :: r, h, pc => by
    unfold bh_tb
    by_cases hk : pc = k
    · rw [if_pos hk, hk]
      exact h (k, o) List.mem_cons_self
    · rw [if_neg hk]
      exact bh_tb_all h0 r (fun q hq => h q (List.mem_cons_of_mem _ hq)) pc
theorem bh_tb_m {T : List (Nat × bh_Op)} (h : ∀ q ∈ T, bh_mono q.2) : ∀ pc, bh_mono (bh_tb T pc) := bh_tb_all (P := fun _ o => bh_mono o) (fun _ => bo_no_m) T h
