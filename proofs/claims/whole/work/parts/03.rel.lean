/-! THE MACHINE AND THE ABSTRACT MACHINE: where the objects lie (ad), what a heap holds of a memory -/
def bh_tr (ad : Nat → Nat → Nat) : bh_V → Value
  | .inl v => v
  | .inr q => if q.2 = 0 then .null else .ref (ad q.1 q.2)
theorem bh_tr_ref {ad : Nat → Nat → Nat} {t x : Nat} (h : 1 ≤ x) : bh_tr ad (.inr (t, x)) = .ref (ad t x) := by
  show (if x = 0 then Value.null else .ref (ad t x)) = _
  rw [if_neg (by omega)]
theorem bh_tr_nul {ad : Nat → Nat → Nat} {t : Nat} : bh_tr ad (.inr (t, 0)) = .null := rfl
theorem bh_tr_cat (ad : Nat → Nat → Nat) (v : bh_V) : (bh_tr ad v).category = bh_cat v := by
  cases v with
  | inl v => rfl
  | inr q =>
    show (if q.2 = 0 then Value.null else .ref (ad q.1 q.2)).category = 1
    split <;> rfl
theorem bh_tr_cats (ad : Nat → Nat → Nat) (st : List bh_V) : ((st.map (bh_tr ad)).map fun v => v.category).sum = (st.map bh_cat).sum := by
  rw [List.map_map]
  congr 1
  apply List.map_congr_left
  intro v _
  exact bh_tr_cat ad v
def bh_loc (ad : Nat → Nat → Nat) (L : List (Option bh_V)) (ls : Array Slot) (n : Nat) : Prop := ls.size = n ∧ lv_wf ls ∧ L.length = n ∧ ∀ (i : Nat) (v : bh_V), L[i]? = some (some v) → ls[i]? = some (.val (bh_tr ad v))
/-- the same as the kit has it -/
def bh_asc (ad : Nat → Nat → Nat) (L : List (Option bh_V)) : List (Nat × Value) := (List.range L.length).filterMap (fun i => match L[i]? with
  | some (some v) => some (i, bh_tr ad v)
  | _ => none)
theorem bh_asc_mem {ad : Nat → Nat → Nat} {L : List (Option bh_V)} {q : Nat × Value} : q ∈ bh_asc ad L ↔ ∃ v, L[q.1]? = some (some v) ∧ q.2 = bh_tr ad v := by
  unfold bh_asc
  rw [List.mem_filterMap]
  constructor
  · rintro ⟨i, hi, h⟩
    split at h
    · rename_i v hv
      cases h
      exact ⟨v, hv, rfl⟩
    · cases h
  · rintro ⟨v, hv, h2⟩
    refine ⟨q.1, List.mem_range.mpr (List.getElem?_eq_some_iff.mp hv).1, ?_⟩
    rw [hv]
    show some (q.1, bh_tr ad v) = some q
    rw [← h2]
theorem bh_loc_has {ad : Nat → Nat → Nat} {L : List (Option bh_V)} {ls : Array Slot} {n : Nat} (h : bh_loc ad L ls n) : lv_has ls n (bh_asc ad L) := by
  refine ⟨h.1, h.2.1, fun q hq => ?_⟩
  obtain ⟨v, h1, h2⟩ := bh_asc_mem.mp hq
  rw [h.2.2.2 _ _ h1, h2]
theorem bh_free_spec {L : List (Option bh_V)} {i j : Nat} {v : bh_V} (h : bh_free L i = true) (hj : L[j]? = some (some v)) (he : j + 1 = i) : bh_cat v = 1 := by
  subst he
  unfold bh_free at h
  rw [Nat.add_sub_cancel, hj] at h
  simpa using h
/-- a store of one word -/
theorem bh_loc_set1 {ad : Nat → Nat → Nat} {L : List (Option bh_V)} {ls' : Array Slot} {n i : Nat} {v : bh_V} (hl : L.length = n) (hf : bh_free L i = true) (h : lv_has ls' n ((i, bh_tr ad v) :: (bh_asc ad L).filter (fun q => !(q.1 == i) && !(q.1 + 1 == i && q.2.category == 2)))) : bh_loc ad (L.set i (some v)) ls' n := by
  refine ⟨h.1, h.2.1, by rw [List.length_set]; exact hl, fun j u hj => ?_⟩
  by_cases hji : j = i
  · subst hji
    have hlt : j < L.length := by
      have := (List.getElem?_eq_some_iff.mp hj).1
      rwa [List.length_set] at this
    rw [List.getElem?_set_self hlt] at hj
    cases hj
    exact h.2.2 (j, bh_tr ad v) List.mem_cons_self
  · rw [List.getElem?_set_ne (Ne.symm hji)] at hj
    refine h.2.2 (j, bh_tr ad u) (List.mem_cons_of_mem _ (List.mem_filter.mpr ⟨bh_asc_mem.mpr ⟨u, hj, rfl⟩, ?_⟩))
    simp only [Bool.and_eq_true, Bool.not_eq_true', beq_eq_false_iff_ne, ne_eq]
    refine ⟨hji, ?_⟩
    rw [Bool.and_eq_false_iff]
    by_cases he : j + 1 = i
    · right
      have := bh_free_spec hf hj he
      rw [bh_tr_cat, this]
      rfl
    · left
      simpa using he
theorem bh_loc_set2 {ad : Nat → Nat → Nat} {L : List (Option bh_V)} {ls' : Array Slot} {n i : Nat} {v : bh_V} (hl : L.length = n) (hf : bh_free L i = true) (h : lv_has ls' n ((i, bh_tr ad v) :: (bh_asc ad L).filter (fun q => !(q.1 == i) && (!(q.1 == i + 1) && !(q.1 + 1 == i && q.2.category == 2))))) : bh_loc ad ((L.set i (some v)).set (i + 1) none) ls' n := by
  refine ⟨h.1, h.2.1, by rw [List.length_set, List.length_set]; exact hl, fun j u hj => ?_⟩
  by_cases hj1 : j = i + 1
  · subst hj1
    by_cases hlt : i + 1 < (L.set i (some v)).length
    · rw [List.getElem?_set_self hlt] at hj
      cases hj
    · have := (List.getElem?_eq_some_iff.mp hj).1
      rw [List.length_set] at this
      exact absurd this hlt
  · rw [List.getElem?_set_ne (Ne.symm hj1)] at hj
    by_cases hji : j = i
    · subst hji
      have hlt : j < L.length := by
        have := (List.getElem?_eq_some_iff.mp hj).1
        rwa [List.length_set] at this
      rw [List.getElem?_set_self hlt] at hj
      cases hj
      exact h.2.2 (j, bh_tr ad v) List.mem_cons_self
    · rw [List.getElem?_set_ne (Ne.symm hji)] at hj
      refine h.2.2 (j, bh_tr ad u) (List.mem_cons_of_mem _ (List.mem_filter.mpr ⟨bh_asc_mem.mpr ⟨u, hj, rfl⟩, ?_⟩))
      simp only [Bool.and_eq_true, Bool.not_eq_true', beq_eq_false_iff_ne, ne_eq]
      refine ⟨hji, hj1, ?_⟩
      rw [Bool.and_eq_false_iff]
      by_cases he : j + 1 = i
      · right
        have := bh_free_spec hf hj he
        rw [bh_tr_cat, this]
        rfl
      · left
        simpa using he
/-- a field or element as the heap has it -/
def bh_fld (ad : Nat → Nat → Nat) (M : bh_M) (t x j : Nat) : Value := match bh_kd t j with
  | 0 => .int (bh_I M t x j)
  | 1 => .long (bh_J M t x j)
  | 2 => .double (bh_D M t x j)
  | k + 3 => bh_tr ad (.inr (k, bh_R M t x j))
/-- classes and their slots, classes of arrays -/
abbrev bh_G : Type := (Nat → ClassId) × (Nat → Nat → Nat) × (Nat → ClassId) × (Nat → Nat → Nat)
def bh_at (G : bh_G) (ad : Nat → Nat → Nat) (M : bh_M) (t x : Nat) (H : Heap) : Prop :=
  (bh_ak t = 0 → t_OB (ad t x) (G.1 (bh_ci t)) (bh_cn t) (G.2.1 (bh_ci t)) H (bh_fld ad M t x)) ∧ (¬ bh_ak t = 0 → H[ad t x]? = some (arrV (G.2.2.1 t) (bh_al t) (bh_fld ad M t x)))
theorem bh_at.kept {G : bh_G} {ad : Nat → Nat → Nat} {M : bh_M} {t x : Nat} {H H1 : Heap} (h : bh_at G ad M t x H) (hq : H1[ad t x]? = H[ad t x]?) : bh_at G ad M t x H1 := ⟨fun h0 => (h.1 h0).kept hq, fun h0 => hq.trans (h.2 h0)⟩
theorem bh_at.lt {G : bh_G} {ad : Nat → Nat → Nat} {M : bh_M} {t x : Nat} {H : Heap} (h : bh_at G ad M t x H) : ad t x < H.size := by
  by_cases h0 : bh_ak t = 0
  · obtain ⟨cell, h2, -⟩ := h.1 h0
    exact (Array.getElem?_eq_some_iff.mp h2).1
  · exact (Array.getElem?_eq_some_iff.mp (h.2 h0)).1
theorem bh_at.to {G : bh_G} {ad ad' : Nat → Nat → Nat} {M M' : bh_M} {t x : Nat} {H : Heap} (h : bh_at G ad M t x H) (ha : ad' t x = ad t x) (hv : ∀ j, bh_fld ad' M' t x j = bh_fld ad M t x j) : bh_at G ad' M' t x H := by
  have hf : bh_fld ad' M' t x = bh_fld ad M t x := funext hv
  unfold bh_at
  rw [ha, hf]
  exact h
/-- the heap holds the memory -/
def bh_Re (G : bh_G) (base : Nat) (ad : Nat → Nat → Nat) (M : bh_M) (H : Heap) : Prop :=
  (∀ t x, bh_hp t = true → 1 ≤ x → x ≤ bh_C M t → bh_at G ad M t x H) ∧
  (∀ t x, bh_hp t = true → 1 ≤ x → x ≤ bh_C M t → base ≤ ad t x) ∧
  (∀ t x t' x', bh_hp t = true → bh_hp t' = true → 1 ≤ x → x ≤ bh_C M t → 1 ≤ x' → x' ≤ bh_C M t' → ad t x = ad t' x' → t = t' ∧ x = x') ∧
  (∀ t x j k, bh_hp t = true → 1 ≤ x → x ≤ bh_C M t → bh_kd t j = k + 3 → bh_R M t x j ≤ bh_C M k) ∧
  ∀ t x, bh_hp t = false → ad t x = G.2.2.2 t x
/-- a cell is written -/
theorem bh_Re.set {G : bh_G} {base : Nat} {ad : Nat → Nat → Nat} {M M' : bh_M} {H H1 : Heap} {t x : Nat} (h : bh_Re G base ad M H) (ht : bh_hp t = true) (h1 : 1 ≤ x) (h2 : x ≤ bh_C M t) (hC : bh_C M' = bh_C M) (hat : bh_at G ad M' t x H1) (oq : ∀ q : Nat, q ≠ ad t x → H1[q]? = H[q]?)
    (hf : ∀ t' x' j, ¬ (t' = t ∧ x' = x) → bh_fld ad M' t' x' j = bh_fld ad M t' x' j) (hr : ∀ j k, bh_kd t j = k + 3 → bh_R M' t x j ≤ bh_C M k) (hR : ∀ t' x' j, ¬ (t' = t ∧ x' = x) → bh_R M' t' x' j = bh_R M t' x' j) : bh_Re G base ad M' H1 := by
  obtain ⟨a1, a2, a3, a4, a5⟩ := h
  unfold bh_Re
  rw [hC]
  refine ⟨fun t' x' g1 g2 g3 => ?_, a2, a3, fun t' x' j k g1 g2 g3 g4 => ?_, a5⟩
  · by_cases he : t' = t ∧ x' = x
    · obtain ⟨rfl, rfl⟩ := he
      exact hat
    · refine ((a1 t' x' g1 g2 g3).kept (oq _ (fun z => he (a3 _ _ _ _ g1 ht g2 g3 h1 h2 z)))).to rfl (fun j => hf t' x' j he)
  · by_cases he : t' = t ∧ x' = x
    · obtain ⟨rfl, rfl⟩ := he
      exact hr j k g4
    · rw [hR t' x' j he]
      exact a4 t' x' j k g1 g2 g3 g4
theorem bh_up_ne {α : Type} {f : Nat → Nat → Nat → α} {t x j t' x' i : Nat} {v : α} (h : ¬ (t' = t ∧ x' = x)) : bh_up f t x j v t' x' i = f t' x' i := by
  unfold bh_up
  rw [if_neg (fun q => h ⟨q.1, q.2.1⟩)]
theorem bh_up_eq {α : Type} {f : Nat → Nat → Nat → α} {t x j i : Nat} {v : α} : bh_up f t x j v t x i = if i = j then v else f t x i := by
  unfold bh_up
  simp
theorem bh_fld_ne {ad : Nat → Nat → Nat} {M M' : bh_M} {t x i : Nat} (hI : bh_I M' t x i = bh_I M t x i) (hJ : bh_J M' t x i = bh_J M t x i) (hD : bh_D M' t x i = bh_D M t x i) (hR : bh_R M' t x i = bh_R M t x i) : bh_fld ad M' t x i = bh_fld ad M t x i := by
  unfold bh_fld
  rw [hI, hJ, hD, hR]
theorem bh_fld_I {ad : Nat → Nat → Nat} {M : bh_M} {t x j : Nat} (hk : bh_kd t j = 0) : bh_fld ad M t x j = .int (bh_I M t x j) := by
  unfold bh_fld
  rw [hk]
theorem bh_fld_J {ad : Nat → Nat → Nat} {M : bh_M} {t x j : Nat} (hk : bh_kd t j = 1) : bh_fld ad M t x j = .long (bh_J M t x j) := by
  unfold bh_fld
  rw [hk]
theorem bh_fld_D {ad : Nat → Nat → Nat} {M : bh_M} {t x j : Nat} (hk : bh_kd t j = 2) : bh_fld ad M t x j = .double (bh_D M t x j) := by
  unfold bh_fld
  rw [hk]
theorem bh_fld_R {ad : Nat → Nat → Nat} {M : bh_M} {t x j k : Nat} (hk : bh_kd t j = k + 3) : bh_fld ad M t x j = bh_tr ad (.inr (k, bh_R M t x j)) := by
  unfold bh_fld
  rw [hk]
theorem bh_fld_sI {ad : Nat → Nat → Nat} {M : bh_M} {t x j : Nat} {v : Int32} (hk : bh_kd t j = 0) : bh_fld ad (bh_sI M t x j v) t x = updV (bh_fld ad M t x) j (.int v) := by
  funext i
  unfold updV
  by_cases h : i = j
  · subst h
    rw [if_pos rfl, bh_fld_I hk]
    show Value.int (bh_up M.1 t x i v t x i) = _
    rw [bh_up_eq, if_pos rfl]
  · rw [if_neg h]
    refine bh_fld_ne ?_ rfl rfl rfl
    show bh_up M.1 t x j v t x i = _
    rw [bh_up_eq, if_neg h]
    rfl
theorem bh_fld_sJ {ad : Nat → Nat → Nat} {M : bh_M} {t x j : Nat} {v : Int64} (hk : bh_kd t j = 1) : bh_fld ad (bh_sJ M t x j v) t x = updV (bh_fld ad M t x) j (.long v) := by
  funext i
  unfold updV
  by_cases h : i = j
  · subst h
    rw [if_pos rfl, bh_fld_J hk]
    show Value.long (bh_up M.2.1 t x i v t x i) = _
    rw [bh_up_eq, if_pos rfl]
  · rw [if_neg h]
    refine bh_fld_ne rfl ?_ rfl rfl
    show bh_up M.2.1 t x j v t x i = _
    rw [bh_up_eq, if_neg h]
    rfl
theorem bh_fld_sD {ad : Nat → Nat → Nat} {M : bh_M} {t x j : Nat} {v : UInt64} (hk : bh_kd t j = 2) : bh_fld ad (bh_sD M t x j v) t x = updV (bh_fld ad M t x) j (.double v) := by
  funext i
  unfold updV
  by_cases h : i = j
  · subst h
    rw [if_pos rfl, bh_fld_D hk]
    show Value.double (bh_up M.2.2.1 t x i v t x i) = _
    rw [bh_up_eq, if_pos rfl]
  · rw [if_neg h]
    refine bh_fld_ne rfl rfl ?_ rfl
    show bh_up M.2.2.1 t x j v t x i = _
    rw [bh_up_eq, if_neg h]
    rfl
theorem bh_fld_sR {ad : Nat → Nat → Nat} {M : bh_M} {t x j k v : Nat} (hk : bh_kd t j = k + 3) : bh_fld ad (bh_sR M t x j v) t x = updV (bh_fld ad M t x) j (bh_tr ad (.inr (k, v))) := by
  funext i
  unfold updV
  by_cases h : i = j
  · subst h
    rw [if_pos rfl, bh_fld_R hk]
    show bh_tr ad (.inr (k, bh_up M.2.2.2.1 t x i v t x i)) = _
    rw [bh_up_eq, if_pos rfl]
  · rw [if_neg h]
    refine bh_fld_ne rfl rfl rfl ?_
    show bh_up M.2.2.2.1 t x j v t x i = _
    rw [bh_up_eq, if_neg h]
    rfl
/-- the four kinds of writes -/
theorem bh_Re.sI {G : bh_G} {base : Nat} {ad : Nat → Nat → Nat} {M : bh_M} {H H1 : Heap} {t x j : Nat} {v : Int32} (h : bh_Re G base ad M H) (ht : bh_hp t = true) (h1 : 1 ≤ x) (h2 : x ≤ bh_C M t) (hat : bh_at G ad (bh_sI M t x j v) t x H1) (oq : ∀ q : Nat, q ≠ ad t x → H1[q]? = H[q]?) : bh_Re G base ad (bh_sI M t x j v) H1 :=
  h.set ht h1 h2 rfl hat oq (fun _ _ _ hn => bh_fld_ne (bh_up_ne hn) rfl rfl rfl) (fun j k hk => h.2.2.2.1 t x j k ht h1 h2 hk) (fun _ _ _ _ => rfl)
theorem bh_Re.sJ {G : bh_G} {base : Nat} {ad : Nat → Nat → Nat} {M : bh_M} {H H1 : Heap} {t x j : Nat} {v : Int64} (h : bh_Re G base ad M H) (ht : bh_hp t = true) (h1 : 1 ≤ x) (h2 : x ≤ bh_C M t) (hat : bh_at G ad (bh_sJ M t x j v) t x H1) (oq : ∀ q : Nat, q ≠ ad t x → H1[q]? = H[q]?) : bh_Re G base ad (bh_sJ M t x j v) H1 :=
  h.set ht h1 h2 rfl hat oq (fun _ _ _ hn => bh_fld_ne rfl (bh_up_ne hn) rfl rfl) (fun j k hk => h.2.2.2.1 t x j k ht h1 h2 hk) (fun _ _ _ _ => rfl)
theorem bh_Re.sD {G : bh_G} {base : Nat} {ad : Nat → Nat → Nat} {M : bh_M} {H H1 : Heap} {t x j : Nat} {v : UInt64} (h : bh_Re G base ad M H) (ht : bh_hp t = true) (h1 : 1 ≤ x) (h2 : x ≤ bh_C M t) (hat : bh_at G ad (bh_sD M t x j v) t x H1) (oq : ∀ q : Nat, q ≠ ad t x → H1[q]? = H[q]?) : bh_Re G base ad (bh_sD M t x j v) H1 :=
  h.set ht h1 h2 rfl hat oq (fun _ _ _ hn => bh_fld_ne rfl rfl (bh_up_ne hn) rfl) (fun j k hk => h.2.2.2.1 t x j k ht h1 h2 hk) (fun _ _ _ _ => rfl)
theorem bh_Re.sR {G : bh_G} {base : Nat} {ad : Nat → Nat → Nat} {M : bh_M} {H H1 : Heap} {t x j k v : Nat} (h : bh_Re G base ad M H) (ht : bh_hp t = true) (h1 : 1 ≤ x) (h2 : x ≤ bh_C M t) (hk : bh_kd t j = k + 3) (hv : v ≤ bh_C M k) (hat : bh_at G ad (bh_sR M t x j v) t x H1) (oq : ∀ q : Nat, q ≠ ad t x → H1[q]? = H[q]?) : bh_Re G base ad (bh_sR M t x j v) H1 := by
  refine h.set ht h1 h2 rfl hat oq (fun _ _ _ hn => bh_fld_ne rfl rfl rfl (bh_up_ne hn)) (fun i k' hk' => ?_) (fun _ _ _ hn => bh_up_ne hn)
  show bh_up M.2.2.2.1 t x j v t x i ≤ _
  rw [bh_up_eq]
  by_cases hi : i = j
  · rw [if_pos hi]
    subst hi
    rw [hk] at hk'
    have : k = k' := by omega
    subst this
    exact hv
  · rw [if_neg hi]
    exact h.2.2.2.1 t x i k' ht h1 h2 hk'
/-- where the machine stands: from here it comes to a state with Q -/
def bh_WA (p : Program) (l : Launch) (e : Env) (R : Room) (s : State) (m : MethodId) (args : Array Value) (below : List Frame) (meth : Method) (c : Code) (Q : State → Prop) (G : bh_G) (base nL : Nat) (ad0 : Nat → Nat → Nat) (M0 : bh_M) (fl : Bool) (n : Nat) (S : bh_S) : Prop :=
  ∀ (ad : Nat → Nat → Nat) (H : Heap) (locs : List Loc) (ls : Array Slot), ((fl = false → ad = ad0) ∧ ∀ t x, x ≤ bh_C M0 t → ad t x = ad0 t x) → (∀ t, bh_C M0 t ≤ bh_C S.2.2.1 t) → bh_Re G base ad S.2.2.1 H → va_S (fun q : Nat => base ≤ q) s.heap H locs → bh_loc ad S.1 ls nL →
    W p l e R s m args below meth c H locs S.2.2.2 (256 * S.2.2.2) Q (F0 m n ls (S.2.1.map (bh_tr ad)))
