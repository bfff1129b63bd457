def bh_ads (ad : Nat → Nat → Nat) (t x a : Nat) : Nat → Nat → Nat := fun t' x' => if t' = t ∧ x' = x then a else ad t' x'
theorem bh_ads_ne {ad : Nat → Nat → Nat} {t x a t' x' : Nat} (h : ¬ (t' = t ∧ x' = x)) : bh_ads ad t x a t' x' = ad t' x' := by
  unfold bh_ads
  rw [if_neg h]
theorem bh_ads_eq {ad : Nat → Nat → Nat} {t x a : Nat} : bh_ads ad t x a t x = a := by
  unfold bh_ads
  rw [if_pos ⟨rfl, rfl⟩]
theorem bh_nw_C (M : bh_M) (t t' : Nat) : bh_C (bh_nw M t) t' = if t' = t then bh_C M t + 1 else bh_C M t' := rfl
theorem bh_nw_le (M : bh_M) (t t' : Nat) : bh_C M t' ≤ bh_C (bh_nw M t) t' := by
  rw [bh_nw_C]
  split
  · rename_i h
    rw [h]
    omega
  · omega
theorem bh_tr_ads {ad : Nat → Nat → Nat} {M : bh_M} {t a : Nat} {v : bh_V} (h : bh_ok M v) : bh_tr (bh_ads ad t (bh_C M t + 1) a) v = bh_tr ad v := by
  cases v with
  | inl v => rfl
  | inr q =>
    obtain ⟨t', x'⟩ := q
    have h : x' ≤ bh_C M t' := h
    show (if x' = 0 then Value.null else .ref (bh_ads ad t (bh_C M t + 1) a t' x')) = if x' = 0 then Value.null else .ref (ad t' x')
    rw [bh_ads_ne]
    rintro ⟨rfl, rfl⟩
    omega
theorem bh_tr_adss {ad : Nat → Nat → Nat} {M : bh_M} {t a : Nat} {st : List bh_V} (h : ∀ v ∈ st, bh_ok M v) : st.map (bh_tr (bh_ads ad t (bh_C M t + 1) a)) = st.map (bh_tr ad) := List.map_congr_left (fun v hv => bh_tr_ads (h v hv))
theorem bh_loc_ads {ad : Nat → Nat → Nat} {M : bh_M} {t a n : Nat} {L : List (Option bh_V)} {ls : Array Slot} (h : ∀ v, some v ∈ L → bh_ok M v) (hl : bh_loc ad L ls n) : bh_loc (bh_ads ad t (bh_C M t + 1) a) L ls n :=
  ⟨hl.1, hl.2.1, hl.2.2.1, fun i v hi => by rw [bh_tr_ads (h v (List.mem_of_getElem? hi))]; exact hl.2.2.2 i v hi⟩
/-- what a new object's fields and a new array's elements are -/
def bh_df (t j : Nat) : Value := match bh_kd t j with
  | 0 => .int 0
  | 1 => .long 0
  | 2 => .double 0
  | _ + 3 => .null
theorem bh_fld_nw (ad : Nat → Nat → Nat) (M : bh_M) (t j : Nat) : bh_fld ad (bh_nw M t) t (bh_C M t + 1) j = bh_df t j := by
  have hI : bh_I (bh_nw M t) t (bh_C M t + 1) j = 0 := by
    show (if t = t ∧ M.2.2.2.2 t + 1 = M.2.2.2.2 t + 1 then (0 : Int32) else _) = 0
    rw [if_pos ⟨rfl, rfl⟩]
  have hJ : bh_J (bh_nw M t) t (bh_C M t + 1) j = 0 := by
    show (if t = t ∧ M.2.2.2.2 t + 1 = M.2.2.2.2 t + 1 then (0 : Int64) else _) = 0
    rw [if_pos ⟨rfl, rfl⟩]
  have hD : bh_D (bh_nw M t) t (bh_C M t + 1) j = 0 := by
    show (if t = t ∧ M.2.2.2.2 t + 1 = M.2.2.2.2 t + 1 then (0 : UInt64) else _) = 0
    rw [if_pos ⟨rfl, rfl⟩]
  have hR : bh_R (bh_nw M t) t (bh_C M t + 1) j = 0 := by
    show (if t = t ∧ M.2.2.2.2 t + 1 = M.2.2.2.2 t + 1 then (0 : Nat) else _) = 0
    rw [if_pos ⟨rfl, rfl⟩]
  unfold bh_fld bh_df
  rw [hI, hJ, hD, hR]
  generalize bh_kd t j = k
  match k with
  | 0 => rfl
  | 1 => rfl
  | 2 => rfl
  | _ + 3 => rfl
theorem bh_nw_R (M : bh_M) (t t' x' j : Nat) (h : ¬ (t' = t ∧ x' = bh_C M t + 1)) : bh_R (bh_nw M t) t' x' j = bh_R M t' x' j := by
  show (if t' = t ∧ x' = M.2.2.2.2 t + 1 then (0 : Nat) else _) = _
  exact if_neg h
theorem bh_fld_old {ad : Nat → Nat → Nat} {M : bh_M} {t t' x' a : Nat} (h : ¬ (t' = t ∧ x' = bh_C M t + 1)) (hr : ∀ j k, bh_kd t' j = k + 3 → bh_R M t' x' j ≤ bh_C M k) (j : Nat) : bh_fld (bh_ads ad t (bh_C M t + 1) a) (bh_nw M t) t' x' j = bh_fld ad M t' x' j := by
  have hI : bh_I (bh_nw M t) t' x' j = bh_I M t' x' j := by
    show (if t' = t ∧ x' = M.2.2.2.2 t + 1 then (0 : Int32) else _) = _
    exact if_neg h
  have hJ : bh_J (bh_nw M t) t' x' j = bh_J M t' x' j := by
    show (if t' = t ∧ x' = M.2.2.2.2 t + 1 then (0 : Int64) else _) = _
    exact if_neg h
  have hD : bh_D (bh_nw M t) t' x' j = bh_D M t' x' j := by
    show (if t' = t ∧ x' = M.2.2.2.2 t + 1 then (0 : UInt64) else _) = _
    exact if_neg h
  unfold bh_fld
  rw [hI, hJ, hD, bh_nw_R M t t' x' j h]
  split
  · rfl
  · rfl
  · rfl
  · rename_i k hk
    exact bh_tr_ads (v := .inr (k, bh_R M t' x' j)) (hr j k hk)
theorem bh_Re.nw {G : bh_G} {base : Nat} {ad : Nat → Nat → Nat} {M : bh_M} {H H1 : Heap} {t : Nat} (h : bh_Re G base ad M H) (ht : bh_hp t = true) (hb : base ≤ H.size) (o1 : ∀ q : Nat, q < H.size → H1[q]? = H[q]?) (hat : bh_at G (bh_ads ad t (bh_C M t + 1) H.size) (bh_nw M t) t (bh_C M t + 1) H1) : bh_Re G base (bh_ads ad t (bh_C M t + 1) H.size) (bh_nw M t) H1 := by
  obtain ⟨a1, a2, a3, a4, a5⟩ := h
  have key : ∀ t' x', x' ≤ bh_C (bh_nw M t) t' → (t' = t ∧ x' = bh_C M t + 1) ∨ (¬ (t' = t ∧ x' = bh_C M t + 1) ∧ x' ≤ bh_C M t') := by
    intro t' x' hx
    rw [bh_nw_C] at hx
    by_cases ht : t' = t
    · subst ht
      rw [if_pos rfl] at hx
      by_cases he : x' = bh_C M t' + 1
      · exact Or.inl ⟨rfl, he⟩
      · exact Or.inr ⟨fun z => he z.2, by omega⟩
    · rw [if_neg ht] at hx
      exact Or.inr ⟨fun z => ht z.1, hx⟩
  refine ⟨fun t' x' g1 g2 g3 => ?_, fun t' x' g1 g2 g3 => ?_, fun t1 x1 t2 x2 g1 g2 g3 g4 g5 g6 he => ?_, fun t' x' j k g1 g2 g3 g4 => ?_, fun t' x' h0 => ?_⟩
  · rcases key t' x' g3 with ⟨rfl, rfl⟩ | ⟨hn, hx⟩
    · exact hat
    · have h0 := a1 t' x' g1 g2 hx
      refine (h0.kept (o1 _ h0.lt)).to (bh_ads_ne hn) (fun j => bh_fld_old hn (fun j k hk => a4 t' x' j k g1 g2 hx hk) j)
  · rcases key t' x' g3 with ⟨rfl, rfl⟩ | ⟨hn, hx⟩
    · rw [bh_ads_eq]; exact hb
    · rw [bh_ads_ne hn]; exact a2 t' x' g1 g2 hx
  · rcases key t1 x1 g4 with ⟨rfl, rfl⟩ | ⟨hn1, hx1⟩ <;> rcases key t2 x2 g6 with ⟨rfl, rfl⟩ | ⟨hn2, hx2⟩
    · exact ⟨rfl, rfl⟩
    · rw [bh_ads_eq, bh_ads_ne hn2] at he
      have := (a1 t2 x2 g2 g5 hx2).lt
      omega
    · rw [bh_ads_eq, bh_ads_ne hn1] at he
      have := (a1 t1 x1 g1 g3 hx1).lt
      omega
    · rw [bh_ads_ne hn1, bh_ads_ne hn2] at he
      exact a3 _ _ _ _ g1 g2 g3 hx1 g5 hx2 he
  · rcases key t' x' g3 with ⟨rfl, rfl⟩ | ⟨hn, hx⟩
    · have : bh_R (bh_nw M t') t' (bh_C M t' + 1) j = 0 := by
        show (if t' = t' ∧ M.2.2.2.2 t' + 1 = M.2.2.2.2 t' + 1 then (0 : Nat) else _) = 0
        rw [if_pos ⟨rfl, rfl⟩]
      rw [this]
      omega
    · rw [bh_nw_R M t t' x' j hn]
      exact Nat.le_trans (a4 t' x' j k g1 g2 hx g4) (bh_nw_le M t k)
  · rw [bh_ads_ne]
    · exact a5 t' x' h0
    · rintro ⟨rfl, -⟩
      rw [ht] at h0
      cases h0
section BS3
variable {p : Program} {l : Launch} {e : Env} {R : Room} {s : State} {m : MethodId} {args : Array Value} {below : List Frame} {meth : Method} {c : Code} {Q : State → Prop} {G : bh_G} {base nL : Nat} {ad0 : Nat → Nat → Nat} {M0 : bh_M} {fl : Bool} {cc : ByteArray} {pc : Nat}
theorem bs_new (hx : p.tables.exec = Jvm.exec) (hb : c.code = cc) (hfl : fl = true) (hbs : base ≤ s.heap.size) (hK : va_K (G.1, G.2.1) classes [] s) {Ts : List Cond} (hts : ∀ w ∈ Ts, w.before args s = true) {own C : String} {T : u_T} {N index t Cc : Nat} (hin : ∀ w ∈ u_ws C T N, w ∈ Ts) (ty : Nat → FieldType) (hty : ∀ k, k < N → parseFieldDescriptor (T k).2.2.1 = some (ty k)) (hown : s.vm.findClass own = some m.cls) (hcl : (Cond.classLink own index C).before args s = true) (hinst : (Cond.instantiable C N).before args s = true) (hini : (Cond.initialized C).before args s = true) (hc : classes[bh_ci t]? = some (C, T, N)) (hN : bh_cn t = N) (hN256 : N ≤ 256) (hhp : bh_hp t = true) (hak : bh_ak t = 0) (hdf : ∀ j, j < N → defaultValue (ty j) = bh_df t j) (hRc : Cc ≤ R.cells) (hRs : 256 * Cc ≤ R.slots)
    (d : decode cc pc = .ok (.new index, 3)) {S : bh_S} {Z : bh_F → Prop} (h : bo_new (pc + 3) t Cc S (fun y => bh_WA p l e R s m args below meth c Q G base nL ad0 M0 fl y.1 y.2) Z) : bh_WA p l e R s m args below meth c Q G base nL ad0 M0 fl pc S := by
  intro ad H locs ls ha hC hR hS hl
  obtain ⟨hok, hc1, h3⟩ := h
  have hKn := hK.1 _ _ hc
  have hbH : base ≤ H.size := Nat.le_trans hbs hS.1
  refine W.newcK hx hb hown hcl hinst hini rfl d (by omega) (by omega) hKn.2.1 rfl fun H1 kC hkC e1 z1 o1 => ?_
  refine W.widen (k := S.2.2.2 + 1) (n := 256 * (S.2.2.2 + 1)) (Nat.le_refl _) (by omega) ?_
  have hat : bh_at G (bh_ads ad t (bh_C S.2.2.1 t + 1) H.size) (bh_nw S.2.2.1 t) t (bh_C S.2.2.1 t + 1) H1 := by
    refine ⟨fun _ => ?_, fun h0 => absurd hak h0⟩
    rw [bh_ads_eq, hN]
    exact (u_born ty hts hin hKn hkC e1 hty).to (fun j hj => by rw [hdf j hj, bh_fld_nw])
  have hext : ∀ t' x', x' ≤ bh_C M0 t' → bh_ads ad t (bh_C S.2.2.1 t + 1) H.size t' x' = ad0 t' x' := by
    intro t' x' hx'
    rw [bh_ads_ne]
    · exact ha.2 t' x' hx'
    · rintro ⟨rfl, rfl⟩
      have := hC t'
      omega
  have h4 := h3 (bh_ads ad t (bh_C S.2.2.1 t + 1) H.size) H1 locs ls ⟨fun hf => (by rw [hfl] at hf; cases hf), hext⟩ (fun t' => Nat.le_trans (hC t') (bh_nw_le _ _ _)) (hR.nw hhp hbH o1 hat) ⟨Nat.le_trans hS.1 (by omega), fun x h1 h2 => (o1 x (Nat.lt_of_lt_of_le h1 hS.1)).trans (hS.2.1 x h1 h2), hS.2.2⟩ (bh_loc_ads hok.1 hl)
  have e2 : List.map (bh_tr (bh_ads ad t (bh_C S.2.2.1 t + 1) H.size)) (.inr (t, bh_C S.2.2.1 t + 1) :: S.2.1) = .ref H.size :: S.2.1.map (bh_tr ad) := by
    rw [List.map_cons, bh_tr_adss hok.2, bh_tr_ref (by omega), bh_ads_eq]
  rw [e2] at h4
  exact h4
theorem bs_newa (hx : p.tables.exec = Jvm.exec) (hb : c.code = cc) (hfl : fl = true) (hbs : base ≤ s.heap.size) {atype : ArrayType} (harr : (Cond.arrayClass (newarray.typeOf atype)).before args s = true) {t Cc : Nat} (hra : s.vm.findClass ("[" ++ (newarray.typeOf atype).toString) = some (G.2.2.1 t)) (hhp : bh_hp t = true) (hak : ¬ bh_ak t = 0) (hal : bh_al t ≤ 256) (hby : componentBytes (newarray.typeOf atype) ≤ 8) (hdf : ∀ j, defaultValue (newarray.typeOf atype) = bh_df t j) (hRc : Cc ≤ R.cells) (hRs : 256 * Cc ≤ R.slots)
    (d : decode cc pc = .ok (.newarray atype, 2)) {S : bh_S} {Z : bh_F → Prop} (h : bo_newa bh_al (pc + 2) t Cc S (fun y => bh_WA p l e R s m args below meth c Q G base nL ad0 M0 fl y.1 y.2) Z) : bh_WA p l e R s m args below meth c Q G base nL ad0 M0 fl pc S := by
  intro ad H locs ls ha hC hR hS hl
  unfold bo_newa at h
  split at h
  · rename_i i r hq
    obtain ⟨hok, hc1, hi, h3⟩ := h
    subst hi
    have hbH : base ≤ H.size := Nat.le_trans hbs hS.1
    have hcl : (nI (bh_al t)).toNatClampNeg = bh_al t := nI_clamp (by omega)
    have hby2 : bh_al t * componentBytes (newarray.typeOf atype) ≤ 536870912 := Nat.le_trans (Nat.mul_le_mul hal hby) (by decide)
    rw [hq, List.map_cons]
    have hokr : ∀ v ∈ r, bh_ok S.2.2.1 v := fun v hv => hok.2 v (by rw [hq]; exact List.mem_cons_of_mem _ hv)
    refine va_newaK hx hb harr rfl d rfl (nI_pos (by omega)) hcl hby2 (by omega) (by omega) rfl fun H1 cA e1 z1 o1 hAr hNm => ?_
    have hcA : cA = G.2.2.1 t := Option.some.inj (hNm.symm.trans hra)
    subst hcA
    refine W.widen (k := S.2.2.2 + 1) (n := 256 * (S.2.2.2 + 1)) (Nat.le_refl _) (by omega) ?_
    have hat : bh_at G (bh_ads ad t (bh_C S.2.2.1 t + 1) H.size) (bh_nw S.2.2.1 t) t (bh_C S.2.2.1 t + 1) H1 := by
      refine ⟨fun h0 => absurd h0 hak, fun _ => ?_⟩
      rw [bh_ads_eq, e1]
      congr 2
      funext j
      rw [bh_fld_nw, ← hdf j]
    have hext : ∀ t' x', x' ≤ bh_C M0 t' → bh_ads ad t (bh_C S.2.2.1 t + 1) H.size t' x' = ad0 t' x' := by
      intro t' x' hx'
      rw [bh_ads_ne]
      · exact ha.2 t' x' hx'
      · rintro ⟨rfl, rfl⟩
        have := hC t'
        omega
    have h4 := h3 (bh_ads ad t (bh_C S.2.2.1 t + 1) H.size) H1 locs ls ⟨fun hf => (by rw [hfl] at hf; cases hf), hext⟩ (fun t' => Nat.le_trans (hC t') (bh_nw_le _ _ _)) (hR.nw hhp hbH o1 hat) ⟨Nat.le_trans hS.1 (by omega), fun x h1 h2 => (o1 x (Nat.lt_of_lt_of_le h1 hS.1)).trans (hS.2.1 x h1 h2), hS.2.2⟩ (bh_loc_ads hok.1 hl)
    have e2 : List.map (bh_tr (bh_ads ad t (bh_C S.2.2.1 t + 1) H.size)) (.inr (t, bh_C S.2.2.1 t + 1) :: r) = .ref H.size :: r.map (bh_tr ad) := by
      rw [List.map_cons, bh_tr_adss hokr, bh_tr_ref (by omega), bh_ads_eq]
    rw [e2] at h4
    exact h4
  · exact h.elim
theorem bs_anew (hx : p.tables.exec = Jvm.exec) (hb : c.code = cc) (hfl : fl = true) (hbs : base ≤ s.heap.size) {own C : String} {index : Nat} (hown : s.vm.findClass own = some m.cls) (hclink : (Cond.classLink own index C).before args s = true) (hover : va_AO C s) {t Cc : Nat} (hra : s.vm.findClass ("[" ++ (FieldType.object C).toString) = some (G.2.2.1 t)) (hhp : bh_hp t = true) (hak : ¬ bh_ak t = 0) (hal : bh_al t ≤ 256) (hdf : ∀ j, Value.null = bh_df t j) (hRc : Cc ≤ R.cells) (hRs : 256 * Cc ≤ R.slots)
    (d : decode cc pc = .ok (.anewarray index, 3)) {S : bh_S} {Z : bh_F → Prop} (h : bo_newa bh_al (pc + 3) t Cc S (fun y => bh_WA p l e R s m args below meth c Q G base nL ad0 M0 fl y.1 y.2) Z) : bh_WA p l e R s m args below meth c Q G base nL ad0 M0 fl pc S := by
  intro ad H locs ls ha hC hR hS hl
  unfold bo_newa at h
  split at h
  · rename_i i r hq
    obtain ⟨hok, hc1, hi, h3⟩ := h
    subst hi
    have hbH : base ≤ H.size := Nat.le_trans hbs hS.1
    have hcl : (nI (bh_al t)).toNatClampNeg = bh_al t := nI_clamp (by omega)
    rw [hq, List.map_cons]
    have hokr : ∀ v ∈ r, bh_ok S.2.2.1 v := fun v hv => hok.2 v (by rw [hq]; exact List.mem_cons_of_mem _ hv)
    refine W.anew hx hb hown hclink (va_AO.use hover) rfl d rfl (nI_pos (by omega)) (by rw [hcl]; omega) (by omega) (by rw [hcl]; omega) fun cA kA comp f1 f2 f3 f4 => ?_
    rw [hcl]
    generalize hH1 : H.push ({ cls := cA, slots := Array.replicate (bh_al t) .null, vm := .none } : Cell) = H1
    have z1 : H1.size = H.size + 1 := by rw [← hH1, Array.size_push]
    have e1 : H1[H.size]? = some (arrV cA (bh_al t) (fun _ => .null)) := by rw [← hH1, Array.getElem?_push_size, ← arrV_new]
    have o1 : ∀ q : Nat, q < H.size → H1[q]? = H[q]? := fun q hq => by rw [← hH1, Array.getElem?_push, if_neg (Nat.ne_of_lt hq)]
    have hcA : cA = G.2.2.1 t := Option.some.inj (f1.symm.trans hra)
    subst hcA
    refine W.widen (k := S.2.2.2 + 1) (n := 256 * (S.2.2.2 + 1)) (Nat.le_refl _) (by omega) ?_
    have hat : bh_at G (bh_ads ad t (bh_C S.2.2.1 t + 1) H.size) (bh_nw S.2.2.1 t) t (bh_C S.2.2.1 t + 1) H1 := by
      refine ⟨fun h0 => absurd h0 hak, fun _ => ?_⟩
      rw [bh_ads_eq, e1]
      congr 2
      funext j
      rw [bh_fld_nw, ← hdf j]
    have hext : ∀ t' x', x' ≤ bh_C M0 t' → bh_ads ad t (bh_C S.2.2.1 t + 1) H.size t' x' = ad0 t' x' := by
      intro t' x' hx'
      rw [bh_ads_ne]
      · exact ha.2 t' x' hx'
      · rintro ⟨rfl, rfl⟩
        have := hC t'
        omega
    have h4 := h3 (bh_ads ad t (bh_C S.2.2.1 t + 1) H.size) H1 locs ls ⟨fun hf => (by rw [hfl] at hf; cases hf), hext⟩ (fun t' => Nat.le_trans (hC t') (bh_nw_le _ _ _)) (hR.nw hhp hbH o1 hat) ⟨Nat.le_trans hS.1 (by omega), fun x h1 h2 => (o1 x (Nat.lt_of_lt_of_le h1 hS.1)).trans (hS.2.1 x h1 h2), hS.2.2⟩ (bh_loc_ads hok.1 hl)
    have e2 : List.map (bh_tr (bh_ads ad t (bh_C S.2.2.1 t + 1) H.size)) (.inr (t, bh_C S.2.2.1 t + 1) :: r) = .ref H.size :: r.map (bh_tr ad) := by
      rw [List.map_cons, bh_tr_adss hokr, bh_tr_ref (by omega), bh_ads_eq]
    rw [e2] at h4
    exact h4
  · exact h.elim
end BS3
