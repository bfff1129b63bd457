section BS2
variable {p : Program} {l : Launch} {e : Env} {R : Room} {s : State} {m : MethodId} {args : Array Value} {below : List Frame} {meth : Method} {c : Code} {Q : State → Prop} {G : bh_G} {base nL : Nat} {ad0 : Nat → Nat → Nat} {M0 : bh_M} {fl : Bool} {cc : ByteArray} {pc : Nat}
theorem bs_gI (hx : p.tables.exec = Jvm.exec) (hb : c.code = cc) (hK : va_K (G.1, G.2.1) classes [] s) {Ts : List Cond} (hts : ∀ w ∈ Ts, w.before args s = true) {own ref C : String} {T : u_T} {N index t j : Nat} (hin : ∀ w ∈ u_ws C T N, w ∈ Ts) (hown : s.vm.findClass own = some m.cls) (hc : classes[bh_ci t]? = some (C, T, N)) (hN : bh_cn t = N) (hk : j < N) (hlink : (Cond.fieldLink own index ref (T j).2.1 (T j).2.2.1).before args s = true) (hsame : ∀ x, s.fieldFound? (T j).1 (T j).2.1 (T j).2.2.1 = some x → s.fieldFound? ref (T j).2.1 (T j).2.2.1 = some x) (hp : bh_hp t = true) (hak : bh_ak t = 0) (hkd : bh_kd t j = 0) (d : decode cc pc = .ok (.getfield index, 3)) {S : bh_S} {Z : bh_F → Prop} (h : bo_gI (pc + 3) t j S (fun y => bh_WA p l e R s m args below meth c Q G base nL ad0 M0 fl y.1 y.2) Z) : bh_WA p l e R s m args below meth c Q G base nL ad0 M0 fl pc S := by
  intro ad H locs ls ha hC hR hS hl
  unfold bo_gI at h
  split at h
  · rename_i t' x r hq
    obtain ⟨rfl, h1, h2, h3⟩ := h
    obtain ⟨cell, q1, q2, q3, q4⟩ := (hR.1 t' x hp h1 h2).1 hak
    obtain ⟨hSl, hfc, kC, hkC, hkind⟩ := hK.1 _ _ hc
    obtain ⟨cf, kf, fi, f, hi, hsl⟩ := hSl j hk
    rw [hq, List.map_cons, bh_tr_ref h1]
    refine W.getf hx hb hown hlink (hsame _ hi) (u_facts hfc hkC (u_lays hts hin hk) hi).1 q1 (by rw [q3]; exact fun h => by cases h) (v := .int (bh_I S.2.2.1 t' x j)) ?_ rfl rfl d (h3 ad H locs ls ha hC hR hS hl)
    rw [hsl, q4 j (by rw [hN]; exact hk), bh_fld_I hkd]
  · exact h.elim
theorem bs_gD (hx : p.tables.exec = Jvm.exec) (hb : c.code = cc) (hK : va_K (G.1, G.2.1) classes [] s) {Ts : List Cond} (hts : ∀ w ∈ Ts, w.before args s = true) {own ref C : String} {T : u_T} {N index t j : Nat} (hin : ∀ w ∈ u_ws C T N, w ∈ Ts) (hown : s.vm.findClass own = some m.cls) (hc : classes[bh_ci t]? = some (C, T, N)) (hN : bh_cn t = N) (hk : j < N) (hlink : (Cond.fieldLink own index ref (T j).2.1 (T j).2.2.1).before args s = true) (hsame : ∀ x, s.fieldFound? (T j).1 (T j).2.1 (T j).2.2.1 = some x → s.fieldFound? ref (T j).2.1 (T j).2.2.1 = some x) (hp : bh_hp t = true) (hak : bh_ak t = 0) (hkd : bh_kd t j = 2) (d : decode cc pc = .ok (.getfield index, 3)) {S : bh_S} {Z : bh_F → Prop} (h : bo_gD (pc + 3) t j S (fun y => bh_WA p l e R s m args below meth c Q G base nL ad0 M0 fl y.1 y.2) Z) : bh_WA p l e R s m args below meth c Q G base nL ad0 M0 fl pc S := by
  intro ad H locs ls ha hC hR hS hl
  unfold bo_gD at h
  split at h
  · rename_i t' x r hq
    obtain ⟨rfl, h1, h2, h3⟩ := h
    obtain ⟨cell, q1, q2, q3, q4⟩ := (hR.1 t' x hp h1 h2).1 hak
    obtain ⟨hSl, hfc, kC, hkC, hkind⟩ := hK.1 _ _ hc
    obtain ⟨cf, kf, fi, f, hi, hsl⟩ := hSl j hk
    rw [hq, List.map_cons, bh_tr_ref h1]
    refine W.getf hx hb hown hlink (hsame _ hi) (u_facts hfc hkC (u_lays hts hin hk) hi).1 q1 (by rw [q3]; exact fun h => by cases h) (v := .double (bh_D S.2.2.1 t' x j)) ?_ rfl rfl d (h3 ad H locs ls ha hC hR hS hl)
    rw [hsl, q4 j (by rw [hN]; exact hk), bh_fld_D hkd]
  · exact h.elim
theorem bs_gR (hx : p.tables.exec = Jvm.exec) (hb : c.code = cc) (hK : va_K (G.1, G.2.1) classes [] s) {Ts : List Cond} (hts : ∀ w ∈ Ts, w.before args s = true) {own ref C : String} {T : u_T} {N index t j : Nat} (hin : ∀ w ∈ u_ws C T N, w ∈ Ts) (hown : s.vm.findClass own = some m.cls) (hc : classes[bh_ci t]? = some (C, T, N)) (hN : bh_cn t = N) (hk : j < N) (hlink : (Cond.fieldLink own index ref (T j).2.1 (T j).2.2.1).before args s = true) (hsame : ∀ x, s.fieldFound? (T j).1 (T j).2.1 (T j).2.2.1 = some x → s.fieldFound? ref (T j).2.1 (T j).2.2.1 = some x) (hp : bh_hp t = true) (hak : bh_ak t = 0) {k : Nat} (hkd : bh_kd t j = k + 3) (d : decode cc pc = .ok (.getfield index, 3)) {S : bh_S} {Z : bh_F → Prop} (h : bo_gR (pc + 3) t j k S (fun y => bh_WA p l e R s m args below meth c Q G base nL ad0 M0 fl y.1 y.2) Z) : bh_WA p l e R s m args below meth c Q G base nL ad0 M0 fl pc S := by
  intro ad H locs ls ha hC hR hS hl
  unfold bo_gR at h
  split at h
  · rename_i t' x r hq
    obtain ⟨rfl, h1, h2, h3⟩ := h
    obtain ⟨cell, q1, q2, q3, q4⟩ := (hR.1 t' x hp h1 h2).1 hak
    obtain ⟨hSl, hfc, kC, hkC, hkind⟩ := hK.1 _ _ hc
    obtain ⟨cf, kf, fi, f, hi, hsl⟩ := hSl j hk
    rw [hq, List.map_cons, bh_tr_ref h1]
    refine W.getf hx hb hown hlink (hsame _ hi) (u_facts hfc hkC (u_lays hts hin hk) hi).1 q1 (by rw [q3]; exact fun h => by cases h) (v := bh_tr ad (.inr (k, bh_R S.2.2.1 t' x j))) ?_ rfl rfl d (h3 ad H locs ls ha hC hR hS hl)
    rw [hsl, q4 j (by rw [hN]; exact hk), bh_fld_R hkd]
  · exact h.elim
theorem bs_pI (hx : p.tables.exec = Jvm.exec) (hb : c.code = cc) (hK : va_K (G.1, G.2.1) classes [] s) {Ts : List Cond} (hts : ∀ w ∈ Ts, w.before args s = true) {own ref C : String} {T : u_T} {N index t j : Nat} (hin : ∀ w ∈ u_ws C T N, w ∈ Ts) (hown : s.vm.findClass own = some m.cls) (hc : classes[bh_ci t]? = some (C, T, N)) (hN : bh_cn t = N) (hk : j < N) (hlink : (Cond.fieldLink own index ref (T j).2.1 (T j).2.2.1).before args s = true) (hsame : ∀ x, s.fieldFound? (T j).1 (T j).2.1 (T j).2.2.1 = some x → s.fieldFound? ref (T j).2.1 (T j).2.2.1 = some x) (hp : bh_hp t = true) (hak : bh_ak t = 0) (ty0 : Nat → FieldType) (hty : ∀ k, k < N → parseFieldDescriptor (T k).2.2.1 = some (ty0 k)) (hnm : ∀ a, a < N → ∀ b, b < N → a ≠ b → (T a).2.1 ≠ (T b).2.1) (hfin : (T j).2.2.2 = false) (hd : parseFieldDescriptor (T j).2.2.1 = some .int) (hkd : bh_kd t j = 0) (d : decode cc pc = .ok (.putfield index, 3)) {S : bh_S} {Z : bh_F → Prop} (h : bo_pI (pc + 3) t j S (fun y => bh_WA p l e R s m args below meth c Q G base nL ad0 M0 fl y.1 y.2) Z) : bh_WA p l e R s m args below meth c Q G base nL ad0 M0 fl pc S := by
  intro ad H locs ls ha hC hR hS hl
  unfold bo_pI at h
  split at h
  · rename_i v t' x r hq
    obtain ⟨rfl, h1, h2, h3⟩ := h
    have hap := va_apart (own := own) hts hin ty0 hty hnm hK hc
    obtain ⟨cell, q1, q2, q3, q4⟩ := (hR.1 t' x hp h1 h2).1 hak
    obtain ⟨hSl, hfc, kC, hkC, hkind⟩ := hK.1 _ _ hc
    obtain ⟨cf, kf, fi, f, hi, hsl⟩ := hSl j hk
    have hn : narrow .int (.int v) = .int v := rfl
    have hfit : fits .int (.int v) = true := rfl
    have hlay := hts _ (hin _ (u_in_lay hk))
    rw [hq, List.map_cons, List.map_cons, bh_tr_ref (t := t') h1]
    unfold u_lay at hlay
    rw [if_neg (by rw [hfin]; decide)] at hlay
    have hst := (u_facts hfc hkC (u_lays hts hin hk) hi).1
    have h6 := u_store hfc hkC hkind hlay hi hd hn hfit
    refine W.putK hx hb (f := f) ⟨hown, hlink, ⟨_, _, _, hsame _ hi⟩, hst⟩ (by rw [q2]; exact h6) q1 q3 (by rw [hsl]; exact k2_hasslot (q4 j (by rw [hN]; exact hk))) rfl rfl d fun H' e1 e2 e3 => ?_
    rw [hsl] at e1 ⊢
    refine h3 ad H' _ ls ha hC (hR.sI hp h1 h2 (M := S.2.2.1) ⟨fun _ => ⟨_, e1, q2, q3, fun i hi => ?_⟩, fun h0 => absurd hak h0⟩ e3) (hS.put e2 e3 (hR.2.1 t' x hp h1 h2)) hl
    rw [bh_fld_sI hkd]
    exact t_set (V := bh_fld ad S.2.2.1 t' x) (fun k hk' => q4 k (by rw [hN]; exact hk')) hap hk _ i (by rw [← hN]; exact hi)
  · exact h.elim
theorem bs_pIF (hx : p.tables.exec = Jvm.exec) (hb : c.code = cc) (hK : va_K (G.1, G.2.1) classes [] s) {Ts : List Cond} (hts : ∀ w ∈ Ts, w.before args s = true) {own ref C : String} {T : u_T} {N index t j : Nat} (hin : ∀ w ∈ u_ws C T N, w ∈ Ts) (hown : s.vm.findClass own = some m.cls) (hc : classes[bh_ci t]? = some (C, T, N)) (hN : bh_cn t = N) (hk : j < N) (hlink : (Cond.fieldLink own index ref (T j).2.1 (T j).2.2.1).before args s = true) (hsame : ∀ x, s.fieldFound? (T j).1 (T j).2.1 (T j).2.2.1 = some x → s.fieldFound? ref (T j).2.1 (T j).2.2.1 = some x) (hp : bh_hp t = true) (hak : bh_ak t = 0) (ty0 : Nat → FieldType) (hty : ∀ k, k < N → parseFieldDescriptor (T k).2.2.1 = some (ty0 k)) (hnm : ∀ a, a < N → ∀ b, b < N → a ≠ b → (T a).2.1 ≠ (T b).2.1) (hfin : (T j).2.2.2 = true) (hin2 : meth.name = "<init>") (hdecl : (T j).1 = own) (hd : parseFieldDescriptor (T j).2.2.1 = some .int) (hkd : bh_kd t j = 0) (d : decode cc pc = .ok (.putfield index, 3)) {S : bh_S} {Z : bh_F → Prop} (h : bo_pI (pc + 3) t j S (fun y => bh_WA p l e R s m args below meth c Q G base nL ad0 M0 fl y.1 y.2) Z) : bh_WA p l e R s m args below meth c Q G base nL ad0 M0 fl pc S := by
  intro ad H locs ls ha hC hR hS hl
  unfold bo_pI at h
  split at h
  · rename_i v t' x r hq
    obtain ⟨rfl, h1, h2, h3⟩ := h
    have hap := va_apart (own := own) hts hin ty0 hty hnm hK hc
    obtain ⟨cell, q1, q2, q3, q4⟩ := (hR.1 t' x hp h1 h2).1 hak
    obtain ⟨hSl, hfc, kC, hkC, hkind⟩ := hK.1 _ _ hc
    obtain ⟨cf, kf, fi, f, hi, hsl⟩ := hSl j hk
    have hn : narrow .int (.int v) = .int v := rfl
    have hfit : fits .int (.int v) = true := rfl
    have hlay := hts _ (hin _ (u_in_lay hk))
    rw [hq, List.map_cons, List.map_cons, bh_tr_ref (t := t') h1]
    unfold u_lay at hlay
    rw [if_pos hfin] at hlay
    have hst := (u_facts hfc hkC (u_lays hts hin hk) hi).1
    have hcf : m.cls = cf := by
      obtain ⟨_, _, c', _, _, _, -, -, hf', -, -, -, hown2, -⟩ := Cond.laysFinal_spec hlay
      have e1 : c' = cf := by have := hi.symm.trans hf'; simp at this; exact this.1.symm
      rw [hdecl] at hown2
      rw [← e1]; exact Option.some.inj (hown.symm.trans hown2)
    have h6 := u_fits hfc hkC hkind (Or.inr hlay) hi hd hn hfit
    refine W.putFinK hx hb hown hlink (hsame _ hi) hst hcf hin2 (by rw [q2]; exact h6) q1 q3 (by rw [hsl]; exact k2_hasslot (q4 j (by rw [hN]; exact hk))) rfl rfl d fun H' e1 e2 e3 => ?_
    rw [hsl] at e1 ⊢
    refine h3 ad H' _ ls ha hC (hR.sI hp h1 h2 (M := S.2.2.1) ⟨fun _ => ⟨_, e1, q2, q3, fun i hi => ?_⟩, fun h0 => absurd hak h0⟩ e3) (hS.put e2 e3 (hR.2.1 t' x hp h1 h2)) hl
    rw [bh_fld_sI hkd]
    exact t_set (V := bh_fld ad S.2.2.1 t' x) (fun k hk' => q4 k (by rw [hN]; exact hk')) hap hk _ i (by rw [← hN]; exact hi)
  · exact h.elim
theorem bs_pZ (hx : p.tables.exec = Jvm.exec) (hb : c.code = cc) (hK : va_K (G.1, G.2.1) classes [] s) {Ts : List Cond} (hts : ∀ w ∈ Ts, w.before args s = true) {own ref C : String} {T : u_T} {N index t j : Nat} (hin : ∀ w ∈ u_ws C T N, w ∈ Ts) (hown : s.vm.findClass own = some m.cls) (hc : classes[bh_ci t]? = some (C, T, N)) (hN : bh_cn t = N) (hk : j < N) (hlink : (Cond.fieldLink own index ref (T j).2.1 (T j).2.2.1).before args s = true) (hsame : ∀ x, s.fieldFound? (T j).1 (T j).2.1 (T j).2.2.1 = some x → s.fieldFound? ref (T j).2.1 (T j).2.2.1 = some x) (hp : bh_hp t = true) (hak : bh_ak t = 0) (ty0 : Nat → FieldType) (hty : ∀ k, k < N → parseFieldDescriptor (T k).2.2.1 = some (ty0 k)) (hnm : ∀ a, a < N → ∀ b, b < N → a ≠ b → (T a).2.1 ≠ (T b).2.1) (hfin : (T j).2.2.2 = false) (hd : parseFieldDescriptor (T j).2.2.1 = some .boolean) (hkd : bh_kd t j = 0) (d : decode cc pc = .ok (.putfield index, 3)) {S : bh_S} {Z : bh_F → Prop} (h : bo_pZ (pc + 3) t j S (fun y => bh_WA p l e R s m args below meth c Q G base nL ad0 M0 fl y.1 y.2) Z) : bh_WA p l e R s m args below meth c Q G base nL ad0 M0 fl pc S := by
  intro ad H locs ls ha hC hR hS hl
  unfold bo_pZ at h
  split at h
  · rename_i v t' x r hq
    obtain ⟨rfl, h1, h2, hv, h3⟩ := h
    have hap := va_apart (own := own) hts hin ty0 hty hnm hK hc
    obtain ⟨cell, q1, q2, q3, q4⟩ := (hR.1 t' x hp h1 h2).1 hak
    obtain ⟨hSl, hfc, kC, hkC, hkind⟩ := hK.1 _ _ hc
    obtain ⟨cf, kf, fi, f, hi, hsl⟩ := hSl j hk
    have hn : narrow .boolean (.int v) = .int v := by rcases hv with rfl | rfl <;> rfl
    have hfit : fits .boolean (.int v) = true := by rcases hv with rfl | rfl <;> rfl
    have hlay := hts _ (hin _ (u_in_lay hk))
    rw [hq, List.map_cons, List.map_cons, bh_tr_ref (t := t') h1]
    unfold u_lay at hlay
    rw [if_neg (by rw [hfin]; decide)] at hlay
    have hst := (u_facts hfc hkC (u_lays hts hin hk) hi).1
    have h6 := u_store hfc hkC hkind hlay hi hd hn hfit
    refine W.putK hx hb (f := f) ⟨hown, hlink, ⟨_, _, _, hsame _ hi⟩, hst⟩ (by rw [q2]; exact h6) q1 q3 (by rw [hsl]; exact k2_hasslot (q4 j (by rw [hN]; exact hk))) rfl rfl d fun H' e1 e2 e3 => ?_
    rw [hsl] at e1 ⊢
    refine h3 ad H' _ ls ha hC (hR.sI hp h1 h2 (M := S.2.2.1) ⟨fun _ => ⟨_, e1, q2, q3, fun i hi => ?_⟩, fun h0 => absurd hak h0⟩ e3) (hS.put e2 e3 (hR.2.1 t' x hp h1 h2)) hl
    rw [bh_fld_sI hkd]
    exact t_set (V := bh_fld ad S.2.2.1 t' x) (fun k hk' => q4 k (by rw [hN]; exact hk')) hap hk _ i (by rw [← hN]; exact hi)
  · exact h.elim
theorem bs_pD (hx : p.tables.exec = Jvm.exec) (hb : c.code = cc) (hK : va_K (G.1, G.2.1) classes [] s) {Ts : List Cond} (hts : ∀ w ∈ Ts, w.before args s = true) {own ref C : String} {T : u_T} {N index t j : Nat} (hin : ∀ w ∈ u_ws C T N, w ∈ Ts) (hown : s.vm.findClass own = some m.cls) (hc : classes[bh_ci t]? = some (C, T, N)) (hN : bh_cn t = N) (hk : j < N) (hlink : (Cond.fieldLink own index ref (T j).2.1 (T j).2.2.1).before args s = true) (hsame : ∀ x, s.fieldFound? (T j).1 (T j).2.1 (T j).2.2.1 = some x → s.fieldFound? ref (T j).2.1 (T j).2.2.1 = some x) (hp : bh_hp t = true) (hak : bh_ak t = 0) (ty0 : Nat → FieldType) (hty : ∀ k, k < N → parseFieldDescriptor (T k).2.2.1 = some (ty0 k)) (hnm : ∀ a, a < N → ∀ b, b < N → a ≠ b → (T a).2.1 ≠ (T b).2.1) (hfin : (T j).2.2.2 = false) (hd : parseFieldDescriptor (T j).2.2.1 = some .double) (hkd : bh_kd t j = 2) (d : decode cc pc = .ok (.putfield index, 3)) {S : bh_S} {Z : bh_F → Prop} (h : bo_pD (pc + 3) t j S (fun y => bh_WA p l e R s m args below meth c Q G base nL ad0 M0 fl y.1 y.2) Z) : bh_WA p l e R s m args below meth c Q G base nL ad0 M0 fl pc S := by
  intro ad H locs ls ha hC hR hS hl
  unfold bo_pD at h
  split at h
  · rename_i v t' x r hq
    obtain ⟨rfl, h1, h2, h3⟩ := h
    have hap := va_apart (own := own) hts hin ty0 hty hnm hK hc
    obtain ⟨cell, q1, q2, q3, q4⟩ := (hR.1 t' x hp h1 h2).1 hak
    obtain ⟨hSl, hfc, kC, hkC, hkind⟩ := hK.1 _ _ hc
    obtain ⟨cf, kf, fi, f, hi, hsl⟩ := hSl j hk
    have hn : narrow .double (.double v) = .double v := rfl
    have hfit : fits .double (.double v) = true := rfl
    have hlay := hts _ (hin _ (u_in_lay hk))
    rw [hq, List.map_cons, List.map_cons, bh_tr_ref (t := t') h1]
    unfold u_lay at hlay
    rw [if_neg (by rw [hfin]; decide)] at hlay
    have hst := (u_facts hfc hkC (u_lays hts hin hk) hi).1
    have h6 := u_store hfc hkC hkind hlay hi hd hn hfit
    refine W.putK hx hb (f := f) ⟨hown, hlink, ⟨_, _, _, hsame _ hi⟩, hst⟩ (by rw [q2]; exact h6) q1 q3 (by rw [hsl]; exact k2_hasslot (q4 j (by rw [hN]; exact hk))) rfl rfl d fun H' e1 e2 e3 => ?_
    rw [hsl] at e1 ⊢
    refine h3 ad H' _ ls ha hC (hR.sD hp h1 h2 (M := S.2.2.1) ⟨fun _ => ⟨_, e1, q2, q3, fun i hi => ?_⟩, fun h0 => absurd hak h0⟩ e3) (hS.put e2 e3 (hR.2.1 t' x hp h1 h2)) hl
    rw [bh_fld_sD hkd]
    exact t_set (V := bh_fld ad S.2.2.1 t' x) (fun k hk' => q4 k (by rw [hN]; exact hk')) hap hk _ i (by rw [← hN]; exact hi)
  · exact h.elim
theorem bs_pR (hx : p.tables.exec = Jvm.exec) (hb : c.code = cc) (hK : va_K (G.1, G.2.1) classes [] s) {Ts : List Cond} (hts : ∀ w ∈ Ts, w.before args s = true) {own ref C : String} {T : u_T} {N index t j : Nat} (hin : ∀ w ∈ u_ws C T N, w ∈ Ts) (hown : s.vm.findClass own = some m.cls) (hc : classes[bh_ci t]? = some (C, T, N)) (hN : bh_cn t = N) (hk : j < N) (hlink : (Cond.fieldLink own index ref (T j).2.1 (T j).2.2.1).before args s = true) (hsame : ∀ x, s.fieldFound? (T j).1 (T j).2.1 (T j).2.2.1 = some x → s.fieldFound? ref (T j).2.1 (T j).2.2.1 = some x) (hp : bh_hp t = true) (hak : bh_ak t = 0) (ty0 : Nat → FieldType) (hty : ∀ k, k < N → parseFieldDescriptor (T k).2.2.1 = some (ty0 k)) (hnm : ∀ a, a < N → ∀ b, b < N → a ≠ b → (T a).2.1 ≠ (T b).2.1) (hfin : (T j).2.2.2 = false) {ty : FieldType} (hd : parseFieldDescriptor (T j).2.2.1 = some ty) (hnr : ∀ a : Nat, narrow ty (.ref a) = .ref a) (hft : ∀ a : Nat, fits ty (.ref a) = true) {k : Nat} (hkd : bh_kd t j = k + 3) (d : decode cc pc = .ok (.putfield index, 3)) {S : bh_S} {Z : bh_F → Prop} (h : bo_pR (pc + 3) t j k S (fun y => bh_WA p l e R s m args below meth c Q G base nL ad0 M0 fl y.1 y.2) Z) : bh_WA p l e R s m args below meth c Q G base nL ad0 M0 fl pc S := by
  intro ad H locs ls ha hC hR hS hl
  unfold bo_pR at h
  split at h
  · rename_i k' y t' x r hq
    obtain ⟨rfl, h1, h2, rfl, hy1, hy2, h3⟩ := h
    have hap := va_apart (own := own) hts hin ty0 hty hnm hK hc
    obtain ⟨cell, q1, q2, q3, q4⟩ := (hR.1 t' x hp h1 h2).1 hak
    obtain ⟨hSl, hfc, kC, hkC, hkind⟩ := hK.1 _ _ hc
    obtain ⟨cf, kf, fi, f, hi, hsl⟩ := hSl j hk
    have hn : narrow ty (bh_tr ad (.inr (k', y))) = bh_tr ad (.inr (k', y)) := by rw [bh_tr_ref hy1]; exact hnr _
    have hfit : fits ty (bh_tr ad (.inr (k', y))) = true := by rw [bh_tr_ref hy1]; exact hft _
    have hlay := hts _ (hin _ (u_in_lay hk))
    rw [hq, List.map_cons, List.map_cons, bh_tr_ref (t := t') h1]
    unfold u_lay at hlay
    rw [if_neg (by rw [hfin]; decide)] at hlay
    have hst := (u_facts hfc hkC (u_lays hts hin hk) hi).1
    have h6 := u_store hfc hkC hkind hlay hi hd hn hfit
    refine W.putK hx hb (f := f) ⟨hown, hlink, ⟨_, _, _, hsame _ hi⟩, hst⟩ (by rw [q2]; exact h6) q1 q3 (by rw [hsl]; exact k2_hasslot (q4 j (by rw [hN]; exact hk))) rfl rfl d fun H' e1 e2 e3 => ?_
    rw [hsl] at e1 ⊢
    refine h3 ad H' _ ls ha hC (hR.sR hp h1 h2 hkd hy2 (M := S.2.2.1) ⟨fun _ => ⟨_, e1, q2, q3, fun i hi => ?_⟩, fun h0 => absurd hak h0⟩ e3) (hS.put e2 e3 (hR.2.1 t' x hp h1 h2)) hl
    rw [bh_fld_sR hkd]
    exact t_set (V := bh_fld ad S.2.2.1 t' x) (fun k hk' => q4 k (by rw [hN]; exact hk')) hap hk _ i (by rw [← hN]; exact hi)
  · exact h.elim
theorem bs_pRF (hx : p.tables.exec = Jvm.exec) (hb : c.code = cc) (hK : va_K (G.1, G.2.1) classes [] s) {Ts : List Cond} (hts : ∀ w ∈ Ts, w.before args s = true) {own ref C : String} {T : u_T} {N index t j : Nat} (hin : ∀ w ∈ u_ws C T N, w ∈ Ts) (hown : s.vm.findClass own = some m.cls) (hc : classes[bh_ci t]? = some (C, T, N)) (hN : bh_cn t = N) (hk : j < N) (hlink : (Cond.fieldLink own index ref (T j).2.1 (T j).2.2.1).before args s = true) (hsame : ∀ x, s.fieldFound? (T j).1 (T j).2.1 (T j).2.2.1 = some x → s.fieldFound? ref (T j).2.1 (T j).2.2.1 = some x) (hp : bh_hp t = true) (hak : bh_ak t = 0) (ty0 : Nat → FieldType) (hty : ∀ k, k < N → parseFieldDescriptor (T k).2.2.1 = some (ty0 k)) (hnm : ∀ a, a < N → ∀ b, b < N → a ≠ b → (T a).2.1 ≠ (T b).2.1) (hfin : (T j).2.2.2 = true) (hin2 : meth.name = "<init>") (hdecl : (T j).1 = own) {ty : FieldType} (hd : parseFieldDescriptor (T j).2.2.1 = some ty) (hnr : ∀ a : Nat, narrow ty (.ref a) = .ref a) (hft : ∀ a : Nat, fits ty (.ref a) = true) {k : Nat} (hkd : bh_kd t j = k + 3) (d : decode cc pc = .ok (.putfield index, 3)) {S : bh_S} {Z : bh_F → Prop} (h : bo_pR (pc + 3) t j k S (fun y => bh_WA p l e R s m args below meth c Q G base nL ad0 M0 fl y.1 y.2) Z) : bh_WA p l e R s m args below meth c Q G base nL ad0 M0 fl pc S := by
  intro ad H locs ls ha hC hR hS hl
  unfold bo_pR at h
  split at h
  · rename_i k' y t' x r hq
    obtain ⟨rfl, h1, h2, rfl, hy1, hy2, h3⟩ := h
    have hap := va_apart (own := own) hts hin ty0 hty hnm hK hc
    obtain ⟨cell, q1, q2, q3, q4⟩ := (hR.1 t' x hp h1 h2).1 hak
    obtain ⟨hSl, hfc, kC, hkC, hkind⟩ := hK.1 _ _ hc
    obtain ⟨cf, kf, fi, f, hi, hsl⟩ := hSl j hk
    have hn : narrow ty (bh_tr ad (.inr (k', y))) = bh_tr ad (.inr (k', y)) := by rw [bh_tr_ref hy1]; exact hnr _
    have hfit : fits ty (bh_tr ad (.inr (k', y))) = true := by rw [bh_tr_ref hy1]; exact hft _
    have hlay := hts _ (hin _ (u_in_lay hk))
    rw [hq, List.map_cons, List.map_cons, bh_tr_ref (t := t') h1]
    unfold u_lay at hlay
    rw [if_pos hfin] at hlay
    have hst := (u_facts hfc hkC (u_lays hts hin hk) hi).1
    have hcf : m.cls = cf := by
      obtain ⟨_, _, c', _, _, _, -, -, hf', -, -, -, hown2, -⟩ := Cond.laysFinal_spec hlay
      have e1 : c' = cf := by have := hi.symm.trans hf'; simp at this; exact this.1.symm
      rw [hdecl] at hown2
      rw [← e1]; exact Option.some.inj (hown.symm.trans hown2)
    have h6 := u_fits hfc hkC hkind (Or.inr hlay) hi hd hn hfit
    refine W.putFinK hx hb hown hlink (hsame _ hi) hst hcf hin2 (by rw [q2]; exact h6) q1 q3 (by rw [hsl]; exact k2_hasslot (q4 j (by rw [hN]; exact hk))) rfl rfl d fun H' e1 e2 e3 => ?_
    rw [hsl] at e1 ⊢
    refine h3 ad H' _ ls ha hC (hR.sR hp h1 h2 hkd hy2 (M := S.2.2.1) ⟨fun _ => ⟨_, e1, q2, q3, fun i hi => ?_⟩, fun h0 => absurd hak h0⟩ e3) (hS.put e2 e3 (hR.2.1 t' x hp h1 h2)) hl
    rw [bh_fld_sR hkd]
    exact t_set (V := bh_fld ad S.2.2.1 t' x) (fun k hk' => q4 k (by rw [hN]; exact hk')) hap hk _ i (by rw [← hN]; exact hi)
  · exact h.elim
theorem bs_Iald (hx : p.tables.exec = Jvm.exec) (hb : c.code = cc) (hAr : ∀ t, bh_ak t = 1 → bh_hp t = true ∧ ArrOfT s (G.2.2.1 t) .int) (d : decode cc pc = .ok (.iaload, 1)) {S : bh_S} {Z : bh_F → Prop} (h : bo_Iald bh_ak bh_al (pc + 1) S (fun y => bh_WA p l e R s m args below meth c Q G base nL ad0 M0 fl y.1 y.2) Z) : bh_WA p l e R s m args below meth c Q G base nL ad0 M0 fl pc S := by
  intro ad H locs ls ha hC hR hS hl
  unfold bo_Iald at h
  split at h
  · rename_i i t x r hq
    obtain ⟨h0, h1, h2, hin, h3⟩ := h
    obtain ⟨hp, hA⟩ := hAr t h0
    have hce := (hR.1 t x hp h1 h2).2 (by rw [h0]; decide)
    have hlt : i.toNatClampNeg < bh_al t := Nat.not_le.mp fun q => hin (Or.inr q)
    have hkd : ∀ j, bh_kd t j = 0 := fun j => by unfold bh_kd; rw [h0]
    rw [hq, List.map_cons, List.map_cons, bh_tr_ref h1]
    exact W.iald (v := .int (bh_I S.2.2.1 t x i.toNatClampNeg)) hx hb hce (hA _ _) (fun q => by cases q) (by rw [arrV_size]; exact hin) (by rw [arrV_read _ _ hlt, bh_fld_I (hkd _)]) rfl rfl d (h3 ad H locs ls ha hC hR hS hl)
  · exact h.elim
theorem bs_Zald (hx : p.tables.exec = Jvm.exec) (hb : c.code = cc) (hAr : ∀ t, bh_ak t = 2 → bh_hp t = true ∧ ArrOfT s (G.2.2.1 t) .boolean) (d : decode cc pc = .ok (.baload, 1)) {S : bh_S} {Z : bh_F → Prop} (h : bo_Zald bh_ak bh_al (pc + 1) S (fun y => bh_WA p l e R s m args below meth c Q G base nL ad0 M0 fl y.1 y.2) Z) : bh_WA p l e R s m args below meth c Q G base nL ad0 M0 fl pc S := by
  intro ad H locs ls ha hC hR hS hl
  unfold bo_Zald at h
  split at h
  · rename_i i t x r hq
    obtain ⟨h0, h1, h2, hin, h3⟩ := h
    obtain ⟨hp, hA⟩ := hAr t h0
    have hce := (hR.1 t x hp h1 h2).2 (by rw [h0]; decide)
    have hlt : i.toNatClampNeg < bh_al t := Nat.not_le.mp fun q => hin (Or.inr q)
    have hkd : ∀ j, bh_kd t j = 0 := fun j => by unfold bh_kd; rw [h0]
    rw [hq, List.map_cons, List.map_cons, bh_tr_ref h1]
    exact W.zald (v := .int (bh_I S.2.2.1 t x i.toNatClampNeg)) hx hb hce (hA _ _) (fun q => by cases q) (by rw [arrV_size]; exact hin) (by rw [arrV_read _ _ hlt, bh_fld_I (hkd _)]) rfl rfl d (h3 ad H locs ls ha hC hR hS hl)
  · exact h.elim
theorem bs_Jald (hx : p.tables.exec = Jvm.exec) (hb : c.code = cc) (hAr : ∀ t, bh_ak t = 3 → bh_hp t = true ∧ ArrOfT s (G.2.2.1 t) .long) (d : decode cc pc = .ok (.laload, 1)) {S : bh_S} {Z : bh_F → Prop} (h : bo_Jald bh_ak bh_al (pc + 1) S (fun y => bh_WA p l e R s m args below meth c Q G base nL ad0 M0 fl y.1 y.2) Z) : bh_WA p l e R s m args below meth c Q G base nL ad0 M0 fl pc S := by
  intro ad H locs ls ha hC hR hS hl
  unfold bo_Jald at h
  split at h
  · rename_i i t x r hq
    obtain ⟨h0, h1, h2, hin, h3⟩ := h
    obtain ⟨hp, hA⟩ := hAr t h0
    have hce := (hR.1 t x hp h1 h2).2 (by rw [h0]; decide)
    have hlt : i.toNatClampNeg < bh_al t := Nat.not_le.mp fun q => hin (Or.inr q)
    have hkd : ∀ j, bh_kd t j = 1 := fun j => by unfold bh_kd; rw [h0]
    rw [hq, List.map_cons, List.map_cons, bh_tr_ref h1]
    exact W.lald (v := .long (bh_J S.2.2.1 t x i.toNatClampNeg)) hx hb hce (hA _ _) (fun q => by cases q) (by rw [arrV_size]; exact hin) (by rw [arrV_read _ _ hlt, bh_fld_J (hkd _)]) rfl rfl d (h3 ad H locs ls ha hC hR hS hl)
  · exact h.elim
theorem bs_Dald (hx : p.tables.exec = Jvm.exec) (hb : c.code = cc) (hAr : ∀ t, bh_ak t = 4 → bh_hp t = true ∧ ArrOfT s (G.2.2.1 t) .double) (d : decode cc pc = .ok (.daload, 1)) {S : bh_S} {Z : bh_F → Prop} (h : bo_Dald bh_ak bh_al (pc + 1) S (fun y => bh_WA p l e R s m args below meth c Q G base nL ad0 M0 fl y.1 y.2) Z) : bh_WA p l e R s m args below meth c Q G base nL ad0 M0 fl pc S := by
  intro ad H locs ls ha hC hR hS hl
  unfold bo_Dald at h
  split at h
  · rename_i i t x r hq
    obtain ⟨h0, h1, h2, hin, h3⟩ := h
    obtain ⟨hp, hA⟩ := hAr t h0
    have hce := (hR.1 t x hp h1 h2).2 (by rw [h0]; decide)
    have hlt : i.toNatClampNeg < bh_al t := Nat.not_le.mp fun q => hin (Or.inr q)
    have hkd : ∀ j, bh_kd t j = 2 := fun j => by unfold bh_kd; rw [h0]
    rw [hq, List.map_cons, List.map_cons, bh_tr_ref h1]
    exact W.dald (v := .double (bh_D S.2.2.1 t x i.toNatClampNeg)) hx hb hce (hA _ _) (fun q => by cases q) (by rw [arrV_size]; exact hin) (by rw [arrV_read _ _ hlt, bh_fld_D (hkd _)]) rfl rfl d (h3 ad H locs ls ha hC hR hS hl)
  · exact h.elim
theorem bs_Rald (hx : p.tables.exec = Jvm.exec) (hb : c.code = cc) (hAr : ∀ t, 5 ≤ bh_ak t → bh_hp t = true ∧ ∃ C : String, ArrOfT s (G.2.2.1 t) (.object C)) (d : decode cc pc = .ok (.aaload, 1)) {S : bh_S} {Z : bh_F → Prop} (h : bo_Rald bh_ak bh_al (pc + 1) S (fun y => bh_WA p l e R s m args below meth c Q G base nL ad0 M0 fl y.1 y.2) Z) : bh_WA p l e R s m args below meth c Q G base nL ad0 M0 fl pc S := by
  intro ad H locs ls ha hC hR hS hl
  unfold bo_Rald at h
  split at h
  · rename_i i t x r hq
    obtain ⟨h0, h1, h2, hin, h3⟩ := h
    obtain ⟨hp, C, hA⟩ := hAr t h0
    have hce := (hR.1 t x hp h1 h2).2 (by omega)
    have hlt : i.toNatClampNeg < bh_al t := Nat.not_le.mp fun q => hin (Or.inr q)
    obtain ⟨k, hk⟩ : ∃ k, bh_ak t = k + 5 := ⟨bh_ak t - 5, by omega⟩
    have hkd : ∀ j, bh_kd t j = k + 3 := fun j => by unfold bh_kd; rw [hk]
    rw [show bh_ak t - 5 = k by omega] at h3
    rw [hq, List.map_cons, List.map_cons, bh_tr_ref h1]
    exact W.aald (v := bh_tr ad (.inr (k, bh_R S.2.2.1 t x i.toNatClampNeg))) (ty := .object C) hx hb hce (hA _ _) rfl (fun q => by cases q) (by rw [arrV_size]; exact hin) (by rw [arrV_read _ _ hlt, bh_fld_R (hkd _)]) rfl rfl d (h3 ad H locs ls ha hC hR hS hl)
  · exact h.elim
theorem bs_Iast (hx : p.tables.exec = Jvm.exec) (hb : c.code = cc) (hAr : ∀ t, bh_ak t = 1 → bh_hp t = true ∧ ArrOfT s (G.2.2.1 t) .int) (d : decode cc pc = .ok (.iastore, 1)) {S : bh_S} {Z : bh_F → Prop} (h : bo_Iast bh_ak bh_al (pc + 1) S (fun y => bh_WA p l e R s m args below meth c Q G base nL ad0 M0 fl y.1 y.2) Z) : bh_WA p l e R s m args below meth c Q G base nL ad0 M0 fl pc S := by
  intro ad H locs ls ha hC hR hS hl
  unfold bo_Iast at h
  split at h
  · rename_i v i t x r hq
    obtain ⟨h0, h1, h2, hin, h3⟩ := h
    obtain ⟨hp, hA⟩ := hAr t h0
    have hce := (hR.1 t x hp h1 h2).2 (by rw [h0]; decide)
    have hkd : ∀ j, bh_kd t j = 0 := fun j => by unfold bh_kd; rw [h0]
    rw [hq, List.map_cons, List.map_cons, List.map_cons, bh_tr_ref h1]
    refine W.iast hx hb hce (hA _ _) (fun q => by cases q) (by rw [arrV_size]; exact hin) rfl rfl d fun H' e1 e2 e3 => ?_
    refine h3 ad H' _ ls ha hC (hR.sI hp h1 h2 (M := S.2.2.1) ⟨fun h9 => absurd (h0.symm.trans h9) (by decide), fun _ => ?_⟩ e3) (hS.put e2 e3 (hR.2.1 t x hp h1 h2)) hl
    rw [e1, arrV_store, bh_fld_sI (hkd _)]
  · exact h.elim
theorem bs_Zast (hx : p.tables.exec = Jvm.exec) (hb : c.code = cc) (hAr : ∀ t, bh_ak t = 2 → bh_hp t = true ∧ ArrOfT s (G.2.2.1 t) .boolean) (d : decode cc pc = .ok (.bastore, 1)) {S : bh_S} {Z : bh_F → Prop} (h : bo_Zast bh_ak bh_al (pc + 1) S (fun y => bh_WA p l e R s m args below meth c Q G base nL ad0 M0 fl y.1 y.2) Z) : bh_WA p l e R s m args below meth c Q G base nL ad0 M0 fl pc S := by
  intro ad H locs ls ha hC hR hS hl
  unfold bo_Zast at h
  split at h
  · rename_i v i t x r hq
    obtain ⟨h0, h1, h2, hin, hv, h3⟩ := h
    obtain ⟨hp, hA⟩ := hAr t h0
    have hce := (hR.1 t x hp h1 h2).2 (by rw [h0]; decide)
    have hkd : ∀ j, bh_kd t j = 0 := fun j => by unfold bh_kd; rw [h0]
    have hnz : narrow .boolean (.int v) = .int v := by rcases hv with rfl | rfl <;> rfl
    rw [hq, List.map_cons, List.map_cons, List.map_cons, bh_tr_ref h1]
    refine W.zast hx hb hce (hA _ _) (fun q => by cases q) (by rw [arrV_size]; exact hin) rfl rfl d fun H' e1 e2 e3 => ?_
    rw [hnz] at e1
    refine h3 ad H' _ ls ha hC (hR.sI hp h1 h2 (M := S.2.2.1) ⟨fun h9 => absurd (h0.symm.trans h9) (by decide), fun _ => ?_⟩ e3) (hS.put e2 e3 (hR.2.1 t x hp h1 h2)) hl
    rw [e1, arrV_store, bh_fld_sI (hkd _)]
  · exact h.elim
theorem bs_Jast (hx : p.tables.exec = Jvm.exec) (hb : c.code = cc) (hAr : ∀ t, bh_ak t = 3 → bh_hp t = true ∧ ArrOfT s (G.2.2.1 t) .long) (d : decode cc pc = .ok (.lastore, 1)) {S : bh_S} {Z : bh_F → Prop} (h : bo_Jast bh_ak bh_al (pc + 1) S (fun y => bh_WA p l e R s m args below meth c Q G base nL ad0 M0 fl y.1 y.2) Z) : bh_WA p l e R s m args below meth c Q G base nL ad0 M0 fl pc S := by
  intro ad H locs ls ha hC hR hS hl
  unfold bo_Jast at h
  split at h
  · rename_i v i t x r hq
    obtain ⟨h0, h1, h2, hin, h3⟩ := h
    obtain ⟨hp, hA⟩ := hAr t h0
    have hce := (hR.1 t x hp h1 h2).2 (by rw [h0]; decide)
    have hkd : ∀ j, bh_kd t j = 1 := fun j => by unfold bh_kd; rw [h0]
    rw [hq, List.map_cons, List.map_cons, List.map_cons, bh_tr_ref h1]
    refine W.last hx hb hce (hA _ _) (fun q => by cases q) (by rw [arrV_size]; exact hin) rfl rfl d fun H' e1 e2 e3 => ?_
    refine h3 ad H' _ ls ha hC (hR.sJ hp h1 h2 (M := S.2.2.1) ⟨fun h9 => absurd (h0.symm.trans h9) (by decide), fun _ => ?_⟩ e3) (hS.put e2 e3 (hR.2.1 t x hp h1 h2)) hl
    rw [e1, arrV_store, bh_fld_sJ (hkd _)]
  · exact h.elim
theorem bs_Dast (hx : p.tables.exec = Jvm.exec) (hb : c.code = cc) (hAr : ∀ t, bh_ak t = 4 → bh_hp t = true ∧ ArrOfT s (G.2.2.1 t) .double) (d : decode cc pc = .ok (.dastore, 1)) {S : bh_S} {Z : bh_F → Prop} (h : bo_Dast bh_ak bh_al (pc + 1) S (fun y => bh_WA p l e R s m args below meth c Q G base nL ad0 M0 fl y.1 y.2) Z) : bh_WA p l e R s m args below meth c Q G base nL ad0 M0 fl pc S := by
  intro ad H locs ls ha hC hR hS hl
  unfold bo_Dast at h
  split at h
  · rename_i v i t x r hq
    obtain ⟨h0, h1, h2, hin, h3⟩ := h
    obtain ⟨hp, hA⟩ := hAr t h0
    have hce := (hR.1 t x hp h1 h2).2 (by rw [h0]; decide)
    have hkd : ∀ j, bh_kd t j = 2 := fun j => by unfold bh_kd; rw [h0]
    rw [hq, List.map_cons, List.map_cons, List.map_cons, bh_tr_ref h1]
    refine W.dast hx hb hce (hA _ _) (fun q => by cases q) (by rw [arrV_size]; exact hin) rfl rfl d fun H' e1 e2 e3 => ?_
    refine h3 ad H' _ ls ha hC (hR.sD hp h1 h2 (M := S.2.2.1) ⟨fun h9 => absurd (h0.symm.trans h9) (by decide), fun _ => ?_⟩ e3) (hS.put e2 e3 (hR.2.1 t x hp h1 h2)) hl
    rw [e1, arrV_store, bh_fld_sD (hkd _)]
  · exact h.elim
theorem bs_Rast (hx : p.tables.exec = Jvm.exec) (hb : c.code = cc) (hK : va_K (G.1, G.2.1) classes [] s) (hAr : ∀ t k, bh_ak t = k + 5 → bh_hp t = true ∧ bh_hp k = true ∧ bh_ak k = 0 ∧ ∃ q : vw_C, classes[bh_ci k]? = some q ∧ va_RA s (G.2.2.1 t) (.object q.1)) (d : decode cc pc = .ok (.aastore, 1)) {S : bh_S} {Z : bh_F → Prop} (h : bo_Rast bh_ak bh_al (pc + 1) S (fun y => bh_WA p l e R s m args below meth c Q G base nL ad0 M0 fl y.1 y.2) Z) : bh_WA p l e R s m args below meth c Q G base nL ad0 M0 fl pc S := by
  intro ad H locs ls ha hC hR hS hl
  unfold bo_Rast at h
  split at h
  · rename_i k y i t x r hq
    obtain ⟨h0, h1, h2, hy1, hy2, hin, h3⟩ := h
    have h0 : bh_ak t = k + 5 := by omega
    obtain ⟨hp, hpk, hk0, qc, hqc, hra⟩ := hAr t k h0
    have hce := (hR.1 t x hp h1 h2).2 (by omega)
    have hlt : i.toNatClampNeg < bh_al t := Nat.not_le.mp fun q => hin (Or.inr q)
    have hi0 : ¬ i < 0 := fun q => hin (Or.inl q)
    have hkd : ∀ j, bh_kd t j = k + 3 := fun j => by unfold bh_kd; rw [h0]
    obtain ⟨cellV, g1, g2, g3, -⟩ := (hR.1 k y hpk hy1 hy2).1 hk0
    have hcls := (hK.1 (bh_ci k) qc hqc).2
    obtain ⟨kA, comp, k1, k2, k3, -⟩ := hra
    have hcomp : comp = G.1 (bh_ci k) := Option.some.inj (k3.symm.trans hcls.1)
    subst hcomp
    obtain ⟨kC, hkC, -⟩ := hcls.2
    rw [hq, List.map_cons, List.map_cons, List.map_cons, bh_tr_ref h1, bh_tr_ref hy1]
    refine W.aast hx hb hce (fun q h => by cases h) (fun h => by cases h) k1 k2 rfl hkC ⟨hi0, by rw [arrV_size]; exact hlt⟩ g1 (fun q h => by rw [g3] at h; cases h) (by rw [g2]; exact hkC) (by rw [g2]; exact va_assign hcls) rfl rfl d fun H' e1 e2 e3 => ?_
    refine h3 ad H' _ ls ha hC (hR.sR hp h1 h2 (hkd _) hy2 (M := S.2.2.1) ⟨fun h9 => absurd (h0.symm.trans h9) (by omega), fun _ => ?_⟩ e3) (hS.put e2 e3 (hR.2.1 t x hp h1 h2)) hl
    rw [e1, arrV_store, bh_fld_sR (hkd _), bh_tr_ref hy1]
  · exact h.elim
theorem bs_len (hx : p.tables.exec = Jvm.exec) (hb : c.code = cc) (hAr : ∀ t, 1 ≤ bh_ak t → bh_hp t = true ∧ ∃ ty, ArrOfT s (G.2.2.1 t) ty) (d : decode cc pc = .ok (.arraylength, 1)) {S : bh_S} {Z : bh_F → Prop} (h : bo_len bh_ak bh_al (pc + 1) S (fun y => bh_WA p l e R s m args below meth c Q G base nL ad0 M0 fl y.1 y.2) Z) : bh_WA p l e R s m args below meth c Q G base nL ad0 M0 fl pc S := by
  intro ad H locs ls ha hC hR hS hl
  unfold bo_len at h
  split at h
  · rename_i t x r hq
    obtain ⟨h0, h1, h2, h3⟩ := h
    obtain ⟨hp, ty, hA⟩ := hAr t h0
    have hce := (hR.1 t x hp h1 h2).2 (by omega)
    rw [hq, List.map_cons, bh_tr_ref h1]
    exact W.alen (n := nI (bh_al t)) hx hb hce (hA _ _) (by rw [arrV_size] <;> rfl) rfl rfl d (h3 ad H locs ls ha hC hR hS hl)
  · exact h.elim
end BS2
