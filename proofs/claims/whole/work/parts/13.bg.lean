def bh_strs : List (Nat × String) := [(55, "the bundle is there already"), (79, "no room for this export"), (91, "no room for this import"), (184, "no room for another service"), (193, "no service of this kind"), (214, "the bundle has not got this service"), (219, "the bundle has no such service"), (240, "no event is kept"), (266, "a number is out of range"), (269, "the service number is below 0"), (275, "the rank is out of range"), (277, "the bundle is not active"), (281, "the bundle is not there"), (284, "the bundle is resolved"), (289, "the bundle can\'t be resolved"), (294, "resolving is too hard"), (299, "the activator failed")]
theorem st_55 : (55, "the bundle is there already") ∈ bh_strs := by decide +kernel
theorem st_79 : (79, "no room for this export") ∈ bh_strs := by decide +kernel
theorem st_91 : (91, "no room for this import") ∈ bh_strs := by decide +kernel
theorem st_184 : (184, "no room for another service") ∈ bh_strs := by decide +kernel
theorem st_193 : (193, "no service of this kind") ∈ bh_strs := by decide +kernel
theorem st_214 : (214, "the bundle has not got this service") ∈ bh_strs := by decide +kernel
theorem st_219 : (219, "the bundle has no such service") ∈ bh_strs := by decide +kernel
theorem st_240 : (240, "no event is kept") ∈ bh_strs := by decide +kernel
theorem st_266 : (266, "a number is out of range") ∈ bh_strs := by decide +kernel
theorem st_269 : (269, "the service number is below 0") ∈ bh_strs := by decide +kernel
theorem st_275 : (275, "the rank is out of range") ∈ bh_strs := by decide +kernel
theorem st_277 : (277, "the bundle is not active") ∈ bh_strs := by decide +kernel
theorem st_281 : (281, "the bundle is not there") ∈ bh_strs := by decide +kernel
theorem st_284 : (284, "the bundle is resolved") ∈ bh_strs := by decide +kernel
theorem st_289 : (289, "the bundle can\'t be resolved") ∈ bh_strs := by decide +kernel
theorem st_294 : (294, "resolving is too hard") ∈ bh_strs := by decide +kernel
theorem st_299 : (299, "the activator failed") ∈ bh_strs := by decide +kernel
def bh_xws : List Cond := [(.methodLinkNest "BundleHall" 20 ⟨"BundleHall$Resolver", "<init>", "()V"⟩ "BundleHall"), (.methodLinkNest "BundleHall" 34 ⟨"BundleHall$Events", "<init>", "()V"⟩ "BundleHall"), (.methodLinkNest "BundleHall$Bundle" 63 ⟨"BundleHall", "ownerOf", "(I)I"⟩ "BundleHall"), (.methodLinkNest "BundleHall$Resolver" 113 ⟨"BundleHall", "ownerOf", "(I)I"⟩ "BundleHall"), (.methodLinkNest "BundleHall$Resolver" 127 ⟨"BundleHall", "isIn", "(II)Z"⟩ "BundleHall"), (.methodLinkNest "BundleHall$Services" 17 ⟨"BundleHall$Service", "<init>", "()V"⟩ "BundleHall"), (.declares ⟨"java/lang/RuntimeException", "<init>", "(Ljava/lang/String;)V"⟩), (.declares ⟨"java/lang/Exception", "<init>", "(Ljava/lang/String;)V"⟩), (.declares ⟨"java/lang/Throwable", "<init>", "(Ljava/lang/String;)V"⟩), (.castable "java/lang/IllegalArgumentException" "java/lang/IllegalArgumentException"), (.castable "java/lang/IllegalStateException" "java/lang/IllegalStateException"), (.castable "java/util/NoSuchElementException" "java/util/NoSuchElementException"), (.castable "java/lang/UnsupportedOperationException" "java/lang/UnsupportedOperationException"), (.castable "java/lang/ArithmeticException" "java/lang/ArithmeticException")]
theorem xw_0 : (Cond.methodLinkNest "BundleHall" 20 ⟨"BundleHall$Resolver", "<init>", "()V"⟩ "BundleHall") ∈ bh_xws := List.mem_of_getElem? (i := 0) rfl
theorem xw_1 : (Cond.methodLinkNest "BundleHall" 34 ⟨"BundleHall$Events", "<init>", "()V"⟩ "BundleHall") ∈ bh_xws := List.mem_of_getElem? (i := 1) rfl
theorem xw_2 : (Cond.methodLinkNest "BundleHall$Bundle" 63 ⟨"BundleHall", "ownerOf", "(I)I"⟩ "BundleHall") ∈ bh_xws := List.mem_of_getElem? (i := 2) rfl
theorem xw_3 : (Cond.methodLinkNest "BundleHall$Resolver" 113 ⟨"BundleHall", "ownerOf", "(I)I"⟩ "BundleHall") ∈ bh_xws := List.mem_of_getElem? (i := 3) rfl
theorem xw_4 : (Cond.methodLinkNest "BundleHall$Resolver" 127 ⟨"BundleHall", "isIn", "(II)Z"⟩ "BundleHall") ∈ bh_xws := List.mem_of_getElem? (i := 4) rfl
theorem xw_5 : (Cond.methodLinkNest "BundleHall$Services" 17 ⟨"BundleHall$Service", "<init>", "()V"⟩ "BundleHall") ∈ bh_xws := List.mem_of_getElem? (i := 5) rfl
theorem xw_6 : (Cond.declares ⟨"java/lang/RuntimeException", "<init>", "(Ljava/lang/String;)V"⟩) ∈ bh_xws := List.mem_of_getElem? (i := 6) rfl
theorem xw_7 : (Cond.declares ⟨"java/lang/Exception", "<init>", "(Ljava/lang/String;)V"⟩) ∈ bh_xws := List.mem_of_getElem? (i := 7) rfl
theorem xw_8 : (Cond.declares ⟨"java/lang/Throwable", "<init>", "(Ljava/lang/String;)V"⟩) ∈ bh_xws := List.mem_of_getElem? (i := 8) rfl
theorem xw_9 : (Cond.castable "java/lang/IllegalArgumentException" "java/lang/IllegalArgumentException") ∈ bh_xws := List.mem_of_getElem? (i := 9) rfl
theorem xw_10 : (Cond.castable "java/lang/IllegalStateException" "java/lang/IllegalStateException") ∈ bh_xws := List.mem_of_getElem? (i := 10) rfl
theorem xw_11 : (Cond.castable "java/util/NoSuchElementException" "java/util/NoSuchElementException") ∈ bh_xws := List.mem_of_getElem? (i := 11) rfl
theorem xw_12 : (Cond.castable "java/lang/UnsupportedOperationException" "java/lang/UnsupportedOperationException") ∈ bh_xws := List.mem_of_getElem? (i := 12) rfl
theorem xw_13 : (Cond.castable "java/lang/ArithmeticException" "java/lang/ArithmeticException") ∈ bh_xws := List.mem_of_getElem? (i := 13) rfl
def bh_aos : List String := ["BundleHall$Bundle", "BundleHall$Service"]
def bh_ncs : List (String × String) := [("java/lang/IllegalArgumentException", "java/lang/IllegalStateException"), ("java/lang/IllegalArgumentException", "java/util/NoSuchElementException"), ("java/lang/IllegalArgumentException", "java/lang/UnsupportedOperationException"), ("java/lang/IllegalArgumentException", "java/lang/ArithmeticException"), ("java/lang/IllegalStateException", "java/lang/IllegalArgumentException"), ("java/lang/IllegalStateException", "java/util/NoSuchElementException"), ("java/lang/IllegalStateException", "java/lang/UnsupportedOperationException"), ("java/lang/IllegalStateException", "java/lang/ArithmeticException"), ("java/util/NoSuchElementException", "java/lang/IllegalArgumentException"), ("java/util/NoSuchElementException", "java/lang/IllegalStateException"), ("java/util/NoSuchElementException", "java/lang/UnsupportedOperationException"), ("java/util/NoSuchElementException", "java/lang/ArithmeticException"), ("java/lang/UnsupportedOperationException", "java/lang/IllegalArgumentException"), ("java/lang/UnsupportedOperationException", "java/lang/IllegalStateException"), ("java/lang/UnsupportedOperationException", "java/util/NoSuchElementException"), ("java/lang/UnsupportedOperationException", "java/lang/ArithmeticException"), ("java/lang/ArithmeticException", "java/lang/IllegalArgumentException"), ("java/lang/ArithmeticException", "java/lang/IllegalStateException"), ("java/lang/ArithmeticException", "java/util/NoSuchElementException"), ("java/lang/ArithmeticException", "java/lang/UnsupportedOperationException")]
def bh_en (x : Nat) : String := match x with
  | 1 => "DONE"
  | 2 => "UNSOLVABLE"
  | 3 => "TOO_HARD"
  | _ => "REFUSED"
def bh_Bg (G : bh_G) (base sb L : Nat) (xs : Nat → Int32) (U : State) : Prop :=
  va_K (G.1, G.2.1) classes [] U ∧
  (∀ t, 1 ≤ bh_ak t → ArrOfT U (G.2.2.1 t) (bh_et t) ∧ va_RA U (G.2.2.1 t) (bh_et t)) ∧
  (∀ x, 1 ≤ x → x ≤ 4 → va_Z "BundleHall$Outcome" (bh_en x) "LBundleHall$Outcome;" (.ref (G.2.2.2 2 x)) (fun q : Nat => base ≤ q) U U.heap) ∧
  (∀ x y, 1 ≤ x → x ≤ 4 → 1 ≤ y → y ≤ 4 → G.2.2.2 2 x = G.2.2.2 2 y → x = y) ∧
  bh_lay Bundle.tN "UNASSIGNED_STACK" Bundle.steD base U ∧ bh_lay Bundle.tN "SUPPRESSED_SENTINEL" Bundle.listD base U ∧
  (∀ i tx, (i, tx) ∈ bh_strs → ∃ sa, vk_R "BundleHall" i tx sa U) ∧
  va_X sb L xs U U.heap ∧ sb < base ∧ G.2.2.2 1 1 = sb ∧
  (∀ w ∈ bh_xws, va_Nw w U) ∧ (∀ C ∈ bh_aos, va_AO C U) ∧ (∀ q ∈ bh_ncs, va_Nc q.1 q.2 U)
theorem bh_Nc_moved {C T : String} {u U : State} (hvm : u.vm.Alike U.vm) (h : va_Nc C T u) : va_Nc C T U := by
  obtain ⟨c, t, h1, h2, h3⟩ := h
  exact ⟨c, t, by rw [hvm.findClass]; exact h1, by rw [hvm.findClass]; exact h2, by rw [hvm.assignable]; exact h3⟩
theorem bh_Bg_move {G : bh_G} {base sb L : Nat} {xs : Nat → Int32} {u U : State} (h : bh_Bg G base sb L xs u) (hW : u.WarmedH U.vm) (hq : ∀ q : Nat, q < base → U.heap[q]? = u.heap[q]?) : bh_Bg G base sb L xs U := by
  obtain ⟨h1, h2, h3, h4, h5, h6, h7, h8, h9, h10, h11, h12, h13⟩ := h
  have hvm := hW.alike
  refine ⟨h1.moved hvm, fun t ht => ⟨arrOfT_moved hvm (h2 t ht).1, (h2 t ht).2.moved hvm⟩, fun x x1 x2 => ?_, h4, h5.keep hvm hq, h6.keep hvm hq, fun i tx hi => ?_, ?_, h9, h10, fun w hw => ?_, fun C hC => (h12 C hC).moved hvm, fun q hq => bh_Nc_moved hvm (h13 q hq)⟩
  · exact va_Z.moved hvm ((h3 x x1 x2).kept (fun a _ hA => hq a (by have : ¬ base ≤ a := hA; omega)))
  · obtain ⟨sa, hs⟩ := h7 i tx hi
    exact ⟨sa, hs.warm hW⟩
  · exact va_X.moved hvm (h8.kept (hq sb h9))
  · have key : ∀ w ∈ bh_xws, (∃ a i x k, w = .methodLinkNest a i x k) ∨ (∃ x, w = .declares x) ∨ ∃ a b, w = .castable a b := by
      exact List.forall_mem_cons.mpr ⟨Or.inl ⟨_, _, _, _, rfl⟩, List.forall_mem_cons.mpr ⟨Or.inl ⟨_, _, _, _, rfl⟩, List.forall_mem_cons.mpr ⟨Or.inl ⟨_, _, _, _, rfl⟩, List.forall_mem_cons.mpr ⟨Or.inl ⟨_, _, _, _, rfl⟩, List.forall_mem_cons.mpr ⟨Or.inl ⟨_, _, _, _, rfl⟩, List.forall_mem_cons.mpr ⟨Or.inl ⟨_, _, _, _, rfl⟩, List.forall_mem_cons.mpr ⟨Or.inr (Or.inl ⟨_, rfl⟩), List.forall_mem_cons.mpr ⟨Or.inr (Or.inl ⟨_, rfl⟩), List.forall_mem_cons.mpr ⟨Or.inr (Or.inl ⟨_, rfl⟩), List.forall_mem_cons.mpr ⟨Or.inr (Or.inr ⟨_, _, rfl⟩), List.forall_mem_cons.mpr ⟨Or.inr (Or.inr ⟨_, _, rfl⟩), List.forall_mem_cons.mpr ⟨Or.inr (Or.inr ⟨_, _, rfl⟩), List.forall_mem_cons.mpr ⟨Or.inr (Or.inr ⟨_, _, rfl⟩), List.forall_mem_cons.mpr ⟨Or.inr (Or.inr ⟨_, _, rfl⟩), fun _ h => absurd h List.not_mem_nil⟩⟩⟩⟩⟩⟩⟩⟩⟩⟩⟩⟩⟩⟩
    rcases key w hw with ⟨a, i, x, k, rfl⟩ | ⟨x, rfl⟩ | ⟨a, b, rfl⟩
    · exact (h11 _ hw).warmM hW
    · exact (h11 _ hw).warmD hW
    · exact (h11 _ hw).warmC hW
theorem bh_BgK {G : bh_G} {base sb L : Nat} {xs : Nat → Int32} : bh_BgOK base (bh_Bg G base sb L xs) :=
  ⟨fun _ _ h _ hW hq => bh_Bg_move h hW hq, fun U _ _ _ h => bh_Bg_move h (State.WarmedH.refl U) (fun _ _ => rfl)⟩
theorem bh_rr {U : State} {cA : ClassId} {C : String} (h : va_RA U cA (.object C)) : U.vm.findClass ("[" ++ (FieldType.object C).toString) = some cA := by
  obtain ⟨_, _, _, _, _, h⟩ := h
  exact h
theorem bh_t1 : ∀ t, bh_ak t = 1 → bh_hp t = true ∧ bh_et t = .int := by
  intro t h
  unfold bh_ak at h
  split at h <;> first | exact ⟨rfl, rfl⟩ | cases h
theorem bh_t2 : ∀ t, bh_ak t = 2 → bh_hp t = true ∧ bh_et t = .boolean := by
  intro t h
  unfold bh_ak at h
  split at h <;> first | exact ⟨rfl, rfl⟩ | cases h
theorem bh_t3 : ∀ t, bh_ak t = 3 → bh_hp t = true ∧ bh_et t = .long := by
  intro t h
  unfold bh_ak at h
  split at h <;> first | exact ⟨rfl, rfl⟩ | cases h
theorem bh_t4 : ∀ t, bh_ak t = 4 → bh_hp t = true ∧ bh_et t = .double := by
  intro t h
  unfold bh_ak at h
  split at h <;> first | exact ⟨rfl, rfl⟩ | cases h
theorem bh_t5 : ∀ t k, bh_ak t = k + 5 → bh_hp t = true ∧ bh_hp k = true ∧ bh_ak k = 0 ∧ ∃ q : vw_C, classes[bh_ci k]? = some q ∧ bh_et t = .object q.1 := by
  intro t k h
  unfold bh_ak at h
  split at h
  all_goals try (exfalso; omega)
  · have hk : k = 5 := by omega
    subst hk
    exact ⟨rfl, rfl, rfl, _, rfl, rfl⟩
  · have hk : k = 21 := by omega
    subst hk
    exact ⟨rfl, rfl, rfl, _, rfl, rfl⟩
theorem bh_t0 : ∀ t, 1 ≤ bh_ak t → bh_hp t = true := by
  intro t h
  unfold bh_ak at h
  split at h <;> first | rfl | (exfalso; omega)
/-- what a method's body gets of the arrays -/
theorem bh_arr {G : bh_G} {s : State} (hAr : ∀ t, 1 ≤ bh_ak t → ArrOfT s (G.2.2.1 t) (bh_et t) ∧ va_RA s (G.2.2.1 t) (bh_et t)) :
    (∀ t, bh_ak t = 1 → bh_hp t = true ∧ ArrOfT s (G.2.2.1 t) .int) ∧ (∀ t, bh_ak t = 2 → bh_hp t = true ∧ ArrOfT s (G.2.2.1 t) .boolean) ∧ (∀ t, bh_ak t = 3 → bh_hp t = true ∧ ArrOfT s (G.2.2.1 t) .long) ∧ (∀ t, bh_ak t = 4 → bh_hp t = true ∧ ArrOfT s (G.2.2.1 t) .double) ∧
    (∀ t, 5 ≤ bh_ak t → bh_hp t = true ∧ ∃ C : String, ArrOfT s (G.2.2.1 t) (.object C)) ∧ (∀ t k, bh_ak t = k + 5 → bh_hp t = true ∧ bh_hp k = true ∧ bh_ak k = 0 ∧ ∃ q : vw_C, classes[bh_ci k]? = some q ∧ va_RA s (G.2.2.1 t) (.object q.1)) ∧ ∀ t, 1 ≤ bh_ak t → bh_hp t = true ∧ ∃ ty, ArrOfT s (G.2.2.1 t) ty := by
  refine ⟨fun t h => ?_, fun t h => ?_, fun t h => ?_, fun t h => ?_, fun t h => ?_, fun t k h => ?_, fun t h => ⟨bh_t0 t h, _, (hAr t h).1⟩⟩
  · have h2 := hAr t (by omega)
    rw [(bh_t1 t h).2] at h2
    exact ⟨(bh_t1 t h).1, h2.1⟩
  · have h2 := hAr t (by omega)
    rw [(bh_t2 t h).2] at h2
    exact ⟨(bh_t2 t h).1, h2.1⟩
  · have h2 := hAr t (by omega)
    rw [(bh_t3 t h).2] at h2
    exact ⟨(bh_t3 t h).1, h2.1⟩
  · have h2 := hAr t (by omega)
    rw [(bh_t4 t h).2] at h2
    exact ⟨(bh_t4 t h).1, h2.1⟩
  · obtain ⟨k, hk⟩ : ∃ k, bh_ak t = k + 5 := ⟨bh_ak t - 5, by omega⟩
    obtain ⟨g1, -, -, q, -, g2⟩ := bh_t5 t k hk
    have h2 := hAr t (by omega)
    rw [g2] at h2
    exact ⟨g1, _, h2.1⟩
  · obtain ⟨g1, g3, g4, q, g5, g2⟩ := bh_t5 t k h
    have h2 := hAr t (by omega)
    rw [g2] at h2
    exact ⟨g1, g3, g4, q, g5, h2.2⟩
theorem bh_objcode {s : State} {args : Array Value} (h : (Cond.code ({ cls := "java/lang/Object", name := "<init>", desc := "()V" } : Jvm.MethodName) object_method_1_code (1 : Nat) (Option.none : Option Jvm.ClassFile.FieldType)).before args s = true) : (Cond.code Lib.objectInit ⟨#[0xb1]⟩ 1 none).before args s = true := h
def bh_exn : List String := ["java/lang/RuntimeException", "java/lang/Exception"]
theorem bh_exn_ok : ∀ z ∈ bh_exn, Bundle.fit z = true := by decide +kernel
/-- the words of a throw -/
def bh_wk (w : Cond) : Bool := (goodWord w && decide (w ∈ tables_1)) || decide (w ∈ bh_xws) || decide (w = .isRef (.static Bundle.tN "UNASSIGNED_STACK" Bundle.steD)) || decide (w = .isRef (.static Bundle.tN "SUPPRESSED_SENTINEL" Bundle.listD)) || decide (w = .laysStatic Bundle.tN "UNASSIGNED_STACK" Bundle.steD) || decide (w = .laysStatic Bundle.tN "SUPPRESSED_SENTINEL" Bundle.listD)
theorem bh_xon : ∀ w ∈ bh_xws, w.onTables = true := by decide +kernel
theorem bh_thw {G : bh_G} {base sb L : Nat} {xs : Nat → Int32} {s : State} {args : Array Value} {A : List Cond} (hA : A.all bh_wk = true) (hts : ∀ w ∈ bh_ws, w.before args s = true) (hB : bh_Bg G base sb L xs s) : ∀ U : State, U.vm = s.vm → (∀ q : Nat, q < base → U.heap[q]? = s.heap[q]?) → ∀ w ∈ A, w.before args U = true := by
  intro U hvm hq w hw
  have hk := List.all_eq_true.mp hA w hw
  have hWs : s.WarmedH U.vm := by rw [hvm]; exact State.WarmedH.refl s
  obtain ⟨-, -, -, -, h5, h6, -, -, -, -, h11, -, -⟩ := hB
  simp only [bh_wk, Bool.or_eq_true, Bool.and_eq_true, decide_eq_true_eq] at hk
  rcases hk with ((((⟨g1, g2⟩ | g) | g) | g) | g) | g
  · exact word_at hWs (good_of_word g1) (hts w (bh_in (List.mem_append_right _ g2) g1))
  · exact va_tabs (bh_xon w g) hvm.symm (h11 w g)
  · rw [g]; exact (h5.keep hWs.alike hq).word2
  · rw [g]; exact (h6.keep hWs.alike hq).word2
  · rw [g]; exact (h5.keep hWs.alike hq).word1
  · rw [g]; exact (h6.keep hWs.alike hq).word1
theorem bh_x0_ArithmeticException : decode prog_11_method_2_code 0 = .ok (.aload_n 0, 1) := by decide +kernel
theorem bh_x1_ArithmeticException : decode prog_11_method_2_code 1 = .ok (.aload_n 1, 1) := by decide +kernel
theorem bh_x2_ArithmeticException : decode prog_11_method_2_code 2 = .ok (.invokespecial 7, 3) := by decide +kernel
theorem bh_x5_ArithmeticException : decode prog_11_method_2_code 5 = .ok (.return_, 1) := by decide +kernel
theorem bh_aw_ArithmeticException : (bh_oat "BundleHall" 232 "java/lang/ArithmeticException" 7 prog_11_method_2_code).all bh_wk = true := by decide +kernel
theorem bh_at_ArithmeticException {G : bh_G} {base sb L : Nat} {xs : Nat → Int32} {s : State} {args : Array Value} (hts : ∀ w ∈ bh_ws, w.before args s = true) (hB : bh_Bg G base sb L xs s) : ∀ U : State, U.vm = s.vm → (∀ q : Nat, q < base → U.heap[q]? = s.heap[q]?) → ∀ w ∈ bh_oat "BundleHall" 232 "java/lang/ArithmeticException" 7 prog_11_method_2_code, w.before args U = true := bh_thw bh_aw_ArithmeticException hts hB
theorem bh_x0_IllegalArgumentException : decode prog_14_method_2_code 0 = .ok (.aload_n 0, 1) := by decide +kernel
theorem bh_x1_IllegalArgumentException : decode prog_14_method_2_code 1 = .ok (.aload_n 1, 1) := by decide +kernel
theorem bh_x2_IllegalArgumentException : decode prog_14_method_2_code 2 = .ok (.invokespecial 7, 3) := by decide +kernel
theorem bh_x5_IllegalArgumentException : decode prog_14_method_2_code 5 = .ok (.return_, 1) := by decide +kernel
theorem bh_aw_IllegalArgumentException : (bh_oat "BundleHall" 268 "java/lang/IllegalArgumentException" 7 prog_14_method_2_code).all bh_wk = true := by decide +kernel
theorem bh_at_IllegalArgumentException {G : bh_G} {base sb L : Nat} {xs : Nat → Int32} {s : State} {args : Array Value} (hts : ∀ w ∈ bh_ws, w.before args s = true) (hB : bh_Bg G base sb L xs s) : ∀ U : State, U.vm = s.vm → (∀ q : Nat, q < base → U.heap[q]? = s.heap[q]?) → ∀ w ∈ bh_oat "BundleHall" 268 "java/lang/IllegalArgumentException" 7 prog_14_method_2_code, w.before args U = true := bh_thw bh_aw_IllegalArgumentException hts hB
theorem bh_x0_IllegalStateException : decode prog_15_method_2_code 0 = .ok (.aload_n 0, 1) := by decide +kernel
theorem bh_x1_IllegalStateException : decode prog_15_method_2_code 1 = .ok (.aload_n 1, 1) := by decide +kernel
theorem bh_x2_IllegalStateException : decode prog_15_method_2_code 2 = .ok (.invokespecial 7, 3) := by decide +kernel
theorem bh_x5_IllegalStateException : decode prog_15_method_2_code 5 = .ok (.return_, 1) := by decide +kernel
theorem bh_aw_IllegalStateException : (bh_oat "BundleHall" 57 "java/lang/IllegalStateException" 7 prog_15_method_2_code).all bh_wk = true := by decide +kernel
theorem bh_at_IllegalStateException {G : bh_G} {base sb L : Nat} {xs : Nat → Int32} {s : State} {args : Array Value} (hts : ∀ w ∈ bh_ws, w.before args s = true) (hB : bh_Bg G base sb L xs s) : ∀ U : State, U.vm = s.vm → (∀ q : Nat, q < base → U.heap[q]? = s.heap[q]?) → ∀ w ∈ bh_oat "BundleHall" 57 "java/lang/IllegalStateException" 7 prog_15_method_2_code, w.before args U = true := bh_thw bh_aw_IllegalStateException hts hB
theorem bh_x0_NoSuchElementException : decode prog_23_method_4_code 0 = .ok (.aload_n 0, 1) := by decide +kernel
theorem bh_x1_NoSuchElementException : decode prog_23_method_4_code 1 = .ok (.aload_n 1, 1) := by decide +kernel
theorem bh_x2_NoSuchElementException : decode prog_23_method_4_code 2 = .ok (.invokespecial 13, 3) := by decide +kernel
theorem bh_x5_NoSuchElementException : decode prog_23_method_4_code 5 = .ok (.return_, 1) := by decide +kernel
theorem bh_aw_NoSuchElementException : (bh_oat "BundleHall" 283 "java/util/NoSuchElementException" 13 prog_23_method_4_code).all bh_wk = true := by decide +kernel
theorem bh_at_NoSuchElementException {G : bh_G} {base sb L : Nat} {xs : Nat → Int32} {s : State} {args : Array Value} (hts : ∀ w ∈ bh_ws, w.before args s = true) (hB : bh_Bg G base sb L xs s) : ∀ U : State, U.vm = s.vm → (∀ q : Nat, q < base → U.heap[q]? = s.heap[q]?) → ∀ w ∈ bh_oat "BundleHall" 283 "java/util/NoSuchElementException" 13 prog_23_method_4_code, w.before args U = true := bh_thw bh_aw_NoSuchElementException hts hB
theorem bh_x0_UnsupportedOperationException : decode prog_21_method_2_code 0 = .ok (.aload_n 0, 1) := by decide +kernel
theorem bh_x1_UnsupportedOperationException : decode prog_21_method_2_code 1 = .ok (.aload_n 1, 1) := by decide +kernel
theorem bh_x2_UnsupportedOperationException : decode prog_21_method_2_code 2 = .ok (.invokespecial 7, 3) := by decide +kernel
theorem bh_x5_UnsupportedOperationException : decode prog_21_method_2_code 5 = .ok (.return_, 1) := by decide +kernel
theorem bh_aw_UnsupportedOperationException : (bh_oat "BundleHall" 81 "java/lang/UnsupportedOperationException" 7 prog_21_method_2_code).all bh_wk = true := by decide +kernel
theorem bh_at_UnsupportedOperationException {G : bh_G} {base sb L : Nat} {xs : Nat → Int32} {s : State} {args : Array Value} (hts : ∀ w ∈ bh_ws, w.before args s = true) (hB : bh_Bg G base sb L xs s) : ∀ U : State, U.vm = s.vm → (∀ q : Nat, q < base → U.heap[q]? = s.heap[q]?) → ∀ w ∈ bh_oat "BundleHall" 81 "java/lang/UnsupportedOperationException" 7 prog_21_method_2_code, w.before args U = true := bh_thw bh_aw_UnsupportedOperationException hts hB
/-- the room of a method at depth d -/
def bh_rm (d b : Nat) : Room := { frames := d + 12, cells := b, slots := 256 * b, locals := 80 * d + 200 }
theorem bh_cal {s : State} {args : Array Value} {y : MethodName} {bytes : ByteArray} {maxL b n : Nat} {ret : Option FieldType} (d B : Nat) (hts : ∀ w ∈ bh_ws, w.before args s = true) (hcode : Cond.code y bytes maxL ret ∈ bh_ws) (hini : Cond.initialized y.cls ∈ bh_ws) (hL : maxL ≤ 60) (hd : y.cls ≠ "java/lang/invoke/MethodHandle" ∧ y.cls ≠ "java/lang/invoke/VarHandle" ∧ (parseMethodDescriptor y.desc).map (fun d => d.parameters.length) = some n) : bh_Cal (bh_rm (d + 1) B) s y maxL (.code y bytes maxL ret :: bh_ws) (bh_rm d b) b n := by
  have hall : ∀ w ∈ bh_ws, ∀ (a' : Array Value) (U : State), s.WarmedH U.vm → w.before a' U = true := fun w hw a' U hW => word_at hW (good_of_word (List.mem_filter.mp hw).2) (hts w hw)
  obtain ⟨mk, hn⟩ := Cond.code_named (hts _ hcode)
  obtain ⟨meth, c, h1, h2, h3, h4, h5, h6, h7, h8⟩ := Cond.code_spec hn (hts _ hcode)
  refine ⟨rfl, rfl, by show d + 12 + 1 ≤ d + 1 + 12; omega, by show 8 + (maxL + 11) + (80 * d + 200) ≤ 80 * (d + 1) + 200; omega, ?_, ⟨mk, meth, c, hn, h1, h2, h4, h8⟩, hall _ hini, ⟨hd.1, hd.2.1⟩, fun sig h => ?_⟩
  · intro w hw
    rcases List.mem_cons.mp hw with rfl | hw
    · exact hall _ hcode
    · exact hall w hw
  · have h2 := hd.2.2
    rw [h] at h2
    exact (Option.some.inj h2).symm
