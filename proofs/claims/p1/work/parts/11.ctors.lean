theorem tk_93 : (Jvm.Cond.methodLink "java/util/AbstractCollection" (1 : Nat) ({ cls := "java/lang/Object", name := "<init>", desc := "()V" } : Jvm.MethodName)) ∈ tw_G := tw_in (List.mem_of_getElem? (i := 177) (by decide +kernel)) rfl
abbrev y_AC_init : MethodName := ⟨"java/util/AbstractCollection", "<init>", "()V"⟩
abbrev w_AC_init : List Cond := Cond.code y_AC_init prog_28_method_1_code 1 none :: tw_G
theorem d_AC_init_0 : decode prog_28_method_1_code 0 = .ok (.aload_n 0, 1) := by decide +kernel
theorem d_AC_init_1 : decode prog_28_method_1_code 1 = .ok (.invokespecial 1, 3) := by decide +kernel
theorem d_AC_init_4 : decode prog_28_method_1_code 4 = .ok (.return_, 1) := by decide +kernel
set_option maxHeartbeats 4000000 in
set_option maxRecDepth 100000 in
theorem c_AC_init (l : Launch) (dC : Nat → ClassId) (dI : Nat → Nat → Nat) (h sz : Nat) (v0 v1 v2 : Value) : Met l y_AC_init w_AC_init ({ frames := 1, cells := 0, slots := 0, locals := 12 }) (tw_P4 (dC, dI) classes [(h, .inr (6, [v0, v1, v2]))] [] sz [.ref h]) (va_Qv (fun _ : Unit => True) (fun u => tw_B dC dI (va_A [(h, .inr (6, [v0, v1, v2]))] sz) [(h, .inr (6, [v0, v1, v2]))] []) (va_A [(h, .inr (6, [v0, v1, v2]))] sz)) 0 0 (va_A [(h, .inr (6, [v0, v1, v2]))] sz) := by
  refine Met.ofW (cc := prog_28_method_1_code) (maxL := 1) (ret := none) (by decide) rfl ?_
  intro p e s m args below meth c s₁ B hml hv
  obtain ⟨rfl, hsz, hP, hK, hD0⟩ := hv
  have hx := B.exec
  have hb := B.bytes
  have hr := B.returns
  have hts : ∀ w ∈ tw_G, w.before _ s = true := fun w h => atoms_spec (ws := w_AC_init) B.pre w (List.mem_cons_of_mem _ h)
  have hown : s.vm.findClass "java/util/AbstractCollection" = some m.cls := findClass_of_methodNamed B.named
  have hlocks := B.notSynchronized
  have hin : meth.name = "<init>" := (name_of_methodNamed B.named B.method).1
  subst hsz
  have hD := hD0.self (sz := s.heap.size)
  generalize hAe : va_A [(h, .inr (6, [v0, v1, v2]))] s.heap.size = A at hD ⊢
  have hA : ∀ q : Nat, s.heap.size ≤ q → A q := fun q h => by rw [← hAe]; exact Or.inr h
  have hS : va_S A s.heap s.heap [] := va_S.rf
  have hP : va_P (dC, dI) classes [(h, .inr (6, [v0, v1, v2]))] s.heap := hP
  have hl := lv_entry ([.ref h]) (n := 1) (Nat.le_of_ble_eq_true rfl)
  rw [lg_entry_eq]
  generalize (lg_sl ([.ref h]) ++ List.replicate (1 - (lg_sl ([.ref h])).length) Slot.unset).toArray = ls at hl ⊢
  have hl : lv_has ls 1 [(0, .ref h)] := hl
  refine lv_aload_n hx hb d_AC_init_0 rfl (lv_at hl 0 rfl) ?_
  refine W.objInit hx hb hown (hts _ tk_93) (hts _ tk_86) (hts _ tk_87) rfl (by rw [hml]; exact hl.1) rfl d_AC_init_1 (Nat.le_of_ble_eq_true rfl) (Nat.le_of_ble_eq_true rfl) ?_
  refine W.eq (g2 := F0 m 4 ls []) rfl ?_
  have hP9 := hP.sub (ws' := [(h, .inr (6, [v0, v1, v2]))]) [0] rfl
  have hD9 := hD.sub (ws' := [(h, .inr (6, [v0, v1, v2]))]) [0] (by decide) rfl
  have hK9 := hK.sub (tys' := []) [] rfl
  refine W.widen (k := 0) (n := 0) (by decide) (by decide) ?_
  exact W.vret hx hb hr (fun t ht hW => ⟨⟨(), rfl, trivial, by rw [ht]; exact hP9, va_K.moved hW.alike hK9, hD9⟩, hS.F ht⟩) hS.2.2 d_AC_init_4
theorem tk_94 : (Jvm.Cond.code ({ cls := "java/util/AbstractCollection", name := "<init>", desc := "()V" } : Jvm.MethodName) prog_28_method_1_code (1 : Nat) (Option.none : Option Jvm.ClassFile.FieldType)) ∈ tw_G := tw_in (List.mem_of_getElem? (i := 176) (by decide +kernel)) rfl
theorem tk_95 : (Jvm.Cond.initialized "java/util/AbstractCollection") ∈ tw_G := tw_in (List.mem_of_getElem? (i := 65) (by decide +kernel)) rfl
theorem tk_96 : (Jvm.Cond.methodLink "java/util/AbstractList" (1 : Nat) ({ cls := "java/util/AbstractCollection", name := "<init>", desc := "()V" } : Jvm.MethodName)) ∈ tw_G := tw_in (List.mem_of_getElem? (i := 174) (by decide +kernel)) rfl
theorem tk_97 : (Jvm.Cond.instanceMethod ({ cls := "java/util/AbstractCollection", name := "<init>", desc := "()V" } : Jvm.MethodName)) ∈ tw_G := tw_in (List.mem_of_getElem? (i := 175) (by decide +kernel)) rfl
theorem tk_98 : (Jvm.Cond.fieldLink "java/util/AbstractList" (7 : Nat) "java/util/AbstractList" "modCount" "I") ∈ tw_G := tw_in (List.mem_of_getElem? (i := 182) (by decide +kernel)) rfl
abbrev y_AbL_init : MethodName := ⟨"java/util/AbstractList", "<init>", "()V"⟩
abbrev w_AbL_init : List Cond := Cond.code y_AbL_init prog_29_method_1_code 1 none :: tw_G
theorem d_AbL_init_0 : decode prog_29_method_1_code 0 = .ok (.aload_n 0, 1) := by decide +kernel
theorem d_AbL_init_1 : decode prog_29_method_1_code 1 = .ok (.invokespecial 1, 3) := by decide +kernel
theorem d_AbL_init_4 : decode prog_29_method_1_code 4 = .ok (.aload_n 0, 1) := by decide +kernel
theorem d_AbL_init_5 : decode prog_29_method_1_code 5 = .ok (.iconst 0, 1) := by decide +kernel
theorem d_AbL_init_6 : decode prog_29_method_1_code 6 = .ok (.putfield 7, 3) := by decide +kernel
theorem d_AbL_init_9 : decode prog_29_method_1_code 9 = .ok (.return_, 1) := by decide +kernel
set_option maxHeartbeats 4000000 in
set_option maxRecDepth 100000 in
theorem c_AbL_init (l : Launch) (dC : Nat → ClassId) (dI : Nat → Nat → Nat) (h sz : Nat) (v0 v1 v2 : Value) : Met l y_AbL_init w_AbL_init ({ frames := 2, cells := 0, slots := 0, locals := 32 }) (tw_P4 (dC, dI) classes [(h, .inr (6, [v0, v1, v2]))] [] sz [.ref h]) (va_Qv (fun _ : Unit => True) (fun u => tw_B dC dI (va_A [(h, .inr (6, [v0, v1, v2]))] sz) [(h, .inr (6, [v0, v1, .int 0]))] []) (va_A [(h, .inr (6, [v0, v1, v2]))] sz)) 0 0 (va_A [(h, .inr (6, [v0, v1, v2]))] sz) := by
  refine Met.ofW (cc := prog_29_method_1_code) (maxL := 1) (ret := none) (by decide) rfl ?_
  intro p e s m args below meth c s₁ B hml hv
  obtain ⟨rfl, hsz, hP, hK, hD0⟩ := hv
  have hx := B.exec
  have hb := B.bytes
  have hr := B.returns
  have hts : ∀ w ∈ tw_G, w.before _ s = true := fun w h => atoms_spec (ws := w_AbL_init) B.pre w (List.mem_cons_of_mem _ h)
  have hown : s.vm.findClass "java/util/AbstractList" = some m.cls := findClass_of_methodNamed B.named
  have hlocks := B.notSynchronized
  have hin : meth.name = "<init>" := (name_of_methodNamed B.named B.method).1
  subst hsz
  have hD := hD0.self (sz := s.heap.size)
  generalize hAe : va_A [(h, .inr (6, [v0, v1, v2]))] s.heap.size = A at hD ⊢
  have hA : ∀ q : Nat, s.heap.size ≤ q → A q := fun q h => by rw [← hAe]; exact Or.inr h
  have hS : va_S A s.heap s.heap [] := va_S.rf
  have hP : va_P (dC, dI) classes [(h, .inr (6, [v0, v1, v2]))] s.heap := hP
  have hl := lv_entry ([.ref h]) (n := 1) (Nat.le_of_ble_eq_true rfl)
  rw [lg_entry_eq]
  generalize (lg_sl ([.ref h]) ++ List.replicate (1 - (lg_sl ([.ref h])).length) Slot.unset).toArray = ls at hl ⊢
  have hl : lv_has ls 1 [(0, .ref h)] := hl
  refine lv_aload_n hx hb d_AbL_init_0 rfl (lv_at hl 0 rfl) ?_
  have hPc := hP.sub (ws' := [(h, .inr (6, [v0, v1, v2]))]) [0] rfl
  have hDc := hD.sub (ws' := [(h, .inr (6, [v0, v1, v2]))]) [0] (by decide) rfl
  have hKc := hK.sub (tys' := []) [] rfl
  have hFc := va_free (wc := [(h, .inr (6, [v0, v1, v2]))]) hD hS hA [0] rfl
  refine va_callv (va_runI (As := []) (rest := []) ⟨hx, hb, hml, hown, hts⟩ (c_AC_init l dC dI h s.heap.size v0 v1 v2) (cwI 0 hts (tw_gc tk_94) rfl rfl rfl (hts _ tk_95) (hts _ tk_96) (hts _ tk_97) rfl (by decide +kernel) ⟨Nat.le_of_ble_eq_true rfl, Nat.le_of_ble_eq_true rfl⟩) (tw_s4 hPc hKc hDc) rfl rfl hl.1 rfl (lv_room (Nat.le_of_ble_eq_true rfl)) d_AbL_init_1 ⟨by show 0 ≤ 0; decide, by show 0 ≤ 0; decide⟩) hS (fun q _ h => hFc q h) hFc (fun u t H1 locs ht hvm hw hB hz1 hk1 hS => ?_)
  obtain ⟨hP1, hK1, hD1⟩ := hB
  rw [ht] at hP1
  have hK1 := va_K.moved hvm.symm hK1
  obtain ⟨hP, hD⟩ := va_join (wr := []) (w1 := [(h, .inr (6, [v0, v1, v2]))]) hP hD [0] [] rfl rfl (by decide) (by decide) hk1 hFc hP1 hD1
  generalize H1 = H at hP hS ⊢
  have hP : va_P (dC, dI) classes [(h, .inr (6, [v0, v1, v2]))] H := hP
  have hD : va_D A [(h, .inr (6, [v0, v1, v2]))] := hD
  refine lv_aload_n hx hb d_AbL_init_4 rfl (lv_at hl 0 rfl) ?_
  refine lv_iconst (v := 0) hx hb d_AbL_init_5 (by decide) ?_
  refine va_put (D := (dC, dI)) (ci := 6) (v := .int 0) (ty := .int) (C := "java/util/ArrayList") (T := F_ArrayList) (N := 3) hx hb hts tu_ArrayList t_ArrayList t_ArrayList_ok n_ArrayList hown hK hP hD hS 0 rfl rfl 2 (by decide) (hts _ tk_98) (fun _ h9 => h9) rfl (by decide +kernel) rfl rfl (Nat.le_of_ble_eq_true rfl) d_AbL_init_6 (fun H locs hP hD hS => ?_)
  have hP : va_P (dC, dI) classes [(h, .inr (6, [v0, v1, .int 0]))] H := hP
  have hD : va_D A [(h, .inr (6, [v0, v1, .int 0]))] := hD
  have hP9 := hP.sub (ws' := [(h, .inr (6, [v0, v1, .int 0]))]) [0] rfl
  have hD9 := hD.sub (ws' := [(h, .inr (6, [v0, v1, .int 0]))]) [0] (by decide) rfl
  have hK9 := hK.sub (tys' := []) [] rfl
  refine W.widen (k := 0) (n := 0) (by decide) (by decide) ?_
  exact W.vret hx hb hr (fun t ht hW => ⟨⟨(), rfl, trivial, by rw [ht]; exact hP9, va_K.moved hW.alike hK9, hD9⟩, hS.F ht⟩) hS.2.2 d_AbL_init_9
theorem tk_99 : (Jvm.Cond.code ({ cls := "java/util/AbstractList", name := "<init>", desc := "()V" } : Jvm.MethodName) prog_29_method_1_code (1 : Nat) (Option.none : Option Jvm.ClassFile.FieldType)) ∈ tw_G := tw_in (List.mem_of_getElem? (i := 173) (by decide +kernel)) rfl
theorem tk_100 : (Jvm.Cond.initialized "java/util/AbstractList") ∈ tw_G := tw_in (List.mem_of_getElem? (i := 66) (by decide +kernel)) rfl
theorem tk_101 : (Jvm.Cond.methodLink "java/util/ArrayList" (1 : Nat) ({ cls := "java/util/AbstractList", name := "<init>", desc := "()V" } : Jvm.MethodName)) ∈ tw_G := tw_in (List.mem_of_getElem? (i := 171) (by decide +kernel)) rfl
theorem tk_102 : (Jvm.Cond.instanceMethod ({ cls := "java/util/AbstractList", name := "<init>", desc := "()V" } : Jvm.MethodName)) ∈ tw_G := tw_in (List.mem_of_getElem? (i := 172) (by decide +kernel)) rfl
theorem tk_103 : (Jvm.Cond.fieldLink "java/util/ArrayList" (39 : Nat) "java/util/ArrayList" "DEFAULTCAPACITY_EMPTY_ELEMENTDATA" "[Ljava/lang/Object;") ∈ tw_G := tw_in (List.mem_of_getElem? (i := 178) (by decide +kernel)) rfl
theorem tk_104 : (Jvm.Cond.fieldLink "java/util/ArrayList" (9 : Nat) "java/util/ArrayList" "elementData" "[Ljava/lang/Object;") ∈ tw_G := tw_in (List.mem_of_getElem? (i := 180) (by decide +kernel)) rfl
abbrev y_AL_init : MethodName := ⟨"java/util/ArrayList", "<init>", "()V"⟩
abbrev w_AL_init : List Cond := Cond.code y_AL_init prog_30_method_2_code 1 none :: tw_G
theorem d_AL_init_0 : decode prog_30_method_2_code 0 = .ok (.aload_n 0, 1) := by decide +kernel
theorem d_AL_init_1 : decode prog_30_method_2_code 1 = .ok (.invokespecial 1, 3) := by decide +kernel
theorem d_AL_init_4 : decode prog_30_method_2_code 4 = .ok (.aload_n 0, 1) := by decide +kernel
theorem d_AL_init_5 : decode prog_30_method_2_code 5 = .ok (.getstatic 39, 3) := by decide +kernel
theorem d_AL_init_8 : decode prog_30_method_2_code 8 = .ok (.putfield 9, 3) := by decide +kernel
theorem d_AL_init_11 : decode prog_30_method_2_code 11 = .ok (.return_, 1) := by decide +kernel
set_option maxHeartbeats 4000000 in
set_option maxRecDepth 100000 in
theorem c_AL_init (l : Launch) (dC : Nat → ClassId) (dI : Nat → Nat → Nat) (h sz e0 : Nat) (v1 : Value) : Met l y_AL_init w_AL_init ({ frames := 3, cells := 0, slots := 0, locals := 52 }) (tw_P4Z (dC, dI) classes [(h, .inr (6, [.null, .int 0, v1]))] [] sz e0 [.ref h]) (va_Qv (fun _ : Unit => True) (fun u => tw_B dC dI (va_A [(h, .inr (6, [.null, .int 0, v1]))] sz) [(h, .inr (6, [.ref e0, .int 0, .int 0]))] []) (va_A [(h, .inr (6, [.null, .int 0, v1]))] sz)) 0 0 (va_A [(h, .inr (6, [.null, .int 0, v1]))] sz) := by
  refine Met.ofW (cc := prog_30_method_2_code) (maxL := 1) (ret := none) (by decide) rfl ?_
  intro p e s m args below meth c s₁ B hml hv
  obtain ⟨rfl, hsz, hP, hK, hD0, hZ⟩ := hv
  have hx := B.exec
  have hb := B.bytes
  have hr := B.returns
  have hts : ∀ w ∈ tw_G, w.before _ s = true := fun w h => atoms_spec (ws := w_AL_init) B.pre w (List.mem_cons_of_mem _ h)
  have hown : s.vm.findClass "java/util/ArrayList" = some m.cls := findClass_of_methodNamed B.named
  have hlocks := B.notSynchronized
  have hin : meth.name = "<init>" := (name_of_methodNamed B.named B.method).1
  subst hsz
  have hD := hD0.self (sz := s.heap.size)
  generalize hAe : va_A [(h, .inr (6, [.null, .int 0, v1]))] s.heap.size = A at hD hZ ⊢
  have hA : ∀ q : Nat, s.heap.size ≤ q → A q := fun q h => by rw [← hAe]; exact Or.inr h
  have hS : va_S A s.heap s.heap [] := va_S.rf
  have hP : va_P (dC, dI) classes [(h, .inr (6, [.null, .int 0, v1]))] s.heap := hP
  have hl := lv_entry ([.ref h]) (n := 1) (Nat.le_of_ble_eq_true rfl)
  rw [lg_entry_eq]
  generalize (lg_sl ([.ref h]) ++ List.replicate (1 - (lg_sl ([.ref h])).length) Slot.unset).toArray = ls at hl ⊢
  have hl : lv_has ls 1 [(0, .ref h)] := hl
  refine lv_aload_n hx hb d_AL_init_0 rfl (lv_at hl 0 rfl) ?_
  have hPc := hP.sub (ws' := [(h, .inr (6, [.null, .int 0, v1]))]) [0] rfl
  have hDc := hD.sub (ws' := [(h, .inr (6, [.null, .int 0, v1]))]) [0] (by decide) rfl
  have hKc := hK.sub (tys' := []) [] rfl
  have hFc := va_free (wc := [(h, .inr (6, [.null, .int 0, v1]))]) hD hS hA [0] rfl
  refine va_callv (va_runI (As := []) (rest := []) ⟨hx, hb, hml, hown, hts⟩ (c_AbL_init l dC dI h s.heap.size .null (.int 0) v1) (cwI 0 hts (tw_gc tk_99) rfl rfl rfl (hts _ tk_100) (hts _ tk_101) (hts _ tk_102) rfl (by decide +kernel) ⟨Nat.le_of_ble_eq_true rfl, Nat.le_of_ble_eq_true rfl⟩) (tw_s4 hPc hKc hDc) rfl rfl hl.1 rfl (lv_room (Nat.le_of_ble_eq_true rfl)) d_AL_init_1 ⟨by show 0 ≤ 0; decide, by show 0 ≤ 0; decide⟩) hS (fun q _ h => hFc q h) hFc (fun u t H1 locs ht hvm hw hB hz1 hk1 hS => ?_)
  obtain ⟨hP1, hK1, hD1⟩ := hB
  rw [ht] at hP1
  have hK1 := va_K.moved hvm.symm hK1
  obtain ⟨hP, hD⟩ := va_join (wr := []) (w1 := [(h, .inr (6, [.null, .int 0, .int 0]))]) hP hD [0] [] rfl rfl (by decide) (by decide) hk1 hFc hP1 hD1
  generalize H1 = H at hP hS ⊢
  have hP : va_P (dC, dI) classes [(h, .inr (6, [.null, .int 0, .int 0]))] H := hP
  have hD : va_D A [(h, .inr (6, [.null, .int 0, .int 0]))] := hD
  refine lv_aload_n hx hb d_AL_init_4 rfl (lv_at hl 0 rfl) ?_
  refine va_gets hx hb hZ hS hown (hts _ tk_103) (fun _ h9 => h9) d_AL_init_5 ?_
  refine va_put (D := (dC, dI)) (ci := 6) (v := .ref e0) (ty := .array (.object "java/lang/Object")) (C := "java/util/ArrayList") (T := F_ArrayList) (N := 3) hx hb hts tu_ArrayList t_ArrayList t_ArrayList_ok n_ArrayList hown hK hP hD hS 0 rfl rfl 0 (by decide) (hts _ tk_104) (fun _ h9 => h9) rfl (by decide +kernel) rfl rfl (Nat.le_of_ble_eq_true rfl) d_AL_init_8 (fun H locs hP hD hS => ?_)
  have hP : va_P (dC, dI) classes [(h, .inr (6, [.ref e0, .int 0, .int 0]))] H := hP
  have hD : va_D A [(h, .inr (6, [.ref e0, .int 0, .int 0]))] := hD
  have hP9 := hP.sub (ws' := [(h, .inr (6, [.ref e0, .int 0, .int 0]))]) [0] rfl
  have hD9 := hD.sub (ws' := [(h, .inr (6, [.ref e0, .int 0, .int 0]))]) [0] (by decide) rfl
  have hK9 := hK.sub (tys' := []) [] rfl
  refine W.widen (k := 0) (n := 0) (by decide) (by decide) ?_
  exact W.vret hx hb hr (fun t ht hW => ⟨⟨(), rfl, trivial, by rw [ht]; exact hP9, va_K.moved hW.alike hK9, hD9⟩, hS.F ht⟩) hS.2.2 d_AL_init_11
theorem tk_105 : (Jvm.Cond.methodLink "LandBook$Cutter" (3 : Nat) ({ cls := "java/lang/Object", name := "<init>", desc := "()V" } : Jvm.MethodName)) ∈ tw_G := tw_in (List.mem_of_getElem? (i := 120) (by decide +kernel)) rfl
theorem tk_106 : (Jvm.Cond.classLink "LandBook$Cutter" (9 : Nat) "LandBook$Points") ∈ tw_G := tw_in (List.mem_of_getElem? (i := 121) (by decide +kernel)) rfl
theorem tk_107 : (Jvm.Cond.instantiable "LandBook$Points" (2 : Nat)) ∈ tw_G := tw_in (List.mem_of_getElem? (i := 98) (by decide +kernel)) rfl
theorem tk_108 : (Jvm.Cond.initialized "LandBook$Points") ∈ tw_G := tw_in (List.mem_of_getElem? (i := 61) (by decide +kernel)) rfl
theorem tk_109 : (Jvm.Cond.code ({ cls := "LandBook$Points", name := "<init>", desc := "(I)V" } : Jvm.MethodName) prog_9_method_1_code (2 : Nat) (Option.none : Option Jvm.ClassFile.FieldType)) ∈ tw_G := tw_in (List.mem_of_getElem? (i := 101) (by decide +kernel)) rfl
theorem tk_110 : (Jvm.Cond.methodLink "LandBook$Cutter" (13 : Nat) ({ cls := "LandBook$Points", name := "<init>", desc := "(I)V" } : Jvm.MethodName)) ∈ tw_G := tw_in (List.mem_of_getElem? (i := 122) (by decide +kernel)) rfl
theorem tk_111 : (Jvm.Cond.instanceMethod ({ cls := "LandBook$Points", name := "<init>", desc := "(I)V" } : Jvm.MethodName)) ∈ tw_G := tw_in (List.mem_of_getElem? (i := 100) (by decide +kernel)) rfl
theorem tk_112 : (Jvm.Cond.fieldLink "LandBook$Cutter" (16 : Nat) "LandBook$Cutter" "piece" "LLandBook$Points;") ∈ tw_G := tw_in (List.mem_of_getElem? (i := 123) (by decide +kernel)) rfl
theorem tk_113 : (Jvm.Cond.fieldLink "LandBook$Cutter" (20 : Nat) "LandBook$Cutter" "first" "LLandBook$Points;") ∈ tw_G := tw_in (List.mem_of_getElem? (i := 124) (by decide +kernel)) rfl
theorem tk_114 : (Jvm.Cond.fieldLink "LandBook$Cutter" (23 : Nat) "LandBook$Cutter" "second" "LLandBook$Points;") ∈ tw_G := tw_in (List.mem_of_getElem? (i := 126) (by decide +kernel)) rfl
abbrev y_Cutter_init : MethodName := ⟨"LandBook$Cutter", "<init>", "()V"⟩
abbrev w_Cutter_init : List Cond := Cond.code y_Cutter_init prog_2_method_1_code 1 none :: tw_G
theorem d_Cutter_init_0 : decode prog_2_method_1_code 0 = .ok (.aload_n 0, 1) := by decide +kernel
theorem d_Cutter_init_1 : decode prog_2_method_1_code 1 = .ok (.invokespecial 3, 3) := by decide +kernel
theorem d_Cutter_init_4 : decode prog_2_method_1_code 4 = .ok (.aload_n 0, 1) := by decide +kernel
theorem d_Cutter_init_5 : decode prog_2_method_1_code 5 = .ok (.new 9, 3) := by decide +kernel
theorem d_Cutter_init_8 : decode prog_2_method_1_code 8 = .ok (.dup, 1) := by decide +kernel
theorem d_Cutter_init_9 : decode prog_2_method_1_code 9 = .ok (.bipush 92, 2) := by decide +kernel
theorem d_Cutter_init_11 : decode prog_2_method_1_code 11 = .ok (.invokespecial 13, 3) := by decide +kernel
theorem d_Cutter_init_14 : decode prog_2_method_1_code 14 = .ok (.putfield 16, 3) := by decide +kernel
theorem d_Cutter_init_17 : decode prog_2_method_1_code 17 = .ok (.aload_n 0, 1) := by decide +kernel
theorem d_Cutter_init_18 : decode prog_2_method_1_code 18 = .ok (.new 9, 3) := by decide +kernel
theorem d_Cutter_init_21 : decode prog_2_method_1_code 21 = .ok (.dup, 1) := by decide +kernel
theorem d_Cutter_init_22 : decode prog_2_method_1_code 22 = .ok (.bipush 92, 2) := by decide +kernel
theorem d_Cutter_init_24 : decode prog_2_method_1_code 24 = .ok (.invokespecial 13, 3) := by decide +kernel
theorem d_Cutter_init_27 : decode prog_2_method_1_code 27 = .ok (.putfield 20, 3) := by decide +kernel
theorem d_Cutter_init_30 : decode prog_2_method_1_code 30 = .ok (.aload_n 0, 1) := by decide +kernel
theorem d_Cutter_init_31 : decode prog_2_method_1_code 31 = .ok (.new 9, 3) := by decide +kernel
theorem d_Cutter_init_34 : decode prog_2_method_1_code 34 = .ok (.dup, 1) := by decide +kernel
theorem d_Cutter_init_35 : decode prog_2_method_1_code 35 = .ok (.bipush 92, 2) := by decide +kernel
theorem d_Cutter_init_37 : decode prog_2_method_1_code 37 = .ok (.invokespecial 13, 3) := by decide +kernel
theorem d_Cutter_init_40 : decode prog_2_method_1_code 40 = .ok (.putfield 23, 3) := by decide +kernel
theorem d_Cutter_init_43 : decode prog_2_method_1_code 43 = .ok (.return_, 1) := by decide +kernel
set_option maxHeartbeats 4000000 in
set_option maxRecDepth 100000 in
theorem c_Cutter_init (l : Launch) (dC : Nat → ClassId) (dI : Nat → Nat → Nat) (h sz : Nat) : Met l y_Cutter_init w_Cutter_init ({ frames := 2, cells := 6, slots := 282, locals := 33 }) (tw_P4 (dC, dI) classes [(h, .inr (2, [.null, .null, .null]))] [] sz [.ref h]) (va_Qv (fun u : Nat × Nat × Nat × Nat × Nat × Nat × ClassId × ClassId × ClassId => True) (fun u => tw_B dC dI (va_A [(h, .inr (2, [.null, .null, .null]))] sz) [(h, .inr (2, [.ref u.1, .ref u.2.2.1, .ref u.2.2.2.2.1])), (u.1, .inr (1, [.ref u.2.1, .int 0])), (u.2.1, .inl (u.2.2.2.2.2.2.1, 92, .inl (fun _ => 0))), (u.2.2.1, .inr (1, [.ref u.2.2.2.1, .int 0])), (u.2.2.2.1, .inl (u.2.2.2.2.2.2.2.1, 92, .inl (fun _ => 0))), (u.2.2.2.2.1, .inr (1, [.ref u.2.2.2.2.2.1, .int 0])), (u.2.2.2.2.2.1, .inl (u.2.2.2.2.2.2.2.2, 92, .inl (fun _ => 0)))] [(u.2.2.2.2.2.2.1, .int), (u.2.2.2.2.2.2.2.1, .int), (u.2.2.2.2.2.2.2.2, .int)]) (va_A [(h, .inr (2, [.null, .null, .null]))] sz)) 6 282 (va_A [(h, .inr (2, [.null, .null, .null]))] sz) := by
  refine Met.ofW (cc := prog_2_method_1_code) (maxL := 1) (ret := none) (by decide) rfl ?_
  intro p e s m args below meth c s₁ B hml hv
  obtain ⟨rfl, hsz, hP, hK, hD0⟩ := hv
  have hx := B.exec
  have hb := B.bytes
  have hr := B.returns
  have hts : ∀ w ∈ tw_G, w.before _ s = true := fun w h => atoms_spec (ws := w_Cutter_init) B.pre w (List.mem_cons_of_mem _ h)
  have hown : s.vm.findClass "LandBook$Cutter" = some m.cls := findClass_of_methodNamed B.named
  have hlocks := B.notSynchronized
  have hin : meth.name = "<init>" := (name_of_methodNamed B.named B.method).1
  subst hsz
  have hD := hD0.self (sz := s.heap.size)
  generalize hAe : va_A [(h, .inr (2, [.null, .null, .null]))] s.heap.size = A at hD ⊢
  have hA : ∀ q : Nat, s.heap.size ≤ q → A q := fun q h => by rw [← hAe]; exact Or.inr h
  have hS : va_S A s.heap s.heap [] := va_S.rf
  have hP : va_P (dC, dI) classes [(h, .inr (2, [.null, .null, .null]))] s.heap := hP
  have hl := lv_entry ([.ref h]) (n := 1) (Nat.le_of_ble_eq_true rfl)
  rw [lg_entry_eq]
  generalize (lg_sl ([.ref h]) ++ List.replicate (1 - (lg_sl ([.ref h])).length) Slot.unset).toArray = ls at hl ⊢
  have hl : lv_has ls 1 [(0, .ref h)] := hl
  refine lv_aload_n hx hb d_Cutter_init_0 rfl (lv_at hl 0 rfl) ?_
  refine W.objInit hx hb hown (hts _ tk_105) (hts _ tk_86) (hts _ tk_87) rfl (by rw [hml]; exact hl.1) rfl d_Cutter_init_1 (Nat.le_of_ble_eq_true rfl) (Nat.le_of_ble_eq_true rfl) ?_
  refine W.eq (g2 := F0 m 4 ls []) rfl ?_
  refine lv_aload_n hx hb d_Cutter_init_4 rfl (lv_at hl 0 rfl) ?_
  refine va_new (ci := 1) (fs := [.null, .int 0]) (C := "LandBook$Points") (T := F_Points) (N := 2) hx hb hts tu_Points t_Points t_Points_ok hown (hts _ tk_106) (hts _ tk_107) (hts _ tk_108) hK hP hD hS hA rfl (fun j hj => by rcases (show j = 0 ∨ j = 1 by omega) with rfl | rfl <;> rfl) (by show 1 ≤ 6; decide) (by show 2 ≤ 282; decide) d_Cutter_init_5 (fun q1 H hP hD hS => ?_)
  have hP : va_P (dC, dI) classes [(h, .inr (2, [.null, .null, .null])), (q1, .inr (1, [.null, .int 0]))] H := hP
  have hD : va_D A [(h, .inr (2, [.null, .null, .null])), (q1, .inr (1, [.null, .int 0]))] := hD
  refine lv_dup hx hb d_Cutter_init_8 rfl ?_
  refine lv_bipush (v := 92) hx hb d_Cutter_init_9 (by decide) ?_
  have hPc := hP.sub (ws' := [(q1, .inr (1, [.null, .int 0]))]) [1] rfl
  have hDc := hD.sub (ws' := [(q1, .inr (1, [.null, .int 0]))]) [1] (by decide) rfl
  have hKc := hK.sub (tys' := []) [] rfl
  have hFc := va_free (wc := [(q1, .inr (1, [.null, .int 0]))]) hD hS hA [1] rfl
  refine va_callv (va_runI (As := [.int 92]) (rest := [.ref q1, .ref h]) ⟨hx, hb, hml, hown, hts⟩ (c_Points_init l dC dI q1 H.size 92 92 (by decide) (by decide) (by decide)) (cwI 1 hts (tw_gc tk_109) rfl rfl rfl (hts _ tk_108) (hts _ tk_110) (hts _ tk_111) rfl (by decide +kernel) ⟨Nat.le_of_ble_eq_true rfl, Nat.le_of_ble_eq_true rfl⟩) (tw_s4 hPc hKc hDc) rfl rfl hl.1 rfl (lv_room (Nat.le_of_ble_eq_true rfl)) d_Cutter_init_11 ⟨by show 2 ≤ 6; decide, by show 94 ≤ 282; decide⟩) hS (fun q _ h => hFc q h) hFc (fun u t H1 locs ht hvm hw hB hz1 hk1 hS => ?_)
  obtain ⟨a2, k3⟩ := u
  obtain ⟨hP1, hK1, hD1⟩ := hB
  rw [ht] at hP1
  have hK1 := va_K.moved hvm.symm hK1
  obtain ⟨hP, hD⟩ := va_join (wr := [(h, .inr (2, [.null, .null, .null]))]) (w1 := [(q1, .inr (1, [.ref a2, .int 0])), (a2, .inl (k3, 92, .inl (fun _ => 0)))]) hP hD [1] [0] rfl rfl (by decide) (by decide) hk1 hFc hP1 hD1
  have hK := hK.app hK1
  generalize H1 = H at hP hS ⊢
  have hP : va_P (dC, dI) classes [(h, .inr (2, [.null, .null, .null])), (q1, .inr (1, [.ref a2, .int 0])), (a2, .inl (k3, 92, .inl (fun _ => 0)))] H := hP
  have hD : va_D A [(h, .inr (2, [.null, .null, .null])), (q1, .inr (1, [.ref a2, .int 0])), (a2, .inl (k3, 92, .inl (fun _ => 0)))] := hD
  have hK : va_K (dC, dI) classes [(k3, .int)] s := hK
  refine va_putF (D := (dC, dI)) (ci := 2) (v := .ref q1) (ty := .object "LandBook$Points") (C := "LandBook$Cutter") (T := F_Cutter) (N := 3) hx hb hts tu_Cutter t_Cutter t_Cutter_ok n_Cutter hown hK hP hD hS 0 rfl rfl 0 (by decide) (hts _ tk_112) (fun _ h9 => h9) rfl hin rfl (by decide +kernel) rfl rfl (Nat.le_of_ble_eq_true rfl) d_Cutter_init_14 (fun H locs hP hD hS => ?_)
  have hP : va_P (dC, dI) classes [(h, .inr (2, [.ref q1, .null, .null])), (q1, .inr (1, [.ref a2, .int 0])), (a2, .inl (k3, 92, .inl (fun _ => 0)))] H := hP
  have hD : va_D A [(h, .inr (2, [.ref q1, .null, .null])), (q1, .inr (1, [.ref a2, .int 0])), (a2, .inl (k3, 92, .inl (fun _ => 0)))] := hD
  refine lv_aload_n hx hb d_Cutter_init_17 rfl (lv_at hl 0 rfl) ?_
  refine va_new (ci := 1) (fs := [.null, .int 0]) (C := "LandBook$Points") (T := F_Points) (N := 2) hx hb hts tu_Points t_Points t_Points_ok hown (hts _ tk_106) (hts _ tk_107) (hts _ tk_108) hK hP hD hS hA rfl (fun j hj => by rcases (show j = 0 ∨ j = 1 by omega) with rfl | rfl <;> rfl) (by show 3 ≤ 6; decide) (by show 96 ≤ 282; decide) d_Cutter_init_18 (fun q4 H hP hD hS => ?_)
  have hP : va_P (dC, dI) classes [(h, .inr (2, [.ref q1, .null, .null])), (q1, .inr (1, [.ref a2, .int 0])), (a2, .inl (k3, 92, .inl (fun _ => 0))), (q4, .inr (1, [.null, .int 0]))] H := hP
  have hD : va_D A [(h, .inr (2, [.ref q1, .null, .null])), (q1, .inr (1, [.ref a2, .int 0])), (a2, .inl (k3, 92, .inl (fun _ => 0))), (q4, .inr (1, [.null, .int 0]))] := hD
  refine lv_dup hx hb d_Cutter_init_21 rfl ?_
  refine lv_bipush (v := 92) hx hb d_Cutter_init_22 (by decide) ?_
  have hPc := hP.sub (ws' := [(q4, .inr (1, [.null, .int 0]))]) [3] rfl
  have hDc := hD.sub (ws' := [(q4, .inr (1, [.null, .int 0]))]) [3] (by decide) rfl
  have hKc := hK.sub (tys' := []) [] rfl
  have hFc := va_free (wc := [(q4, .inr (1, [.null, .int 0]))]) hD hS hA [3] rfl
  refine va_callv (va_runI (As := [.int 92]) (rest := [.ref q4, .ref h]) ⟨hx, hb, hml, hown, hts⟩ (c_Points_init l dC dI q4 H.size 92 92 (by decide) (by decide) (by decide)) (cwI 1 hts (tw_gc tk_109) rfl rfl rfl (hts _ tk_108) (hts _ tk_110) (hts _ tk_111) rfl (by decide +kernel) ⟨Nat.le_of_ble_eq_true rfl, Nat.le_of_ble_eq_true rfl⟩) (tw_s4 hPc hKc hDc) rfl rfl hl.1 rfl (lv_room (Nat.le_of_ble_eq_true rfl)) d_Cutter_init_24 ⟨by show 4 ≤ 6; decide, by show 188 ≤ 282; decide⟩) hS (fun q _ h => hFc q h) hFc (fun u t H1 locs ht hvm hw hB hz1 hk1 hS => ?_)
  obtain ⟨a5, k6⟩ := u
  obtain ⟨hP1, hK1, hD1⟩ := hB
  rw [ht] at hP1
  have hK1 := va_K.moved hvm.symm hK1
  obtain ⟨hP, hD⟩ := va_join (wr := [(h, .inr (2, [.ref q1, .null, .null])), (q1, .inr (1, [.ref a2, .int 0])), (a2, .inl (k3, 92, .inl (fun _ => 0)))]) (w1 := [(q4, .inr (1, [.ref a5, .int 0])), (a5, .inl (k6, 92, .inl (fun _ => 0)))]) hP hD [3] [0, 1, 2] rfl rfl (by decide) (by decide) hk1 hFc hP1 hD1
  have hK := hK.app hK1
  generalize H1 = H at hP hS ⊢
  have hP : va_P (dC, dI) classes [(h, .inr (2, [.ref q1, .null, .null])), (q1, .inr (1, [.ref a2, .int 0])), (a2, .inl (k3, 92, .inl (fun _ => 0))), (q4, .inr (1, [.ref a5, .int 0])), (a5, .inl (k6, 92, .inl (fun _ => 0)))] H := hP
  have hD : va_D A [(h, .inr (2, [.ref q1, .null, .null])), (q1, .inr (1, [.ref a2, .int 0])), (a2, .inl (k3, 92, .inl (fun _ => 0))), (q4, .inr (1, [.ref a5, .int 0])), (a5, .inl (k6, 92, .inl (fun _ => 0)))] := hD
  have hK : va_K (dC, dI) classes [(k3, .int), (k6, .int)] s := hK
  refine va_putF (D := (dC, dI)) (ci := 2) (v := .ref q4) (ty := .object "LandBook$Points") (C := "LandBook$Cutter") (T := F_Cutter) (N := 3) hx hb hts tu_Cutter t_Cutter t_Cutter_ok n_Cutter hown hK hP hD hS 0 rfl rfl 1 (by decide) (hts _ tk_113) (fun _ h9 => h9) rfl hin rfl (by decide +kernel) rfl rfl (Nat.le_of_ble_eq_true rfl) d_Cutter_init_27 (fun H locs hP hD hS => ?_)
  have hP : va_P (dC, dI) classes [(h, .inr (2, [.ref q1, .ref q4, .null])), (q1, .inr (1, [.ref a2, .int 0])), (a2, .inl (k3, 92, .inl (fun _ => 0))), (q4, .inr (1, [.ref a5, .int 0])), (a5, .inl (k6, 92, .inl (fun _ => 0)))] H := hP
  have hD : va_D A [(h, .inr (2, [.ref q1, .ref q4, .null])), (q1, .inr (1, [.ref a2, .int 0])), (a2, .inl (k3, 92, .inl (fun _ => 0))), (q4, .inr (1, [.ref a5, .int 0])), (a5, .inl (k6, 92, .inl (fun _ => 0)))] := hD
  refine lv_aload_n hx hb d_Cutter_init_30 rfl (lv_at hl 0 rfl) ?_
  refine va_new (ci := 1) (fs := [.null, .int 0]) (C := "LandBook$Points") (T := F_Points) (N := 2) hx hb hts tu_Points t_Points t_Points_ok hown (hts _ tk_106) (hts _ tk_107) (hts _ tk_108) hK hP hD hS hA rfl (fun j hj => by rcases (show j = 0 ∨ j = 1 by omega) with rfl | rfl <;> rfl) (by show 5 ≤ 6; decide) (by show 190 ≤ 282; decide) d_Cutter_init_31 (fun q7 H hP hD hS => ?_)
  have hP : va_P (dC, dI) classes [(h, .inr (2, [.ref q1, .ref q4, .null])), (q1, .inr (1, [.ref a2, .int 0])), (a2, .inl (k3, 92, .inl (fun _ => 0))), (q4, .inr (1, [.ref a5, .int 0])), (a5, .inl (k6, 92, .inl (fun _ => 0))), (q7, .inr (1, [.null, .int 0]))] H := hP
  have hD : va_D A [(h, .inr (2, [.ref q1, .ref q4, .null])), (q1, .inr (1, [.ref a2, .int 0])), (a2, .inl (k3, 92, .inl (fun _ => 0))), (q4, .inr (1, [.ref a5, .int 0])), (a5, .inl (k6, 92, .inl (fun _ => 0))), (q7, .inr (1, [.null, .int 0]))] := hD
  refine lv_dup hx hb d_Cutter_init_34 rfl ?_
  refine lv_bipush (v := 92) hx hb d_Cutter_init_35 (by decide) ?_
  have hPc := hP.sub (ws' := [(q7, .inr (1, [.null, .int 0]))]) [5] rfl
  have hDc := hD.sub (ws' := [(q7, .inr (1, [.null, .int 0]))]) [5] (by decide) rfl
  have hKc := hK.sub (tys' := []) [] rfl
  have hFc := va_free (wc := [(q7, .inr (1, [.null, .int 0]))]) hD hS hA [5] rfl
  refine va_callv (va_runI (As := [.int 92]) (rest := [.ref q7, .ref h]) ⟨hx, hb, hml, hown, hts⟩ (c_Points_init l dC dI q7 H.size 92 92 (by decide) (by decide) (by decide)) (cwI 1 hts (tw_gc tk_109) rfl rfl rfl (hts _ tk_108) (hts _ tk_110) (hts _ tk_111) rfl (by decide +kernel) ⟨Nat.le_of_ble_eq_true rfl, Nat.le_of_ble_eq_true rfl⟩) (tw_s4 hPc hKc hDc) rfl rfl hl.1 rfl (lv_room (Nat.le_of_ble_eq_true rfl)) d_Cutter_init_37 ⟨by show 6 ≤ 6; decide, by show 282 ≤ 282; decide⟩) hS (fun q _ h => hFc q h) hFc (fun u t H1 locs ht hvm hw hB hz1 hk1 hS => ?_)
  obtain ⟨a8, k9⟩ := u
  obtain ⟨hP1, hK1, hD1⟩ := hB
  rw [ht] at hP1
  have hK1 := va_K.moved hvm.symm hK1
  obtain ⟨hP, hD⟩ := va_join (wr := [(h, .inr (2, [.ref q1, .ref q4, .null])), (q1, .inr (1, [.ref a2, .int 0])), (a2, .inl (k3, 92, .inl (fun _ => 0))), (q4, .inr (1, [.ref a5, .int 0])), (a5, .inl (k6, 92, .inl (fun _ => 0)))]) (w1 := [(q7, .inr (1, [.ref a8, .int 0])), (a8, .inl (k9, 92, .inl (fun _ => 0)))]) hP hD [5] [0, 1, 2, 3, 4] rfl rfl (by decide) (by decide) hk1 hFc hP1 hD1
  have hK := hK.app hK1
  generalize H1 = H at hP hS ⊢
  have hP : va_P (dC, dI) classes [(h, .inr (2, [.ref q1, .ref q4, .null])), (q1, .inr (1, [.ref a2, .int 0])), (a2, .inl (k3, 92, .inl (fun _ => 0))), (q4, .inr (1, [.ref a5, .int 0])), (a5, .inl (k6, 92, .inl (fun _ => 0))), (q7, .inr (1, [.ref a8, .int 0])), (a8, .inl (k9, 92, .inl (fun _ => 0)))] H := hP
  have hD : va_D A [(h, .inr (2, [.ref q1, .ref q4, .null])), (q1, .inr (1, [.ref a2, .int 0])), (a2, .inl (k3, 92, .inl (fun _ => 0))), (q4, .inr (1, [.ref a5, .int 0])), (a5, .inl (k6, 92, .inl (fun _ => 0))), (q7, .inr (1, [.ref a8, .int 0])), (a8, .inl (k9, 92, .inl (fun _ => 0)))] := hD
  have hK : va_K (dC, dI) classes [(k3, .int), (k6, .int), (k9, .int)] s := hK
  refine va_putF (D := (dC, dI)) (ci := 2) (v := .ref q7) (ty := .object "LandBook$Points") (C := "LandBook$Cutter") (T := F_Cutter) (N := 3) hx hb hts tu_Cutter t_Cutter t_Cutter_ok n_Cutter hown hK hP hD hS 0 rfl rfl 2 (by decide) (hts _ tk_114) (fun _ h9 => h9) rfl hin rfl (by decide +kernel) rfl rfl (Nat.le_of_ble_eq_true rfl) d_Cutter_init_40 (fun H locs hP hD hS => ?_)
  have hP : va_P (dC, dI) classes [(h, .inr (2, [.ref q1, .ref q4, .ref q7])), (q1, .inr (1, [.ref a2, .int 0])), (a2, .inl (k3, 92, .inl (fun _ => 0))), (q4, .inr (1, [.ref a5, .int 0])), (a5, .inl (k6, 92, .inl (fun _ => 0))), (q7, .inr (1, [.ref a8, .int 0])), (a8, .inl (k9, 92, .inl (fun _ => 0)))] H := hP
  have hD : va_D A [(h, .inr (2, [.ref q1, .ref q4, .ref q7])), (q1, .inr (1, [.ref a2, .int 0])), (a2, .inl (k3, 92, .inl (fun _ => 0))), (q4, .inr (1, [.ref a5, .int 0])), (a5, .inl (k6, 92, .inl (fun _ => 0))), (q7, .inr (1, [.ref a8, .int 0])), (a8, .inl (k9, 92, .inl (fun _ => 0)))] := hD
  have hP9 := hP.sub (ws' := [(h, .inr (2, [.ref q1, .ref q4, .ref q7])), (q1, .inr (1, [.ref a2, .int 0])), (a2, .inl (k3, 92, .inl (fun _ => 0))), (q4, .inr (1, [.ref a5, .int 0])), (a5, .inl (k6, 92, .inl (fun _ => 0))), (q7, .inr (1, [.ref a8, .int 0])), (a8, .inl (k9, 92, .inl (fun _ => 0)))]) [0, 1, 2, 3, 4, 5, 6] rfl
  have hD9 := hD.sub (ws' := [(h, .inr (2, [.ref q1, .ref q4, .ref q7])), (q1, .inr (1, [.ref a2, .int 0])), (a2, .inl (k3, 92, .inl (fun _ => 0))), (q4, .inr (1, [.ref a5, .int 0])), (a5, .inl (k6, 92, .inl (fun _ => 0))), (q7, .inr (1, [.ref a8, .int 0])), (a8, .inl (k9, 92, .inl (fun _ => 0)))]) [0, 1, 2, 3, 4, 5, 6] (by decide) rfl
  have hK9 := hK.sub (tys' := [(k3, .int), (k6, .int), (k9, .int)]) [0, 1, 2] rfl
  refine W.widen (k := 6) (n := 282) (by decide) (by decide) ?_
  exact W.vret hx hb hr (fun t ht hW => ⟨⟨(q1, a2, q4, a5, q7, a8, k3, k6, k9), rfl, trivial, by rw [ht]; exact hP9, va_K.moved hW.alike hK9, hD9⟩, hS.F ht⟩) hS.2.2 d_Cutter_init_43
theorem tk_115 : (Jvm.Cond.methodLink "LandBook$Joiner" (3 : Nat) ({ cls := "java/lang/Object", name := "<init>", desc := "()V" } : Jvm.MethodName)) ∈ tw_G := tw_in (List.mem_of_getElem? (i := 140) (by decide +kernel)) rfl
theorem tk_116 : (Jvm.Cond.classLink "LandBook$Joiner" (9 : Nat) "LandBook$Points") ∈ tw_G := tw_in (List.mem_of_getElem? (i := 141) (by decide +kernel)) rfl
theorem tk_117 : (Jvm.Cond.methodLink "LandBook$Joiner" (13 : Nat) ({ cls := "LandBook$Points", name := "<init>", desc := "(I)V" } : Jvm.MethodName)) ∈ tw_G := tw_in (List.mem_of_getElem? (i := 142) (by decide +kernel)) rfl
theorem tk_118 : (Jvm.Cond.fieldLink "LandBook$Joiner" (16 : Nat) "LandBook$Joiner" "left" "LLandBook$Points;") ∈ tw_G := tw_in (List.mem_of_getElem? (i := 143) (by decide +kernel)) rfl
theorem tk_119 : (Jvm.Cond.fieldLink "LandBook$Joiner" (20 : Nat) "LandBook$Joiner" "right" "LLandBook$Points;") ∈ tw_G := tw_in (List.mem_of_getElem? (i := 144) (by decide +kernel)) rfl
theorem tk_120 : (Jvm.Cond.fieldLink "LandBook$Joiner" (23 : Nat) "LandBook$Joiner" "matches" "[I") ∈ tw_G := tw_in (List.mem_of_getElem? (i := 145) (by decide +kernel)) rfl
theorem tk_121 : (Jvm.Cond.fieldLink "LandBook$Joiner" (27 : Nat) "LandBook$Joiner" "outline" "LLandBook$Points;") ∈ tw_G := tw_in (List.mem_of_getElem? (i := 146) (by decide +kernel)) rfl
theorem tk_122 : (Jvm.Cond.fieldLink "LandBook$Joiner" (30 : Nat) "LandBook$Joiner" "joined" "LLandBook$Points;") ∈ tw_G := tw_in (List.mem_of_getElem? (i := 147) (by decide +kernel)) rfl
abbrev y_Joiner_init : MethodName := ⟨"LandBook$Joiner", "<init>", "()V"⟩
abbrev w_Joiner_init : List Cond := Cond.code y_Joiner_init prog_5_method_1_code 1 none :: tw_G
theorem d_Joiner_init_0 : decode prog_5_method_1_code 0 = .ok (.aload_n 0, 1) := by decide +kernel
theorem d_Joiner_init_1 : decode prog_5_method_1_code 1 = .ok (.invokespecial 3, 3) := by decide +kernel
theorem d_Joiner_init_4 : decode prog_5_method_1_code 4 = .ok (.aload_n 0, 1) := by decide +kernel
theorem d_Joiner_init_5 : decode prog_5_method_1_code 5 = .ok (.new 9, 3) := by decide +kernel
theorem d_Joiner_init_8 : decode prog_5_method_1_code 8 = .ok (.dup, 1) := by decide +kernel
theorem d_Joiner_init_9 : decode prog_5_method_1_code 9 = .ok (.bipush 120, 2) := by decide +kernel
theorem d_Joiner_init_11 : decode prog_5_method_1_code 11 = .ok (.invokespecial 13, 3) := by decide +kernel
theorem d_Joiner_init_14 : decode prog_5_method_1_code 14 = .ok (.putfield 16, 3) := by decide +kernel
theorem d_Joiner_init_17 : decode prog_5_method_1_code 17 = .ok (.aload_n 0, 1) := by decide +kernel
theorem d_Joiner_init_18 : decode prog_5_method_1_code 18 = .ok (.new 9, 3) := by decide +kernel
theorem d_Joiner_init_21 : decode prog_5_method_1_code 21 = .ok (.dup, 1) := by decide +kernel
theorem d_Joiner_init_22 : decode prog_5_method_1_code 22 = .ok (.bipush 120, 2) := by decide +kernel
theorem d_Joiner_init_24 : decode prog_5_method_1_code 24 = .ok (.invokespecial 13, 3) := by decide +kernel
theorem d_Joiner_init_27 : decode prog_5_method_1_code 27 = .ok (.putfield 20, 3) := by decide +kernel
theorem d_Joiner_init_30 : decode prog_5_method_1_code 30 = .ok (.aload_n 0, 1) := by decide +kernel
theorem d_Joiner_init_31 : decode prog_5_method_1_code 31 = .ok (.bipush 120, 2) := by decide +kernel
theorem d_Joiner_init_33 : decode prog_5_method_1_code 33 = .ok (.newarray .int, 2) := by decide +kernel
theorem d_Joiner_init_35 : decode prog_5_method_1_code 35 = .ok (.putfield 23, 3) := by decide +kernel
theorem d_Joiner_init_38 : decode prog_5_method_1_code 38 = .ok (.aload_n 0, 1) := by decide +kernel
theorem d_Joiner_init_39 : decode prog_5_method_1_code 39 = .ok (.new 9, 3) := by decide +kernel
theorem d_Joiner_init_42 : decode prog_5_method_1_code 42 = .ok (.dup, 1) := by decide +kernel
theorem d_Joiner_init_43 : decode prog_5_method_1_code 43 = .ok (.sipush 240, 3) := by decide +kernel
theorem d_Joiner_init_46 : decode prog_5_method_1_code 46 = .ok (.invokespecial 13, 3) := by decide +kernel
theorem d_Joiner_init_49 : decode prog_5_method_1_code 49 = .ok (.putfield 27, 3) := by decide +kernel
theorem d_Joiner_init_52 : decode prog_5_method_1_code 52 = .ok (.aload_n 0, 1) := by decide +kernel
theorem d_Joiner_init_53 : decode prog_5_method_1_code 53 = .ok (.new 9, 3) := by decide +kernel
theorem d_Joiner_init_56 : decode prog_5_method_1_code 56 = .ok (.dup, 1) := by decide +kernel
theorem d_Joiner_init_57 : decode prog_5_method_1_code 57 = .ok (.sipush 240, 3) := by decide +kernel
theorem d_Joiner_init_60 : decode prog_5_method_1_code 60 = .ok (.invokespecial 13, 3) := by decide +kernel
theorem d_Joiner_init_63 : decode prog_5_method_1_code 63 = .ok (.putfield 30, 3) := by decide +kernel
theorem d_Joiner_init_66 : decode prog_5_method_1_code 66 = .ok (.return_, 1) := by decide +kernel
set_option maxHeartbeats 4000000 in
set_option maxRecDepth 100000 in
theorem c_Joiner_init (l : Launch) (dC : Nat → ClassId) (dI : Nat → Nat → Nat) (h sz : Nat) : Met l y_Joiner_init w_Joiner_init ({ frames := 2, cells := 9, slots := 848, locals := 33 }) (tw_P4 (dC, dI) classes [(h, .inr (3, [.null, .null, .null, .null, .null]))] [] sz [.ref h]) (va_Qv (fun u : Nat × Nat × Nat × Nat × Nat × Nat × Nat × Nat × Nat × ClassId × ClassId × ClassId × ClassId × ClassId => True) (fun u => tw_B dC dI (va_A [(h, .inr (3, [.null, .null, .null, .null, .null]))] sz) [(h, .inr (3, [.ref u.1, .ref u.2.2.1, .ref u.2.2.2.2.1, .ref u.2.2.2.2.2.1, .ref u.2.2.2.2.2.2.2.1])), (u.1, .inr (1, [.ref u.2.1, .int 0])), (u.2.1, .inl (u.2.2.2.2.2.2.2.2.2.1, 120, .inl (fun _ => 0))), (u.2.2.1, .inr (1, [.ref u.2.2.2.1, .int 0])), (u.2.2.2.1, .inl (u.2.2.2.2.2.2.2.2.2.2.1, 120, .inl (fun _ => 0))), (u.2.2.2.2.1, .inl (u.2.2.2.2.2.2.2.2.2.2.2.1, 120, .inl (fun _ => 0))), (u.2.2.2.2.2.1, .inr (1, [.ref u.2.2.2.2.2.2.1, .int 0])), (u.2.2.2.2.2.2.1, .inl (u.2.2.2.2.2.2.2.2.2.2.2.2.1, 240, .inl (fun _ => 0))), (u.2.2.2.2.2.2.2.1, .inr (1, [.ref u.2.2.2.2.2.2.2.2.1, .int 0])), (u.2.2.2.2.2.2.2.2.1, .inl (u.2.2.2.2.2.2.2.2.2.2.2.2.2, 240, .inl (fun _ => 0)))] [(u.2.2.2.2.2.2.2.2.2.1, .int), (u.2.2.2.2.2.2.2.2.2.2.1, .int), (u.2.2.2.2.2.2.2.2.2.2.2.1, .int), (u.2.2.2.2.2.2.2.2.2.2.2.2.1, .int), (u.2.2.2.2.2.2.2.2.2.2.2.2.2, .int)]) (va_A [(h, .inr (3, [.null, .null, .null, .null, .null]))] sz)) 9 848 (va_A [(h, .inr (3, [.null, .null, .null, .null, .null]))] sz) := by
  refine Met.ofW (cc := prog_5_method_1_code) (maxL := 1) (ret := none) (by decide) rfl ?_
  intro p e s m args below meth c s₁ B hml hv
  obtain ⟨rfl, hsz, hP, hK, hD0⟩ := hv
  have hx := B.exec
  have hb := B.bytes
  have hr := B.returns
  have hts : ∀ w ∈ tw_G, w.before _ s = true := fun w h => atoms_spec (ws := w_Joiner_init) B.pre w (List.mem_cons_of_mem _ h)
  have hown : s.vm.findClass "LandBook$Joiner" = some m.cls := findClass_of_methodNamed B.named
  have hlocks := B.notSynchronized
  have hin : meth.name = "<init>" := (name_of_methodNamed B.named B.method).1
  subst hsz
  have hD := hD0.self (sz := s.heap.size)
  generalize hAe : va_A [(h, .inr (3, [.null, .null, .null, .null, .null]))] s.heap.size = A at hD ⊢
  have hA : ∀ q : Nat, s.heap.size ≤ q → A q := fun q h => by rw [← hAe]; exact Or.inr h
  have hS : va_S A s.heap s.heap [] := va_S.rf
  have hP : va_P (dC, dI) classes [(h, .inr (3, [.null, .null, .null, .null, .null]))] s.heap := hP
  have hl := lv_entry ([.ref h]) (n := 1) (Nat.le_of_ble_eq_true rfl)
  rw [lg_entry_eq]
  generalize (lg_sl ([.ref h]) ++ List.replicate (1 - (lg_sl ([.ref h])).length) Slot.unset).toArray = ls at hl ⊢
  have hl : lv_has ls 1 [(0, .ref h)] := hl
  refine lv_aload_n hx hb d_Joiner_init_0 rfl (lv_at hl 0 rfl) ?_
  refine W.objInit hx hb hown (hts _ tk_115) (hts _ tk_86) (hts _ tk_87) rfl (by rw [hml]; exact hl.1) rfl d_Joiner_init_1 (Nat.le_of_ble_eq_true rfl) (Nat.le_of_ble_eq_true rfl) ?_
  refine W.eq (g2 := F0 m 4 ls []) rfl ?_
  refine lv_aload_n hx hb d_Joiner_init_4 rfl (lv_at hl 0 rfl) ?_
  refine va_new (ci := 1) (fs := [.null, .int 0]) (C := "LandBook$Points") (T := F_Points) (N := 2) hx hb hts tu_Points t_Points t_Points_ok hown (hts _ tk_116) (hts _ tk_107) (hts _ tk_108) hK hP hD hS hA rfl (fun j hj => by rcases (show j = 0 ∨ j = 1 by omega) with rfl | rfl <;> rfl) (by show 1 ≤ 9; decide) (by show 2 ≤ 848; decide) d_Joiner_init_5 (fun q1 H hP hD hS => ?_)
  have hP : va_P (dC, dI) classes [(h, .inr (3, [.null, .null, .null, .null, .null])), (q1, .inr (1, [.null, .int 0]))] H := hP
  have hD : va_D A [(h, .inr (3, [.null, .null, .null, .null, .null])), (q1, .inr (1, [.null, .int 0]))] := hD
  refine lv_dup hx hb d_Joiner_init_8 rfl ?_
  refine lv_bipush (v := 120) hx hb d_Joiner_init_9 (by decide) ?_
  have hPc := hP.sub (ws' := [(q1, .inr (1, [.null, .int 0]))]) [1] rfl
  have hDc := hD.sub (ws' := [(q1, .inr (1, [.null, .int 0]))]) [1] (by decide) rfl
  have hKc := hK.sub (tys' := []) [] rfl
  have hFc := va_free (wc := [(q1, .inr (1, [.null, .int 0]))]) hD hS hA [1] rfl
  refine va_callv (va_runI (As := [.int 120]) (rest := [.ref q1, .ref h]) ⟨hx, hb, hml, hown, hts⟩ (c_Points_init l dC dI q1 H.size 120 120 (by decide) (by decide) (by decide)) (cwI 1 hts (tw_gc tk_109) rfl rfl rfl (hts _ tk_108) (hts _ tk_117) (hts _ tk_111) rfl (by decide +kernel) ⟨Nat.le_of_ble_eq_true rfl, Nat.le_of_ble_eq_true rfl⟩) (tw_s4 hPc hKc hDc) rfl rfl hl.1 rfl (lv_room (Nat.le_of_ble_eq_true rfl)) d_Joiner_init_11 ⟨by show 2 ≤ 9; decide, by show 122 ≤ 848; decide⟩) hS (fun q _ h => hFc q h) hFc (fun u t H1 locs ht hvm hw hB hz1 hk1 hS => ?_)
  obtain ⟨a2, k3⟩ := u
  obtain ⟨hP1, hK1, hD1⟩ := hB
  rw [ht] at hP1
  have hK1 := va_K.moved hvm.symm hK1
  obtain ⟨hP, hD⟩ := va_join (wr := [(h, .inr (3, [.null, .null, .null, .null, .null]))]) (w1 := [(q1, .inr (1, [.ref a2, .int 0])), (a2, .inl (k3, 120, .inl (fun _ => 0)))]) hP hD [1] [0] rfl rfl (by decide) (by decide) hk1 hFc hP1 hD1
  have hK := hK.app hK1
  generalize H1 = H at hP hS ⊢
  have hP : va_P (dC, dI) classes [(h, .inr (3, [.null, .null, .null, .null, .null])), (q1, .inr (1, [.ref a2, .int 0])), (a2, .inl (k3, 120, .inl (fun _ => 0)))] H := hP
  have hD : va_D A [(h, .inr (3, [.null, .null, .null, .null, .null])), (q1, .inr (1, [.ref a2, .int 0])), (a2, .inl (k3, 120, .inl (fun _ => 0)))] := hD
  have hK : va_K (dC, dI) classes [(k3, .int)] s := hK
  refine va_putF (D := (dC, dI)) (ci := 3) (v := .ref q1) (ty := .object "LandBook$Points") (C := "LandBook$Joiner") (T := F_Joiner) (N := 5) hx hb hts tu_Joiner t_Joiner t_Joiner_ok n_Joiner hown hK hP hD hS 0 rfl rfl 0 (by decide) (hts _ tk_118) (fun _ h9 => h9) rfl hin rfl (by decide +kernel) rfl rfl (Nat.le_of_ble_eq_true rfl) d_Joiner_init_14 (fun H locs hP hD hS => ?_)
  have hP : va_P (dC, dI) classes [(h, .inr (3, [.ref q1, .null, .null, .null, .null])), (q1, .inr (1, [.ref a2, .int 0])), (a2, .inl (k3, 120, .inl (fun _ => 0)))] H := hP
  have hD : va_D A [(h, .inr (3, [.ref q1, .null, .null, .null, .null])), (q1, .inr (1, [.ref a2, .int 0])), (a2, .inl (k3, 120, .inl (fun _ => 0)))] := hD
  refine lv_aload_n hx hb d_Joiner_init_17 rfl (lv_at hl 0 rfl) ?_
  refine va_new (ci := 1) (fs := [.null, .int 0]) (C := "LandBook$Points") (T := F_Points) (N := 2) hx hb hts tu_Points t_Points t_Points_ok hown (hts _ tk_116) (hts _ tk_107) (hts _ tk_108) hK hP hD hS hA rfl (fun j hj => by rcases (show j = 0 ∨ j = 1 by omega) with rfl | rfl <;> rfl) (by show 3 ≤ 9; decide) (by show 124 ≤ 848; decide) d_Joiner_init_18 (fun q4 H hP hD hS => ?_)
  have hP : va_P (dC, dI) classes [(h, .inr (3, [.ref q1, .null, .null, .null, .null])), (q1, .inr (1, [.ref a2, .int 0])), (a2, .inl (k3, 120, .inl (fun _ => 0))), (q4, .inr (1, [.null, .int 0]))] H := hP
  have hD : va_D A [(h, .inr (3, [.ref q1, .null, .null, .null, .null])), (q1, .inr (1, [.ref a2, .int 0])), (a2, .inl (k3, 120, .inl (fun _ => 0))), (q4, .inr (1, [.null, .int 0]))] := hD
  refine lv_dup hx hb d_Joiner_init_21 rfl ?_
  refine lv_bipush (v := 120) hx hb d_Joiner_init_22 (by decide) ?_
  have hPc := hP.sub (ws' := [(q4, .inr (1, [.null, .int 0]))]) [3] rfl
  have hDc := hD.sub (ws' := [(q4, .inr (1, [.null, .int 0]))]) [3] (by decide) rfl
  have hKc := hK.sub (tys' := []) [] rfl
  have hFc := va_free (wc := [(q4, .inr (1, [.null, .int 0]))]) hD hS hA [3] rfl
  refine va_callv (va_runI (As := [.int 120]) (rest := [.ref q4, .ref h]) ⟨hx, hb, hml, hown, hts⟩ (c_Points_init l dC dI q4 H.size 120 120 (by decide) (by decide) (by decide)) (cwI 1 hts (tw_gc tk_109) rfl rfl rfl (hts _ tk_108) (hts _ tk_117) (hts _ tk_111) rfl (by decide +kernel) ⟨Nat.le_of_ble_eq_true rfl, Nat.le_of_ble_eq_true rfl⟩) (tw_s4 hPc hKc hDc) rfl rfl hl.1 rfl (lv_room (Nat.le_of_ble_eq_true rfl)) d_Joiner_init_24 ⟨by show 4 ≤ 9; decide, by show 244 ≤ 848; decide⟩) hS (fun q _ h => hFc q h) hFc (fun u t H1 locs ht hvm hw hB hz1 hk1 hS => ?_)
  obtain ⟨a5, k6⟩ := u
  obtain ⟨hP1, hK1, hD1⟩ := hB
  rw [ht] at hP1
  have hK1 := va_K.moved hvm.symm hK1
  obtain ⟨hP, hD⟩ := va_join (wr := [(h, .inr (3, [.ref q1, .null, .null, .null, .null])), (q1, .inr (1, [.ref a2, .int 0])), (a2, .inl (k3, 120, .inl (fun _ => 0)))]) (w1 := [(q4, .inr (1, [.ref a5, .int 0])), (a5, .inl (k6, 120, .inl (fun _ => 0)))]) hP hD [3] [0, 1, 2] rfl rfl (by decide) (by decide) hk1 hFc hP1 hD1
  have hK := hK.app hK1
  generalize H1 = H at hP hS ⊢
  have hP : va_P (dC, dI) classes [(h, .inr (3, [.ref q1, .null, .null, .null, .null])), (q1, .inr (1, [.ref a2, .int 0])), (a2, .inl (k3, 120, .inl (fun _ => 0))), (q4, .inr (1, [.ref a5, .int 0])), (a5, .inl (k6, 120, .inl (fun _ => 0)))] H := hP
  have hD : va_D A [(h, .inr (3, [.ref q1, .null, .null, .null, .null])), (q1, .inr (1, [.ref a2, .int 0])), (a2, .inl (k3, 120, .inl (fun _ => 0))), (q4, .inr (1, [.ref a5, .int 0])), (a5, .inl (k6, 120, .inl (fun _ => 0)))] := hD
  have hK : va_K (dC, dI) classes [(k3, .int), (k6, .int)] s := hK
  refine va_putF (D := (dC, dI)) (ci := 3) (v := .ref q4) (ty := .object "LandBook$Points") (C := "LandBook$Joiner") (T := F_Joiner) (N := 5) hx hb hts tu_Joiner t_Joiner t_Joiner_ok n_Joiner hown hK hP hD hS 0 rfl rfl 1 (by decide) (hts _ tk_119) (fun _ h9 => h9) rfl hin rfl (by decide +kernel) rfl rfl (Nat.le_of_ble_eq_true rfl) d_Joiner_init_27 (fun H locs hP hD hS => ?_)
  have hP : va_P (dC, dI) classes [(h, .inr (3, [.ref q1, .ref q4, .null, .null, .null])), (q1, .inr (1, [.ref a2, .int 0])), (a2, .inl (k3, 120, .inl (fun _ => 0))), (q4, .inr (1, [.ref a5, .int 0])), (a5, .inl (k6, 120, .inl (fun _ => 0)))] H := hP
  have hD : va_D A [(h, .inr (3, [.ref q1, .ref q4, .null, .null, .null])), (q1, .inr (1, [.ref a2, .int 0])), (a2, .inl (k3, 120, .inl (fun _ => 0))), (q4, .inr (1, [.ref a5, .int 0])), (a5, .inl (k6, 120, .inl (fun _ => 0)))] := hD
  refine lv_aload_n hx hb d_Joiner_init_30 rfl (lv_at hl 0 rfl) ?_
  refine lv_bipush (v := 120) hx hb d_Joiner_init_31 (by decide) ?_
  refine va_newa (atype := .int) (ty := .int) (N' := 120) (a0 := (120, .inl (fun _ => 0))) hx hb (hts _ tk_88) rfl hK hP hD hS hA (fun _ => rfl) (by decide) (by decide) (by decide) (by show 5 ≤ 9; decide) (by show 364 ≤ 848; decide) d_Joiner_init_33 (fun q7 k8 H hK hP hD hS => ?_)
  have hK : va_K (dC, dI) classes [(k3, .int), (k6, .int), (k8, .int)] s := hK
  have hP : va_P (dC, dI) classes [(h, .inr (3, [.ref q1, .ref q4, .null, .null, .null])), (q1, .inr (1, [.ref a2, .int 0])), (a2, .inl (k3, 120, .inl (fun _ => 0))), (q4, .inr (1, [.ref a5, .int 0])), (a5, .inl (k6, 120, .inl (fun _ => 0))), (q7, .inl (k8, 120, .inl (fun _ => 0)))] H := hP
  have hD : va_D A [(h, .inr (3, [.ref q1, .ref q4, .null, .null, .null])), (q1, .inr (1, [.ref a2, .int 0])), (a2, .inl (k3, 120, .inl (fun _ => 0))), (q4, .inr (1, [.ref a5, .int 0])), (a5, .inl (k6, 120, .inl (fun _ => 0))), (q7, .inl (k8, 120, .inl (fun _ => 0)))] := hD
  refine va_putF (D := (dC, dI)) (ci := 3) (v := .ref q7) (ty := .array .int) (C := "LandBook$Joiner") (T := F_Joiner) (N := 5) hx hb hts tu_Joiner t_Joiner t_Joiner_ok n_Joiner hown hK hP hD hS 0 rfl rfl 2 (by decide) (hts _ tk_120) (fun _ h9 => h9) rfl hin rfl (by decide +kernel) rfl rfl (Nat.le_of_ble_eq_true rfl) d_Joiner_init_35 (fun H locs hP hD hS => ?_)
  have hP : va_P (dC, dI) classes [(h, .inr (3, [.ref q1, .ref q4, .ref q7, .null, .null])), (q1, .inr (1, [.ref a2, .int 0])), (a2, .inl (k3, 120, .inl (fun _ => 0))), (q4, .inr (1, [.ref a5, .int 0])), (a5, .inl (k6, 120, .inl (fun _ => 0))), (q7, .inl (k8, 120, .inl (fun _ => 0)))] H := hP
  have hD : va_D A [(h, .inr (3, [.ref q1, .ref q4, .ref q7, .null, .null])), (q1, .inr (1, [.ref a2, .int 0])), (a2, .inl (k3, 120, .inl (fun _ => 0))), (q4, .inr (1, [.ref a5, .int 0])), (a5, .inl (k6, 120, .inl (fun _ => 0))), (q7, .inl (k8, 120, .inl (fun _ => 0)))] := hD
  refine lv_aload_n hx hb d_Joiner_init_38 rfl (lv_at hl 0 rfl) ?_
  refine va_new (ci := 1) (fs := [.null, .int 0]) (C := "LandBook$Points") (T := F_Points) (N := 2) hx hb hts tu_Points t_Points t_Points_ok hown (hts _ tk_116) (hts _ tk_107) (hts _ tk_108) hK hP hD hS hA rfl (fun j hj => by rcases (show j = 0 ∨ j = 1 by omega) with rfl | rfl <;> rfl) (by show 6 ≤ 9; decide) (by show 366 ≤ 848; decide) d_Joiner_init_39 (fun q9 H hP hD hS => ?_)
  have hP : va_P (dC, dI) classes [(h, .inr (3, [.ref q1, .ref q4, .ref q7, .null, .null])), (q1, .inr (1, [.ref a2, .int 0])), (a2, .inl (k3, 120, .inl (fun _ => 0))), (q4, .inr (1, [.ref a5, .int 0])), (a5, .inl (k6, 120, .inl (fun _ => 0))), (q7, .inl (k8, 120, .inl (fun _ => 0))), (q9, .inr (1, [.null, .int 0]))] H := hP
  have hD : va_D A [(h, .inr (3, [.ref q1, .ref q4, .ref q7, .null, .null])), (q1, .inr (1, [.ref a2, .int 0])), (a2, .inl (k3, 120, .inl (fun _ => 0))), (q4, .inr (1, [.ref a5, .int 0])), (a5, .inl (k6, 120, .inl (fun _ => 0))), (q7, .inl (k8, 120, .inl (fun _ => 0))), (q9, .inr (1, [.null, .int 0]))] := hD
  refine lv_dup hx hb d_Joiner_init_42 rfl ?_
  refine lv_sipush (v := 240) hx hb d_Joiner_init_43 (by decide) ?_
  have hPc := hP.sub (ws' := [(q9, .inr (1, [.null, .int 0]))]) [6] rfl
  have hDc := hD.sub (ws' := [(q9, .inr (1, [.null, .int 0]))]) [6] (by decide) rfl
  have hKc := hK.sub (tys' := []) [] rfl
  have hFc := va_free (wc := [(q9, .inr (1, [.null, .int 0]))]) hD hS hA [6] rfl
  refine va_callv (va_runI (As := [.int 240]) (rest := [.ref q9, .ref h]) ⟨hx, hb, hml, hown, hts⟩ (c_Points_init l dC dI q9 H.size 240 240 (by decide) (by decide) (by decide)) (cwI 1 hts (tw_gc tk_109) rfl rfl rfl (hts _ tk_108) (hts _ tk_117) (hts _ tk_111) rfl (by decide +kernel) ⟨Nat.le_of_ble_eq_true rfl, Nat.le_of_ble_eq_true rfl⟩) (tw_s4 hPc hKc hDc) rfl rfl hl.1 rfl (lv_room (Nat.le_of_ble_eq_true rfl)) d_Joiner_init_46 ⟨by show 7 ≤ 9; decide, by show 606 ≤ 848; decide⟩) hS (fun q _ h => hFc q h) hFc (fun u t H1 locs ht hvm hw hB hz1 hk1 hS => ?_)
  obtain ⟨a10, k11⟩ := u
  obtain ⟨hP1, hK1, hD1⟩ := hB
  rw [ht] at hP1
  have hK1 := va_K.moved hvm.symm hK1
  obtain ⟨hP, hD⟩ := va_join (wr := [(h, .inr (3, [.ref q1, .ref q4, .ref q7, .null, .null])), (q1, .inr (1, [.ref a2, .int 0])), (a2, .inl (k3, 120, .inl (fun _ => 0))), (q4, .inr (1, [.ref a5, .int 0])), (a5, .inl (k6, 120, .inl (fun _ => 0))), (q7, .inl (k8, 120, .inl (fun _ => 0)))]) (w1 := [(q9, .inr (1, [.ref a10, .int 0])), (a10, .inl (k11, 240, .inl (fun _ => 0)))]) hP hD [6] [0, 1, 2, 3, 4, 5] rfl rfl (by decide) (by decide) hk1 hFc hP1 hD1
  have hK := hK.app hK1
  generalize H1 = H at hP hS ⊢
  have hP : va_P (dC, dI) classes [(h, .inr (3, [.ref q1, .ref q4, .ref q7, .null, .null])), (q1, .inr (1, [.ref a2, .int 0])), (a2, .inl (k3, 120, .inl (fun _ => 0))), (q4, .inr (1, [.ref a5, .int 0])), (a5, .inl (k6, 120, .inl (fun _ => 0))), (q7, .inl (k8, 120, .inl (fun _ => 0))), (q9, .inr (1, [.ref a10, .int 0])), (a10, .inl (k11, 240, .inl (fun _ => 0)))] H := hP
  have hD : va_D A [(h, .inr (3, [.ref q1, .ref q4, .ref q7, .null, .null])), (q1, .inr (1, [.ref a2, .int 0])), (a2, .inl (k3, 120, .inl (fun _ => 0))), (q4, .inr (1, [.ref a5, .int 0])), (a5, .inl (k6, 120, .inl (fun _ => 0))), (q7, .inl (k8, 120, .inl (fun _ => 0))), (q9, .inr (1, [.ref a10, .int 0])), (a10, .inl (k11, 240, .inl (fun _ => 0)))] := hD
  have hK : va_K (dC, dI) classes [(k3, .int), (k6, .int), (k8, .int), (k11, .int)] s := hK
  refine va_putF (D := (dC, dI)) (ci := 3) (v := .ref q9) (ty := .object "LandBook$Points") (C := "LandBook$Joiner") (T := F_Joiner) (N := 5) hx hb hts tu_Joiner t_Joiner t_Joiner_ok n_Joiner hown hK hP hD hS 0 rfl rfl 3 (by decide) (hts _ tk_121) (fun _ h9 => h9) rfl hin rfl (by decide +kernel) rfl rfl (Nat.le_of_ble_eq_true rfl) d_Joiner_init_49 (fun H locs hP hD hS => ?_)
  have hP : va_P (dC, dI) classes [(h, .inr (3, [.ref q1, .ref q4, .ref q7, .ref q9, .null])), (q1, .inr (1, [.ref a2, .int 0])), (a2, .inl (k3, 120, .inl (fun _ => 0))), (q4, .inr (1, [.ref a5, .int 0])), (a5, .inl (k6, 120, .inl (fun _ => 0))), (q7, .inl (k8, 120, .inl (fun _ => 0))), (q9, .inr (1, [.ref a10, .int 0])), (a10, .inl (k11, 240, .inl (fun _ => 0)))] H := hP
  have hD : va_D A [(h, .inr (3, [.ref q1, .ref q4, .ref q7, .ref q9, .null])), (q1, .inr (1, [.ref a2, .int 0])), (a2, .inl (k3, 120, .inl (fun _ => 0))), (q4, .inr (1, [.ref a5, .int 0])), (a5, .inl (k6, 120, .inl (fun _ => 0))), (q7, .inl (k8, 120, .inl (fun _ => 0))), (q9, .inr (1, [.ref a10, .int 0])), (a10, .inl (k11, 240, .inl (fun _ => 0)))] := hD
  refine lv_aload_n hx hb d_Joiner_init_52 rfl (lv_at hl 0 rfl) ?_
  refine va_new (ci := 1) (fs := [.null, .int 0]) (C := "LandBook$Points") (T := F_Points) (N := 2) hx hb hts tu_Points t_Points t_Points_ok hown (hts _ tk_116) (hts _ tk_107) (hts _ tk_108) hK hP hD hS hA rfl (fun j hj => by rcases (show j = 0 ∨ j = 1 by omega) with rfl | rfl <;> rfl) (by show 8 ≤ 9; decide) (by show 608 ≤ 848; decide) d_Joiner_init_53 (fun q12 H hP hD hS => ?_)
  have hP : va_P (dC, dI) classes [(h, .inr (3, [.ref q1, .ref q4, .ref q7, .ref q9, .null])), (q1, .inr (1, [.ref a2, .int 0])), (a2, .inl (k3, 120, .inl (fun _ => 0))), (q4, .inr (1, [.ref a5, .int 0])), (a5, .inl (k6, 120, .inl (fun _ => 0))), (q7, .inl (k8, 120, .inl (fun _ => 0))), (q9, .inr (1, [.ref a10, .int 0])), (a10, .inl (k11, 240, .inl (fun _ => 0))), (q12, .inr (1, [.null, .int 0]))] H := hP
  have hD : va_D A [(h, .inr (3, [.ref q1, .ref q4, .ref q7, .ref q9, .null])), (q1, .inr (1, [.ref a2, .int 0])), (a2, .inl (k3, 120, .inl (fun _ => 0))), (q4, .inr (1, [.ref a5, .int 0])), (a5, .inl (k6, 120, .inl (fun _ => 0))), (q7, .inl (k8, 120, .inl (fun _ => 0))), (q9, .inr (1, [.ref a10, .int 0])), (a10, .inl (k11, 240, .inl (fun _ => 0))), (q12, .inr (1, [.null, .int 0]))] := hD
  refine lv_dup hx hb d_Joiner_init_56 rfl ?_
  refine lv_sipush (v := 240) hx hb d_Joiner_init_57 (by decide) ?_
  have hPc := hP.sub (ws' := [(q12, .inr (1, [.null, .int 0]))]) [8] rfl
  have hDc := hD.sub (ws' := [(q12, .inr (1, [.null, .int 0]))]) [8] (by decide) rfl
  have hKc := hK.sub (tys' := []) [] rfl
  have hFc := va_free (wc := [(q12, .inr (1, [.null, .int 0]))]) hD hS hA [8] rfl
  refine va_callv (va_runI (As := [.int 240]) (rest := [.ref q12, .ref h]) ⟨hx, hb, hml, hown, hts⟩ (c_Points_init l dC dI q12 H.size 240 240 (by decide) (by decide) (by decide)) (cwI 1 hts (tw_gc tk_109) rfl rfl rfl (hts _ tk_108) (hts _ tk_117) (hts _ tk_111) rfl (by decide +kernel) ⟨Nat.le_of_ble_eq_true rfl, Nat.le_of_ble_eq_true rfl⟩) (tw_s4 hPc hKc hDc) rfl rfl hl.1 rfl (lv_room (Nat.le_of_ble_eq_true rfl)) d_Joiner_init_60 ⟨by show 9 ≤ 9; decide, by show 848 ≤ 848; decide⟩) hS (fun q _ h => hFc q h) hFc (fun u t H1 locs ht hvm hw hB hz1 hk1 hS => ?_)
  obtain ⟨a13, k14⟩ := u
  obtain ⟨hP1, hK1, hD1⟩ := hB
  rw [ht] at hP1
  have hK1 := va_K.moved hvm.symm hK1
  obtain ⟨hP, hD⟩ := va_join (wr := [(h, .inr (3, [.ref q1, .ref q4, .ref q7, .ref q9, .null])), (q1, .inr (1, [.ref a2, .int 0])), (a2, .inl (k3, 120, .inl (fun _ => 0))), (q4, .inr (1, [.ref a5, .int 0])), (a5, .inl (k6, 120, .inl (fun _ => 0))), (q7, .inl (k8, 120, .inl (fun _ => 0))), (q9, .inr (1, [.ref a10, .int 0])), (a10, .inl (k11, 240, .inl (fun _ => 0)))]) (w1 := [(q12, .inr (1, [.ref a13, .int 0])), (a13, .inl (k14, 240, .inl (fun _ => 0)))]) hP hD [8] [0, 1, 2, 3, 4, 5, 6, 7] rfl rfl (by decide) (by decide) hk1 hFc hP1 hD1
  have hK := hK.app hK1
  generalize H1 = H at hP hS ⊢
  have hP : va_P (dC, dI) classes [(h, .inr (3, [.ref q1, .ref q4, .ref q7, .ref q9, .null])), (q1, .inr (1, [.ref a2, .int 0])), (a2, .inl (k3, 120, .inl (fun _ => 0))), (q4, .inr (1, [.ref a5, .int 0])), (a5, .inl (k6, 120, .inl (fun _ => 0))), (q7, .inl (k8, 120, .inl (fun _ => 0))), (q9, .inr (1, [.ref a10, .int 0])), (a10, .inl (k11, 240, .inl (fun _ => 0))), (q12, .inr (1, [.ref a13, .int 0])), (a13, .inl (k14, 240, .inl (fun _ => 0)))] H := hP
  have hD : va_D A [(h, .inr (3, [.ref q1, .ref q4, .ref q7, .ref q9, .null])), (q1, .inr (1, [.ref a2, .int 0])), (a2, .inl (k3, 120, .inl (fun _ => 0))), (q4, .inr (1, [.ref a5, .int 0])), (a5, .inl (k6, 120, .inl (fun _ => 0))), (q7, .inl (k8, 120, .inl (fun _ => 0))), (q9, .inr (1, [.ref a10, .int 0])), (a10, .inl (k11, 240, .inl (fun _ => 0))), (q12, .inr (1, [.ref a13, .int 0])), (a13, .inl (k14, 240, .inl (fun _ => 0)))] := hD
  have hK : va_K (dC, dI) classes [(k3, .int), (k6, .int), (k8, .int), (k11, .int), (k14, .int)] s := hK
  refine va_putF (D := (dC, dI)) (ci := 3) (v := .ref q12) (ty := .object "LandBook$Points") (C := "LandBook$Joiner") (T := F_Joiner) (N := 5) hx hb hts tu_Joiner t_Joiner t_Joiner_ok n_Joiner hown hK hP hD hS 0 rfl rfl 4 (by decide) (hts _ tk_122) (fun _ h9 => h9) rfl hin rfl (by decide +kernel) rfl rfl (Nat.le_of_ble_eq_true rfl) d_Joiner_init_63 (fun H locs hP hD hS => ?_)
  have hP : va_P (dC, dI) classes [(h, .inr (3, [.ref q1, .ref q4, .ref q7, .ref q9, .ref q12])), (q1, .inr (1, [.ref a2, .int 0])), (a2, .inl (k3, 120, .inl (fun _ => 0))), (q4, .inr (1, [.ref a5, .int 0])), (a5, .inl (k6, 120, .inl (fun _ => 0))), (q7, .inl (k8, 120, .inl (fun _ => 0))), (q9, .inr (1, [.ref a10, .int 0])), (a10, .inl (k11, 240, .inl (fun _ => 0))), (q12, .inr (1, [.ref a13, .int 0])), (a13, .inl (k14, 240, .inl (fun _ => 0)))] H := hP
  have hD : va_D A [(h, .inr (3, [.ref q1, .ref q4, .ref q7, .ref q9, .ref q12])), (q1, .inr (1, [.ref a2, .int 0])), (a2, .inl (k3, 120, .inl (fun _ => 0))), (q4, .inr (1, [.ref a5, .int 0])), (a5, .inl (k6, 120, .inl (fun _ => 0))), (q7, .inl (k8, 120, .inl (fun _ => 0))), (q9, .inr (1, [.ref a10, .int 0])), (a10, .inl (k11, 240, .inl (fun _ => 0))), (q12, .inr (1, [.ref a13, .int 0])), (a13, .inl (k14, 240, .inl (fun _ => 0)))] := hD
  have hP9 := hP.sub (ws' := [(h, .inr (3, [.ref q1, .ref q4, .ref q7, .ref q9, .ref q12])), (q1, .inr (1, [.ref a2, .int 0])), (a2, .inl (k3, 120, .inl (fun _ => 0))), (q4, .inr (1, [.ref a5, .int 0])), (a5, .inl (k6, 120, .inl (fun _ => 0))), (q7, .inl (k8, 120, .inl (fun _ => 0))), (q9, .inr (1, [.ref a10, .int 0])), (a10, .inl (k11, 240, .inl (fun _ => 0))), (q12, .inr (1, [.ref a13, .int 0])), (a13, .inl (k14, 240, .inl (fun _ => 0)))]) [0, 1, 2, 3, 4, 5, 6, 7, 8, 9] rfl
  have hD9 := hD.sub (ws' := [(h, .inr (3, [.ref q1, .ref q4, .ref q7, .ref q9, .ref q12])), (q1, .inr (1, [.ref a2, .int 0])), (a2, .inl (k3, 120, .inl (fun _ => 0))), (q4, .inr (1, [.ref a5, .int 0])), (a5, .inl (k6, 120, .inl (fun _ => 0))), (q7, .inl (k8, 120, .inl (fun _ => 0))), (q9, .inr (1, [.ref a10, .int 0])), (a10, .inl (k11, 240, .inl (fun _ => 0))), (q12, .inr (1, [.ref a13, .int 0])), (a13, .inl (k14, 240, .inl (fun _ => 0)))]) [0, 1, 2, 3, 4, 5, 6, 7, 8, 9] (by decide) rfl
  have hK9 := hK.sub (tys' := [(k3, .int), (k6, .int), (k8, .int), (k11, .int), (k14, .int)]) [0, 1, 2, 3, 4] rfl
  refine W.widen (k := 9) (n := 848) (by decide) (by decide) ?_
  exact W.vret hx hb hr (fun t ht hW => ⟨⟨(q1, a2, q4, a5, q7, q9, a10, q12, a13, k3, k6, k8, k11, k14), rfl, trivial, by rw [ht]; exact hP9, va_K.moved hW.alike hK9, hD9⟩, hS.F ht⟩) hS.2.2 d_Joiner_init_66
theorem tk_123 : (Jvm.Cond.methodLink "LandBook$Log" (3 : Nat) ({ cls := "java/lang/Object", name := "<init>", desc := "()V" } : Jvm.MethodName)) ∈ tw_G := tw_in (List.mem_of_getElem? (i := 213) (by decide +kernel)) rfl
theorem tk_124 : (Jvm.Cond.fieldLink "LandBook$Log" (11 : Nat) "LandBook$Log" "words" "[I") ∈ tw_G := tw_in (List.mem_of_getElem? (i := 214) (by decide +kernel)) rfl
abbrev y_Log_init : MethodName := ⟨"LandBook$Log", "<init>", "()V"⟩
abbrev w_Log_init : List Cond := Cond.code y_Log_init prog_6_method_1_code 1 none :: tw_G
theorem d_Log_init_0 : decode prog_6_method_1_code 0 = .ok (.aload_n 0, 1) := by decide +kernel
theorem d_Log_init_1 : decode prog_6_method_1_code 1 = .ok (.invokespecial 3, 3) := by decide +kernel
theorem d_Log_init_4 : decode prog_6_method_1_code 4 = .ok (.aload_n 0, 1) := by decide +kernel
theorem d_Log_init_5 : decode prog_6_method_1_code 5 = .ok (.sipush 256, 3) := by decide +kernel
theorem d_Log_init_8 : decode prog_6_method_1_code 8 = .ok (.newarray .int, 2) := by decide +kernel
theorem d_Log_init_10 : decode prog_6_method_1_code 10 = .ok (.putfield 11, 3) := by decide +kernel
theorem d_Log_init_13 : decode prog_6_method_1_code 13 = .ok (.return_, 1) := by decide +kernel
set_option maxHeartbeats 4000000 in
set_option maxRecDepth 100000 in
theorem c_Log_init (l : Launch) (dC : Nat → ClassId) (dI : Nat → Nat → Nat) (h sz : Nat) : Met l y_Log_init w_Log_init ({ frames := 1, cells := 1, slots := 256, locals := 12 }) (tw_P4 (dC, dI) classes [(h, .inr (5, [.null, .int 0, .int 0]))] [] sz [.ref h]) (va_Qv (fun u : Nat × ClassId => True) (fun u => tw_B dC dI (va_A [(h, .inr (5, [.null, .int 0, .int 0]))] sz) [(h, .inr (5, [.ref u.1, .int 0, .int 0])), (u.1, .inl (u.2, 256, .inl (fun _ => 0)))] [(u.2, .int)]) (va_A [(h, .inr (5, [.null, .int 0, .int 0]))] sz)) 1 256 (va_A [(h, .inr (5, [.null, .int 0, .int 0]))] sz) := by
  refine Met.ofW (cc := prog_6_method_1_code) (maxL := 1) (ret := none) (by decide) rfl ?_
  intro p e s m args below meth c s₁ B hml hv
  obtain ⟨rfl, hsz, hP, hK, hD0⟩ := hv
  have hx := B.exec
  have hb := B.bytes
  have hr := B.returns
  have hts : ∀ w ∈ tw_G, w.before _ s = true := fun w h => atoms_spec (ws := w_Log_init) B.pre w (List.mem_cons_of_mem _ h)
  have hown : s.vm.findClass "LandBook$Log" = some m.cls := findClass_of_methodNamed B.named
  have hlocks := B.notSynchronized
  have hin : meth.name = "<init>" := (name_of_methodNamed B.named B.method).1
  subst hsz
  have hD := hD0.self (sz := s.heap.size)
  generalize hAe : va_A [(h, .inr (5, [.null, .int 0, .int 0]))] s.heap.size = A at hD ⊢
  have hA : ∀ q : Nat, s.heap.size ≤ q → A q := fun q h => by rw [← hAe]; exact Or.inr h
  have hS : va_S A s.heap s.heap [] := va_S.rf
  have hP : va_P (dC, dI) classes [(h, .inr (5, [.null, .int 0, .int 0]))] s.heap := hP
  have hl := lv_entry ([.ref h]) (n := 1) (Nat.le_of_ble_eq_true rfl)
  rw [lg_entry_eq]
  generalize (lg_sl ([.ref h]) ++ List.replicate (1 - (lg_sl ([.ref h])).length) Slot.unset).toArray = ls at hl ⊢
  have hl : lv_has ls 1 [(0, .ref h)] := hl
  refine lv_aload_n hx hb d_Log_init_0 rfl (lv_at hl 0 rfl) ?_
  refine W.objInit hx hb hown (hts _ tk_123) (hts _ tk_86) (hts _ tk_87) rfl (by rw [hml]; exact hl.1) rfl d_Log_init_1 (Nat.le_of_ble_eq_true rfl) (Nat.le_of_ble_eq_true rfl) ?_
  refine W.eq (g2 := F0 m 4 ls []) rfl ?_
  refine lv_aload_n hx hb d_Log_init_4 rfl (lv_at hl 0 rfl) ?_
  refine lv_sipush (v := 256) hx hb d_Log_init_5 (by decide) ?_
  refine va_newa (atype := .int) (ty := .int) (N' := 256) (a0 := (256, .inl (fun _ => 0))) hx hb (hts _ tk_88) rfl hK hP hD hS hA (fun _ => rfl) (by decide) (by decide) (by decide) (by show 1 ≤ 1; decide) (by show 256 ≤ 256; decide) d_Log_init_8 (fun q1 k2 H hK hP hD hS => ?_)
  have hK : va_K (dC, dI) classes [(k2, .int)] s := hK
  have hP : va_P (dC, dI) classes [(h, .inr (5, [.null, .int 0, .int 0])), (q1, .inl (k2, 256, .inl (fun _ => 0)))] H := hP
  have hD : va_D A [(h, .inr (5, [.null, .int 0, .int 0])), (q1, .inl (k2, 256, .inl (fun _ => 0)))] := hD
  refine va_put (D := (dC, dI)) (ci := 5) (v := .ref q1) (ty := .array .int) (C := "LandBook$Log") (T := F_Log) (N := 3) hx hb hts tu_Log t_Log t_Log_ok n_Log hown hK hP hD hS 0 rfl rfl 0 (by decide) (hts _ tk_124) (fun _ h9 => h9) rfl (by decide +kernel) rfl rfl (Nat.le_of_ble_eq_true rfl) d_Log_init_10 (fun H locs hP hD hS => ?_)
  have hP : va_P (dC, dI) classes [(h, .inr (5, [.ref q1, .int 0, .int 0])), (q1, .inl (k2, 256, .inl (fun _ => 0)))] H := hP
  have hD : va_D A [(h, .inr (5, [.ref q1, .int 0, .int 0])), (q1, .inl (k2, 256, .inl (fun _ => 0)))] := hD
  have hP9 := hP.sub (ws' := [(h, .inr (5, [.ref q1, .int 0, .int 0])), (q1, .inl (k2, 256, .inl (fun _ => 0)))]) [0, 1] rfl
  have hD9 := hD.sub (ws' := [(h, .inr (5, [.ref q1, .int 0, .int 0])), (q1, .inl (k2, 256, .inl (fun _ => 0)))]) [0, 1] (by decide) rfl
  have hK9 := hK.sub (tys' := [(k2, .int)]) [0] rfl
  refine W.widen (k := 1) (n := 256) (by decide) (by decide) ?_
  exact W.vret hx hb hr (fun t ht hW => ⟨⟨(q1, k2), rfl, trivial, by rw [ht]; exact hP9, va_K.moved hW.alike hK9, hD9⟩, hS.F ht⟩) hS.2.2 d_Log_init_13
theorem tk_125 : (Jvm.Cond.methodLink "LandBook$Register" (3 : Nat) ({ cls := "java/lang/Object", name := "<init>", desc := "()V" } : Jvm.MethodName)) ∈ tw_G := tw_in (List.mem_of_getElem? (i := 165) (by decide +kernel)) rfl
theorem tk_126 : (Jvm.Cond.classLink "LandBook$Register" (9 : Nat) "java/util/ArrayList") ∈ tw_G := tw_in (List.mem_of_getElem? (i := 166) (by decide +kernel)) rfl
theorem tk_127 : (Jvm.Cond.instantiable "java/util/ArrayList" (3 : Nat)) ∈ tw_G := tw_in (List.mem_of_getElem? (i := 167) (by decide +kernel)) rfl
theorem tk_128 : (Jvm.Cond.initialized "java/util/ArrayList") ∈ tw_G := tw_in (List.mem_of_getElem? (i := 67) (by decide +kernel)) rfl
theorem tk_129 : (Jvm.Cond.code ({ cls := "java/util/ArrayList", name := "<init>", desc := "()V" } : Jvm.MethodName) prog_30_method_2_code (1 : Nat) (Option.none : Option Jvm.ClassFile.FieldType)) ∈ tw_G := tw_in (List.mem_of_getElem? (i := 170) (by decide +kernel)) rfl
theorem tk_130 : (Jvm.Cond.methodLink "LandBook$Register" (11 : Nat) ({ cls := "java/util/ArrayList", name := "<init>", desc := "()V" } : Jvm.MethodName)) ∈ tw_G := tw_in (List.mem_of_getElem? (i := 168) (by decide +kernel)) rfl
theorem tk_131 : (Jvm.Cond.instanceMethod ({ cls := "java/util/ArrayList", name := "<init>", desc := "()V" } : Jvm.MethodName)) ∈ tw_G := tw_in (List.mem_of_getElem? (i := 169) (by decide +kernel)) rfl
theorem tk_132 : (Jvm.Cond.fieldLink "LandBook$Register" (12 : Nat) "LandBook$Register" "deeds" "Ljava/util/ArrayList;") ∈ tw_G := tw_in (List.mem_of_getElem? (i := 192) (by decide +kernel)) rfl
theorem tk_133 : (Jvm.Cond.fieldLink "LandBook$Register" (18 : Nat) "LandBook$Register" "lots" "Ljava/util/ArrayList;") ∈ tw_G := tw_in (List.mem_of_getElem? (i := 193) (by decide +kernel)) rfl
theorem tk_134 : (Jvm.Cond.fieldLink "LandBook$Register" (21 : Nat) "LandBook$Register" "easements" "Ljava/util/ArrayList;") ∈ tw_G := tw_in (List.mem_of_getElem? (i := 194) (by decide +kernel)) rfl
theorem tk_135 : (Jvm.Cond.fieldLink "LandBook$Register" (24 : Nat) "LandBook$Register" "shares" "[I") ∈ tw_G := tw_in (List.mem_of_getElem? (i := 195) (by decide +kernel)) rfl
theorem tk_136 : (Jvm.Cond.fieldLink "LandBook$Register" (28 : Nat) "LandBook$Register" "otherShares" "[I") ∈ tw_G := tw_in (List.mem_of_getElem? (i := 196) (by decide +kernel)) rfl
abbrev y_Register_init : MethodName := ⟨"LandBook$Register", "<init>", "()V"⟩
abbrev w_Register_init : List Cond := Cond.code y_Register_init prog_10_method_1_code 1 none :: tw_G
theorem d_Register_init_0 : decode prog_10_method_1_code 0 = .ok (.aload_n 0, 1) := by decide +kernel
theorem d_Register_init_1 : decode prog_10_method_1_code 1 = .ok (.invokespecial 3, 3) := by decide +kernel
theorem d_Register_init_4 : decode prog_10_method_1_code 4 = .ok (.aload_n 0, 1) := by decide +kernel
theorem d_Register_init_5 : decode prog_10_method_1_code 5 = .ok (.new 9, 3) := by decide +kernel
theorem d_Register_init_8 : decode prog_10_method_1_code 8 = .ok (.dup, 1) := by decide +kernel
theorem d_Register_init_9 : decode prog_10_method_1_code 9 = .ok (.invokespecial 11, 3) := by decide +kernel
theorem d_Register_init_12 : decode prog_10_method_1_code 12 = .ok (.putfield 12, 3) := by decide +kernel
theorem d_Register_init_15 : decode prog_10_method_1_code 15 = .ok (.aload_n 0, 1) := by decide +kernel
theorem d_Register_init_16 : decode prog_10_method_1_code 16 = .ok (.new 9, 3) := by decide +kernel
theorem d_Register_init_19 : decode prog_10_method_1_code 19 = .ok (.dup, 1) := by decide +kernel
theorem d_Register_init_20 : decode prog_10_method_1_code 20 = .ok (.invokespecial 11, 3) := by decide +kernel
theorem d_Register_init_23 : decode prog_10_method_1_code 23 = .ok (.putfield 18, 3) := by decide +kernel
theorem d_Register_init_26 : decode prog_10_method_1_code 26 = .ok (.aload_n 0, 1) := by decide +kernel
theorem d_Register_init_27 : decode prog_10_method_1_code 27 = .ok (.new 9, 3) := by decide +kernel
theorem d_Register_init_30 : decode prog_10_method_1_code 30 = .ok (.dup, 1) := by decide +kernel
theorem d_Register_init_31 : decode prog_10_method_1_code 31 = .ok (.invokespecial 11, 3) := by decide +kernel
theorem d_Register_init_34 : decode prog_10_method_1_code 34 = .ok (.putfield 21, 3) := by decide +kernel
theorem d_Register_init_37 : decode prog_10_method_1_code 37 = .ok (.aload_n 0, 1) := by decide +kernel
theorem d_Register_init_38 : decode prog_10_method_1_code 38 = .ok (.bipush 100, 2) := by decide +kernel
theorem d_Register_init_40 : decode prog_10_method_1_code 40 = .ok (.newarray .int, 2) := by decide +kernel
theorem d_Register_init_42 : decode prog_10_method_1_code 42 = .ok (.putfield 24, 3) := by decide +kernel
theorem d_Register_init_45 : decode prog_10_method_1_code 45 = .ok (.aload_n 0, 1) := by decide +kernel
theorem d_Register_init_46 : decode prog_10_method_1_code 46 = .ok (.bipush 100, 2) := by decide +kernel
theorem d_Register_init_48 : decode prog_10_method_1_code 48 = .ok (.newarray .int, 2) := by decide +kernel
theorem d_Register_init_50 : decode prog_10_method_1_code 50 = .ok (.putfield 28, 3) := by decide +kernel
theorem d_Register_init_53 : decode prog_10_method_1_code 53 = .ok (.return_, 1) := by decide +kernel
set_option maxHeartbeats 4000000 in
set_option maxRecDepth 100000 in
theorem c_Register_init (l : Launch) (dC : Nat → ClassId) (dI : Nat → Nat → Nat) (h sz e0 : Nat) : Met l y_Register_init w_Register_init ({ frames := 4, cells := 5, slots := 209, locals := 72 }) (tw_P4Z (dC, dI) classes [(h, .inr (4, [.null, .null, .null, .null, .null]))] [] sz e0 [.ref h]) (va_Qv (fun u : Nat × Nat × Nat × Nat × Nat × ClassId × ClassId => True) (fun u => tw_B dC dI (va_A [(h, .inr (4, [.null, .null, .null, .null, .null]))] sz) [(h, .inr (4, [.ref u.1, .ref u.2.1, .ref u.2.2.1, .ref u.2.2.2.1, .ref u.2.2.2.2.1])), (u.1, .inr (6, [.ref e0, .int 0, .int 0])), (u.2.1, .inr (6, [.ref e0, .int 0, .int 0])), (u.2.2.1, .inr (6, [.ref e0, .int 0, .int 0])), (u.2.2.2.1, .inl (u.2.2.2.2.2.1, 100, .inl (fun _ => 0))), (u.2.2.2.2.1, .inl (u.2.2.2.2.2.2, 100, .inl (fun _ => 0)))] [(u.2.2.2.2.2.1, .int), (u.2.2.2.2.2.2, .int)]) (va_A [(h, .inr (4, [.null, .null, .null, .null, .null]))] sz)) 5 209 (va_A [(h, .inr (4, [.null, .null, .null, .null, .null]))] sz) := by
  refine Met.ofW (cc := prog_10_method_1_code) (maxL := 1) (ret := none) (by decide) rfl ?_
  intro p e s m args below meth c s₁ B hml hv
  obtain ⟨rfl, hsz, hP, hK, hD0, hZ⟩ := hv
  have hx := B.exec
  have hb := B.bytes
  have hr := B.returns
  have hts : ∀ w ∈ tw_G, w.before _ s = true := fun w h => atoms_spec (ws := w_Register_init) B.pre w (List.mem_cons_of_mem _ h)
  have hown : s.vm.findClass "LandBook$Register" = some m.cls := findClass_of_methodNamed B.named
  have hlocks := B.notSynchronized
  have hin : meth.name = "<init>" := (name_of_methodNamed B.named B.method).1
  subst hsz
  have hD := hD0.self (sz := s.heap.size)
  generalize hAe : va_A [(h, .inr (4, [.null, .null, .null, .null, .null]))] s.heap.size = A at hD hZ ⊢
  have hA : ∀ q : Nat, s.heap.size ≤ q → A q := fun q h => by rw [← hAe]; exact Or.inr h
  have hS : va_S A s.heap s.heap [] := va_S.rf
  have hP : va_P (dC, dI) classes [(h, .inr (4, [.null, .null, .null, .null, .null]))] s.heap := hP
  have hl := lv_entry ([.ref h]) (n := 1) (Nat.le_of_ble_eq_true rfl)
  rw [lg_entry_eq]
  generalize (lg_sl ([.ref h]) ++ List.replicate (1 - (lg_sl ([.ref h])).length) Slot.unset).toArray = ls at hl ⊢
  have hl : lv_has ls 1 [(0, .ref h)] := hl
  refine lv_aload_n hx hb d_Register_init_0 rfl (lv_at hl 0 rfl) ?_
  refine W.objInit hx hb hown (hts _ tk_125) (hts _ tk_86) (hts _ tk_87) rfl (by rw [hml]; exact hl.1) rfl d_Register_init_1 (Nat.le_of_ble_eq_true rfl) (Nat.le_of_ble_eq_true rfl) ?_
  refine W.eq (g2 := F0 m 4 ls []) rfl ?_
  refine lv_aload_n hx hb d_Register_init_4 rfl (lv_at hl 0 rfl) ?_
  refine va_new (ci := 6) (fs := [.null, .int 0, .int 0]) (C := "java/util/ArrayList") (T := F_ArrayList) (N := 3) hx hb hts tu_ArrayList t_ArrayList t_ArrayList_ok hown (hts _ tk_126) (hts _ tk_127) (hts _ tk_128) hK hP hD hS hA rfl (fun j hj => by rcases (show j = 0 ∨ j = 1 ∨ j = 2 by omega) with rfl | rfl | rfl <;> rfl) (by show 1 ≤ 5; decide) (by show 3 ≤ 209; decide) d_Register_init_5 (fun q1 H hP hD hS => ?_)
  have hP : va_P (dC, dI) classes [(h, .inr (4, [.null, .null, .null, .null, .null])), (q1, .inr (6, [.null, .int 0, .int 0]))] H := hP
  have hD : va_D A [(h, .inr (4, [.null, .null, .null, .null, .null])), (q1, .inr (6, [.null, .int 0, .int 0]))] := hD
  refine lv_dup hx hb d_Register_init_8 rfl ?_
  have hPc := hP.sub (ws' := [(q1, .inr (6, [.null, .int 0, .int 0]))]) [1] rfl
  have hDc := hD.sub (ws' := [(q1, .inr (6, [.null, .int 0, .int 0]))]) [1] (by decide) rfl
  have hKc := hK.sub (tys' := []) [] rfl
  have hFc := va_free (wc := [(q1, .inr (6, [.null, .int 0, .int 0]))]) hD hS hA [1] rfl
  refine va_callv (va_runI (As := []) (rest := [.ref q1, .ref h]) ⟨hx, hb, hml, hown, hts⟩ (c_AL_init l dC dI q1 H.size e0 (.int 0)) (cwI 0 hts (tw_gc tk_129) rfl rfl rfl (hts _ tk_128) (hts _ tk_130) (hts _ tk_131) rfl (by decide +kernel) ⟨Nat.le_of_ble_eq_true rfl, Nat.le_of_ble_eq_true rfl⟩) (tw_s4Z hPc hKc hDc ((hZ.kept hS.2.1).narrow hFc)) rfl rfl hl.1 rfl (lv_room (Nat.le_of_ble_eq_true rfl)) d_Register_init_9 ⟨by show 1 ≤ 5; decide, by show 3 ≤ 209; decide⟩) hS (fun q _ h => hFc q h) hFc (fun u t H1 locs ht hvm hw hB hz1 hk1 hS => ?_)
  obtain ⟨hP1, hK1, hD1⟩ := hB
  rw [ht] at hP1
  have hK1 := va_K.moved hvm.symm hK1
  obtain ⟨hP, hD⟩ := va_join (wr := [(h, .inr (4, [.null, .null, .null, .null, .null]))]) (w1 := [(q1, .inr (6, [.ref e0, .int 0, .int 0]))]) hP hD [1] [0] rfl rfl (by decide) (by decide) hk1 hFc hP1 hD1
  generalize H1 = H at hP hS ⊢
  have hP : va_P (dC, dI) classes [(h, .inr (4, [.null, .null, .null, .null, .null])), (q1, .inr (6, [.ref e0, .int 0, .int 0]))] H := hP
  have hD : va_D A [(h, .inr (4, [.null, .null, .null, .null, .null])), (q1, .inr (6, [.ref e0, .int 0, .int 0]))] := hD
  refine va_putF (D := (dC, dI)) (ci := 4) (v := .ref q1) (ty := .object "java/util/ArrayList") (C := "LandBook$Register") (T := F_Register) (N := 5) hx hb hts tu_Register t_Register t_Register_ok n_Register hown hK hP hD hS 0 rfl rfl 0 (by decide) (hts _ tk_132) (fun _ h9 => h9) rfl hin rfl (by decide +kernel) rfl rfl (Nat.le_of_ble_eq_true rfl) d_Register_init_12 (fun H locs hP hD hS => ?_)
  have hP : va_P (dC, dI) classes [(h, .inr (4, [.ref q1, .null, .null, .null, .null])), (q1, .inr (6, [.ref e0, .int 0, .int 0]))] H := hP
  have hD : va_D A [(h, .inr (4, [.ref q1, .null, .null, .null, .null])), (q1, .inr (6, [.ref e0, .int 0, .int 0]))] := hD
  refine lv_aload_n hx hb d_Register_init_15 rfl (lv_at hl 0 rfl) ?_
  refine va_new (ci := 6) (fs := [.null, .int 0, .int 0]) (C := "java/util/ArrayList") (T := F_ArrayList) (N := 3) hx hb hts tu_ArrayList t_ArrayList t_ArrayList_ok hown (hts _ tk_126) (hts _ tk_127) (hts _ tk_128) hK hP hD hS hA rfl (fun j hj => by rcases (show j = 0 ∨ j = 1 ∨ j = 2 by omega) with rfl | rfl | rfl <;> rfl) (by show 2 ≤ 5; decide) (by show 6 ≤ 209; decide) d_Register_init_16 (fun q2 H hP hD hS => ?_)
  have hP : va_P (dC, dI) classes [(h, .inr (4, [.ref q1, .null, .null, .null, .null])), (q1, .inr (6, [.ref e0, .int 0, .int 0])), (q2, .inr (6, [.null, .int 0, .int 0]))] H := hP
  have hD : va_D A [(h, .inr (4, [.ref q1, .null, .null, .null, .null])), (q1, .inr (6, [.ref e0, .int 0, .int 0])), (q2, .inr (6, [.null, .int 0, .int 0]))] := hD
  refine lv_dup hx hb d_Register_init_19 rfl ?_
  have hPc := hP.sub (ws' := [(q2, .inr (6, [.null, .int 0, .int 0]))]) [2] rfl
  have hDc := hD.sub (ws' := [(q2, .inr (6, [.null, .int 0, .int 0]))]) [2] (by decide) rfl
  have hKc := hK.sub (tys' := []) [] rfl
  have hFc := va_free (wc := [(q2, .inr (6, [.null, .int 0, .int 0]))]) hD hS hA [2] rfl
  refine va_callv (va_runI (As := []) (rest := [.ref q2, .ref h]) ⟨hx, hb, hml, hown, hts⟩ (c_AL_init l dC dI q2 H.size e0 (.int 0)) (cwI 0 hts (tw_gc tk_129) rfl rfl rfl (hts _ tk_128) (hts _ tk_130) (hts _ tk_131) rfl (by decide +kernel) ⟨Nat.le_of_ble_eq_true rfl, Nat.le_of_ble_eq_true rfl⟩) (tw_s4Z hPc hKc hDc ((hZ.kept hS.2.1).narrow hFc)) rfl rfl hl.1 rfl (lv_room (Nat.le_of_ble_eq_true rfl)) d_Register_init_20 ⟨by show 2 ≤ 5; decide, by show 6 ≤ 209; decide⟩) hS (fun q _ h => hFc q h) hFc (fun u t H1 locs ht hvm hw hB hz1 hk1 hS => ?_)
  obtain ⟨hP1, hK1, hD1⟩ := hB
  rw [ht] at hP1
  have hK1 := va_K.moved hvm.symm hK1
  obtain ⟨hP, hD⟩ := va_join (wr := [(h, .inr (4, [.ref q1, .null, .null, .null, .null])), (q1, .inr (6, [.ref e0, .int 0, .int 0]))]) (w1 := [(q2, .inr (6, [.ref e0, .int 0, .int 0]))]) hP hD [2] [0, 1] rfl rfl (by decide) (by decide) hk1 hFc hP1 hD1
  generalize H1 = H at hP hS ⊢
  have hP : va_P (dC, dI) classes [(h, .inr (4, [.ref q1, .null, .null, .null, .null])), (q1, .inr (6, [.ref e0, .int 0, .int 0])), (q2, .inr (6, [.ref e0, .int 0, .int 0]))] H := hP
  have hD : va_D A [(h, .inr (4, [.ref q1, .null, .null, .null, .null])), (q1, .inr (6, [.ref e0, .int 0, .int 0])), (q2, .inr (6, [.ref e0, .int 0, .int 0]))] := hD
  refine va_putF (D := (dC, dI)) (ci := 4) (v := .ref q2) (ty := .object "java/util/ArrayList") (C := "LandBook$Register") (T := F_Register) (N := 5) hx hb hts tu_Register t_Register t_Register_ok n_Register hown hK hP hD hS 0 rfl rfl 1 (by decide) (hts _ tk_133) (fun _ h9 => h9) rfl hin rfl (by decide +kernel) rfl rfl (Nat.le_of_ble_eq_true rfl) d_Register_init_23 (fun H locs hP hD hS => ?_)
  have hP : va_P (dC, dI) classes [(h, .inr (4, [.ref q1, .ref q2, .null, .null, .null])), (q1, .inr (6, [.ref e0, .int 0, .int 0])), (q2, .inr (6, [.ref e0, .int 0, .int 0]))] H := hP
  have hD : va_D A [(h, .inr (4, [.ref q1, .ref q2, .null, .null, .null])), (q1, .inr (6, [.ref e0, .int 0, .int 0])), (q2, .inr (6, [.ref e0, .int 0, .int 0]))] := hD
  refine lv_aload_n hx hb d_Register_init_26 rfl (lv_at hl 0 rfl) ?_
  refine va_new (ci := 6) (fs := [.null, .int 0, .int 0]) (C := "java/util/ArrayList") (T := F_ArrayList) (N := 3) hx hb hts tu_ArrayList t_ArrayList t_ArrayList_ok hown (hts _ tk_126) (hts _ tk_127) (hts _ tk_128) hK hP hD hS hA rfl (fun j hj => by rcases (show j = 0 ∨ j = 1 ∨ j = 2 by omega) with rfl | rfl | rfl <;> rfl) (by show 3 ≤ 5; decide) (by show 9 ≤ 209; decide) d_Register_init_27 (fun q3 H hP hD hS => ?_)
  have hP : va_P (dC, dI) classes [(h, .inr (4, [.ref q1, .ref q2, .null, .null, .null])), (q1, .inr (6, [.ref e0, .int 0, .int 0])), (q2, .inr (6, [.ref e0, .int 0, .int 0])), (q3, .inr (6, [.null, .int 0, .int 0]))] H := hP
  have hD : va_D A [(h, .inr (4, [.ref q1, .ref q2, .null, .null, .null])), (q1, .inr (6, [.ref e0, .int 0, .int 0])), (q2, .inr (6, [.ref e0, .int 0, .int 0])), (q3, .inr (6, [.null, .int 0, .int 0]))] := hD
  refine lv_dup hx hb d_Register_init_30 rfl ?_
  have hPc := hP.sub (ws' := [(q3, .inr (6, [.null, .int 0, .int 0]))]) [3] rfl
  have hDc := hD.sub (ws' := [(q3, .inr (6, [.null, .int 0, .int 0]))]) [3] (by decide) rfl
  have hKc := hK.sub (tys' := []) [] rfl
  have hFc := va_free (wc := [(q3, .inr (6, [.null, .int 0, .int 0]))]) hD hS hA [3] rfl
  refine va_callv (va_runI (As := []) (rest := [.ref q3, .ref h]) ⟨hx, hb, hml, hown, hts⟩ (c_AL_init l dC dI q3 H.size e0 (.int 0)) (cwI 0 hts (tw_gc tk_129) rfl rfl rfl (hts _ tk_128) (hts _ tk_130) (hts _ tk_131) rfl (by decide +kernel) ⟨Nat.le_of_ble_eq_true rfl, Nat.le_of_ble_eq_true rfl⟩) (tw_s4Z hPc hKc hDc ((hZ.kept hS.2.1).narrow hFc)) rfl rfl hl.1 rfl (lv_room (Nat.le_of_ble_eq_true rfl)) d_Register_init_31 ⟨by show 3 ≤ 5; decide, by show 9 ≤ 209; decide⟩) hS (fun q _ h => hFc q h) hFc (fun u t H1 locs ht hvm hw hB hz1 hk1 hS => ?_)
  obtain ⟨hP1, hK1, hD1⟩ := hB
  rw [ht] at hP1
  have hK1 := va_K.moved hvm.symm hK1
  obtain ⟨hP, hD⟩ := va_join (wr := [(h, .inr (4, [.ref q1, .ref q2, .null, .null, .null])), (q1, .inr (6, [.ref e0, .int 0, .int 0])), (q2, .inr (6, [.ref e0, .int 0, .int 0]))]) (w1 := [(q3, .inr (6, [.ref e0, .int 0, .int 0]))]) hP hD [3] [0, 1, 2] rfl rfl (by decide) (by decide) hk1 hFc hP1 hD1
  generalize H1 = H at hP hS ⊢
  have hP : va_P (dC, dI) classes [(h, .inr (4, [.ref q1, .ref q2, .null, .null, .null])), (q1, .inr (6, [.ref e0, .int 0, .int 0])), (q2, .inr (6, [.ref e0, .int 0, .int 0])), (q3, .inr (6, [.ref e0, .int 0, .int 0]))] H := hP
  have hD : va_D A [(h, .inr (4, [.ref q1, .ref q2, .null, .null, .null])), (q1, .inr (6, [.ref e0, .int 0, .int 0])), (q2, .inr (6, [.ref e0, .int 0, .int 0])), (q3, .inr (6, [.ref e0, .int 0, .int 0]))] := hD
  refine va_putF (D := (dC, dI)) (ci := 4) (v := .ref q3) (ty := .object "java/util/ArrayList") (C := "LandBook$Register") (T := F_Register) (N := 5) hx hb hts tu_Register t_Register t_Register_ok n_Register hown hK hP hD hS 0 rfl rfl 2 (by decide) (hts _ tk_134) (fun _ h9 => h9) rfl hin rfl (by decide +kernel) rfl rfl (Nat.le_of_ble_eq_true rfl) d_Register_init_34 (fun H locs hP hD hS => ?_)
  have hP : va_P (dC, dI) classes [(h, .inr (4, [.ref q1, .ref q2, .ref q3, .null, .null])), (q1, .inr (6, [.ref e0, .int 0, .int 0])), (q2, .inr (6, [.ref e0, .int 0, .int 0])), (q3, .inr (6, [.ref e0, .int 0, .int 0]))] H := hP
  have hD : va_D A [(h, .inr (4, [.ref q1, .ref q2, .ref q3, .null, .null])), (q1, .inr (6, [.ref e0, .int 0, .int 0])), (q2, .inr (6, [.ref e0, .int 0, .int 0])), (q3, .inr (6, [.ref e0, .int 0, .int 0]))] := hD
  refine lv_aload_n hx hb d_Register_init_37 rfl (lv_at hl 0 rfl) ?_
  refine lv_bipush (v := 100) hx hb d_Register_init_38 (by decide) ?_
  refine va_newa (atype := .int) (ty := .int) (N' := 100) (a0 := (100, .inl (fun _ => 0))) hx hb (hts _ tk_88) rfl hK hP hD hS hA (fun _ => rfl) (by decide) (by decide) (by decide) (by show 4 ≤ 5; decide) (by show 109 ≤ 209; decide) d_Register_init_40 (fun q4 k5 H hK hP hD hS => ?_)
  have hK : va_K (dC, dI) classes [(k5, .int)] s := hK
  have hP : va_P (dC, dI) classes [(h, .inr (4, [.ref q1, .ref q2, .ref q3, .null, .null])), (q1, .inr (6, [.ref e0, .int 0, .int 0])), (q2, .inr (6, [.ref e0, .int 0, .int 0])), (q3, .inr (6, [.ref e0, .int 0, .int 0])), (q4, .inl (k5, 100, .inl (fun _ => 0)))] H := hP
  have hD : va_D A [(h, .inr (4, [.ref q1, .ref q2, .ref q3, .null, .null])), (q1, .inr (6, [.ref e0, .int 0, .int 0])), (q2, .inr (6, [.ref e0, .int 0, .int 0])), (q3, .inr (6, [.ref e0, .int 0, .int 0])), (q4, .inl (k5, 100, .inl (fun _ => 0)))] := hD
  refine va_putF (D := (dC, dI)) (ci := 4) (v := .ref q4) (ty := .array .int) (C := "LandBook$Register") (T := F_Register) (N := 5) hx hb hts tu_Register t_Register t_Register_ok n_Register hown hK hP hD hS 0 rfl rfl 3 (by decide) (hts _ tk_135) (fun _ h9 => h9) rfl hin rfl (by decide +kernel) rfl rfl (Nat.le_of_ble_eq_true rfl) d_Register_init_42 (fun H locs hP hD hS => ?_)
  have hP : va_P (dC, dI) classes [(h, .inr (4, [.ref q1, .ref q2, .ref q3, .ref q4, .null])), (q1, .inr (6, [.ref e0, .int 0, .int 0])), (q2, .inr (6, [.ref e0, .int 0, .int 0])), (q3, .inr (6, [.ref e0, .int 0, .int 0])), (q4, .inl (k5, 100, .inl (fun _ => 0)))] H := hP
  have hD : va_D A [(h, .inr (4, [.ref q1, .ref q2, .ref q3, .ref q4, .null])), (q1, .inr (6, [.ref e0, .int 0, .int 0])), (q2, .inr (6, [.ref e0, .int 0, .int 0])), (q3, .inr (6, [.ref e0, .int 0, .int 0])), (q4, .inl (k5, 100, .inl (fun _ => 0)))] := hD
  refine lv_aload_n hx hb d_Register_init_45 rfl (lv_at hl 0 rfl) ?_
  refine lv_bipush (v := 100) hx hb d_Register_init_46 (by decide) ?_
  refine va_newa (atype := .int) (ty := .int) (N' := 100) (a0 := (100, .inl (fun _ => 0))) hx hb (hts _ tk_88) rfl hK hP hD hS hA (fun _ => rfl) (by decide) (by decide) (by decide) (by show 5 ≤ 5; decide) (by show 209 ≤ 209; decide) d_Register_init_48 (fun q6 k7 H hK hP hD hS => ?_)
  have hK : va_K (dC, dI) classes [(k5, .int), (k7, .int)] s := hK
  have hP : va_P (dC, dI) classes [(h, .inr (4, [.ref q1, .ref q2, .ref q3, .ref q4, .null])), (q1, .inr (6, [.ref e0, .int 0, .int 0])), (q2, .inr (6, [.ref e0, .int 0, .int 0])), (q3, .inr (6, [.ref e0, .int 0, .int 0])), (q4, .inl (k5, 100, .inl (fun _ => 0))), (q6, .inl (k7, 100, .inl (fun _ => 0)))] H := hP
  have hD : va_D A [(h, .inr (4, [.ref q1, .ref q2, .ref q3, .ref q4, .null])), (q1, .inr (6, [.ref e0, .int 0, .int 0])), (q2, .inr (6, [.ref e0, .int 0, .int 0])), (q3, .inr (6, [.ref e0, .int 0, .int 0])), (q4, .inl (k5, 100, .inl (fun _ => 0))), (q6, .inl (k7, 100, .inl (fun _ => 0)))] := hD
  refine va_putF (D := (dC, dI)) (ci := 4) (v := .ref q6) (ty := .array .int) (C := "LandBook$Register") (T := F_Register) (N := 5) hx hb hts tu_Register t_Register t_Register_ok n_Register hown hK hP hD hS 0 rfl rfl 4 (by decide) (hts _ tk_136) (fun _ h9 => h9) rfl hin rfl (by decide +kernel) rfl rfl (Nat.le_of_ble_eq_true rfl) d_Register_init_50 (fun H locs hP hD hS => ?_)
  have hP : va_P (dC, dI) classes [(h, .inr (4, [.ref q1, .ref q2, .ref q3, .ref q4, .ref q6])), (q1, .inr (6, [.ref e0, .int 0, .int 0])), (q2, .inr (6, [.ref e0, .int 0, .int 0])), (q3, .inr (6, [.ref e0, .int 0, .int 0])), (q4, .inl (k5, 100, .inl (fun _ => 0))), (q6, .inl (k7, 100, .inl (fun _ => 0)))] H := hP
  have hD : va_D A [(h, .inr (4, [.ref q1, .ref q2, .ref q3, .ref q4, .ref q6])), (q1, .inr (6, [.ref e0, .int 0, .int 0])), (q2, .inr (6, [.ref e0, .int 0, .int 0])), (q3, .inr (6, [.ref e0, .int 0, .int 0])), (q4, .inl (k5, 100, .inl (fun _ => 0))), (q6, .inl (k7, 100, .inl (fun _ => 0)))] := hD
  have hP9 := hP.sub (ws' := [(h, .inr (4, [.ref q1, .ref q2, .ref q3, .ref q4, .ref q6])), (q1, .inr (6, [.ref e0, .int 0, .int 0])), (q2, .inr (6, [.ref e0, .int 0, .int 0])), (q3, .inr (6, [.ref e0, .int 0, .int 0])), (q4, .inl (k5, 100, .inl (fun _ => 0))), (q6, .inl (k7, 100, .inl (fun _ => 0)))]) [0, 1, 2, 3, 4, 5] rfl
  have hD9 := hD.sub (ws' := [(h, .inr (4, [.ref q1, .ref q2, .ref q3, .ref q4, .ref q6])), (q1, .inr (6, [.ref e0, .int 0, .int 0])), (q2, .inr (6, [.ref e0, .int 0, .int 0])), (q3, .inr (6, [.ref e0, .int 0, .int 0])), (q4, .inl (k5, 100, .inl (fun _ => 0))), (q6, .inl (k7, 100, .inl (fun _ => 0)))]) [0, 1, 2, 3, 4, 5] (by decide) rfl
  have hK9 := hK.sub (tys' := [(k5, .int), (k7, .int)]) [0, 1] rfl
  refine W.widen (k := 5) (n := 209) (by decide) (by decide) ?_
  exact W.vret hx hb hr (fun t ht hW => ⟨⟨(q1, q2, q3, q4, q6, k5, k7), rfl, trivial, by rw [ht]; exact hP9, va_K.moved hW.alike hK9, hD9⟩, hS.F ht⟩) hS.2.2 d_Register_init_53
