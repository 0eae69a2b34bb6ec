theorem tk_85 : (Jvm.Cond.methodLink "LandBook$Points" (1 : Nat) ({ cls := "java/lang/Object", name := "<init>", desc := "()V" } : Jvm.MethodName)) ∈ tw_G := tw_in (List.mem_of_getElem? (i := 102) (by decide +kernel)) rfl
theorem tk_86 : (Jvm.Cond.instanceMethod ({ cls := "java/lang/Object", name := "<init>", desc := "()V" } : Jvm.MethodName)) ∈ tw_G := tw_in (List.mem_of_getElem? (i := 95) (by decide +kernel)) rfl
theorem tk_87 : (Jvm.Cond.code ({ cls := "java/lang/Object", name := "<init>", desc := "()V" } : Jvm.MethodName) object_method_1_code (1 : Nat) (Option.none : Option Jvm.ClassFile.FieldType)) ∈ tw_G := tw_in (List.mem_of_getElem? (i := 96) (by decide +kernel)) rfl
theorem tk_88 : (Jvm.Cond.arrayClass Jvm.ClassFile.FieldType.int) ∈ tw_G := tw_in (List.mem_of_getElem? (i := 114) (by decide +kernel)) rfl
theorem tk_89 : (Jvm.Cond.fieldLink "LandBook$Points" (7 : Nat) "LandBook$Points" "items" "[I") ∈ tw_G := tw_in (List.mem_of_getElem? (i := 103) (by decide +kernel)) rfl
abbrev y_Points_init : MethodName := ⟨"LandBook$Points", "<init>", "(I)V"⟩
abbrev w_Points_init : List Cond := Cond.code y_Points_init prog_9_method_1_code 2 none :: tw_G
theorem d_Points_init_0 : decode prog_9_method_1_code 0 = .ok (.aload_n 0, 1) := by decide +kernel
theorem d_Points_init_1 : decode prog_9_method_1_code 1 = .ok (.invokespecial 1, 3) := by decide +kernel
theorem d_Points_init_4 : decode prog_9_method_1_code 4 = .ok (.aload_n 0, 1) := by decide +kernel
theorem d_Points_init_5 : decode prog_9_method_1_code 5 = .ok (.iload_n 1, 1) := by decide +kernel
theorem d_Points_init_6 : decode prog_9_method_1_code 6 = .ok (.newarray .int, 2) := by decide +kernel
theorem d_Points_init_8 : decode prog_9_method_1_code 8 = .ok (.putfield 7, 3) := by decide +kernel
theorem d_Points_init_11 : decode prog_9_method_1_code 11 = .ok (.return_, 1) := by decide +kernel
set_option maxHeartbeats 4000000 in
set_option maxRecDepth 100000 in
theorem c_Points_init (l : Launch) (dC : Nat → ClassId) (dI : Nat → Nat → Nat) (h sz : Nat) (n : Int32) (N : Nat) (hn : ¬ n < 0) (hN : n.toNatClampNeg = N) (hB : N * 4 ≤ 536870912) : Met l y_Points_init w_Points_init ({ frames := 1, cells := 1, slots := N, locals := 12 }) (tw_P4 (dC, dI) classes [(h, .inr (1, [.null, .int 0]))] [] sz [.ref h, .int n]) (va_Qv (fun u : Nat × ClassId => True) (fun u => tw_B dC dI (va_A [(h, .inr (1, [.null, .int 0]))] sz) [(h, .inr (1, [.ref u.1, .int 0])), (u.1, .inl (u.2, N, .inl (fun _ => 0)))] [(u.2, .int)]) (va_A [(h, .inr (1, [.null, .int 0]))] sz)) 1 N (va_A [(h, .inr (1, [.null, .int 0]))] sz) := by
  refine Met.ofW (cc := prog_9_method_1_code) (maxL := 2) (ret := none) (by decide) rfl ?_
  intro p e s m args below meth c s₁ B hml hv
  obtain ⟨rfl, hsz, hP, hK, hD0⟩ := hv
  have hx := B.exec
  have hb := B.bytes
  have hr := B.returns
  have hts : ∀ w ∈ tw_G, w.before _ s = true := fun w h => atoms_spec (ws := w_Points_init) B.pre w (List.mem_cons_of_mem _ h)
  have hown : s.vm.findClass "LandBook$Points" = some m.cls := findClass_of_methodNamed B.named
  have hlocks := B.notSynchronized
  have hin : meth.name = "<init>" := (name_of_methodNamed B.named B.method).1
  subst hsz
  have hD := hD0.self (sz := s.heap.size)
  generalize hAe : va_A [(h, .inr (1, [.null, .int 0]))] s.heap.size = A at hD ⊢
  have hA : ∀ q : Nat, s.heap.size ≤ q → A q := fun q h => by rw [← hAe]; exact Or.inr h
  have hS : va_S A s.heap s.heap [] := va_S.rf
  have hP : va_P (dC, dI) classes [(h, .inr (1, [.null, .int 0]))] s.heap := hP
  have hl := lv_entry ([.ref h, .int n]) (n := 2) (Nat.le_of_ble_eq_true rfl)
  rw [lg_entry_eq]
  generalize (lg_sl ([.ref h, .int n]) ++ List.replicate (2 - (lg_sl ([.ref h, .int n])).length) Slot.unset).toArray = ls at hl ⊢
  have hl : lv_has ls 2 [(0, .ref h), (1, .int n)] := hl
  refine lv_aload_n hx hb d_Points_init_0 rfl (lv_at hl 0 rfl) ?_
  refine W.objInit hx hb hown (hts _ tk_85) (hts _ tk_86) (hts _ tk_87) rfl (by rw [hml]; exact hl.1) rfl d_Points_init_1 (Nat.le_of_ble_eq_true rfl) (Nat.le_of_ble_eq_true rfl) ?_
  refine W.eq (g2 := F0 m 4 ls []) rfl ?_
  refine lv_aload_n hx hb d_Points_init_4 rfl (lv_at hl 0 rfl) ?_
  refine lv_iload_n hx hb d_Points_init_5 rfl (lv_at hl 1 rfl) ?_
  refine va_newa (atype := .int) (ty := .int) (N' := N) (a0 := (N, .inl (fun _ => 0))) hx hb (hts _ tk_88) rfl hK hP hD hS hA (fun _ => rfl) hn hN hB (by show 1 ≤ 1; decide) (by show 0 + N ≤ N; omega) d_Points_init_6 (fun q1 k2 H hK hP hD hS => ?_)
  have hK : va_K (dC, dI) classes [(k2, .int)] s := hK
  have hP : va_P (dC, dI) classes [(h, .inr (1, [.null, .int 0])), (q1, .inl (k2, N, .inl (fun _ => 0)))] H := hP
  have hD : va_D A [(h, .inr (1, [.null, .int 0])), (q1, .inl (k2, N, .inl (fun _ => 0)))] := hD
  refine va_putF (D := (dC, dI)) (ci := 1) (v := .ref q1) (ty := .array .int) (C := "LandBook$Points") (T := F_Points) (N := 2) hx hb hts tu_Points t_Points t_Points_ok n_Points hown hK hP hD hS 0 rfl rfl 0 (by decide) (hts _ tk_89) (fun _ h9 => h9) rfl hin rfl (by decide +kernel) rfl rfl (Nat.le_of_ble_eq_true rfl) d_Points_init_8 (fun H locs hP hD hS => ?_)
  have hP : va_P (dC, dI) classes [(h, .inr (1, [.ref q1, .int 0])), (q1, .inl (k2, N, .inl (fun _ => 0)))] H := hP
  have hD : va_D A [(h, .inr (1, [.ref q1, .int 0])), (q1, .inl (k2, N, .inl (fun _ => 0)))] := hD
  have hP9 := hP.sub (ws' := [(h, .inr (1, [.ref q1, .int 0])), (q1, .inl (k2, N, .inl (fun _ => 0)))]) [0, 1] rfl
  have hD9 := hD.sub (ws' := [(h, .inr (1, [.ref q1, .int 0])), (q1, .inl (k2, N, .inl (fun _ => 0)))]) [0, 1] (by decide) rfl
  have hK9 := hK.sub (tys' := [(k2, .int)]) [0] rfl
  refine W.widen (k := 1) (n := N) (by decide) (by omega) ?_
  exact W.vret hx hb hr (fun t ht hW => ⟨⟨(q1, k2), rfl, trivial, by rw [ht]; exact hP9, va_K.moved hW.alike hK9, hD9⟩, hS.F ht⟩) hS.2.2 d_Points_init_11
theorem tk_90 : (Jvm.Cond.fieldLink "LandBook$Points" (13 : Nat) "LandBook$Points" "size" "I") ∈ tw_G := tw_in (List.mem_of_getElem? (i := 104) (by decide +kernel)) rfl
abbrev y_Points_clear : MethodName := ⟨"LandBook$Points", "clear", "()V"⟩
abbrev w_Points_clear : List Cond := Cond.code y_Points_clear prog_9_method_2_code 1 none :: tw_G
theorem d_Points_clear_0 : decode prog_9_method_2_code 0 = .ok (.aload_n 0, 1) := by decide +kernel
theorem d_Points_clear_1 : decode prog_9_method_2_code 1 = .ok (.iconst 0, 1) := by decide +kernel
theorem d_Points_clear_2 : decode prog_9_method_2_code 2 = .ok (.putfield 13, 3) := by decide +kernel
theorem d_Points_clear_5 : decode prog_9_method_2_code 5 = .ok (.return_, 1) := by decide +kernel
set_option maxHeartbeats 4000000 in
set_option maxRecDepth 100000 in
theorem c_Points_clear (l : Launch) (dC : Nat → ClassId) (dI : Nat → Nat → Nat) (h sz : Nat) (v : Value) (k : Int32) : Met l y_Points_clear w_Points_clear ({ frames := 0, cells := 0, slots := 0, locals := 0 }) (tw_P4 (dC, dI) classes [(h, .inr (1, [v, .int k]))] [] sz [.ref h]) (va_Qv (fun _ : Unit => True) (fun u => tw_B dC dI (va_A [(h, .inr (1, [v, .int k]))] sz) [(h, .inr (1, [v, .int 0]))] []) (va_A [(h, .inr (1, [v, .int k]))] sz)) 0 0 (va_A [(h, .inr (1, [v, .int k]))] sz) := by
  refine Met.ofW (cc := prog_9_method_2_code) (maxL := 1) (ret := none) (by decide) rfl ?_
  intro p e s m args below meth c s₁ B hml hv
  obtain ⟨rfl, hsz, hP, hK, hD0⟩ := hv
  have hx := B.exec
  have hb := B.bytes
  have hr := B.returns
  have hts : ∀ w ∈ tw_G, w.before _ s = true := fun w h => atoms_spec (ws := w_Points_clear) B.pre w (List.mem_cons_of_mem _ h)
  have hown : s.vm.findClass "LandBook$Points" = some m.cls := findClass_of_methodNamed B.named
  have hlocks := B.notSynchronized
  subst hsz
  have hD := hD0.self (sz := s.heap.size)
  generalize hAe : va_A [(h, .inr (1, [v, .int k]))] s.heap.size = A at hD ⊢
  have hA : ∀ q : Nat, s.heap.size ≤ q → A q := fun q h => by rw [← hAe]; exact Or.inr h
  have hS : va_S A s.heap s.heap [] := va_S.rf
  have hP : va_P (dC, dI) classes [(h, .inr (1, [v, .int k]))] s.heap := hP
  have hl := lv_entry ([.ref h]) (n := 1) (Nat.le_of_ble_eq_true rfl)
  rw [lg_entry_eq]
  generalize (lg_sl ([.ref h]) ++ List.replicate (1 - (lg_sl ([.ref h])).length) Slot.unset).toArray = ls at hl ⊢
  have hl : lv_has ls 1 [(0, .ref h)] := hl
  refine lv_aload_n hx hb d_Points_clear_0 rfl (lv_at hl 0 rfl) ?_
  refine lv_iconst (v := 0) hx hb d_Points_clear_1 (by decide) ?_
  refine va_put (D := (dC, dI)) (ci := 1) (v := .int 0) (ty := .int) (C := "LandBook$Points") (T := F_Points) (N := 2) hx hb hts tu_Points t_Points t_Points_ok n_Points hown hK hP hD hS 0 rfl rfl 1 (by decide) (hts _ tk_90) (fun _ h9 => h9) rfl (by decide +kernel) rfl rfl (Nat.le_of_ble_eq_true rfl) d_Points_clear_2 (fun H locs hP hD hS => ?_)
  have hP : va_P (dC, dI) classes [(h, .inr (1, [v, .int 0]))] H := hP
  have hD : va_D A [(h, .inr (1, [v, .int 0]))] := hD
  have hP9 := hP.sub (ws' := [(h, .inr (1, [v, .int 0]))]) [0] rfl
  have hD9 := hD.sub (ws' := [(h, .inr (1, [v, .int 0]))]) [0] (by decide) rfl
  have hK9 := hK.sub (tys' := []) [] rfl
  refine W.widen (k := 0) (n := 0) (by decide) (by decide) ?_
  exact W.vret hx hb hr (fun t ht hW => ⟨⟨(), rfl, trivial, by rw [ht]; exact hP9, va_K.moved hW.alike hK9, hD9⟩, hS.F ht⟩) hS.2.2 d_Points_clear_5
theorem tk_91 : (Jvm.Cond.constant "LandBook$Plane" (9 : Nat) (32768 : Int32)) ∈ tw_G := tw_in (List.mem_of_getElem? (i := 351) (by decide +kernel)) rfl
abbrev y_Plane_pack : MethodName := ⟨"LandBook$Plane", "pack", "(II)I"⟩
abbrev w_Plane_pack : List Cond := Cond.code y_Plane_pack prog_8_method_2_code 2 (some .int) :: tw_G
theorem d_Plane_pack_0 : decode prog_8_method_2_code 0 = .ok (.iload_n 0, 1) := by decide +kernel
theorem d_Plane_pack_1 : decode prog_8_method_2_code 1 = .ok (.ldc 9, 2) := by decide +kernel
theorem d_Plane_pack_3 : decode prog_8_method_2_code 3 = .ok (.imul, 1) := by decide +kernel
theorem d_Plane_pack_4 : decode prog_8_method_2_code 4 = .ok (.iload_n 1, 1) := by decide +kernel
theorem d_Plane_pack_5 : decode prog_8_method_2_code 5 = .ok (.iadd, 1) := by decide +kernel
theorem d_Plane_pack_6 : decode prog_8_method_2_code 6 = .ok (.ireturn, 1) := by decide +kernel
set_option maxHeartbeats 4000000 in
set_option maxRecDepth 100000 in
theorem c_Plane_pack (l : Launch) (x y : Int32) : Met l y_Plane_pack w_Plane_pack ({ frames := 0, cells := 0, slots := 0, locals := 0 }) (tw_P0 [.int x, .int y]) (vp_Si (fun r => r = x * 32768 + y)) 0 0 (fun _ => False) := by
  refine Met.ofW (cc := prog_8_method_2_code) (maxL := 2) (ret := (some .int)) (by decide) rfl ?_
  intro p e s m args below meth c s₁ B hml hv
  obtain ⟨rfl, -⟩ := hv
  have hx := B.exec
  have hb := B.bytes
  have hr := B.returns
  have hts : ∀ w ∈ tw_G, w.before _ s = true := fun w h => atoms_spec (ws := w_Plane_pack) B.pre w (List.mem_cons_of_mem _ h)
  have hown : s.vm.findClass "LandBook$Plane" = some m.cls := findClass_of_methodNamed B.named
  have hlocks := B.notSynchronized
  have hl := lv_entry ([.int x, .int y]) (n := 2) (Nat.le_of_ble_eq_true rfl)
  rw [lg_entry_eq]
  generalize (lg_sl ([.int x, .int y]) ++ List.replicate (2 - (lg_sl ([.int x, .int y])).length) Slot.unset).toArray = ls at hl ⊢
  have hl : lv_has ls 2 [(0, .int x), (1, .int y)] := hl
  refine lv_iload_n hx hb d_Plane_pack_0 rfl (lv_at hl 0 rfl) ?_
  refine lv_ldc (v := 32768) hx hb hown (hts _ tk_91) d_Plane_pack_1 ?_
  refine lv_imul hx hb d_Plane_pack_3 ?_
  refine lv_iload_n hx hb d_Plane_pack_4 rfl (lv_at hl 1 rfl) ?_
  refine lv_iadd hx hb d_Plane_pack_5 ?_
  exact W.iret (v := ((x * 32768) + y)) hx hb hr (fun t ht hW => ⟨((x * 32768) + y), rfl, rfl, ht⟩) (fun _ h => by cases h) d_Plane_pack_6
theorem tk_92 : (Jvm.Cond.fieldLink "java/util/ArrayList" (48 : Nat) "java/util/ArrayList" "size" "I") ∈ tw_G := tw_in (List.mem_of_getElem? (i := 181) (by decide +kernel)) rfl
abbrev y_AL_size : MethodName := ⟨"java/util/ArrayList", "size", "()I"⟩
abbrev w_AL_size : List Cond := Cond.code y_AL_size prog_30_method_8_code 1 (some .int) :: tw_G
theorem d_AL_size_0 : decode prog_30_method_8_code 0 = .ok (.aload_n 0, 1) := by decide +kernel
theorem d_AL_size_1 : decode prog_30_method_8_code 1 = .ok (.getfield 48, 3) := by decide +kernel
theorem d_AL_size_4 : decode prog_30_method_8_code 4 = .ok (.ireturn, 1) := by decide +kernel
set_option maxHeartbeats 4000000 in
set_option maxRecDepth 100000 in
theorem c_AL_size (l : Launch) (dC : Nat → ClassId) (dI : Nat → Nat → Nat) (h : Nat) (v w : Value) (k : Int32) : Met l y_AL_size w_AL_size ({ frames := 0, cells := 0, slots := 0, locals := 0 }) (tw_P2 (dC, dI) classes [(h, .inr (6, [v, .int k, w]))] [] [.ref h]) (vp_Si (fun r => r = k)) 0 0 (fun _ => False) := by
  refine Met.ofW (cc := prog_30_method_8_code) (maxL := 1) (ret := (some .int)) (by decide) rfl ?_
  intro p e s m args below meth c s₁ B hml hv
  obtain ⟨rfl, hP, hK⟩ := hv
  have hx := B.exec
  have hb := B.bytes
  have hr := B.returns
  have hts : ∀ w ∈ tw_G, w.before _ s = true := fun w h => atoms_spec (ws := w_AL_size) B.pre w (List.mem_cons_of_mem _ h)
  have hown : s.vm.findClass "java/util/ArrayList" = some m.cls := findClass_of_methodNamed B.named
  have hlocks := B.notSynchronized
  have hP : va_P (dC, dI) classes [(h, .inr (6, [v, .int k, w]))] s.heap := hP
  have hl := lv_entry ([.ref h]) (n := 1) (Nat.le_of_ble_eq_true rfl)
  rw [lg_entry_eq]
  generalize (lg_sl ([.ref h]) ++ List.replicate (1 - (lg_sl ([.ref h])).length) Slot.unset).toArray = ls at hl ⊢
  have hl : lv_has ls 1 [(0, .ref h)] := hl
  refine lv_aload_n hx hb d_AL_size_0 rfl (lv_at hl 0 rfl) ?_
  refine va_get (D := (dC, dI)) (ci := 6) (v := .int k) (C := "java/util/ArrayList") (T := F_ArrayList) (N := 3) hx hb hts tu_ArrayList hown hK hP 0 rfl rfl 1 (by decide) (hts _ tk_92) (fun _ h9 => h9) rfl d_AL_size_1 ?_
  exact W.iret (v := k) hx hb hr (fun t ht hW => ⟨k, rfl, rfl, ht⟩) (fun _ h => by cases h) d_AL_size_4
