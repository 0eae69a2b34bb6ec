theorem tk_197 : (Jvm.Cond.methodLink "LandBook$Register" (31 : Nat) ({ cls := "java/util/ArrayList", name := "size", desc := "()I" } : Jvm.MethodName)) ∈ tw_G := tw_in (List.mem_of_getElem? (i := 383) (by decide +kernel)) rfl
theorem tk_198 : (Jvm.Cond.instanceMethod ({ cls := "java/util/ArrayList", name := "size", desc := "()I" } : Jvm.MethodName)) ∈ tw_G := tw_in (List.mem_of_getElem? (i := 384) (by decide +kernel)) rfl
theorem tk_199 : (Jvm.Cond.selects "java/util/ArrayList" ({ cls := "java/util/ArrayList", name := "size", desc := "()I" } : Jvm.MethodName) ({ cls := "java/util/ArrayList", name := "size", desc := "()I" } : Jvm.MethodName)) ∈ tw_G := tw_in (List.mem_of_getElem? (i := 385) (by decide +kernel)) rfl
theorem tk_200 : (Jvm.Cond.code ({ cls := "java/util/ArrayList", name := "size", desc := "()I" } : Jvm.MethodName) prog_30_method_8_code (1 : Nat) (Option.some Jvm.ClassFile.FieldType.int)) ∈ tw_G := tw_in (List.mem_of_getElem? (i := 386) (by decide +kernel)) rfl
abbrev y_Register_lastEntry : MethodName := ⟨"LandBook$Register", "lastEntry", "()I"⟩
abbrev w_Register_lastEntry : List Cond := Cond.code y_Register_lastEntry prog_10_method_2_code 1 (some .int) :: tw_G
theorem d_Register_lastEntry_0 : decode prog_10_method_2_code 0 = .ok (.aload_n 0, 1) := by decide +kernel
theorem d_Register_lastEntry_1 : decode prog_10_method_2_code 1 = .ok (.getfield 12, 3) := by decide +kernel
theorem d_Register_lastEntry_4 : decode prog_10_method_2_code 4 = .ok (.invokevirtual 31, 3) := by decide +kernel
theorem d_Register_lastEntry_7 : decode prog_10_method_2_code 7 = .ok (.ireturn, 1) := by decide +kernel
set_option maxHeartbeats 4000000 in
set_option maxRecDepth 100000 in
theorem c_Register_lastEntry (l : Launch) (dC : Nat → ClassId) (dI : Nat → Nat → Nat) (h q : Nat) (v0 v1 v2 v3 : Value) (el mo : Value) (k : Int32) : Met l y_Register_lastEntry w_Register_lastEntry ({ frames := 1, cells := 0, slots := 0, locals := 20 }) (tw_P2 (dC, dI) classes [(h, .inr (4, [.ref q, v0, v1, v2, v3])), (q, .inr (6, [el, .int k, mo]))] [] [.ref h]) (vp_Si (fun r => r = k)) 0 0 (fun _ => False) := by
  refine Met.ofW (cc := prog_10_method_2_code) (maxL := 1) (ret := (some .int)) (by decide) rfl ?_
  intro p e s m args below meth c s₁ B hml hv
  obtain ⟨rfl, hP, hK⟩ := hv
  have hx := B.exec
  have hb := B.bytes
  have hr := B.returns
  have hts : ∀ w ∈ tw_G, w.before _ s = true := fun w h => atoms_spec (ws := w_Register_lastEntry) B.pre w (List.mem_cons_of_mem _ h)
  have hown : s.vm.findClass "LandBook$Register" = some m.cls := findClass_of_methodNamed B.named
  have hlocks := B.notSynchronized
  have hP : va_P (dC, dI) classes [(h, .inr (4, [.ref q, v0, v1, v2, v3])), (q, .inr (6, [el, .int k, mo]))] s.heap := hP
  have hl := lv_entry ([.ref h]) (n := 1) (Nat.le_of_ble_eq_true rfl)
  rw [lg_entry_eq]
  generalize (lg_sl ([.ref h]) ++ List.replicate (1 - (lg_sl ([.ref h])).length) Slot.unset).toArray = ls at hl ⊢
  have hl : lv_has ls 1 [(0, .ref h)] := hl
  refine lv_aload_n hx hb d_Register_lastEntry_0 rfl (lv_at hl 0 rfl) ?_
  refine va_get (D := (dC, dI)) (ci := 4) (v := .ref q) (C := "LandBook$Register") (T := F_Register) (N := 5) hx hb hts tu_Register hown hK hP 0 rfl rfl 0 (by decide) (hts _ tk_132) (fun _ h9 => h9) rfl d_Register_lastEntry_1 ?_
  refine vp_callSi (W.runV (As := []) (rest := []) ⟨hx, hb, hml, hown, hts⟩ (c_AL_size l dC dI q el mo k) (cwV 0 hts (tw_gV tk_197 tk_198 tk_199 tk_128 tk_200) rfl rfl rfl (by decide +kernel) ⟨Nat.le_of_ble_eq_true rfl, Nat.le_of_ble_eq_true rfl⟩) (tw_v2 (va_recv (q0 := 1) hK hP rfl rfl) (hP.sub (ws' := [(q, .inr (6, [el, .int k, mo]))]) [1] rfl) (hK.sub (tys' := []) [] rfl)) rfl rfl hl.1 rfl (lv_room (Nat.le_of_ble_eq_true rfl)) d_Register_lastEntry_4 ⟨by show 0 ≤ 0; decide, by show 0 ≤ 0; decide⟩) (fun r1 e2 => ?_)
  have e2 := e2.symm
  subst e2
  exact W.iret (v := k) hx hb hr (fun t ht hW => ⟨k, rfl, rfl, ht⟩) (fun _ h => by cases h) d_Register_lastEntry_7
abbrev y_Register_lotCount : MethodName := ⟨"LandBook$Register", "lotCount", "()I"⟩
abbrev w_Register_lotCount : List Cond := Cond.code y_Register_lotCount prog_10_method_3_code 1 (some .int) :: tw_G
theorem d_Register_lotCount_0 : decode prog_10_method_3_code 0 = .ok (.aload_n 0, 1) := by decide +kernel
theorem d_Register_lotCount_1 : decode prog_10_method_3_code 1 = .ok (.getfield 18, 3) := by decide +kernel
theorem d_Register_lotCount_4 : decode prog_10_method_3_code 4 = .ok (.invokevirtual 31, 3) := by decide +kernel
theorem d_Register_lotCount_7 : decode prog_10_method_3_code 7 = .ok (.ireturn, 1) := by decide +kernel
set_option maxHeartbeats 4000000 in
set_option maxRecDepth 100000 in
theorem c_Register_lotCount (l : Launch) (dC : Nat → ClassId) (dI : Nat → Nat → Nat) (h q : Nat) (v0 v1 v2 v3 : Value) (el mo : Value) (k : Int32) : Met l y_Register_lotCount w_Register_lotCount ({ frames := 1, cells := 0, slots := 0, locals := 20 }) (tw_P2 (dC, dI) classes [(h, .inr (4, [v0, .ref q, v1, v2, v3])), (q, .inr (6, [el, .int k, mo]))] [] [.ref h]) (vp_Si (fun r => r = k)) 0 0 (fun _ => False) := by
  refine Met.ofW (cc := prog_10_method_3_code) (maxL := 1) (ret := (some .int)) (by decide) rfl ?_
  intro p e s m args below meth c s₁ B hml hv
  obtain ⟨rfl, hP, hK⟩ := hv
  have hx := B.exec
  have hb := B.bytes
  have hr := B.returns
  have hts : ∀ w ∈ tw_G, w.before _ s = true := fun w h => atoms_spec (ws := w_Register_lotCount) B.pre w (List.mem_cons_of_mem _ h)
  have hown : s.vm.findClass "LandBook$Register" = some m.cls := findClass_of_methodNamed B.named
  have hlocks := B.notSynchronized
  have hP : va_P (dC, dI) classes [(h, .inr (4, [v0, .ref q, v1, v2, v3])), (q, .inr (6, [el, .int k, mo]))] s.heap := hP
  have hl := lv_entry ([.ref h]) (n := 1) (Nat.le_of_ble_eq_true rfl)
  rw [lg_entry_eq]
  generalize (lg_sl ([.ref h]) ++ List.replicate (1 - (lg_sl ([.ref h])).length) Slot.unset).toArray = ls at hl ⊢
  have hl : lv_has ls 1 [(0, .ref h)] := hl
  refine lv_aload_n hx hb d_Register_lotCount_0 rfl (lv_at hl 0 rfl) ?_
  refine va_get (D := (dC, dI)) (ci := 4) (v := .ref q) (C := "LandBook$Register") (T := F_Register) (N := 5) hx hb hts tu_Register hown hK hP 0 rfl rfl 1 (by decide) (hts _ tk_133) (fun _ h9 => h9) rfl d_Register_lotCount_1 ?_
  refine vp_callSi (W.runV (As := []) (rest := []) ⟨hx, hb, hml, hown, hts⟩ (c_AL_size l dC dI q el mo k) (cwV 0 hts (tw_gV tk_197 tk_198 tk_199 tk_128 tk_200) rfl rfl rfl (by decide +kernel) ⟨Nat.le_of_ble_eq_true rfl, Nat.le_of_ble_eq_true rfl⟩) (tw_v2 (va_recv (q0 := 1) hK hP rfl rfl) (hP.sub (ws' := [(q, .inr (6, [el, .int k, mo]))]) [1] rfl) (hK.sub (tys' := []) [] rfl)) rfl rfl hl.1 rfl (lv_room (Nat.le_of_ble_eq_true rfl)) d_Register_lotCount_4 ⟨by show 0 ≤ 0; decide, by show 0 ≤ 0; decide⟩) (fun r1 e2 => ?_)
  have e2 := e2.symm
  subst e2
  exact W.iret (v := k) hx hb hr (fun t ht hW => ⟨k, rfl, rfl, ht⟩) (fun _ h => by cases h) d_Register_lotCount_7
abbrev y_Register_easementCount : MethodName := ⟨"LandBook$Register", "easementCount", "()I"⟩
abbrev w_Register_easementCount : List Cond := Cond.code y_Register_easementCount prog_10_method_4_code 1 (some .int) :: tw_G
theorem d_Register_easementCount_0 : decode prog_10_method_4_code 0 = .ok (.aload_n 0, 1) := by decide +kernel
theorem d_Register_easementCount_1 : decode prog_10_method_4_code 1 = .ok (.getfield 21, 3) := by decide +kernel
theorem d_Register_easementCount_4 : decode prog_10_method_4_code 4 = .ok (.invokevirtual 31, 3) := by decide +kernel
theorem d_Register_easementCount_7 : decode prog_10_method_4_code 7 = .ok (.ireturn, 1) := by decide +kernel
set_option maxHeartbeats 4000000 in
set_option maxRecDepth 100000 in
theorem c_Register_easementCount (l : Launch) (dC : Nat → ClassId) (dI : Nat → Nat → Nat) (h q : Nat) (v0 v1 v2 v3 : Value) (el mo : Value) (k : Int32) : Met l y_Register_easementCount w_Register_easementCount ({ frames := 1, cells := 0, slots := 0, locals := 20 }) (tw_P2 (dC, dI) classes [(h, .inr (4, [v0, v1, .ref q, v2, v3])), (q, .inr (6, [el, .int k, mo]))] [] [.ref h]) (vp_Si (fun r => r = k)) 0 0 (fun _ => False) := by
  refine Met.ofW (cc := prog_10_method_4_code) (maxL := 1) (ret := (some .int)) (by decide) rfl ?_
  intro p e s m args below meth c s₁ B hml hv
  obtain ⟨rfl, hP, hK⟩ := hv
  have hx := B.exec
  have hb := B.bytes
  have hr := B.returns
  have hts : ∀ w ∈ tw_G, w.before _ s = true := fun w h => atoms_spec (ws := w_Register_easementCount) B.pre w (List.mem_cons_of_mem _ h)
  have hown : s.vm.findClass "LandBook$Register" = some m.cls := findClass_of_methodNamed B.named
  have hlocks := B.notSynchronized
  have hP : va_P (dC, dI) classes [(h, .inr (4, [v0, v1, .ref q, v2, v3])), (q, .inr (6, [el, .int k, mo]))] s.heap := hP
  have hl := lv_entry ([.ref h]) (n := 1) (Nat.le_of_ble_eq_true rfl)
  rw [lg_entry_eq]
  generalize (lg_sl ([.ref h]) ++ List.replicate (1 - (lg_sl ([.ref h])).length) Slot.unset).toArray = ls at hl ⊢
  have hl : lv_has ls 1 [(0, .ref h)] := hl
  refine lv_aload_n hx hb d_Register_easementCount_0 rfl (lv_at hl 0 rfl) ?_
  refine va_get (D := (dC, dI)) (ci := 4) (v := .ref q) (C := "LandBook$Register") (T := F_Register) (N := 5) hx hb hts tu_Register hown hK hP 0 rfl rfl 2 (by decide) (hts _ tk_134) (fun _ h9 => h9) rfl d_Register_easementCount_1 ?_
  refine vp_callSi (W.runV (As := []) (rest := []) ⟨hx, hb, hml, hown, hts⟩ (c_AL_size l dC dI q el mo k) (cwV 0 hts (tw_gV tk_197 tk_198 tk_199 tk_128 tk_200) rfl rfl rfl (by decide +kernel) ⟨Nat.le_of_ble_eq_true rfl, Nat.le_of_ble_eq_true rfl⟩) (tw_v2 (va_recv (q0 := 1) hK hP rfl rfl) (hP.sub (ws' := [(q, .inr (6, [el, .int k, mo]))]) [1] rfl) (hK.sub (tys' := []) [] rfl)) rfl rfl hl.1 rfl (lv_room (Nat.le_of_ble_eq_true rfl)) d_Register_easementCount_4 ⟨by show 0 ≤ 0; decide, by show 0 ≤ 0; decide⟩) (fun r1 e2 => ?_)
  have e2 := e2.symm
  subst e2
  exact W.iret (v := k) hx hb hr (fun t ht hW => ⟨k, rfl, rfl, ht⟩) (fun _ h => by cases h) d_Register_easementCount_7
theorem tk_201 : (Jvm.Cond.classLink "LandBook" (258 : Nat) "java/lang/IllegalArgumentException") ∈ tw_G := tw_in (List.mem_of_getElem? (i := 263) (by decide +kernel)) rfl
theorem tk_202 : (Jvm.Cond.initialized "java/lang/IllegalArgumentException") ∈ tw_G := tw_in (List.mem_of_getElem? (i := 73) (by decide +kernel)) rfl
abbrev y_checkPoint : MethodName := ⟨"LandBook", "checkPoint", "(II)V"⟩
abbrev w_checkPoint : List Cond := Cond.code y_checkPoint prog_1_method_27_code 2 none :: tw_G
theorem d_checkPoint_0 : decode prog_1_method_27_code 0 = .ok (.iload_n 0, 1) := by decide +kernel
theorem d_checkPoint_1 : decode prog_1_method_27_code 1 = .ok (.ifCond .lt 21, 3) := by decide +kernel
theorem d_checkPoint_22 : decode prog_1_method_27_code 22 = .ok (.new 258, 3) := by decide +kernel
theorem d_checkPoint_25 : decode prog_1_method_27_code 25 = .ok (.dup, 1) := by decide +kernel
theorem d_checkPoint_26 : decode prog_1_method_27_code 26 = .ok (.ldc_w 292, 3) := by decide +kernel
theorem d_checkPoint_29 : decode prog_1_method_27_code 29 = .ok (.invokespecial 262, 3) := by decide +kernel
theorem d_checkPoint_32 : decode prog_1_method_27_code 32 = .ok (.athrow, 1) := by decide +kernel
theorem d_checkPoint_4 : decode prog_1_method_27_code 4 = .ok (.iload_n 0, 1) := by decide +kernel
theorem d_checkPoint_5 : decode prog_1_method_27_code 5 = .ok (.sipush 20000, 3) := by decide +kernel
theorem d_checkPoint_8 : decode prog_1_method_27_code 8 = .ok (.if_icmp .gt 14, 3) := by decide +kernel
theorem d_checkPoint_11 : decode prog_1_method_27_code 11 = .ok (.iload_n 1, 1) := by decide +kernel
theorem d_checkPoint_12 : decode prog_1_method_27_code 12 = .ok (.ifCond .lt 10, 3) := by decide +kernel
theorem d_checkPoint_15 : decode prog_1_method_27_code 15 = .ok (.iload_n 1, 1) := by decide +kernel
theorem d_checkPoint_16 : decode prog_1_method_27_code 16 = .ok (.sipush 20000, 3) := by decide +kernel
theorem d_checkPoint_19 : decode prog_1_method_27_code 19 = .ok (.if_icmp .le 14, 3) := by decide +kernel
theorem d_checkPoint_33 : decode prog_1_method_27_code 33 = .ok (.return_, 1) := by decide +kernel
set_option maxHeartbeats 4000000 in
set_option maxRecDepth 100000 in
theorem c_checkPoint (l : Launch) (hfl : l.flags = pinnedFlags ++ [noTraceFlag]) (x y : Int32) : tw_Met l y_checkPoint w_checkPoint ({ frames := 6, cells := 1, slots := 6, locals := 82 }) (tw_P0E [.int x, .int y]) (tw_Qk (¬ x < 0 ∧ ¬ 20000 < x ∧ ¬ y < 0 ∧ y ≤ 20000) "java/lang/IllegalArgumentException") 1 6 (fun _ => False) := by
  refine tw_ofW (cc := prog_1_method_27_code) (maxL := 2) (ret := none) (by decide) rfl ?_
  intro p e s m args below meth c s₁ B hml hno hv
  obtain ⟨rfl, hE⟩ := hv
  have hx := B.exec
  have hb := B.bytes
  have hr := B.returns
  have hts : ∀ w ∈ tw_G, w.before _ s = true := fun w h => atoms_spec (ws := w_checkPoint) B.pre w (List.mem_cons_of_mem _ h)
  have hown : s.vm.findClass "LandBook" = some m.cls := findClass_of_methodNamed B.named
  have hlocks := B.notSynchronized
  have hl := lv_entry ([.int x, .int y]) (n := 2) (Nat.le_of_ble_eq_true rfl)
  rw [lg_entry_eq]
  generalize (lg_sl ([.int x, .int y]) ++ List.replicate (2 - (lg_sl ([.int x, .int y])).length) Slot.unset).toArray = ls at hl ⊢
  have hl : lv_has ls 2 [(0, .int x), (1, .int y)] := hl
  refine lv_iload_n hx hb d_checkPoint_0 rfl (lv_at hl 0 rfl) ?_
  refine lv_if_lt (tgt := 22) hx hb d_checkPoint_1 (by decide) (fun h1 => ?_) (fun h1 => ?_)
  · obtain ⟨q3, z2⟩ := hE.2 (292, "no point") (by decide)
    exact tw_throw (pc := 22) (k := 3) hx hb hfl hown (by decide) (hts _ tk_201) (hts _ tk_202) (hE.1 (262, "java/lang/IllegalArgumentException") (by decide)) z2 hno hlocks (hl.1.trans hml.symm) d_checkPoint_22 d_checkPoint_25 (Or.inr ⟨rfl, d_checkPoint_26⟩) d_checkPoint_29 d_checkPoint_32 (by show 1 ≤ 1; decide) (by show 6 ≤ 6; decide) (Nat.le_of_ble_eq_true rfl) (Nat.le_of_ble_eq_true rfl) (fun t g1 g2 g3 g4 => ⟨(fun o => o.1 h1), rfl, g1, g2, g4⟩)
  · refine lv_iload_n hx hb d_checkPoint_4 rfl (lv_at hl 0 rfl) ?_
    refine lv_sipush (v := 20000) hx hb d_checkPoint_5 (by decide) ?_
    refine lv_icmp_gt (tgt := 22) hx hb d_checkPoint_8 (by decide) (fun h4 => ?_) (fun h4 => ?_)
    · obtain ⟨q6, z5⟩ := hE.2 (292, "no point") (by decide)
      exact tw_throw (pc := 22) (k := 3) hx hb hfl hown (by decide) (hts _ tk_201) (hts _ tk_202) (hE.1 (262, "java/lang/IllegalArgumentException") (by decide)) z5 hno hlocks (hl.1.trans hml.symm) d_checkPoint_22 d_checkPoint_25 (Or.inr ⟨rfl, d_checkPoint_26⟩) d_checkPoint_29 d_checkPoint_32 (by show 1 ≤ 1; decide) (by show 6 ≤ 6; decide) (Nat.le_of_ble_eq_true rfl) (Nat.le_of_ble_eq_true rfl) (fun t g1 g2 g3 g4 => ⟨(fun o => o.2.1 h4), rfl, g1, g2, g4⟩)
    · refine lv_iload_n hx hb d_checkPoint_11 rfl (lv_at hl 1 rfl) ?_
      refine lv_if_lt (tgt := 22) hx hb d_checkPoint_12 (by decide) (fun h7 => ?_) (fun h7 => ?_)
      · obtain ⟨q9, z8⟩ := hE.2 (292, "no point") (by decide)
        exact tw_throw (pc := 22) (k := 3) hx hb hfl hown (by decide) (hts _ tk_201) (hts _ tk_202) (hE.1 (262, "java/lang/IllegalArgumentException") (by decide)) z8 hno hlocks (hl.1.trans hml.symm) d_checkPoint_22 d_checkPoint_25 (Or.inr ⟨rfl, d_checkPoint_26⟩) d_checkPoint_29 d_checkPoint_32 (by show 1 ≤ 1; decide) (by show 6 ≤ 6; decide) (Nat.le_of_ble_eq_true rfl) (Nat.le_of_ble_eq_true rfl) (fun t g1 g2 g3 g4 => ⟨(fun o => o.2.2.1 h7), rfl, g1, g2, g4⟩)
      · refine lv_iload_n hx hb d_checkPoint_15 rfl (lv_at hl 1 rfl) ?_
        refine lv_sipush (v := 20000) hx hb d_checkPoint_16 (by decide) ?_
        refine lv_icmp_le (tgt := 33) hx hb d_checkPoint_19 (by decide) (fun h10 => ?_) (fun h10 => ?_)
        · exact tw_ret (W.widen (k := 1) (n := 6) (by decide) (by decide) (W.vret hx hb hr (fun t ht hW => ⟨rfl, ⟨h1, h4, h7, h10⟩, ht⟩) (fun _ h => by cases h) d_checkPoint_33))
        · obtain ⟨q12, z11⟩ := hE.2 (292, "no point") (by decide)
          exact tw_throw (pc := 22) (k := 3) hx hb hfl hown (by decide) (hts _ tk_201) (hts _ tk_202) (hE.1 (262, "java/lang/IllegalArgumentException") (by decide)) z11 hno hlocks (hl.1.trans hml.symm) d_checkPoint_22 d_checkPoint_25 (Or.inr ⟨rfl, d_checkPoint_26⟩) d_checkPoint_29 d_checkPoint_32 (by show 1 ≤ 1; decide) (by show 6 ≤ 6; decide) (Nat.le_of_ble_eq_true rfl) (Nat.le_of_ble_eq_true rfl) (fun t g1 g2 g3 g4 => ⟨(fun o => h10 o.2.2.2), rfl, g1, g2, g4⟩)
abbrev y_checkDay : MethodName := ⟨"LandBook", "checkDay", "(I)V"⟩
abbrev w_checkDay : List Cond := Cond.code y_checkDay prog_1_method_28_code 1 none :: tw_G
theorem d_checkDay_0 : decode prog_1_method_28_code 0 = .ok (.iload_n 0, 1) := by decide +kernel
theorem d_checkDay_1 : decode prog_1_method_28_code 1 = .ok (.ifCond .lt 10, 3) := by decide +kernel
theorem d_checkDay_11 : decode prog_1_method_28_code 11 = .ok (.new 258, 3) := by decide +kernel
theorem d_checkDay_14 : decode prog_1_method_28_code 14 = .ok (.dup, 1) := by decide +kernel
theorem d_checkDay_15 : decode prog_1_method_28_code 15 = .ok (.ldc_w 294, 3) := by decide +kernel
theorem d_checkDay_18 : decode prog_1_method_28_code 18 = .ok (.invokespecial 262, 3) := by decide +kernel
theorem d_checkDay_21 : decode prog_1_method_28_code 21 = .ok (.athrow, 1) := by decide +kernel
theorem d_checkDay_4 : decode prog_1_method_28_code 4 = .ok (.iload_n 0, 1) := by decide +kernel
theorem d_checkDay_5 : decode prog_1_method_28_code 5 = .ok (.sipush 30000, 3) := by decide +kernel
theorem d_checkDay_8 : decode prog_1_method_28_code 8 = .ok (.if_icmp .le 14, 3) := by decide +kernel
theorem d_checkDay_22 : decode prog_1_method_28_code 22 = .ok (.return_, 1) := by decide +kernel
set_option maxHeartbeats 4000000 in
set_option maxRecDepth 100000 in
theorem c_checkDay (l : Launch) (hfl : l.flags = pinnedFlags ++ [noTraceFlag]) (x : Int32) : tw_Met l y_checkDay w_checkDay ({ frames := 6, cells := 1, slots := 6, locals := 82 }) (tw_P0E [.int x]) (tw_Qk (¬ x < 0 ∧ x ≤ 30000) "java/lang/IllegalArgumentException") 1 6 (fun _ => False) := by
  refine tw_ofW (cc := prog_1_method_28_code) (maxL := 1) (ret := none) (by decide) rfl ?_
  intro p e s m args below meth c s₁ B hml hno hv
  obtain ⟨rfl, hE⟩ := hv
  have hx := B.exec
  have hb := B.bytes
  have hr := B.returns
  have hts : ∀ w ∈ tw_G, w.before _ s = true := fun w h => atoms_spec (ws := w_checkDay) B.pre w (List.mem_cons_of_mem _ h)
  have hown : s.vm.findClass "LandBook" = some m.cls := findClass_of_methodNamed B.named
  have hlocks := B.notSynchronized
  have hl := lv_entry ([.int x]) (n := 1) (Nat.le_of_ble_eq_true rfl)
  rw [lg_entry_eq]
  generalize (lg_sl ([.int x]) ++ List.replicate (1 - (lg_sl ([.int x])).length) Slot.unset).toArray = ls at hl ⊢
  have hl : lv_has ls 1 [(0, .int x)] := hl
  refine lv_iload_n hx hb d_checkDay_0 rfl (lv_at hl 0 rfl) ?_
  refine lv_if_lt (tgt := 11) hx hb d_checkDay_1 (by decide) (fun h1 => ?_) (fun h1 => ?_)
  · obtain ⟨q3, z2⟩ := hE.2 (294, "no day") (by decide)
    exact tw_throw (pc := 11) (k := 3) hx hb hfl hown (by decide) (hts _ tk_201) (hts _ tk_202) (hE.1 (262, "java/lang/IllegalArgumentException") (by decide)) z2 hno hlocks (hl.1.trans hml.symm) d_checkDay_11 d_checkDay_14 (Or.inr ⟨rfl, d_checkDay_15⟩) d_checkDay_18 d_checkDay_21 (by show 1 ≤ 1; decide) (by show 6 ≤ 6; decide) (Nat.le_of_ble_eq_true rfl) (Nat.le_of_ble_eq_true rfl) (fun t g1 g2 g3 g4 => ⟨(fun o => o.1 h1), rfl, g1, g2, g4⟩)
  · refine lv_iload_n hx hb d_checkDay_4 rfl (lv_at hl 0 rfl) ?_
    refine lv_sipush (v := 30000) hx hb d_checkDay_5 (by decide) ?_
    refine lv_icmp_le (tgt := 22) hx hb d_checkDay_8 (by decide) (fun h4 => ?_) (fun h4 => ?_)
    · exact tw_ret (W.widen (k := 1) (n := 6) (by decide) (by decide) (W.vret hx hb hr (fun t ht hW => ⟨rfl, ⟨h1, h4⟩, ht⟩) (fun _ h => by cases h) d_checkDay_22))
    · obtain ⟨q6, z5⟩ := hE.2 (294, "no day") (by decide)
      exact tw_throw (pc := 11) (k := 3) hx hb hfl hown (by decide) (hts _ tk_201) (hts _ tk_202) (hE.1 (262, "java/lang/IllegalArgumentException") (by decide)) z5 hno hlocks (hl.1.trans hml.symm) d_checkDay_11 d_checkDay_14 (Or.inr ⟨rfl, d_checkDay_15⟩) d_checkDay_18 d_checkDay_21 (by show 1 ≤ 1; decide) (by show 6 ≤ 6; decide) (Nat.le_of_ble_eq_true rfl) (Nat.le_of_ble_eq_true rfl) (fun t g1 g2 g3 g4 => ⟨(fun o => h4 o.2), rfl, g1, g2, g4⟩)
abbrev y_checkPerson : MethodName := ⟨"LandBook", "checkPerson", "(I)V"⟩
abbrev w_checkPerson : List Cond := Cond.code y_checkPerson prog_1_method_30_code 1 none :: tw_G
theorem d_checkPerson_0 : decode prog_1_method_30_code 0 = .ok (.iload_n 0, 1) := by decide +kernel
theorem d_checkPerson_1 : decode prog_1_method_30_code 1 = .ok (.ifCond .lt 9, 3) := by decide +kernel
theorem d_checkPerson_10 : decode prog_1_method_30_code 10 = .ok (.new 258, 3) := by decide +kernel
theorem d_checkPerson_13 : decode prog_1_method_30_code 13 = .ok (.dup, 1) := by decide +kernel
theorem d_checkPerson_14 : decode prog_1_method_30_code 14 = .ok (.ldc_w 298, 3) := by decide +kernel
theorem d_checkPerson_17 : decode prog_1_method_30_code 17 = .ok (.invokespecial 262, 3) := by decide +kernel
theorem d_checkPerson_20 : decode prog_1_method_30_code 20 = .ok (.athrow, 1) := by decide +kernel
theorem d_checkPerson_4 : decode prog_1_method_30_code 4 = .ok (.iload_n 0, 1) := by decide +kernel
theorem d_checkPerson_5 : decode prog_1_method_30_code 5 = .ok (.bipush 100, 2) := by decide +kernel
theorem d_checkPerson_7 : decode prog_1_method_30_code 7 = .ok (.if_icmp .lt 14, 3) := by decide +kernel
theorem d_checkPerson_21 : decode prog_1_method_30_code 21 = .ok (.return_, 1) := by decide +kernel
set_option maxHeartbeats 4000000 in
set_option maxRecDepth 100000 in
theorem c_checkPerson (l : Launch) (hfl : l.flags = pinnedFlags ++ [noTraceFlag]) (x : Int32) : tw_Met l y_checkPerson w_checkPerson ({ frames := 6, cells := 1, slots := 6, locals := 82 }) (tw_P0E [.int x]) (tw_Qk (¬ x < 0 ∧ x < 100) "java/lang/IllegalArgumentException") 1 6 (fun _ => False) := by
  refine tw_ofW (cc := prog_1_method_30_code) (maxL := 1) (ret := none) (by decide) rfl ?_
  intro p e s m args below meth c s₁ B hml hno hv
  obtain ⟨rfl, hE⟩ := hv
  have hx := B.exec
  have hb := B.bytes
  have hr := B.returns
  have hts : ∀ w ∈ tw_G, w.before _ s = true := fun w h => atoms_spec (ws := w_checkPerson) B.pre w (List.mem_cons_of_mem _ h)
  have hown : s.vm.findClass "LandBook" = some m.cls := findClass_of_methodNamed B.named
  have hlocks := B.notSynchronized
  have hl := lv_entry ([.int x]) (n := 1) (Nat.le_of_ble_eq_true rfl)
  rw [lg_entry_eq]
  generalize (lg_sl ([.int x]) ++ List.replicate (1 - (lg_sl ([.int x])).length) Slot.unset).toArray = ls at hl ⊢
  have hl : lv_has ls 1 [(0, .int x)] := hl
  refine lv_iload_n hx hb d_checkPerson_0 rfl (lv_at hl 0 rfl) ?_
  refine lv_if_lt (tgt := 10) hx hb d_checkPerson_1 (by decide) (fun h1 => ?_) (fun h1 => ?_)
  · obtain ⟨q3, z2⟩ := hE.2 (298, "no person") (by decide)
    exact tw_throw (pc := 10) (k := 3) hx hb hfl hown (by decide) (hts _ tk_201) (hts _ tk_202) (hE.1 (262, "java/lang/IllegalArgumentException") (by decide)) z2 hno hlocks (hl.1.trans hml.symm) d_checkPerson_10 d_checkPerson_13 (Or.inr ⟨rfl, d_checkPerson_14⟩) d_checkPerson_17 d_checkPerson_20 (by show 1 ≤ 1; decide) (by show 6 ≤ 6; decide) (Nat.le_of_ble_eq_true rfl) (Nat.le_of_ble_eq_true rfl) (fun t g1 g2 g3 g4 => ⟨(fun o => o.1 h1), rfl, g1, g2, g4⟩)
  · refine lv_iload_n hx hb d_checkPerson_4 rfl (lv_at hl 0 rfl) ?_
    refine lv_bipush (v := 100) hx hb d_checkPerson_5 (by decide) ?_
    refine lv_icmp_lt (tgt := 21) hx hb d_checkPerson_7 (by decide) (fun h4 => ?_) (fun h4 => ?_)
    · exact tw_ret (W.widen (k := 1) (n := 6) (by decide) (by decide) (W.vret hx hb hr (fun t ht hW => ⟨rfl, ⟨h1, h4⟩, ht⟩) (fun _ h => by cases h) d_checkPerson_21))
    · obtain ⟨q6, z5⟩ := hE.2 (298, "no person") (by decide)
      exact tw_throw (pc := 10) (k := 3) hx hb hfl hown (by decide) (hts _ tk_201) (hts _ tk_202) (hE.1 (262, "java/lang/IllegalArgumentException") (by decide)) z5 hno hlocks (hl.1.trans hml.symm) d_checkPerson_10 d_checkPerson_13 (Or.inr ⟨rfl, d_checkPerson_14⟩) d_checkPerson_17 d_checkPerson_20 (by show 1 ≤ 1; decide) (by show 6 ≤ 6; decide) (Nat.le_of_ble_eq_true rfl) (Nat.le_of_ble_eq_true rfl) (fun t g1 g2 g3 g4 => ⟨(fun o => h4 o.2), rfl, g1, g2, g4⟩)
abbrev y_checkTerm : MethodName := ⟨"LandBook", "checkTerm", "(I)V"⟩
abbrev w_checkTerm : List Cond := Cond.code y_checkTerm prog_1_method_31_code 1 none :: tw_G
theorem d_checkTerm_0 : decode prog_1_method_31_code 0 = .ok (.iload_n 0, 1) := by decide +kernel
theorem d_checkTerm_1 : decode prog_1_method_31_code 1 = .ok (.iconst 1, 1) := by decide +kernel
theorem d_checkTerm_2 : decode prog_1_method_31_code 2 = .ok (.if_icmp .lt 10, 3) := by decide +kernel
theorem d_checkTerm_12 : decode prog_1_method_31_code 12 = .ok (.new 258, 3) := by decide +kernel
theorem d_checkTerm_15 : decode prog_1_method_31_code 15 = .ok (.dup, 1) := by decide +kernel
theorem d_checkTerm_16 : decode prog_1_method_31_code 16 = .ok (.ldc_w 300, 3) := by decide +kernel
theorem d_checkTerm_19 : decode prog_1_method_31_code 19 = .ok (.invokespecial 262, 3) := by decide +kernel
theorem d_checkTerm_22 : decode prog_1_method_31_code 22 = .ok (.athrow, 1) := by decide +kernel
theorem d_checkTerm_5 : decode prog_1_method_31_code 5 = .ok (.iload_n 0, 1) := by decide +kernel
theorem d_checkTerm_6 : decode prog_1_method_31_code 6 = .ok (.sipush 5040, 3) := by decide +kernel
theorem d_checkTerm_9 : decode prog_1_method_31_code 9 = .ok (.if_icmp .le 14, 3) := by decide +kernel
theorem d_checkTerm_23 : decode prog_1_method_31_code 23 = .ok (.return_, 1) := by decide +kernel
set_option maxHeartbeats 4000000 in
set_option maxRecDepth 100000 in
theorem c_checkTerm (l : Launch) (hfl : l.flags = pinnedFlags ++ [noTraceFlag]) (x : Int32) : tw_Met l y_checkTerm w_checkTerm ({ frames := 6, cells := 1, slots := 6, locals := 82 }) (tw_P0E [.int x]) (tw_Qk (¬ x < 1 ∧ x ≤ 5040) "java/lang/IllegalArgumentException") 1 6 (fun _ => False) := by
  refine tw_ofW (cc := prog_1_method_31_code) (maxL := 1) (ret := none) (by decide) rfl ?_
  intro p e s m args below meth c s₁ B hml hno hv
  obtain ⟨rfl, hE⟩ := hv
  have hx := B.exec
  have hb := B.bytes
  have hr := B.returns
  have hts : ∀ w ∈ tw_G, w.before _ s = true := fun w h => atoms_spec (ws := w_checkTerm) B.pre w (List.mem_cons_of_mem _ h)
  have hown : s.vm.findClass "LandBook" = some m.cls := findClass_of_methodNamed B.named
  have hlocks := B.notSynchronized
  have hl := lv_entry ([.int x]) (n := 1) (Nat.le_of_ble_eq_true rfl)
  rw [lg_entry_eq]
  generalize (lg_sl ([.int x]) ++ List.replicate (1 - (lg_sl ([.int x])).length) Slot.unset).toArray = ls at hl ⊢
  have hl : lv_has ls 1 [(0, .int x)] := hl
  refine lv_iload_n hx hb d_checkTerm_0 rfl (lv_at hl 0 rfl) ?_
  refine lv_iconst (v := 1) hx hb d_checkTerm_1 (by decide) ?_
  refine lv_icmp_lt (tgt := 12) hx hb d_checkTerm_2 (by decide) (fun h1 => ?_) (fun h1 => ?_)
  · obtain ⟨q3, z2⟩ := hE.2 (300, "no term of a share") (by decide)
    exact tw_throw (pc := 12) (k := 3) hx hb hfl hown (by decide) (hts _ tk_201) (hts _ tk_202) (hE.1 (262, "java/lang/IllegalArgumentException") (by decide)) z2 hno hlocks (hl.1.trans hml.symm) d_checkTerm_12 d_checkTerm_15 (Or.inr ⟨rfl, d_checkTerm_16⟩) d_checkTerm_19 d_checkTerm_22 (by show 1 ≤ 1; decide) (by show 6 ≤ 6; decide) (Nat.le_of_ble_eq_true rfl) (Nat.le_of_ble_eq_true rfl) (fun t g1 g2 g3 g4 => ⟨(fun o => o.1 h1), rfl, g1, g2, g4⟩)
  · refine lv_iload_n hx hb d_checkTerm_5 rfl (lv_at hl 0 rfl) ?_
    refine lv_sipush (v := 5040) hx hb d_checkTerm_6 (by decide) ?_
    refine lv_icmp_le (tgt := 23) hx hb d_checkTerm_9 (by decide) (fun h4 => ?_) (fun h4 => ?_)
    · exact tw_ret (W.widen (k := 1) (n := 6) (by decide) (by decide) (W.vret hx hb hr (fun t ht hW => ⟨rfl, ⟨h1, h4⟩, ht⟩) (fun _ h => by cases h) d_checkTerm_23))
    · obtain ⟨q6, z5⟩ := hE.2 (300, "no term of a share") (by decide)
      exact tw_throw (pc := 12) (k := 3) hx hb hfl hown (by decide) (hts _ tk_201) (hts _ tk_202) (hE.1 (262, "java/lang/IllegalArgumentException") (by decide)) z5 hno hlocks (hl.1.trans hml.symm) d_checkTerm_12 d_checkTerm_15 (Or.inr ⟨rfl, d_checkTerm_16⟩) d_checkTerm_19 d_checkTerm_22 (by show 1 ≤ 1; decide) (by show 6 ≤ 6; decide) (Nat.le_of_ble_eq_true rfl) (Nat.le_of_ble_eq_true rfl) (fun t g1 g2 g3 g4 => ⟨(fun o => h4 o.2), rfl, g1, g2, g4⟩)
abbrev y_checkPlace : MethodName := ⟨"LandBook", "checkPlace", "(I)V"⟩
abbrev w_checkPlace : List Cond := Cond.code y_checkPlace prog_1_method_32_code 1 none :: tw_G
theorem d_checkPlace_0 : decode prog_1_method_32_code 0 = .ok (.iload_n 0, 1) := by decide +kernel
theorem d_checkPlace_1 : decode prog_1_method_32_code 1 = .ok (.ifCond .ge 14, 3) := by decide +kernel
theorem d_checkPlace_15 : decode prog_1_method_32_code 15 = .ok (.return_, 1) := by decide +kernel
theorem d_checkPlace_4 : decode prog_1_method_32_code 4 = .ok (.new 258, 3) := by decide +kernel
theorem d_checkPlace_7 : decode prog_1_method_32_code 7 = .ok (.dup, 1) := by decide +kernel
theorem d_checkPlace_8 : decode prog_1_method_32_code 8 = .ok (.ldc_w 302, 3) := by decide +kernel
theorem d_checkPlace_11 : decode prog_1_method_32_code 11 = .ok (.invokespecial 262, 3) := by decide +kernel
theorem d_checkPlace_14 : decode prog_1_method_32_code 14 = .ok (.athrow, 1) := by decide +kernel
set_option maxHeartbeats 4000000 in
set_option maxRecDepth 100000 in
theorem c_checkPlace (l : Launch) (hfl : l.flags = pinnedFlags ++ [noTraceFlag]) (x : Int32) : tw_Met l y_checkPlace w_checkPlace ({ frames := 6, cells := 1, slots := 6, locals := 82 }) (tw_P0E [.int x]) (tw_Qk (0 ≤ x) "java/lang/IllegalArgumentException") 1 6 (fun _ => False) := by
  refine tw_ofW (cc := prog_1_method_32_code) (maxL := 1) (ret := none) (by decide) rfl ?_
  intro p e s m args below meth c s₁ B hml hno hv
  obtain ⟨rfl, hE⟩ := hv
  have hx := B.exec
  have hb := B.bytes
  have hr := B.returns
  have hts : ∀ w ∈ tw_G, w.before _ s = true := fun w h => atoms_spec (ws := w_checkPlace) B.pre w (List.mem_cons_of_mem _ h)
  have hown : s.vm.findClass "LandBook" = some m.cls := findClass_of_methodNamed B.named
  have hlocks := B.notSynchronized
  have hl := lv_entry ([.int x]) (n := 1) (Nat.le_of_ble_eq_true rfl)
  rw [lg_entry_eq]
  generalize (lg_sl ([.int x]) ++ List.replicate (1 - (lg_sl ([.int x])).length) Slot.unset).toArray = ls at hl ⊢
  have hl : lv_has ls 1 [(0, .int x)] := hl
  refine lv_iload_n hx hb d_checkPlace_0 rfl (lv_at hl 0 rfl) ?_
  refine lv_if_ge (tgt := 15) hx hb d_checkPlace_1 (by decide) (fun h1 => ?_) (fun h1 => ?_)
  · exact tw_ret (W.widen (k := 1) (n := 6) (by decide) (by decide) (W.vret hx hb hr (fun t ht hW => ⟨rfl, h1, ht⟩) (fun _ h => by cases h) d_checkPlace_15))
  · obtain ⟨q3, z2⟩ := hE.2 (302, "a negative place") (by decide)
    exact tw_throw (pc := 4) (k := 3) hx hb hfl hown (by decide) (hts _ tk_201) (hts _ tk_202) (hE.1 (262, "java/lang/IllegalArgumentException") (by decide)) z2 hno hlocks (hl.1.trans hml.symm) d_checkPlace_4 d_checkPlace_7 (Or.inr ⟨rfl, d_checkPlace_8⟩) d_checkPlace_11 d_checkPlace_14 (by show 1 ≤ 1; decide) (by show 6 ≤ 6; decide) (Nat.le_of_ble_eq_true rfl) (Nat.le_of_ble_eq_true rfl) (fun t g1 g2 g3 g4 => ⟨(fun o => h1 o), rfl, g1, g2, g4⟩)
theorem tk_203 : (Jvm.Cond.fieldLink "LandBook" (266 : Nat) "LandBook" "down" "Z") ∈ tw_G := tw_in (List.mem_of_getElem? (i := 232) (by decide +kernel)) rfl
theorem tk_204 : (Jvm.Cond.classLink "LandBook" (80 : Nat) "java/lang/IllegalStateException") ∈ tw_G := tw_in (List.mem_of_getElem? (i := 387) (by decide +kernel)) rfl
theorem tk_205 : (Jvm.Cond.initialized "java/lang/IllegalStateException") ∈ tw_G := tw_in (List.mem_of_getElem? (i := 77) (by decide +kernel)) rfl
theorem tk_206 : (Jvm.Cond.methodLink "LandBook" (76 : Nat) ({ cls := "LandBook$Register", name := "lotCount", desc := "()I" } : Jvm.MethodName)) ∈ tw_G := tw_in (List.mem_of_getElem? (i := 379) (by decide +kernel)) rfl
theorem tk_207 : (Jvm.Cond.instanceMethod ({ cls := "LandBook$Register", name := "lotCount", desc := "()I" } : Jvm.MethodName)) ∈ tw_G := tw_in (List.mem_of_getElem? (i := 380) (by decide +kernel)) rfl
theorem tk_208 : (Jvm.Cond.selects "LandBook$Register" ({ cls := "LandBook$Register", name := "lotCount", desc := "()I" } : Jvm.MethodName) ({ cls := "LandBook$Register", name := "lotCount", desc := "()I" } : Jvm.MethodName)) ∈ tw_G := tw_in (List.mem_of_getElem? (i := 381) (by decide +kernel)) rfl
theorem tk_209 : (Jvm.Cond.code ({ cls := "LandBook$Register", name := "lotCount", desc := "()I" } : Jvm.MethodName) prog_10_method_3_code (1 : Nat) (Option.some Jvm.ClassFile.FieldType.int)) ∈ tw_G := tw_in (List.mem_of_getElem? (i := 382) (by decide +kernel)) rfl
abbrev y_checkUp : MethodName := ⟨"LandBook", "checkUp", "()V"⟩
abbrev w_checkUp : List Cond := Cond.code y_checkUp prog_1_method_24_code 1 none :: tw_G
theorem d_checkUp_0 : decode prog_1_method_24_code 0 = .ok (.aload_n 0, 1) := by decide +kernel
theorem d_checkUp_1 : decode prog_1_method_24_code 1 = .ok (.getfield 266, 3) := by decide +kernel
theorem d_checkUp_4 : decode prog_1_method_24_code 4 = .ok (.ifCond .ne 13, 3) := by decide +kernel
theorem d_checkUp_17 : decode prog_1_method_24_code 17 = .ok (.new 80, 3) := by decide +kernel
theorem d_checkUp_20 : decode prog_1_method_24_code 20 = .ok (.dup, 1) := by decide +kernel
theorem d_checkUp_21 : decode prog_1_method_24_code 21 = .ok (.ldc_w 286, 3) := by decide +kernel
theorem d_checkUp_24 : decode prog_1_method_24_code 24 = .ok (.invokespecial 84, 3) := by decide +kernel
theorem d_checkUp_27 : decode prog_1_method_24_code 27 = .ok (.athrow, 1) := by decide +kernel
theorem d_checkUp_7 : decode prog_1_method_24_code 7 = .ok (.aload_n 0, 1) := by decide +kernel
theorem d_checkUp_8 : decode prog_1_method_24_code 8 = .ok (.getfield 38, 3) := by decide +kernel
theorem d_checkUp_11 : decode prog_1_method_24_code 11 = .ok (.invokevirtual 76, 3) := by decide +kernel
theorem d_checkUp_14 : decode prog_1_method_24_code 14 = .ok (.ifCond .ne 14, 3) := by decide +kernel
theorem d_checkUp_28 : decode prog_1_method_24_code 28 = .ok (.return_, 1) := by decide +kernel
set_option maxHeartbeats 4000000 in
set_option maxRecDepth 100000 in
theorem c_checkUp (l : Launch) (hfl : l.flags = pinnedFlags ++ [noTraceFlag]) (dC : Nat → ClassId) (dI : Nat → Nat → Nat) (h rg q : Nat) (v0 v1 v2 v3 v5 v7 w0 w2 w3 w4 el mo : Value) (dn k : Int32) : tw_Met l y_checkUp w_checkUp ({ frames := 6, cells := 1, slots := 6, locals := 82 }) (tw_P2E (dC, dI) classes [(h, .inr (0, [v0, v1, v2, v3, .ref rg, v5, .int dn, v7])), (rg, .inr (4, [w0, .ref q, w2, w3, w4])), (q, .inr (6, [el, .int k, mo]))] [] [.ref h]) (tw_Qk (dn = 0 ∧ ¬ k = 0) "java/lang/IllegalStateException") 1 6 (fun _ => False) := by
  refine tw_ofW (cc := prog_1_method_24_code) (maxL := 1) (ret := none) (by decide) rfl ?_
  intro p e s m args below meth c s₁ B hml hno hv
  obtain ⟨rfl, hP, hK, hE⟩ := hv
  have hx := B.exec
  have hb := B.bytes
  have hr := B.returns
  have hts : ∀ w ∈ tw_G, w.before _ s = true := fun w h => atoms_spec (ws := w_checkUp) B.pre w (List.mem_cons_of_mem _ h)
  have hown : s.vm.findClass "LandBook" = some m.cls := findClass_of_methodNamed B.named
  have hlocks := B.notSynchronized
  have hP : va_P (dC, dI) classes [(h, .inr (0, [v0, v1, v2, v3, .ref rg, v5, .int dn, v7])), (rg, .inr (4, [w0, .ref q, w2, w3, w4])), (q, .inr (6, [el, .int k, mo]))] s.heap := hP
  have hl := lv_entry ([.ref h]) (n := 1) (Nat.le_of_ble_eq_true rfl)
  rw [lg_entry_eq]
  generalize (lg_sl ([.ref h]) ++ List.replicate (1 - (lg_sl ([.ref h])).length) Slot.unset).toArray = ls at hl ⊢
  have hl : lv_has ls 1 [(0, .ref h)] := hl
  refine lv_aload_n hx hb d_checkUp_0 rfl (lv_at hl 0 rfl) ?_
  refine va_get (D := (dC, dI)) (ci := 0) (v := .int dn) (C := "LandBook") (T := F_LandBook) (N := 8) hx hb hts tu_LandBook hown hK hP 0 rfl rfl 6 (by decide) (hts _ tk_203) (fun _ h9 => h9) rfl d_checkUp_1 ?_
  refine lv_if_ne (tgt := 17) hx hb d_checkUp_4 (by decide) (fun h1 => ?_) (fun h1 => ?_)
  · obtain ⟨q3, z2⟩ := hE.2 (286, "no district, or it is down") (by decide)
    exact tw_throw (pc := 17) (k := 3) hx hb hfl hown (by decide) (hts _ tk_204) (hts _ tk_205) (hE.1 (84, "java/lang/IllegalStateException") (by decide)) z2 hno hlocks (hl.1.trans hml.symm) d_checkUp_17 d_checkUp_20 (Or.inr ⟨rfl, d_checkUp_21⟩) d_checkUp_24 d_checkUp_27 (by show 1 ≤ 1; decide) (by show 6 ≤ 6; decide) (Nat.le_of_ble_eq_true rfl) (Nat.le_of_ble_eq_true rfl) (fun t g1 g2 g3 g4 => ⟨(fun o => h1 o.1), rfl, g1, g2, g4⟩)
  · refine lv_aload_n hx hb d_checkUp_7 rfl (lv_at hl 0 rfl) ?_
    refine va_get (D := (dC, dI)) (ci := 0) (v := .ref rg) (C := "LandBook") (T := F_LandBook) (N := 8) hx hb hts tu_LandBook hown hK hP 0 rfl rfl 4 (by decide) (hts _ tk_159) (fun _ h9 => h9) rfl d_checkUp_8 ?_
    refine vp_callSi (W.runV (As := []) (rest := []) ⟨hx, hb, hml, hown, hts⟩ (c_Register_lotCount l dC dI rg q w0 w2 w3 w4 el mo k) (cwV 0 hts (tw_gV tk_206 tk_207 tk_208 tk_156 tk_209) rfl rfl rfl (by decide +kernel) ⟨Nat.le_of_ble_eq_true rfl, Nat.le_of_ble_eq_true rfl⟩) (tw_v2 (va_recv (q0 := 1) hK hP rfl rfl) (hP.sub (ws' := [(rg, .inr (4, [w0, .ref q, w2, w3, w4])), (q, .inr (6, [el, .int k, mo]))]) [1, 2] rfl) (hK.sub (tys' := []) [] rfl)) rfl rfl hl.1 rfl (lv_room (Nat.le_of_ble_eq_true rfl)) d_checkUp_11 ⟨by show 0 ≤ 1; decide, by show 0 ≤ 6; decide⟩) (fun r4 e5 => ?_)
    have e5 := e5.symm
    subst e5
    refine lv_if_ne (tgt := 28) hx hb d_checkUp_14 (by decide) (fun h6 => ?_) (fun h6 => ?_)
    · exact tw_ret (W.widen (k := 1) (n := 6) (by decide) (by decide) (W.vret hx hb hr (fun t ht hW => ⟨rfl, ⟨h1, h6⟩, ht⟩) (fun _ h => by cases h) d_checkUp_28))
    · obtain ⟨q8, z7⟩ := hE.2 (286, "no district, or it is down") (by decide)
      exact tw_throw (pc := 17) (k := 3) hx hb hfl hown (by decide) (hts _ tk_204) (hts _ tk_205) (hE.1 (84, "java/lang/IllegalStateException") (by decide)) z7 hno hlocks (hl.1.trans hml.symm) d_checkUp_17 d_checkUp_20 (Or.inr ⟨rfl, d_checkUp_21⟩) d_checkUp_24 d_checkUp_27 (by show 1 ≤ 1; decide) (by show 6 ≤ 6; decide) (Nat.le_of_ble_eq_true rfl) (Nat.le_of_ble_eq_true rfl) (fun t g1 g2 g3 g4 => ⟨(fun o => o.2 h6), rfl, g1, g2, g4⟩)
