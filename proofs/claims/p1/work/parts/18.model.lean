theorem tw_t {ok : Prop} {r : Int32} (h : (ok ∧ r = 1) ∨ (¬ ok ∧ r = 0)) (hr : ¬ r = 0) : ok := h.elim (fun a => a.1) (fun a => absurd a.2 hr)
theorem tw_f {ok : Prop} {r : Int32} (h : (ok ∧ r = 1) ∨ (¬ ok ∧ r = 0)) (hr : r = 0) : ¬ ok := h.elim (fun a => by rw [hr] at a; exact absurd a.2 (by decide)) (fun a => a.1)
abbrev y_M_isPoint : MethodName := ⟨"LandBookModel", "isPoint", "(II)Z"⟩
abbrev w_M_isPoint : List Cond := Cond.code y_M_isPoint prog_13_method_5_code 2 (some .boolean) :: tw_G
theorem d_M_isPoint_0 : decode prog_13_method_5_code 0 = .ok (.iload_n 0, 1) := by decide +kernel
theorem d_M_isPoint_1 : decode prog_13_method_5_code 1 = .ok (.ifCond .lt 25, 3) := by decide +kernel
theorem d_M_isPoint_26 : decode prog_13_method_5_code 26 = .ok (.iconst 0, 1) := by decide +kernel
theorem d_M_isPoint_27 : decode prog_13_method_5_code 27 = .ok (.ireturn, 1) := by decide +kernel
theorem d_M_isPoint_4 : decode prog_13_method_5_code 4 = .ok (.iload_n 0, 1) := by decide +kernel
theorem d_M_isPoint_5 : decode prog_13_method_5_code 5 = .ok (.sipush 20000, 3) := by decide +kernel
theorem d_M_isPoint_8 : decode prog_13_method_5_code 8 = .ok (.if_icmp .gt 18, 3) := by decide +kernel
theorem d_M_isPoint_11 : decode prog_13_method_5_code 11 = .ok (.iload_n 1, 1) := by decide +kernel
theorem d_M_isPoint_12 : decode prog_13_method_5_code 12 = .ok (.ifCond .lt 14, 3) := by decide +kernel
theorem d_M_isPoint_15 : decode prog_13_method_5_code 15 = .ok (.iload_n 1, 1) := by decide +kernel
theorem d_M_isPoint_16 : decode prog_13_method_5_code 16 = .ok (.sipush 20000, 3) := by decide +kernel
theorem d_M_isPoint_19 : decode prog_13_method_5_code 19 = .ok (.if_icmp .gt 7, 3) := by decide +kernel
theorem d_M_isPoint_22 : decode prog_13_method_5_code 22 = .ok (.iconst 1, 1) := by decide +kernel
theorem d_M_isPoint_23 : decode prog_13_method_5_code 23 = .ok (.goto 4, 3) := by decide +kernel
set_option maxHeartbeats 4000000 in
set_option maxRecDepth 100000 in
theorem c_M_isPoint (l : Launch) (a0 a1 : Int32) : Met l y_M_isPoint w_M_isPoint ({ frames := 0, cells := 0, slots := 0, locals := 0 }) (tw_P0 [.int a0, .int a1]) (vp_Si (fun r => ((¬ a0 < 0 ∧ ¬ 20000 < a0 ∧ ¬ a1 < 0 ∧ ¬ 20000 < a1) ∧ r = 1) ∨ (¬ (¬ a0 < 0 ∧ ¬ 20000 < a0 ∧ ¬ a1 < 0 ∧ ¬ 20000 < a1) ∧ r = 0))) 0 0 (fun _ => False) := by
  refine Met.ofW (cc := prog_13_method_5_code) (maxL := 2) (ret := (some .boolean)) (by decide) rfl ?_
  intro p e s m args below meth c s₁ B hml hv
  obtain ⟨rfl, -⟩ := hv
  have hx := B.exec
  have hb := B.bytes
  have hr := B.returns
  have hts : ∀ w ∈ tw_G, w.before _ s = true := fun w h => atoms_spec (ws := w_M_isPoint) B.pre w (List.mem_cons_of_mem _ h)
  have hown : s.vm.findClass "LandBookModel" = some m.cls := findClass_of_methodNamed B.named
  have hlocks := B.notSynchronized
  have hl := lv_entry ([.int a0, .int a1]) (n := 2) (Nat.le_of_ble_eq_true rfl)
  rw [lg_entry_eq]
  generalize (lg_sl ([.int a0, .int a1]) ++ List.replicate (2 - (lg_sl ([.int a0, .int a1])).length) Slot.unset).toArray = ls at hl ⊢
  have hl : lv_has ls 2 [(0, .int a0), (1, .int a1)] := hl
  refine lv_iload_n hx hb d_M_isPoint_0 rfl (lv_at hl 0 rfl) ?_
  refine lv_if_lt (tgt := 26) hx hb d_M_isPoint_1 (by decide) (fun h1 => ?_) (fun h1 => ?_)
  · refine lv_iconst (v := 0) hx hb d_M_isPoint_26 (by decide) ?_
    exact W.zret (v := 0) (ty := .boolean) hx hb hr (by rfl) (fun t ht hW => ⟨0, rfl, Or.inr ⟨fun o => o.1 h1, rfl⟩, ht⟩) (fun _ h => by cases h) d_M_isPoint_27
  · refine lv_iload_n hx hb d_M_isPoint_4 rfl (lv_at hl 0 rfl) ?_
    refine lv_sipush (v := 20000) hx hb d_M_isPoint_5 (by decide) ?_
    refine lv_icmp_gt (tgt := 26) hx hb d_M_isPoint_8 (by decide) (fun h2 => ?_) (fun h2 => ?_)
    · refine lv_iconst (v := 0) hx hb d_M_isPoint_26 (by decide) ?_
      exact W.zret (v := 0) (ty := .boolean) hx hb hr (by rfl) (fun t ht hW => ⟨0, rfl, Or.inr ⟨fun o => o.2.1 h2, rfl⟩, ht⟩) (fun _ h => by cases h) d_M_isPoint_27
    · refine lv_iload_n hx hb d_M_isPoint_11 rfl (lv_at hl 1 rfl) ?_
      refine lv_if_lt (tgt := 26) hx hb d_M_isPoint_12 (by decide) (fun h3 => ?_) (fun h3 => ?_)
      · refine lv_iconst (v := 0) hx hb d_M_isPoint_26 (by decide) ?_
        exact W.zret (v := 0) (ty := .boolean) hx hb hr (by rfl) (fun t ht hW => ⟨0, rfl, Or.inr ⟨fun o => o.2.2.1 h3, rfl⟩, ht⟩) (fun _ h => by cases h) d_M_isPoint_27
      · refine lv_iload_n hx hb d_M_isPoint_15 rfl (lv_at hl 1 rfl) ?_
        refine lv_sipush (v := 20000) hx hb d_M_isPoint_16 (by decide) ?_
        refine lv_icmp_gt (tgt := 26) hx hb d_M_isPoint_19 (by decide) (fun h4 => ?_) (fun h4 => ?_)
        · refine lv_iconst (v := 0) hx hb d_M_isPoint_26 (by decide) ?_
          exact W.zret (v := 0) (ty := .boolean) hx hb hr (by rfl) (fun t ht hW => ⟨0, rfl, Or.inr ⟨fun o => o.2.2.2 h4, rfl⟩, ht⟩) (fun _ h => by cases h) d_M_isPoint_27
        · refine lv_iconst (v := 1) hx hb d_M_isPoint_22 (by decide) ?_
          refine lv_goto (tgt := 27) hx hb d_M_isPoint_23 (by decide) ?_
          exact W.zret (v := 1) (ty := .boolean) hx hb hr (by rfl) (fun t ht hW => ⟨1, rfl, Or.inl ⟨⟨h1, h2, h3, h4⟩, rfl⟩, ht⟩) (fun _ h => by cases h) d_M_isPoint_27
abbrev y_M_isDay : MethodName := ⟨"LandBookModel", "isDay", "(I)Z"⟩
abbrev w_M_isDay : List Cond := Cond.code y_M_isDay prog_13_method_6_code 1 (some .boolean) :: tw_G
theorem d_M_isDay_0 : decode prog_13_method_6_code 0 = .ok (.iload_n 0, 1) := by decide +kernel
theorem d_M_isDay_1 : decode prog_13_method_6_code 1 = .ok (.ifCond .lt 14, 3) := by decide +kernel
theorem d_M_isDay_15 : decode prog_13_method_6_code 15 = .ok (.iconst 0, 1) := by decide +kernel
theorem d_M_isDay_16 : decode prog_13_method_6_code 16 = .ok (.ireturn, 1) := by decide +kernel
theorem d_M_isDay_4 : decode prog_13_method_6_code 4 = .ok (.iload_n 0, 1) := by decide +kernel
theorem d_M_isDay_5 : decode prog_13_method_6_code 5 = .ok (.sipush 30000, 3) := by decide +kernel
theorem d_M_isDay_8 : decode prog_13_method_6_code 8 = .ok (.if_icmp .gt 7, 3) := by decide +kernel
theorem d_M_isDay_11 : decode prog_13_method_6_code 11 = .ok (.iconst 1, 1) := by decide +kernel
theorem d_M_isDay_12 : decode prog_13_method_6_code 12 = .ok (.goto 4, 3) := by decide +kernel
set_option maxHeartbeats 4000000 in
set_option maxRecDepth 100000 in
theorem c_M_isDay (l : Launch) (a0 : Int32) : Met l y_M_isDay w_M_isDay ({ frames := 0, cells := 0, slots := 0, locals := 0 }) (tw_P0 [.int a0]) (vp_Si (fun r => True)) 0 0 (fun _ => False) := by
  refine Met.ofW (cc := prog_13_method_6_code) (maxL := 1) (ret := (some .boolean)) (by decide) rfl ?_
  intro p e s m args below meth c s₁ B hml hv
  obtain ⟨rfl, -⟩ := hv
  have hx := B.exec
  have hb := B.bytes
  have hr := B.returns
  have hts : ∀ w ∈ tw_G, w.before _ s = true := fun w h => atoms_spec (ws := w_M_isDay) B.pre w (List.mem_cons_of_mem _ h)
  have hown : s.vm.findClass "LandBookModel" = some m.cls := findClass_of_methodNamed B.named
  have hlocks := B.notSynchronized
  have hl := lv_entry ([.int a0]) (n := 1) (Nat.le_of_ble_eq_true rfl)
  rw [lg_entry_eq]
  generalize (lg_sl ([.int a0]) ++ List.replicate (1 - (lg_sl ([.int a0])).length) Slot.unset).toArray = ls at hl ⊢
  have hl : lv_has ls 1 [(0, .int a0)] := hl
  refine lv_iload_n hx hb d_M_isDay_0 rfl (lv_at hl 0 rfl) ?_
  refine lv_if_lt (tgt := 15) hx hb d_M_isDay_1 (by decide) (fun h1 => ?_) (fun h1 => ?_)
  · refine lv_iconst (v := 0) hx hb d_M_isDay_15 (by decide) ?_
    exact W.zret (v := 0) (ty := .boolean) hx hb hr (by rfl) (fun t ht hW => ⟨0, rfl, trivial, ht⟩) (fun _ h => by cases h) d_M_isDay_16
  · refine lv_iload_n hx hb d_M_isDay_4 rfl (lv_at hl 0 rfl) ?_
    refine lv_sipush (v := 30000) hx hb d_M_isDay_5 (by decide) ?_
    refine lv_icmp_gt (tgt := 15) hx hb d_M_isDay_8 (by decide) (fun h2 => ?_) (fun h2 => ?_)
    · refine lv_iconst (v := 0) hx hb d_M_isDay_15 (by decide) ?_
      exact W.zret (v := 0) (ty := .boolean) hx hb hr (by rfl) (fun t ht hW => ⟨0, rfl, trivial, ht⟩) (fun _ h => by cases h) d_M_isDay_16
    · refine lv_iconst (v := 1) hx hb d_M_isDay_11 (by decide) ?_
      refine lv_goto (tgt := 16) hx hb d_M_isDay_12 (by decide) ?_
      exact W.zret (v := 1) (ty := .boolean) hx hb hr (by rfl) (fun t ht hW => ⟨1, rfl, trivial, ht⟩) (fun _ h => by cases h) d_M_isDay_16
abbrev y_M_isPerson : MethodName := ⟨"LandBookModel", "isPerson", "(I)Z"⟩
abbrev w_M_isPerson : List Cond := Cond.code y_M_isPerson prog_13_method_56_code 1 (some .boolean) :: tw_G
theorem d_M_isPerson_0 : decode prog_13_method_56_code 0 = .ok (.iload_n 0, 1) := by decide +kernel
theorem d_M_isPerson_1 : decode prog_13_method_56_code 1 = .ok (.ifCond .lt 13, 3) := by decide +kernel
theorem d_M_isPerson_14 : decode prog_13_method_56_code 14 = .ok (.iconst 0, 1) := by decide +kernel
theorem d_M_isPerson_15 : decode prog_13_method_56_code 15 = .ok (.ireturn, 1) := by decide +kernel
theorem d_M_isPerson_4 : decode prog_13_method_56_code 4 = .ok (.iload_n 0, 1) := by decide +kernel
theorem d_M_isPerson_5 : decode prog_13_method_56_code 5 = .ok (.bipush 99, 2) := by decide +kernel
theorem d_M_isPerson_7 : decode prog_13_method_56_code 7 = .ok (.if_icmp .gt 7, 3) := by decide +kernel
theorem d_M_isPerson_10 : decode prog_13_method_56_code 10 = .ok (.iconst 1, 1) := by decide +kernel
theorem d_M_isPerson_11 : decode prog_13_method_56_code 11 = .ok (.goto 4, 3) := by decide +kernel
set_option maxHeartbeats 4000000 in
set_option maxRecDepth 100000 in
theorem c_M_isPerson (l : Launch) (a0 : Int32) : Met l y_M_isPerson w_M_isPerson ({ frames := 0, cells := 0, slots := 0, locals := 0 }) (tw_P0 [.int a0]) (vp_Si (fun r => True)) 0 0 (fun _ => False) := by
  refine Met.ofW (cc := prog_13_method_56_code) (maxL := 1) (ret := (some .boolean)) (by decide) rfl ?_
  intro p e s m args below meth c s₁ B hml hv
  obtain ⟨rfl, -⟩ := hv
  have hx := B.exec
  have hb := B.bytes
  have hr := B.returns
  have hts : ∀ w ∈ tw_G, w.before _ s = true := fun w h => atoms_spec (ws := w_M_isPerson) B.pre w (List.mem_cons_of_mem _ h)
  have hown : s.vm.findClass "LandBookModel" = some m.cls := findClass_of_methodNamed B.named
  have hlocks := B.notSynchronized
  have hl := lv_entry ([.int a0]) (n := 1) (Nat.le_of_ble_eq_true rfl)
  rw [lg_entry_eq]
  generalize (lg_sl ([.int a0]) ++ List.replicate (1 - (lg_sl ([.int a0])).length) Slot.unset).toArray = ls at hl ⊢
  have hl : lv_has ls 1 [(0, .int a0)] := hl
  refine lv_iload_n hx hb d_M_isPerson_0 rfl (lv_at hl 0 rfl) ?_
  refine lv_if_lt (tgt := 14) hx hb d_M_isPerson_1 (by decide) (fun h1 => ?_) (fun h1 => ?_)
  · refine lv_iconst (v := 0) hx hb d_M_isPerson_14 (by decide) ?_
    exact W.zret (v := 0) (ty := .boolean) hx hb hr (by rfl) (fun t ht hW => ⟨0, rfl, trivial, ht⟩) (fun _ h => by cases h) d_M_isPerson_15
  · refine lv_iload_n hx hb d_M_isPerson_4 rfl (lv_at hl 0 rfl) ?_
    refine lv_bipush (v := 99) hx hb d_M_isPerson_5 (by decide) ?_
    refine lv_icmp_gt (tgt := 14) hx hb d_M_isPerson_7 (by decide) (fun h2 => ?_) (fun h2 => ?_)
    · refine lv_iconst (v := 0) hx hb d_M_isPerson_14 (by decide) ?_
      exact W.zret (v := 0) (ty := .boolean) hx hb hr (by rfl) (fun t ht hW => ⟨0, rfl, trivial, ht⟩) (fun _ h => by cases h) d_M_isPerson_15
    · refine lv_iconst (v := 1) hx hb d_M_isPerson_10 (by decide) ?_
      refine lv_goto (tgt := 15) hx hb d_M_isPerson_11 (by decide) ?_
      exact W.zret (v := 1) (ty := .boolean) hx hb hr (by rfl) (fun t ht hW => ⟨1, rfl, trivial, ht⟩) (fun _ h => by cases h) d_M_isPerson_15
theorem tk_247 : (Jvm.Cond.methodLink "LandBookModel" (271 : Nat) ({ cls := "LandBookModel", name := "isDay", desc := "(I)Z" } : Jvm.MethodName)) ∈ tw_G := tw_in (List.mem_of_getElem? (i := 1242) (by decide +kernel)) rfl
theorem tk_248 : (Jvm.Cond.static ({ cls := "LandBookModel", name := "isDay", desc := "(I)Z" } : Jvm.MethodName)) ∈ tw_G := tw_in (List.mem_of_getElem? (i := 1243) (by decide +kernel)) rfl
theorem tk_249 : (Jvm.Cond.initialized "LandBookModel") ∈ tw_G := tw_in (List.mem_of_getElem? (i := 69) (by decide +kernel)) rfl
theorem tk_250 : (Jvm.Cond.code ({ cls := "LandBookModel", name := "isDay", desc := "(I)Z" } : Jvm.MethodName) prog_13_method_6_code (1 : Nat) (Option.some Jvm.ClassFile.FieldType.boolean)) ∈ tw_G := tw_in (List.mem_of_getElem? (i := 1244) (by decide +kernel)) rfl
abbrev y_M_isWhen : MethodName := ⟨"LandBookModel", "isWhen", "(II)Z"⟩
abbrev w_M_isWhen : List Cond := Cond.code y_M_isWhen prog_13_method_60_code 2 (some .boolean) :: tw_G
theorem d_M_isWhen_0 : decode prog_13_method_60_code 0 = .ok (.iload_n 0, 1) := by decide +kernel
theorem d_M_isWhen_1 : decode prog_13_method_60_code 1 = .ok (.invokestatic 271, 3) := by decide +kernel
theorem d_M_isWhen_4 : decode prog_13_method_60_code 4 = .ok (.ifCond .eq 11, 3) := by decide +kernel
theorem d_M_isWhen_15 : decode prog_13_method_60_code 15 = .ok (.iconst 0, 1) := by decide +kernel
theorem d_M_isWhen_16 : decode prog_13_method_60_code 16 = .ok (.ireturn, 1) := by decide +kernel
theorem d_M_isWhen_7 : decode prog_13_method_60_code 7 = .ok (.iload_n 1, 1) := by decide +kernel
theorem d_M_isWhen_8 : decode prog_13_method_60_code 8 = .ok (.ifCond .lt 7, 3) := by decide +kernel
theorem d_M_isWhen_11 : decode prog_13_method_60_code 11 = .ok (.iconst 1, 1) := by decide +kernel
theorem d_M_isWhen_12 : decode prog_13_method_60_code 12 = .ok (.goto 4, 3) := by decide +kernel
set_option maxHeartbeats 4000000 in
set_option maxRecDepth 100000 in
theorem c_M_isWhen (l : Launch) (a0 a1 : Int32) : Met l y_M_isWhen w_M_isWhen ({ frames := 1, cells := 0, slots := 0, locals := 20 }) (tw_P0 [.int a0, .int a1]) (vp_Si (fun r => True)) 0 0 (fun _ => False) := by
  refine Met.ofW (cc := prog_13_method_60_code) (maxL := 2) (ret := (some .boolean)) (by decide) rfl ?_
  intro p e s m args below meth c s₁ B hml hv
  obtain ⟨rfl, -⟩ := hv
  have hx := B.exec
  have hb := B.bytes
  have hr := B.returns
  have hts : ∀ w ∈ tw_G, w.before _ s = true := fun w h => atoms_spec (ws := w_M_isWhen) B.pre w (List.mem_cons_of_mem _ h)
  have hown : s.vm.findClass "LandBookModel" = some m.cls := findClass_of_methodNamed B.named
  have hlocks := B.notSynchronized
  have hl := lv_entry ([.int a0, .int a1]) (n := 2) (Nat.le_of_ble_eq_true rfl)
  rw [lg_entry_eq]
  generalize (lg_sl ([.int a0, .int a1]) ++ List.replicate (2 - (lg_sl ([.int a0, .int a1])).length) Slot.unset).toArray = ls at hl ⊢
  have hl : lv_has ls 2 [(0, .int a0), (1, .int a1)] := hl
  refine lv_iload_n hx hb d_M_isWhen_0 rfl (lv_at hl 0 rfl) ?_
  refine vp_callSi (W.runS (As := [.int a0]) (rest := []) ⟨hx, hb, hml, hown, hts⟩ (c_M_isDay l (a0)) (va_cwS 1 hts (tw_gS tk_247 tk_248 tk_249 tk_250) rfl rfl rfl (by decide +kernel) ⟨Nat.le_of_ble_eq_true rfl, Nat.le_of_ble_eq_true rfl⟩) tw_s0 rfl rfl hl.1 rfl (lv_room (Nat.le_of_ble_eq_true rfl)) d_M_isWhen_1 ⟨by show 0 ≤ 0; decide, by show 0 ≤ 0; decide⟩) (fun r1 e2 => ?_)
  refine lv_if_eq (tgt := 15) hx hb d_M_isWhen_4 (by decide) (fun h3 => ?_) (fun h3 => ?_)
  · refine lv_iconst (v := 0) hx hb d_M_isWhen_15 (by decide) ?_
    exact W.zret (v := 0) (ty := .boolean) hx hb hr (by rfl) (fun t ht hW => ⟨0, rfl, trivial, ht⟩) (fun _ h => by cases h) d_M_isWhen_16
  · refine lv_iload_n hx hb d_M_isWhen_7 rfl (lv_at hl 1 rfl) ?_
    refine lv_if_lt (tgt := 15) hx hb d_M_isWhen_8 (by decide) (fun h4 => ?_) (fun h4 => ?_)
    · refine lv_iconst (v := 0) hx hb d_M_isWhen_15 (by decide) ?_
      exact W.zret (v := 0) (ty := .boolean) hx hb hr (by rfl) (fun t ht hW => ⟨0, rfl, trivial, ht⟩) (fun _ h => by cases h) d_M_isWhen_16
    · refine lv_iconst (v := 1) hx hb d_M_isWhen_11 (by decide) ?_
      refine lv_goto (tgt := 16) hx hb d_M_isWhen_12 (by decide) ?_
      exact W.zret (v := 1) (ty := .boolean) hx hb hr (by rfl) (fun t ht hW => ⟨1, rfl, trivial, ht⟩) (fun _ h => by cases h) d_M_isWhen_16
theorem tk_251 : (Jvm.Cond.fieldLink "LandBookModel" (98 : Nat) "LandBookModel" "thrown" "I") ∈ tw_G := tw_in (List.mem_of_getElem? (i := 1046) (by decide +kernel)) rfl
abbrev y_M_thrown : MethodName := ⟨"LandBookModel", "thrown", "()I"⟩
abbrev w_M_thrown : List Cond := Cond.code y_M_thrown prog_13_method_2_code 1 (some .int) :: tw_G
theorem d_M_thrown_0 : decode prog_13_method_2_code 0 = .ok (.aload_n 0, 1) := by decide +kernel
theorem d_M_thrown_1 : decode prog_13_method_2_code 1 = .ok (.getfield 98, 3) := by decide +kernel
theorem d_M_thrown_4 : decode prog_13_method_2_code 4 = .ok (.ireturn, 1) := by decide +kernel
set_option maxHeartbeats 4000000 in
set_option maxRecDepth 100000 in
theorem c_M_thrown (l : Launch) (dC : Nat → ClassId) (dI : Nat → Nat → Nat) (hm : Nat) (t0 : Int32) (fs : List Value) : Met l y_M_thrown w_M_thrown ({ frames := 0, cells := 0, slots := 0, locals := 0 }) (tw_P2 (dC, dI) classes [(hm, .inr (7, .int t0 :: fs))] [] [.ref hm]) (vp_Si (fun r => r = t0)) 0 0 (fun _ => False) := by
  refine Met.ofW (cc := prog_13_method_2_code) (maxL := 1) (ret := (some .int)) (by decide) rfl ?_
  intro p e s m args below meth c s₁ B hml hv
  obtain ⟨rfl, hP, hK⟩ := hv
  have hx := B.exec
  have hb := B.bytes
  have hr := B.returns
  have hts : ∀ w ∈ tw_G, w.before _ s = true := fun w h => atoms_spec (ws := w_M_thrown) B.pre w (List.mem_cons_of_mem _ h)
  have hown : s.vm.findClass "LandBookModel" = some m.cls := findClass_of_methodNamed B.named
  have hlocks := B.notSynchronized
  have hP : va_P (dC, dI) classes [(hm, .inr (7, .int t0 :: fs))] s.heap := hP
  have hl := lv_entry ([.ref hm]) (n := 1) (Nat.le_of_ble_eq_true rfl)
  rw [lg_entry_eq]
  generalize (lg_sl ([.ref hm]) ++ List.replicate (1 - (lg_sl ([.ref hm])).length) Slot.unset).toArray = ls at hl ⊢
  have hl : lv_has ls 1 [(0, .ref hm)] := hl
  refine lv_aload_n hx hb d_M_thrown_0 rfl (lv_at hl 0 rfl) ?_
  refine va_get (D := (dC, dI)) (ci := 7) (v := .int t0) (C := "LandBookModel") (T := F_LandBookModel) (N := 42) hx hb hts tu_LandBookModel hown hK hP 0 rfl rfl 0 (by decide) (hts _ tk_251) (fun _ h9 => h9) rfl d_M_thrown_1 ?_
  exact W.iret (v := t0) hx hb hr (fun t ht hW => ⟨t0, rfl, rfl, ht⟩) (fun _ h => by cases h) d_M_thrown_4
theorem tk_252 : (Jvm.Cond.fieldLink "LandBookModel" (152 : Nat) "LandBookModel" "opened" "Z") ∈ tw_G := tw_in (List.mem_of_getElem? (i := 1047) (by decide +kernel)) rfl
abbrev y_M_isUp : MethodName := ⟨"LandBookModel", "isUp", "()Z"⟩
abbrev w_M_isUp : List Cond := Cond.code y_M_isUp prog_13_method_39_code 1 (some .boolean) :: tw_G
theorem d_M_isUp_0 : decode prog_13_method_39_code 0 = .ok (.aload_n 0, 1) := by decide +kernel
theorem d_M_isUp_1 : decode prog_13_method_39_code 1 = .ok (.getfield 152, 3) := by decide +kernel
theorem d_M_isUp_4 : decode prog_13_method_39_code 4 = .ok (.ifCond .eq 14, 3) := by decide +kernel
theorem d_M_isUp_18 : decode prog_13_method_39_code 18 = .ok (.iconst 0, 1) := by decide +kernel
theorem d_M_isUp_19 : decode prog_13_method_39_code 19 = .ok (.ireturn, 1) := by decide +kernel
set_option maxHeartbeats 4000000 in
set_option maxRecDepth 100000 in
theorem c_M_isUp (l : Launch) (dC : Nat → ClassId) (dI : Nat → Nat → Nat) (hm : Nat) (t0 : Int32) (m5 m6 m8 m9 m10 m11 m12 m13 m14 m16 m17 m18 m19 m20 m21 m22 m23 m24 m26 m27 m28 m29 m32 m34 m35 m37 m38 m40 m41 : Value) : Met l y_M_isUp w_M_isUp ({ frames := 0, cells := 0, slots := 0, locals := 0 }) (tw_P2 (dC, dI) classes [(hm, .inr (7, [.int t0, .int 0, .int 0, .int 0, .int 0, m5, m6, .int 0, m8, m9, m10, m11, m12, m13, m14, .int 0, m16, m17, m18, m19, m20, m21, m22, m23, m24, .int 0, m26, m27, m28, m29, .int 0, .int 0, m32, .int 0, m34, m35, .int 0, m37, m38, .int 0, m40, m41]))] [] [.ref hm]) (vp_Si (fun r => r = 0)) 0 0 (fun _ => False) := by
  refine Met.ofW (cc := prog_13_method_39_code) (maxL := 1) (ret := (some .boolean)) (by decide) rfl ?_
  intro p e s m args below meth c s₁ B hml hv
  obtain ⟨rfl, hP, hK⟩ := hv
  have hx := B.exec
  have hb := B.bytes
  have hr := B.returns
  have hts : ∀ w ∈ tw_G, w.before _ s = true := fun w h => atoms_spec (ws := w_M_isUp) B.pre w (List.mem_cons_of_mem _ h)
  have hown : s.vm.findClass "LandBookModel" = some m.cls := findClass_of_methodNamed B.named
  have hlocks := B.notSynchronized
  have hP : va_P (dC, dI) classes [(hm, .inr (7, [.int t0, .int 0, .int 0, .int 0, .int 0, m5, m6, .int 0, m8, m9, m10, m11, m12, m13, m14, .int 0, m16, m17, m18, m19, m20, m21, m22, m23, m24, .int 0, m26, m27, m28, m29, .int 0, .int 0, m32, .int 0, m34, m35, .int 0, m37, m38, .int 0, m40, m41]))] s.heap := hP
  have hl := lv_entry ([.ref hm]) (n := 1) (Nat.le_of_ble_eq_true rfl)
  rw [lg_entry_eq]
  generalize (lg_sl ([.ref hm]) ++ List.replicate (1 - (lg_sl ([.ref hm])).length) Slot.unset).toArray = ls at hl ⊢
  have hl : lv_has ls 1 [(0, .ref hm)] := hl
  refine lv_aload_n hx hb d_M_isUp_0 rfl (lv_at hl 0 rfl) ?_
  refine va_get (D := (dC, dI)) (ci := 7) (v := .int 0) (C := "LandBookModel") (T := F_LandBookModel) (N := 42) hx hb hts tu_LandBookModel hown hK hP 0 rfl rfl 1 (by decide) (hts _ tk_252) (fun _ h9 => h9) rfl d_M_isUp_1 ?_
  refine lv_if_eq (tgt := 18) hx hb d_M_isUp_4 (by decide) (fun h1 => ?_) (fun h1 => absurd (by decide) h1)
  refine lv_iconst (v := 0) hx hb d_M_isUp_18 (by decide) ?_
  exact W.zret (v := 0) (ty := .boolean) hx hb hr (by rfl) (fun t ht hW => ⟨0, rfl, rfl, ht⟩) (fun _ h => by cases h) d_M_isUp_19
theorem tk_253 : (Jvm.Cond.methodLink "LandBookModel" (264 : Nat) ({ cls := "LandBookModel", name := "isUp", desc := "()Z" } : Jvm.MethodName)) ∈ tw_G := tw_in (List.mem_of_getElem? (i := 1234) (by decide +kernel)) rfl
theorem tk_254 : (Jvm.Cond.instanceMethod ({ cls := "LandBookModel", name := "isUp", desc := "()Z" } : Jvm.MethodName)) ∈ tw_G := tw_in (List.mem_of_getElem? (i := 1236) (by decide +kernel)) rfl
theorem tk_255 : (Jvm.Cond.selects "LandBookModel" ⟨"LandBookModel", "isUp", "()Z"⟩ ⟨"LandBookModel", "isUp", "()Z"⟩) ∈ tw_G := tw_in (List.mem_of_getElem? (i := 26) (by decide +kernel)) rfl
theorem tk_256 : (Jvm.Cond.code ({ cls := "LandBookModel", name := "isUp", desc := "()Z" } : Jvm.MethodName) prog_13_method_39_code (1 : Nat) (Option.some Jvm.ClassFile.FieldType.boolean)) ∈ tw_G := tw_in (List.mem_of_getElem? (i := 1237) (by decide +kernel)) rfl
abbrev y_M_wrong : MethodName := ⟨"LandBookModel", "wrong", "(IIIZ)I"⟩
abbrev w_M_wrong : List Cond := Cond.code y_M_wrong prog_13_method_62_code 5 (some .int) :: tw_G
theorem d_M_wrong_0 : decode prog_13_method_62_code 0 = .ok (.aload_n 0, 1) := by decide +kernel
theorem d_M_wrong_1 : decode prog_13_method_62_code 1 = .ok (.invokevirtual 264, 3) := by decide +kernel
theorem d_M_wrong_4 : decode prog_13_method_62_code 4 = .ok (.ifCond .ne 7, 3) := by decide +kernel
theorem d_M_wrong_7 : decode prog_13_method_62_code 7 = .ok (.iconst 1, 1) := by decide +kernel
theorem d_M_wrong_8 : decode prog_13_method_62_code 8 = .ok (.goto 33, 3) := by decide +kernel
theorem d_M_wrong_41 : decode prog_13_method_62_code 41 = .ok (.ireturn, 1) := by decide +kernel
set_option maxHeartbeats 4000000 in
set_option maxRecDepth 100000 in
theorem c_M_wrong (l : Launch) (dC : Nat → ClassId) (dI : Nat → Nat → Nat) (hm : Nat) (t0 : Int32) (m5 m6 m8 m9 m10 m11 m12 m13 m14 m16 m17 m18 m19 m20 m21 m22 m23 m24 m26 m27 m28 m29 m32 m34 m35 m37 m38 m40 m41 : Value) (a0 a1 a2 a3 : Int32) : Met l y_M_wrong w_M_wrong ({ frames := 1, cells := 0, slots := 0, locals := 20 }) (tw_P2 (dC, dI) classes [(hm, .inr (7, [.int t0, .int 0, .int 0, .int 0, .int 0, m5, m6, .int 0, m8, m9, m10, m11, m12, m13, m14, .int 0, m16, m17, m18, m19, m20, m21, m22, m23, m24, .int 0, m26, m27, m28, m29, .int 0, .int 0, m32, .int 0, m34, m35, .int 0, m37, m38, .int 0, m40, m41]))] [] [.ref hm, .int a0, .int a1, .int a2, .int a3]) (vp_Si (fun r => r = 1)) 0 0 (fun _ => False) := by
  refine Met.ofW (cc := prog_13_method_62_code) (maxL := 5) (ret := (some .int)) (by decide) rfl ?_
  intro p e s m args below meth c s₁ B hml hv
  obtain ⟨rfl, hP, hK⟩ := hv
  have hx := B.exec
  have hb := B.bytes
  have hr := B.returns
  have hts : ∀ w ∈ tw_G, w.before _ s = true := fun w h => atoms_spec (ws := w_M_wrong) B.pre w (List.mem_cons_of_mem _ h)
  have hown : s.vm.findClass "LandBookModel" = some m.cls := findClass_of_methodNamed B.named
  have hlocks := B.notSynchronized
  have hP : va_P (dC, dI) classes [(hm, .inr (7, [.int t0, .int 0, .int 0, .int 0, .int 0, m5, m6, .int 0, m8, m9, m10, m11, m12, m13, m14, .int 0, m16, m17, m18, m19, m20, m21, m22, m23, m24, .int 0, m26, m27, m28, m29, .int 0, .int 0, m32, .int 0, m34, m35, .int 0, m37, m38, .int 0, m40, m41]))] s.heap := hP
  have hl := lv_entry ([.ref hm, .int a0, .int a1, .int a2, .int a3]) (n := 5) (Nat.le_of_ble_eq_true rfl)
  rw [lg_entry_eq]
  generalize (lg_sl ([.ref hm, .int a0, .int a1, .int a2, .int a3]) ++ List.replicate (5 - (lg_sl ([.ref hm, .int a0, .int a1, .int a2, .int a3])).length) Slot.unset).toArray = ls at hl ⊢
  have hl : lv_has ls 5 [(0, .ref hm), (1, .int a0), (2, .int a1), (3, .int a2), (4, .int a3)] := hl
  refine lv_aload_n hx hb d_M_wrong_0 rfl (lv_at hl 0 rfl) ?_
  refine vp_callSi (W.runV (As := []) (rest := []) ⟨hx, hb, hml, hown, hts⟩ (c_M_isUp l dC dI hm t0 m5 m6 m8 m9 m10 m11 m12 m13 m14 m16 m17 m18 m19 m20 m21 m22 m23 m24 m26 m27 m28 m29 m32 m34 m35 m37 m38 m40 m41) (cwV 0 hts (tw_gV tk_253 tk_254 tk_255 tk_249 tk_256) rfl rfl rfl (by decide +kernel) ⟨Nat.le_of_ble_eq_true rfl, Nat.le_of_ble_eq_true rfl⟩) (tw_v2 (va_recv (q0 := 0) hK hP rfl rfl) (hP.sub (ws' := [(hm, .inr (7, [.int t0, .int 0, .int 0, .int 0, .int 0, m5, m6, .int 0, m8, m9, m10, m11, m12, m13, m14, .int 0, m16, m17, m18, m19, m20, m21, m22, m23, m24, .int 0, m26, m27, m28, m29, .int 0, .int 0, m32, .int 0, m34, m35, .int 0, m37, m38, .int 0, m40, m41]))]) [0] rfl) (hK.sub (tys' := []) [] rfl)) rfl rfl hl.1 rfl (lv_room (Nat.le_of_ble_eq_true rfl)) d_M_wrong_1 ⟨by show 0 ≤ 0; decide, by show 0 ≤ 0; decide⟩) (fun r1 e2 => ?_)
  have e2 := e2.symm
  subst e2
  refine lv_if_ne (tgt := 11) hx hb d_M_wrong_4 (by decide) (fun h3 => absurd (by decide) h3) (fun h3 => ?_)
  refine lv_iconst (v := 1) hx hb d_M_wrong_7 (by decide) ?_
  refine lv_goto (tgt := 41) hx hb d_M_wrong_8 (by decide) ?_
  exact W.iret (v := 1) hx hb hr (fun t ht hW => ⟨1, rfl, rfl, ht⟩) (fun _ h => by cases h) d_M_wrong_41
theorem tk_257 : (Jvm.Cond.methodLink "LandBookModel" (102 : Nat) ({ cls := "LandBookModel", name := "isPoint", desc := "(II)Z" } : Jvm.MethodName)) ∈ tw_G := tw_in (List.mem_of_getElem? (i := 1181) (by decide +kernel)) rfl
theorem tk_258 : (Jvm.Cond.static ({ cls := "LandBookModel", name := "isPoint", desc := "(II)Z" } : Jvm.MethodName)) ∈ tw_G := tw_in (List.mem_of_getElem? (i := 1182) (by decide +kernel)) rfl
theorem tk_259 : (Jvm.Cond.code ({ cls := "LandBookModel", name := "isPoint", desc := "(II)Z" } : Jvm.MethodName) prog_13_method_5_code (2 : Nat) (Option.some Jvm.ClassFile.FieldType.boolean)) ∈ tw_G := tw_in (List.mem_of_getElem? (i := 1183) (by decide +kernel)) rfl
theorem tk_260 : (Jvm.Cond.fieldLink "LandBookModel" (106 : Nat) "LandBookModel" "rowSize" "I") ∈ tw_G := tw_in (List.mem_of_getElem? (i := 1050) (by decide +kernel)) rfl
abbrev y_M_point : MethodName := ⟨"LandBookModel", "point", "(II)I"⟩
abbrev w_M_point : List Cond := Cond.code y_M_point prog_13_method_7_code 3 (some .int) :: tw_G
theorem d_M_point_0 : decode prog_13_method_7_code 0 = .ok (.aload_n 0, 1) := by decide +kernel
theorem d_M_point_1 : decode prog_13_method_7_code 1 = .ok (.iload_n 1, 1) := by decide +kernel
theorem d_M_point_2 : decode prog_13_method_7_code 2 = .ok (.iload_n 2, 1) := by decide +kernel
theorem d_M_point_3 : decode prog_13_method_7_code 3 = .ok (.invokestatic 102, 3) := by decide +kernel
theorem d_M_point_6 : decode prog_13_method_7_code 6 = .ok (.ifCond .ne 7, 3) := by decide +kernel
theorem d_M_point_13 : decode prog_13_method_7_code 13 = .ok (.aload_n 0, 1) := by decide +kernel
theorem d_M_point_14 : decode prog_13_method_7_code 14 = .ok (.getfield 106, 3) := by decide +kernel
theorem d_M_point_17 : decode prog_13_method_7_code 17 = .ok (.bipush 32, 2) := by decide +kernel
theorem d_M_point_19 : decode prog_13_method_7_code 19 = .ok (.if_icmp .ne 7, 3) := by decide +kernel
theorem d_M_point_26 : decode prog_13_method_7_code 26 = .ok (.iconst 0, 1) := by decide +kernel
theorem d_M_point_27 : decode prog_13_method_7_code 27 = .ok (.putfield 98, 3) := by decide +kernel
theorem d_M_point_30 : decode prog_13_method_7_code 30 = .ok (.aload_n 0, 1) := by decide +kernel
theorem d_M_point_31 : decode prog_13_method_7_code 31 = .ok (.getfield 98, 3) := by decide +kernel
theorem d_M_point_34 : decode prog_13_method_7_code 34 = .ok (.ifCond .le 5, 3) := by decide +kernel
theorem d_M_point_39 : decode prog_13_method_7_code 39 = .ok (.aload_n 0, 1) := by decide +kernel
theorem d_M_point_40 : decode prog_13_method_7_code 40 = .ok (.getfield 7, 3) := by decide +kernel
theorem d_M_point_43 : decode prog_13_method_7_code 43 = .ok (.aload_n 0, 1) := by decide +kernel
theorem d_M_point_44 : decode prog_13_method_7_code 44 = .ok (.getfield 106, 3) := by decide +kernel
theorem d_M_point_47 : decode prog_13_method_7_code 47 = .ok (.iload_n 1, 1) := by decide +kernel
theorem d_M_point_48 : decode prog_13_method_7_code 48 = .ok (.iastore, 1) := by decide +kernel
theorem d_M_point_49 : decode prog_13_method_7_code 49 = .ok (.aload_n 0, 1) := by decide +kernel
theorem d_M_point_50 : decode prog_13_method_7_code 50 = .ok (.getfield 13, 3) := by decide +kernel
theorem d_M_point_53 : decode prog_13_method_7_code 53 = .ok (.aload_n 0, 1) := by decide +kernel
theorem d_M_point_54 : decode prog_13_method_7_code 54 = .ok (.getfield 106, 3) := by decide +kernel
theorem d_M_point_57 : decode prog_13_method_7_code 57 = .ok (.iload_n 2, 1) := by decide +kernel
theorem d_M_point_58 : decode prog_13_method_7_code 58 = .ok (.iastore, 1) := by decide +kernel
theorem d_M_point_59 : decode prog_13_method_7_code 59 = .ok (.aload_n 0, 1) := by decide +kernel
theorem d_M_point_60 : decode prog_13_method_7_code 60 = .ok (.dup, 1) := by decide +kernel
theorem d_M_point_61 : decode prog_13_method_7_code 61 = .ok (.getfield 106, 3) := by decide +kernel
theorem d_M_point_64 : decode prog_13_method_7_code 64 = .ok (.iconst 1, 1) := by decide +kernel
theorem d_M_point_65 : decode prog_13_method_7_code 65 = .ok (.iadd, 1) := by decide +kernel
theorem d_M_point_66 : decode prog_13_method_7_code 66 = .ok (.putfield 106, 3) := by decide +kernel
theorem d_M_point_69 : decode prog_13_method_7_code 69 = .ok (.aload_n 0, 1) := by decide +kernel
theorem d_M_point_70 : decode prog_13_method_7_code 70 = .ok (.getfield 106, 3) := by decide +kernel
theorem d_M_point_73 : decode prog_13_method_7_code 73 = .ok (.ireturn, 1) := by decide +kernel
theorem d_M_point_9 : decode prog_13_method_7_code 9 = .ok (.iconst 1, 1) := by decide +kernel
theorem d_M_point_10 : decode prog_13_method_7_code 10 = .ok (.goto 17, 3) := by decide +kernel
theorem d_M_point_37 : decode prog_13_method_7_code 37 = .ok (.iconst 0, 1) := by decide +kernel
theorem d_M_point_38 : decode prog_13_method_7_code 38 = .ok (.ireturn, 1) := by decide +kernel
set_option maxHeartbeats 4000000 in
set_option maxRecDepth 100000 in
theorem c_M_point (l : Launch) (dC : Nat → ClassId) (dI : Nat → Nat → Nat) (hm sz rx ry : Nat) (cI cJ : ClassId) (fx fy : Nat → Int32) (t0 : Int32) (m8 m9 m10 m11 m12 m13 m14 m16 m17 m18 m19 m20 m21 m22 m23 m24 m26 m27 m28 m29 m32 m34 m35 m37 m38 m40 m41 : Value) (a0 a1 : Int32) : Met l y_M_point w_M_point ({ frames := 1, cells := 0, slots := 0, locals := 21 }) (tw_P4 (dC, dI) classes [(hm, .inr (7, [.int t0, .int 0, .int 0, .int 0, .int 0, .ref rx, .ref ry, .int 0, m8, m9, m10, m11, m12, m13, m14, .int 0, m16, m17, m18, m19, m20, m21, m22, m23, m24, .int 0, m26, m27, m28, m29, .int 0, .int 0, m32, .int 0, m34, m35, .int 0, m37, m38, .int 0, m40, m41])), (rx, .inl (cI, 32, .inl (fx))), (ry, .inl (cJ, 32, .inl (fy)))] [(cI, .int), (cJ, .int)] sz [.ref hm, .int a0, .int a1]) (va_Qi (fun (r : Int32) (u : Int32 × List Value) => ((¬ a0 < 0 ∧ ¬ 20000 < a0 ∧ ¬ a1 < 0 ∧ ¬ 20000 < a1) ∧ r = 1 ∧ u.1 = 0) ∨ (¬ (¬ a0 < 0 ∧ ¬ 20000 < a0 ∧ ¬ a1 < 0 ∧ ¬ 20000 < a1) ∧ u.1 = 1)) (fun u => tw_B dC dI (va_A [(hm, .inr (7, [.int t0, .int 0, .int 0, .int 0, .int 0, .ref rx, .ref ry, .int 0, m8, m9, m10, m11, m12, m13, m14, .int 0, m16, m17, m18, m19, m20, m21, m22, m23, m24, .int 0, m26, m27, m28, m29, .int 0, .int 0, m32, .int 0, m34, m35, .int 0, m37, m38, .int 0, m40, m41])), (rx, .inl (cI, 32, .inl (fx))), (ry, .inl (cJ, 32, .inl (fy)))] sz) [(hm, .inr (7, .int u.1 :: u.2))] []) (va_A [(hm, .inr (7, [.int t0, .int 0, .int 0, .int 0, .int 0, .ref rx, .ref ry, .int 0, m8, m9, m10, m11, m12, m13, m14, .int 0, m16, m17, m18, m19, m20, m21, m22, m23, m24, .int 0, m26, m27, m28, m29, .int 0, .int 0, m32, .int 0, m34, m35, .int 0, m37, m38, .int 0, m40, m41])), (rx, .inl (cI, 32, .inl (fx))), (ry, .inl (cJ, 32, .inl (fy)))] sz)) 0 0 (va_A [(hm, .inr (7, [.int t0, .int 0, .int 0, .int 0, .int 0, .ref rx, .ref ry, .int 0, m8, m9, m10, m11, m12, m13, m14, .int 0, m16, m17, m18, m19, m20, m21, m22, m23, m24, .int 0, m26, m27, m28, m29, .int 0, .int 0, m32, .int 0, m34, m35, .int 0, m37, m38, .int 0, m40, m41])), (rx, .inl (cI, 32, .inl (fx))), (ry, .inl (cJ, 32, .inl (fy)))] sz) := by
  refine Met.ofW (cc := prog_13_method_7_code) (maxL := 3) (ret := (some .int)) (by decide) rfl ?_
  intro p e s m args below meth c s₁ B hml hv
  obtain ⟨rfl, hsz, hP, hK, hD0⟩ := hv
  have hx := B.exec
  have hb := B.bytes
  have hr := B.returns
  have hts : ∀ w ∈ tw_G, w.before _ s = true := fun w h => atoms_spec (ws := w_M_point) B.pre w (List.mem_cons_of_mem _ h)
  have hown : s.vm.findClass "LandBookModel" = some m.cls := findClass_of_methodNamed B.named
  have hlocks := B.notSynchronized
  subst hsz
  have hD := hD0.self (sz := s.heap.size)
  generalize hAe : va_A [(hm, .inr (7, [.int t0, .int 0, .int 0, .int 0, .int 0, .ref rx, .ref ry, .int 0, m8, m9, m10, m11, m12, m13, m14, .int 0, m16, m17, m18, m19, m20, m21, m22, m23, m24, .int 0, m26, m27, m28, m29, .int 0, .int 0, m32, .int 0, m34, m35, .int 0, m37, m38, .int 0, m40, m41])), (rx, .inl (cI, 32, .inl (fx))), (ry, .inl (cJ, 32, .inl (fy)))] s.heap.size = A at hD ⊢
  have hA : ∀ q : Nat, s.heap.size ≤ q → A q := fun q h => by rw [← hAe]; exact Or.inr h
  have hS : va_S A s.heap s.heap [] := va_S.rf
  have hP : va_P (dC, dI) classes [(hm, .inr (7, [.int t0, .int 0, .int 0, .int 0, .int 0, .ref rx, .ref ry, .int 0, m8, m9, m10, m11, m12, m13, m14, .int 0, m16, m17, m18, m19, m20, m21, m22, m23, m24, .int 0, m26, m27, m28, m29, .int 0, .int 0, m32, .int 0, m34, m35, .int 0, m37, m38, .int 0, m40, m41])), (rx, .inl (cI, 32, .inl (fx))), (ry, .inl (cJ, 32, .inl (fy)))] s.heap := hP
  have hl := lv_entry ([.ref hm, .int a0, .int a1]) (n := 3) (Nat.le_of_ble_eq_true rfl)
  rw [lg_entry_eq]
  generalize (lg_sl ([.ref hm, .int a0, .int a1]) ++ List.replicate (3 - (lg_sl ([.ref hm, .int a0, .int a1])).length) Slot.unset).toArray = ls at hl ⊢
  have hl : lv_has ls 3 [(0, .ref hm), (1, .int a0), (2, .int a1)] := hl
  refine lv_aload_n hx hb d_M_point_0 rfl (lv_at hl 0 rfl) ?_
  refine lv_iload_n hx hb d_M_point_1 rfl (lv_at hl 1 rfl) ?_
  refine lv_iload_n hx hb d_M_point_2 rfl (lv_at hl 2 rfl) ?_
  refine vp_callSi (W.runS (As := [.int a0, .int a1]) (rest := [.ref hm]) ⟨hx, hb, hml, hown, hts⟩ (c_M_isPoint l (a0) (a1)) (va_cwS 2 hts (tw_gS tk_257 tk_258 tk_249 tk_259) rfl rfl rfl (by decide +kernel) ⟨Nat.le_of_ble_eq_true rfl, Nat.le_of_ble_eq_true rfl⟩) tw_s0 rfl rfl hl.1 rfl (lv_room (Nat.le_of_ble_eq_true rfl)) d_M_point_3 ⟨by show 0 ≤ 0; decide, by show 0 ≤ 0; decide⟩) (fun r1 e2 => ?_)
  refine lv_if_ne (tgt := 13) hx hb d_M_point_6 (by decide) (fun h3 => ?_) (fun h3 => ?_)
  · refine lv_aload_n hx hb d_M_point_13 rfl (lv_at hl 0 rfl) ?_
    refine va_get (D := (dC, dI)) (ci := 7) (v := .int 0) (C := "LandBookModel") (T := F_LandBookModel) (N := 42) hx hb hts tu_LandBookModel hown hK hP 0 rfl rfl 4 (by decide) (hts _ tk_260) (fun _ h9 => h9) rfl d_M_point_14 ?_
    refine lv_bipush (v := 32) hx hb d_M_point_17 (by decide) ?_
    refine lv_icmp_ne (tgt := 26) hx hb d_M_point_19 (by decide) (fun h4 => ?_) (fun h4 => absurd h4 (by decide))
    refine lv_iconst (v := 0) hx hb d_M_point_26 (by decide) ?_
    refine va_put (D := (dC, dI)) (ci := 7) (v := .int 0) (ty := .int) (C := "LandBookModel") (T := F_LandBookModel) (N := 42) hx hb hts tu_LandBookModel t_LandBookModel t_LandBookModel_ok n_LandBookModel hown hK hP hD hS 0 rfl rfl 0 (by decide) (hts _ tk_251) (fun _ h9 => h9) rfl (by decide +kernel) rfl rfl (Nat.le_of_ble_eq_true rfl) d_M_point_27 (fun H locs hP hD hS => ?_)
    have hP : va_P (dC, dI) classes [(hm, .inr (7, [.int 0, .int 0, .int 0, .int 0, .int 0, .ref rx, .ref ry, .int 0, m8, m9, m10, m11, m12, m13, m14, .int 0, m16, m17, m18, m19, m20, m21, m22, m23, m24, .int 0, m26, m27, m28, m29, .int 0, .int 0, m32, .int 0, m34, m35, .int 0, m37, m38, .int 0, m40, m41])), (rx, .inl (cI, 32, .inl (fx))), (ry, .inl (cJ, 32, .inl (fy)))] H := hP
    have hD : va_D A [(hm, .inr (7, [.int 0, .int 0, .int 0, .int 0, .int 0, .ref rx, .ref ry, .int 0, m8, m9, m10, m11, m12, m13, m14, .int 0, m16, m17, m18, m19, m20, m21, m22, m23, m24, .int 0, m26, m27, m28, m29, .int 0, .int 0, m32, .int 0, m34, m35, .int 0, m37, m38, .int 0, m40, m41])), (rx, .inl (cI, 32, .inl (fx))), (ry, .inl (cJ, 32, .inl (fy)))] := hD
    refine lv_aload_n hx hb d_M_point_30 rfl (lv_at hl 0 rfl) ?_
    refine va_get (D := (dC, dI)) (ci := 7) (v := .int 0) (C := "LandBookModel") (T := F_LandBookModel) (N := 42) hx hb hts tu_LandBookModel hown hK hP 0 rfl rfl 0 (by decide) (hts _ tk_251) (fun _ h9 => h9) rfl d_M_point_31 ?_
    refine lv_if_le (tgt := 39) hx hb d_M_point_34 (by decide) (fun h5 => ?_) (fun h5 => absurd (by decide) h5)
    refine lv_aload_n hx hb d_M_point_39 rfl (lv_at hl 0 rfl) ?_
    refine va_get (D := (dC, dI)) (ci := 7) (v := .ref rx) (C := "LandBookModel") (T := F_LandBookModel) (N := 42) hx hb hts tu_LandBookModel hown hK hP 0 rfl rfl 5 (by decide) (hts _ tk_167) (fun _ h9 => h9) rfl d_M_point_40 ?_
    refine lv_aload_n hx hb d_M_point_43 rfl (lv_at hl 0 rfl) ?_
    refine va_get (D := (dC, dI)) (ci := 7) (v := .int 0) (C := "LandBookModel") (T := F_LandBookModel) (N := 42) hx hb hts tu_LandBookModel hown hK hP 0 rfl rfl 4 (by decide) (hts _ tk_260) (fun _ h9 => h9) rfl d_M_point_44 ?_
    refine lv_iload_n hx hb d_M_point_47 rfl (lv_at hl 1 rfl) ?_
    refine va_iast hx hb hK hP hD hS 1 0 rfl rfl (by unfold vp_in; decide) d_M_point_48 (fun H locs hP hD hS => ?_)
    have hP : va_P (dC, dI) classes [(hm, .inr (7, [.int 0, .int 0, .int 0, .int 0, .int 0, .ref rx, .ref ry, .int 0, m8, m9, m10, m11, m12, m13, m14, .int 0, m16, m17, m18, m19, m20, m21, m22, m23, m24, .int 0, m26, m27, m28, m29, .int 0, .int 0, m32, .int 0, m34, m35, .int 0, m37, m38, .int 0, m40, m41])), (rx, .inl (cI, 32, .inl (upd (fx) (Int32.toNatClampNeg (0)) (a0)))), (ry, .inl (cJ, 32, .inl (fy)))] H := hP
    have hD : va_D A [(hm, .inr (7, [.int 0, .int 0, .int 0, .int 0, .int 0, .ref rx, .ref ry, .int 0, m8, m9, m10, m11, m12, m13, m14, .int 0, m16, m17, m18, m19, m20, m21, m22, m23, m24, .int 0, m26, m27, m28, m29, .int 0, .int 0, m32, .int 0, m34, m35, .int 0, m37, m38, .int 0, m40, m41])), (rx, .inl (cI, 32, .inl (upd (fx) (Int32.toNatClampNeg (0)) (a0)))), (ry, .inl (cJ, 32, .inl (fy)))] := hD
    refine lv_aload_n hx hb d_M_point_49 rfl (lv_at hl 0 rfl) ?_
    refine va_get (D := (dC, dI)) (ci := 7) (v := .ref ry) (C := "LandBookModel") (T := F_LandBookModel) (N := 42) hx hb hts tu_LandBookModel hown hK hP 0 rfl rfl 6 (by decide) (hts _ tk_168) (fun _ h9 => h9) rfl d_M_point_50 ?_
    refine lv_aload_n hx hb d_M_point_53 rfl (lv_at hl 0 rfl) ?_
    refine va_get (D := (dC, dI)) (ci := 7) (v := .int 0) (C := "LandBookModel") (T := F_LandBookModel) (N := 42) hx hb hts tu_LandBookModel hown hK hP 0 rfl rfl 4 (by decide) (hts _ tk_260) (fun _ h9 => h9) rfl d_M_point_54 ?_
    refine lv_iload_n hx hb d_M_point_57 rfl (lv_at hl 2 rfl) ?_
    refine va_iast hx hb hK hP hD hS 2 1 rfl rfl (by unfold vp_in; decide) d_M_point_58 (fun H locs hP hD hS => ?_)
    have hP : va_P (dC, dI) classes [(hm, .inr (7, [.int 0, .int 0, .int 0, .int 0, .int 0, .ref rx, .ref ry, .int 0, m8, m9, m10, m11, m12, m13, m14, .int 0, m16, m17, m18, m19, m20, m21, m22, m23, m24, .int 0, m26, m27, m28, m29, .int 0, .int 0, m32, .int 0, m34, m35, .int 0, m37, m38, .int 0, m40, m41])), (rx, .inl (cI, 32, .inl (upd (fx) (Int32.toNatClampNeg (0)) (a0)))), (ry, .inl (cJ, 32, .inl (upd (fy) (Int32.toNatClampNeg (0)) (a1))))] H := hP
    have hD : va_D A [(hm, .inr (7, [.int 0, .int 0, .int 0, .int 0, .int 0, .ref rx, .ref ry, .int 0, m8, m9, m10, m11, m12, m13, m14, .int 0, m16, m17, m18, m19, m20, m21, m22, m23, m24, .int 0, m26, m27, m28, m29, .int 0, .int 0, m32, .int 0, m34, m35, .int 0, m37, m38, .int 0, m40, m41])), (rx, .inl (cI, 32, .inl (upd (fx) (Int32.toNatClampNeg (0)) (a0)))), (ry, .inl (cJ, 32, .inl (upd (fy) (Int32.toNatClampNeg (0)) (a1))))] := hD
    refine lv_aload_n hx hb d_M_point_59 rfl (lv_at hl 0 rfl) ?_
    refine lv_dup hx hb d_M_point_60 rfl ?_
    refine va_get (D := (dC, dI)) (ci := 7) (v := .int 0) (C := "LandBookModel") (T := F_LandBookModel) (N := 42) hx hb hts tu_LandBookModel hown hK hP 0 rfl rfl 4 (by decide) (hts _ tk_260) (fun _ h9 => h9) rfl d_M_point_61 ?_
    refine lv_iconst (v := 1) hx hb d_M_point_64 (by decide) ?_
    refine lv_iadd hx hb d_M_point_65 ?_
    refine va_put (D := (dC, dI)) (ci := 7) (v := .int (0 + 1)) (ty := .int) (C := "LandBookModel") (T := F_LandBookModel) (N := 42) hx hb hts tu_LandBookModel t_LandBookModel t_LandBookModel_ok n_LandBookModel hown hK hP hD hS 0 rfl rfl 4 (by decide) (hts _ tk_260) (fun _ h9 => h9) rfl (by decide +kernel) rfl rfl (Nat.le_of_ble_eq_true rfl) d_M_point_66 (fun H locs hP hD hS => ?_)
    have hP : va_P (dC, dI) classes [(hm, .inr (7, [.int 0, .int 0, .int 0, .int 0, .int (0 + 1), .ref rx, .ref ry, .int 0, m8, m9, m10, m11, m12, m13, m14, .int 0, m16, m17, m18, m19, m20, m21, m22, m23, m24, .int 0, m26, m27, m28, m29, .int 0, .int 0, m32, .int 0, m34, m35, .int 0, m37, m38, .int 0, m40, m41])), (rx, .inl (cI, 32, .inl (upd (fx) (Int32.toNatClampNeg (0)) (a0)))), (ry, .inl (cJ, 32, .inl (upd (fy) (Int32.toNatClampNeg (0)) (a1))))] H := hP
    have hD : va_D A [(hm, .inr (7, [.int 0, .int 0, .int 0, .int 0, .int (0 + 1), .ref rx, .ref ry, .int 0, m8, m9, m10, m11, m12, m13, m14, .int 0, m16, m17, m18, m19, m20, m21, m22, m23, m24, .int 0, m26, m27, m28, m29, .int 0, .int 0, m32, .int 0, m34, m35, .int 0, m37, m38, .int 0, m40, m41])), (rx, .inl (cI, 32, .inl (upd (fx) (Int32.toNatClampNeg (0)) (a0)))), (ry, .inl (cJ, 32, .inl (upd (fy) (Int32.toNatClampNeg (0)) (a1))))] := hD
    refine lv_aload_n hx hb d_M_point_69 rfl (lv_at hl 0 rfl) ?_
    refine va_get (D := (dC, dI)) (ci := 7) (v := .int (0 + 1)) (C := "LandBookModel") (T := F_LandBookModel) (N := 42) hx hb hts tu_LandBookModel hown hK hP 0 rfl rfl 4 (by decide) (hts _ tk_260) (fun _ h9 => h9) rfl d_M_point_70 ?_
    have hP9 := hP.sub (ws' := [(hm, .inr (7, [.int 0, .int 0, .int 0, .int 0, .int (0 + 1), .ref rx, .ref ry, .int 0, m8, m9, m10, m11, m12, m13, m14, .int 0, m16, m17, m18, m19, m20, m21, m22, m23, m24, .int 0, m26, m27, m28, m29, .int 0, .int 0, m32, .int 0, m34, m35, .int 0, m37, m38, .int 0, m40, m41]))]) [0] rfl
    have hD9 := hD.sub (ws' := [(hm, .inr (7, [.int 0, .int 0, .int 0, .int 0, .int (0 + 1), .ref rx, .ref ry, .int 0, m8, m9, m10, m11, m12, m13, m14, .int 0, m16, m17, m18, m19, m20, m21, m22, m23, m24, .int 0, m26, m27, m28, m29, .int 0, .int 0, m32, .int 0, m34, m35, .int 0, m37, m38, .int 0, m40, m41]))]) [0] (by decide) rfl
    have hK9 := hK.sub (tys' := []) [] rfl
    refine W.widen (k := 0) (n := 0) (by decide) (by decide) ?_
    exact W.iret (v := (0 + 1)) hx hb hr (fun t ht hW => ⟨⟨(0 + 1), (0, [.int 0, .int 0, .int 0, .int (0 + 1), .ref rx, .ref ry, .int 0, m8, m9, m10, m11, m12, m13, m14, .int 0, m16, m17, m18, m19, m20, m21, m22, m23, m24, .int 0, m26, m27, m28, m29, .int 0, .int 0, m32, .int 0, m34, m35, .int 0, m37, m38, .int 0, m40, m41]), rfl, Or.inl ⟨tw_t e2 h3, rfl, rfl⟩, by rw [ht]; exact hP9, va_K.moved hW.alike hK9, hD9⟩, hS.F ht⟩) hS.2.2 d_M_point_73
  · refine lv_iconst (v := 1) hx hb d_M_point_9 (by decide) ?_
    refine lv_goto (tgt := 27) hx hb d_M_point_10 (by decide) ?_
    refine va_put (D := (dC, dI)) (ci := 7) (v := .int 1) (ty := .int) (C := "LandBookModel") (T := F_LandBookModel) (N := 42) hx hb hts tu_LandBookModel t_LandBookModel t_LandBookModel_ok n_LandBookModel hown hK hP hD hS 0 rfl rfl 0 (by decide) (hts _ tk_251) (fun _ h9 => h9) rfl (by decide +kernel) rfl rfl (Nat.le_of_ble_eq_true rfl) d_M_point_27 (fun H locs hP hD hS => ?_)
    have hP : va_P (dC, dI) classes [(hm, .inr (7, [.int 1, .int 0, .int 0, .int 0, .int 0, .ref rx, .ref ry, .int 0, m8, m9, m10, m11, m12, m13, m14, .int 0, m16, m17, m18, m19, m20, m21, m22, m23, m24, .int 0, m26, m27, m28, m29, .int 0, .int 0, m32, .int 0, m34, m35, .int 0, m37, m38, .int 0, m40, m41])), (rx, .inl (cI, 32, .inl (fx))), (ry, .inl (cJ, 32, .inl (fy)))] H := hP
    have hD : va_D A [(hm, .inr (7, [.int 1, .int 0, .int 0, .int 0, .int 0, .ref rx, .ref ry, .int 0, m8, m9, m10, m11, m12, m13, m14, .int 0, m16, m17, m18, m19, m20, m21, m22, m23, m24, .int 0, m26, m27, m28, m29, .int 0, .int 0, m32, .int 0, m34, m35, .int 0, m37, m38, .int 0, m40, m41])), (rx, .inl (cI, 32, .inl (fx))), (ry, .inl (cJ, 32, .inl (fy)))] := hD
    refine lv_aload_n hx hb d_M_point_30 rfl (lv_at hl 0 rfl) ?_
    refine va_get (D := (dC, dI)) (ci := 7) (v := .int 1) (C := "LandBookModel") (T := F_LandBookModel) (N := 42) hx hb hts tu_LandBookModel hown hK hP 0 rfl rfl 0 (by decide) (hts _ tk_251) (fun _ h9 => h9) rfl d_M_point_31 ?_
    refine lv_if_le (tgt := 39) hx hb d_M_point_34 (by decide) (fun h6 => absurd h6 (by decide)) (fun h6 => ?_)
    refine lv_iconst (v := 0) hx hb d_M_point_37 (by decide) ?_
    have hP9 := hP.sub (ws' := [(hm, .inr (7, [.int 1, .int 0, .int 0, .int 0, .int 0, .ref rx, .ref ry, .int 0, m8, m9, m10, m11, m12, m13, m14, .int 0, m16, m17, m18, m19, m20, m21, m22, m23, m24, .int 0, m26, m27, m28, m29, .int 0, .int 0, m32, .int 0, m34, m35, .int 0, m37, m38, .int 0, m40, m41]))]) [0] rfl
    have hD9 := hD.sub (ws' := [(hm, .inr (7, [.int 1, .int 0, .int 0, .int 0, .int 0, .ref rx, .ref ry, .int 0, m8, m9, m10, m11, m12, m13, m14, .int 0, m16, m17, m18, m19, m20, m21, m22, m23, m24, .int 0, m26, m27, m28, m29, .int 0, .int 0, m32, .int 0, m34, m35, .int 0, m37, m38, .int 0, m40, m41]))]) [0] (by decide) rfl
    have hK9 := hK.sub (tys' := []) [] rfl
    refine W.widen (k := 0) (n := 0) (by decide) (by decide) ?_
    exact W.iret (v := 0) hx hb hr (fun t ht hW => ⟨⟨0, (1, [.int 0, .int 0, .int 0, .int 0, .ref rx, .ref ry, .int 0, m8, m9, m10, m11, m12, m13, m14, .int 0, m16, m17, m18, m19, m20, m21, m22, m23, m24, .int 0, m26, m27, m28, m29, .int 0, .int 0, m32, .int 0, m34, m35, .int 0, m37, m38, .int 0, m40, m41]), rfl, Or.inr ⟨tw_f e2 h3, rfl⟩, by rw [ht]; exact hP9, va_K.moved hW.alike hK9, hD9⟩, hS.F ht⟩) hS.2.2 d_M_point_38
theorem tk_261 : (Jvm.Cond.fieldLink "LandBookModel" (156 : Nat) "LandBookModel" "down" "Z") ∈ tw_G := tw_in (List.mem_of_getElem? (i := 1048) (by decide +kernel)) rfl
abbrev y_M_open : MethodName := ⟨"LandBookModel", "open", "()Z"⟩
abbrev w_M_open : List Cond := Cond.code y_M_open prog_13_method_24_code 3 (some .boolean) :: tw_G
theorem d_M_open_0 : decode prog_13_method_24_code 0 = .ok (.aload_n 0, 1) := by decide +kernel
theorem d_M_open_1 : decode prog_13_method_24_code 1 = .ok (.aload_n 0, 1) := by decide +kernel
theorem d_M_open_2 : decode prog_13_method_24_code 2 = .ok (.getfield 152, 3) := by decide +kernel
theorem d_M_open_5 : decode prog_13_method_24_code 5 = .ok (.ifCond .ne 10, 3) := by decide +kernel
theorem d_M_open_8 : decode prog_13_method_24_code 8 = .ok (.aload_n 0, 1) := by decide +kernel
theorem d_M_open_9 : decode prog_13_method_24_code 9 = .ok (.getfield 156, 3) := by decide +kernel
theorem d_M_open_12 : decode prog_13_method_24_code 12 = .ok (.ifCond .eq 7, 3) := by decide +kernel
theorem d_M_open_19 : decode prog_13_method_24_code 19 = .ok (.iconst 0, 1) := by decide +kernel
theorem d_M_open_20 : decode prog_13_method_24_code 20 = .ok (.putfield 98, 3) := by decide +kernel
theorem d_M_open_23 : decode prog_13_method_24_code 23 = .ok (.aload_n 0, 1) := by decide +kernel
theorem d_M_open_24 : decode prog_13_method_24_code 24 = .ok (.getfield 98, 3) := by decide +kernel
theorem d_M_open_27 : decode prog_13_method_24_code 27 = .ok (.ifCond .ne 23, 3) := by decide +kernel
theorem d_M_open_30 : decode prog_13_method_24_code 30 = .ok (.aload_n 0, 1) := by decide +kernel
theorem d_M_open_31 : decode prog_13_method_24_code 31 = .ok (.getfield 106, 3) := by decide +kernel
theorem d_M_open_34 : decode prog_13_method_24_code 34 = .ok (.iconst 3, 1) := by decide +kernel
theorem d_M_open_35 : decode prog_13_method_24_code 35 = .ok (.if_icmp .lt 15, 3) := by decide +kernel
theorem d_M_open_50 : decode prog_13_method_24_code 50 = .ok (.iconst 0, 1) := by decide +kernel
theorem d_M_open_51 : decode prog_13_method_24_code 51 = .ok (.istore_n 1, 1) := by decide +kernel
theorem d_M_open_52 : decode prog_13_method_24_code 52 = .ok (.iload_n 1, 1) := by decide +kernel
theorem d_M_open_53 : decode prog_13_method_24_code 53 = .ok (.ifCond .eq 59, 3) := by decide +kernel
theorem d_M_open_112 : decode prog_13_method_24_code 112 = .ok (.aload_n 0, 1) := by decide +kernel
theorem d_M_open_113 : decode prog_13_method_24_code 113 = .ok (.iconst 0, 1) := by decide +kernel
theorem d_M_open_114 : decode prog_13_method_24_code 114 = .ok (.putfield 106, 3) := by decide +kernel
theorem d_M_open_117 : decode prog_13_method_24_code 117 = .ok (.iload_n 1, 1) := by decide +kernel
theorem d_M_open_118 : decode prog_13_method_24_code 118 = .ok (.ireturn, 1) := by decide +kernel
set_option maxHeartbeats 4000000 in
set_option maxRecDepth 100000 in
theorem c_M_open (l : Launch) (dC : Nat → ClassId) (dI : Nat → Nat → Nat) (hm sz : Nat) (t0 : Int32) (m5 m6 m8 m9 m10 m11 m12 m13 m14 m16 m17 m18 m19 m20 m21 m22 m23 m24 m26 m27 m28 m29 m32 m34 m35 m37 m38 m40 m41 : Value) : Met l y_M_open w_M_open ({ frames := 0, cells := 0, slots := 0, locals := 0 }) (tw_P4 (dC, dI) classes [(hm, .inr (7, [.int t0, .int 0, .int 0, .int 0, .int 0, m5, m6, .int 0, m8, m9, m10, m11, m12, m13, m14, .int 0, m16, m17, m18, m19, m20, m21, m22, m23, m24, .int 0, m26, m27, m28, m29, .int 0, .int 0, m32, .int 0, m34, m35, .int 0, m37, m38, .int 0, m40, m41]))] [] sz [.ref hm]) (va_Qi (fun (r : Int32) (u : Int32 × List Value) => r = 0 ∧ u.1 = 0) (fun u => tw_B dC dI (va_A [(hm, .inr (7, [.int t0, .int 0, .int 0, .int 0, .int 0, m5, m6, .int 0, m8, m9, m10, m11, m12, m13, m14, .int 0, m16, m17, m18, m19, m20, m21, m22, m23, m24, .int 0, m26, m27, m28, m29, .int 0, .int 0, m32, .int 0, m34, m35, .int 0, m37, m38, .int 0, m40, m41]))] sz) [(hm, .inr (7, .int u.1 :: u.2))] []) (va_A [(hm, .inr (7, [.int t0, .int 0, .int 0, .int 0, .int 0, m5, m6, .int 0, m8, m9, m10, m11, m12, m13, m14, .int 0, m16, m17, m18, m19, m20, m21, m22, m23, m24, .int 0, m26, m27, m28, m29, .int 0, .int 0, m32, .int 0, m34, m35, .int 0, m37, m38, .int 0, m40, m41]))] sz)) 0 0 (va_A [(hm, .inr (7, [.int t0, .int 0, .int 0, .int 0, .int 0, m5, m6, .int 0, m8, m9, m10, m11, m12, m13, m14, .int 0, m16, m17, m18, m19, m20, m21, m22, m23, m24, .int 0, m26, m27, m28, m29, .int 0, .int 0, m32, .int 0, m34, m35, .int 0, m37, m38, .int 0, m40, m41]))] sz) := by
  refine Met.ofW (cc := prog_13_method_24_code) (maxL := 3) (ret := (some .boolean)) (by decide) rfl ?_
  intro p e s m args below meth c s₁ B hml hv
  obtain ⟨rfl, hsz, hP, hK, hD0⟩ := hv
  have hx := B.exec
  have hb := B.bytes
  have hr := B.returns
  have hts : ∀ w ∈ tw_G, w.before _ s = true := fun w h => atoms_spec (ws := w_M_open) B.pre w (List.mem_cons_of_mem _ h)
  have hown : s.vm.findClass "LandBookModel" = some m.cls := findClass_of_methodNamed B.named
  have hlocks := B.notSynchronized
  subst hsz
  have hD := hD0.self (sz := s.heap.size)
  generalize hAe : va_A [(hm, .inr (7, [.int t0, .int 0, .int 0, .int 0, .int 0, m5, m6, .int 0, m8, m9, m10, m11, m12, m13, m14, .int 0, m16, m17, m18, m19, m20, m21, m22, m23, m24, .int 0, m26, m27, m28, m29, .int 0, .int 0, m32, .int 0, m34, m35, .int 0, m37, m38, .int 0, m40, m41]))] s.heap.size = A at hD ⊢
  have hA : ∀ q : Nat, s.heap.size ≤ q → A q := fun q h => by rw [← hAe]; exact Or.inr h
  have hS : va_S A s.heap s.heap [] := va_S.rf
  have hP : va_P (dC, dI) classes [(hm, .inr (7, [.int t0, .int 0, .int 0, .int 0, .int 0, m5, m6, .int 0, m8, m9, m10, m11, m12, m13, m14, .int 0, m16, m17, m18, m19, m20, m21, m22, m23, m24, .int 0, m26, m27, m28, m29, .int 0, .int 0, m32, .int 0, m34, m35, .int 0, m37, m38, .int 0, m40, m41]))] s.heap := hP
  have hl := lv_entry ([.ref hm]) (n := 3) (Nat.le_of_ble_eq_true rfl)
  rw [lg_entry_eq]
  generalize (lg_sl ([.ref hm]) ++ List.replicate (3 - (lg_sl ([.ref hm])).length) Slot.unset).toArray = ls at hl ⊢
  have hl : lv_has ls 3 [(0, .ref hm)] := hl
  refine lv_aload_n hx hb d_M_open_0 rfl (lv_at hl 0 rfl) ?_
  refine lv_aload_n hx hb d_M_open_1 rfl (lv_at hl 0 rfl) ?_
  refine va_get (D := (dC, dI)) (ci := 7) (v := .int 0) (C := "LandBookModel") (T := F_LandBookModel) (N := 42) hx hb hts tu_LandBookModel hown hK hP 0 rfl rfl 1 (by decide) (hts _ tk_252) (fun _ h9 => h9) rfl d_M_open_2 ?_
  refine lv_if_ne (tgt := 15) hx hb d_M_open_5 (by decide) (fun h1 => absurd (by decide) h1) (fun h1 => ?_)
  refine lv_aload_n hx hb d_M_open_8 rfl (lv_at hl 0 rfl) ?_
  refine va_get (D := (dC, dI)) (ci := 7) (v := .int 0) (C := "LandBookModel") (T := F_LandBookModel) (N := 42) hx hb hts tu_LandBookModel hown hK hP 0 rfl rfl 2 (by decide) (hts _ tk_261) (fun _ h9 => h9) rfl d_M_open_9 ?_
  refine lv_if_eq (tgt := 19) hx hb d_M_open_12 (by decide) (fun h2 => ?_) (fun h2 => absurd (by decide) h2)
  refine lv_iconst (v := 0) hx hb d_M_open_19 (by decide) ?_
  refine va_put (D := (dC, dI)) (ci := 7) (v := .int 0) (ty := .int) (C := "LandBookModel") (T := F_LandBookModel) (N := 42) hx hb hts tu_LandBookModel t_LandBookModel t_LandBookModel_ok n_LandBookModel hown hK hP hD hS 0 rfl rfl 0 (by decide) (hts _ tk_251) (fun _ h9 => h9) rfl (by decide +kernel) rfl rfl (Nat.le_of_ble_eq_true rfl) d_M_open_20 (fun H locs hP hD hS => ?_)
  have hP : va_P (dC, dI) classes [(hm, .inr (7, [.int 0, .int 0, .int 0, .int 0, .int 0, m5, m6, .int 0, m8, m9, m10, m11, m12, m13, m14, .int 0, m16, m17, m18, m19, m20, m21, m22, m23, m24, .int 0, m26, m27, m28, m29, .int 0, .int 0, m32, .int 0, m34, m35, .int 0, m37, m38, .int 0, m40, m41]))] H := hP
  have hD : va_D A [(hm, .inr (7, [.int 0, .int 0, .int 0, .int 0, .int 0, m5, m6, .int 0, m8, m9, m10, m11, m12, m13, m14, .int 0, m16, m17, m18, m19, m20, m21, m22, m23, m24, .int 0, m26, m27, m28, m29, .int 0, .int 0, m32, .int 0, m34, m35, .int 0, m37, m38, .int 0, m40, m41]))] := hD
  refine lv_aload_n hx hb d_M_open_23 rfl (lv_at hl 0 rfl) ?_
  refine va_get (D := (dC, dI)) (ci := 7) (v := .int 0) (C := "LandBookModel") (T := F_LandBookModel) (N := 42) hx hb hts tu_LandBookModel hown hK hP 0 rfl rfl 0 (by decide) (hts _ tk_251) (fun _ h9 => h9) rfl d_M_open_24 ?_
  refine lv_if_ne (tgt := 50) hx hb d_M_open_27 (by decide) (fun h3 => absurd (by decide) h3) (fun h3 => ?_)
  refine lv_aload_n hx hb d_M_open_30 rfl (lv_at hl 0 rfl) ?_
  refine va_get (D := (dC, dI)) (ci := 7) (v := .int 0) (C := "LandBookModel") (T := F_LandBookModel) (N := 42) hx hb hts tu_LandBookModel hown hK hP 0 rfl rfl 4 (by decide) (hts _ tk_260) (fun _ h9 => h9) rfl d_M_open_31 ?_
  refine lv_iconst (v := 3) hx hb d_M_open_34 (by decide) ?_
  refine lv_icmp_lt (tgt := 50) hx hb d_M_open_35 (by decide) (fun h4 => ?_) (fun h4 => absurd (by decide) h4)
  refine lv_iconst (v := 0) hx hb d_M_open_50 (by decide) ?_
  refine lv_istore_n (lv' := [(1, .int 0), (0, .ref hm)]) hx hb d_M_open_51 rfl hl (by decide) rfl (fun ls hl => ?_)
  refine lv_iload_n hx hb d_M_open_52 rfl (lv_at hl 0 rfl) ?_
  refine lv_if_eq (tgt := 112) hx hb d_M_open_53 (by decide) (fun h5 => ?_) (fun h5 => absurd (by decide) h5)
  refine lv_aload_n hx hb d_M_open_112 rfl (lv_at hl 1 rfl) ?_
  refine lv_iconst (v := 0) hx hb d_M_open_113 (by decide) ?_
  refine va_put (D := (dC, dI)) (ci := 7) (v := .int 0) (ty := .int) (C := "LandBookModel") (T := F_LandBookModel) (N := 42) hx hb hts tu_LandBookModel t_LandBookModel t_LandBookModel_ok n_LandBookModel hown hK hP hD hS 0 rfl rfl 4 (by decide) (hts _ tk_260) (fun _ h9 => h9) rfl (by decide +kernel) rfl rfl (Nat.le_of_ble_eq_true rfl) d_M_open_114 (fun H locs hP hD hS => ?_)
  have hP : va_P (dC, dI) classes [(hm, .inr (7, [.int 0, .int 0, .int 0, .int 0, .int 0, m5, m6, .int 0, m8, m9, m10, m11, m12, m13, m14, .int 0, m16, m17, m18, m19, m20, m21, m22, m23, m24, .int 0, m26, m27, m28, m29, .int 0, .int 0, m32, .int 0, m34, m35, .int 0, m37, m38, .int 0, m40, m41]))] H := hP
  have hD : va_D A [(hm, .inr (7, [.int 0, .int 0, .int 0, .int 0, .int 0, m5, m6, .int 0, m8, m9, m10, m11, m12, m13, m14, .int 0, m16, m17, m18, m19, m20, m21, m22, m23, m24, .int 0, m26, m27, m28, m29, .int 0, .int 0, m32, .int 0, m34, m35, .int 0, m37, m38, .int 0, m40, m41]))] := hD
  refine lv_iload_n hx hb d_M_open_117 rfl (lv_at hl 0 rfl) ?_
  have hP9 := hP.sub (ws' := [(hm, .inr (7, [.int 0, .int 0, .int 0, .int 0, .int 0, m5, m6, .int 0, m8, m9, m10, m11, m12, m13, m14, .int 0, m16, m17, m18, m19, m20, m21, m22, m23, m24, .int 0, m26, m27, m28, m29, .int 0, .int 0, m32, .int 0, m34, m35, .int 0, m37, m38, .int 0, m40, m41]))]) [0] rfl
  have hD9 := hD.sub (ws' := [(hm, .inr (7, [.int 0, .int 0, .int 0, .int 0, .int 0, m5, m6, .int 0, m8, m9, m10, m11, m12, m13, m14, .int 0, m16, m17, m18, m19, m20, m21, m22, m23, m24, .int 0, m26, m27, m28, m29, .int 0, .int 0, m32, .int 0, m34, m35, .int 0, m37, m38, .int 0, m40, m41]))]) [0] (by decide) rfl
  have hK9 := hK.sub (tys' := []) [] rfl
  refine W.widen (k := 0) (n := 0) (by decide) (by decide) ?_
  exact W.zret (v := 0) (ty := .boolean) hx hb hr (by rfl) (fun t ht hW => ⟨⟨0, (0, [.int 0, .int 0, .int 0, .int 0, m5, m6, .int 0, m8, m9, m10, m11, m12, m13, m14, .int 0, m16, m17, m18, m19, m20, m21, m22, m23, m24, .int 0, m26, m27, m28, m29, .int 0, .int 0, m32, .int 0, m34, m35, .int 0, m37, m38, .int 0, m40, m41]), rfl, ⟨rfl, rfl⟩, by rw [ht]; exact hP9, va_K.moved hW.alike hK9, hD9⟩, hS.F ht⟩) hS.2.2 d_M_open_118
abbrev y_M_split : MethodName := ⟨"LandBookModel", "split", "(II)I"⟩
abbrev w_M_split : List Cond := Cond.code y_M_split prog_13_method_48_code 4 (some .int) :: tw_G
theorem d_M_split_0 : decode prog_13_method_48_code 0 = .ok (.aload_n 0, 1) := by decide +kernel
theorem d_M_split_1 : decode prog_13_method_48_code 1 = .ok (.aload_n 0, 1) := by decide +kernel
theorem d_M_split_2 : decode prog_13_method_48_code 2 = .ok (.invokevirtual 264, 3) := by decide +kernel
theorem d_M_split_5 : decode prog_13_method_48_code 5 = .ok (.ifCond .ne 7, 3) := by decide +kernel
theorem d_M_split_8 : decode prog_13_method_48_code 8 = .ok (.iconst 1, 1) := by decide +kernel
theorem d_M_split_9 : decode prog_13_method_48_code 9 = .ok (.goto 27, 3) := by decide +kernel
theorem d_M_split_36 : decode prog_13_method_48_code 36 = .ok (.putfield 98, 3) := by decide +kernel
theorem d_M_split_39 : decode prog_13_method_48_code 39 = .ok (.aload_n 0, 1) := by decide +kernel
theorem d_M_split_40 : decode prog_13_method_48_code 40 = .ok (.getfield 98, 3) := by decide +kernel
theorem d_M_split_43 : decode prog_13_method_48_code 43 = .ok (.ifCond .le 7, 3) := by decide +kernel
theorem d_M_split_46 : decode prog_13_method_48_code 46 = .ok (.iconst 0, 1) := by decide +kernel
theorem d_M_split_47 : decode prog_13_method_48_code 47 = .ok (.goto 9, 3) := by decide +kernel
theorem d_M_split_56 : decode prog_13_method_48_code 56 = .ok (.istore_n 3, 1) := by decide +kernel
theorem d_M_split_57 : decode prog_13_method_48_code 57 = .ok (.aload_n 0, 1) := by decide +kernel
theorem d_M_split_58 : decode prog_13_method_48_code 58 = .ok (.iconst 0, 1) := by decide +kernel
theorem d_M_split_59 : decode prog_13_method_48_code 59 = .ok (.putfield 106, 3) := by decide +kernel
theorem d_M_split_62 : decode prog_13_method_48_code 62 = .ok (.iload_n 3, 1) := by decide +kernel
theorem d_M_split_63 : decode prog_13_method_48_code 63 = .ok (.ireturn, 1) := by decide +kernel
set_option maxHeartbeats 4000000 in
set_option maxRecDepth 100000 in
theorem c_M_split (l : Launch) (dC : Nat → ClassId) (dI : Nat → Nat → Nat) (hm sz : Nat) (t0 : Int32) (m5 m6 m8 m9 m10 m11 m12 m13 m14 m16 m17 m18 m19 m20 m21 m22 m23 m24 m26 m27 m28 m29 m32 m34 m35 m37 m38 m40 m41 : Value) (a0 a1 : Int32) : Met l y_M_split w_M_split ({ frames := 1, cells := 0, slots := 0, locals := 20 }) (tw_P4 (dC, dI) classes [(hm, .inr (7, [.int t0, .int 0, .int 0, .int 0, .int 0, m5, m6, .int 0, m8, m9, m10, m11, m12, m13, m14, .int 0, m16, m17, m18, m19, m20, m21, m22, m23, m24, .int 0, m26, m27, m28, m29, .int 0, .int 0, m32, .int 0, m34, m35, .int 0, m37, m38, .int 0, m40, m41]))] [] sz [.ref hm, .int a0, .int a1]) (va_Qi (fun (r : Int32) (u : Int32 × List Value) => u.1 = 1) (fun u => tw_B dC dI (va_A [(hm, .inr (7, [.int t0, .int 0, .int 0, .int 0, .int 0, m5, m6, .int 0, m8, m9, m10, m11, m12, m13, m14, .int 0, m16, m17, m18, m19, m20, m21, m22, m23, m24, .int 0, m26, m27, m28, m29, .int 0, .int 0, m32, .int 0, m34, m35, .int 0, m37, m38, .int 0, m40, m41]))] sz) [(hm, .inr (7, .int u.1 :: u.2))] []) (va_A [(hm, .inr (7, [.int t0, .int 0, .int 0, .int 0, .int 0, m5, m6, .int 0, m8, m9, m10, m11, m12, m13, m14, .int 0, m16, m17, m18, m19, m20, m21, m22, m23, m24, .int 0, m26, m27, m28, m29, .int 0, .int 0, m32, .int 0, m34, m35, .int 0, m37, m38, .int 0, m40, m41]))] sz)) 0 0 (va_A [(hm, .inr (7, [.int t0, .int 0, .int 0, .int 0, .int 0, m5, m6, .int 0, m8, m9, m10, m11, m12, m13, m14, .int 0, m16, m17, m18, m19, m20, m21, m22, m23, m24, .int 0, m26, m27, m28, m29, .int 0, .int 0, m32, .int 0, m34, m35, .int 0, m37, m38, .int 0, m40, m41]))] sz) := by
  refine Met.ofW (cc := prog_13_method_48_code) (maxL := 4) (ret := (some .int)) (by decide) rfl ?_
  intro p e s m args below meth c s₁ B hml hv
  obtain ⟨rfl, hsz, hP, hK, hD0⟩ := hv
  have hx := B.exec
  have hb := B.bytes
  have hr := B.returns
  have hts : ∀ w ∈ tw_G, w.before _ s = true := fun w h => atoms_spec (ws := w_M_split) B.pre w (List.mem_cons_of_mem _ h)
  have hown : s.vm.findClass "LandBookModel" = some m.cls := findClass_of_methodNamed B.named
  have hlocks := B.notSynchronized
  subst hsz
  have hD := hD0.self (sz := s.heap.size)
  generalize hAe : va_A [(hm, .inr (7, [.int t0, .int 0, .int 0, .int 0, .int 0, m5, m6, .int 0, m8, m9, m10, m11, m12, m13, m14, .int 0, m16, m17, m18, m19, m20, m21, m22, m23, m24, .int 0, m26, m27, m28, m29, .int 0, .int 0, m32, .int 0, m34, m35, .int 0, m37, m38, .int 0, m40, m41]))] s.heap.size = A at hD ⊢
  have hA : ∀ q : Nat, s.heap.size ≤ q → A q := fun q h => by rw [← hAe]; exact Or.inr h
  have hS : va_S A s.heap s.heap [] := va_S.rf
  have hP : va_P (dC, dI) classes [(hm, .inr (7, [.int t0, .int 0, .int 0, .int 0, .int 0, m5, m6, .int 0, m8, m9, m10, m11, m12, m13, m14, .int 0, m16, m17, m18, m19, m20, m21, m22, m23, m24, .int 0, m26, m27, m28, m29, .int 0, .int 0, m32, .int 0, m34, m35, .int 0, m37, m38, .int 0, m40, m41]))] s.heap := hP
  have hl := lv_entry ([.ref hm, .int a0, .int a1]) (n := 4) (Nat.le_of_ble_eq_true rfl)
  rw [lg_entry_eq]
  generalize (lg_sl ([.ref hm, .int a0, .int a1]) ++ List.replicate (4 - (lg_sl ([.ref hm, .int a0, .int a1])).length) Slot.unset).toArray = ls at hl ⊢
  have hl : lv_has ls 4 [(0, .ref hm), (1, .int a0), (2, .int a1)] := hl
  refine lv_aload_n hx hb d_M_split_0 rfl (lv_at hl 0 rfl) ?_
  refine lv_aload_n hx hb d_M_split_1 rfl (lv_at hl 0 rfl) ?_
  refine vp_callSi (W.runV (As := []) (rest := [.ref hm]) ⟨hx, hb, hml, hown, hts⟩ (c_M_isUp l dC dI hm t0 m5 m6 m8 m9 m10 m11 m12 m13 m14 m16 m17 m18 m19 m20 m21 m22 m23 m24 m26 m27 m28 m29 m32 m34 m35 m37 m38 m40 m41) (cwV 0 hts (tw_gV tk_253 tk_254 tk_255 tk_249 tk_256) rfl rfl rfl (by decide +kernel) ⟨Nat.le_of_ble_eq_true rfl, Nat.le_of_ble_eq_true rfl⟩) (tw_v2 (va_recv (q0 := 0) hK hP rfl rfl) (hP.sub (ws' := [(hm, .inr (7, [.int t0, .int 0, .int 0, .int 0, .int 0, m5, m6, .int 0, m8, m9, m10, m11, m12, m13, m14, .int 0, m16, m17, m18, m19, m20, m21, m22, m23, m24, .int 0, m26, m27, m28, m29, .int 0, .int 0, m32, .int 0, m34, m35, .int 0, m37, m38, .int 0, m40, m41]))]) [0] rfl) (hK.sub (tys' := []) [] rfl)) rfl rfl hl.1 rfl (lv_room (Nat.le_of_ble_eq_true rfl)) d_M_split_2 ⟨by show 0 ≤ 0; decide, by show 0 ≤ 0; decide⟩) (fun r1 e2 => ?_)
  have e2 := e2.symm
  subst e2
  refine lv_if_ne (tgt := 12) hx hb d_M_split_5 (by decide) (fun h3 => absurd (by decide) h3) (fun h3 => ?_)
  refine lv_iconst (v := 1) hx hb d_M_split_8 (by decide) ?_
  refine lv_goto (tgt := 36) hx hb d_M_split_9 (by decide) ?_
  refine va_put (D := (dC, dI)) (ci := 7) (v := .int 1) (ty := .int) (C := "LandBookModel") (T := F_LandBookModel) (N := 42) hx hb hts tu_LandBookModel t_LandBookModel t_LandBookModel_ok n_LandBookModel hown hK hP hD hS 0 rfl rfl 0 (by decide) (hts _ tk_251) (fun _ h9 => h9) rfl (by decide +kernel) rfl rfl (Nat.le_of_ble_eq_true rfl) d_M_split_36 (fun H locs hP hD hS => ?_)
  have hP : va_P (dC, dI) classes [(hm, .inr (7, [.int 1, .int 0, .int 0, .int 0, .int 0, m5, m6, .int 0, m8, m9, m10, m11, m12, m13, m14, .int 0, m16, m17, m18, m19, m20, m21, m22, m23, m24, .int 0, m26, m27, m28, m29, .int 0, .int 0, m32, .int 0, m34, m35, .int 0, m37, m38, .int 0, m40, m41]))] H := hP
  have hD : va_D A [(hm, .inr (7, [.int 1, .int 0, .int 0, .int 0, .int 0, m5, m6, .int 0, m8, m9, m10, m11, m12, m13, m14, .int 0, m16, m17, m18, m19, m20, m21, m22, m23, m24, .int 0, m26, m27, m28, m29, .int 0, .int 0, m32, .int 0, m34, m35, .int 0, m37, m38, .int 0, m40, m41]))] := hD
  refine lv_aload_n hx hb d_M_split_39 rfl (lv_at hl 0 rfl) ?_
  refine va_get (D := (dC, dI)) (ci := 7) (v := .int 1) (C := "LandBookModel") (T := F_LandBookModel) (N := 42) hx hb hts tu_LandBookModel hown hK hP 0 rfl rfl 0 (by decide) (hts _ tk_251) (fun _ h9 => h9) rfl d_M_split_40 ?_
  refine lv_if_le (tgt := 50) hx hb d_M_split_43 (by decide) (fun h4 => absurd h4 (by decide)) (fun h4 => ?_)
  refine lv_iconst (v := 0) hx hb d_M_split_46 (by decide) ?_
  refine lv_goto (tgt := 56) hx hb d_M_split_47 (by decide) ?_
  refine lv_istore_n (lv' := [(3, .int 0), (0, .ref hm), (1, .int a0), (2, .int a1)]) hx hb d_M_split_56 rfl hl (by decide) rfl (fun ls hl => ?_)
  refine lv_aload_n hx hb d_M_split_57 rfl (lv_at hl 1 rfl) ?_
  refine lv_iconst (v := 0) hx hb d_M_split_58 (by decide) ?_
  refine va_put (D := (dC, dI)) (ci := 7) (v := .int 0) (ty := .int) (C := "LandBookModel") (T := F_LandBookModel) (N := 42) hx hb hts tu_LandBookModel t_LandBookModel t_LandBookModel_ok n_LandBookModel hown hK hP hD hS 0 rfl rfl 4 (by decide) (hts _ tk_260) (fun _ h9 => h9) rfl (by decide +kernel) rfl rfl (Nat.le_of_ble_eq_true rfl) d_M_split_59 (fun H locs hP hD hS => ?_)
  have hP : va_P (dC, dI) classes [(hm, .inr (7, [.int 1, .int 0, .int 0, .int 0, .int 0, m5, m6, .int 0, m8, m9, m10, m11, m12, m13, m14, .int 0, m16, m17, m18, m19, m20, m21, m22, m23, m24, .int 0, m26, m27, m28, m29, .int 0, .int 0, m32, .int 0, m34, m35, .int 0, m37, m38, .int 0, m40, m41]))] H := hP
  have hD : va_D A [(hm, .inr (7, [.int 1, .int 0, .int 0, .int 0, .int 0, m5, m6, .int 0, m8, m9, m10, m11, m12, m13, m14, .int 0, m16, m17, m18, m19, m20, m21, m22, m23, m24, .int 0, m26, m27, m28, m29, .int 0, .int 0, m32, .int 0, m34, m35, .int 0, m37, m38, .int 0, m40, m41]))] := hD
  refine lv_iload_n hx hb d_M_split_62 rfl (lv_at hl 0 rfl) ?_
  have hP9 := hP.sub (ws' := [(hm, .inr (7, [.int 1, .int 0, .int 0, .int 0, .int 0, m5, m6, .int 0, m8, m9, m10, m11, m12, m13, m14, .int 0, m16, m17, m18, m19, m20, m21, m22, m23, m24, .int 0, m26, m27, m28, m29, .int 0, .int 0, m32, .int 0, m34, m35, .int 0, m37, m38, .int 0, m40, m41]))]) [0] rfl
  have hD9 := hD.sub (ws' := [(hm, .inr (7, [.int 1, .int 0, .int 0, .int 0, .int 0, m5, m6, .int 0, m8, m9, m10, m11, m12, m13, m14, .int 0, m16, m17, m18, m19, m20, m21, m22, m23, m24, .int 0, m26, m27, m28, m29, .int 0, .int 0, m32, .int 0, m34, m35, .int 0, m37, m38, .int 0, m40, m41]))]) [0] (by decide) rfl
  have hK9 := hK.sub (tys' := []) [] rfl
  refine W.widen (k := 0) (n := 0) (by decide) (by decide) ?_
  exact W.iret (v := 0) hx hb hr (fun t ht hW => ⟨⟨0, (1, [.int 0, .int 0, .int 0, .int 0, m5, m6, .int 0, m8, m9, m10, m11, m12, m13, m14, .int 0, m16, m17, m18, m19, m20, m21, m22, m23, m24, .int 0, m26, m27, m28, m29, .int 0, .int 0, m32, .int 0, m34, m35, .int 0, m37, m38, .int 0, m40, m41]), rfl, rfl, by rw [ht]; exact hP9, va_K.moved hW.alike hK9, hD9⟩, hS.F ht⟩) hS.2.2 d_M_split_63
abbrev y_M_merge : MethodName := ⟨"LandBookModel", "merge", "(III)I"⟩
abbrev w_M_merge : List Cond := Cond.code y_M_merge prog_13_method_55_code 4 (some .int) :: tw_G
theorem d_M_merge_0 : decode prog_13_method_55_code 0 = .ok (.aload_n 0, 1) := by decide +kernel
theorem d_M_merge_1 : decode prog_13_method_55_code 1 = .ok (.aload_n 0, 1) := by decide +kernel
theorem d_M_merge_2 : decode prog_13_method_55_code 2 = .ok (.invokevirtual 264, 3) := by decide +kernel
theorem d_M_merge_5 : decode prog_13_method_55_code 5 = .ok (.ifCond .ne 7, 3) := by decide +kernel
theorem d_M_merge_8 : decode prog_13_method_55_code 8 = .ok (.iconst 1, 1) := by decide +kernel
theorem d_M_merge_9 : decode prog_13_method_55_code 9 = .ok (.goto 35, 3) := by decide +kernel
theorem d_M_merge_44 : decode prog_13_method_55_code 44 = .ok (.putfield 98, 3) := by decide +kernel
theorem d_M_merge_47 : decode prog_13_method_55_code 47 = .ok (.aload_n 0, 1) := by decide +kernel
theorem d_M_merge_48 : decode prog_13_method_55_code 48 = .ok (.getfield 98, 3) := by decide +kernel
theorem d_M_merge_51 : decode prog_13_method_55_code 51 = .ok (.ifCond .le 7, 3) := by decide +kernel
theorem d_M_merge_54 : decode prog_13_method_55_code 54 = .ok (.iconst 0, 1) := by decide +kernel
theorem d_M_merge_55 : decode prog_13_method_55_code 55 = .ok (.goto 10, 3) := by decide +kernel
theorem d_M_merge_65 : decode prog_13_method_55_code 65 = .ok (.ireturn, 1) := by decide +kernel
set_option maxHeartbeats 4000000 in
set_option maxRecDepth 100000 in
theorem c_M_merge (l : Launch) (dC : Nat → ClassId) (dI : Nat → Nat → Nat) (hm sz : Nat) (t0 : Int32) (m5 m6 m8 m9 m10 m11 m12 m13 m14 m16 m17 m18 m19 m20 m21 m22 m23 m24 m26 m27 m28 m29 m32 m34 m35 m37 m38 m40 m41 : Value) (a0 a1 a2 : Int32) : Met l y_M_merge w_M_merge ({ frames := 1, cells := 0, slots := 0, locals := 20 }) (tw_P4 (dC, dI) classes [(hm, .inr (7, [.int t0, .int 0, .int 0, .int 0, .int 0, m5, m6, .int 0, m8, m9, m10, m11, m12, m13, m14, .int 0, m16, m17, m18, m19, m20, m21, m22, m23, m24, .int 0, m26, m27, m28, m29, .int 0, .int 0, m32, .int 0, m34, m35, .int 0, m37, m38, .int 0, m40, m41]))] [] sz [.ref hm, .int a0, .int a1, .int a2]) (va_Qi (fun (r : Int32) (u : Int32 × List Value) => u.1 = 1) (fun u => tw_B dC dI (va_A [(hm, .inr (7, [.int t0, .int 0, .int 0, .int 0, .int 0, m5, m6, .int 0, m8, m9, m10, m11, m12, m13, m14, .int 0, m16, m17, m18, m19, m20, m21, m22, m23, m24, .int 0, m26, m27, m28, m29, .int 0, .int 0, m32, .int 0, m34, m35, .int 0, m37, m38, .int 0, m40, m41]))] sz) [(hm, .inr (7, .int u.1 :: u.2))] []) (va_A [(hm, .inr (7, [.int t0, .int 0, .int 0, .int 0, .int 0, m5, m6, .int 0, m8, m9, m10, m11, m12, m13, m14, .int 0, m16, m17, m18, m19, m20, m21, m22, m23, m24, .int 0, m26, m27, m28, m29, .int 0, .int 0, m32, .int 0, m34, m35, .int 0, m37, m38, .int 0, m40, m41]))] sz)) 0 0 (va_A [(hm, .inr (7, [.int t0, .int 0, .int 0, .int 0, .int 0, m5, m6, .int 0, m8, m9, m10, m11, m12, m13, m14, .int 0, m16, m17, m18, m19, m20, m21, m22, m23, m24, .int 0, m26, m27, m28, m29, .int 0, .int 0, m32, .int 0, m34, m35, .int 0, m37, m38, .int 0, m40, m41]))] sz) := by
  refine Met.ofW (cc := prog_13_method_55_code) (maxL := 4) (ret := (some .int)) (by decide) rfl ?_
  intro p e s m args below meth c s₁ B hml hv
  obtain ⟨rfl, hsz, hP, hK, hD0⟩ := hv
  have hx := B.exec
  have hb := B.bytes
  have hr := B.returns
  have hts : ∀ w ∈ tw_G, w.before _ s = true := fun w h => atoms_spec (ws := w_M_merge) B.pre w (List.mem_cons_of_mem _ h)
  have hown : s.vm.findClass "LandBookModel" = some m.cls := findClass_of_methodNamed B.named
  have hlocks := B.notSynchronized
  subst hsz
  have hD := hD0.self (sz := s.heap.size)
  generalize hAe : va_A [(hm, .inr (7, [.int t0, .int 0, .int 0, .int 0, .int 0, m5, m6, .int 0, m8, m9, m10, m11, m12, m13, m14, .int 0, m16, m17, m18, m19, m20, m21, m22, m23, m24, .int 0, m26, m27, m28, m29, .int 0, .int 0, m32, .int 0, m34, m35, .int 0, m37, m38, .int 0, m40, m41]))] s.heap.size = A at hD ⊢
  have hA : ∀ q : Nat, s.heap.size ≤ q → A q := fun q h => by rw [← hAe]; exact Or.inr h
  have hS : va_S A s.heap s.heap [] := va_S.rf
  have hP : va_P (dC, dI) classes [(hm, .inr (7, [.int t0, .int 0, .int 0, .int 0, .int 0, m5, m6, .int 0, m8, m9, m10, m11, m12, m13, m14, .int 0, m16, m17, m18, m19, m20, m21, m22, m23, m24, .int 0, m26, m27, m28, m29, .int 0, .int 0, m32, .int 0, m34, m35, .int 0, m37, m38, .int 0, m40, m41]))] s.heap := hP
  have hl := lv_entry ([.ref hm, .int a0, .int a1, .int a2]) (n := 4) (Nat.le_of_ble_eq_true rfl)
  rw [lg_entry_eq]
  generalize (lg_sl ([.ref hm, .int a0, .int a1, .int a2]) ++ List.replicate (4 - (lg_sl ([.ref hm, .int a0, .int a1, .int a2])).length) Slot.unset).toArray = ls at hl ⊢
  have hl : lv_has ls 4 [(0, .ref hm), (1, .int a0), (2, .int a1), (3, .int a2)] := hl
  refine lv_aload_n hx hb d_M_merge_0 rfl (lv_at hl 0 rfl) ?_
  refine lv_aload_n hx hb d_M_merge_1 rfl (lv_at hl 0 rfl) ?_
  refine vp_callSi (W.runV (As := []) (rest := [.ref hm]) ⟨hx, hb, hml, hown, hts⟩ (c_M_isUp l dC dI hm t0 m5 m6 m8 m9 m10 m11 m12 m13 m14 m16 m17 m18 m19 m20 m21 m22 m23 m24 m26 m27 m28 m29 m32 m34 m35 m37 m38 m40 m41) (cwV 0 hts (tw_gV tk_253 tk_254 tk_255 tk_249 tk_256) rfl rfl rfl (by decide +kernel) ⟨Nat.le_of_ble_eq_true rfl, Nat.le_of_ble_eq_true rfl⟩) (tw_v2 (va_recv (q0 := 0) hK hP rfl rfl) (hP.sub (ws' := [(hm, .inr (7, [.int t0, .int 0, .int 0, .int 0, .int 0, m5, m6, .int 0, m8, m9, m10, m11, m12, m13, m14, .int 0, m16, m17, m18, m19, m20, m21, m22, m23, m24, .int 0, m26, m27, m28, m29, .int 0, .int 0, m32, .int 0, m34, m35, .int 0, m37, m38, .int 0, m40, m41]))]) [0] rfl) (hK.sub (tys' := []) [] rfl)) rfl rfl hl.1 rfl (lv_room (Nat.le_of_ble_eq_true rfl)) d_M_merge_2 ⟨by show 0 ≤ 0; decide, by show 0 ≤ 0; decide⟩) (fun r1 e2 => ?_)
  have e2 := e2.symm
  subst e2
  refine lv_if_ne (tgt := 12) hx hb d_M_merge_5 (by decide) (fun h3 => absurd (by decide) h3) (fun h3 => ?_)
  refine lv_iconst (v := 1) hx hb d_M_merge_8 (by decide) ?_
  refine lv_goto (tgt := 44) hx hb d_M_merge_9 (by decide) ?_
  refine va_put (D := (dC, dI)) (ci := 7) (v := .int 1) (ty := .int) (C := "LandBookModel") (T := F_LandBookModel) (N := 42) hx hb hts tu_LandBookModel t_LandBookModel t_LandBookModel_ok n_LandBookModel hown hK hP hD hS 0 rfl rfl 0 (by decide) (hts _ tk_251) (fun _ h9 => h9) rfl (by decide +kernel) rfl rfl (Nat.le_of_ble_eq_true rfl) d_M_merge_44 (fun H locs hP hD hS => ?_)
  have hP : va_P (dC, dI) classes [(hm, .inr (7, [.int 1, .int 0, .int 0, .int 0, .int 0, m5, m6, .int 0, m8, m9, m10, m11, m12, m13, m14, .int 0, m16, m17, m18, m19, m20, m21, m22, m23, m24, .int 0, m26, m27, m28, m29, .int 0, .int 0, m32, .int 0, m34, m35, .int 0, m37, m38, .int 0, m40, m41]))] H := hP
  have hD : va_D A [(hm, .inr (7, [.int 1, .int 0, .int 0, .int 0, .int 0, m5, m6, .int 0, m8, m9, m10, m11, m12, m13, m14, .int 0, m16, m17, m18, m19, m20, m21, m22, m23, m24, .int 0, m26, m27, m28, m29, .int 0, .int 0, m32, .int 0, m34, m35, .int 0, m37, m38, .int 0, m40, m41]))] := hD
  refine lv_aload_n hx hb d_M_merge_47 rfl (lv_at hl 0 rfl) ?_
  refine va_get (D := (dC, dI)) (ci := 7) (v := .int 1) (C := "LandBookModel") (T := F_LandBookModel) (N := 42) hx hb hts tu_LandBookModel hown hK hP 0 rfl rfl 0 (by decide) (hts _ tk_251) (fun _ h9 => h9) rfl d_M_merge_48 ?_
  refine lv_if_le (tgt := 58) hx hb d_M_merge_51 (by decide) (fun h4 => absurd h4 (by decide)) (fun h4 => ?_)
  refine lv_iconst (v := 0) hx hb d_M_merge_54 (by decide) ?_
  refine lv_goto (tgt := 65) hx hb d_M_merge_55 (by decide) ?_
  have hP9 := hP.sub (ws' := [(hm, .inr (7, [.int 1, .int 0, .int 0, .int 0, .int 0, m5, m6, .int 0, m8, m9, m10, m11, m12, m13, m14, .int 0, m16, m17, m18, m19, m20, m21, m22, m23, m24, .int 0, m26, m27, m28, m29, .int 0, .int 0, m32, .int 0, m34, m35, .int 0, m37, m38, .int 0, m40, m41]))]) [0] rfl
  have hD9 := hD.sub (ws' := [(hm, .inr (7, [.int 1, .int 0, .int 0, .int 0, .int 0, m5, m6, .int 0, m8, m9, m10, m11, m12, m13, m14, .int 0, m16, m17, m18, m19, m20, m21, m22, m23, m24, .int 0, m26, m27, m28, m29, .int 0, .int 0, m32, .int 0, m34, m35, .int 0, m37, m38, .int 0, m40, m41]))]) [0] (by decide) rfl
  have hK9 := hK.sub (tys' := []) [] rfl
  refine W.widen (k := 0) (n := 0) (by decide) (by decide) ?_
  exact W.iret (v := 0) hx hb hr (fun t ht hW => ⟨⟨0, (1, [.int 0, .int 0, .int 0, .int 0, m5, m6, .int 0, m8, m9, m10, m11, m12, m13, m14, .int 0, m16, m17, m18, m19, m20, m21, m22, m23, m24, .int 0, m26, m27, m28, m29, .int 0, .int 0, m32, .int 0, m34, m35, .int 0, m37, m38, .int 0, m40, m41]), rfl, rfl, by rw [ht]; exact hP9, va_K.moved hW.alike hK9, hD9⟩, hS.F ht⟩) hS.2.2 d_M_merge_65
theorem tk_262 : (Jvm.Cond.methodLink "LandBookModel" (308 : Nat) ({ cls := "LandBookModel", name := "isPerson", desc := "(I)Z" } : Jvm.MethodName)) ∈ tw_G := tw_in (List.mem_of_getElem? (i := 1386) (by decide +kernel)) rfl
theorem tk_263 : (Jvm.Cond.static ({ cls := "LandBookModel", name := "isPerson", desc := "(I)Z" } : Jvm.MethodName)) ∈ tw_G := tw_in (List.mem_of_getElem? (i := 1387) (by decide +kernel)) rfl
theorem tk_264 : (Jvm.Cond.code ({ cls := "LandBookModel", name := "isPerson", desc := "(I)Z" } : Jvm.MethodName) prog_13_method_56_code (1 : Nat) (Option.some Jvm.ClassFile.FieldType.boolean)) ∈ tw_G := tw_in (List.mem_of_getElem? (i := 1388) (by decide +kernel)) rfl
abbrev y_M_transfer : MethodName := ⟨"LandBookModel", "transfer", "(IIIIII)I"⟩
abbrev w_M_transfer : List Cond := Cond.code y_M_transfer prog_13_method_57_code 10 (some .int) :: tw_G
theorem d_M_transfer_0 : decode prog_13_method_57_code 0 = .ok (.iload 6, 2) := by decide +kernel
theorem d_M_transfer_2 : decode prog_13_method_57_code 2 = .ok (.invokestatic 271, 3) := by decide +kernel
theorem d_M_transfer_5 : decode prog_13_method_57_code 5 = .ok (.ifCond .eq 49, 3) := by decide +kernel
theorem d_M_transfer_54 : decode prog_13_method_57_code 54 = .ok (.iconst 0, 1) := by decide +kernel
theorem d_M_transfer_55 : decode prog_13_method_57_code 55 = .ok (.istore 7, 2) := by decide +kernel
theorem d_M_transfer_57 : decode prog_13_method_57_code 57 = .ok (.aload_n 0, 1) := by decide +kernel
theorem d_M_transfer_58 : decode prog_13_method_57_code 58 = .ok (.aload_n 0, 1) := by decide +kernel
theorem d_M_transfer_59 : decode prog_13_method_57_code 59 = .ok (.invokevirtual 264, 3) := by decide +kernel
theorem d_M_transfer_62 : decode prog_13_method_57_code 62 = .ok (.ifCond .ne 7, 3) := by decide +kernel
theorem d_M_transfer_65 : decode prog_13_method_57_code 65 = .ok (.iconst 1, 1) := by decide +kernel
theorem d_M_transfer_66 : decode prog_13_method_57_code 66 = .ok (.goto 25, 3) := by decide +kernel
theorem d_M_transfer_91 : decode prog_13_method_57_code 91 = .ok (.putfield 98, 3) := by decide +kernel
theorem d_M_transfer_94 : decode prog_13_method_57_code 94 = .ok (.aload_n 0, 1) := by decide +kernel
theorem d_M_transfer_95 : decode prog_13_method_57_code 95 = .ok (.getfield 98, 3) := by decide +kernel
theorem d_M_transfer_98 : decode prog_13_method_57_code 98 = .ok (.ifCond .le 5, 3) := by decide +kernel
theorem d_M_transfer_101 : decode prog_13_method_57_code 101 = .ok (.iconst 0, 1) := by decide +kernel
theorem d_M_transfer_102 : decode prog_13_method_57_code 102 = .ok (.ireturn, 1) := by decide +kernel
theorem d_M_transfer_8 : decode prog_13_method_57_code 8 = .ok (.iload_n 2, 1) := by decide +kernel
theorem d_M_transfer_9 : decode prog_13_method_57_code 9 = .ok (.invokestatic 308, 3) := by decide +kernel
theorem d_M_transfer_12 : decode prog_13_method_57_code 12 = .ok (.ifCond .eq 42, 3) := by decide +kernel
theorem d_M_transfer_15 : decode prog_13_method_57_code 15 = .ok (.iload_n 3, 1) := by decide +kernel
theorem d_M_transfer_16 : decode prog_13_method_57_code 16 = .ok (.invokestatic 308, 3) := by decide +kernel
theorem d_M_transfer_19 : decode prog_13_method_57_code 19 = .ok (.ifCond .eq 35, 3) := by decide +kernel
theorem d_M_transfer_22 : decode prog_13_method_57_code 22 = .ok (.iload 4, 2) := by decide +kernel
theorem d_M_transfer_24 : decode prog_13_method_57_code 24 = .ok (.iconst 1, 1) := by decide +kernel
theorem d_M_transfer_25 : decode prog_13_method_57_code 25 = .ok (.if_icmp .lt 29, 3) := by decide +kernel
theorem d_M_transfer_28 : decode prog_13_method_57_code 28 = .ok (.iload 4, 2) := by decide +kernel
theorem d_M_transfer_30 : decode prog_13_method_57_code 30 = .ok (.sipush 5040, 3) := by decide +kernel
theorem d_M_transfer_33 : decode prog_13_method_57_code 33 = .ok (.if_icmp .gt 21, 3) := by decide +kernel
theorem d_M_transfer_36 : decode prog_13_method_57_code 36 = .ok (.iload 5, 2) := by decide +kernel
theorem d_M_transfer_38 : decode prog_13_method_57_code 38 = .ok (.iconst 1, 1) := by decide +kernel
theorem d_M_transfer_39 : decode prog_13_method_57_code 39 = .ok (.if_icmp .lt 15, 3) := by decide +kernel
theorem d_M_transfer_42 : decode prog_13_method_57_code 42 = .ok (.iload 5, 2) := by decide +kernel
theorem d_M_transfer_44 : decode prog_13_method_57_code 44 = .ok (.sipush 5040, 3) := by decide +kernel
theorem d_M_transfer_47 : decode prog_13_method_57_code 47 = .ok (.if_icmp .gt 7, 3) := by decide +kernel
theorem d_M_transfer_50 : decode prog_13_method_57_code 50 = .ok (.iconst 1, 1) := by decide +kernel
theorem d_M_transfer_51 : decode prog_13_method_57_code 51 = .ok (.goto 4, 3) := by decide +kernel
set_option maxHeartbeats 4000000 in
set_option maxRecDepth 100000 in
theorem c_M_transfer (l : Launch) (dC : Nat → ClassId) (dI : Nat → Nat → Nat) (hm sz : Nat) (t0 : Int32) (m5 m6 m8 m9 m10 m11 m12 m13 m14 m16 m17 m18 m19 m20 m21 m22 m23 m24 m26 m27 m28 m29 m32 m34 m35 m37 m38 m40 m41 : Value) (a0 a1 a2 a3 a4 a5 : Int32) : Met l y_M_transfer w_M_transfer ({ frames := 1, cells := 0, slots := 0, locals := 20 }) (tw_P4 (dC, dI) classes [(hm, .inr (7, [.int t0, .int 0, .int 0, .int 0, .int 0, m5, m6, .int 0, m8, m9, m10, m11, m12, m13, m14, .int 0, m16, m17, m18, m19, m20, m21, m22, m23, m24, .int 0, m26, m27, m28, m29, .int 0, .int 0, m32, .int 0, m34, m35, .int 0, m37, m38, .int 0, m40, m41]))] [] sz [.ref hm, .int a0, .int a1, .int a2, .int a3, .int a4, .int a5]) (va_Qi (fun (r : Int32) (u : Int32 × List Value) => u.1 = 1) (fun u => tw_B dC dI (va_A [(hm, .inr (7, [.int t0, .int 0, .int 0, .int 0, .int 0, m5, m6, .int 0, m8, m9, m10, m11, m12, m13, m14, .int 0, m16, m17, m18, m19, m20, m21, m22, m23, m24, .int 0, m26, m27, m28, m29, .int 0, .int 0, m32, .int 0, m34, m35, .int 0, m37, m38, .int 0, m40, m41]))] sz) [(hm, .inr (7, .int u.1 :: u.2))] []) (va_A [(hm, .inr (7, [.int t0, .int 0, .int 0, .int 0, .int 0, m5, m6, .int 0, m8, m9, m10, m11, m12, m13, m14, .int 0, m16, m17, m18, m19, m20, m21, m22, m23, m24, .int 0, m26, m27, m28, m29, .int 0, .int 0, m32, .int 0, m34, m35, .int 0, m37, m38, .int 0, m40, m41]))] sz)) 0 0 (va_A [(hm, .inr (7, [.int t0, .int 0, .int 0, .int 0, .int 0, m5, m6, .int 0, m8, m9, m10, m11, m12, m13, m14, .int 0, m16, m17, m18, m19, m20, m21, m22, m23, m24, .int 0, m26, m27, m28, m29, .int 0, .int 0, m32, .int 0, m34, m35, .int 0, m37, m38, .int 0, m40, m41]))] sz) := by
  refine Met.ofW (cc := prog_13_method_57_code) (maxL := 10) (ret := (some .int)) (by decide) rfl ?_
  intro p e s m args below meth c s₁ B hml hv
  obtain ⟨rfl, hsz, hP, hK, hD0⟩ := hv
  have hx := B.exec
  have hb := B.bytes
  have hr := B.returns
  have hts : ∀ w ∈ tw_G, w.before _ s = true := fun w h => atoms_spec (ws := w_M_transfer) B.pre w (List.mem_cons_of_mem _ h)
  have hown : s.vm.findClass "LandBookModel" = some m.cls := findClass_of_methodNamed B.named
  have hlocks := B.notSynchronized
  subst hsz
  have hD := hD0.self (sz := s.heap.size)
  generalize hAe : va_A [(hm, .inr (7, [.int t0, .int 0, .int 0, .int 0, .int 0, m5, m6, .int 0, m8, m9, m10, m11, m12, m13, m14, .int 0, m16, m17, m18, m19, m20, m21, m22, m23, m24, .int 0, m26, m27, m28, m29, .int 0, .int 0, m32, .int 0, m34, m35, .int 0, m37, m38, .int 0, m40, m41]))] s.heap.size = A at hD ⊢
  have hA : ∀ q : Nat, s.heap.size ≤ q → A q := fun q h => by rw [← hAe]; exact Or.inr h
  have hS : va_S A s.heap s.heap [] := va_S.rf
  have hP : va_P (dC, dI) classes [(hm, .inr (7, [.int t0, .int 0, .int 0, .int 0, .int 0, m5, m6, .int 0, m8, m9, m10, m11, m12, m13, m14, .int 0, m16, m17, m18, m19, m20, m21, m22, m23, m24, .int 0, m26, m27, m28, m29, .int 0, .int 0, m32, .int 0, m34, m35, .int 0, m37, m38, .int 0, m40, m41]))] s.heap := hP
  have hl := lv_entry ([.ref hm, .int a0, .int a1, .int a2, .int a3, .int a4, .int a5]) (n := 10) (Nat.le_of_ble_eq_true rfl)
  rw [lg_entry_eq]
  generalize (lg_sl ([.ref hm, .int a0, .int a1, .int a2, .int a3, .int a4, .int a5]) ++ List.replicate (10 - (lg_sl ([.ref hm, .int a0, .int a1, .int a2, .int a3, .int a4, .int a5])).length) Slot.unset).toArray = ls at hl ⊢
  have hl : lv_has ls 10 [(0, .ref hm), (1, .int a0), (2, .int a1), (3, .int a2), (4, .int a3), (5, .int a4), (6, .int a5)] := hl
  refine lv_iload hx hb d_M_transfer_0 (lv_at hl 6 rfl) ?_
  refine vp_callSi (W.runS (As := [.int a5]) (rest := []) ⟨hx, hb, hml, hown, hts⟩ (c_M_isDay l (a5)) (va_cwS 1 hts (tw_gS tk_247 tk_248 tk_249 tk_250) rfl rfl rfl (by decide +kernel) ⟨Nat.le_of_ble_eq_true rfl, Nat.le_of_ble_eq_true rfl⟩) tw_s0 rfl rfl hl.1 rfl (lv_room (Nat.le_of_ble_eq_true rfl)) d_M_transfer_2 ⟨by show 0 ≤ 0; decide, by show 0 ≤ 0; decide⟩) (fun r1 e2 => ?_)
  refine lv_if_eq (tgt := 54) hx hb d_M_transfer_5 (by decide) (fun h3 => ?_) (fun h3 => ?_)
  · refine lv_iconst (v := 0) hx hb d_M_transfer_54 (by decide) ?_
    refine lv_istore (lv' := [(7, .int 0), (0, .ref hm), (1, .int a0), (2, .int a1), (3, .int a2), (4, .int a3), (5, .int a4), (6, .int a5)]) hx hb d_M_transfer_55 hl (by decide) rfl (fun ls hl => ?_)
    refine lv_aload_n hx hb d_M_transfer_57 rfl (lv_at hl 1 rfl) ?_
    refine lv_aload_n hx hb d_M_transfer_58 rfl (lv_at hl 1 rfl) ?_
    refine vp_callSi (W.runV (As := []) (rest := [.ref hm]) ⟨hx, hb, hml, hown, hts⟩ (c_M_isUp l dC dI hm t0 m5 m6 m8 m9 m10 m11 m12 m13 m14 m16 m17 m18 m19 m20 m21 m22 m23 m24 m26 m27 m28 m29 m32 m34 m35 m37 m38 m40 m41) (cwV 0 hts (tw_gV tk_253 tk_254 tk_255 tk_249 tk_256) rfl rfl rfl (by decide +kernel) ⟨Nat.le_of_ble_eq_true rfl, Nat.le_of_ble_eq_true rfl⟩) (tw_v2 (va_recv (q0 := 0) hK hP rfl rfl) (hP.sub (ws' := [(hm, .inr (7, [.int t0, .int 0, .int 0, .int 0, .int 0, m5, m6, .int 0, m8, m9, m10, m11, m12, m13, m14, .int 0, m16, m17, m18, m19, m20, m21, m22, m23, m24, .int 0, m26, m27, m28, m29, .int 0, .int 0, m32, .int 0, m34, m35, .int 0, m37, m38, .int 0, m40, m41]))]) [0] rfl) (hK.sub (tys' := []) [] rfl)) rfl rfl hl.1 rfl (lv_room (Nat.le_of_ble_eq_true rfl)) d_M_transfer_59 ⟨by show 0 ≤ 0; decide, by show 0 ≤ 0; decide⟩) (fun r4 e5 => ?_)
    have e5 := e5.symm
    subst e5
    refine lv_if_ne (tgt := 69) hx hb d_M_transfer_62 (by decide) (fun h6 => absurd (by decide) h6) (fun h6 => ?_)
    refine lv_iconst (v := 1) hx hb d_M_transfer_65 (by decide) ?_
    refine lv_goto (tgt := 91) hx hb d_M_transfer_66 (by decide) ?_
    refine va_put (D := (dC, dI)) (ci := 7) (v := .int 1) (ty := .int) (C := "LandBookModel") (T := F_LandBookModel) (N := 42) hx hb hts tu_LandBookModel t_LandBookModel t_LandBookModel_ok n_LandBookModel hown hK hP hD hS 0 rfl rfl 0 (by decide) (hts _ tk_251) (fun _ h9 => h9) rfl (by decide +kernel) rfl rfl (Nat.le_of_ble_eq_true rfl) d_M_transfer_91 (fun H locs hP hD hS => ?_)
    have hP : va_P (dC, dI) classes [(hm, .inr (7, [.int 1, .int 0, .int 0, .int 0, .int 0, m5, m6, .int 0, m8, m9, m10, m11, m12, m13, m14, .int 0, m16, m17, m18, m19, m20, m21, m22, m23, m24, .int 0, m26, m27, m28, m29, .int 0, .int 0, m32, .int 0, m34, m35, .int 0, m37, m38, .int 0, m40, m41]))] H := hP
    have hD : va_D A [(hm, .inr (7, [.int 1, .int 0, .int 0, .int 0, .int 0, m5, m6, .int 0, m8, m9, m10, m11, m12, m13, m14, .int 0, m16, m17, m18, m19, m20, m21, m22, m23, m24, .int 0, m26, m27, m28, m29, .int 0, .int 0, m32, .int 0, m34, m35, .int 0, m37, m38, .int 0, m40, m41]))] := hD
    refine lv_aload_n hx hb d_M_transfer_94 rfl (lv_at hl 1 rfl) ?_
    refine va_get (D := (dC, dI)) (ci := 7) (v := .int 1) (C := "LandBookModel") (T := F_LandBookModel) (N := 42) hx hb hts tu_LandBookModel hown hK hP 0 rfl rfl 0 (by decide) (hts _ tk_251) (fun _ h9 => h9) rfl d_M_transfer_95 ?_
    refine lv_if_le (tgt := 103) hx hb d_M_transfer_98 (by decide) (fun h7 => absurd h7 (by decide)) (fun h7 => ?_)
    refine lv_iconst (v := 0) hx hb d_M_transfer_101 (by decide) ?_
    have hP9 := hP.sub (ws' := [(hm, .inr (7, [.int 1, .int 0, .int 0, .int 0, .int 0, m5, m6, .int 0, m8, m9, m10, m11, m12, m13, m14, .int 0, m16, m17, m18, m19, m20, m21, m22, m23, m24, .int 0, m26, m27, m28, m29, .int 0, .int 0, m32, .int 0, m34, m35, .int 0, m37, m38, .int 0, m40, m41]))]) [0] rfl
    have hD9 := hD.sub (ws' := [(hm, .inr (7, [.int 1, .int 0, .int 0, .int 0, .int 0, m5, m6, .int 0, m8, m9, m10, m11, m12, m13, m14, .int 0, m16, m17, m18, m19, m20, m21, m22, m23, m24, .int 0, m26, m27, m28, m29, .int 0, .int 0, m32, .int 0, m34, m35, .int 0, m37, m38, .int 0, m40, m41]))]) [0] (by decide) rfl
    have hK9 := hK.sub (tys' := []) [] rfl
    refine W.widen (k := 0) (n := 0) (by decide) (by decide) ?_
    exact W.iret (v := 0) hx hb hr (fun t ht hW => ⟨⟨0, (1, [.int 0, .int 0, .int 0, .int 0, m5, m6, .int 0, m8, m9, m10, m11, m12, m13, m14, .int 0, m16, m17, m18, m19, m20, m21, m22, m23, m24, .int 0, m26, m27, m28, m29, .int 0, .int 0, m32, .int 0, m34, m35, .int 0, m37, m38, .int 0, m40, m41]), rfl, rfl, by rw [ht]; exact hP9, va_K.moved hW.alike hK9, hD9⟩, hS.F ht⟩) hS.2.2 d_M_transfer_102
  · refine lv_iload_n hx hb d_M_transfer_8 rfl (lv_at hl 2 rfl) ?_
    refine vp_callSi (W.runS (As := [.int a1]) (rest := []) ⟨hx, hb, hml, hown, hts⟩ (c_M_isPerson l (a1)) (va_cwS 1 hts (tw_gS tk_262 tk_263 tk_249 tk_264) rfl rfl rfl (by decide +kernel) ⟨Nat.le_of_ble_eq_true rfl, Nat.le_of_ble_eq_true rfl⟩) tw_s0 rfl rfl hl.1 rfl (lv_room (Nat.le_of_ble_eq_true rfl)) d_M_transfer_9 ⟨by show 0 ≤ 0; decide, by show 0 ≤ 0; decide⟩) (fun r8 e9 => ?_)
    refine lv_if_eq (tgt := 54) hx hb d_M_transfer_12 (by decide) (fun h10 => ?_) (fun h10 => ?_)
    · refine lv_iconst (v := 0) hx hb d_M_transfer_54 (by decide) ?_
      refine lv_istore (lv' := [(7, .int 0), (0, .ref hm), (1, .int a0), (2, .int a1), (3, .int a2), (4, .int a3), (5, .int a4), (6, .int a5)]) hx hb d_M_transfer_55 hl (by decide) rfl (fun ls hl => ?_)
      refine lv_aload_n hx hb d_M_transfer_57 rfl (lv_at hl 1 rfl) ?_
      refine lv_aload_n hx hb d_M_transfer_58 rfl (lv_at hl 1 rfl) ?_
      refine vp_callSi (W.runV (As := []) (rest := [.ref hm]) ⟨hx, hb, hml, hown, hts⟩ (c_M_isUp l dC dI hm t0 m5 m6 m8 m9 m10 m11 m12 m13 m14 m16 m17 m18 m19 m20 m21 m22 m23 m24 m26 m27 m28 m29 m32 m34 m35 m37 m38 m40 m41) (cwV 0 hts (tw_gV tk_253 tk_254 tk_255 tk_249 tk_256) rfl rfl rfl (by decide +kernel) ⟨Nat.le_of_ble_eq_true rfl, Nat.le_of_ble_eq_true rfl⟩) (tw_v2 (va_recv (q0 := 0) hK hP rfl rfl) (hP.sub (ws' := [(hm, .inr (7, [.int t0, .int 0, .int 0, .int 0, .int 0, m5, m6, .int 0, m8, m9, m10, m11, m12, m13, m14, .int 0, m16, m17, m18, m19, m20, m21, m22, m23, m24, .int 0, m26, m27, m28, m29, .int 0, .int 0, m32, .int 0, m34, m35, .int 0, m37, m38, .int 0, m40, m41]))]) [0] rfl) (hK.sub (tys' := []) [] rfl)) rfl rfl hl.1 rfl (lv_room (Nat.le_of_ble_eq_true rfl)) d_M_transfer_59 ⟨by show 0 ≤ 0; decide, by show 0 ≤ 0; decide⟩) (fun r11 e12 => ?_)
      have e12 := e12.symm
      subst e12
      refine lv_if_ne (tgt := 69) hx hb d_M_transfer_62 (by decide) (fun h13 => absurd (by decide) h13) (fun h13 => ?_)
      refine lv_iconst (v := 1) hx hb d_M_transfer_65 (by decide) ?_
      refine lv_goto (tgt := 91) hx hb d_M_transfer_66 (by decide) ?_
      refine va_put (D := (dC, dI)) (ci := 7) (v := .int 1) (ty := .int) (C := "LandBookModel") (T := F_LandBookModel) (N := 42) hx hb hts tu_LandBookModel t_LandBookModel t_LandBookModel_ok n_LandBookModel hown hK hP hD hS 0 rfl rfl 0 (by decide) (hts _ tk_251) (fun _ h9 => h9) rfl (by decide +kernel) rfl rfl (Nat.le_of_ble_eq_true rfl) d_M_transfer_91 (fun H locs hP hD hS => ?_)
      have hP : va_P (dC, dI) classes [(hm, .inr (7, [.int 1, .int 0, .int 0, .int 0, .int 0, m5, m6, .int 0, m8, m9, m10, m11, m12, m13, m14, .int 0, m16, m17, m18, m19, m20, m21, m22, m23, m24, .int 0, m26, m27, m28, m29, .int 0, .int 0, m32, .int 0, m34, m35, .int 0, m37, m38, .int 0, m40, m41]))] H := hP
      have hD : va_D A [(hm, .inr (7, [.int 1, .int 0, .int 0, .int 0, .int 0, m5, m6, .int 0, m8, m9, m10, m11, m12, m13, m14, .int 0, m16, m17, m18, m19, m20, m21, m22, m23, m24, .int 0, m26, m27, m28, m29, .int 0, .int 0, m32, .int 0, m34, m35, .int 0, m37, m38, .int 0, m40, m41]))] := hD
      refine lv_aload_n hx hb d_M_transfer_94 rfl (lv_at hl 1 rfl) ?_
      refine va_get (D := (dC, dI)) (ci := 7) (v := .int 1) (C := "LandBookModel") (T := F_LandBookModel) (N := 42) hx hb hts tu_LandBookModel hown hK hP 0 rfl rfl 0 (by decide) (hts _ tk_251) (fun _ h9 => h9) rfl d_M_transfer_95 ?_
      refine lv_if_le (tgt := 103) hx hb d_M_transfer_98 (by decide) (fun h14 => absurd h14 (by decide)) (fun h14 => ?_)
      refine lv_iconst (v := 0) hx hb d_M_transfer_101 (by decide) ?_
      have hP9 := hP.sub (ws' := [(hm, .inr (7, [.int 1, .int 0, .int 0, .int 0, .int 0, m5, m6, .int 0, m8, m9, m10, m11, m12, m13, m14, .int 0, m16, m17, m18, m19, m20, m21, m22, m23, m24, .int 0, m26, m27, m28, m29, .int 0, .int 0, m32, .int 0, m34, m35, .int 0, m37, m38, .int 0, m40, m41]))]) [0] rfl
      have hD9 := hD.sub (ws' := [(hm, .inr (7, [.int 1, .int 0, .int 0, .int 0, .int 0, m5, m6, .int 0, m8, m9, m10, m11, m12, m13, m14, .int 0, m16, m17, m18, m19, m20, m21, m22, m23, m24, .int 0, m26, m27, m28, m29, .int 0, .int 0, m32, .int 0, m34, m35, .int 0, m37, m38, .int 0, m40, m41]))]) [0] (by decide) rfl
      have hK9 := hK.sub (tys' := []) [] rfl
      refine W.widen (k := 0) (n := 0) (by decide) (by decide) ?_
      exact W.iret (v := 0) hx hb hr (fun t ht hW => ⟨⟨0, (1, [.int 0, .int 0, .int 0, .int 0, m5, m6, .int 0, m8, m9, m10, m11, m12, m13, m14, .int 0, m16, m17, m18, m19, m20, m21, m22, m23, m24, .int 0, m26, m27, m28, m29, .int 0, .int 0, m32, .int 0, m34, m35, .int 0, m37, m38, .int 0, m40, m41]), rfl, rfl, by rw [ht]; exact hP9, va_K.moved hW.alike hK9, hD9⟩, hS.F ht⟩) hS.2.2 d_M_transfer_102
    · refine lv_iload_n hx hb d_M_transfer_15 rfl (lv_at hl 3 rfl) ?_
      refine vp_callSi (W.runS (As := [.int a2]) (rest := []) ⟨hx, hb, hml, hown, hts⟩ (c_M_isPerson l (a2)) (va_cwS 1 hts (tw_gS tk_262 tk_263 tk_249 tk_264) rfl rfl rfl (by decide +kernel) ⟨Nat.le_of_ble_eq_true rfl, Nat.le_of_ble_eq_true rfl⟩) tw_s0 rfl rfl hl.1 rfl (lv_room (Nat.le_of_ble_eq_true rfl)) d_M_transfer_16 ⟨by show 0 ≤ 0; decide, by show 0 ≤ 0; decide⟩) (fun r15 e16 => ?_)
      refine lv_if_eq (tgt := 54) hx hb d_M_transfer_19 (by decide) (fun h17 => ?_) (fun h17 => ?_)
      · refine lv_iconst (v := 0) hx hb d_M_transfer_54 (by decide) ?_
        refine lv_istore (lv' := [(7, .int 0), (0, .ref hm), (1, .int a0), (2, .int a1), (3, .int a2), (4, .int a3), (5, .int a4), (6, .int a5)]) hx hb d_M_transfer_55 hl (by decide) rfl (fun ls hl => ?_)
        refine lv_aload_n hx hb d_M_transfer_57 rfl (lv_at hl 1 rfl) ?_
        refine lv_aload_n hx hb d_M_transfer_58 rfl (lv_at hl 1 rfl) ?_
        refine vp_callSi (W.runV (As := []) (rest := [.ref hm]) ⟨hx, hb, hml, hown, hts⟩ (c_M_isUp l dC dI hm t0 m5 m6 m8 m9 m10 m11 m12 m13 m14 m16 m17 m18 m19 m20 m21 m22 m23 m24 m26 m27 m28 m29 m32 m34 m35 m37 m38 m40 m41) (cwV 0 hts (tw_gV tk_253 tk_254 tk_255 tk_249 tk_256) rfl rfl rfl (by decide +kernel) ⟨Nat.le_of_ble_eq_true rfl, Nat.le_of_ble_eq_true rfl⟩) (tw_v2 (va_recv (q0 := 0) hK hP rfl rfl) (hP.sub (ws' := [(hm, .inr (7, [.int t0, .int 0, .int 0, .int 0, .int 0, m5, m6, .int 0, m8, m9, m10, m11, m12, m13, m14, .int 0, m16, m17, m18, m19, m20, m21, m22, m23, m24, .int 0, m26, m27, m28, m29, .int 0, .int 0, m32, .int 0, m34, m35, .int 0, m37, m38, .int 0, m40, m41]))]) [0] rfl) (hK.sub (tys' := []) [] rfl)) rfl rfl hl.1 rfl (lv_room (Nat.le_of_ble_eq_true rfl)) d_M_transfer_59 ⟨by show 0 ≤ 0; decide, by show 0 ≤ 0; decide⟩) (fun r18 e19 => ?_)
        have e19 := e19.symm
        subst e19
        refine lv_if_ne (tgt := 69) hx hb d_M_transfer_62 (by decide) (fun h20 => absurd (by decide) h20) (fun h20 => ?_)
        refine lv_iconst (v := 1) hx hb d_M_transfer_65 (by decide) ?_
        refine lv_goto (tgt := 91) hx hb d_M_transfer_66 (by decide) ?_
        refine va_put (D := (dC, dI)) (ci := 7) (v := .int 1) (ty := .int) (C := "LandBookModel") (T := F_LandBookModel) (N := 42) hx hb hts tu_LandBookModel t_LandBookModel t_LandBookModel_ok n_LandBookModel hown hK hP hD hS 0 rfl rfl 0 (by decide) (hts _ tk_251) (fun _ h9 => h9) rfl (by decide +kernel) rfl rfl (Nat.le_of_ble_eq_true rfl) d_M_transfer_91 (fun H locs hP hD hS => ?_)
        have hP : va_P (dC, dI) classes [(hm, .inr (7, [.int 1, .int 0, .int 0, .int 0, .int 0, m5, m6, .int 0, m8, m9, m10, m11, m12, m13, m14, .int 0, m16, m17, m18, m19, m20, m21, m22, m23, m24, .int 0, m26, m27, m28, m29, .int 0, .int 0, m32, .int 0, m34, m35, .int 0, m37, m38, .int 0, m40, m41]))] H := hP
        have hD : va_D A [(hm, .inr (7, [.int 1, .int 0, .int 0, .int 0, .int 0, m5, m6, .int 0, m8, m9, m10, m11, m12, m13, m14, .int 0, m16, m17, m18, m19, m20, m21, m22, m23, m24, .int 0, m26, m27, m28, m29, .int 0, .int 0, m32, .int 0, m34, m35, .int 0, m37, m38, .int 0, m40, m41]))] := hD
        refine lv_aload_n hx hb d_M_transfer_94 rfl (lv_at hl 1 rfl) ?_
        refine va_get (D := (dC, dI)) (ci := 7) (v := .int 1) (C := "LandBookModel") (T := F_LandBookModel) (N := 42) hx hb hts tu_LandBookModel hown hK hP 0 rfl rfl 0 (by decide) (hts _ tk_251) (fun _ h9 => h9) rfl d_M_transfer_95 ?_
        refine lv_if_le (tgt := 103) hx hb d_M_transfer_98 (by decide) (fun h21 => absurd h21 (by decide)) (fun h21 => ?_)
        refine lv_iconst (v := 0) hx hb d_M_transfer_101 (by decide) ?_
        have hP9 := hP.sub (ws' := [(hm, .inr (7, [.int 1, .int 0, .int 0, .int 0, .int 0, m5, m6, .int 0, m8, m9, m10, m11, m12, m13, m14, .int 0, m16, m17, m18, m19, m20, m21, m22, m23, m24, .int 0, m26, m27, m28, m29, .int 0, .int 0, m32, .int 0, m34, m35, .int 0, m37, m38, .int 0, m40, m41]))]) [0] rfl
        have hD9 := hD.sub (ws' := [(hm, .inr (7, [.int 1, .int 0, .int 0, .int 0, .int 0, m5, m6, .int 0, m8, m9, m10, m11, m12, m13, m14, .int 0, m16, m17, m18, m19, m20, m21, m22, m23, m24, .int 0, m26, m27, m28, m29, .int 0, .int 0, m32, .int 0, m34, m35, .int 0, m37, m38, .int 0, m40, m41]))]) [0] (by decide) rfl
        have hK9 := hK.sub (tys' := []) [] rfl
        refine W.widen (k := 0) (n := 0) (by decide) (by decide) ?_
        exact W.iret (v := 0) hx hb hr (fun t ht hW => ⟨⟨0, (1, [.int 0, .int 0, .int 0, .int 0, m5, m6, .int 0, m8, m9, m10, m11, m12, m13, m14, .int 0, m16, m17, m18, m19, m20, m21, m22, m23, m24, .int 0, m26, m27, m28, m29, .int 0, .int 0, m32, .int 0, m34, m35, .int 0, m37, m38, .int 0, m40, m41]), rfl, rfl, by rw [ht]; exact hP9, va_K.moved hW.alike hK9, hD9⟩, hS.F ht⟩) hS.2.2 d_M_transfer_102
      · refine lv_iload hx hb d_M_transfer_22 (lv_at hl 4 rfl) ?_
        refine lv_iconst (v := 1) hx hb d_M_transfer_24 (by decide) ?_
        refine lv_icmp_lt (tgt := 54) hx hb d_M_transfer_25 (by decide) (fun h22 => ?_) (fun h22 => ?_)
        · refine lv_iconst (v := 0) hx hb d_M_transfer_54 (by decide) ?_
          refine lv_istore (lv' := [(7, .int 0), (0, .ref hm), (1, .int a0), (2, .int a1), (3, .int a2), (4, .int a3), (5, .int a4), (6, .int a5)]) hx hb d_M_transfer_55 hl (by decide) rfl (fun ls hl => ?_)
          refine lv_aload_n hx hb d_M_transfer_57 rfl (lv_at hl 1 rfl) ?_
          refine lv_aload_n hx hb d_M_transfer_58 rfl (lv_at hl 1 rfl) ?_
          refine vp_callSi (W.runV (As := []) (rest := [.ref hm]) ⟨hx, hb, hml, hown, hts⟩ (c_M_isUp l dC dI hm t0 m5 m6 m8 m9 m10 m11 m12 m13 m14 m16 m17 m18 m19 m20 m21 m22 m23 m24 m26 m27 m28 m29 m32 m34 m35 m37 m38 m40 m41) (cwV 0 hts (tw_gV tk_253 tk_254 tk_255 tk_249 tk_256) rfl rfl rfl (by decide +kernel) ⟨Nat.le_of_ble_eq_true rfl, Nat.le_of_ble_eq_true rfl⟩) (tw_v2 (va_recv (q0 := 0) hK hP rfl rfl) (hP.sub (ws' := [(hm, .inr (7, [.int t0, .int 0, .int 0, .int 0, .int 0, m5, m6, .int 0, m8, m9, m10, m11, m12, m13, m14, .int 0, m16, m17, m18, m19, m20, m21, m22, m23, m24, .int 0, m26, m27, m28, m29, .int 0, .int 0, m32, .int 0, m34, m35, .int 0, m37, m38, .int 0, m40, m41]))]) [0] rfl) (hK.sub (tys' := []) [] rfl)) rfl rfl hl.1 rfl (lv_room (Nat.le_of_ble_eq_true rfl)) d_M_transfer_59 ⟨by show 0 ≤ 0; decide, by show 0 ≤ 0; decide⟩) (fun r23 e24 => ?_)
          have e24 := e24.symm
          subst e24
          refine lv_if_ne (tgt := 69) hx hb d_M_transfer_62 (by decide) (fun h25 => absurd (by decide) h25) (fun h25 => ?_)
          refine lv_iconst (v := 1) hx hb d_M_transfer_65 (by decide) ?_
          refine lv_goto (tgt := 91) hx hb d_M_transfer_66 (by decide) ?_
          refine va_put (D := (dC, dI)) (ci := 7) (v := .int 1) (ty := .int) (C := "LandBookModel") (T := F_LandBookModel) (N := 42) hx hb hts tu_LandBookModel t_LandBookModel t_LandBookModel_ok n_LandBookModel hown hK hP hD hS 0 rfl rfl 0 (by decide) (hts _ tk_251) (fun _ h9 => h9) rfl (by decide +kernel) rfl rfl (Nat.le_of_ble_eq_true rfl) d_M_transfer_91 (fun H locs hP hD hS => ?_)
          have hP : va_P (dC, dI) classes [(hm, .inr (7, [.int 1, .int 0, .int 0, .int 0, .int 0, m5, m6, .int 0, m8, m9, m10, m11, m12, m13, m14, .int 0, m16, m17, m18, m19, m20, m21, m22, m23, m24, .int 0, m26, m27, m28, m29, .int 0, .int 0, m32, .int 0, m34, m35, .int 0, m37, m38, .int 0, m40, m41]))] H := hP
          have hD : va_D A [(hm, .inr (7, [.int 1, .int 0, .int 0, .int 0, .int 0, m5, m6, .int 0, m8, m9, m10, m11, m12, m13, m14, .int 0, m16, m17, m18, m19, m20, m21, m22, m23, m24, .int 0, m26, m27, m28, m29, .int 0, .int 0, m32, .int 0, m34, m35, .int 0, m37, m38, .int 0, m40, m41]))] := hD
          refine lv_aload_n hx hb d_M_transfer_94 rfl (lv_at hl 1 rfl) ?_
          refine va_get (D := (dC, dI)) (ci := 7) (v := .int 1) (C := "LandBookModel") (T := F_LandBookModel) (N := 42) hx hb hts tu_LandBookModel hown hK hP 0 rfl rfl 0 (by decide) (hts _ tk_251) (fun _ h9 => h9) rfl d_M_transfer_95 ?_
          refine lv_if_le (tgt := 103) hx hb d_M_transfer_98 (by decide) (fun h26 => absurd h26 (by decide)) (fun h26 => ?_)
          refine lv_iconst (v := 0) hx hb d_M_transfer_101 (by decide) ?_
          have hP9 := hP.sub (ws' := [(hm, .inr (7, [.int 1, .int 0, .int 0, .int 0, .int 0, m5, m6, .int 0, m8, m9, m10, m11, m12, m13, m14, .int 0, m16, m17, m18, m19, m20, m21, m22, m23, m24, .int 0, m26, m27, m28, m29, .int 0, .int 0, m32, .int 0, m34, m35, .int 0, m37, m38, .int 0, m40, m41]))]) [0] rfl
          have hD9 := hD.sub (ws' := [(hm, .inr (7, [.int 1, .int 0, .int 0, .int 0, .int 0, m5, m6, .int 0, m8, m9, m10, m11, m12, m13, m14, .int 0, m16, m17, m18, m19, m20, m21, m22, m23, m24, .int 0, m26, m27, m28, m29, .int 0, .int 0, m32, .int 0, m34, m35, .int 0, m37, m38, .int 0, m40, m41]))]) [0] (by decide) rfl
          have hK9 := hK.sub (tys' := []) [] rfl
          refine W.widen (k := 0) (n := 0) (by decide) (by decide) ?_
          exact W.iret (v := 0) hx hb hr (fun t ht hW => ⟨⟨0, (1, [.int 0, .int 0, .int 0, .int 0, m5, m6, .int 0, m8, m9, m10, m11, m12, m13, m14, .int 0, m16, m17, m18, m19, m20, m21, m22, m23, m24, .int 0, m26, m27, m28, m29, .int 0, .int 0, m32, .int 0, m34, m35, .int 0, m37, m38, .int 0, m40, m41]), rfl, rfl, by rw [ht]; exact hP9, va_K.moved hW.alike hK9, hD9⟩, hS.F ht⟩) hS.2.2 d_M_transfer_102
        · refine lv_iload hx hb d_M_transfer_28 (lv_at hl 4 rfl) ?_
          refine lv_sipush (v := 5040) hx hb d_M_transfer_30 (by decide) ?_
          refine lv_icmp_gt (tgt := 54) hx hb d_M_transfer_33 (by decide) (fun h27 => ?_) (fun h27 => ?_)
          · refine lv_iconst (v := 0) hx hb d_M_transfer_54 (by decide) ?_
            refine lv_istore (lv' := [(7, .int 0), (0, .ref hm), (1, .int a0), (2, .int a1), (3, .int a2), (4, .int a3), (5, .int a4), (6, .int a5)]) hx hb d_M_transfer_55 hl (by decide) rfl (fun ls hl => ?_)
            refine lv_aload_n hx hb d_M_transfer_57 rfl (lv_at hl 1 rfl) ?_
            refine lv_aload_n hx hb d_M_transfer_58 rfl (lv_at hl 1 rfl) ?_
            refine vp_callSi (W.runV (As := []) (rest := [.ref hm]) ⟨hx, hb, hml, hown, hts⟩ (c_M_isUp l dC dI hm t0 m5 m6 m8 m9 m10 m11 m12 m13 m14 m16 m17 m18 m19 m20 m21 m22 m23 m24 m26 m27 m28 m29 m32 m34 m35 m37 m38 m40 m41) (cwV 0 hts (tw_gV tk_253 tk_254 tk_255 tk_249 tk_256) rfl rfl rfl (by decide +kernel) ⟨Nat.le_of_ble_eq_true rfl, Nat.le_of_ble_eq_true rfl⟩) (tw_v2 (va_recv (q0 := 0) hK hP rfl rfl) (hP.sub (ws' := [(hm, .inr (7, [.int t0, .int 0, .int 0, .int 0, .int 0, m5, m6, .int 0, m8, m9, m10, m11, m12, m13, m14, .int 0, m16, m17, m18, m19, m20, m21, m22, m23, m24, .int 0, m26, m27, m28, m29, .int 0, .int 0, m32, .int 0, m34, m35, .int 0, m37, m38, .int 0, m40, m41]))]) [0] rfl) (hK.sub (tys' := []) [] rfl)) rfl rfl hl.1 rfl (lv_room (Nat.le_of_ble_eq_true rfl)) d_M_transfer_59 ⟨by show 0 ≤ 0; decide, by show 0 ≤ 0; decide⟩) (fun r28 e29 => ?_)
            have e29 := e29.symm
            subst e29
            refine lv_if_ne (tgt := 69) hx hb d_M_transfer_62 (by decide) (fun h30 => absurd (by decide) h30) (fun h30 => ?_)
            refine lv_iconst (v := 1) hx hb d_M_transfer_65 (by decide) ?_
            refine lv_goto (tgt := 91) hx hb d_M_transfer_66 (by decide) ?_
            refine va_put (D := (dC, dI)) (ci := 7) (v := .int 1) (ty := .int) (C := "LandBookModel") (T := F_LandBookModel) (N := 42) hx hb hts tu_LandBookModel t_LandBookModel t_LandBookModel_ok n_LandBookModel hown hK hP hD hS 0 rfl rfl 0 (by decide) (hts _ tk_251) (fun _ h9 => h9) rfl (by decide +kernel) rfl rfl (Nat.le_of_ble_eq_true rfl) d_M_transfer_91 (fun H locs hP hD hS => ?_)
            have hP : va_P (dC, dI) classes [(hm, .inr (7, [.int 1, .int 0, .int 0, .int 0, .int 0, m5, m6, .int 0, m8, m9, m10, m11, m12, m13, m14, .int 0, m16, m17, m18, m19, m20, m21, m22, m23, m24, .int 0, m26, m27, m28, m29, .int 0, .int 0, m32, .int 0, m34, m35, .int 0, m37, m38, .int 0, m40, m41]))] H := hP
            have hD : va_D A [(hm, .inr (7, [.int 1, .int 0, .int 0, .int 0, .int 0, m5, m6, .int 0, m8, m9, m10, m11, m12, m13, m14, .int 0, m16, m17, m18, m19, m20, m21, m22, m23, m24, .int 0, m26, m27, m28, m29, .int 0, .int 0, m32, .int 0, m34, m35, .int 0, m37, m38, .int 0, m40, m41]))] := hD
            refine lv_aload_n hx hb d_M_transfer_94 rfl (lv_at hl 1 rfl) ?_
            refine va_get (D := (dC, dI)) (ci := 7) (v := .int 1) (C := "LandBookModel") (T := F_LandBookModel) (N := 42) hx hb hts tu_LandBookModel hown hK hP 0 rfl rfl 0 (by decide) (hts _ tk_251) (fun _ h9 => h9) rfl d_M_transfer_95 ?_
            refine lv_if_le (tgt := 103) hx hb d_M_transfer_98 (by decide) (fun h31 => absurd h31 (by decide)) (fun h31 => ?_)
            refine lv_iconst (v := 0) hx hb d_M_transfer_101 (by decide) ?_
            have hP9 := hP.sub (ws' := [(hm, .inr (7, [.int 1, .int 0, .int 0, .int 0, .int 0, m5, m6, .int 0, m8, m9, m10, m11, m12, m13, m14, .int 0, m16, m17, m18, m19, m20, m21, m22, m23, m24, .int 0, m26, m27, m28, m29, .int 0, .int 0, m32, .int 0, m34, m35, .int 0, m37, m38, .int 0, m40, m41]))]) [0] rfl
            have hD9 := hD.sub (ws' := [(hm, .inr (7, [.int 1, .int 0, .int 0, .int 0, .int 0, m5, m6, .int 0, m8, m9, m10, m11, m12, m13, m14, .int 0, m16, m17, m18, m19, m20, m21, m22, m23, m24, .int 0, m26, m27, m28, m29, .int 0, .int 0, m32, .int 0, m34, m35, .int 0, m37, m38, .int 0, m40, m41]))]) [0] (by decide) rfl
            have hK9 := hK.sub (tys' := []) [] rfl
            refine W.widen (k := 0) (n := 0) (by decide) (by decide) ?_
            exact W.iret (v := 0) hx hb hr (fun t ht hW => ⟨⟨0, (1, [.int 0, .int 0, .int 0, .int 0, m5, m6, .int 0, m8, m9, m10, m11, m12, m13, m14, .int 0, m16, m17, m18, m19, m20, m21, m22, m23, m24, .int 0, m26, m27, m28, m29, .int 0, .int 0, m32, .int 0, m34, m35, .int 0, m37, m38, .int 0, m40, m41]), rfl, rfl, by rw [ht]; exact hP9, va_K.moved hW.alike hK9, hD9⟩, hS.F ht⟩) hS.2.2 d_M_transfer_102
          · refine lv_iload hx hb d_M_transfer_36 (lv_at hl 5 rfl) ?_
            refine lv_iconst (v := 1) hx hb d_M_transfer_38 (by decide) ?_
            refine lv_icmp_lt (tgt := 54) hx hb d_M_transfer_39 (by decide) (fun h32 => ?_) (fun h32 => ?_)
            · refine lv_iconst (v := 0) hx hb d_M_transfer_54 (by decide) ?_
              refine lv_istore (lv' := [(7, .int 0), (0, .ref hm), (1, .int a0), (2, .int a1), (3, .int a2), (4, .int a3), (5, .int a4), (6, .int a5)]) hx hb d_M_transfer_55 hl (by decide) rfl (fun ls hl => ?_)
              refine lv_aload_n hx hb d_M_transfer_57 rfl (lv_at hl 1 rfl) ?_
              refine lv_aload_n hx hb d_M_transfer_58 rfl (lv_at hl 1 rfl) ?_
              refine vp_callSi (W.runV (As := []) (rest := [.ref hm]) ⟨hx, hb, hml, hown, hts⟩ (c_M_isUp l dC dI hm t0 m5 m6 m8 m9 m10 m11 m12 m13 m14 m16 m17 m18 m19 m20 m21 m22 m23 m24 m26 m27 m28 m29 m32 m34 m35 m37 m38 m40 m41) (cwV 0 hts (tw_gV tk_253 tk_254 tk_255 tk_249 tk_256) rfl rfl rfl (by decide +kernel) ⟨Nat.le_of_ble_eq_true rfl, Nat.le_of_ble_eq_true rfl⟩) (tw_v2 (va_recv (q0 := 0) hK hP rfl rfl) (hP.sub (ws' := [(hm, .inr (7, [.int t0, .int 0, .int 0, .int 0, .int 0, m5, m6, .int 0, m8, m9, m10, m11, m12, m13, m14, .int 0, m16, m17, m18, m19, m20, m21, m22, m23, m24, .int 0, m26, m27, m28, m29, .int 0, .int 0, m32, .int 0, m34, m35, .int 0, m37, m38, .int 0, m40, m41]))]) [0] rfl) (hK.sub (tys' := []) [] rfl)) rfl rfl hl.1 rfl (lv_room (Nat.le_of_ble_eq_true rfl)) d_M_transfer_59 ⟨by show 0 ≤ 0; decide, by show 0 ≤ 0; decide⟩) (fun r33 e34 => ?_)
              have e34 := e34.symm
              subst e34
              refine lv_if_ne (tgt := 69) hx hb d_M_transfer_62 (by decide) (fun h35 => absurd (by decide) h35) (fun h35 => ?_)
              refine lv_iconst (v := 1) hx hb d_M_transfer_65 (by decide) ?_
              refine lv_goto (tgt := 91) hx hb d_M_transfer_66 (by decide) ?_
              refine va_put (D := (dC, dI)) (ci := 7) (v := .int 1) (ty := .int) (C := "LandBookModel") (T := F_LandBookModel) (N := 42) hx hb hts tu_LandBookModel t_LandBookModel t_LandBookModel_ok n_LandBookModel hown hK hP hD hS 0 rfl rfl 0 (by decide) (hts _ tk_251) (fun _ h9 => h9) rfl (by decide +kernel) rfl rfl (Nat.le_of_ble_eq_true rfl) d_M_transfer_91 (fun H locs hP hD hS => ?_)
              have hP : va_P (dC, dI) classes [(hm, .inr (7, [.int 1, .int 0, .int 0, .int 0, .int 0, m5, m6, .int 0, m8, m9, m10, m11, m12, m13, m14, .int 0, m16, m17, m18, m19, m20, m21, m22, m23, m24, .int 0, m26, m27, m28, m29, .int 0, .int 0, m32, .int 0, m34, m35, .int 0, m37, m38, .int 0, m40, m41]))] H := hP
              have hD : va_D A [(hm, .inr (7, [.int 1, .int 0, .int 0, .int 0, .int 0, m5, m6, .int 0, m8, m9, m10, m11, m12, m13, m14, .int 0, m16, m17, m18, m19, m20, m21, m22, m23, m24, .int 0, m26, m27, m28, m29, .int 0, .int 0, m32, .int 0, m34, m35, .int 0, m37, m38, .int 0, m40, m41]))] := hD
              refine lv_aload_n hx hb d_M_transfer_94 rfl (lv_at hl 1 rfl) ?_
              refine va_get (D := (dC, dI)) (ci := 7) (v := .int 1) (C := "LandBookModel") (T := F_LandBookModel) (N := 42) hx hb hts tu_LandBookModel hown hK hP 0 rfl rfl 0 (by decide) (hts _ tk_251) (fun _ h9 => h9) rfl d_M_transfer_95 ?_
              refine lv_if_le (tgt := 103) hx hb d_M_transfer_98 (by decide) (fun h36 => absurd h36 (by decide)) (fun h36 => ?_)
              refine lv_iconst (v := 0) hx hb d_M_transfer_101 (by decide) ?_
              have hP9 := hP.sub (ws' := [(hm, .inr (7, [.int 1, .int 0, .int 0, .int 0, .int 0, m5, m6, .int 0, m8, m9, m10, m11, m12, m13, m14, .int 0, m16, m17, m18, m19, m20, m21, m22, m23, m24, .int 0, m26, m27, m28, m29, .int 0, .int 0, m32, .int 0, m34, m35, .int 0, m37, m38, .int 0, m40, m41]))]) [0] rfl
              have hD9 := hD.sub (ws' := [(hm, .inr (7, [.int 1, .int 0, .int 0, .int 0, .int 0, m5, m6, .int 0, m8, m9, m10, m11, m12, m13, m14, .int 0, m16, m17, m18, m19, m20, m21, m22, m23, m24, .int 0, m26, m27, m28, m29, .int 0, .int 0, m32, .int 0, m34, m35, .int 0, m37, m38, .int 0, m40, m41]))]) [0] (by decide) rfl
              have hK9 := hK.sub (tys' := []) [] rfl
              refine W.widen (k := 0) (n := 0) (by decide) (by decide) ?_
              exact W.iret (v := 0) hx hb hr (fun t ht hW => ⟨⟨0, (1, [.int 0, .int 0, .int 0, .int 0, m5, m6, .int 0, m8, m9, m10, m11, m12, m13, m14, .int 0, m16, m17, m18, m19, m20, m21, m22, m23, m24, .int 0, m26, m27, m28, m29, .int 0, .int 0, m32, .int 0, m34, m35, .int 0, m37, m38, .int 0, m40, m41]), rfl, rfl, by rw [ht]; exact hP9, va_K.moved hW.alike hK9, hD9⟩, hS.F ht⟩) hS.2.2 d_M_transfer_102
            · refine lv_iload hx hb d_M_transfer_42 (lv_at hl 5 rfl) ?_
              refine lv_sipush (v := 5040) hx hb d_M_transfer_44 (by decide) ?_
              refine lv_icmp_gt (tgt := 54) hx hb d_M_transfer_47 (by decide) (fun h37 => ?_) (fun h37 => ?_)
              · refine lv_iconst (v := 0) hx hb d_M_transfer_54 (by decide) ?_
                refine lv_istore (lv' := [(7, .int 0), (0, .ref hm), (1, .int a0), (2, .int a1), (3, .int a2), (4, .int a3), (5, .int a4), (6, .int a5)]) hx hb d_M_transfer_55 hl (by decide) rfl (fun ls hl => ?_)
                refine lv_aload_n hx hb d_M_transfer_57 rfl (lv_at hl 1 rfl) ?_
                refine lv_aload_n hx hb d_M_transfer_58 rfl (lv_at hl 1 rfl) ?_
                refine vp_callSi (W.runV (As := []) (rest := [.ref hm]) ⟨hx, hb, hml, hown, hts⟩ (c_M_isUp l dC dI hm t0 m5 m6 m8 m9 m10 m11 m12 m13 m14 m16 m17 m18 m19 m20 m21 m22 m23 m24 m26 m27 m28 m29 m32 m34 m35 m37 m38 m40 m41) (cwV 0 hts (tw_gV tk_253 tk_254 tk_255 tk_249 tk_256) rfl rfl rfl (by decide +kernel) ⟨Nat.le_of_ble_eq_true rfl, Nat.le_of_ble_eq_true rfl⟩) (tw_v2 (va_recv (q0 := 0) hK hP rfl rfl) (hP.sub (ws' := [(hm, .inr (7, [.int t0, .int 0, .int 0, .int 0, .int 0, m5, m6, .int 0, m8, m9, m10, m11, m12, m13, m14, .int 0, m16, m17, m18, m19, m20, m21, m22, m23, m24, .int 0, m26, m27, m28, m29, .int 0, .int 0, m32, .int 0, m34, m35, .int 0, m37, m38, .int 0, m40, m41]))]) [0] rfl) (hK.sub (tys' := []) [] rfl)) rfl rfl hl.1 rfl (lv_room (Nat.le_of_ble_eq_true rfl)) d_M_transfer_59 ⟨by show 0 ≤ 0; decide, by show 0 ≤ 0; decide⟩) (fun r38 e39 => ?_)
                have e39 := e39.symm
                subst e39
                refine lv_if_ne (tgt := 69) hx hb d_M_transfer_62 (by decide) (fun h40 => absurd (by decide) h40) (fun h40 => ?_)
                refine lv_iconst (v := 1) hx hb d_M_transfer_65 (by decide) ?_
                refine lv_goto (tgt := 91) hx hb d_M_transfer_66 (by decide) ?_
                refine va_put (D := (dC, dI)) (ci := 7) (v := .int 1) (ty := .int) (C := "LandBookModel") (T := F_LandBookModel) (N := 42) hx hb hts tu_LandBookModel t_LandBookModel t_LandBookModel_ok n_LandBookModel hown hK hP hD hS 0 rfl rfl 0 (by decide) (hts _ tk_251) (fun _ h9 => h9) rfl (by decide +kernel) rfl rfl (Nat.le_of_ble_eq_true rfl) d_M_transfer_91 (fun H locs hP hD hS => ?_)
                have hP : va_P (dC, dI) classes [(hm, .inr (7, [.int 1, .int 0, .int 0, .int 0, .int 0, m5, m6, .int 0, m8, m9, m10, m11, m12, m13, m14, .int 0, m16, m17, m18, m19, m20, m21, m22, m23, m24, .int 0, m26, m27, m28, m29, .int 0, .int 0, m32, .int 0, m34, m35, .int 0, m37, m38, .int 0, m40, m41]))] H := hP
                have hD : va_D A [(hm, .inr (7, [.int 1, .int 0, .int 0, .int 0, .int 0, m5, m6, .int 0, m8, m9, m10, m11, m12, m13, m14, .int 0, m16, m17, m18, m19, m20, m21, m22, m23, m24, .int 0, m26, m27, m28, m29, .int 0, .int 0, m32, .int 0, m34, m35, .int 0, m37, m38, .int 0, m40, m41]))] := hD
                refine lv_aload_n hx hb d_M_transfer_94 rfl (lv_at hl 1 rfl) ?_
                refine va_get (D := (dC, dI)) (ci := 7) (v := .int 1) (C := "LandBookModel") (T := F_LandBookModel) (N := 42) hx hb hts tu_LandBookModel hown hK hP 0 rfl rfl 0 (by decide) (hts _ tk_251) (fun _ h9 => h9) rfl d_M_transfer_95 ?_
                refine lv_if_le (tgt := 103) hx hb d_M_transfer_98 (by decide) (fun h41 => absurd h41 (by decide)) (fun h41 => ?_)
                refine lv_iconst (v := 0) hx hb d_M_transfer_101 (by decide) ?_
                have hP9 := hP.sub (ws' := [(hm, .inr (7, [.int 1, .int 0, .int 0, .int 0, .int 0, m5, m6, .int 0, m8, m9, m10, m11, m12, m13, m14, .int 0, m16, m17, m18, m19, m20, m21, m22, m23, m24, .int 0, m26, m27, m28, m29, .int 0, .int 0, m32, .int 0, m34, m35, .int 0, m37, m38, .int 0, m40, m41]))]) [0] rfl
                have hD9 := hD.sub (ws' := [(hm, .inr (7, [.int 1, .int 0, .int 0, .int 0, .int 0, m5, m6, .int 0, m8, m9, m10, m11, m12, m13, m14, .int 0, m16, m17, m18, m19, m20, m21, m22, m23, m24, .int 0, m26, m27, m28, m29, .int 0, .int 0, m32, .int 0, m34, m35, .int 0, m37, m38, .int 0, m40, m41]))]) [0] (by decide) rfl
                have hK9 := hK.sub (tys' := []) [] rfl
                refine W.widen (k := 0) (n := 0) (by decide) (by decide) ?_
                exact W.iret (v := 0) hx hb hr (fun t ht hW => ⟨⟨0, (1, [.int 0, .int 0, .int 0, .int 0, m5, m6, .int 0, m8, m9, m10, m11, m12, m13, m14, .int 0, m16, m17, m18, m19, m20, m21, m22, m23, m24, .int 0, m26, m27, m28, m29, .int 0, .int 0, m32, .int 0, m34, m35, .int 0, m37, m38, .int 0, m40, m41]), rfl, rfl, by rw [ht]; exact hP9, va_K.moved hW.alike hK9, hD9⟩, hS.F ht⟩) hS.2.2 d_M_transfer_102
              · refine lv_iconst (v := 1) hx hb d_M_transfer_50 (by decide) ?_
                refine lv_goto (tgt := 55) hx hb d_M_transfer_51 (by decide) ?_
                refine lv_istore (lv' := [(7, .int 1), (0, .ref hm), (1, .int a0), (2, .int a1), (3, .int a2), (4, .int a3), (5, .int a4), (6, .int a5)]) hx hb d_M_transfer_55 hl (by decide) rfl (fun ls hl => ?_)
                refine lv_aload_n hx hb d_M_transfer_57 rfl (lv_at hl 1 rfl) ?_
                refine lv_aload_n hx hb d_M_transfer_58 rfl (lv_at hl 1 rfl) ?_
                refine vp_callSi (W.runV (As := []) (rest := [.ref hm]) ⟨hx, hb, hml, hown, hts⟩ (c_M_isUp l dC dI hm t0 m5 m6 m8 m9 m10 m11 m12 m13 m14 m16 m17 m18 m19 m20 m21 m22 m23 m24 m26 m27 m28 m29 m32 m34 m35 m37 m38 m40 m41) (cwV 0 hts (tw_gV tk_253 tk_254 tk_255 tk_249 tk_256) rfl rfl rfl (by decide +kernel) ⟨Nat.le_of_ble_eq_true rfl, Nat.le_of_ble_eq_true rfl⟩) (tw_v2 (va_recv (q0 := 0) hK hP rfl rfl) (hP.sub (ws' := [(hm, .inr (7, [.int t0, .int 0, .int 0, .int 0, .int 0, m5, m6, .int 0, m8, m9, m10, m11, m12, m13, m14, .int 0, m16, m17, m18, m19, m20, m21, m22, m23, m24, .int 0, m26, m27, m28, m29, .int 0, .int 0, m32, .int 0, m34, m35, .int 0, m37, m38, .int 0, m40, m41]))]) [0] rfl) (hK.sub (tys' := []) [] rfl)) rfl rfl hl.1 rfl (lv_room (Nat.le_of_ble_eq_true rfl)) d_M_transfer_59 ⟨by show 0 ≤ 0; decide, by show 0 ≤ 0; decide⟩) (fun r42 e43 => ?_)
                have e43 := e43.symm
                subst e43
                refine lv_if_ne (tgt := 69) hx hb d_M_transfer_62 (by decide) (fun h44 => absurd (by decide) h44) (fun h44 => ?_)
                refine lv_iconst (v := 1) hx hb d_M_transfer_65 (by decide) ?_
                refine lv_goto (tgt := 91) hx hb d_M_transfer_66 (by decide) ?_
                refine va_put (D := (dC, dI)) (ci := 7) (v := .int 1) (ty := .int) (C := "LandBookModel") (T := F_LandBookModel) (N := 42) hx hb hts tu_LandBookModel t_LandBookModel t_LandBookModel_ok n_LandBookModel hown hK hP hD hS 0 rfl rfl 0 (by decide) (hts _ tk_251) (fun _ h9 => h9) rfl (by decide +kernel) rfl rfl (Nat.le_of_ble_eq_true rfl) d_M_transfer_91 (fun H locs hP hD hS => ?_)
                have hP : va_P (dC, dI) classes [(hm, .inr (7, [.int 1, .int 0, .int 0, .int 0, .int 0, m5, m6, .int 0, m8, m9, m10, m11, m12, m13, m14, .int 0, m16, m17, m18, m19, m20, m21, m22, m23, m24, .int 0, m26, m27, m28, m29, .int 0, .int 0, m32, .int 0, m34, m35, .int 0, m37, m38, .int 0, m40, m41]))] H := hP
                have hD : va_D A [(hm, .inr (7, [.int 1, .int 0, .int 0, .int 0, .int 0, m5, m6, .int 0, m8, m9, m10, m11, m12, m13, m14, .int 0, m16, m17, m18, m19, m20, m21, m22, m23, m24, .int 0, m26, m27, m28, m29, .int 0, .int 0, m32, .int 0, m34, m35, .int 0, m37, m38, .int 0, m40, m41]))] := hD
                refine lv_aload_n hx hb d_M_transfer_94 rfl (lv_at hl 1 rfl) ?_
                refine va_get (D := (dC, dI)) (ci := 7) (v := .int 1) (C := "LandBookModel") (T := F_LandBookModel) (N := 42) hx hb hts tu_LandBookModel hown hK hP 0 rfl rfl 0 (by decide) (hts _ tk_251) (fun _ h9 => h9) rfl d_M_transfer_95 ?_
                refine lv_if_le (tgt := 103) hx hb d_M_transfer_98 (by decide) (fun h45 => absurd h45 (by decide)) (fun h45 => ?_)
                refine lv_iconst (v := 0) hx hb d_M_transfer_101 (by decide) ?_
                have hP9 := hP.sub (ws' := [(hm, .inr (7, [.int 1, .int 0, .int 0, .int 0, .int 0, m5, m6, .int 0, m8, m9, m10, m11, m12, m13, m14, .int 0, m16, m17, m18, m19, m20, m21, m22, m23, m24, .int 0, m26, m27, m28, m29, .int 0, .int 0, m32, .int 0, m34, m35, .int 0, m37, m38, .int 0, m40, m41]))]) [0] rfl
                have hD9 := hD.sub (ws' := [(hm, .inr (7, [.int 1, .int 0, .int 0, .int 0, .int 0, m5, m6, .int 0, m8, m9, m10, m11, m12, m13, m14, .int 0, m16, m17, m18, m19, m20, m21, m22, m23, m24, .int 0, m26, m27, m28, m29, .int 0, .int 0, m32, .int 0, m34, m35, .int 0, m37, m38, .int 0, m40, m41]))]) [0] (by decide) rfl
                have hK9 := hK.sub (tys' := []) [] rfl
                refine W.widen (k := 0) (n := 0) (by decide) (by decide) ?_
                exact W.iret (v := 0) hx hb hr (fun t ht hW => ⟨⟨0, (1, [.int 0, .int 0, .int 0, .int 0, m5, m6, .int 0, m8, m9, m10, m11, m12, m13, m14, .int 0, m16, m17, m18, m19, m20, m21, m22, m23, m24, .int 0, m26, m27, m28, m29, .int 0, .int 0, m32, .int 0, m34, m35, .int 0, m37, m38, .int 0, m40, m41]), rfl, rfl, by rw [ht]; exact hP9, va_K.moved hW.alike hK9, hD9⟩, hS.F ht⟩) hS.2.2 d_M_transfer_102
abbrev y_M_ease : MethodName := ⟨"LandBookModel", "ease", "(III)I"⟩
abbrev w_M_ease : List Cond := Cond.code y_M_ease prog_13_method_58_code 5 (some .int) :: tw_G
theorem d_M_ease_0 : decode prog_13_method_58_code 0 = .ok (.aload_n 0, 1) := by decide +kernel
theorem d_M_ease_1 : decode prog_13_method_58_code 1 = .ok (.aload_n 0, 1) := by decide +kernel
theorem d_M_ease_2 : decode prog_13_method_58_code 2 = .ok (.invokevirtual 264, 3) := by decide +kernel
theorem d_M_ease_5 : decode prog_13_method_58_code 5 = .ok (.ifCond .ne 7, 3) := by decide +kernel
theorem d_M_ease_8 : decode prog_13_method_58_code 8 = .ok (.iconst 1, 1) := by decide +kernel
theorem d_M_ease_9 : decode prog_13_method_58_code 9 = .ok (.goto 35, 3) := by decide +kernel
theorem d_M_ease_44 : decode prog_13_method_58_code 44 = .ok (.putfield 98, 3) := by decide +kernel
theorem d_M_ease_47 : decode prog_13_method_58_code 47 = .ok (.aload_n 0, 1) := by decide +kernel
theorem d_M_ease_48 : decode prog_13_method_58_code 48 = .ok (.getfield 98, 3) := by decide +kernel
theorem d_M_ease_51 : decode prog_13_method_58_code 51 = .ok (.ifCond .le 5, 3) := by decide +kernel
theorem d_M_ease_54 : decode prog_13_method_58_code 54 = .ok (.iconst 0, 1) := by decide +kernel
theorem d_M_ease_55 : decode prog_13_method_58_code 55 = .ok (.ireturn, 1) := by decide +kernel
set_option maxHeartbeats 4000000 in
set_option maxRecDepth 100000 in
theorem c_M_ease (l : Launch) (dC : Nat → ClassId) (dI : Nat → Nat → Nat) (hm sz : Nat) (t0 : Int32) (m5 m6 m8 m9 m10 m11 m12 m13 m14 m16 m17 m18 m19 m20 m21 m22 m23 m24 m26 m27 m28 m29 m32 m34 m35 m37 m38 m40 m41 : Value) (a0 a1 a2 : Int32) : Met l y_M_ease w_M_ease ({ frames := 1, cells := 0, slots := 0, locals := 20 }) (tw_P4 (dC, dI) classes [(hm, .inr (7, [.int t0, .int 0, .int 0, .int 0, .int 0, m5, m6, .int 0, m8, m9, m10, m11, m12, m13, m14, .int 0, m16, m17, m18, m19, m20, m21, m22, m23, m24, .int 0, m26, m27, m28, m29, .int 0, .int 0, m32, .int 0, m34, m35, .int 0, m37, m38, .int 0, m40, m41]))] [] sz [.ref hm, .int a0, .int a1, .int a2]) (va_Qi (fun (r : Int32) (u : Int32 × List Value) => u.1 = 1) (fun u => tw_B dC dI (va_A [(hm, .inr (7, [.int t0, .int 0, .int 0, .int 0, .int 0, m5, m6, .int 0, m8, m9, m10, m11, m12, m13, m14, .int 0, m16, m17, m18, m19, m20, m21, m22, m23, m24, .int 0, m26, m27, m28, m29, .int 0, .int 0, m32, .int 0, m34, m35, .int 0, m37, m38, .int 0, m40, m41]))] sz) [(hm, .inr (7, .int u.1 :: u.2))] []) (va_A [(hm, .inr (7, [.int t0, .int 0, .int 0, .int 0, .int 0, m5, m6, .int 0, m8, m9, m10, m11, m12, m13, m14, .int 0, m16, m17, m18, m19, m20, m21, m22, m23, m24, .int 0, m26, m27, m28, m29, .int 0, .int 0, m32, .int 0, m34, m35, .int 0, m37, m38, .int 0, m40, m41]))] sz)) 0 0 (va_A [(hm, .inr (7, [.int t0, .int 0, .int 0, .int 0, .int 0, m5, m6, .int 0, m8, m9, m10, m11, m12, m13, m14, .int 0, m16, m17, m18, m19, m20, m21, m22, m23, m24, .int 0, m26, m27, m28, m29, .int 0, .int 0, m32, .int 0, m34, m35, .int 0, m37, m38, .int 0, m40, m41]))] sz) := by
  refine Met.ofW (cc := prog_13_method_58_code) (maxL := 5) (ret := (some .int)) (by decide) rfl ?_
  intro p e s m args below meth c s₁ B hml hv
  obtain ⟨rfl, hsz, hP, hK, hD0⟩ := hv
  have hx := B.exec
  have hb := B.bytes
  have hr := B.returns
  have hts : ∀ w ∈ tw_G, w.before _ s = true := fun w h => atoms_spec (ws := w_M_ease) B.pre w (List.mem_cons_of_mem _ h)
  have hown : s.vm.findClass "LandBookModel" = some m.cls := findClass_of_methodNamed B.named
  have hlocks := B.notSynchronized
  subst hsz
  have hD := hD0.self (sz := s.heap.size)
  generalize hAe : va_A [(hm, .inr (7, [.int t0, .int 0, .int 0, .int 0, .int 0, m5, m6, .int 0, m8, m9, m10, m11, m12, m13, m14, .int 0, m16, m17, m18, m19, m20, m21, m22, m23, m24, .int 0, m26, m27, m28, m29, .int 0, .int 0, m32, .int 0, m34, m35, .int 0, m37, m38, .int 0, m40, m41]))] s.heap.size = A at hD ⊢
  have hA : ∀ q : Nat, s.heap.size ≤ q → A q := fun q h => by rw [← hAe]; exact Or.inr h
  have hS : va_S A s.heap s.heap [] := va_S.rf
  have hP : va_P (dC, dI) classes [(hm, .inr (7, [.int t0, .int 0, .int 0, .int 0, .int 0, m5, m6, .int 0, m8, m9, m10, m11, m12, m13, m14, .int 0, m16, m17, m18, m19, m20, m21, m22, m23, m24, .int 0, m26, m27, m28, m29, .int 0, .int 0, m32, .int 0, m34, m35, .int 0, m37, m38, .int 0, m40, m41]))] s.heap := hP
  have hl := lv_entry ([.ref hm, .int a0, .int a1, .int a2]) (n := 5) (Nat.le_of_ble_eq_true rfl)
  rw [lg_entry_eq]
  generalize (lg_sl ([.ref hm, .int a0, .int a1, .int a2]) ++ List.replicate (5 - (lg_sl ([.ref hm, .int a0, .int a1, .int a2])).length) Slot.unset).toArray = ls at hl ⊢
  have hl : lv_has ls 5 [(0, .ref hm), (1, .int a0), (2, .int a1), (3, .int a2)] := hl
  refine lv_aload_n hx hb d_M_ease_0 rfl (lv_at hl 0 rfl) ?_
  refine lv_aload_n hx hb d_M_ease_1 rfl (lv_at hl 0 rfl) ?_
  refine vp_callSi (W.runV (As := []) (rest := [.ref hm]) ⟨hx, hb, hml, hown, hts⟩ (c_M_isUp l dC dI hm t0 m5 m6 m8 m9 m10 m11 m12 m13 m14 m16 m17 m18 m19 m20 m21 m22 m23 m24 m26 m27 m28 m29 m32 m34 m35 m37 m38 m40 m41) (cwV 0 hts (tw_gV tk_253 tk_254 tk_255 tk_249 tk_256) rfl rfl rfl (by decide +kernel) ⟨Nat.le_of_ble_eq_true rfl, Nat.le_of_ble_eq_true rfl⟩) (tw_v2 (va_recv (q0 := 0) hK hP rfl rfl) (hP.sub (ws' := [(hm, .inr (7, [.int t0, .int 0, .int 0, .int 0, .int 0, m5, m6, .int 0, m8, m9, m10, m11, m12, m13, m14, .int 0, m16, m17, m18, m19, m20, m21, m22, m23, m24, .int 0, m26, m27, m28, m29, .int 0, .int 0, m32, .int 0, m34, m35, .int 0, m37, m38, .int 0, m40, m41]))]) [0] rfl) (hK.sub (tys' := []) [] rfl)) rfl rfl hl.1 rfl (lv_room (Nat.le_of_ble_eq_true rfl)) d_M_ease_2 ⟨by show 0 ≤ 0; decide, by show 0 ≤ 0; decide⟩) (fun r1 e2 => ?_)
  have e2 := e2.symm
  subst e2
  refine lv_if_ne (tgt := 12) hx hb d_M_ease_5 (by decide) (fun h3 => absurd (by decide) h3) (fun h3 => ?_)
  refine lv_iconst (v := 1) hx hb d_M_ease_8 (by decide) ?_
  refine lv_goto (tgt := 44) hx hb d_M_ease_9 (by decide) ?_
  refine va_put (D := (dC, dI)) (ci := 7) (v := .int 1) (ty := .int) (C := "LandBookModel") (T := F_LandBookModel) (N := 42) hx hb hts tu_LandBookModel t_LandBookModel t_LandBookModel_ok n_LandBookModel hown hK hP hD hS 0 rfl rfl 0 (by decide) (hts _ tk_251) (fun _ h9 => h9) rfl (by decide +kernel) rfl rfl (Nat.le_of_ble_eq_true rfl) d_M_ease_44 (fun H locs hP hD hS => ?_)
  have hP : va_P (dC, dI) classes [(hm, .inr (7, [.int 1, .int 0, .int 0, .int 0, .int 0, m5, m6, .int 0, m8, m9, m10, m11, m12, m13, m14, .int 0, m16, m17, m18, m19, m20, m21, m22, m23, m24, .int 0, m26, m27, m28, m29, .int 0, .int 0, m32, .int 0, m34, m35, .int 0, m37, m38, .int 0, m40, m41]))] H := hP
  have hD : va_D A [(hm, .inr (7, [.int 1, .int 0, .int 0, .int 0, .int 0, m5, m6, .int 0, m8, m9, m10, m11, m12, m13, m14, .int 0, m16, m17, m18, m19, m20, m21, m22, m23, m24, .int 0, m26, m27, m28, m29, .int 0, .int 0, m32, .int 0, m34, m35, .int 0, m37, m38, .int 0, m40, m41]))] := hD
  refine lv_aload_n hx hb d_M_ease_47 rfl (lv_at hl 0 rfl) ?_
  refine va_get (D := (dC, dI)) (ci := 7) (v := .int 1) (C := "LandBookModel") (T := F_LandBookModel) (N := 42) hx hb hts tu_LandBookModel hown hK hP 0 rfl rfl 0 (by decide) (hts _ tk_251) (fun _ h9 => h9) rfl d_M_ease_48 ?_
  refine lv_if_le (tgt := 56) hx hb d_M_ease_51 (by decide) (fun h4 => absurd h4 (by decide)) (fun h4 => ?_)
  refine lv_iconst (v := 0) hx hb d_M_ease_54 (by decide) ?_
  have hP9 := hP.sub (ws' := [(hm, .inr (7, [.int 1, .int 0, .int 0, .int 0, .int 0, m5, m6, .int 0, m8, m9, m10, m11, m12, m13, m14, .int 0, m16, m17, m18, m19, m20, m21, m22, m23, m24, .int 0, m26, m27, m28, m29, .int 0, .int 0, m32, .int 0, m34, m35, .int 0, m37, m38, .int 0, m40, m41]))]) [0] rfl
  have hD9 := hD.sub (ws' := [(hm, .inr (7, [.int 1, .int 0, .int 0, .int 0, .int 0, m5, m6, .int 0, m8, m9, m10, m11, m12, m13, m14, .int 0, m16, m17, m18, m19, m20, m21, m22, m23, m24, .int 0, m26, m27, m28, m29, .int 0, .int 0, m32, .int 0, m34, m35, .int 0, m37, m38, .int 0, m40, m41]))]) [0] (by decide) rfl
  have hK9 := hK.sub (tys' := []) [] rfl
  refine W.widen (k := 0) (n := 0) (by decide) (by decide) ?_
  exact W.iret (v := 0) hx hb hr (fun t ht hW => ⟨⟨0, (1, [.int 0, .int 0, .int 0, .int 0, m5, m6, .int 0, m8, m9, m10, m11, m12, m13, m14, .int 0, m16, m17, m18, m19, m20, m21, m22, m23, m24, .int 0, m26, m27, m28, m29, .int 0, .int 0, m32, .int 0, m34, m35, .int 0, m37, m38, .int 0, m40, m41]), rfl, rfl, by rw [ht]; exact hP9, va_K.moved hW.alike hK9, hD9⟩, hS.F ht⟩) hS.2.2 d_M_ease_55
abbrev y_M_release : MethodName := ⟨"LandBookModel", "release", "(II)I"⟩
abbrev w_M_release : List Cond := Cond.code y_M_release prog_13_method_59_code 5 (some .int) :: tw_G
theorem d_M_release_0 : decode prog_13_method_59_code 0 = .ok (.aload_n 0, 1) := by decide +kernel
theorem d_M_release_1 : decode prog_13_method_59_code 1 = .ok (.aload_n 0, 1) := by decide +kernel
theorem d_M_release_2 : decode prog_13_method_59_code 2 = .ok (.invokevirtual 264, 3) := by decide +kernel
theorem d_M_release_5 : decode prog_13_method_59_code 5 = .ok (.ifCond .ne 7, 3) := by decide +kernel
theorem d_M_release_8 : decode prog_13_method_59_code 8 = .ok (.iconst 1, 1) := by decide +kernel
theorem d_M_release_9 : decode prog_13_method_59_code 9 = .ok (.goto 32, 3) := by decide +kernel
theorem d_M_release_41 : decode prog_13_method_59_code 41 = .ok (.putfield 98, 3) := by decide +kernel
theorem d_M_release_44 : decode prog_13_method_59_code 44 = .ok (.aload_n 0, 1) := by decide +kernel
theorem d_M_release_45 : decode prog_13_method_59_code 45 = .ok (.getfield 98, 3) := by decide +kernel
theorem d_M_release_48 : decode prog_13_method_59_code 48 = .ok (.ifCond .le 5, 3) := by decide +kernel
theorem d_M_release_51 : decode prog_13_method_59_code 51 = .ok (.iconst 0, 1) := by decide +kernel
theorem d_M_release_52 : decode prog_13_method_59_code 52 = .ok (.ireturn, 1) := by decide +kernel
set_option maxHeartbeats 4000000 in
set_option maxRecDepth 100000 in
theorem c_M_release (l : Launch) (dC : Nat → ClassId) (dI : Nat → Nat → Nat) (hm sz : Nat) (t0 : Int32) (m5 m6 m8 m9 m10 m11 m12 m13 m14 m16 m17 m18 m19 m20 m21 m22 m23 m24 m26 m27 m28 m29 m32 m34 m35 m37 m38 m40 m41 : Value) (a0 a1 : Int32) : Met l y_M_release w_M_release ({ frames := 1, cells := 0, slots := 0, locals := 20 }) (tw_P4 (dC, dI) classes [(hm, .inr (7, [.int t0, .int 0, .int 0, .int 0, .int 0, m5, m6, .int 0, m8, m9, m10, m11, m12, m13, m14, .int 0, m16, m17, m18, m19, m20, m21, m22, m23, m24, .int 0, m26, m27, m28, m29, .int 0, .int 0, m32, .int 0, m34, m35, .int 0, m37, m38, .int 0, m40, m41]))] [] sz [.ref hm, .int a0, .int a1]) (va_Qi (fun (r : Int32) (u : Int32 × List Value) => u.1 = 1) (fun u => tw_B dC dI (va_A [(hm, .inr (7, [.int t0, .int 0, .int 0, .int 0, .int 0, m5, m6, .int 0, m8, m9, m10, m11, m12, m13, m14, .int 0, m16, m17, m18, m19, m20, m21, m22, m23, m24, .int 0, m26, m27, m28, m29, .int 0, .int 0, m32, .int 0, m34, m35, .int 0, m37, m38, .int 0, m40, m41]))] sz) [(hm, .inr (7, .int u.1 :: u.2))] []) (va_A [(hm, .inr (7, [.int t0, .int 0, .int 0, .int 0, .int 0, m5, m6, .int 0, m8, m9, m10, m11, m12, m13, m14, .int 0, m16, m17, m18, m19, m20, m21, m22, m23, m24, .int 0, m26, m27, m28, m29, .int 0, .int 0, m32, .int 0, m34, m35, .int 0, m37, m38, .int 0, m40, m41]))] sz)) 0 0 (va_A [(hm, .inr (7, [.int t0, .int 0, .int 0, .int 0, .int 0, m5, m6, .int 0, m8, m9, m10, m11, m12, m13, m14, .int 0, m16, m17, m18, m19, m20, m21, m22, m23, m24, .int 0, m26, m27, m28, m29, .int 0, .int 0, m32, .int 0, m34, m35, .int 0, m37, m38, .int 0, m40, m41]))] sz) := by
  refine Met.ofW (cc := prog_13_method_59_code) (maxL := 5) (ret := (some .int)) (by decide) rfl ?_
  intro p e s m args below meth c s₁ B hml hv
  obtain ⟨rfl, hsz, hP, hK, hD0⟩ := hv
  have hx := B.exec
  have hb := B.bytes
  have hr := B.returns
  have hts : ∀ w ∈ tw_G, w.before _ s = true := fun w h => atoms_spec (ws := w_M_release) B.pre w (List.mem_cons_of_mem _ h)
  have hown : s.vm.findClass "LandBookModel" = some m.cls := findClass_of_methodNamed B.named
  have hlocks := B.notSynchronized
  subst hsz
  have hD := hD0.self (sz := s.heap.size)
  generalize hAe : va_A [(hm, .inr (7, [.int t0, .int 0, .int 0, .int 0, .int 0, m5, m6, .int 0, m8, m9, m10, m11, m12, m13, m14, .int 0, m16, m17, m18, m19, m20, m21, m22, m23, m24, .int 0, m26, m27, m28, m29, .int 0, .int 0, m32, .int 0, m34, m35, .int 0, m37, m38, .int 0, m40, m41]))] s.heap.size = A at hD ⊢
  have hA : ∀ q : Nat, s.heap.size ≤ q → A q := fun q h => by rw [← hAe]; exact Or.inr h
  have hS : va_S A s.heap s.heap [] := va_S.rf
  have hP : va_P (dC, dI) classes [(hm, .inr (7, [.int t0, .int 0, .int 0, .int 0, .int 0, m5, m6, .int 0, m8, m9, m10, m11, m12, m13, m14, .int 0, m16, m17, m18, m19, m20, m21, m22, m23, m24, .int 0, m26, m27, m28, m29, .int 0, .int 0, m32, .int 0, m34, m35, .int 0, m37, m38, .int 0, m40, m41]))] s.heap := hP
  have hl := lv_entry ([.ref hm, .int a0, .int a1]) (n := 5) (Nat.le_of_ble_eq_true rfl)
  rw [lg_entry_eq]
  generalize (lg_sl ([.ref hm, .int a0, .int a1]) ++ List.replicate (5 - (lg_sl ([.ref hm, .int a0, .int a1])).length) Slot.unset).toArray = ls at hl ⊢
  have hl : lv_has ls 5 [(0, .ref hm), (1, .int a0), (2, .int a1)] := hl
  refine lv_aload_n hx hb d_M_release_0 rfl (lv_at hl 0 rfl) ?_
  refine lv_aload_n hx hb d_M_release_1 rfl (lv_at hl 0 rfl) ?_
  refine vp_callSi (W.runV (As := []) (rest := [.ref hm]) ⟨hx, hb, hml, hown, hts⟩ (c_M_isUp l dC dI hm t0 m5 m6 m8 m9 m10 m11 m12 m13 m14 m16 m17 m18 m19 m20 m21 m22 m23 m24 m26 m27 m28 m29 m32 m34 m35 m37 m38 m40 m41) (cwV 0 hts (tw_gV tk_253 tk_254 tk_255 tk_249 tk_256) rfl rfl rfl (by decide +kernel) ⟨Nat.le_of_ble_eq_true rfl, Nat.le_of_ble_eq_true rfl⟩) (tw_v2 (va_recv (q0 := 0) hK hP rfl rfl) (hP.sub (ws' := [(hm, .inr (7, [.int t0, .int 0, .int 0, .int 0, .int 0, m5, m6, .int 0, m8, m9, m10, m11, m12, m13, m14, .int 0, m16, m17, m18, m19, m20, m21, m22, m23, m24, .int 0, m26, m27, m28, m29, .int 0, .int 0, m32, .int 0, m34, m35, .int 0, m37, m38, .int 0, m40, m41]))]) [0] rfl) (hK.sub (tys' := []) [] rfl)) rfl rfl hl.1 rfl (lv_room (Nat.le_of_ble_eq_true rfl)) d_M_release_2 ⟨by show 0 ≤ 0; decide, by show 0 ≤ 0; decide⟩) (fun r1 e2 => ?_)
  have e2 := e2.symm
  subst e2
  refine lv_if_ne (tgt := 12) hx hb d_M_release_5 (by decide) (fun h3 => absurd (by decide) h3) (fun h3 => ?_)
  refine lv_iconst (v := 1) hx hb d_M_release_8 (by decide) ?_
  refine lv_goto (tgt := 41) hx hb d_M_release_9 (by decide) ?_
  refine va_put (D := (dC, dI)) (ci := 7) (v := .int 1) (ty := .int) (C := "LandBookModel") (T := F_LandBookModel) (N := 42) hx hb hts tu_LandBookModel t_LandBookModel t_LandBookModel_ok n_LandBookModel hown hK hP hD hS 0 rfl rfl 0 (by decide) (hts _ tk_251) (fun _ h9 => h9) rfl (by decide +kernel) rfl rfl (Nat.le_of_ble_eq_true rfl) d_M_release_41 (fun H locs hP hD hS => ?_)
  have hP : va_P (dC, dI) classes [(hm, .inr (7, [.int 1, .int 0, .int 0, .int 0, .int 0, m5, m6, .int 0, m8, m9, m10, m11, m12, m13, m14, .int 0, m16, m17, m18, m19, m20, m21, m22, m23, m24, .int 0, m26, m27, m28, m29, .int 0, .int 0, m32, .int 0, m34, m35, .int 0, m37, m38, .int 0, m40, m41]))] H := hP
  have hD : va_D A [(hm, .inr (7, [.int 1, .int 0, .int 0, .int 0, .int 0, m5, m6, .int 0, m8, m9, m10, m11, m12, m13, m14, .int 0, m16, m17, m18, m19, m20, m21, m22, m23, m24, .int 0, m26, m27, m28, m29, .int 0, .int 0, m32, .int 0, m34, m35, .int 0, m37, m38, .int 0, m40, m41]))] := hD
  refine lv_aload_n hx hb d_M_release_44 rfl (lv_at hl 0 rfl) ?_
  refine va_get (D := (dC, dI)) (ci := 7) (v := .int 1) (C := "LandBookModel") (T := F_LandBookModel) (N := 42) hx hb hts tu_LandBookModel hown hK hP 0 rfl rfl 0 (by decide) (hts _ tk_251) (fun _ h9 => h9) rfl d_M_release_45 ?_
  refine lv_if_le (tgt := 53) hx hb d_M_release_48 (by decide) (fun h4 => absurd h4 (by decide)) (fun h4 => ?_)
  refine lv_iconst (v := 0) hx hb d_M_release_51 (by decide) ?_
  have hP9 := hP.sub (ws' := [(hm, .inr (7, [.int 1, .int 0, .int 0, .int 0, .int 0, m5, m6, .int 0, m8, m9, m10, m11, m12, m13, m14, .int 0, m16, m17, m18, m19, m20, m21, m22, m23, m24, .int 0, m26, m27, m28, m29, .int 0, .int 0, m32, .int 0, m34, m35, .int 0, m37, m38, .int 0, m40, m41]))]) [0] rfl
  have hD9 := hD.sub (ws' := [(hm, .inr (7, [.int 1, .int 0, .int 0, .int 0, .int 0, m5, m6, .int 0, m8, m9, m10, m11, m12, m13, m14, .int 0, m16, m17, m18, m19, m20, m21, m22, m23, m24, .int 0, m26, m27, m28, m29, .int 0, .int 0, m32, .int 0, m34, m35, .int 0, m37, m38, .int 0, m40, m41]))]) [0] (by decide) rfl
  have hK9 := hK.sub (tys' := []) [] rfl
  refine W.widen (k := 0) (n := 0) (by decide) (by decide) ?_
  exact W.iret (v := 0) hx hb hr (fun t ht hW => ⟨⟨0, (1, [.int 0, .int 0, .int 0, .int 0, m5, m6, .int 0, m8, m9, m10, m11, m12, m13, m14, .int 0, m16, m17, m18, m19, m20, m21, m22, m23, m24, .int 0, m26, m27, m28, m29, .int 0, .int 0, m32, .int 0, m34, m35, .int 0, m37, m38, .int 0, m40, m41]), rfl, rfl, by rw [ht]; exact hP9, va_K.moved hW.alike hK9, hD9⟩, hS.F ht⟩) hS.2.2 d_M_release_52
theorem tk_265 : (Jvm.Cond.fieldLink "LandBookModel" (173 : Nat) "LandBookModel" "lots" "I") ∈ tw_G := tw_in (List.mem_of_getElem? (i := 1053) (by decide +kernel)) rfl
abbrev y_M_lotAt : MethodName := ⟨"LandBookModel", "lotAt", "(IIII)I"⟩
abbrev w_M_lotAt : List Cond := Cond.code y_M_lotAt prog_13_method_61_code 6 (some .int) :: tw_G
theorem d_M_lotAt_0 : decode prog_13_method_61_code 0 = .ok (.aload_n 0, 1) := by decide +kernel
theorem d_M_lotAt_1 : decode prog_13_method_61_code 1 = .ok (.aload_n 0, 1) := by decide +kernel
theorem d_M_lotAt_2 : decode prog_13_method_61_code 2 = .ok (.invokevirtual 264, 3) := by decide +kernel
theorem d_M_lotAt_5 : decode prog_13_method_61_code 5 = .ok (.ifCond .ne 7, 3) := by decide +kernel
theorem d_M_lotAt_8 : decode prog_13_method_61_code 8 = .ok (.iconst 1, 1) := by decide +kernel
theorem d_M_lotAt_9 : decode prog_13_method_61_code 9 = .ok (.goto 25, 3) := by decide +kernel
theorem d_M_lotAt_34 : decode prog_13_method_61_code 34 = .ok (.putfield 98, 3) := by decide +kernel
theorem d_M_lotAt_37 : decode prog_13_method_61_code 37 = .ok (.iconst 1, 1) := by decide +kernel
theorem d_M_lotAt_38 : decode prog_13_method_61_code 38 = .ok (.istore 5, 2) := by decide +kernel
theorem d_M_lotAt_40 : decode prog_13_method_61_code 40 = .ok (.iload 5, 2) := by decide +kernel
theorem d_M_lotAt_42 : decode prog_13_method_61_code 42 = .ok (.aload_n 0, 1) := by decide +kernel
theorem d_M_lotAt_43 : decode prog_13_method_61_code 43 = .ok (.getfield 173, 3) := by decide +kernel
theorem d_M_lotAt_46 : decode prog_13_method_61_code 46 = .ok (.if_icmp .gt 57, 3) := by decide +kernel
theorem d_M_lotAt_103 : decode prog_13_method_61_code 103 = .ok (.iconst 0, 1) := by decide +kernel
theorem d_M_lotAt_104 : decode prog_13_method_61_code 104 = .ok (.ireturn, 1) := by decide +kernel
set_option maxHeartbeats 4000000 in
set_option maxRecDepth 100000 in
theorem c_M_lotAt (l : Launch) (dC : Nat → ClassId) (dI : Nat → Nat → Nat) (hm sz : Nat) (t0 : Int32) (m5 m6 m8 m9 m10 m11 m12 m13 m14 m16 m17 m18 m19 m20 m21 m22 m23 m24 m26 m27 m28 m29 m32 m34 m35 m37 m38 m40 m41 : Value) (a0 a1 a2 a3 : Int32) : Met l y_M_lotAt w_M_lotAt ({ frames := 1, cells := 0, slots := 0, locals := 20 }) (tw_P4 (dC, dI) classes [(hm, .inr (7, [.int t0, .int 0, .int 0, .int 0, .int 0, m5, m6, .int 0, m8, m9, m10, m11, m12, m13, m14, .int 0, m16, m17, m18, m19, m20, m21, m22, m23, m24, .int 0, m26, m27, m28, m29, .int 0, .int 0, m32, .int 0, m34, m35, .int 0, m37, m38, .int 0, m40, m41]))] [] sz [.ref hm, .int a0, .int a1, .int a2, .int a3]) (va_Qi (fun (r : Int32) (u : Int32 × List Value) => u.1 = 1) (fun u => tw_B dC dI (va_A [(hm, .inr (7, [.int t0, .int 0, .int 0, .int 0, .int 0, m5, m6, .int 0, m8, m9, m10, m11, m12, m13, m14, .int 0, m16, m17, m18, m19, m20, m21, m22, m23, m24, .int 0, m26, m27, m28, m29, .int 0, .int 0, m32, .int 0, m34, m35, .int 0, m37, m38, .int 0, m40, m41]))] sz) [(hm, .inr (7, .int u.1 :: u.2))] []) (va_A [(hm, .inr (7, [.int t0, .int 0, .int 0, .int 0, .int 0, m5, m6, .int 0, m8, m9, m10, m11, m12, m13, m14, .int 0, m16, m17, m18, m19, m20, m21, m22, m23, m24, .int 0, m26, m27, m28, m29, .int 0, .int 0, m32, .int 0, m34, m35, .int 0, m37, m38, .int 0, m40, m41]))] sz)) 0 0 (va_A [(hm, .inr (7, [.int t0, .int 0, .int 0, .int 0, .int 0, m5, m6, .int 0, m8, m9, m10, m11, m12, m13, m14, .int 0, m16, m17, m18, m19, m20, m21, m22, m23, m24, .int 0, m26, m27, m28, m29, .int 0, .int 0, m32, .int 0, m34, m35, .int 0, m37, m38, .int 0, m40, m41]))] sz) := by
  refine Met.ofW (cc := prog_13_method_61_code) (maxL := 6) (ret := (some .int)) (by decide) rfl ?_
  intro p e s m args below meth c s₁ B hml hv
  obtain ⟨rfl, hsz, hP, hK, hD0⟩ := hv
  have hx := B.exec
  have hb := B.bytes
  have hr := B.returns
  have hts : ∀ w ∈ tw_G, w.before _ s = true := fun w h => atoms_spec (ws := w_M_lotAt) B.pre w (List.mem_cons_of_mem _ h)
  have hown : s.vm.findClass "LandBookModel" = some m.cls := findClass_of_methodNamed B.named
  have hlocks := B.notSynchronized
  subst hsz
  have hD := hD0.self (sz := s.heap.size)
  generalize hAe : va_A [(hm, .inr (7, [.int t0, .int 0, .int 0, .int 0, .int 0, m5, m6, .int 0, m8, m9, m10, m11, m12, m13, m14, .int 0, m16, m17, m18, m19, m20, m21, m22, m23, m24, .int 0, m26, m27, m28, m29, .int 0, .int 0, m32, .int 0, m34, m35, .int 0, m37, m38, .int 0, m40, m41]))] s.heap.size = A at hD ⊢
  have hA : ∀ q : Nat, s.heap.size ≤ q → A q := fun q h => by rw [← hAe]; exact Or.inr h
  have hS : va_S A s.heap s.heap [] := va_S.rf
  have hP : va_P (dC, dI) classes [(hm, .inr (7, [.int t0, .int 0, .int 0, .int 0, .int 0, m5, m6, .int 0, m8, m9, m10, m11, m12, m13, m14, .int 0, m16, m17, m18, m19, m20, m21, m22, m23, m24, .int 0, m26, m27, m28, m29, .int 0, .int 0, m32, .int 0, m34, m35, .int 0, m37, m38, .int 0, m40, m41]))] s.heap := hP
  have hl := lv_entry ([.ref hm, .int a0, .int a1, .int a2, .int a3]) (n := 6) (Nat.le_of_ble_eq_true rfl)
  rw [lg_entry_eq]
  generalize (lg_sl ([.ref hm, .int a0, .int a1, .int a2, .int a3]) ++ List.replicate (6 - (lg_sl ([.ref hm, .int a0, .int a1, .int a2, .int a3])).length) Slot.unset).toArray = ls at hl ⊢
  have hl : lv_has ls 6 [(0, .ref hm), (1, .int a0), (2, .int a1), (3, .int a2), (4, .int a3)] := hl
  refine lv_aload_n hx hb d_M_lotAt_0 rfl (lv_at hl 0 rfl) ?_
  refine lv_aload_n hx hb d_M_lotAt_1 rfl (lv_at hl 0 rfl) ?_
  refine vp_callSi (W.runV (As := []) (rest := [.ref hm]) ⟨hx, hb, hml, hown, hts⟩ (c_M_isUp l dC dI hm t0 m5 m6 m8 m9 m10 m11 m12 m13 m14 m16 m17 m18 m19 m20 m21 m22 m23 m24 m26 m27 m28 m29 m32 m34 m35 m37 m38 m40 m41) (cwV 0 hts (tw_gV tk_253 tk_254 tk_255 tk_249 tk_256) rfl rfl rfl (by decide +kernel) ⟨Nat.le_of_ble_eq_true rfl, Nat.le_of_ble_eq_true rfl⟩) (tw_v2 (va_recv (q0 := 0) hK hP rfl rfl) (hP.sub (ws' := [(hm, .inr (7, [.int t0, .int 0, .int 0, .int 0, .int 0, m5, m6, .int 0, m8, m9, m10, m11, m12, m13, m14, .int 0, m16, m17, m18, m19, m20, m21, m22, m23, m24, .int 0, m26, m27, m28, m29, .int 0, .int 0, m32, .int 0, m34, m35, .int 0, m37, m38, .int 0, m40, m41]))]) [0] rfl) (hK.sub (tys' := []) [] rfl)) rfl rfl hl.1 rfl (lv_room (Nat.le_of_ble_eq_true rfl)) d_M_lotAt_2 ⟨by show 0 ≤ 0; decide, by show 0 ≤ 0; decide⟩) (fun r1 e2 => ?_)
  have e2 := e2.symm
  subst e2
  refine lv_if_ne (tgt := 12) hx hb d_M_lotAt_5 (by decide) (fun h3 => absurd (by decide) h3) (fun h3 => ?_)
  refine lv_iconst (v := 1) hx hb d_M_lotAt_8 (by decide) ?_
  refine lv_goto (tgt := 34) hx hb d_M_lotAt_9 (by decide) ?_
  refine va_put (D := (dC, dI)) (ci := 7) (v := .int 1) (ty := .int) (C := "LandBookModel") (T := F_LandBookModel) (N := 42) hx hb hts tu_LandBookModel t_LandBookModel t_LandBookModel_ok n_LandBookModel hown hK hP hD hS 0 rfl rfl 0 (by decide) (hts _ tk_251) (fun _ h9 => h9) rfl (by decide +kernel) rfl rfl (Nat.le_of_ble_eq_true rfl) d_M_lotAt_34 (fun H locs hP hD hS => ?_)
  have hP : va_P (dC, dI) classes [(hm, .inr (7, [.int 1, .int 0, .int 0, .int 0, .int 0, m5, m6, .int 0, m8, m9, m10, m11, m12, m13, m14, .int 0, m16, m17, m18, m19, m20, m21, m22, m23, m24, .int 0, m26, m27, m28, m29, .int 0, .int 0, m32, .int 0, m34, m35, .int 0, m37, m38, .int 0, m40, m41]))] H := hP
  have hD : va_D A [(hm, .inr (7, [.int 1, .int 0, .int 0, .int 0, .int 0, m5, m6, .int 0, m8, m9, m10, m11, m12, m13, m14, .int 0, m16, m17, m18, m19, m20, m21, m22, m23, m24, .int 0, m26, m27, m28, m29, .int 0, .int 0, m32, .int 0, m34, m35, .int 0, m37, m38, .int 0, m40, m41]))] := hD
  refine lv_iconst (v := 1) hx hb d_M_lotAt_37 (by decide) ?_
  refine lv_istore (lv' := [(5, .int 1), (0, .ref hm), (1, .int a0), (2, .int a1), (3, .int a2), (4, .int a3)]) hx hb d_M_lotAt_38 hl (by decide) rfl (fun ls hl => ?_)
  refine lv_iload hx hb d_M_lotAt_40 (lv_at hl 0 rfl) ?_
  refine lv_aload_n hx hb d_M_lotAt_42 rfl (lv_at hl 1 rfl) ?_
  refine va_get (D := (dC, dI)) (ci := 7) (v := .int 0) (C := "LandBookModel") (T := F_LandBookModel) (N := 42) hx hb hts tu_LandBookModel hown hK hP 0 rfl rfl 7 (by decide) (hts _ tk_265) (fun _ h9 => h9) rfl d_M_lotAt_43 ?_
  refine lv_icmp_gt (tgt := 103) hx hb d_M_lotAt_46 (by decide) (fun h4 => ?_) (fun h4 => absurd (by decide) h4)
  refine lv_iconst (v := 0) hx hb d_M_lotAt_103 (by decide) ?_
  have hP9 := hP.sub (ws' := [(hm, .inr (7, [.int 1, .int 0, .int 0, .int 0, .int 0, m5, m6, .int 0, m8, m9, m10, m11, m12, m13, m14, .int 0, m16, m17, m18, m19, m20, m21, m22, m23, m24, .int 0, m26, m27, m28, m29, .int 0, .int 0, m32, .int 0, m34, m35, .int 0, m37, m38, .int 0, m40, m41]))]) [0] rfl
  have hD9 := hD.sub (ws' := [(hm, .inr (7, [.int 1, .int 0, .int 0, .int 0, .int 0, m5, m6, .int 0, m8, m9, m10, m11, m12, m13, m14, .int 0, m16, m17, m18, m19, m20, m21, m22, m23, m24, .int 0, m26, m27, m28, m29, .int 0, .int 0, m32, .int 0, m34, m35, .int 0, m37, m38, .int 0, m40, m41]))]) [0] (by decide) rfl
  have hK9 := hK.sub (tys' := []) [] rfl
  refine W.widen (k := 0) (n := 0) (by decide) (by decide) ?_
  exact W.iret (v := 0) hx hb hr (fun t ht hW => ⟨⟨0, (1, [.int 0, .int 0, .int 0, .int 0, m5, m6, .int 0, m8, m9, m10, m11, m12, m13, m14, .int 0, m16, m17, m18, m19, m20, m21, m22, m23, m24, .int 0, m26, m27, m28, m29, .int 0, .int 0, m32, .int 0, m34, m35, .int 0, m37, m38, .int 0, m40, m41]), rfl, rfl, by rw [ht]; exact hP9, va_K.moved hW.alike hK9, hD9⟩, hS.F ht⟩) hS.2.2 d_M_lotAt_104
theorem tk_266 : (Jvm.Cond.methodLink "LandBookModel" (314 : Nat) ({ cls := "LandBookModel", name := "wrong", desc := "(IIIZ)I" } : Jvm.MethodName)) ∈ tw_G := tw_in (List.mem_of_getElem? (i := 1408) (by decide +kernel)) rfl
theorem tk_267 : (Jvm.Cond.instanceMethod ({ cls := "LandBookModel", name := "wrong", desc := "(IIIZ)I" } : Jvm.MethodName)) ∈ tw_G := tw_in (List.mem_of_getElem? (i := 1410) (by decide +kernel)) rfl
theorem tk_268 : (Jvm.Cond.selects "LandBookModel" ⟨"LandBookModel", "wrong", "(IIIZ)I"⟩ ⟨"LandBookModel", "wrong", "(IIIZ)I"⟩) ∈ tw_G := tw_in (List.mem_of_getElem? (i := 57) (by decide +kernel)) rfl
theorem tk_269 : (Jvm.Cond.code ({ cls := "LandBookModel", name := "wrong", desc := "(IIIZ)I" } : Jvm.MethodName) prog_13_method_62_code (5 : Nat) (Option.some Jvm.ClassFile.FieldType.int)) ∈ tw_G := tw_in (List.mem_of_getElem? (i := 1411) (by decide +kernel)) rfl
abbrev y_M_area2 : MethodName := ⟨"LandBookModel", "area2", "(III)I"⟩
abbrev w_M_area2 : List Cond := Cond.code y_M_area2 prog_13_method_63_code 7 (some .int) :: tw_G
theorem d_M_area2_0 : decode prog_13_method_63_code 0 = .ok (.aload_n 0, 1) := by decide +kernel
theorem d_M_area2_1 : decode prog_13_method_63_code 1 = .ok (.aload_n 0, 1) := by decide +kernel
theorem d_M_area2_2 : decode prog_13_method_63_code 2 = .ok (.iload_n 1, 1) := by decide +kernel
theorem d_M_area2_3 : decode prog_13_method_63_code 3 = .ok (.iload_n 2, 1) := by decide +kernel
theorem d_M_area2_4 : decode prog_13_method_63_code 4 = .ok (.iload_n 3, 1) := by decide +kernel
theorem d_M_area2_5 : decode prog_13_method_63_code 5 = .ok (.iconst 1, 1) := by decide +kernel
theorem d_M_area2_6 : decode prog_13_method_63_code 6 = .ok (.invokevirtual 314, 3) := by decide +kernel
theorem d_M_area2_9 : decode prog_13_method_63_code 9 = .ok (.putfield 98, 3) := by decide +kernel
theorem d_M_area2_12 : decode prog_13_method_63_code 12 = .ok (.aload_n 0, 1) := by decide +kernel
theorem d_M_area2_13 : decode prog_13_method_63_code 13 = .ok (.getfield 98, 3) := by decide +kernel
theorem d_M_area2_16 : decode prog_13_method_63_code 16 = .ok (.ifCond .gt 13, 3) := by decide +kernel
theorem d_M_area2_29 : decode prog_13_method_63_code 29 = .ok (.aload_n 0, 1) := by decide +kernel
theorem d_M_area2_30 : decode prog_13_method_63_code 30 = .ok (.getfield 98, 3) := by decide +kernel
theorem d_M_area2_33 : decode prog_13_method_63_code 33 = .ok (.ifCond .le 7, 3) := by decide +kernel
theorem d_M_area2_36 : decode prog_13_method_63_code 36 = .ok (.iconst 0, 1) := by decide +kernel
theorem d_M_area2_37 : decode prog_13_method_63_code 37 = .ok (.goto 4, 3) := by decide +kernel
theorem d_M_area2_41 : decode prog_13_method_63_code 41 = .ok (.ireturn, 1) := by decide +kernel
set_option maxHeartbeats 4000000 in
set_option maxRecDepth 100000 in
theorem c_M_area2 (l : Launch) (dC : Nat → ClassId) (dI : Nat → Nat → Nat) (hm sz : Nat) (t0 : Int32) (m5 m6 m8 m9 m10 m11 m12 m13 m14 m16 m17 m18 m19 m20 m21 m22 m23 m24 m26 m27 m28 m29 m32 m34 m35 m37 m38 m40 m41 : Value) (a0 a1 a2 : Int32) : Met l y_M_area2 w_M_area2 ({ frames := 2, cells := 0, slots := 0, locals := 44 }) (tw_P4 (dC, dI) classes [(hm, .inr (7, [.int t0, .int 0, .int 0, .int 0, .int 0, m5, m6, .int 0, m8, m9, m10, m11, m12, m13, m14, .int 0, m16, m17, m18, m19, m20, m21, m22, m23, m24, .int 0, m26, m27, m28, m29, .int 0, .int 0, m32, .int 0, m34, m35, .int 0, m37, m38, .int 0, m40, m41]))] [] sz [.ref hm, .int a0, .int a1, .int a2]) (va_Qi (fun (r : Int32) (u : Int32 × List Value) => u.1 = 1) (fun u => tw_B dC dI (va_A [(hm, .inr (7, [.int t0, .int 0, .int 0, .int 0, .int 0, m5, m6, .int 0, m8, m9, m10, m11, m12, m13, m14, .int 0, m16, m17, m18, m19, m20, m21, m22, m23, m24, .int 0, m26, m27, m28, m29, .int 0, .int 0, m32, .int 0, m34, m35, .int 0, m37, m38, .int 0, m40, m41]))] sz) [(hm, .inr (7, .int u.1 :: u.2))] []) (va_A [(hm, .inr (7, [.int t0, .int 0, .int 0, .int 0, .int 0, m5, m6, .int 0, m8, m9, m10, m11, m12, m13, m14, .int 0, m16, m17, m18, m19, m20, m21, m22, m23, m24, .int 0, m26, m27, m28, m29, .int 0, .int 0, m32, .int 0, m34, m35, .int 0, m37, m38, .int 0, m40, m41]))] sz)) 0 0 (va_A [(hm, .inr (7, [.int t0, .int 0, .int 0, .int 0, .int 0, m5, m6, .int 0, m8, m9, m10, m11, m12, m13, m14, .int 0, m16, m17, m18, m19, m20, m21, m22, m23, m24, .int 0, m26, m27, m28, m29, .int 0, .int 0, m32, .int 0, m34, m35, .int 0, m37, m38, .int 0, m40, m41]))] sz) := by
  refine Met.ofW (cc := prog_13_method_63_code) (maxL := 7) (ret := (some .int)) (by decide) rfl ?_
  intro p e s m args below meth c s₁ B hml hv
  obtain ⟨rfl, hsz, hP, hK, hD0⟩ := hv
  have hx := B.exec
  have hb := B.bytes
  have hr := B.returns
  have hts : ∀ w ∈ tw_G, w.before _ s = true := fun w h => atoms_spec (ws := w_M_area2) B.pre w (List.mem_cons_of_mem _ h)
  have hown : s.vm.findClass "LandBookModel" = some m.cls := findClass_of_methodNamed B.named
  have hlocks := B.notSynchronized
  subst hsz
  have hD := hD0.self (sz := s.heap.size)
  generalize hAe : va_A [(hm, .inr (7, [.int t0, .int 0, .int 0, .int 0, .int 0, m5, m6, .int 0, m8, m9, m10, m11, m12, m13, m14, .int 0, m16, m17, m18, m19, m20, m21, m22, m23, m24, .int 0, m26, m27, m28, m29, .int 0, .int 0, m32, .int 0, m34, m35, .int 0, m37, m38, .int 0, m40, m41]))] s.heap.size = A at hD ⊢
  have hA : ∀ q : Nat, s.heap.size ≤ q → A q := fun q h => by rw [← hAe]; exact Or.inr h
  have hS : va_S A s.heap s.heap [] := va_S.rf
  have hP : va_P (dC, dI) classes [(hm, .inr (7, [.int t0, .int 0, .int 0, .int 0, .int 0, m5, m6, .int 0, m8, m9, m10, m11, m12, m13, m14, .int 0, m16, m17, m18, m19, m20, m21, m22, m23, m24, .int 0, m26, m27, m28, m29, .int 0, .int 0, m32, .int 0, m34, m35, .int 0, m37, m38, .int 0, m40, m41]))] s.heap := hP
  have hl := lv_entry ([.ref hm, .int a0, .int a1, .int a2]) (n := 7) (Nat.le_of_ble_eq_true rfl)
  rw [lg_entry_eq]
  generalize (lg_sl ([.ref hm, .int a0, .int a1, .int a2]) ++ List.replicate (7 - (lg_sl ([.ref hm, .int a0, .int a1, .int a2])).length) Slot.unset).toArray = ls at hl ⊢
  have hl : lv_has ls 7 [(0, .ref hm), (1, .int a0), (2, .int a1), (3, .int a2)] := hl
  refine lv_aload_n hx hb d_M_area2_0 rfl (lv_at hl 0 rfl) ?_
  refine lv_aload_n hx hb d_M_area2_1 rfl (lv_at hl 0 rfl) ?_
  refine lv_iload_n hx hb d_M_area2_2 rfl (lv_at hl 1 rfl) ?_
  refine lv_iload_n hx hb d_M_area2_3 rfl (lv_at hl 2 rfl) ?_
  refine lv_iload_n hx hb d_M_area2_4 rfl (lv_at hl 3 rfl) ?_
  refine lv_iconst (v := 1) hx hb d_M_area2_5 (by decide) ?_
  refine vp_callSi (W.runV (As := [.int a0, .int a1, .int a2, .int 1]) (rest := [.ref hm]) ⟨hx, hb, hml, hown, hts⟩ (c_M_wrong l dC dI hm t0 m5 m6 m8 m9 m10 m11 m12 m13 m14 m16 m17 m18 m19 m20 m21 m22 m23 m24 m26 m27 m28 m29 m32 m34 m35 m37 m38 m40 m41 (a0) (a1) (a2) (1)) (cwV 4 hts (tw_gV tk_266 tk_267 tk_268 tk_249 tk_269) rfl rfl rfl (by decide +kernel) ⟨Nat.le_of_ble_eq_true rfl, Nat.le_of_ble_eq_true rfl⟩) (tw_v2 (va_recv (q0 := 0) hK hP rfl rfl) (hP.sub (ws' := [(hm, .inr (7, [.int t0, .int 0, .int 0, .int 0, .int 0, m5, m6, .int 0, m8, m9, m10, m11, m12, m13, m14, .int 0, m16, m17, m18, m19, m20, m21, m22, m23, m24, .int 0, m26, m27, m28, m29, .int 0, .int 0, m32, .int 0, m34, m35, .int 0, m37, m38, .int 0, m40, m41]))]) [0] rfl) (hK.sub (tys' := []) [] rfl)) rfl rfl hl.1 rfl (lv_room (Nat.le_of_ble_eq_true rfl)) d_M_area2_6 ⟨by show 0 ≤ 0; decide, by show 0 ≤ 0; decide⟩) (fun r1 e2 => ?_)
  have e2 := e2.symm
  subst e2
  refine va_put (D := (dC, dI)) (ci := 7) (v := .int 1) (ty := .int) (C := "LandBookModel") (T := F_LandBookModel) (N := 42) hx hb hts tu_LandBookModel t_LandBookModel t_LandBookModel_ok n_LandBookModel hown hK hP hD hS 0 rfl rfl 0 (by decide) (hts _ tk_251) (fun _ h9 => h9) rfl (by decide +kernel) rfl rfl (Nat.le_of_ble_eq_true rfl) d_M_area2_9 (fun H locs hP hD hS => ?_)
  have hP : va_P (dC, dI) classes [(hm, .inr (7, [.int 1, .int 0, .int 0, .int 0, .int 0, m5, m6, .int 0, m8, m9, m10, m11, m12, m13, m14, .int 0, m16, m17, m18, m19, m20, m21, m22, m23, m24, .int 0, m26, m27, m28, m29, .int 0, .int 0, m32, .int 0, m34, m35, .int 0, m37, m38, .int 0, m40, m41]))] H := hP
  have hD : va_D A [(hm, .inr (7, [.int 1, .int 0, .int 0, .int 0, .int 0, m5, m6, .int 0, m8, m9, m10, m11, m12, m13, m14, .int 0, m16, m17, m18, m19, m20, m21, m22, m23, m24, .int 0, m26, m27, m28, m29, .int 0, .int 0, m32, .int 0, m34, m35, .int 0, m37, m38, .int 0, m40, m41]))] := hD
  refine lv_aload_n hx hb d_M_area2_12 rfl (lv_at hl 0 rfl) ?_
  refine va_get (D := (dC, dI)) (ci := 7) (v := .int 1) (C := "LandBookModel") (T := F_LandBookModel) (N := 42) hx hb hts tu_LandBookModel hown hK hP 0 rfl rfl 0 (by decide) (hts _ tk_251) (fun _ h9 => h9) rfl d_M_area2_13 ?_
  refine lv_if_gt (tgt := 29) hx hb d_M_area2_16 (by decide) (fun h3 => ?_) (fun h3 => absurd (by decide) h3)
  refine lv_aload_n hx hb d_M_area2_29 rfl (lv_at hl 0 rfl) ?_
  refine va_get (D := (dC, dI)) (ci := 7) (v := .int 1) (C := "LandBookModel") (T := F_LandBookModel) (N := 42) hx hb hts tu_LandBookModel hown hK hP 0 rfl rfl 0 (by decide) (hts _ tk_251) (fun _ h9 => h9) rfl d_M_area2_30 ?_
  refine lv_if_le (tgt := 40) hx hb d_M_area2_33 (by decide) (fun h4 => absurd h4 (by decide)) (fun h4 => ?_)
  refine lv_iconst (v := 0) hx hb d_M_area2_36 (by decide) ?_
  refine lv_goto (tgt := 41) hx hb d_M_area2_37 (by decide) ?_
  have hP9 := hP.sub (ws' := [(hm, .inr (7, [.int 1, .int 0, .int 0, .int 0, .int 0, m5, m6, .int 0, m8, m9, m10, m11, m12, m13, m14, .int 0, m16, m17, m18, m19, m20, m21, m22, m23, m24, .int 0, m26, m27, m28, m29, .int 0, .int 0, m32, .int 0, m34, m35, .int 0, m37, m38, .int 0, m40, m41]))]) [0] rfl
  have hD9 := hD.sub (ws' := [(hm, .inr (7, [.int 1, .int 0, .int 0, .int 0, .int 0, m5, m6, .int 0, m8, m9, m10, m11, m12, m13, m14, .int 0, m16, m17, m18, m19, m20, m21, m22, m23, m24, .int 0, m26, m27, m28, m29, .int 0, .int 0, m32, .int 0, m34, m35, .int 0, m37, m38, .int 0, m40, m41]))]) [0] (by decide) rfl
  have hK9 := hK.sub (tys' := []) [] rfl
  refine W.widen (k := 0) (n := 0) (by decide) (by decide) ?_
  exact W.iret (v := 0) hx hb hr (fun t ht hW => ⟨⟨0, (1, [.int 0, .int 0, .int 0, .int 0, m5, m6, .int 0, m8, m9, m10, m11, m12, m13, m14, .int 0, m16, m17, m18, m19, m20, m21, m22, m23, m24, .int 0, m26, m27, m28, m29, .int 0, .int 0, m32, .int 0, m34, m35, .int 0, m37, m38, .int 0, m40, m41]), rfl, rfl, by rw [ht]; exact hP9, va_K.moved hW.alike hK9, hD9⟩, hS.F ht⟩) hS.2.2 d_M_area2_41
abbrev y_M_share : MethodName := ⟨"LandBookModel", "share", "(IIII)I"⟩
abbrev w_M_share : List Cond := Cond.code y_M_share prog_13_method_64_code 5 (some .int) :: tw_G
theorem d_M_share_0 : decode prog_13_method_64_code 0 = .ok (.aload_n 0, 1) := by decide +kernel
theorem d_M_share_1 : decode prog_13_method_64_code 1 = .ok (.aload_n 0, 1) := by decide +kernel
theorem d_M_share_2 : decode prog_13_method_64_code 2 = .ok (.iload_n 1, 1) := by decide +kernel
theorem d_M_share_3 : decode prog_13_method_64_code 3 = .ok (.iload_n 3, 1) := by decide +kernel
theorem d_M_share_4 : decode prog_13_method_64_code 4 = .ok (.iload 4, 2) := by decide +kernel
theorem d_M_share_6 : decode prog_13_method_64_code 6 = .ok (.iload_n 2, 1) := by decide +kernel
theorem d_M_share_7 : decode prog_13_method_64_code 7 = .ok (.invokestatic 308, 3) := by decide +kernel
theorem d_M_share_10 : decode prog_13_method_64_code 10 = .ok (.invokevirtual 314, 3) := by decide +kernel
theorem d_M_share_13 : decode prog_13_method_64_code 13 = .ok (.putfield 98, 3) := by decide +kernel
theorem d_M_share_16 : decode prog_13_method_64_code 16 = .ok (.aload_n 0, 1) := by decide +kernel
theorem d_M_share_17 : decode prog_13_method_64_code 17 = .ok (.getfield 98, 3) := by decide +kernel
theorem d_M_share_20 : decode prog_13_method_64_code 20 = .ok (.ifCond .gt 14, 3) := by decide +kernel
theorem d_M_share_34 : decode prog_13_method_64_code 34 = .ok (.aload_n 0, 1) := by decide +kernel
theorem d_M_share_35 : decode prog_13_method_64_code 35 = .ok (.getfield 98, 3) := by decide +kernel
theorem d_M_share_38 : decode prog_13_method_64_code 38 = .ok (.ifCond .le 7, 3) := by decide +kernel
theorem d_M_share_41 : decode prog_13_method_64_code 41 = .ok (.iconst 0, 1) := by decide +kernel
theorem d_M_share_42 : decode prog_13_method_64_code 42 = .ok (.goto 4, 3) := by decide +kernel
theorem d_M_share_46 : decode prog_13_method_64_code 46 = .ok (.ireturn, 1) := by decide +kernel
set_option maxHeartbeats 4000000 in
set_option maxRecDepth 100000 in
theorem c_M_share (l : Launch) (dC : Nat → ClassId) (dI : Nat → Nat → Nat) (hm sz : Nat) (t0 : Int32) (m5 m6 m8 m9 m10 m11 m12 m13 m14 m16 m17 m18 m19 m20 m21 m22 m23 m24 m26 m27 m28 m29 m32 m34 m35 m37 m38 m40 m41 : Value) (a0 a1 a2 a3 : Int32) : Met l y_M_share w_M_share ({ frames := 2, cells := 0, slots := 0, locals := 44 }) (tw_P4 (dC, dI) classes [(hm, .inr (7, [.int t0, .int 0, .int 0, .int 0, .int 0, m5, m6, .int 0, m8, m9, m10, m11, m12, m13, m14, .int 0, m16, m17, m18, m19, m20, m21, m22, m23, m24, .int 0, m26, m27, m28, m29, .int 0, .int 0, m32, .int 0, m34, m35, .int 0, m37, m38, .int 0, m40, m41]))] [] sz [.ref hm, .int a0, .int a1, .int a2, .int a3]) (va_Qi (fun (r : Int32) (u : Int32 × List Value) => u.1 = 1) (fun u => tw_B dC dI (va_A [(hm, .inr (7, [.int t0, .int 0, .int 0, .int 0, .int 0, m5, m6, .int 0, m8, m9, m10, m11, m12, m13, m14, .int 0, m16, m17, m18, m19, m20, m21, m22, m23, m24, .int 0, m26, m27, m28, m29, .int 0, .int 0, m32, .int 0, m34, m35, .int 0, m37, m38, .int 0, m40, m41]))] sz) [(hm, .inr (7, .int u.1 :: u.2))] []) (va_A [(hm, .inr (7, [.int t0, .int 0, .int 0, .int 0, .int 0, m5, m6, .int 0, m8, m9, m10, m11, m12, m13, m14, .int 0, m16, m17, m18, m19, m20, m21, m22, m23, m24, .int 0, m26, m27, m28, m29, .int 0, .int 0, m32, .int 0, m34, m35, .int 0, m37, m38, .int 0, m40, m41]))] sz)) 0 0 (va_A [(hm, .inr (7, [.int t0, .int 0, .int 0, .int 0, .int 0, m5, m6, .int 0, m8, m9, m10, m11, m12, m13, m14, .int 0, m16, m17, m18, m19, m20, m21, m22, m23, m24, .int 0, m26, m27, m28, m29, .int 0, .int 0, m32, .int 0, m34, m35, .int 0, m37, m38, .int 0, m40, m41]))] sz) := by
  refine Met.ofW (cc := prog_13_method_64_code) (maxL := 5) (ret := (some .int)) (by decide) rfl ?_
  intro p e s m args below meth c s₁ B hml hv
  obtain ⟨rfl, hsz, hP, hK, hD0⟩ := hv
  have hx := B.exec
  have hb := B.bytes
  have hr := B.returns
  have hts : ∀ w ∈ tw_G, w.before _ s = true := fun w h => atoms_spec (ws := w_M_share) B.pre w (List.mem_cons_of_mem _ h)
  have hown : s.vm.findClass "LandBookModel" = some m.cls := findClass_of_methodNamed B.named
  have hlocks := B.notSynchronized
  subst hsz
  have hD := hD0.self (sz := s.heap.size)
  generalize hAe : va_A [(hm, .inr (7, [.int t0, .int 0, .int 0, .int 0, .int 0, m5, m6, .int 0, m8, m9, m10, m11, m12, m13, m14, .int 0, m16, m17, m18, m19, m20, m21, m22, m23, m24, .int 0, m26, m27, m28, m29, .int 0, .int 0, m32, .int 0, m34, m35, .int 0, m37, m38, .int 0, m40, m41]))] s.heap.size = A at hD ⊢
  have hA : ∀ q : Nat, s.heap.size ≤ q → A q := fun q h => by rw [← hAe]; exact Or.inr h
  have hS : va_S A s.heap s.heap [] := va_S.rf
  have hP : va_P (dC, dI) classes [(hm, .inr (7, [.int t0, .int 0, .int 0, .int 0, .int 0, m5, m6, .int 0, m8, m9, m10, m11, m12, m13, m14, .int 0, m16, m17, m18, m19, m20, m21, m22, m23, m24, .int 0, m26, m27, m28, m29, .int 0, .int 0, m32, .int 0, m34, m35, .int 0, m37, m38, .int 0, m40, m41]))] s.heap := hP
  have hl := lv_entry ([.ref hm, .int a0, .int a1, .int a2, .int a3]) (n := 5) (Nat.le_of_ble_eq_true rfl)
  rw [lg_entry_eq]
  generalize (lg_sl ([.ref hm, .int a0, .int a1, .int a2, .int a3]) ++ List.replicate (5 - (lg_sl ([.ref hm, .int a0, .int a1, .int a2, .int a3])).length) Slot.unset).toArray = ls at hl ⊢
  have hl : lv_has ls 5 [(0, .ref hm), (1, .int a0), (2, .int a1), (3, .int a2), (4, .int a3)] := hl
  refine lv_aload_n hx hb d_M_share_0 rfl (lv_at hl 0 rfl) ?_
  refine lv_aload_n hx hb d_M_share_1 rfl (lv_at hl 0 rfl) ?_
  refine lv_iload_n hx hb d_M_share_2 rfl (lv_at hl 1 rfl) ?_
  refine lv_iload_n hx hb d_M_share_3 rfl (lv_at hl 3 rfl) ?_
  refine lv_iload hx hb d_M_share_4 (lv_at hl 4 rfl) ?_
  refine lv_iload_n hx hb d_M_share_6 rfl (lv_at hl 2 rfl) ?_
  refine vp_callSi (W.runS (As := [.int a1]) (rest := [.int a3, .int a2, .int a0, .ref hm, .ref hm]) ⟨hx, hb, hml, hown, hts⟩ (c_M_isPerson l (a1)) (va_cwS 1 hts (tw_gS tk_262 tk_263 tk_249 tk_264) rfl rfl rfl (by decide +kernel) ⟨Nat.le_of_ble_eq_true rfl, Nat.le_of_ble_eq_true rfl⟩) tw_s0 rfl rfl hl.1 rfl (lv_room (Nat.le_of_ble_eq_true rfl)) d_M_share_7 ⟨by show 0 ≤ 0; decide, by show 0 ≤ 0; decide⟩) (fun r1 e2 => ?_)
  refine vp_callSi (W.runV (As := [.int a0, .int a2, .int a3, .int r1]) (rest := [.ref hm]) ⟨hx, hb, hml, hown, hts⟩ (c_M_wrong l dC dI hm t0 m5 m6 m8 m9 m10 m11 m12 m13 m14 m16 m17 m18 m19 m20 m21 m22 m23 m24 m26 m27 m28 m29 m32 m34 m35 m37 m38 m40 m41 (a0) (a2) (a3) (r1)) (cwV 4 hts (tw_gV tk_266 tk_267 tk_268 tk_249 tk_269) rfl rfl rfl (by decide +kernel) ⟨Nat.le_of_ble_eq_true rfl, Nat.le_of_ble_eq_true rfl⟩) (tw_v2 (va_recv (q0 := 0) hK hP rfl rfl) (hP.sub (ws' := [(hm, .inr (7, [.int t0, .int 0, .int 0, .int 0, .int 0, m5, m6, .int 0, m8, m9, m10, m11, m12, m13, m14, .int 0, m16, m17, m18, m19, m20, m21, m22, m23, m24, .int 0, m26, m27, m28, m29, .int 0, .int 0, m32, .int 0, m34, m35, .int 0, m37, m38, .int 0, m40, m41]))]) [0] rfl) (hK.sub (tys' := []) [] rfl)) rfl rfl hl.1 rfl (lv_room (Nat.le_of_ble_eq_true rfl)) d_M_share_10 ⟨by show 0 ≤ 0; decide, by show 0 ≤ 0; decide⟩) (fun r3 e4 => ?_)
  have e4 := e4.symm
  subst e4
  refine va_put (D := (dC, dI)) (ci := 7) (v := .int 1) (ty := .int) (C := "LandBookModel") (T := F_LandBookModel) (N := 42) hx hb hts tu_LandBookModel t_LandBookModel t_LandBookModel_ok n_LandBookModel hown hK hP hD hS 0 rfl rfl 0 (by decide) (hts _ tk_251) (fun _ h9 => h9) rfl (by decide +kernel) rfl rfl (Nat.le_of_ble_eq_true rfl) d_M_share_13 (fun H locs hP hD hS => ?_)
  have hP : va_P (dC, dI) classes [(hm, .inr (7, [.int 1, .int 0, .int 0, .int 0, .int 0, m5, m6, .int 0, m8, m9, m10, m11, m12, m13, m14, .int 0, m16, m17, m18, m19, m20, m21, m22, m23, m24, .int 0, m26, m27, m28, m29, .int 0, .int 0, m32, .int 0, m34, m35, .int 0, m37, m38, .int 0, m40, m41]))] H := hP
  have hD : va_D A [(hm, .inr (7, [.int 1, .int 0, .int 0, .int 0, .int 0, m5, m6, .int 0, m8, m9, m10, m11, m12, m13, m14, .int 0, m16, m17, m18, m19, m20, m21, m22, m23, m24, .int 0, m26, m27, m28, m29, .int 0, .int 0, m32, .int 0, m34, m35, .int 0, m37, m38, .int 0, m40, m41]))] := hD
  refine lv_aload_n hx hb d_M_share_16 rfl (lv_at hl 0 rfl) ?_
  refine va_get (D := (dC, dI)) (ci := 7) (v := .int 1) (C := "LandBookModel") (T := F_LandBookModel) (N := 42) hx hb hts tu_LandBookModel hown hK hP 0 rfl rfl 0 (by decide) (hts _ tk_251) (fun _ h9 => h9) rfl d_M_share_17 ?_
  refine lv_if_gt (tgt := 34) hx hb d_M_share_20 (by decide) (fun h5 => ?_) (fun h5 => absurd (by decide) h5)
  refine lv_aload_n hx hb d_M_share_34 rfl (lv_at hl 0 rfl) ?_
  refine va_get (D := (dC, dI)) (ci := 7) (v := .int 1) (C := "LandBookModel") (T := F_LandBookModel) (N := 42) hx hb hts tu_LandBookModel hown hK hP 0 rfl rfl 0 (by decide) (hts _ tk_251) (fun _ h9 => h9) rfl d_M_share_35 ?_
  refine lv_if_le (tgt := 45) hx hb d_M_share_38 (by decide) (fun h6 => absurd h6 (by decide)) (fun h6 => ?_)
  refine lv_iconst (v := 0) hx hb d_M_share_41 (by decide) ?_
  refine lv_goto (tgt := 46) hx hb d_M_share_42 (by decide) ?_
  have hP9 := hP.sub (ws' := [(hm, .inr (7, [.int 1, .int 0, .int 0, .int 0, .int 0, m5, m6, .int 0, m8, m9, m10, m11, m12, m13, m14, .int 0, m16, m17, m18, m19, m20, m21, m22, m23, m24, .int 0, m26, m27, m28, m29, .int 0, .int 0, m32, .int 0, m34, m35, .int 0, m37, m38, .int 0, m40, m41]))]) [0] rfl
  have hD9 := hD.sub (ws' := [(hm, .inr (7, [.int 1, .int 0, .int 0, .int 0, .int 0, m5, m6, .int 0, m8, m9, m10, m11, m12, m13, m14, .int 0, m16, m17, m18, m19, m20, m21, m22, m23, m24, .int 0, m26, m27, m28, m29, .int 0, .int 0, m32, .int 0, m34, m35, .int 0, m37, m38, .int 0, m40, m41]))]) [0] (by decide) rfl
  have hK9 := hK.sub (tys' := []) [] rfl
  refine W.widen (k := 0) (n := 0) (by decide) (by decide) ?_
  exact W.iret (v := 0) hx hb hr (fun t ht hW => ⟨⟨0, (1, [.int 0, .int 0, .int 0, .int 0, m5, m6, .int 0, m8, m9, m10, m11, m12, m13, m14, .int 0, m16, m17, m18, m19, m20, m21, m22, m23, m24, .int 0, m26, m27, m28, m29, .int 0, .int 0, m32, .int 0, m34, m35, .int 0, m37, m38, .int 0, m40, m41]), rfl, rfl, by rw [ht]; exact hP9, va_K.moved hW.alike hK9, hD9⟩, hS.F ht⟩) hS.2.2 d_M_share_46
abbrev y_M_next : MethodName := ⟨"LandBookModel", "next", "(IIII)I"⟩
abbrev w_M_next : List Cond := Cond.code y_M_next prog_13_method_66_code 7 (some .int) :: tw_G
theorem d_M_next_0 : decode prog_13_method_66_code 0 = .ok (.aload_n 0, 1) := by decide +kernel
theorem d_M_next_1 : decode prog_13_method_66_code 1 = .ok (.aload_n 0, 1) := by decide +kernel
theorem d_M_next_2 : decode prog_13_method_66_code 2 = .ok (.iload_n 1, 1) := by decide +kernel
theorem d_M_next_3 : decode prog_13_method_66_code 3 = .ok (.iload_n 3, 1) := by decide +kernel
theorem d_M_next_4 : decode prog_13_method_66_code 4 = .ok (.iload 4, 2) := by decide +kernel
theorem d_M_next_6 : decode prog_13_method_66_code 6 = .ok (.iload_n 2, 1) := by decide +kernel
theorem d_M_next_7 : decode prog_13_method_66_code 7 = .ok (.ifCond .lt 7, 3) := by decide +kernel
theorem d_M_next_14 : decode prog_13_method_66_code 14 = .ok (.iconst 0, 1) := by decide +kernel
theorem d_M_next_15 : decode prog_13_method_66_code 15 = .ok (.invokevirtual 314, 3) := by decide +kernel
theorem d_M_next_18 : decode prog_13_method_66_code 18 = .ok (.putfield 98, 3) := by decide +kernel
theorem d_M_next_21 : decode prog_13_method_66_code 21 = .ok (.aload_n 0, 1) := by decide +kernel
theorem d_M_next_22 : decode prog_13_method_66_code 22 = .ok (.getfield 98, 3) := by decide +kernel
theorem d_M_next_25 : decode prog_13_method_66_code 25 = .ok (.ifCond .gt 14, 3) := by decide +kernel
theorem d_M_next_39 : decode prog_13_method_66_code 39 = .ok (.aload_n 0, 1) := by decide +kernel
theorem d_M_next_40 : decode prog_13_method_66_code 40 = .ok (.getfield 98, 3) := by decide +kernel
theorem d_M_next_43 : decode prog_13_method_66_code 43 = .ok (.ifCond .le 7, 3) := by decide +kernel
theorem d_M_next_46 : decode prog_13_method_66_code 46 = .ok (.iconst 0, 1) := by decide +kernel
theorem d_M_next_47 : decode prog_13_method_66_code 47 = .ok (.goto 4, 3) := by decide +kernel
theorem d_M_next_51 : decode prog_13_method_66_code 51 = .ok (.ireturn, 1) := by decide +kernel
theorem d_M_next_10 : decode prog_13_method_66_code 10 = .ok (.iconst 1, 1) := by decide +kernel
theorem d_M_next_11 : decode prog_13_method_66_code 11 = .ok (.goto 4, 3) := by decide +kernel
set_option maxHeartbeats 4000000 in
set_option maxRecDepth 100000 in
theorem c_M_next (l : Launch) (dC : Nat → ClassId) (dI : Nat → Nat → Nat) (hm sz : Nat) (t0 : Int32) (m5 m6 m8 m9 m10 m11 m12 m13 m14 m16 m17 m18 m19 m20 m21 m22 m23 m24 m26 m27 m28 m29 m32 m34 m35 m37 m38 m40 m41 : Value) (a0 a1 a2 a3 : Int32) : Met l y_M_next w_M_next ({ frames := 2, cells := 0, slots := 0, locals := 44 }) (tw_P4 (dC, dI) classes [(hm, .inr (7, [.int t0, .int 0, .int 0, .int 0, .int 0, m5, m6, .int 0, m8, m9, m10, m11, m12, m13, m14, .int 0, m16, m17, m18, m19, m20, m21, m22, m23, m24, .int 0, m26, m27, m28, m29, .int 0, .int 0, m32, .int 0, m34, m35, .int 0, m37, m38, .int 0, m40, m41]))] [] sz [.ref hm, .int a0, .int a1, .int a2, .int a3]) (va_Qi (fun (r : Int32) (u : Int32 × List Value) => u.1 = 1) (fun u => tw_B dC dI (va_A [(hm, .inr (7, [.int t0, .int 0, .int 0, .int 0, .int 0, m5, m6, .int 0, m8, m9, m10, m11, m12, m13, m14, .int 0, m16, m17, m18, m19, m20, m21, m22, m23, m24, .int 0, m26, m27, m28, m29, .int 0, .int 0, m32, .int 0, m34, m35, .int 0, m37, m38, .int 0, m40, m41]))] sz) [(hm, .inr (7, .int u.1 :: u.2))] []) (va_A [(hm, .inr (7, [.int t0, .int 0, .int 0, .int 0, .int 0, m5, m6, .int 0, m8, m9, m10, m11, m12, m13, m14, .int 0, m16, m17, m18, m19, m20, m21, m22, m23, m24, .int 0, m26, m27, m28, m29, .int 0, .int 0, m32, .int 0, m34, m35, .int 0, m37, m38, .int 0, m40, m41]))] sz)) 0 0 (va_A [(hm, .inr (7, [.int t0, .int 0, .int 0, .int 0, .int 0, m5, m6, .int 0, m8, m9, m10, m11, m12, m13, m14, .int 0, m16, m17, m18, m19, m20, m21, m22, m23, m24, .int 0, m26, m27, m28, m29, .int 0, .int 0, m32, .int 0, m34, m35, .int 0, m37, m38, .int 0, m40, m41]))] sz) := by
  refine Met.ofW (cc := prog_13_method_66_code) (maxL := 7) (ret := (some .int)) (by decide) rfl ?_
  intro p e s m args below meth c s₁ B hml hv
  obtain ⟨rfl, hsz, hP, hK, hD0⟩ := hv
  have hx := B.exec
  have hb := B.bytes
  have hr := B.returns
  have hts : ∀ w ∈ tw_G, w.before _ s = true := fun w h => atoms_spec (ws := w_M_next) B.pre w (List.mem_cons_of_mem _ h)
  have hown : s.vm.findClass "LandBookModel" = some m.cls := findClass_of_methodNamed B.named
  have hlocks := B.notSynchronized
  subst hsz
  have hD := hD0.self (sz := s.heap.size)
  generalize hAe : va_A [(hm, .inr (7, [.int t0, .int 0, .int 0, .int 0, .int 0, m5, m6, .int 0, m8, m9, m10, m11, m12, m13, m14, .int 0, m16, m17, m18, m19, m20, m21, m22, m23, m24, .int 0, m26, m27, m28, m29, .int 0, .int 0, m32, .int 0, m34, m35, .int 0, m37, m38, .int 0, m40, m41]))] s.heap.size = A at hD ⊢
  have hA : ∀ q : Nat, s.heap.size ≤ q → A q := fun q h => by rw [← hAe]; exact Or.inr h
  have hS : va_S A s.heap s.heap [] := va_S.rf
  have hP : va_P (dC, dI) classes [(hm, .inr (7, [.int t0, .int 0, .int 0, .int 0, .int 0, m5, m6, .int 0, m8, m9, m10, m11, m12, m13, m14, .int 0, m16, m17, m18, m19, m20, m21, m22, m23, m24, .int 0, m26, m27, m28, m29, .int 0, .int 0, m32, .int 0, m34, m35, .int 0, m37, m38, .int 0, m40, m41]))] s.heap := hP
  have hl := lv_entry ([.ref hm, .int a0, .int a1, .int a2, .int a3]) (n := 7) (Nat.le_of_ble_eq_true rfl)
  rw [lg_entry_eq]
  generalize (lg_sl ([.ref hm, .int a0, .int a1, .int a2, .int a3]) ++ List.replicate (7 - (lg_sl ([.ref hm, .int a0, .int a1, .int a2, .int a3])).length) Slot.unset).toArray = ls at hl ⊢
  have hl : lv_has ls 7 [(0, .ref hm), (1, .int a0), (2, .int a1), (3, .int a2), (4, .int a3)] := hl
  refine lv_aload_n hx hb d_M_next_0 rfl (lv_at hl 0 rfl) ?_
  refine lv_aload_n hx hb d_M_next_1 rfl (lv_at hl 0 rfl) ?_
  refine lv_iload_n hx hb d_M_next_2 rfl (lv_at hl 1 rfl) ?_
  refine lv_iload_n hx hb d_M_next_3 rfl (lv_at hl 3 rfl) ?_
  refine lv_iload hx hb d_M_next_4 (lv_at hl 4 rfl) ?_
  refine lv_iload_n hx hb d_M_next_6 rfl (lv_at hl 2 rfl) ?_
  refine lv_if_lt (tgt := 14) hx hb d_M_next_7 (by decide) (fun h1 => ?_) (fun h1 => ?_)
  · refine lv_iconst (v := 0) hx hb d_M_next_14 (by decide) ?_
    refine vp_callSi (W.runV (As := [.int a0, .int a2, .int a3, .int 0]) (rest := [.ref hm]) ⟨hx, hb, hml, hown, hts⟩ (c_M_wrong l dC dI hm t0 m5 m6 m8 m9 m10 m11 m12 m13 m14 m16 m17 m18 m19 m20 m21 m22 m23 m24 m26 m27 m28 m29 m32 m34 m35 m37 m38 m40 m41 (a0) (a2) (a3) (0)) (cwV 4 hts (tw_gV tk_266 tk_267 tk_268 tk_249 tk_269) rfl rfl rfl (by decide +kernel) ⟨Nat.le_of_ble_eq_true rfl, Nat.le_of_ble_eq_true rfl⟩) (tw_v2 (va_recv (q0 := 0) hK hP rfl rfl) (hP.sub (ws' := [(hm, .inr (7, [.int t0, .int 0, .int 0, .int 0, .int 0, m5, m6, .int 0, m8, m9, m10, m11, m12, m13, m14, .int 0, m16, m17, m18, m19, m20, m21, m22, m23, m24, .int 0, m26, m27, m28, m29, .int 0, .int 0, m32, .int 0, m34, m35, .int 0, m37, m38, .int 0, m40, m41]))]) [0] rfl) (hK.sub (tys' := []) [] rfl)) rfl rfl hl.1 rfl (lv_room (Nat.le_of_ble_eq_true rfl)) d_M_next_15 ⟨by show 0 ≤ 0; decide, by show 0 ≤ 0; decide⟩) (fun r2 e3 => ?_)
    have e3 := e3.symm
    subst e3
    refine va_put (D := (dC, dI)) (ci := 7) (v := .int 1) (ty := .int) (C := "LandBookModel") (T := F_LandBookModel) (N := 42) hx hb hts tu_LandBookModel t_LandBookModel t_LandBookModel_ok n_LandBookModel hown hK hP hD hS 0 rfl rfl 0 (by decide) (hts _ tk_251) (fun _ h9 => h9) rfl (by decide +kernel) rfl rfl (Nat.le_of_ble_eq_true rfl) d_M_next_18 (fun H locs hP hD hS => ?_)
    have hP : va_P (dC, dI) classes [(hm, .inr (7, [.int 1, .int 0, .int 0, .int 0, .int 0, m5, m6, .int 0, m8, m9, m10, m11, m12, m13, m14, .int 0, m16, m17, m18, m19, m20, m21, m22, m23, m24, .int 0, m26, m27, m28, m29, .int 0, .int 0, m32, .int 0, m34, m35, .int 0, m37, m38, .int 0, m40, m41]))] H := hP
    have hD : va_D A [(hm, .inr (7, [.int 1, .int 0, .int 0, .int 0, .int 0, m5, m6, .int 0, m8, m9, m10, m11, m12, m13, m14, .int 0, m16, m17, m18, m19, m20, m21, m22, m23, m24, .int 0, m26, m27, m28, m29, .int 0, .int 0, m32, .int 0, m34, m35, .int 0, m37, m38, .int 0, m40, m41]))] := hD
    refine lv_aload_n hx hb d_M_next_21 rfl (lv_at hl 0 rfl) ?_
    refine va_get (D := (dC, dI)) (ci := 7) (v := .int 1) (C := "LandBookModel") (T := F_LandBookModel) (N := 42) hx hb hts tu_LandBookModel hown hK hP 0 rfl rfl 0 (by decide) (hts _ tk_251) (fun _ h9 => h9) rfl d_M_next_22 ?_
    refine lv_if_gt (tgt := 39) hx hb d_M_next_25 (by decide) (fun h4 => ?_) (fun h4 => absurd (by decide) h4)
    refine lv_aload_n hx hb d_M_next_39 rfl (lv_at hl 0 rfl) ?_
    refine va_get (D := (dC, dI)) (ci := 7) (v := .int 1) (C := "LandBookModel") (T := F_LandBookModel) (N := 42) hx hb hts tu_LandBookModel hown hK hP 0 rfl rfl 0 (by decide) (hts _ tk_251) (fun _ h9 => h9) rfl d_M_next_40 ?_
    refine lv_if_le (tgt := 50) hx hb d_M_next_43 (by decide) (fun h5 => absurd h5 (by decide)) (fun h5 => ?_)
    refine lv_iconst (v := 0) hx hb d_M_next_46 (by decide) ?_
    refine lv_goto (tgt := 51) hx hb d_M_next_47 (by decide) ?_
    have hP9 := hP.sub (ws' := [(hm, .inr (7, [.int 1, .int 0, .int 0, .int 0, .int 0, m5, m6, .int 0, m8, m9, m10, m11, m12, m13, m14, .int 0, m16, m17, m18, m19, m20, m21, m22, m23, m24, .int 0, m26, m27, m28, m29, .int 0, .int 0, m32, .int 0, m34, m35, .int 0, m37, m38, .int 0, m40, m41]))]) [0] rfl
    have hD9 := hD.sub (ws' := [(hm, .inr (7, [.int 1, .int 0, .int 0, .int 0, .int 0, m5, m6, .int 0, m8, m9, m10, m11, m12, m13, m14, .int 0, m16, m17, m18, m19, m20, m21, m22, m23, m24, .int 0, m26, m27, m28, m29, .int 0, .int 0, m32, .int 0, m34, m35, .int 0, m37, m38, .int 0, m40, m41]))]) [0] (by decide) rfl
    have hK9 := hK.sub (tys' := []) [] rfl
    refine W.widen (k := 0) (n := 0) (by decide) (by decide) ?_
    exact W.iret (v := 0) hx hb hr (fun t ht hW => ⟨⟨0, (1, [.int 0, .int 0, .int 0, .int 0, m5, m6, .int 0, m8, m9, m10, m11, m12, m13, m14, .int 0, m16, m17, m18, m19, m20, m21, m22, m23, m24, .int 0, m26, m27, m28, m29, .int 0, .int 0, m32, .int 0, m34, m35, .int 0, m37, m38, .int 0, m40, m41]), rfl, rfl, by rw [ht]; exact hP9, va_K.moved hW.alike hK9, hD9⟩, hS.F ht⟩) hS.2.2 d_M_next_51
  · refine lv_iconst (v := 1) hx hb d_M_next_10 (by decide) ?_
    refine lv_goto (tgt := 15) hx hb d_M_next_11 (by decide) ?_
    refine vp_callSi (W.runV (As := [.int a0, .int a2, .int a3, .int 1]) (rest := [.ref hm]) ⟨hx, hb, hml, hown, hts⟩ (c_M_wrong l dC dI hm t0 m5 m6 m8 m9 m10 m11 m12 m13 m14 m16 m17 m18 m19 m20 m21 m22 m23 m24 m26 m27 m28 m29 m32 m34 m35 m37 m38 m40 m41 (a0) (a2) (a3) (1)) (cwV 4 hts (tw_gV tk_266 tk_267 tk_268 tk_249 tk_269) rfl rfl rfl (by decide +kernel) ⟨Nat.le_of_ble_eq_true rfl, Nat.le_of_ble_eq_true rfl⟩) (tw_v2 (va_recv (q0 := 0) hK hP rfl rfl) (hP.sub (ws' := [(hm, .inr (7, [.int t0, .int 0, .int 0, .int 0, .int 0, m5, m6, .int 0, m8, m9, m10, m11, m12, m13, m14, .int 0, m16, m17, m18, m19, m20, m21, m22, m23, m24, .int 0, m26, m27, m28, m29, .int 0, .int 0, m32, .int 0, m34, m35, .int 0, m37, m38, .int 0, m40, m41]))]) [0] rfl) (hK.sub (tys' := []) [] rfl)) rfl rfl hl.1 rfl (lv_room (Nat.le_of_ble_eq_true rfl)) d_M_next_15 ⟨by show 0 ≤ 0; decide, by show 0 ≤ 0; decide⟩) (fun r6 e7 => ?_)
    have e7 := e7.symm
    subst e7
    refine va_put (D := (dC, dI)) (ci := 7) (v := .int 1) (ty := .int) (C := "LandBookModel") (T := F_LandBookModel) (N := 42) hx hb hts tu_LandBookModel t_LandBookModel t_LandBookModel_ok n_LandBookModel hown hK hP hD hS 0 rfl rfl 0 (by decide) (hts _ tk_251) (fun _ h9 => h9) rfl (by decide +kernel) rfl rfl (Nat.le_of_ble_eq_true rfl) d_M_next_18 (fun H locs hP hD hS => ?_)
    have hP : va_P (dC, dI) classes [(hm, .inr (7, [.int 1, .int 0, .int 0, .int 0, .int 0, m5, m6, .int 0, m8, m9, m10, m11, m12, m13, m14, .int 0, m16, m17, m18, m19, m20, m21, m22, m23, m24, .int 0, m26, m27, m28, m29, .int 0, .int 0, m32, .int 0, m34, m35, .int 0, m37, m38, .int 0, m40, m41]))] H := hP
    have hD : va_D A [(hm, .inr (7, [.int 1, .int 0, .int 0, .int 0, .int 0, m5, m6, .int 0, m8, m9, m10, m11, m12, m13, m14, .int 0, m16, m17, m18, m19, m20, m21, m22, m23, m24, .int 0, m26, m27, m28, m29, .int 0, .int 0, m32, .int 0, m34, m35, .int 0, m37, m38, .int 0, m40, m41]))] := hD
    refine lv_aload_n hx hb d_M_next_21 rfl (lv_at hl 0 rfl) ?_
    refine va_get (D := (dC, dI)) (ci := 7) (v := .int 1) (C := "LandBookModel") (T := F_LandBookModel) (N := 42) hx hb hts tu_LandBookModel hown hK hP 0 rfl rfl 0 (by decide) (hts _ tk_251) (fun _ h9 => h9) rfl d_M_next_22 ?_
    refine lv_if_gt (tgt := 39) hx hb d_M_next_25 (by decide) (fun h8 => ?_) (fun h8 => absurd (by decide) h8)
    refine lv_aload_n hx hb d_M_next_39 rfl (lv_at hl 0 rfl) ?_
    refine va_get (D := (dC, dI)) (ci := 7) (v := .int 1) (C := "LandBookModel") (T := F_LandBookModel) (N := 42) hx hb hts tu_LandBookModel hown hK hP 0 rfl rfl 0 (by decide) (hts _ tk_251) (fun _ h9 => h9) rfl d_M_next_40 ?_
    refine lv_if_le (tgt := 50) hx hb d_M_next_43 (by decide) (fun h9 => absurd h9 (by decide)) (fun h9 => ?_)
    refine lv_iconst (v := 0) hx hb d_M_next_46 (by decide) ?_
    refine lv_goto (tgt := 51) hx hb d_M_next_47 (by decide) ?_
    have hP9 := hP.sub (ws' := [(hm, .inr (7, [.int 1, .int 0, .int 0, .int 0, .int 0, m5, m6, .int 0, m8, m9, m10, m11, m12, m13, m14, .int 0, m16, m17, m18, m19, m20, m21, m22, m23, m24, .int 0, m26, m27, m28, m29, .int 0, .int 0, m32, .int 0, m34, m35, .int 0, m37, m38, .int 0, m40, m41]))]) [0] rfl
    have hD9 := hD.sub (ws' := [(hm, .inr (7, [.int 1, .int 0, .int 0, .int 0, .int 0, m5, m6, .int 0, m8, m9, m10, m11, m12, m13, m14, .int 0, m16, m17, m18, m19, m20, m21, m22, m23, m24, .int 0, m26, m27, m28, m29, .int 0, .int 0, m32, .int 0, m34, m35, .int 0, m37, m38, .int 0, m40, m41]))]) [0] (by decide) rfl
    have hK9 := hK.sub (tys' := []) [] rfl
    refine W.widen (k := 0) (n := 0) (by decide) (by decide) ?_
    exact W.iret (v := 0) hx hb hr (fun t ht hW => ⟨⟨0, (1, [.int 0, .int 0, .int 0, .int 0, m5, m6, .int 0, m8, m9, m10, m11, m12, m13, m14, .int 0, m16, m17, m18, m19, m20, m21, m22, m23, m24, .int 0, m26, m27, m28, m29, .int 0, .int 0, m32, .int 0, m34, m35, .int 0, m37, m38, .int 0, m40, m41]), rfl, rfl, by rw [ht]; exact hP9, va_K.moved hW.alike hK9, hD9⟩, hS.F ht⟩) hS.2.2 d_M_next_51
abbrev y_M_burden : MethodName := ⟨"LandBookModel", "burden", "(IIII)I"⟩
abbrev w_M_burden : List Cond := Cond.code y_M_burden prog_13_method_67_code 7 (some .int) :: tw_G
theorem d_M_burden_0 : decode prog_13_method_67_code 0 = .ok (.aload_n 0, 1) := by decide +kernel
theorem d_M_burden_1 : decode prog_13_method_67_code 1 = .ok (.aload_n 0, 1) := by decide +kernel
theorem d_M_burden_2 : decode prog_13_method_67_code 2 = .ok (.iload_n 1, 1) := by decide +kernel
theorem d_M_burden_3 : decode prog_13_method_67_code 3 = .ok (.iload_n 3, 1) := by decide +kernel
theorem d_M_burden_4 : decode prog_13_method_67_code 4 = .ok (.iload 4, 2) := by decide +kernel
theorem d_M_burden_6 : decode prog_13_method_67_code 6 = .ok (.iload_n 2, 1) := by decide +kernel
theorem d_M_burden_7 : decode prog_13_method_67_code 7 = .ok (.ifCond .lt 7, 3) := by decide +kernel
theorem d_M_burden_14 : decode prog_13_method_67_code 14 = .ok (.iconst 0, 1) := by decide +kernel
theorem d_M_burden_15 : decode prog_13_method_67_code 15 = .ok (.invokevirtual 314, 3) := by decide +kernel
theorem d_M_burden_18 : decode prog_13_method_67_code 18 = .ok (.putfield 98, 3) := by decide +kernel
theorem d_M_burden_21 : decode prog_13_method_67_code 21 = .ok (.aload_n 0, 1) := by decide +kernel
theorem d_M_burden_22 : decode prog_13_method_67_code 22 = .ok (.getfield 98, 3) := by decide +kernel
theorem d_M_burden_25 : decode prog_13_method_67_code 25 = .ok (.ifCond .gt 14, 3) := by decide +kernel
theorem d_M_burden_39 : decode prog_13_method_67_code 39 = .ok (.aload_n 0, 1) := by decide +kernel
theorem d_M_burden_40 : decode prog_13_method_67_code 40 = .ok (.getfield 98, 3) := by decide +kernel
theorem d_M_burden_43 : decode prog_13_method_67_code 43 = .ok (.ifCond .le 7, 3) := by decide +kernel
theorem d_M_burden_46 : decode prog_13_method_67_code 46 = .ok (.iconst 0, 1) := by decide +kernel
theorem d_M_burden_47 : decode prog_13_method_67_code 47 = .ok (.goto 4, 3) := by decide +kernel
theorem d_M_burden_51 : decode prog_13_method_67_code 51 = .ok (.ireturn, 1) := by decide +kernel
theorem d_M_burden_10 : decode prog_13_method_67_code 10 = .ok (.iconst 1, 1) := by decide +kernel
theorem d_M_burden_11 : decode prog_13_method_67_code 11 = .ok (.goto 4, 3) := by decide +kernel
set_option maxHeartbeats 4000000 in
set_option maxRecDepth 100000 in
theorem c_M_burden (l : Launch) (dC : Nat → ClassId) (dI : Nat → Nat → Nat) (hm sz : Nat) (t0 : Int32) (m5 m6 m8 m9 m10 m11 m12 m13 m14 m16 m17 m18 m19 m20 m21 m22 m23 m24 m26 m27 m28 m29 m32 m34 m35 m37 m38 m40 m41 : Value) (a0 a1 a2 a3 : Int32) : Met l y_M_burden w_M_burden ({ frames := 2, cells := 0, slots := 0, locals := 44 }) (tw_P4 (dC, dI) classes [(hm, .inr (7, [.int t0, .int 0, .int 0, .int 0, .int 0, m5, m6, .int 0, m8, m9, m10, m11, m12, m13, m14, .int 0, m16, m17, m18, m19, m20, m21, m22, m23, m24, .int 0, m26, m27, m28, m29, .int 0, .int 0, m32, .int 0, m34, m35, .int 0, m37, m38, .int 0, m40, m41]))] [] sz [.ref hm, .int a0, .int a1, .int a2, .int a3]) (va_Qi (fun (r : Int32) (u : Int32 × List Value) => u.1 = 1) (fun u => tw_B dC dI (va_A [(hm, .inr (7, [.int t0, .int 0, .int 0, .int 0, .int 0, m5, m6, .int 0, m8, m9, m10, m11, m12, m13, m14, .int 0, m16, m17, m18, m19, m20, m21, m22, m23, m24, .int 0, m26, m27, m28, m29, .int 0, .int 0, m32, .int 0, m34, m35, .int 0, m37, m38, .int 0, m40, m41]))] sz) [(hm, .inr (7, .int u.1 :: u.2))] []) (va_A [(hm, .inr (7, [.int t0, .int 0, .int 0, .int 0, .int 0, m5, m6, .int 0, m8, m9, m10, m11, m12, m13, m14, .int 0, m16, m17, m18, m19, m20, m21, m22, m23, m24, .int 0, m26, m27, m28, m29, .int 0, .int 0, m32, .int 0, m34, m35, .int 0, m37, m38, .int 0, m40, m41]))] sz)) 0 0 (va_A [(hm, .inr (7, [.int t0, .int 0, .int 0, .int 0, .int 0, m5, m6, .int 0, m8, m9, m10, m11, m12, m13, m14, .int 0, m16, m17, m18, m19, m20, m21, m22, m23, m24, .int 0, m26, m27, m28, m29, .int 0, .int 0, m32, .int 0, m34, m35, .int 0, m37, m38, .int 0, m40, m41]))] sz) := by
  refine Met.ofW (cc := prog_13_method_67_code) (maxL := 7) (ret := (some .int)) (by decide) rfl ?_
  intro p e s m args below meth c s₁ B hml hv
  obtain ⟨rfl, hsz, hP, hK, hD0⟩ := hv
  have hx := B.exec
  have hb := B.bytes
  have hr := B.returns
  have hts : ∀ w ∈ tw_G, w.before _ s = true := fun w h => atoms_spec (ws := w_M_burden) B.pre w (List.mem_cons_of_mem _ h)
  have hown : s.vm.findClass "LandBookModel" = some m.cls := findClass_of_methodNamed B.named
  have hlocks := B.notSynchronized
  subst hsz
  have hD := hD0.self (sz := s.heap.size)
  generalize hAe : va_A [(hm, .inr (7, [.int t0, .int 0, .int 0, .int 0, .int 0, m5, m6, .int 0, m8, m9, m10, m11, m12, m13, m14, .int 0, m16, m17, m18, m19, m20, m21, m22, m23, m24, .int 0, m26, m27, m28, m29, .int 0, .int 0, m32, .int 0, m34, m35, .int 0, m37, m38, .int 0, m40, m41]))] s.heap.size = A at hD ⊢
  have hA : ∀ q : Nat, s.heap.size ≤ q → A q := fun q h => by rw [← hAe]; exact Or.inr h
  have hS : va_S A s.heap s.heap [] := va_S.rf
  have hP : va_P (dC, dI) classes [(hm, .inr (7, [.int t0, .int 0, .int 0, .int 0, .int 0, m5, m6, .int 0, m8, m9, m10, m11, m12, m13, m14, .int 0, m16, m17, m18, m19, m20, m21, m22, m23, m24, .int 0, m26, m27, m28, m29, .int 0, .int 0, m32, .int 0, m34, m35, .int 0, m37, m38, .int 0, m40, m41]))] s.heap := hP
  have hl := lv_entry ([.ref hm, .int a0, .int a1, .int a2, .int a3]) (n := 7) (Nat.le_of_ble_eq_true rfl)
  rw [lg_entry_eq]
  generalize (lg_sl ([.ref hm, .int a0, .int a1, .int a2, .int a3]) ++ List.replicate (7 - (lg_sl ([.ref hm, .int a0, .int a1, .int a2, .int a3])).length) Slot.unset).toArray = ls at hl ⊢
  have hl : lv_has ls 7 [(0, .ref hm), (1, .int a0), (2, .int a1), (3, .int a2), (4, .int a3)] := hl
  refine lv_aload_n hx hb d_M_burden_0 rfl (lv_at hl 0 rfl) ?_
  refine lv_aload_n hx hb d_M_burden_1 rfl (lv_at hl 0 rfl) ?_
  refine lv_iload_n hx hb d_M_burden_2 rfl (lv_at hl 1 rfl) ?_
  refine lv_iload_n hx hb d_M_burden_3 rfl (lv_at hl 3 rfl) ?_
  refine lv_iload hx hb d_M_burden_4 (lv_at hl 4 rfl) ?_
  refine lv_iload_n hx hb d_M_burden_6 rfl (lv_at hl 2 rfl) ?_
  refine lv_if_lt (tgt := 14) hx hb d_M_burden_7 (by decide) (fun h1 => ?_) (fun h1 => ?_)
  · refine lv_iconst (v := 0) hx hb d_M_burden_14 (by decide) ?_
    refine vp_callSi (W.runV (As := [.int a0, .int a2, .int a3, .int 0]) (rest := [.ref hm]) ⟨hx, hb, hml, hown, hts⟩ (c_M_wrong l dC dI hm t0 m5 m6 m8 m9 m10 m11 m12 m13 m14 m16 m17 m18 m19 m20 m21 m22 m23 m24 m26 m27 m28 m29 m32 m34 m35 m37 m38 m40 m41 (a0) (a2) (a3) (0)) (cwV 4 hts (tw_gV tk_266 tk_267 tk_268 tk_249 tk_269) rfl rfl rfl (by decide +kernel) ⟨Nat.le_of_ble_eq_true rfl, Nat.le_of_ble_eq_true rfl⟩) (tw_v2 (va_recv (q0 := 0) hK hP rfl rfl) (hP.sub (ws' := [(hm, .inr (7, [.int t0, .int 0, .int 0, .int 0, .int 0, m5, m6, .int 0, m8, m9, m10, m11, m12, m13, m14, .int 0, m16, m17, m18, m19, m20, m21, m22, m23, m24, .int 0, m26, m27, m28, m29, .int 0, .int 0, m32, .int 0, m34, m35, .int 0, m37, m38, .int 0, m40, m41]))]) [0] rfl) (hK.sub (tys' := []) [] rfl)) rfl rfl hl.1 rfl (lv_room (Nat.le_of_ble_eq_true rfl)) d_M_burden_15 ⟨by show 0 ≤ 0; decide, by show 0 ≤ 0; decide⟩) (fun r2 e3 => ?_)
    have e3 := e3.symm
    subst e3
    refine va_put (D := (dC, dI)) (ci := 7) (v := .int 1) (ty := .int) (C := "LandBookModel") (T := F_LandBookModel) (N := 42) hx hb hts tu_LandBookModel t_LandBookModel t_LandBookModel_ok n_LandBookModel hown hK hP hD hS 0 rfl rfl 0 (by decide) (hts _ tk_251) (fun _ h9 => h9) rfl (by decide +kernel) rfl rfl (Nat.le_of_ble_eq_true rfl) d_M_burden_18 (fun H locs hP hD hS => ?_)
    have hP : va_P (dC, dI) classes [(hm, .inr (7, [.int 1, .int 0, .int 0, .int 0, .int 0, m5, m6, .int 0, m8, m9, m10, m11, m12, m13, m14, .int 0, m16, m17, m18, m19, m20, m21, m22, m23, m24, .int 0, m26, m27, m28, m29, .int 0, .int 0, m32, .int 0, m34, m35, .int 0, m37, m38, .int 0, m40, m41]))] H := hP
    have hD : va_D A [(hm, .inr (7, [.int 1, .int 0, .int 0, .int 0, .int 0, m5, m6, .int 0, m8, m9, m10, m11, m12, m13, m14, .int 0, m16, m17, m18, m19, m20, m21, m22, m23, m24, .int 0, m26, m27, m28, m29, .int 0, .int 0, m32, .int 0, m34, m35, .int 0, m37, m38, .int 0, m40, m41]))] := hD
    refine lv_aload_n hx hb d_M_burden_21 rfl (lv_at hl 0 rfl) ?_
    refine va_get (D := (dC, dI)) (ci := 7) (v := .int 1) (C := "LandBookModel") (T := F_LandBookModel) (N := 42) hx hb hts tu_LandBookModel hown hK hP 0 rfl rfl 0 (by decide) (hts _ tk_251) (fun _ h9 => h9) rfl d_M_burden_22 ?_
    refine lv_if_gt (tgt := 39) hx hb d_M_burden_25 (by decide) (fun h4 => ?_) (fun h4 => absurd (by decide) h4)
    refine lv_aload_n hx hb d_M_burden_39 rfl (lv_at hl 0 rfl) ?_
    refine va_get (D := (dC, dI)) (ci := 7) (v := .int 1) (C := "LandBookModel") (T := F_LandBookModel) (N := 42) hx hb hts tu_LandBookModel hown hK hP 0 rfl rfl 0 (by decide) (hts _ tk_251) (fun _ h9 => h9) rfl d_M_burden_40 ?_
    refine lv_if_le (tgt := 50) hx hb d_M_burden_43 (by decide) (fun h5 => absurd h5 (by decide)) (fun h5 => ?_)
    refine lv_iconst (v := 0) hx hb d_M_burden_46 (by decide) ?_
    refine lv_goto (tgt := 51) hx hb d_M_burden_47 (by decide) ?_
    have hP9 := hP.sub (ws' := [(hm, .inr (7, [.int 1, .int 0, .int 0, .int 0, .int 0, m5, m6, .int 0, m8, m9, m10, m11, m12, m13, m14, .int 0, m16, m17, m18, m19, m20, m21, m22, m23, m24, .int 0, m26, m27, m28, m29, .int 0, .int 0, m32, .int 0, m34, m35, .int 0, m37, m38, .int 0, m40, m41]))]) [0] rfl
    have hD9 := hD.sub (ws' := [(hm, .inr (7, [.int 1, .int 0, .int 0, .int 0, .int 0, m5, m6, .int 0, m8, m9, m10, m11, m12, m13, m14, .int 0, m16, m17, m18, m19, m20, m21, m22, m23, m24, .int 0, m26, m27, m28, m29, .int 0, .int 0, m32, .int 0, m34, m35, .int 0, m37, m38, .int 0, m40, m41]))]) [0] (by decide) rfl
    have hK9 := hK.sub (tys' := []) [] rfl
    refine W.widen (k := 0) (n := 0) (by decide) (by decide) ?_
    exact W.iret (v := 0) hx hb hr (fun t ht hW => ⟨⟨0, (1, [.int 0, .int 0, .int 0, .int 0, m5, m6, .int 0, m8, m9, m10, m11, m12, m13, m14, .int 0, m16, m17, m18, m19, m20, m21, m22, m23, m24, .int 0, m26, m27, m28, m29, .int 0, .int 0, m32, .int 0, m34, m35, .int 0, m37, m38, .int 0, m40, m41]), rfl, rfl, by rw [ht]; exact hP9, va_K.moved hW.alike hK9, hD9⟩, hS.F ht⟩) hS.2.2 d_M_burden_51
  · refine lv_iconst (v := 1) hx hb d_M_burden_10 (by decide) ?_
    refine lv_goto (tgt := 15) hx hb d_M_burden_11 (by decide) ?_
    refine vp_callSi (W.runV (As := [.int a0, .int a2, .int a3, .int 1]) (rest := [.ref hm]) ⟨hx, hb, hml, hown, hts⟩ (c_M_wrong l dC dI hm t0 m5 m6 m8 m9 m10 m11 m12 m13 m14 m16 m17 m18 m19 m20 m21 m22 m23 m24 m26 m27 m28 m29 m32 m34 m35 m37 m38 m40 m41 (a0) (a2) (a3) (1)) (cwV 4 hts (tw_gV tk_266 tk_267 tk_268 tk_249 tk_269) rfl rfl rfl (by decide +kernel) ⟨Nat.le_of_ble_eq_true rfl, Nat.le_of_ble_eq_true rfl⟩) (tw_v2 (va_recv (q0 := 0) hK hP rfl rfl) (hP.sub (ws' := [(hm, .inr (7, [.int t0, .int 0, .int 0, .int 0, .int 0, m5, m6, .int 0, m8, m9, m10, m11, m12, m13, m14, .int 0, m16, m17, m18, m19, m20, m21, m22, m23, m24, .int 0, m26, m27, m28, m29, .int 0, .int 0, m32, .int 0, m34, m35, .int 0, m37, m38, .int 0, m40, m41]))]) [0] rfl) (hK.sub (tys' := []) [] rfl)) rfl rfl hl.1 rfl (lv_room (Nat.le_of_ble_eq_true rfl)) d_M_burden_15 ⟨by show 0 ≤ 0; decide, by show 0 ≤ 0; decide⟩) (fun r6 e7 => ?_)
    have e7 := e7.symm
    subst e7
    refine va_put (D := (dC, dI)) (ci := 7) (v := .int 1) (ty := .int) (C := "LandBookModel") (T := F_LandBookModel) (N := 42) hx hb hts tu_LandBookModel t_LandBookModel t_LandBookModel_ok n_LandBookModel hown hK hP hD hS 0 rfl rfl 0 (by decide) (hts _ tk_251) (fun _ h9 => h9) rfl (by decide +kernel) rfl rfl (Nat.le_of_ble_eq_true rfl) d_M_burden_18 (fun H locs hP hD hS => ?_)
    have hP : va_P (dC, dI) classes [(hm, .inr (7, [.int 1, .int 0, .int 0, .int 0, .int 0, m5, m6, .int 0, m8, m9, m10, m11, m12, m13, m14, .int 0, m16, m17, m18, m19, m20, m21, m22, m23, m24, .int 0, m26, m27, m28, m29, .int 0, .int 0, m32, .int 0, m34, m35, .int 0, m37, m38, .int 0, m40, m41]))] H := hP
    have hD : va_D A [(hm, .inr (7, [.int 1, .int 0, .int 0, .int 0, .int 0, m5, m6, .int 0, m8, m9, m10, m11, m12, m13, m14, .int 0, m16, m17, m18, m19, m20, m21, m22, m23, m24, .int 0, m26, m27, m28, m29, .int 0, .int 0, m32, .int 0, m34, m35, .int 0, m37, m38, .int 0, m40, m41]))] := hD
    refine lv_aload_n hx hb d_M_burden_21 rfl (lv_at hl 0 rfl) ?_
    refine va_get (D := (dC, dI)) (ci := 7) (v := .int 1) (C := "LandBookModel") (T := F_LandBookModel) (N := 42) hx hb hts tu_LandBookModel hown hK hP 0 rfl rfl 0 (by decide) (hts _ tk_251) (fun _ h9 => h9) rfl d_M_burden_22 ?_
    refine lv_if_gt (tgt := 39) hx hb d_M_burden_25 (by decide) (fun h8 => ?_) (fun h8 => absurd (by decide) h8)
    refine lv_aload_n hx hb d_M_burden_39 rfl (lv_at hl 0 rfl) ?_
    refine va_get (D := (dC, dI)) (ci := 7) (v := .int 1) (C := "LandBookModel") (T := F_LandBookModel) (N := 42) hx hb hts tu_LandBookModel hown hK hP 0 rfl rfl 0 (by decide) (hts _ tk_251) (fun _ h9 => h9) rfl d_M_burden_40 ?_
    refine lv_if_le (tgt := 50) hx hb d_M_burden_43 (by decide) (fun h9 => absurd h9 (by decide)) (fun h9 => ?_)
    refine lv_iconst (v := 0) hx hb d_M_burden_46 (by decide) ?_
    refine lv_goto (tgt := 51) hx hb d_M_burden_47 (by decide) ?_
    have hP9 := hP.sub (ws' := [(hm, .inr (7, [.int 1, .int 0, .int 0, .int 0, .int 0, m5, m6, .int 0, m8, m9, m10, m11, m12, m13, m14, .int 0, m16, m17, m18, m19, m20, m21, m22, m23, m24, .int 0, m26, m27, m28, m29, .int 0, .int 0, m32, .int 0, m34, m35, .int 0, m37, m38, .int 0, m40, m41]))]) [0] rfl
    have hD9 := hD.sub (ws' := [(hm, .inr (7, [.int 1, .int 0, .int 0, .int 0, .int 0, m5, m6, .int 0, m8, m9, m10, m11, m12, m13, m14, .int 0, m16, m17, m18, m19, m20, m21, m22, m23, m24, .int 0, m26, m27, m28, m29, .int 0, .int 0, m32, .int 0, m34, m35, .int 0, m37, m38, .int 0, m40, m41]))]) [0] (by decide) rfl
    have hK9 := hK.sub (tys' := []) [] rfl
    refine W.widen (k := 0) (n := 0) (by decide) (by decide) ?_
    exact W.iret (v := 0) hx hb hr (fun t ht hW => ⟨⟨0, (1, [.int 0, .int 0, .int 0, .int 0, m5, m6, .int 0, m8, m9, m10, m11, m12, m13, m14, .int 0, m16, m17, m18, m19, m20, m21, m22, m23, m24, .int 0, m26, m27, m28, m29, .int 0, .int 0, m32, .int 0, m34, m35, .int 0, m37, m38, .int 0, m40, m41]), rfl, rfl, by rw [ht]; exact hP9, va_K.moved hW.alike hK9, hD9⟩, hS.F ht⟩) hS.2.2 d_M_burden_51
abbrev y_M_parent : MethodName := ⟨"LandBookModel", "parent", "(II)I"⟩
abbrev w_M_parent : List Cond := Cond.code y_M_parent prog_13_method_68_code 3 (some .int) :: tw_G
theorem d_M_parent_0 : decode prog_13_method_68_code 0 = .ok (.aload_n 0, 1) := by decide +kernel
theorem d_M_parent_1 : decode prog_13_method_68_code 1 = .ok (.aload_n 0, 1) := by decide +kernel
theorem d_M_parent_2 : decode prog_13_method_68_code 2 = .ok (.invokevirtual 264, 3) := by decide +kernel
theorem d_M_parent_5 : decode prog_13_method_68_code 5 = .ok (.ifCond .ne 7, 3) := by decide +kernel
theorem d_M_parent_8 : decode prog_13_method_68_code 8 = .ok (.iconst 1, 1) := by decide +kernel
theorem d_M_parent_9 : decode prog_13_method_68_code 9 = .ok (.goto 25, 3) := by decide +kernel
theorem d_M_parent_34 : decode prog_13_method_68_code 34 = .ok (.putfield 98, 3) := by decide +kernel
theorem d_M_parent_37 : decode prog_13_method_68_code 37 = .ok (.aload_n 0, 1) := by decide +kernel
theorem d_M_parent_38 : decode prog_13_method_68_code 38 = .ok (.getfield 98, 3) := by decide +kernel
theorem d_M_parent_41 : decode prog_13_method_68_code 41 = .ok (.ifCond .le 7, 3) := by decide +kernel
theorem d_M_parent_44 : decode prog_13_method_68_code 44 = .ok (.iconst 0, 1) := by decide +kernel
theorem d_M_parent_45 : decode prog_13_method_68_code 45 = .ok (.goto 22, 3) := by decide +kernel
theorem d_M_parent_67 : decode prog_13_method_68_code 67 = .ok (.ireturn, 1) := by decide +kernel
set_option maxHeartbeats 4000000 in
set_option maxRecDepth 100000 in
theorem c_M_parent (l : Launch) (dC : Nat → ClassId) (dI : Nat → Nat → Nat) (hm sz : Nat) (t0 : Int32) (m5 m6 m8 m9 m10 m11 m12 m13 m14 m16 m17 m18 m19 m20 m21 m22 m23 m24 m26 m27 m28 m29 m32 m34 m35 m37 m38 m40 m41 : Value) (a0 a1 : Int32) : Met l y_M_parent w_M_parent ({ frames := 1, cells := 0, slots := 0, locals := 20 }) (tw_P4 (dC, dI) classes [(hm, .inr (7, [.int t0, .int 0, .int 0, .int 0, .int 0, m5, m6, .int 0, m8, m9, m10, m11, m12, m13, m14, .int 0, m16, m17, m18, m19, m20, m21, m22, m23, m24, .int 0, m26, m27, m28, m29, .int 0, .int 0, m32, .int 0, m34, m35, .int 0, m37, m38, .int 0, m40, m41]))] [] sz [.ref hm, .int a0, .int a1]) (va_Qi (fun (r : Int32) (u : Int32 × List Value) => u.1 = 1) (fun u => tw_B dC dI (va_A [(hm, .inr (7, [.int t0, .int 0, .int 0, .int 0, .int 0, m5, m6, .int 0, m8, m9, m10, m11, m12, m13, m14, .int 0, m16, m17, m18, m19, m20, m21, m22, m23, m24, .int 0, m26, m27, m28, m29, .int 0, .int 0, m32, .int 0, m34, m35, .int 0, m37, m38, .int 0, m40, m41]))] sz) [(hm, .inr (7, .int u.1 :: u.2))] []) (va_A [(hm, .inr (7, [.int t0, .int 0, .int 0, .int 0, .int 0, m5, m6, .int 0, m8, m9, m10, m11, m12, m13, m14, .int 0, m16, m17, m18, m19, m20, m21, m22, m23, m24, .int 0, m26, m27, m28, m29, .int 0, .int 0, m32, .int 0, m34, m35, .int 0, m37, m38, .int 0, m40, m41]))] sz)) 0 0 (va_A [(hm, .inr (7, [.int t0, .int 0, .int 0, .int 0, .int 0, m5, m6, .int 0, m8, m9, m10, m11, m12, m13, m14, .int 0, m16, m17, m18, m19, m20, m21, m22, m23, m24, .int 0, m26, m27, m28, m29, .int 0, .int 0, m32, .int 0, m34, m35, .int 0, m37, m38, .int 0, m40, m41]))] sz) := by
  refine Met.ofW (cc := prog_13_method_68_code) (maxL := 3) (ret := (some .int)) (by decide) rfl ?_
  intro p e s m args below meth c s₁ B hml hv
  obtain ⟨rfl, hsz, hP, hK, hD0⟩ := hv
  have hx := B.exec
  have hb := B.bytes
  have hr := B.returns
  have hts : ∀ w ∈ tw_G, w.before _ s = true := fun w h => atoms_spec (ws := w_M_parent) B.pre w (List.mem_cons_of_mem _ h)
  have hown : s.vm.findClass "LandBookModel" = some m.cls := findClass_of_methodNamed B.named
  have hlocks := B.notSynchronized
  subst hsz
  have hD := hD0.self (sz := s.heap.size)
  generalize hAe : va_A [(hm, .inr (7, [.int t0, .int 0, .int 0, .int 0, .int 0, m5, m6, .int 0, m8, m9, m10, m11, m12, m13, m14, .int 0, m16, m17, m18, m19, m20, m21, m22, m23, m24, .int 0, m26, m27, m28, m29, .int 0, .int 0, m32, .int 0, m34, m35, .int 0, m37, m38, .int 0, m40, m41]))] s.heap.size = A at hD ⊢
  have hA : ∀ q : Nat, s.heap.size ≤ q → A q := fun q h => by rw [← hAe]; exact Or.inr h
  have hS : va_S A s.heap s.heap [] := va_S.rf
  have hP : va_P (dC, dI) classes [(hm, .inr (7, [.int t0, .int 0, .int 0, .int 0, .int 0, m5, m6, .int 0, m8, m9, m10, m11, m12, m13, m14, .int 0, m16, m17, m18, m19, m20, m21, m22, m23, m24, .int 0, m26, m27, m28, m29, .int 0, .int 0, m32, .int 0, m34, m35, .int 0, m37, m38, .int 0, m40, m41]))] s.heap := hP
  have hl := lv_entry ([.ref hm, .int a0, .int a1]) (n := 3) (Nat.le_of_ble_eq_true rfl)
  rw [lg_entry_eq]
  generalize (lg_sl ([.ref hm, .int a0, .int a1]) ++ List.replicate (3 - (lg_sl ([.ref hm, .int a0, .int a1])).length) Slot.unset).toArray = ls at hl ⊢
  have hl : lv_has ls 3 [(0, .ref hm), (1, .int a0), (2, .int a1)] := hl
  refine lv_aload_n hx hb d_M_parent_0 rfl (lv_at hl 0 rfl) ?_
  refine lv_aload_n hx hb d_M_parent_1 rfl (lv_at hl 0 rfl) ?_
  refine vp_callSi (W.runV (As := []) (rest := [.ref hm]) ⟨hx, hb, hml, hown, hts⟩ (c_M_isUp l dC dI hm t0 m5 m6 m8 m9 m10 m11 m12 m13 m14 m16 m17 m18 m19 m20 m21 m22 m23 m24 m26 m27 m28 m29 m32 m34 m35 m37 m38 m40 m41) (cwV 0 hts (tw_gV tk_253 tk_254 tk_255 tk_249 tk_256) rfl rfl rfl (by decide +kernel) ⟨Nat.le_of_ble_eq_true rfl, Nat.le_of_ble_eq_true rfl⟩) (tw_v2 (va_recv (q0 := 0) hK hP rfl rfl) (hP.sub (ws' := [(hm, .inr (7, [.int t0, .int 0, .int 0, .int 0, .int 0, m5, m6, .int 0, m8, m9, m10, m11, m12, m13, m14, .int 0, m16, m17, m18, m19, m20, m21, m22, m23, m24, .int 0, m26, m27, m28, m29, .int 0, .int 0, m32, .int 0, m34, m35, .int 0, m37, m38, .int 0, m40, m41]))]) [0] rfl) (hK.sub (tys' := []) [] rfl)) rfl rfl hl.1 rfl (lv_room (Nat.le_of_ble_eq_true rfl)) d_M_parent_2 ⟨by show 0 ≤ 0; decide, by show 0 ≤ 0; decide⟩) (fun r1 e2 => ?_)
  have e2 := e2.symm
  subst e2
  refine lv_if_ne (tgt := 12) hx hb d_M_parent_5 (by decide) (fun h3 => absurd (by decide) h3) (fun h3 => ?_)
  refine lv_iconst (v := 1) hx hb d_M_parent_8 (by decide) ?_
  refine lv_goto (tgt := 34) hx hb d_M_parent_9 (by decide) ?_
  refine va_put (D := (dC, dI)) (ci := 7) (v := .int 1) (ty := .int) (C := "LandBookModel") (T := F_LandBookModel) (N := 42) hx hb hts tu_LandBookModel t_LandBookModel t_LandBookModel_ok n_LandBookModel hown hK hP hD hS 0 rfl rfl 0 (by decide) (hts _ tk_251) (fun _ h9 => h9) rfl (by decide +kernel) rfl rfl (Nat.le_of_ble_eq_true rfl) d_M_parent_34 (fun H locs hP hD hS => ?_)
  have hP : va_P (dC, dI) classes [(hm, .inr (7, [.int 1, .int 0, .int 0, .int 0, .int 0, m5, m6, .int 0, m8, m9, m10, m11, m12, m13, m14, .int 0, m16, m17, m18, m19, m20, m21, m22, m23, m24, .int 0, m26, m27, m28, m29, .int 0, .int 0, m32, .int 0, m34, m35, .int 0, m37, m38, .int 0, m40, m41]))] H := hP
  have hD : va_D A [(hm, .inr (7, [.int 1, .int 0, .int 0, .int 0, .int 0, m5, m6, .int 0, m8, m9, m10, m11, m12, m13, m14, .int 0, m16, m17, m18, m19, m20, m21, m22, m23, m24, .int 0, m26, m27, m28, m29, .int 0, .int 0, m32, .int 0, m34, m35, .int 0, m37, m38, .int 0, m40, m41]))] := hD
  refine lv_aload_n hx hb d_M_parent_37 rfl (lv_at hl 0 rfl) ?_
  refine va_get (D := (dC, dI)) (ci := 7) (v := .int 1) (C := "LandBookModel") (T := F_LandBookModel) (N := 42) hx hb hts tu_LandBookModel hown hK hP 0 rfl rfl 0 (by decide) (hts _ tk_251) (fun _ h9 => h9) rfl d_M_parent_38 ?_
  refine lv_if_le (tgt := 48) hx hb d_M_parent_41 (by decide) (fun h4 => absurd h4 (by decide)) (fun h4 => ?_)
  refine lv_iconst (v := 0) hx hb d_M_parent_44 (by decide) ?_
  refine lv_goto (tgt := 67) hx hb d_M_parent_45 (by decide) ?_
  have hP9 := hP.sub (ws' := [(hm, .inr (7, [.int 1, .int 0, .int 0, .int 0, .int 0, m5, m6, .int 0, m8, m9, m10, m11, m12, m13, m14, .int 0, m16, m17, m18, m19, m20, m21, m22, m23, m24, .int 0, m26, m27, m28, m29, .int 0, .int 0, m32, .int 0, m34, m35, .int 0, m37, m38, .int 0, m40, m41]))]) [0] rfl
  have hD9 := hD.sub (ws' := [(hm, .inr (7, [.int 1, .int 0, .int 0, .int 0, .int 0, m5, m6, .int 0, m8, m9, m10, m11, m12, m13, m14, .int 0, m16, m17, m18, m19, m20, m21, m22, m23, m24, .int 0, m26, m27, m28, m29, .int 0, .int 0, m32, .int 0, m34, m35, .int 0, m37, m38, .int 0, m40, m41]))]) [0] (by decide) rfl
  have hK9 := hK.sub (tys' := []) [] rfl
  refine W.widen (k := 0) (n := 0) (by decide) (by decide) ?_
  exact W.iret (v := 0) hx hb hr (fun t ht hW => ⟨⟨0, (1, [.int 0, .int 0, .int 0, .int 0, m5, m6, .int 0, m8, m9, m10, m11, m12, m13, m14, .int 0, m16, m17, m18, m19, m20, m21, m22, m23, m24, .int 0, m26, m27, m28, m29, .int 0, .int 0, m32, .int 0, m34, m35, .int 0, m37, m38, .int 0, m40, m41]), rfl, rfl, by rw [ht]; exact hP9, va_K.moved hW.alike hK9, hD9⟩, hS.F ht⟩) hS.2.2 d_M_parent_67
abbrev y_M_child : MethodName := ⟨"LandBookModel", "child", "(II)I"⟩
abbrev w_M_child : List Cond := Cond.code y_M_child prog_13_method_69_code 5 (some .int) :: tw_G
theorem d_M_child_0 : decode prog_13_method_69_code 0 = .ok (.aload_n 0, 1) := by decide +kernel
theorem d_M_child_1 : decode prog_13_method_69_code 1 = .ok (.aload_n 0, 1) := by decide +kernel
theorem d_M_child_2 : decode prog_13_method_69_code 2 = .ok (.invokevirtual 264, 3) := by decide +kernel
theorem d_M_child_5 : decode prog_13_method_69_code 5 = .ok (.ifCond .ne 7, 3) := by decide +kernel
theorem d_M_child_8 : decode prog_13_method_69_code 8 = .ok (.iconst 1, 1) := by decide +kernel
theorem d_M_child_9 : decode prog_13_method_69_code 9 = .ok (.goto 25, 3) := by decide +kernel
theorem d_M_child_34 : decode prog_13_method_69_code 34 = .ok (.putfield 98, 3) := by decide +kernel
theorem d_M_child_37 : decode prog_13_method_69_code 37 = .ok (.iconst 0, 1) := by decide +kernel
theorem d_M_child_38 : decode prog_13_method_69_code 38 = .ok (.istore_n 3, 1) := by decide +kernel
theorem d_M_child_39 : decode prog_13_method_69_code 39 = .ok (.iconst 1, 1) := by decide +kernel
theorem d_M_child_40 : decode prog_13_method_69_code 40 = .ok (.istore 4, 2) := by decide +kernel
theorem d_M_child_42 : decode prog_13_method_69_code 42 = .ok (.iload 4, 2) := by decide +kernel
theorem d_M_child_44 : decode prog_13_method_69_code 44 = .ok (.aload_n 0, 1) := by decide +kernel
theorem d_M_child_45 : decode prog_13_method_69_code 45 = .ok (.getfield 173, 3) := by decide +kernel
theorem d_M_child_48 : decode prog_13_method_69_code 48 = .ok (.if_icmp .gt 52, 3) := by decide +kernel
theorem d_M_child_100 : decode prog_13_method_69_code 100 = .ok (.iconst 0, 1) := by decide +kernel
theorem d_M_child_101 : decode prog_13_method_69_code 101 = .ok (.ireturn, 1) := by decide +kernel
set_option maxHeartbeats 4000000 in
set_option maxRecDepth 100000 in
theorem c_M_child (l : Launch) (dC : Nat → ClassId) (dI : Nat → Nat → Nat) (hm sz : Nat) (t0 : Int32) (m5 m6 m8 m9 m10 m11 m12 m13 m14 m16 m17 m18 m19 m20 m21 m22 m23 m24 m26 m27 m28 m29 m32 m34 m35 m37 m38 m40 m41 : Value) (a0 a1 : Int32) : Met l y_M_child w_M_child ({ frames := 1, cells := 0, slots := 0, locals := 20 }) (tw_P4 (dC, dI) classes [(hm, .inr (7, [.int t0, .int 0, .int 0, .int 0, .int 0, m5, m6, .int 0, m8, m9, m10, m11, m12, m13, m14, .int 0, m16, m17, m18, m19, m20, m21, m22, m23, m24, .int 0, m26, m27, m28, m29, .int 0, .int 0, m32, .int 0, m34, m35, .int 0, m37, m38, .int 0, m40, m41]))] [] sz [.ref hm, .int a0, .int a1]) (va_Qi (fun (r : Int32) (u : Int32 × List Value) => u.1 = 1) (fun u => tw_B dC dI (va_A [(hm, .inr (7, [.int t0, .int 0, .int 0, .int 0, .int 0, m5, m6, .int 0, m8, m9, m10, m11, m12, m13, m14, .int 0, m16, m17, m18, m19, m20, m21, m22, m23, m24, .int 0, m26, m27, m28, m29, .int 0, .int 0, m32, .int 0, m34, m35, .int 0, m37, m38, .int 0, m40, m41]))] sz) [(hm, .inr (7, .int u.1 :: u.2))] []) (va_A [(hm, .inr (7, [.int t0, .int 0, .int 0, .int 0, .int 0, m5, m6, .int 0, m8, m9, m10, m11, m12, m13, m14, .int 0, m16, m17, m18, m19, m20, m21, m22, m23, m24, .int 0, m26, m27, m28, m29, .int 0, .int 0, m32, .int 0, m34, m35, .int 0, m37, m38, .int 0, m40, m41]))] sz)) 0 0 (va_A [(hm, .inr (7, [.int t0, .int 0, .int 0, .int 0, .int 0, m5, m6, .int 0, m8, m9, m10, m11, m12, m13, m14, .int 0, m16, m17, m18, m19, m20, m21, m22, m23, m24, .int 0, m26, m27, m28, m29, .int 0, .int 0, m32, .int 0, m34, m35, .int 0, m37, m38, .int 0, m40, m41]))] sz) := by
  refine Met.ofW (cc := prog_13_method_69_code) (maxL := 5) (ret := (some .int)) (by decide) rfl ?_
  intro p e s m args below meth c s₁ B hml hv
  obtain ⟨rfl, hsz, hP, hK, hD0⟩ := hv
  have hx := B.exec
  have hb := B.bytes
  have hr := B.returns
  have hts : ∀ w ∈ tw_G, w.before _ s = true := fun w h => atoms_spec (ws := w_M_child) B.pre w (List.mem_cons_of_mem _ h)
  have hown : s.vm.findClass "LandBookModel" = some m.cls := findClass_of_methodNamed B.named
  have hlocks := B.notSynchronized
  subst hsz
  have hD := hD0.self (sz := s.heap.size)
  generalize hAe : va_A [(hm, .inr (7, [.int t0, .int 0, .int 0, .int 0, .int 0, m5, m6, .int 0, m8, m9, m10, m11, m12, m13, m14, .int 0, m16, m17, m18, m19, m20, m21, m22, m23, m24, .int 0, m26, m27, m28, m29, .int 0, .int 0, m32, .int 0, m34, m35, .int 0, m37, m38, .int 0, m40, m41]))] s.heap.size = A at hD ⊢
  have hA : ∀ q : Nat, s.heap.size ≤ q → A q := fun q h => by rw [← hAe]; exact Or.inr h
  have hS : va_S A s.heap s.heap [] := va_S.rf
  have hP : va_P (dC, dI) classes [(hm, .inr (7, [.int t0, .int 0, .int 0, .int 0, .int 0, m5, m6, .int 0, m8, m9, m10, m11, m12, m13, m14, .int 0, m16, m17, m18, m19, m20, m21, m22, m23, m24, .int 0, m26, m27, m28, m29, .int 0, .int 0, m32, .int 0, m34, m35, .int 0, m37, m38, .int 0, m40, m41]))] s.heap := hP
  have hl := lv_entry ([.ref hm, .int a0, .int a1]) (n := 5) (Nat.le_of_ble_eq_true rfl)
  rw [lg_entry_eq]
  generalize (lg_sl ([.ref hm, .int a0, .int a1]) ++ List.replicate (5 - (lg_sl ([.ref hm, .int a0, .int a1])).length) Slot.unset).toArray = ls at hl ⊢
  have hl : lv_has ls 5 [(0, .ref hm), (1, .int a0), (2, .int a1)] := hl
  refine lv_aload_n hx hb d_M_child_0 rfl (lv_at hl 0 rfl) ?_
  refine lv_aload_n hx hb d_M_child_1 rfl (lv_at hl 0 rfl) ?_
  refine vp_callSi (W.runV (As := []) (rest := [.ref hm]) ⟨hx, hb, hml, hown, hts⟩ (c_M_isUp l dC dI hm t0 m5 m6 m8 m9 m10 m11 m12 m13 m14 m16 m17 m18 m19 m20 m21 m22 m23 m24 m26 m27 m28 m29 m32 m34 m35 m37 m38 m40 m41) (cwV 0 hts (tw_gV tk_253 tk_254 tk_255 tk_249 tk_256) rfl rfl rfl (by decide +kernel) ⟨Nat.le_of_ble_eq_true rfl, Nat.le_of_ble_eq_true rfl⟩) (tw_v2 (va_recv (q0 := 0) hK hP rfl rfl) (hP.sub (ws' := [(hm, .inr (7, [.int t0, .int 0, .int 0, .int 0, .int 0, m5, m6, .int 0, m8, m9, m10, m11, m12, m13, m14, .int 0, m16, m17, m18, m19, m20, m21, m22, m23, m24, .int 0, m26, m27, m28, m29, .int 0, .int 0, m32, .int 0, m34, m35, .int 0, m37, m38, .int 0, m40, m41]))]) [0] rfl) (hK.sub (tys' := []) [] rfl)) rfl rfl hl.1 rfl (lv_room (Nat.le_of_ble_eq_true rfl)) d_M_child_2 ⟨by show 0 ≤ 0; decide, by show 0 ≤ 0; decide⟩) (fun r1 e2 => ?_)
  have e2 := e2.symm
  subst e2
  refine lv_if_ne (tgt := 12) hx hb d_M_child_5 (by decide) (fun h3 => absurd (by decide) h3) (fun h3 => ?_)
  refine lv_iconst (v := 1) hx hb d_M_child_8 (by decide) ?_
  refine lv_goto (tgt := 34) hx hb d_M_child_9 (by decide) ?_
  refine va_put (D := (dC, dI)) (ci := 7) (v := .int 1) (ty := .int) (C := "LandBookModel") (T := F_LandBookModel) (N := 42) hx hb hts tu_LandBookModel t_LandBookModel t_LandBookModel_ok n_LandBookModel hown hK hP hD hS 0 rfl rfl 0 (by decide) (hts _ tk_251) (fun _ h9 => h9) rfl (by decide +kernel) rfl rfl (Nat.le_of_ble_eq_true rfl) d_M_child_34 (fun H locs hP hD hS => ?_)
  have hP : va_P (dC, dI) classes [(hm, .inr (7, [.int 1, .int 0, .int 0, .int 0, .int 0, m5, m6, .int 0, m8, m9, m10, m11, m12, m13, m14, .int 0, m16, m17, m18, m19, m20, m21, m22, m23, m24, .int 0, m26, m27, m28, m29, .int 0, .int 0, m32, .int 0, m34, m35, .int 0, m37, m38, .int 0, m40, m41]))] H := hP
  have hD : va_D A [(hm, .inr (7, [.int 1, .int 0, .int 0, .int 0, .int 0, m5, m6, .int 0, m8, m9, m10, m11, m12, m13, m14, .int 0, m16, m17, m18, m19, m20, m21, m22, m23, m24, .int 0, m26, m27, m28, m29, .int 0, .int 0, m32, .int 0, m34, m35, .int 0, m37, m38, .int 0, m40, m41]))] := hD
  refine lv_iconst (v := 0) hx hb d_M_child_37 (by decide) ?_
  refine lv_istore_n (lv' := [(3, .int 0), (0, .ref hm), (1, .int a0), (2, .int a1)]) hx hb d_M_child_38 rfl hl (by decide) rfl (fun ls hl => ?_)
  refine lv_iconst (v := 1) hx hb d_M_child_39 (by decide) ?_
  refine lv_istore (lv' := [(4, .int 1), (3, .int 0), (0, .ref hm), (1, .int a0), (2, .int a1)]) hx hb d_M_child_40 hl (by decide) rfl (fun ls hl => ?_)
  refine lv_iload hx hb d_M_child_42 (lv_at hl 0 rfl) ?_
  refine lv_aload_n hx hb d_M_child_44 rfl (lv_at hl 2 rfl) ?_
  refine va_get (D := (dC, dI)) (ci := 7) (v := .int 0) (C := "LandBookModel") (T := F_LandBookModel) (N := 42) hx hb hts tu_LandBookModel hown hK hP 0 rfl rfl 7 (by decide) (hts _ tk_265) (fun _ h9 => h9) rfl d_M_child_45 ?_
  refine lv_icmp_gt (tgt := 100) hx hb d_M_child_48 (by decide) (fun h4 => ?_) (fun h4 => absurd (by decide) h4)
  refine lv_iconst (v := 0) hx hb d_M_child_100 (by decide) ?_
  have hP9 := hP.sub (ws' := [(hm, .inr (7, [.int 1, .int 0, .int 0, .int 0, .int 0, m5, m6, .int 0, m8, m9, m10, m11, m12, m13, m14, .int 0, m16, m17, m18, m19, m20, m21, m22, m23, m24, .int 0, m26, m27, m28, m29, .int 0, .int 0, m32, .int 0, m34, m35, .int 0, m37, m38, .int 0, m40, m41]))]) [0] rfl
  have hD9 := hD.sub (ws' := [(hm, .inr (7, [.int 1, .int 0, .int 0, .int 0, .int 0, m5, m6, .int 0, m8, m9, m10, m11, m12, m13, m14, .int 0, m16, m17, m18, m19, m20, m21, m22, m23, m24, .int 0, m26, m27, m28, m29, .int 0, .int 0, m32, .int 0, m34, m35, .int 0, m37, m38, .int 0, m40, m41]))]) [0] (by decide) rfl
  have hK9 := hK.sub (tys' := []) [] rfl
  refine W.widen (k := 0) (n := 0) (by decide) (by decide) ?_
  exact W.iret (v := 0) hx hb hr (fun t ht hW => ⟨⟨0, (1, [.int 0, .int 0, .int 0, .int 0, m5, m6, .int 0, m8, m9, m10, m11, m12, m13, m14, .int 0, m16, m17, m18, m19, m20, m21, m22, m23, m24, .int 0, m26, m27, m28, m29, .int 0, .int 0, m32, .int 0, m34, m35, .int 0, m37, m38, .int 0, m40, m41]), rfl, rfl, by rw [ht]; exact hP9, va_K.moved hW.alike hK9, hD9⟩, hS.F ht⟩) hS.2.2 d_M_child_101
abbrev y_M_corners : MethodName := ⟨"LandBookModel", "corners", "(I)I"⟩
abbrev w_M_corners : List Cond := Cond.code y_M_corners prog_13_method_70_code 2 (some .int) :: tw_G
theorem d_M_corners_0 : decode prog_13_method_70_code 0 = .ok (.aload_n 0, 1) := by decide +kernel
theorem d_M_corners_1 : decode prog_13_method_70_code 1 = .ok (.aload_n 0, 1) := by decide +kernel
theorem d_M_corners_2 : decode prog_13_method_70_code 2 = .ok (.invokevirtual 264, 3) := by decide +kernel
theorem d_M_corners_5 : decode prog_13_method_70_code 5 = .ok (.ifCond .ne 7, 3) := by decide +kernel
theorem d_M_corners_8 : decode prog_13_method_70_code 8 = .ok (.iconst 1, 1) := by decide +kernel
theorem d_M_corners_9 : decode prog_13_method_70_code 9 = .ok (.goto 16, 3) := by decide +kernel
theorem d_M_corners_25 : decode prog_13_method_70_code 25 = .ok (.putfield 98, 3) := by decide +kernel
theorem d_M_corners_28 : decode prog_13_method_70_code 28 = .ok (.aload_n 0, 1) := by decide +kernel
theorem d_M_corners_29 : decode prog_13_method_70_code 29 = .ok (.getfield 98, 3) := by decide +kernel
theorem d_M_corners_32 : decode prog_13_method_70_code 32 = .ok (.ifCond .le 7, 3) := by decide +kernel
theorem d_M_corners_35 : decode prog_13_method_70_code 35 = .ok (.iconst 0, 1) := by decide +kernel
theorem d_M_corners_36 : decode prog_13_method_70_code 36 = .ok (.goto 9, 3) := by decide +kernel
theorem d_M_corners_45 : decode prog_13_method_70_code 45 = .ok (.ireturn, 1) := by decide +kernel
set_option maxHeartbeats 4000000 in
set_option maxRecDepth 100000 in
theorem c_M_corners (l : Launch) (dC : Nat → ClassId) (dI : Nat → Nat → Nat) (hm sz : Nat) (t0 : Int32) (m5 m6 m8 m9 m10 m11 m12 m13 m14 m16 m17 m18 m19 m20 m21 m22 m23 m24 m26 m27 m28 m29 m32 m34 m35 m37 m38 m40 m41 : Value) (a0 : Int32) : Met l y_M_corners w_M_corners ({ frames := 1, cells := 0, slots := 0, locals := 20 }) (tw_P4 (dC, dI) classes [(hm, .inr (7, [.int t0, .int 0, .int 0, .int 0, .int 0, m5, m6, .int 0, m8, m9, m10, m11, m12, m13, m14, .int 0, m16, m17, m18, m19, m20, m21, m22, m23, m24, .int 0, m26, m27, m28, m29, .int 0, .int 0, m32, .int 0, m34, m35, .int 0, m37, m38, .int 0, m40, m41]))] [] sz [.ref hm, .int a0]) (va_Qi (fun (r : Int32) (u : Int32 × List Value) => u.1 = 1) (fun u => tw_B dC dI (va_A [(hm, .inr (7, [.int t0, .int 0, .int 0, .int 0, .int 0, m5, m6, .int 0, m8, m9, m10, m11, m12, m13, m14, .int 0, m16, m17, m18, m19, m20, m21, m22, m23, m24, .int 0, m26, m27, m28, m29, .int 0, .int 0, m32, .int 0, m34, m35, .int 0, m37, m38, .int 0, m40, m41]))] sz) [(hm, .inr (7, .int u.1 :: u.2))] []) (va_A [(hm, .inr (7, [.int t0, .int 0, .int 0, .int 0, .int 0, m5, m6, .int 0, m8, m9, m10, m11, m12, m13, m14, .int 0, m16, m17, m18, m19, m20, m21, m22, m23, m24, .int 0, m26, m27, m28, m29, .int 0, .int 0, m32, .int 0, m34, m35, .int 0, m37, m38, .int 0, m40, m41]))] sz)) 0 0 (va_A [(hm, .inr (7, [.int t0, .int 0, .int 0, .int 0, .int 0, m5, m6, .int 0, m8, m9, m10, m11, m12, m13, m14, .int 0, m16, m17, m18, m19, m20, m21, m22, m23, m24, .int 0, m26, m27, m28, m29, .int 0, .int 0, m32, .int 0, m34, m35, .int 0, m37, m38, .int 0, m40, m41]))] sz) := by
  refine Met.ofW (cc := prog_13_method_70_code) (maxL := 2) (ret := (some .int)) (by decide) rfl ?_
  intro p e s m args below meth c s₁ B hml hv
  obtain ⟨rfl, hsz, hP, hK, hD0⟩ := hv
  have hx := B.exec
  have hb := B.bytes
  have hr := B.returns
  have hts : ∀ w ∈ tw_G, w.before _ s = true := fun w h => atoms_spec (ws := w_M_corners) B.pre w (List.mem_cons_of_mem _ h)
  have hown : s.vm.findClass "LandBookModel" = some m.cls := findClass_of_methodNamed B.named
  have hlocks := B.notSynchronized
  subst hsz
  have hD := hD0.self (sz := s.heap.size)
  generalize hAe : va_A [(hm, .inr (7, [.int t0, .int 0, .int 0, .int 0, .int 0, m5, m6, .int 0, m8, m9, m10, m11, m12, m13, m14, .int 0, m16, m17, m18, m19, m20, m21, m22, m23, m24, .int 0, m26, m27, m28, m29, .int 0, .int 0, m32, .int 0, m34, m35, .int 0, m37, m38, .int 0, m40, m41]))] s.heap.size = A at hD ⊢
  have hA : ∀ q : Nat, s.heap.size ≤ q → A q := fun q h => by rw [← hAe]; exact Or.inr h
  have hS : va_S A s.heap s.heap [] := va_S.rf
  have hP : va_P (dC, dI) classes [(hm, .inr (7, [.int t0, .int 0, .int 0, .int 0, .int 0, m5, m6, .int 0, m8, m9, m10, m11, m12, m13, m14, .int 0, m16, m17, m18, m19, m20, m21, m22, m23, m24, .int 0, m26, m27, m28, m29, .int 0, .int 0, m32, .int 0, m34, m35, .int 0, m37, m38, .int 0, m40, m41]))] s.heap := hP
  have hl := lv_entry ([.ref hm, .int a0]) (n := 2) (Nat.le_of_ble_eq_true rfl)
  rw [lg_entry_eq]
  generalize (lg_sl ([.ref hm, .int a0]) ++ List.replicate (2 - (lg_sl ([.ref hm, .int a0])).length) Slot.unset).toArray = ls at hl ⊢
  have hl : lv_has ls 2 [(0, .ref hm), (1, .int a0)] := hl
  refine lv_aload_n hx hb d_M_corners_0 rfl (lv_at hl 0 rfl) ?_
  refine lv_aload_n hx hb d_M_corners_1 rfl (lv_at hl 0 rfl) ?_
  refine vp_callSi (W.runV (As := []) (rest := [.ref hm]) ⟨hx, hb, hml, hown, hts⟩ (c_M_isUp l dC dI hm t0 m5 m6 m8 m9 m10 m11 m12 m13 m14 m16 m17 m18 m19 m20 m21 m22 m23 m24 m26 m27 m28 m29 m32 m34 m35 m37 m38 m40 m41) (cwV 0 hts (tw_gV tk_253 tk_254 tk_255 tk_249 tk_256) rfl rfl rfl (by decide +kernel) ⟨Nat.le_of_ble_eq_true rfl, Nat.le_of_ble_eq_true rfl⟩) (tw_v2 (va_recv (q0 := 0) hK hP rfl rfl) (hP.sub (ws' := [(hm, .inr (7, [.int t0, .int 0, .int 0, .int 0, .int 0, m5, m6, .int 0, m8, m9, m10, m11, m12, m13, m14, .int 0, m16, m17, m18, m19, m20, m21, m22, m23, m24, .int 0, m26, m27, m28, m29, .int 0, .int 0, m32, .int 0, m34, m35, .int 0, m37, m38, .int 0, m40, m41]))]) [0] rfl) (hK.sub (tys' := []) [] rfl)) rfl rfl hl.1 rfl (lv_room (Nat.le_of_ble_eq_true rfl)) d_M_corners_2 ⟨by show 0 ≤ 0; decide, by show 0 ≤ 0; decide⟩) (fun r1 e2 => ?_)
  have e2 := e2.symm
  subst e2
  refine lv_if_ne (tgt := 12) hx hb d_M_corners_5 (by decide) (fun h3 => absurd (by decide) h3) (fun h3 => ?_)
  refine lv_iconst (v := 1) hx hb d_M_corners_8 (by decide) ?_
  refine lv_goto (tgt := 25) hx hb d_M_corners_9 (by decide) ?_
  refine va_put (D := (dC, dI)) (ci := 7) (v := .int 1) (ty := .int) (C := "LandBookModel") (T := F_LandBookModel) (N := 42) hx hb hts tu_LandBookModel t_LandBookModel t_LandBookModel_ok n_LandBookModel hown hK hP hD hS 0 rfl rfl 0 (by decide) (hts _ tk_251) (fun _ h9 => h9) rfl (by decide +kernel) rfl rfl (Nat.le_of_ble_eq_true rfl) d_M_corners_25 (fun H locs hP hD hS => ?_)
  have hP : va_P (dC, dI) classes [(hm, .inr (7, [.int 1, .int 0, .int 0, .int 0, .int 0, m5, m6, .int 0, m8, m9, m10, m11, m12, m13, m14, .int 0, m16, m17, m18, m19, m20, m21, m22, m23, m24, .int 0, m26, m27, m28, m29, .int 0, .int 0, m32, .int 0, m34, m35, .int 0, m37, m38, .int 0, m40, m41]))] H := hP
  have hD : va_D A [(hm, .inr (7, [.int 1, .int 0, .int 0, .int 0, .int 0, m5, m6, .int 0, m8, m9, m10, m11, m12, m13, m14, .int 0, m16, m17, m18, m19, m20, m21, m22, m23, m24, .int 0, m26, m27, m28, m29, .int 0, .int 0, m32, .int 0, m34, m35, .int 0, m37, m38, .int 0, m40, m41]))] := hD
  refine lv_aload_n hx hb d_M_corners_28 rfl (lv_at hl 0 rfl) ?_
  refine va_get (D := (dC, dI)) (ci := 7) (v := .int 1) (C := "LandBookModel") (T := F_LandBookModel) (N := 42) hx hb hts tu_LandBookModel hown hK hP 0 rfl rfl 0 (by decide) (hts _ tk_251) (fun _ h9 => h9) rfl d_M_corners_29 ?_
  refine lv_if_le (tgt := 39) hx hb d_M_corners_32 (by decide) (fun h4 => absurd h4 (by decide)) (fun h4 => ?_)
  refine lv_iconst (v := 0) hx hb d_M_corners_35 (by decide) ?_
  refine lv_goto (tgt := 45) hx hb d_M_corners_36 (by decide) ?_
  have hP9 := hP.sub (ws' := [(hm, .inr (7, [.int 1, .int 0, .int 0, .int 0, .int 0, m5, m6, .int 0, m8, m9, m10, m11, m12, m13, m14, .int 0, m16, m17, m18, m19, m20, m21, m22, m23, m24, .int 0, m26, m27, m28, m29, .int 0, .int 0, m32, .int 0, m34, m35, .int 0, m37, m38, .int 0, m40, m41]))]) [0] rfl
  have hD9 := hD.sub (ws' := [(hm, .inr (7, [.int 1, .int 0, .int 0, .int 0, .int 0, m5, m6, .int 0, m8, m9, m10, m11, m12, m13, m14, .int 0, m16, m17, m18, m19, m20, m21, m22, m23, m24, .int 0, m26, m27, m28, m29, .int 0, .int 0, m32, .int 0, m34, m35, .int 0, m37, m38, .int 0, m40, m41]))]) [0] (by decide) rfl
  have hK9 := hK.sub (tys' := []) [] rfl
  refine W.widen (k := 0) (n := 0) (by decide) (by decide) ?_
  exact W.iret (v := 0) hx hb hr (fun t ht hW => ⟨⟨0, (1, [.int 0, .int 0, .int 0, .int 0, m5, m6, .int 0, m8, m9, m10, m11, m12, m13, m14, .int 0, m16, m17, m18, m19, m20, m21, m22, m23, m24, .int 0, m26, m27, m28, m29, .int 0, .int 0, m32, .int 0, m34, m35, .int 0, m37, m38, .int 0, m40, m41]), rfl, rfl, by rw [ht]; exact hP9, va_K.moved hW.alike hK9, hD9⟩, hS.F ht⟩) hS.2.2 d_M_corners_45
abbrev y_M_corner : MethodName := ⟨"LandBookModel", "corner", "(II)I"⟩
abbrev w_M_corner : List Cond := Cond.code y_M_corner prog_13_method_71_code 3 (some .int) :: tw_G
theorem d_M_corner_0 : decode prog_13_method_71_code 0 = .ok (.aload_n 0, 1) := by decide +kernel
theorem d_M_corner_1 : decode prog_13_method_71_code 1 = .ok (.aload_n 0, 1) := by decide +kernel
theorem d_M_corner_2 : decode prog_13_method_71_code 2 = .ok (.invokevirtual 264, 3) := by decide +kernel
theorem d_M_corner_5 : decode prog_13_method_71_code 5 = .ok (.ifCond .ne 7, 3) := by decide +kernel
theorem d_M_corner_8 : decode prog_13_method_71_code 8 = .ok (.iconst 1, 1) := by decide +kernel
theorem d_M_corner_9 : decode prog_13_method_71_code 9 = .ok (.goto 30, 3) := by decide +kernel
theorem d_M_corner_39 : decode prog_13_method_71_code 39 = .ok (.putfield 98, 3) := by decide +kernel
theorem d_M_corner_42 : decode prog_13_method_71_code 42 = .ok (.aload_n 0, 1) := by decide +kernel
theorem d_M_corner_43 : decode prog_13_method_71_code 43 = .ok (.getfield 98, 3) := by decide +kernel
theorem d_M_corner_46 : decode prog_13_method_71_code 46 = .ok (.ifCond .le 7, 3) := by decide +kernel
theorem d_M_corner_49 : decode prog_13_method_71_code 49 = .ok (.iconst 0, 1) := by decide +kernel
theorem d_M_corner_50 : decode prog_13_method_71_code 50 = .ok (.goto 19, 3) := by decide +kernel
theorem d_M_corner_69 : decode prog_13_method_71_code 69 = .ok (.ireturn, 1) := by decide +kernel
set_option maxHeartbeats 4000000 in
set_option maxRecDepth 100000 in
theorem c_M_corner (l : Launch) (dC : Nat → ClassId) (dI : Nat → Nat → Nat) (hm sz : Nat) (t0 : Int32) (m5 m6 m8 m9 m10 m11 m12 m13 m14 m16 m17 m18 m19 m20 m21 m22 m23 m24 m26 m27 m28 m29 m32 m34 m35 m37 m38 m40 m41 : Value) (a0 a1 : Int32) : Met l y_M_corner w_M_corner ({ frames := 1, cells := 0, slots := 0, locals := 20 }) (tw_P4 (dC, dI) classes [(hm, .inr (7, [.int t0, .int 0, .int 0, .int 0, .int 0, m5, m6, .int 0, m8, m9, m10, m11, m12, m13, m14, .int 0, m16, m17, m18, m19, m20, m21, m22, m23, m24, .int 0, m26, m27, m28, m29, .int 0, .int 0, m32, .int 0, m34, m35, .int 0, m37, m38, .int 0, m40, m41]))] [] sz [.ref hm, .int a0, .int a1]) (va_Qi (fun (r : Int32) (u : Int32 × List Value) => u.1 = 1) (fun u => tw_B dC dI (va_A [(hm, .inr (7, [.int t0, .int 0, .int 0, .int 0, .int 0, m5, m6, .int 0, m8, m9, m10, m11, m12, m13, m14, .int 0, m16, m17, m18, m19, m20, m21, m22, m23, m24, .int 0, m26, m27, m28, m29, .int 0, .int 0, m32, .int 0, m34, m35, .int 0, m37, m38, .int 0, m40, m41]))] sz) [(hm, .inr (7, .int u.1 :: u.2))] []) (va_A [(hm, .inr (7, [.int t0, .int 0, .int 0, .int 0, .int 0, m5, m6, .int 0, m8, m9, m10, m11, m12, m13, m14, .int 0, m16, m17, m18, m19, m20, m21, m22, m23, m24, .int 0, m26, m27, m28, m29, .int 0, .int 0, m32, .int 0, m34, m35, .int 0, m37, m38, .int 0, m40, m41]))] sz)) 0 0 (va_A [(hm, .inr (7, [.int t0, .int 0, .int 0, .int 0, .int 0, m5, m6, .int 0, m8, m9, m10, m11, m12, m13, m14, .int 0, m16, m17, m18, m19, m20, m21, m22, m23, m24, .int 0, m26, m27, m28, m29, .int 0, .int 0, m32, .int 0, m34, m35, .int 0, m37, m38, .int 0, m40, m41]))] sz) := by
  refine Met.ofW (cc := prog_13_method_71_code) (maxL := 3) (ret := (some .int)) (by decide) rfl ?_
  intro p e s m args below meth c s₁ B hml hv
  obtain ⟨rfl, hsz, hP, hK, hD0⟩ := hv
  have hx := B.exec
  have hb := B.bytes
  have hr := B.returns
  have hts : ∀ w ∈ tw_G, w.before _ s = true := fun w h => atoms_spec (ws := w_M_corner) B.pre w (List.mem_cons_of_mem _ h)
  have hown : s.vm.findClass "LandBookModel" = some m.cls := findClass_of_methodNamed B.named
  have hlocks := B.notSynchronized
  subst hsz
  have hD := hD0.self (sz := s.heap.size)
  generalize hAe : va_A [(hm, .inr (7, [.int t0, .int 0, .int 0, .int 0, .int 0, m5, m6, .int 0, m8, m9, m10, m11, m12, m13, m14, .int 0, m16, m17, m18, m19, m20, m21, m22, m23, m24, .int 0, m26, m27, m28, m29, .int 0, .int 0, m32, .int 0, m34, m35, .int 0, m37, m38, .int 0, m40, m41]))] s.heap.size = A at hD ⊢
  have hA : ∀ q : Nat, s.heap.size ≤ q → A q := fun q h => by rw [← hAe]; exact Or.inr h
  have hS : va_S A s.heap s.heap [] := va_S.rf
  have hP : va_P (dC, dI) classes [(hm, .inr (7, [.int t0, .int 0, .int 0, .int 0, .int 0, m5, m6, .int 0, m8, m9, m10, m11, m12, m13, m14, .int 0, m16, m17, m18, m19, m20, m21, m22, m23, m24, .int 0, m26, m27, m28, m29, .int 0, .int 0, m32, .int 0, m34, m35, .int 0, m37, m38, .int 0, m40, m41]))] s.heap := hP
  have hl := lv_entry ([.ref hm, .int a0, .int a1]) (n := 3) (Nat.le_of_ble_eq_true rfl)
  rw [lg_entry_eq]
  generalize (lg_sl ([.ref hm, .int a0, .int a1]) ++ List.replicate (3 - (lg_sl ([.ref hm, .int a0, .int a1])).length) Slot.unset).toArray = ls at hl ⊢
  have hl : lv_has ls 3 [(0, .ref hm), (1, .int a0), (2, .int a1)] := hl
  refine lv_aload_n hx hb d_M_corner_0 rfl (lv_at hl 0 rfl) ?_
  refine lv_aload_n hx hb d_M_corner_1 rfl (lv_at hl 0 rfl) ?_
  refine vp_callSi (W.runV (As := []) (rest := [.ref hm]) ⟨hx, hb, hml, hown, hts⟩ (c_M_isUp l dC dI hm t0 m5 m6 m8 m9 m10 m11 m12 m13 m14 m16 m17 m18 m19 m20 m21 m22 m23 m24 m26 m27 m28 m29 m32 m34 m35 m37 m38 m40 m41) (cwV 0 hts (tw_gV tk_253 tk_254 tk_255 tk_249 tk_256) rfl rfl rfl (by decide +kernel) ⟨Nat.le_of_ble_eq_true rfl, Nat.le_of_ble_eq_true rfl⟩) (tw_v2 (va_recv (q0 := 0) hK hP rfl rfl) (hP.sub (ws' := [(hm, .inr (7, [.int t0, .int 0, .int 0, .int 0, .int 0, m5, m6, .int 0, m8, m9, m10, m11, m12, m13, m14, .int 0, m16, m17, m18, m19, m20, m21, m22, m23, m24, .int 0, m26, m27, m28, m29, .int 0, .int 0, m32, .int 0, m34, m35, .int 0, m37, m38, .int 0, m40, m41]))]) [0] rfl) (hK.sub (tys' := []) [] rfl)) rfl rfl hl.1 rfl (lv_room (Nat.le_of_ble_eq_true rfl)) d_M_corner_2 ⟨by show 0 ≤ 0; decide, by show 0 ≤ 0; decide⟩) (fun r1 e2 => ?_)
  have e2 := e2.symm
  subst e2
  refine lv_if_ne (tgt := 12) hx hb d_M_corner_5 (by decide) (fun h3 => absurd (by decide) h3) (fun h3 => ?_)
  refine lv_iconst (v := 1) hx hb d_M_corner_8 (by decide) ?_
  refine lv_goto (tgt := 39) hx hb d_M_corner_9 (by decide) ?_
  refine va_put (D := (dC, dI)) (ci := 7) (v := .int 1) (ty := .int) (C := "LandBookModel") (T := F_LandBookModel) (N := 42) hx hb hts tu_LandBookModel t_LandBookModel t_LandBookModel_ok n_LandBookModel hown hK hP hD hS 0 rfl rfl 0 (by decide) (hts _ tk_251) (fun _ h9 => h9) rfl (by decide +kernel) rfl rfl (Nat.le_of_ble_eq_true rfl) d_M_corner_39 (fun H locs hP hD hS => ?_)
  have hP : va_P (dC, dI) classes [(hm, .inr (7, [.int 1, .int 0, .int 0, .int 0, .int 0, m5, m6, .int 0, m8, m9, m10, m11, m12, m13, m14, .int 0, m16, m17, m18, m19, m20, m21, m22, m23, m24, .int 0, m26, m27, m28, m29, .int 0, .int 0, m32, .int 0, m34, m35, .int 0, m37, m38, .int 0, m40, m41]))] H := hP
  have hD : va_D A [(hm, .inr (7, [.int 1, .int 0, .int 0, .int 0, .int 0, m5, m6, .int 0, m8, m9, m10, m11, m12, m13, m14, .int 0, m16, m17, m18, m19, m20, m21, m22, m23, m24, .int 0, m26, m27, m28, m29, .int 0, .int 0, m32, .int 0, m34, m35, .int 0, m37, m38, .int 0, m40, m41]))] := hD
  refine lv_aload_n hx hb d_M_corner_42 rfl (lv_at hl 0 rfl) ?_
  refine va_get (D := (dC, dI)) (ci := 7) (v := .int 1) (C := "LandBookModel") (T := F_LandBookModel) (N := 42) hx hb hts tu_LandBookModel hown hK hP 0 rfl rfl 0 (by decide) (hts _ tk_251) (fun _ h9 => h9) rfl d_M_corner_43 ?_
  refine lv_if_le (tgt := 53) hx hb d_M_corner_46 (by decide) (fun h4 => absurd h4 (by decide)) (fun h4 => ?_)
  refine lv_iconst (v := 0) hx hb d_M_corner_49 (by decide) ?_
  refine lv_goto (tgt := 69) hx hb d_M_corner_50 (by decide) ?_
  have hP9 := hP.sub (ws' := [(hm, .inr (7, [.int 1, .int 0, .int 0, .int 0, .int 0, m5, m6, .int 0, m8, m9, m10, m11, m12, m13, m14, .int 0, m16, m17, m18, m19, m20, m21, m22, m23, m24, .int 0, m26, m27, m28, m29, .int 0, .int 0, m32, .int 0, m34, m35, .int 0, m37, m38, .int 0, m40, m41]))]) [0] rfl
  have hD9 := hD.sub (ws' := [(hm, .inr (7, [.int 1, .int 0, .int 0, .int 0, .int 0, m5, m6, .int 0, m8, m9, m10, m11, m12, m13, m14, .int 0, m16, m17, m18, m19, m20, m21, m22, m23, m24, .int 0, m26, m27, m28, m29, .int 0, .int 0, m32, .int 0, m34, m35, .int 0, m37, m38, .int 0, m40, m41]))]) [0] (by decide) rfl
  have hK9 := hK.sub (tys' := []) [] rfl
  refine W.widen (k := 0) (n := 0) (by decide) (by decide) ?_
  exact W.iret (v := 0) hx hb hr (fun t ht hW => ⟨⟨0, (1, [.int 0, .int 0, .int 0, .int 0, m5, m6, .int 0, m8, m9, m10, m11, m12, m13, m14, .int 0, m16, m17, m18, m19, m20, m21, m22, m23, m24, .int 0, m26, m27, m28, m29, .int 0, .int 0, m32, .int 0, m34, m35, .int 0, m37, m38, .int 0, m40, m41]), rfl, rfl, by rw [ht]; exact hP9, va_K.moved hW.alike hK9, hD9⟩, hS.F ht⟩) hS.2.2 d_M_corner_69
theorem tk_270 : (Jvm.Cond.fieldLink "LandBookModel" (201 : Nat) "LandBookModel" "words" "I") ∈ tw_G := tw_in (List.mem_of_getElem? (i := 1076) (by decide +kernel)) rfl
theorem tk_271 : (Jvm.Cond.fieldLink "LandBookModel" (321 : Nat) "LandBookModel" "synced" "I") ∈ tw_G := tw_in (List.mem_of_getElem? (i := 1077) (by decide +kernel)) rfl
abbrev y_M_sync : MethodName := ⟨"LandBookModel", "sync", "()I"⟩
abbrev w_M_sync : List Cond := Cond.code y_M_sync prog_13_method_74_code 2 (some .int) :: tw_G
theorem d_M_sync_0 : decode prog_13_method_74_code 0 = .ok (.aload_n 0, 1) := by decide +kernel
theorem d_M_sync_1 : decode prog_13_method_74_code 1 = .ok (.aload_n 0, 1) := by decide +kernel
theorem d_M_sync_2 : decode prog_13_method_74_code 2 = .ok (.invokevirtual 264, 3) := by decide +kernel
theorem d_M_sync_5 : decode prog_13_method_74_code 5 = .ok (.ifCond .ne 7, 3) := by decide +kernel
theorem d_M_sync_8 : decode prog_13_method_74_code 8 = .ok (.iconst 1, 1) := by decide +kernel
theorem d_M_sync_9 : decode prog_13_method_74_code 9 = .ok (.goto 4, 3) := by decide +kernel
theorem d_M_sync_13 : decode prog_13_method_74_code 13 = .ok (.putfield 98, 3) := by decide +kernel
theorem d_M_sync_16 : decode prog_13_method_74_code 16 = .ok (.aload_n 0, 1) := by decide +kernel
theorem d_M_sync_17 : decode prog_13_method_74_code 17 = .ok (.getfield 201, 3) := by decide +kernel
theorem d_M_sync_20 : decode prog_13_method_74_code 20 = .ok (.aload_n 0, 1) := by decide +kernel
theorem d_M_sync_21 : decode prog_13_method_74_code 21 = .ok (.getfield 321, 3) := by decide +kernel
theorem d_M_sync_24 : decode prog_13_method_74_code 24 = .ok (.isub, 1) := by decide +kernel
theorem d_M_sync_25 : decode prog_13_method_74_code 25 = .ok (.istore_n 1, 1) := by decide +kernel
theorem d_M_sync_26 : decode prog_13_method_74_code 26 = .ok (.aload_n 0, 1) := by decide +kernel
theorem d_M_sync_27 : decode prog_13_method_74_code 27 = .ok (.getfield 98, 3) := by decide +kernel
theorem d_M_sync_30 : decode prog_13_method_74_code 30 = .ok (.ifCond .le 5, 3) := by decide +kernel
theorem d_M_sync_33 : decode prog_13_method_74_code 33 = .ok (.iconst 0, 1) := by decide +kernel
theorem d_M_sync_34 : decode prog_13_method_74_code 34 = .ok (.ireturn, 1) := by decide +kernel
set_option maxHeartbeats 4000000 in
set_option maxRecDepth 100000 in
theorem c_M_sync (l : Launch) (dC : Nat → ClassId) (dI : Nat → Nat → Nat) (hm sz : Nat) (t0 : Int32) (m5 m6 m8 m9 m10 m11 m12 m13 m14 m16 m17 m18 m19 m20 m21 m22 m23 m24 m26 m27 m28 m29 m32 m34 m35 m37 m38 m40 m41 : Value) : Met l y_M_sync w_M_sync ({ frames := 1, cells := 0, slots := 0, locals := 20 }) (tw_P4 (dC, dI) classes [(hm, .inr (7, [.int t0, .int 0, .int 0, .int 0, .int 0, m5, m6, .int 0, m8, m9, m10, m11, m12, m13, m14, .int 0, m16, m17, m18, m19, m20, m21, m22, m23, m24, .int 0, m26, m27, m28, m29, .int 0, .int 0, m32, .int 0, m34, m35, .int 0, m37, m38, .int 0, m40, m41]))] [] sz [.ref hm]) (va_Qi (fun (r : Int32) (u : Int32 × List Value) => u.1 = 1) (fun u => tw_B dC dI (va_A [(hm, .inr (7, [.int t0, .int 0, .int 0, .int 0, .int 0, m5, m6, .int 0, m8, m9, m10, m11, m12, m13, m14, .int 0, m16, m17, m18, m19, m20, m21, m22, m23, m24, .int 0, m26, m27, m28, m29, .int 0, .int 0, m32, .int 0, m34, m35, .int 0, m37, m38, .int 0, m40, m41]))] sz) [(hm, .inr (7, .int u.1 :: u.2))] []) (va_A [(hm, .inr (7, [.int t0, .int 0, .int 0, .int 0, .int 0, m5, m6, .int 0, m8, m9, m10, m11, m12, m13, m14, .int 0, m16, m17, m18, m19, m20, m21, m22, m23, m24, .int 0, m26, m27, m28, m29, .int 0, .int 0, m32, .int 0, m34, m35, .int 0, m37, m38, .int 0, m40, m41]))] sz)) 0 0 (va_A [(hm, .inr (7, [.int t0, .int 0, .int 0, .int 0, .int 0, m5, m6, .int 0, m8, m9, m10, m11, m12, m13, m14, .int 0, m16, m17, m18, m19, m20, m21, m22, m23, m24, .int 0, m26, m27, m28, m29, .int 0, .int 0, m32, .int 0, m34, m35, .int 0, m37, m38, .int 0, m40, m41]))] sz) := by
  refine Met.ofW (cc := prog_13_method_74_code) (maxL := 2) (ret := (some .int)) (by decide) rfl ?_
  intro p e s m args below meth c s₁ B hml hv
  obtain ⟨rfl, hsz, hP, hK, hD0⟩ := hv
  have hx := B.exec
  have hb := B.bytes
  have hr := B.returns
  have hts : ∀ w ∈ tw_G, w.before _ s = true := fun w h => atoms_spec (ws := w_M_sync) B.pre w (List.mem_cons_of_mem _ h)
  have hown : s.vm.findClass "LandBookModel" = some m.cls := findClass_of_methodNamed B.named
  have hlocks := B.notSynchronized
  subst hsz
  have hD := hD0.self (sz := s.heap.size)
  generalize hAe : va_A [(hm, .inr (7, [.int t0, .int 0, .int 0, .int 0, .int 0, m5, m6, .int 0, m8, m9, m10, m11, m12, m13, m14, .int 0, m16, m17, m18, m19, m20, m21, m22, m23, m24, .int 0, m26, m27, m28, m29, .int 0, .int 0, m32, .int 0, m34, m35, .int 0, m37, m38, .int 0, m40, m41]))] s.heap.size = A at hD ⊢
  have hA : ∀ q : Nat, s.heap.size ≤ q → A q := fun q h => by rw [← hAe]; exact Or.inr h
  have hS : va_S A s.heap s.heap [] := va_S.rf
  have hP : va_P (dC, dI) classes [(hm, .inr (7, [.int t0, .int 0, .int 0, .int 0, .int 0, m5, m6, .int 0, m8, m9, m10, m11, m12, m13, m14, .int 0, m16, m17, m18, m19, m20, m21, m22, m23, m24, .int 0, m26, m27, m28, m29, .int 0, .int 0, m32, .int 0, m34, m35, .int 0, m37, m38, .int 0, m40, m41]))] s.heap := hP
  have hl := lv_entry ([.ref hm]) (n := 2) (Nat.le_of_ble_eq_true rfl)
  rw [lg_entry_eq]
  generalize (lg_sl ([.ref hm]) ++ List.replicate (2 - (lg_sl ([.ref hm])).length) Slot.unset).toArray = ls at hl ⊢
  have hl : lv_has ls 2 [(0, .ref hm)] := hl
  refine lv_aload_n hx hb d_M_sync_0 rfl (lv_at hl 0 rfl) ?_
  refine lv_aload_n hx hb d_M_sync_1 rfl (lv_at hl 0 rfl) ?_
  refine vp_callSi (W.runV (As := []) (rest := [.ref hm]) ⟨hx, hb, hml, hown, hts⟩ (c_M_isUp l dC dI hm t0 m5 m6 m8 m9 m10 m11 m12 m13 m14 m16 m17 m18 m19 m20 m21 m22 m23 m24 m26 m27 m28 m29 m32 m34 m35 m37 m38 m40 m41) (cwV 0 hts (tw_gV tk_253 tk_254 tk_255 tk_249 tk_256) rfl rfl rfl (by decide +kernel) ⟨Nat.le_of_ble_eq_true rfl, Nat.le_of_ble_eq_true rfl⟩) (tw_v2 (va_recv (q0 := 0) hK hP rfl rfl) (hP.sub (ws' := [(hm, .inr (7, [.int t0, .int 0, .int 0, .int 0, .int 0, m5, m6, .int 0, m8, m9, m10, m11, m12, m13, m14, .int 0, m16, m17, m18, m19, m20, m21, m22, m23, m24, .int 0, m26, m27, m28, m29, .int 0, .int 0, m32, .int 0, m34, m35, .int 0, m37, m38, .int 0, m40, m41]))]) [0] rfl) (hK.sub (tys' := []) [] rfl)) rfl rfl hl.1 rfl (lv_room (Nat.le_of_ble_eq_true rfl)) d_M_sync_2 ⟨by show 0 ≤ 0; decide, by show 0 ≤ 0; decide⟩) (fun r1 e2 => ?_)
  have e2 := e2.symm
  subst e2
  refine lv_if_ne (tgt := 12) hx hb d_M_sync_5 (by decide) (fun h3 => absurd (by decide) h3) (fun h3 => ?_)
  refine lv_iconst (v := 1) hx hb d_M_sync_8 (by decide) ?_
  refine lv_goto (tgt := 13) hx hb d_M_sync_9 (by decide) ?_
  refine va_put (D := (dC, dI)) (ci := 7) (v := .int 1) (ty := .int) (C := "LandBookModel") (T := F_LandBookModel) (N := 42) hx hb hts tu_LandBookModel t_LandBookModel t_LandBookModel_ok n_LandBookModel hown hK hP hD hS 0 rfl rfl 0 (by decide) (hts _ tk_251) (fun _ h9 => h9) rfl (by decide +kernel) rfl rfl (Nat.le_of_ble_eq_true rfl) d_M_sync_13 (fun H locs hP hD hS => ?_)
  have hP : va_P (dC, dI) classes [(hm, .inr (7, [.int 1, .int 0, .int 0, .int 0, .int 0, m5, m6, .int 0, m8, m9, m10, m11, m12, m13, m14, .int 0, m16, m17, m18, m19, m20, m21, m22, m23, m24, .int 0, m26, m27, m28, m29, .int 0, .int 0, m32, .int 0, m34, m35, .int 0, m37, m38, .int 0, m40, m41]))] H := hP
  have hD : va_D A [(hm, .inr (7, [.int 1, .int 0, .int 0, .int 0, .int 0, m5, m6, .int 0, m8, m9, m10, m11, m12, m13, m14, .int 0, m16, m17, m18, m19, m20, m21, m22, m23, m24, .int 0, m26, m27, m28, m29, .int 0, .int 0, m32, .int 0, m34, m35, .int 0, m37, m38, .int 0, m40, m41]))] := hD
  refine lv_aload_n hx hb d_M_sync_16 rfl (lv_at hl 0 rfl) ?_
  refine va_get (D := (dC, dI)) (ci := 7) (v := .int 0) (C := "LandBookModel") (T := F_LandBookModel) (N := 42) hx hb hts tu_LandBookModel hown hK hP 0 rfl rfl 30 (by decide) (hts _ tk_270) (fun _ h9 => h9) rfl d_M_sync_17 ?_
  refine lv_aload_n hx hb d_M_sync_20 rfl (lv_at hl 0 rfl) ?_
  refine va_get (D := (dC, dI)) (ci := 7) (v := .int 0) (C := "LandBookModel") (T := F_LandBookModel) (N := 42) hx hb hts tu_LandBookModel hown hK hP 0 rfl rfl 31 (by decide) (hts _ tk_271) (fun _ h9 => h9) rfl d_M_sync_21 ?_
  refine lv_isub hx hb d_M_sync_24 ?_
  refine lv_istore_n (lv' := [(1, .int (0 - 0)), (0, .ref hm)]) hx hb d_M_sync_25 rfl hl (by decide) rfl (fun ls hl => ?_)
  refine lv_aload_n hx hb d_M_sync_26 rfl (lv_at hl 1 rfl) ?_
  refine va_get (D := (dC, dI)) (ci := 7) (v := .int 1) (C := "LandBookModel") (T := F_LandBookModel) (N := 42) hx hb hts tu_LandBookModel hown hK hP 0 rfl rfl 0 (by decide) (hts _ tk_251) (fun _ h9 => h9) rfl d_M_sync_27 ?_
  refine lv_if_le (tgt := 35) hx hb d_M_sync_30 (by decide) (fun h4 => absurd h4 (by decide)) (fun h4 => ?_)
  refine lv_iconst (v := 0) hx hb d_M_sync_33 (by decide) ?_
  have hP9 := hP.sub (ws' := [(hm, .inr (7, [.int 1, .int 0, .int 0, .int 0, .int 0, m5, m6, .int 0, m8, m9, m10, m11, m12, m13, m14, .int 0, m16, m17, m18, m19, m20, m21, m22, m23, m24, .int 0, m26, m27, m28, m29, .int 0, .int 0, m32, .int 0, m34, m35, .int 0, m37, m38, .int 0, m40, m41]))]) [0] rfl
  have hD9 := hD.sub (ws' := [(hm, .inr (7, [.int 1, .int 0, .int 0, .int 0, .int 0, m5, m6, .int 0, m8, m9, m10, m11, m12, m13, m14, .int 0, m16, m17, m18, m19, m20, m21, m22, m23, m24, .int 0, m26, m27, m28, m29, .int 0, .int 0, m32, .int 0, m34, m35, .int 0, m37, m38, .int 0, m40, m41]))]) [0] (by decide) rfl
  have hK9 := hK.sub (tys' := []) [] rfl
  refine W.widen (k := 0) (n := 0) (by decide) (by decide) ?_
  exact W.iret (v := 0) hx hb hr (fun t ht hW => ⟨⟨0, (1, [.int 0, .int 0, .int 0, .int 0, m5, m6, .int 0, m8, m9, m10, m11, m12, m13, m14, .int 0, m16, m17, m18, m19, m20, m21, m22, m23, m24, .int 0, m26, m27, m28, m29, .int 0, .int 0, m32, .int 0, m34, m35, .int 0, m37, m38, .int 0, m40, m41]), rfl, rfl, by rw [ht]; exact hP9, va_K.moved hW.alike hK9, hD9⟩, hS.F ht⟩) hS.2.2 d_M_sync_34
abbrev y_M_crash : MethodName := ⟨"LandBookModel", "crash", "(I)I"⟩
abbrev w_M_crash : List Cond := Cond.code y_M_crash prog_13_method_75_code 3 (some .int) :: tw_G
theorem d_M_crash_0 : decode prog_13_method_75_code 0 = .ok (.aload_n 0, 1) := by decide +kernel
theorem d_M_crash_1 : decode prog_13_method_75_code 1 = .ok (.aload_n 0, 1) := by decide +kernel
theorem d_M_crash_2 : decode prog_13_method_75_code 2 = .ok (.invokevirtual 264, 3) := by decide +kernel
theorem d_M_crash_5 : decode prog_13_method_75_code 5 = .ok (.ifCond .ne 7, 3) := by decide +kernel
theorem d_M_crash_8 : decode prog_13_method_75_code 8 = .ok (.iconst 1, 1) := by decide +kernel
theorem d_M_crash_9 : decode prog_13_method_75_code 9 = .ok (.goto 12, 3) := by decide +kernel
theorem d_M_crash_21 : decode prog_13_method_75_code 21 = .ok (.putfield 98, 3) := by decide +kernel
theorem d_M_crash_24 : decode prog_13_method_75_code 24 = .ok (.aload_n 0, 1) := by decide +kernel
theorem d_M_crash_25 : decode prog_13_method_75_code 25 = .ok (.getfield 98, 3) := by decide +kernel
theorem d_M_crash_28 : decode prog_13_method_75_code 28 = .ok (.ifCond .le 5, 3) := by decide +kernel
theorem d_M_crash_31 : decode prog_13_method_75_code 31 = .ok (.iconst 0, 1) := by decide +kernel
theorem d_M_crash_32 : decode prog_13_method_75_code 32 = .ok (.ireturn, 1) := by decide +kernel
set_option maxHeartbeats 4000000 in
set_option maxRecDepth 100000 in
theorem c_M_crash (l : Launch) (dC : Nat → ClassId) (dI : Nat → Nat → Nat) (hm sz : Nat) (t0 : Int32) (m5 m6 m8 m9 m10 m11 m12 m13 m14 m16 m17 m18 m19 m20 m21 m22 m23 m24 m26 m27 m28 m29 m32 m34 m35 m37 m38 m40 m41 : Value) (a0 : Int32) : Met l y_M_crash w_M_crash ({ frames := 1, cells := 0, slots := 0, locals := 20 }) (tw_P4 (dC, dI) classes [(hm, .inr (7, [.int t0, .int 0, .int 0, .int 0, .int 0, m5, m6, .int 0, m8, m9, m10, m11, m12, m13, m14, .int 0, m16, m17, m18, m19, m20, m21, m22, m23, m24, .int 0, m26, m27, m28, m29, .int 0, .int 0, m32, .int 0, m34, m35, .int 0, m37, m38, .int 0, m40, m41]))] [] sz [.ref hm, .int a0]) (va_Qi (fun (r : Int32) (u : Int32 × List Value) => u.1 = 1) (fun u => tw_B dC dI (va_A [(hm, .inr (7, [.int t0, .int 0, .int 0, .int 0, .int 0, m5, m6, .int 0, m8, m9, m10, m11, m12, m13, m14, .int 0, m16, m17, m18, m19, m20, m21, m22, m23, m24, .int 0, m26, m27, m28, m29, .int 0, .int 0, m32, .int 0, m34, m35, .int 0, m37, m38, .int 0, m40, m41]))] sz) [(hm, .inr (7, .int u.1 :: u.2))] []) (va_A [(hm, .inr (7, [.int t0, .int 0, .int 0, .int 0, .int 0, m5, m6, .int 0, m8, m9, m10, m11, m12, m13, m14, .int 0, m16, m17, m18, m19, m20, m21, m22, m23, m24, .int 0, m26, m27, m28, m29, .int 0, .int 0, m32, .int 0, m34, m35, .int 0, m37, m38, .int 0, m40, m41]))] sz)) 0 0 (va_A [(hm, .inr (7, [.int t0, .int 0, .int 0, .int 0, .int 0, m5, m6, .int 0, m8, m9, m10, m11, m12, m13, m14, .int 0, m16, m17, m18, m19, m20, m21, m22, m23, m24, .int 0, m26, m27, m28, m29, .int 0, .int 0, m32, .int 0, m34, m35, .int 0, m37, m38, .int 0, m40, m41]))] sz) := by
  refine Met.ofW (cc := prog_13_method_75_code) (maxL := 3) (ret := (some .int)) (by decide) rfl ?_
  intro p e s m args below meth c s₁ B hml hv
  obtain ⟨rfl, hsz, hP, hK, hD0⟩ := hv
  have hx := B.exec
  have hb := B.bytes
  have hr := B.returns
  have hts : ∀ w ∈ tw_G, w.before _ s = true := fun w h => atoms_spec (ws := w_M_crash) B.pre w (List.mem_cons_of_mem _ h)
  have hown : s.vm.findClass "LandBookModel" = some m.cls := findClass_of_methodNamed B.named
  have hlocks := B.notSynchronized
  subst hsz
  have hD := hD0.self (sz := s.heap.size)
  generalize hAe : va_A [(hm, .inr (7, [.int t0, .int 0, .int 0, .int 0, .int 0, m5, m6, .int 0, m8, m9, m10, m11, m12, m13, m14, .int 0, m16, m17, m18, m19, m20, m21, m22, m23, m24, .int 0, m26, m27, m28, m29, .int 0, .int 0, m32, .int 0, m34, m35, .int 0, m37, m38, .int 0, m40, m41]))] s.heap.size = A at hD ⊢
  have hA : ∀ q : Nat, s.heap.size ≤ q → A q := fun q h => by rw [← hAe]; exact Or.inr h
  have hS : va_S A s.heap s.heap [] := va_S.rf
  have hP : va_P (dC, dI) classes [(hm, .inr (7, [.int t0, .int 0, .int 0, .int 0, .int 0, m5, m6, .int 0, m8, m9, m10, m11, m12, m13, m14, .int 0, m16, m17, m18, m19, m20, m21, m22, m23, m24, .int 0, m26, m27, m28, m29, .int 0, .int 0, m32, .int 0, m34, m35, .int 0, m37, m38, .int 0, m40, m41]))] s.heap := hP
  have hl := lv_entry ([.ref hm, .int a0]) (n := 3) (Nat.le_of_ble_eq_true rfl)
  rw [lg_entry_eq]
  generalize (lg_sl ([.ref hm, .int a0]) ++ List.replicate (3 - (lg_sl ([.ref hm, .int a0])).length) Slot.unset).toArray = ls at hl ⊢
  have hl : lv_has ls 3 [(0, .ref hm), (1, .int a0)] := hl
  refine lv_aload_n hx hb d_M_crash_0 rfl (lv_at hl 0 rfl) ?_
  refine lv_aload_n hx hb d_M_crash_1 rfl (lv_at hl 0 rfl) ?_
  refine vp_callSi (W.runV (As := []) (rest := [.ref hm]) ⟨hx, hb, hml, hown, hts⟩ (c_M_isUp l dC dI hm t0 m5 m6 m8 m9 m10 m11 m12 m13 m14 m16 m17 m18 m19 m20 m21 m22 m23 m24 m26 m27 m28 m29 m32 m34 m35 m37 m38 m40 m41) (cwV 0 hts (tw_gV tk_253 tk_254 tk_255 tk_249 tk_256) rfl rfl rfl (by decide +kernel) ⟨Nat.le_of_ble_eq_true rfl, Nat.le_of_ble_eq_true rfl⟩) (tw_v2 (va_recv (q0 := 0) hK hP rfl rfl) (hP.sub (ws' := [(hm, .inr (7, [.int t0, .int 0, .int 0, .int 0, .int 0, m5, m6, .int 0, m8, m9, m10, m11, m12, m13, m14, .int 0, m16, m17, m18, m19, m20, m21, m22, m23, m24, .int 0, m26, m27, m28, m29, .int 0, .int 0, m32, .int 0, m34, m35, .int 0, m37, m38, .int 0, m40, m41]))]) [0] rfl) (hK.sub (tys' := []) [] rfl)) rfl rfl hl.1 rfl (lv_room (Nat.le_of_ble_eq_true rfl)) d_M_crash_2 ⟨by show 0 ≤ 0; decide, by show 0 ≤ 0; decide⟩) (fun r1 e2 => ?_)
  have e2 := e2.symm
  subst e2
  refine lv_if_ne (tgt := 12) hx hb d_M_crash_5 (by decide) (fun h3 => absurd (by decide) h3) (fun h3 => ?_)
  refine lv_iconst (v := 1) hx hb d_M_crash_8 (by decide) ?_
  refine lv_goto (tgt := 21) hx hb d_M_crash_9 (by decide) ?_
  refine va_put (D := (dC, dI)) (ci := 7) (v := .int 1) (ty := .int) (C := "LandBookModel") (T := F_LandBookModel) (N := 42) hx hb hts tu_LandBookModel t_LandBookModel t_LandBookModel_ok n_LandBookModel hown hK hP hD hS 0 rfl rfl 0 (by decide) (hts _ tk_251) (fun _ h9 => h9) rfl (by decide +kernel) rfl rfl (Nat.le_of_ble_eq_true rfl) d_M_crash_21 (fun H locs hP hD hS => ?_)
  have hP : va_P (dC, dI) classes [(hm, .inr (7, [.int 1, .int 0, .int 0, .int 0, .int 0, m5, m6, .int 0, m8, m9, m10, m11, m12, m13, m14, .int 0, m16, m17, m18, m19, m20, m21, m22, m23, m24, .int 0, m26, m27, m28, m29, .int 0, .int 0, m32, .int 0, m34, m35, .int 0, m37, m38, .int 0, m40, m41]))] H := hP
  have hD : va_D A [(hm, .inr (7, [.int 1, .int 0, .int 0, .int 0, .int 0, m5, m6, .int 0, m8, m9, m10, m11, m12, m13, m14, .int 0, m16, m17, m18, m19, m20, m21, m22, m23, m24, .int 0, m26, m27, m28, m29, .int 0, .int 0, m32, .int 0, m34, m35, .int 0, m37, m38, .int 0, m40, m41]))] := hD
  refine lv_aload_n hx hb d_M_crash_24 rfl (lv_at hl 0 rfl) ?_
  refine va_get (D := (dC, dI)) (ci := 7) (v := .int 1) (C := "LandBookModel") (T := F_LandBookModel) (N := 42) hx hb hts tu_LandBookModel hown hK hP 0 rfl rfl 0 (by decide) (hts _ tk_251) (fun _ h9 => h9) rfl d_M_crash_25 ?_
  refine lv_if_le (tgt := 33) hx hb d_M_crash_28 (by decide) (fun h4 => absurd h4 (by decide)) (fun h4 => ?_)
  refine lv_iconst (v := 0) hx hb d_M_crash_31 (by decide) ?_
  have hP9 := hP.sub (ws' := [(hm, .inr (7, [.int 1, .int 0, .int 0, .int 0, .int 0, m5, m6, .int 0, m8, m9, m10, m11, m12, m13, m14, .int 0, m16, m17, m18, m19, m20, m21, m22, m23, m24, .int 0, m26, m27, m28, m29, .int 0, .int 0, m32, .int 0, m34, m35, .int 0, m37, m38, .int 0, m40, m41]))]) [0] rfl
  have hD9 := hD.sub (ws' := [(hm, .inr (7, [.int 1, .int 0, .int 0, .int 0, .int 0, m5, m6, .int 0, m8, m9, m10, m11, m12, m13, m14, .int 0, m16, m17, m18, m19, m20, m21, m22, m23, m24, .int 0, m26, m27, m28, m29, .int 0, .int 0, m32, .int 0, m34, m35, .int 0, m37, m38, .int 0, m40, m41]))]) [0] (by decide) rfl
  have hK9 := hK.sub (tys' := []) [] rfl
  refine W.widen (k := 0) (n := 0) (by decide) (by decide) ?_
  exact W.iret (v := 0) hx hb hr (fun t ht hW => ⟨⟨0, (1, [.int 0, .int 0, .int 0, .int 0, m5, m6, .int 0, m8, m9, m10, m11, m12, m13, m14, .int 0, m16, m17, m18, m19, m20, m21, m22, m23, m24, .int 0, m26, m27, m28, m29, .int 0, .int 0, m32, .int 0, m34, m35, .int 0, m37, m38, .int 0, m40, m41]), rfl, rfl, by rw [ht]; exact hP9, va_K.moved hW.alike hK9, hD9⟩, hS.F ht⟩) hS.2.2 d_M_crash_32
abbrev y_M_mount : MethodName := ⟨"LandBookModel", "mount", "()I"⟩
abbrev w_M_mount : List Cond := Cond.code y_M_mount prog_13_method_76_code 3 (some .int) :: tw_G
theorem d_M_mount_0 : decode prog_13_method_76_code 0 = .ok (.aload_n 0, 1) := by decide +kernel
theorem d_M_mount_1 : decode prog_13_method_76_code 1 = .ok (.aload_n 0, 1) := by decide +kernel
theorem d_M_mount_2 : decode prog_13_method_76_code 2 = .ok (.getfield 152, 3) := by decide +kernel
theorem d_M_mount_5 : decode prog_13_method_76_code 5 = .ok (.ifCond .ne 7, 3) := by decide +kernel
theorem d_M_mount_8 : decode prog_13_method_76_code 8 = .ok (.iconst 1, 1) := by decide +kernel
theorem d_M_mount_9 : decode prog_13_method_76_code 9 = .ok (.goto 17, 3) := by decide +kernel
theorem d_M_mount_26 : decode prog_13_method_76_code 26 = .ok (.putfield 98, 3) := by decide +kernel
theorem d_M_mount_29 : decode prog_13_method_76_code 29 = .ok (.aload_n 0, 1) := by decide +kernel
theorem d_M_mount_30 : decode prog_13_method_76_code 30 = .ok (.getfield 98, 3) := by decide +kernel
theorem d_M_mount_33 : decode prog_13_method_76_code 33 = .ok (.ifCond .le 5, 3) := by decide +kernel
theorem d_M_mount_36 : decode prog_13_method_76_code 36 = .ok (.iconst 0, 1) := by decide +kernel
theorem d_M_mount_37 : decode prog_13_method_76_code 37 = .ok (.ireturn, 1) := by decide +kernel
set_option maxHeartbeats 4000000 in
set_option maxRecDepth 100000 in
theorem c_M_mount (l : Launch) (dC : Nat → ClassId) (dI : Nat → Nat → Nat) (hm sz : Nat) (t0 : Int32) (m5 m6 m8 m9 m10 m11 m12 m13 m14 m16 m17 m18 m19 m20 m21 m22 m23 m24 m26 m27 m28 m29 m32 m34 m35 m37 m38 m40 m41 : Value) : Met l y_M_mount w_M_mount ({ frames := 0, cells := 0, slots := 0, locals := 0 }) (tw_P4 (dC, dI) classes [(hm, .inr (7, [.int t0, .int 0, .int 0, .int 0, .int 0, m5, m6, .int 0, m8, m9, m10, m11, m12, m13, m14, .int 0, m16, m17, m18, m19, m20, m21, m22, m23, m24, .int 0, m26, m27, m28, m29, .int 0, .int 0, m32, .int 0, m34, m35, .int 0, m37, m38, .int 0, m40, m41]))] [] sz [.ref hm]) (va_Qi (fun (r : Int32) (u : Int32 × List Value) => u.1 = 1) (fun u => tw_B dC dI (va_A [(hm, .inr (7, [.int t0, .int 0, .int 0, .int 0, .int 0, m5, m6, .int 0, m8, m9, m10, m11, m12, m13, m14, .int 0, m16, m17, m18, m19, m20, m21, m22, m23, m24, .int 0, m26, m27, m28, m29, .int 0, .int 0, m32, .int 0, m34, m35, .int 0, m37, m38, .int 0, m40, m41]))] sz) [(hm, .inr (7, .int u.1 :: u.2))] []) (va_A [(hm, .inr (7, [.int t0, .int 0, .int 0, .int 0, .int 0, m5, m6, .int 0, m8, m9, m10, m11, m12, m13, m14, .int 0, m16, m17, m18, m19, m20, m21, m22, m23, m24, .int 0, m26, m27, m28, m29, .int 0, .int 0, m32, .int 0, m34, m35, .int 0, m37, m38, .int 0, m40, m41]))] sz)) 0 0 (va_A [(hm, .inr (7, [.int t0, .int 0, .int 0, .int 0, .int 0, m5, m6, .int 0, m8, m9, m10, m11, m12, m13, m14, .int 0, m16, m17, m18, m19, m20, m21, m22, m23, m24, .int 0, m26, m27, m28, m29, .int 0, .int 0, m32, .int 0, m34, m35, .int 0, m37, m38, .int 0, m40, m41]))] sz) := by
  refine Met.ofW (cc := prog_13_method_76_code) (maxL := 3) (ret := (some .int)) (by decide) rfl ?_
  intro p e s m args below meth c s₁ B hml hv
  obtain ⟨rfl, hsz, hP, hK, hD0⟩ := hv
  have hx := B.exec
  have hb := B.bytes
  have hr := B.returns
  have hts : ∀ w ∈ tw_G, w.before _ s = true := fun w h => atoms_spec (ws := w_M_mount) B.pre w (List.mem_cons_of_mem _ h)
  have hown : s.vm.findClass "LandBookModel" = some m.cls := findClass_of_methodNamed B.named
  have hlocks := B.notSynchronized
  subst hsz
  have hD := hD0.self (sz := s.heap.size)
  generalize hAe : va_A [(hm, .inr (7, [.int t0, .int 0, .int 0, .int 0, .int 0, m5, m6, .int 0, m8, m9, m10, m11, m12, m13, m14, .int 0, m16, m17, m18, m19, m20, m21, m22, m23, m24, .int 0, m26, m27, m28, m29, .int 0, .int 0, m32, .int 0, m34, m35, .int 0, m37, m38, .int 0, m40, m41]))] s.heap.size = A at hD ⊢
  have hA : ∀ q : Nat, s.heap.size ≤ q → A q := fun q h => by rw [← hAe]; exact Or.inr h
  have hS : va_S A s.heap s.heap [] := va_S.rf
  have hP : va_P (dC, dI) classes [(hm, .inr (7, [.int t0, .int 0, .int 0, .int 0, .int 0, m5, m6, .int 0, m8, m9, m10, m11, m12, m13, m14, .int 0, m16, m17, m18, m19, m20, m21, m22, m23, m24, .int 0, m26, m27, m28, m29, .int 0, .int 0, m32, .int 0, m34, m35, .int 0, m37, m38, .int 0, m40, m41]))] s.heap := hP
  have hl := lv_entry ([.ref hm]) (n := 3) (Nat.le_of_ble_eq_true rfl)
  rw [lg_entry_eq]
  generalize (lg_sl ([.ref hm]) ++ List.replicate (3 - (lg_sl ([.ref hm])).length) Slot.unset).toArray = ls at hl ⊢
  have hl : lv_has ls 3 [(0, .ref hm)] := hl
  refine lv_aload_n hx hb d_M_mount_0 rfl (lv_at hl 0 rfl) ?_
  refine lv_aload_n hx hb d_M_mount_1 rfl (lv_at hl 0 rfl) ?_
  refine va_get (D := (dC, dI)) (ci := 7) (v := .int 0) (C := "LandBookModel") (T := F_LandBookModel) (N := 42) hx hb hts tu_LandBookModel hown hK hP 0 rfl rfl 1 (by decide) (hts _ tk_252) (fun _ h9 => h9) rfl d_M_mount_2 ?_
  refine lv_if_ne (tgt := 12) hx hb d_M_mount_5 (by decide) (fun h1 => absurd (by decide) h1) (fun h1 => ?_)
  refine lv_iconst (v := 1) hx hb d_M_mount_8 (by decide) ?_
  refine lv_goto (tgt := 26) hx hb d_M_mount_9 (by decide) ?_
  refine va_put (D := (dC, dI)) (ci := 7) (v := .int 1) (ty := .int) (C := "LandBookModel") (T := F_LandBookModel) (N := 42) hx hb hts tu_LandBookModel t_LandBookModel t_LandBookModel_ok n_LandBookModel hown hK hP hD hS 0 rfl rfl 0 (by decide) (hts _ tk_251) (fun _ h9 => h9) rfl (by decide +kernel) rfl rfl (Nat.le_of_ble_eq_true rfl) d_M_mount_26 (fun H locs hP hD hS => ?_)
  have hP : va_P (dC, dI) classes [(hm, .inr (7, [.int 1, .int 0, .int 0, .int 0, .int 0, m5, m6, .int 0, m8, m9, m10, m11, m12, m13, m14, .int 0, m16, m17, m18, m19, m20, m21, m22, m23, m24, .int 0, m26, m27, m28, m29, .int 0, .int 0, m32, .int 0, m34, m35, .int 0, m37, m38, .int 0, m40, m41]))] H := hP
  have hD : va_D A [(hm, .inr (7, [.int 1, .int 0, .int 0, .int 0, .int 0, m5, m6, .int 0, m8, m9, m10, m11, m12, m13, m14, .int 0, m16, m17, m18, m19, m20, m21, m22, m23, m24, .int 0, m26, m27, m28, m29, .int 0, .int 0, m32, .int 0, m34, m35, .int 0, m37, m38, .int 0, m40, m41]))] := hD
  refine lv_aload_n hx hb d_M_mount_29 rfl (lv_at hl 0 rfl) ?_
  refine va_get (D := (dC, dI)) (ci := 7) (v := .int 1) (C := "LandBookModel") (T := F_LandBookModel) (N := 42) hx hb hts tu_LandBookModel hown hK hP 0 rfl rfl 0 (by decide) (hts _ tk_251) (fun _ h9 => h9) rfl d_M_mount_30 ?_
  refine lv_if_le (tgt := 38) hx hb d_M_mount_33 (by decide) (fun h2 => absurd h2 (by decide)) (fun h2 => ?_)
  refine lv_iconst (v := 0) hx hb d_M_mount_36 (by decide) ?_
  have hP9 := hP.sub (ws' := [(hm, .inr (7, [.int 1, .int 0, .int 0, .int 0, .int 0, m5, m6, .int 0, m8, m9, m10, m11, m12, m13, m14, .int 0, m16, m17, m18, m19, m20, m21, m22, m23, m24, .int 0, m26, m27, m28, m29, .int 0, .int 0, m32, .int 0, m34, m35, .int 0, m37, m38, .int 0, m40, m41]))]) [0] rfl
  have hD9 := hD.sub (ws' := [(hm, .inr (7, [.int 1, .int 0, .int 0, .int 0, .int 0, m5, m6, .int 0, m8, m9, m10, m11, m12, m13, m14, .int 0, m16, m17, m18, m19, m20, m21, m22, m23, m24, .int 0, m26, m27, m28, m29, .int 0, .int 0, m32, .int 0, m34, m35, .int 0, m37, m38, .int 0, m40, m41]))]) [0] (by decide) rfl
  have hK9 := hK.sub (tys' := []) [] rfl
  refine W.widen (k := 0) (n := 0) (by decide) (by decide) ?_
  exact W.iret (v := 0) hx hb hr (fun t ht hW => ⟨⟨0, (1, [.int 0, .int 0, .int 0, .int 0, m5, m6, .int 0, m8, m9, m10, m11, m12, m13, m14, .int 0, m16, m17, m18, m19, m20, m21, m22, m23, m24, .int 0, m26, m27, m28, m29, .int 0, .int 0, m32, .int 0, m34, m35, .int 0, m37, m38, .int 0, m40, m41]), rfl, rfl, by rw [ht]; exact hP9, va_K.moved hW.alike hK9, hD9⟩, hS.F ht⟩) hS.2.2 d_M_mount_37
abbrev y_M_word : MethodName := ⟨"LandBookModel", "word", "(I)I"⟩
abbrev w_M_word : List Cond := Cond.code y_M_word prog_13_method_73_code 2 (some .int) :: tw_G
theorem d_M_word_0 : decode prog_13_method_73_code 0 = .ok (.aload_n 0, 1) := by decide +kernel
theorem d_M_word_1 : decode prog_13_method_73_code 1 = .ok (.iload_n 1, 1) := by decide +kernel
theorem d_M_word_2 : decode prog_13_method_73_code 2 = .ok (.ifCond .lt 11, 3) := by decide +kernel
theorem d_M_word_13 : decode prog_13_method_73_code 13 = .ok (.iconst 1, 1) := by decide +kernel
theorem d_M_word_14 : decode prog_13_method_73_code 14 = .ok (.goto 4, 3) := by decide +kernel
theorem d_M_word_18 : decode prog_13_method_73_code 18 = .ok (.putfield 98, 3) := by decide +kernel
theorem d_M_word_21 : decode prog_13_method_73_code 21 = .ok (.aload_n 0, 1) := by decide +kernel
theorem d_M_word_22 : decode prog_13_method_73_code 22 = .ok (.getfield 98, 3) := by decide +kernel
theorem d_M_word_25 : decode prog_13_method_73_code 25 = .ok (.ifCond .le 7, 3) := by decide +kernel
theorem d_M_word_28 : decode prog_13_method_73_code 28 = .ok (.iconst 0, 1) := by decide +kernel
theorem d_M_word_29 : decode prog_13_method_73_code 29 = .ok (.goto 9, 3) := by decide +kernel
theorem d_M_word_38 : decode prog_13_method_73_code 38 = .ok (.ireturn, 1) := by decide +kernel
theorem d_M_word_5 : decode prog_13_method_73_code 5 = .ok (.iload_n 1, 1) := by decide +kernel
theorem d_M_word_6 : decode prog_13_method_73_code 6 = .ok (.aload_n 0, 1) := by decide +kernel
theorem d_M_word_7 : decode prog_13_method_73_code 7 = .ok (.getfield 201, 3) := by decide +kernel
theorem d_M_word_10 : decode prog_13_method_73_code 10 = .ok (.if_icmp .lt 7, 3) := by decide +kernel
set_option maxHeartbeats 4000000 in
set_option maxRecDepth 100000 in
theorem c_M_word (l : Launch) (dC : Nat → ClassId) (dI : Nat → Nat → Nat) (hm sz : Nat) (t0 : Int32) (m5 m6 m8 m9 m10 m11 m12 m13 m14 m16 m17 m18 m19 m20 m21 m22 m23 m24 m26 m27 m28 m29 m32 m34 m35 m37 m38 m40 m41 : Value) (a0 : Int32) : Met l y_M_word w_M_word ({ frames := 0, cells := 0, slots := 0, locals := 0 }) (tw_P4 (dC, dI) classes [(hm, .inr (7, [.int t0, .int 0, .int 0, .int 0, .int 0, m5, m6, .int 0, m8, m9, m10, m11, m12, m13, m14, .int 0, m16, m17, m18, m19, m20, m21, m22, m23, m24, .int 0, m26, m27, m28, m29, .int 0, .int 0, m32, .int 0, m34, m35, .int 0, m37, m38, .int 0, m40, m41]))] [] sz [.ref hm, .int a0]) (va_Qi (fun (r : Int32) (u : Int32 × List Value) => u.1 = 1) (fun u => tw_B dC dI (va_A [(hm, .inr (7, [.int t0, .int 0, .int 0, .int 0, .int 0, m5, m6, .int 0, m8, m9, m10, m11, m12, m13, m14, .int 0, m16, m17, m18, m19, m20, m21, m22, m23, m24, .int 0, m26, m27, m28, m29, .int 0, .int 0, m32, .int 0, m34, m35, .int 0, m37, m38, .int 0, m40, m41]))] sz) [(hm, .inr (7, .int u.1 :: u.2))] []) (va_A [(hm, .inr (7, [.int t0, .int 0, .int 0, .int 0, .int 0, m5, m6, .int 0, m8, m9, m10, m11, m12, m13, m14, .int 0, m16, m17, m18, m19, m20, m21, m22, m23, m24, .int 0, m26, m27, m28, m29, .int 0, .int 0, m32, .int 0, m34, m35, .int 0, m37, m38, .int 0, m40, m41]))] sz)) 0 0 (va_A [(hm, .inr (7, [.int t0, .int 0, .int 0, .int 0, .int 0, m5, m6, .int 0, m8, m9, m10, m11, m12, m13, m14, .int 0, m16, m17, m18, m19, m20, m21, m22, m23, m24, .int 0, m26, m27, m28, m29, .int 0, .int 0, m32, .int 0, m34, m35, .int 0, m37, m38, .int 0, m40, m41]))] sz) := by
  refine Met.ofW (cc := prog_13_method_73_code) (maxL := 2) (ret := (some .int)) (by decide) rfl ?_
  intro p e s m args below meth c s₁ B hml hv
  obtain ⟨rfl, hsz, hP, hK, hD0⟩ := hv
  have hx := B.exec
  have hb := B.bytes
  have hr := B.returns
  have hts : ∀ w ∈ tw_G, w.before _ s = true := fun w h => atoms_spec (ws := w_M_word) B.pre w (List.mem_cons_of_mem _ h)
  have hown : s.vm.findClass "LandBookModel" = some m.cls := findClass_of_methodNamed B.named
  have hlocks := B.notSynchronized
  subst hsz
  have hD := hD0.self (sz := s.heap.size)
  generalize hAe : va_A [(hm, .inr (7, [.int t0, .int 0, .int 0, .int 0, .int 0, m5, m6, .int 0, m8, m9, m10, m11, m12, m13, m14, .int 0, m16, m17, m18, m19, m20, m21, m22, m23, m24, .int 0, m26, m27, m28, m29, .int 0, .int 0, m32, .int 0, m34, m35, .int 0, m37, m38, .int 0, m40, m41]))] s.heap.size = A at hD ⊢
  have hA : ∀ q : Nat, s.heap.size ≤ q → A q := fun q h => by rw [← hAe]; exact Or.inr h
  have hS : va_S A s.heap s.heap [] := va_S.rf
  have hP : va_P (dC, dI) classes [(hm, .inr (7, [.int t0, .int 0, .int 0, .int 0, .int 0, m5, m6, .int 0, m8, m9, m10, m11, m12, m13, m14, .int 0, m16, m17, m18, m19, m20, m21, m22, m23, m24, .int 0, m26, m27, m28, m29, .int 0, .int 0, m32, .int 0, m34, m35, .int 0, m37, m38, .int 0, m40, m41]))] s.heap := hP
  have hl := lv_entry ([.ref hm, .int a0]) (n := 2) (Nat.le_of_ble_eq_true rfl)
  rw [lg_entry_eq]
  generalize (lg_sl ([.ref hm, .int a0]) ++ List.replicate (2 - (lg_sl ([.ref hm, .int a0])).length) Slot.unset).toArray = ls at hl ⊢
  have hl : lv_has ls 2 [(0, .ref hm), (1, .int a0)] := hl
  refine lv_aload_n hx hb d_M_word_0 rfl (lv_at hl 0 rfl) ?_
  refine lv_iload_n hx hb d_M_word_1 rfl (lv_at hl 1 rfl) ?_
  refine lv_if_lt (tgt := 13) hx hb d_M_word_2 (by decide) (fun h1 => ?_) (fun h1 => ?_)
  · refine lv_iconst (v := 1) hx hb d_M_word_13 (by decide) ?_
    refine lv_goto (tgt := 18) hx hb d_M_word_14 (by decide) ?_
    refine va_put (D := (dC, dI)) (ci := 7) (v := .int 1) (ty := .int) (C := "LandBookModel") (T := F_LandBookModel) (N := 42) hx hb hts tu_LandBookModel t_LandBookModel t_LandBookModel_ok n_LandBookModel hown hK hP hD hS 0 rfl rfl 0 (by decide) (hts _ tk_251) (fun _ h9 => h9) rfl (by decide +kernel) rfl rfl (Nat.le_of_ble_eq_true rfl) d_M_word_18 (fun H locs hP hD hS => ?_)
    have hP : va_P (dC, dI) classes [(hm, .inr (7, [.int 1, .int 0, .int 0, .int 0, .int 0, m5, m6, .int 0, m8, m9, m10, m11, m12, m13, m14, .int 0, m16, m17, m18, m19, m20, m21, m22, m23, m24, .int 0, m26, m27, m28, m29, .int 0, .int 0, m32, .int 0, m34, m35, .int 0, m37, m38, .int 0, m40, m41]))] H := hP
    have hD : va_D A [(hm, .inr (7, [.int 1, .int 0, .int 0, .int 0, .int 0, m5, m6, .int 0, m8, m9, m10, m11, m12, m13, m14, .int 0, m16, m17, m18, m19, m20, m21, m22, m23, m24, .int 0, m26, m27, m28, m29, .int 0, .int 0, m32, .int 0, m34, m35, .int 0, m37, m38, .int 0, m40, m41]))] := hD
    refine lv_aload_n hx hb d_M_word_21 rfl (lv_at hl 0 rfl) ?_
    refine va_get (D := (dC, dI)) (ci := 7) (v := .int 1) (C := "LandBookModel") (T := F_LandBookModel) (N := 42) hx hb hts tu_LandBookModel hown hK hP 0 rfl rfl 0 (by decide) (hts _ tk_251) (fun _ h9 => h9) rfl d_M_word_22 ?_
    refine lv_if_le (tgt := 32) hx hb d_M_word_25 (by decide) (fun h2 => absurd h2 (by decide)) (fun h2 => ?_)
    refine lv_iconst (v := 0) hx hb d_M_word_28 (by decide) ?_
    refine lv_goto (tgt := 38) hx hb d_M_word_29 (by decide) ?_
    have hP9 := hP.sub (ws' := [(hm, .inr (7, [.int 1, .int 0, .int 0, .int 0, .int 0, m5, m6, .int 0, m8, m9, m10, m11, m12, m13, m14, .int 0, m16, m17, m18, m19, m20, m21, m22, m23, m24, .int 0, m26, m27, m28, m29, .int 0, .int 0, m32, .int 0, m34, m35, .int 0, m37, m38, .int 0, m40, m41]))]) [0] rfl
    have hD9 := hD.sub (ws' := [(hm, .inr (7, [.int 1, .int 0, .int 0, .int 0, .int 0, m5, m6, .int 0, m8, m9, m10, m11, m12, m13, m14, .int 0, m16, m17, m18, m19, m20, m21, m22, m23, m24, .int 0, m26, m27, m28, m29, .int 0, .int 0, m32, .int 0, m34, m35, .int 0, m37, m38, .int 0, m40, m41]))]) [0] (by decide) rfl
    have hK9 := hK.sub (tys' := []) [] rfl
    refine W.widen (k := 0) (n := 0) (by decide) (by decide) ?_
    exact W.iret (v := 0) hx hb hr (fun t ht hW => ⟨⟨0, (1, [.int 0, .int 0, .int 0, .int 0, m5, m6, .int 0, m8, m9, m10, m11, m12, m13, m14, .int 0, m16, m17, m18, m19, m20, m21, m22, m23, m24, .int 0, m26, m27, m28, m29, .int 0, .int 0, m32, .int 0, m34, m35, .int 0, m37, m38, .int 0, m40, m41]), rfl, rfl, by rw [ht]; exact hP9, va_K.moved hW.alike hK9, hD9⟩, hS.F ht⟩) hS.2.2 d_M_word_38
  · refine lv_iload_n hx hb d_M_word_5 rfl (lv_at hl 1 rfl) ?_
    refine lv_aload_n hx hb d_M_word_6 rfl (lv_at hl 0 rfl) ?_
    refine va_get (D := (dC, dI)) (ci := 7) (v := .int 0) (C := "LandBookModel") (T := F_LandBookModel) (N := 42) hx hb hts tu_LandBookModel hown hK hP 0 rfl rfl 30 (by decide) (hts _ tk_270) (fun _ h9 => h9) rfl d_M_word_7 ?_
    refine lv_icmp_lt (tgt := 17) hx hb d_M_word_10 (by decide) (fun h3 => (absurd h3 h1)) (fun h3 => ?_)
    refine lv_iconst (v := 1) hx hb d_M_word_13 (by decide) ?_
    refine lv_goto (tgt := 18) hx hb d_M_word_14 (by decide) ?_
    refine va_put (D := (dC, dI)) (ci := 7) (v := .int 1) (ty := .int) (C := "LandBookModel") (T := F_LandBookModel) (N := 42) hx hb hts tu_LandBookModel t_LandBookModel t_LandBookModel_ok n_LandBookModel hown hK hP hD hS 0 rfl rfl 0 (by decide) (hts _ tk_251) (fun _ h9 => h9) rfl (by decide +kernel) rfl rfl (Nat.le_of_ble_eq_true rfl) d_M_word_18 (fun H locs hP hD hS => ?_)
    have hP : va_P (dC, dI) classes [(hm, .inr (7, [.int 1, .int 0, .int 0, .int 0, .int 0, m5, m6, .int 0, m8, m9, m10, m11, m12, m13, m14, .int 0, m16, m17, m18, m19, m20, m21, m22, m23, m24, .int 0, m26, m27, m28, m29, .int 0, .int 0, m32, .int 0, m34, m35, .int 0, m37, m38, .int 0, m40, m41]))] H := hP
    have hD : va_D A [(hm, .inr (7, [.int 1, .int 0, .int 0, .int 0, .int 0, m5, m6, .int 0, m8, m9, m10, m11, m12, m13, m14, .int 0, m16, m17, m18, m19, m20, m21, m22, m23, m24, .int 0, m26, m27, m28, m29, .int 0, .int 0, m32, .int 0, m34, m35, .int 0, m37, m38, .int 0, m40, m41]))] := hD
    refine lv_aload_n hx hb d_M_word_21 rfl (lv_at hl 0 rfl) ?_
    refine va_get (D := (dC, dI)) (ci := 7) (v := .int 1) (C := "LandBookModel") (T := F_LandBookModel) (N := 42) hx hb hts tu_LandBookModel hown hK hP 0 rfl rfl 0 (by decide) (hts _ tk_251) (fun _ h9 => h9) rfl d_M_word_22 ?_
    refine lv_if_le (tgt := 32) hx hb d_M_word_25 (by decide) (fun h4 => absurd h4 (by decide)) (fun h4 => ?_)
    refine lv_iconst (v := 0) hx hb d_M_word_28 (by decide) ?_
    refine lv_goto (tgt := 38) hx hb d_M_word_29 (by decide) ?_
    have hP9 := hP.sub (ws' := [(hm, .inr (7, [.int 1, .int 0, .int 0, .int 0, .int 0, m5, m6, .int 0, m8, m9, m10, m11, m12, m13, m14, .int 0, m16, m17, m18, m19, m20, m21, m22, m23, m24, .int 0, m26, m27, m28, m29, .int 0, .int 0, m32, .int 0, m34, m35, .int 0, m37, m38, .int 0, m40, m41]))]) [0] rfl
    have hD9 := hD.sub (ws' := [(hm, .inr (7, [.int 1, .int 0, .int 0, .int 0, .int 0, m5, m6, .int 0, m8, m9, m10, m11, m12, m13, m14, .int 0, m16, m17, m18, m19, m20, m21, m22, m23, m24, .int 0, m26, m27, m28, m29, .int 0, .int 0, m32, .int 0, m34, m35, .int 0, m37, m38, .int 0, m40, m41]))]) [0] (by decide) rfl
    have hK9 := hK.sub (tys' := []) [] rfl
    refine W.widen (k := 0) (n := 0) (by decide) (by decide) ?_
    exact W.iret (v := 0) hx hb hr (fun t ht hW => ⟨⟨0, (1, [.int 0, .int 0, .int 0, .int 0, m5, m6, .int 0, m8, m9, m10, m11, m12, m13, m14, .int 0, m16, m17, m18, m19, m20, m21, m22, m23, m24, .int 0, m26, m27, m28, m29, .int 0, .int 0, m32, .int 0, m34, m35, .int 0, m37, m38, .int 0, m40, m41]), rfl, rfl, by rw [ht]; exact hP9, va_K.moved hW.alike hK9, hD9⟩, hS.F ht⟩) hS.2.2 d_M_word_38
theorem tk_272 : (Jvm.Cond.fieldLink "LandBookModel" (192 : Nat) "LandBookModel" "deeds" "I") ∈ tw_G := tw_in (List.mem_of_getElem? (i := 1061) (by decide +kernel)) rfl
theorem tk_273 : (Jvm.Cond.fieldLink "LandBookModel" (198 : Nat) "LandBookModel" "easements" "I") ∈ tw_G := tw_in (List.mem_of_getElem? (i := 1071) (by decide +kernel)) rfl
abbrev y_M_many : MethodName := ⟨"LandBookModel", "many", "(I)I"⟩
abbrev w_M_many : List Cond := Cond.code y_M_many prog_13_method_72_code 2 (some .int) :: tw_G
theorem d_M_many_0 : decode prog_13_method_72_code 0 = .ok (.aload_n 0, 1) := by decide +kernel
theorem d_M_many_1 : decode prog_13_method_72_code 1 = .ok (.iload_n 1, 1) := by decide +kernel
theorem d_M_many_2 : decode prog_13_method_72_code 2 = .ok (.ifCond .lt 8, 3) := by decide +kernel
theorem d_M_many_10 : decode prog_13_method_72_code 10 = .ok (.iconst 1, 1) := by decide +kernel
theorem d_M_many_11 : decode prog_13_method_72_code 11 = .ok (.goto 4, 3) := by decide +kernel
theorem d_M_many_15 : decode prog_13_method_72_code 15 = .ok (.putfield 98, 3) := by decide +kernel
theorem d_M_many_18 : decode prog_13_method_72_code 18 = .ok (.iload_n 1, 1) := by decide +kernel
theorem d_M_many_19 : decode prog_13_method_72_code 19 = .ok (.tableswitch 58 0 4 #[33, 38, 43, 48, 53], 33) := by decide +kernel
theorem d_M_many_52 : decode prog_13_method_72_code 52 = .ok (.aload_n 0, 1) := by decide +kernel
theorem d_M_many_53 : decode prog_13_method_72_code 53 = .ok (.getfield 173, 3) := by decide +kernel
theorem d_M_many_56 : decode prog_13_method_72_code 56 = .ok (.ireturn, 1) := by decide +kernel
theorem d_M_many_57 : decode prog_13_method_72_code 57 = .ok (.aload_n 0, 1) := by decide +kernel
theorem d_M_many_58 : decode prog_13_method_72_code 58 = .ok (.getfield 192, 3) := by decide +kernel
theorem d_M_many_61 : decode prog_13_method_72_code 61 = .ok (.ireturn, 1) := by decide +kernel
theorem d_M_many_62 : decode prog_13_method_72_code 62 = .ok (.aload_n 0, 1) := by decide +kernel
theorem d_M_many_63 : decode prog_13_method_72_code 63 = .ok (.getfield 198, 3) := by decide +kernel
theorem d_M_many_66 : decode prog_13_method_72_code 66 = .ok (.ireturn, 1) := by decide +kernel
theorem d_M_many_67 : decode prog_13_method_72_code 67 = .ok (.aload_n 0, 1) := by decide +kernel
theorem d_M_many_68 : decode prog_13_method_72_code 68 = .ok (.getfield 201, 3) := by decide +kernel
theorem d_M_many_71 : decode prog_13_method_72_code 71 = .ok (.ireturn, 1) := by decide +kernel
theorem d_M_many_72 : decode prog_13_method_72_code 72 = .ok (.aload_n 0, 1) := by decide +kernel
theorem d_M_many_73 : decode prog_13_method_72_code 73 = .ok (.getfield 321, 3) := by decide +kernel
theorem d_M_many_76 : decode prog_13_method_72_code 76 = .ok (.ireturn, 1) := by decide +kernel
theorem d_M_many_77 : decode prog_13_method_72_code 77 = .ok (.iconst 0, 1) := by decide +kernel
theorem d_M_many_78 : decode prog_13_method_72_code 78 = .ok (.ireturn, 1) := by decide +kernel
theorem d_M_many_5 : decode prog_13_method_72_code 5 = .ok (.iload_n 1, 1) := by decide +kernel
theorem d_M_many_6 : decode prog_13_method_72_code 6 = .ok (.iconst 4, 1) := by decide +kernel
theorem d_M_many_7 : decode prog_13_method_72_code 7 = .ok (.if_icmp .le 7, 3) := by decide +kernel
theorem d_M_many_14 : decode prog_13_method_72_code 14 = .ok (.iconst 0, 1) := by decide +kernel
set_option maxHeartbeats 4000000 in
set_option maxRecDepth 100000 in
theorem c_M_many (l : Launch) (dC : Nat → ClassId) (dI : Nat → Nat → Nat) (hm sz : Nat) (t0 : Int32) (m5 m6 m8 m9 m10 m11 m12 m13 m14 m16 m17 m18 m19 m20 m21 m22 m23 m24 m26 m27 m28 m29 m32 m34 m35 m37 m38 m40 m41 : Value) (a0 : Int32) : Met l y_M_many w_M_many ({ frames := 0, cells := 0, slots := 0, locals := 0 }) (tw_P4 (dC, dI) classes [(hm, .inr (7, [.int t0, .int 0, .int 0, .int 0, .int 0, m5, m6, .int 0, m8, m9, m10, m11, m12, m13, m14, .int 0, m16, m17, m18, m19, m20, m21, m22, m23, m24, .int 0, m26, m27, m28, m29, .int 0, .int 0, m32, .int 0, m34, m35, .int 0, m37, m38, .int 0, m40, m41]))] [] sz [.ref hm, .int a0]) (va_Qi (fun (r : Int32) (u : Int32 × List Value) => ((¬ a0 < 0 ∧ a0 ≤ 4) ∧ r = 0 ∧ u.1 = 0) ∨ (¬ (¬ a0 < 0 ∧ a0 ≤ 4) ∧ u.1 = 1)) (fun u => tw_B dC dI (va_A [(hm, .inr (7, [.int t0, .int 0, .int 0, .int 0, .int 0, m5, m6, .int 0, m8, m9, m10, m11, m12, m13, m14, .int 0, m16, m17, m18, m19, m20, m21, m22, m23, m24, .int 0, m26, m27, m28, m29, .int 0, .int 0, m32, .int 0, m34, m35, .int 0, m37, m38, .int 0, m40, m41]))] sz) [(hm, .inr (7, .int u.1 :: u.2))] []) (va_A [(hm, .inr (7, [.int t0, .int 0, .int 0, .int 0, .int 0, m5, m6, .int 0, m8, m9, m10, m11, m12, m13, m14, .int 0, m16, m17, m18, m19, m20, m21, m22, m23, m24, .int 0, m26, m27, m28, m29, .int 0, .int 0, m32, .int 0, m34, m35, .int 0, m37, m38, .int 0, m40, m41]))] sz)) 0 0 (va_A [(hm, .inr (7, [.int t0, .int 0, .int 0, .int 0, .int 0, m5, m6, .int 0, m8, m9, m10, m11, m12, m13, m14, .int 0, m16, m17, m18, m19, m20, m21, m22, m23, m24, .int 0, m26, m27, m28, m29, .int 0, .int 0, m32, .int 0, m34, m35, .int 0, m37, m38, .int 0, m40, m41]))] sz) := by
  refine Met.ofW (cc := prog_13_method_72_code) (maxL := 2) (ret := (some .int)) (by decide) rfl ?_
  intro p e s m args below meth c s₁ B hml hv
  obtain ⟨rfl, hsz, hP, hK, hD0⟩ := hv
  have hx := B.exec
  have hb := B.bytes
  have hr := B.returns
  have hts : ∀ w ∈ tw_G, w.before _ s = true := fun w h => atoms_spec (ws := w_M_many) B.pre w (List.mem_cons_of_mem _ h)
  have hown : s.vm.findClass "LandBookModel" = some m.cls := findClass_of_methodNamed B.named
  have hlocks := B.notSynchronized
  subst hsz
  have hD := hD0.self (sz := s.heap.size)
  generalize hAe : va_A [(hm, .inr (7, [.int t0, .int 0, .int 0, .int 0, .int 0, m5, m6, .int 0, m8, m9, m10, m11, m12, m13, m14, .int 0, m16, m17, m18, m19, m20, m21, m22, m23, m24, .int 0, m26, m27, m28, m29, .int 0, .int 0, m32, .int 0, m34, m35, .int 0, m37, m38, .int 0, m40, m41]))] s.heap.size = A at hD ⊢
  have hA : ∀ q : Nat, s.heap.size ≤ q → A q := fun q h => by rw [← hAe]; exact Or.inr h
  have hS : va_S A s.heap s.heap [] := va_S.rf
  have hP : va_P (dC, dI) classes [(hm, .inr (7, [.int t0, .int 0, .int 0, .int 0, .int 0, m5, m6, .int 0, m8, m9, m10, m11, m12, m13, m14, .int 0, m16, m17, m18, m19, m20, m21, m22, m23, m24, .int 0, m26, m27, m28, m29, .int 0, .int 0, m32, .int 0, m34, m35, .int 0, m37, m38, .int 0, m40, m41]))] s.heap := hP
  have hl := lv_entry ([.ref hm, .int a0]) (n := 2) (Nat.le_of_ble_eq_true rfl)
  rw [lg_entry_eq]
  generalize (lg_sl ([.ref hm, .int a0]) ++ List.replicate (2 - (lg_sl ([.ref hm, .int a0])).length) Slot.unset).toArray = ls at hl ⊢
  have hl : lv_has ls 2 [(0, .ref hm), (1, .int a0)] := hl
  refine lv_aload_n hx hb d_M_many_0 rfl (lv_at hl 0 rfl) ?_
  refine lv_iload_n hx hb d_M_many_1 rfl (lv_at hl 1 rfl) ?_
  refine lv_if_lt (tgt := 10) hx hb d_M_many_2 (by decide) (fun h1 => ?_) (fun h1 => ?_)
  · refine lv_iconst (v := 1) hx hb d_M_many_10 (by decide) ?_
    refine lv_goto (tgt := 15) hx hb d_M_many_11 (by decide) ?_
    refine va_put (D := (dC, dI)) (ci := 7) (v := .int 1) (ty := .int) (C := "LandBookModel") (T := F_LandBookModel) (N := 42) hx hb hts tu_LandBookModel t_LandBookModel t_LandBookModel_ok n_LandBookModel hown hK hP hD hS 0 rfl rfl 0 (by decide) (hts _ tk_251) (fun _ h9 => h9) rfl (by decide +kernel) rfl rfl (Nat.le_of_ble_eq_true rfl) d_M_many_15 (fun H locs hP hD hS => ?_)
    have hP : va_P (dC, dI) classes [(hm, .inr (7, [.int 1, .int 0, .int 0, .int 0, .int 0, m5, m6, .int 0, m8, m9, m10, m11, m12, m13, m14, .int 0, m16, m17, m18, m19, m20, m21, m22, m23, m24, .int 0, m26, m27, m28, m29, .int 0, .int 0, m32, .int 0, m34, m35, .int 0, m37, m38, .int 0, m40, m41]))] H := hP
    have hD : va_D A [(hm, .inr (7, [.int 1, .int 0, .int 0, .int 0, .int 0, m5, m6, .int 0, m8, m9, m10, m11, m12, m13, m14, .int 0, m16, m17, m18, m19, m20, m21, m22, m23, m24, .int 0, m26, m27, m28, m29, .int 0, .int 0, m32, .int 0, m34, m35, .int 0, m37, m38, .int 0, m40, m41]))] := hD
    refine lv_iload_n hx hb d_M_many_18 rfl (lv_at hl 1 rfl) ?_
    rcases tw_m5 a0 with rfl | rfl | rfl | rfl | rfl | ⟨g, g9⟩
    · refine lv_tableIn (off := 33) (tgt := 52) hx hb d_M_many_19 (by decide) (by decide) (by decide) (by decide) ?_
      refine lv_aload_n hx hb d_M_many_52 rfl (lv_at hl 0 rfl) ?_
      refine va_get (D := (dC, dI)) (ci := 7) (v := .int 0) (C := "LandBookModel") (T := F_LandBookModel) (N := 42) hx hb hts tu_LandBookModel hown hK hP 0 rfl rfl 7 (by decide) (hts _ tk_265) (fun _ h9 => h9) rfl d_M_many_53 ?_
      have hP9 := hP.sub (ws' := [(hm, .inr (7, [.int 1, .int 0, .int 0, .int 0, .int 0, m5, m6, .int 0, m8, m9, m10, m11, m12, m13, m14, .int 0, m16, m17, m18, m19, m20, m21, m22, m23, m24, .int 0, m26, m27, m28, m29, .int 0, .int 0, m32, .int 0, m34, m35, .int 0, m37, m38, .int 0, m40, m41]))]) [0] rfl
      have hD9 := hD.sub (ws' := [(hm, .inr (7, [.int 1, .int 0, .int 0, .int 0, .int 0, m5, m6, .int 0, m8, m9, m10, m11, m12, m13, m14, .int 0, m16, m17, m18, m19, m20, m21, m22, m23, m24, .int 0, m26, m27, m28, m29, .int 0, .int 0, m32, .int 0, m34, m35, .int 0, m37, m38, .int 0, m40, m41]))]) [0] (by decide) rfl
      have hK9 := hK.sub (tys' := []) [] rfl
      refine W.widen (k := 0) (n := 0) (by decide) (by decide) ?_
      exact W.iret (v := 0) hx hb hr (fun t ht hW => ⟨⟨0, (1, [.int 0, .int 0, .int 0, .int 0, m5, m6, .int 0, m8, m9, m10, m11, m12, m13, m14, .int 0, m16, m17, m18, m19, m20, m21, m22, m23, m24, .int 0, m26, m27, m28, m29, .int 0, .int 0, m32, .int 0, m34, m35, .int 0, m37, m38, .int 0, m40, m41]), rfl, Or.inr ⟨fun o => o.1 h1, rfl⟩, by rw [ht]; exact hP9, va_K.moved hW.alike hK9, hD9⟩, hS.F ht⟩) hS.2.2 d_M_many_56
    · refine lv_tableIn (off := 38) (tgt := 57) hx hb d_M_many_19 (by decide) (by decide) (by decide) (by decide) ?_
      refine lv_aload_n hx hb d_M_many_57 rfl (lv_at hl 0 rfl) ?_
      refine va_get (D := (dC, dI)) (ci := 7) (v := .int 0) (C := "LandBookModel") (T := F_LandBookModel) (N := 42) hx hb hts tu_LandBookModel hown hK hP 0 rfl rfl 15 (by decide) (hts _ tk_272) (fun _ h9 => h9) rfl d_M_many_58 ?_
      have hP9 := hP.sub (ws' := [(hm, .inr (7, [.int 1, .int 0, .int 0, .int 0, .int 0, m5, m6, .int 0, m8, m9, m10, m11, m12, m13, m14, .int 0, m16, m17, m18, m19, m20, m21, m22, m23, m24, .int 0, m26, m27, m28, m29, .int 0, .int 0, m32, .int 0, m34, m35, .int 0, m37, m38, .int 0, m40, m41]))]) [0] rfl
      have hD9 := hD.sub (ws' := [(hm, .inr (7, [.int 1, .int 0, .int 0, .int 0, .int 0, m5, m6, .int 0, m8, m9, m10, m11, m12, m13, m14, .int 0, m16, m17, m18, m19, m20, m21, m22, m23, m24, .int 0, m26, m27, m28, m29, .int 0, .int 0, m32, .int 0, m34, m35, .int 0, m37, m38, .int 0, m40, m41]))]) [0] (by decide) rfl
      have hK9 := hK.sub (tys' := []) [] rfl
      refine W.widen (k := 0) (n := 0) (by decide) (by decide) ?_
      exact W.iret (v := 0) hx hb hr (fun t ht hW => ⟨⟨0, (1, [.int 0, .int 0, .int 0, .int 0, m5, m6, .int 0, m8, m9, m10, m11, m12, m13, m14, .int 0, m16, m17, m18, m19, m20, m21, m22, m23, m24, .int 0, m26, m27, m28, m29, .int 0, .int 0, m32, .int 0, m34, m35, .int 0, m37, m38, .int 0, m40, m41]), rfl, Or.inr ⟨fun o => o.1 h1, rfl⟩, by rw [ht]; exact hP9, va_K.moved hW.alike hK9, hD9⟩, hS.F ht⟩) hS.2.2 d_M_many_61
    · refine lv_tableIn (off := 43) (tgt := 62) hx hb d_M_many_19 (by decide) (by decide) (by decide) (by decide) ?_
      refine lv_aload_n hx hb d_M_many_62 rfl (lv_at hl 0 rfl) ?_
      refine va_get (D := (dC, dI)) (ci := 7) (v := .int 0) (C := "LandBookModel") (T := F_LandBookModel) (N := 42) hx hb hts tu_LandBookModel hown hK hP 0 rfl rfl 25 (by decide) (hts _ tk_273) (fun _ h9 => h9) rfl d_M_many_63 ?_
      have hP9 := hP.sub (ws' := [(hm, .inr (7, [.int 1, .int 0, .int 0, .int 0, .int 0, m5, m6, .int 0, m8, m9, m10, m11, m12, m13, m14, .int 0, m16, m17, m18, m19, m20, m21, m22, m23, m24, .int 0, m26, m27, m28, m29, .int 0, .int 0, m32, .int 0, m34, m35, .int 0, m37, m38, .int 0, m40, m41]))]) [0] rfl
      have hD9 := hD.sub (ws' := [(hm, .inr (7, [.int 1, .int 0, .int 0, .int 0, .int 0, m5, m6, .int 0, m8, m9, m10, m11, m12, m13, m14, .int 0, m16, m17, m18, m19, m20, m21, m22, m23, m24, .int 0, m26, m27, m28, m29, .int 0, .int 0, m32, .int 0, m34, m35, .int 0, m37, m38, .int 0, m40, m41]))]) [0] (by decide) rfl
      have hK9 := hK.sub (tys' := []) [] rfl
      refine W.widen (k := 0) (n := 0) (by decide) (by decide) ?_
      exact W.iret (v := 0) hx hb hr (fun t ht hW => ⟨⟨0, (1, [.int 0, .int 0, .int 0, .int 0, m5, m6, .int 0, m8, m9, m10, m11, m12, m13, m14, .int 0, m16, m17, m18, m19, m20, m21, m22, m23, m24, .int 0, m26, m27, m28, m29, .int 0, .int 0, m32, .int 0, m34, m35, .int 0, m37, m38, .int 0, m40, m41]), rfl, Or.inr ⟨fun o => o.1 h1, rfl⟩, by rw [ht]; exact hP9, va_K.moved hW.alike hK9, hD9⟩, hS.F ht⟩) hS.2.2 d_M_many_66
    · refine lv_tableIn (off := 48) (tgt := 67) hx hb d_M_many_19 (by decide) (by decide) (by decide) (by decide) ?_
      refine lv_aload_n hx hb d_M_many_67 rfl (lv_at hl 0 rfl) ?_
      refine va_get (D := (dC, dI)) (ci := 7) (v := .int 0) (C := "LandBookModel") (T := F_LandBookModel) (N := 42) hx hb hts tu_LandBookModel hown hK hP 0 rfl rfl 30 (by decide) (hts _ tk_270) (fun _ h9 => h9) rfl d_M_many_68 ?_
      have hP9 := hP.sub (ws' := [(hm, .inr (7, [.int 1, .int 0, .int 0, .int 0, .int 0, m5, m6, .int 0, m8, m9, m10, m11, m12, m13, m14, .int 0, m16, m17, m18, m19, m20, m21, m22, m23, m24, .int 0, m26, m27, m28, m29, .int 0, .int 0, m32, .int 0, m34, m35, .int 0, m37, m38, .int 0, m40, m41]))]) [0] rfl
      have hD9 := hD.sub (ws' := [(hm, .inr (7, [.int 1, .int 0, .int 0, .int 0, .int 0, m5, m6, .int 0, m8, m9, m10, m11, m12, m13, m14, .int 0, m16, m17, m18, m19, m20, m21, m22, m23, m24, .int 0, m26, m27, m28, m29, .int 0, .int 0, m32, .int 0, m34, m35, .int 0, m37, m38, .int 0, m40, m41]))]) [0] (by decide) rfl
      have hK9 := hK.sub (tys' := []) [] rfl
      refine W.widen (k := 0) (n := 0) (by decide) (by decide) ?_
      exact W.iret (v := 0) hx hb hr (fun t ht hW => ⟨⟨0, (1, [.int 0, .int 0, .int 0, .int 0, m5, m6, .int 0, m8, m9, m10, m11, m12, m13, m14, .int 0, m16, m17, m18, m19, m20, m21, m22, m23, m24, .int 0, m26, m27, m28, m29, .int 0, .int 0, m32, .int 0, m34, m35, .int 0, m37, m38, .int 0, m40, m41]), rfl, Or.inr ⟨fun o => o.1 h1, rfl⟩, by rw [ht]; exact hP9, va_K.moved hW.alike hK9, hD9⟩, hS.F ht⟩) hS.2.2 d_M_many_71
    · refine lv_tableIn (off := 53) (tgt := 72) hx hb d_M_many_19 (by decide) (by decide) (by decide) (by decide) ?_
      refine lv_aload_n hx hb d_M_many_72 rfl (lv_at hl 0 rfl) ?_
      refine va_get (D := (dC, dI)) (ci := 7) (v := .int 0) (C := "LandBookModel") (T := F_LandBookModel) (N := 42) hx hb hts tu_LandBookModel hown hK hP 0 rfl rfl 31 (by decide) (hts _ tk_271) (fun _ h9 => h9) rfl d_M_many_73 ?_
      have hP9 := hP.sub (ws' := [(hm, .inr (7, [.int 1, .int 0, .int 0, .int 0, .int 0, m5, m6, .int 0, m8, m9, m10, m11, m12, m13, m14, .int 0, m16, m17, m18, m19, m20, m21, m22, m23, m24, .int 0, m26, m27, m28, m29, .int 0, .int 0, m32, .int 0, m34, m35, .int 0, m37, m38, .int 0, m40, m41]))]) [0] rfl
      have hD9 := hD.sub (ws' := [(hm, .inr (7, [.int 1, .int 0, .int 0, .int 0, .int 0, m5, m6, .int 0, m8, m9, m10, m11, m12, m13, m14, .int 0, m16, m17, m18, m19, m20, m21, m22, m23, m24, .int 0, m26, m27, m28, m29, .int 0, .int 0, m32, .int 0, m34, m35, .int 0, m37, m38, .int 0, m40, m41]))]) [0] (by decide) rfl
      have hK9 := hK.sub (tys' := []) [] rfl
      refine W.widen (k := 0) (n := 0) (by decide) (by decide) ?_
      exact W.iret (v := 0) hx hb hr (fun t ht hW => ⟨⟨0, (1, [.int 0, .int 0, .int 0, .int 0, m5, m6, .int 0, m8, m9, m10, m11, m12, m13, m14, .int 0, m16, m17, m18, m19, m20, m21, m22, m23, m24, .int 0, m26, m27, m28, m29, .int 0, .int 0, m32, .int 0, m34, m35, .int 0, m37, m38, .int 0, m40, m41]), rfl, Or.inr ⟨fun o => o.1 h1, rfl⟩, by rw [ht]; exact hP9, va_K.moved hW.alike hK9, hD9⟩, hS.F ht⟩) hS.2.2 d_M_many_76
    · refine lv_tableOut (tgt := 77) hx hb d_M_many_19 g (by decide) ?_
      refine lv_iconst (v := 0) hx hb d_M_many_77 (by decide) ?_
      have hP9 := hP.sub (ws' := [(hm, .inr (7, [.int 1, .int 0, .int 0, .int 0, .int 0, m5, m6, .int 0, m8, m9, m10, m11, m12, m13, m14, .int 0, m16, m17, m18, m19, m20, m21, m22, m23, m24, .int 0, m26, m27, m28, m29, .int 0, .int 0, m32, .int 0, m34, m35, .int 0, m37, m38, .int 0, m40, m41]))]) [0] rfl
      have hD9 := hD.sub (ws' := [(hm, .inr (7, [.int 1, .int 0, .int 0, .int 0, .int 0, m5, m6, .int 0, m8, m9, m10, m11, m12, m13, m14, .int 0, m16, m17, m18, m19, m20, m21, m22, m23, m24, .int 0, m26, m27, m28, m29, .int 0, .int 0, m32, .int 0, m34, m35, .int 0, m37, m38, .int 0, m40, m41]))]) [0] (by decide) rfl
      have hK9 := hK.sub (tys' := []) [] rfl
      refine W.widen (k := 0) (n := 0) (by decide) (by decide) ?_
      exact W.iret (v := 0) hx hb hr (fun t ht hW => ⟨⟨0, (1, [.int 0, .int 0, .int 0, .int 0, m5, m6, .int 0, m8, m9, m10, m11, m12, m13, m14, .int 0, m16, m17, m18, m19, m20, m21, m22, m23, m24, .int 0, m26, m27, m28, m29, .int 0, .int 0, m32, .int 0, m34, m35, .int 0, m37, m38, .int 0, m40, m41]), rfl, Or.inr ⟨fun o => o.1 h1, rfl⟩, by rw [ht]; exact hP9, va_K.moved hW.alike hK9, hD9⟩, hS.F ht⟩) hS.2.2 d_M_many_78
  · refine lv_iload_n hx hb d_M_many_5 rfl (lv_at hl 1 rfl) ?_
    refine lv_iconst (v := 4) hx hb d_M_many_6 (by decide) ?_
    refine lv_icmp_le (tgt := 14) hx hb d_M_many_7 (by decide) (fun h2 => ?_) (fun h2 => ?_)
    · refine lv_iconst (v := 0) hx hb d_M_many_14 (by decide) ?_
      refine va_put (D := (dC, dI)) (ci := 7) (v := .int 0) (ty := .int) (C := "LandBookModel") (T := F_LandBookModel) (N := 42) hx hb hts tu_LandBookModel t_LandBookModel t_LandBookModel_ok n_LandBookModel hown hK hP hD hS 0 rfl rfl 0 (by decide) (hts _ tk_251) (fun _ h9 => h9) rfl (by decide +kernel) rfl rfl (Nat.le_of_ble_eq_true rfl) d_M_many_15 (fun H locs hP hD hS => ?_)
      have hP : va_P (dC, dI) classes [(hm, .inr (7, [.int 0, .int 0, .int 0, .int 0, .int 0, m5, m6, .int 0, m8, m9, m10, m11, m12, m13, m14, .int 0, m16, m17, m18, m19, m20, m21, m22, m23, m24, .int 0, m26, m27, m28, m29, .int 0, .int 0, m32, .int 0, m34, m35, .int 0, m37, m38, .int 0, m40, m41]))] H := hP
      have hD : va_D A [(hm, .inr (7, [.int 0, .int 0, .int 0, .int 0, .int 0, m5, m6, .int 0, m8, m9, m10, m11, m12, m13, m14, .int 0, m16, m17, m18, m19, m20, m21, m22, m23, m24, .int 0, m26, m27, m28, m29, .int 0, .int 0, m32, .int 0, m34, m35, .int 0, m37, m38, .int 0, m40, m41]))] := hD
      refine lv_iload_n hx hb d_M_many_18 rfl (lv_at hl 1 rfl) ?_
      rcases tw_m5 a0 with rfl | rfl | rfl | rfl | rfl | ⟨g, g9⟩
      · refine lv_tableIn (off := 33) (tgt := 52) hx hb d_M_many_19 (by decide) (by decide) (by decide) (by decide) ?_
        refine lv_aload_n hx hb d_M_many_52 rfl (lv_at hl 0 rfl) ?_
        refine va_get (D := (dC, dI)) (ci := 7) (v := .int 0) (C := "LandBookModel") (T := F_LandBookModel) (N := 42) hx hb hts tu_LandBookModel hown hK hP 0 rfl rfl 7 (by decide) (hts _ tk_265) (fun _ h9 => h9) rfl d_M_many_53 ?_
        have hP9 := hP.sub (ws' := [(hm, .inr (7, [.int 0, .int 0, .int 0, .int 0, .int 0, m5, m6, .int 0, m8, m9, m10, m11, m12, m13, m14, .int 0, m16, m17, m18, m19, m20, m21, m22, m23, m24, .int 0, m26, m27, m28, m29, .int 0, .int 0, m32, .int 0, m34, m35, .int 0, m37, m38, .int 0, m40, m41]))]) [0] rfl
        have hD9 := hD.sub (ws' := [(hm, .inr (7, [.int 0, .int 0, .int 0, .int 0, .int 0, m5, m6, .int 0, m8, m9, m10, m11, m12, m13, m14, .int 0, m16, m17, m18, m19, m20, m21, m22, m23, m24, .int 0, m26, m27, m28, m29, .int 0, .int 0, m32, .int 0, m34, m35, .int 0, m37, m38, .int 0, m40, m41]))]) [0] (by decide) rfl
        have hK9 := hK.sub (tys' := []) [] rfl
        refine W.widen (k := 0) (n := 0) (by decide) (by decide) ?_
        exact W.iret (v := 0) hx hb hr (fun t ht hW => ⟨⟨0, (0, [.int 0, .int 0, .int 0, .int 0, m5, m6, .int 0, m8, m9, m10, m11, m12, m13, m14, .int 0, m16, m17, m18, m19, m20, m21, m22, m23, m24, .int 0, m26, m27, m28, m29, .int 0, .int 0, m32, .int 0, m34, m35, .int 0, m37, m38, .int 0, m40, m41]), rfl, Or.inl ⟨⟨h1, h2⟩, rfl, rfl⟩, by rw [ht]; exact hP9, va_K.moved hW.alike hK9, hD9⟩, hS.F ht⟩) hS.2.2 d_M_many_56
      · refine lv_tableIn (off := 38) (tgt := 57) hx hb d_M_many_19 (by decide) (by decide) (by decide) (by decide) ?_
        refine lv_aload_n hx hb d_M_many_57 rfl (lv_at hl 0 rfl) ?_
        refine va_get (D := (dC, dI)) (ci := 7) (v := .int 0) (C := "LandBookModel") (T := F_LandBookModel) (N := 42) hx hb hts tu_LandBookModel hown hK hP 0 rfl rfl 15 (by decide) (hts _ tk_272) (fun _ h9 => h9) rfl d_M_many_58 ?_
        have hP9 := hP.sub (ws' := [(hm, .inr (7, [.int 0, .int 0, .int 0, .int 0, .int 0, m5, m6, .int 0, m8, m9, m10, m11, m12, m13, m14, .int 0, m16, m17, m18, m19, m20, m21, m22, m23, m24, .int 0, m26, m27, m28, m29, .int 0, .int 0, m32, .int 0, m34, m35, .int 0, m37, m38, .int 0, m40, m41]))]) [0] rfl
        have hD9 := hD.sub (ws' := [(hm, .inr (7, [.int 0, .int 0, .int 0, .int 0, .int 0, m5, m6, .int 0, m8, m9, m10, m11, m12, m13, m14, .int 0, m16, m17, m18, m19, m20, m21, m22, m23, m24, .int 0, m26, m27, m28, m29, .int 0, .int 0, m32, .int 0, m34, m35, .int 0, m37, m38, .int 0, m40, m41]))]) [0] (by decide) rfl
        have hK9 := hK.sub (tys' := []) [] rfl
        refine W.widen (k := 0) (n := 0) (by decide) (by decide) ?_
        exact W.iret (v := 0) hx hb hr (fun t ht hW => ⟨⟨0, (0, [.int 0, .int 0, .int 0, .int 0, m5, m6, .int 0, m8, m9, m10, m11, m12, m13, m14, .int 0, m16, m17, m18, m19, m20, m21, m22, m23, m24, .int 0, m26, m27, m28, m29, .int 0, .int 0, m32, .int 0, m34, m35, .int 0, m37, m38, .int 0, m40, m41]), rfl, Or.inl ⟨⟨h1, h2⟩, rfl, rfl⟩, by rw [ht]; exact hP9, va_K.moved hW.alike hK9, hD9⟩, hS.F ht⟩) hS.2.2 d_M_many_61
      · refine lv_tableIn (off := 43) (tgt := 62) hx hb d_M_many_19 (by decide) (by decide) (by decide) (by decide) ?_
        refine lv_aload_n hx hb d_M_many_62 rfl (lv_at hl 0 rfl) ?_
        refine va_get (D := (dC, dI)) (ci := 7) (v := .int 0) (C := "LandBookModel") (T := F_LandBookModel) (N := 42) hx hb hts tu_LandBookModel hown hK hP 0 rfl rfl 25 (by decide) (hts _ tk_273) (fun _ h9 => h9) rfl d_M_many_63 ?_
        have hP9 := hP.sub (ws' := [(hm, .inr (7, [.int 0, .int 0, .int 0, .int 0, .int 0, m5, m6, .int 0, m8, m9, m10, m11, m12, m13, m14, .int 0, m16, m17, m18, m19, m20, m21, m22, m23, m24, .int 0, m26, m27, m28, m29, .int 0, .int 0, m32, .int 0, m34, m35, .int 0, m37, m38, .int 0, m40, m41]))]) [0] rfl
        have hD9 := hD.sub (ws' := [(hm, .inr (7, [.int 0, .int 0, .int 0, .int 0, .int 0, m5, m6, .int 0, m8, m9, m10, m11, m12, m13, m14, .int 0, m16, m17, m18, m19, m20, m21, m22, m23, m24, .int 0, m26, m27, m28, m29, .int 0, .int 0, m32, .int 0, m34, m35, .int 0, m37, m38, .int 0, m40, m41]))]) [0] (by decide) rfl
        have hK9 := hK.sub (tys' := []) [] rfl
        refine W.widen (k := 0) (n := 0) (by decide) (by decide) ?_
        exact W.iret (v := 0) hx hb hr (fun t ht hW => ⟨⟨0, (0, [.int 0, .int 0, .int 0, .int 0, m5, m6, .int 0, m8, m9, m10, m11, m12, m13, m14, .int 0, m16, m17, m18, m19, m20, m21, m22, m23, m24, .int 0, m26, m27, m28, m29, .int 0, .int 0, m32, .int 0, m34, m35, .int 0, m37, m38, .int 0, m40, m41]), rfl, Or.inl ⟨⟨h1, h2⟩, rfl, rfl⟩, by rw [ht]; exact hP9, va_K.moved hW.alike hK9, hD9⟩, hS.F ht⟩) hS.2.2 d_M_many_66
      · refine lv_tableIn (off := 48) (tgt := 67) hx hb d_M_many_19 (by decide) (by decide) (by decide) (by decide) ?_
        refine lv_aload_n hx hb d_M_many_67 rfl (lv_at hl 0 rfl) ?_
        refine va_get (D := (dC, dI)) (ci := 7) (v := .int 0) (C := "LandBookModel") (T := F_LandBookModel) (N := 42) hx hb hts tu_LandBookModel hown hK hP 0 rfl rfl 30 (by decide) (hts _ tk_270) (fun _ h9 => h9) rfl d_M_many_68 ?_
        have hP9 := hP.sub (ws' := [(hm, .inr (7, [.int 0, .int 0, .int 0, .int 0, .int 0, m5, m6, .int 0, m8, m9, m10, m11, m12, m13, m14, .int 0, m16, m17, m18, m19, m20, m21, m22, m23, m24, .int 0, m26, m27, m28, m29, .int 0, .int 0, m32, .int 0, m34, m35, .int 0, m37, m38, .int 0, m40, m41]))]) [0] rfl
        have hD9 := hD.sub (ws' := [(hm, .inr (7, [.int 0, .int 0, .int 0, .int 0, .int 0, m5, m6, .int 0, m8, m9, m10, m11, m12, m13, m14, .int 0, m16, m17, m18, m19, m20, m21, m22, m23, m24, .int 0, m26, m27, m28, m29, .int 0, .int 0, m32, .int 0, m34, m35, .int 0, m37, m38, .int 0, m40, m41]))]) [0] (by decide) rfl
        have hK9 := hK.sub (tys' := []) [] rfl
        refine W.widen (k := 0) (n := 0) (by decide) (by decide) ?_
        exact W.iret (v := 0) hx hb hr (fun t ht hW => ⟨⟨0, (0, [.int 0, .int 0, .int 0, .int 0, m5, m6, .int 0, m8, m9, m10, m11, m12, m13, m14, .int 0, m16, m17, m18, m19, m20, m21, m22, m23, m24, .int 0, m26, m27, m28, m29, .int 0, .int 0, m32, .int 0, m34, m35, .int 0, m37, m38, .int 0, m40, m41]), rfl, Or.inl ⟨⟨h1, h2⟩, rfl, rfl⟩, by rw [ht]; exact hP9, va_K.moved hW.alike hK9, hD9⟩, hS.F ht⟩) hS.2.2 d_M_many_71
      · refine lv_tableIn (off := 53) (tgt := 72) hx hb d_M_many_19 (by decide) (by decide) (by decide) (by decide) ?_
        refine lv_aload_n hx hb d_M_many_72 rfl (lv_at hl 0 rfl) ?_
        refine va_get (D := (dC, dI)) (ci := 7) (v := .int 0) (C := "LandBookModel") (T := F_LandBookModel) (N := 42) hx hb hts tu_LandBookModel hown hK hP 0 rfl rfl 31 (by decide) (hts _ tk_271) (fun _ h9 => h9) rfl d_M_many_73 ?_
        have hP9 := hP.sub (ws' := [(hm, .inr (7, [.int 0, .int 0, .int 0, .int 0, .int 0, m5, m6, .int 0, m8, m9, m10, m11, m12, m13, m14, .int 0, m16, m17, m18, m19, m20, m21, m22, m23, m24, .int 0, m26, m27, m28, m29, .int 0, .int 0, m32, .int 0, m34, m35, .int 0, m37, m38, .int 0, m40, m41]))]) [0] rfl
        have hD9 := hD.sub (ws' := [(hm, .inr (7, [.int 0, .int 0, .int 0, .int 0, .int 0, m5, m6, .int 0, m8, m9, m10, m11, m12, m13, m14, .int 0, m16, m17, m18, m19, m20, m21, m22, m23, m24, .int 0, m26, m27, m28, m29, .int 0, .int 0, m32, .int 0, m34, m35, .int 0, m37, m38, .int 0, m40, m41]))]) [0] (by decide) rfl
        have hK9 := hK.sub (tys' := []) [] rfl
        refine W.widen (k := 0) (n := 0) (by decide) (by decide) ?_
        exact W.iret (v := 0) hx hb hr (fun t ht hW => ⟨⟨0, (0, [.int 0, .int 0, .int 0, .int 0, m5, m6, .int 0, m8, m9, m10, m11, m12, m13, m14, .int 0, m16, m17, m18, m19, m20, m21, m22, m23, m24, .int 0, m26, m27, m28, m29, .int 0, .int 0, m32, .int 0, m34, m35, .int 0, m37, m38, .int 0, m40, m41]), rfl, Or.inl ⟨⟨h1, h2⟩, rfl, rfl⟩, by rw [ht]; exact hP9, va_K.moved hW.alike hK9, hD9⟩, hS.F ht⟩) hS.2.2 d_M_many_76
      · refine lv_tableOut (tgt := 77) hx hb d_M_many_19 g (by decide) ?_
        refine lv_iconst (v := 0) hx hb d_M_many_77 (by decide) ?_
        have hP9 := hP.sub (ws' := [(hm, .inr (7, [.int 0, .int 0, .int 0, .int 0, .int 0, m5, m6, .int 0, m8, m9, m10, m11, m12, m13, m14, .int 0, m16, m17, m18, m19, m20, m21, m22, m23, m24, .int 0, m26, m27, m28, m29, .int 0, .int 0, m32, .int 0, m34, m35, .int 0, m37, m38, .int 0, m40, m41]))]) [0] rfl
        have hD9 := hD.sub (ws' := [(hm, .inr (7, [.int 0, .int 0, .int 0, .int 0, .int 0, m5, m6, .int 0, m8, m9, m10, m11, m12, m13, m14, .int 0, m16, m17, m18, m19, m20, m21, m22, m23, m24, .int 0, m26, m27, m28, m29, .int 0, .int 0, m32, .int 0, m34, m35, .int 0, m37, m38, .int 0, m40, m41]))]) [0] (by decide) rfl
        have hK9 := hK.sub (tys' := []) [] rfl
        refine W.widen (k := 0) (n := 0) (by decide) (by decide) ?_
        exact W.iret (v := 0) hx hb hr (fun t ht hW => ⟨⟨0, (0, [.int 0, .int 0, .int 0, .int 0, m5, m6, .int 0, m8, m9, m10, m11, m12, m13, m14, .int 0, m16, m17, m18, m19, m20, m21, m22, m23, m24, .int 0, m26, m27, m28, m29, .int 0, .int 0, m32, .int 0, m34, m35, .int 0, m37, m38, .int 0, m40, m41]), rfl, Or.inl ⟨⟨h1, h2⟩, rfl, rfl⟩, by rw [ht]; exact hP9, va_K.moved hW.alike hK9, hD9⟩, hS.F ht⟩) hS.2.2 d_M_many_78
    · refine lv_iconst (v := 1) hx hb d_M_many_10 (by decide) ?_
      refine lv_goto (tgt := 15) hx hb d_M_many_11 (by decide) ?_
      refine va_put (D := (dC, dI)) (ci := 7) (v := .int 1) (ty := .int) (C := "LandBookModel") (T := F_LandBookModel) (N := 42) hx hb hts tu_LandBookModel t_LandBookModel t_LandBookModel_ok n_LandBookModel hown hK hP hD hS 0 rfl rfl 0 (by decide) (hts _ tk_251) (fun _ h9 => h9) rfl (by decide +kernel) rfl rfl (Nat.le_of_ble_eq_true rfl) d_M_many_15 (fun H locs hP hD hS => ?_)
      have hP : va_P (dC, dI) classes [(hm, .inr (7, [.int 1, .int 0, .int 0, .int 0, .int 0, m5, m6, .int 0, m8, m9, m10, m11, m12, m13, m14, .int 0, m16, m17, m18, m19, m20, m21, m22, m23, m24, .int 0, m26, m27, m28, m29, .int 0, .int 0, m32, .int 0, m34, m35, .int 0, m37, m38, .int 0, m40, m41]))] H := hP
      have hD : va_D A [(hm, .inr (7, [.int 1, .int 0, .int 0, .int 0, .int 0, m5, m6, .int 0, m8, m9, m10, m11, m12, m13, m14, .int 0, m16, m17, m18, m19, m20, m21, m22, m23, m24, .int 0, m26, m27, m28, m29, .int 0, .int 0, m32, .int 0, m34, m35, .int 0, m37, m38, .int 0, m40, m41]))] := hD
      refine lv_iload_n hx hb d_M_many_18 rfl (lv_at hl 1 rfl) ?_
      rcases tw_m5 a0 with rfl | rfl | rfl | rfl | rfl | ⟨g, g9⟩
      · refine lv_tableIn (off := 33) (tgt := 52) hx hb d_M_many_19 (by decide) (by decide) (by decide) (by decide) ?_
        refine lv_aload_n hx hb d_M_many_52 rfl (lv_at hl 0 rfl) ?_
        refine va_get (D := (dC, dI)) (ci := 7) (v := .int 0) (C := "LandBookModel") (T := F_LandBookModel) (N := 42) hx hb hts tu_LandBookModel hown hK hP 0 rfl rfl 7 (by decide) (hts _ tk_265) (fun _ h9 => h9) rfl d_M_many_53 ?_
        have hP9 := hP.sub (ws' := [(hm, .inr (7, [.int 1, .int 0, .int 0, .int 0, .int 0, m5, m6, .int 0, m8, m9, m10, m11, m12, m13, m14, .int 0, m16, m17, m18, m19, m20, m21, m22, m23, m24, .int 0, m26, m27, m28, m29, .int 0, .int 0, m32, .int 0, m34, m35, .int 0, m37, m38, .int 0, m40, m41]))]) [0] rfl
        have hD9 := hD.sub (ws' := [(hm, .inr (7, [.int 1, .int 0, .int 0, .int 0, .int 0, m5, m6, .int 0, m8, m9, m10, m11, m12, m13, m14, .int 0, m16, m17, m18, m19, m20, m21, m22, m23, m24, .int 0, m26, m27, m28, m29, .int 0, .int 0, m32, .int 0, m34, m35, .int 0, m37, m38, .int 0, m40, m41]))]) [0] (by decide) rfl
        have hK9 := hK.sub (tys' := []) [] rfl
        refine W.widen (k := 0) (n := 0) (by decide) (by decide) ?_
        exact W.iret (v := 0) hx hb hr (fun t ht hW => ⟨⟨0, (1, [.int 0, .int 0, .int 0, .int 0, m5, m6, .int 0, m8, m9, m10, m11, m12, m13, m14, .int 0, m16, m17, m18, m19, m20, m21, m22, m23, m24, .int 0, m26, m27, m28, m29, .int 0, .int 0, m32, .int 0, m34, m35, .int 0, m37, m38, .int 0, m40, m41]), rfl, Or.inr ⟨fun o => h2 o.2, rfl⟩, by rw [ht]; exact hP9, va_K.moved hW.alike hK9, hD9⟩, hS.F ht⟩) hS.2.2 d_M_many_56
      · refine lv_tableIn (off := 38) (tgt := 57) hx hb d_M_many_19 (by decide) (by decide) (by decide) (by decide) ?_
        refine lv_aload_n hx hb d_M_many_57 rfl (lv_at hl 0 rfl) ?_
        refine va_get (D := (dC, dI)) (ci := 7) (v := .int 0) (C := "LandBookModel") (T := F_LandBookModel) (N := 42) hx hb hts tu_LandBookModel hown hK hP 0 rfl rfl 15 (by decide) (hts _ tk_272) (fun _ h9 => h9) rfl d_M_many_58 ?_
        have hP9 := hP.sub (ws' := [(hm, .inr (7, [.int 1, .int 0, .int 0, .int 0, .int 0, m5, m6, .int 0, m8, m9, m10, m11, m12, m13, m14, .int 0, m16, m17, m18, m19, m20, m21, m22, m23, m24, .int 0, m26, m27, m28, m29, .int 0, .int 0, m32, .int 0, m34, m35, .int 0, m37, m38, .int 0, m40, m41]))]) [0] rfl
        have hD9 := hD.sub (ws' := [(hm, .inr (7, [.int 1, .int 0, .int 0, .int 0, .int 0, m5, m6, .int 0, m8, m9, m10, m11, m12, m13, m14, .int 0, m16, m17, m18, m19, m20, m21, m22, m23, m24, .int 0, m26, m27, m28, m29, .int 0, .int 0, m32, .int 0, m34, m35, .int 0, m37, m38, .int 0, m40, m41]))]) [0] (by decide) rfl
        have hK9 := hK.sub (tys' := []) [] rfl
        refine W.widen (k := 0) (n := 0) (by decide) (by decide) ?_
        exact W.iret (v := 0) hx hb hr (fun t ht hW => ⟨⟨0, (1, [.int 0, .int 0, .int 0, .int 0, m5, m6, .int 0, m8, m9, m10, m11, m12, m13, m14, .int 0, m16, m17, m18, m19, m20, m21, m22, m23, m24, .int 0, m26, m27, m28, m29, .int 0, .int 0, m32, .int 0, m34, m35, .int 0, m37, m38, .int 0, m40, m41]), rfl, Or.inr ⟨fun o => h2 o.2, rfl⟩, by rw [ht]; exact hP9, va_K.moved hW.alike hK9, hD9⟩, hS.F ht⟩) hS.2.2 d_M_many_61
      · refine lv_tableIn (off := 43) (tgt := 62) hx hb d_M_many_19 (by decide) (by decide) (by decide) (by decide) ?_
        refine lv_aload_n hx hb d_M_many_62 rfl (lv_at hl 0 rfl) ?_
        refine va_get (D := (dC, dI)) (ci := 7) (v := .int 0) (C := "LandBookModel") (T := F_LandBookModel) (N := 42) hx hb hts tu_LandBookModel hown hK hP 0 rfl rfl 25 (by decide) (hts _ tk_273) (fun _ h9 => h9) rfl d_M_many_63 ?_
        have hP9 := hP.sub (ws' := [(hm, .inr (7, [.int 1, .int 0, .int 0, .int 0, .int 0, m5, m6, .int 0, m8, m9, m10, m11, m12, m13, m14, .int 0, m16, m17, m18, m19, m20, m21, m22, m23, m24, .int 0, m26, m27, m28, m29, .int 0, .int 0, m32, .int 0, m34, m35, .int 0, m37, m38, .int 0, m40, m41]))]) [0] rfl
        have hD9 := hD.sub (ws' := [(hm, .inr (7, [.int 1, .int 0, .int 0, .int 0, .int 0, m5, m6, .int 0, m8, m9, m10, m11, m12, m13, m14, .int 0, m16, m17, m18, m19, m20, m21, m22, m23, m24, .int 0, m26, m27, m28, m29, .int 0, .int 0, m32, .int 0, m34, m35, .int 0, m37, m38, .int 0, m40, m41]))]) [0] (by decide) rfl
        have hK9 := hK.sub (tys' := []) [] rfl
        refine W.widen (k := 0) (n := 0) (by decide) (by decide) ?_
        exact W.iret (v := 0) hx hb hr (fun t ht hW => ⟨⟨0, (1, [.int 0, .int 0, .int 0, .int 0, m5, m6, .int 0, m8, m9, m10, m11, m12, m13, m14, .int 0, m16, m17, m18, m19, m20, m21, m22, m23, m24, .int 0, m26, m27, m28, m29, .int 0, .int 0, m32, .int 0, m34, m35, .int 0, m37, m38, .int 0, m40, m41]), rfl, Or.inr ⟨fun o => h2 o.2, rfl⟩, by rw [ht]; exact hP9, va_K.moved hW.alike hK9, hD9⟩, hS.F ht⟩) hS.2.2 d_M_many_66
      · refine lv_tableIn (off := 48) (tgt := 67) hx hb d_M_many_19 (by decide) (by decide) (by decide) (by decide) ?_
        refine lv_aload_n hx hb d_M_many_67 rfl (lv_at hl 0 rfl) ?_
        refine va_get (D := (dC, dI)) (ci := 7) (v := .int 0) (C := "LandBookModel") (T := F_LandBookModel) (N := 42) hx hb hts tu_LandBookModel hown hK hP 0 rfl rfl 30 (by decide) (hts _ tk_270) (fun _ h9 => h9) rfl d_M_many_68 ?_
        have hP9 := hP.sub (ws' := [(hm, .inr (7, [.int 1, .int 0, .int 0, .int 0, .int 0, m5, m6, .int 0, m8, m9, m10, m11, m12, m13, m14, .int 0, m16, m17, m18, m19, m20, m21, m22, m23, m24, .int 0, m26, m27, m28, m29, .int 0, .int 0, m32, .int 0, m34, m35, .int 0, m37, m38, .int 0, m40, m41]))]) [0] rfl
        have hD9 := hD.sub (ws' := [(hm, .inr (7, [.int 1, .int 0, .int 0, .int 0, .int 0, m5, m6, .int 0, m8, m9, m10, m11, m12, m13, m14, .int 0, m16, m17, m18, m19, m20, m21, m22, m23, m24, .int 0, m26, m27, m28, m29, .int 0, .int 0, m32, .int 0, m34, m35, .int 0, m37, m38, .int 0, m40, m41]))]) [0] (by decide) rfl
        have hK9 := hK.sub (tys' := []) [] rfl
        refine W.widen (k := 0) (n := 0) (by decide) (by decide) ?_
        exact W.iret (v := 0) hx hb hr (fun t ht hW => ⟨⟨0, (1, [.int 0, .int 0, .int 0, .int 0, m5, m6, .int 0, m8, m9, m10, m11, m12, m13, m14, .int 0, m16, m17, m18, m19, m20, m21, m22, m23, m24, .int 0, m26, m27, m28, m29, .int 0, .int 0, m32, .int 0, m34, m35, .int 0, m37, m38, .int 0, m40, m41]), rfl, Or.inr ⟨fun o => h2 o.2, rfl⟩, by rw [ht]; exact hP9, va_K.moved hW.alike hK9, hD9⟩, hS.F ht⟩) hS.2.2 d_M_many_71
      · refine lv_tableIn (off := 53) (tgt := 72) hx hb d_M_many_19 (by decide) (by decide) (by decide) (by decide) ?_
        refine lv_aload_n hx hb d_M_many_72 rfl (lv_at hl 0 rfl) ?_
        refine va_get (D := (dC, dI)) (ci := 7) (v := .int 0) (C := "LandBookModel") (T := F_LandBookModel) (N := 42) hx hb hts tu_LandBookModel hown hK hP 0 rfl rfl 31 (by decide) (hts _ tk_271) (fun _ h9 => h9) rfl d_M_many_73 ?_
        have hP9 := hP.sub (ws' := [(hm, .inr (7, [.int 1, .int 0, .int 0, .int 0, .int 0, m5, m6, .int 0, m8, m9, m10, m11, m12, m13, m14, .int 0, m16, m17, m18, m19, m20, m21, m22, m23, m24, .int 0, m26, m27, m28, m29, .int 0, .int 0, m32, .int 0, m34, m35, .int 0, m37, m38, .int 0, m40, m41]))]) [0] rfl
        have hD9 := hD.sub (ws' := [(hm, .inr (7, [.int 1, .int 0, .int 0, .int 0, .int 0, m5, m6, .int 0, m8, m9, m10, m11, m12, m13, m14, .int 0, m16, m17, m18, m19, m20, m21, m22, m23, m24, .int 0, m26, m27, m28, m29, .int 0, .int 0, m32, .int 0, m34, m35, .int 0, m37, m38, .int 0, m40, m41]))]) [0] (by decide) rfl
        have hK9 := hK.sub (tys' := []) [] rfl
        refine W.widen (k := 0) (n := 0) (by decide) (by decide) ?_
        exact W.iret (v := 0) hx hb hr (fun t ht hW => ⟨⟨0, (1, [.int 0, .int 0, .int 0, .int 0, m5, m6, .int 0, m8, m9, m10, m11, m12, m13, m14, .int 0, m16, m17, m18, m19, m20, m21, m22, m23, m24, .int 0, m26, m27, m28, m29, .int 0, .int 0, m32, .int 0, m34, m35, .int 0, m37, m38, .int 0, m40, m41]), rfl, Or.inr ⟨fun o => h2 o.2, rfl⟩, by rw [ht]; exact hP9, va_K.moved hW.alike hK9, hD9⟩, hS.F ht⟩) hS.2.2 d_M_many_76
      · refine lv_tableOut (tgt := 77) hx hb d_M_many_19 g (by decide) ?_
        refine lv_iconst (v := 0) hx hb d_M_many_77 (by decide) ?_
        have hP9 := hP.sub (ws' := [(hm, .inr (7, [.int 1, .int 0, .int 0, .int 0, .int 0, m5, m6, .int 0, m8, m9, m10, m11, m12, m13, m14, .int 0, m16, m17, m18, m19, m20, m21, m22, m23, m24, .int 0, m26, m27, m28, m29, .int 0, .int 0, m32, .int 0, m34, m35, .int 0, m37, m38, .int 0, m40, m41]))]) [0] rfl
        have hD9 := hD.sub (ws' := [(hm, .inr (7, [.int 1, .int 0, .int 0, .int 0, .int 0, m5, m6, .int 0, m8, m9, m10, m11, m12, m13, m14, .int 0, m16, m17, m18, m19, m20, m21, m22, m23, m24, .int 0, m26, m27, m28, m29, .int 0, .int 0, m32, .int 0, m34, m35, .int 0, m37, m38, .int 0, m40, m41]))]) [0] (by decide) rfl
        have hK9 := hK.sub (tys' := []) [] rfl
        refine W.widen (k := 0) (n := 0) (by decide) (by decide) ?_
        exact W.iret (v := 0) hx hb hr (fun t ht hW => ⟨⟨0, (1, [.int 0, .int 0, .int 0, .int 0, m5, m6, .int 0, m8, m9, m10, m11, m12, m13, m14, .int 0, m16, m17, m18, m19, m20, m21, m22, m23, m24, .int 0, m26, m27, m28, m29, .int 0, .int 0, m32, .int 0, m34, m35, .int 0, m37, m38, .int 0, m40, m41]), rfl, Or.inr ⟨fun o => h2 o.2, rfl⟩, by rw [ht]; exact hP9, va_K.moved hW.alike hK9, hD9⟩, hS.F ht⟩) hS.2.2 d_M_many_78
