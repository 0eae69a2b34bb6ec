theorem tw_table {l : Launch} {p : Program} {y : MethodName} {S : Spec} {cc bytes : ByteArray} {maxL maxL' : Nat} {ret ret' : Option FieldType} {e : Env} {s s₁ : State} {m : MethodId} {args : Array Value} {below : List Frame} {meth : Method} {c : Code} {hh : List (Nat × Nat × Nat × Nat)}
    (B : BodyLoose p l y S cc maxL ret e s m args below meth c s₁) (h : (Cond.codeWith y bytes maxL' ret' hh).before args s = true) : c.exceptionTable.toList.map (fun h => (h.startPc, h.endPc, h.handlerPc, h.catchType)) = hh := by
  obtain ⟨m9, meth9, c9, h1, h2, h3, -, -, h6, -⟩ := Cond.codeWith_spec h
  cases B.named.symm.trans h1
  cases B.method.symm.trans h2
  cases (Stand.of_body B).code.symm.trans h3
  exact h6
theorem tw_Pn {D : va_G} {cl : List vw_C} {H : Heap} : va_P D cl [] H := fun k q h => by cases h
theorem tw_Dn {A : Nat → Prop} : va_D A [] := ⟨fun i j p q h => (by cases h), fun k q h => (by cases h)⟩
theorem tw_excTo {s t : State} {H1 : Heap} {cls : String} {x : Addr} (h : tw_exc cls x t) (ht : t.heap = H1) (hvm : s.vm.Alike t.vm) : ∃ cell : Cell, H1[x]? = some cell ∧ cell.vm.isStatics = false ∧ s.vm.findClass cls = some cell.cls := by
  obtain ⟨cell, h1, h2, h3⟩ := h
  exact ⟨cell, by rw [← ht]; exact h1, h2, by rw [← hvm.findClass]; exact h3⟩
theorem tk_274 : (Jvm.Cond.methodLink "LandBookLaw" (28 : Nat) ({ cls := "LandBook", name := "merge", desc := "(III)I" } : Jvm.MethodName)) ∈ tw_G := tw_in (List.mem_of_getElem? (i := 783) (by decide +kernel)) rfl
theorem tk_275 : (Jvm.Cond.instanceMethod ({ cls := "LandBook", name := "merge", desc := "(III)I" } : Jvm.MethodName)) ∈ tw_G := tw_in (List.mem_of_getElem? (i := 784) (by decide +kernel)) rfl
theorem tk_276 : (Jvm.Cond.selects "LandBook" ({ cls := "LandBook", name := "merge", desc := "(III)I" } : Jvm.MethodName) ({ cls := "LandBook", name := "merge", desc := "(III)I" } : Jvm.MethodName)) ∈ tw_G := tw_in (List.mem_of_getElem? (i := 785) (by decide +kernel)) rfl
theorem tk_277 : (Jvm.Cond.code ({ cls := "LandBook", name := "merge", desc := "(III)I" } : Jvm.MethodName) prog_1_method_5_code (8 : Nat) (Option.some Jvm.ClassFile.FieldType.int)) ∈ tw_G := tw_in (List.mem_of_getElem? (i := 786) (by decide +kernel)) rfl
theorem tk_278 : (Jvm.Cond.classLink "LandBookLaw" (21 : Nat) "java/lang/IllegalStateException") ∈ tw_G := tw_in (List.mem_of_getElem? (i := 359) (by decide +kernel)) rfl
abbrev y_law_merge : MethodName := ⟨"LandBookLaw", "merge", "(LLandBook;III[J)I"⟩
abbrev w_law_merge : List Cond := Cond.codeWith y_law_merge method_6_code 6 (some .int) [(0, 12, 15, 21), (0, 12, 19, 26), (0, 12, 23, 13)] :: tw_G
theorem d_law_merge_0 : decode method_6_code 0 = .ok (.aload 4, 2) := by decide +kernel
theorem d_law_merge_2 : decode method_6_code 2 = .ok (.iconst 0, 1) := by decide +kernel
theorem d_law_merge_3 : decode method_6_code 3 = .ok (.aload_n 0, 1) := by decide +kernel
theorem d_law_merge_4 : decode method_6_code 4 = .ok (.iload_n 1, 1) := by decide +kernel
theorem d_law_merge_5 : decode method_6_code 5 = .ok (.iload_n 2, 1) := by decide +kernel
theorem d_law_merge_6 : decode method_6_code 6 = .ok (.iload_n 3, 1) := by decide +kernel
theorem d_law_merge_7 : decode method_6_code 7 = .ok (.invokevirtual 28, 3) := by decide +kernel
theorem d_law_merge_15 : decode method_6_code 15 = .ok (.astore 5, 2) := by decide +kernel
theorem d_law_merge_17 : decode method_6_code 17 = .ok (.iconst 1, 1) := by decide +kernel
theorem d_law_merge_18 : decode method_6_code 18 = .ok (.ireturn, 1) := by decide +kernel
set_option maxHeartbeats 4000000 in
set_option maxRecDepth 100000 in
theorem c_law_merge (l : Launch) (hfl : l.flags = pinnedFlags ++ [noTraceFlag]) (dC : Nat → ClassId) (dI : Nat → Nat → Nat) (h sz ro ra ch rg dl ll el lg ho : Nat) (cI cL : ClassId) (f : Nat → Int32) (f0 : Nat → Int64) (v2 v3 ca w3 w4 x0 y0 x1 y1 x2 y2 z0 : Value) (a0 a1 a2 : Int32) : Met l y_law_merge w_law_merge ({ frames := 8, cells := 1, slots := 6, locals := 129 }) (tw_P4E (dC, dI) classes [(h, .inr (0, [.ref ro, .ref ch, v2, v3, .ref rg, .ref lg, .int 0, .int 0])), (ro, .inr (1, [.ref ra, .int 0])), (ra, .inl (cI, 32, .inl (f))), (ch, .inr (1, [ca, .int 0])), (rg, .inr (4, [.ref dl, .ref ll, .ref el, w3, w4])), (dl, .inr (6, [x0, .int 0, y0])), (ll, .inr (6, [x1, .int 0, y1])), (el, .inr (6, [x2, .int 0, y2])), (lg, .inr (5, [z0, .int 0, .int 0])), (ho, .inl (cL, 1, .inr (.inl (f0))))] [(cI, .int), (cL, .long)] sz [.ref h, .int a0, .int a1, .int a2, .ref ho]) (va_Qi (fun (r : Int32) (u : Nat → Int64) => r = 1) (fun u => tw_B dC dI (va_A [(h, .inr (0, [.ref ro, .ref ch, v2, v3, .ref rg, .ref lg, .int 0, .int 0])), (ro, .inr (1, [.ref ra, .int 0])), (ra, .inl (cI, 32, .inl (f))), (ch, .inr (1, [ca, .int 0])), (rg, .inr (4, [.ref dl, .ref ll, .ref el, w3, w4])), (dl, .inr (6, [x0, .int 0, y0])), (ll, .inr (6, [x1, .int 0, y1])), (el, .inr (6, [x2, .int 0, y2])), (lg, .inr (5, [z0, .int 0, .int 0])), (ho, .inl (cL, 1, .inr (.inl (f0))))] sz) [(ho, .inl (cL, 1, .inr (.inl (u))))] [(cL, .long)]) (va_A [(h, .inr (0, [.ref ro, .ref ch, v2, v3, .ref rg, .ref lg, .int 0, .int 0])), (ro, .inr (1, [.ref ra, .int 0])), (ra, .inl (cI, 32, .inl (f))), (ch, .inr (1, [ca, .int 0])), (rg, .inr (4, [.ref dl, .ref ll, .ref el, w3, w4])), (dl, .inr (6, [x0, .int 0, y0])), (ll, .inr (6, [x1, .int 0, y1])), (el, .inr (6, [x2, .int 0, y2])), (lg, .inr (5, [z0, .int 0, .int 0])), (ho, .inl (cL, 1, .inr (.inl (f0))))] sz)) 1 6 (va_A [(h, .inr (0, [.ref ro, .ref ch, v2, v3, .ref rg, .ref lg, .int 0, .int 0])), (ro, .inr (1, [.ref ra, .int 0])), (ra, .inl (cI, 32, .inl (f))), (ch, .inr (1, [ca, .int 0])), (rg, .inr (4, [.ref dl, .ref ll, .ref el, w3, w4])), (dl, .inr (6, [x0, .int 0, y0])), (ll, .inr (6, [x1, .int 0, y1])), (el, .inr (6, [x2, .int 0, y2])), (lg, .inr (5, [z0, .int 0, .int 0])), (ho, .inl (cL, 1, .inr (.inl (f0))))] sz) := by
  refine va_MetW (cc := method_6_code) (maxL := 6) (ret := (some .int)) (hh := [(0, 12, 15, 21), (0, 12, 19, 26), (0, 12, 23, 13)]) (by decide) rfl ?_
  intro p e s m args below meth c s₁ B hml hv
  obtain ⟨rfl, hsz, hP, hK, hD0, hE⟩ := hv
  have hx := B.exec
  have hb := B.bytes
  have hr := B.returns
  have hts : ∀ w ∈ tw_G, w.before _ s = true := fun w h => atoms_spec (ws := w_law_merge) B.pre w (List.mem_cons_of_mem _ h)
  have hown : s.vm.findClass "LandBookLaw" = some m.cls := findClass_of_methodNamed B.named
  have hlocks := B.notSynchronized
  subst hsz
  have hN := tw_nst hP
  have hD := hD0.self (sz := s.heap.size)
  generalize hAe : va_A [(h, .inr (0, [.ref ro, .ref ch, v2, v3, .ref rg, .ref lg, .int 0, .int 0])), (ro, .inr (1, [.ref ra, .int 0])), (ra, .inl (cI, 32, .inl (f))), (ch, .inr (1, [ca, .int 0])), (rg, .inr (4, [.ref dl, .ref ll, .ref el, w3, w4])), (dl, .inr (6, [x0, .int 0, y0])), (ll, .inr (6, [x1, .int 0, y1])), (el, .inr (6, [x2, .int 0, y2])), (lg, .inr (5, [z0, .int 0, .int 0])), (ho, .inl (cL, 1, .inr (.inl (f0))))] s.heap.size = A at hD hN ⊢
  have hA : ∀ q : Nat, s.heap.size ≤ q → A q := fun q h => by rw [← hAe]; exact Or.inr h
  have hS : va_S A s.heap s.heap [] := va_S.rf
  have hP : va_P (dC, dI) classes [(h, .inr (0, [.ref ro, .ref ch, v2, v3, .ref rg, .ref lg, .int 0, .int 0])), (ro, .inr (1, [.ref ra, .int 0])), (ra, .inl (cI, 32, .inl (f))), (ch, .inr (1, [ca, .int 0])), (rg, .inr (4, [.ref dl, .ref ll, .ref el, w3, w4])), (dl, .inr (6, [x0, .int 0, y0])), (ll, .inr (6, [x1, .int 0, y1])), (el, .inr (6, [x2, .int 0, y2])), (lg, .inr (5, [z0, .int 0, .int 0])), (ho, .inl (cL, 1, .inr (.inl (f0))))] s.heap := hP
  have hl := lv_entry ([.ref h, .int a0, .int a1, .int a2, .ref ho]) (n := 6) (Nat.le_of_ble_eq_true rfl)
  rw [lg_entry_eq]
  generalize (lg_sl ([.ref h, .int a0, .int a1, .int a2, .ref ho]) ++ List.replicate (6 - (lg_sl ([.ref h, .int a0, .int a1, .int a2, .ref ho])).length) Slot.unset).toArray = ls at hl ⊢
  have hl : lv_has ls 6 [(0, .ref h), (1, .int a0), (2, .int a1), (3, .int a2), (4, .ref ho)] := hl
  have htab := tw_table B (atoms_spec (ws := w_law_merge) B.pre _ List.mem_cons_self)
  refine lv_aload hx hb d_law_merge_0 (lv_at hl 4 rfl) ?_
  refine lv_iconst (v := 0) hx hb d_law_merge_2 (by decide) ?_
  refine lv_aload_n hx hb d_law_merge_3 rfl (lv_at hl 0 rfl) ?_
  refine lv_iload_n hx hb d_law_merge_4 rfl (lv_at hl 1 rfl) ?_
  refine lv_iload_n hx hb d_law_merge_5 rfl (lv_at hl 2 rfl) ?_
  refine lv_iload_n hx hb d_law_merge_6 rfl (lv_at hl 3 rfl) ?_
  refine tw_chk (tw_runV (As := [.int a0, .int a1, .int a2]) (rest := [.int 0, .ref ho]) ⟨hx, hb, hml, hown, hts⟩ (c_merge_down l hfl dC dI h rg ll (.ref ro) (.ref ch) v2 v3 (.ref lg) (.int 0) (.ref dl) (.ref el) w3 w4 x1 y1 0 0 a0 a1 a2 (fun o => o.2 rfl)) (cwV 3 hts (tw_gV tk_274 tk_275 tk_276 tk_213 tk_277) rfl rfl rfl (by decide +kernel) ⟨Nat.le_of_ble_eq_true rfl, Nat.le_of_ble_eq_true rfl⟩) (tw_v2E (va_recv (q0 := 0) hK hP rfl rfl) (hP.sub (ws' := [(h, .inr (0, [.ref ro, .ref ch, v2, v3, .ref rg, .ref lg, .int 0, .int 0])), (rg, .inr (4, [.ref dl, .ref ll, .ref el, w3, w4])), (ll, .inr (6, [x1, .int 0, y1]))]) [0, 4, 6] rfl) (hK.sub (tys' := []) [] rfl) hE (tw_kst hN hS)) rfl rfl hl.1 rfl (lv_room (Nat.le_of_ble_eq_true rfl)) d_law_merge_7 ⟨by show 1 ≤ 1; decide, by show 6 ≤ 6; decide⟩) (fun o => o.elim) (fun o x1 J2 j1 j2 j3 j4 => ?_)
  have hP := tw_P1 hP j3
  have hS := tw_S1 hS j2 j3
  refine tw_catch (pre := []) (post := [(0, 12, 19, 26), (0, 12, 23, 13)]) (sp := 0) (ep := 12) (hp := 15) (ct := 21) hown htab rfl j4 ⟨by decide, by decide⟩ (by decide) (hts _ tk_278) (fun y hy => by cases hy) ?_
  refine lv_astore (lv' := [(5, .ref x1), (0, .ref h), (1, .int a0), (2, .int a1), (3, .int a2), (4, .ref ho)]) hx hb d_law_merge_15 hl (by decide) rfl (fun ls hl => ?_)
  refine lv_iconst (v := 1) hx hb d_law_merge_17 (by decide) ?_
  have hP9 := hP.sub (ws' := [(ho, .inl (cL, 1, .inr (.inl (f0))))]) [9] rfl
  have hD9 := hD.sub (ws' := [(ho, .inl (cL, 1, .inr (.inl (f0))))]) [9] (by decide) rfl
  have hK9 := hK.sub (tys' := [(cL, .long)]) [1] rfl
  refine W.widen (k := 1) (n := 6) (by decide) (by decide) ?_
  exact W.iret (v := 1) hx hb hr (fun t ht hW => ⟨⟨1, f0, rfl, rfl, by rw [ht]; exact hP9, va_K.moved hW.alike hK9, hD9⟩, hS.F ht⟩) hS.2.2 d_law_merge_18
theorem tk_279 : (Jvm.Cond.methodLink "LandBookLaw" (32 : Nat) ({ cls := "LandBook", name := "transfer", desc := "(IIIIII)I" } : Jvm.MethodName)) ∈ tw_G := tw_in (List.mem_of_getElem? (i := 819) (by decide +kernel)) rfl
theorem tk_280 : (Jvm.Cond.instanceMethod ({ cls := "LandBook", name := "transfer", desc := "(IIIIII)I" } : Jvm.MethodName)) ∈ tw_G := tw_in (List.mem_of_getElem? (i := 820) (by decide +kernel)) rfl
theorem tk_281 : (Jvm.Cond.selects "LandBook" ({ cls := "LandBook", name := "transfer", desc := "(IIIIII)I" } : Jvm.MethodName) ({ cls := "LandBook", name := "transfer", desc := "(IIIIII)I" } : Jvm.MethodName)) ∈ tw_G := tw_in (List.mem_of_getElem? (i := 821) (by decide +kernel)) rfl
theorem tk_282 : (Jvm.Cond.code ({ cls := "LandBook", name := "transfer", desc := "(IIIIII)I" } : Jvm.MethodName) prog_1_method_6_code (11 : Nat) (Option.some Jvm.ClassFile.FieldType.int)) ∈ tw_G := tw_in (List.mem_of_getElem? (i := 822) (by decide +kernel)) rfl
abbrev y_law_transfer : MethodName := ⟨"LandBookLaw", "transfer", "(LLandBook;IIIIII[J)I"⟩
abbrev w_law_transfer : List Cond := Cond.codeWith y_law_transfer method_7_code 9 (some .int) [(0, 18, 21, 21), (0, 18, 25, 26), (0, 18, 29, 13)] :: tw_G
theorem d_law_transfer_0 : decode method_7_code 0 = .ok (.aload 7, 2) := by decide +kernel
theorem d_law_transfer_2 : decode method_7_code 2 = .ok (.iconst 0, 1) := by decide +kernel
theorem d_law_transfer_3 : decode method_7_code 3 = .ok (.aload_n 0, 1) := by decide +kernel
theorem d_law_transfer_4 : decode method_7_code 4 = .ok (.iload_n 1, 1) := by decide +kernel
theorem d_law_transfer_5 : decode method_7_code 5 = .ok (.iload_n 2, 1) := by decide +kernel
theorem d_law_transfer_6 : decode method_7_code 6 = .ok (.iload_n 3, 1) := by decide +kernel
theorem d_law_transfer_7 : decode method_7_code 7 = .ok (.iload 4, 2) := by decide +kernel
theorem d_law_transfer_9 : decode method_7_code 9 = .ok (.iload 5, 2) := by decide +kernel
theorem d_law_transfer_11 : decode method_7_code 11 = .ok (.iload 6, 2) := by decide +kernel
theorem d_law_transfer_13 : decode method_7_code 13 = .ok (.invokevirtual 32, 3) := by decide +kernel
theorem d_law_transfer_21 : decode method_7_code 21 = .ok (.astore 8, 2) := by decide +kernel
theorem d_law_transfer_23 : decode method_7_code 23 = .ok (.iconst 1, 1) := by decide +kernel
theorem d_law_transfer_24 : decode method_7_code 24 = .ok (.ireturn, 1) := by decide +kernel
set_option maxHeartbeats 4000000 in
set_option maxRecDepth 100000 in
theorem c_law_transfer (l : Launch) (hfl : l.flags = pinnedFlags ++ [noTraceFlag]) (dC : Nat → ClassId) (dI : Nat → Nat → Nat) (h sz ro ra ch rg dl ll el lg ho : Nat) (cI cL : ClassId) (f : Nat → Int32) (f0 : Nat → Int64) (v2 v3 ca w3 w4 x0 y0 x1 y1 x2 y2 z0 : Value) (a0 a1 a2 a3 a4 a5 : Int32) : Met l y_law_transfer w_law_transfer ({ frames := 8, cells := 1, slots := 6, locals := 132 }) (tw_P4E (dC, dI) classes [(h, .inr (0, [.ref ro, .ref ch, v2, v3, .ref rg, .ref lg, .int 0, .int 0])), (ro, .inr (1, [.ref ra, .int 0])), (ra, .inl (cI, 32, .inl (f))), (ch, .inr (1, [ca, .int 0])), (rg, .inr (4, [.ref dl, .ref ll, .ref el, w3, w4])), (dl, .inr (6, [x0, .int 0, y0])), (ll, .inr (6, [x1, .int 0, y1])), (el, .inr (6, [x2, .int 0, y2])), (lg, .inr (5, [z0, .int 0, .int 0])), (ho, .inl (cL, 1, .inr (.inl (f0))))] [(cI, .int), (cL, .long)] sz [.ref h, .int a0, .int a1, .int a2, .int a3, .int a4, .int a5, .ref ho]) (va_Qi (fun (r : Int32) (u : Nat → Int64) => r = 1) (fun u => tw_B dC dI (va_A [(h, .inr (0, [.ref ro, .ref ch, v2, v3, .ref rg, .ref lg, .int 0, .int 0])), (ro, .inr (1, [.ref ra, .int 0])), (ra, .inl (cI, 32, .inl (f))), (ch, .inr (1, [ca, .int 0])), (rg, .inr (4, [.ref dl, .ref ll, .ref el, w3, w4])), (dl, .inr (6, [x0, .int 0, y0])), (ll, .inr (6, [x1, .int 0, y1])), (el, .inr (6, [x2, .int 0, y2])), (lg, .inr (5, [z0, .int 0, .int 0])), (ho, .inl (cL, 1, .inr (.inl (f0))))] sz) [(ho, .inl (cL, 1, .inr (.inl (u))))] [(cL, .long)]) (va_A [(h, .inr (0, [.ref ro, .ref ch, v2, v3, .ref rg, .ref lg, .int 0, .int 0])), (ro, .inr (1, [.ref ra, .int 0])), (ra, .inl (cI, 32, .inl (f))), (ch, .inr (1, [ca, .int 0])), (rg, .inr (4, [.ref dl, .ref ll, .ref el, w3, w4])), (dl, .inr (6, [x0, .int 0, y0])), (ll, .inr (6, [x1, .int 0, y1])), (el, .inr (6, [x2, .int 0, y2])), (lg, .inr (5, [z0, .int 0, .int 0])), (ho, .inl (cL, 1, .inr (.inl (f0))))] sz)) 1 6 (va_A [(h, .inr (0, [.ref ro, .ref ch, v2, v3, .ref rg, .ref lg, .int 0, .int 0])), (ro, .inr (1, [.ref ra, .int 0])), (ra, .inl (cI, 32, .inl (f))), (ch, .inr (1, [ca, .int 0])), (rg, .inr (4, [.ref dl, .ref ll, .ref el, w3, w4])), (dl, .inr (6, [x0, .int 0, y0])), (ll, .inr (6, [x1, .int 0, y1])), (el, .inr (6, [x2, .int 0, y2])), (lg, .inr (5, [z0, .int 0, .int 0])), (ho, .inl (cL, 1, .inr (.inl (f0))))] sz) := by
  refine va_MetW (cc := method_7_code) (maxL := 9) (ret := (some .int)) (hh := [(0, 18, 21, 21), (0, 18, 25, 26), (0, 18, 29, 13)]) (by decide) rfl ?_
  intro p e s m args below meth c s₁ B hml hv
  obtain ⟨rfl, hsz, hP, hK, hD0, hE⟩ := hv
  have hx := B.exec
  have hb := B.bytes
  have hr := B.returns
  have hts : ∀ w ∈ tw_G, w.before _ s = true := fun w h => atoms_spec (ws := w_law_transfer) B.pre w (List.mem_cons_of_mem _ h)
  have hown : s.vm.findClass "LandBookLaw" = some m.cls := findClass_of_methodNamed B.named
  have hlocks := B.notSynchronized
  subst hsz
  have hN := tw_nst hP
  have hD := hD0.self (sz := s.heap.size)
  generalize hAe : va_A [(h, .inr (0, [.ref ro, .ref ch, v2, v3, .ref rg, .ref lg, .int 0, .int 0])), (ro, .inr (1, [.ref ra, .int 0])), (ra, .inl (cI, 32, .inl (f))), (ch, .inr (1, [ca, .int 0])), (rg, .inr (4, [.ref dl, .ref ll, .ref el, w3, w4])), (dl, .inr (6, [x0, .int 0, y0])), (ll, .inr (6, [x1, .int 0, y1])), (el, .inr (6, [x2, .int 0, y2])), (lg, .inr (5, [z0, .int 0, .int 0])), (ho, .inl (cL, 1, .inr (.inl (f0))))] s.heap.size = A at hD hN ⊢
  have hA : ∀ q : Nat, s.heap.size ≤ q → A q := fun q h => by rw [← hAe]; exact Or.inr h
  have hS : va_S A s.heap s.heap [] := va_S.rf
  have hP : va_P (dC, dI) classes [(h, .inr (0, [.ref ro, .ref ch, v2, v3, .ref rg, .ref lg, .int 0, .int 0])), (ro, .inr (1, [.ref ra, .int 0])), (ra, .inl (cI, 32, .inl (f))), (ch, .inr (1, [ca, .int 0])), (rg, .inr (4, [.ref dl, .ref ll, .ref el, w3, w4])), (dl, .inr (6, [x0, .int 0, y0])), (ll, .inr (6, [x1, .int 0, y1])), (el, .inr (6, [x2, .int 0, y2])), (lg, .inr (5, [z0, .int 0, .int 0])), (ho, .inl (cL, 1, .inr (.inl (f0))))] s.heap := hP
  have hl := lv_entry ([.ref h, .int a0, .int a1, .int a2, .int a3, .int a4, .int a5, .ref ho]) (n := 9) (Nat.le_of_ble_eq_true rfl)
  rw [lg_entry_eq]
  generalize (lg_sl ([.ref h, .int a0, .int a1, .int a2, .int a3, .int a4, .int a5, .ref ho]) ++ List.replicate (9 - (lg_sl ([.ref h, .int a0, .int a1, .int a2, .int a3, .int a4, .int a5, .ref ho])).length) Slot.unset).toArray = ls at hl ⊢
  have hl : lv_has ls 9 [(0, .ref h), (1, .int a0), (2, .int a1), (3, .int a2), (4, .int a3), (5, .int a4), (6, .int a5), (7, .ref ho)] := hl
  have htab := tw_table B (atoms_spec (ws := w_law_transfer) B.pre _ List.mem_cons_self)
  refine lv_aload hx hb d_law_transfer_0 (lv_at hl 7 rfl) ?_
  refine lv_iconst (v := 0) hx hb d_law_transfer_2 (by decide) ?_
  refine lv_aload_n hx hb d_law_transfer_3 rfl (lv_at hl 0 rfl) ?_
  refine lv_iload_n hx hb d_law_transfer_4 rfl (lv_at hl 1 rfl) ?_
  refine lv_iload_n hx hb d_law_transfer_5 rfl (lv_at hl 2 rfl) ?_
  refine lv_iload_n hx hb d_law_transfer_6 rfl (lv_at hl 3 rfl) ?_
  refine lv_iload hx hb d_law_transfer_7 (lv_at hl 4 rfl) ?_
  refine lv_iload hx hb d_law_transfer_9 (lv_at hl 5 rfl) ?_
  refine lv_iload hx hb d_law_transfer_11 (lv_at hl 6 rfl) ?_
  refine tw_chk (tw_runV (As := [.int a0, .int a1, .int a2, .int a3, .int a4, .int a5]) (rest := [.int 0, .ref ho]) ⟨hx, hb, hml, hown, hts⟩ (c_transfer_down l hfl dC dI h rg ll (.ref ro) (.ref ch) v2 v3 (.ref lg) (.int 0) (.ref dl) (.ref el) w3 w4 x1 y1 0 0 a0 a1 a2 a3 a4 a5 (fun o => o.2 rfl)) (cwV 6 hts (tw_gV tk_279 tk_280 tk_281 tk_213 tk_282) rfl rfl rfl (by decide +kernel) ⟨Nat.le_of_ble_eq_true rfl, Nat.le_of_ble_eq_true rfl⟩) (tw_v2E (va_recv (q0 := 0) hK hP rfl rfl) (hP.sub (ws' := [(h, .inr (0, [.ref ro, .ref ch, v2, v3, .ref rg, .ref lg, .int 0, .int 0])), (rg, .inr (4, [.ref dl, .ref ll, .ref el, w3, w4])), (ll, .inr (6, [x1, .int 0, y1]))]) [0, 4, 6] rfl) (hK.sub (tys' := []) [] rfl) hE (tw_kst hN hS)) rfl rfl hl.1 rfl (lv_room (Nat.le_of_ble_eq_true rfl)) d_law_transfer_13 ⟨by show 1 ≤ 1; decide, by show 6 ≤ 6; decide⟩) (fun o => o.elim) (fun o x1 J2 j1 j2 j3 j4 => ?_)
  have hP := tw_P1 hP j3
  have hS := tw_S1 hS j2 j3
  refine tw_catch (pre := []) (post := [(0, 18, 25, 26), (0, 18, 29, 13)]) (sp := 0) (ep := 18) (hp := 21) (ct := 21) hown htab rfl j4 ⟨by decide, by decide⟩ (by decide) (hts _ tk_278) (fun y hy => by cases hy) ?_
  refine lv_astore (lv' := [(8, .ref x1), (0, .ref h), (1, .int a0), (2, .int a1), (3, .int a2), (4, .int a3), (5, .int a4), (6, .int a5), (7, .ref ho)]) hx hb d_law_transfer_21 hl (by decide) rfl (fun ls hl => ?_)
  refine lv_iconst (v := 1) hx hb d_law_transfer_23 (by decide) ?_
  have hP9 := hP.sub (ws' := [(ho, .inl (cL, 1, .inr (.inl (f0))))]) [9] rfl
  have hD9 := hD.sub (ws' := [(ho, .inl (cL, 1, .inr (.inl (f0))))]) [9] (by decide) rfl
  have hK9 := hK.sub (tys' := [(cL, .long)]) [1] rfl
  refine W.widen (k := 1) (n := 6) (by decide) (by decide) ?_
  exact W.iret (v := 1) hx hb hr (fun t ht hW => ⟨⟨1, f0, rfl, rfl, by rw [ht]; exact hP9, va_K.moved hW.alike hK9, hD9⟩, hS.F ht⟩) hS.2.2 d_law_transfer_24
theorem tk_283 : (Jvm.Cond.methodLink "LandBookLaw" (36 : Nat) ({ cls := "LandBook", name := "ease", desc := "(III)I" } : Jvm.MethodName)) ∈ tw_G := tw_in (List.mem_of_getElem? (i := 839) (by decide +kernel)) rfl
theorem tk_284 : (Jvm.Cond.instanceMethod ({ cls := "LandBook", name := "ease", desc := "(III)I" } : Jvm.MethodName)) ∈ tw_G := tw_in (List.mem_of_getElem? (i := 840) (by decide +kernel)) rfl
theorem tk_285 : (Jvm.Cond.selects "LandBook" ({ cls := "LandBook", name := "ease", desc := "(III)I" } : Jvm.MethodName) ({ cls := "LandBook", name := "ease", desc := "(III)I" } : Jvm.MethodName)) ∈ tw_G := tw_in (List.mem_of_getElem? (i := 841) (by decide +kernel)) rfl
theorem tk_286 : (Jvm.Cond.code ({ cls := "LandBook", name := "ease", desc := "(III)I" } : Jvm.MethodName) prog_1_method_7_code (7 : Nat) (Option.some Jvm.ClassFile.FieldType.int)) ∈ tw_G := tw_in (List.mem_of_getElem? (i := 842) (by decide +kernel)) rfl
abbrev y_law_ease : MethodName := ⟨"LandBookLaw", "ease", "(LLandBook;III[J)I"⟩
abbrev w_law_ease : List Cond := Cond.codeWith y_law_ease method_8_code 6 (some .int) [(0, 12, 15, 21), (0, 12, 19, 26), (0, 12, 23, 13)] :: tw_G
theorem d_law_ease_0 : decode method_8_code 0 = .ok (.aload 4, 2) := by decide +kernel
theorem d_law_ease_2 : decode method_8_code 2 = .ok (.iconst 0, 1) := by decide +kernel
theorem d_law_ease_3 : decode method_8_code 3 = .ok (.aload_n 0, 1) := by decide +kernel
theorem d_law_ease_4 : decode method_8_code 4 = .ok (.iload_n 1, 1) := by decide +kernel
theorem d_law_ease_5 : decode method_8_code 5 = .ok (.iload_n 2, 1) := by decide +kernel
theorem d_law_ease_6 : decode method_8_code 6 = .ok (.iload_n 3, 1) := by decide +kernel
theorem d_law_ease_7 : decode method_8_code 7 = .ok (.invokevirtual 36, 3) := by decide +kernel
theorem d_law_ease_15 : decode method_8_code 15 = .ok (.astore 5, 2) := by decide +kernel
theorem d_law_ease_17 : decode method_8_code 17 = .ok (.iconst 1, 1) := by decide +kernel
theorem d_law_ease_18 : decode method_8_code 18 = .ok (.ireturn, 1) := by decide +kernel
set_option maxHeartbeats 4000000 in
set_option maxRecDepth 100000 in
theorem c_law_ease (l : Launch) (hfl : l.flags = pinnedFlags ++ [noTraceFlag]) (dC : Nat → ClassId) (dI : Nat → Nat → Nat) (h sz ro ra ch rg dl ll el lg ho : Nat) (cI cL : ClassId) (f : Nat → Int32) (f0 : Nat → Int64) (v2 v3 ca w3 w4 x0 y0 x1 y1 x2 y2 z0 : Value) (a0 a1 a2 : Int32) : Met l y_law_ease w_law_ease ({ frames := 8, cells := 1, slots := 6, locals := 128 }) (tw_P4E (dC, dI) classes [(h, .inr (0, [.ref ro, .ref ch, v2, v3, .ref rg, .ref lg, .int 0, .int 0])), (ro, .inr (1, [.ref ra, .int 0])), (ra, .inl (cI, 32, .inl (f))), (ch, .inr (1, [ca, .int 0])), (rg, .inr (4, [.ref dl, .ref ll, .ref el, w3, w4])), (dl, .inr (6, [x0, .int 0, y0])), (ll, .inr (6, [x1, .int 0, y1])), (el, .inr (6, [x2, .int 0, y2])), (lg, .inr (5, [z0, .int 0, .int 0])), (ho, .inl (cL, 1, .inr (.inl (f0))))] [(cI, .int), (cL, .long)] sz [.ref h, .int a0, .int a1, .int a2, .ref ho]) (va_Qi (fun (r : Int32) (u : Nat → Int64) => r = 1) (fun u => tw_B dC dI (va_A [(h, .inr (0, [.ref ro, .ref ch, v2, v3, .ref rg, .ref lg, .int 0, .int 0])), (ro, .inr (1, [.ref ra, .int 0])), (ra, .inl (cI, 32, .inl (f))), (ch, .inr (1, [ca, .int 0])), (rg, .inr (4, [.ref dl, .ref ll, .ref el, w3, w4])), (dl, .inr (6, [x0, .int 0, y0])), (ll, .inr (6, [x1, .int 0, y1])), (el, .inr (6, [x2, .int 0, y2])), (lg, .inr (5, [z0, .int 0, .int 0])), (ho, .inl (cL, 1, .inr (.inl (f0))))] sz) [(ho, .inl (cL, 1, .inr (.inl (u))))] [(cL, .long)]) (va_A [(h, .inr (0, [.ref ro, .ref ch, v2, v3, .ref rg, .ref lg, .int 0, .int 0])), (ro, .inr (1, [.ref ra, .int 0])), (ra, .inl (cI, 32, .inl (f))), (ch, .inr (1, [ca, .int 0])), (rg, .inr (4, [.ref dl, .ref ll, .ref el, w3, w4])), (dl, .inr (6, [x0, .int 0, y0])), (ll, .inr (6, [x1, .int 0, y1])), (el, .inr (6, [x2, .int 0, y2])), (lg, .inr (5, [z0, .int 0, .int 0])), (ho, .inl (cL, 1, .inr (.inl (f0))))] sz)) 1 6 (va_A [(h, .inr (0, [.ref ro, .ref ch, v2, v3, .ref rg, .ref lg, .int 0, .int 0])), (ro, .inr (1, [.ref ra, .int 0])), (ra, .inl (cI, 32, .inl (f))), (ch, .inr (1, [ca, .int 0])), (rg, .inr (4, [.ref dl, .ref ll, .ref el, w3, w4])), (dl, .inr (6, [x0, .int 0, y0])), (ll, .inr (6, [x1, .int 0, y1])), (el, .inr (6, [x2, .int 0, y2])), (lg, .inr (5, [z0, .int 0, .int 0])), (ho, .inl (cL, 1, .inr (.inl (f0))))] sz) := by
  refine va_MetW (cc := method_8_code) (maxL := 6) (ret := (some .int)) (hh := [(0, 12, 15, 21), (0, 12, 19, 26), (0, 12, 23, 13)]) (by decide) rfl ?_
  intro p e s m args below meth c s₁ B hml hv
  obtain ⟨rfl, hsz, hP, hK, hD0, hE⟩ := hv
  have hx := B.exec
  have hb := B.bytes
  have hr := B.returns
  have hts : ∀ w ∈ tw_G, w.before _ s = true := fun w h => atoms_spec (ws := w_law_ease) B.pre w (List.mem_cons_of_mem _ h)
  have hown : s.vm.findClass "LandBookLaw" = some m.cls := findClass_of_methodNamed B.named
  have hlocks := B.notSynchronized
  subst hsz
  have hN := tw_nst hP
  have hD := hD0.self (sz := s.heap.size)
  generalize hAe : va_A [(h, .inr (0, [.ref ro, .ref ch, v2, v3, .ref rg, .ref lg, .int 0, .int 0])), (ro, .inr (1, [.ref ra, .int 0])), (ra, .inl (cI, 32, .inl (f))), (ch, .inr (1, [ca, .int 0])), (rg, .inr (4, [.ref dl, .ref ll, .ref el, w3, w4])), (dl, .inr (6, [x0, .int 0, y0])), (ll, .inr (6, [x1, .int 0, y1])), (el, .inr (6, [x2, .int 0, y2])), (lg, .inr (5, [z0, .int 0, .int 0])), (ho, .inl (cL, 1, .inr (.inl (f0))))] s.heap.size = A at hD hN ⊢
  have hA : ∀ q : Nat, s.heap.size ≤ q → A q := fun q h => by rw [← hAe]; exact Or.inr h
  have hS : va_S A s.heap s.heap [] := va_S.rf
  have hP : va_P (dC, dI) classes [(h, .inr (0, [.ref ro, .ref ch, v2, v3, .ref rg, .ref lg, .int 0, .int 0])), (ro, .inr (1, [.ref ra, .int 0])), (ra, .inl (cI, 32, .inl (f))), (ch, .inr (1, [ca, .int 0])), (rg, .inr (4, [.ref dl, .ref ll, .ref el, w3, w4])), (dl, .inr (6, [x0, .int 0, y0])), (ll, .inr (6, [x1, .int 0, y1])), (el, .inr (6, [x2, .int 0, y2])), (lg, .inr (5, [z0, .int 0, .int 0])), (ho, .inl (cL, 1, .inr (.inl (f0))))] s.heap := hP
  have hl := lv_entry ([.ref h, .int a0, .int a1, .int a2, .ref ho]) (n := 6) (Nat.le_of_ble_eq_true rfl)
  rw [lg_entry_eq]
  generalize (lg_sl ([.ref h, .int a0, .int a1, .int a2, .ref ho]) ++ List.replicate (6 - (lg_sl ([.ref h, .int a0, .int a1, .int a2, .ref ho])).length) Slot.unset).toArray = ls at hl ⊢
  have hl : lv_has ls 6 [(0, .ref h), (1, .int a0), (2, .int a1), (3, .int a2), (4, .ref ho)] := hl
  have htab := tw_table B (atoms_spec (ws := w_law_ease) B.pre _ List.mem_cons_self)
  refine lv_aload hx hb d_law_ease_0 (lv_at hl 4 rfl) ?_
  refine lv_iconst (v := 0) hx hb d_law_ease_2 (by decide) ?_
  refine lv_aload_n hx hb d_law_ease_3 rfl (lv_at hl 0 rfl) ?_
  refine lv_iload_n hx hb d_law_ease_4 rfl (lv_at hl 1 rfl) ?_
  refine lv_iload_n hx hb d_law_ease_5 rfl (lv_at hl 2 rfl) ?_
  refine lv_iload_n hx hb d_law_ease_6 rfl (lv_at hl 3 rfl) ?_
  refine tw_chk (tw_runV (As := [.int a0, .int a1, .int a2]) (rest := [.int 0, .ref ho]) ⟨hx, hb, hml, hown, hts⟩ (c_ease_down l hfl dC dI h rg ll (.ref ro) (.ref ch) v2 v3 (.ref lg) (.int 0) (.ref dl) (.ref el) w3 w4 x1 y1 0 0 a0 a1 a2 (fun o => o.2 rfl)) (cwV 3 hts (tw_gV tk_283 tk_284 tk_285 tk_213 tk_286) rfl rfl rfl (by decide +kernel) ⟨Nat.le_of_ble_eq_true rfl, Nat.le_of_ble_eq_true rfl⟩) (tw_v2E (va_recv (q0 := 0) hK hP rfl rfl) (hP.sub (ws' := [(h, .inr (0, [.ref ro, .ref ch, v2, v3, .ref rg, .ref lg, .int 0, .int 0])), (rg, .inr (4, [.ref dl, .ref ll, .ref el, w3, w4])), (ll, .inr (6, [x1, .int 0, y1]))]) [0, 4, 6] rfl) (hK.sub (tys' := []) [] rfl) hE (tw_kst hN hS)) rfl rfl hl.1 rfl (lv_room (Nat.le_of_ble_eq_true rfl)) d_law_ease_7 ⟨by show 1 ≤ 1; decide, by show 6 ≤ 6; decide⟩) (fun o => o.elim) (fun o x1 J2 j1 j2 j3 j4 => ?_)
  have hP := tw_P1 hP j3
  have hS := tw_S1 hS j2 j3
  refine tw_catch (pre := []) (post := [(0, 12, 19, 26), (0, 12, 23, 13)]) (sp := 0) (ep := 12) (hp := 15) (ct := 21) hown htab rfl j4 ⟨by decide, by decide⟩ (by decide) (hts _ tk_278) (fun y hy => by cases hy) ?_
  refine lv_astore (lv' := [(5, .ref x1), (0, .ref h), (1, .int a0), (2, .int a1), (3, .int a2), (4, .ref ho)]) hx hb d_law_ease_15 hl (by decide) rfl (fun ls hl => ?_)
  refine lv_iconst (v := 1) hx hb d_law_ease_17 (by decide) ?_
  have hP9 := hP.sub (ws' := [(ho, .inl (cL, 1, .inr (.inl (f0))))]) [9] rfl
  have hD9 := hD.sub (ws' := [(ho, .inl (cL, 1, .inr (.inl (f0))))]) [9] (by decide) rfl
  have hK9 := hK.sub (tys' := [(cL, .long)]) [1] rfl
  refine W.widen (k := 1) (n := 6) (by decide) (by decide) ?_
  exact W.iret (v := 1) hx hb hr (fun t ht hW => ⟨⟨1, f0, rfl, rfl, by rw [ht]; exact hP9, va_K.moved hW.alike hK9, hD9⟩, hS.F ht⟩) hS.2.2 d_law_ease_18
theorem tk_287 : (Jvm.Cond.methodLink "LandBookLaw" (39 : Nat) ({ cls := "LandBook", name := "release", desc := "(II)I" } : Jvm.MethodName)) ∈ tw_G := tw_in (List.mem_of_getElem? (i := 867) (by decide +kernel)) rfl
theorem tk_288 : (Jvm.Cond.instanceMethod ({ cls := "LandBook", name := "release", desc := "(II)I" } : Jvm.MethodName)) ∈ tw_G := tw_in (List.mem_of_getElem? (i := 868) (by decide +kernel)) rfl
theorem tk_289 : (Jvm.Cond.selects "LandBook" ({ cls := "LandBook", name := "release", desc := "(II)I" } : Jvm.MethodName) ({ cls := "LandBook", name := "release", desc := "(II)I" } : Jvm.MethodName)) ∈ tw_G := tw_in (List.mem_of_getElem? (i := 869) (by decide +kernel)) rfl
theorem tk_290 : (Jvm.Cond.code ({ cls := "LandBook", name := "release", desc := "(II)I" } : Jvm.MethodName) prog_1_method_8_code (5 : Nat) (Option.some Jvm.ClassFile.FieldType.int)) ∈ tw_G := tw_in (List.mem_of_getElem? (i := 870) (by decide +kernel)) rfl
abbrev y_law_release : MethodName := ⟨"LandBookLaw", "release", "(LLandBook;II[J)I"⟩
abbrev w_law_release : List Cond := Cond.codeWith y_law_release method_9_code 5 (some .int) [(0, 10, 13, 21), (0, 10, 17, 26), (0, 10, 21, 13)] :: tw_G
theorem d_law_release_0 : decode method_9_code 0 = .ok (.aload_n 3, 1) := by decide +kernel
theorem d_law_release_1 : decode method_9_code 1 = .ok (.iconst 0, 1) := by decide +kernel
theorem d_law_release_2 : decode method_9_code 2 = .ok (.aload_n 0, 1) := by decide +kernel
theorem d_law_release_3 : decode method_9_code 3 = .ok (.iload_n 1, 1) := by decide +kernel
theorem d_law_release_4 : decode method_9_code 4 = .ok (.iload_n 2, 1) := by decide +kernel
theorem d_law_release_5 : decode method_9_code 5 = .ok (.invokevirtual 39, 3) := by decide +kernel
theorem d_law_release_13 : decode method_9_code 13 = .ok (.astore 4, 2) := by decide +kernel
theorem d_law_release_15 : decode method_9_code 15 = .ok (.iconst 1, 1) := by decide +kernel
theorem d_law_release_16 : decode method_9_code 16 = .ok (.ireturn, 1) := by decide +kernel
set_option maxHeartbeats 4000000 in
set_option maxRecDepth 100000 in
theorem c_law_release (l : Launch) (hfl : l.flags = pinnedFlags ++ [noTraceFlag]) (dC : Nat → ClassId) (dI : Nat → Nat → Nat) (h sz ro ra ch rg dl ll el lg ho : Nat) (cI cL : ClassId) (f : Nat → Int32) (f0 : Nat → Int64) (v2 v3 ca w3 w4 x0 y0 x1 y1 x2 y2 z0 : Value) (a0 a1 : Int32) : Met l y_law_release w_law_release ({ frames := 8, cells := 1, slots := 6, locals := 126 }) (tw_P4E (dC, dI) classes [(h, .inr (0, [.ref ro, .ref ch, v2, v3, .ref rg, .ref lg, .int 0, .int 0])), (ro, .inr (1, [.ref ra, .int 0])), (ra, .inl (cI, 32, .inl (f))), (ch, .inr (1, [ca, .int 0])), (rg, .inr (4, [.ref dl, .ref ll, .ref el, w3, w4])), (dl, .inr (6, [x0, .int 0, y0])), (ll, .inr (6, [x1, .int 0, y1])), (el, .inr (6, [x2, .int 0, y2])), (lg, .inr (5, [z0, .int 0, .int 0])), (ho, .inl (cL, 1, .inr (.inl (f0))))] [(cI, .int), (cL, .long)] sz [.ref h, .int a0, .int a1, .ref ho]) (va_Qi (fun (r : Int32) (u : Nat → Int64) => r = 1) (fun u => tw_B dC dI (va_A [(h, .inr (0, [.ref ro, .ref ch, v2, v3, .ref rg, .ref lg, .int 0, .int 0])), (ro, .inr (1, [.ref ra, .int 0])), (ra, .inl (cI, 32, .inl (f))), (ch, .inr (1, [ca, .int 0])), (rg, .inr (4, [.ref dl, .ref ll, .ref el, w3, w4])), (dl, .inr (6, [x0, .int 0, y0])), (ll, .inr (6, [x1, .int 0, y1])), (el, .inr (6, [x2, .int 0, y2])), (lg, .inr (5, [z0, .int 0, .int 0])), (ho, .inl (cL, 1, .inr (.inl (f0))))] sz) [(ho, .inl (cL, 1, .inr (.inl (u))))] [(cL, .long)]) (va_A [(h, .inr (0, [.ref ro, .ref ch, v2, v3, .ref rg, .ref lg, .int 0, .int 0])), (ro, .inr (1, [.ref ra, .int 0])), (ra, .inl (cI, 32, .inl (f))), (ch, .inr (1, [ca, .int 0])), (rg, .inr (4, [.ref dl, .ref ll, .ref el, w3, w4])), (dl, .inr (6, [x0, .int 0, y0])), (ll, .inr (6, [x1, .int 0, y1])), (el, .inr (6, [x2, .int 0, y2])), (lg, .inr (5, [z0, .int 0, .int 0])), (ho, .inl (cL, 1, .inr (.inl (f0))))] sz)) 1 6 (va_A [(h, .inr (0, [.ref ro, .ref ch, v2, v3, .ref rg, .ref lg, .int 0, .int 0])), (ro, .inr (1, [.ref ra, .int 0])), (ra, .inl (cI, 32, .inl (f))), (ch, .inr (1, [ca, .int 0])), (rg, .inr (4, [.ref dl, .ref ll, .ref el, w3, w4])), (dl, .inr (6, [x0, .int 0, y0])), (ll, .inr (6, [x1, .int 0, y1])), (el, .inr (6, [x2, .int 0, y2])), (lg, .inr (5, [z0, .int 0, .int 0])), (ho, .inl (cL, 1, .inr (.inl (f0))))] sz) := by
  refine va_MetW (cc := method_9_code) (maxL := 5) (ret := (some .int)) (hh := [(0, 10, 13, 21), (0, 10, 17, 26), (0, 10, 21, 13)]) (by decide) rfl ?_
  intro p e s m args below meth c s₁ B hml hv
  obtain ⟨rfl, hsz, hP, hK, hD0, hE⟩ := hv
  have hx := B.exec
  have hb := B.bytes
  have hr := B.returns
  have hts : ∀ w ∈ tw_G, w.before _ s = true := fun w h => atoms_spec (ws := w_law_release) B.pre w (List.mem_cons_of_mem _ h)
  have hown : s.vm.findClass "LandBookLaw" = some m.cls := findClass_of_methodNamed B.named
  have hlocks := B.notSynchronized
  subst hsz
  have hN := tw_nst hP
  have hD := hD0.self (sz := s.heap.size)
  generalize hAe : va_A [(h, .inr (0, [.ref ro, .ref ch, v2, v3, .ref rg, .ref lg, .int 0, .int 0])), (ro, .inr (1, [.ref ra, .int 0])), (ra, .inl (cI, 32, .inl (f))), (ch, .inr (1, [ca, .int 0])), (rg, .inr (4, [.ref dl, .ref ll, .ref el, w3, w4])), (dl, .inr (6, [x0, .int 0, y0])), (ll, .inr (6, [x1, .int 0, y1])), (el, .inr (6, [x2, .int 0, y2])), (lg, .inr (5, [z0, .int 0, .int 0])), (ho, .inl (cL, 1, .inr (.inl (f0))))] s.heap.size = A at hD hN ⊢
  have hA : ∀ q : Nat, s.heap.size ≤ q → A q := fun q h => by rw [← hAe]; exact Or.inr h
  have hS : va_S A s.heap s.heap [] := va_S.rf
  have hP : va_P (dC, dI) classes [(h, .inr (0, [.ref ro, .ref ch, v2, v3, .ref rg, .ref lg, .int 0, .int 0])), (ro, .inr (1, [.ref ra, .int 0])), (ra, .inl (cI, 32, .inl (f))), (ch, .inr (1, [ca, .int 0])), (rg, .inr (4, [.ref dl, .ref ll, .ref el, w3, w4])), (dl, .inr (6, [x0, .int 0, y0])), (ll, .inr (6, [x1, .int 0, y1])), (el, .inr (6, [x2, .int 0, y2])), (lg, .inr (5, [z0, .int 0, .int 0])), (ho, .inl (cL, 1, .inr (.inl (f0))))] s.heap := hP
  have hl := lv_entry ([.ref h, .int a0, .int a1, .ref ho]) (n := 5) (Nat.le_of_ble_eq_true rfl)
  rw [lg_entry_eq]
  generalize (lg_sl ([.ref h, .int a0, .int a1, .ref ho]) ++ List.replicate (5 - (lg_sl ([.ref h, .int a0, .int a1, .ref ho])).length) Slot.unset).toArray = ls at hl ⊢
  have hl : lv_has ls 5 [(0, .ref h), (1, .int a0), (2, .int a1), (3, .ref ho)] := hl
  have htab := tw_table B (atoms_spec (ws := w_law_release) B.pre _ List.mem_cons_self)
  refine lv_aload_n hx hb d_law_release_0 rfl (lv_at hl 3 rfl) ?_
  refine lv_iconst (v := 0) hx hb d_law_release_1 (by decide) ?_
  refine lv_aload_n hx hb d_law_release_2 rfl (lv_at hl 0 rfl) ?_
  refine lv_iload_n hx hb d_law_release_3 rfl (lv_at hl 1 rfl) ?_
  refine lv_iload_n hx hb d_law_release_4 rfl (lv_at hl 2 rfl) ?_
  refine tw_chk (tw_runV (As := [.int a0, .int a1]) (rest := [.int 0, .ref ho]) ⟨hx, hb, hml, hown, hts⟩ (c_release_down l hfl dC dI h rg ll (.ref ro) (.ref ch) v2 v3 (.ref lg) (.int 0) (.ref dl) (.ref el) w3 w4 x1 y1 0 0 a0 a1 (fun o => o.2 rfl)) (cwV 2 hts (tw_gV tk_287 tk_288 tk_289 tk_213 tk_290) rfl rfl rfl (by decide +kernel) ⟨Nat.le_of_ble_eq_true rfl, Nat.le_of_ble_eq_true rfl⟩) (tw_v2E (va_recv (q0 := 0) hK hP rfl rfl) (hP.sub (ws' := [(h, .inr (0, [.ref ro, .ref ch, v2, v3, .ref rg, .ref lg, .int 0, .int 0])), (rg, .inr (4, [.ref dl, .ref ll, .ref el, w3, w4])), (ll, .inr (6, [x1, .int 0, y1]))]) [0, 4, 6] rfl) (hK.sub (tys' := []) [] rfl) hE (tw_kst hN hS)) rfl rfl hl.1 rfl (lv_room (Nat.le_of_ble_eq_true rfl)) d_law_release_5 ⟨by show 1 ≤ 1; decide, by show 6 ≤ 6; decide⟩) (fun o => o.elim) (fun o x1 J2 j1 j2 j3 j4 => ?_)
  have hP := tw_P1 hP j3
  have hS := tw_S1 hS j2 j3
  refine tw_catch (pre := []) (post := [(0, 10, 17, 26), (0, 10, 21, 13)]) (sp := 0) (ep := 10) (hp := 13) (ct := 21) hown htab rfl j4 ⟨by decide, by decide⟩ (by decide) (hts _ tk_278) (fun y hy => by cases hy) ?_
  refine lv_astore (lv' := [(4, .ref x1), (0, .ref h), (1, .int a0), (2, .int a1), (3, .ref ho)]) hx hb d_law_release_13 hl (by decide) rfl (fun ls hl => ?_)
  refine lv_iconst (v := 1) hx hb d_law_release_15 (by decide) ?_
  have hP9 := hP.sub (ws' := [(ho, .inl (cL, 1, .inr (.inl (f0))))]) [9] rfl
  have hD9 := hD.sub (ws' := [(ho, .inl (cL, 1, .inr (.inl (f0))))]) [9] (by decide) rfl
  have hK9 := hK.sub (tys' := [(cL, .long)]) [1] rfl
  refine W.widen (k := 1) (n := 6) (by decide) (by decide) ?_
  exact W.iret (v := 1) hx hb hr (fun t ht hW => ⟨⟨1, f0, rfl, rfl, by rw [ht]; exact hP9, va_K.moved hW.alike hK9, hD9⟩, hS.F ht⟩) hS.2.2 d_law_release_16
theorem tk_291 : (Jvm.Cond.methodLink "LandBookLaw" (42 : Nat) ({ cls := "LandBook", name := "lotAt", desc := "(IIII)I" } : Jvm.MethodName)) ∈ tw_G := tw_in (List.mem_of_getElem? (i := 886) (by decide +kernel)) rfl
theorem tk_292 : (Jvm.Cond.instanceMethod ({ cls := "LandBook", name := "lotAt", desc := "(IIII)I" } : Jvm.MethodName)) ∈ tw_G := tw_in (List.mem_of_getElem? (i := 887) (by decide +kernel)) rfl
theorem tk_293 : (Jvm.Cond.selects "LandBook" ({ cls := "LandBook", name := "lotAt", desc := "(IIII)I" } : Jvm.MethodName) ({ cls := "LandBook", name := "lotAt", desc := "(IIII)I" } : Jvm.MethodName)) ∈ tw_G := tw_in (List.mem_of_getElem? (i := 888) (by decide +kernel)) rfl
theorem tk_294 : (Jvm.Cond.code ({ cls := "LandBook", name := "lotAt", desc := "(IIII)I" } : Jvm.MethodName) prog_1_method_9_code (6 : Nat) (Option.some Jvm.ClassFile.FieldType.int)) ∈ tw_G := tw_in (List.mem_of_getElem? (i := 889) (by decide +kernel)) rfl
abbrev y_law_lotAt : MethodName := ⟨"LandBookLaw", "lotAt", "(LLandBook;IIII[J)I"⟩
abbrev w_law_lotAt : List Cond := Cond.codeWith y_law_lotAt method_10_code 7 (some .int) [(0, 14, 17, 21), (0, 14, 21, 13)] :: tw_G
theorem d_law_lotAt_0 : decode method_10_code 0 = .ok (.aload 5, 2) := by decide +kernel
theorem d_law_lotAt_2 : decode method_10_code 2 = .ok (.iconst 0, 1) := by decide +kernel
theorem d_law_lotAt_3 : decode method_10_code 3 = .ok (.aload_n 0, 1) := by decide +kernel
theorem d_law_lotAt_4 : decode method_10_code 4 = .ok (.iload_n 1, 1) := by decide +kernel
theorem d_law_lotAt_5 : decode method_10_code 5 = .ok (.iload_n 2, 1) := by decide +kernel
theorem d_law_lotAt_6 : decode method_10_code 6 = .ok (.iload_n 3, 1) := by decide +kernel
theorem d_law_lotAt_7 : decode method_10_code 7 = .ok (.iload 4, 2) := by decide +kernel
theorem d_law_lotAt_9 : decode method_10_code 9 = .ok (.invokevirtual 42, 3) := by decide +kernel
theorem d_law_lotAt_17 : decode method_10_code 17 = .ok (.astore 6, 2) := by decide +kernel
theorem d_law_lotAt_19 : decode method_10_code 19 = .ok (.iconst 1, 1) := by decide +kernel
theorem d_law_lotAt_20 : decode method_10_code 20 = .ok (.ireturn, 1) := by decide +kernel
set_option maxHeartbeats 4000000 in
set_option maxRecDepth 100000 in
theorem c_law_lotAt (l : Launch) (hfl : l.flags = pinnedFlags ++ [noTraceFlag]) (dC : Nat → ClassId) (dI : Nat → Nat → Nat) (h sz ro ra ch rg dl ll el lg ho : Nat) (cI cL : ClassId) (f : Nat → Int32) (f0 : Nat → Int64) (v2 v3 ca w3 w4 x0 y0 x1 y1 x2 y2 z0 : Value) (a0 a1 a2 a3 : Int32) : Met l y_law_lotAt w_law_lotAt ({ frames := 8, cells := 1, slots := 6, locals := 127 }) (tw_P4E (dC, dI) classes [(h, .inr (0, [.ref ro, .ref ch, v2, v3, .ref rg, .ref lg, .int 0, .int 0])), (ro, .inr (1, [.ref ra, .int 0])), (ra, .inl (cI, 32, .inl (f))), (ch, .inr (1, [ca, .int 0])), (rg, .inr (4, [.ref dl, .ref ll, .ref el, w3, w4])), (dl, .inr (6, [x0, .int 0, y0])), (ll, .inr (6, [x1, .int 0, y1])), (el, .inr (6, [x2, .int 0, y2])), (lg, .inr (5, [z0, .int 0, .int 0])), (ho, .inl (cL, 1, .inr (.inl (f0))))] [(cI, .int), (cL, .long)] sz [.ref h, .int a0, .int a1, .int a2, .int a3, .ref ho]) (va_Qi (fun (r : Int32) (u : Nat → Int64) => r = 1) (fun u => tw_B dC dI (va_A [(h, .inr (0, [.ref ro, .ref ch, v2, v3, .ref rg, .ref lg, .int 0, .int 0])), (ro, .inr (1, [.ref ra, .int 0])), (ra, .inl (cI, 32, .inl (f))), (ch, .inr (1, [ca, .int 0])), (rg, .inr (4, [.ref dl, .ref ll, .ref el, w3, w4])), (dl, .inr (6, [x0, .int 0, y0])), (ll, .inr (6, [x1, .int 0, y1])), (el, .inr (6, [x2, .int 0, y2])), (lg, .inr (5, [z0, .int 0, .int 0])), (ho, .inl (cL, 1, .inr (.inl (f0))))] sz) [(ho, .inl (cL, 1, .inr (.inl (u))))] [(cL, .long)]) (va_A [(h, .inr (0, [.ref ro, .ref ch, v2, v3, .ref rg, .ref lg, .int 0, .int 0])), (ro, .inr (1, [.ref ra, .int 0])), (ra, .inl (cI, 32, .inl (f))), (ch, .inr (1, [ca, .int 0])), (rg, .inr (4, [.ref dl, .ref ll, .ref el, w3, w4])), (dl, .inr (6, [x0, .int 0, y0])), (ll, .inr (6, [x1, .int 0, y1])), (el, .inr (6, [x2, .int 0, y2])), (lg, .inr (5, [z0, .int 0, .int 0])), (ho, .inl (cL, 1, .inr (.inl (f0))))] sz)) 1 6 (va_A [(h, .inr (0, [.ref ro, .ref ch, v2, v3, .ref rg, .ref lg, .int 0, .int 0])), (ro, .inr (1, [.ref ra, .int 0])), (ra, .inl (cI, 32, .inl (f))), (ch, .inr (1, [ca, .int 0])), (rg, .inr (4, [.ref dl, .ref ll, .ref el, w3, w4])), (dl, .inr (6, [x0, .int 0, y0])), (ll, .inr (6, [x1, .int 0, y1])), (el, .inr (6, [x2, .int 0, y2])), (lg, .inr (5, [z0, .int 0, .int 0])), (ho, .inl (cL, 1, .inr (.inl (f0))))] sz) := by
  refine va_MetW (cc := method_10_code) (maxL := 7) (ret := (some .int)) (hh := [(0, 14, 17, 21), (0, 14, 21, 13)]) (by decide) rfl ?_
  intro p e s m args below meth c s₁ B hml hv
  obtain ⟨rfl, hsz, hP, hK, hD0, hE⟩ := hv
  have hx := B.exec
  have hb := B.bytes
  have hr := B.returns
  have hts : ∀ w ∈ tw_G, w.before _ s = true := fun w h => atoms_spec (ws := w_law_lotAt) B.pre w (List.mem_cons_of_mem _ h)
  have hown : s.vm.findClass "LandBookLaw" = some m.cls := findClass_of_methodNamed B.named
  have hlocks := B.notSynchronized
  subst hsz
  have hN := tw_nst hP
  have hD := hD0.self (sz := s.heap.size)
  generalize hAe : va_A [(h, .inr (0, [.ref ro, .ref ch, v2, v3, .ref rg, .ref lg, .int 0, .int 0])), (ro, .inr (1, [.ref ra, .int 0])), (ra, .inl (cI, 32, .inl (f))), (ch, .inr (1, [ca, .int 0])), (rg, .inr (4, [.ref dl, .ref ll, .ref el, w3, w4])), (dl, .inr (6, [x0, .int 0, y0])), (ll, .inr (6, [x1, .int 0, y1])), (el, .inr (6, [x2, .int 0, y2])), (lg, .inr (5, [z0, .int 0, .int 0])), (ho, .inl (cL, 1, .inr (.inl (f0))))] s.heap.size = A at hD hN ⊢
  have hA : ∀ q : Nat, s.heap.size ≤ q → A q := fun q h => by rw [← hAe]; exact Or.inr h
  have hS : va_S A s.heap s.heap [] := va_S.rf
  have hP : va_P (dC, dI) classes [(h, .inr (0, [.ref ro, .ref ch, v2, v3, .ref rg, .ref lg, .int 0, .int 0])), (ro, .inr (1, [.ref ra, .int 0])), (ra, .inl (cI, 32, .inl (f))), (ch, .inr (1, [ca, .int 0])), (rg, .inr (4, [.ref dl, .ref ll, .ref el, w3, w4])), (dl, .inr (6, [x0, .int 0, y0])), (ll, .inr (6, [x1, .int 0, y1])), (el, .inr (6, [x2, .int 0, y2])), (lg, .inr (5, [z0, .int 0, .int 0])), (ho, .inl (cL, 1, .inr (.inl (f0))))] s.heap := hP
  have hl := lv_entry ([.ref h, .int a0, .int a1, .int a2, .int a3, .ref ho]) (n := 7) (Nat.le_of_ble_eq_true rfl)
  rw [lg_entry_eq]
  generalize (lg_sl ([.ref h, .int a0, .int a1, .int a2, .int a3, .ref ho]) ++ List.replicate (7 - (lg_sl ([.ref h, .int a0, .int a1, .int a2, .int a3, .ref ho])).length) Slot.unset).toArray = ls at hl ⊢
  have hl : lv_has ls 7 [(0, .ref h), (1, .int a0), (2, .int a1), (3, .int a2), (4, .int a3), (5, .ref ho)] := hl
  have htab := tw_table B (atoms_spec (ws := w_law_lotAt) B.pre _ List.mem_cons_self)
  refine lv_aload hx hb d_law_lotAt_0 (lv_at hl 5 rfl) ?_
  refine lv_iconst (v := 0) hx hb d_law_lotAt_2 (by decide) ?_
  refine lv_aload_n hx hb d_law_lotAt_3 rfl (lv_at hl 0 rfl) ?_
  refine lv_iload_n hx hb d_law_lotAt_4 rfl (lv_at hl 1 rfl) ?_
  refine lv_iload_n hx hb d_law_lotAt_5 rfl (lv_at hl 2 rfl) ?_
  refine lv_iload_n hx hb d_law_lotAt_6 rfl (lv_at hl 3 rfl) ?_
  refine lv_iload hx hb d_law_lotAt_7 (lv_at hl 4 rfl) ?_
  refine tw_chk (tw_runV (As := [.int a0, .int a1, .int a2, .int a3]) (rest := [.int 0, .ref ho]) ⟨hx, hb, hml, hown, hts⟩ (c_lotAt_down l hfl dC dI h rg ll (.ref ro) (.ref ch) v2 v3 (.ref lg) (.int 0) (.ref dl) (.ref el) w3 w4 x1 y1 0 0 a0 a1 a2 a3 (fun o => o.2 rfl)) (cwV 4 hts (tw_gV tk_291 tk_292 tk_293 tk_213 tk_294) rfl rfl rfl (by decide +kernel) ⟨Nat.le_of_ble_eq_true rfl, Nat.le_of_ble_eq_true rfl⟩) (tw_v2E (va_recv (q0 := 0) hK hP rfl rfl) (hP.sub (ws' := [(h, .inr (0, [.ref ro, .ref ch, v2, v3, .ref rg, .ref lg, .int 0, .int 0])), (rg, .inr (4, [.ref dl, .ref ll, .ref el, w3, w4])), (ll, .inr (6, [x1, .int 0, y1]))]) [0, 4, 6] rfl) (hK.sub (tys' := []) [] rfl) hE (tw_kst hN hS)) rfl rfl hl.1 rfl (lv_room (Nat.le_of_ble_eq_true rfl)) d_law_lotAt_9 ⟨by show 1 ≤ 1; decide, by show 6 ≤ 6; decide⟩) (fun o => o.elim) (fun o x1 J2 j1 j2 j3 j4 => ?_)
  have hP := tw_P1 hP j3
  have hS := tw_S1 hS j2 j3
  refine tw_catch (pre := []) (post := [(0, 14, 21, 13)]) (sp := 0) (ep := 14) (hp := 17) (ct := 21) hown htab rfl j4 ⟨by decide, by decide⟩ (by decide) (hts _ tk_278) (fun y hy => by cases hy) ?_
  refine lv_astore (lv' := [(6, .ref x1), (0, .ref h), (1, .int a0), (2, .int a1), (3, .int a2), (4, .int a3), (5, .ref ho)]) hx hb d_law_lotAt_17 hl (by decide) rfl (fun ls hl => ?_)
  refine lv_iconst (v := 1) hx hb d_law_lotAt_19 (by decide) ?_
  have hP9 := hP.sub (ws' := [(ho, .inl (cL, 1, .inr (.inl (f0))))]) [9] rfl
  have hD9 := hD.sub (ws' := [(ho, .inl (cL, 1, .inr (.inl (f0))))]) [9] (by decide) rfl
  have hK9 := hK.sub (tys' := [(cL, .long)]) [1] rfl
  refine W.widen (k := 1) (n := 6) (by decide) (by decide) ?_
  exact W.iret (v := 1) hx hb hr (fun t ht hW => ⟨⟨1, f0, rfl, rfl, by rw [ht]; exact hP9, va_K.moved hW.alike hK9, hD9⟩, hS.F ht⟩) hS.2.2 d_law_lotAt_20
theorem tk_295 : (Jvm.Cond.methodLink "LandBookLaw" (46 : Nat) ({ cls := "LandBook", name := "area2", desc := "(III)I" } : Jvm.MethodName)) ∈ tw_G := tw_in (List.mem_of_getElem? (i := 899) (by decide +kernel)) rfl
theorem tk_296 : (Jvm.Cond.instanceMethod ({ cls := "LandBook", name := "area2", desc := "(III)I" } : Jvm.MethodName)) ∈ tw_G := tw_in (List.mem_of_getElem? (i := 900) (by decide +kernel)) rfl
theorem tk_297 : (Jvm.Cond.selects "LandBook" ({ cls := "LandBook", name := "area2", desc := "(III)I" } : Jvm.MethodName) ({ cls := "LandBook", name := "area2", desc := "(III)I" } : Jvm.MethodName)) ∈ tw_G := tw_in (List.mem_of_getElem? (i := 901) (by decide +kernel)) rfl
theorem tk_298 : (Jvm.Cond.code ({ cls := "LandBook", name := "area2", desc := "(III)I" } : Jvm.MethodName) prog_1_method_10_code (4 : Nat) (Option.some Jvm.ClassFile.FieldType.int)) ∈ tw_G := tw_in (List.mem_of_getElem? (i := 902) (by decide +kernel)) rfl
abbrev y_law_area2 : MethodName := ⟨"LandBookLaw", "area2", "(LLandBook;III[J)I"⟩
abbrev w_law_area2 : List Cond := Cond.codeWith y_law_area2 method_11_code 6 (some .int) [(0, 12, 15, 21), (0, 12, 19, 26), (0, 12, 23, 13)] :: tw_G
theorem d_law_area2_0 : decode method_11_code 0 = .ok (.aload 4, 2) := by decide +kernel
theorem d_law_area2_2 : decode method_11_code 2 = .ok (.iconst 0, 1) := by decide +kernel
theorem d_law_area2_3 : decode method_11_code 3 = .ok (.aload_n 0, 1) := by decide +kernel
theorem d_law_area2_4 : decode method_11_code 4 = .ok (.iload_n 1, 1) := by decide +kernel
theorem d_law_area2_5 : decode method_11_code 5 = .ok (.iload_n 2, 1) := by decide +kernel
theorem d_law_area2_6 : decode method_11_code 6 = .ok (.iload_n 3, 1) := by decide +kernel
theorem d_law_area2_7 : decode method_11_code 7 = .ok (.invokevirtual 46, 3) := by decide +kernel
theorem d_law_area2_15 : decode method_11_code 15 = .ok (.astore 5, 2) := by decide +kernel
theorem d_law_area2_17 : decode method_11_code 17 = .ok (.iconst 1, 1) := by decide +kernel
theorem d_law_area2_18 : decode method_11_code 18 = .ok (.ireturn, 1) := by decide +kernel
set_option maxHeartbeats 4000000 in
set_option maxRecDepth 100000 in
theorem c_law_area2 (l : Launch) (hfl : l.flags = pinnedFlags ++ [noTraceFlag]) (dC : Nat → ClassId) (dI : Nat → Nat → Nat) (h sz ro ra ch rg dl ll el lg ho : Nat) (cI cL : ClassId) (f : Nat → Int32) (f0 : Nat → Int64) (v2 v3 ca w3 w4 x0 y0 x1 y1 x2 y2 z0 : Value) (a0 a1 a2 : Int32) : Met l y_law_area2 w_law_area2 ({ frames := 8, cells := 1, slots := 6, locals := 125 }) (tw_P4E (dC, dI) classes [(h, .inr (0, [.ref ro, .ref ch, v2, v3, .ref rg, .ref lg, .int 0, .int 0])), (ro, .inr (1, [.ref ra, .int 0])), (ra, .inl (cI, 32, .inl (f))), (ch, .inr (1, [ca, .int 0])), (rg, .inr (4, [.ref dl, .ref ll, .ref el, w3, w4])), (dl, .inr (6, [x0, .int 0, y0])), (ll, .inr (6, [x1, .int 0, y1])), (el, .inr (6, [x2, .int 0, y2])), (lg, .inr (5, [z0, .int 0, .int 0])), (ho, .inl (cL, 1, .inr (.inl (f0))))] [(cI, .int), (cL, .long)] sz [.ref h, .int a0, .int a1, .int a2, .ref ho]) (va_Qi (fun (r : Int32) (u : Nat → Int64) => r = 1) (fun u => tw_B dC dI (va_A [(h, .inr (0, [.ref ro, .ref ch, v2, v3, .ref rg, .ref lg, .int 0, .int 0])), (ro, .inr (1, [.ref ra, .int 0])), (ra, .inl (cI, 32, .inl (f))), (ch, .inr (1, [ca, .int 0])), (rg, .inr (4, [.ref dl, .ref ll, .ref el, w3, w4])), (dl, .inr (6, [x0, .int 0, y0])), (ll, .inr (6, [x1, .int 0, y1])), (el, .inr (6, [x2, .int 0, y2])), (lg, .inr (5, [z0, .int 0, .int 0])), (ho, .inl (cL, 1, .inr (.inl (f0))))] sz) [(ho, .inl (cL, 1, .inr (.inl (u))))] [(cL, .long)]) (va_A [(h, .inr (0, [.ref ro, .ref ch, v2, v3, .ref rg, .ref lg, .int 0, .int 0])), (ro, .inr (1, [.ref ra, .int 0])), (ra, .inl (cI, 32, .inl (f))), (ch, .inr (1, [ca, .int 0])), (rg, .inr (4, [.ref dl, .ref ll, .ref el, w3, w4])), (dl, .inr (6, [x0, .int 0, y0])), (ll, .inr (6, [x1, .int 0, y1])), (el, .inr (6, [x2, .int 0, y2])), (lg, .inr (5, [z0, .int 0, .int 0])), (ho, .inl (cL, 1, .inr (.inl (f0))))] sz)) 1 6 (va_A [(h, .inr (0, [.ref ro, .ref ch, v2, v3, .ref rg, .ref lg, .int 0, .int 0])), (ro, .inr (1, [.ref ra, .int 0])), (ra, .inl (cI, 32, .inl (f))), (ch, .inr (1, [ca, .int 0])), (rg, .inr (4, [.ref dl, .ref ll, .ref el, w3, w4])), (dl, .inr (6, [x0, .int 0, y0])), (ll, .inr (6, [x1, .int 0, y1])), (el, .inr (6, [x2, .int 0, y2])), (lg, .inr (5, [z0, .int 0, .int 0])), (ho, .inl (cL, 1, .inr (.inl (f0))))] sz) := by
  refine va_MetW (cc := method_11_code) (maxL := 6) (ret := (some .int)) (hh := [(0, 12, 15, 21), (0, 12, 19, 26), (0, 12, 23, 13)]) (by decide) rfl ?_
  intro p e s m args below meth c s₁ B hml hv
  obtain ⟨rfl, hsz, hP, hK, hD0, hE⟩ := hv
  have hx := B.exec
  have hb := B.bytes
  have hr := B.returns
  have hts : ∀ w ∈ tw_G, w.before _ s = true := fun w h => atoms_spec (ws := w_law_area2) B.pre w (List.mem_cons_of_mem _ h)
  have hown : s.vm.findClass "LandBookLaw" = some m.cls := findClass_of_methodNamed B.named
  have hlocks := B.notSynchronized
  subst hsz
  have hN := tw_nst hP
  have hD := hD0.self (sz := s.heap.size)
  generalize hAe : va_A [(h, .inr (0, [.ref ro, .ref ch, v2, v3, .ref rg, .ref lg, .int 0, .int 0])), (ro, .inr (1, [.ref ra, .int 0])), (ra, .inl (cI, 32, .inl (f))), (ch, .inr (1, [ca, .int 0])), (rg, .inr (4, [.ref dl, .ref ll, .ref el, w3, w4])), (dl, .inr (6, [x0, .int 0, y0])), (ll, .inr (6, [x1, .int 0, y1])), (el, .inr (6, [x2, .int 0, y2])), (lg, .inr (5, [z0, .int 0, .int 0])), (ho, .inl (cL, 1, .inr (.inl (f0))))] s.heap.size = A at hD hN ⊢
  have hA : ∀ q : Nat, s.heap.size ≤ q → A q := fun q h => by rw [← hAe]; exact Or.inr h
  have hS : va_S A s.heap s.heap [] := va_S.rf
  have hP : va_P (dC, dI) classes [(h, .inr (0, [.ref ro, .ref ch, v2, v3, .ref rg, .ref lg, .int 0, .int 0])), (ro, .inr (1, [.ref ra, .int 0])), (ra, .inl (cI, 32, .inl (f))), (ch, .inr (1, [ca, .int 0])), (rg, .inr (4, [.ref dl, .ref ll, .ref el, w3, w4])), (dl, .inr (6, [x0, .int 0, y0])), (ll, .inr (6, [x1, .int 0, y1])), (el, .inr (6, [x2, .int 0, y2])), (lg, .inr (5, [z0, .int 0, .int 0])), (ho, .inl (cL, 1, .inr (.inl (f0))))] s.heap := hP
  have hl := lv_entry ([.ref h, .int a0, .int a1, .int a2, .ref ho]) (n := 6) (Nat.le_of_ble_eq_true rfl)
  rw [lg_entry_eq]
  generalize (lg_sl ([.ref h, .int a0, .int a1, .int a2, .ref ho]) ++ List.replicate (6 - (lg_sl ([.ref h, .int a0, .int a1, .int a2, .ref ho])).length) Slot.unset).toArray = ls at hl ⊢
  have hl : lv_has ls 6 [(0, .ref h), (1, .int a0), (2, .int a1), (3, .int a2), (4, .ref ho)] := hl
  have htab := tw_table B (atoms_spec (ws := w_law_area2) B.pre _ List.mem_cons_self)
  refine lv_aload hx hb d_law_area2_0 (lv_at hl 4 rfl) ?_
  refine lv_iconst (v := 0) hx hb d_law_area2_2 (by decide) ?_
  refine lv_aload_n hx hb d_law_area2_3 rfl (lv_at hl 0 rfl) ?_
  refine lv_iload_n hx hb d_law_area2_4 rfl (lv_at hl 1 rfl) ?_
  refine lv_iload_n hx hb d_law_area2_5 rfl (lv_at hl 2 rfl) ?_
  refine lv_iload_n hx hb d_law_area2_6 rfl (lv_at hl 3 rfl) ?_
  refine tw_chk (tw_runV (As := [.int a0, .int a1, .int a2]) (rest := [.int 0, .ref ho]) ⟨hx, hb, hml, hown, hts⟩ (c_area2_down l hfl dC dI h rg ll (.ref ro) (.ref ch) v2 v3 (.ref lg) (.int 0) (.ref dl) (.ref el) w3 w4 x1 y1 0 0 a0 a1 a2 (fun o => o.2 rfl)) (cwV 3 hts (tw_gV tk_295 tk_296 tk_297 tk_213 tk_298) rfl rfl rfl (by decide +kernel) ⟨Nat.le_of_ble_eq_true rfl, Nat.le_of_ble_eq_true rfl⟩) (tw_v2E (va_recv (q0 := 0) hK hP rfl rfl) (hP.sub (ws' := [(h, .inr (0, [.ref ro, .ref ch, v2, v3, .ref rg, .ref lg, .int 0, .int 0])), (rg, .inr (4, [.ref dl, .ref ll, .ref el, w3, w4])), (ll, .inr (6, [x1, .int 0, y1]))]) [0, 4, 6] rfl) (hK.sub (tys' := []) [] rfl) hE (tw_kst hN hS)) rfl rfl hl.1 rfl (lv_room (Nat.le_of_ble_eq_true rfl)) d_law_area2_7 ⟨by show 1 ≤ 1; decide, by show 6 ≤ 6; decide⟩) (fun o => o.elim) (fun o x1 J2 j1 j2 j3 j4 => ?_)
  have hP := tw_P1 hP j3
  have hS := tw_S1 hS j2 j3
  refine tw_catch (pre := []) (post := [(0, 12, 19, 26), (0, 12, 23, 13)]) (sp := 0) (ep := 12) (hp := 15) (ct := 21) hown htab rfl j4 ⟨by decide, by decide⟩ (by decide) (hts _ tk_278) (fun y hy => by cases hy) ?_
  refine lv_astore (lv' := [(5, .ref x1), (0, .ref h), (1, .int a0), (2, .int a1), (3, .int a2), (4, .ref ho)]) hx hb d_law_area2_15 hl (by decide) rfl (fun ls hl => ?_)
  refine lv_iconst (v := 1) hx hb d_law_area2_17 (by decide) ?_
  have hP9 := hP.sub (ws' := [(ho, .inl (cL, 1, .inr (.inl (f0))))]) [9] rfl
  have hD9 := hD.sub (ws' := [(ho, .inl (cL, 1, .inr (.inl (f0))))]) [9] (by decide) rfl
  have hK9 := hK.sub (tys' := [(cL, .long)]) [1] rfl
  refine W.widen (k := 1) (n := 6) (by decide) (by decide) ?_
  exact W.iret (v := 1) hx hb hr (fun t ht hW => ⟨⟨1, f0, rfl, rfl, by rw [ht]; exact hP9, va_K.moved hW.alike hK9, hD9⟩, hS.F ht⟩) hS.2.2 d_law_area2_18
theorem tk_299 : (Jvm.Cond.methodLink "LandBookLaw" (49 : Nat) ({ cls := "LandBook", name := "share", desc := "(IIII)I" } : Jvm.MethodName)) ∈ tw_G := tw_in (List.mem_of_getElem? (i := 907) (by decide +kernel)) rfl
theorem tk_300 : (Jvm.Cond.instanceMethod ({ cls := "LandBook", name := "share", desc := "(IIII)I" } : Jvm.MethodName)) ∈ tw_G := tw_in (List.mem_of_getElem? (i := 908) (by decide +kernel)) rfl
theorem tk_301 : (Jvm.Cond.selects "LandBook" ({ cls := "LandBook", name := "share", desc := "(IIII)I" } : Jvm.MethodName) ({ cls := "LandBook", name := "share", desc := "(IIII)I" } : Jvm.MethodName)) ∈ tw_G := tw_in (List.mem_of_getElem? (i := 909) (by decide +kernel)) rfl
theorem tk_302 : (Jvm.Cond.code ({ cls := "LandBook", name := "share", desc := "(IIII)I" } : Jvm.MethodName) prog_1_method_11_code (5 : Nat) (Option.some Jvm.ClassFile.FieldType.int)) ∈ tw_G := tw_in (List.mem_of_getElem? (i := 910) (by decide +kernel)) rfl
abbrev y_law_share : MethodName := ⟨"LandBookLaw", "share", "(LLandBook;IIII[J)I"⟩
abbrev w_law_share : List Cond := Cond.codeWith y_law_share method_12_code 7 (some .int) [(0, 14, 17, 21), (0, 14, 21, 26), (0, 14, 25, 13)] :: tw_G
theorem d_law_share_0 : decode method_12_code 0 = .ok (.aload 5, 2) := by decide +kernel
theorem d_law_share_2 : decode method_12_code 2 = .ok (.iconst 0, 1) := by decide +kernel
theorem d_law_share_3 : decode method_12_code 3 = .ok (.aload_n 0, 1) := by decide +kernel
theorem d_law_share_4 : decode method_12_code 4 = .ok (.iload_n 1, 1) := by decide +kernel
theorem d_law_share_5 : decode method_12_code 5 = .ok (.iload_n 2, 1) := by decide +kernel
theorem d_law_share_6 : decode method_12_code 6 = .ok (.iload_n 3, 1) := by decide +kernel
theorem d_law_share_7 : decode method_12_code 7 = .ok (.iload 4, 2) := by decide +kernel
theorem d_law_share_9 : decode method_12_code 9 = .ok (.invokevirtual 49, 3) := by decide +kernel
theorem d_law_share_17 : decode method_12_code 17 = .ok (.astore 6, 2) := by decide +kernel
theorem d_law_share_19 : decode method_12_code 19 = .ok (.iconst 1, 1) := by decide +kernel
theorem d_law_share_20 : decode method_12_code 20 = .ok (.ireturn, 1) := by decide +kernel
set_option maxHeartbeats 4000000 in
set_option maxRecDepth 100000 in
theorem c_law_share (l : Launch) (hfl : l.flags = pinnedFlags ++ [noTraceFlag]) (dC : Nat → ClassId) (dI : Nat → Nat → Nat) (h sz ro ra ch rg dl ll el lg ho : Nat) (cI cL : ClassId) (f : Nat → Int32) (f0 : Nat → Int64) (v2 v3 ca w3 w4 x0 y0 x1 y1 x2 y2 z0 : Value) (a0 a1 a2 a3 : Int32) : Met l y_law_share w_law_share ({ frames := 8, cells := 1, slots := 6, locals := 126 }) (tw_P4E (dC, dI) classes [(h, .inr (0, [.ref ro, .ref ch, v2, v3, .ref rg, .ref lg, .int 0, .int 0])), (ro, .inr (1, [.ref ra, .int 0])), (ra, .inl (cI, 32, .inl (f))), (ch, .inr (1, [ca, .int 0])), (rg, .inr (4, [.ref dl, .ref ll, .ref el, w3, w4])), (dl, .inr (6, [x0, .int 0, y0])), (ll, .inr (6, [x1, .int 0, y1])), (el, .inr (6, [x2, .int 0, y2])), (lg, .inr (5, [z0, .int 0, .int 0])), (ho, .inl (cL, 1, .inr (.inl (f0))))] [(cI, .int), (cL, .long)] sz [.ref h, .int a0, .int a1, .int a2, .int a3, .ref ho]) (va_Qi (fun (r : Int32) (u : Nat → Int64) => r = 1) (fun u => tw_B dC dI (va_A [(h, .inr (0, [.ref ro, .ref ch, v2, v3, .ref rg, .ref lg, .int 0, .int 0])), (ro, .inr (1, [.ref ra, .int 0])), (ra, .inl (cI, 32, .inl (f))), (ch, .inr (1, [ca, .int 0])), (rg, .inr (4, [.ref dl, .ref ll, .ref el, w3, w4])), (dl, .inr (6, [x0, .int 0, y0])), (ll, .inr (6, [x1, .int 0, y1])), (el, .inr (6, [x2, .int 0, y2])), (lg, .inr (5, [z0, .int 0, .int 0])), (ho, .inl (cL, 1, .inr (.inl (f0))))] sz) [(ho, .inl (cL, 1, .inr (.inl (u))))] [(cL, .long)]) (va_A [(h, .inr (0, [.ref ro, .ref ch, v2, v3, .ref rg, .ref lg, .int 0, .int 0])), (ro, .inr (1, [.ref ra, .int 0])), (ra, .inl (cI, 32, .inl (f))), (ch, .inr (1, [ca, .int 0])), (rg, .inr (4, [.ref dl, .ref ll, .ref el, w3, w4])), (dl, .inr (6, [x0, .int 0, y0])), (ll, .inr (6, [x1, .int 0, y1])), (el, .inr (6, [x2, .int 0, y2])), (lg, .inr (5, [z0, .int 0, .int 0])), (ho, .inl (cL, 1, .inr (.inl (f0))))] sz)) 1 6 (va_A [(h, .inr (0, [.ref ro, .ref ch, v2, v3, .ref rg, .ref lg, .int 0, .int 0])), (ro, .inr (1, [.ref ra, .int 0])), (ra, .inl (cI, 32, .inl (f))), (ch, .inr (1, [ca, .int 0])), (rg, .inr (4, [.ref dl, .ref ll, .ref el, w3, w4])), (dl, .inr (6, [x0, .int 0, y0])), (ll, .inr (6, [x1, .int 0, y1])), (el, .inr (6, [x2, .int 0, y2])), (lg, .inr (5, [z0, .int 0, .int 0])), (ho, .inl (cL, 1, .inr (.inl (f0))))] sz) := by
  refine va_MetW (cc := method_12_code) (maxL := 7) (ret := (some .int)) (hh := [(0, 14, 17, 21), (0, 14, 21, 26), (0, 14, 25, 13)]) (by decide) rfl ?_
  intro p e s m args below meth c s₁ B hml hv
  obtain ⟨rfl, hsz, hP, hK, hD0, hE⟩ := hv
  have hx := B.exec
  have hb := B.bytes
  have hr := B.returns
  have hts : ∀ w ∈ tw_G, w.before _ s = true := fun w h => atoms_spec (ws := w_law_share) B.pre w (List.mem_cons_of_mem _ h)
  have hown : s.vm.findClass "LandBookLaw" = some m.cls := findClass_of_methodNamed B.named
  have hlocks := B.notSynchronized
  subst hsz
  have hN := tw_nst hP
  have hD := hD0.self (sz := s.heap.size)
  generalize hAe : va_A [(h, .inr (0, [.ref ro, .ref ch, v2, v3, .ref rg, .ref lg, .int 0, .int 0])), (ro, .inr (1, [.ref ra, .int 0])), (ra, .inl (cI, 32, .inl (f))), (ch, .inr (1, [ca, .int 0])), (rg, .inr (4, [.ref dl, .ref ll, .ref el, w3, w4])), (dl, .inr (6, [x0, .int 0, y0])), (ll, .inr (6, [x1, .int 0, y1])), (el, .inr (6, [x2, .int 0, y2])), (lg, .inr (5, [z0, .int 0, .int 0])), (ho, .inl (cL, 1, .inr (.inl (f0))))] s.heap.size = A at hD hN ⊢
  have hA : ∀ q : Nat, s.heap.size ≤ q → A q := fun q h => by rw [← hAe]; exact Or.inr h
  have hS : va_S A s.heap s.heap [] := va_S.rf
  have hP : va_P (dC, dI) classes [(h, .inr (0, [.ref ro, .ref ch, v2, v3, .ref rg, .ref lg, .int 0, .int 0])), (ro, .inr (1, [.ref ra, .int 0])), (ra, .inl (cI, 32, .inl (f))), (ch, .inr (1, [ca, .int 0])), (rg, .inr (4, [.ref dl, .ref ll, .ref el, w3, w4])), (dl, .inr (6, [x0, .int 0, y0])), (ll, .inr (6, [x1, .int 0, y1])), (el, .inr (6, [x2, .int 0, y2])), (lg, .inr (5, [z0, .int 0, .int 0])), (ho, .inl (cL, 1, .inr (.inl (f0))))] s.heap := hP
  have hl := lv_entry ([.ref h, .int a0, .int a1, .int a2, .int a3, .ref ho]) (n := 7) (Nat.le_of_ble_eq_true rfl)
  rw [lg_entry_eq]
  generalize (lg_sl ([.ref h, .int a0, .int a1, .int a2, .int a3, .ref ho]) ++ List.replicate (7 - (lg_sl ([.ref h, .int a0, .int a1, .int a2, .int a3, .ref ho])).length) Slot.unset).toArray = ls at hl ⊢
  have hl : lv_has ls 7 [(0, .ref h), (1, .int a0), (2, .int a1), (3, .int a2), (4, .int a3), (5, .ref ho)] := hl
  have htab := tw_table B (atoms_spec (ws := w_law_share) B.pre _ List.mem_cons_self)
  refine lv_aload hx hb d_law_share_0 (lv_at hl 5 rfl) ?_
  refine lv_iconst (v := 0) hx hb d_law_share_2 (by decide) ?_
  refine lv_aload_n hx hb d_law_share_3 rfl (lv_at hl 0 rfl) ?_
  refine lv_iload_n hx hb d_law_share_4 rfl (lv_at hl 1 rfl) ?_
  refine lv_iload_n hx hb d_law_share_5 rfl (lv_at hl 2 rfl) ?_
  refine lv_iload_n hx hb d_law_share_6 rfl (lv_at hl 3 rfl) ?_
  refine lv_iload hx hb d_law_share_7 (lv_at hl 4 rfl) ?_
  refine tw_chk (tw_runV (As := [.int a0, .int a1, .int a2, .int a3]) (rest := [.int 0, .ref ho]) ⟨hx, hb, hml, hown, hts⟩ (c_share_down l hfl dC dI h rg ll (.ref ro) (.ref ch) v2 v3 (.ref lg) (.int 0) (.ref dl) (.ref el) w3 w4 x1 y1 0 0 a0 a1 a2 a3 (fun o => o.2 rfl)) (cwV 4 hts (tw_gV tk_299 tk_300 tk_301 tk_213 tk_302) rfl rfl rfl (by decide +kernel) ⟨Nat.le_of_ble_eq_true rfl, Nat.le_of_ble_eq_true rfl⟩) (tw_v2E (va_recv (q0 := 0) hK hP rfl rfl) (hP.sub (ws' := [(h, .inr (0, [.ref ro, .ref ch, v2, v3, .ref rg, .ref lg, .int 0, .int 0])), (rg, .inr (4, [.ref dl, .ref ll, .ref el, w3, w4])), (ll, .inr (6, [x1, .int 0, y1]))]) [0, 4, 6] rfl) (hK.sub (tys' := []) [] rfl) hE (tw_kst hN hS)) rfl rfl hl.1 rfl (lv_room (Nat.le_of_ble_eq_true rfl)) d_law_share_9 ⟨by show 1 ≤ 1; decide, by show 6 ≤ 6; decide⟩) (fun o => o.elim) (fun o x1 J2 j1 j2 j3 j4 => ?_)
  have hP := tw_P1 hP j3
  have hS := tw_S1 hS j2 j3
  refine tw_catch (pre := []) (post := [(0, 14, 21, 26), (0, 14, 25, 13)]) (sp := 0) (ep := 14) (hp := 17) (ct := 21) hown htab rfl j4 ⟨by decide, by decide⟩ (by decide) (hts _ tk_278) (fun y hy => by cases hy) ?_
  refine lv_astore (lv' := [(6, .ref x1), (0, .ref h), (1, .int a0), (2, .int a1), (3, .int a2), (4, .int a3), (5, .ref ho)]) hx hb d_law_share_17 hl (by decide) rfl (fun ls hl => ?_)
  refine lv_iconst (v := 1) hx hb d_law_share_19 (by decide) ?_
  have hP9 := hP.sub (ws' := [(ho, .inl (cL, 1, .inr (.inl (f0))))]) [9] rfl
  have hD9 := hD.sub (ws' := [(ho, .inl (cL, 1, .inr (.inl (f0))))]) [9] (by decide) rfl
  have hK9 := hK.sub (tys' := [(cL, .long)]) [1] rfl
  refine W.widen (k := 1) (n := 6) (by decide) (by decide) ?_
  exact W.iret (v := 1) hx hb hr (fun t ht hW => ⟨⟨1, f0, rfl, rfl, by rw [ht]; exact hP9, va_K.moved hW.alike hK9, hD9⟩, hS.F ht⟩) hS.2.2 d_law_share_20
theorem tk_303 : (Jvm.Cond.methodLink "LandBookLaw" (52 : Nat) ({ cls := "LandBook", name := "next", desc := "(IIII)I" } : Jvm.MethodName)) ∈ tw_G := tw_in (List.mem_of_getElem? (i := 914) (by decide +kernel)) rfl
theorem tk_304 : (Jvm.Cond.instanceMethod ({ cls := "LandBook", name := "next", desc := "(IIII)I" } : Jvm.MethodName)) ∈ tw_G := tw_in (List.mem_of_getElem? (i := 915) (by decide +kernel)) rfl
theorem tk_305 : (Jvm.Cond.selects "LandBook" ({ cls := "LandBook", name := "next", desc := "(IIII)I" } : Jvm.MethodName) ({ cls := "LandBook", name := "next", desc := "(IIII)I" } : Jvm.MethodName)) ∈ tw_G := tw_in (List.mem_of_getElem? (i := 916) (by decide +kernel)) rfl
theorem tk_306 : (Jvm.Cond.code ({ cls := "LandBook", name := "next", desc := "(IIII)I" } : Jvm.MethodName) prog_1_method_12_code (7 : Nat) (Option.some Jvm.ClassFile.FieldType.int)) ∈ tw_G := tw_in (List.mem_of_getElem? (i := 917) (by decide +kernel)) rfl
abbrev y_law_next : MethodName := ⟨"LandBookLaw", "next", "(LLandBook;IIII[J)I"⟩
abbrev w_law_next : List Cond := Cond.codeWith y_law_next method_13_code 7 (some .int) [(0, 14, 17, 21), (0, 14, 21, 26), (0, 14, 25, 13)] :: tw_G
theorem d_law_next_0 : decode method_13_code 0 = .ok (.aload 5, 2) := by decide +kernel
theorem d_law_next_2 : decode method_13_code 2 = .ok (.iconst 0, 1) := by decide +kernel
theorem d_law_next_3 : decode method_13_code 3 = .ok (.aload_n 0, 1) := by decide +kernel
theorem d_law_next_4 : decode method_13_code 4 = .ok (.iload_n 1, 1) := by decide +kernel
theorem d_law_next_5 : decode method_13_code 5 = .ok (.iload_n 2, 1) := by decide +kernel
theorem d_law_next_6 : decode method_13_code 6 = .ok (.iload_n 3, 1) := by decide +kernel
theorem d_law_next_7 : decode method_13_code 7 = .ok (.iload 4, 2) := by decide +kernel
theorem d_law_next_9 : decode method_13_code 9 = .ok (.invokevirtual 52, 3) := by decide +kernel
theorem d_law_next_17 : decode method_13_code 17 = .ok (.astore 6, 2) := by decide +kernel
theorem d_law_next_19 : decode method_13_code 19 = .ok (.iconst 1, 1) := by decide +kernel
theorem d_law_next_20 : decode method_13_code 20 = .ok (.ireturn, 1) := by decide +kernel
set_option maxHeartbeats 4000000 in
set_option maxRecDepth 100000 in
theorem c_law_next (l : Launch) (hfl : l.flags = pinnedFlags ++ [noTraceFlag]) (dC : Nat → ClassId) (dI : Nat → Nat → Nat) (h sz ro ra ch rg dl ll el lg ho : Nat) (cI cL : ClassId) (f : Nat → Int32) (f0 : Nat → Int64) (v2 v3 ca w3 w4 x0 y0 x1 y1 x2 y2 z0 : Value) (a0 a1 a2 a3 : Int32) : Met l y_law_next w_law_next ({ frames := 8, cells := 1, slots := 6, locals := 128 }) (tw_P4E (dC, dI) classes [(h, .inr (0, [.ref ro, .ref ch, v2, v3, .ref rg, .ref lg, .int 0, .int 0])), (ro, .inr (1, [.ref ra, .int 0])), (ra, .inl (cI, 32, .inl (f))), (ch, .inr (1, [ca, .int 0])), (rg, .inr (4, [.ref dl, .ref ll, .ref el, w3, w4])), (dl, .inr (6, [x0, .int 0, y0])), (ll, .inr (6, [x1, .int 0, y1])), (el, .inr (6, [x2, .int 0, y2])), (lg, .inr (5, [z0, .int 0, .int 0])), (ho, .inl (cL, 1, .inr (.inl (f0))))] [(cI, .int), (cL, .long)] sz [.ref h, .int a0, .int a1, .int a2, .int a3, .ref ho]) (va_Qi (fun (r : Int32) (u : Nat → Int64) => r = 1) (fun u => tw_B dC dI (va_A [(h, .inr (0, [.ref ro, .ref ch, v2, v3, .ref rg, .ref lg, .int 0, .int 0])), (ro, .inr (1, [.ref ra, .int 0])), (ra, .inl (cI, 32, .inl (f))), (ch, .inr (1, [ca, .int 0])), (rg, .inr (4, [.ref dl, .ref ll, .ref el, w3, w4])), (dl, .inr (6, [x0, .int 0, y0])), (ll, .inr (6, [x1, .int 0, y1])), (el, .inr (6, [x2, .int 0, y2])), (lg, .inr (5, [z0, .int 0, .int 0])), (ho, .inl (cL, 1, .inr (.inl (f0))))] sz) [(ho, .inl (cL, 1, .inr (.inl (u))))] [(cL, .long)]) (va_A [(h, .inr (0, [.ref ro, .ref ch, v2, v3, .ref rg, .ref lg, .int 0, .int 0])), (ro, .inr (1, [.ref ra, .int 0])), (ra, .inl (cI, 32, .inl (f))), (ch, .inr (1, [ca, .int 0])), (rg, .inr (4, [.ref dl, .ref ll, .ref el, w3, w4])), (dl, .inr (6, [x0, .int 0, y0])), (ll, .inr (6, [x1, .int 0, y1])), (el, .inr (6, [x2, .int 0, y2])), (lg, .inr (5, [z0, .int 0, .int 0])), (ho, .inl (cL, 1, .inr (.inl (f0))))] sz)) 1 6 (va_A [(h, .inr (0, [.ref ro, .ref ch, v2, v3, .ref rg, .ref lg, .int 0, .int 0])), (ro, .inr (1, [.ref ra, .int 0])), (ra, .inl (cI, 32, .inl (f))), (ch, .inr (1, [ca, .int 0])), (rg, .inr (4, [.ref dl, .ref ll, .ref el, w3, w4])), (dl, .inr (6, [x0, .int 0, y0])), (ll, .inr (6, [x1, .int 0, y1])), (el, .inr (6, [x2, .int 0, y2])), (lg, .inr (5, [z0, .int 0, .int 0])), (ho, .inl (cL, 1, .inr (.inl (f0))))] sz) := by
  refine va_MetW (cc := method_13_code) (maxL := 7) (ret := (some .int)) (hh := [(0, 14, 17, 21), (0, 14, 21, 26), (0, 14, 25, 13)]) (by decide) rfl ?_
  intro p e s m args below meth c s₁ B hml hv
  obtain ⟨rfl, hsz, hP, hK, hD0, hE⟩ := hv
  have hx := B.exec
  have hb := B.bytes
  have hr := B.returns
  have hts : ∀ w ∈ tw_G, w.before _ s = true := fun w h => atoms_spec (ws := w_law_next) B.pre w (List.mem_cons_of_mem _ h)
  have hown : s.vm.findClass "LandBookLaw" = some m.cls := findClass_of_methodNamed B.named
  have hlocks := B.notSynchronized
  subst hsz
  have hN := tw_nst hP
  have hD := hD0.self (sz := s.heap.size)
  generalize hAe : va_A [(h, .inr (0, [.ref ro, .ref ch, v2, v3, .ref rg, .ref lg, .int 0, .int 0])), (ro, .inr (1, [.ref ra, .int 0])), (ra, .inl (cI, 32, .inl (f))), (ch, .inr (1, [ca, .int 0])), (rg, .inr (4, [.ref dl, .ref ll, .ref el, w3, w4])), (dl, .inr (6, [x0, .int 0, y0])), (ll, .inr (6, [x1, .int 0, y1])), (el, .inr (6, [x2, .int 0, y2])), (lg, .inr (5, [z0, .int 0, .int 0])), (ho, .inl (cL, 1, .inr (.inl (f0))))] s.heap.size = A at hD hN ⊢
  have hA : ∀ q : Nat, s.heap.size ≤ q → A q := fun q h => by rw [← hAe]; exact Or.inr h
  have hS : va_S A s.heap s.heap [] := va_S.rf
  have hP : va_P (dC, dI) classes [(h, .inr (0, [.ref ro, .ref ch, v2, v3, .ref rg, .ref lg, .int 0, .int 0])), (ro, .inr (1, [.ref ra, .int 0])), (ra, .inl (cI, 32, .inl (f))), (ch, .inr (1, [ca, .int 0])), (rg, .inr (4, [.ref dl, .ref ll, .ref el, w3, w4])), (dl, .inr (6, [x0, .int 0, y0])), (ll, .inr (6, [x1, .int 0, y1])), (el, .inr (6, [x2, .int 0, y2])), (lg, .inr (5, [z0, .int 0, .int 0])), (ho, .inl (cL, 1, .inr (.inl (f0))))] s.heap := hP
  have hl := lv_entry ([.ref h, .int a0, .int a1, .int a2, .int a3, .ref ho]) (n := 7) (Nat.le_of_ble_eq_true rfl)
  rw [lg_entry_eq]
  generalize (lg_sl ([.ref h, .int a0, .int a1, .int a2, .int a3, .ref ho]) ++ List.replicate (7 - (lg_sl ([.ref h, .int a0, .int a1, .int a2, .int a3, .ref ho])).length) Slot.unset).toArray = ls at hl ⊢
  have hl : lv_has ls 7 [(0, .ref h), (1, .int a0), (2, .int a1), (3, .int a2), (4, .int a3), (5, .ref ho)] := hl
  have htab := tw_table B (atoms_spec (ws := w_law_next) B.pre _ List.mem_cons_self)
  refine lv_aload hx hb d_law_next_0 (lv_at hl 5 rfl) ?_
  refine lv_iconst (v := 0) hx hb d_law_next_2 (by decide) ?_
  refine lv_aload_n hx hb d_law_next_3 rfl (lv_at hl 0 rfl) ?_
  refine lv_iload_n hx hb d_law_next_4 rfl (lv_at hl 1 rfl) ?_
  refine lv_iload_n hx hb d_law_next_5 rfl (lv_at hl 2 rfl) ?_
  refine lv_iload_n hx hb d_law_next_6 rfl (lv_at hl 3 rfl) ?_
  refine lv_iload hx hb d_law_next_7 (lv_at hl 4 rfl) ?_
  refine tw_chk (tw_runV (As := [.int a0, .int a1, .int a2, .int a3]) (rest := [.int 0, .ref ho]) ⟨hx, hb, hml, hown, hts⟩ (c_next_down l hfl dC dI h rg ll (.ref ro) (.ref ch) v2 v3 (.ref lg) (.int 0) (.ref dl) (.ref el) w3 w4 x1 y1 0 0 a0 a1 a2 a3 (fun o => o.2 rfl)) (cwV 4 hts (tw_gV tk_303 tk_304 tk_305 tk_213 tk_306) rfl rfl rfl (by decide +kernel) ⟨Nat.le_of_ble_eq_true rfl, Nat.le_of_ble_eq_true rfl⟩) (tw_v2E (va_recv (q0 := 0) hK hP rfl rfl) (hP.sub (ws' := [(h, .inr (0, [.ref ro, .ref ch, v2, v3, .ref rg, .ref lg, .int 0, .int 0])), (rg, .inr (4, [.ref dl, .ref ll, .ref el, w3, w4])), (ll, .inr (6, [x1, .int 0, y1]))]) [0, 4, 6] rfl) (hK.sub (tys' := []) [] rfl) hE (tw_kst hN hS)) rfl rfl hl.1 rfl (lv_room (Nat.le_of_ble_eq_true rfl)) d_law_next_9 ⟨by show 1 ≤ 1; decide, by show 6 ≤ 6; decide⟩) (fun o => o.elim) (fun o x1 J2 j1 j2 j3 j4 => ?_)
  have hP := tw_P1 hP j3
  have hS := tw_S1 hS j2 j3
  refine tw_catch (pre := []) (post := [(0, 14, 21, 26), (0, 14, 25, 13)]) (sp := 0) (ep := 14) (hp := 17) (ct := 21) hown htab rfl j4 ⟨by decide, by decide⟩ (by decide) (hts _ tk_278) (fun y hy => by cases hy) ?_
  refine lv_astore (lv' := [(6, .ref x1), (0, .ref h), (1, .int a0), (2, .int a1), (3, .int a2), (4, .int a3), (5, .ref ho)]) hx hb d_law_next_17 hl (by decide) rfl (fun ls hl => ?_)
  refine lv_iconst (v := 1) hx hb d_law_next_19 (by decide) ?_
  have hP9 := hP.sub (ws' := [(ho, .inl (cL, 1, .inr (.inl (f0))))]) [9] rfl
  have hD9 := hD.sub (ws' := [(ho, .inl (cL, 1, .inr (.inl (f0))))]) [9] (by decide) rfl
  have hK9 := hK.sub (tys' := [(cL, .long)]) [1] rfl
  refine W.widen (k := 1) (n := 6) (by decide) (by decide) ?_
  exact W.iret (v := 1) hx hb hr (fun t ht hW => ⟨⟨1, f0, rfl, rfl, by rw [ht]; exact hP9, va_K.moved hW.alike hK9, hD9⟩, hS.F ht⟩) hS.2.2 d_law_next_20
theorem tk_307 : (Jvm.Cond.methodLink "LandBookLaw" (55 : Nat) ({ cls := "LandBook", name := "burden", desc := "(IIII)I" } : Jvm.MethodName)) ∈ tw_G := tw_in (List.mem_of_getElem? (i := 928) (by decide +kernel)) rfl
theorem tk_308 : (Jvm.Cond.instanceMethod ({ cls := "LandBook", name := "burden", desc := "(IIII)I" } : Jvm.MethodName)) ∈ tw_G := tw_in (List.mem_of_getElem? (i := 929) (by decide +kernel)) rfl
theorem tk_309 : (Jvm.Cond.selects "LandBook" ({ cls := "LandBook", name := "burden", desc := "(IIII)I" } : Jvm.MethodName) ({ cls := "LandBook", name := "burden", desc := "(IIII)I" } : Jvm.MethodName)) ∈ tw_G := tw_in (List.mem_of_getElem? (i := 930) (by decide +kernel)) rfl
theorem tk_310 : (Jvm.Cond.code ({ cls := "LandBook", name := "burden", desc := "(IIII)I" } : Jvm.MethodName) prog_1_method_13_code (7 : Nat) (Option.some Jvm.ClassFile.FieldType.int)) ∈ tw_G := tw_in (List.mem_of_getElem? (i := 931) (by decide +kernel)) rfl
abbrev y_law_burden : MethodName := ⟨"LandBookLaw", "burden", "(LLandBook;IIII[J)I"⟩
abbrev w_law_burden : List Cond := Cond.codeWith y_law_burden method_14_code 7 (some .int) [(0, 14, 17, 21), (0, 14, 21, 26), (0, 14, 25, 13)] :: tw_G
theorem d_law_burden_0 : decode method_14_code 0 = .ok (.aload 5, 2) := by decide +kernel
theorem d_law_burden_2 : decode method_14_code 2 = .ok (.iconst 0, 1) := by decide +kernel
theorem d_law_burden_3 : decode method_14_code 3 = .ok (.aload_n 0, 1) := by decide +kernel
theorem d_law_burden_4 : decode method_14_code 4 = .ok (.iload_n 1, 1) := by decide +kernel
theorem d_law_burden_5 : decode method_14_code 5 = .ok (.iload_n 2, 1) := by decide +kernel
theorem d_law_burden_6 : decode method_14_code 6 = .ok (.iload_n 3, 1) := by decide +kernel
theorem d_law_burden_7 : decode method_14_code 7 = .ok (.iload 4, 2) := by decide +kernel
theorem d_law_burden_9 : decode method_14_code 9 = .ok (.invokevirtual 55, 3) := by decide +kernel
theorem d_law_burden_17 : decode method_14_code 17 = .ok (.astore 6, 2) := by decide +kernel
theorem d_law_burden_19 : decode method_14_code 19 = .ok (.iconst 1, 1) := by decide +kernel
theorem d_law_burden_20 : decode method_14_code 20 = .ok (.ireturn, 1) := by decide +kernel
set_option maxHeartbeats 4000000 in
set_option maxRecDepth 100000 in
theorem c_law_burden (l : Launch) (hfl : l.flags = pinnedFlags ++ [noTraceFlag]) (dC : Nat → ClassId) (dI : Nat → Nat → Nat) (h sz ro ra ch rg dl ll el lg ho : Nat) (cI cL : ClassId) (f : Nat → Int32) (f0 : Nat → Int64) (v2 v3 ca w3 w4 x0 y0 x1 y1 x2 y2 z0 : Value) (a0 a1 a2 a3 : Int32) : Met l y_law_burden w_law_burden ({ frames := 8, cells := 1, slots := 6, locals := 128 }) (tw_P4E (dC, dI) classes [(h, .inr (0, [.ref ro, .ref ch, v2, v3, .ref rg, .ref lg, .int 0, .int 0])), (ro, .inr (1, [.ref ra, .int 0])), (ra, .inl (cI, 32, .inl (f))), (ch, .inr (1, [ca, .int 0])), (rg, .inr (4, [.ref dl, .ref ll, .ref el, w3, w4])), (dl, .inr (6, [x0, .int 0, y0])), (ll, .inr (6, [x1, .int 0, y1])), (el, .inr (6, [x2, .int 0, y2])), (lg, .inr (5, [z0, .int 0, .int 0])), (ho, .inl (cL, 1, .inr (.inl (f0))))] [(cI, .int), (cL, .long)] sz [.ref h, .int a0, .int a1, .int a2, .int a3, .ref ho]) (va_Qi (fun (r : Int32) (u : Nat → Int64) => r = 1) (fun u => tw_B dC dI (va_A [(h, .inr (0, [.ref ro, .ref ch, v2, v3, .ref rg, .ref lg, .int 0, .int 0])), (ro, .inr (1, [.ref ra, .int 0])), (ra, .inl (cI, 32, .inl (f))), (ch, .inr (1, [ca, .int 0])), (rg, .inr (4, [.ref dl, .ref ll, .ref el, w3, w4])), (dl, .inr (6, [x0, .int 0, y0])), (ll, .inr (6, [x1, .int 0, y1])), (el, .inr (6, [x2, .int 0, y2])), (lg, .inr (5, [z0, .int 0, .int 0])), (ho, .inl (cL, 1, .inr (.inl (f0))))] sz) [(ho, .inl (cL, 1, .inr (.inl (u))))] [(cL, .long)]) (va_A [(h, .inr (0, [.ref ro, .ref ch, v2, v3, .ref rg, .ref lg, .int 0, .int 0])), (ro, .inr (1, [.ref ra, .int 0])), (ra, .inl (cI, 32, .inl (f))), (ch, .inr (1, [ca, .int 0])), (rg, .inr (4, [.ref dl, .ref ll, .ref el, w3, w4])), (dl, .inr (6, [x0, .int 0, y0])), (ll, .inr (6, [x1, .int 0, y1])), (el, .inr (6, [x2, .int 0, y2])), (lg, .inr (5, [z0, .int 0, .int 0])), (ho, .inl (cL, 1, .inr (.inl (f0))))] sz)) 1 6 (va_A [(h, .inr (0, [.ref ro, .ref ch, v2, v3, .ref rg, .ref lg, .int 0, .int 0])), (ro, .inr (1, [.ref ra, .int 0])), (ra, .inl (cI, 32, .inl (f))), (ch, .inr (1, [ca, .int 0])), (rg, .inr (4, [.ref dl, .ref ll, .ref el, w3, w4])), (dl, .inr (6, [x0, .int 0, y0])), (ll, .inr (6, [x1, .int 0, y1])), (el, .inr (6, [x2, .int 0, y2])), (lg, .inr (5, [z0, .int 0, .int 0])), (ho, .inl (cL, 1, .inr (.inl (f0))))] sz) := by
  refine va_MetW (cc := method_14_code) (maxL := 7) (ret := (some .int)) (hh := [(0, 14, 17, 21), (0, 14, 21, 26), (0, 14, 25, 13)]) (by decide) rfl ?_
  intro p e s m args below meth c s₁ B hml hv
  obtain ⟨rfl, hsz, hP, hK, hD0, hE⟩ := hv
  have hx := B.exec
  have hb := B.bytes
  have hr := B.returns
  have hts : ∀ w ∈ tw_G, w.before _ s = true := fun w h => atoms_spec (ws := w_law_burden) B.pre w (List.mem_cons_of_mem _ h)
  have hown : s.vm.findClass "LandBookLaw" = some m.cls := findClass_of_methodNamed B.named
  have hlocks := B.notSynchronized
  subst hsz
  have hN := tw_nst hP
  have hD := hD0.self (sz := s.heap.size)
  generalize hAe : va_A [(h, .inr (0, [.ref ro, .ref ch, v2, v3, .ref rg, .ref lg, .int 0, .int 0])), (ro, .inr (1, [.ref ra, .int 0])), (ra, .inl (cI, 32, .inl (f))), (ch, .inr (1, [ca, .int 0])), (rg, .inr (4, [.ref dl, .ref ll, .ref el, w3, w4])), (dl, .inr (6, [x0, .int 0, y0])), (ll, .inr (6, [x1, .int 0, y1])), (el, .inr (6, [x2, .int 0, y2])), (lg, .inr (5, [z0, .int 0, .int 0])), (ho, .inl (cL, 1, .inr (.inl (f0))))] s.heap.size = A at hD hN ⊢
  have hA : ∀ q : Nat, s.heap.size ≤ q → A q := fun q h => by rw [← hAe]; exact Or.inr h
  have hS : va_S A s.heap s.heap [] := va_S.rf
  have hP : va_P (dC, dI) classes [(h, .inr (0, [.ref ro, .ref ch, v2, v3, .ref rg, .ref lg, .int 0, .int 0])), (ro, .inr (1, [.ref ra, .int 0])), (ra, .inl (cI, 32, .inl (f))), (ch, .inr (1, [ca, .int 0])), (rg, .inr (4, [.ref dl, .ref ll, .ref el, w3, w4])), (dl, .inr (6, [x0, .int 0, y0])), (ll, .inr (6, [x1, .int 0, y1])), (el, .inr (6, [x2, .int 0, y2])), (lg, .inr (5, [z0, .int 0, .int 0])), (ho, .inl (cL, 1, .inr (.inl (f0))))] s.heap := hP
  have hl := lv_entry ([.ref h, .int a0, .int a1, .int a2, .int a3, .ref ho]) (n := 7) (Nat.le_of_ble_eq_true rfl)
  rw [lg_entry_eq]
  generalize (lg_sl ([.ref h, .int a0, .int a1, .int a2, .int a3, .ref ho]) ++ List.replicate (7 - (lg_sl ([.ref h, .int a0, .int a1, .int a2, .int a3, .ref ho])).length) Slot.unset).toArray = ls at hl ⊢
  have hl : lv_has ls 7 [(0, .ref h), (1, .int a0), (2, .int a1), (3, .int a2), (4, .int a3), (5, .ref ho)] := hl
  have htab := tw_table B (atoms_spec (ws := w_law_burden) B.pre _ List.mem_cons_self)
  refine lv_aload hx hb d_law_burden_0 (lv_at hl 5 rfl) ?_
  refine lv_iconst (v := 0) hx hb d_law_burden_2 (by decide) ?_
  refine lv_aload_n hx hb d_law_burden_3 rfl (lv_at hl 0 rfl) ?_
  refine lv_iload_n hx hb d_law_burden_4 rfl (lv_at hl 1 rfl) ?_
  refine lv_iload_n hx hb d_law_burden_5 rfl (lv_at hl 2 rfl) ?_
  refine lv_iload_n hx hb d_law_burden_6 rfl (lv_at hl 3 rfl) ?_
  refine lv_iload hx hb d_law_burden_7 (lv_at hl 4 rfl) ?_
  refine tw_chk (tw_runV (As := [.int a0, .int a1, .int a2, .int a3]) (rest := [.int 0, .ref ho]) ⟨hx, hb, hml, hown, hts⟩ (c_burden_down l hfl dC dI h rg ll (.ref ro) (.ref ch) v2 v3 (.ref lg) (.int 0) (.ref dl) (.ref el) w3 w4 x1 y1 0 0 a0 a1 a2 a3 (fun o => o.2 rfl)) (cwV 4 hts (tw_gV tk_307 tk_308 tk_309 tk_213 tk_310) rfl rfl rfl (by decide +kernel) ⟨Nat.le_of_ble_eq_true rfl, Nat.le_of_ble_eq_true rfl⟩) (tw_v2E (va_recv (q0 := 0) hK hP rfl rfl) (hP.sub (ws' := [(h, .inr (0, [.ref ro, .ref ch, v2, v3, .ref rg, .ref lg, .int 0, .int 0])), (rg, .inr (4, [.ref dl, .ref ll, .ref el, w3, w4])), (ll, .inr (6, [x1, .int 0, y1]))]) [0, 4, 6] rfl) (hK.sub (tys' := []) [] rfl) hE (tw_kst hN hS)) rfl rfl hl.1 rfl (lv_room (Nat.le_of_ble_eq_true rfl)) d_law_burden_9 ⟨by show 1 ≤ 1; decide, by show 6 ≤ 6; decide⟩) (fun o => o.elim) (fun o x1 J2 j1 j2 j3 j4 => ?_)
  have hP := tw_P1 hP j3
  have hS := tw_S1 hS j2 j3
  refine tw_catch (pre := []) (post := [(0, 14, 21, 26), (0, 14, 25, 13)]) (sp := 0) (ep := 14) (hp := 17) (ct := 21) hown htab rfl j4 ⟨by decide, by decide⟩ (by decide) (hts _ tk_278) (fun y hy => by cases hy) ?_
  refine lv_astore (lv' := [(6, .ref x1), (0, .ref h), (1, .int a0), (2, .int a1), (3, .int a2), (4, .int a3), (5, .ref ho)]) hx hb d_law_burden_17 hl (by decide) rfl (fun ls hl => ?_)
  refine lv_iconst (v := 1) hx hb d_law_burden_19 (by decide) ?_
  have hP9 := hP.sub (ws' := [(ho, .inl (cL, 1, .inr (.inl (f0))))]) [9] rfl
  have hD9 := hD.sub (ws' := [(ho, .inl (cL, 1, .inr (.inl (f0))))]) [9] (by decide) rfl
  have hK9 := hK.sub (tys' := [(cL, .long)]) [1] rfl
  refine W.widen (k := 1) (n := 6) (by decide) (by decide) ?_
  exact W.iret (v := 1) hx hb hr (fun t ht hW => ⟨⟨1, f0, rfl, rfl, by rw [ht]; exact hP9, va_K.moved hW.alike hK9, hD9⟩, hS.F ht⟩) hS.2.2 d_law_burden_20
theorem tk_311 : (Jvm.Cond.methodLink "LandBookLaw" (58 : Nat) ({ cls := "LandBook", name := "parent", desc := "(II)I" } : Jvm.MethodName)) ∈ tw_G := tw_in (List.mem_of_getElem? (i := 936) (by decide +kernel)) rfl
theorem tk_312 : (Jvm.Cond.instanceMethod ({ cls := "LandBook", name := "parent", desc := "(II)I" } : Jvm.MethodName)) ∈ tw_G := tw_in (List.mem_of_getElem? (i := 937) (by decide +kernel)) rfl
theorem tk_313 : (Jvm.Cond.selects "LandBook" ({ cls := "LandBook", name := "parent", desc := "(II)I" } : Jvm.MethodName) ({ cls := "LandBook", name := "parent", desc := "(II)I" } : Jvm.MethodName)) ∈ tw_G := tw_in (List.mem_of_getElem? (i := 938) (by decide +kernel)) rfl
theorem tk_314 : (Jvm.Cond.code ({ cls := "LandBook", name := "parent", desc := "(II)I" } : Jvm.MethodName) prog_1_method_14_code (3 : Nat) (Option.some Jvm.ClassFile.FieldType.int)) ∈ tw_G := tw_in (List.mem_of_getElem? (i := 939) (by decide +kernel)) rfl
abbrev y_law_parent : MethodName := ⟨"LandBookLaw", "parent", "(LLandBook;II[J)I"⟩
abbrev w_law_parent : List Cond := Cond.codeWith y_law_parent method_15_code 5 (some .int) [(0, 10, 13, 21), (0, 10, 17, 26)] :: tw_G
theorem d_law_parent_0 : decode method_15_code 0 = .ok (.aload_n 3, 1) := by decide +kernel
theorem d_law_parent_1 : decode method_15_code 1 = .ok (.iconst 0, 1) := by decide +kernel
theorem d_law_parent_2 : decode method_15_code 2 = .ok (.aload_n 0, 1) := by decide +kernel
theorem d_law_parent_3 : decode method_15_code 3 = .ok (.iload_n 1, 1) := by decide +kernel
theorem d_law_parent_4 : decode method_15_code 4 = .ok (.iload_n 2, 1) := by decide +kernel
theorem d_law_parent_5 : decode method_15_code 5 = .ok (.invokevirtual 58, 3) := by decide +kernel
theorem d_law_parent_13 : decode method_15_code 13 = .ok (.astore 4, 2) := by decide +kernel
theorem d_law_parent_15 : decode method_15_code 15 = .ok (.iconst 1, 1) := by decide +kernel
theorem d_law_parent_16 : decode method_15_code 16 = .ok (.ireturn, 1) := by decide +kernel
set_option maxHeartbeats 4000000 in
set_option maxRecDepth 100000 in
theorem c_law_parent (l : Launch) (hfl : l.flags = pinnedFlags ++ [noTraceFlag]) (dC : Nat → ClassId) (dI : Nat → Nat → Nat) (h sz ro ra ch rg dl ll el lg ho : Nat) (cI cL : ClassId) (f : Nat → Int32) (f0 : Nat → Int64) (v2 v3 ca w3 w4 x0 y0 x1 y1 x2 y2 z0 : Value) (a0 a1 : Int32) : Met l y_law_parent w_law_parent ({ frames := 8, cells := 1, slots := 6, locals := 124 }) (tw_P4E (dC, dI) classes [(h, .inr (0, [.ref ro, .ref ch, v2, v3, .ref rg, .ref lg, .int 0, .int 0])), (ro, .inr (1, [.ref ra, .int 0])), (ra, .inl (cI, 32, .inl (f))), (ch, .inr (1, [ca, .int 0])), (rg, .inr (4, [.ref dl, .ref ll, .ref el, w3, w4])), (dl, .inr (6, [x0, .int 0, y0])), (ll, .inr (6, [x1, .int 0, y1])), (el, .inr (6, [x2, .int 0, y2])), (lg, .inr (5, [z0, .int 0, .int 0])), (ho, .inl (cL, 1, .inr (.inl (f0))))] [(cI, .int), (cL, .long)] sz [.ref h, .int a0, .int a1, .ref ho]) (va_Qi (fun (r : Int32) (u : Nat → Int64) => r = 1) (fun u => tw_B dC dI (va_A [(h, .inr (0, [.ref ro, .ref ch, v2, v3, .ref rg, .ref lg, .int 0, .int 0])), (ro, .inr (1, [.ref ra, .int 0])), (ra, .inl (cI, 32, .inl (f))), (ch, .inr (1, [ca, .int 0])), (rg, .inr (4, [.ref dl, .ref ll, .ref el, w3, w4])), (dl, .inr (6, [x0, .int 0, y0])), (ll, .inr (6, [x1, .int 0, y1])), (el, .inr (6, [x2, .int 0, y2])), (lg, .inr (5, [z0, .int 0, .int 0])), (ho, .inl (cL, 1, .inr (.inl (f0))))] sz) [(ho, .inl (cL, 1, .inr (.inl (u))))] [(cL, .long)]) (va_A [(h, .inr (0, [.ref ro, .ref ch, v2, v3, .ref rg, .ref lg, .int 0, .int 0])), (ro, .inr (1, [.ref ra, .int 0])), (ra, .inl (cI, 32, .inl (f))), (ch, .inr (1, [ca, .int 0])), (rg, .inr (4, [.ref dl, .ref ll, .ref el, w3, w4])), (dl, .inr (6, [x0, .int 0, y0])), (ll, .inr (6, [x1, .int 0, y1])), (el, .inr (6, [x2, .int 0, y2])), (lg, .inr (5, [z0, .int 0, .int 0])), (ho, .inl (cL, 1, .inr (.inl (f0))))] sz)) 1 6 (va_A [(h, .inr (0, [.ref ro, .ref ch, v2, v3, .ref rg, .ref lg, .int 0, .int 0])), (ro, .inr (1, [.ref ra, .int 0])), (ra, .inl (cI, 32, .inl (f))), (ch, .inr (1, [ca, .int 0])), (rg, .inr (4, [.ref dl, .ref ll, .ref el, w3, w4])), (dl, .inr (6, [x0, .int 0, y0])), (ll, .inr (6, [x1, .int 0, y1])), (el, .inr (6, [x2, .int 0, y2])), (lg, .inr (5, [z0, .int 0, .int 0])), (ho, .inl (cL, 1, .inr (.inl (f0))))] sz) := by
  refine va_MetW (cc := method_15_code) (maxL := 5) (ret := (some .int)) (hh := [(0, 10, 13, 21), (0, 10, 17, 26)]) (by decide) rfl ?_
  intro p e s m args below meth c s₁ B hml hv
  obtain ⟨rfl, hsz, hP, hK, hD0, hE⟩ := hv
  have hx := B.exec
  have hb := B.bytes
  have hr := B.returns
  have hts : ∀ w ∈ tw_G, w.before _ s = true := fun w h => atoms_spec (ws := w_law_parent) B.pre w (List.mem_cons_of_mem _ h)
  have hown : s.vm.findClass "LandBookLaw" = some m.cls := findClass_of_methodNamed B.named
  have hlocks := B.notSynchronized
  subst hsz
  have hN := tw_nst hP
  have hD := hD0.self (sz := s.heap.size)
  generalize hAe : va_A [(h, .inr (0, [.ref ro, .ref ch, v2, v3, .ref rg, .ref lg, .int 0, .int 0])), (ro, .inr (1, [.ref ra, .int 0])), (ra, .inl (cI, 32, .inl (f))), (ch, .inr (1, [ca, .int 0])), (rg, .inr (4, [.ref dl, .ref ll, .ref el, w3, w4])), (dl, .inr (6, [x0, .int 0, y0])), (ll, .inr (6, [x1, .int 0, y1])), (el, .inr (6, [x2, .int 0, y2])), (lg, .inr (5, [z0, .int 0, .int 0])), (ho, .inl (cL, 1, .inr (.inl (f0))))] s.heap.size = A at hD hN ⊢
  have hA : ∀ q : Nat, s.heap.size ≤ q → A q := fun q h => by rw [← hAe]; exact Or.inr h
  have hS : va_S A s.heap s.heap [] := va_S.rf
  have hP : va_P (dC, dI) classes [(h, .inr (0, [.ref ro, .ref ch, v2, v3, .ref rg, .ref lg, .int 0, .int 0])), (ro, .inr (1, [.ref ra, .int 0])), (ra, .inl (cI, 32, .inl (f))), (ch, .inr (1, [ca, .int 0])), (rg, .inr (4, [.ref dl, .ref ll, .ref el, w3, w4])), (dl, .inr (6, [x0, .int 0, y0])), (ll, .inr (6, [x1, .int 0, y1])), (el, .inr (6, [x2, .int 0, y2])), (lg, .inr (5, [z0, .int 0, .int 0])), (ho, .inl (cL, 1, .inr (.inl (f0))))] s.heap := hP
  have hl := lv_entry ([.ref h, .int a0, .int a1, .ref ho]) (n := 5) (Nat.le_of_ble_eq_true rfl)
  rw [lg_entry_eq]
  generalize (lg_sl ([.ref h, .int a0, .int a1, .ref ho]) ++ List.replicate (5 - (lg_sl ([.ref h, .int a0, .int a1, .ref ho])).length) Slot.unset).toArray = ls at hl ⊢
  have hl : lv_has ls 5 [(0, .ref h), (1, .int a0), (2, .int a1), (3, .ref ho)] := hl
  have htab := tw_table B (atoms_spec (ws := w_law_parent) B.pre _ List.mem_cons_self)
  refine lv_aload_n hx hb d_law_parent_0 rfl (lv_at hl 3 rfl) ?_
  refine lv_iconst (v := 0) hx hb d_law_parent_1 (by decide) ?_
  refine lv_aload_n hx hb d_law_parent_2 rfl (lv_at hl 0 rfl) ?_
  refine lv_iload_n hx hb d_law_parent_3 rfl (lv_at hl 1 rfl) ?_
  refine lv_iload_n hx hb d_law_parent_4 rfl (lv_at hl 2 rfl) ?_
  refine tw_chk (tw_runV (As := [.int a0, .int a1]) (rest := [.int 0, .ref ho]) ⟨hx, hb, hml, hown, hts⟩ (c_parent_down l hfl dC dI h rg ll (.ref ro) (.ref ch) v2 v3 (.ref lg) (.int 0) (.ref dl) (.ref el) w3 w4 x1 y1 0 0 a0 a1 (fun o => o.2 rfl)) (cwV 2 hts (tw_gV tk_311 tk_312 tk_313 tk_213 tk_314) rfl rfl rfl (by decide +kernel) ⟨Nat.le_of_ble_eq_true rfl, Nat.le_of_ble_eq_true rfl⟩) (tw_v2E (va_recv (q0 := 0) hK hP rfl rfl) (hP.sub (ws' := [(h, .inr (0, [.ref ro, .ref ch, v2, v3, .ref rg, .ref lg, .int 0, .int 0])), (rg, .inr (4, [.ref dl, .ref ll, .ref el, w3, w4])), (ll, .inr (6, [x1, .int 0, y1]))]) [0, 4, 6] rfl) (hK.sub (tys' := []) [] rfl) hE (tw_kst hN hS)) rfl rfl hl.1 rfl (lv_room (Nat.le_of_ble_eq_true rfl)) d_law_parent_5 ⟨by show 1 ≤ 1; decide, by show 6 ≤ 6; decide⟩) (fun o => o.elim) (fun o x1 J2 j1 j2 j3 j4 => ?_)
  have hP := tw_P1 hP j3
  have hS := tw_S1 hS j2 j3
  refine tw_catch (pre := []) (post := [(0, 10, 17, 26)]) (sp := 0) (ep := 10) (hp := 13) (ct := 21) hown htab rfl j4 ⟨by decide, by decide⟩ (by decide) (hts _ tk_278) (fun y hy => by cases hy) ?_
  refine lv_astore (lv' := [(4, .ref x1), (0, .ref h), (1, .int a0), (2, .int a1), (3, .ref ho)]) hx hb d_law_parent_13 hl (by decide) rfl (fun ls hl => ?_)
  refine lv_iconst (v := 1) hx hb d_law_parent_15 (by decide) ?_
  have hP9 := hP.sub (ws' := [(ho, .inl (cL, 1, .inr (.inl (f0))))]) [9] rfl
  have hD9 := hD.sub (ws' := [(ho, .inl (cL, 1, .inr (.inl (f0))))]) [9] (by decide) rfl
  have hK9 := hK.sub (tys' := [(cL, .long)]) [1] rfl
  refine W.widen (k := 1) (n := 6) (by decide) (by decide) ?_
  exact W.iret (v := 1) hx hb hr (fun t ht hW => ⟨⟨1, f0, rfl, rfl, by rw [ht]; exact hP9, va_K.moved hW.alike hK9, hD9⟩, hS.F ht⟩) hS.2.2 d_law_parent_16
theorem tk_315 : (Jvm.Cond.methodLink "LandBookLaw" (61 : Nat) ({ cls := "LandBook", name := "child", desc := "(II)I" } : Jvm.MethodName)) ∈ tw_G := tw_in (List.mem_of_getElem? (i := 951) (by decide +kernel)) rfl
theorem tk_316 : (Jvm.Cond.instanceMethod ({ cls := "LandBook", name := "child", desc := "(II)I" } : Jvm.MethodName)) ∈ tw_G := tw_in (List.mem_of_getElem? (i := 952) (by decide +kernel)) rfl
theorem tk_317 : (Jvm.Cond.selects "LandBook" ({ cls := "LandBook", name := "child", desc := "(II)I" } : Jvm.MethodName) ({ cls := "LandBook", name := "child", desc := "(II)I" } : Jvm.MethodName)) ∈ tw_G := tw_in (List.mem_of_getElem? (i := 953) (by decide +kernel)) rfl
theorem tk_318 : (Jvm.Cond.code ({ cls := "LandBook", name := "child", desc := "(II)I" } : Jvm.MethodName) prog_1_method_15_code (3 : Nat) (Option.some Jvm.ClassFile.FieldType.int)) ∈ tw_G := tw_in (List.mem_of_getElem? (i := 954) (by decide +kernel)) rfl
abbrev y_law_child : MethodName := ⟨"LandBookLaw", "child", "(LLandBook;II[J)I"⟩
abbrev w_law_child : List Cond := Cond.codeWith y_law_child method_16_code 5 (some .int) [(0, 10, 13, 21), (0, 10, 17, 26)] :: tw_G
theorem d_law_child_0 : decode method_16_code 0 = .ok (.aload_n 3, 1) := by decide +kernel
theorem d_law_child_1 : decode method_16_code 1 = .ok (.iconst 0, 1) := by decide +kernel
theorem d_law_child_2 : decode method_16_code 2 = .ok (.aload_n 0, 1) := by decide +kernel
theorem d_law_child_3 : decode method_16_code 3 = .ok (.iload_n 1, 1) := by decide +kernel
theorem d_law_child_4 : decode method_16_code 4 = .ok (.iload_n 2, 1) := by decide +kernel
theorem d_law_child_5 : decode method_16_code 5 = .ok (.invokevirtual 61, 3) := by decide +kernel
theorem d_law_child_13 : decode method_16_code 13 = .ok (.astore 4, 2) := by decide +kernel
theorem d_law_child_15 : decode method_16_code 15 = .ok (.iconst 1, 1) := by decide +kernel
theorem d_law_child_16 : decode method_16_code 16 = .ok (.ireturn, 1) := by decide +kernel
set_option maxHeartbeats 4000000 in
set_option maxRecDepth 100000 in
theorem c_law_child (l : Launch) (hfl : l.flags = pinnedFlags ++ [noTraceFlag]) (dC : Nat → ClassId) (dI : Nat → Nat → Nat) (h sz ro ra ch rg dl ll el lg ho : Nat) (cI cL : ClassId) (f : Nat → Int32) (f0 : Nat → Int64) (v2 v3 ca w3 w4 x0 y0 x1 y1 x2 y2 z0 : Value) (a0 a1 : Int32) : Met l y_law_child w_law_child ({ frames := 8, cells := 1, slots := 6, locals := 124 }) (tw_P4E (dC, dI) classes [(h, .inr (0, [.ref ro, .ref ch, v2, v3, .ref rg, .ref lg, .int 0, .int 0])), (ro, .inr (1, [.ref ra, .int 0])), (ra, .inl (cI, 32, .inl (f))), (ch, .inr (1, [ca, .int 0])), (rg, .inr (4, [.ref dl, .ref ll, .ref el, w3, w4])), (dl, .inr (6, [x0, .int 0, y0])), (ll, .inr (6, [x1, .int 0, y1])), (el, .inr (6, [x2, .int 0, y2])), (lg, .inr (5, [z0, .int 0, .int 0])), (ho, .inl (cL, 1, .inr (.inl (f0))))] [(cI, .int), (cL, .long)] sz [.ref h, .int a0, .int a1, .ref ho]) (va_Qi (fun (r : Int32) (u : Nat → Int64) => r = 1) (fun u => tw_B dC dI (va_A [(h, .inr (0, [.ref ro, .ref ch, v2, v3, .ref rg, .ref lg, .int 0, .int 0])), (ro, .inr (1, [.ref ra, .int 0])), (ra, .inl (cI, 32, .inl (f))), (ch, .inr (1, [ca, .int 0])), (rg, .inr (4, [.ref dl, .ref ll, .ref el, w3, w4])), (dl, .inr (6, [x0, .int 0, y0])), (ll, .inr (6, [x1, .int 0, y1])), (el, .inr (6, [x2, .int 0, y2])), (lg, .inr (5, [z0, .int 0, .int 0])), (ho, .inl (cL, 1, .inr (.inl (f0))))] sz) [(ho, .inl (cL, 1, .inr (.inl (u))))] [(cL, .long)]) (va_A [(h, .inr (0, [.ref ro, .ref ch, v2, v3, .ref rg, .ref lg, .int 0, .int 0])), (ro, .inr (1, [.ref ra, .int 0])), (ra, .inl (cI, 32, .inl (f))), (ch, .inr (1, [ca, .int 0])), (rg, .inr (4, [.ref dl, .ref ll, .ref el, w3, w4])), (dl, .inr (6, [x0, .int 0, y0])), (ll, .inr (6, [x1, .int 0, y1])), (el, .inr (6, [x2, .int 0, y2])), (lg, .inr (5, [z0, .int 0, .int 0])), (ho, .inl (cL, 1, .inr (.inl (f0))))] sz)) 1 6 (va_A [(h, .inr (0, [.ref ro, .ref ch, v2, v3, .ref rg, .ref lg, .int 0, .int 0])), (ro, .inr (1, [.ref ra, .int 0])), (ra, .inl (cI, 32, .inl (f))), (ch, .inr (1, [ca, .int 0])), (rg, .inr (4, [.ref dl, .ref ll, .ref el, w3, w4])), (dl, .inr (6, [x0, .int 0, y0])), (ll, .inr (6, [x1, .int 0, y1])), (el, .inr (6, [x2, .int 0, y2])), (lg, .inr (5, [z0, .int 0, .int 0])), (ho, .inl (cL, 1, .inr (.inl (f0))))] sz) := by
  refine va_MetW (cc := method_16_code) (maxL := 5) (ret := (some .int)) (hh := [(0, 10, 13, 21), (0, 10, 17, 26)]) (by decide) rfl ?_
  intro p e s m args below meth c s₁ B hml hv
  obtain ⟨rfl, hsz, hP, hK, hD0, hE⟩ := hv
  have hx := B.exec
  have hb := B.bytes
  have hr := B.returns
  have hts : ∀ w ∈ tw_G, w.before _ s = true := fun w h => atoms_spec (ws := w_law_child) B.pre w (List.mem_cons_of_mem _ h)
  have hown : s.vm.findClass "LandBookLaw" = some m.cls := findClass_of_methodNamed B.named
  have hlocks := B.notSynchronized
  subst hsz
  have hN := tw_nst hP
  have hD := hD0.self (sz := s.heap.size)
  generalize hAe : va_A [(h, .inr (0, [.ref ro, .ref ch, v2, v3, .ref rg, .ref lg, .int 0, .int 0])), (ro, .inr (1, [.ref ra, .int 0])), (ra, .inl (cI, 32, .inl (f))), (ch, .inr (1, [ca, .int 0])), (rg, .inr (4, [.ref dl, .ref ll, .ref el, w3, w4])), (dl, .inr (6, [x0, .int 0, y0])), (ll, .inr (6, [x1, .int 0, y1])), (el, .inr (6, [x2, .int 0, y2])), (lg, .inr (5, [z0, .int 0, .int 0])), (ho, .inl (cL, 1, .inr (.inl (f0))))] s.heap.size = A at hD hN ⊢
  have hA : ∀ q : Nat, s.heap.size ≤ q → A q := fun q h => by rw [← hAe]; exact Or.inr h
  have hS : va_S A s.heap s.heap [] := va_S.rf
  have hP : va_P (dC, dI) classes [(h, .inr (0, [.ref ro, .ref ch, v2, v3, .ref rg, .ref lg, .int 0, .int 0])), (ro, .inr (1, [.ref ra, .int 0])), (ra, .inl (cI, 32, .inl (f))), (ch, .inr (1, [ca, .int 0])), (rg, .inr (4, [.ref dl, .ref ll, .ref el, w3, w4])), (dl, .inr (6, [x0, .int 0, y0])), (ll, .inr (6, [x1, .int 0, y1])), (el, .inr (6, [x2, .int 0, y2])), (lg, .inr (5, [z0, .int 0, .int 0])), (ho, .inl (cL, 1, .inr (.inl (f0))))] s.heap := hP
  have hl := lv_entry ([.ref h, .int a0, .int a1, .ref ho]) (n := 5) (Nat.le_of_ble_eq_true rfl)
  rw [lg_entry_eq]
  generalize (lg_sl ([.ref h, .int a0, .int a1, .ref ho]) ++ List.replicate (5 - (lg_sl ([.ref h, .int a0, .int a1, .ref ho])).length) Slot.unset).toArray = ls at hl ⊢
  have hl : lv_has ls 5 [(0, .ref h), (1, .int a0), (2, .int a1), (3, .ref ho)] := hl
  have htab := tw_table B (atoms_spec (ws := w_law_child) B.pre _ List.mem_cons_self)
  refine lv_aload_n hx hb d_law_child_0 rfl (lv_at hl 3 rfl) ?_
  refine lv_iconst (v := 0) hx hb d_law_child_1 (by decide) ?_
  refine lv_aload_n hx hb d_law_child_2 rfl (lv_at hl 0 rfl) ?_
  refine lv_iload_n hx hb d_law_child_3 rfl (lv_at hl 1 rfl) ?_
  refine lv_iload_n hx hb d_law_child_4 rfl (lv_at hl 2 rfl) ?_
  refine tw_chk (tw_runV (As := [.int a0, .int a1]) (rest := [.int 0, .ref ho]) ⟨hx, hb, hml, hown, hts⟩ (c_child_down l hfl dC dI h rg ll (.ref ro) (.ref ch) v2 v3 (.ref lg) (.int 0) (.ref dl) (.ref el) w3 w4 x1 y1 0 0 a0 a1 (fun o => o.2 rfl)) (cwV 2 hts (tw_gV tk_315 tk_316 tk_317 tk_213 tk_318) rfl rfl rfl (by decide +kernel) ⟨Nat.le_of_ble_eq_true rfl, Nat.le_of_ble_eq_true rfl⟩) (tw_v2E (va_recv (q0 := 0) hK hP rfl rfl) (hP.sub (ws' := [(h, .inr (0, [.ref ro, .ref ch, v2, v3, .ref rg, .ref lg, .int 0, .int 0])), (rg, .inr (4, [.ref dl, .ref ll, .ref el, w3, w4])), (ll, .inr (6, [x1, .int 0, y1]))]) [0, 4, 6] rfl) (hK.sub (tys' := []) [] rfl) hE (tw_kst hN hS)) rfl rfl hl.1 rfl (lv_room (Nat.le_of_ble_eq_true rfl)) d_law_child_5 ⟨by show 1 ≤ 1; decide, by show 6 ≤ 6; decide⟩) (fun o => o.elim) (fun o x1 J2 j1 j2 j3 j4 => ?_)
  have hP := tw_P1 hP j3
  have hS := tw_S1 hS j2 j3
  refine tw_catch (pre := []) (post := [(0, 10, 17, 26)]) (sp := 0) (ep := 10) (hp := 13) (ct := 21) hown htab rfl j4 ⟨by decide, by decide⟩ (by decide) (hts _ tk_278) (fun y hy => by cases hy) ?_
  refine lv_astore (lv' := [(4, .ref x1), (0, .ref h), (1, .int a0), (2, .int a1), (3, .ref ho)]) hx hb d_law_child_13 hl (by decide) rfl (fun ls hl => ?_)
  refine lv_iconst (v := 1) hx hb d_law_child_15 (by decide) ?_
  have hP9 := hP.sub (ws' := [(ho, .inl (cL, 1, .inr (.inl (f0))))]) [9] rfl
  have hD9 := hD.sub (ws' := [(ho, .inl (cL, 1, .inr (.inl (f0))))]) [9] (by decide) rfl
  have hK9 := hK.sub (tys' := [(cL, .long)]) [1] rfl
  refine W.widen (k := 1) (n := 6) (by decide) (by decide) ?_
  exact W.iret (v := 1) hx hb hr (fun t ht hW => ⟨⟨1, f0, rfl, rfl, by rw [ht]; exact hP9, va_K.moved hW.alike hK9, hD9⟩, hS.F ht⟩) hS.2.2 d_law_child_16
theorem tk_319 : (Jvm.Cond.methodLink "LandBookLaw" (64 : Nat) ({ cls := "LandBook", name := "corners", desc := "(I)I" } : Jvm.MethodName)) ∈ tw_G := tw_in (List.mem_of_getElem? (i := 958) (by decide +kernel)) rfl
theorem tk_320 : (Jvm.Cond.instanceMethod ({ cls := "LandBook", name := "corners", desc := "(I)I" } : Jvm.MethodName)) ∈ tw_G := tw_in (List.mem_of_getElem? (i := 959) (by decide +kernel)) rfl
theorem tk_321 : (Jvm.Cond.selects "LandBook" ({ cls := "LandBook", name := "corners", desc := "(I)I" } : Jvm.MethodName) ({ cls := "LandBook", name := "corners", desc := "(I)I" } : Jvm.MethodName)) ∈ tw_G := tw_in (List.mem_of_getElem? (i := 960) (by decide +kernel)) rfl
theorem tk_322 : (Jvm.Cond.code ({ cls := "LandBook", name := "corners", desc := "(I)I" } : Jvm.MethodName) prog_1_method_16_code (2 : Nat) (Option.some Jvm.ClassFile.FieldType.int)) ∈ tw_G := tw_in (List.mem_of_getElem? (i := 961) (by decide +kernel)) rfl
abbrev y_law_corners : MethodName := ⟨"LandBookLaw", "corners", "(LLandBook;I[J)I"⟩
abbrev w_law_corners : List Cond := Cond.codeWith y_law_corners method_17_code 4 (some .int) [(0, 9, 12, 21), (0, 9, 15, 26)] :: tw_G
theorem d_law_corners_0 : decode method_17_code 0 = .ok (.aload_n 2, 1) := by decide +kernel
theorem d_law_corners_1 : decode method_17_code 1 = .ok (.iconst 0, 1) := by decide +kernel
theorem d_law_corners_2 : decode method_17_code 2 = .ok (.aload_n 0, 1) := by decide +kernel
theorem d_law_corners_3 : decode method_17_code 3 = .ok (.iload_n 1, 1) := by decide +kernel
theorem d_law_corners_4 : decode method_17_code 4 = .ok (.invokevirtual 64, 3) := by decide +kernel
theorem d_law_corners_12 : decode method_17_code 12 = .ok (.astore_n 3, 1) := by decide +kernel
theorem d_law_corners_13 : decode method_17_code 13 = .ok (.iconst 1, 1) := by decide +kernel
theorem d_law_corners_14 : decode method_17_code 14 = .ok (.ireturn, 1) := by decide +kernel
set_option maxHeartbeats 4000000 in
set_option maxRecDepth 100000 in
theorem c_law_corners (l : Launch) (hfl : l.flags = pinnedFlags ++ [noTraceFlag]) (dC : Nat → ClassId) (dI : Nat → Nat → Nat) (h sz ro ra ch rg dl ll el lg ho : Nat) (cI cL : ClassId) (f : Nat → Int32) (f0 : Nat → Int64) (v2 v3 ca w3 w4 x0 y0 x1 y1 x2 y2 z0 : Value) (a0 : Int32) : Met l y_law_corners w_law_corners ({ frames := 8, cells := 1, slots := 6, locals := 123 }) (tw_P4E (dC, dI) classes [(h, .inr (0, [.ref ro, .ref ch, v2, v3, .ref rg, .ref lg, .int 0, .int 0])), (ro, .inr (1, [.ref ra, .int 0])), (ra, .inl (cI, 32, .inl (f))), (ch, .inr (1, [ca, .int 0])), (rg, .inr (4, [.ref dl, .ref ll, .ref el, w3, w4])), (dl, .inr (6, [x0, .int 0, y0])), (ll, .inr (6, [x1, .int 0, y1])), (el, .inr (6, [x2, .int 0, y2])), (lg, .inr (5, [z0, .int 0, .int 0])), (ho, .inl (cL, 1, .inr (.inl (f0))))] [(cI, .int), (cL, .long)] sz [.ref h, .int a0, .ref ho]) (va_Qi (fun (r : Int32) (u : Nat → Int64) => r = 1) (fun u => tw_B dC dI (va_A [(h, .inr (0, [.ref ro, .ref ch, v2, v3, .ref rg, .ref lg, .int 0, .int 0])), (ro, .inr (1, [.ref ra, .int 0])), (ra, .inl (cI, 32, .inl (f))), (ch, .inr (1, [ca, .int 0])), (rg, .inr (4, [.ref dl, .ref ll, .ref el, w3, w4])), (dl, .inr (6, [x0, .int 0, y0])), (ll, .inr (6, [x1, .int 0, y1])), (el, .inr (6, [x2, .int 0, y2])), (lg, .inr (5, [z0, .int 0, .int 0])), (ho, .inl (cL, 1, .inr (.inl (f0))))] sz) [(ho, .inl (cL, 1, .inr (.inl (u))))] [(cL, .long)]) (va_A [(h, .inr (0, [.ref ro, .ref ch, v2, v3, .ref rg, .ref lg, .int 0, .int 0])), (ro, .inr (1, [.ref ra, .int 0])), (ra, .inl (cI, 32, .inl (f))), (ch, .inr (1, [ca, .int 0])), (rg, .inr (4, [.ref dl, .ref ll, .ref el, w3, w4])), (dl, .inr (6, [x0, .int 0, y0])), (ll, .inr (6, [x1, .int 0, y1])), (el, .inr (6, [x2, .int 0, y2])), (lg, .inr (5, [z0, .int 0, .int 0])), (ho, .inl (cL, 1, .inr (.inl (f0))))] sz)) 1 6 (va_A [(h, .inr (0, [.ref ro, .ref ch, v2, v3, .ref rg, .ref lg, .int 0, .int 0])), (ro, .inr (1, [.ref ra, .int 0])), (ra, .inl (cI, 32, .inl (f))), (ch, .inr (1, [ca, .int 0])), (rg, .inr (4, [.ref dl, .ref ll, .ref el, w3, w4])), (dl, .inr (6, [x0, .int 0, y0])), (ll, .inr (6, [x1, .int 0, y1])), (el, .inr (6, [x2, .int 0, y2])), (lg, .inr (5, [z0, .int 0, .int 0])), (ho, .inl (cL, 1, .inr (.inl (f0))))] sz) := by
  refine va_MetW (cc := method_17_code) (maxL := 4) (ret := (some .int)) (hh := [(0, 9, 12, 21), (0, 9, 15, 26)]) (by decide) rfl ?_
  intro p e s m args below meth c s₁ B hml hv
  obtain ⟨rfl, hsz, hP, hK, hD0, hE⟩ := hv
  have hx := B.exec
  have hb := B.bytes
  have hr := B.returns
  have hts : ∀ w ∈ tw_G, w.before _ s = true := fun w h => atoms_spec (ws := w_law_corners) B.pre w (List.mem_cons_of_mem _ h)
  have hown : s.vm.findClass "LandBookLaw" = some m.cls := findClass_of_methodNamed B.named
  have hlocks := B.notSynchronized
  subst hsz
  have hN := tw_nst hP
  have hD := hD0.self (sz := s.heap.size)
  generalize hAe : va_A [(h, .inr (0, [.ref ro, .ref ch, v2, v3, .ref rg, .ref lg, .int 0, .int 0])), (ro, .inr (1, [.ref ra, .int 0])), (ra, .inl (cI, 32, .inl (f))), (ch, .inr (1, [ca, .int 0])), (rg, .inr (4, [.ref dl, .ref ll, .ref el, w3, w4])), (dl, .inr (6, [x0, .int 0, y0])), (ll, .inr (6, [x1, .int 0, y1])), (el, .inr (6, [x2, .int 0, y2])), (lg, .inr (5, [z0, .int 0, .int 0])), (ho, .inl (cL, 1, .inr (.inl (f0))))] s.heap.size = A at hD hN ⊢
  have hA : ∀ q : Nat, s.heap.size ≤ q → A q := fun q h => by rw [← hAe]; exact Or.inr h
  have hS : va_S A s.heap s.heap [] := va_S.rf
  have hP : va_P (dC, dI) classes [(h, .inr (0, [.ref ro, .ref ch, v2, v3, .ref rg, .ref lg, .int 0, .int 0])), (ro, .inr (1, [.ref ra, .int 0])), (ra, .inl (cI, 32, .inl (f))), (ch, .inr (1, [ca, .int 0])), (rg, .inr (4, [.ref dl, .ref ll, .ref el, w3, w4])), (dl, .inr (6, [x0, .int 0, y0])), (ll, .inr (6, [x1, .int 0, y1])), (el, .inr (6, [x2, .int 0, y2])), (lg, .inr (5, [z0, .int 0, .int 0])), (ho, .inl (cL, 1, .inr (.inl (f0))))] s.heap := hP
  have hl := lv_entry ([.ref h, .int a0, .ref ho]) (n := 4) (Nat.le_of_ble_eq_true rfl)
  rw [lg_entry_eq]
  generalize (lg_sl ([.ref h, .int a0, .ref ho]) ++ List.replicate (4 - (lg_sl ([.ref h, .int a0, .ref ho])).length) Slot.unset).toArray = ls at hl ⊢
  have hl : lv_has ls 4 [(0, .ref h), (1, .int a0), (2, .ref ho)] := hl
  have htab := tw_table B (atoms_spec (ws := w_law_corners) B.pre _ List.mem_cons_self)
  refine lv_aload_n hx hb d_law_corners_0 rfl (lv_at hl 2 rfl) ?_
  refine lv_iconst (v := 0) hx hb d_law_corners_1 (by decide) ?_
  refine lv_aload_n hx hb d_law_corners_2 rfl (lv_at hl 0 rfl) ?_
  refine lv_iload_n hx hb d_law_corners_3 rfl (lv_at hl 1 rfl) ?_
  refine tw_chk (tw_runV (As := [.int a0]) (rest := [.int 0, .ref ho]) ⟨hx, hb, hml, hown, hts⟩ (c_corners_down l hfl dC dI h rg ll (.ref ro) (.ref ch) v2 v3 (.ref lg) (.int 0) (.ref dl) (.ref el) w3 w4 x1 y1 0 0 a0 (fun o => o.2 rfl)) (cwV 1 hts (tw_gV tk_319 tk_320 tk_321 tk_213 tk_322) rfl rfl rfl (by decide +kernel) ⟨Nat.le_of_ble_eq_true rfl, Nat.le_of_ble_eq_true rfl⟩) (tw_v2E (va_recv (q0 := 0) hK hP rfl rfl) (hP.sub (ws' := [(h, .inr (0, [.ref ro, .ref ch, v2, v3, .ref rg, .ref lg, .int 0, .int 0])), (rg, .inr (4, [.ref dl, .ref ll, .ref el, w3, w4])), (ll, .inr (6, [x1, .int 0, y1]))]) [0, 4, 6] rfl) (hK.sub (tys' := []) [] rfl) hE (tw_kst hN hS)) rfl rfl hl.1 rfl (lv_room (Nat.le_of_ble_eq_true rfl)) d_law_corners_4 ⟨by show 1 ≤ 1; decide, by show 6 ≤ 6; decide⟩) (fun o => o.elim) (fun o x1 J2 j1 j2 j3 j4 => ?_)
  have hP := tw_P1 hP j3
  have hS := tw_S1 hS j2 j3
  refine tw_catch (pre := []) (post := [(0, 9, 15, 26)]) (sp := 0) (ep := 9) (hp := 12) (ct := 21) hown htab rfl j4 ⟨by decide, by decide⟩ (by decide) (hts _ tk_278) (fun y hy => by cases hy) ?_
  refine lv_astore_n (lv' := [(3, .ref x1), (0, .ref h), (1, .int a0), (2, .ref ho)]) hx hb d_law_corners_12 rfl hl (by decide) rfl (fun ls hl => ?_)
  refine lv_iconst (v := 1) hx hb d_law_corners_13 (by decide) ?_
  have hP9 := hP.sub (ws' := [(ho, .inl (cL, 1, .inr (.inl (f0))))]) [9] rfl
  have hD9 := hD.sub (ws' := [(ho, .inl (cL, 1, .inr (.inl (f0))))]) [9] (by decide) rfl
  have hK9 := hK.sub (tys' := [(cL, .long)]) [1] rfl
  refine W.widen (k := 1) (n := 6) (by decide) (by decide) ?_
  exact W.iret (v := 1) hx hb hr (fun t ht hW => ⟨⟨1, f0, rfl, rfl, by rw [ht]; exact hP9, va_K.moved hW.alike hK9, hD9⟩, hS.F ht⟩) hS.2.2 d_law_corners_14
theorem tk_323 : (Jvm.Cond.methodLink "LandBookLaw" (68 : Nat) ({ cls := "LandBook", name := "corner", desc := "(II)I" } : Jvm.MethodName)) ∈ tw_G := tw_in (List.mem_of_getElem? (i := 965) (by decide +kernel)) rfl
theorem tk_324 : (Jvm.Cond.instanceMethod ({ cls := "LandBook", name := "corner", desc := "(II)I" } : Jvm.MethodName)) ∈ tw_G := tw_in (List.mem_of_getElem? (i := 966) (by decide +kernel)) rfl
theorem tk_325 : (Jvm.Cond.selects "LandBook" ({ cls := "LandBook", name := "corner", desc := "(II)I" } : Jvm.MethodName) ({ cls := "LandBook", name := "corner", desc := "(II)I" } : Jvm.MethodName)) ∈ tw_G := tw_in (List.mem_of_getElem? (i := 967) (by decide +kernel)) rfl
theorem tk_326 : (Jvm.Cond.code ({ cls := "LandBook", name := "corner", desc := "(II)I" } : Jvm.MethodName) prog_1_method_17_code (4 : Nat) (Option.some Jvm.ClassFile.FieldType.int)) ∈ tw_G := tw_in (List.mem_of_getElem? (i := 968) (by decide +kernel)) rfl
abbrev y_law_corner : MethodName := ⟨"LandBookLaw", "corner", "(LLandBook;II[J)I"⟩
abbrev w_law_corner : List Cond := Cond.codeWith y_law_corner method_18_code 5 (some .int) [(0, 10, 13, 21), (0, 10, 17, 26)] :: tw_G
theorem d_law_corner_0 : decode method_18_code 0 = .ok (.aload_n 3, 1) := by decide +kernel
theorem d_law_corner_1 : decode method_18_code 1 = .ok (.iconst 0, 1) := by decide +kernel
theorem d_law_corner_2 : decode method_18_code 2 = .ok (.aload_n 0, 1) := by decide +kernel
theorem d_law_corner_3 : decode method_18_code 3 = .ok (.iload_n 1, 1) := by decide +kernel
theorem d_law_corner_4 : decode method_18_code 4 = .ok (.iload_n 2, 1) := by decide +kernel
theorem d_law_corner_5 : decode method_18_code 5 = .ok (.invokevirtual 68, 3) := by decide +kernel
theorem d_law_corner_13 : decode method_18_code 13 = .ok (.astore 4, 2) := by decide +kernel
theorem d_law_corner_15 : decode method_18_code 15 = .ok (.iconst 1, 1) := by decide +kernel
theorem d_law_corner_16 : decode method_18_code 16 = .ok (.ireturn, 1) := by decide +kernel
set_option maxHeartbeats 4000000 in
set_option maxRecDepth 100000 in
theorem c_law_corner (l : Launch) (hfl : l.flags = pinnedFlags ++ [noTraceFlag]) (dC : Nat → ClassId) (dI : Nat → Nat → Nat) (h sz ro ra ch rg dl ll el lg ho : Nat) (cI cL : ClassId) (f : Nat → Int32) (f0 : Nat → Int64) (v2 v3 ca w3 w4 x0 y0 x1 y1 x2 y2 z0 : Value) (a0 a1 : Int32) : Met l y_law_corner w_law_corner ({ frames := 8, cells := 1, slots := 6, locals := 125 }) (tw_P4E (dC, dI) classes [(h, .inr (0, [.ref ro, .ref ch, v2, v3, .ref rg, .ref lg, .int 0, .int 0])), (ro, .inr (1, [.ref ra, .int 0])), (ra, .inl (cI, 32, .inl (f))), (ch, .inr (1, [ca, .int 0])), (rg, .inr (4, [.ref dl, .ref ll, .ref el, w3, w4])), (dl, .inr (6, [x0, .int 0, y0])), (ll, .inr (6, [x1, .int 0, y1])), (el, .inr (6, [x2, .int 0, y2])), (lg, .inr (5, [z0, .int 0, .int 0])), (ho, .inl (cL, 1, .inr (.inl (f0))))] [(cI, .int), (cL, .long)] sz [.ref h, .int a0, .int a1, .ref ho]) (va_Qi (fun (r : Int32) (u : Nat → Int64) => r = 1) (fun u => tw_B dC dI (va_A [(h, .inr (0, [.ref ro, .ref ch, v2, v3, .ref rg, .ref lg, .int 0, .int 0])), (ro, .inr (1, [.ref ra, .int 0])), (ra, .inl (cI, 32, .inl (f))), (ch, .inr (1, [ca, .int 0])), (rg, .inr (4, [.ref dl, .ref ll, .ref el, w3, w4])), (dl, .inr (6, [x0, .int 0, y0])), (ll, .inr (6, [x1, .int 0, y1])), (el, .inr (6, [x2, .int 0, y2])), (lg, .inr (5, [z0, .int 0, .int 0])), (ho, .inl (cL, 1, .inr (.inl (f0))))] sz) [(ho, .inl (cL, 1, .inr (.inl (u))))] [(cL, .long)]) (va_A [(h, .inr (0, [.ref ro, .ref ch, v2, v3, .ref rg, .ref lg, .int 0, .int 0])), (ro, .inr (1, [.ref ra, .int 0])), (ra, .inl (cI, 32, .inl (f))), (ch, .inr (1, [ca, .int 0])), (rg, .inr (4, [.ref dl, .ref ll, .ref el, w3, w4])), (dl, .inr (6, [x0, .int 0, y0])), (ll, .inr (6, [x1, .int 0, y1])), (el, .inr (6, [x2, .int 0, y2])), (lg, .inr (5, [z0, .int 0, .int 0])), (ho, .inl (cL, 1, .inr (.inl (f0))))] sz)) 1 6 (va_A [(h, .inr (0, [.ref ro, .ref ch, v2, v3, .ref rg, .ref lg, .int 0, .int 0])), (ro, .inr (1, [.ref ra, .int 0])), (ra, .inl (cI, 32, .inl (f))), (ch, .inr (1, [ca, .int 0])), (rg, .inr (4, [.ref dl, .ref ll, .ref el, w3, w4])), (dl, .inr (6, [x0, .int 0, y0])), (ll, .inr (6, [x1, .int 0, y1])), (el, .inr (6, [x2, .int 0, y2])), (lg, .inr (5, [z0, .int 0, .int 0])), (ho, .inl (cL, 1, .inr (.inl (f0))))] sz) := by
  refine va_MetW (cc := method_18_code) (maxL := 5) (ret := (some .int)) (hh := [(0, 10, 13, 21), (0, 10, 17, 26)]) (by decide) rfl ?_
  intro p e s m args below meth c s₁ B hml hv
  obtain ⟨rfl, hsz, hP, hK, hD0, hE⟩ := hv
  have hx := B.exec
  have hb := B.bytes
  have hr := B.returns
  have hts : ∀ w ∈ tw_G, w.before _ s = true := fun w h => atoms_spec (ws := w_law_corner) B.pre w (List.mem_cons_of_mem _ h)
  have hown : s.vm.findClass "LandBookLaw" = some m.cls := findClass_of_methodNamed B.named
  have hlocks := B.notSynchronized
  subst hsz
  have hN := tw_nst hP
  have hD := hD0.self (sz := s.heap.size)
  generalize hAe : va_A [(h, .inr (0, [.ref ro, .ref ch, v2, v3, .ref rg, .ref lg, .int 0, .int 0])), (ro, .inr (1, [.ref ra, .int 0])), (ra, .inl (cI, 32, .inl (f))), (ch, .inr (1, [ca, .int 0])), (rg, .inr (4, [.ref dl, .ref ll, .ref el, w3, w4])), (dl, .inr (6, [x0, .int 0, y0])), (ll, .inr (6, [x1, .int 0, y1])), (el, .inr (6, [x2, .int 0, y2])), (lg, .inr (5, [z0, .int 0, .int 0])), (ho, .inl (cL, 1, .inr (.inl (f0))))] s.heap.size = A at hD hN ⊢
  have hA : ∀ q : Nat, s.heap.size ≤ q → A q := fun q h => by rw [← hAe]; exact Or.inr h
  have hS : va_S A s.heap s.heap [] := va_S.rf
  have hP : va_P (dC, dI) classes [(h, .inr (0, [.ref ro, .ref ch, v2, v3, .ref rg, .ref lg, .int 0, .int 0])), (ro, .inr (1, [.ref ra, .int 0])), (ra, .inl (cI, 32, .inl (f))), (ch, .inr (1, [ca, .int 0])), (rg, .inr (4, [.ref dl, .ref ll, .ref el, w3, w4])), (dl, .inr (6, [x0, .int 0, y0])), (ll, .inr (6, [x1, .int 0, y1])), (el, .inr (6, [x2, .int 0, y2])), (lg, .inr (5, [z0, .int 0, .int 0])), (ho, .inl (cL, 1, .inr (.inl (f0))))] s.heap := hP
  have hl := lv_entry ([.ref h, .int a0, .int a1, .ref ho]) (n := 5) (Nat.le_of_ble_eq_true rfl)
  rw [lg_entry_eq]
  generalize (lg_sl ([.ref h, .int a0, .int a1, .ref ho]) ++ List.replicate (5 - (lg_sl ([.ref h, .int a0, .int a1, .ref ho])).length) Slot.unset).toArray = ls at hl ⊢
  have hl : lv_has ls 5 [(0, .ref h), (1, .int a0), (2, .int a1), (3, .ref ho)] := hl
  have htab := tw_table B (atoms_spec (ws := w_law_corner) B.pre _ List.mem_cons_self)
  refine lv_aload_n hx hb d_law_corner_0 rfl (lv_at hl 3 rfl) ?_
  refine lv_iconst (v := 0) hx hb d_law_corner_1 (by decide) ?_
  refine lv_aload_n hx hb d_law_corner_2 rfl (lv_at hl 0 rfl) ?_
  refine lv_iload_n hx hb d_law_corner_3 rfl (lv_at hl 1 rfl) ?_
  refine lv_iload_n hx hb d_law_corner_4 rfl (lv_at hl 2 rfl) ?_
  refine tw_chk (tw_runV (As := [.int a0, .int a1]) (rest := [.int 0, .ref ho]) ⟨hx, hb, hml, hown, hts⟩ (c_corner_down l hfl dC dI h rg ll (.ref ro) (.ref ch) v2 v3 (.ref lg) (.int 0) (.ref dl) (.ref el) w3 w4 x1 y1 0 0 a0 a1 (fun o => o.2 rfl)) (cwV 2 hts (tw_gV tk_323 tk_324 tk_325 tk_213 tk_326) rfl rfl rfl (by decide +kernel) ⟨Nat.le_of_ble_eq_true rfl, Nat.le_of_ble_eq_true rfl⟩) (tw_v2E (va_recv (q0 := 0) hK hP rfl rfl) (hP.sub (ws' := [(h, .inr (0, [.ref ro, .ref ch, v2, v3, .ref rg, .ref lg, .int 0, .int 0])), (rg, .inr (4, [.ref dl, .ref ll, .ref el, w3, w4])), (ll, .inr (6, [x1, .int 0, y1]))]) [0, 4, 6] rfl) (hK.sub (tys' := []) [] rfl) hE (tw_kst hN hS)) rfl rfl hl.1 rfl (lv_room (Nat.le_of_ble_eq_true rfl)) d_law_corner_5 ⟨by show 1 ≤ 1; decide, by show 6 ≤ 6; decide⟩) (fun o => o.elim) (fun o x1 J2 j1 j2 j3 j4 => ?_)
  have hP := tw_P1 hP j3
  have hS := tw_S1 hS j2 j3
  refine tw_catch (pre := []) (post := [(0, 10, 17, 26)]) (sp := 0) (ep := 10) (hp := 13) (ct := 21) hown htab rfl j4 ⟨by decide, by decide⟩ (by decide) (hts _ tk_278) (fun y hy => by cases hy) ?_
  refine lv_astore (lv' := [(4, .ref x1), (0, .ref h), (1, .int a0), (2, .int a1), (3, .ref ho)]) hx hb d_law_corner_13 hl (by decide) rfl (fun ls hl => ?_)
  refine lv_iconst (v := 1) hx hb d_law_corner_15 (by decide) ?_
  have hP9 := hP.sub (ws' := [(ho, .inl (cL, 1, .inr (.inl (f0))))]) [9] rfl
  have hD9 := hD.sub (ws' := [(ho, .inl (cL, 1, .inr (.inl (f0))))]) [9] (by decide) rfl
  have hK9 := hK.sub (tys' := [(cL, .long)]) [1] rfl
  refine W.widen (k := 1) (n := 6) (by decide) (by decide) ?_
  exact W.iret (v := 1) hx hb hr (fun t ht hW => ⟨⟨1, f0, rfl, rfl, by rw [ht]; exact hP9, va_K.moved hW.alike hK9, hD9⟩, hS.F ht⟩) hS.2.2 d_law_corner_16
theorem tk_327 : (Jvm.Cond.methodLink "LandBookLaw" (77 : Nat) ({ cls := "LandBook", name := "sync", desc := "()I" } : Jvm.MethodName)) ∈ tw_G := tw_in (List.mem_of_getElem? (i := 993) (by decide +kernel)) rfl
theorem tk_328 : (Jvm.Cond.instanceMethod ({ cls := "LandBook", name := "sync", desc := "()I" } : Jvm.MethodName)) ∈ tw_G := tw_in (List.mem_of_getElem? (i := 994) (by decide +kernel)) rfl
theorem tk_329 : (Jvm.Cond.selects "LandBook" ({ cls := "LandBook", name := "sync", desc := "()I" } : Jvm.MethodName) ({ cls := "LandBook", name := "sync", desc := "()I" } : Jvm.MethodName)) ∈ tw_G := tw_in (List.mem_of_getElem? (i := 995) (by decide +kernel)) rfl
theorem tk_330 : (Jvm.Cond.code ({ cls := "LandBook", name := "sync", desc := "()I" } : Jvm.MethodName) prog_1_method_20_code (2 : Nat) (Option.some Jvm.ClassFile.FieldType.int)) ∈ tw_G := tw_in (List.mem_of_getElem? (i := 996) (by decide +kernel)) rfl
abbrev y_law_sync : MethodName := ⟨"LandBookLaw", "sync", "(LLandBook;[J)I"⟩
abbrev w_law_sync : List Cond := Cond.codeWith y_law_sync method_21_code 3 (some .int) [(0, 8, 11, 21)] :: tw_G
theorem d_law_sync_0 : decode method_21_code 0 = .ok (.aload_n 1, 1) := by decide +kernel
theorem d_law_sync_1 : decode method_21_code 1 = .ok (.iconst 0, 1) := by decide +kernel
theorem d_law_sync_2 : decode method_21_code 2 = .ok (.aload_n 0, 1) := by decide +kernel
theorem d_law_sync_3 : decode method_21_code 3 = .ok (.invokevirtual 77, 3) := by decide +kernel
theorem d_law_sync_11 : decode method_21_code 11 = .ok (.astore_n 2, 1) := by decide +kernel
theorem d_law_sync_12 : decode method_21_code 12 = .ok (.iconst 1, 1) := by decide +kernel
theorem d_law_sync_13 : decode method_21_code 13 = .ok (.ireturn, 1) := by decide +kernel
set_option maxHeartbeats 4000000 in
set_option maxRecDepth 100000 in
theorem c_law_sync (l : Launch) (hfl : l.flags = pinnedFlags ++ [noTraceFlag]) (dC : Nat → ClassId) (dI : Nat → Nat → Nat) (h sz ro ra ch rg dl ll el lg ho : Nat) (cI cL : ClassId) (f : Nat → Int32) (f0 : Nat → Int64) (v2 v3 ca w3 w4 x0 y0 x1 y1 x2 y2 z0 : Value) : Met l y_law_sync w_law_sync ({ frames := 8, cells := 1, slots := 6, locals := 123 }) (tw_P4E (dC, dI) classes [(h, .inr (0, [.ref ro, .ref ch, v2, v3, .ref rg, .ref lg, .int 0, .int 0])), (ro, .inr (1, [.ref ra, .int 0])), (ra, .inl (cI, 32, .inl (f))), (ch, .inr (1, [ca, .int 0])), (rg, .inr (4, [.ref dl, .ref ll, .ref el, w3, w4])), (dl, .inr (6, [x0, .int 0, y0])), (ll, .inr (6, [x1, .int 0, y1])), (el, .inr (6, [x2, .int 0, y2])), (lg, .inr (5, [z0, .int 0, .int 0])), (ho, .inl (cL, 1, .inr (.inl (f0))))] [(cI, .int), (cL, .long)] sz [.ref h, .ref ho]) (va_Qi (fun (r : Int32) (u : Nat → Int64) => r = 1) (fun u => tw_B dC dI (va_A [(h, .inr (0, [.ref ro, .ref ch, v2, v3, .ref rg, .ref lg, .int 0, .int 0])), (ro, .inr (1, [.ref ra, .int 0])), (ra, .inl (cI, 32, .inl (f))), (ch, .inr (1, [ca, .int 0])), (rg, .inr (4, [.ref dl, .ref ll, .ref el, w3, w4])), (dl, .inr (6, [x0, .int 0, y0])), (ll, .inr (6, [x1, .int 0, y1])), (el, .inr (6, [x2, .int 0, y2])), (lg, .inr (5, [z0, .int 0, .int 0])), (ho, .inl (cL, 1, .inr (.inl (f0))))] sz) [(ho, .inl (cL, 1, .inr (.inl (u))))] [(cL, .long)]) (va_A [(h, .inr (0, [.ref ro, .ref ch, v2, v3, .ref rg, .ref lg, .int 0, .int 0])), (ro, .inr (1, [.ref ra, .int 0])), (ra, .inl (cI, 32, .inl (f))), (ch, .inr (1, [ca, .int 0])), (rg, .inr (4, [.ref dl, .ref ll, .ref el, w3, w4])), (dl, .inr (6, [x0, .int 0, y0])), (ll, .inr (6, [x1, .int 0, y1])), (el, .inr (6, [x2, .int 0, y2])), (lg, .inr (5, [z0, .int 0, .int 0])), (ho, .inl (cL, 1, .inr (.inl (f0))))] sz)) 1 6 (va_A [(h, .inr (0, [.ref ro, .ref ch, v2, v3, .ref rg, .ref lg, .int 0, .int 0])), (ro, .inr (1, [.ref ra, .int 0])), (ra, .inl (cI, 32, .inl (f))), (ch, .inr (1, [ca, .int 0])), (rg, .inr (4, [.ref dl, .ref ll, .ref el, w3, w4])), (dl, .inr (6, [x0, .int 0, y0])), (ll, .inr (6, [x1, .int 0, y1])), (el, .inr (6, [x2, .int 0, y2])), (lg, .inr (5, [z0, .int 0, .int 0])), (ho, .inl (cL, 1, .inr (.inl (f0))))] sz) := by
  refine va_MetW (cc := method_21_code) (maxL := 3) (ret := (some .int)) (hh := [(0, 8, 11, 21)]) (by decide) rfl ?_
  intro p e s m args below meth c s₁ B hml hv
  obtain ⟨rfl, hsz, hP, hK, hD0, hE⟩ := hv
  have hx := B.exec
  have hb := B.bytes
  have hr := B.returns
  have hts : ∀ w ∈ tw_G, w.before _ s = true := fun w h => atoms_spec (ws := w_law_sync) B.pre w (List.mem_cons_of_mem _ h)
  have hown : s.vm.findClass "LandBookLaw" = some m.cls := findClass_of_methodNamed B.named
  have hlocks := B.notSynchronized
  subst hsz
  have hN := tw_nst hP
  have hD := hD0.self (sz := s.heap.size)
  generalize hAe : va_A [(h, .inr (0, [.ref ro, .ref ch, v2, v3, .ref rg, .ref lg, .int 0, .int 0])), (ro, .inr (1, [.ref ra, .int 0])), (ra, .inl (cI, 32, .inl (f))), (ch, .inr (1, [ca, .int 0])), (rg, .inr (4, [.ref dl, .ref ll, .ref el, w3, w4])), (dl, .inr (6, [x0, .int 0, y0])), (ll, .inr (6, [x1, .int 0, y1])), (el, .inr (6, [x2, .int 0, y2])), (lg, .inr (5, [z0, .int 0, .int 0])), (ho, .inl (cL, 1, .inr (.inl (f0))))] s.heap.size = A at hD hN ⊢
  have hA : ∀ q : Nat, s.heap.size ≤ q → A q := fun q h => by rw [← hAe]; exact Or.inr h
  have hS : va_S A s.heap s.heap [] := va_S.rf
  have hP : va_P (dC, dI) classes [(h, .inr (0, [.ref ro, .ref ch, v2, v3, .ref rg, .ref lg, .int 0, .int 0])), (ro, .inr (1, [.ref ra, .int 0])), (ra, .inl (cI, 32, .inl (f))), (ch, .inr (1, [ca, .int 0])), (rg, .inr (4, [.ref dl, .ref ll, .ref el, w3, w4])), (dl, .inr (6, [x0, .int 0, y0])), (ll, .inr (6, [x1, .int 0, y1])), (el, .inr (6, [x2, .int 0, y2])), (lg, .inr (5, [z0, .int 0, .int 0])), (ho, .inl (cL, 1, .inr (.inl (f0))))] s.heap := hP
  have hl := lv_entry ([.ref h, .ref ho]) (n := 3) (Nat.le_of_ble_eq_true rfl)
  rw [lg_entry_eq]
  generalize (lg_sl ([.ref h, .ref ho]) ++ List.replicate (3 - (lg_sl ([.ref h, .ref ho])).length) Slot.unset).toArray = ls at hl ⊢
  have hl : lv_has ls 3 [(0, .ref h), (1, .ref ho)] := hl
  have htab := tw_table B (atoms_spec (ws := w_law_sync) B.pre _ List.mem_cons_self)
  refine lv_aload_n hx hb d_law_sync_0 rfl (lv_at hl 1 rfl) ?_
  refine lv_iconst (v := 0) hx hb d_law_sync_1 (by decide) ?_
  refine lv_aload_n hx hb d_law_sync_2 rfl (lv_at hl 0 rfl) ?_
  refine tw_chk (tw_runV (As := []) (rest := [.int 0, .ref ho]) ⟨hx, hb, hml, hown, hts⟩ (c_sync_down l hfl dC dI h rg ll (.ref ro) (.ref ch) v2 v3 (.ref lg) (.int 0) (.ref dl) (.ref el) w3 w4 x1 y1 0 0 (fun o => o.2 rfl)) (cwV 0 hts (tw_gV tk_327 tk_328 tk_329 tk_213 tk_330) rfl rfl rfl (by decide +kernel) ⟨Nat.le_of_ble_eq_true rfl, Nat.le_of_ble_eq_true rfl⟩) (tw_v2E (va_recv (q0 := 0) hK hP rfl rfl) (hP.sub (ws' := [(h, .inr (0, [.ref ro, .ref ch, v2, v3, .ref rg, .ref lg, .int 0, .int 0])), (rg, .inr (4, [.ref dl, .ref ll, .ref el, w3, w4])), (ll, .inr (6, [x1, .int 0, y1]))]) [0, 4, 6] rfl) (hK.sub (tys' := []) [] rfl) hE (tw_kst hN hS)) rfl rfl hl.1 rfl (lv_room (Nat.le_of_ble_eq_true rfl)) d_law_sync_3 ⟨by show 1 ≤ 1; decide, by show 6 ≤ 6; decide⟩) (fun o => o.elim) (fun o x1 J2 j1 j2 j3 j4 => ?_)
  have hP := tw_P1 hP j3
  have hS := tw_S1 hS j2 j3
  refine tw_catch (pre := []) (post := []) (sp := 0) (ep := 8) (hp := 11) (ct := 21) hown htab rfl j4 ⟨by decide, by decide⟩ (by decide) (hts _ tk_278) (fun y hy => by cases hy) ?_
  refine lv_astore_n (lv' := [(2, .ref x1), (0, .ref h), (1, .ref ho)]) hx hb d_law_sync_11 rfl hl (by decide) rfl (fun ls hl => ?_)
  refine lv_iconst (v := 1) hx hb d_law_sync_12 (by decide) ?_
  have hP9 := hP.sub (ws' := [(ho, .inl (cL, 1, .inr (.inl (f0))))]) [9] rfl
  have hD9 := hD.sub (ws' := [(ho, .inl (cL, 1, .inr (.inl (f0))))]) [9] (by decide) rfl
  have hK9 := hK.sub (tys' := [(cL, .long)]) [1] rfl
  refine W.widen (k := 1) (n := 6) (by decide) (by decide) ?_
  exact W.iret (v := 1) hx hb hr (fun t ht hW => ⟨⟨1, f0, rfl, rfl, by rw [ht]; exact hP9, va_K.moved hW.alike hK9, hD9⟩, hS.F ht⟩) hS.2.2 d_law_sync_13
theorem tk_331 : (Jvm.Cond.methodLink "LandBookLaw" (81 : Nat) ({ cls := "LandBook", name := "crash", desc := "(I)I" } : Jvm.MethodName)) ∈ tw_G := tw_in (List.mem_of_getElem? (i := 1004) (by decide +kernel)) rfl
theorem tk_332 : (Jvm.Cond.instanceMethod ({ cls := "LandBook", name := "crash", desc := "(I)I" } : Jvm.MethodName)) ∈ tw_G := tw_in (List.mem_of_getElem? (i := 1005) (by decide +kernel)) rfl
theorem tk_333 : (Jvm.Cond.selects "LandBook" ({ cls := "LandBook", name := "crash", desc := "(I)I" } : Jvm.MethodName) ({ cls := "LandBook", name := "crash", desc := "(I)I" } : Jvm.MethodName)) ∈ tw_G := tw_in (List.mem_of_getElem? (i := 1006) (by decide +kernel)) rfl
theorem tk_334 : (Jvm.Cond.code ({ cls := "LandBook", name := "crash", desc := "(I)I" } : Jvm.MethodName) prog_1_method_21_code (2 : Nat) (Option.some Jvm.ClassFile.FieldType.int)) ∈ tw_G := tw_in (List.mem_of_getElem? (i := 1007) (by decide +kernel)) rfl
abbrev y_law_crash : MethodName := ⟨"LandBookLaw", "crash", "(LLandBook;I[J)I"⟩
abbrev w_law_crash : List Cond := Cond.codeWith y_law_crash method_22_code 4 (some .int) [(0, 9, 12, 21), (0, 9, 15, 13)] :: tw_G
theorem d_law_crash_0 : decode method_22_code 0 = .ok (.aload_n 2, 1) := by decide +kernel
theorem d_law_crash_1 : decode method_22_code 1 = .ok (.iconst 0, 1) := by decide +kernel
theorem d_law_crash_2 : decode method_22_code 2 = .ok (.aload_n 0, 1) := by decide +kernel
theorem d_law_crash_3 : decode method_22_code 3 = .ok (.iload_n 1, 1) := by decide +kernel
theorem d_law_crash_4 : decode method_22_code 4 = .ok (.invokevirtual 81, 3) := by decide +kernel
theorem d_law_crash_12 : decode method_22_code 12 = .ok (.astore_n 3, 1) := by decide +kernel
theorem d_law_crash_13 : decode method_22_code 13 = .ok (.iconst 1, 1) := by decide +kernel
theorem d_law_crash_14 : decode method_22_code 14 = .ok (.ireturn, 1) := by decide +kernel
set_option maxHeartbeats 4000000 in
set_option maxRecDepth 100000 in
theorem c_law_crash (l : Launch) (hfl : l.flags = pinnedFlags ++ [noTraceFlag]) (dC : Nat → ClassId) (dI : Nat → Nat → Nat) (h sz ro ra ch rg dl ll el lg ho : Nat) (cI cL : ClassId) (f : Nat → Int32) (f0 : Nat → Int64) (v2 v3 ca w3 w4 x0 y0 x1 y1 x2 y2 z0 : Value) (a0 : Int32) : Met l y_law_crash w_law_crash ({ frames := 8, cells := 1, slots := 6, locals := 123 }) (tw_P4E (dC, dI) classes [(h, .inr (0, [.ref ro, .ref ch, v2, v3, .ref rg, .ref lg, .int 0, .int 0])), (ro, .inr (1, [.ref ra, .int 0])), (ra, .inl (cI, 32, .inl (f))), (ch, .inr (1, [ca, .int 0])), (rg, .inr (4, [.ref dl, .ref ll, .ref el, w3, w4])), (dl, .inr (6, [x0, .int 0, y0])), (ll, .inr (6, [x1, .int 0, y1])), (el, .inr (6, [x2, .int 0, y2])), (lg, .inr (5, [z0, .int 0, .int 0])), (ho, .inl (cL, 1, .inr (.inl (f0))))] [(cI, .int), (cL, .long)] sz [.ref h, .int a0, .ref ho]) (va_Qi (fun (r : Int32) (u : Nat → Int64) => r = 1) (fun u => tw_B dC dI (va_A [(h, .inr (0, [.ref ro, .ref ch, v2, v3, .ref rg, .ref lg, .int 0, .int 0])), (ro, .inr (1, [.ref ra, .int 0])), (ra, .inl (cI, 32, .inl (f))), (ch, .inr (1, [ca, .int 0])), (rg, .inr (4, [.ref dl, .ref ll, .ref el, w3, w4])), (dl, .inr (6, [x0, .int 0, y0])), (ll, .inr (6, [x1, .int 0, y1])), (el, .inr (6, [x2, .int 0, y2])), (lg, .inr (5, [z0, .int 0, .int 0])), (ho, .inl (cL, 1, .inr (.inl (f0))))] sz) [(ho, .inl (cL, 1, .inr (.inl (u))))] [(cL, .long)]) (va_A [(h, .inr (0, [.ref ro, .ref ch, v2, v3, .ref rg, .ref lg, .int 0, .int 0])), (ro, .inr (1, [.ref ra, .int 0])), (ra, .inl (cI, 32, .inl (f))), (ch, .inr (1, [ca, .int 0])), (rg, .inr (4, [.ref dl, .ref ll, .ref el, w3, w4])), (dl, .inr (6, [x0, .int 0, y0])), (ll, .inr (6, [x1, .int 0, y1])), (el, .inr (6, [x2, .int 0, y2])), (lg, .inr (5, [z0, .int 0, .int 0])), (ho, .inl (cL, 1, .inr (.inl (f0))))] sz)) 1 6 (va_A [(h, .inr (0, [.ref ro, .ref ch, v2, v3, .ref rg, .ref lg, .int 0, .int 0])), (ro, .inr (1, [.ref ra, .int 0])), (ra, .inl (cI, 32, .inl (f))), (ch, .inr (1, [ca, .int 0])), (rg, .inr (4, [.ref dl, .ref ll, .ref el, w3, w4])), (dl, .inr (6, [x0, .int 0, y0])), (ll, .inr (6, [x1, .int 0, y1])), (el, .inr (6, [x2, .int 0, y2])), (lg, .inr (5, [z0, .int 0, .int 0])), (ho, .inl (cL, 1, .inr (.inl (f0))))] sz) := by
  refine va_MetW (cc := method_22_code) (maxL := 4) (ret := (some .int)) (hh := [(0, 9, 12, 21), (0, 9, 15, 13)]) (by decide) rfl ?_
  intro p e s m args below meth c s₁ B hml hv
  obtain ⟨rfl, hsz, hP, hK, hD0, hE⟩ := hv
  have hx := B.exec
  have hb := B.bytes
  have hr := B.returns
  have hts : ∀ w ∈ tw_G, w.before _ s = true := fun w h => atoms_spec (ws := w_law_crash) B.pre w (List.mem_cons_of_mem _ h)
  have hown : s.vm.findClass "LandBookLaw" = some m.cls := findClass_of_methodNamed B.named
  have hlocks := B.notSynchronized
  subst hsz
  have hN := tw_nst hP
  have hD := hD0.self (sz := s.heap.size)
  generalize hAe : va_A [(h, .inr (0, [.ref ro, .ref ch, v2, v3, .ref rg, .ref lg, .int 0, .int 0])), (ro, .inr (1, [.ref ra, .int 0])), (ra, .inl (cI, 32, .inl (f))), (ch, .inr (1, [ca, .int 0])), (rg, .inr (4, [.ref dl, .ref ll, .ref el, w3, w4])), (dl, .inr (6, [x0, .int 0, y0])), (ll, .inr (6, [x1, .int 0, y1])), (el, .inr (6, [x2, .int 0, y2])), (lg, .inr (5, [z0, .int 0, .int 0])), (ho, .inl (cL, 1, .inr (.inl (f0))))] s.heap.size = A at hD hN ⊢
  have hA : ∀ q : Nat, s.heap.size ≤ q → A q := fun q h => by rw [← hAe]; exact Or.inr h
  have hS : va_S A s.heap s.heap [] := va_S.rf
  have hP : va_P (dC, dI) classes [(h, .inr (0, [.ref ro, .ref ch, v2, v3, .ref rg, .ref lg, .int 0, .int 0])), (ro, .inr (1, [.ref ra, .int 0])), (ra, .inl (cI, 32, .inl (f))), (ch, .inr (1, [ca, .int 0])), (rg, .inr (4, [.ref dl, .ref ll, .ref el, w3, w4])), (dl, .inr (6, [x0, .int 0, y0])), (ll, .inr (6, [x1, .int 0, y1])), (el, .inr (6, [x2, .int 0, y2])), (lg, .inr (5, [z0, .int 0, .int 0])), (ho, .inl (cL, 1, .inr (.inl (f0))))] s.heap := hP
  have hl := lv_entry ([.ref h, .int a0, .ref ho]) (n := 4) (Nat.le_of_ble_eq_true rfl)
  rw [lg_entry_eq]
  generalize (lg_sl ([.ref h, .int a0, .ref ho]) ++ List.replicate (4 - (lg_sl ([.ref h, .int a0, .ref ho])).length) Slot.unset).toArray = ls at hl ⊢
  have hl : lv_has ls 4 [(0, .ref h), (1, .int a0), (2, .ref ho)] := hl
  have htab := tw_table B (atoms_spec (ws := w_law_crash) B.pre _ List.mem_cons_self)
  refine lv_aload_n hx hb d_law_crash_0 rfl (lv_at hl 2 rfl) ?_
  refine lv_iconst (v := 0) hx hb d_law_crash_1 (by decide) ?_
  refine lv_aload_n hx hb d_law_crash_2 rfl (lv_at hl 0 rfl) ?_
  refine lv_iload_n hx hb d_law_crash_3 rfl (lv_at hl 1 rfl) ?_
  refine tw_chk (tw_runV (As := [.int a0]) (rest := [.int 0, .ref ho]) ⟨hx, hb, hml, hown, hts⟩ (c_crash_down l hfl dC dI h rg ll (.ref ro) (.ref ch) v2 v3 (.ref lg) (.int 0) (.ref dl) (.ref el) w3 w4 x1 y1 0 0 a0 (fun o => o.2 rfl)) (cwV 1 hts (tw_gV tk_331 tk_332 tk_333 tk_213 tk_334) rfl rfl rfl (by decide +kernel) ⟨Nat.le_of_ble_eq_true rfl, Nat.le_of_ble_eq_true rfl⟩) (tw_v2E (va_recv (q0 := 0) hK hP rfl rfl) (hP.sub (ws' := [(h, .inr (0, [.ref ro, .ref ch, v2, v3, .ref rg, .ref lg, .int 0, .int 0])), (rg, .inr (4, [.ref dl, .ref ll, .ref el, w3, w4])), (ll, .inr (6, [x1, .int 0, y1]))]) [0, 4, 6] rfl) (hK.sub (tys' := []) [] rfl) hE (tw_kst hN hS)) rfl rfl hl.1 rfl (lv_room (Nat.le_of_ble_eq_true rfl)) d_law_crash_4 ⟨by show 1 ≤ 1; decide, by show 6 ≤ 6; decide⟩) (fun o => o.elim) (fun o x1 J2 j1 j2 j3 j4 => ?_)
  have hP := tw_P1 hP j3
  have hS := tw_S1 hS j2 j3
  refine tw_catch (pre := []) (post := [(0, 9, 15, 13)]) (sp := 0) (ep := 9) (hp := 12) (ct := 21) hown htab rfl j4 ⟨by decide, by decide⟩ (by decide) (hts _ tk_278) (fun y hy => by cases hy) ?_
  refine lv_astore_n (lv' := [(3, .ref x1), (0, .ref h), (1, .int a0), (2, .ref ho)]) hx hb d_law_crash_12 rfl hl (by decide) rfl (fun ls hl => ?_)
  refine lv_iconst (v := 1) hx hb d_law_crash_13 (by decide) ?_
  have hP9 := hP.sub (ws' := [(ho, .inl (cL, 1, .inr (.inl (f0))))]) [9] rfl
  have hD9 := hD.sub (ws' := [(ho, .inl (cL, 1, .inr (.inl (f0))))]) [9] (by decide) rfl
  have hK9 := hK.sub (tys' := [(cL, .long)]) [1] rfl
  refine W.widen (k := 1) (n := 6) (by decide) (by decide) ?_
  exact W.iret (v := 1) hx hb hr (fun t ht hW => ⟨⟨1, f0, rfl, rfl, by rw [ht]; exact hP9, va_K.moved hW.alike hK9, hD9⟩, hS.F ht⟩) hS.2.2 d_law_crash_14
theorem tk_335 : (Jvm.Cond.methodLink "LandBookLaw" (84 : Nat) ({ cls := "LandBook", name := "mount", desc := "()I" } : Jvm.MethodName)) ∈ tw_G := tw_in (List.mem_of_getElem? (i := 1017) (by decide +kernel)) rfl
theorem tk_336 : (Jvm.Cond.instanceMethod ({ cls := "LandBook", name := "mount", desc := "()I" } : Jvm.MethodName)) ∈ tw_G := tw_in (List.mem_of_getElem? (i := 1018) (by decide +kernel)) rfl
theorem tk_337 : (Jvm.Cond.selects "LandBook" ({ cls := "LandBook", name := "mount", desc := "()I" } : Jvm.MethodName) ({ cls := "LandBook", name := "mount", desc := "()I" } : Jvm.MethodName)) ∈ tw_G := tw_in (List.mem_of_getElem? (i := 1019) (by decide +kernel)) rfl
theorem tk_338 : (Jvm.Cond.code ({ cls := "LandBook", name := "mount", desc := "()I" } : Jvm.MethodName) prog_1_method_22_code (4 : Nat) (Option.some Jvm.ClassFile.FieldType.int)) ∈ tw_G := tw_in (List.mem_of_getElem? (i := 1020) (by decide +kernel)) rfl
abbrev y_law_mount : MethodName := ⟨"LandBookLaw", "mount", "(LLandBook;[J)I"⟩
abbrev w_law_mount : List Cond := Cond.codeWith y_law_mount method_23_code 3 (some .int) [(0, 8, 11, 21), (0, 8, 14, 15)] :: tw_G
theorem d_law_mount_0 : decode method_23_code 0 = .ok (.aload_n 1, 1) := by decide +kernel
theorem d_law_mount_1 : decode method_23_code 1 = .ok (.iconst 0, 1) := by decide +kernel
theorem d_law_mount_2 : decode method_23_code 2 = .ok (.aload_n 0, 1) := by decide +kernel
theorem d_law_mount_3 : decode method_23_code 3 = .ok (.invokevirtual 84, 3) := by decide +kernel
theorem d_law_mount_11 : decode method_23_code 11 = .ok (.astore_n 2, 1) := by decide +kernel
theorem d_law_mount_12 : decode method_23_code 12 = .ok (.iconst 1, 1) := by decide +kernel
theorem d_law_mount_13 : decode method_23_code 13 = .ok (.ireturn, 1) := by decide +kernel
set_option maxHeartbeats 4000000 in
set_option maxRecDepth 100000 in
theorem c_law_mount (l : Launch) (hfl : l.flags = pinnedFlags ++ [noTraceFlag]) (dC : Nat → ClassId) (dI : Nat → Nat → Nat) (h sz ro ra ch rg dl ll el lg ho : Nat) (cI cL : ClassId) (f : Nat → Int32) (f0 : Nat → Int64) (v2 v3 ca w3 w4 x0 y0 x1 y1 x2 y2 z0 : Value) : Met l y_law_mount w_law_mount ({ frames := 7, cells := 1, slots := 6, locals := 105 }) (tw_P4E (dC, dI) classes [(h, .inr (0, [.ref ro, .ref ch, v2, v3, .ref rg, .ref lg, .int 0, .int 0])), (ro, .inr (1, [.ref ra, .int 0])), (ra, .inl (cI, 32, .inl (f))), (ch, .inr (1, [ca, .int 0])), (rg, .inr (4, [.ref dl, .ref ll, .ref el, w3, w4])), (dl, .inr (6, [x0, .int 0, y0])), (ll, .inr (6, [x1, .int 0, y1])), (el, .inr (6, [x2, .int 0, y2])), (lg, .inr (5, [z0, .int 0, .int 0])), (ho, .inl (cL, 1, .inr (.inl (f0))))] [(cI, .int), (cL, .long)] sz [.ref h, .ref ho]) (va_Qi (fun (r : Int32) (u : Nat → Int64) => r = 1) (fun u => tw_B dC dI (va_A [(h, .inr (0, [.ref ro, .ref ch, v2, v3, .ref rg, .ref lg, .int 0, .int 0])), (ro, .inr (1, [.ref ra, .int 0])), (ra, .inl (cI, 32, .inl (f))), (ch, .inr (1, [ca, .int 0])), (rg, .inr (4, [.ref dl, .ref ll, .ref el, w3, w4])), (dl, .inr (6, [x0, .int 0, y0])), (ll, .inr (6, [x1, .int 0, y1])), (el, .inr (6, [x2, .int 0, y2])), (lg, .inr (5, [z0, .int 0, .int 0])), (ho, .inl (cL, 1, .inr (.inl (f0))))] sz) [(ho, .inl (cL, 1, .inr (.inl (u))))] [(cL, .long)]) (va_A [(h, .inr (0, [.ref ro, .ref ch, v2, v3, .ref rg, .ref lg, .int 0, .int 0])), (ro, .inr (1, [.ref ra, .int 0])), (ra, .inl (cI, 32, .inl (f))), (ch, .inr (1, [ca, .int 0])), (rg, .inr (4, [.ref dl, .ref ll, .ref el, w3, w4])), (dl, .inr (6, [x0, .int 0, y0])), (ll, .inr (6, [x1, .int 0, y1])), (el, .inr (6, [x2, .int 0, y2])), (lg, .inr (5, [z0, .int 0, .int 0])), (ho, .inl (cL, 1, .inr (.inl (f0))))] sz)) 1 6 (va_A [(h, .inr (0, [.ref ro, .ref ch, v2, v3, .ref rg, .ref lg, .int 0, .int 0])), (ro, .inr (1, [.ref ra, .int 0])), (ra, .inl (cI, 32, .inl (f))), (ch, .inr (1, [ca, .int 0])), (rg, .inr (4, [.ref dl, .ref ll, .ref el, w3, w4])), (dl, .inr (6, [x0, .int 0, y0])), (ll, .inr (6, [x1, .int 0, y1])), (el, .inr (6, [x2, .int 0, y2])), (lg, .inr (5, [z0, .int 0, .int 0])), (ho, .inl (cL, 1, .inr (.inl (f0))))] sz) := by
  refine va_MetW (cc := method_23_code) (maxL := 3) (ret := (some .int)) (hh := [(0, 8, 11, 21), (0, 8, 14, 15)]) (by decide) rfl ?_
  intro p e s m args below meth c s₁ B hml hv
  obtain ⟨rfl, hsz, hP, hK, hD0, hE⟩ := hv
  have hx := B.exec
  have hb := B.bytes
  have hr := B.returns
  have hts : ∀ w ∈ tw_G, w.before _ s = true := fun w h => atoms_spec (ws := w_law_mount) B.pre w (List.mem_cons_of_mem _ h)
  have hown : s.vm.findClass "LandBookLaw" = some m.cls := findClass_of_methodNamed B.named
  have hlocks := B.notSynchronized
  subst hsz
  have hN := tw_nst hP
  have hD := hD0.self (sz := s.heap.size)
  generalize hAe : va_A [(h, .inr (0, [.ref ro, .ref ch, v2, v3, .ref rg, .ref lg, .int 0, .int 0])), (ro, .inr (1, [.ref ra, .int 0])), (ra, .inl (cI, 32, .inl (f))), (ch, .inr (1, [ca, .int 0])), (rg, .inr (4, [.ref dl, .ref ll, .ref el, w3, w4])), (dl, .inr (6, [x0, .int 0, y0])), (ll, .inr (6, [x1, .int 0, y1])), (el, .inr (6, [x2, .int 0, y2])), (lg, .inr (5, [z0, .int 0, .int 0])), (ho, .inl (cL, 1, .inr (.inl (f0))))] s.heap.size = A at hD hN ⊢
  have hA : ∀ q : Nat, s.heap.size ≤ q → A q := fun q h => by rw [← hAe]; exact Or.inr h
  have hS : va_S A s.heap s.heap [] := va_S.rf
  have hP : va_P (dC, dI) classes [(h, .inr (0, [.ref ro, .ref ch, v2, v3, .ref rg, .ref lg, .int 0, .int 0])), (ro, .inr (1, [.ref ra, .int 0])), (ra, .inl (cI, 32, .inl (f))), (ch, .inr (1, [ca, .int 0])), (rg, .inr (4, [.ref dl, .ref ll, .ref el, w3, w4])), (dl, .inr (6, [x0, .int 0, y0])), (ll, .inr (6, [x1, .int 0, y1])), (el, .inr (6, [x2, .int 0, y2])), (lg, .inr (5, [z0, .int 0, .int 0])), (ho, .inl (cL, 1, .inr (.inl (f0))))] s.heap := hP
  have hl := lv_entry ([.ref h, .ref ho]) (n := 3) (Nat.le_of_ble_eq_true rfl)
  rw [lg_entry_eq]
  generalize (lg_sl ([.ref h, .ref ho]) ++ List.replicate (3 - (lg_sl ([.ref h, .ref ho])).length) Slot.unset).toArray = ls at hl ⊢
  have hl : lv_has ls 3 [(0, .ref h), (1, .ref ho)] := hl
  have htab := tw_table B (atoms_spec (ws := w_law_mount) B.pre _ List.mem_cons_self)
  refine lv_aload_n hx hb d_law_mount_0 rfl (lv_at hl 1 rfl) ?_
  refine lv_iconst (v := 0) hx hb d_law_mount_1 (by decide) ?_
  refine lv_aload_n hx hb d_law_mount_2 rfl (lv_at hl 0 rfl) ?_
  refine tw_chk (tw_runV (As := []) (rest := [.int 0, .ref ho]) ⟨hx, hb, hml, hown, hts⟩ (c_mount_down l hfl dC dI h rg ll (.ref ro) (.ref ch) v2 v3 (.ref lg) (.int 0) (.ref dl) (.ref el) w3 w4 x1 y1 0 0 rfl) (cwV 0 hts (tw_gV tk_335 tk_336 tk_337 tk_213 tk_338) rfl rfl rfl (by decide +kernel) ⟨Nat.le_of_ble_eq_true rfl, Nat.le_of_ble_eq_true rfl⟩) (tw_v2E (va_recv (q0 := 0) hK hP rfl rfl) (hP.sub (ws' := [(h, .inr (0, [.ref ro, .ref ch, v2, v3, .ref rg, .ref lg, .int 0, .int 0])), (rg, .inr (4, [.ref dl, .ref ll, .ref el, w3, w4])), (ll, .inr (6, [x1, .int 0, y1]))]) [0, 4, 6] rfl) (hK.sub (tys' := []) [] rfl) hE (tw_kst hN hS)) rfl rfl hl.1 rfl (lv_room (Nat.le_of_ble_eq_true rfl)) d_law_mount_3 ⟨by show 1 ≤ 1; decide, by show 6 ≤ 6; decide⟩) (fun o => o.elim) (fun o x1 J2 j1 j2 j3 j4 => ?_)
  have hP := tw_P1 hP j3
  have hS := tw_S1 hS j2 j3
  refine tw_catch (pre := []) (post := [(0, 8, 14, 15)]) (sp := 0) (ep := 8) (hp := 11) (ct := 21) hown htab rfl j4 ⟨by decide, by decide⟩ (by decide) (hts _ tk_278) (fun y hy => by cases hy) ?_
  refine lv_astore_n (lv' := [(2, .ref x1), (0, .ref h), (1, .ref ho)]) hx hb d_law_mount_11 rfl hl (by decide) rfl (fun ls hl => ?_)
  refine lv_iconst (v := 1) hx hb d_law_mount_12 (by decide) ?_
  have hP9 := hP.sub (ws' := [(ho, .inl (cL, 1, .inr (.inl (f0))))]) [9] rfl
  have hD9 := hD.sub (ws' := [(ho, .inl (cL, 1, .inr (.inl (f0))))]) [9] (by decide) rfl
  have hK9 := hK.sub (tys' := [(cL, .long)]) [1] rfl
  refine W.widen (k := 1) (n := 6) (by decide) (by decide) ?_
  exact W.iret (v := 1) hx hb hr (fun t ht hW => ⟨⟨1, f0, rfl, rfl, by rw [ht]; exact hP9, va_K.moved hW.alike hK9, hD9⟩, hS.F ht⟩) hS.2.2 d_law_mount_13
theorem tk_339 : (Jvm.Cond.methodLink "LandBookLaw" (74 : Nat) ({ cls := "LandBook", name := "word", desc := "(I)I" } : Jvm.MethodName)) ∈ tw_G := tw_in (List.mem_of_getElem? (i := 981) (by decide +kernel)) rfl
theorem tk_340 : (Jvm.Cond.instanceMethod ({ cls := "LandBook", name := "word", desc := "(I)I" } : Jvm.MethodName)) ∈ tw_G := tw_in (List.mem_of_getElem? (i := 982) (by decide +kernel)) rfl
theorem tk_341 : (Jvm.Cond.selects "LandBook" ({ cls := "LandBook", name := "word", desc := "(I)I" } : Jvm.MethodName) ({ cls := "LandBook", name := "word", desc := "(I)I" } : Jvm.MethodName)) ∈ tw_G := tw_in (List.mem_of_getElem? (i := 983) (by decide +kernel)) rfl
theorem tk_342 : (Jvm.Cond.code ({ cls := "LandBook", name := "word", desc := "(I)I" } : Jvm.MethodName) prog_1_method_19_code (2 : Nat) (Option.some Jvm.ClassFile.FieldType.int)) ∈ tw_G := tw_in (List.mem_of_getElem? (i := 984) (by decide +kernel)) rfl
theorem tk_343 : (Jvm.Cond.classLink "LandBookLaw" (26 : Nat) "java/lang/IndexOutOfBoundsException") ∈ tw_G := tw_in (List.mem_of_getElem? (i := 539) (by decide +kernel)) rfl
abbrev y_law_word : MethodName := ⟨"LandBookLaw", "word", "(LLandBook;I[J)I"⟩
abbrev w_law_word : List Cond := Cond.codeWith y_law_word method_20_code 4 (some .int) [(0, 9, 12, 26)] :: tw_G
theorem d_law_word_0 : decode method_20_code 0 = .ok (.aload_n 2, 1) := by decide +kernel
theorem d_law_word_1 : decode method_20_code 1 = .ok (.iconst 0, 1) := by decide +kernel
theorem d_law_word_2 : decode method_20_code 2 = .ok (.aload_n 0, 1) := by decide +kernel
theorem d_law_word_3 : decode method_20_code 3 = .ok (.iload_n 1, 1) := by decide +kernel
theorem d_law_word_4 : decode method_20_code 4 = .ok (.invokevirtual 74, 3) := by decide +kernel
theorem d_law_word_12 : decode method_20_code 12 = .ok (.astore_n 3, 1) := by decide +kernel
theorem d_law_word_13 : decode method_20_code 13 = .ok (.iconst 1, 1) := by decide +kernel
theorem d_law_word_14 : decode method_20_code 14 = .ok (.ireturn, 1) := by decide +kernel
set_option maxHeartbeats 4000000 in
set_option maxRecDepth 100000 in
theorem c_law_word (l : Launch) (hfl : l.flags = pinnedFlags ++ [noTraceFlag]) (dC : Nat → ClassId) (dI : Nat → Nat → Nat) (h sz ro ra ch rg dl ll el lg ho : Nat) (cI cL : ClassId) (f : Nat → Int32) (f0 : Nat → Int64) (v2 v3 ca w3 w4 x0 y0 x1 y1 x2 y2 z0 : Value) (a0 : Int32) : Met l y_law_word w_law_word ({ frames := 7, cells := 1, slots := 6, locals := 103 }) (tw_P4E (dC, dI) classes [(h, .inr (0, [.ref ro, .ref ch, v2, v3, .ref rg, .ref lg, .int 0, .int 0])), (ro, .inr (1, [.ref ra, .int 0])), (ra, .inl (cI, 32, .inl (f))), (ch, .inr (1, [ca, .int 0])), (rg, .inr (4, [.ref dl, .ref ll, .ref el, w3, w4])), (dl, .inr (6, [x0, .int 0, y0])), (ll, .inr (6, [x1, .int 0, y1])), (el, .inr (6, [x2, .int 0, y2])), (lg, .inr (5, [z0, .int 0, .int 0])), (ho, .inl (cL, 1, .inr (.inl (f0))))] [(cI, .int), (cL, .long)] sz [.ref h, .int a0, .ref ho]) (va_Qi (fun (r : Int32) (u : Nat → Int64) => r = 1) (fun u => tw_B dC dI (va_A [(h, .inr (0, [.ref ro, .ref ch, v2, v3, .ref rg, .ref lg, .int 0, .int 0])), (ro, .inr (1, [.ref ra, .int 0])), (ra, .inl (cI, 32, .inl (f))), (ch, .inr (1, [ca, .int 0])), (rg, .inr (4, [.ref dl, .ref ll, .ref el, w3, w4])), (dl, .inr (6, [x0, .int 0, y0])), (ll, .inr (6, [x1, .int 0, y1])), (el, .inr (6, [x2, .int 0, y2])), (lg, .inr (5, [z0, .int 0, .int 0])), (ho, .inl (cL, 1, .inr (.inl (f0))))] sz) [(ho, .inl (cL, 1, .inr (.inl (u))))] [(cL, .long)]) (va_A [(h, .inr (0, [.ref ro, .ref ch, v2, v3, .ref rg, .ref lg, .int 0, .int 0])), (ro, .inr (1, [.ref ra, .int 0])), (ra, .inl (cI, 32, .inl (f))), (ch, .inr (1, [ca, .int 0])), (rg, .inr (4, [.ref dl, .ref ll, .ref el, w3, w4])), (dl, .inr (6, [x0, .int 0, y0])), (ll, .inr (6, [x1, .int 0, y1])), (el, .inr (6, [x2, .int 0, y2])), (lg, .inr (5, [z0, .int 0, .int 0])), (ho, .inl (cL, 1, .inr (.inl (f0))))] sz)) 1 6 (va_A [(h, .inr (0, [.ref ro, .ref ch, v2, v3, .ref rg, .ref lg, .int 0, .int 0])), (ro, .inr (1, [.ref ra, .int 0])), (ra, .inl (cI, 32, .inl (f))), (ch, .inr (1, [ca, .int 0])), (rg, .inr (4, [.ref dl, .ref ll, .ref el, w3, w4])), (dl, .inr (6, [x0, .int 0, y0])), (ll, .inr (6, [x1, .int 0, y1])), (el, .inr (6, [x2, .int 0, y2])), (lg, .inr (5, [z0, .int 0, .int 0])), (ho, .inl (cL, 1, .inr (.inl (f0))))] sz) := by
  refine va_MetW (cc := method_20_code) (maxL := 4) (ret := (some .int)) (hh := [(0, 9, 12, 26)]) (by decide) rfl ?_
  intro p e s m args below meth c s₁ B hml hv
  obtain ⟨rfl, hsz, hP, hK, hD0, hE⟩ := hv
  have hx := B.exec
  have hb := B.bytes
  have hr := B.returns
  have hts : ∀ w ∈ tw_G, w.before _ s = true := fun w h => atoms_spec (ws := w_law_word) B.pre w (List.mem_cons_of_mem _ h)
  have hown : s.vm.findClass "LandBookLaw" = some m.cls := findClass_of_methodNamed B.named
  have hlocks := B.notSynchronized
  subst hsz
  have hN := tw_nst hP
  have hD := hD0.self (sz := s.heap.size)
  generalize hAe : va_A [(h, .inr (0, [.ref ro, .ref ch, v2, v3, .ref rg, .ref lg, .int 0, .int 0])), (ro, .inr (1, [.ref ra, .int 0])), (ra, .inl (cI, 32, .inl (f))), (ch, .inr (1, [ca, .int 0])), (rg, .inr (4, [.ref dl, .ref ll, .ref el, w3, w4])), (dl, .inr (6, [x0, .int 0, y0])), (ll, .inr (6, [x1, .int 0, y1])), (el, .inr (6, [x2, .int 0, y2])), (lg, .inr (5, [z0, .int 0, .int 0])), (ho, .inl (cL, 1, .inr (.inl (f0))))] s.heap.size = A at hD hN ⊢
  have hA : ∀ q : Nat, s.heap.size ≤ q → A q := fun q h => by rw [← hAe]; exact Or.inr h
  have hS : va_S A s.heap s.heap [] := va_S.rf
  have hP : va_P (dC, dI) classes [(h, .inr (0, [.ref ro, .ref ch, v2, v3, .ref rg, .ref lg, .int 0, .int 0])), (ro, .inr (1, [.ref ra, .int 0])), (ra, .inl (cI, 32, .inl (f))), (ch, .inr (1, [ca, .int 0])), (rg, .inr (4, [.ref dl, .ref ll, .ref el, w3, w4])), (dl, .inr (6, [x0, .int 0, y0])), (ll, .inr (6, [x1, .int 0, y1])), (el, .inr (6, [x2, .int 0, y2])), (lg, .inr (5, [z0, .int 0, .int 0])), (ho, .inl (cL, 1, .inr (.inl (f0))))] s.heap := hP
  have hl := lv_entry ([.ref h, .int a0, .ref ho]) (n := 4) (Nat.le_of_ble_eq_true rfl)
  rw [lg_entry_eq]
  generalize (lg_sl ([.ref h, .int a0, .ref ho]) ++ List.replicate (4 - (lg_sl ([.ref h, .int a0, .ref ho])).length) Slot.unset).toArray = ls at hl ⊢
  have hl : lv_has ls 4 [(0, .ref h), (1, .int a0), (2, .ref ho)] := hl
  have htab := tw_table B (atoms_spec (ws := w_law_word) B.pre _ List.mem_cons_self)
  refine lv_aload_n hx hb d_law_word_0 rfl (lv_at hl 2 rfl) ?_
  refine lv_iconst (v := 0) hx hb d_law_word_1 (by decide) ?_
  refine lv_aload_n hx hb d_law_word_2 rfl (lv_at hl 0 rfl) ?_
  refine lv_iload_n hx hb d_law_word_3 rfl (lv_at hl 1 rfl) ?_
  refine tw_chk (tw_runV (As := [.int a0]) (rest := [.int 0, .ref ho]) ⟨hx, hb, hml, hown, hts⟩ (c_word_none l hfl dC dI h lg (.ref ro) (.ref ch) v2 v3 (.ref rg) (.int 0) (.int 0) z0 (.int 0) a0) (cwV 1 hts (tw_gV tk_339 tk_340 tk_341 tk_213 tk_342) rfl rfl rfl (by decide +kernel) ⟨Nat.le_of_ble_eq_true rfl, Nat.le_of_ble_eq_true rfl⟩) (tw_v2E (va_recv (q0 := 0) hK hP rfl rfl) (hP.sub (ws' := [(h, .inr (0, [.ref ro, .ref ch, v2, v3, .ref rg, .ref lg, .int 0, .int 0])), (lg, .inr (5, [z0, .int 0, .int 0]))]) [0, 8] rfl) (hK.sub (tys' := []) [] rfl) hE (tw_kst hN hS)) rfl rfl hl.1 rfl (lv_room (Nat.le_of_ble_eq_true rfl)) d_law_word_4 ⟨by show 1 ≤ 1; decide, by show 6 ≤ 6; decide⟩) (fun o => o.elim) (fun o x1 J2 j1 j2 j3 j4 => ?_)
  have hP := tw_P1 hP j3
  have hS := tw_S1 hS j2 j3
  refine tw_catch (pre := []) (post := []) (sp := 0) (ep := 9) (hp := 12) (ct := 26) hown htab rfl j4 ⟨by decide, by decide⟩ (by decide) (hts _ tk_343) (fun y hy => by cases hy) ?_
  refine lv_astore_n (lv' := [(3, .ref x1), (0, .ref h), (1, .int a0), (2, .ref ho)]) hx hb d_law_word_12 rfl hl (by decide) rfl (fun ls hl => ?_)
  refine lv_iconst (v := 1) hx hb d_law_word_13 (by decide) ?_
  have hP9 := hP.sub (ws' := [(ho, .inl (cL, 1, .inr (.inl (f0))))]) [9] rfl
  have hD9 := hD.sub (ws' := [(ho, .inl (cL, 1, .inr (.inl (f0))))]) [9] (by decide) rfl
  have hK9 := hK.sub (tys' := [(cL, .long)]) [1] rfl
  refine W.widen (k := 1) (n := 6) (by decide) (by decide) ?_
  exact W.iret (v := 1) hx hb hr (fun t ht hW => ⟨⟨1, f0, rfl, rfl, by rw [ht]; exact hP9, va_K.moved hW.alike hK9, hD9⟩, hS.F ht⟩) hS.2.2 d_law_word_14
theorem tk_344 : (Jvm.Cond.methodLink "LandBookLaw" (71 : Nat) ({ cls := "LandBook", name := "many", desc := "(I)I" } : Jvm.MethodName)) ∈ tw_G := tw_in (List.mem_of_getElem? (i := 973) (by decide +kernel)) rfl
theorem tk_345 : (Jvm.Cond.instanceMethod ({ cls := "LandBook", name := "many", desc := "(I)I" } : Jvm.MethodName)) ∈ tw_G := tw_in (List.mem_of_getElem? (i := 974) (by decide +kernel)) rfl
theorem tk_346 : (Jvm.Cond.selects "LandBook" ({ cls := "LandBook", name := "many", desc := "(I)I" } : Jvm.MethodName) ({ cls := "LandBook", name := "many", desc := "(I)I" } : Jvm.MethodName)) ∈ tw_G := tw_in (List.mem_of_getElem? (i := 975) (by decide +kernel)) rfl
theorem tk_347 : (Jvm.Cond.code ({ cls := "LandBook", name := "many", desc := "(I)I" } : Jvm.MethodName) prog_1_method_18_code (2 : Nat) (Option.some Jvm.ClassFile.FieldType.int)) ∈ tw_G := tw_in (List.mem_of_getElem? (i := 976) (by decide +kernel)) rfl
abbrev y_law_many : MethodName := ⟨"LandBookLaw", "many", "(LLandBook;I[J)I"⟩
abbrev w_law_many : List Cond := Cond.codeWith y_law_many method_19_code 4 (some .int) [(0, 9, 12, 26)] :: tw_G
theorem d_law_many_0 : decode method_19_code 0 = .ok (.aload_n 2, 1) := by decide +kernel
theorem d_law_many_1 : decode method_19_code 1 = .ok (.iconst 0, 1) := by decide +kernel
theorem d_law_many_2 : decode method_19_code 2 = .ok (.aload_n 0, 1) := by decide +kernel
theorem d_law_many_3 : decode method_19_code 3 = .ok (.iload_n 1, 1) := by decide +kernel
theorem d_law_many_4 : decode method_19_code 4 = .ok (.invokevirtual 71, 3) := by decide +kernel
theorem d_law_many_7 : decode method_19_code 7 = .ok (.i2l, 1) := by decide +kernel
theorem d_law_many_8 : decode method_19_code 8 = .ok (.lastore, 1) := by decide +kernel
theorem d_law_many_9 : decode method_19_code 9 = .ok (.goto 6, 3) := by decide +kernel
theorem d_law_many_15 : decode method_19_code 15 = .ok (.iconst 0, 1) := by decide +kernel
theorem d_law_many_16 : decode method_19_code 16 = .ok (.ireturn, 1) := by decide +kernel
theorem d_law_many_12 : decode method_19_code 12 = .ok (.astore_n 3, 1) := by decide +kernel
theorem d_law_many_13 : decode method_19_code 13 = .ok (.iconst 1, 1) := by decide +kernel
theorem d_law_many_14 : decode method_19_code 14 = .ok (.ireturn, 1) := by decide +kernel
set_option maxHeartbeats 4000000 in
set_option maxRecDepth 100000 in
theorem c_law_many (l : Launch) (hfl : l.flags = pinnedFlags ++ [noTraceFlag]) (dC : Nat → ClassId) (dI : Nat → Nat → Nat) (h sz ro ra ch rg dl ll el lg ho : Nat) (cI cL : ClassId) (f : Nat → Int32) (f0 : Nat → Int64) (v2 v3 ca w3 w4 x0 y0 x1 y1 x2 y2 z0 : Value) (a0 : Int32) : Met l y_law_many w_law_many ({ frames := 7, cells := 1, slots := 6, locals := 103 }) (tw_P4E (dC, dI) classes [(h, .inr (0, [.ref ro, .ref ch, v2, v3, .ref rg, .ref lg, .int 0, .int 0])), (ro, .inr (1, [.ref ra, .int 0])), (ra, .inl (cI, 32, .inl (f))), (ch, .inr (1, [ca, .int 0])), (rg, .inr (4, [.ref dl, .ref ll, .ref el, w3, w4])), (dl, .inr (6, [x0, .int 0, y0])), (ll, .inr (6, [x1, .int 0, y1])), (el, .inr (6, [x2, .int 0, y2])), (lg, .inr (5, [z0, .int 0, .int 0])), (ho, .inl (cL, 1, .inr (.inl (f0))))] [(cI, .int), (cL, .long)] sz [.ref h, .int a0, .ref ho]) (va_Qi (fun (r : Int32) (u : Nat → Int64) => ((¬ a0 < 0 ∧ ¬ 4 < a0) ∧ r = 0 ∧ u 0 = 0) ∨ (¬ (¬ a0 < 0 ∧ ¬ 4 < a0) ∧ r = 1)) (fun u => tw_B dC dI (va_A [(h, .inr (0, [.ref ro, .ref ch, v2, v3, .ref rg, .ref lg, .int 0, .int 0])), (ro, .inr (1, [.ref ra, .int 0])), (ra, .inl (cI, 32, .inl (f))), (ch, .inr (1, [ca, .int 0])), (rg, .inr (4, [.ref dl, .ref ll, .ref el, w3, w4])), (dl, .inr (6, [x0, .int 0, y0])), (ll, .inr (6, [x1, .int 0, y1])), (el, .inr (6, [x2, .int 0, y2])), (lg, .inr (5, [z0, .int 0, .int 0])), (ho, .inl (cL, 1, .inr (.inl (f0))))] sz) [(ho, .inl (cL, 1, .inr (.inl (u))))] [(cL, .long)]) (va_A [(h, .inr (0, [.ref ro, .ref ch, v2, v3, .ref rg, .ref lg, .int 0, .int 0])), (ro, .inr (1, [.ref ra, .int 0])), (ra, .inl (cI, 32, .inl (f))), (ch, .inr (1, [ca, .int 0])), (rg, .inr (4, [.ref dl, .ref ll, .ref el, w3, w4])), (dl, .inr (6, [x0, .int 0, y0])), (ll, .inr (6, [x1, .int 0, y1])), (el, .inr (6, [x2, .int 0, y2])), (lg, .inr (5, [z0, .int 0, .int 0])), (ho, .inl (cL, 1, .inr (.inl (f0))))] sz)) 1 6 (va_A [(h, .inr (0, [.ref ro, .ref ch, v2, v3, .ref rg, .ref lg, .int 0, .int 0])), (ro, .inr (1, [.ref ra, .int 0])), (ra, .inl (cI, 32, .inl (f))), (ch, .inr (1, [ca, .int 0])), (rg, .inr (4, [.ref dl, .ref ll, .ref el, w3, w4])), (dl, .inr (6, [x0, .int 0, y0])), (ll, .inr (6, [x1, .int 0, y1])), (el, .inr (6, [x2, .int 0, y2])), (lg, .inr (5, [z0, .int 0, .int 0])), (ho, .inl (cL, 1, .inr (.inl (f0))))] sz) := by
  refine va_MetW (cc := method_19_code) (maxL := 4) (ret := (some .int)) (hh := [(0, 9, 12, 26)]) (by decide) rfl ?_
  intro p e s m args below meth c s₁ B hml hv
  obtain ⟨rfl, hsz, hP, hK, hD0, hE⟩ := hv
  have hx := B.exec
  have hb := B.bytes
  have hr := B.returns
  have hts : ∀ w ∈ tw_G, w.before _ s = true := fun w h => atoms_spec (ws := w_law_many) B.pre w (List.mem_cons_of_mem _ h)
  have hown : s.vm.findClass "LandBookLaw" = some m.cls := findClass_of_methodNamed B.named
  have hlocks := B.notSynchronized
  subst hsz
  have hN := tw_nst hP
  have hD := hD0.self (sz := s.heap.size)
  generalize hAe : va_A [(h, .inr (0, [.ref ro, .ref ch, v2, v3, .ref rg, .ref lg, .int 0, .int 0])), (ro, .inr (1, [.ref ra, .int 0])), (ra, .inl (cI, 32, .inl (f))), (ch, .inr (1, [ca, .int 0])), (rg, .inr (4, [.ref dl, .ref ll, .ref el, w3, w4])), (dl, .inr (6, [x0, .int 0, y0])), (ll, .inr (6, [x1, .int 0, y1])), (el, .inr (6, [x2, .int 0, y2])), (lg, .inr (5, [z0, .int 0, .int 0])), (ho, .inl (cL, 1, .inr (.inl (f0))))] s.heap.size = A at hD hN ⊢
  have hA : ∀ q : Nat, s.heap.size ≤ q → A q := fun q h => by rw [← hAe]; exact Or.inr h
  have hS : va_S A s.heap s.heap [] := va_S.rf
  have hP : va_P (dC, dI) classes [(h, .inr (0, [.ref ro, .ref ch, v2, v3, .ref rg, .ref lg, .int 0, .int 0])), (ro, .inr (1, [.ref ra, .int 0])), (ra, .inl (cI, 32, .inl (f))), (ch, .inr (1, [ca, .int 0])), (rg, .inr (4, [.ref dl, .ref ll, .ref el, w3, w4])), (dl, .inr (6, [x0, .int 0, y0])), (ll, .inr (6, [x1, .int 0, y1])), (el, .inr (6, [x2, .int 0, y2])), (lg, .inr (5, [z0, .int 0, .int 0])), (ho, .inl (cL, 1, .inr (.inl (f0))))] s.heap := hP
  have hl := lv_entry ([.ref h, .int a0, .ref ho]) (n := 4) (Nat.le_of_ble_eq_true rfl)
  rw [lg_entry_eq]
  generalize (lg_sl ([.ref h, .int a0, .ref ho]) ++ List.replicate (4 - (lg_sl ([.ref h, .int a0, .ref ho])).length) Slot.unset).toArray = ls at hl ⊢
  have hl : lv_has ls 4 [(0, .ref h), (1, .int a0), (2, .ref ho)] := hl
  have htab := tw_table B (atoms_spec (ws := w_law_many) B.pre _ List.mem_cons_self)
  refine lv_aload_n hx hb d_law_many_0 rfl (lv_at hl 2 rfl) ?_
  refine lv_iconst (v := 0) hx hb d_law_many_1 (by decide) ?_
  refine lv_aload_n hx hb d_law_many_2 rfl (lv_at hl 0 rfl) ?_
  refine lv_iload_n hx hb d_law_many_3 rfl (lv_at hl 1 rfl) ?_
  refine tw_chki (tw_runV (As := [.int a0]) (rest := [.int 0, .ref ho]) ⟨hx, hb, hml, hown, hts⟩ (c_many_fresh l hfl dC dI h rg dl ll el lg (.ref ro) (.ref ch) v2 v3 (.int 0) (.int 0) w3 w4 x0 y0 x1 y1 x2 y2 z0 a0) (cwV 1 hts (tw_gV tk_344 tk_345 tk_346 tk_213 tk_347) rfl rfl rfl (by decide +kernel) ⟨Nat.le_of_ble_eq_true rfl, Nat.le_of_ble_eq_true rfl⟩) (tw_v2E (va_recv (q0 := 0) hK hP rfl rfl) (hP.sub (ws' := [(h, .inr (0, [.ref ro, .ref ch, v2, v3, .ref rg, .ref lg, .int 0, .int 0])), (rg, .inr (4, [.ref dl, .ref ll, .ref el, w3, w4])), (dl, .inr (6, [x0, .int 0, y0])), (ll, .inr (6, [x1, .int 0, y1])), (el, .inr (6, [x2, .int 0, y2])), (lg, .inr (5, [z0, .int 0, .int 0]))]) [0, 4, 5, 6, 7, 8] rfl) (hK.sub (tys' := []) [] rfl) hE (tw_kst hN hS)) rfl rfl hl.1 rfl (lv_room (Nat.le_of_ble_eq_true rfl)) d_law_many_4 ⟨by show 1 ≤ 1; decide, by show 6 ≤ 6; decide⟩) (fun r o p1 => ?_) (fun o x1 J2 j1 j2 j3 j4 => ?_)
  · subst p1
    refine lv_i2l (v := Int32.toInt64 (0)) hx hb d_law_many_7 rfl ?_
    refine va_last hx hb hK hP hD hS 9 1 rfl rfl (by unfold vp_in; decide) d_law_many_8 (fun H locs hP hD hS => ?_)
    have hP : va_P (dC, dI) classes [(h, .inr (0, [.ref ro, .ref ch, v2, v3, .ref rg, .ref lg, .int 0, .int 0])), (ro, .inr (1, [.ref ra, .int 0])), (ra, .inl (cI, 32, .inl (f))), (ch, .inr (1, [ca, .int 0])), (rg, .inr (4, [.ref dl, .ref ll, .ref el, w3, w4])), (dl, .inr (6, [x0, .int 0, y0])), (ll, .inr (6, [x1, .int 0, y1])), (el, .inr (6, [x2, .int 0, y2])), (lg, .inr (5, [z0, .int 0, .int 0])), (ho, .inl (cL, 1, .inr (.inl (vp_updL (f0) (Int32.toNatClampNeg (0)) ((Int32.toInt64 (0)))))))] H := hP
    have hD : va_D A [(h, .inr (0, [.ref ro, .ref ch, v2, v3, .ref rg, .ref lg, .int 0, .int 0])), (ro, .inr (1, [.ref ra, .int 0])), (ra, .inl (cI, 32, .inl (f))), (ch, .inr (1, [ca, .int 0])), (rg, .inr (4, [.ref dl, .ref ll, .ref el, w3, w4])), (dl, .inr (6, [x0, .int 0, y0])), (ll, .inr (6, [x1, .int 0, y1])), (el, .inr (6, [x2, .int 0, y2])), (lg, .inr (5, [z0, .int 0, .int 0])), (ho, .inl (cL, 1, .inr (.inl (vp_updL (f0) (Int32.toNatClampNeg (0)) ((Int32.toInt64 (0)))))))] := hD
    refine lv_goto (tgt := 15) hx hb d_law_many_9 (by decide) ?_
    refine lv_iconst (v := 0) hx hb d_law_many_15 (by decide) ?_
    have hP9 := hP.sub (ws' := [(ho, .inl (cL, 1, .inr (.inl (vp_updL (f0) (Int32.toNatClampNeg (0)) ((Int32.toInt64 (0)))))))]) [9] rfl
    have hD9 := hD.sub (ws' := [(ho, .inl (cL, 1, .inr (.inl (vp_updL (f0) (Int32.toNatClampNeg (0)) ((Int32.toInt64 (0)))))))]) [9] (by decide) rfl
    have hK9 := hK.sub (tys' := [(cL, .long)]) [1] rfl
    refine W.widen (k := 1) (n := 6) (by decide) (by decide) ?_
    exact W.iret (v := 0) hx hb hr (fun t ht hW => ⟨⟨0, vp_updL (f0) (Int32.toNatClampNeg (0)) ((Int32.toInt64 (0))), rfl, Or.inl ⟨o, rfl, rfl⟩, by rw [ht]; exact hP9, va_K.moved hW.alike hK9, hD9⟩, hS.F ht⟩) hS.2.2 d_law_many_16
  · have hP := tw_P1 hP j3
    have hS := tw_S1 hS j2 j3
    refine tw_catch (pre := []) (post := []) (sp := 0) (ep := 9) (hp := 12) (ct := 26) hown htab rfl j4 ⟨by decide, by decide⟩ (by decide) (hts _ tk_343) (fun y hy => by cases hy) ?_
    refine lv_astore_n (lv' := [(3, .ref x1), (0, .ref h), (1, .int a0), (2, .ref ho)]) hx hb d_law_many_12 rfl hl (by decide) rfl (fun ls hl => ?_)
    refine lv_iconst (v := 1) hx hb d_law_many_13 (by decide) ?_
    have hP9 := hP.sub (ws' := [(ho, .inl (cL, 1, .inr (.inl (f0))))]) [9] rfl
    have hD9 := hD.sub (ws' := [(ho, .inl (cL, 1, .inr (.inl (f0))))]) [9] (by decide) rfl
    have hK9 := hK.sub (tys' := [(cL, .long)]) [1] rfl
    refine W.widen (k := 1) (n := 6) (by decide) (by decide) ?_
    exact W.iret (v := 1) hx hb hr (fun t ht hW => ⟨⟨1, f0, rfl, Or.inr ⟨o, rfl⟩, by rw [ht]; exact hP9, va_K.moved hW.alike hK9, hD9⟩, hS.F ht⟩) hS.2.2 d_law_many_14
theorem tk_348 : (Jvm.Cond.methodLink "LandBookLaw" (17 : Nat) ({ cls := "LandBook", name := "open", desc := "()Z" } : Jvm.MethodName)) ∈ tw_G := tw_in (List.mem_of_getElem? (i := 360) (by decide +kernel)) rfl
theorem tk_349 : (Jvm.Cond.instanceMethod ({ cls := "LandBook", name := "open", desc := "()Z" } : Jvm.MethodName)) ∈ tw_G := tw_in (List.mem_of_getElem? (i := 361) (by decide +kernel)) rfl
theorem tk_350 : (Jvm.Cond.selects "LandBook" ({ cls := "LandBook", name := "open", desc := "()Z" } : Jvm.MethodName) ({ cls := "LandBook", name := "open", desc := "()Z" } : Jvm.MethodName)) ∈ tw_G := tw_in (List.mem_of_getElem? (i := 362) (by decide +kernel)) rfl
theorem tk_351 : (Jvm.Cond.code ({ cls := "LandBook", name := "open", desc := "()Z" } : Jvm.MethodName) prog_1_method_3_code (2 : Nat) (Option.some Jvm.ClassFile.FieldType.boolean)) ∈ tw_G := tw_in (List.mem_of_getElem? (i := 363) (by decide +kernel)) rfl
abbrev y_law_open : MethodName := ⟨"LandBookLaw", "open", "(LLandBook;[J)I"⟩
abbrev w_law_open : List Cond := Cond.codeWith y_law_open method_4_code 3 (some .int) [(0, 15, 18, 21)] :: tw_G
theorem d_law_open_0 : decode method_4_code 0 = .ok (.aload_n 1, 1) := by decide +kernel
theorem d_law_open_1 : decode method_4_code 1 = .ok (.iconst 0, 1) := by decide +kernel
theorem d_law_open_2 : decode method_4_code 2 = .ok (.aload_n 0, 1) := by decide +kernel
theorem d_law_open_3 : decode method_4_code 3 = .ok (.invokevirtual 17, 3) := by decide +kernel
theorem d_law_open_6 : decode method_4_code 6 = .ok (.ifCond .eq 7, 3) := by decide +kernel
theorem d_law_open_13 : decode method_4_code 13 = .ok (.lconst 0, 1) := by decide +kernel
theorem d_law_open_14 : decode method_4_code 14 = .ok (.lastore, 1) := by decide +kernel
theorem d_law_open_15 : decode method_4_code 15 = .ok (.goto 6, 3) := by decide +kernel
theorem d_law_open_21 : decode method_4_code 21 = .ok (.iconst 0, 1) := by decide +kernel
theorem d_law_open_22 : decode method_4_code 22 = .ok (.ireturn, 1) := by decide +kernel
set_option maxHeartbeats 4000000 in
set_option maxRecDepth 100000 in
theorem c_law_open (l : Launch) (hfl : l.flags = pinnedFlags ++ [noTraceFlag]) (dC : Nat → ClassId) (dI : Nat → Nat → Nat) (h sz ro ra ch rg dl ll el lg ho : Nat) (cI cL : ClassId) (f : Nat → Int32) (f0 : Nat → Int64) (v2 v3 ca w3 w4 x0 y0 x1 y1 x2 y2 z0 : Value) : Met l y_law_open w_law_open ({ frames := 3, cells := 1, slots := 6, locals := 62 }) (tw_P4E (dC, dI) classes [(h, .inr (0, [.ref ro, .ref ch, v2, v3, .ref rg, .ref lg, .int 0, .int 0])), (ro, .inr (1, [.ref ra, .int 0])), (ra, .inl (cI, 32, .inl (f))), (ch, .inr (1, [ca, .int 0])), (rg, .inr (4, [.ref dl, .ref ll, .ref el, w3, w4])), (dl, .inr (6, [x0, .int 0, y0])), (ll, .inr (6, [x1, .int 0, y1])), (el, .inr (6, [x2, .int 0, y2])), (lg, .inr (5, [z0, .int 0, .int 0])), (ho, .inl (cL, 1, .inr (.inl (f0))))] [(cI, .int), (cL, .long)] sz [.ref h, .ref ho]) (va_Qi (fun (r : Int32) (u : Nat → Int64) => r = 0 ∧ u 0 = 0) (fun u => tw_B dC dI (va_A [(h, .inr (0, [.ref ro, .ref ch, v2, v3, .ref rg, .ref lg, .int 0, .int 0])), (ro, .inr (1, [.ref ra, .int 0])), (ra, .inl (cI, 32, .inl (f))), (ch, .inr (1, [ca, .int 0])), (rg, .inr (4, [.ref dl, .ref ll, .ref el, w3, w4])), (dl, .inr (6, [x0, .int 0, y0])), (ll, .inr (6, [x1, .int 0, y1])), (el, .inr (6, [x2, .int 0, y2])), (lg, .inr (5, [z0, .int 0, .int 0])), (ho, .inl (cL, 1, .inr (.inl (f0))))] sz) [(ho, .inl (cL, 1, .inr (.inl (u))))] [(cL, .long)]) (va_A [(h, .inr (0, [.ref ro, .ref ch, v2, v3, .ref rg, .ref lg, .int 0, .int 0])), (ro, .inr (1, [.ref ra, .int 0])), (ra, .inl (cI, 32, .inl (f))), (ch, .inr (1, [ca, .int 0])), (rg, .inr (4, [.ref dl, .ref ll, .ref el, w3, w4])), (dl, .inr (6, [x0, .int 0, y0])), (ll, .inr (6, [x1, .int 0, y1])), (el, .inr (6, [x2, .int 0, y2])), (lg, .inr (5, [z0, .int 0, .int 0])), (ho, .inl (cL, 1, .inr (.inl (f0))))] sz)) 1 6 (va_A [(h, .inr (0, [.ref ro, .ref ch, v2, v3, .ref rg, .ref lg, .int 0, .int 0])), (ro, .inr (1, [.ref ra, .int 0])), (ra, .inl (cI, 32, .inl (f))), (ch, .inr (1, [ca, .int 0])), (rg, .inr (4, [.ref dl, .ref ll, .ref el, w3, w4])), (dl, .inr (6, [x0, .int 0, y0])), (ll, .inr (6, [x1, .int 0, y1])), (el, .inr (6, [x2, .int 0, y2])), (lg, .inr (5, [z0, .int 0, .int 0])), (ho, .inl (cL, 1, .inr (.inl (f0))))] sz) := by
  refine va_MetW (cc := method_4_code) (maxL := 3) (ret := (some .int)) (hh := [(0, 15, 18, 21)]) (by decide) rfl ?_
  intro p e s m args below meth c s₁ B hml hv
  obtain ⟨rfl, hsz, hP, hK, hD0, hE⟩ := hv
  have hx := B.exec
  have hb := B.bytes
  have hr := B.returns
  have hts : ∀ w ∈ tw_G, w.before _ s = true := fun w h => atoms_spec (ws := w_law_open) B.pre w (List.mem_cons_of_mem _ h)
  have hown : s.vm.findClass "LandBookLaw" = some m.cls := findClass_of_methodNamed B.named
  have hlocks := B.notSynchronized
  subst hsz
  have hN := tw_nst hP
  have hD := hD0.self (sz := s.heap.size)
  generalize hAe : va_A [(h, .inr (0, [.ref ro, .ref ch, v2, v3, .ref rg, .ref lg, .int 0, .int 0])), (ro, .inr (1, [.ref ra, .int 0])), (ra, .inl (cI, 32, .inl (f))), (ch, .inr (1, [ca, .int 0])), (rg, .inr (4, [.ref dl, .ref ll, .ref el, w3, w4])), (dl, .inr (6, [x0, .int 0, y0])), (ll, .inr (6, [x1, .int 0, y1])), (el, .inr (6, [x2, .int 0, y2])), (lg, .inr (5, [z0, .int 0, .int 0])), (ho, .inl (cL, 1, .inr (.inl (f0))))] s.heap.size = A at hD hN ⊢
  have hA : ∀ q : Nat, s.heap.size ≤ q → A q := fun q h => by rw [← hAe]; exact Or.inr h
  have hS : va_S A s.heap s.heap [] := va_S.rf
  have hP : va_P (dC, dI) classes [(h, .inr (0, [.ref ro, .ref ch, v2, v3, .ref rg, .ref lg, .int 0, .int 0])), (ro, .inr (1, [.ref ra, .int 0])), (ra, .inl (cI, 32, .inl (f))), (ch, .inr (1, [ca, .int 0])), (rg, .inr (4, [.ref dl, .ref ll, .ref el, w3, w4])), (dl, .inr (6, [x0, .int 0, y0])), (ll, .inr (6, [x1, .int 0, y1])), (el, .inr (6, [x2, .int 0, y2])), (lg, .inr (5, [z0, .int 0, .int 0])), (ho, .inl (cL, 1, .inr (.inl (f0))))] s.heap := hP
  have hl := lv_entry ([.ref h, .ref ho]) (n := 3) (Nat.le_of_ble_eq_true rfl)
  rw [lg_entry_eq]
  generalize (lg_sl ([.ref h, .ref ho]) ++ List.replicate (3 - (lg_sl ([.ref h, .ref ho])).length) Slot.unset).toArray = ls at hl ⊢
  have hl : lv_has ls 3 [(0, .ref h), (1, .ref ho)] := hl
  have htab := tw_table B (atoms_spec (ws := w_law_open) B.pre _ List.mem_cons_self)
  refine lv_aload_n hx hb d_law_open_0 rfl (lv_at hl 1 rfl) ?_
  refine lv_iconst (v := 0) hx hb d_law_open_1 (by decide) ?_
  refine lv_aload_n hx hb d_law_open_2 rfl (lv_at hl 0 rfl) ?_
  have hPc := hP.sub (ws' := [(h, .inr (0, [.ref ro, .ref ch, v2, v3, .ref rg, .ref lg, .int 0, .int 0])), (ro, .inr (1, [.ref ra, .int 0])), (ch, .inr (1, [ca, .int 0])), (rg, .inr (4, [.ref dl, .ref ll, .ref el, w3, w4])), (ll, .inr (6, [x1, .int 0, y1]))]) [0, 1, 3, 4, 6] rfl
  have hDc := hD.sub (ws' := [(h, .inr (0, [.ref ro, .ref ch, v2, v3, .ref rg, .ref lg, .int 0, .int 0])), (ro, .inr (1, [.ref ra, .int 0])), (ch, .inr (1, [ca, .int 0])), (rg, .inr (4, [.ref dl, .ref ll, .ref el, w3, w4])), (ll, .inr (6, [x1, .int 0, y1]))]) [0, 1, 3, 4, 6] (by decide) rfl
  have hKc := hK.sub (tys' := []) [] rfl
  have hFc := va_free (wc := [(h, .inr (0, [.ref ro, .ref ch, v2, v3, .ref rg, .ref lg, .int 0, .int 0])), (ro, .inr (1, [.ref ra, .int 0])), (ch, .inr (1, [ca, .int 0])), (rg, .inr (4, [.ref dl, .ref ll, .ref el, w3, w4])), (ll, .inr (6, [x1, .int 0, y1]))]) hD hS hA [0, 1, 3, 4, 6] rfl
  refine tw_call (tw_runV (As := []) (rest := [.int 0, .ref ho]) ⟨hx, hb, hml, hown, hts⟩ (c_open_fresh l hfl dC dI h s.heap.size ro ch rg ll v2 v3 (.ref lg) (.int 0) (.ref ra) ca (.ref dl) (.ref el) w3 w4 x1 y1 0) (cwV 0 hts (tw_gV tk_348 tk_349 tk_350 tk_213 tk_351) rfl rfl rfl (by decide +kernel) ⟨Nat.le_of_ble_eq_true rfl, Nat.le_of_ble_eq_true rfl⟩) (tw_v4E (va_recv (q0 := 0) hK hP rfl rfl) hPc hKc hDc hE (tw_kst hN hS)) rfl rfl hl.1 rfl (lv_room (Nat.le_of_ble_eq_true rfl)) d_law_open_3 ⟨by show 1 ≤ 1; decide, by show 6 ≤ 6; decide⟩) hS (fun q _ h => hFc q h) hFc (fun _ _ _ h => h.2) (fun v st t H1 locs g0 ht hvm hq hz1 hk1 hS => ?_) (fun x st t H1 locs g0 ht hvm hq hz1 hk1 hS => ?_)
  · obtain ⟨rfl, -⟩ := hq
    obtain ⟨hP, hD⟩ := va_join (wr := [(ra, .inl (cI, 32, .inl (f))), (dl, .inr (6, [x0, .int 0, y0])), (el, .inr (6, [x2, .int 0, y2])), (lg, .inr (5, [z0, .int 0, .int 0])), (ho, .inl (cL, 1, .inr (.inl (f0))))]) (w1 := []) hP hD [0, 1, 3, 4, 6] [2, 5, 7, 8, 9] rfl rfl (by decide) (by decide) hk1 hFc tw_Pn tw_Dn
    have hP : va_P (dC, dI) classes [(ra, .inl (cI, 32, .inl (f))), (dl, .inr (6, [x0, .int 0, y0])), (el, .inr (6, [x2, .int 0, y2])), (lg, .inr (5, [z0, .int 0, .int 0])), (ho, .inl (cL, 1, .inr (.inl (f0))))] H1 := hP
    have hD : va_D A [(ra, .inl (cI, 32, .inl (f))), (dl, .inr (6, [x0, .int 0, y0])), (el, .inr (6, [x2, .int 0, y2])), (lg, .inr (5, [z0, .int 0, .int 0])), (ho, .inl (cL, 1, .inr (.inl (f0))))] := hD
    refine W.eq (g2 := F0 m 6 ls [.int 0, .int 0, .ref ho]) rfl ?_
    refine lv_if_eq (tgt := 13) hx hb d_law_open_6 (by decide) (fun h1 => ?_) (fun h1 => absurd (by decide) h1)
    refine lv_lconst (v := 0) hx hb d_law_open_13 (by decide) ?_
    refine va_last hx hb hK hP hD hS 4 1 rfl rfl (by unfold vp_in; decide) d_law_open_14 (fun H locs hP hD hS => ?_)
    have hP : va_P (dC, dI) classes [(ra, .inl (cI, 32, .inl (f))), (dl, .inr (6, [x0, .int 0, y0])), (el, .inr (6, [x2, .int 0, y2])), (lg, .inr (5, [z0, .int 0, .int 0])), (ho, .inl (cL, 1, .inr (.inl (vp_updL (f0) (Int32.toNatClampNeg (0)) (0)))))] H := hP
    have hD : va_D A [(ra, .inl (cI, 32, .inl (f))), (dl, .inr (6, [x0, .int 0, y0])), (el, .inr (6, [x2, .int 0, y2])), (lg, .inr (5, [z0, .int 0, .int 0])), (ho, .inl (cL, 1, .inr (.inl (vp_updL (f0) (Int32.toNatClampNeg (0)) (0)))))] := hD
    refine lv_goto (tgt := 21) hx hb d_law_open_15 (by decide) ?_
    refine lv_iconst (v := 0) hx hb d_law_open_21 (by decide) ?_
    have hP9 := hP.sub (ws' := [(ho, .inl (cL, 1, .inr (.inl (vp_updL (f0) (Int32.toNatClampNeg (0)) (0)))))]) [4] rfl
    have hD9 := hD.sub (ws' := [(ho, .inl (cL, 1, .inr (.inl (vp_updL (f0) (Int32.toNatClampNeg (0)) (0)))))]) [4] (by decide) rfl
    have hK9 := hK.sub (tys' := [(cL, .long)]) [1] rfl
    refine W.widen (k := 1) (n := 6) (by decide) (by decide) ?_
    exact W.iret (v := 0) hx hb hr (fun t ht hW => ⟨⟨0, vp_updL (f0) (Int32.toNatClampNeg (0)) (0), rfl, ⟨rfl, rfl⟩, by rw [ht]; exact hP9, va_K.moved hW.alike hK9, hD9⟩, hS.F ht⟩) hS.2.2 d_law_open_22
  · obtain ⟨⟨cls, g, -⟩, -⟩ := hq
    exact g.elim
theorem tk_352 : (Jvm.Cond.methodLink "LandBookLaw" (23 : Nat) ({ cls := "LandBook", name := "split", desc := "(II)I" } : Jvm.MethodName)) ∈ tw_G := tw_in (List.mem_of_getElem? (i := 540) (by decide +kernel)) rfl
theorem tk_353 : (Jvm.Cond.instanceMethod ({ cls := "LandBook", name := "split", desc := "(II)I" } : Jvm.MethodName)) ∈ tw_G := tw_in (List.mem_of_getElem? (i := 541) (by decide +kernel)) rfl
theorem tk_354 : (Jvm.Cond.selects "LandBook" ({ cls := "LandBook", name := "split", desc := "(II)I" } : Jvm.MethodName) ({ cls := "LandBook", name := "split", desc := "(II)I" } : Jvm.MethodName)) ∈ tw_G := tw_in (List.mem_of_getElem? (i := 542) (by decide +kernel)) rfl
theorem tk_355 : (Jvm.Cond.code ({ cls := "LandBook", name := "split", desc := "(II)I" } : Jvm.MethodName) prog_1_method_4_code (7 : Nat) (Option.some Jvm.ClassFile.FieldType.int)) ∈ tw_G := tw_in (List.mem_of_getElem? (i := 543) (by decide +kernel)) rfl
abbrev y_law_split : MethodName := ⟨"LandBookLaw", "split", "(LLandBook;II[J)I"⟩
abbrev w_law_split : List Cond := Cond.codeWith y_law_split method_5_code 5 (some .int) [(0, 10, 13, 21), (0, 10, 17, 26), (0, 10, 21, 13)] :: tw_G
theorem d_law_split_0 : decode method_5_code 0 = .ok (.aload_n 3, 1) := by decide +kernel
theorem d_law_split_1 : decode method_5_code 1 = .ok (.iconst 0, 1) := by decide +kernel
theorem d_law_split_2 : decode method_5_code 2 = .ok (.aload_n 0, 1) := by decide +kernel
theorem d_law_split_3 : decode method_5_code 3 = .ok (.iload_n 1, 1) := by decide +kernel
theorem d_law_split_4 : decode method_5_code 4 = .ok (.iload_n 2, 1) := by decide +kernel
theorem d_law_split_5 : decode method_5_code 5 = .ok (.invokevirtual 23, 3) := by decide +kernel
theorem d_law_split_13 : decode method_5_code 13 = .ok (.astore 4, 2) := by decide +kernel
theorem d_law_split_15 : decode method_5_code 15 = .ok (.iconst 1, 1) := by decide +kernel
theorem d_law_split_16 : decode method_5_code 16 = .ok (.ireturn, 1) := by decide +kernel
set_option maxHeartbeats 4000000 in
set_option maxRecDepth 100000 in
theorem c_law_split (l : Launch) (hfl : l.flags = pinnedFlags ++ [noTraceFlag]) (dC : Nat → ClassId) (dI : Nat → Nat → Nat) (h sz ro ra ch rg dl ll el lg ho : Nat) (cI cL : ClassId) (f : Nat → Int32) (f0 : Nat → Int64) (v2 v3 ca w3 w4 x0 y0 x1 y1 x2 y2 z0 : Value) (a0 a1 : Int32) : Met l y_law_split w_law_split ({ frames := 8, cells := 1, slots := 6, locals := 128 }) (tw_P4E (dC, dI) classes [(h, .inr (0, [.ref ro, .ref ch, v2, v3, .ref rg, .ref lg, .int 0, .int 0])), (ro, .inr (1, [.ref ra, .int 0])), (ra, .inl (cI, 32, .inl (f))), (ch, .inr (1, [ca, .int 0])), (rg, .inr (4, [.ref dl, .ref ll, .ref el, w3, w4])), (dl, .inr (6, [x0, .int 0, y0])), (ll, .inr (6, [x1, .int 0, y1])), (el, .inr (6, [x2, .int 0, y2])), (lg, .inr (5, [z0, .int 0, .int 0])), (ho, .inl (cL, 1, .inr (.inl (f0))))] [(cI, .int), (cL, .long)] sz [.ref h, .int a0, .int a1, .ref ho]) (va_Qi (fun (r : Int32) (u : Nat → Int64) => r = 1) (fun u => tw_B dC dI (va_A [(h, .inr (0, [.ref ro, .ref ch, v2, v3, .ref rg, .ref lg, .int 0, .int 0])), (ro, .inr (1, [.ref ra, .int 0])), (ra, .inl (cI, 32, .inl (f))), (ch, .inr (1, [ca, .int 0])), (rg, .inr (4, [.ref dl, .ref ll, .ref el, w3, w4])), (dl, .inr (6, [x0, .int 0, y0])), (ll, .inr (6, [x1, .int 0, y1])), (el, .inr (6, [x2, .int 0, y2])), (lg, .inr (5, [z0, .int 0, .int 0])), (ho, .inl (cL, 1, .inr (.inl (f0))))] sz) [(ho, .inl (cL, 1, .inr (.inl (u))))] [(cL, .long)]) (va_A [(h, .inr (0, [.ref ro, .ref ch, v2, v3, .ref rg, .ref lg, .int 0, .int 0])), (ro, .inr (1, [.ref ra, .int 0])), (ra, .inl (cI, 32, .inl (f))), (ch, .inr (1, [ca, .int 0])), (rg, .inr (4, [.ref dl, .ref ll, .ref el, w3, w4])), (dl, .inr (6, [x0, .int 0, y0])), (ll, .inr (6, [x1, .int 0, y1])), (el, .inr (6, [x2, .int 0, y2])), (lg, .inr (5, [z0, .int 0, .int 0])), (ho, .inl (cL, 1, .inr (.inl (f0))))] sz)) 1 6 (va_A [(h, .inr (0, [.ref ro, .ref ch, v2, v3, .ref rg, .ref lg, .int 0, .int 0])), (ro, .inr (1, [.ref ra, .int 0])), (ra, .inl (cI, 32, .inl (f))), (ch, .inr (1, [ca, .int 0])), (rg, .inr (4, [.ref dl, .ref ll, .ref el, w3, w4])), (dl, .inr (6, [x0, .int 0, y0])), (ll, .inr (6, [x1, .int 0, y1])), (el, .inr (6, [x2, .int 0, y2])), (lg, .inr (5, [z0, .int 0, .int 0])), (ho, .inl (cL, 1, .inr (.inl (f0))))] sz) := by
  refine va_MetW (cc := method_5_code) (maxL := 5) (ret := (some .int)) (hh := [(0, 10, 13, 21), (0, 10, 17, 26), (0, 10, 21, 13)]) (by decide) rfl ?_
  intro p e s m args below meth c s₁ B hml hv
  obtain ⟨rfl, hsz, hP, hK, hD0, hE⟩ := hv
  have hx := B.exec
  have hb := B.bytes
  have hr := B.returns
  have hts : ∀ w ∈ tw_G, w.before _ s = true := fun w h => atoms_spec (ws := w_law_split) B.pre w (List.mem_cons_of_mem _ h)
  have hown : s.vm.findClass "LandBookLaw" = some m.cls := findClass_of_methodNamed B.named
  have hlocks := B.notSynchronized
  subst hsz
  have hN := tw_nst hP
  have hD := hD0.self (sz := s.heap.size)
  generalize hAe : va_A [(h, .inr (0, [.ref ro, .ref ch, v2, v3, .ref rg, .ref lg, .int 0, .int 0])), (ro, .inr (1, [.ref ra, .int 0])), (ra, .inl (cI, 32, .inl (f))), (ch, .inr (1, [ca, .int 0])), (rg, .inr (4, [.ref dl, .ref ll, .ref el, w3, w4])), (dl, .inr (6, [x0, .int 0, y0])), (ll, .inr (6, [x1, .int 0, y1])), (el, .inr (6, [x2, .int 0, y2])), (lg, .inr (5, [z0, .int 0, .int 0])), (ho, .inl (cL, 1, .inr (.inl (f0))))] s.heap.size = A at hD hN ⊢
  have hA : ∀ q : Nat, s.heap.size ≤ q → A q := fun q h => by rw [← hAe]; exact Or.inr h
  have hS : va_S A s.heap s.heap [] := va_S.rf
  have hP : va_P (dC, dI) classes [(h, .inr (0, [.ref ro, .ref ch, v2, v3, .ref rg, .ref lg, .int 0, .int 0])), (ro, .inr (1, [.ref ra, .int 0])), (ra, .inl (cI, 32, .inl (f))), (ch, .inr (1, [ca, .int 0])), (rg, .inr (4, [.ref dl, .ref ll, .ref el, w3, w4])), (dl, .inr (6, [x0, .int 0, y0])), (ll, .inr (6, [x1, .int 0, y1])), (el, .inr (6, [x2, .int 0, y2])), (lg, .inr (5, [z0, .int 0, .int 0])), (ho, .inl (cL, 1, .inr (.inl (f0))))] s.heap := hP
  have hl := lv_entry ([.ref h, .int a0, .int a1, .ref ho]) (n := 5) (Nat.le_of_ble_eq_true rfl)
  rw [lg_entry_eq]
  generalize (lg_sl ([.ref h, .int a0, .int a1, .ref ho]) ++ List.replicate (5 - (lg_sl ([.ref h, .int a0, .int a1, .ref ho])).length) Slot.unset).toArray = ls at hl ⊢
  have hl : lv_has ls 5 [(0, .ref h), (1, .int a0), (2, .int a1), (3, .ref ho)] := hl
  have htab := tw_table B (atoms_spec (ws := w_law_split) B.pre _ List.mem_cons_self)
  refine lv_aload_n hx hb d_law_split_0 rfl (lv_at hl 3 rfl) ?_
  refine lv_iconst (v := 0) hx hb d_law_split_1 (by decide) ?_
  refine lv_aload_n hx hb d_law_split_2 rfl (lv_at hl 0 rfl) ?_
  refine lv_iload_n hx hb d_law_split_3 rfl (lv_at hl 1 rfl) ?_
  refine lv_iload_n hx hb d_law_split_4 rfl (lv_at hl 2 rfl) ?_
  have hPc := hP.sub (ws' := [(h, .inr (0, [.ref ro, .ref ch, v2, v3, .ref rg, .ref lg, .int 0, .int 0])), (ro, .inr (1, [.ref ra, .int 0])), (ch, .inr (1, [ca, .int 0])), (rg, .inr (4, [.ref dl, .ref ll, .ref el, w3, w4])), (ll, .inr (6, [x1, .int 0, y1]))]) [0, 1, 3, 4, 6] rfl
  have hDc := hD.sub (ws' := [(h, .inr (0, [.ref ro, .ref ch, v2, v3, .ref rg, .ref lg, .int 0, .int 0])), (ro, .inr (1, [.ref ra, .int 0])), (ch, .inr (1, [ca, .int 0])), (rg, .inr (4, [.ref dl, .ref ll, .ref el, w3, w4])), (ll, .inr (6, [x1, .int 0, y1]))]) [0, 1, 3, 4, 6] (by decide) rfl
  have hKc := hK.sub (tys' := []) [] rfl
  have hFc := va_free (wc := [(h, .inr (0, [.ref ro, .ref ch, v2, v3, .ref rg, .ref lg, .int 0, .int 0])), (ro, .inr (1, [.ref ra, .int 0])), (ch, .inr (1, [ca, .int 0])), (rg, .inr (4, [.ref dl, .ref ll, .ref el, w3, w4])), (ll, .inr (6, [x1, .int 0, y1]))]) hD hS hA [0, 1, 3, 4, 6] rfl
  refine tw_call (tw_runV (As := [.int a0, .int a1]) (rest := [.int 0, .ref ho]) ⟨hx, hb, hml, hown, hts⟩ (c_split_fresh l hfl dC dI h s.heap.size ro ch rg ll v2 v3 (.ref lg) (.int 0) (.ref ra) ca (.ref dl) (.ref el) w3 w4 x1 y1 0 a0 a1) (cwV 2 hts (tw_gV tk_352 tk_353 tk_354 tk_213 tk_355) rfl rfl rfl (by decide +kernel) ⟨Nat.le_of_ble_eq_true rfl, Nat.le_of_ble_eq_true rfl⟩) (tw_v4E (va_recv (q0 := 0) hK hP rfl rfl) hPc hKc hDc hE (tw_kst hN hS)) rfl rfl hl.1 rfl (lv_room (Nat.le_of_ble_eq_true rfl)) d_law_split_5 ⟨by show 1 ≤ 1; decide, by show 6 ≤ 6; decide⟩) hS (fun q _ h => hFc q h) hFc (fun _ _ _ h => h.2) (fun v st t H1 locs g0 ht hvm hq hz1 hk1 hS => ?_) (fun x st t H1 locs g0 ht hvm hq hz1 hk1 hS => ?_)
  · exact hq.1.elim
  · obtain ⟨⟨cls, rfl, hx9⟩, -⟩ := hq
    obtain ⟨hP, hD⟩ := va_join (wr := [(ra, .inl (cI, 32, .inl (f))), (dl, .inr (6, [x0, .int 0, y0])), (el, .inr (6, [x2, .int 0, y2])), (lg, .inr (5, [z0, .int 0, .int 0])), (ho, .inl (cL, 1, .inr (.inl (f0))))]) (w1 := []) hP hD [0, 1, 3, 4, 6] [2, 5, 7, 8, 9] rfl rfl (by decide) (by decide) hk1 hFc tw_Pn tw_Dn
    have hP : va_P (dC, dI) classes [(ra, .inl (cI, 32, .inl (f))), (dl, .inr (6, [x0, .int 0, y0])), (el, .inr (6, [x2, .int 0, y2])), (lg, .inr (5, [z0, .int 0, .int 0])), (ho, .inl (cL, 1, .inr (.inl (f0))))] H1 := hP
    have hD : va_D A [(ra, .inl (cI, 32, .inl (f))), (dl, .inr (6, [x0, .int 0, y0])), (el, .inr (6, [x2, .int 0, y2])), (lg, .inr (5, [z0, .int 0, .int 0])), (ho, .inl (cL, 1, .inr (.inl (f0))))] := hD
    refine tw_catch (pre := []) (post := [(0, 10, 17, 26), (0, 10, 21, 13)]) (sp := 0) (ep := 10) (hp := 13) (ct := 21) hown htab rfl (tw_excTo hx9 ht hvm) ⟨by decide, by decide⟩ (by decide) (hts _ tk_278) (fun y hy => by cases hy) ?_
    refine lv_astore (lv' := [(4, .ref x), (0, .ref h), (1, .int a0), (2, .int a1), (3, .ref ho)]) hx hb d_law_split_13 hl (by decide) rfl (fun ls hl => ?_)
    refine lv_iconst (v := 1) hx hb d_law_split_15 (by decide) ?_
    have hP9 := hP.sub (ws' := [(ho, .inl (cL, 1, .inr (.inl (f0))))]) [4] rfl
    have hD9 := hD.sub (ws' := [(ho, .inl (cL, 1, .inr (.inl (f0))))]) [4] (by decide) rfl
    have hK9 := hK.sub (tys' := [(cL, .long)]) [1] rfl
    refine W.widen (k := 1) (n := 6) (by decide) (by decide) ?_
    exact W.iret (v := 1) hx hb hr (fun t ht hW => ⟨⟨1, f0, rfl, rfl, by rw [ht]; exact hP9, va_K.moved hW.alike hK9, hD9⟩, hS.F ht⟩) hS.2.2 d_law_split_16
theorem tk_356 : (Jvm.Cond.methodLink "LandBookLaw" (7 : Nat) ({ cls := "LandBook", name := "point", desc := "(II)I" } : Jvm.MethodName)) ∈ tw_G := tw_in (List.mem_of_getElem? (i := 256) (by decide +kernel)) rfl
theorem tk_357 : (Jvm.Cond.instanceMethod ({ cls := "LandBook", name := "point", desc := "(II)I" } : Jvm.MethodName)) ∈ tw_G := tw_in (List.mem_of_getElem? (i := 257) (by decide +kernel)) rfl
theorem tk_358 : (Jvm.Cond.selects "LandBook" ({ cls := "LandBook", name := "point", desc := "(II)I" } : Jvm.MethodName) ({ cls := "LandBook", name := "point", desc := "(II)I" } : Jvm.MethodName)) ∈ tw_G := tw_in (List.mem_of_getElem? (i := 258) (by decide +kernel)) rfl
theorem tk_359 : (Jvm.Cond.code ({ cls := "LandBook", name := "point", desc := "(II)I" } : Jvm.MethodName) prog_1_method_2_code (3 : Nat) (Option.some Jvm.ClassFile.FieldType.int)) ∈ tw_G := tw_in (List.mem_of_getElem? (i := 259) (by decide +kernel)) rfl
theorem tk_360 : (Jvm.Cond.classLink "LandBookLaw" (13 : Nat) "java/lang/IllegalArgumentException") ∈ tw_G := tw_in (List.mem_of_getElem? (i := 254) (by decide +kernel)) rfl
abbrev y_law_point : MethodName := ⟨"LandBookLaw", "point", "(LLandBook;II[J)I"⟩
abbrev w_law_point : List Cond := Cond.codeWith y_law_point method_3_code 5 (some .int) [(0, 10, 13, 13), (0, 10, 17, 15)] :: tw_G
theorem d_law_point_0 : decode method_3_code 0 = .ok (.aload_n 3, 1) := by decide +kernel
theorem d_law_point_1 : decode method_3_code 1 = .ok (.iconst 0, 1) := by decide +kernel
theorem d_law_point_2 : decode method_3_code 2 = .ok (.aload_n 0, 1) := by decide +kernel
theorem d_law_point_3 : decode method_3_code 3 = .ok (.iload_n 1, 1) := by decide +kernel
theorem d_law_point_4 : decode method_3_code 4 = .ok (.iload_n 2, 1) := by decide +kernel
theorem d_law_point_5 : decode method_3_code 5 = .ok (.invokevirtual 7, 3) := by decide +kernel
theorem d_law_point_8 : decode method_3_code 8 = .ok (.i2l, 1) := by decide +kernel
theorem d_law_point_9 : decode method_3_code 9 = .ok (.lastore, 1) := by decide +kernel
theorem d_law_point_10 : decode method_3_code 10 = .ok (.goto 11, 3) := by decide +kernel
theorem d_law_point_21 : decode method_3_code 21 = .ok (.iconst 0, 1) := by decide +kernel
theorem d_law_point_22 : decode method_3_code 22 = .ok (.ireturn, 1) := by decide +kernel
theorem d_law_point_13 : decode method_3_code 13 = .ok (.astore 4, 2) := by decide +kernel
theorem d_law_point_15 : decode method_3_code 15 = .ok (.iconst 1, 1) := by decide +kernel
theorem d_law_point_16 : decode method_3_code 16 = .ok (.ireturn, 1) := by decide +kernel
set_option maxHeartbeats 4000000 in
set_option maxRecDepth 100000 in
theorem c_law_point (l : Launch) (hfl : l.flags = pinnedFlags ++ [noTraceFlag]) (dC : Nat → ClassId) (dI : Nat → Nat → Nat) (h sz ro ra ch rg dl ll el lg ho : Nat) (cI cL : ClassId) (f : Nat → Int32) (f0 : Nat → Int64) (v2 v3 ca w3 w4 x0 y0 x1 y1 x2 y2 z0 : Value) (a0 a1 : Int32) : Met l y_law_point w_law_point ({ frames := 8, cells := 1, slots := 6, locals := 125 }) (tw_P4E (dC, dI) classes [(h, .inr (0, [.ref ro, .ref ch, v2, v3, .ref rg, .ref lg, .int 0, .int 0])), (ro, .inr (1, [.ref ra, .int 0])), (ra, .inl (cI, 32, .inl (f))), (ch, .inr (1, [ca, .int 0])), (rg, .inr (4, [.ref dl, .ref ll, .ref el, w3, w4])), (dl, .inr (6, [x0, .int 0, y0])), (ll, .inr (6, [x1, .int 0, y1])), (el, .inr (6, [x2, .int 0, y2])), (lg, .inr (5, [z0, .int 0, .int 0])), (ho, .inl (cL, 1, .inr (.inl (f0))))] [(cI, .int), (cL, .long)] sz [.ref h, .int a0, .int a1, .ref ho]) (va_Qi (fun (r : Int32) (u : Nat → Int64) => ((¬ a0 < 0 ∧ ¬ 20000 < a0 ∧ ¬ a1 < 0 ∧ a1 ≤ 20000) ∧ r = 0 ∧ u 0 = 1) ∨ (¬ (¬ a0 < 0 ∧ ¬ 20000 < a0 ∧ ¬ a1 < 0 ∧ a1 ≤ 20000) ∧ r = 1)) (fun u => tw_B dC dI (va_A [(h, .inr (0, [.ref ro, .ref ch, v2, v3, .ref rg, .ref lg, .int 0, .int 0])), (ro, .inr (1, [.ref ra, .int 0])), (ra, .inl (cI, 32, .inl (f))), (ch, .inr (1, [ca, .int 0])), (rg, .inr (4, [.ref dl, .ref ll, .ref el, w3, w4])), (dl, .inr (6, [x0, .int 0, y0])), (ll, .inr (6, [x1, .int 0, y1])), (el, .inr (6, [x2, .int 0, y2])), (lg, .inr (5, [z0, .int 0, .int 0])), (ho, .inl (cL, 1, .inr (.inl (f0))))] sz) [(ho, .inl (cL, 1, .inr (.inl (u))))] [(cL, .long)]) (va_A [(h, .inr (0, [.ref ro, .ref ch, v2, v3, .ref rg, .ref lg, .int 0, .int 0])), (ro, .inr (1, [.ref ra, .int 0])), (ra, .inl (cI, 32, .inl (f))), (ch, .inr (1, [ca, .int 0])), (rg, .inr (4, [.ref dl, .ref ll, .ref el, w3, w4])), (dl, .inr (6, [x0, .int 0, y0])), (ll, .inr (6, [x1, .int 0, y1])), (el, .inr (6, [x2, .int 0, y2])), (lg, .inr (5, [z0, .int 0, .int 0])), (ho, .inl (cL, 1, .inr (.inl (f0))))] sz)) 1 6 (va_A [(h, .inr (0, [.ref ro, .ref ch, v2, v3, .ref rg, .ref lg, .int 0, .int 0])), (ro, .inr (1, [.ref ra, .int 0])), (ra, .inl (cI, 32, .inl (f))), (ch, .inr (1, [ca, .int 0])), (rg, .inr (4, [.ref dl, .ref ll, .ref el, w3, w4])), (dl, .inr (6, [x0, .int 0, y0])), (ll, .inr (6, [x1, .int 0, y1])), (el, .inr (6, [x2, .int 0, y2])), (lg, .inr (5, [z0, .int 0, .int 0])), (ho, .inl (cL, 1, .inr (.inl (f0))))] sz) := by
  refine va_MetW (cc := method_3_code) (maxL := 5) (ret := (some .int)) (hh := [(0, 10, 13, 13), (0, 10, 17, 15)]) (by decide) rfl ?_
  intro p e s m args below meth c s₁ B hml hv
  obtain ⟨rfl, hsz, hP, hK, hD0, hE⟩ := hv
  have hx := B.exec
  have hb := B.bytes
  have hr := B.returns
  have hts : ∀ w ∈ tw_G, w.before _ s = true := fun w h => atoms_spec (ws := w_law_point) B.pre w (List.mem_cons_of_mem _ h)
  have hown : s.vm.findClass "LandBookLaw" = some m.cls := findClass_of_methodNamed B.named
  have hlocks := B.notSynchronized
  subst hsz
  have hN := tw_nst hP
  have hD := hD0.self (sz := s.heap.size)
  generalize hAe : va_A [(h, .inr (0, [.ref ro, .ref ch, v2, v3, .ref rg, .ref lg, .int 0, .int 0])), (ro, .inr (1, [.ref ra, .int 0])), (ra, .inl (cI, 32, .inl (f))), (ch, .inr (1, [ca, .int 0])), (rg, .inr (4, [.ref dl, .ref ll, .ref el, w3, w4])), (dl, .inr (6, [x0, .int 0, y0])), (ll, .inr (6, [x1, .int 0, y1])), (el, .inr (6, [x2, .int 0, y2])), (lg, .inr (5, [z0, .int 0, .int 0])), (ho, .inl (cL, 1, .inr (.inl (f0))))] s.heap.size = A at hD hN ⊢
  have hA : ∀ q : Nat, s.heap.size ≤ q → A q := fun q h => by rw [← hAe]; exact Or.inr h
  have hS : va_S A s.heap s.heap [] := va_S.rf
  have hP : va_P (dC, dI) classes [(h, .inr (0, [.ref ro, .ref ch, v2, v3, .ref rg, .ref lg, .int 0, .int 0])), (ro, .inr (1, [.ref ra, .int 0])), (ra, .inl (cI, 32, .inl (f))), (ch, .inr (1, [ca, .int 0])), (rg, .inr (4, [.ref dl, .ref ll, .ref el, w3, w4])), (dl, .inr (6, [x0, .int 0, y0])), (ll, .inr (6, [x1, .int 0, y1])), (el, .inr (6, [x2, .int 0, y2])), (lg, .inr (5, [z0, .int 0, .int 0])), (ho, .inl (cL, 1, .inr (.inl (f0))))] s.heap := hP
  have hl := lv_entry ([.ref h, .int a0, .int a1, .ref ho]) (n := 5) (Nat.le_of_ble_eq_true rfl)
  rw [lg_entry_eq]
  generalize (lg_sl ([.ref h, .int a0, .int a1, .ref ho]) ++ List.replicate (5 - (lg_sl ([.ref h, .int a0, .int a1, .ref ho])).length) Slot.unset).toArray = ls at hl ⊢
  have hl : lv_has ls 5 [(0, .ref h), (1, .int a0), (2, .int a1), (3, .ref ho)] := hl
  have htab := tw_table B (atoms_spec (ws := w_law_point) B.pre _ List.mem_cons_self)
  refine lv_aload_n hx hb d_law_point_0 rfl (lv_at hl 3 rfl) ?_
  refine lv_iconst (v := 0) hx hb d_law_point_1 (by decide) ?_
  refine lv_aload_n hx hb d_law_point_2 rfl (lv_at hl 0 rfl) ?_
  refine lv_iload_n hx hb d_law_point_3 rfl (lv_at hl 1 rfl) ?_
  refine lv_iload_n hx hb d_law_point_4 rfl (lv_at hl 2 rfl) ?_
  have hPc := hP.sub (ws' := [(h, .inr (0, [.ref ro, .ref ch, v2, v3, .ref rg, .ref lg, .int 0, .int 0])), (ro, .inr (1, [.ref ra, .int 0])), (ra, .inl (cI, 32, .inl (f)))]) [0, 1, 2] rfl
  have hDc := hD.sub (ws' := [(h, .inr (0, [.ref ro, .ref ch, v2, v3, .ref rg, .ref lg, .int 0, .int 0])), (ro, .inr (1, [.ref ra, .int 0])), (ra, .inl (cI, 32, .inl (f)))]) [0, 1, 2] (by decide) rfl
  have hKc := hK.sub (tys' := [(cI, .int)]) [0] rfl
  have hFc := va_free (wc := [(h, .inr (0, [.ref ro, .ref ch, v2, v3, .ref rg, .ref lg, .int 0, .int 0])), (ro, .inr (1, [.ref ra, .int 0])), (ra, .inl (cI, 32, .inl (f)))]) hD hS hA [0, 1, 2] rfl
  refine tw_call (tw_runV (As := [.int a0, .int a1]) (rest := [.int 0, .ref ho]) ⟨hx, hb, hml, hown, hts⟩ (c_point_fresh l hfl dC dI h s.heap.size ro ra cI f (.ref ch) v2 v3 (.ref rg) (.ref lg) (.int 0) (.int 0) a0 a1) (cwV 2 hts (tw_gV tk_356 tk_357 tk_358 tk_213 tk_359) rfl rfl rfl (by decide +kernel) ⟨Nat.le_of_ble_eq_true rfl, Nat.le_of_ble_eq_true rfl⟩) (tw_v4E (va_recv (q0 := 0) hK hP rfl rfl) hPc hKc hDc hE (tw_kst hN hS)) rfl rfl hl.1 rfl (lv_room (Nat.le_of_ble_eq_true rfl)) d_law_point_5 ⟨by show 1 ≤ 1; decide, by show 6 ≤ 6; decide⟩) hS (fun q _ h => hFc q h) hFc (fun _ _ _ h => h.2) (fun v st t H1 locs g0 ht hvm hq hz1 hk1 hS => ?_) (fun x st t H1 locs g0 ht hvm hq hz1 hk1 hS => ?_)
  · obtain ⟨⟨hok, rfl⟩, -⟩ := hq
    obtain ⟨hP, hD⟩ := va_join (wr := [(ch, .inr (1, [ca, .int 0])), (rg, .inr (4, [.ref dl, .ref ll, .ref el, w3, w4])), (dl, .inr (6, [x0, .int 0, y0])), (ll, .inr (6, [x1, .int 0, y1])), (el, .inr (6, [x2, .int 0, y2])), (lg, .inr (5, [z0, .int 0, .int 0])), (ho, .inl (cL, 1, .inr (.inl (f0))))]) (w1 := []) hP hD [0, 1, 2] [3, 4, 5, 6, 7, 8, 9] rfl rfl (by decide) (by decide) hk1 hFc tw_Pn tw_Dn
    have hP : va_P (dC, dI) classes [(ch, .inr (1, [ca, .int 0])), (rg, .inr (4, [.ref dl, .ref ll, .ref el, w3, w4])), (dl, .inr (6, [x0, .int 0, y0])), (ll, .inr (6, [x1, .int 0, y1])), (el, .inr (6, [x2, .int 0, y2])), (lg, .inr (5, [z0, .int 0, .int 0])), (ho, .inl (cL, 1, .inr (.inl (f0))))] H1 := hP
    have hD : va_D A [(ch, .inr (1, [ca, .int 0])), (rg, .inr (4, [.ref dl, .ref ll, .ref el, w3, w4])), (dl, .inr (6, [x0, .int 0, y0])), (ll, .inr (6, [x1, .int 0, y1])), (el, .inr (6, [x2, .int 0, y2])), (lg, .inr (5, [z0, .int 0, .int 0])), (ho, .inl (cL, 1, .inr (.inl (f0))))] := hD
    refine W.eq (g2 := F0 m 8 ls [.int 1, .int 0, .ref ho]) rfl ?_
    refine lv_i2l (v := Int32.toInt64 (1)) hx hb d_law_point_8 rfl ?_
    refine va_last hx hb hK hP hD hS 6 1 rfl rfl (by unfold vp_in; decide) d_law_point_9 (fun H locs hP hD hS => ?_)
    have hP : va_P (dC, dI) classes [(ch, .inr (1, [ca, .int 0])), (rg, .inr (4, [.ref dl, .ref ll, .ref el, w3, w4])), (dl, .inr (6, [x0, .int 0, y0])), (ll, .inr (6, [x1, .int 0, y1])), (el, .inr (6, [x2, .int 0, y2])), (lg, .inr (5, [z0, .int 0, .int 0])), (ho, .inl (cL, 1, .inr (.inl (vp_updL (f0) (Int32.toNatClampNeg (0)) ((Int32.toInt64 (1)))))))] H := hP
    have hD : va_D A [(ch, .inr (1, [ca, .int 0])), (rg, .inr (4, [.ref dl, .ref ll, .ref el, w3, w4])), (dl, .inr (6, [x0, .int 0, y0])), (ll, .inr (6, [x1, .int 0, y1])), (el, .inr (6, [x2, .int 0, y2])), (lg, .inr (5, [z0, .int 0, .int 0])), (ho, .inl (cL, 1, .inr (.inl (vp_updL (f0) (Int32.toNatClampNeg (0)) ((Int32.toInt64 (1)))))))] := hD
    refine lv_goto (tgt := 21) hx hb d_law_point_10 (by decide) ?_
    refine lv_iconst (v := 0) hx hb d_law_point_21 (by decide) ?_
    have hP9 := hP.sub (ws' := [(ho, .inl (cL, 1, .inr (.inl (vp_updL (f0) (Int32.toNatClampNeg (0)) ((Int32.toInt64 (1)))))))]) [6] rfl
    have hD9 := hD.sub (ws' := [(ho, .inl (cL, 1, .inr (.inl (vp_updL (f0) (Int32.toNatClampNeg (0)) ((Int32.toInt64 (1)))))))]) [6] (by decide) rfl
    have hK9 := hK.sub (tys' := [(cL, .long)]) [1] rfl
    refine W.widen (k := 1) (n := 6) (by decide) (by decide) ?_
    exact W.iret (v := 0) hx hb hr (fun t ht hW => ⟨⟨0, vp_updL (f0) (Int32.toNatClampNeg (0)) ((Int32.toInt64 (1))), rfl, Or.inl ⟨hok, rfl, rfl⟩, by rw [ht]; exact hP9, va_K.moved hW.alike hK9, hD9⟩, hS.F ht⟩) hS.2.2 d_law_point_22
  · obtain ⟨⟨cls, ⟨hok, rfl⟩, hx9⟩, -⟩ := hq
    obtain ⟨hP, hD⟩ := va_join (wr := [(ch, .inr (1, [ca, .int 0])), (rg, .inr (4, [.ref dl, .ref ll, .ref el, w3, w4])), (dl, .inr (6, [x0, .int 0, y0])), (ll, .inr (6, [x1, .int 0, y1])), (el, .inr (6, [x2, .int 0, y2])), (lg, .inr (5, [z0, .int 0, .int 0])), (ho, .inl (cL, 1, .inr (.inl (f0))))]) (w1 := []) hP hD [0, 1, 2] [3, 4, 5, 6, 7, 8, 9] rfl rfl (by decide) (by decide) hk1 hFc tw_Pn tw_Dn
    have hP : va_P (dC, dI) classes [(ch, .inr (1, [ca, .int 0])), (rg, .inr (4, [.ref dl, .ref ll, .ref el, w3, w4])), (dl, .inr (6, [x0, .int 0, y0])), (ll, .inr (6, [x1, .int 0, y1])), (el, .inr (6, [x2, .int 0, y2])), (lg, .inr (5, [z0, .int 0, .int 0])), (ho, .inl (cL, 1, .inr (.inl (f0))))] H1 := hP
    have hD : va_D A [(ch, .inr (1, [ca, .int 0])), (rg, .inr (4, [.ref dl, .ref ll, .ref el, w3, w4])), (dl, .inr (6, [x0, .int 0, y0])), (ll, .inr (6, [x1, .int 0, y1])), (el, .inr (6, [x2, .int 0, y2])), (lg, .inr (5, [z0, .int 0, .int 0])), (ho, .inl (cL, 1, .inr (.inl (f0))))] := hD
    refine tw_catch (pre := []) (post := [(0, 10, 17, 15)]) (sp := 0) (ep := 10) (hp := 13) (ct := 13) hown htab rfl (tw_excTo hx9 ht hvm) ⟨by decide, by decide⟩ (by decide) (hts _ tk_360) (fun y hy => by cases hy) ?_
    refine lv_astore (lv' := [(4, .ref x), (0, .ref h), (1, .int a0), (2, .int a1), (3, .ref ho)]) hx hb d_law_point_13 hl (by decide) rfl (fun ls hl => ?_)
    refine lv_iconst (v := 1) hx hb d_law_point_15 (by decide) ?_
    have hP9 := hP.sub (ws' := [(ho, .inl (cL, 1, .inr (.inl (f0))))]) [6] rfl
    have hD9 := hD.sub (ws' := [(ho, .inl (cL, 1, .inr (.inl (f0))))]) [6] (by decide) rfl
    have hK9 := hK.sub (tys' := [(cL, .long)]) [1] rfl
    refine W.widen (k := 1) (n := 6) (by decide) (by decide) ?_
    exact W.iret (v := 1) hx hb hr (fun t ht hW => ⟨⟨1, f0, rfl, Or.inr ⟨hok, rfl⟩, by rw [ht]; exact hP9, va_K.moved hW.alike hK9, hD9⟩, hS.F ht⟩) hS.2.2 d_law_point_16
