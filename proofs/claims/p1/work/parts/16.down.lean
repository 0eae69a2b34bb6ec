theorem tk_210 : (Jvm.Cond.methodLink "LandBook" (99 : Nat) ({ cls := "LandBook", name := "checkUp", desc := "()V" } : Jvm.MethodName)) ∈ tw_G := tw_in (List.mem_of_getElem? (i := 544) (by decide +kernel)) rfl
theorem tk_211 : (Jvm.Cond.instanceMethod ({ cls := "LandBook", name := "checkUp", desc := "()V" } : Jvm.MethodName)) ∈ tw_G := tw_in (List.mem_of_getElem? (i := 546) (by decide +kernel)) rfl
theorem tk_212 : (Jvm.Cond.selects "LandBook" ⟨"LandBook", "checkUp", "()V"⟩ ⟨"LandBook", "checkUp", "()V"⟩) ∈ tw_G := tw_in (List.mem_of_getElem? (i := 5) (by decide +kernel)) rfl
theorem tk_213 : (Jvm.Cond.initialized "LandBook") ∈ tw_G := tw_in (List.mem_of_getElem? (i := 60) (by decide +kernel)) rfl
theorem tk_214 : (Jvm.Cond.code ({ cls := "LandBook", name := "checkUp", desc := "()V" } : Jvm.MethodName) prog_1_method_24_code (1 : Nat) (Option.none : Option Jvm.ClassFile.FieldType)) ∈ tw_G := tw_in (List.mem_of_getElem? (i := 547) (by decide +kernel)) rfl
abbrev y_merge : MethodName := ⟨"LandBook", "merge", "(III)I"⟩
abbrev w_merge : List Cond := Cond.code y_merge prog_1_method_5_code 8 (some .int) :: tw_G
theorem d_merge_0 : decode prog_1_method_5_code 0 = .ok (.aload_n 0, 1) := by decide +kernel
theorem d_merge_1 : decode prog_1_method_5_code 1 = .ok (.invokevirtual 99, 3) := by decide +kernel
set_option maxHeartbeats 4000000 in
set_option maxRecDepth 100000 in
theorem c_merge_down (l : Launch) (hfl : l.flags = pinnedFlags ++ [noTraceFlag]) (dC : Nat → ClassId) (dI : Nat → Nat → Nat) (h rg q : Nat) (v0 v1 v2 v3 v5 v7 w0 w2 w3 w4 el mo : Value) (dn k : Int32) (a0 a1 a2 : Int32) (hup : ¬ (dn = 0 ∧ ¬ k = 0)) : tw_Met l y_merge w_merge ({ frames := 7, cells := 1, slots := 6, locals := 102 }) (tw_P2E (dC, dI) classes [(h, .inr (0, [v0, v1, v2, v3, .ref rg, v5, .int dn, v7])), (rg, .inr (4, [w0, .ref q, w2, w3, w4])), (q, .inr (6, [el, .int k, mo]))] [] [.ref h, .int a0, .int a1, .int a2]) (tw_Qk False "java/lang/IllegalStateException") 1 6 (fun _ => False) := by
  refine tw_ofW (cc := prog_1_method_5_code) (maxL := 8) (ret := (some .int)) (by decide) rfl ?_
  intro p e s m args below meth c s₁ B hml hno hv
  obtain ⟨rfl, hP, hK, hE⟩ := hv
  have hx := B.exec
  have hb := B.bytes
  have hr := B.returns
  have hts : ∀ w ∈ tw_G, w.before _ s = true := fun w h => atoms_spec (ws := w_merge) B.pre w (List.mem_cons_of_mem _ h)
  have hown : s.vm.findClass "LandBook" = some m.cls := findClass_of_methodNamed B.named
  have hlocks := B.notSynchronized
  have hP : va_P (dC, dI) classes [(h, .inr (0, [v0, v1, v2, v3, .ref rg, v5, .int dn, v7])), (rg, .inr (4, [w0, .ref q, w2, w3, w4])), (q, .inr (6, [el, .int k, mo]))] s.heap := hP
  have hl := lv_entry ([.ref h, .int a0, .int a1, .int a2]) (n := 8) (Nat.le_of_ble_eq_true rfl)
  rw [lg_entry_eq]
  generalize (lg_sl ([.ref h, .int a0, .int a1, .int a2]) ++ List.replicate (8 - (lg_sl ([.ref h, .int a0, .int a1, .int a2])).length) Slot.unset).toArray = ls at hl ⊢
  have hl : lv_has ls 8 [(0, .ref h), (1, .int a0), (2, .int a1), (3, .int a2)] := hl
  refine lv_aload_n hx hb d_merge_0 rfl (lv_at hl 0 rfl) ?_
  refine tw_chk (tw_runV (As := []) (rest := []) ⟨hx, hb, hml, hown, hts⟩ (c_checkUp l hfl dC dI h rg q v0 v1 v2 v3 v5 v7 w0 w2 w3 w4 el mo dn k) (cwV 0 hts (tw_gV tk_210 tk_211 tk_212 tk_213 tk_214) rfl rfl rfl (by decide +kernel) ⟨Nat.le_of_ble_eq_true rfl, Nat.le_of_ble_eq_true rfl⟩) (tw_v2E (va_recv (q0 := 0) hK hP rfl rfl) (hP.sub (ws' := [(h, .inr (0, [v0, v1, v2, v3, .ref rg, v5, .int dn, v7])), (rg, .inr (4, [w0, .ref q, w2, w3, w4])), (q, .inr (6, [el, .int k, mo]))]) [0, 1, 2] rfl) (hK.sub (tys' := []) [] rfl) hE (fun _ _ h _ => h)) rfl rfl hl.1 rfl (lv_room (Nat.le_of_ble_eq_true rfl)) d_merge_1 ⟨by show 1 ≤ 1; decide, by show 6 ≤ 6; decide⟩) (fun o1 => ?_) (fun o1 x2 J3 j1 j2 j3 j4 => ?_)
  · exact absurd o1 hup
  · exact tw_out (tw_none hno _) (fun t ht hW => ⟨id, j1, by rw [ht]; exact j2, fun z hz => by rw [ht]; exact j3 z hz, tw_excOf j4 ht hW⟩) (fun _ h => by cases h) hlocks
abbrev y_transfer : MethodName := ⟨"LandBook", "transfer", "(IIIIII)I"⟩
abbrev w_transfer : List Cond := Cond.code y_transfer prog_1_method_6_code 11 (some .int) :: tw_G
theorem d_transfer_0 : decode prog_1_method_6_code 0 = .ok (.aload_n 0, 1) := by decide +kernel
theorem d_transfer_1 : decode prog_1_method_6_code 1 = .ok (.invokevirtual 99, 3) := by decide +kernel
set_option maxHeartbeats 4000000 in
set_option maxRecDepth 100000 in
theorem c_transfer_down (l : Launch) (hfl : l.flags = pinnedFlags ++ [noTraceFlag]) (dC : Nat → ClassId) (dI : Nat → Nat → Nat) (h rg q : Nat) (v0 v1 v2 v3 v5 v7 w0 w2 w3 w4 el mo : Value) (dn k : Int32) (a0 a1 a2 a3 a4 a5 : Int32) (hup : ¬ (dn = 0 ∧ ¬ k = 0)) : tw_Met l y_transfer w_transfer ({ frames := 7, cells := 1, slots := 6, locals := 102 }) (tw_P2E (dC, dI) classes [(h, .inr (0, [v0, v1, v2, v3, .ref rg, v5, .int dn, v7])), (rg, .inr (4, [w0, .ref q, w2, w3, w4])), (q, .inr (6, [el, .int k, mo]))] [] [.ref h, .int a0, .int a1, .int a2, .int a3, .int a4, .int a5]) (tw_Qk False "java/lang/IllegalStateException") 1 6 (fun _ => False) := by
  refine tw_ofW (cc := prog_1_method_6_code) (maxL := 11) (ret := (some .int)) (by decide) rfl ?_
  intro p e s m args below meth c s₁ B hml hno hv
  obtain ⟨rfl, hP, hK, hE⟩ := hv
  have hx := B.exec
  have hb := B.bytes
  have hr := B.returns
  have hts : ∀ w ∈ tw_G, w.before _ s = true := fun w h => atoms_spec (ws := w_transfer) B.pre w (List.mem_cons_of_mem _ h)
  have hown : s.vm.findClass "LandBook" = some m.cls := findClass_of_methodNamed B.named
  have hlocks := B.notSynchronized
  have hP : va_P (dC, dI) classes [(h, .inr (0, [v0, v1, v2, v3, .ref rg, v5, .int dn, v7])), (rg, .inr (4, [w0, .ref q, w2, w3, w4])), (q, .inr (6, [el, .int k, mo]))] s.heap := hP
  have hl := lv_entry ([.ref h, .int a0, .int a1, .int a2, .int a3, .int a4, .int a5]) (n := 11) (Nat.le_of_ble_eq_true rfl)
  rw [lg_entry_eq]
  generalize (lg_sl ([.ref h, .int a0, .int a1, .int a2, .int a3, .int a4, .int a5]) ++ List.replicate (11 - (lg_sl ([.ref h, .int a0, .int a1, .int a2, .int a3, .int a4, .int a5])).length) Slot.unset).toArray = ls at hl ⊢
  have hl : lv_has ls 11 [(0, .ref h), (1, .int a0), (2, .int a1), (3, .int a2), (4, .int a3), (5, .int a4), (6, .int a5)] := hl
  refine lv_aload_n hx hb d_transfer_0 rfl (lv_at hl 0 rfl) ?_
  refine tw_chk (tw_runV (As := []) (rest := []) ⟨hx, hb, hml, hown, hts⟩ (c_checkUp l hfl dC dI h rg q v0 v1 v2 v3 v5 v7 w0 w2 w3 w4 el mo dn k) (cwV 0 hts (tw_gV tk_210 tk_211 tk_212 tk_213 tk_214) rfl rfl rfl (by decide +kernel) ⟨Nat.le_of_ble_eq_true rfl, Nat.le_of_ble_eq_true rfl⟩) (tw_v2E (va_recv (q0 := 0) hK hP rfl rfl) (hP.sub (ws' := [(h, .inr (0, [v0, v1, v2, v3, .ref rg, v5, .int dn, v7])), (rg, .inr (4, [w0, .ref q, w2, w3, w4])), (q, .inr (6, [el, .int k, mo]))]) [0, 1, 2] rfl) (hK.sub (tys' := []) [] rfl) hE (fun _ _ h _ => h)) rfl rfl hl.1 rfl (lv_room (Nat.le_of_ble_eq_true rfl)) d_transfer_1 ⟨by show 1 ≤ 1; decide, by show 6 ≤ 6; decide⟩) (fun o1 => ?_) (fun o1 x2 J3 j1 j2 j3 j4 => ?_)
  · exact absurd o1 hup
  · exact tw_out (tw_none hno _) (fun t ht hW => ⟨id, j1, by rw [ht]; exact j2, fun z hz => by rw [ht]; exact j3 z hz, tw_excOf j4 ht hW⟩) (fun _ h => by cases h) hlocks
abbrev y_ease : MethodName := ⟨"LandBook", "ease", "(III)I"⟩
abbrev w_ease : List Cond := Cond.code y_ease prog_1_method_7_code 7 (some .int) :: tw_G
theorem d_ease_0 : decode prog_1_method_7_code 0 = .ok (.aload_n 0, 1) := by decide +kernel
theorem d_ease_1 : decode prog_1_method_7_code 1 = .ok (.invokevirtual 99, 3) := by decide +kernel
set_option maxHeartbeats 4000000 in
set_option maxRecDepth 100000 in
theorem c_ease_down (l : Launch) (hfl : l.flags = pinnedFlags ++ [noTraceFlag]) (dC : Nat → ClassId) (dI : Nat → Nat → Nat) (h rg q : Nat) (v0 v1 v2 v3 v5 v7 w0 w2 w3 w4 el mo : Value) (dn k : Int32) (a0 a1 a2 : Int32) (hup : ¬ (dn = 0 ∧ ¬ k = 0)) : tw_Met l y_ease w_ease ({ frames := 7, cells := 1, slots := 6, locals := 102 }) (tw_P2E (dC, dI) classes [(h, .inr (0, [v0, v1, v2, v3, .ref rg, v5, .int dn, v7])), (rg, .inr (4, [w0, .ref q, w2, w3, w4])), (q, .inr (6, [el, .int k, mo]))] [] [.ref h, .int a0, .int a1, .int a2]) (tw_Qk False "java/lang/IllegalStateException") 1 6 (fun _ => False) := by
  refine tw_ofW (cc := prog_1_method_7_code) (maxL := 7) (ret := (some .int)) (by decide) rfl ?_
  intro p e s m args below meth c s₁ B hml hno hv
  obtain ⟨rfl, hP, hK, hE⟩ := hv
  have hx := B.exec
  have hb := B.bytes
  have hr := B.returns
  have hts : ∀ w ∈ tw_G, w.before _ s = true := fun w h => atoms_spec (ws := w_ease) B.pre w (List.mem_cons_of_mem _ h)
  have hown : s.vm.findClass "LandBook" = some m.cls := findClass_of_methodNamed B.named
  have hlocks := B.notSynchronized
  have hP : va_P (dC, dI) classes [(h, .inr (0, [v0, v1, v2, v3, .ref rg, v5, .int dn, v7])), (rg, .inr (4, [w0, .ref q, w2, w3, w4])), (q, .inr (6, [el, .int k, mo]))] s.heap := hP
  have hl := lv_entry ([.ref h, .int a0, .int a1, .int a2]) (n := 7) (Nat.le_of_ble_eq_true rfl)
  rw [lg_entry_eq]
  generalize (lg_sl ([.ref h, .int a0, .int a1, .int a2]) ++ List.replicate (7 - (lg_sl ([.ref h, .int a0, .int a1, .int a2])).length) Slot.unset).toArray = ls at hl ⊢
  have hl : lv_has ls 7 [(0, .ref h), (1, .int a0), (2, .int a1), (3, .int a2)] := hl
  refine lv_aload_n hx hb d_ease_0 rfl (lv_at hl 0 rfl) ?_
  refine tw_chk (tw_runV (As := []) (rest := []) ⟨hx, hb, hml, hown, hts⟩ (c_checkUp l hfl dC dI h rg q v0 v1 v2 v3 v5 v7 w0 w2 w3 w4 el mo dn k) (cwV 0 hts (tw_gV tk_210 tk_211 tk_212 tk_213 tk_214) rfl rfl rfl (by decide +kernel) ⟨Nat.le_of_ble_eq_true rfl, Nat.le_of_ble_eq_true rfl⟩) (tw_v2E (va_recv (q0 := 0) hK hP rfl rfl) (hP.sub (ws' := [(h, .inr (0, [v0, v1, v2, v3, .ref rg, v5, .int dn, v7])), (rg, .inr (4, [w0, .ref q, w2, w3, w4])), (q, .inr (6, [el, .int k, mo]))]) [0, 1, 2] rfl) (hK.sub (tys' := []) [] rfl) hE (fun _ _ h _ => h)) rfl rfl hl.1 rfl (lv_room (Nat.le_of_ble_eq_true rfl)) d_ease_1 ⟨by show 1 ≤ 1; decide, by show 6 ≤ 6; decide⟩) (fun o1 => ?_) (fun o1 x2 J3 j1 j2 j3 j4 => ?_)
  · exact absurd o1 hup
  · exact tw_out (tw_none hno _) (fun t ht hW => ⟨id, j1, by rw [ht]; exact j2, fun z hz => by rw [ht]; exact j3 z hz, tw_excOf j4 ht hW⟩) (fun _ h => by cases h) hlocks
abbrev y_release : MethodName := ⟨"LandBook", "release", "(II)I"⟩
abbrev w_release : List Cond := Cond.code y_release prog_1_method_8_code 5 (some .int) :: tw_G
theorem d_release_0 : decode prog_1_method_8_code 0 = .ok (.aload_n 0, 1) := by decide +kernel
theorem d_release_1 : decode prog_1_method_8_code 1 = .ok (.invokevirtual 99, 3) := by decide +kernel
set_option maxHeartbeats 4000000 in
set_option maxRecDepth 100000 in
theorem c_release_down (l : Launch) (hfl : l.flags = pinnedFlags ++ [noTraceFlag]) (dC : Nat → ClassId) (dI : Nat → Nat → Nat) (h rg q : Nat) (v0 v1 v2 v3 v5 v7 w0 w2 w3 w4 el mo : Value) (dn k : Int32) (a0 a1 : Int32) (hup : ¬ (dn = 0 ∧ ¬ k = 0)) : tw_Met l y_release w_release ({ frames := 7, cells := 1, slots := 6, locals := 102 }) (tw_P2E (dC, dI) classes [(h, .inr (0, [v0, v1, v2, v3, .ref rg, v5, .int dn, v7])), (rg, .inr (4, [w0, .ref q, w2, w3, w4])), (q, .inr (6, [el, .int k, mo]))] [] [.ref h, .int a0, .int a1]) (tw_Qk False "java/lang/IllegalStateException") 1 6 (fun _ => False) := by
  refine tw_ofW (cc := prog_1_method_8_code) (maxL := 5) (ret := (some .int)) (by decide) rfl ?_
  intro p e s m args below meth c s₁ B hml hno hv
  obtain ⟨rfl, hP, hK, hE⟩ := hv
  have hx := B.exec
  have hb := B.bytes
  have hr := B.returns
  have hts : ∀ w ∈ tw_G, w.before _ s = true := fun w h => atoms_spec (ws := w_release) B.pre w (List.mem_cons_of_mem _ h)
  have hown : s.vm.findClass "LandBook" = some m.cls := findClass_of_methodNamed B.named
  have hlocks := B.notSynchronized
  have hP : va_P (dC, dI) classes [(h, .inr (0, [v0, v1, v2, v3, .ref rg, v5, .int dn, v7])), (rg, .inr (4, [w0, .ref q, w2, w3, w4])), (q, .inr (6, [el, .int k, mo]))] s.heap := hP
  have hl := lv_entry ([.ref h, .int a0, .int a1]) (n := 5) (Nat.le_of_ble_eq_true rfl)
  rw [lg_entry_eq]
  generalize (lg_sl ([.ref h, .int a0, .int a1]) ++ List.replicate (5 - (lg_sl ([.ref h, .int a0, .int a1])).length) Slot.unset).toArray = ls at hl ⊢
  have hl : lv_has ls 5 [(0, .ref h), (1, .int a0), (2, .int a1)] := hl
  refine lv_aload_n hx hb d_release_0 rfl (lv_at hl 0 rfl) ?_
  refine tw_chk (tw_runV (As := []) (rest := []) ⟨hx, hb, hml, hown, hts⟩ (c_checkUp l hfl dC dI h rg q v0 v1 v2 v3 v5 v7 w0 w2 w3 w4 el mo dn k) (cwV 0 hts (tw_gV tk_210 tk_211 tk_212 tk_213 tk_214) rfl rfl rfl (by decide +kernel) ⟨Nat.le_of_ble_eq_true rfl, Nat.le_of_ble_eq_true rfl⟩) (tw_v2E (va_recv (q0 := 0) hK hP rfl rfl) (hP.sub (ws' := [(h, .inr (0, [v0, v1, v2, v3, .ref rg, v5, .int dn, v7])), (rg, .inr (4, [w0, .ref q, w2, w3, w4])), (q, .inr (6, [el, .int k, mo]))]) [0, 1, 2] rfl) (hK.sub (tys' := []) [] rfl) hE (fun _ _ h _ => h)) rfl rfl hl.1 rfl (lv_room (Nat.le_of_ble_eq_true rfl)) d_release_1 ⟨by show 1 ≤ 1; decide, by show 6 ≤ 6; decide⟩) (fun o1 => ?_) (fun o1 x2 J3 j1 j2 j3 j4 => ?_)
  · exact absurd o1 hup
  · exact tw_out (tw_none hno _) (fun t ht hW => ⟨id, j1, by rw [ht]; exact j2, fun z hz => by rw [ht]; exact j3 z hz, tw_excOf j4 ht hW⟩) (fun _ h => by cases h) hlocks
abbrev y_lotAt : MethodName := ⟨"LandBook", "lotAt", "(IIII)I"⟩
abbrev w_lotAt : List Cond := Cond.code y_lotAt prog_1_method_9_code 6 (some .int) :: tw_G
theorem d_lotAt_0 : decode prog_1_method_9_code 0 = .ok (.aload_n 0, 1) := by decide +kernel
theorem d_lotAt_1 : decode prog_1_method_9_code 1 = .ok (.invokevirtual 99, 3) := by decide +kernel
set_option maxHeartbeats 4000000 in
set_option maxRecDepth 100000 in
theorem c_lotAt_down (l : Launch) (hfl : l.flags = pinnedFlags ++ [noTraceFlag]) (dC : Nat → ClassId) (dI : Nat → Nat → Nat) (h rg q : Nat) (v0 v1 v2 v3 v5 v7 w0 w2 w3 w4 el mo : Value) (dn k : Int32) (a0 a1 a2 a3 : Int32) (hup : ¬ (dn = 0 ∧ ¬ k = 0)) : tw_Met l y_lotAt w_lotAt ({ frames := 7, cells := 1, slots := 6, locals := 102 }) (tw_P2E (dC, dI) classes [(h, .inr (0, [v0, v1, v2, v3, .ref rg, v5, .int dn, v7])), (rg, .inr (4, [w0, .ref q, w2, w3, w4])), (q, .inr (6, [el, .int k, mo]))] [] [.ref h, .int a0, .int a1, .int a2, .int a3]) (tw_Qk False "java/lang/IllegalStateException") 1 6 (fun _ => False) := by
  refine tw_ofW (cc := prog_1_method_9_code) (maxL := 6) (ret := (some .int)) (by decide) rfl ?_
  intro p e s m args below meth c s₁ B hml hno hv
  obtain ⟨rfl, hP, hK, hE⟩ := hv
  have hx := B.exec
  have hb := B.bytes
  have hr := B.returns
  have hts : ∀ w ∈ tw_G, w.before _ s = true := fun w h => atoms_spec (ws := w_lotAt) B.pre w (List.mem_cons_of_mem _ h)
  have hown : s.vm.findClass "LandBook" = some m.cls := findClass_of_methodNamed B.named
  have hlocks := B.notSynchronized
  have hP : va_P (dC, dI) classes [(h, .inr (0, [v0, v1, v2, v3, .ref rg, v5, .int dn, v7])), (rg, .inr (4, [w0, .ref q, w2, w3, w4])), (q, .inr (6, [el, .int k, mo]))] s.heap := hP
  have hl := lv_entry ([.ref h, .int a0, .int a1, .int a2, .int a3]) (n := 6) (Nat.le_of_ble_eq_true rfl)
  rw [lg_entry_eq]
  generalize (lg_sl ([.ref h, .int a0, .int a1, .int a2, .int a3]) ++ List.replicate (6 - (lg_sl ([.ref h, .int a0, .int a1, .int a2, .int a3])).length) Slot.unset).toArray = ls at hl ⊢
  have hl : lv_has ls 6 [(0, .ref h), (1, .int a0), (2, .int a1), (3, .int a2), (4, .int a3)] := hl
  refine lv_aload_n hx hb d_lotAt_0 rfl (lv_at hl 0 rfl) ?_
  refine tw_chk (tw_runV (As := []) (rest := []) ⟨hx, hb, hml, hown, hts⟩ (c_checkUp l hfl dC dI h rg q v0 v1 v2 v3 v5 v7 w0 w2 w3 w4 el mo dn k) (cwV 0 hts (tw_gV tk_210 tk_211 tk_212 tk_213 tk_214) rfl rfl rfl (by decide +kernel) ⟨Nat.le_of_ble_eq_true rfl, Nat.le_of_ble_eq_true rfl⟩) (tw_v2E (va_recv (q0 := 0) hK hP rfl rfl) (hP.sub (ws' := [(h, .inr (0, [v0, v1, v2, v3, .ref rg, v5, .int dn, v7])), (rg, .inr (4, [w0, .ref q, w2, w3, w4])), (q, .inr (6, [el, .int k, mo]))]) [0, 1, 2] rfl) (hK.sub (tys' := []) [] rfl) hE (fun _ _ h _ => h)) rfl rfl hl.1 rfl (lv_room (Nat.le_of_ble_eq_true rfl)) d_lotAt_1 ⟨by show 1 ≤ 1; decide, by show 6 ≤ 6; decide⟩) (fun o1 => ?_) (fun o1 x2 J3 j1 j2 j3 j4 => ?_)
  · exact absurd o1 hup
  · exact tw_out (tw_none hno _) (fun t ht hW => ⟨id, j1, by rw [ht]; exact j2, fun z hz => by rw [ht]; exact j3 z hz, tw_excOf j4 ht hW⟩) (fun _ h => by cases h) hlocks
abbrev y_area2 : MethodName := ⟨"LandBook", "area2", "(III)I"⟩
abbrev w_area2 : List Cond := Cond.code y_area2 prog_1_method_10_code 4 (some .int) :: tw_G
theorem d_area2_0 : decode prog_1_method_10_code 0 = .ok (.aload_n 0, 1) := by decide +kernel
theorem d_area2_1 : decode prog_1_method_10_code 1 = .ok (.invokevirtual 99, 3) := by decide +kernel
set_option maxHeartbeats 4000000 in
set_option maxRecDepth 100000 in
theorem c_area2_down (l : Launch) (hfl : l.flags = pinnedFlags ++ [noTraceFlag]) (dC : Nat → ClassId) (dI : Nat → Nat → Nat) (h rg q : Nat) (v0 v1 v2 v3 v5 v7 w0 w2 w3 w4 el mo : Value) (dn k : Int32) (a0 a1 a2 : Int32) (hup : ¬ (dn = 0 ∧ ¬ k = 0)) : tw_Met l y_area2 w_area2 ({ frames := 7, cells := 1, slots := 6, locals := 102 }) (tw_P2E (dC, dI) classes [(h, .inr (0, [v0, v1, v2, v3, .ref rg, v5, .int dn, v7])), (rg, .inr (4, [w0, .ref q, w2, w3, w4])), (q, .inr (6, [el, .int k, mo]))] [] [.ref h, .int a0, .int a1, .int a2]) (tw_Qk False "java/lang/IllegalStateException") 1 6 (fun _ => False) := by
  refine tw_ofW (cc := prog_1_method_10_code) (maxL := 4) (ret := (some .int)) (by decide) rfl ?_
  intro p e s m args below meth c s₁ B hml hno hv
  obtain ⟨rfl, hP, hK, hE⟩ := hv
  have hx := B.exec
  have hb := B.bytes
  have hr := B.returns
  have hts : ∀ w ∈ tw_G, w.before _ s = true := fun w h => atoms_spec (ws := w_area2) B.pre w (List.mem_cons_of_mem _ h)
  have hown : s.vm.findClass "LandBook" = some m.cls := findClass_of_methodNamed B.named
  have hlocks := B.notSynchronized
  have hP : va_P (dC, dI) classes [(h, .inr (0, [v0, v1, v2, v3, .ref rg, v5, .int dn, v7])), (rg, .inr (4, [w0, .ref q, w2, w3, w4])), (q, .inr (6, [el, .int k, mo]))] s.heap := hP
  have hl := lv_entry ([.ref h, .int a0, .int a1, .int a2]) (n := 4) (Nat.le_of_ble_eq_true rfl)
  rw [lg_entry_eq]
  generalize (lg_sl ([.ref h, .int a0, .int a1, .int a2]) ++ List.replicate (4 - (lg_sl ([.ref h, .int a0, .int a1, .int a2])).length) Slot.unset).toArray = ls at hl ⊢
  have hl : lv_has ls 4 [(0, .ref h), (1, .int a0), (2, .int a1), (3, .int a2)] := hl
  refine lv_aload_n hx hb d_area2_0 rfl (lv_at hl 0 rfl) ?_
  refine tw_chk (tw_runV (As := []) (rest := []) ⟨hx, hb, hml, hown, hts⟩ (c_checkUp l hfl dC dI h rg q v0 v1 v2 v3 v5 v7 w0 w2 w3 w4 el mo dn k) (cwV 0 hts (tw_gV tk_210 tk_211 tk_212 tk_213 tk_214) rfl rfl rfl (by decide +kernel) ⟨Nat.le_of_ble_eq_true rfl, Nat.le_of_ble_eq_true rfl⟩) (tw_v2E (va_recv (q0 := 0) hK hP rfl rfl) (hP.sub (ws' := [(h, .inr (0, [v0, v1, v2, v3, .ref rg, v5, .int dn, v7])), (rg, .inr (4, [w0, .ref q, w2, w3, w4])), (q, .inr (6, [el, .int k, mo]))]) [0, 1, 2] rfl) (hK.sub (tys' := []) [] rfl) hE (fun _ _ h _ => h)) rfl rfl hl.1 rfl (lv_room (Nat.le_of_ble_eq_true rfl)) d_area2_1 ⟨by show 1 ≤ 1; decide, by show 6 ≤ 6; decide⟩) (fun o1 => ?_) (fun o1 x2 J3 j1 j2 j3 j4 => ?_)
  · exact absurd o1 hup
  · exact tw_out (tw_none hno _) (fun t ht hW => ⟨id, j1, by rw [ht]; exact j2, fun z hz => by rw [ht]; exact j3 z hz, tw_excOf j4 ht hW⟩) (fun _ h => by cases h) hlocks
abbrev y_share : MethodName := ⟨"LandBook", "share", "(IIII)I"⟩
abbrev w_share : List Cond := Cond.code y_share prog_1_method_11_code 5 (some .int) :: tw_G
theorem d_share_0 : decode prog_1_method_11_code 0 = .ok (.aload_n 0, 1) := by decide +kernel
theorem d_share_1 : decode prog_1_method_11_code 1 = .ok (.invokevirtual 99, 3) := by decide +kernel
set_option maxHeartbeats 4000000 in
set_option maxRecDepth 100000 in
theorem c_share_down (l : Launch) (hfl : l.flags = pinnedFlags ++ [noTraceFlag]) (dC : Nat → ClassId) (dI : Nat → Nat → Nat) (h rg q : Nat) (v0 v1 v2 v3 v5 v7 w0 w2 w3 w4 el mo : Value) (dn k : Int32) (a0 a1 a2 a3 : Int32) (hup : ¬ (dn = 0 ∧ ¬ k = 0)) : tw_Met l y_share w_share ({ frames := 7, cells := 1, slots := 6, locals := 102 }) (tw_P2E (dC, dI) classes [(h, .inr (0, [v0, v1, v2, v3, .ref rg, v5, .int dn, v7])), (rg, .inr (4, [w0, .ref q, w2, w3, w4])), (q, .inr (6, [el, .int k, mo]))] [] [.ref h, .int a0, .int a1, .int a2, .int a3]) (tw_Qk False "java/lang/IllegalStateException") 1 6 (fun _ => False) := by
  refine tw_ofW (cc := prog_1_method_11_code) (maxL := 5) (ret := (some .int)) (by decide) rfl ?_
  intro p e s m args below meth c s₁ B hml hno hv
  obtain ⟨rfl, hP, hK, hE⟩ := hv
  have hx := B.exec
  have hb := B.bytes
  have hr := B.returns
  have hts : ∀ w ∈ tw_G, w.before _ s = true := fun w h => atoms_spec (ws := w_share) B.pre w (List.mem_cons_of_mem _ h)
  have hown : s.vm.findClass "LandBook" = some m.cls := findClass_of_methodNamed B.named
  have hlocks := B.notSynchronized
  have hP : va_P (dC, dI) classes [(h, .inr (0, [v0, v1, v2, v3, .ref rg, v5, .int dn, v7])), (rg, .inr (4, [w0, .ref q, w2, w3, w4])), (q, .inr (6, [el, .int k, mo]))] s.heap := hP
  have hl := lv_entry ([.ref h, .int a0, .int a1, .int a2, .int a3]) (n := 5) (Nat.le_of_ble_eq_true rfl)
  rw [lg_entry_eq]
  generalize (lg_sl ([.ref h, .int a0, .int a1, .int a2, .int a3]) ++ List.replicate (5 - (lg_sl ([.ref h, .int a0, .int a1, .int a2, .int a3])).length) Slot.unset).toArray = ls at hl ⊢
  have hl : lv_has ls 5 [(0, .ref h), (1, .int a0), (2, .int a1), (3, .int a2), (4, .int a3)] := hl
  refine lv_aload_n hx hb d_share_0 rfl (lv_at hl 0 rfl) ?_
  refine tw_chk (tw_runV (As := []) (rest := []) ⟨hx, hb, hml, hown, hts⟩ (c_checkUp l hfl dC dI h rg q v0 v1 v2 v3 v5 v7 w0 w2 w3 w4 el mo dn k) (cwV 0 hts (tw_gV tk_210 tk_211 tk_212 tk_213 tk_214) rfl rfl rfl (by decide +kernel) ⟨Nat.le_of_ble_eq_true rfl, Nat.le_of_ble_eq_true rfl⟩) (tw_v2E (va_recv (q0 := 0) hK hP rfl rfl) (hP.sub (ws' := [(h, .inr (0, [v0, v1, v2, v3, .ref rg, v5, .int dn, v7])), (rg, .inr (4, [w0, .ref q, w2, w3, w4])), (q, .inr (6, [el, .int k, mo]))]) [0, 1, 2] rfl) (hK.sub (tys' := []) [] rfl) hE (fun _ _ h _ => h)) rfl rfl hl.1 rfl (lv_room (Nat.le_of_ble_eq_true rfl)) d_share_1 ⟨by show 1 ≤ 1; decide, by show 6 ≤ 6; decide⟩) (fun o1 => ?_) (fun o1 x2 J3 j1 j2 j3 j4 => ?_)
  · exact absurd o1 hup
  · exact tw_out (tw_none hno _) (fun t ht hW => ⟨id, j1, by rw [ht]; exact j2, fun z hz => by rw [ht]; exact j3 z hz, tw_excOf j4 ht hW⟩) (fun _ h => by cases h) hlocks
abbrev y_next : MethodName := ⟨"LandBook", "next", "(IIII)I"⟩
abbrev w_next : List Cond := Cond.code y_next prog_1_method_12_code 7 (some .int) :: tw_G
theorem d_next_0 : decode prog_1_method_12_code 0 = .ok (.aload_n 0, 1) := by decide +kernel
theorem d_next_1 : decode prog_1_method_12_code 1 = .ok (.invokevirtual 99, 3) := by decide +kernel
set_option maxHeartbeats 4000000 in
set_option maxRecDepth 100000 in
theorem c_next_down (l : Launch) (hfl : l.flags = pinnedFlags ++ [noTraceFlag]) (dC : Nat → ClassId) (dI : Nat → Nat → Nat) (h rg q : Nat) (v0 v1 v2 v3 v5 v7 w0 w2 w3 w4 el mo : Value) (dn k : Int32) (a0 a1 a2 a3 : Int32) (hup : ¬ (dn = 0 ∧ ¬ k = 0)) : tw_Met l y_next w_next ({ frames := 7, cells := 1, slots := 6, locals := 102 }) (tw_P2E (dC, dI) classes [(h, .inr (0, [v0, v1, v2, v3, .ref rg, v5, .int dn, v7])), (rg, .inr (4, [w0, .ref q, w2, w3, w4])), (q, .inr (6, [el, .int k, mo]))] [] [.ref h, .int a0, .int a1, .int a2, .int a3]) (tw_Qk False "java/lang/IllegalStateException") 1 6 (fun _ => False) := by
  refine tw_ofW (cc := prog_1_method_12_code) (maxL := 7) (ret := (some .int)) (by decide) rfl ?_
  intro p e s m args below meth c s₁ B hml hno hv
  obtain ⟨rfl, hP, hK, hE⟩ := hv
  have hx := B.exec
  have hb := B.bytes
  have hr := B.returns
  have hts : ∀ w ∈ tw_G, w.before _ s = true := fun w h => atoms_spec (ws := w_next) B.pre w (List.mem_cons_of_mem _ h)
  have hown : s.vm.findClass "LandBook" = some m.cls := findClass_of_methodNamed B.named
  have hlocks := B.notSynchronized
  have hP : va_P (dC, dI) classes [(h, .inr (0, [v0, v1, v2, v3, .ref rg, v5, .int dn, v7])), (rg, .inr (4, [w0, .ref q, w2, w3, w4])), (q, .inr (6, [el, .int k, mo]))] s.heap := hP
  have hl := lv_entry ([.ref h, .int a0, .int a1, .int a2, .int a3]) (n := 7) (Nat.le_of_ble_eq_true rfl)
  rw [lg_entry_eq]
  generalize (lg_sl ([.ref h, .int a0, .int a1, .int a2, .int a3]) ++ List.replicate (7 - (lg_sl ([.ref h, .int a0, .int a1, .int a2, .int a3])).length) Slot.unset).toArray = ls at hl ⊢
  have hl : lv_has ls 7 [(0, .ref h), (1, .int a0), (2, .int a1), (3, .int a2), (4, .int a3)] := hl
  refine lv_aload_n hx hb d_next_0 rfl (lv_at hl 0 rfl) ?_
  refine tw_chk (tw_runV (As := []) (rest := []) ⟨hx, hb, hml, hown, hts⟩ (c_checkUp l hfl dC dI h rg q v0 v1 v2 v3 v5 v7 w0 w2 w3 w4 el mo dn k) (cwV 0 hts (tw_gV tk_210 tk_211 tk_212 tk_213 tk_214) rfl rfl rfl (by decide +kernel) ⟨Nat.le_of_ble_eq_true rfl, Nat.le_of_ble_eq_true rfl⟩) (tw_v2E (va_recv (q0 := 0) hK hP rfl rfl) (hP.sub (ws' := [(h, .inr (0, [v0, v1, v2, v3, .ref rg, v5, .int dn, v7])), (rg, .inr (4, [w0, .ref q, w2, w3, w4])), (q, .inr (6, [el, .int k, mo]))]) [0, 1, 2] rfl) (hK.sub (tys' := []) [] rfl) hE (fun _ _ h _ => h)) rfl rfl hl.1 rfl (lv_room (Nat.le_of_ble_eq_true rfl)) d_next_1 ⟨by show 1 ≤ 1; decide, by show 6 ≤ 6; decide⟩) (fun o1 => ?_) (fun o1 x2 J3 j1 j2 j3 j4 => ?_)
  · exact absurd o1 hup
  · exact tw_out (tw_none hno _) (fun t ht hW => ⟨id, j1, by rw [ht]; exact j2, fun z hz => by rw [ht]; exact j3 z hz, tw_excOf j4 ht hW⟩) (fun _ h => by cases h) hlocks
abbrev y_burden : MethodName := ⟨"LandBook", "burden", "(IIII)I"⟩
abbrev w_burden : List Cond := Cond.code y_burden prog_1_method_13_code 7 (some .int) :: tw_G
theorem d_burden_0 : decode prog_1_method_13_code 0 = .ok (.aload_n 0, 1) := by decide +kernel
theorem d_burden_1 : decode prog_1_method_13_code 1 = .ok (.invokevirtual 99, 3) := by decide +kernel
set_option maxHeartbeats 4000000 in
set_option maxRecDepth 100000 in
theorem c_burden_down (l : Launch) (hfl : l.flags = pinnedFlags ++ [noTraceFlag]) (dC : Nat → ClassId) (dI : Nat → Nat → Nat) (h rg q : Nat) (v0 v1 v2 v3 v5 v7 w0 w2 w3 w4 el mo : Value) (dn k : Int32) (a0 a1 a2 a3 : Int32) (hup : ¬ (dn = 0 ∧ ¬ k = 0)) : tw_Met l y_burden w_burden ({ frames := 7, cells := 1, slots := 6, locals := 102 }) (tw_P2E (dC, dI) classes [(h, .inr (0, [v0, v1, v2, v3, .ref rg, v5, .int dn, v7])), (rg, .inr (4, [w0, .ref q, w2, w3, w4])), (q, .inr (6, [el, .int k, mo]))] [] [.ref h, .int a0, .int a1, .int a2, .int a3]) (tw_Qk False "java/lang/IllegalStateException") 1 6 (fun _ => False) := by
  refine tw_ofW (cc := prog_1_method_13_code) (maxL := 7) (ret := (some .int)) (by decide) rfl ?_
  intro p e s m args below meth c s₁ B hml hno hv
  obtain ⟨rfl, hP, hK, hE⟩ := hv
  have hx := B.exec
  have hb := B.bytes
  have hr := B.returns
  have hts : ∀ w ∈ tw_G, w.before _ s = true := fun w h => atoms_spec (ws := w_burden) B.pre w (List.mem_cons_of_mem _ h)
  have hown : s.vm.findClass "LandBook" = some m.cls := findClass_of_methodNamed B.named
  have hlocks := B.notSynchronized
  have hP : va_P (dC, dI) classes [(h, .inr (0, [v0, v1, v2, v3, .ref rg, v5, .int dn, v7])), (rg, .inr (4, [w0, .ref q, w2, w3, w4])), (q, .inr (6, [el, .int k, mo]))] s.heap := hP
  have hl := lv_entry ([.ref h, .int a0, .int a1, .int a2, .int a3]) (n := 7) (Nat.le_of_ble_eq_true rfl)
  rw [lg_entry_eq]
  generalize (lg_sl ([.ref h, .int a0, .int a1, .int a2, .int a3]) ++ List.replicate (7 - (lg_sl ([.ref h, .int a0, .int a1, .int a2, .int a3])).length) Slot.unset).toArray = ls at hl ⊢
  have hl : lv_has ls 7 [(0, .ref h), (1, .int a0), (2, .int a1), (3, .int a2), (4, .int a3)] := hl
  refine lv_aload_n hx hb d_burden_0 rfl (lv_at hl 0 rfl) ?_
  refine tw_chk (tw_runV (As := []) (rest := []) ⟨hx, hb, hml, hown, hts⟩ (c_checkUp l hfl dC dI h rg q v0 v1 v2 v3 v5 v7 w0 w2 w3 w4 el mo dn k) (cwV 0 hts (tw_gV tk_210 tk_211 tk_212 tk_213 tk_214) rfl rfl rfl (by decide +kernel) ⟨Nat.le_of_ble_eq_true rfl, Nat.le_of_ble_eq_true rfl⟩) (tw_v2E (va_recv (q0 := 0) hK hP rfl rfl) (hP.sub (ws' := [(h, .inr (0, [v0, v1, v2, v3, .ref rg, v5, .int dn, v7])), (rg, .inr (4, [w0, .ref q, w2, w3, w4])), (q, .inr (6, [el, .int k, mo]))]) [0, 1, 2] rfl) (hK.sub (tys' := []) [] rfl) hE (fun _ _ h _ => h)) rfl rfl hl.1 rfl (lv_room (Nat.le_of_ble_eq_true rfl)) d_burden_1 ⟨by show 1 ≤ 1; decide, by show 6 ≤ 6; decide⟩) (fun o1 => ?_) (fun o1 x2 J3 j1 j2 j3 j4 => ?_)
  · exact absurd o1 hup
  · exact tw_out (tw_none hno _) (fun t ht hW => ⟨id, j1, by rw [ht]; exact j2, fun z hz => by rw [ht]; exact j3 z hz, tw_excOf j4 ht hW⟩) (fun _ h => by cases h) hlocks
abbrev y_parent : MethodName := ⟨"LandBook", "parent", "(II)I"⟩
abbrev w_parent : List Cond := Cond.code y_parent prog_1_method_14_code 3 (some .int) :: tw_G
theorem d_parent_0 : decode prog_1_method_14_code 0 = .ok (.aload_n 0, 1) := by decide +kernel
theorem d_parent_1 : decode prog_1_method_14_code 1 = .ok (.invokevirtual 99, 3) := by decide +kernel
set_option maxHeartbeats 4000000 in
set_option maxRecDepth 100000 in
theorem c_parent_down (l : Launch) (hfl : l.flags = pinnedFlags ++ [noTraceFlag]) (dC : Nat → ClassId) (dI : Nat → Nat → Nat) (h rg q : Nat) (v0 v1 v2 v3 v5 v7 w0 w2 w3 w4 el mo : Value) (dn k : Int32) (a0 a1 : Int32) (hup : ¬ (dn = 0 ∧ ¬ k = 0)) : tw_Met l y_parent w_parent ({ frames := 7, cells := 1, slots := 6, locals := 102 }) (tw_P2E (dC, dI) classes [(h, .inr (0, [v0, v1, v2, v3, .ref rg, v5, .int dn, v7])), (rg, .inr (4, [w0, .ref q, w2, w3, w4])), (q, .inr (6, [el, .int k, mo]))] [] [.ref h, .int a0, .int a1]) (tw_Qk False "java/lang/IllegalStateException") 1 6 (fun _ => False) := by
  refine tw_ofW (cc := prog_1_method_14_code) (maxL := 3) (ret := (some .int)) (by decide) rfl ?_
  intro p e s m args below meth c s₁ B hml hno hv
  obtain ⟨rfl, hP, hK, hE⟩ := hv
  have hx := B.exec
  have hb := B.bytes
  have hr := B.returns
  have hts : ∀ w ∈ tw_G, w.before _ s = true := fun w h => atoms_spec (ws := w_parent) B.pre w (List.mem_cons_of_mem _ h)
  have hown : s.vm.findClass "LandBook" = some m.cls := findClass_of_methodNamed B.named
  have hlocks := B.notSynchronized
  have hP : va_P (dC, dI) classes [(h, .inr (0, [v0, v1, v2, v3, .ref rg, v5, .int dn, v7])), (rg, .inr (4, [w0, .ref q, w2, w3, w4])), (q, .inr (6, [el, .int k, mo]))] s.heap := hP
  have hl := lv_entry ([.ref h, .int a0, .int a1]) (n := 3) (Nat.le_of_ble_eq_true rfl)
  rw [lg_entry_eq]
  generalize (lg_sl ([.ref h, .int a0, .int a1]) ++ List.replicate (3 - (lg_sl ([.ref h, .int a0, .int a1])).length) Slot.unset).toArray = ls at hl ⊢
  have hl : lv_has ls 3 [(0, .ref h), (1, .int a0), (2, .int a1)] := hl
  refine lv_aload_n hx hb d_parent_0 rfl (lv_at hl 0 rfl) ?_
  refine tw_chk (tw_runV (As := []) (rest := []) ⟨hx, hb, hml, hown, hts⟩ (c_checkUp l hfl dC dI h rg q v0 v1 v2 v3 v5 v7 w0 w2 w3 w4 el mo dn k) (cwV 0 hts (tw_gV tk_210 tk_211 tk_212 tk_213 tk_214) rfl rfl rfl (by decide +kernel) ⟨Nat.le_of_ble_eq_true rfl, Nat.le_of_ble_eq_true rfl⟩) (tw_v2E (va_recv (q0 := 0) hK hP rfl rfl) (hP.sub (ws' := [(h, .inr (0, [v0, v1, v2, v3, .ref rg, v5, .int dn, v7])), (rg, .inr (4, [w0, .ref q, w2, w3, w4])), (q, .inr (6, [el, .int k, mo]))]) [0, 1, 2] rfl) (hK.sub (tys' := []) [] rfl) hE (fun _ _ h _ => h)) rfl rfl hl.1 rfl (lv_room (Nat.le_of_ble_eq_true rfl)) d_parent_1 ⟨by show 1 ≤ 1; decide, by show 6 ≤ 6; decide⟩) (fun o1 => ?_) (fun o1 x2 J3 j1 j2 j3 j4 => ?_)
  · exact absurd o1 hup
  · exact tw_out (tw_none hno _) (fun t ht hW => ⟨id, j1, by rw [ht]; exact j2, fun z hz => by rw [ht]; exact j3 z hz, tw_excOf j4 ht hW⟩) (fun _ h => by cases h) hlocks
abbrev y_child : MethodName := ⟨"LandBook", "child", "(II)I"⟩
abbrev w_child : List Cond := Cond.code y_child prog_1_method_15_code 3 (some .int) :: tw_G
theorem d_child_0 : decode prog_1_method_15_code 0 = .ok (.aload_n 0, 1) := by decide +kernel
theorem d_child_1 : decode prog_1_method_15_code 1 = .ok (.invokevirtual 99, 3) := by decide +kernel
set_option maxHeartbeats 4000000 in
set_option maxRecDepth 100000 in
theorem c_child_down (l : Launch) (hfl : l.flags = pinnedFlags ++ [noTraceFlag]) (dC : Nat → ClassId) (dI : Nat → Nat → Nat) (h rg q : Nat) (v0 v1 v2 v3 v5 v7 w0 w2 w3 w4 el mo : Value) (dn k : Int32) (a0 a1 : Int32) (hup : ¬ (dn = 0 ∧ ¬ k = 0)) : tw_Met l y_child w_child ({ frames := 7, cells := 1, slots := 6, locals := 102 }) (tw_P2E (dC, dI) classes [(h, .inr (0, [v0, v1, v2, v3, .ref rg, v5, .int dn, v7])), (rg, .inr (4, [w0, .ref q, w2, w3, w4])), (q, .inr (6, [el, .int k, mo]))] [] [.ref h, .int a0, .int a1]) (tw_Qk False "java/lang/IllegalStateException") 1 6 (fun _ => False) := by
  refine tw_ofW (cc := prog_1_method_15_code) (maxL := 3) (ret := (some .int)) (by decide) rfl ?_
  intro p e s m args below meth c s₁ B hml hno hv
  obtain ⟨rfl, hP, hK, hE⟩ := hv
  have hx := B.exec
  have hb := B.bytes
  have hr := B.returns
  have hts : ∀ w ∈ tw_G, w.before _ s = true := fun w h => atoms_spec (ws := w_child) B.pre w (List.mem_cons_of_mem _ h)
  have hown : s.vm.findClass "LandBook" = some m.cls := findClass_of_methodNamed B.named
  have hlocks := B.notSynchronized
  have hP : va_P (dC, dI) classes [(h, .inr (0, [v0, v1, v2, v3, .ref rg, v5, .int dn, v7])), (rg, .inr (4, [w0, .ref q, w2, w3, w4])), (q, .inr (6, [el, .int k, mo]))] s.heap := hP
  have hl := lv_entry ([.ref h, .int a0, .int a1]) (n := 3) (Nat.le_of_ble_eq_true rfl)
  rw [lg_entry_eq]
  generalize (lg_sl ([.ref h, .int a0, .int a1]) ++ List.replicate (3 - (lg_sl ([.ref h, .int a0, .int a1])).length) Slot.unset).toArray = ls at hl ⊢
  have hl : lv_has ls 3 [(0, .ref h), (1, .int a0), (2, .int a1)] := hl
  refine lv_aload_n hx hb d_child_0 rfl (lv_at hl 0 rfl) ?_
  refine tw_chk (tw_runV (As := []) (rest := []) ⟨hx, hb, hml, hown, hts⟩ (c_checkUp l hfl dC dI h rg q v0 v1 v2 v3 v5 v7 w0 w2 w3 w4 el mo dn k) (cwV 0 hts (tw_gV tk_210 tk_211 tk_212 tk_213 tk_214) rfl rfl rfl (by decide +kernel) ⟨Nat.le_of_ble_eq_true rfl, Nat.le_of_ble_eq_true rfl⟩) (tw_v2E (va_recv (q0 := 0) hK hP rfl rfl) (hP.sub (ws' := [(h, .inr (0, [v0, v1, v2, v3, .ref rg, v5, .int dn, v7])), (rg, .inr (4, [w0, .ref q, w2, w3, w4])), (q, .inr (6, [el, .int k, mo]))]) [0, 1, 2] rfl) (hK.sub (tys' := []) [] rfl) hE (fun _ _ h _ => h)) rfl rfl hl.1 rfl (lv_room (Nat.le_of_ble_eq_true rfl)) d_child_1 ⟨by show 1 ≤ 1; decide, by show 6 ≤ 6; decide⟩) (fun o1 => ?_) (fun o1 x2 J3 j1 j2 j3 j4 => ?_)
  · exact absurd o1 hup
  · exact tw_out (tw_none hno _) (fun t ht hW => ⟨id, j1, by rw [ht]; exact j2, fun z hz => by rw [ht]; exact j3 z hz, tw_excOf j4 ht hW⟩) (fun _ h => by cases h) hlocks
abbrev y_corners : MethodName := ⟨"LandBook", "corners", "(I)I"⟩
abbrev w_corners : List Cond := Cond.code y_corners prog_1_method_16_code 2 (some .int) :: tw_G
theorem d_corners_0 : decode prog_1_method_16_code 0 = .ok (.aload_n 0, 1) := by decide +kernel
theorem d_corners_1 : decode prog_1_method_16_code 1 = .ok (.invokevirtual 99, 3) := by decide +kernel
set_option maxHeartbeats 4000000 in
set_option maxRecDepth 100000 in
theorem c_corners_down (l : Launch) (hfl : l.flags = pinnedFlags ++ [noTraceFlag]) (dC : Nat → ClassId) (dI : Nat → Nat → Nat) (h rg q : Nat) (v0 v1 v2 v3 v5 v7 w0 w2 w3 w4 el mo : Value) (dn k : Int32) (a0 : Int32) (hup : ¬ (dn = 0 ∧ ¬ k = 0)) : tw_Met l y_corners w_corners ({ frames := 7, cells := 1, slots := 6, locals := 102 }) (tw_P2E (dC, dI) classes [(h, .inr (0, [v0, v1, v2, v3, .ref rg, v5, .int dn, v7])), (rg, .inr (4, [w0, .ref q, w2, w3, w4])), (q, .inr (6, [el, .int k, mo]))] [] [.ref h, .int a0]) (tw_Qk False "java/lang/IllegalStateException") 1 6 (fun _ => False) := by
  refine tw_ofW (cc := prog_1_method_16_code) (maxL := 2) (ret := (some .int)) (by decide) rfl ?_
  intro p e s m args below meth c s₁ B hml hno hv
  obtain ⟨rfl, hP, hK, hE⟩ := hv
  have hx := B.exec
  have hb := B.bytes
  have hr := B.returns
  have hts : ∀ w ∈ tw_G, w.before _ s = true := fun w h => atoms_spec (ws := w_corners) B.pre w (List.mem_cons_of_mem _ h)
  have hown : s.vm.findClass "LandBook" = some m.cls := findClass_of_methodNamed B.named
  have hlocks := B.notSynchronized
  have hP : va_P (dC, dI) classes [(h, .inr (0, [v0, v1, v2, v3, .ref rg, v5, .int dn, v7])), (rg, .inr (4, [w0, .ref q, w2, w3, w4])), (q, .inr (6, [el, .int k, mo]))] s.heap := hP
  have hl := lv_entry ([.ref h, .int a0]) (n := 2) (Nat.le_of_ble_eq_true rfl)
  rw [lg_entry_eq]
  generalize (lg_sl ([.ref h, .int a0]) ++ List.replicate (2 - (lg_sl ([.ref h, .int a0])).length) Slot.unset).toArray = ls at hl ⊢
  have hl : lv_has ls 2 [(0, .ref h), (1, .int a0)] := hl
  refine lv_aload_n hx hb d_corners_0 rfl (lv_at hl 0 rfl) ?_
  refine tw_chk (tw_runV (As := []) (rest := []) ⟨hx, hb, hml, hown, hts⟩ (c_checkUp l hfl dC dI h rg q v0 v1 v2 v3 v5 v7 w0 w2 w3 w4 el mo dn k) (cwV 0 hts (tw_gV tk_210 tk_211 tk_212 tk_213 tk_214) rfl rfl rfl (by decide +kernel) ⟨Nat.le_of_ble_eq_true rfl, Nat.le_of_ble_eq_true rfl⟩) (tw_v2E (va_recv (q0 := 0) hK hP rfl rfl) (hP.sub (ws' := [(h, .inr (0, [v0, v1, v2, v3, .ref rg, v5, .int dn, v7])), (rg, .inr (4, [w0, .ref q, w2, w3, w4])), (q, .inr (6, [el, .int k, mo]))]) [0, 1, 2] rfl) (hK.sub (tys' := []) [] rfl) hE (fun _ _ h _ => h)) rfl rfl hl.1 rfl (lv_room (Nat.le_of_ble_eq_true rfl)) d_corners_1 ⟨by show 1 ≤ 1; decide, by show 6 ≤ 6; decide⟩) (fun o1 => ?_) (fun o1 x2 J3 j1 j2 j3 j4 => ?_)
  · exact absurd o1 hup
  · exact tw_out (tw_none hno _) (fun t ht hW => ⟨id, j1, by rw [ht]; exact j2, fun z hz => by rw [ht]; exact j3 z hz, tw_excOf j4 ht hW⟩) (fun _ h => by cases h) hlocks
abbrev y_corner : MethodName := ⟨"LandBook", "corner", "(II)I"⟩
abbrev w_corner : List Cond := Cond.code y_corner prog_1_method_17_code 4 (some .int) :: tw_G
theorem d_corner_0 : decode prog_1_method_17_code 0 = .ok (.aload_n 0, 1) := by decide +kernel
theorem d_corner_1 : decode prog_1_method_17_code 1 = .ok (.invokevirtual 99, 3) := by decide +kernel
set_option maxHeartbeats 4000000 in
set_option maxRecDepth 100000 in
theorem c_corner_down (l : Launch) (hfl : l.flags = pinnedFlags ++ [noTraceFlag]) (dC : Nat → ClassId) (dI : Nat → Nat → Nat) (h rg q : Nat) (v0 v1 v2 v3 v5 v7 w0 w2 w3 w4 el mo : Value) (dn k : Int32) (a0 a1 : Int32) (hup : ¬ (dn = 0 ∧ ¬ k = 0)) : tw_Met l y_corner w_corner ({ frames := 7, cells := 1, slots := 6, locals := 102 }) (tw_P2E (dC, dI) classes [(h, .inr (0, [v0, v1, v2, v3, .ref rg, v5, .int dn, v7])), (rg, .inr (4, [w0, .ref q, w2, w3, w4])), (q, .inr (6, [el, .int k, mo]))] [] [.ref h, .int a0, .int a1]) (tw_Qk False "java/lang/IllegalStateException") 1 6 (fun _ => False) := by
  refine tw_ofW (cc := prog_1_method_17_code) (maxL := 4) (ret := (some .int)) (by decide) rfl ?_
  intro p e s m args below meth c s₁ B hml hno hv
  obtain ⟨rfl, hP, hK, hE⟩ := hv
  have hx := B.exec
  have hb := B.bytes
  have hr := B.returns
  have hts : ∀ w ∈ tw_G, w.before _ s = true := fun w h => atoms_spec (ws := w_corner) B.pre w (List.mem_cons_of_mem _ h)
  have hown : s.vm.findClass "LandBook" = some m.cls := findClass_of_methodNamed B.named
  have hlocks := B.notSynchronized
  have hP : va_P (dC, dI) classes [(h, .inr (0, [v0, v1, v2, v3, .ref rg, v5, .int dn, v7])), (rg, .inr (4, [w0, .ref q, w2, w3, w4])), (q, .inr (6, [el, .int k, mo]))] s.heap := hP
  have hl := lv_entry ([.ref h, .int a0, .int a1]) (n := 4) (Nat.le_of_ble_eq_true rfl)
  rw [lg_entry_eq]
  generalize (lg_sl ([.ref h, .int a0, .int a1]) ++ List.replicate (4 - (lg_sl ([.ref h, .int a0, .int a1])).length) Slot.unset).toArray = ls at hl ⊢
  have hl : lv_has ls 4 [(0, .ref h), (1, .int a0), (2, .int a1)] := hl
  refine lv_aload_n hx hb d_corner_0 rfl (lv_at hl 0 rfl) ?_
  refine tw_chk (tw_runV (As := []) (rest := []) ⟨hx, hb, hml, hown, hts⟩ (c_checkUp l hfl dC dI h rg q v0 v1 v2 v3 v5 v7 w0 w2 w3 w4 el mo dn k) (cwV 0 hts (tw_gV tk_210 tk_211 tk_212 tk_213 tk_214) rfl rfl rfl (by decide +kernel) ⟨Nat.le_of_ble_eq_true rfl, Nat.le_of_ble_eq_true rfl⟩) (tw_v2E (va_recv (q0 := 0) hK hP rfl rfl) (hP.sub (ws' := [(h, .inr (0, [v0, v1, v2, v3, .ref rg, v5, .int dn, v7])), (rg, .inr (4, [w0, .ref q, w2, w3, w4])), (q, .inr (6, [el, .int k, mo]))]) [0, 1, 2] rfl) (hK.sub (tys' := []) [] rfl) hE (fun _ _ h _ => h)) rfl rfl hl.1 rfl (lv_room (Nat.le_of_ble_eq_true rfl)) d_corner_1 ⟨by show 1 ≤ 1; decide, by show 6 ≤ 6; decide⟩) (fun o1 => ?_) (fun o1 x2 J3 j1 j2 j3 j4 => ?_)
  · exact absurd o1 hup
  · exact tw_out (tw_none hno _) (fun t ht hW => ⟨id, j1, by rw [ht]; exact j2, fun z hz => by rw [ht]; exact j3 z hz, tw_excOf j4 ht hW⟩) (fun _ h => by cases h) hlocks
abbrev y_sync : MethodName := ⟨"LandBook", "sync", "()I"⟩
abbrev w_sync : List Cond := Cond.code y_sync prog_1_method_20_code 2 (some .int) :: tw_G
theorem d_sync_0 : decode prog_1_method_20_code 0 = .ok (.aload_n 0, 1) := by decide +kernel
theorem d_sync_1 : decode prog_1_method_20_code 1 = .ok (.invokevirtual 99, 3) := by decide +kernel
set_option maxHeartbeats 4000000 in
set_option maxRecDepth 100000 in
theorem c_sync_down (l : Launch) (hfl : l.flags = pinnedFlags ++ [noTraceFlag]) (dC : Nat → ClassId) (dI : Nat → Nat → Nat) (h rg q : Nat) (v0 v1 v2 v3 v5 v7 w0 w2 w3 w4 el mo : Value) (dn k : Int32) (hup : ¬ (dn = 0 ∧ ¬ k = 0)) : tw_Met l y_sync w_sync ({ frames := 7, cells := 1, slots := 6, locals := 102 }) (tw_P2E (dC, dI) classes [(h, .inr (0, [v0, v1, v2, v3, .ref rg, v5, .int dn, v7])), (rg, .inr (4, [w0, .ref q, w2, w3, w4])), (q, .inr (6, [el, .int k, mo]))] [] [.ref h]) (tw_Qk False "java/lang/IllegalStateException") 1 6 (fun _ => False) := by
  refine tw_ofW (cc := prog_1_method_20_code) (maxL := 2) (ret := (some .int)) (by decide) rfl ?_
  intro p e s m args below meth c s₁ B hml hno hv
  obtain ⟨rfl, hP, hK, hE⟩ := hv
  have hx := B.exec
  have hb := B.bytes
  have hr := B.returns
  have hts : ∀ w ∈ tw_G, w.before _ s = true := fun w h => atoms_spec (ws := w_sync) B.pre w (List.mem_cons_of_mem _ h)
  have hown : s.vm.findClass "LandBook" = some m.cls := findClass_of_methodNamed B.named
  have hlocks := B.notSynchronized
  have hP : va_P (dC, dI) classes [(h, .inr (0, [v0, v1, v2, v3, .ref rg, v5, .int dn, v7])), (rg, .inr (4, [w0, .ref q, w2, w3, w4])), (q, .inr (6, [el, .int k, mo]))] s.heap := hP
  have hl := lv_entry ([.ref h]) (n := 2) (Nat.le_of_ble_eq_true rfl)
  rw [lg_entry_eq]
  generalize (lg_sl ([.ref h]) ++ List.replicate (2 - (lg_sl ([.ref h])).length) Slot.unset).toArray = ls at hl ⊢
  have hl : lv_has ls 2 [(0, .ref h)] := hl
  refine lv_aload_n hx hb d_sync_0 rfl (lv_at hl 0 rfl) ?_
  refine tw_chk (tw_runV (As := []) (rest := []) ⟨hx, hb, hml, hown, hts⟩ (c_checkUp l hfl dC dI h rg q v0 v1 v2 v3 v5 v7 w0 w2 w3 w4 el mo dn k) (cwV 0 hts (tw_gV tk_210 tk_211 tk_212 tk_213 tk_214) rfl rfl rfl (by decide +kernel) ⟨Nat.le_of_ble_eq_true rfl, Nat.le_of_ble_eq_true rfl⟩) (tw_v2E (va_recv (q0 := 0) hK hP rfl rfl) (hP.sub (ws' := [(h, .inr (0, [v0, v1, v2, v3, .ref rg, v5, .int dn, v7])), (rg, .inr (4, [w0, .ref q, w2, w3, w4])), (q, .inr (6, [el, .int k, mo]))]) [0, 1, 2] rfl) (hK.sub (tys' := []) [] rfl) hE (fun _ _ h _ => h)) rfl rfl hl.1 rfl (lv_room (Nat.le_of_ble_eq_true rfl)) d_sync_1 ⟨by show 1 ≤ 1; decide, by show 6 ≤ 6; decide⟩) (fun o1 => ?_) (fun o1 x2 J3 j1 j2 j3 j4 => ?_)
  · exact absurd o1 hup
  · exact tw_out (tw_none hno _) (fun t ht hW => ⟨id, j1, by rw [ht]; exact j2, fun z hz => by rw [ht]; exact j3 z hz, tw_excOf j4 ht hW⟩) (fun _ h => by cases h) hlocks
abbrev y_crash : MethodName := ⟨"LandBook", "crash", "(I)I"⟩
abbrev w_crash : List Cond := Cond.code y_crash prog_1_method_21_code 2 (some .int) :: tw_G
theorem d_crash_0 : decode prog_1_method_21_code 0 = .ok (.aload_n 0, 1) := by decide +kernel
theorem d_crash_1 : decode prog_1_method_21_code 1 = .ok (.invokevirtual 99, 3) := by decide +kernel
set_option maxHeartbeats 4000000 in
set_option maxRecDepth 100000 in
theorem c_crash_down (l : Launch) (hfl : l.flags = pinnedFlags ++ [noTraceFlag]) (dC : Nat → ClassId) (dI : Nat → Nat → Nat) (h rg q : Nat) (v0 v1 v2 v3 v5 v7 w0 w2 w3 w4 el mo : Value) (dn k : Int32) (a0 : Int32) (hup : ¬ (dn = 0 ∧ ¬ k = 0)) : tw_Met l y_crash w_crash ({ frames := 7, cells := 1, slots := 6, locals := 102 }) (tw_P2E (dC, dI) classes [(h, .inr (0, [v0, v1, v2, v3, .ref rg, v5, .int dn, v7])), (rg, .inr (4, [w0, .ref q, w2, w3, w4])), (q, .inr (6, [el, .int k, mo]))] [] [.ref h, .int a0]) (tw_Qk False "java/lang/IllegalStateException") 1 6 (fun _ => False) := by
  refine tw_ofW (cc := prog_1_method_21_code) (maxL := 2) (ret := (some .int)) (by decide) rfl ?_
  intro p e s m args below meth c s₁ B hml hno hv
  obtain ⟨rfl, hP, hK, hE⟩ := hv
  have hx := B.exec
  have hb := B.bytes
  have hr := B.returns
  have hts : ∀ w ∈ tw_G, w.before _ s = true := fun w h => atoms_spec (ws := w_crash) B.pre w (List.mem_cons_of_mem _ h)
  have hown : s.vm.findClass "LandBook" = some m.cls := findClass_of_methodNamed B.named
  have hlocks := B.notSynchronized
  have hP : va_P (dC, dI) classes [(h, .inr (0, [v0, v1, v2, v3, .ref rg, v5, .int dn, v7])), (rg, .inr (4, [w0, .ref q, w2, w3, w4])), (q, .inr (6, [el, .int k, mo]))] s.heap := hP
  have hl := lv_entry ([.ref h, .int a0]) (n := 2) (Nat.le_of_ble_eq_true rfl)
  rw [lg_entry_eq]
  generalize (lg_sl ([.ref h, .int a0]) ++ List.replicate (2 - (lg_sl ([.ref h, .int a0])).length) Slot.unset).toArray = ls at hl ⊢
  have hl : lv_has ls 2 [(0, .ref h), (1, .int a0)] := hl
  refine lv_aload_n hx hb d_crash_0 rfl (lv_at hl 0 rfl) ?_
  refine tw_chk (tw_runV (As := []) (rest := []) ⟨hx, hb, hml, hown, hts⟩ (c_checkUp l hfl dC dI h rg q v0 v1 v2 v3 v5 v7 w0 w2 w3 w4 el mo dn k) (cwV 0 hts (tw_gV tk_210 tk_211 tk_212 tk_213 tk_214) rfl rfl rfl (by decide +kernel) ⟨Nat.le_of_ble_eq_true rfl, Nat.le_of_ble_eq_true rfl⟩) (tw_v2E (va_recv (q0 := 0) hK hP rfl rfl) (hP.sub (ws' := [(h, .inr (0, [v0, v1, v2, v3, .ref rg, v5, .int dn, v7])), (rg, .inr (4, [w0, .ref q, w2, w3, w4])), (q, .inr (6, [el, .int k, mo]))]) [0, 1, 2] rfl) (hK.sub (tys' := []) [] rfl) hE (fun _ _ h _ => h)) rfl rfl hl.1 rfl (lv_room (Nat.le_of_ble_eq_true rfl)) d_crash_1 ⟨by show 1 ≤ 1; decide, by show 6 ≤ 6; decide⟩) (fun o1 => ?_) (fun o1 x2 J3 j1 j2 j3 j4 => ?_)
  · exact absurd o1 hup
  · exact tw_out (tw_none hno _) (fun t ht hW => ⟨id, j1, by rw [ht]; exact j2, fun z hz => by rw [ht]; exact j3 z hz, tw_excOf j4 ht hW⟩) (fun _ h => by cases h) hlocks
abbrev y_mount : MethodName := ⟨"LandBook", "mount", "()I"⟩
abbrev w_mount : List Cond := Cond.code y_mount prog_1_method_22_code 4 (some .int) :: tw_G
theorem d_mount_0 : decode prog_1_method_22_code 0 = .ok (.aload_n 0, 1) := by decide +kernel
theorem d_mount_1 : decode prog_1_method_22_code 1 = .ok (.getfield 38, 3) := by decide +kernel
theorem d_mount_4 : decode prog_1_method_22_code 4 = .ok (.invokevirtual 76, 3) := by decide +kernel
theorem d_mount_7 : decode prog_1_method_22_code 7 = .ok (.ifCond .ne 14, 3) := by decide +kernel
theorem d_mount_10 : decode prog_1_method_22_code 10 = .ok (.new 80, 3) := by decide +kernel
theorem d_mount_13 : decode prog_1_method_22_code 13 = .ok (.dup, 1) := by decide +kernel
theorem d_mount_14 : decode prog_1_method_22_code 14 = .ok (.ldc_w 270, 3) := by decide +kernel
theorem d_mount_17 : decode prog_1_method_22_code 17 = .ok (.invokespecial 84, 3) := by decide +kernel
theorem d_mount_20 : decode prog_1_method_22_code 20 = .ok (.athrow, 1) := by decide +kernel
set_option maxHeartbeats 4000000 in
set_option maxRecDepth 100000 in
theorem c_mount_down (l : Launch) (hfl : l.flags = pinnedFlags ++ [noTraceFlag]) (dC : Nat → ClassId) (dI : Nat → Nat → Nat) (h rg q : Nat) (v0 v1 v2 v3 v5 v7 w0 w2 w3 w4 el mo : Value) (dn k : Int32) (hk0 : k = 0) : tw_Met l y_mount w_mount ({ frames := 6, cells := 1, slots := 6, locals := 82 }) (tw_P2E (dC, dI) classes [(h, .inr (0, [v0, v1, v2, v3, .ref rg, v5, .int dn, v7])), (rg, .inr (4, [w0, .ref q, w2, w3, w4])), (q, .inr (6, [el, .int k, mo]))] [] [.ref h]) (tw_Qk False "java/lang/IllegalStateException") 1 6 (fun _ => False) := by
  refine tw_ofW (cc := prog_1_method_22_code) (maxL := 4) (ret := (some .int)) (by decide) rfl ?_
  intro p e s m args below meth c s₁ B hml hno hv
  obtain ⟨rfl, hP, hK, hE⟩ := hv
  have hx := B.exec
  have hb := B.bytes
  have hr := B.returns
  have hts : ∀ w ∈ tw_G, w.before _ s = true := fun w h => atoms_spec (ws := w_mount) B.pre w (List.mem_cons_of_mem _ h)
  have hown : s.vm.findClass "LandBook" = some m.cls := findClass_of_methodNamed B.named
  have hlocks := B.notSynchronized
  have hP : va_P (dC, dI) classes [(h, .inr (0, [v0, v1, v2, v3, .ref rg, v5, .int dn, v7])), (rg, .inr (4, [w0, .ref q, w2, w3, w4])), (q, .inr (6, [el, .int k, mo]))] s.heap := hP
  have hl := lv_entry ([.ref h]) (n := 4) (Nat.le_of_ble_eq_true rfl)
  rw [lg_entry_eq]
  generalize (lg_sl ([.ref h]) ++ List.replicate (4 - (lg_sl ([.ref h])).length) Slot.unset).toArray = ls at hl ⊢
  have hl : lv_has ls 4 [(0, .ref h)] := hl
  refine lv_aload_n hx hb d_mount_0 rfl (lv_at hl 0 rfl) ?_
  refine va_get (D := (dC, dI)) (ci := 0) (v := .ref rg) (C := "LandBook") (T := F_LandBook) (N := 8) hx hb hts tu_LandBook hown hK hP 0 rfl rfl 4 (by decide) (hts _ tk_159) (fun _ h9 => h9) rfl d_mount_1 ?_
  refine vp_callSi (W.runV (As := []) (rest := []) ⟨hx, hb, hml, hown, hts⟩ (c_Register_lotCount l dC dI rg q w0 w2 w3 w4 el mo k) (cwV 0 hts (tw_gV tk_206 tk_207 tk_208 tk_156 tk_209) rfl rfl rfl (by decide +kernel) ⟨Nat.le_of_ble_eq_true rfl, Nat.le_of_ble_eq_true rfl⟩) (tw_v2 (va_recv (q0 := 1) hK hP rfl rfl) (hP.sub (ws' := [(rg, .inr (4, [w0, .ref q, w2, w3, w4])), (q, .inr (6, [el, .int k, mo]))]) [1, 2] rfl) (hK.sub (tys' := []) [] rfl)) rfl rfl hl.1 rfl (lv_room (Nat.le_of_ble_eq_true rfl)) d_mount_4 ⟨by show 0 ≤ 1; decide, by show 0 ≤ 6; decide⟩) (fun r1 e2 => ?_)
  have e2 := e2.symm
  subst e2
  refine lv_if_ne (tgt := 21) hx hb d_mount_7 (by decide) (fun h3 => (absurd hk0 h3)) (fun h3 => ?_)
  obtain ⟨q5, z4⟩ := hE.2 (270, "there is no district") (by decide)
  exact tw_throw (pc := 10) (k := 3) hx hb hfl hown (by decide) (hts _ tk_204) (hts _ tk_205) (hE.1 (84, "java/lang/IllegalStateException") (by decide)) z4 hno hlocks (hl.1.trans hml.symm) d_mount_10 d_mount_13 (Or.inr ⟨rfl, d_mount_14⟩) d_mount_17 d_mount_20 (by show 1 ≤ 1; decide) (by show 6 ≤ 6; decide) (Nat.le_of_ble_eq_true rfl) (Nat.le_of_ble_eq_true rfl) (fun t g1 g2 g3 g4 => ⟨id, rfl, g1, g2, g4⟩)
theorem tk_215 : (Jvm.Cond.classLink "LandBook" (189 : Nat) "java/lang/IndexOutOfBoundsException") ∈ tw_G := tw_in (List.mem_of_getElem? (i := 553) (by decide +kernel)) rfl
theorem tk_216 : (Jvm.Cond.initialized "java/lang/IndexOutOfBoundsException") ∈ tw_G := tw_in (List.mem_of_getElem? (i := 84) (by decide +kernel)) rfl
theorem tk_217 : (Jvm.Cond.fieldLink "LandBook" (247 : Nat) "LandBook$Log" "size" "I") ∈ tw_G := tw_in (List.mem_of_getElem? (i := 216) (by decide +kernel)) rfl
abbrev y_word : MethodName := ⟨"LandBook", "word", "(I)I"⟩
abbrev w_word : List Cond := Cond.code y_word prog_1_method_19_code 2 (some .int) :: tw_G
theorem d_word_0 : decode prog_1_method_19_code 0 = .ok (.iload_n 1, 1) := by decide +kernel
theorem d_word_1 : decode prog_1_method_19_code 1 = .ok (.ifCond .lt 14, 3) := by decide +kernel
theorem d_word_15 : decode prog_1_method_19_code 15 = .ok (.new 189, 3) := by decide +kernel
theorem d_word_18 : decode prog_1_method_19_code 18 = .ok (.dup, 1) := by decide +kernel
theorem d_word_19 : decode prog_1_method_19_code 19 = .ok (.ldc 253, 2) := by decide +kernel
theorem d_word_21 : decode prog_1_method_19_code 21 = .ok (.invokespecial 193, 3) := by decide +kernel
theorem d_word_24 : decode prog_1_method_19_code 24 = .ok (.athrow, 1) := by decide +kernel
theorem d_word_4 : decode prog_1_method_19_code 4 = .ok (.iload_n 1, 1) := by decide +kernel
theorem d_word_5 : decode prog_1_method_19_code 5 = .ok (.aload_n 0, 1) := by decide +kernel
theorem d_word_6 : decode prog_1_method_19_code 6 = .ok (.getfield 45, 3) := by decide +kernel
theorem d_word_9 : decode prog_1_method_19_code 9 = .ok (.getfield 247, 3) := by decide +kernel
theorem d_word_12 : decode prog_1_method_19_code 12 = .ok (.if_icmp .lt 13, 3) := by decide +kernel
set_option maxHeartbeats 4000000 in
set_option maxRecDepth 100000 in
theorem c_word_none (l : Launch) (hfl : l.flags = pinnedFlags ++ [noTraceFlag]) (dC : Nat → ClassId) (dI : Nat → Nat → Nat) (h lg : Nat) (v0 v1 v2 v3 v4 v6 v7 w0 w2 : Value) (i : Int32) : tw_Met l y_word w_word ({ frames := 6, cells := 1, slots := 6, locals := 82 }) (tw_P2E (dC, dI) classes [(h, .inr (0, [v0, v1, v2, v3, v4, .ref lg, v6, v7])), (lg, .inr (5, [w0, .int 0, w2]))] [] [.ref h, .int i]) (tw_Qk False "java/lang/IndexOutOfBoundsException") 1 6 (fun _ => False) := by
  refine tw_ofW (cc := prog_1_method_19_code) (maxL := 2) (ret := (some .int)) (by decide) rfl ?_
  intro p e s m args below meth c s₁ B hml hno hv
  obtain ⟨rfl, hP, hK, hE⟩ := hv
  have hx := B.exec
  have hb := B.bytes
  have hr := B.returns
  have hts : ∀ w ∈ tw_G, w.before _ s = true := fun w h => atoms_spec (ws := w_word) B.pre w (List.mem_cons_of_mem _ h)
  have hown : s.vm.findClass "LandBook" = some m.cls := findClass_of_methodNamed B.named
  have hlocks := B.notSynchronized
  have hP : va_P (dC, dI) classes [(h, .inr (0, [v0, v1, v2, v3, v4, .ref lg, v6, v7])), (lg, .inr (5, [w0, .int 0, w2]))] s.heap := hP
  have hl := lv_entry ([.ref h, .int i]) (n := 2) (Nat.le_of_ble_eq_true rfl)
  rw [lg_entry_eq]
  generalize (lg_sl ([.ref h, .int i]) ++ List.replicate (2 - (lg_sl ([.ref h, .int i])).length) Slot.unset).toArray = ls at hl ⊢
  have hl : lv_has ls 2 [(0, .ref h), (1, .int i)] := hl
  refine lv_iload_n hx hb d_word_0 rfl (lv_at hl 1 rfl) ?_
  refine lv_if_lt (tgt := 15) hx hb d_word_1 (by decide) (fun h1 => ?_) (fun h1 => ?_)
  · obtain ⟨q3, z2⟩ := hE.2 (253, "no such word") (by decide)
    exact tw_throw (pc := 15) (k := 2) hx hb hfl hown (by decide) (hts _ tk_215) (hts _ tk_216) (hE.1 (193, "java/lang/IndexOutOfBoundsException") (by decide)) z2 hno hlocks (hl.1.trans hml.symm) d_word_15 d_word_18 (Or.inl ⟨rfl, d_word_19⟩) d_word_21 d_word_24 (by show 1 ≤ 1; decide) (by show 6 ≤ 6; decide) (Nat.le_of_ble_eq_true rfl) (Nat.le_of_ble_eq_true rfl) (fun t g1 g2 g3 g4 => ⟨id, rfl, g1, g2, g4⟩)
  · refine lv_iload_n hx hb d_word_4 rfl (lv_at hl 1 rfl) ?_
    refine lv_aload_n hx hb d_word_5 rfl (lv_at hl 0 rfl) ?_
    refine va_get (D := (dC, dI)) (ci := 0) (v := .ref lg) (C := "LandBook") (T := F_LandBook) (N := 8) hx hb hts tu_LandBook hown hK hP 0 rfl rfl 5 (by decide) (hts _ tk_165) (fun _ h9 => h9) rfl d_word_6 ?_
    refine va_get (D := (dC, dI)) (ci := 5) (v := .int 0) (C := "LandBook$Log") (T := F_Log) (N := 3) hx hb hts tu_Log hown hK hP 1 rfl rfl 1 (by decide) (hts _ tk_217) (fun _ h9 => h9) rfl d_word_9 ?_
    refine lv_icmp_lt (tgt := 25) hx hb d_word_12 (by decide) (fun h4 => (absurd h4 h1)) (fun h4 => ?_)
    obtain ⟨q6, z5⟩ := hE.2 (253, "no such word") (by decide)
    exact tw_throw (pc := 15) (k := 2) hx hb hfl hown (by decide) (hts _ tk_215) (hts _ tk_216) (hE.1 (193, "java/lang/IndexOutOfBoundsException") (by decide)) z5 hno hlocks (hl.1.trans hml.symm) d_word_15 d_word_18 (Or.inl ⟨rfl, d_word_19⟩) d_word_21 d_word_24 (by show 1 ≤ 1; decide) (by show 6 ≤ 6; decide) (Nat.le_of_ble_eq_true rfl) (Nat.le_of_ble_eq_true rfl) (fun t g1 g2 g3 g4 => ⟨id, rfl, g1, g2, g4⟩)
