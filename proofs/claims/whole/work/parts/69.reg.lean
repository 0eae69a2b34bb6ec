theorem tq_304 : (Jvm.Cond.fieldLink "LandBook$Register" (12 : Nat) "LandBook$Register" "deeds" "Ljava/util/ArrayList;") ∈ tw_G := tw_in (List.mem_of_getElem? (i := 192) (by decide +kernel)) rfl
theorem tq_305 : (Jvm.Cond.methodLink "LandBook$Register" (31 : Nat) ({ cls := "java/util/ArrayList", name := "size", desc := "()I" } : Jvm.MethodName)) ∈ tw_G := tw_in (List.mem_of_getElem? (i := 383) (by decide +kernel)) rfl
theorem tq_306 : (Jvm.Cond.instanceMethod ({ cls := "java/util/ArrayList", name := "size", desc := "()I" } : Jvm.MethodName)) ∈ tw_G := tw_in (List.mem_of_getElem? (i := 384) (by decide +kernel)) rfl
theorem tq_307 : (Jvm.Cond.selects "java/util/ArrayList" ({ cls := "java/util/ArrayList", name := "size", desc := "()I" } : Jvm.MethodName) ({ cls := "java/util/ArrayList", name := "size", desc := "()I" } : Jvm.MethodName)) ∈ tw_G := tw_in (List.mem_of_getElem? (i := 385) (by decide +kernel)) rfl
theorem tq_308 : (Jvm.Cond.code ({ cls := "java/util/ArrayList", name := "size", desc := "()I" } : Jvm.MethodName) prog_30_method_8_code (1 : Nat) (Option.some Jvm.ClassFile.FieldType.int)) ∈ tw_G := tw_in (List.mem_of_getElem? (i := 386) (by decide +kernel)) rfl
abbrev y_BRg_lastEntry : MethodName := ⟨"LandBook$Register", "lastEntry", "()I"⟩
theorem q_BRg_lastEntry : y_BRg_lastEntry.cls = "LandBook$Register" ∧ y_BRg_lastEntry.cls ≠ "java/lang/invoke/MethodHandle" ∧ y_BRg_lastEntry.cls ≠ "java/lang/invoke/VarHandle" ∧ (parseMethodDescriptor y_BRg_lastEntry.desc).map (fun d => d.parameters.length) = some 0 := by decide +kernel
theorem d_BRg_lastEntry_0 : decode prog_10_method_2_code 0 = .ok (.aload_n 0, 1) := by decide +kernel
theorem d_BRg_lastEntry_1 : decode prog_10_method_2_code 1 = .ok (.getfield 12, 3) := by decide +kernel
theorem d_BRg_lastEntry_4 : decode prog_10_method_2_code 4 = .ok (.invokevirtual 31, 3) := by decide +kernel
theorem d_BRg_lastEntry_7 : decode prog_10_method_2_code 7 = .ok (.ireturn, 1) := by decide +kernel
def wp_BRg_lastEntry (post : Int → CS → Prop) (v0 : Nat) (T : CS) : Prop := tg T v0 = 5 ∧ ∃ q_1 : Nat, fo T v0 0 = some q_1 ∧ (tg T q_1 = 7 ∧ wp_BAL_size (fun r_3 T_2 => post r_3 T_2) q_1 T)
set_option maxHeartbeats 4000000 in
set_option maxRecDepth 100000 in
theorem c_BRg_lastEntry (l : Launch) {D : va_G} {k : CK} {post : Int → CS → Prop} {v0 : Nat} {T : CS} (hw : wp_BRg_lastEntry post v0 T) : jCi l D k y_BRg_lastEntry prog_10_method_2_code 1 (some .int) 1 20 0 0 T [.ref v0] post := by
  refine j_coi (own := "LandBook$Register") (by decide) rfl (Nat.le_of_ble_eq_true rfl) (fun X F K hT hret => ?_)
  unfold wp_BRg_lastEntry at hw
  show jat l D X 1 0 [(0, .ref v0)] [] (cwd k T) 0 0
  refine j_aload_n F 0 d_BRg_lastEntry_0 rfl ?_
  obtain ⟨hc1, q_1, hc2, hw⟩ := hw
  refine c_getr F K hT 5 0 rfl tu_Register (by decide) (by decide) rfl tq_304 (Or.inl rfl) hc1 hc2 d_BRg_lastEntry_1 ?_
  obtain ⟨hg1, hw⟩ := hw
  refine c_callVi F K hT (c_BAL_size l hw) (tw_gV tq_305 tq_306 tq_307 tq_233 tq_308) 7 rfl (by decide) hg1 q_BAL_size rfl ⟨by decide, by decide⟩ ⟨by omega, by omega⟩ rfl (Nat.le_of_ble_eq_true rfl) d_BRg_lastEntry_4 (fun r_3 T_2 hw hT => ?_)
  exact hret _ _ _ _ _ _ hw hT (by omega) (by omega) d_BRg_lastEntry_7
theorem tq_309 : (Jvm.Cond.fieldLink "LandBook$Register" (18 : Nat) "LandBook$Register" "lots" "Ljava/util/ArrayList;") ∈ tw_G := tw_in (List.mem_of_getElem? (i := 193) (by decide +kernel)) rfl
abbrev y_BRg_lotCount : MethodName := ⟨"LandBook$Register", "lotCount", "()I"⟩
theorem q_BRg_lotCount : y_BRg_lotCount.cls = "LandBook$Register" ∧ y_BRg_lotCount.cls ≠ "java/lang/invoke/MethodHandle" ∧ y_BRg_lotCount.cls ≠ "java/lang/invoke/VarHandle" ∧ (parseMethodDescriptor y_BRg_lotCount.desc).map (fun d => d.parameters.length) = some 0 := by decide +kernel
theorem d_BRg_lotCount_0 : decode prog_10_method_3_code 0 = .ok (.aload_n 0, 1) := by decide +kernel
theorem d_BRg_lotCount_1 : decode prog_10_method_3_code 1 = .ok (.getfield 18, 3) := by decide +kernel
theorem d_BRg_lotCount_4 : decode prog_10_method_3_code 4 = .ok (.invokevirtual 31, 3) := by decide +kernel
theorem d_BRg_lotCount_7 : decode prog_10_method_3_code 7 = .ok (.ireturn, 1) := by decide +kernel
def wp_BRg_lotCount (post : Int → CS → Prop) (v0 : Nat) (T : CS) : Prop := tg T v0 = 5 ∧ ∃ q_1 : Nat, fo T v0 1 = some q_1 ∧ (tg T q_1 = 7 ∧ wp_BAL_size (fun r_3 T_2 => post r_3 T_2) q_1 T)
set_option maxHeartbeats 4000000 in
set_option maxRecDepth 100000 in
theorem c_BRg_lotCount (l : Launch) {D : va_G} {k : CK} {post : Int → CS → Prop} {v0 : Nat} {T : CS} (hw : wp_BRg_lotCount post v0 T) : jCi l D k y_BRg_lotCount prog_10_method_3_code 1 (some .int) 1 20 0 0 T [.ref v0] post := by
  refine j_coi (own := "LandBook$Register") (by decide) rfl (Nat.le_of_ble_eq_true rfl) (fun X F K hT hret => ?_)
  unfold wp_BRg_lotCount at hw
  show jat l D X 1 0 [(0, .ref v0)] [] (cwd k T) 0 0
  refine j_aload_n F 0 d_BRg_lotCount_0 rfl ?_
  obtain ⟨hc1, q_1, hc2, hw⟩ := hw
  refine c_getr F K hT 5 1 rfl tu_Register (by decide) (by decide) rfl tq_309 (Or.inl rfl) hc1 hc2 d_BRg_lotCount_1 ?_
  obtain ⟨hg1, hw⟩ := hw
  refine c_callVi F K hT (c_BAL_size l hw) (tw_gV tq_305 tq_306 tq_307 tq_233 tq_308) 7 rfl (by decide) hg1 q_BAL_size rfl ⟨by decide, by decide⟩ ⟨by omega, by omega⟩ rfl (Nat.le_of_ble_eq_true rfl) d_BRg_lotCount_4 (fun r_3 T_2 hw hT => ?_)
  exact hret _ _ _ _ _ _ hw hT (by omega) (by omega) d_BRg_lotCount_7
theorem tq_310 : (Jvm.Cond.fieldLink "LandBook$Register" (21 : Nat) "LandBook$Register" "easements" "Ljava/util/ArrayList;") ∈ tw_G := tw_in (List.mem_of_getElem? (i := 194) (by decide +kernel)) rfl
abbrev y_BRg_easementCount : MethodName := ⟨"LandBook$Register", "easementCount", "()I"⟩
theorem q_BRg_easementCount : y_BRg_easementCount.cls = "LandBook$Register" ∧ y_BRg_easementCount.cls ≠ "java/lang/invoke/MethodHandle" ∧ y_BRg_easementCount.cls ≠ "java/lang/invoke/VarHandle" ∧ (parseMethodDescriptor y_BRg_easementCount.desc).map (fun d => d.parameters.length) = some 0 := by decide +kernel
theorem d_BRg_easementCount_0 : decode prog_10_method_4_code 0 = .ok (.aload_n 0, 1) := by decide +kernel
theorem d_BRg_easementCount_1 : decode prog_10_method_4_code 1 = .ok (.getfield 21, 3) := by decide +kernel
theorem d_BRg_easementCount_4 : decode prog_10_method_4_code 4 = .ok (.invokevirtual 31, 3) := by decide +kernel
theorem d_BRg_easementCount_7 : decode prog_10_method_4_code 7 = .ok (.ireturn, 1) := by decide +kernel
def wp_BRg_easementCount (post : Int → CS → Prop) (v0 : Nat) (T : CS) : Prop := tg T v0 = 5 ∧ ∃ q_1 : Nat, fo T v0 2 = some q_1 ∧ (tg T q_1 = 7 ∧ wp_BAL_size (fun r_3 T_2 => post r_3 T_2) q_1 T)
set_option maxHeartbeats 4000000 in
set_option maxRecDepth 100000 in
theorem c_BRg_easementCount (l : Launch) {D : va_G} {k : CK} {post : Int → CS → Prop} {v0 : Nat} {T : CS} (hw : wp_BRg_easementCount post v0 T) : jCi l D k y_BRg_easementCount prog_10_method_4_code 1 (some .int) 1 20 0 0 T [.ref v0] post := by
  refine j_coi (own := "LandBook$Register") (by decide) rfl (Nat.le_of_ble_eq_true rfl) (fun X F K hT hret => ?_)
  unfold wp_BRg_easementCount at hw
  show jat l D X 1 0 [(0, .ref v0)] [] (cwd k T) 0 0
  refine j_aload_n F 0 d_BRg_easementCount_0 rfl ?_
  obtain ⟨hc1, q_1, hc2, hw⟩ := hw
  refine c_getr F K hT 5 2 rfl tu_Register (by decide) (by decide) rfl tq_310 (Or.inl rfl) hc1 hc2 d_BRg_easementCount_1 ?_
  obtain ⟨hg1, hw⟩ := hw
  refine c_callVi F K hT (c_BAL_size l hw) (tw_gV tq_305 tq_306 tq_307 tq_233 tq_308) 7 rfl (by decide) hg1 q_BAL_size rfl ⟨by decide, by decide⟩ ⟨by omega, by omega⟩ rfl (Nat.le_of_ble_eq_true rfl) d_BRg_easementCount_4 (fun r_3 T_2 hw hT => ?_)
  exact hret _ _ _ _ _ _ hw hT (by omega) (by omega) d_BRg_easementCount_7
theorem tq_311 : (Jvm.Cond.methodLink "LandBook$Register" (35 : Nat) ({ cls := "java/util/ArrayList", name := "get", desc := "(I)Ljava/lang/Object;" } : Jvm.MethodName)) ∈ tw_G := tw_in (List.mem_of_getElem? (i := 589) (by decide +kernel)) rfl
theorem tq_312 : (Jvm.Cond.instanceMethod ({ cls := "java/util/ArrayList", name := "get", desc := "(I)Ljava/lang/Object;" } : Jvm.MethodName)) ∈ tw_G := tw_in (List.mem_of_getElem? (i := 590) (by decide +kernel)) rfl
theorem tq_313 : (Jvm.Cond.selects "java/util/ArrayList" ({ cls := "java/util/ArrayList", name := "get", desc := "(I)Ljava/lang/Object;" } : Jvm.MethodName) ({ cls := "java/util/ArrayList", name := "get", desc := "(I)Ljava/lang/Object;" } : Jvm.MethodName)) ∈ tw_G := tw_in (List.mem_of_getElem? (i := 591) (by decide +kernel)) rfl
theorem tq_314 : (Jvm.Cond.code ({ cls := "java/util/ArrayList", name := "get", desc := "(I)Ljava/lang/Object;" } : Jvm.MethodName) prog_30_method_20_code (2 : Nat) (Option.some (Jvm.ClassFile.FieldType.object "java/lang/Object"))) ∈ tw_G := tw_in (List.mem_of_getElem? (i := 592) (by decide +kernel)) rfl
theorem tq_315 : (Jvm.Cond.classLink "LandBook$Register" (39 : Nat) "LandBook$Lot") ∈ tw_G := tw_in (List.mem_of_getElem? (i := 443) (by decide +kernel)) rfl
abbrev y_BRg_lot : MethodName := ⟨"LandBook$Register", "lot", "(I)LLandBook$Lot;"⟩
theorem q_BRg_lot : y_BRg_lot.cls = "LandBook$Register" ∧ y_BRg_lot.cls ≠ "java/lang/invoke/MethodHandle" ∧ y_BRg_lot.cls ≠ "java/lang/invoke/VarHandle" ∧ (parseMethodDescriptor y_BRg_lot.desc).map (fun d => d.parameters.length) = some 1 := by decide +kernel
theorem d_BRg_lot_0 : decode prog_10_method_5_code 0 = .ok (.aload_n 0, 1) := by decide +kernel
theorem d_BRg_lot_1 : decode prog_10_method_5_code 1 = .ok (.getfield 18, 3) := by decide +kernel
theorem d_BRg_lot_4 : decode prog_10_method_5_code 4 = .ok (.iload_n 1, 1) := by decide +kernel
theorem d_BRg_lot_5 : decode prog_10_method_5_code 5 = .ok (.iconst 1, 1) := by decide +kernel
theorem d_BRg_lot_6 : decode prog_10_method_5_code 6 = .ok (.isub, 1) := by decide +kernel
theorem d_BRg_lot_7 : decode prog_10_method_5_code 7 = .ok (.invokevirtual 35, 3) := by decide +kernel
theorem d_BRg_lot_10 : decode prog_10_method_5_code 10 = .ok (.checkcast 39, 3) := by decide +kernel
theorem d_BRg_lot_13 : decode prog_10_method_5_code 13 = .ok (.areturn, 1) := by decide +kernel
def wp_BRg_lot (post : Nat → CS → Prop) (v0 : Nat) (v1 : Int) (T : CS) : Prop := tg T v0 = 5 ∧ ∃ q_1 : Nat, fo T v0 1 = some q_1 ∧ (tg T q_1 = 7 ∧ wp_BAL_get (fun r_3 T_2 => tg T_2 r_3 = 9 ∧ post r_3 T_2) q_1 (v1 - 1) T)
set_option maxHeartbeats 4000000 in
set_option maxRecDepth 100000 in
theorem c_BRg_lot (l : Launch) {D : va_G} {k : CK} {post : Nat → CS → Prop} {v0 : Nat} {v1 : Int} {T : CS} (hw : wp_BRg_lot post v0 v1 T) : jCr l D k y_BRg_lot prog_10_method_5_code 2 (some (.object "LandBook$Lot")) 3 64 0 0 T [.ref v0, vi v1] post := by
  refine j_cor (Or.inl ⟨_, rfl⟩) (own := "LandBook$Register") (by decide) rfl (Nat.le_of_ble_eq_true rfl) (fun X F K hT hret => ?_)
  unfold wp_BRg_lot at hw
  show jat l D X 2 0 [(0, .ref v0), (1, vi v1)] [] (cwd k T) 0 0
  refine j_aload_n F 0 d_BRg_lot_0 rfl ?_
  obtain ⟨hc1, q_1, hc2, hw⟩ := hw
  refine c_getr F K hT 5 1 rfl tu_Register (by decide) (by decide) rfl tq_309 (Or.inl rfl) hc1 hc2 d_BRg_lot_1 ?_
  refine j_iload_n F 1 d_BRg_lot_4 rfl ?_
  refine j_iconst F d_BRg_lot_5 ?_
  refine j_isub F d_BRg_lot_6 ?_
  obtain ⟨hg1, hw⟩ := hw
  refine c_callVr F K hT (c_BAL_get l hw) (tw_gV tq_311 tq_312 tq_313 tq_233 tq_314) 7 rfl (by decide) hg1 q_BAL_get rfl ⟨by decide, by decide⟩ ⟨by omega, by omega⟩ rfl (Nat.le_of_ble_eq_true rfl) d_BRg_lot_7 (fun r_3 T_2 hw hT => ?_)
  obtain ⟨hc1, hw⟩ := hw
  refine c_cast F K hT 9 rfl (by decide) tq_315 (by simp [cwords]) hc1 d_BRg_lot_10 ?_
  exact hret _ _ _ _ _ _ hw hT (by omega) (by omega) d_BRg_lot_13
theorem tq_316 : (Jvm.Cond.classLink "LandBook$Register" (41 : Nat) "LandBook$Easement") ∈ tw_G := tw_in (List.mem_of_getElem? (i := 775) (by decide +kernel)) rfl
abbrev y_BRg_easement : MethodName := ⟨"LandBook$Register", "easement", "(I)LLandBook$Easement;"⟩
theorem q_BRg_easement : y_BRg_easement.cls = "LandBook$Register" ∧ y_BRg_easement.cls ≠ "java/lang/invoke/MethodHandle" ∧ y_BRg_easement.cls ≠ "java/lang/invoke/VarHandle" ∧ (parseMethodDescriptor y_BRg_easement.desc).map (fun d => d.parameters.length) = some 1 := by decide +kernel
theorem d_BRg_easement_0 : decode prog_10_method_6_code 0 = .ok (.aload_n 0, 1) := by decide +kernel
theorem d_BRg_easement_1 : decode prog_10_method_6_code 1 = .ok (.getfield 21, 3) := by decide +kernel
theorem d_BRg_easement_4 : decode prog_10_method_6_code 4 = .ok (.iload_n 1, 1) := by decide +kernel
theorem d_BRg_easement_5 : decode prog_10_method_6_code 5 = .ok (.iconst 1, 1) := by decide +kernel
theorem d_BRg_easement_6 : decode prog_10_method_6_code 6 = .ok (.isub, 1) := by decide +kernel
theorem d_BRg_easement_7 : decode prog_10_method_6_code 7 = .ok (.invokevirtual 35, 3) := by decide +kernel
theorem d_BRg_easement_10 : decode prog_10_method_6_code 10 = .ok (.checkcast 41, 3) := by decide +kernel
theorem d_BRg_easement_13 : decode prog_10_method_6_code 13 = .ok (.areturn, 1) := by decide +kernel
def wp_BRg_easement (post : Nat → CS → Prop) (v0 : Nat) (v1 : Int) (T : CS) : Prop := tg T v0 = 5 ∧ ∃ q_1 : Nat, fo T v0 2 = some q_1 ∧ (tg T q_1 = 7 ∧ wp_BAL_get (fun r_3 T_2 => tg T_2 r_3 = 10 ∧ post r_3 T_2) q_1 (v1 - 1) T)
set_option maxHeartbeats 4000000 in
set_option maxRecDepth 100000 in
theorem c_BRg_easement (l : Launch) {D : va_G} {k : CK} {post : Nat → CS → Prop} {v0 : Nat} {v1 : Int} {T : CS} (hw : wp_BRg_easement post v0 v1 T) : jCr l D k y_BRg_easement prog_10_method_6_code 2 (some (.object "LandBook$Easement")) 3 64 0 0 T [.ref v0, vi v1] post := by
  refine j_cor (Or.inl ⟨_, rfl⟩) (own := "LandBook$Register") (by decide) rfl (Nat.le_of_ble_eq_true rfl) (fun X F K hT hret => ?_)
  unfold wp_BRg_easement at hw
  show jat l D X 2 0 [(0, .ref v0), (1, vi v1)] [] (cwd k T) 0 0
  refine j_aload_n F 0 d_BRg_easement_0 rfl ?_
  obtain ⟨hc1, q_1, hc2, hw⟩ := hw
  refine c_getr F K hT 5 2 rfl tu_Register (by decide) (by decide) rfl tq_310 (Or.inl rfl) hc1 hc2 d_BRg_easement_1 ?_
  refine j_iload_n F 1 d_BRg_easement_4 rfl ?_
  refine j_iconst F d_BRg_easement_5 ?_
  refine j_isub F d_BRg_easement_6 ?_
  obtain ⟨hg1, hw⟩ := hw
  refine c_callVr F K hT (c_BAL_get l hw) (tw_gV tq_311 tq_312 tq_313 tq_233 tq_314) 7 rfl (by decide) hg1 q_BAL_get rfl ⟨by decide, by decide⟩ ⟨by omega, by omega⟩ rfl (Nat.le_of_ble_eq_true rfl) d_BRg_easement_7 (fun r_3 T_2 hw hT => ?_)
  obtain ⟨hc1, hw⟩ := hw
  refine c_cast F K hT 10 rfl (by decide) tq_316 (by simp [cwords]) hc1 d_BRg_easement_10 ?_
  exact hret _ _ _ _ _ _ hw hT (by omega) (by omega) d_BRg_easement_13
theorem tq_317 : (Jvm.Cond.classLink "LandBook$Register" (43 : Nat) "LandBook$Deed") ∈ tw_G := tw_in (List.mem_of_getElem? (i := 607) (by decide +kernel)) rfl
abbrev y_BRg_deed : MethodName := ⟨"LandBook$Register", "deed", "(I)LLandBook$Deed;"⟩
theorem q_BRg_deed : y_BRg_deed.cls = "LandBook$Register" ∧ y_BRg_deed.cls ≠ "java/lang/invoke/MethodHandle" ∧ y_BRg_deed.cls ≠ "java/lang/invoke/VarHandle" ∧ (parseMethodDescriptor y_BRg_deed.desc).map (fun d => d.parameters.length) = some 1 := by decide +kernel
theorem d_BRg_deed_0 : decode prog_10_method_7_code 0 = .ok (.aload_n 0, 1) := by decide +kernel
theorem d_BRg_deed_1 : decode prog_10_method_7_code 1 = .ok (.getfield 12, 3) := by decide +kernel
theorem d_BRg_deed_4 : decode prog_10_method_7_code 4 = .ok (.iload_n 1, 1) := by decide +kernel
theorem d_BRg_deed_5 : decode prog_10_method_7_code 5 = .ok (.iconst 1, 1) := by decide +kernel
theorem d_BRg_deed_6 : decode prog_10_method_7_code 6 = .ok (.isub, 1) := by decide +kernel
theorem d_BRg_deed_7 : decode prog_10_method_7_code 7 = .ok (.invokevirtual 35, 3) := by decide +kernel
theorem d_BRg_deed_10 : decode prog_10_method_7_code 10 = .ok (.checkcast 43, 3) := by decide +kernel
theorem d_BRg_deed_13 : decode prog_10_method_7_code 13 = .ok (.areturn, 1) := by decide +kernel
def wp_BRg_deed (post : Nat → CS → Prop) (v0 : Nat) (v1 : Int) (T : CS) : Prop := tg T v0 = 5 ∧ ∃ q_1 : Nat, fo T v0 0 = some q_1 ∧ (tg T q_1 = 7 ∧ wp_BAL_get (fun r_3 T_2 => tg T_2 r_3 = 8 ∧ post r_3 T_2) q_1 (v1 - 1) T)
set_option maxHeartbeats 4000000 in
set_option maxRecDepth 100000 in
theorem c_BRg_deed (l : Launch) {D : va_G} {k : CK} {post : Nat → CS → Prop} {v0 : Nat} {v1 : Int} {T : CS} (hw : wp_BRg_deed post v0 v1 T) : jCr l D k y_BRg_deed prog_10_method_7_code 2 (some (.object "LandBook$Deed")) 3 64 0 0 T [.ref v0, vi v1] post := by
  refine j_cor (Or.inl ⟨_, rfl⟩) (own := "LandBook$Register") (by decide) rfl (Nat.le_of_ble_eq_true rfl) (fun X F K hT hret => ?_)
  unfold wp_BRg_deed at hw
  show jat l D X 2 0 [(0, .ref v0), (1, vi v1)] [] (cwd k T) 0 0
  refine j_aload_n F 0 d_BRg_deed_0 rfl ?_
  obtain ⟨hc1, q_1, hc2, hw⟩ := hw
  refine c_getr F K hT 5 0 rfl tu_Register (by decide) (by decide) rfl tq_304 (Or.inl rfl) hc1 hc2 d_BRg_deed_1 ?_
  refine j_iload_n F 1 d_BRg_deed_4 rfl ?_
  refine j_iconst F d_BRg_deed_5 ?_
  refine j_isub F d_BRg_deed_6 ?_
  obtain ⟨hg1, hw⟩ := hw
  refine c_callVr F K hT (c_BAL_get l hw) (tw_gV tq_311 tq_312 tq_313 tq_233 tq_314) 7 rfl (by decide) hg1 q_BAL_get rfl ⟨by decide, by decide⟩ ⟨by omega, by omega⟩ rfl (Nat.le_of_ble_eq_true rfl) d_BRg_deed_7 (fun r_3 T_2 hw hT => ?_)
  obtain ⟨hc1, hw⟩ := hw
  refine c_cast F K hT 8 rfl (by decide) tq_317 (by simp [cwords]) hc1 d_BRg_deed_10 ?_
  exact hret _ _ _ _ _ _ hw hT (by omega) (by omega) d_BRg_deed_13
theorem tq_318 : (Jvm.Cond.instantiable "LandBook$Lot" (5 : Nat)) ∈ tw_G := tw_in (List.mem_of_getElem? (i := 444) (by decide +kernel)) rfl
theorem tq_319 : (Jvm.Cond.initialized "LandBook$Lot") ∈ tw_G := tw_in (List.mem_of_getElem? (i := 80) (by decide +kernel)) rfl
theorem tq_320 : (Jvm.Cond.methodLink "LandBook$Register" (45 : Nat) ({ cls := "LandBook$Points", name := "copy", desc := "()LLandBook$Points;" } : Jvm.MethodName)) ∈ tw_G := tw_in (List.mem_of_getElem? (i := 445) (by decide +kernel)) rfl
theorem tq_321 : (Jvm.Cond.instanceMethod ({ cls := "LandBook$Points", name := "copy", desc := "()LLandBook$Points;" } : Jvm.MethodName)) ∈ tw_G := tw_in (List.mem_of_getElem? (i := 446) (by decide +kernel)) rfl
theorem tq_322 : (Jvm.Cond.selects "LandBook$Points" ({ cls := "LandBook$Points", name := "copy", desc := "()LLandBook$Points;" } : Jvm.MethodName) ({ cls := "LandBook$Points", name := "copy", desc := "()LLandBook$Points;" } : Jvm.MethodName)) ∈ tw_G := tw_in (List.mem_of_getElem? (i := 447) (by decide +kernel)) rfl
theorem tq_323 : (Jvm.Cond.code ({ cls := "LandBook$Points", name := "copy", desc := "()LLandBook$Points;" } : Jvm.MethodName) prog_9_method_5_code (3 : Nat) (Option.some (Jvm.ClassFile.FieldType.object "LandBook$Points"))) ∈ tw_G := tw_in (List.mem_of_getElem? (i := 448) (by decide +kernel)) rfl
theorem tq_324 : (Jvm.Cond.arrayClass Jvm.ClassFile.FieldType.boolean) ∈ tw_G := tw_in (List.mem_of_getElem? (i := 477) (by decide +kernel)) rfl
theorem tq_325 : (Jvm.Cond.code ({ cls := "LandBook$Lot", name := "<init>", desc := "(LLandBook$Points;I[I[Z)V" } : Jvm.MethodName) prog_7_method_1_code (5 : Nat) (Option.none : Option Jvm.ClassFile.FieldType)) ∈ tw_G := tw_in (List.mem_of_getElem? (i := 454) (by decide +kernel)) rfl
theorem tq_326 : (Jvm.Cond.methodLink "LandBook$Register" (51 : Nat) ({ cls := "LandBook$Lot", name := "<init>", desc := "(LLandBook$Points;I[I[Z)V" } : Jvm.MethodName)) ∈ tw_G := tw_in (List.mem_of_getElem? (i := 452) (by decide +kernel)) rfl
theorem tq_327 : (Jvm.Cond.instanceMethod ({ cls := "LandBook$Lot", name := "<init>", desc := "(LLandBook$Points;I[I[Z)V" } : Jvm.MethodName)) ∈ tw_G := tw_in (List.mem_of_getElem? (i := 453) (by decide +kernel)) rfl
theorem tq_328 : (Jvm.Cond.methodLink "LandBook$Register" (54 : Nat) ({ cls := "java/util/ArrayList", name := "add", desc := "(Ljava/lang/Object;)Z" } : Jvm.MethodName)) ∈ tw_G := tw_in (List.mem_of_getElem? (i := 478) (by decide +kernel)) rfl
theorem tq_329 : (Jvm.Cond.instanceMethod ({ cls := "java/util/ArrayList", name := "add", desc := "(Ljava/lang/Object;)Z" } : Jvm.MethodName)) ∈ tw_G := tw_in (List.mem_of_getElem? (i := 479) (by decide +kernel)) rfl
theorem tq_330 : (Jvm.Cond.selects "java/util/ArrayList" ({ cls := "java/util/ArrayList", name := "add", desc := "(Ljava/lang/Object;)Z" } : Jvm.MethodName) ({ cls := "java/util/ArrayList", name := "add", desc := "(Ljava/lang/Object;)Z" } : Jvm.MethodName)) ∈ tw_G := tw_in (List.mem_of_getElem? (i := 480) (by decide +kernel)) rfl
theorem tq_331 : (Jvm.Cond.code ({ cls := "java/util/ArrayList", name := "add", desc := "(Ljava/lang/Object;)Z" } : Jvm.MethodName) prog_30_method_25_code (2 : Nat) (Option.some Jvm.ClassFile.FieldType.boolean)) ∈ tw_G := tw_in (List.mem_of_getElem? (i := 481) (by decide +kernel)) rfl
abbrev y_BRg_found : MethodName := ⟨"LandBook$Register", "found", "(LLandBook$Points;)V"⟩
theorem q_BRg_found : y_BRg_found.cls = "LandBook$Register" ∧ y_BRg_found.cls ≠ "java/lang/invoke/MethodHandle" ∧ y_BRg_found.cls ≠ "java/lang/invoke/VarHandle" ∧ (parseMethodDescriptor y_BRg_found.desc).map (fun d => d.parameters.length) = some 1 := by decide +kernel
theorem d_BRg_found_0 : decode prog_10_method_8_code 0 = .ok (.bipush 100, 2) := by decide +kernel
theorem d_BRg_found_2 : decode prog_10_method_8_code 2 = .ok (.newarray .int, 2) := by decide +kernel
theorem d_BRg_found_4 : decode prog_10_method_8_code 4 = .ok (.astore_n 2, 1) := by decide +kernel
theorem d_BRg_found_5 : decode prog_10_method_8_code 5 = .ok (.aload_n 2, 1) := by decide +kernel
theorem d_BRg_found_6 : decode prog_10_method_8_code 6 = .ok (.iconst 0, 1) := by decide +kernel
theorem d_BRg_found_7 : decode prog_10_method_8_code 7 = .ok (.sipush 5040, 3) := by decide +kernel
theorem d_BRg_found_10 : decode prog_10_method_8_code 10 = .ok (.iastore, 1) := by decide +kernel
theorem d_BRg_found_11 : decode prog_10_method_8_code 11 = .ok (.aload_n 0, 1) := by decide +kernel
theorem d_BRg_found_12 : decode prog_10_method_8_code 12 = .ok (.getfield 18, 3) := by decide +kernel
theorem d_BRg_found_15 : decode prog_10_method_8_code 15 = .ok (.new 39, 3) := by decide +kernel
theorem d_BRg_found_18 : decode prog_10_method_8_code 18 = .ok (.dup, 1) := by decide +kernel
theorem d_BRg_found_19 : decode prog_10_method_8_code 19 = .ok (.aload_n 1, 1) := by decide +kernel
theorem d_BRg_found_20 : decode prog_10_method_8_code 20 = .ok (.invokevirtual 45, 3) := by decide +kernel
theorem d_BRg_found_23 : decode prog_10_method_8_code 23 = .ok (.iconst 0, 1) := by decide +kernel
theorem d_BRg_found_24 : decode prog_10_method_8_code 24 = .ok (.aload_n 2, 1) := by decide +kernel
theorem d_BRg_found_25 : decode prog_10_method_8_code 25 = .ok (.iconst 0, 1) := by decide +kernel
theorem d_BRg_found_26 : decode prog_10_method_8_code 26 = .ok (.newarray .boolean, 2) := by decide +kernel
theorem d_BRg_found_28 : decode prog_10_method_8_code 28 = .ok (.invokespecial 51, 3) := by decide +kernel
theorem d_BRg_found_31 : decode prog_10_method_8_code 31 = .ok (.invokevirtual 54, 3) := by decide +kernel
theorem d_BRg_found_34 : decode prog_10_method_8_code 34 = .ok (.pop, 1) := by decide +kernel
theorem d_BRg_found_35 : decode prog_10_method_8_code 35 = .ok (.return_, 1) := by decide +kernel
def wp_BRg_found (post : CS → Prop) (mc0 ms0 : Nat) (v0 : Nat) (v1 : Nat) (T : CS) : Prop := ((0 : Int) ≤ 100 ∧ (100 : Int) ≤ 134217728) ∧ ∃ mc_3 ms_4 : Nat, (mc0 = 1 + mc_3 ∧ ms0 = 100 + ms_4) ∧ (∀ (q_1 : Nat) (T_2 : CS), tg T q_1 = 0 → T_2 = cs_new T q_1 11 100 → tg T_2 q_1 = 11 ∧ ixR 0 (ln T_2 q_1) ∧ ((∀ T_5 : CS, T_5 = cs_i T_2 q_1 0 5040 → tg T_5 v0 = 5 ∧ ∃ q_6 : Nat, fo T_5 v0 1 = some q_6 ∧ (∃ mc_9 ms_10 : Nat, (mc_3 = 1 + mc_9 ∧ ms_4 = 5 + ms_10) ∧ (∀ (q_7 : Nat) (T_8 : CS), tg T_5 q_7 = 0 → T_8 = cs_new T_5 q_7 9 0 → ∃ mc_13 ms_14 mc_15 ms_16 : Nat, (mc_9 = mc_13 + mc_15 ∧ ms_10 = ms_14 + ms_16) ∧ tg T_8 v1 = 2 ∧ wp_BPt_copy (fun r_12 T_11 => ((0 : Int) ≤ 0 ∧ (0 : Int) ≤ 134217728) ∧ ∃ mc_19 ms_20 : Nat, (mc_15 = 1 + mc_19 ∧ ms_16 = 0 + ms_20) ∧ (∀ (q_17 : Nat) (T_18 : CS), tg T_11 q_17 = 0 → T_18 = cs_new T_11 q_17 12 0 → wp_BLo_init (fun T_21 => ∃ mc_25 ms_26 mc_27 ms_28 : Nat, (mc_19 = mc_25 + mc_27 ∧ ms_20 = ms_26 + ms_28) ∧ tg T_21 q_6 = 7 ∧ wp_BAL_add (fun r_24 T_23 => post T_23) mc_25 ms_26 q_6 q_7 T_21) q_7 r_12 0 q_1 q_17 T_18)) mc_13 ms_14 v1 T_8)))))
set_option maxHeartbeats 4000000 in
set_option maxRecDepth 100000 in
theorem c_BRg_found (l : Launch) {D : va_G} {k : CK} {post : CS → Prop} {mc ms : Nat} {v0 : Nat} {v1 : Nat} {T : CS} (hw : wp_BRg_found post mc ms v0 v1 T) : jCv l D k y_BRg_found prog_10_method_8_code 3 none 7 191 mc ms T [.ref v0, .ref v1] post := by
  refine j_cov (own := "LandBook$Register") (by decide) rfl (Nat.le_of_ble_eq_true rfl) (fun X F K hT hret => ?_)
  unfold wp_BRg_found at hw
  have key : ∀ (mc0 ms0 c0 n0 : Nat), mc0 = mc → ms0 = ms → c0 = 0 → n0 = 0 → c0 + mc0 = mc → n0 + ms0 = ms → jat l D X 3 0 [(0, .ref v0), (1, .ref v1)] [] (cwd k T) c0 n0 := by
    intro mc0 ms0 c0 n0 hm1 hm2 hz1 hz2 hc0 hn0
    subst hm1; subst hm2
    clear hz1 hz2
    refine j_bipush F d_BRg_found_0 (j_bip (by decide) (by decide)) ?_
    obtain ⟨hr0, mc_3, ms_4, ⟨he1, he2⟩, hw⟩ := hw
    refine c_newa11 F K hT tq_118 hr0 (rm_l hc0 he1) (rm_l hn0 he2) d_BRg_found_2 (fun q_1 T_2 e_q_1 e_T_2 hT => ?_)
    have hw := hw q_1 T_2 e_q_1 e_T_2
    have hc0 := rm_c hc0 he1
    have hn0 := rm_c hn0 he2
    refine j_astore_n F [(2, .ref q_1), (0, .ref v0), (1, .ref v1)] d_BRg_found_4 (by decide) rfl ?_
    refine j_aload_n F 0 d_BRg_found_5 rfl ?_
    refine j_iconst F d_BRg_found_6 ?_
    refine j_sipush F d_BRg_found_7 (j_sip (by decide) (by decide)) ?_
    obtain ⟨hc1, hc2, hw⟩ := hw
    refine c_iast F K hT hc1 hc2 d_BRg_found_10 (fun T_5 e_T_5 hT => ?_)
    have hw := hw T_5 e_T_5
    refine j_aload_n F 1 d_BRg_found_11 rfl ?_
    obtain ⟨hc1, q_6, hc2, hw⟩ := hw
    refine c_getr F K hT 5 1 rfl tu_Register (by decide) (by decide) rfl tq_309 (Or.inl rfl) hc1 hc2 d_BRg_found_12 ?_
    obtain ⟨mc_9, ms_10, ⟨he1, he2⟩, hw⟩ := hw
    refine c_new F K hT 9 rfl tu_Lot t_Lot t_Lot_ok (by decide) rfl (by decide) tq_315 tq_318 tq_319 (rm_l hc0 he1) (rm_l hn0 he2) d_BRg_found_15 (fun q_7 T_8 e_q_7 e_T_8 hT => ?_)
    have hw := hw q_7 T_8 e_q_7 e_T_8
    have hc0 := rm_c hc0 he1
    have hn0 := rm_c hn0 he2
    refine j_dup F rfl d_BRg_found_18 ?_
    refine j_aload_n F 2 d_BRg_found_19 rfl ?_
    obtain ⟨mc_13, ms_14, mc_15, ms_16, ⟨he1, he2⟩, hw⟩ := hw
    obtain ⟨hg1, hw⟩ := hw
    refine c_callVr F K hT (c_BPt_copy l hw) (tw_gV tq_320 tq_321 tq_322 tq_126 tq_323) 2 rfl (by decide) hg1 q_BPt_copy rfl ⟨by decide, by decide⟩ ⟨rm_l hc0 he1, rm_l hn0 he2⟩ rfl (Nat.le_of_ble_eq_true rfl) d_BRg_found_20 (fun r_12 T_11 hw hT => ?_)
    have hc0 := rm_c hc0 he1
    have hn0 := rm_c hn0 he2
    refine j_iconst F d_BRg_found_23 ?_
    refine j_aload_n F 0 d_BRg_found_24 rfl ?_
    refine j_iconst F d_BRg_found_25 ?_
    obtain ⟨hr0, mc_19, ms_20, ⟨he1, he2⟩, hw⟩ := hw
    refine c_newa12 F K hT tq_324 hr0 (rm_l hc0 he1) (rm_l hn0 he2) d_BRg_found_26 (fun q_17 T_18 e_q_17 e_T_18 hT => ?_)
    have hw := hw q_17 T_18 e_q_17 e_T_18
    have hc0 := rm_c hc0 he1
    have hn0 := rm_c hn0 he2
    refine c_callIv F K hT (c_BLo_init l hw) tq_325 tq_319 tq_326 tq_327 rfl q_BLo_init rfl ⟨by decide, by decide⟩ ⟨rm_z hc0, rm_z hn0⟩ rfl (Nat.le_of_ble_eq_true rfl) d_BRg_found_28 (fun T_21 hw hT => ?_)
    obtain ⟨mc_25, ms_26, mc_27, ms_28, ⟨he1, he2⟩, hw⟩ := hw
    obtain ⟨hg1, hw⟩ := hw
    refine c_callVi F K hT (c_BAL_add l hw) (tw_gV tq_328 tq_329 tq_330 tq_233 tq_331) 7 rfl (by decide) hg1 q_BAL_add rfl ⟨by decide, by decide⟩ ⟨rm_l hc0 he1, rm_l hn0 he2⟩ rfl (Nat.le_of_ble_eq_true rfl) d_BRg_found_31 (fun r_24 T_23 hw hT => ?_)
    have hc0 := rm_c hc0 he1
    have hn0 := rm_c hn0 he2
    refine j_pop F rfl d_BRg_found_34 ?_
    exact hret _ _ _ _ _ hw hT (rm_y hc0) (rm_y hn0) d_BRg_found_35
  exact key mc ms 0 0 rfl rfl rfl rfl (Nat.zero_add _) (Nat.zero_add _)
theorem tq_332 : (Jvm.Cond.fieldLink "LandBook$Register" (58 : Nat) "LandBook$Deed" "day" "I") ∈ tw_G := tw_in (List.mem_of_getElem? (i := 691) (by decide +kernel)) rfl
abbrev y_BRg_isInForce : MethodName := ⟨"LandBook$Register", "isInForce", "(III)Z"⟩
theorem q_BRg_isInForce : y_BRg_isInForce.cls = "LandBook$Register" ∧ y_BRg_isInForce.cls ≠ "java/lang/invoke/MethodHandle" ∧ y_BRg_isInForce.cls ≠ "java/lang/invoke/VarHandle" ∧ (parseMethodDescriptor y_BRg_isInForce.desc).map (fun d => d.parameters.length) = some 3 := by decide +kernel
theorem d_BRg_isInForce_0 : decode prog_10_method_9_code 0 = .ok (.iload_n 1, 1) := by decide +kernel
theorem d_BRg_isInForce_1 : decode prog_10_method_9_code 1 = .ok (.ifCond .le 32, 3) := by decide +kernel
theorem d_BRg_isInForce_33 : decode prog_10_method_9_code 33 = .ok (.iconst 0, 1) := by decide +kernel
theorem d_BRg_isInForce_34 : decode prog_10_method_9_code 34 = .ok (.ireturn, 1) := by decide +kernel
theorem d_BRg_isInForce_4 : decode prog_10_method_9_code 4 = .ok (.iload_n 1, 1) := by decide +kernel
theorem d_BRg_isInForce_5 : decode prog_10_method_9_code 5 = .ok (.iload_n 3, 1) := by decide +kernel
theorem d_BRg_isInForce_6 : decode prog_10_method_9_code 6 = .ok (.if_icmp .gt 27, 3) := by decide +kernel
theorem d_BRg_isInForce_9 : decode prog_10_method_9_code 9 = .ok (.aload_n 0, 1) := by decide +kernel
theorem d_BRg_isInForce_10 : decode prog_10_method_9_code 10 = .ok (.getfield 12, 3) := by decide +kernel
theorem d_BRg_isInForce_13 : decode prog_10_method_9_code 13 = .ok (.iload_n 1, 1) := by decide +kernel
theorem d_BRg_isInForce_14 : decode prog_10_method_9_code 14 = .ok (.iconst 1, 1) := by decide +kernel
theorem d_BRg_isInForce_15 : decode prog_10_method_9_code 15 = .ok (.isub, 1) := by decide +kernel
theorem d_BRg_isInForce_16 : decode prog_10_method_9_code 16 = .ok (.invokevirtual 35, 3) := by decide +kernel
theorem d_BRg_isInForce_19 : decode prog_10_method_9_code 19 = .ok (.checkcast 43, 3) := by decide +kernel
theorem d_BRg_isInForce_22 : decode prog_10_method_9_code 22 = .ok (.getfield 58, 3) := by decide +kernel
theorem d_BRg_isInForce_25 : decode prog_10_method_9_code 25 = .ok (.iload_n 2, 1) := by decide +kernel
theorem d_BRg_isInForce_26 : decode prog_10_method_9_code 26 = .ok (.if_icmp .gt 7, 3) := by decide +kernel
theorem d_BRg_isInForce_29 : decode prog_10_method_9_code 29 = .ok (.iconst 1, 1) := by decide +kernel
theorem d_BRg_isInForce_30 : decode prog_10_method_9_code 30 = .ok (.goto 4, 3) := by decide +kernel
def wp_BRg_isInForce (post : Int → CS → Prop) (v0 : Nat) (v1 : Int) (v2 : Int) (v3 : Int) (T : CS) : Prop := inR v1 ∧ (v1 ≤ 0 → post 0 T) ∧ (¬ (v1 ≤ 0) → (inR v1 ∧ inR v3 ∧ (v3 < v1 → post 0 T) ∧ (¬ (v3 < v1) → (tg T v0 = 5 ∧ ∃ q_1 : Nat, fo T v0 0 = some q_1 ∧ (tg T q_1 = 7 ∧ wp_BAL_get (fun r_3 T_2 => tg T_2 r_3 = 8 ∧ (tg T_2 r_3 = 8 ∧ (inR (fi T_2 r_3 1) ∧ inR v2 ∧ (v2 < (fi T_2 r_3 1) → post 0 T_2) ∧ (¬ (v2 < (fi T_2 r_3 1)) → post 1 T_2)))) q_1 (v1 - 1) T)))))
set_option maxHeartbeats 4000000 in
set_option maxRecDepth 100000 in
theorem c_BRg_isInForce (l : Launch) {D : va_G} {k : CK} {post : Int → CS → Prop} {v0 : Nat} {v1 : Int} {v2 : Int} {v3 : Int} {T : CS} (hw : wp_BRg_isInForce post v0 v1 v2 v3 T) : jCi l D k y_BRg_isInForce prog_10_method_9_code 4 (some .boolean) 3 64 0 0 T [.ref v0, vi v1, vi v2, vi v3] post := by
  refine j_coz (own := "LandBook$Register") (by decide) rfl (Nat.le_of_ble_eq_true rfl) (fun X F K hT hret => ?_)
  unfold wp_BRg_isInForce at hw
  show jat l D X 4 0 [(0, .ref v0), (1, vi v1), (2, vi v2), (3, vi v3)] [] (cwd k T) 0 0
  refine j_iload_n F 1 d_BRg_isInForce_0 rfl ?_
  obtain ⟨hc1, hwt, hwf⟩ := hw
  refine j_if_le F 33 hc1 d_BRg_isInForce_1 rfl (fun hh => ?_) (fun hh => ?_)
  · have hw := hwt hh
    refine j_iconst F d_BRg_isInForce_33 ?_
    exact hret _ _ _ _ _ _ hw hT (by omega) (by omega) (Or.inl rfl) d_BRg_isInForce_34
  · have hw := hwf hh
    refine j_iload_n F 1 d_BRg_isInForce_4 rfl ?_
    refine j_iload_n F 3 d_BRg_isInForce_5 rfl ?_
    obtain ⟨hc1, hc2, hwt, hwf⟩ := hw
    refine j_icmp_gt F 33 hc1 hc2 d_BRg_isInForce_6 rfl (fun hh => ?_) (fun hh => ?_)
    · have hw := hwt hh
      refine j_iconst F d_BRg_isInForce_33 ?_
      exact hret _ _ _ _ _ _ hw hT (by omega) (by omega) (Or.inl rfl) d_BRg_isInForce_34
    · have hw := hwf hh
      refine j_aload_n F 0 d_BRg_isInForce_9 rfl ?_
      obtain ⟨hc1, q_1, hc2, hw⟩ := hw
      refine c_getr F K hT 5 0 rfl tu_Register (by decide) (by decide) rfl tq_304 (Or.inl rfl) hc1 hc2 d_BRg_isInForce_10 ?_
      refine j_iload_n F 1 d_BRg_isInForce_13 rfl ?_
      refine j_iconst F d_BRg_isInForce_14 ?_
      refine j_isub F d_BRg_isInForce_15 ?_
      obtain ⟨hg1, hw⟩ := hw
      refine c_callVr F K hT (c_BAL_get l hw) (tw_gV tq_311 tq_312 tq_313 tq_233 tq_314) 7 rfl (by decide) hg1 q_BAL_get rfl ⟨by decide, by decide⟩ ⟨by omega, by omega⟩ rfl (Nat.le_of_ble_eq_true rfl) d_BRg_isInForce_16 (fun r_3 T_2 hw hT => ?_)
      obtain ⟨hc1, hw⟩ := hw
      refine c_cast F K hT 8 rfl (by decide) tq_317 (by simp [cwords]) hc1 d_BRg_isInForce_19 ?_
      obtain ⟨hc1, hw⟩ := hw
      refine c_geti F K hT 8 1 rfl tu_Deed (by decide) (by decide) rfl tq_332 (Or.inl rfl) hc1 d_BRg_isInForce_22 ?_
      refine j_iload_n F 2 d_BRg_isInForce_25 rfl ?_
      obtain ⟨hc1, hc2, hwt, hwf⟩ := hw
      refine j_icmp_gt F 33 hc1 hc2 d_BRg_isInForce_26 rfl (fun hh => ?_) (fun hh => ?_)
      · have hw := hwt hh
        refine j_iconst F d_BRg_isInForce_33 ?_
        exact hret _ _ _ _ _ _ hw hT (by omega) (by omega) (Or.inl rfl) d_BRg_isInForce_34
      · have hw := hwf hh
        refine j_iconst F d_BRg_isInForce_29 ?_
        refine j_goto F 34 d_BRg_isInForce_30 rfl ?_
        exact hret _ _ _ _ _ _ hw hT (by omega) (by omega) (Or.inr rfl) d_BRg_isInForce_34
theorem tq_333 : (Jvm.Cond.methodLink "LandBook$Register" (62 : Nat) ({ cls := "LandBook$Register", name := "lot", desc := "(I)LLandBook$Lot;" } : Jvm.MethodName)) ∈ tw_G := tw_in (List.mem_of_getElem? (i := 585) (by decide +kernel)) rfl
theorem tq_334 : (Jvm.Cond.instanceMethod ({ cls := "LandBook$Register", name := "lot", desc := "(I)LLandBook$Lot;" } : Jvm.MethodName)) ∈ tw_G := tw_in (List.mem_of_getElem? (i := 586) (by decide +kernel)) rfl
theorem tq_335 : (Jvm.Cond.selects "LandBook$Register" ({ cls := "LandBook$Register", name := "lot", desc := "(I)LLandBook$Lot;" } : Jvm.MethodName) ({ cls := "LandBook$Register", name := "lot", desc := "(I)LLandBook$Lot;" } : Jvm.MethodName)) ∈ tw_G := tw_in (List.mem_of_getElem? (i := 587) (by decide +kernel)) rfl
theorem tq_336 : (Jvm.Cond.initialized "LandBook$Register") ∈ tw_G := tw_in (List.mem_of_getElem? (i := 64) (by decide +kernel)) rfl
theorem tq_337 : (Jvm.Cond.code ({ cls := "LandBook$Register", name := "lot", desc := "(I)LLandBook$Lot;" } : Jvm.MethodName) prog_10_method_5_code (2 : Nat) (Option.some (Jvm.ClassFile.FieldType.object "LandBook$Lot"))) ∈ tw_G := tw_in (List.mem_of_getElem? (i := 588) (by decide +kernel)) rfl
theorem tq_338 : (Jvm.Cond.fieldLink "LandBook$Register" (66 : Nat) "LandBook$Lot" "began" "I") ∈ tw_G := tw_in (List.mem_of_getElem? (i := 459) (by decide +kernel)) rfl
theorem tq_339 : (Jvm.Cond.methodLink "LandBook$Register" (69 : Nat) ({ cls := "LandBook$Register", name := "isInForce", desc := "(III)Z" } : Jvm.MethodName)) ∈ tw_G := tw_in (List.mem_of_getElem? (i := 603) (by decide +kernel)) rfl
theorem tq_340 : (Jvm.Cond.instanceMethod ({ cls := "LandBook$Register", name := "isInForce", desc := "(III)Z" } : Jvm.MethodName)) ∈ tw_G := tw_in (List.mem_of_getElem? (i := 605) (by decide +kernel)) rfl
theorem tq_341 : (Jvm.Cond.selects "LandBook$Register" ⟨"LandBook$Register", "isInForce", "(III)Z"⟩ ⟨"LandBook$Register", "isInForce", "(III)Z"⟩) ∈ tw_G := tw_in (List.mem_of_getElem? (i := 7) (by decide +kernel)) rfl
theorem tq_342 : (Jvm.Cond.code ({ cls := "LandBook$Register", name := "isInForce", desc := "(III)Z" } : Jvm.MethodName) prog_10_method_9_code (4 : Nat) (Option.some Jvm.ClassFile.FieldType.boolean)) ∈ tw_G := tw_in (List.mem_of_getElem? (i := 606) (by decide +kernel)) rfl
theorem tq_343 : (Jvm.Cond.fieldLink "LandBook$Register" (73 : Nat) "LandBook$Lot" "ended" "I") ∈ tw_G := tw_in (List.mem_of_getElem? (i := 464) (by decide +kernel)) rfl
abbrev y_BRg_isInBeing : MethodName := ⟨"LandBook$Register", "isInBeing", "(III)Z"⟩
theorem q_BRg_isInBeing : y_BRg_isInBeing.cls = "LandBook$Register" ∧ y_BRg_isInBeing.cls ≠ "java/lang/invoke/MethodHandle" ∧ y_BRg_isInBeing.cls ≠ "java/lang/invoke/VarHandle" ∧ (parseMethodDescriptor y_BRg_isInBeing.desc).map (fun d => d.parameters.length) = some 3 := by decide +kernel
theorem d_BRg_isInBeing_0 : decode prog_10_method_10_code 0 = .ok (.aload_n 0, 1) := by decide +kernel
theorem d_BRg_isInBeing_1 : decode prog_10_method_10_code 1 = .ok (.iload_n 1, 1) := by decide +kernel
theorem d_BRg_isInBeing_2 : decode prog_10_method_10_code 2 = .ok (.invokevirtual 62, 3) := by decide +kernel
theorem d_BRg_isInBeing_5 : decode prog_10_method_10_code 5 = .ok (.astore 4, 2) := by decide +kernel
theorem d_BRg_isInBeing_7 : decode prog_10_method_10_code 7 = .ok (.aload 4, 2) := by decide +kernel
theorem d_BRg_isInBeing_9 : decode prog_10_method_10_code 9 = .ok (.getfield 66, 3) := by decide +kernel
theorem d_BRg_isInBeing_12 : decode prog_10_method_10_code 12 = .ok (.ifCond .eq 17, 3) := by decide +kernel
theorem d_BRg_isInBeing_15 : decode prog_10_method_10_code 15 = .ok (.aload_n 0, 1) := by decide +kernel
theorem d_BRg_isInBeing_16 : decode prog_10_method_10_code 16 = .ok (.aload 4, 2) := by decide +kernel
theorem d_BRg_isInBeing_18 : decode prog_10_method_10_code 18 = .ok (.getfield 66, 3) := by decide +kernel
theorem d_BRg_isInBeing_21 : decode prog_10_method_10_code 21 = .ok (.iload_n 2, 1) := by decide +kernel
theorem d_BRg_isInBeing_22 : decode prog_10_method_10_code 22 = .ok (.iload_n 3, 1) := by decide +kernel
theorem d_BRg_isInBeing_23 : decode prog_10_method_10_code 23 = .ok (.invokevirtual 69, 3) := by decide +kernel
theorem d_BRg_isInBeing_26 : decode prog_10_method_10_code 26 = .ok (.ifCond .eq 21, 3) := by decide +kernel
theorem d_BRg_isInBeing_47 : decode prog_10_method_10_code 47 = .ok (.iconst 0, 1) := by decide +kernel
theorem d_BRg_isInBeing_48 : decode prog_10_method_10_code 48 = .ok (.ireturn, 1) := by decide +kernel
theorem d_BRg_isInBeing_29 : decode prog_10_method_10_code 29 = .ok (.aload_n 0, 1) := by decide +kernel
theorem d_BRg_isInBeing_30 : decode prog_10_method_10_code 30 = .ok (.aload 4, 2) := by decide +kernel
theorem d_BRg_isInBeing_32 : decode prog_10_method_10_code 32 = .ok (.getfield 73, 3) := by decide +kernel
theorem d_BRg_isInBeing_35 : decode prog_10_method_10_code 35 = .ok (.iload_n 2, 1) := by decide +kernel
theorem d_BRg_isInBeing_36 : decode prog_10_method_10_code 36 = .ok (.iload_n 3, 1) := by decide +kernel
theorem d_BRg_isInBeing_37 : decode prog_10_method_10_code 37 = .ok (.invokevirtual 69, 3) := by decide +kernel
theorem d_BRg_isInBeing_40 : decode prog_10_method_10_code 40 = .ok (.ifCond .ne 7, 3) := by decide +kernel
theorem d_BRg_isInBeing_43 : decode prog_10_method_10_code 43 = .ok (.iconst 1, 1) := by decide +kernel
theorem d_BRg_isInBeing_44 : decode prog_10_method_10_code 44 = .ok (.goto 4, 3) := by decide +kernel
def wp_BRg_isInBeing_29 (post : Int → CS → Prop) (v0 : Nat) (v2 : Int) (v3 : Int) (v4 : Nat) (T : CS) : Prop := tg T v4 = 9 ∧ (tg T v0 = 5 ∧ wp_BRg_isInForce (fun r_2 T_1 => inR r_2 ∧ (¬ (r_2 = 0) → post 0 T_1) ∧ (r_2 = 0 → post 1 T_1)) v0 (fi T v4 4) v2 v3 T)
def wp_BRg_isInBeing (post : Int → CS → Prop) (v0 : Nat) (v1 : Int) (v2 : Int) (v3 : Int) (T : CS) : Prop := tg T v0 = 5 ∧ wp_BRg_lot (fun r_2 T_1 => tg T_1 r_2 = 9 ∧ (inR (fi T_1 r_2 1) ∧ ((fi T_1 r_2 1) = 0 → wp_BRg_isInBeing_29 post v0 v2 v3 r_2 T_1) ∧ (¬ ((fi T_1 r_2 1) = 0) → (tg T_1 r_2 = 9 ∧ (tg T_1 v0 = 5 ∧ wp_BRg_isInForce (fun r_4 T_3 => inR r_4 ∧ (r_4 = 0 → post 0 T_3) ∧ (¬ (r_4 = 0) → wp_BRg_isInBeing_29 post v0 v2 v3 r_2 T_3)) v0 (fi T_1 r_2 1) v2 v3 T_1))))) v0 v1 T
set_option maxHeartbeats 4000000 in
set_option maxRecDepth 100000 in
theorem c_BRg_isInBeing (l : Launch) {D : va_G} {k : CK} {post : Int → CS → Prop} {v0 : Nat} {v1 : Int} {v2 : Int} {v3 : Int} {T : CS} (hw : wp_BRg_isInBeing post v0 v1 v2 v3 T) : jCi l D k y_BRg_isInBeing prog_10_method_10_code 5 (some .boolean) 4 87 0 0 T [.ref v0, vi v1, vi v2, vi v3] post := by
  refine j_coz (own := "LandBook$Register") (by decide) rfl (Nat.le_of_ble_eq_true rfl) (fun X F K hT hret => ?_)
  have B29 : ∀ (v0 : Nat) (v2 : Int) (v3 : Int) (v4 : Nat) (T : CS), cs_ok k T → wp_BRg_isInBeing_29 post v0 v2 v3 v4 T → jat l D X 5 29 [(0, .ref v0), (2, vi v2), (3, vi v3), (4, .ref v4)] [] (cwd k T) 0 0 := by
    intro v0 v2 v3 v4 T hT hw
    unfold wp_BRg_isInBeing_29 at hw
    refine j_aload_n F 0 d_BRg_isInBeing_29 rfl ?_
    refine j_aload F 3 d_BRg_isInBeing_30 rfl ?_
    obtain ⟨hc1, hw⟩ := hw
    refine c_geti F K hT 9 4 rfl tu_Lot (by decide) (by decide) rfl tq_343 (Or.inl rfl) hc1 d_BRg_isInBeing_32 ?_
    refine j_iload_n F 1 d_BRg_isInBeing_35 rfl ?_
    refine j_iload_n F 2 d_BRg_isInBeing_36 rfl ?_
    obtain ⟨hg1, hw⟩ := hw
    refine c_callVi F K hT (c_BRg_isInForce l hw) (tw_gV tq_339 tq_340 tq_341 tq_336 tq_342) 5 rfl (by decide) hg1 q_BRg_isInForce rfl ⟨by decide, by decide⟩ ⟨by omega, by omega⟩ rfl (Nat.le_of_ble_eq_true rfl) d_BRg_isInBeing_37 (fun r_2 T_1 hw hT => ?_)
    obtain ⟨hc1, hwt, hwf⟩ := hw
    refine j_if_ne F 47 hc1 d_BRg_isInBeing_40 rfl (fun hh => ?_) (fun hh => ?_)
    · have hw := hwt hh
      refine j_iconst F d_BRg_isInBeing_47 ?_
      exact hret _ _ _ _ _ _ hw hT (by omega) (by omega) (Or.inl rfl) d_BRg_isInBeing_48
    · have hw := hwf hh
      refine j_iconst F d_BRg_isInBeing_43 ?_
      refine j_goto F 48 d_BRg_isInBeing_44 rfl ?_
      exact hret _ _ _ _ _ _ hw hT (by omega) (by omega) (Or.inr rfl) d_BRg_isInBeing_48
  unfold wp_BRg_isInBeing at hw
  show jat l D X 5 0 [(0, .ref v0), (1, vi v1), (2, vi v2), (3, vi v3)] [] (cwd k T) 0 0
  refine j_aload_n F 0 d_BRg_isInBeing_0 rfl ?_
  refine j_iload_n F 1 d_BRg_isInBeing_1 rfl ?_
  obtain ⟨hg1, hw⟩ := hw
  refine c_callVr F K hT (c_BRg_lot l hw) (tw_gV tq_333 tq_334 tq_335 tq_336 tq_337) 5 rfl (by decide) hg1 q_BRg_lot rfl ⟨by decide, by decide⟩ ⟨by omega, by omega⟩ rfl (Nat.le_of_ble_eq_true rfl) d_BRg_isInBeing_2 (fun r_2 T_1 hw hT => ?_)
  refine j_astore F [(4, .ref r_2), (0, .ref v0), (1, vi v1), (2, vi v2), (3, vi v3)] d_BRg_isInBeing_5 (by decide) rfl ?_
  refine j_aload F 0 d_BRg_isInBeing_7 rfl ?_
  obtain ⟨hc1, hw⟩ := hw
  refine c_geti F K hT 9 1 rfl tu_Lot (by decide) (by decide) rfl tq_338 (Or.inl rfl) hc1 d_BRg_isInBeing_9 ?_
  obtain ⟨hc1, hwt, hwf⟩ := hw
  refine j_if_eq F 29 hc1 d_BRg_isInBeing_12 rfl (fun hh => ?_) (fun hh => ?_)
  · have hw := hwt hh
    refine j_sub [1, 3, 4, 0] rfl ?_
    exact B29 _ _ _ _ _ hT hw
  · have hw := hwf hh
    refine j_aload_n F 1 d_BRg_isInBeing_15 rfl ?_
    refine j_aload F 0 d_BRg_isInBeing_16 rfl ?_
    obtain ⟨hc1, hw⟩ := hw
    refine c_geti F K hT 9 1 rfl tu_Lot (by decide) (by decide) rfl tq_338 (Or.inl rfl) hc1 d_BRg_isInBeing_18 ?_
    refine j_iload_n F 3 d_BRg_isInBeing_21 rfl ?_
    refine j_iload_n F 4 d_BRg_isInBeing_22 rfl ?_
    obtain ⟨hg1, hw⟩ := hw
    refine c_callVi F K hT (c_BRg_isInForce l hw) (tw_gV tq_339 tq_340 tq_341 tq_336 tq_342) 5 rfl (by decide) hg1 q_BRg_isInForce rfl ⟨by decide, by decide⟩ ⟨by omega, by omega⟩ rfl (Nat.le_of_ble_eq_true rfl) d_BRg_isInBeing_23 (fun r_4 T_3 hw hT => ?_)
    obtain ⟨hc1, hwt, hwf⟩ := hw
    refine j_if_eq F 47 hc1 d_BRg_isInBeing_26 rfl (fun hh => ?_) (fun hh => ?_)
    · have hw := hwt hh
      refine j_iconst F d_BRg_isInBeing_47 ?_
      exact hret _ _ _ _ _ _ hw hT (by omega) (by omega) (Or.inl rfl) d_BRg_isInBeing_48
    · have hw := hwf hh
      refine j_sub [1, 3, 4, 0] rfl ?_
      exact B29 _ _ _ _ _ hT hw
theorem tq_344 : (Jvm.Cond.methodLink "LandBook$Register" (76 : Nat) ({ cls := "LandBook$Register", name := "easement", desc := "(I)LLandBook$Easement;" } : Jvm.MethodName)) ∈ tw_G := tw_in (List.mem_of_getElem? (i := 771) (by decide +kernel)) rfl
theorem tq_345 : (Jvm.Cond.instanceMethod ({ cls := "LandBook$Register", name := "easement", desc := "(I)LLandBook$Easement;" } : Jvm.MethodName)) ∈ tw_G := tw_in (List.mem_of_getElem? (i := 773) (by decide +kernel)) rfl
theorem tq_346 : (Jvm.Cond.selects "LandBook$Register" ⟨"LandBook$Register", "easement", "(I)LLandBook$Easement;"⟩ ⟨"LandBook$Register", "easement", "(I)LLandBook$Easement;"⟩) ∈ tw_G := tw_in (List.mem_of_getElem? (i := 16) (by decide +kernel)) rfl
theorem tq_347 : (Jvm.Cond.code ({ cls := "LandBook$Register", name := "easement", desc := "(I)LLandBook$Easement;" } : Jvm.MethodName) prog_10_method_6_code (2 : Nat) (Option.some (Jvm.ClassFile.FieldType.object "LandBook$Easement"))) ∈ tw_G := tw_in (List.mem_of_getElem? (i := 774) (by decide +kernel)) rfl
theorem tq_348 : (Jvm.Cond.fieldLink "LandBook$Register" (80 : Nat) "LandBook$Easement" "granted" "I") ∈ tw_G := tw_in (List.mem_of_getElem? (i := 855) (by decide +kernel)) rfl
theorem tq_349 : (Jvm.Cond.fieldLink "LandBook$Register" (83 : Nat) "LandBook$Easement" "released" "I") ∈ tw_G := tw_in (List.mem_of_getElem? (i := 856) (by decide +kernel)) rfl
abbrev y_BRg_stands : MethodName := ⟨"LandBook$Register", "stands", "(III)Z"⟩
theorem q_BRg_stands : y_BRg_stands.cls = "LandBook$Register" ∧ y_BRg_stands.cls ≠ "java/lang/invoke/MethodHandle" ∧ y_BRg_stands.cls ≠ "java/lang/invoke/VarHandle" ∧ (parseMethodDescriptor y_BRg_stands.desc).map (fun d => d.parameters.length) = some 3 := by decide +kernel
theorem d_BRg_stands_0 : decode prog_10_method_11_code 0 = .ok (.aload_n 0, 1) := by decide +kernel
theorem d_BRg_stands_1 : decode prog_10_method_11_code 1 = .ok (.iload_n 1, 1) := by decide +kernel
theorem d_BRg_stands_2 : decode prog_10_method_11_code 2 = .ok (.invokevirtual 76, 3) := by decide +kernel
theorem d_BRg_stands_5 : decode prog_10_method_11_code 5 = .ok (.astore 4, 2) := by decide +kernel
theorem d_BRg_stands_7 : decode prog_10_method_11_code 7 = .ok (.aload_n 0, 1) := by decide +kernel
theorem d_BRg_stands_8 : decode prog_10_method_11_code 8 = .ok (.aload 4, 2) := by decide +kernel
theorem d_BRg_stands_10 : decode prog_10_method_11_code 10 = .ok (.getfield 80, 3) := by decide +kernel
theorem d_BRg_stands_13 : decode prog_10_method_11_code 13 = .ok (.iload_n 2, 1) := by decide +kernel
theorem d_BRg_stands_14 : decode prog_10_method_11_code 14 = .ok (.iload_n 3, 1) := by decide +kernel
theorem d_BRg_stands_15 : decode prog_10_method_11_code 15 = .ok (.invokevirtual 69, 3) := by decide +kernel
theorem d_BRg_stands_18 : decode prog_10_method_11_code 18 = .ok (.ifCond .eq 21, 3) := by decide +kernel
theorem d_BRg_stands_39 : decode prog_10_method_11_code 39 = .ok (.iconst 0, 1) := by decide +kernel
theorem d_BRg_stands_40 : decode prog_10_method_11_code 40 = .ok (.ireturn, 1) := by decide +kernel
theorem d_BRg_stands_21 : decode prog_10_method_11_code 21 = .ok (.aload_n 0, 1) := by decide +kernel
theorem d_BRg_stands_22 : decode prog_10_method_11_code 22 = .ok (.aload 4, 2) := by decide +kernel
theorem d_BRg_stands_24 : decode prog_10_method_11_code 24 = .ok (.getfield 83, 3) := by decide +kernel
theorem d_BRg_stands_27 : decode prog_10_method_11_code 27 = .ok (.iload_n 2, 1) := by decide +kernel
theorem d_BRg_stands_28 : decode prog_10_method_11_code 28 = .ok (.iload_n 3, 1) := by decide +kernel
theorem d_BRg_stands_29 : decode prog_10_method_11_code 29 = .ok (.invokevirtual 69, 3) := by decide +kernel
theorem d_BRg_stands_32 : decode prog_10_method_11_code 32 = .ok (.ifCond .ne 7, 3) := by decide +kernel
theorem d_BRg_stands_35 : decode prog_10_method_11_code 35 = .ok (.iconst 1, 1) := by decide +kernel
theorem d_BRg_stands_36 : decode prog_10_method_11_code 36 = .ok (.goto 4, 3) := by decide +kernel
def wp_BRg_stands (post : Int → CS → Prop) (v0 : Nat) (v1 : Int) (v2 : Int) (v3 : Int) (T : CS) : Prop := tg T v0 = 5 ∧ wp_BRg_easement (fun r_2 T_1 => tg T_1 r_2 = 10 ∧ (tg T_1 v0 = 5 ∧ wp_BRg_isInForce (fun r_4 T_3 => inR r_4 ∧ (r_4 = 0 → post 0 T_3) ∧ (¬ (r_4 = 0) → (tg T_3 r_2 = 10 ∧ (tg T_3 v0 = 5 ∧ wp_BRg_isInForce (fun r_6 T_5 => inR r_6 ∧ (¬ (r_6 = 0) → post 0 T_5) ∧ (r_6 = 0 → post 1 T_5)) v0 (fi T_3 r_2 2) v2 v3 T_3)))) v0 (fi T_1 r_2 1) v2 v3 T_1)) v0 v1 T
set_option maxHeartbeats 4000000 in
set_option maxRecDepth 100000 in
theorem c_BRg_stands (l : Launch) {D : va_G} {k : CK} {post : Int → CS → Prop} {v0 : Nat} {v1 : Int} {v2 : Int} {v3 : Int} {T : CS} (hw : wp_BRg_stands post v0 v1 v2 v3 T) : jCi l D k y_BRg_stands prog_10_method_11_code 5 (some .boolean) 4 87 0 0 T [.ref v0, vi v1, vi v2, vi v3] post := by
  refine j_coz (own := "LandBook$Register") (by decide) rfl (Nat.le_of_ble_eq_true rfl) (fun X F K hT hret => ?_)
  unfold wp_BRg_stands at hw
  show jat l D X 5 0 [(0, .ref v0), (1, vi v1), (2, vi v2), (3, vi v3)] [] (cwd k T) 0 0
  refine j_aload_n F 0 d_BRg_stands_0 rfl ?_
  refine j_iload_n F 1 d_BRg_stands_1 rfl ?_
  obtain ⟨hg1, hw⟩ := hw
  refine c_callVr F K hT (c_BRg_easement l hw) (tw_gV tq_344 tq_345 tq_346 tq_336 tq_347) 5 rfl (by decide) hg1 q_BRg_easement rfl ⟨by decide, by decide⟩ ⟨by omega, by omega⟩ rfl (Nat.le_of_ble_eq_true rfl) d_BRg_stands_2 (fun r_2 T_1 hw hT => ?_)
  refine j_astore F [(4, .ref r_2), (0, .ref v0), (1, vi v1), (2, vi v2), (3, vi v3)] d_BRg_stands_5 (by decide) rfl ?_
  refine j_aload_n F 1 d_BRg_stands_7 rfl ?_
  refine j_aload F 0 d_BRg_stands_8 rfl ?_
  obtain ⟨hc1, hw⟩ := hw
  refine c_geti F K hT 10 1 rfl tu_Easement (by decide) (by decide) rfl tq_348 (Or.inl rfl) hc1 d_BRg_stands_10 ?_
  refine j_iload_n F 3 d_BRg_stands_13 rfl ?_
  refine j_iload_n F 4 d_BRg_stands_14 rfl ?_
  obtain ⟨hg1, hw⟩ := hw
  refine c_callVi F K hT (c_BRg_isInForce l hw) (tw_gV tq_339 tq_340 tq_341 tq_336 tq_342) 5 rfl (by decide) hg1 q_BRg_isInForce rfl ⟨by decide, by decide⟩ ⟨by omega, by omega⟩ rfl (Nat.le_of_ble_eq_true rfl) d_BRg_stands_15 (fun r_4 T_3 hw hT => ?_)
  obtain ⟨hc1, hwt, hwf⟩ := hw
  refine j_if_eq F 39 hc1 d_BRg_stands_18 rfl (fun hh => ?_) (fun hh => ?_)
  · have hw := hwt hh
    refine j_iconst F d_BRg_stands_39 ?_
    exact hret _ _ _ _ _ _ hw hT (by omega) (by omega) (Or.inl rfl) d_BRg_stands_40
  · have hw := hwf hh
    refine j_aload_n F 1 d_BRg_stands_21 rfl ?_
    refine j_aload F 0 d_BRg_stands_22 rfl ?_
    obtain ⟨hc1, hw⟩ := hw
    refine c_geti F K hT 10 2 rfl tu_Easement (by decide) (by decide) rfl tq_349 (Or.inl rfl) hc1 d_BRg_stands_24 ?_
    refine j_iload_n F 3 d_BRg_stands_27 rfl ?_
    refine j_iload_n F 4 d_BRg_stands_28 rfl ?_
    obtain ⟨hg1, hw⟩ := hw
    refine c_callVi F K hT (c_BRg_isInForce l hw) (tw_gV tq_339 tq_340 tq_341 tq_336 tq_342) 5 rfl (by decide) hg1 q_BRg_isInForce rfl ⟨by decide, by decide⟩ ⟨by omega, by omega⟩ rfl (Nat.le_of_ble_eq_true rfl) d_BRg_stands_29 (fun r_6 T_5 hw hT => ?_)
    obtain ⟨hc1, hwt, hwf⟩ := hw
    refine j_if_ne F 39 hc1 d_BRg_stands_32 rfl (fun hh => ?_) (fun hh => ?_)
    · have hw := hwt hh
      refine j_iconst F d_BRg_stands_39 ?_
      exact hret _ _ _ _ _ _ hw hT (by omega) (by omega) (Or.inl rfl) d_BRg_stands_40
    · have hw := hwf hh
      refine j_iconst F d_BRg_stands_35 ?_
      refine j_goto F 40 d_BRg_stands_36 rfl ?_
      exact hret _ _ _ _ _ _ hw hT (by omega) (by omega) (Or.inr rfl) d_BRg_stands_40
theorem tq_350 : (Jvm.Cond.methodLink "LandBook$Register" (86 : Nat) ({ cls := "LandBook$Register", name := "stands", desc := "(III)Z" } : Jvm.MethodName)) ∈ tw_G := tw_in (List.mem_of_getElem? (i := 767) (by decide +kernel)) rfl
theorem tq_351 : (Jvm.Cond.instanceMethod ({ cls := "LandBook$Register", name := "stands", desc := "(III)Z" } : Jvm.MethodName)) ∈ tw_G := tw_in (List.mem_of_getElem? (i := 768) (by decide +kernel)) rfl
theorem tq_352 : (Jvm.Cond.selects "LandBook$Register" ({ cls := "LandBook$Register", name := "stands", desc := "(III)Z" } : Jvm.MethodName) ({ cls := "LandBook$Register", name := "stands", desc := "(III)Z" } : Jvm.MethodName)) ∈ tw_G := tw_in (List.mem_of_getElem? (i := 769) (by decide +kernel)) rfl
theorem tq_353 : (Jvm.Cond.code ({ cls := "LandBook$Register", name := "stands", desc := "(III)Z" } : Jvm.MethodName) prog_10_method_11_code (5 : Nat) (Option.some Jvm.ClassFile.FieldType.boolean)) ∈ tw_G := tw_in (List.mem_of_getElem? (i := 770) (by decide +kernel)) rfl
theorem tq_354 : (Jvm.Cond.fieldLink "LandBook$Register" (89 : Nat) "LandBook$Easement" "over" "I") ∈ tw_G := tw_in (List.mem_of_getElem? (i := 853) (by decide +kernel)) rfl
theorem tq_355 : (Jvm.Cond.methodLink "LandBook$Register" (92 : Nat) ({ cls := "LandBook$Lot", name := "tookOver", desc := "(I)Z" } : Jvm.MethodName)) ∈ tw_G := tw_in (List.mem_of_getElem? (i := 776) (by decide +kernel)) rfl
theorem tq_356 : (Jvm.Cond.instanceMethod ({ cls := "LandBook$Lot", name := "tookOver", desc := "(I)Z" } : Jvm.MethodName)) ∈ tw_G := tw_in (List.mem_of_getElem? (i := 777) (by decide +kernel)) rfl
theorem tq_357 : (Jvm.Cond.selects "LandBook$Lot" ({ cls := "LandBook$Lot", name := "tookOver", desc := "(I)Z" } : Jvm.MethodName) ({ cls := "LandBook$Lot", name := "tookOver", desc := "(I)Z" } : Jvm.MethodName)) ∈ tw_G := tw_in (List.mem_of_getElem? (i := 778) (by decide +kernel)) rfl
theorem tq_358 : (Jvm.Cond.code ({ cls := "LandBook$Lot", name := "tookOver", desc := "(I)Z" } : Jvm.MethodName) prog_7_method_2_code (2 : Nat) (Option.some Jvm.ClassFile.FieldType.boolean)) ∈ tw_G := tw_in (List.mem_of_getElem? (i := 779) (by decide +kernel)) rfl
abbrev y_BRg_isBurdened : MethodName := ⟨"LandBook$Register", "isBurdened", "(IIII)Z"⟩
theorem q_BRg_isBurdened : y_BRg_isBurdened.cls = "LandBook$Register" ∧ y_BRg_isBurdened.cls ≠ "java/lang/invoke/MethodHandle" ∧ y_BRg_isBurdened.cls ≠ "java/lang/invoke/VarHandle" ∧ (parseMethodDescriptor y_BRg_isBurdened.desc).map (fun d => d.parameters.length) = some 4 := by decide +kernel
theorem d_BRg_isBurdened_0 : decode prog_10_method_12_code 0 = .ok (.aload_n 0, 1) := by decide +kernel
theorem d_BRg_isBurdened_1 : decode prog_10_method_12_code 1 = .ok (.iload_n 2, 1) := by decide +kernel
theorem d_BRg_isBurdened_2 : decode prog_10_method_12_code 2 = .ok (.iload_n 3, 1) := by decide +kernel
theorem d_BRg_isBurdened_3 : decode prog_10_method_12_code 3 = .ok (.iload 4, 2) := by decide +kernel
theorem d_BRg_isBurdened_5 : decode prog_10_method_12_code 5 = .ok (.invokevirtual 86, 3) := by decide +kernel
theorem d_BRg_isBurdened_8 : decode prog_10_method_12_code 8 = .ok (.ifCond .eq 31, 3) := by decide +kernel
theorem d_BRg_isBurdened_39 : decode prog_10_method_12_code 39 = .ok (.iconst 0, 1) := by decide +kernel
theorem d_BRg_isBurdened_40 : decode prog_10_method_12_code 40 = .ok (.ireturn, 1) := by decide +kernel
theorem d_BRg_isBurdened_11 : decode prog_10_method_12_code 11 = .ok (.aload_n 0, 1) := by decide +kernel
theorem d_BRg_isBurdened_12 : decode prog_10_method_12_code 12 = .ok (.iload_n 2, 1) := by decide +kernel
theorem d_BRg_isBurdened_13 : decode prog_10_method_12_code 13 = .ok (.invokevirtual 76, 3) := by decide +kernel
theorem d_BRg_isBurdened_16 : decode prog_10_method_12_code 16 = .ok (.getfield 89, 3) := by decide +kernel
theorem d_BRg_isBurdened_19 : decode prog_10_method_12_code 19 = .ok (.iload_n 1, 1) := by decide +kernel
theorem d_BRg_isBurdened_20 : decode prog_10_method_12_code 20 = .ok (.if_icmp .eq 15, 3) := by decide +kernel
theorem d_BRg_isBurdened_35 : decode prog_10_method_12_code 35 = .ok (.iconst 1, 1) := by decide +kernel
theorem d_BRg_isBurdened_36 : decode prog_10_method_12_code 36 = .ok (.goto 4, 3) := by decide +kernel
theorem d_BRg_isBurdened_23 : decode prog_10_method_12_code 23 = .ok (.aload_n 0, 1) := by decide +kernel
theorem d_BRg_isBurdened_24 : decode prog_10_method_12_code 24 = .ok (.iload_n 1, 1) := by decide +kernel
theorem d_BRg_isBurdened_25 : decode prog_10_method_12_code 25 = .ok (.invokevirtual 62, 3) := by decide +kernel
theorem d_BRg_isBurdened_28 : decode prog_10_method_12_code 28 = .ok (.iload_n 2, 1) := by decide +kernel
theorem d_BRg_isBurdened_29 : decode prog_10_method_12_code 29 = .ok (.invokevirtual 92, 3) := by decide +kernel
theorem d_BRg_isBurdened_32 : decode prog_10_method_12_code 32 = .ok (.ifCond .eq 7, 3) := by decide +kernel
def wp_BRg_isBurdened (post : Int → CS → Prop) (v0 : Nat) (v1 : Int) (v2 : Int) (v3 : Int) (v4 : Int) (T : CS) : Prop := tg T v0 = 5 ∧ wp_BRg_stands (fun r_2 T_1 => inR r_2 ∧ (r_2 = 0 → post 0 T_1) ∧ (¬ (r_2 = 0) → (tg T_1 v0 = 5 ∧ wp_BRg_easement (fun r_4 T_3 => tg T_3 r_4 = 10 ∧ (inR (fi T_3 r_4 0) ∧ inR v1 ∧ ((fi T_3 r_4 0) = v1 → post 1 T_3) ∧ (¬ ((fi T_3 r_4 0) = v1) → (tg T_3 v0 = 5 ∧ wp_BRg_lot (fun r_6 T_5 => tg T_5 r_6 = 9 ∧ wp_BLo_tookOver (fun r_8 T_7 => inR r_8 ∧ (r_8 = 0 → post 0 T_7) ∧ (¬ (r_8 = 0) → post 1 T_7)) r_6 v2 T_5) v0 v1 T_3)))) v0 v2 T_1))) v0 v2 v3 v4 T
set_option maxHeartbeats 4000000 in
set_option maxRecDepth 100000 in
theorem c_BRg_isBurdened (l : Launch) {D : va_G} {k : CK} {post : Int → CS → Prop} {v0 : Nat} {v1 : Int} {v2 : Int} {v3 : Int} {v4 : Int} {T : CS} (hw : wp_BRg_isBurdened post v0 v1 v2 v3 v4 T) : jCi l D k y_BRg_isBurdened prog_10_method_12_code 5 (some .boolean) 5 111 0 0 T [.ref v0, vi v1, vi v2, vi v3, vi v4] post := by
  refine j_coz (own := "LandBook$Register") (by decide) rfl (Nat.le_of_ble_eq_true rfl) (fun X F K hT hret => ?_)
  unfold wp_BRg_isBurdened at hw
  show jat l D X 5 0 [(0, .ref v0), (1, vi v1), (2, vi v2), (3, vi v3), (4, vi v4)] [] (cwd k T) 0 0
  refine j_aload_n F 0 d_BRg_isBurdened_0 rfl ?_
  refine j_iload_n F 2 d_BRg_isBurdened_1 rfl ?_
  refine j_iload_n F 3 d_BRg_isBurdened_2 rfl ?_
  refine j_iload F 4 d_BRg_isBurdened_3 rfl ?_
  obtain ⟨hg1, hw⟩ := hw
  refine c_callVi F K hT (c_BRg_stands l hw) (tw_gV tq_350 tq_351 tq_352 tq_336 tq_353) 5 rfl (by decide) hg1 q_BRg_stands rfl ⟨by decide, by decide⟩ ⟨by omega, by omega⟩ rfl (Nat.le_of_ble_eq_true rfl) d_BRg_isBurdened_5 (fun r_2 T_1 hw hT => ?_)
  obtain ⟨hc1, hwt, hwf⟩ := hw
  refine j_if_eq F 39 hc1 d_BRg_isBurdened_8 rfl (fun hh => ?_) (fun hh => ?_)
  · have hw := hwt hh
    refine j_iconst F d_BRg_isBurdened_39 ?_
    exact hret _ _ _ _ _ _ hw hT (by omega) (by omega) (Or.inl rfl) d_BRg_isBurdened_40
  · have hw := hwf hh
    refine j_aload_n F 0 d_BRg_isBurdened_11 rfl ?_
    refine j_iload_n F 2 d_BRg_isBurdened_12 rfl ?_
    obtain ⟨hg1, hw⟩ := hw
    refine c_callVr F K hT (c_BRg_easement l hw) (tw_gV tq_344 tq_345 tq_346 tq_336 tq_347) 5 rfl (by decide) hg1 q_BRg_easement rfl ⟨by decide, by decide⟩ ⟨by omega, by omega⟩ rfl (Nat.le_of_ble_eq_true rfl) d_BRg_isBurdened_13 (fun r_4 T_3 hw hT => ?_)
    obtain ⟨hc1, hw⟩ := hw
    refine c_geti F K hT 10 0 rfl tu_Easement (by decide) (by decide) rfl tq_354 (Or.inl rfl) hc1 d_BRg_isBurdened_16 ?_
    refine j_iload_n F 1 d_BRg_isBurdened_19 rfl ?_
    obtain ⟨hc1, hc2, hwt, hwf⟩ := hw
    refine j_icmp_eq F 35 hc1 hc2 d_BRg_isBurdened_20 rfl (fun hh => ?_) (fun hh => ?_)
    · have hw := hwt hh
      refine j_iconst F d_BRg_isBurdened_35 ?_
      refine j_goto F 40 d_BRg_isBurdened_36 rfl ?_
      exact hret _ _ _ _ _ _ hw hT (by omega) (by omega) (Or.inr rfl) d_BRg_isBurdened_40
    · have hw := hwf hh
      refine j_aload_n F 0 d_BRg_isBurdened_23 rfl ?_
      refine j_iload_n F 1 d_BRg_isBurdened_24 rfl ?_
      obtain ⟨hg1, hw⟩ := hw
      refine c_callVr F K hT (c_BRg_lot l hw) (tw_gV tq_333 tq_334 tq_335 tq_336 tq_337) 5 rfl (by decide) hg1 q_BRg_lot rfl ⟨by decide, by decide⟩ ⟨by omega, by omega⟩ rfl (Nat.le_of_ble_eq_true rfl) d_BRg_isBurdened_25 (fun r_6 T_5 hw hT => ?_)
      refine j_iload_n F 2 d_BRg_isBurdened_28 rfl ?_
      obtain ⟨hg1, hw⟩ := hw
      refine c_callVi F K hT (c_BLo_tookOver l hw) (tw_gV tq_355 tq_356 tq_357 tq_319 tq_358) 9 rfl (by decide) hg1 q_BLo_tookOver rfl ⟨by decide, by decide⟩ ⟨by omega, by omega⟩ rfl (Nat.le_of_ble_eq_true rfl) d_BRg_isBurdened_29 (fun r_8 T_7 hw hT => ?_)
      obtain ⟨hc1, hwt, hwf⟩ := hw
      refine j_if_eq F 39 hc1 d_BRg_isBurdened_32 rfl (fun hh => ?_) (fun hh => ?_)
      · have hw := hwt hh
        refine j_iconst F d_BRg_isBurdened_39 ?_
        exact hret _ _ _ _ _ _ hw hT (by omega) (by omega) (Or.inl rfl) d_BRg_isBurdened_40
      · have hw := hwf hh
        refine j_iconst F d_BRg_isBurdened_35 ?_
        refine j_goto F 40 d_BRg_isBurdened_36 rfl ?_
        exact hret _ _ _ _ _ _ hw hT (by omega) (by omega) (Or.inr rfl) d_BRg_isBurdened_40
theorem tq_359 : (Jvm.Cond.methodLink "LandBook$Register" (106 : Nat) ({ cls := "java/util/Arrays", name := "copyOf", desc := "([II)[I" } : Jvm.MethodName)) ∈ tw_G := tw_in (List.mem_of_getElem? (i := 877) (by decide +kernel)) rfl
theorem tq_360 : (Jvm.Cond.static ({ cls := "java/util/Arrays", name := "copyOf", desc := "([II)[I" } : Jvm.MethodName)) ∈ tw_G := tw_in (List.mem_of_getElem? (i := 731) (by decide +kernel)) rfl
theorem tq_361 : (Jvm.Cond.code ({ cls := "java/util/Arrays", name := "copyOf", desc := "([II)[I" } : Jvm.MethodName) prog_31_method_123_code (3 : Nat) (Option.some (Jvm.ClassFile.FieldType.array Jvm.ClassFile.FieldType.int))) ∈ tw_G := tw_in (List.mem_of_getElem? (i := 732) (by decide +kernel)) rfl
theorem tq_362 : (Jvm.Cond.methodLink "LandBook$Register" (96 : Nat) ({ cls := "LandBook$Register", name := "lastEntry", desc := "()I" } : Jvm.MethodName)) ∈ tw_G := tw_in (List.mem_of_getElem? (i := 577) (by decide +kernel)) rfl
theorem tq_363 : (Jvm.Cond.instanceMethod ({ cls := "LandBook$Register", name := "lastEntry", desc := "()I" } : Jvm.MethodName)) ∈ tw_G := tw_in (List.mem_of_getElem? (i := 578) (by decide +kernel)) rfl
theorem tq_364 : (Jvm.Cond.selects "LandBook$Register" ({ cls := "LandBook$Register", name := "lastEntry", desc := "()I" } : Jvm.MethodName) ({ cls := "LandBook$Register", name := "lastEntry", desc := "()I" } : Jvm.MethodName)) ∈ tw_G := tw_in (List.mem_of_getElem? (i := 579) (by decide +kernel)) rfl
theorem tq_365 : (Jvm.Cond.code ({ cls := "LandBook$Register", name := "lastEntry", desc := "()I" } : Jvm.MethodName) prog_10_method_2_code (1 : Nat) (Option.some Jvm.ClassFile.FieldType.int)) ∈ tw_G := tw_in (List.mem_of_getElem? (i := 580) (by decide +kernel)) rfl
theorem tq_366 : (Jvm.Cond.methodLink "LandBook$Register" (99 : Nat) ({ cls := "LandBook$Register", name := "isInBeing", desc := "(III)Z" } : Jvm.MethodName)) ∈ tw_G := tw_in (List.mem_of_getElem? (i := 581) (by decide +kernel)) rfl
theorem tq_367 : (Jvm.Cond.instanceMethod ({ cls := "LandBook$Register", name := "isInBeing", desc := "(III)Z" } : Jvm.MethodName)) ∈ tw_G := tw_in (List.mem_of_getElem? (i := 582) (by decide +kernel)) rfl
theorem tq_368 : (Jvm.Cond.selects "LandBook$Register" ({ cls := "LandBook$Register", name := "isInBeing", desc := "(III)Z" } : Jvm.MethodName) ({ cls := "LandBook$Register", name := "isInBeing", desc := "(III)Z" } : Jvm.MethodName)) ∈ tw_G := tw_in (List.mem_of_getElem? (i := 583) (by decide +kernel)) rfl
theorem tq_369 : (Jvm.Cond.code ({ cls := "LandBook$Register", name := "isInBeing", desc := "(III)Z" } : Jvm.MethodName) prog_10_method_10_code (5 : Nat) (Option.some Jvm.ClassFile.FieldType.boolean)) ∈ tw_G := tw_in (List.mem_of_getElem? (i := 584) (by decide +kernel)) rfl
theorem tq_370 : (Jvm.Cond.methodLink "LandBook$Register" (102 : Nat) ({ cls := "LandBook$Register", name := "isBurdened", desc := "(IIII)Z" } : Jvm.MethodName)) ∈ tw_G := tw_in (List.mem_of_getElem? (i := 763) (by decide +kernel)) rfl
theorem tq_371 : (Jvm.Cond.instanceMethod ({ cls := "LandBook$Register", name := "isBurdened", desc := "(IIII)Z" } : Jvm.MethodName)) ∈ tw_G := tw_in (List.mem_of_getElem? (i := 764) (by decide +kernel)) rfl
theorem tq_372 : (Jvm.Cond.selects "LandBook$Register" ({ cls := "LandBook$Register", name := "isBurdened", desc := "(IIII)Z" } : Jvm.MethodName) ({ cls := "LandBook$Register", name := "isBurdened", desc := "(IIII)Z" } : Jvm.MethodName)) ∈ tw_G := tw_in (List.mem_of_getElem? (i := 765) (by decide +kernel)) rfl
theorem tq_373 : (Jvm.Cond.code ({ cls := "LandBook$Register", name := "isBurdened", desc := "(IIII)Z" } : Jvm.MethodName) prog_10_method_12_code (5 : Nat) (Option.some Jvm.ClassFile.FieldType.boolean)) ∈ tw_G := tw_in (List.mem_of_getElem? (i := 766) (by decide +kernel)) rfl
abbrev y_BRg_lotsBurdened : MethodName := ⟨"LandBook$Register", "lotsBurdened", "(II)[I"⟩
theorem q_BRg_lotsBurdened : y_BRg_lotsBurdened.cls = "LandBook$Register" ∧ y_BRg_lotsBurdened.cls ≠ "java/lang/invoke/MethodHandle" ∧ y_BRg_lotsBurdened.cls ≠ "java/lang/invoke/VarHandle" ∧ (parseMethodDescriptor y_BRg_lotsBurdened.desc).map (fun d => d.parameters.length) = some 2 := by decide +kernel
theorem d_BRg_lotsBurdened_0 : decode prog_10_method_13_code 0 = .ok (.aload_n 0, 1) := by decide +kernel
theorem d_BRg_lotsBurdened_1 : decode prog_10_method_13_code 1 = .ok (.getfield 18, 3) := by decide +kernel
theorem d_BRg_lotsBurdened_4 : decode prog_10_method_13_code 4 = .ok (.invokevirtual 31, 3) := by decide +kernel
theorem d_BRg_lotsBurdened_7 : decode prog_10_method_13_code 7 = .ok (.newarray .int, 2) := by decide +kernel
theorem d_BRg_lotsBurdened_9 : decode prog_10_method_13_code 9 = .ok (.astore_n 3, 1) := by decide +kernel
theorem d_BRg_lotsBurdened_10 : decode prog_10_method_13_code 10 = .ok (.iconst 0, 1) := by decide +kernel
theorem d_BRg_lotsBurdened_11 : decode prog_10_method_13_code 11 = .ok (.istore 4, 2) := by decide +kernel
theorem d_BRg_lotsBurdened_13 : decode prog_10_method_13_code 13 = .ok (.iconst 1, 1) := by decide +kernel
theorem d_BRg_lotsBurdened_14 : decode prog_10_method_13_code 14 = .ok (.istore 5, 2) := by decide +kernel
theorem d_BRg_lotsBurdened_16 : decode prog_10_method_13_code 16 = .ok (.iload 5, 2) := by decide +kernel
theorem d_BRg_lotsBurdened_18 : decode prog_10_method_13_code 18 = .ok (.aload_n 0, 1) := by decide +kernel
theorem d_BRg_lotsBurdened_19 : decode prog_10_method_13_code 19 = .ok (.getfield 18, 3) := by decide +kernel
theorem d_BRg_lotsBurdened_22 : decode prog_10_method_13_code 22 = .ok (.invokevirtual 31, 3) := by decide +kernel
theorem d_BRg_lotsBurdened_25 : decode prog_10_method_13_code 25 = .ok (.if_icmp .gt 47, 3) := by decide +kernel
theorem d_BRg_lotsBurdened_72 : decode prog_10_method_13_code 72 = .ok (.aload_n 3, 1) := by decide +kernel
theorem d_BRg_lotsBurdened_73 : decode prog_10_method_13_code 73 = .ok (.iload 4, 2) := by decide +kernel
theorem d_BRg_lotsBurdened_75 : decode prog_10_method_13_code 75 = .ok (.invokestatic 106, 3) := by decide +kernel
theorem d_BRg_lotsBurdened_78 : decode prog_10_method_13_code 78 = .ok (.areturn, 1) := by decide +kernel
theorem d_BRg_lotsBurdened_28 : decode prog_10_method_13_code 28 = .ok (.aload_n 0, 1) := by decide +kernel
theorem d_BRg_lotsBurdened_29 : decode prog_10_method_13_code 29 = .ok (.iload 5, 2) := by decide +kernel
theorem d_BRg_lotsBurdened_31 : decode prog_10_method_13_code 31 = .ok (.iload_n 2, 1) := by decide +kernel
theorem d_BRg_lotsBurdened_32 : decode prog_10_method_13_code 32 = .ok (.aload_n 0, 1) := by decide +kernel
theorem d_BRg_lotsBurdened_33 : decode prog_10_method_13_code 33 = .ok (.invokevirtual 96, 3) := by decide +kernel
theorem d_BRg_lotsBurdened_36 : decode prog_10_method_13_code 36 = .ok (.invokevirtual 99, 3) := by decide +kernel
theorem d_BRg_lotsBurdened_39 : decode prog_10_method_13_code 39 = .ok (.ifCond .eq 27, 3) := by decide +kernel
theorem d_BRg_lotsBurdened_42 : decode prog_10_method_13_code 42 = .ok (.aload_n 0, 1) := by decide +kernel
theorem d_BRg_lotsBurdened_43 : decode prog_10_method_13_code 43 = .ok (.iload 5, 2) := by decide +kernel
theorem d_BRg_lotsBurdened_45 : decode prog_10_method_13_code 45 = .ok (.iload_n 1, 1) := by decide +kernel
theorem d_BRg_lotsBurdened_46 : decode prog_10_method_13_code 46 = .ok (.iload_n 2, 1) := by decide +kernel
theorem d_BRg_lotsBurdened_47 : decode prog_10_method_13_code 47 = .ok (.aload_n 0, 1) := by decide +kernel
theorem d_BRg_lotsBurdened_48 : decode prog_10_method_13_code 48 = .ok (.invokevirtual 96, 3) := by decide +kernel
theorem d_BRg_lotsBurdened_51 : decode prog_10_method_13_code 51 = .ok (.invokevirtual 102, 3) := by decide +kernel
theorem d_BRg_lotsBurdened_54 : decode prog_10_method_13_code 54 = .ok (.ifCond .eq 12, 3) := by decide +kernel
theorem d_BRg_lotsBurdened_57 : decode prog_10_method_13_code 57 = .ok (.aload_n 3, 1) := by decide +kernel
theorem d_BRg_lotsBurdened_58 : decode prog_10_method_13_code 58 = .ok (.iload 4, 2) := by decide +kernel
theorem d_BRg_lotsBurdened_60 : decode prog_10_method_13_code 60 = .ok (.iload 5, 2) := by decide +kernel
theorem d_BRg_lotsBurdened_62 : decode prog_10_method_13_code 62 = .ok (.iastore, 1) := by decide +kernel
theorem d_BRg_lotsBurdened_63 : decode prog_10_method_13_code 63 = .ok (.iinc 4 1, 3) := by decide +kernel
theorem d_BRg_lotsBurdened_66 : decode prog_10_method_13_code 66 = .ok (.iinc 5 1, 3) := by decide +kernel
theorem d_BRg_lotsBurdened_69 : decode prog_10_method_13_code 69 = .ok (.goto (-53), 3) := by decide +kernel
def wp_BRg_lotsBurdened_66 (post : Nat → CS → Prop) (k16 : Nat → Nat → Nat → Int → Int → Nat → Int → Int → CS → Prop) (mc0 : Nat) (ms0 : Nat) (v0 : Nat) (v1 : Int) (v2 : Int) (v3 : Nat) (v4 : Int) (v5 : Int) (T : CS) : Prop := k16 mc0 ms0 v0 v1 v2 v3 v4 (v5 + 1) T
def wp_BRg_lotsBurdened_16 (post : Nat → CS → Prop) : Nat → Nat → Nat → Nat → Int → Int → Nat → Int → Int → CS → Prop
  | 0, _, _, _, _, _, _, _, _, _ => False
  | n + 1, mc0, ms0, v0, v1, v2, v3, v4, v5, T => tg T v0 = 5 ∧ ∃ q_1 : Nat, fo T v0 1 = some q_1 ∧ (tg T q_1 = 7 ∧ wp_BAL_size (fun r_3 T_2 => inR v5 ∧ inR r_3 ∧ (r_3 < v5 → (∃ mc_6 ms_7 mc_8 ms_9 : Nat, (mc0 = mc_6 + mc_8 ∧ ms0 = ms_7 + ms_9) ∧ wp_BAr_copyOfI (fun r_5 T_4 => post r_5 T_4) mc_6 ms_7 v3 v4 T_2)) ∧ (¬ (r_3 < v5) → (tg T_2 v0 = 5 ∧ wp_BRg_lastEntry (fun r_11 T_10 => tg T_10 v0 = 5 ∧ wp_BRg_isInBeing (fun r_13 T_12 => inR r_13 ∧ (r_13 = 0 → wp_BRg_lotsBurdened_66 post (wp_BRg_lotsBurdened_16 post n) mc0 ms0 v0 v1 v2 v3 v4 v5 T_12) ∧ (¬ (r_13 = 0) → (tg T_12 v0 = 5 ∧ wp_BRg_lastEntry (fun r_15 T_14 => tg T_14 v0 = 5 ∧ wp_BRg_isBurdened (fun r_17 T_16 => inR r_17 ∧ (r_17 = 0 → wp_BRg_lotsBurdened_66 post (wp_BRg_lotsBurdened_16 post n) mc0 ms0 v0 v1 v2 v3 v4 v5 T_16) ∧ (¬ (r_17 = 0) → (tg T_16 v3 = 11 ∧ ixR v4 (ln T_16 v3) ∧ ((∀ T_18 : CS, T_18 = cs_i T_16 v3 v4.toNat v5 → wp_BRg_lotsBurdened_66 post (wp_BRg_lotsBurdened_16 post n) mc0 ms0 v0 v1 v2 v3 (v4 + 1) v5 T_18))))) v0 v5 v1 v2 r_15 T_14) v0 T_12))) v0 v5 v2 r_11 T_10) v0 T_2))) q_1 T)
def wp_BRg_lotsBurdened (post : Nat → CS → Prop) (mc0 ms0 : Nat) (v0 : Nat) (v1 : Int) (v2 : Int) (T : CS) : Prop := tg T v0 = 5 ∧ ∃ q_1 : Nat, fo T v0 1 = some q_1 ∧ (tg T q_1 = 7 ∧ wp_BAL_size (fun r_3 T_2 => ((0 : Int) ≤ r_3 ∧ (r_3 : Int) ≤ 134217728) ∧ ∃ mc_6 ms_7 : Nat, (mc0 = 1 + mc_6 ∧ ms0 = r_3.toNat + ms_7) ∧ (∀ (q_4 : Nat) (T_5 : CS), tg T_2 q_4 = 0 → T_5 = cs_new T_2 q_4 11 r_3.toNat → ∃ nn : Nat, wp_BRg_lotsBurdened_16 post nn mc_6 ms_7 v0 v1 v2 q_4 0 1 T_5)) q_1 T)
set_option maxHeartbeats 4000000 in
set_option maxRecDepth 100000 in
theorem c_BRg_lotsBurdened (l : Launch) {D : va_G} {k : CK} {post : Nat → CS → Prop} {mc ms : Nat} {v0 : Nat} {v1 : Int} {v2 : Int} {T : CS} (hw : wp_BRg_lotsBurdened post mc ms v0 v1 v2 T) : jCr l D k y_BRg_lotsBurdened prog_10_method_13_code 6 (some (.array .int)) 6 135 mc ms T [.ref v0, vi v1, vi v2] post := by
  refine j_cor (Or.inr ⟨_, rfl⟩) (own := "LandBook$Register") (by decide) rfl (Nat.le_of_ble_eq_true rfl) (fun X F K hT hret => ?_)
  have B16 : ∀ (nn : Nat) (mc0 : Nat) (ms0 : Nat) (v0 : Nat) (v1 : Int) (v2 : Int) (v3 : Nat) (v4 : Int) (v5 : Int) (T : CS) (c0 n0 : Nat), c0 + mc0 = mc → n0 + ms0 = ms → cs_ok k T → wp_BRg_lotsBurdened_16 post nn mc0 ms0 v0 v1 v2 v3 v4 v5 T → jat l D X 6 16 [(0, .ref v0), (1, vi v1), (2, vi v2), (3, .ref v3), (4, vi v4), (5, vi v5)] [] (cwd k T) c0 n0 := by
    intro nn
    induction nn with
    | zero => intro mc0 ms0 v0 v1 v2 v3 v4 v5 T c0 n0 hc0 hn0 hT hw; exact hw.elim
    | succ n16 ih16 =>
      have B66 : ∀ (mc0 : Nat) (ms0 : Nat) (v0 : Nat) (v1 : Int) (v2 : Int) (v3 : Nat) (v4 : Int) (v5 : Int) (T : CS) (c0 n0 : Nat), c0 + mc0 = mc → n0 + ms0 = ms → cs_ok k T → wp_BRg_lotsBurdened_66 post (wp_BRg_lotsBurdened_16 post n16) mc0 ms0 v0 v1 v2 v3 v4 v5 T → jat l D X 6 66 [(0, .ref v0), (1, vi v1), (2, vi v2), (3, .ref v3), (4, vi v4), (5, vi v5)] [] (cwd k T) c0 n0 := by
        intro mc0 ms0 v0 v1 v2 v3 v4 v5 T c0 n0 hc0 hn0 hT hw
        unfold wp_BRg_lotsBurdened_66 at hw
        refine j_iinc F 5 [(5, vi (v5 + 1)), (0, .ref v0), (1, vi v1), (2, vi v2), (3, .ref v3), (4, vi v4)] d_BRg_lotsBurdened_66 rfl (by decide) rfl ?_
        refine j_goto F 16 d_BRg_lotsBurdened_69 rfl ?_
        refine j_sub [1, 2, 3, 4, 5, 0] rfl ?_
        exact ih16 _ _ _ _ _ _ _ _ _ _ _ hc0 hn0 hT hw
      intro mc0 ms0 v0 v1 v2 v3 v4 v5 T c0 n0 hc0 hn0 hT hw
      unfold wp_BRg_lotsBurdened_16 at hw
      refine j_iload F 5 d_BRg_lotsBurdened_16 rfl ?_
      refine j_aload_n F 0 d_BRg_lotsBurdened_18 rfl ?_
      obtain ⟨hc1, q_1, hc2, hw⟩ := hw
      refine c_getr F K hT 5 1 rfl tu_Register (by decide) (by decide) rfl tq_309 (Or.inl rfl) hc1 hc2 d_BRg_lotsBurdened_19 ?_
      obtain ⟨hg1, hw⟩ := hw
      refine c_callVi F K hT (c_BAL_size l hw) (tw_gV tq_305 tq_306 tq_307 tq_233 tq_308) 7 rfl (by decide) hg1 q_BAL_size rfl ⟨by decide, by decide⟩ ⟨rm_z hc0, rm_z hn0⟩ rfl (Nat.le_of_ble_eq_true rfl) d_BRg_lotsBurdened_22 (fun r_3 T_2 hw hT => ?_)
      obtain ⟨hc1, hc2, hwt, hwf⟩ := hw
      refine j_icmp_gt F 72 hc1 hc2 d_BRg_lotsBurdened_25 rfl (fun hh => ?_) (fun hh => ?_)
      · have hw := hwt hh
        refine j_aload_n F 3 d_BRg_lotsBurdened_72 rfl ?_
        refine j_iload F 4 d_BRg_lotsBurdened_73 rfl ?_
        obtain ⟨mc_6, ms_7, mc_8, ms_9, ⟨he1, he2⟩, hw⟩ := hw
        refine c_callSr F K hT (c_BAr_copyOfI l hw) (tw_gS tq_359 tq_360 tq_248 tq_361) q_BAr_copyOfI rfl ⟨by decide, by decide⟩ ⟨rm_l hc0 he1, rm_l hn0 he2⟩ rfl (Nat.le_of_ble_eq_true rfl) d_BRg_lotsBurdened_75 (fun r_5 T_4 hw hT => ?_)
        have hc0 := rm_c hc0 he1
        have hn0 := rm_c hn0 he2
        exact hret _ _ _ _ _ _ hw hT (rm_y hc0) (rm_y hn0) d_BRg_lotsBurdened_78
      · have hw := hwf hh
        refine j_aload_n F 0 d_BRg_lotsBurdened_28 rfl ?_
        refine j_iload F 5 d_BRg_lotsBurdened_29 rfl ?_
        refine j_iload_n F 2 d_BRg_lotsBurdened_31 rfl ?_
        refine j_aload_n F 0 d_BRg_lotsBurdened_32 rfl ?_
        obtain ⟨hg1, hw⟩ := hw
        refine c_callVi F K hT (c_BRg_lastEntry l hw) (tw_gV tq_362 tq_363 tq_364 tq_336 tq_365) 5 rfl (by decide) hg1 q_BRg_lastEntry rfl ⟨by decide, by decide⟩ ⟨rm_z hc0, rm_z hn0⟩ rfl (Nat.le_of_ble_eq_true rfl) d_BRg_lotsBurdened_33 (fun r_11 T_10 hw hT => ?_)
        obtain ⟨hg1, hw⟩ := hw
        refine c_callVi F K hT (c_BRg_isInBeing l hw) (tw_gV tq_366 tq_367 tq_368 tq_336 tq_369) 5 rfl (by decide) hg1 q_BRg_isInBeing rfl ⟨by decide, by decide⟩ ⟨rm_z hc0, rm_z hn0⟩ rfl (Nat.le_of_ble_eq_true rfl) d_BRg_lotsBurdened_36 (fun r_13 T_12 hw hT => ?_)
        obtain ⟨hc1, hwt, hwf⟩ := hw
        refine j_if_eq F 66 hc1 d_BRg_lotsBurdened_39 rfl (fun hh => ?_) (fun hh => ?_)
        · have hw := hwt hh
          exact B66 _ _ _ _ _ _ _ _ _ _ _ hc0 hn0 hT hw
        · have hw := hwf hh
          refine j_aload_n F 0 d_BRg_lotsBurdened_42 rfl ?_
          refine j_iload F 5 d_BRg_lotsBurdened_43 rfl ?_
          refine j_iload_n F 1 d_BRg_lotsBurdened_45 rfl ?_
          refine j_iload_n F 2 d_BRg_lotsBurdened_46 rfl ?_
          refine j_aload_n F 0 d_BRg_lotsBurdened_47 rfl ?_
          obtain ⟨hg1, hw⟩ := hw
          refine c_callVi F K hT (c_BRg_lastEntry l hw) (tw_gV tq_362 tq_363 tq_364 tq_336 tq_365) 5 rfl (by decide) hg1 q_BRg_lastEntry rfl ⟨by decide, by decide⟩ ⟨rm_z hc0, rm_z hn0⟩ rfl (Nat.le_of_ble_eq_true rfl) d_BRg_lotsBurdened_48 (fun r_15 T_14 hw hT => ?_)
          obtain ⟨hg1, hw⟩ := hw
          refine c_callVi F K hT (c_BRg_isBurdened l hw) (tw_gV tq_370 tq_371 tq_372 tq_336 tq_373) 5 rfl (by decide) hg1 q_BRg_isBurdened rfl ⟨by decide, by decide⟩ ⟨rm_z hc0, rm_z hn0⟩ rfl (Nat.le_of_ble_eq_true rfl) d_BRg_lotsBurdened_51 (fun r_17 T_16 hw hT => ?_)
          obtain ⟨hc1, hwt, hwf⟩ := hw
          refine j_if_eq F 66 hc1 d_BRg_lotsBurdened_54 rfl (fun hh => ?_) (fun hh => ?_)
          · have hw := hwt hh
            exact B66 _ _ _ _ _ _ _ _ _ _ _ hc0 hn0 hT hw
          · have hw := hwf hh
            refine j_aload_n F 3 d_BRg_lotsBurdened_57 rfl ?_
            refine j_iload F 4 d_BRg_lotsBurdened_58 rfl ?_
            refine j_iload F 5 d_BRg_lotsBurdened_60 rfl ?_
            obtain ⟨hc1, hc2, hw⟩ := hw
            refine c_iast F K hT hc1 hc2 d_BRg_lotsBurdened_62 (fun T_18 e_T_18 hT => ?_)
            have hw := hw T_18 e_T_18
            refine j_iinc F 4 [(4, vi (v4 + 1)), (0, .ref v0), (1, vi v1), (2, vi v2), (3, .ref v3), (5, vi v5)] d_BRg_lotsBurdened_63 rfl (by decide) rfl ?_
            refine j_sub [1, 2, 3, 4, 0, 5] rfl ?_
            exact B66 _ _ _ _ _ _ _ _ _ _ _ hc0 hn0 hT hw
  unfold wp_BRg_lotsBurdened at hw
  have key : ∀ (mc0 ms0 c0 n0 : Nat), mc0 = mc → ms0 = ms → c0 = 0 → n0 = 0 → c0 + mc0 = mc → n0 + ms0 = ms → jat l D X 6 0 [(0, .ref v0), (1, vi v1), (2, vi v2)] [] (cwd k T) c0 n0 := by
    intro mc0 ms0 c0 n0 hm1 hm2 hz1 hz2 hc0 hn0
    subst hm1; subst hm2
    clear hz1 hz2
    refine j_aload_n F 0 d_BRg_lotsBurdened_0 rfl ?_
    obtain ⟨hc1, q_1, hc2, hw⟩ := hw
    refine c_getr F K hT 5 1 rfl tu_Register (by decide) (by decide) rfl tq_309 (Or.inl rfl) hc1 hc2 d_BRg_lotsBurdened_1 ?_
    obtain ⟨hg1, hw⟩ := hw
    refine c_callVi F K hT (c_BAL_size l hw) (tw_gV tq_305 tq_306 tq_307 tq_233 tq_308) 7 rfl (by decide) hg1 q_BAL_size rfl ⟨by decide, by decide⟩ ⟨rm_z hc0, rm_z hn0⟩ rfl (Nat.le_of_ble_eq_true rfl) d_BRg_lotsBurdened_4 (fun r_3 T_2 hw hT => ?_)
    obtain ⟨hr0, mc_6, ms_7, ⟨he1, he2⟩, hw⟩ := hw
    refine c_newa11 F K hT tq_118 hr0 (rm_l hc0 he1) (rm_l hn0 he2) d_BRg_lotsBurdened_7 (fun q_4 T_5 e_q_4 e_T_5 hT => ?_)
    have hw := hw q_4 T_5 e_q_4 e_T_5
    have hc0 := rm_c hc0 he1
    have hn0 := rm_c hn0 he2
    refine j_astore_n F [(3, .ref q_4), (0, .ref v0), (1, vi v1), (2, vi v2)] d_BRg_lotsBurdened_9 (by decide) rfl ?_
    refine j_iconst F d_BRg_lotsBurdened_10 ?_
    refine j_istore F [(4, vi 0), (3, .ref q_4), (0, .ref v0), (1, vi v1), (2, vi v2)] d_BRg_lotsBurdened_11 (by decide) rfl ?_
    refine j_iconst F d_BRg_lotsBurdened_13 ?_
    refine j_istore F [(5, vi 1), (4, vi 0), (3, .ref q_4), (0, .ref v0), (1, vi v1), (2, vi v2)] d_BRg_lotsBurdened_14 (by decide) rfl ?_
    refine j_sub [3, 4, 5, 2, 1, 0] rfl ?_
    obtain ⟨nn, hw⟩ := hw
    exact B16 nn _ _ _ _ _ _ _ _ _ _ _ hc0 hn0 hT hw
  exact key mc ms 0 0 rfl rfl rfl rfl (Nat.zero_add _) (Nat.zero_add _)
theorem tq_374 : (Jvm.Cond.methodLink "LandBook$Register" (116 : Nat) ({ cls := "LandBook$Register", name := "deed", desc := "(I)LLandBook$Deed;" } : Jvm.MethodName)) ∈ tw_G := tw_in (List.mem_of_getElem? (i := 612) (by decide +kernel)) rfl
theorem tq_375 : (Jvm.Cond.instanceMethod ({ cls := "LandBook$Register", name := "deed", desc := "(I)LLandBook$Deed;" } : Jvm.MethodName)) ∈ tw_G := tw_in (List.mem_of_getElem? (i := 614) (by decide +kernel)) rfl
theorem tq_376 : (Jvm.Cond.selects "LandBook$Register" ⟨"LandBook$Register", "deed", "(I)LLandBook$Deed;"⟩ ⟨"LandBook$Register", "deed", "(I)LLandBook$Deed;"⟩) ∈ tw_G := tw_in (List.mem_of_getElem? (i := 8) (by decide +kernel)) rfl
theorem tq_377 : (Jvm.Cond.code ({ cls := "LandBook$Register", name := "deed", desc := "(I)LLandBook$Deed;" } : Jvm.MethodName) prog_10_method_7_code (2 : Nat) (Option.some (Jvm.ClassFile.FieldType.object "LandBook$Deed"))) ∈ tw_G := tw_in (List.mem_of_getElem? (i := 615) (by decide +kernel)) rfl
theorem tq_378 : (Jvm.Cond.methodLink "LandBook$Register" (120 : Nat) ({ cls := "LandBook$Deed", name := "namesOneOf", desc := "([I)Z" } : Jvm.MethodName)) ∈ tw_G := tw_in (List.mem_of_getElem? (i := 616) (by decide +kernel)) rfl
theorem tq_379 : (Jvm.Cond.instanceMethod ({ cls := "LandBook$Deed", name := "namesOneOf", desc := "([I)Z" } : Jvm.MethodName)) ∈ tw_G := tw_in (List.mem_of_getElem? (i := 617) (by decide +kernel)) rfl
theorem tq_380 : (Jvm.Cond.selects "LandBook$Deed" ({ cls := "LandBook$Deed", name := "namesOneOf", desc := "([I)Z" } : Jvm.MethodName) ({ cls := "LandBook$Deed", name := "namesOneOf", desc := "([I)Z" } : Jvm.MethodName)) ∈ tw_G := tw_in (List.mem_of_getElem? (i := 618) (by decide +kernel)) rfl
theorem tq_381 : (Jvm.Cond.code ({ cls := "LandBook$Deed", name := "namesOneOf", desc := "([I)Z" } : Jvm.MethodName) prog_3_method_3_code (10 : Nat) (Option.some Jvm.ClassFile.FieldType.boolean)) ∈ tw_G := tw_in (List.mem_of_getElem? (i := 619) (by decide +kernel)) rfl
abbrev y_BRg_isLate : MethodName := ⟨"LandBook$Register", "isLate", "([II)Z"⟩
theorem q_BRg_isLate : y_BRg_isLate.cls = "LandBook$Register" ∧ y_BRg_isLate.cls ≠ "java/lang/invoke/MethodHandle" ∧ y_BRg_isLate.cls ≠ "java/lang/invoke/VarHandle" ∧ (parseMethodDescriptor y_BRg_isLate.desc).map (fun d => d.parameters.length) = some 2 := by decide +kernel
theorem d_BRg_isLate_0 : decode prog_10_method_15_code 0 = .ok (.iconst 1, 1) := by decide +kernel
theorem d_BRg_isLate_1 : decode prog_10_method_15_code 1 = .ok (.istore_n 3, 1) := by decide +kernel
theorem d_BRg_isLate_2 : decode prog_10_method_15_code 2 = .ok (.iload_n 3, 1) := by decide +kernel
theorem d_BRg_isLate_3 : decode prog_10_method_15_code 3 = .ok (.aload_n 0, 1) := by decide +kernel
theorem d_BRg_isLate_4 : decode prog_10_method_15_code 4 = .ok (.getfield 12, 3) := by decide +kernel
theorem d_BRg_isLate_7 : decode prog_10_method_15_code 7 = .ok (.invokevirtual 31, 3) := by decide +kernel
theorem d_BRg_isLate_10 : decode prog_10_method_15_code 10 = .ok (.if_icmp .gt 35, 3) := by decide +kernel
theorem d_BRg_isLate_45 : decode prog_10_method_15_code 45 = .ok (.iconst 0, 1) := by decide +kernel
theorem d_BRg_isLate_46 : decode prog_10_method_15_code 46 = .ok (.ireturn, 1) := by decide +kernel
theorem d_BRg_isLate_13 : decode prog_10_method_15_code 13 = .ok (.aload_n 0, 1) := by decide +kernel
theorem d_BRg_isLate_14 : decode prog_10_method_15_code 14 = .ok (.iload_n 3, 1) := by decide +kernel
theorem d_BRg_isLate_15 : decode prog_10_method_15_code 15 = .ok (.invokevirtual 116, 3) := by decide +kernel
theorem d_BRg_isLate_18 : decode prog_10_method_15_code 18 = .ok (.getfield 58, 3) := by decide +kernel
theorem d_BRg_isLate_21 : decode prog_10_method_15_code 21 = .ok (.iload_n 2, 1) := by decide +kernel
theorem d_BRg_isLate_22 : decode prog_10_method_15_code 22 = .ok (.if_icmp .le 17, 3) := by decide +kernel
theorem d_BRg_isLate_25 : decode prog_10_method_15_code 25 = .ok (.aload_n 0, 1) := by decide +kernel
theorem d_BRg_isLate_26 : decode prog_10_method_15_code 26 = .ok (.iload_n 3, 1) := by decide +kernel
theorem d_BRg_isLate_27 : decode prog_10_method_15_code 27 = .ok (.invokevirtual 116, 3) := by decide +kernel
theorem d_BRg_isLate_30 : decode prog_10_method_15_code 30 = .ok (.aload_n 1, 1) := by decide +kernel
theorem d_BRg_isLate_31 : decode prog_10_method_15_code 31 = .ok (.invokevirtual 120, 3) := by decide +kernel
theorem d_BRg_isLate_34 : decode prog_10_method_15_code 34 = .ok (.ifCond .eq 5, 3) := by decide +kernel
theorem d_BRg_isLate_37 : decode prog_10_method_15_code 37 = .ok (.iconst 1, 1) := by decide +kernel
theorem d_BRg_isLate_38 : decode prog_10_method_15_code 38 = .ok (.ireturn, 1) := by decide +kernel
theorem d_BRg_isLate_39 : decode prog_10_method_15_code 39 = .ok (.iinc 3 1, 3) := by decide +kernel
theorem d_BRg_isLate_42 : decode prog_10_method_15_code 42 = .ok (.goto (-40), 3) := by decide +kernel
def wp_BRg_isLate_39 (post : Int → CS → Prop) (k2 : Nat → Nat → Int → Int → CS → Prop) (v0 : Nat) (v1 : Nat) (v2 : Int) (v3 : Int) (T : CS) : Prop := k2 v0 v1 v2 (v3 + 1) T
def wp_BRg_isLate_2 (post : Int → CS → Prop) : Nat → Nat → Nat → Int → Int → CS → Prop
  | 0, _, _, _, _, _ => False
  | n + 1, v0, v1, v2, v3, T => tg T v0 = 5 ∧ ∃ q_1 : Nat, fo T v0 0 = some q_1 ∧ (tg T q_1 = 7 ∧ wp_BAL_size (fun r_3 T_2 => inR v3 ∧ inR r_3 ∧ (r_3 < v3 → post 0 T_2) ∧ (¬ (r_3 < v3) → (tg T_2 v0 = 5 ∧ wp_BRg_deed (fun r_5 T_4 => tg T_4 r_5 = 8 ∧ (inR (fi T_4 r_5 1) ∧ inR v2 ∧ ((fi T_4 r_5 1) ≤ v2 → wp_BRg_isLate_39 post (wp_BRg_isLate_2 post n) v0 v1 v2 v3 T_4) ∧ (¬ ((fi T_4 r_5 1) ≤ v2) → (tg T_4 v0 = 5 ∧ wp_BRg_deed (fun r_7 T_6 => tg T_6 r_7 = 8 ∧ wp_BDe_namesOneOf (fun r_9 T_8 => inR r_9 ∧ (r_9 = 0 → wp_BRg_isLate_39 post (wp_BRg_isLate_2 post n) v0 v1 v2 v3 T_8) ∧ (¬ (r_9 = 0) → post 1 T_8)) r_7 v1 T_6) v0 v3 T_4)))) v0 v3 T_2))) q_1 T)
def wp_BRg_isLate (post : Int → CS → Prop) (v0 : Nat) (v1 : Nat) (v2 : Int) (T : CS) : Prop := ∃ nn : Nat, wp_BRg_isLate_2 post nn v0 v1 v2 1 T
set_option maxHeartbeats 4000000 in
set_option maxRecDepth 100000 in
theorem c_BRg_isLate (l : Launch) {D : va_G} {k : CK} {post : Int → CS → Prop} {v0 : Nat} {v1 : Nat} {v2 : Int} {T : CS} (hw : wp_BRg_isLate post v0 v1 v2 T) : jCi l D k y_BRg_isLate prog_10_method_15_code 4 (some .boolean) 4 85 0 0 T [.ref v0, .ref v1, vi v2] post := by
  refine j_coz (own := "LandBook$Register") (by decide) rfl (Nat.le_of_ble_eq_true rfl) (fun X F K hT hret => ?_)
  have B2 : ∀ (nn : Nat) (v0 : Nat) (v1 : Nat) (v2 : Int) (v3 : Int) (T : CS), cs_ok k T → wp_BRg_isLate_2 post nn v0 v1 v2 v3 T → jat l D X 4 2 [(0, .ref v0), (1, .ref v1), (2, vi v2), (3, vi v3)] [] (cwd k T) 0 0 := by
    intro nn
    induction nn with
    | zero => intro v0 v1 v2 v3 T hT hw; exact hw.elim
    | succ n2 ih2 =>
      have B39 : ∀ (v0 : Nat) (v1 : Nat) (v2 : Int) (v3 : Int) (T : CS), cs_ok k T → wp_BRg_isLate_39 post (wp_BRg_isLate_2 post n2) v0 v1 v2 v3 T → jat l D X 4 39 [(0, .ref v0), (1, .ref v1), (2, vi v2), (3, vi v3)] [] (cwd k T) 0 0 := by
        intro v0 v1 v2 v3 T hT hw
        unfold wp_BRg_isLate_39 at hw
        refine j_iinc F 3 [(3, vi (v3 + 1)), (0, .ref v0), (1, .ref v1), (2, vi v2)] d_BRg_isLate_39 rfl (by decide) rfl ?_
        refine j_goto F 2 d_BRg_isLate_42 rfl ?_
        refine j_sub [1, 2, 3, 0] rfl ?_
        exact ih2 _ _ _ _ _ hT hw
      intro v0 v1 v2 v3 T hT hw
      unfold wp_BRg_isLate_2 at hw
      refine j_iload_n F 3 d_BRg_isLate_2 rfl ?_
      refine j_aload_n F 0 d_BRg_isLate_3 rfl ?_
      obtain ⟨hc1, q_1, hc2, hw⟩ := hw
      refine c_getr F K hT 5 0 rfl tu_Register (by decide) (by decide) rfl tq_304 (Or.inl rfl) hc1 hc2 d_BRg_isLate_4 ?_
      obtain ⟨hg1, hw⟩ := hw
      refine c_callVi F K hT (c_BAL_size l hw) (tw_gV tq_305 tq_306 tq_307 tq_233 tq_308) 7 rfl (by decide) hg1 q_BAL_size rfl ⟨by decide, by decide⟩ ⟨by omega, by omega⟩ rfl (Nat.le_of_ble_eq_true rfl) d_BRg_isLate_7 (fun r_3 T_2 hw hT => ?_)
      obtain ⟨hc1, hc2, hwt, hwf⟩ := hw
      refine j_icmp_gt F 45 hc1 hc2 d_BRg_isLate_10 rfl (fun hh => ?_) (fun hh => ?_)
      · have hw := hwt hh
        refine j_iconst F d_BRg_isLate_45 ?_
        exact hret _ _ _ _ _ _ hw hT (by omega) (by omega) (Or.inl rfl) d_BRg_isLate_46
      · have hw := hwf hh
        refine j_aload_n F 0 d_BRg_isLate_13 rfl ?_
        refine j_iload_n F 3 d_BRg_isLate_14 rfl ?_
        obtain ⟨hg1, hw⟩ := hw
        refine c_callVr F K hT (c_BRg_deed l hw) (tw_gV tq_374 tq_375 tq_376 tq_336 tq_377) 5 rfl (by decide) hg1 q_BRg_deed rfl ⟨by decide, by decide⟩ ⟨by omega, by omega⟩ rfl (Nat.le_of_ble_eq_true rfl) d_BRg_isLate_15 (fun r_5 T_4 hw hT => ?_)
        obtain ⟨hc1, hw⟩ := hw
        refine c_geti F K hT 8 1 rfl tu_Deed (by decide) (by decide) rfl tq_332 (Or.inl rfl) hc1 d_BRg_isLate_18 ?_
        refine j_iload_n F 2 d_BRg_isLate_21 rfl ?_
        obtain ⟨hc1, hc2, hwt, hwf⟩ := hw
        refine j_icmp_le F 39 hc1 hc2 d_BRg_isLate_22 rfl (fun hh => ?_) (fun hh => ?_)
        · have hw := hwt hh
          exact B39 _ _ _ _ _ hT hw
        · have hw := hwf hh
          refine j_aload_n F 0 d_BRg_isLate_25 rfl ?_
          refine j_iload_n F 3 d_BRg_isLate_26 rfl ?_
          obtain ⟨hg1, hw⟩ := hw
          refine c_callVr F K hT (c_BRg_deed l hw) (tw_gV tq_374 tq_375 tq_376 tq_336 tq_377) 5 rfl (by decide) hg1 q_BRg_deed rfl ⟨by decide, by decide⟩ ⟨by omega, by omega⟩ rfl (Nat.le_of_ble_eq_true rfl) d_BRg_isLate_27 (fun r_7 T_6 hw hT => ?_)
          refine j_aload_n F 1 d_BRg_isLate_30 rfl ?_
          obtain ⟨hg1, hw⟩ := hw
          refine c_callVi F K hT (c_BDe_namesOneOf l hw) (tw_gV tq_378 tq_379 tq_380 tq_293 tq_381) 8 rfl (by decide) hg1 q_BDe_namesOneOf rfl ⟨by decide, by decide⟩ ⟨by omega, by omega⟩ rfl (Nat.le_of_ble_eq_true rfl) d_BRg_isLate_31 (fun r_9 T_8 hw hT => ?_)
          obtain ⟨hc1, hwt, hwf⟩ := hw
          refine j_if_eq F 39 hc1 d_BRg_isLate_34 rfl (fun hh => ?_) (fun hh => ?_)
          · have hw := hwt hh
            exact B39 _ _ _ _ _ hT hw
          · have hw := hwf hh
            refine j_iconst F d_BRg_isLate_37 ?_
            exact hret _ _ _ _ _ _ hw hT (by omega) (by omega) (Or.inr rfl) d_BRg_isLate_38
  unfold wp_BRg_isLate at hw
  show jat l D X 4 0 [(0, .ref v0), (1, .ref v1), (2, vi v2)] [] (cwd k T) 0 0
  refine j_iconst F d_BRg_isLate_0 ?_
  refine j_istore_n F [(3, vi 1), (0, .ref v0), (1, .ref v1), (2, vi v2)] d_BRg_isLate_1 (by decide) rfl ?_
  refine j_sub [1, 2, 3, 0] rfl ?_
  obtain ⟨nn, hw⟩ := hw
  exact B2 nn _ _ _ _ _ hT hw
theorem tq_382 : (Jvm.Cond.methodLink "LandBook$Register" (112 : Nat) ({ cls := "LandBook$Register", name := "isLate", desc := "([II)Z" } : Jvm.MethodName)) ∈ tw_G := tw_in (List.mem_of_getElem? (i := 608) (by decide +kernel)) rfl
theorem tq_383 : (Jvm.Cond.instanceMethod ({ cls := "LandBook$Register", name := "isLate", desc := "([II)Z" } : Jvm.MethodName)) ∈ tw_G := tw_in (List.mem_of_getElem? (i := 609) (by decide +kernel)) rfl
theorem tq_384 : (Jvm.Cond.selects "LandBook$Register" ({ cls := "LandBook$Register", name := "isLate", desc := "([II)Z" } : Jvm.MethodName) ({ cls := "LandBook$Register", name := "isLate", desc := "([II)Z" } : Jvm.MethodName)) ∈ tw_G := tw_in (List.mem_of_getElem? (i := 610) (by decide +kernel)) rfl
theorem tq_385 : (Jvm.Cond.code ({ cls := "LandBook$Register", name := "isLate", desc := "([II)Z" } : Jvm.MethodName) prog_10_method_15_code (4 : Nat) (Option.some Jvm.ClassFile.FieldType.boolean)) ∈ tw_G := tw_in (List.mem_of_getElem? (i := 611) (by decide +kernel)) rfl
abbrev y_BRg_objection : MethodName := ⟨"LandBook$Register", "objection", "([II)I"⟩
theorem q_BRg_objection : y_BRg_objection.cls = "LandBook$Register" ∧ y_BRg_objection.cls ≠ "java/lang/invoke/MethodHandle" ∧ y_BRg_objection.cls ≠ "java/lang/invoke/VarHandle" ∧ (parseMethodDescriptor y_BRg_objection.desc).map (fun d => d.parameters.length) = some 2 := by decide +kernel
theorem d_BRg_objection_0 : decode prog_10_method_14_code 0 = .ok (.aload_n 1, 1) := by decide +kernel
theorem d_BRg_objection_1 : decode prog_10_method_14_code 1 = .ok (.astore_n 3, 1) := by decide +kernel
theorem d_BRg_objection_2 : decode prog_10_method_14_code 2 = .ok (.aload_n 3, 1) := by decide +kernel
theorem d_BRg_objection_3 : decode prog_10_method_14_code 3 = .ok (.arraylength, 1) := by decide +kernel
theorem d_BRg_objection_4 : decode prog_10_method_14_code 4 = .ok (.istore 4, 2) := by decide +kernel
theorem d_BRg_objection_6 : decode prog_10_method_14_code 6 = .ok (.iconst 0, 1) := by decide +kernel
theorem d_BRg_objection_7 : decode prog_10_method_14_code 7 = .ok (.istore 5, 2) := by decide +kernel
theorem d_BRg_objection_9 : decode prog_10_method_14_code 9 = .ok (.iload 5, 2) := by decide +kernel
theorem d_BRg_objection_11 : decode prog_10_method_14_code 11 = .ok (.iload 4, 2) := by decide +kernel
theorem d_BRg_objection_13 : decode prog_10_method_14_code 13 = .ok (.if_icmp .ge 31, 3) := by decide +kernel
theorem d_BRg_objection_44 : decode prog_10_method_14_code 44 = .ok (.aload_n 0, 1) := by decide +kernel
theorem d_BRg_objection_45 : decode prog_10_method_14_code 45 = .ok (.aload_n 1, 1) := by decide +kernel
theorem d_BRg_objection_46 : decode prog_10_method_14_code 46 = .ok (.iload_n 2, 1) := by decide +kernel
theorem d_BRg_objection_47 : decode prog_10_method_14_code 47 = .ok (.invokevirtual 112, 3) := by decide +kernel
theorem d_BRg_objection_50 : decode prog_10_method_14_code 50 = .ok (.ifCond .eq 8, 3) := by decide +kernel
theorem d_BRg_objection_58 : decode prog_10_method_14_code 58 = .ok (.iconst 0, 1) := by decide +kernel
theorem d_BRg_objection_59 : decode prog_10_method_14_code 59 = .ok (.ireturn, 1) := by decide +kernel
theorem d_BRg_objection_53 : decode prog_10_method_14_code 53 = .ok (.bipush (-2), 2) := by decide +kernel
theorem d_BRg_objection_55 : decode prog_10_method_14_code 55 = .ok (.goto 4, 3) := by decide +kernel
theorem d_BRg_objection_16 : decode prog_10_method_14_code 16 = .ok (.aload_n 3, 1) := by decide +kernel
theorem d_BRg_objection_17 : decode prog_10_method_14_code 17 = .ok (.iload 5, 2) := by decide +kernel
theorem d_BRg_objection_19 : decode prog_10_method_14_code 19 = .ok (.iaload, 1) := by decide +kernel
theorem d_BRg_objection_20 : decode prog_10_method_14_code 20 = .ok (.istore 6, 2) := by decide +kernel
theorem d_BRg_objection_22 : decode prog_10_method_14_code 22 = .ok (.aload_n 0, 1) := by decide +kernel
theorem d_BRg_objection_23 : decode prog_10_method_14_code 23 = .ok (.iload 6, 2) := by decide +kernel
theorem d_BRg_objection_25 : decode prog_10_method_14_code 25 = .ok (.iload_n 2, 1) := by decide +kernel
theorem d_BRg_objection_26 : decode prog_10_method_14_code 26 = .ok (.aload_n 0, 1) := by decide +kernel
theorem d_BRg_objection_27 : decode prog_10_method_14_code 27 = .ok (.invokevirtual 96, 3) := by decide +kernel
theorem d_BRg_objection_30 : decode prog_10_method_14_code 30 = .ok (.invokevirtual 99, 3) := by decide +kernel
theorem d_BRg_objection_33 : decode prog_10_method_14_code 33 = .ok (.ifCond .ne 5, 3) := by decide +kernel
theorem d_BRg_objection_38 : decode prog_10_method_14_code 38 = .ok (.iinc 5 1, 3) := by decide +kernel
theorem d_BRg_objection_41 : decode prog_10_method_14_code 41 = .ok (.goto (-32), 3) := by decide +kernel
theorem d_BRg_objection_36 : decode prog_10_method_14_code 36 = .ok (.iconst (-1), 1) := by decide +kernel
theorem d_BRg_objection_37 : decode prog_10_method_14_code 37 = .ok (.ireturn, 1) := by decide +kernel
def wp_BRg_objection_9 (post : Int → CS → Prop) : Nat → Nat → Nat → Int → Nat → Int → Int → CS → Prop
  | 0, _, _, _, _, _, _, _ => False
  | n + 1, v0, v1, v2, v3, v4, v5, T => inR v5 ∧ inR v4 ∧ (v4 ≤ v5 → (tg T v0 = 5 ∧ wp_BRg_isLate (fun r_2 T_1 => inR r_2 ∧ (r_2 = 0 → post 0 T_1) ∧ (¬ (r_2 = 0) → (post (-2) T_1))) v0 v1 v2 T)) ∧ (¬ (v4 ≤ v5) → (tg T v3 = 11 ∧ ixR v5 (ln T v3) ∧ (∀ v6_3 : Int, v6_3 = (fi T v3 v5.toNat) → tg T v0 = 5 ∧ wp_BRg_lastEntry (fun r_5 T_4 => tg T_4 v0 = 5 ∧ wp_BRg_isInBeing (fun r_7 T_6 => inR r_7 ∧ (¬ (r_7 = 0) → ((wp_BRg_objection_9 post n) v0 v1 v2 v3 v4 (v5 + 1) T_6)) ∧ (r_7 = 0 → (post (-1) T_6))) v0 v6_3 v2 r_5 T_4) v0 T)))
def wp_BRg_objection (post : Int → CS → Prop) (v0 : Nat) (v1 : Nat) (v2 : Int) (T : CS) : Prop := tg T v1 = 11 ∧ (∀ v4_1 : Int, v4_1 = (ln T v1 : Int) → ∃ nn : Nat, wp_BRg_objection_9 post nn v0 v1 v2 v1 v4_1 0 T)
set_option maxHeartbeats 4000000 in
set_option maxRecDepth 100000 in
theorem c_BRg_objection (l : Launch) {D : va_G} {k : CK} {post : Int → CS → Prop} {v0 : Nat} {v1 : Nat} {v2 : Int} {T : CS} (hw : wp_BRg_objection post v0 v1 v2 T) : jCi l D k y_BRg_objection prog_10_method_14_code 7 (some .int) 5 111 0 0 T [.ref v0, .ref v1, vi v2] post := by
  refine j_coi (own := "LandBook$Register") (by decide) rfl (Nat.le_of_ble_eq_true rfl) (fun X F K hT hret => ?_)
  have B9 : ∀ (nn : Nat) (v0 : Nat) (v1 : Nat) (v2 : Int) (v3 : Nat) (v4 : Int) (v5 : Int) (T : CS), cs_ok k T → wp_BRg_objection_9 post nn v0 v1 v2 v3 v4 v5 T → jat l D X 7 9 [(0, .ref v0), (1, .ref v1), (2, vi v2), (3, .ref v3), (4, vi v4), (5, vi v5)] [] (cwd k T) 0 0 := by
    intro nn
    induction nn with
    | zero => intro v0 v1 v2 v3 v4 v5 T hT hw; exact hw.elim
    | succ n9 ih9 =>
      intro v0 v1 v2 v3 v4 v5 T hT hw
      unfold wp_BRg_objection_9 at hw
      refine j_iload F 5 d_BRg_objection_9 rfl ?_
      refine j_iload F 4 d_BRg_objection_11 rfl ?_
      obtain ⟨hc1, hc2, hwt, hwf⟩ := hw
      refine j_icmp_ge F 44 hc1 hc2 d_BRg_objection_13 rfl (fun hh => ?_) (fun hh => ?_)
      · have hw := hwt hh
        refine j_aload_n F 0 d_BRg_objection_44 rfl ?_
        refine j_aload_n F 1 d_BRg_objection_45 rfl ?_
        refine j_iload_n F 2 d_BRg_objection_46 rfl ?_
        obtain ⟨hg1, hw⟩ := hw
        refine c_callVi F K hT (c_BRg_isLate l hw) (tw_gV tq_382 tq_383 tq_384 tq_336 tq_385) 5 rfl (by decide) hg1 q_BRg_isLate rfl ⟨by decide, by decide⟩ ⟨by omega, by omega⟩ rfl (Nat.le_of_ble_eq_true rfl) d_BRg_objection_47 (fun r_2 T_1 hw hT => ?_)
        obtain ⟨hc1, hwt, hwf⟩ := hw
        refine j_if_eq F 58 hc1 d_BRg_objection_50 rfl (fun hh => ?_) (fun hh => ?_)
        · have hw := hwt hh
          refine j_iconst F d_BRg_objection_58 ?_
          exact hret _ _ _ _ _ _ hw hT (by omega) (by omega) d_BRg_objection_59
        · have hw := hwf hh
          refine j_bipush F d_BRg_objection_53 (j_bip (by decide) (by decide)) ?_
          refine j_goto F 59 d_BRg_objection_55 rfl ?_
          exact hret _ _ _ _ _ _ hw hT (by omega) (by omega) d_BRg_objection_59
      · have hw := hwf hh
        refine j_aload_n F 3 d_BRg_objection_16 rfl ?_
        refine j_iload F 5 d_BRg_objection_17 rfl ?_
        obtain ⟨hc1, hc2, hw⟩ := hw
        refine c_iald F K hT hc1 hc2 d_BRg_objection_19 ?_
        refine j_nmi (fun v6_3 e_v6_3 => ?_)
        have hw := hw v6_3 e_v6_3
        refine j_istore F [(6, vi v6_3), (0, .ref v0), (1, .ref v1), (2, vi v2), (3, .ref v3), (4, vi v4), (5, vi v5)] d_BRg_objection_20 (by decide) rfl ?_
        refine j_aload_n F 1 d_BRg_objection_22 rfl ?_
        refine j_iload F 0 d_BRg_objection_23 rfl ?_
        refine j_iload_n F 3 d_BRg_objection_25 rfl ?_
        refine j_aload_n F 1 d_BRg_objection_26 rfl ?_
        obtain ⟨hg1, hw⟩ := hw
        refine c_callVi F K hT (c_BRg_lastEntry l hw) (tw_gV tq_362 tq_363 tq_364 tq_336 tq_365) 5 rfl (by decide) hg1 q_BRg_lastEntry rfl ⟨by decide, by decide⟩ ⟨by omega, by omega⟩ rfl (Nat.le_of_ble_eq_true rfl) d_BRg_objection_27 (fun r_5 T_4 hw hT => ?_)
        obtain ⟨hg1, hw⟩ := hw
        refine c_callVi F K hT (c_BRg_isInBeing l hw) (tw_gV tq_366 tq_367 tq_368 tq_336 tq_369) 5 rfl (by decide) hg1 q_BRg_isInBeing rfl ⟨by decide, by decide⟩ ⟨by omega, by omega⟩ rfl (Nat.le_of_ble_eq_true rfl) d_BRg_objection_30 (fun r_7 T_6 hw hT => ?_)
        obtain ⟨hc1, hwt, hwf⟩ := hw
        refine j_if_ne F 38 hc1 d_BRg_objection_33 rfl (fun hh => ?_) (fun hh => ?_)
        · have hw := hwt hh
          refine j_iinc F 6 [(5, vi (v5 + 1)), (6, vi v6_3), (0, .ref v0), (1, .ref v1), (2, vi v2), (3, .ref v3), (4, vi v4)] d_BRg_objection_38 rfl (by decide) rfl ?_
          refine j_goto F 9 d_BRg_objection_41 rfl ?_
          refine j_sub [2, 3, 4, 5, 6, 0] rfl ?_
          exact ih9 _ _ _ _ _ _ _ hT hw
        · have hw := hwf hh
          refine j_iconst F d_BRg_objection_36 ?_
          exact hret _ _ _ _ _ _ hw hT (by omega) (by omega) d_BRg_objection_37
  unfold wp_BRg_objection at hw
  show jat l D X 7 0 [(0, .ref v0), (1, .ref v1), (2, vi v2)] [] (cwd k T) 0 0
  refine j_aload_n F 1 d_BRg_objection_0 rfl ?_
  refine j_astore_n F [(3, .ref v1), (0, .ref v0), (1, .ref v1), (2, vi v2)] d_BRg_objection_1 (by decide) rfl ?_
  refine j_aload_n F 0 d_BRg_objection_2 rfl ?_
  obtain ⟨hc1, hw⟩ := hw
  refine c_alen11 F K hT hc1 d_BRg_objection_3 ?_
  refine j_nmi (fun v4_1 e_v4_1 => ?_)
  have hw := hw v4_1 e_v4_1
  refine j_istore F [(4, vi v4_1), (3, .ref v1), (0, .ref v0), (1, .ref v1), (2, vi v2)] d_BRg_objection_4 (by decide) rfl ?_
  refine j_iconst F d_BRg_objection_6 ?_
  refine j_istore F [(5, vi 0), (4, vi v4_1), (3, .ref v1), (0, .ref v0), (1, .ref v1), (2, vi v2)] d_BRg_objection_7 (by decide) rfl ?_
  refine j_sub [3, 4, 5, 2, 1, 0] rfl ?_
  obtain ⟨nn, hw⟩ := hw
  exact B9 nn _ _ _ _ _ _ _ hT hw
theorem tq_386 : (Jvm.Cond.fieldLink "LandBook$Register" (128 : Nat) "LandBook$Lot" "shares" "[I") ∈ tw_G := tw_in (List.mem_of_getElem? (i := 462) (by decide +kernel)) rfl
theorem tq_387 : (Jvm.Cond.methodLink "LandBook$Register" (129 : Nat) ({ cls := "java/lang/System", name := "arraycopy", desc := "(Ljava/lang/Object;ILjava/lang/Object;II)V" } : Jvm.MethodName)) ∈ tw_G := tw_in (List.mem_of_getElem? (i := 758) (by decide +kernel)) rfl
theorem tq_388 : (Jvm.Cond.fieldLink "LandBook$Register" (135 : Nat) "LandBook$Deed" "kind" "I") ∈ tw_G := tw_in (List.mem_of_getElem? (i := 688) (by decide +kernel)) rfl
theorem tq_389 : (Jvm.Cond.fieldLink "LandBook$Register" (138 : Nat) "LandBook$Deed" "names" "[I") ∈ tw_G := tw_in (List.mem_of_getElem? (i := 693) (by decide +kernel)) rfl
theorem tq_390 : (Jvm.Cond.fieldLink "LandBook$Register" (141 : Nat) "LandBook$Deed" "from" "I") ∈ tw_G := tw_in (List.mem_of_getElem? (i := 695) (by decide +kernel)) rfl
theorem tq_391 : (Jvm.Cond.fieldLink "LandBook$Register" (144 : Nat) "LandBook$Deed" "parts" "I") ∈ tw_G := tw_in (List.mem_of_getElem? (i := 699) (by decide +kernel)) rfl
theorem tq_392 : (Jvm.Cond.fieldLink "LandBook$Register" (147 : Nat) "LandBook$Deed" "to" "I") ∈ tw_G := tw_in (List.mem_of_getElem? (i := 697) (by decide +kernel)) rfl
abbrev y_BRg_tellShares : MethodName := ⟨"LandBook$Register", "tellShares", "(III[I)V"⟩
theorem q_BRg_tellShares : y_BRg_tellShares.cls = "LandBook$Register" ∧ y_BRg_tellShares.cls ≠ "java/lang/invoke/MethodHandle" ∧ y_BRg_tellShares.cls ≠ "java/lang/invoke/VarHandle" ∧ (parseMethodDescriptor y_BRg_tellShares.desc).map (fun d => d.parameters.length) = some 4 := by decide +kernel
theorem d_BRg_tellShares_0 : decode prog_10_method_18_code 0 = .ok (.aload_n 0, 1) := by decide +kernel
theorem d_BRg_tellShares_1 : decode prog_10_method_18_code 1 = .ok (.iload_n 1, 1) := by decide +kernel
theorem d_BRg_tellShares_2 : decode prog_10_method_18_code 2 = .ok (.invokevirtual 62, 3) := by decide +kernel
theorem d_BRg_tellShares_5 : decode prog_10_method_18_code 5 = .ok (.getfield 128, 3) := by decide +kernel
theorem d_BRg_tellShares_8 : decode prog_10_method_18_code 8 = .ok (.iconst 0, 1) := by decide +kernel
theorem d_BRg_tellShares_9 : decode prog_10_method_18_code 9 = .ok (.aload 4, 2) := by decide +kernel
theorem d_BRg_tellShares_11 : decode prog_10_method_18_code 11 = .ok (.iconst 0, 1) := by decide +kernel
theorem d_BRg_tellShares_12 : decode prog_10_method_18_code 12 = .ok (.bipush 100, 2) := by decide +kernel
theorem d_BRg_tellShares_14 : decode prog_10_method_18_code 14 = .ok (.invokestatic 129, 3) := by decide +kernel
theorem d_BRg_tellShares_17 : decode prog_10_method_18_code 17 = .ok (.iconst 1, 1) := by decide +kernel
theorem d_BRg_tellShares_18 : decode prog_10_method_18_code 18 = .ok (.istore 5, 2) := by decide +kernel
theorem d_BRg_tellShares_20 : decode prog_10_method_18_code 20 = .ok (.iload 5, 2) := by decide +kernel
theorem d_BRg_tellShares_22 : decode prog_10_method_18_code 22 = .ok (.aload_n 0, 1) := by decide +kernel
theorem d_BRg_tellShares_23 : decode prog_10_method_18_code 23 = .ok (.getfield 12, 3) := by decide +kernel
theorem d_BRg_tellShares_26 : decode prog_10_method_18_code 26 = .ok (.invokevirtual 31, 3) := by decide +kernel
theorem d_BRg_tellShares_29 : decode prog_10_method_18_code 29 = .ok (.if_icmp .gt 80, 3) := by decide +kernel
theorem d_BRg_tellShares_109 : decode prog_10_method_18_code 109 = .ok (.return_, 1) := by decide +kernel
theorem d_BRg_tellShares_32 : decode prog_10_method_18_code 32 = .ok (.aload_n 0, 1) := by decide +kernel
theorem d_BRg_tellShares_33 : decode prog_10_method_18_code 33 = .ok (.iload 5, 2) := by decide +kernel
theorem d_BRg_tellShares_35 : decode prog_10_method_18_code 35 = .ok (.invokevirtual 116, 3) := by decide +kernel
theorem d_BRg_tellShares_38 : decode prog_10_method_18_code 38 = .ok (.astore 6, 2) := by decide +kernel
theorem d_BRg_tellShares_40 : decode prog_10_method_18_code 40 = .ok (.aload 6, 2) := by decide +kernel
theorem d_BRg_tellShares_42 : decode prog_10_method_18_code 42 = .ok (.getfield 135, 3) := by decide +kernel
theorem d_BRg_tellShares_45 : decode prog_10_method_18_code 45 = .ok (.iconst 3, 1) := by decide +kernel
theorem d_BRg_tellShares_46 : decode prog_10_method_18_code 46 = .ok (.if_icmp .ne 57, 3) := by decide +kernel
theorem d_BRg_tellShares_49 : decode prog_10_method_18_code 49 = .ok (.aload 6, 2) := by decide +kernel
theorem d_BRg_tellShares_51 : decode prog_10_method_18_code 51 = .ok (.getfield 138, 3) := by decide +kernel
theorem d_BRg_tellShares_54 : decode prog_10_method_18_code 54 = .ok (.iconst 0, 1) := by decide +kernel
theorem d_BRg_tellShares_55 : decode prog_10_method_18_code 55 = .ok (.iaload, 1) := by decide +kernel
theorem d_BRg_tellShares_56 : decode prog_10_method_18_code 56 = .ok (.iload_n 1, 1) := by decide +kernel
theorem d_BRg_tellShares_57 : decode prog_10_method_18_code 57 = .ok (.if_icmp .ne 46, 3) := by decide +kernel
theorem d_BRg_tellShares_60 : decode prog_10_method_18_code 60 = .ok (.aload_n 0, 1) := by decide +kernel
theorem d_BRg_tellShares_61 : decode prog_10_method_18_code 61 = .ok (.iload 5, 2) := by decide +kernel
theorem d_BRg_tellShares_63 : decode prog_10_method_18_code 63 = .ok (.iload_n 2, 1) := by decide +kernel
theorem d_BRg_tellShares_64 : decode prog_10_method_18_code 64 = .ok (.iload_n 3, 1) := by decide +kernel
theorem d_BRg_tellShares_65 : decode prog_10_method_18_code 65 = .ok (.invokevirtual 69, 3) := by decide +kernel
theorem d_BRg_tellShares_68 : decode prog_10_method_18_code 68 = .ok (.ifCond .eq 35, 3) := by decide +kernel
theorem d_BRg_tellShares_71 : decode prog_10_method_18_code 71 = .ok (.aload 4, 2) := by decide +kernel
theorem d_BRg_tellShares_73 : decode prog_10_method_18_code 73 = .ok (.aload 6, 2) := by decide +kernel
theorem d_BRg_tellShares_75 : decode prog_10_method_18_code 75 = .ok (.getfield 141, 3) := by decide +kernel
theorem d_BRg_tellShares_78 : decode prog_10_method_18_code 78 = .ok (.dup2, 1) := by decide +kernel
theorem d_BRg_tellShares_79 : decode prog_10_method_18_code 79 = .ok (.iaload, 1) := by decide +kernel
theorem d_BRg_tellShares_80 : decode prog_10_method_18_code 80 = .ok (.aload 6, 2) := by decide +kernel
theorem d_BRg_tellShares_82 : decode prog_10_method_18_code 82 = .ok (.getfield 144, 3) := by decide +kernel
theorem d_BRg_tellShares_85 : decode prog_10_method_18_code 85 = .ok (.isub, 1) := by decide +kernel
theorem d_BRg_tellShares_86 : decode prog_10_method_18_code 86 = .ok (.iastore, 1) := by decide +kernel
theorem d_BRg_tellShares_87 : decode prog_10_method_18_code 87 = .ok (.aload 4, 2) := by decide +kernel
theorem d_BRg_tellShares_89 : decode prog_10_method_18_code 89 = .ok (.aload 6, 2) := by decide +kernel
theorem d_BRg_tellShares_91 : decode prog_10_method_18_code 91 = .ok (.getfield 147, 3) := by decide +kernel
theorem d_BRg_tellShares_94 : decode prog_10_method_18_code 94 = .ok (.dup2, 1) := by decide +kernel
theorem d_BRg_tellShares_95 : decode prog_10_method_18_code 95 = .ok (.iaload, 1) := by decide +kernel
theorem d_BRg_tellShares_96 : decode prog_10_method_18_code 96 = .ok (.aload 6, 2) := by decide +kernel
theorem d_BRg_tellShares_98 : decode prog_10_method_18_code 98 = .ok (.getfield 144, 3) := by decide +kernel
theorem d_BRg_tellShares_101 : decode prog_10_method_18_code 101 = .ok (.iadd, 1) := by decide +kernel
theorem d_BRg_tellShares_102 : decode prog_10_method_18_code 102 = .ok (.iastore, 1) := by decide +kernel
theorem d_BRg_tellShares_103 : decode prog_10_method_18_code 103 = .ok (.iinc 5 1, 3) := by decide +kernel
theorem d_BRg_tellShares_106 : decode prog_10_method_18_code 106 = .ok (.goto (-86), 3) := by decide +kernel
def wp_BRg_tellShares_103 (post : CS → Prop) (k20 : Nat → Int → Int → Int → Nat → Int → CS → Prop) (v0 : Nat) (v1 : Int) (v2 : Int) (v3 : Int) (v4 : Nat) (v5 : Int) (T : CS) : Prop := k20 v0 v1 v2 v3 v4 (v5 + 1) T
def wp_BRg_tellShares_20 (post : CS → Prop) : Nat → Nat → Int → Int → Int → Nat → Int → CS → Prop
  | 0, _, _, _, _, _, _, _ => False
  | n + 1, v0, v1, v2, v3, v4, v5, T => tg T v0 = 5 ∧ ∃ q_1 : Nat, fo T v0 0 = some q_1 ∧ (tg T q_1 = 7 ∧ wp_BAL_size (fun r_3 T_2 => inR v5 ∧ inR r_3 ∧ (r_3 < v5 → post T_2) ∧ (¬ (r_3 < v5) → (tg T_2 v0 = 5 ∧ wp_BRg_deed (fun r_5 T_4 => tg T_4 r_5 = 8 ∧ (inR (fi T_4 r_5 0) ∧ (¬ ((fi T_4 r_5 0) = 3) → wp_BRg_tellShares_103 post (wp_BRg_tellShares_20 post n) v0 v1 v2 v3 v4 v5 T_4) ∧ ((fi T_4 r_5 0) = 3 → (tg T_4 r_5 = 8 ∧ ∃ q_6 : Nat, fo T_4 r_5 2 = some q_6 ∧ (tg T_4 q_6 = 11 ∧ ixR 0 (ln T_4 q_6) ∧ (inR (fi T_4 q_6 0) ∧ inR v1 ∧ (¬ ((fi T_4 q_6 0) = v1) → wp_BRg_tellShares_103 post (wp_BRg_tellShares_20 post n) v0 v1 v2 v3 v4 v5 T_4) ∧ ((fi T_4 q_6 0) = v1 → (tg T_4 v0 = 5 ∧ wp_BRg_isInForce (fun r_8 T_7 => inR r_8 ∧ (r_8 = 0 → wp_BRg_tellShares_103 post (wp_BRg_tellShares_20 post n) v0 v1 v2 v3 v4 v5 T_7) ∧ (¬ (r_8 = 0) → (tg T_7 r_5 = 8 ∧ (tg T_7 v4 = 11 ∧ ixR (fi T_7 r_5 3) (ln T_7 v4) ∧ (tg T_7 r_5 = 8 ∧ (tg T_7 v4 = 11 ∧ ixR (fi T_7 r_5 3) (ln T_7 v4) ∧ ((∀ T_9 : CS, T_9 = cs_i T_7 v4 (fi T_7 r_5 3).toNat ((fi T_7 v4 (fi T_7 r_5 3).toNat) - (fi T_7 r_5 5)) → tg T_9 r_5 = 8 ∧ (tg T_9 v4 = 11 ∧ ixR (fi T_9 r_5 4) (ln T_9 v4) ∧ (tg T_9 r_5 = 8 ∧ (tg T_9 v4 = 11 ∧ ixR (fi T_9 r_5 4) (ln T_9 v4) ∧ ((∀ T_10 : CS, T_10 = cs_i T_9 v4 (fi T_9 r_5 4).toNat ((fi T_9 v4 (fi T_9 r_5 4).toNat) + (fi T_9 r_5 5)) → wp_BRg_tellShares_103 post (wp_BRg_tellShares_20 post n) v0 v1 v2 v3 v4 v5 T_10))))))))))))) v0 v5 v2 v3 T_4)))))))) v0 v5 T_2))) q_1 T)
def wp_BRg_tellShares (post : CS → Prop) (v0 : Nat) (v1 : Int) (v2 : Int) (v3 : Int) (v4 : Nat) (T : CS) : Prop := tg T v0 = 5 ∧ wp_BRg_lot (fun r_2 T_1 => tg T_1 r_2 = 9 ∧ ∃ q_3 : Nat, fo T_1 r_2 2 = some q_3 ∧ (tg T_1 v4 = 11 ∧ tg T_1 q_3 = 11 ∧ (((0 : Int) ≤ 0 ∧ (0 : Int) ≤ 0 ∧ (0 : Int) ≤ 100) ∧ (0 : Int) + 100 ≤ ln T_1 q_3 ∧ (0 : Int) + 100 ≤ ln T_1 v4) ∧ ((∀ T_4 : CS, T_4 = cs_ci T_1 q_3 v4 0 0 100 → ∃ nn : Nat, wp_BRg_tellShares_20 post nn v0 v1 v2 v3 v4 1 T_4)))) v0 v1 T
set_option maxHeartbeats 4000000 in
set_option maxRecDepth 100000 in
theorem c_BRg_tellShares (l : Launch) {D : va_G} {k : CK} {post : CS → Prop} {v0 : Nat} {v1 : Int} {v2 : Int} {v3 : Int} {v4 : Nat} {T : CS} (hw : wp_BRg_tellShares post v0 v1 v2 v3 v4 T) : jCv l D k y_BRg_tellShares prog_10_method_18_code 7 none 4 87 0 0 T [.ref v0, vi v1, vi v2, vi v3, .ref v4] post := by
  refine j_cov (own := "LandBook$Register") (by decide) rfl (Nat.le_of_ble_eq_true rfl) (fun X F K hT hret => ?_)
  have B20 : ∀ (nn : Nat) (v0 : Nat) (v1 : Int) (v2 : Int) (v3 : Int) (v4 : Nat) (v5 : Int) (T : CS), cs_ok k T → wp_BRg_tellShares_20 post nn v0 v1 v2 v3 v4 v5 T → jat l D X 7 20 [(0, .ref v0), (1, vi v1), (2, vi v2), (3, vi v3), (4, .ref v4), (5, vi v5)] [] (cwd k T) 0 0 := by
    intro nn
    induction nn with
    | zero => intro v0 v1 v2 v3 v4 v5 T hT hw; exact hw.elim
    | succ n20 ih20 =>
      have B103 : ∀ (v0 : Nat) (v1 : Int) (v2 : Int) (v3 : Int) (v4 : Nat) (v5 : Int) (T : CS), cs_ok k T → wp_BRg_tellShares_103 post (wp_BRg_tellShares_20 post n20) v0 v1 v2 v3 v4 v5 T → jat l D X 7 103 [(0, .ref v0), (1, vi v1), (2, vi v2), (3, vi v3), (4, .ref v4), (5, vi v5)] [] (cwd k T) 0 0 := by
        intro v0 v1 v2 v3 v4 v5 T hT hw
        unfold wp_BRg_tellShares_103 at hw
        refine j_iinc F 5 [(5, vi (v5 + 1)), (0, .ref v0), (1, vi v1), (2, vi v2), (3, vi v3), (4, .ref v4)] d_BRg_tellShares_103 rfl (by decide) rfl ?_
        refine j_goto F 20 d_BRg_tellShares_106 rfl ?_
        refine j_sub [1, 2, 3, 4, 5, 0] rfl ?_
        exact ih20 _ _ _ _ _ _ _ hT hw
      intro v0 v1 v2 v3 v4 v5 T hT hw
      unfold wp_BRg_tellShares_20 at hw
      refine j_iload F 5 d_BRg_tellShares_20 rfl ?_
      refine j_aload_n F 0 d_BRg_tellShares_22 rfl ?_
      obtain ⟨hc1, q_1, hc2, hw⟩ := hw
      refine c_getr F K hT 5 0 rfl tu_Register (by decide) (by decide) rfl tq_304 (Or.inl rfl) hc1 hc2 d_BRg_tellShares_23 ?_
      obtain ⟨hg1, hw⟩ := hw
      refine c_callVi F K hT (c_BAL_size l hw) (tw_gV tq_305 tq_306 tq_307 tq_233 tq_308) 7 rfl (by decide) hg1 q_BAL_size rfl ⟨by decide, by decide⟩ ⟨by omega, by omega⟩ rfl (Nat.le_of_ble_eq_true rfl) d_BRg_tellShares_26 (fun r_3 T_2 hw hT => ?_)
      obtain ⟨hc1, hc2, hwt, hwf⟩ := hw
      refine j_icmp_gt F 109 hc1 hc2 d_BRg_tellShares_29 rfl (fun hh => ?_) (fun hh => ?_)
      · have hw := hwt hh
        exact hret _ _ _ _ _ hw hT (by omega) (by omega) d_BRg_tellShares_109
      · have hw := hwf hh
        refine j_aload_n F 0 d_BRg_tellShares_32 rfl ?_
        refine j_iload F 5 d_BRg_tellShares_33 rfl ?_
        obtain ⟨hg1, hw⟩ := hw
        refine c_callVr F K hT (c_BRg_deed l hw) (tw_gV tq_374 tq_375 tq_376 tq_336 tq_377) 5 rfl (by decide) hg1 q_BRg_deed rfl ⟨by decide, by decide⟩ ⟨by omega, by omega⟩ rfl (Nat.le_of_ble_eq_true rfl) d_BRg_tellShares_35 (fun r_5 T_4 hw hT => ?_)
        refine j_astore F [(6, .ref r_5), (0, .ref v0), (1, vi v1), (2, vi v2), (3, vi v3), (4, .ref v4), (5, vi v5)] d_BRg_tellShares_38 (by decide) rfl ?_
        refine j_aload F 0 d_BRg_tellShares_40 rfl ?_
        obtain ⟨hc1, hw⟩ := hw
        refine c_geti F K hT 8 0 rfl tu_Deed (by decide) (by decide) rfl tq_388 (Or.inl rfl) hc1 d_BRg_tellShares_42 ?_
        refine j_iconst F d_BRg_tellShares_45 ?_
        obtain ⟨hc1, hwt, hwf⟩ := hw
        refine j_icmp_ne F 103 hc1 ⟨by decide, by decide⟩ d_BRg_tellShares_46 rfl (fun hh => ?_) (fun hh => ?_)
        · have hw := hwt hh
          refine j_sub [1, 2, 3, 4, 5, 6] rfl ?_
          exact B103 _ _ _ _ _ _ _ hT hw
        · have hw := hwf hh
          refine j_aload F 0 d_BRg_tellShares_49 rfl ?_
          obtain ⟨hc1, q_6, hc2, hw⟩ := hw
          refine c_getr F K hT 8 2 rfl tu_Deed (by decide) (by decide) rfl tq_389 (Or.inl rfl) hc1 hc2 d_BRg_tellShares_51 ?_
          refine j_iconst F d_BRg_tellShares_54 ?_
          obtain ⟨hc1, hc2, hw⟩ := hw
          refine c_iald F K hT hc1 hc2 d_BRg_tellShares_55 ?_
          refine j_iload_n F 2 d_BRg_tellShares_56 rfl ?_
          obtain ⟨hc1, hc2, hwt, hwf⟩ := hw
          refine j_icmp_ne F 103 hc1 hc2 d_BRg_tellShares_57 rfl (fun hh => ?_) (fun hh => ?_)
          · have hw := hwt hh
            refine j_sub [1, 2, 3, 4, 5, 6] rfl ?_
            exact B103 _ _ _ _ _ _ _ hT hw
          · have hw := hwf hh
            refine j_aload_n F 1 d_BRg_tellShares_60 rfl ?_
            refine j_iload F 6 d_BRg_tellShares_61 rfl ?_
            refine j_iload_n F 3 d_BRg_tellShares_63 rfl ?_
            refine j_iload_n F 4 d_BRg_tellShares_64 rfl ?_
            obtain ⟨hg1, hw⟩ := hw
            refine c_callVi F K hT (c_BRg_isInForce l hw) (tw_gV tq_339 tq_340 tq_341 tq_336 tq_342) 5 rfl (by decide) hg1 q_BRg_isInForce rfl ⟨by decide, by decide⟩ ⟨by omega, by omega⟩ rfl (Nat.le_of_ble_eq_true rfl) d_BRg_tellShares_65 (fun r_8 T_7 hw hT => ?_)
            obtain ⟨hc1, hwt, hwf⟩ := hw
            refine j_if_eq F 103 hc1 d_BRg_tellShares_68 rfl (fun hh => ?_) (fun hh => ?_)
            · have hw := hwt hh
              refine j_sub [1, 2, 3, 4, 5, 6] rfl ?_
              exact B103 _ _ _ _ _ _ _ hT hw
            · have hw := hwf hh
              refine j_aload F 5 d_BRg_tellShares_71 rfl ?_
              refine j_aload F 0 d_BRg_tellShares_73 rfl ?_
              obtain ⟨hc1, hw⟩ := hw
              refine c_geti F K hT 8 3 rfl tu_Deed (by decide) (by decide) rfl tq_390 (Or.inl rfl) hc1 d_BRg_tellShares_75 ?_
              refine j_dup2 F rfl rfl d_BRg_tellShares_78 ?_
              obtain ⟨hc1, hc2, hw⟩ := hw
              refine c_iald F K hT hc1 hc2 d_BRg_tellShares_79 ?_
              refine j_aload F 0 d_BRg_tellShares_80 rfl ?_
              obtain ⟨hc1, hw⟩ := hw
              refine c_geti F K hT 8 5 rfl tu_Deed (by decide) (by decide) rfl tq_391 (Or.inl rfl) hc1 d_BRg_tellShares_82 ?_
              refine j_isub F d_BRg_tellShares_85 ?_
              obtain ⟨hc1, hc2, hw⟩ := hw
              refine c_iast F K hT hc1 hc2 d_BRg_tellShares_86 (fun T_9 e_T_9 hT => ?_)
              have hw := hw T_9 e_T_9
              refine j_aload F 5 d_BRg_tellShares_87 rfl ?_
              refine j_aload F 0 d_BRg_tellShares_89 rfl ?_
              obtain ⟨hc1, hw⟩ := hw
              refine c_geti F K hT 8 4 rfl tu_Deed (by decide) (by decide) rfl tq_392 (Or.inl rfl) hc1 d_BRg_tellShares_91 ?_
              refine j_dup2 F rfl rfl d_BRg_tellShares_94 ?_
              obtain ⟨hc1, hc2, hw⟩ := hw
              refine c_iald F K hT hc1 hc2 d_BRg_tellShares_95 ?_
              refine j_aload F 0 d_BRg_tellShares_96 rfl ?_
              obtain ⟨hc1, hw⟩ := hw
              refine c_geti F K hT 8 5 rfl tu_Deed (by decide) (by decide) rfl tq_391 (Or.inl rfl) hc1 d_BRg_tellShares_98 ?_
              refine j_iadd F d_BRg_tellShares_101 ?_
              obtain ⟨hc1, hc2, hw⟩ := hw
              refine c_iast F K hT hc1 hc2 d_BRg_tellShares_102 (fun T_10 e_T_10 hT => ?_)
              have hw := hw T_10 e_T_10
              refine j_sub [1, 2, 3, 4, 5, 6] rfl ?_
              exact B103 _ _ _ _ _ _ _ hT hw
  unfold wp_BRg_tellShares at hw
  show jat l D X 7 0 [(0, .ref v0), (1, vi v1), (2, vi v2), (3, vi v3), (4, .ref v4)] [] (cwd k T) 0 0
  refine j_aload_n F 0 d_BRg_tellShares_0 rfl ?_
  refine j_iload_n F 1 d_BRg_tellShares_1 rfl ?_
  obtain ⟨hg1, hw⟩ := hw
  refine c_callVr F K hT (c_BRg_lot l hw) (tw_gV tq_333 tq_334 tq_335 tq_336 tq_337) 5 rfl (by decide) hg1 q_BRg_lot rfl ⟨by decide, by decide⟩ ⟨by omega, by omega⟩ rfl (Nat.le_of_ble_eq_true rfl) d_BRg_tellShares_2 (fun r_2 T_1 hw hT => ?_)
  obtain ⟨hc1, q_3, hc2, hw⟩ := hw
  refine c_getr F K hT 9 2 rfl tu_Lot (by decide) (by decide) rfl tq_386 (Or.inl rfl) hc1 hc2 d_BRg_tellShares_5 ?_
  refine j_iconst F d_BRg_tellShares_8 ?_
  refine j_aload F 4 d_BRg_tellShares_9 rfl ?_
  refine j_iconst F d_BRg_tellShares_11 ?_
  refine j_bipush F d_BRg_tellShares_12 (j_bip (by decide) (by decide)) ?_
  obtain ⟨hc1, hc2, hc3, hw⟩ := hw
  refine c_copyi F K hT tq_387 tq_239 tq_240 tq_241 ⟨by decide, by decide⟩ (Nat.le_of_ble_eq_true rfl) hc1 hc2 hc3 d_BRg_tellShares_14 (fun T_4 e_T_4 hT => ?_)
  have hw := hw T_4 e_T_4
  refine j_iconst F d_BRg_tellShares_17 ?_
  refine j_istore F [(5, vi 1), (0, .ref v0), (1, vi v1), (2, vi v2), (3, vi v3), (4, .ref v4)] d_BRg_tellShares_18 (by decide) rfl ?_
  refine j_sub [1, 2, 3, 4, 5, 0] rfl ?_
  obtain ⟨nn, hw⟩ := hw
  exact B20 nn _ _ _ _ _ _ _ hT hw
theorem tq_393 : (Jvm.Cond.fieldLink "LandBook$Register" (24 : Nat) "LandBook$Register" "shares" "[I") ∈ tw_G := tw_in (List.mem_of_getElem? (i := 195) (by decide +kernel)) rfl
theorem tq_394 : (Jvm.Cond.methodLink "LandBook$Register" (124 : Nat) ({ cls := "LandBook$Register", name := "tellShares", desc := "(III[I)V" } : Jvm.MethodName)) ∈ tw_G := tw_in (List.mem_of_getElem? (i := 754) (by decide +kernel)) rfl
theorem tq_395 : (Jvm.Cond.instanceMethod ({ cls := "LandBook$Register", name := "tellShares", desc := "(III[I)V" } : Jvm.MethodName)) ∈ tw_G := tw_in (List.mem_of_getElem? (i := 756) (by decide +kernel)) rfl
theorem tq_396 : (Jvm.Cond.selects "LandBook$Register" ⟨"LandBook$Register", "tellShares", "(III[I)V"⟩ ⟨"LandBook$Register", "tellShares", "(III[I)V"⟩) ∈ tw_G := tw_in (List.mem_of_getElem? (i := 14) (by decide +kernel)) rfl
theorem tq_397 : (Jvm.Cond.code ({ cls := "LandBook$Register", name := "tellShares", desc := "(III[I)V" } : Jvm.MethodName) prog_10_method_18_code (7 : Nat) (Option.none : Option Jvm.ClassFile.FieldType)) ∈ tw_G := tw_in (List.mem_of_getElem? (i := 757) (by decide +kernel)) rfl
abbrev y_BRg_shareOf : MethodName := ⟨"LandBook$Register", "shareOf", "(IIII)I"⟩
theorem q_BRg_shareOf : y_BRg_shareOf.cls = "LandBook$Register" ∧ y_BRg_shareOf.cls ≠ "java/lang/invoke/MethodHandle" ∧ y_BRg_shareOf.cls ≠ "java/lang/invoke/VarHandle" ∧ (parseMethodDescriptor y_BRg_shareOf.desc).map (fun d => d.parameters.length) = some 4 := by decide +kernel
theorem d_BRg_shareOf_0 : decode prog_10_method_16_code 0 = .ok (.aload_n 0, 1) := by decide +kernel
theorem d_BRg_shareOf_1 : decode prog_10_method_16_code 1 = .ok (.iload_n 1, 1) := by decide +kernel
theorem d_BRg_shareOf_2 : decode prog_10_method_16_code 2 = .ok (.iload_n 3, 1) := by decide +kernel
theorem d_BRg_shareOf_3 : decode prog_10_method_16_code 3 = .ok (.iload 4, 2) := by decide +kernel
theorem d_BRg_shareOf_5 : decode prog_10_method_16_code 5 = .ok (.aload_n 0, 1) := by decide +kernel
theorem d_BRg_shareOf_6 : decode prog_10_method_16_code 6 = .ok (.getfield 24, 3) := by decide +kernel
theorem d_BRg_shareOf_9 : decode prog_10_method_16_code 9 = .ok (.invokevirtual 124, 3) := by decide +kernel
theorem d_BRg_shareOf_12 : decode prog_10_method_16_code 12 = .ok (.aload_n 0, 1) := by decide +kernel
theorem d_BRg_shareOf_13 : decode prog_10_method_16_code 13 = .ok (.getfield 24, 3) := by decide +kernel
theorem d_BRg_shareOf_16 : decode prog_10_method_16_code 16 = .ok (.iload_n 2, 1) := by decide +kernel
theorem d_BRg_shareOf_17 : decode prog_10_method_16_code 17 = .ok (.iaload, 1) := by decide +kernel
theorem d_BRg_shareOf_18 : decode prog_10_method_16_code 18 = .ok (.ireturn, 1) := by decide +kernel
def wp_BRg_shareOf (post : Int → CS → Prop) (v0 : Nat) (v1 : Int) (v2 : Int) (v3 : Int) (v4 : Int) (T : CS) : Prop := tg T v0 = 5 ∧ ∃ q_1 : Nat, fo T v0 3 = some q_1 ∧ (tg T v0 = 5 ∧ wp_BRg_tellShares (fun T_2 => tg T_2 v0 = 5 ∧ ∃ q_4 : Nat, fo T_2 v0 3 = some q_4 ∧ (tg T_2 q_4 = 11 ∧ ixR v2 (ln T_2 q_4) ∧ (post (fi T_2 q_4 v2.toNat) T_2))) v0 v1 v3 v4 q_1 T)
set_option maxHeartbeats 4000000 in
set_option maxRecDepth 100000 in
theorem c_BRg_shareOf (l : Launch) {D : va_G} {k : CK} {post : Int → CS → Prop} {v0 : Nat} {v1 : Int} {v2 : Int} {v3 : Int} {v4 : Int} {T : CS} (hw : wp_BRg_shareOf post v0 v1 v2 v3 v4 T) : jCi l D k y_BRg_shareOf prog_10_method_16_code 5 (some .int) 5 113 0 0 T [.ref v0, vi v1, vi v2, vi v3, vi v4] post := by
  refine j_coi (own := "LandBook$Register") (by decide) rfl (Nat.le_of_ble_eq_true rfl) (fun X F K hT hret => ?_)
  unfold wp_BRg_shareOf at hw
  show jat l D X 5 0 [(0, .ref v0), (1, vi v1), (2, vi v2), (3, vi v3), (4, vi v4)] [] (cwd k T) 0 0
  refine j_aload_n F 0 d_BRg_shareOf_0 rfl ?_
  refine j_iload_n F 1 d_BRg_shareOf_1 rfl ?_
  refine j_iload_n F 3 d_BRg_shareOf_2 rfl ?_
  refine j_iload F 4 d_BRg_shareOf_3 rfl ?_
  refine j_aload_n F 0 d_BRg_shareOf_5 rfl ?_
  obtain ⟨hc1, q_1, hc2, hw⟩ := hw
  refine c_getr F K hT 5 3 rfl tu_Register (by decide) (by decide) rfl tq_393 (Or.inl rfl) hc1 hc2 d_BRg_shareOf_6 ?_
  obtain ⟨hg1, hw⟩ := hw
  refine c_callVv F K hT (c_BRg_tellShares l hw) (tw_gV tq_394 tq_395 tq_396 tq_336 tq_397) 5 rfl (by decide) hg1 q_BRg_tellShares rfl ⟨by decide, by decide⟩ ⟨by omega, by omega⟩ rfl (Nat.le_of_ble_eq_true rfl) d_BRg_shareOf_9 (fun T_2 hw hT => ?_)
  refine j_aload_n F 0 d_BRg_shareOf_12 rfl ?_
  obtain ⟨hc1, q_4, hc2, hw⟩ := hw
  refine c_getr F K hT 5 3 rfl tu_Register (by decide) (by decide) rfl tq_393 (Or.inl rfl) hc1 hc2 d_BRg_shareOf_13 ?_
  refine j_iload_n F 2 d_BRg_shareOf_16 rfl ?_
  obtain ⟨hc1, hc2, hw⟩ := hw
  refine c_iald F K hT hc1 hc2 d_BRg_shareOf_17 ?_
  exact hret _ _ _ _ _ _ hw hT (by omega) (by omega) d_BRg_shareOf_18
theorem tq_398 : (Jvm.Cond.fieldLink "LandBook$Register" (28 : Nat) "LandBook$Register" "otherShares" "[I") ∈ tw_G := tw_in (List.mem_of_getElem? (i := 196) (by decide +kernel)) rfl
abbrev y_BRg_haveEqualShares : MethodName := ⟨"LandBook$Register", "haveEqualShares", "(III)Z"⟩
theorem q_BRg_haveEqualShares : y_BRg_haveEqualShares.cls = "LandBook$Register" ∧ y_BRg_haveEqualShares.cls ≠ "java/lang/invoke/MethodHandle" ∧ y_BRg_haveEqualShares.cls ≠ "java/lang/invoke/VarHandle" ∧ (parseMethodDescriptor y_BRg_haveEqualShares.desc).map (fun d => d.parameters.length) = some 3 := by decide +kernel
theorem d_BRg_haveEqualShares_0 : decode prog_10_method_17_code 0 = .ok (.aload_n 0, 1) := by decide +kernel
theorem d_BRg_haveEqualShares_1 : decode prog_10_method_17_code 1 = .ok (.iload_n 1, 1) := by decide +kernel
theorem d_BRg_haveEqualShares_2 : decode prog_10_method_17_code 2 = .ok (.iload_n 3, 1) := by decide +kernel
theorem d_BRg_haveEqualShares_3 : decode prog_10_method_17_code 3 = .ok (.aload_n 0, 1) := by decide +kernel
theorem d_BRg_haveEqualShares_4 : decode prog_10_method_17_code 4 = .ok (.invokevirtual 96, 3) := by decide +kernel
theorem d_BRg_haveEqualShares_7 : decode prog_10_method_17_code 7 = .ok (.aload_n 0, 1) := by decide +kernel
theorem d_BRg_haveEqualShares_8 : decode prog_10_method_17_code 8 = .ok (.getfield 24, 3) := by decide +kernel
theorem d_BRg_haveEqualShares_11 : decode prog_10_method_17_code 11 = .ok (.invokevirtual 124, 3) := by decide +kernel
theorem d_BRg_haveEqualShares_14 : decode prog_10_method_17_code 14 = .ok (.aload_n 0, 1) := by decide +kernel
theorem d_BRg_haveEqualShares_15 : decode prog_10_method_17_code 15 = .ok (.iload_n 2, 1) := by decide +kernel
theorem d_BRg_haveEqualShares_16 : decode prog_10_method_17_code 16 = .ok (.iload_n 3, 1) := by decide +kernel
theorem d_BRg_haveEqualShares_17 : decode prog_10_method_17_code 17 = .ok (.aload_n 0, 1) := by decide +kernel
theorem d_BRg_haveEqualShares_18 : decode prog_10_method_17_code 18 = .ok (.invokevirtual 96, 3) := by decide +kernel
theorem d_BRg_haveEqualShares_21 : decode prog_10_method_17_code 21 = .ok (.aload_n 0, 1) := by decide +kernel
theorem d_BRg_haveEqualShares_22 : decode prog_10_method_17_code 22 = .ok (.getfield 28, 3) := by decide +kernel
theorem d_BRg_haveEqualShares_25 : decode prog_10_method_17_code 25 = .ok (.invokevirtual 124, 3) := by decide +kernel
theorem d_BRg_haveEqualShares_28 : decode prog_10_method_17_code 28 = .ok (.iconst 0, 1) := by decide +kernel
theorem d_BRg_haveEqualShares_29 : decode prog_10_method_17_code 29 = .ok (.istore 4, 2) := by decide +kernel
theorem d_BRg_haveEqualShares_31 : decode prog_10_method_17_code 31 = .ok (.iload 4, 2) := by decide +kernel
theorem d_BRg_haveEqualShares_33 : decode prog_10_method_17_code 33 = .ok (.bipush 100, 2) := by decide +kernel
theorem d_BRg_haveEqualShares_35 : decode prog_10_method_17_code 35 = .ok (.if_icmp .ge 28, 3) := by decide +kernel
theorem d_BRg_haveEqualShares_63 : decode prog_10_method_17_code 63 = .ok (.iconst 1, 1) := by decide +kernel
theorem d_BRg_haveEqualShares_64 : decode prog_10_method_17_code 64 = .ok (.ireturn, 1) := by decide +kernel
theorem d_BRg_haveEqualShares_38 : decode prog_10_method_17_code 38 = .ok (.aload_n 0, 1) := by decide +kernel
theorem d_BRg_haveEqualShares_39 : decode prog_10_method_17_code 39 = .ok (.getfield 24, 3) := by decide +kernel
theorem d_BRg_haveEqualShares_42 : decode prog_10_method_17_code 42 = .ok (.iload 4, 2) := by decide +kernel
theorem d_BRg_haveEqualShares_44 : decode prog_10_method_17_code 44 = .ok (.iaload, 1) := by decide +kernel
theorem d_BRg_haveEqualShares_45 : decode prog_10_method_17_code 45 = .ok (.aload_n 0, 1) := by decide +kernel
theorem d_BRg_haveEqualShares_46 : decode prog_10_method_17_code 46 = .ok (.getfield 28, 3) := by decide +kernel
theorem d_BRg_haveEqualShares_49 : decode prog_10_method_17_code 49 = .ok (.iload 4, 2) := by decide +kernel
theorem d_BRg_haveEqualShares_51 : decode prog_10_method_17_code 51 = .ok (.iaload, 1) := by decide +kernel
theorem d_BRg_haveEqualShares_52 : decode prog_10_method_17_code 52 = .ok (.if_icmp .eq 5, 3) := by decide +kernel
theorem d_BRg_haveEqualShares_57 : decode prog_10_method_17_code 57 = .ok (.iinc 4 1, 3) := by decide +kernel
theorem d_BRg_haveEqualShares_60 : decode prog_10_method_17_code 60 = .ok (.goto (-29), 3) := by decide +kernel
theorem d_BRg_haveEqualShares_55 : decode prog_10_method_17_code 55 = .ok (.iconst 0, 1) := by decide +kernel
theorem d_BRg_haveEqualShares_56 : decode prog_10_method_17_code 56 = .ok (.ireturn, 1) := by decide +kernel
def wp_BRg_haveEqualShares_31 (post : Int → CS → Prop) : Nat → Nat → Int → CS → Prop
  | 0, _, _, _ => False
  | n + 1, v0, v4, T => inR v4 ∧ (100 ≤ v4 → post 1 T) ∧ (¬ (100 ≤ v4) → (tg T v0 = 5 ∧ ∃ q_1 : Nat, fo T v0 3 = some q_1 ∧ (tg T q_1 = 11 ∧ ixR v4 (ln T q_1) ∧ (tg T v0 = 5 ∧ ∃ q_2 : Nat, fo T v0 4 = some q_2 ∧ (tg T q_2 = 11 ∧ ixR v4 (ln T q_2) ∧ (inR (fi T q_1 v4.toNat) ∧ inR (fi T q_2 v4.toNat) ∧ ((fi T q_1 v4.toNat) = (fi T q_2 v4.toNat) → ((wp_BRg_haveEqualShares_31 post n) v0 (v4 + 1) T)) ∧ (¬ ((fi T q_1 v4.toNat) = (fi T q_2 v4.toNat)) → post 0 T)))))))
def wp_BRg_haveEqualShares (post : Int → CS → Prop) (v0 : Nat) (v1 : Int) (v2 : Int) (v3 : Int) (T : CS) : Prop := tg T v0 = 5 ∧ wp_BRg_lastEntry (fun r_2 T_1 => tg T_1 v0 = 5 ∧ ∃ q_3 : Nat, fo T_1 v0 3 = some q_3 ∧ (tg T_1 v0 = 5 ∧ wp_BRg_tellShares (fun T_4 => tg T_4 v0 = 5 ∧ wp_BRg_lastEntry (fun r_7 T_6 => tg T_6 v0 = 5 ∧ ∃ q_8 : Nat, fo T_6 v0 4 = some q_8 ∧ (tg T_6 v0 = 5 ∧ wp_BRg_tellShares (fun T_9 => ∃ nn : Nat, wp_BRg_haveEqualShares_31 post nn v0 0 T_9) v0 v2 v3 r_7 q_8 T_6)) v0 T_4) v0 v1 v3 r_2 q_3 T_1)) v0 T
set_option maxHeartbeats 4000000 in
set_option maxRecDepth 100000 in
theorem c_BRg_haveEqualShares (l : Launch) {D : va_G} {k : CK} {post : Int → CS → Prop} {v0 : Nat} {v1 : Int} {v2 : Int} {v3 : Int} {T : CS} (hw : wp_BRg_haveEqualShares post v0 v1 v2 v3 T) : jCi l D k y_BRg_haveEqualShares prog_10_method_17_code 5 (some .boolean) 5 113 0 0 T [.ref v0, vi v1, vi v2, vi v3] post := by
  refine j_coz (own := "LandBook$Register") (by decide) rfl (Nat.le_of_ble_eq_true rfl) (fun X F K hT hret => ?_)
  have B31 : ∀ (nn : Nat) (v0 : Nat) (v4 : Int) (T : CS), cs_ok k T → wp_BRg_haveEqualShares_31 post nn v0 v4 T → jat l D X 5 31 [(0, .ref v0), (4, vi v4)] [] (cwd k T) 0 0 := by
    intro nn
    induction nn with
    | zero => intro v0 v4 T hT hw; exact hw.elim
    | succ n31 ih31 =>
      intro v0 v4 T hT hw
      unfold wp_BRg_haveEqualShares_31 at hw
      refine j_iload F 1 d_BRg_haveEqualShares_31 rfl ?_
      refine j_bipush F d_BRg_haveEqualShares_33 (j_bip (by decide) (by decide)) ?_
      obtain ⟨hc1, hwt, hwf⟩ := hw
      refine j_icmp_ge F 63 hc1 ⟨by decide, by decide⟩ d_BRg_haveEqualShares_35 rfl (fun hh => ?_) (fun hh => ?_)
      · have hw := hwt hh
        refine j_iconst F d_BRg_haveEqualShares_63 ?_
        exact hret _ _ _ _ _ _ hw hT (by omega) (by omega) (Or.inr rfl) d_BRg_haveEqualShares_64
      · have hw := hwf hh
        refine j_aload_n F 0 d_BRg_haveEqualShares_38 rfl ?_
        obtain ⟨hc1, q_1, hc2, hw⟩ := hw
        refine c_getr F K hT 5 3 rfl tu_Register (by decide) (by decide) rfl tq_393 (Or.inl rfl) hc1 hc2 d_BRg_haveEqualShares_39 ?_
        refine j_iload F 1 d_BRg_haveEqualShares_42 rfl ?_
        obtain ⟨hc1, hc2, hw⟩ := hw
        refine c_iald F K hT hc1 hc2 d_BRg_haveEqualShares_44 ?_
        refine j_aload_n F 0 d_BRg_haveEqualShares_45 rfl ?_
        obtain ⟨hc1, q_2, hc2, hw⟩ := hw
        refine c_getr F K hT 5 4 rfl tu_Register (by decide) (by decide) rfl tq_398 (Or.inl rfl) hc1 hc2 d_BRg_haveEqualShares_46 ?_
        refine j_iload F 1 d_BRg_haveEqualShares_49 rfl ?_
        obtain ⟨hc1, hc2, hw⟩ := hw
        refine c_iald F K hT hc1 hc2 d_BRg_haveEqualShares_51 ?_
        obtain ⟨hc1, hc2, hwt, hwf⟩ := hw
        refine j_icmp_eq F 57 hc1 hc2 d_BRg_haveEqualShares_52 rfl (fun hh => ?_) (fun hh => ?_)
        · have hw := hwt hh
          refine j_iinc F 1 [(4, vi (v4 + 1)), (0, .ref v0)] d_BRg_haveEqualShares_57 rfl (by decide) rfl ?_
          refine j_goto F 31 d_BRg_haveEqualShares_60 rfl ?_
          refine j_sub [1, 0] rfl ?_
          exact ih31 _ _ _ hT hw
        · have hw := hwf hh
          refine j_iconst F d_BRg_haveEqualShares_55 ?_
          exact hret _ _ _ _ _ _ hw hT (by omega) (by omega) (Or.inl rfl) d_BRg_haveEqualShares_56
  unfold wp_BRg_haveEqualShares at hw
  show jat l D X 5 0 [(0, .ref v0), (1, vi v1), (2, vi v2), (3, vi v3)] [] (cwd k T) 0 0
  refine j_aload_n F 0 d_BRg_haveEqualShares_0 rfl ?_
  refine j_iload_n F 1 d_BRg_haveEqualShares_1 rfl ?_
  refine j_iload_n F 3 d_BRg_haveEqualShares_2 rfl ?_
  refine j_aload_n F 0 d_BRg_haveEqualShares_3 rfl ?_
  obtain ⟨hg1, hw⟩ := hw
  refine c_callVi F K hT (c_BRg_lastEntry l hw) (tw_gV tq_362 tq_363 tq_364 tq_336 tq_365) 5 rfl (by decide) hg1 q_BRg_lastEntry rfl ⟨by decide, by decide⟩ ⟨by omega, by omega⟩ rfl (Nat.le_of_ble_eq_true rfl) d_BRg_haveEqualShares_4 (fun r_2 T_1 hw hT => ?_)
  refine j_aload_n F 0 d_BRg_haveEqualShares_7 rfl ?_
  obtain ⟨hc1, q_3, hc2, hw⟩ := hw
  refine c_getr F K hT 5 3 rfl tu_Register (by decide) (by decide) rfl tq_393 (Or.inl rfl) hc1 hc2 d_BRg_haveEqualShares_8 ?_
  obtain ⟨hg1, hw⟩ := hw
  refine c_callVv F K hT (c_BRg_tellShares l hw) (tw_gV tq_394 tq_395 tq_396 tq_336 tq_397) 5 rfl (by decide) hg1 q_BRg_tellShares rfl ⟨by decide, by decide⟩ ⟨by omega, by omega⟩ rfl (Nat.le_of_ble_eq_true rfl) d_BRg_haveEqualShares_11 (fun T_4 hw hT => ?_)
  refine j_aload_n F 0 d_BRg_haveEqualShares_14 rfl ?_
  refine j_iload_n F 2 d_BRg_haveEqualShares_15 rfl ?_
  refine j_iload_n F 3 d_BRg_haveEqualShares_16 rfl ?_
  refine j_aload_n F 0 d_BRg_haveEqualShares_17 rfl ?_
  obtain ⟨hg1, hw⟩ := hw
  refine c_callVi F K hT (c_BRg_lastEntry l hw) (tw_gV tq_362 tq_363 tq_364 tq_336 tq_365) 5 rfl (by decide) hg1 q_BRg_lastEntry rfl ⟨by decide, by decide⟩ ⟨by omega, by omega⟩ rfl (Nat.le_of_ble_eq_true rfl) d_BRg_haveEqualShares_18 (fun r_7 T_6 hw hT => ?_)
  refine j_aload_n F 0 d_BRg_haveEqualShares_21 rfl ?_
  obtain ⟨hc1, q_8, hc2, hw⟩ := hw
  refine c_getr F K hT 5 4 rfl tu_Register (by decide) (by decide) rfl tq_398 (Or.inl rfl) hc1 hc2 d_BRg_haveEqualShares_22 ?_
  obtain ⟨hg1, hw⟩ := hw
  refine c_callVv F K hT (c_BRg_tellShares l hw) (tw_gV tq_394 tq_395 tq_396 tq_336 tq_397) 5 rfl (by decide) hg1 q_BRg_tellShares rfl ⟨by decide, by decide⟩ ⟨by omega, by omega⟩ rfl (Nat.le_of_ble_eq_true rfl) d_BRg_haveEqualShares_25 (fun T_9 hw hT => ?_)
  refine j_iconst F d_BRg_haveEqualShares_28 ?_
  refine j_istore F [(4, vi 0), (0, .ref v0), (1, vi v1), (2, vi v2), (3, vi v3)] d_BRg_haveEqualShares_29 (by decide) rfl ?_
  refine j_sub [1, 0] rfl ?_
  obtain ⟨nn, hw⟩ := hw
  exact B31 nn _ _ _ hT hw
abbrev y_BRg_enter : MethodName := ⟨"LandBook$Register", "enter", "(LLandBook$Deed;)I"⟩
theorem q_BRg_enter : y_BRg_enter.cls = "LandBook$Register" ∧ y_BRg_enter.cls ≠ "java/lang/invoke/MethodHandle" ∧ y_BRg_enter.cls ≠ "java/lang/invoke/VarHandle" ∧ (parseMethodDescriptor y_BRg_enter.desc).map (fun d => d.parameters.length) = some 1 := by decide +kernel
theorem d_BRg_enter_0 : decode prog_10_method_19_code 0 = .ok (.aload_n 0, 1) := by decide +kernel
theorem d_BRg_enter_1 : decode prog_10_method_19_code 1 = .ok (.getfield 12, 3) := by decide +kernel
theorem d_BRg_enter_4 : decode prog_10_method_19_code 4 = .ok (.aload_n 1, 1) := by decide +kernel
theorem d_BRg_enter_5 : decode prog_10_method_19_code 5 = .ok (.invokevirtual 54, 3) := by decide +kernel
theorem d_BRg_enter_8 : decode prog_10_method_19_code 8 = .ok (.pop, 1) := by decide +kernel
theorem d_BRg_enter_9 : decode prog_10_method_19_code 9 = .ok (.aload_n 0, 1) := by decide +kernel
theorem d_BRg_enter_10 : decode prog_10_method_19_code 10 = .ok (.getfield 12, 3) := by decide +kernel
theorem d_BRg_enter_13 : decode prog_10_method_19_code 13 = .ok (.invokevirtual 31, 3) := by decide +kernel
theorem d_BRg_enter_16 : decode prog_10_method_19_code 16 = .ok (.ireturn, 1) := by decide +kernel
def wp_BRg_enter (post : Int → CS → Prop) (mc0 ms0 : Nat) (v0 : Nat) (v1 : Nat) (T : CS) : Prop := tg T v0 = 5 ∧ ∃ q_1 : Nat, fo T v0 0 = some q_1 ∧ (∃ mc_4 ms_5 mc_6 ms_7 : Nat, (mc0 = mc_4 + mc_6 ∧ ms0 = ms_5 + ms_7) ∧ tg T q_1 = 7 ∧ wp_BAL_add (fun r_3 T_2 => tg T_2 v0 = 5 ∧ ∃ q_8 : Nat, fo T_2 v0 0 = some q_8 ∧ (tg T_2 q_8 = 7 ∧ wp_BAL_size (fun r_10 T_9 => post r_10 T_9) q_8 T_2)) mc_4 ms_5 q_1 v1 T)
set_option maxHeartbeats 4000000 in
set_option maxRecDepth 100000 in
theorem c_BRg_enter (l : Launch) {D : va_G} {k : CK} {post : Int → CS → Prop} {mc ms : Nat} {v0 : Nat} {v1 : Nat} {T : CS} (hw : wp_BRg_enter post mc ms v0 v1 T) : jCi l D k y_BRg_enter prog_10_method_19_code 2 (some .int) 7 191 mc ms T [.ref v0, .ref v1] post := by
  refine j_coi (own := "LandBook$Register") (by decide) rfl (Nat.le_of_ble_eq_true rfl) (fun X F K hT hret => ?_)
  unfold wp_BRg_enter at hw
  have key : ∀ (mc0 ms0 c0 n0 : Nat), mc0 = mc → ms0 = ms → c0 = 0 → n0 = 0 → c0 + mc0 = mc → n0 + ms0 = ms → jat l D X 2 0 [(0, .ref v0), (1, .ref v1)] [] (cwd k T) c0 n0 := by
    intro mc0 ms0 c0 n0 hm1 hm2 hz1 hz2 hc0 hn0
    subst hm1; subst hm2
    clear hz1 hz2
    refine j_aload_n F 0 d_BRg_enter_0 rfl ?_
    obtain ⟨hc1, q_1, hc2, hw⟩ := hw
    refine c_getr F K hT 5 0 rfl tu_Register (by decide) (by decide) rfl tq_304 (Or.inl rfl) hc1 hc2 d_BRg_enter_1 ?_
    refine j_aload_n F 1 d_BRg_enter_4 rfl ?_
    obtain ⟨mc_4, ms_5, mc_6, ms_7, ⟨he1, he2⟩, hw⟩ := hw
    obtain ⟨hg1, hw⟩ := hw
    refine c_callVi F K hT (c_BAL_add l hw) (tw_gV tq_328 tq_329 tq_330 tq_233 tq_331) 7 rfl (by decide) hg1 q_BAL_add rfl ⟨by decide, by decide⟩ ⟨rm_l hc0 he1, rm_l hn0 he2⟩ rfl (Nat.le_of_ble_eq_true rfl) d_BRg_enter_5 (fun r_3 T_2 hw hT => ?_)
    have hc0 := rm_c hc0 he1
    have hn0 := rm_c hn0 he2
    refine j_pop F rfl d_BRg_enter_8 ?_
    refine j_aload_n F 0 d_BRg_enter_9 rfl ?_
    obtain ⟨hc1, q_8, hc2, hw⟩ := hw
    refine c_getr F K hT 5 0 rfl tu_Register (by decide) (by decide) rfl tq_304 (Or.inl rfl) hc1 hc2 d_BRg_enter_10 ?_
    obtain ⟨hg1, hw⟩ := hw
    refine c_callVi F K hT (c_BAL_size l hw) (tw_gV tq_305 tq_306 tq_307 tq_233 tq_308) 7 rfl (by decide) hg1 q_BAL_size rfl ⟨by decide, by decide⟩ ⟨rm_z hc0, rm_z hn0⟩ rfl (Nat.le_of_ble_eq_true rfl) d_BRg_enter_13 (fun r_10 T_9 hw hT => ?_)
    exact hret _ _ _ _ _ _ hw hT (rm_y hc0) (rm_y hn0) d_BRg_enter_16
  exact key mc ms 0 0 rfl rfl rfl rfl (Nat.zero_add _) (Nat.zero_add _)
abbrev y_BRg_burdensOf : MethodName := ⟨"LandBook$Register", "burdensOf", "([III)[Z"⟩
theorem q_BRg_burdensOf : y_BRg_burdensOf.cls = "LandBook$Register" ∧ y_BRg_burdensOf.cls ≠ "java/lang/invoke/MethodHandle" ∧ y_BRg_burdensOf.cls ≠ "java/lang/invoke/VarHandle" ∧ (parseMethodDescriptor y_BRg_burdensOf.desc).map (fun d => d.parameters.length) = some 3 := by decide +kernel
theorem d_BRg_burdensOf_0 : decode prog_10_method_21_code 0 = .ok (.aload_n 0, 1) := by decide +kernel
theorem d_BRg_burdensOf_1 : decode prog_10_method_21_code 1 = .ok (.getfield 21, 3) := by decide +kernel
theorem d_BRg_burdensOf_4 : decode prog_10_method_21_code 4 = .ok (.invokevirtual 31, 3) := by decide +kernel
theorem d_BRg_burdensOf_7 : decode prog_10_method_21_code 7 = .ok (.iconst 1, 1) := by decide +kernel
theorem d_BRg_burdensOf_8 : decode prog_10_method_21_code 8 = .ok (.iadd, 1) := by decide +kernel
theorem d_BRg_burdensOf_9 : decode prog_10_method_21_code 9 = .ok (.newarray .boolean, 2) := by decide +kernel
theorem d_BRg_burdensOf_11 : decode prog_10_method_21_code 11 = .ok (.astore 4, 2) := by decide +kernel
theorem d_BRg_burdensOf_13 : decode prog_10_method_21_code 13 = .ok (.iconst 1, 1) := by decide +kernel
theorem d_BRg_burdensOf_14 : decode prog_10_method_21_code 14 = .ok (.istore 5, 2) := by decide +kernel
theorem d_BRg_burdensOf_16 : decode prog_10_method_21_code 16 = .ok (.iload 5, 2) := by decide +kernel
theorem d_BRg_burdensOf_18 : decode prog_10_method_21_code 18 = .ok (.aload_n 0, 1) := by decide +kernel
theorem d_BRg_burdensOf_19 : decode prog_10_method_21_code 19 = .ok (.getfield 21, 3) := by decide +kernel
theorem d_BRg_burdensOf_22 : decode prog_10_method_21_code 22 = .ok (.invokevirtual 31, 3) := by decide +kernel
theorem d_BRg_burdensOf_25 : decode prog_10_method_21_code 25 = .ok (.if_icmp .gt 59, 3) := by decide +kernel
theorem d_BRg_burdensOf_84 : decode prog_10_method_21_code 84 = .ok (.aload 4, 2) := by decide +kernel
theorem d_BRg_burdensOf_86 : decode prog_10_method_21_code 86 = .ok (.areturn, 1) := by decide +kernel
theorem d_BRg_burdensOf_28 : decode prog_10_method_21_code 28 = .ok (.aload_n 1, 1) := by decide +kernel
theorem d_BRg_burdensOf_29 : decode prog_10_method_21_code 29 = .ok (.astore 6, 2) := by decide +kernel
theorem d_BRg_burdensOf_31 : decode prog_10_method_21_code 31 = .ok (.aload 6, 2) := by decide +kernel
theorem d_BRg_burdensOf_33 : decode prog_10_method_21_code 33 = .ok (.arraylength, 1) := by decide +kernel
theorem d_BRg_burdensOf_34 : decode prog_10_method_21_code 34 = .ok (.istore 7, 2) := by decide +kernel
theorem d_BRg_burdensOf_36 : decode prog_10_method_21_code 36 = .ok (.iconst 0, 1) := by decide +kernel
theorem d_BRg_burdensOf_37 : decode prog_10_method_21_code 37 = .ok (.istore 8, 2) := by decide +kernel
theorem d_BRg_burdensOf_39 : decode prog_10_method_21_code 39 = .ok (.iload 8, 2) := by decide +kernel
theorem d_BRg_burdensOf_41 : decode prog_10_method_21_code 41 = .ok (.iload 7, 2) := by decide +kernel
theorem d_BRg_burdensOf_43 : decode prog_10_method_21_code 43 = .ok (.if_icmp .ge 35, 3) := by decide +kernel
theorem d_BRg_burdensOf_78 : decode prog_10_method_21_code 78 = .ok (.iinc 5 1, 3) := by decide +kernel
theorem d_BRg_burdensOf_81 : decode prog_10_method_21_code 81 = .ok (.goto (-65), 3) := by decide +kernel
theorem d_BRg_burdensOf_46 : decode prog_10_method_21_code 46 = .ok (.aload 6, 2) := by decide +kernel
theorem d_BRg_burdensOf_48 : decode prog_10_method_21_code 48 = .ok (.iload 8, 2) := by decide +kernel
theorem d_BRg_burdensOf_50 : decode prog_10_method_21_code 50 = .ok (.iaload, 1) := by decide +kernel
theorem d_BRg_burdensOf_51 : decode prog_10_method_21_code 51 = .ok (.istore 9, 2) := by decide +kernel
theorem d_BRg_burdensOf_53 : decode prog_10_method_21_code 53 = .ok (.aload_n 0, 1) := by decide +kernel
theorem d_BRg_burdensOf_54 : decode prog_10_method_21_code 54 = .ok (.iload 9, 2) := by decide +kernel
theorem d_BRg_burdensOf_56 : decode prog_10_method_21_code 56 = .ok (.iload 5, 2) := by decide +kernel
theorem d_BRg_burdensOf_58 : decode prog_10_method_21_code 58 = .ok (.iload_n 2, 1) := by decide +kernel
theorem d_BRg_burdensOf_59 : decode prog_10_method_21_code 59 = .ok (.iload_n 3, 1) := by decide +kernel
theorem d_BRg_burdensOf_60 : decode prog_10_method_21_code 60 = .ok (.invokevirtual 102, 3) := by decide +kernel
theorem d_BRg_burdensOf_63 : decode prog_10_method_21_code 63 = .ok (.ifCond .eq 9, 3) := by decide +kernel
theorem d_BRg_burdensOf_66 : decode prog_10_method_21_code 66 = .ok (.aload 4, 2) := by decide +kernel
theorem d_BRg_burdensOf_68 : decode prog_10_method_21_code 68 = .ok (.iload 5, 2) := by decide +kernel
theorem d_BRg_burdensOf_70 : decode prog_10_method_21_code 70 = .ok (.iconst 1, 1) := by decide +kernel
theorem d_BRg_burdensOf_71 : decode prog_10_method_21_code 71 = .ok (.bastore, 1) := by decide +kernel
theorem d_BRg_burdensOf_72 : decode prog_10_method_21_code 72 = .ok (.iinc 8 1, 3) := by decide +kernel
theorem d_BRg_burdensOf_75 : decode prog_10_method_21_code 75 = .ok (.goto (-36), 3) := by decide +kernel
def wp_BRg_burdensOf_72 (post : Nat → CS → Prop) (k16 : Nat → Nat → Nat → Nat → Int → Int → Nat → Int → CS → Prop) (k39 : Nat → Nat → Nat → Nat → Int → Int → Nat → Int → Nat → Int → Int → CS → Prop) (mc0 : Nat) (ms0 : Nat) (v0 : Nat) (v1 : Nat) (v2 : Int) (v3 : Int) (v4 : Nat) (v5 : Int) (v6 : Nat) (v7 : Int) (v8 : Int) (T : CS) : Prop := k39 mc0 ms0 v0 v1 v2 v3 v4 v5 v6 v7 (v8 + 1) T
def wp_BRg_burdensOf_39 (post : Nat → CS → Prop) (k16 : Nat → Nat → Nat → Nat → Int → Int → Nat → Int → CS → Prop) : Nat → Nat → Nat → Nat → Nat → Int → Int → Nat → Int → Nat → Int → Int → CS → Prop
  | 0, _, _, _, _, _, _, _, _, _, _, _, _ => False
  | n + 1, mc0, ms0, v0, v1, v2, v3, v4, v5, v6, v7, v8, T => inR v8 ∧ inR v7 ∧ (v7 ≤ v8 → (k16 mc0 ms0 v0 v1 v2 v3 v4 (v5 + 1) T)) ∧ (¬ (v7 ≤ v8) → (tg T v6 = 11 ∧ ixR v8 (ln T v6) ∧ (∀ v9_1 : Int, v9_1 = (fi T v6 v8.toNat) → tg T v0 = 5 ∧ wp_BRg_isBurdened (fun r_3 T_2 => inR r_3 ∧ (r_3 = 0 → wp_BRg_burdensOf_72 post k16 (wp_BRg_burdensOf_39 post k16 n) mc0 ms0 v0 v1 v2 v3 v4 v5 v6 v7 v8 T_2) ∧ (¬ (r_3 = 0) → (tg T_2 v4 = 12 ∧ ixR v5 (ln T_2 v4) ∧ b01 1 ∧ ((∀ T_4 : CS, T_4 = cs_i T_2 v4 v5.toNat 1 → wp_BRg_burdensOf_72 post k16 (wp_BRg_burdensOf_39 post k16 n) mc0 ms0 v0 v1 v2 v3 v4 v5 v6 v7 v8 T_4))))) v0 v9_1 v5 v2 v3 T)))
def wp_BRg_burdensOf_16 (post : Nat → CS → Prop) : Nat → Nat → Nat → Nat → Nat → Int → Int → Nat → Int → CS → Prop
  | 0, _, _, _, _, _, _, _, _, _ => False
  | n + 1, mc0, ms0, v0, v1, v2, v3, v4, v5, T => tg T v0 = 5 ∧ ∃ q_1 : Nat, fo T v0 2 = some q_1 ∧ (tg T q_1 = 7 ∧ wp_BAL_size (fun r_3 T_2 => inR v5 ∧ inR r_3 ∧ (r_3 < v5 → post v4 T_2) ∧ (¬ (r_3 < v5) → (tg T_2 v1 = 11 ∧ (∀ v7_4 : Int, v7_4 = (ln T_2 v1 : Int) → ∃ nn : Nat, wp_BRg_burdensOf_39 post (wp_BRg_burdensOf_16 post n) nn mc0 ms0 v0 v1 v2 v3 v4 v5 v1 v7_4 0 T_2)))) q_1 T)
def wp_BRg_burdensOf (post : Nat → CS → Prop) (mc0 ms0 : Nat) (v0 : Nat) (v1 : Nat) (v2 : Int) (v3 : Int) (T : CS) : Prop := tg T v0 = 5 ∧ ∃ q_1 : Nat, fo T v0 2 = some q_1 ∧ (tg T q_1 = 7 ∧ wp_BAL_size (fun r_3 T_2 => ((0 : Int) ≤ (r_3 + 1) ∧ ((r_3 + 1) : Int) ≤ 134217728) ∧ ∃ mc_6 ms_7 : Nat, (mc0 = 1 + mc_6 ∧ ms0 = (r_3 + 1).toNat + ms_7) ∧ (∀ (q_4 : Nat) (T_5 : CS), tg T_2 q_4 = 0 → T_5 = cs_new T_2 q_4 12 (r_3 + 1).toNat → ∃ nn : Nat, wp_BRg_burdensOf_16 post nn mc_6 ms_7 v0 v1 v2 v3 q_4 1 T_5)) q_1 T)
set_option maxHeartbeats 4000000 in
set_option maxRecDepth 100000 in
theorem c_BRg_burdensOf (l : Launch) {D : va_G} {k : CK} {post : Nat → CS → Prop} {mc ms : Nat} {v0 : Nat} {v1 : Nat} {v2 : Int} {v3 : Int} {T : CS} (hw : wp_BRg_burdensOf post mc ms v0 v1 v2 v3 T) : jCr l D k y_BRg_burdensOf prog_10_method_21_code 10 (some (.array .boolean)) 6 135 mc ms T [.ref v0, .ref v1, vi v2, vi v3] post := by
  refine j_cor (Or.inr ⟨_, rfl⟩) (own := "LandBook$Register") (by decide) rfl (Nat.le_of_ble_eq_true rfl) (fun X F K hT hret => ?_)
  have B16 : ∀ (nn : Nat) (mc0 : Nat) (ms0 : Nat) (v0 : Nat) (v1 : Nat) (v2 : Int) (v3 : Int) (v4 : Nat) (v5 : Int) (T : CS) (c0 n0 : Nat), c0 + mc0 = mc → n0 + ms0 = ms → cs_ok k T → wp_BRg_burdensOf_16 post nn mc0 ms0 v0 v1 v2 v3 v4 v5 T → jat l D X 10 16 [(0, .ref v0), (1, .ref v1), (2, vi v2), (3, vi v3), (4, .ref v4), (5, vi v5)] [] (cwd k T) c0 n0 := by
    intro nn
    induction nn with
    | zero => intro mc0 ms0 v0 v1 v2 v3 v4 v5 T c0 n0 hc0 hn0 hT hw; exact hw.elim
    | succ n16 ih16 =>
      have B39 : ∀ (nn : Nat) (mc0 : Nat) (ms0 : Nat) (v0 : Nat) (v1 : Nat) (v2 : Int) (v3 : Int) (v4 : Nat) (v5 : Int) (v6 : Nat) (v7 : Int) (v8 : Int) (T : CS) (c0 n0 : Nat), c0 + mc0 = mc → n0 + ms0 = ms → cs_ok k T → wp_BRg_burdensOf_39 post (wp_BRg_burdensOf_16 post n16) nn mc0 ms0 v0 v1 v2 v3 v4 v5 v6 v7 v8 T → jat l D X 10 39 [(0, .ref v0), (1, .ref v1), (2, vi v2), (3, vi v3), (4, .ref v4), (5, vi v5), (6, .ref v6), (7, vi v7), (8, vi v8)] [] (cwd k T) c0 n0 := by
        intro nn
        induction nn with
        | zero => intro mc0 ms0 v0 v1 v2 v3 v4 v5 v6 v7 v8 T c0 n0 hc0 hn0 hT hw; exact hw.elim
        | succ n39 ih39 =>
          have B72 : ∀ (mc0 : Nat) (ms0 : Nat) (v0 : Nat) (v1 : Nat) (v2 : Int) (v3 : Int) (v4 : Nat) (v5 : Int) (v6 : Nat) (v7 : Int) (v8 : Int) (T : CS) (c0 n0 : Nat), c0 + mc0 = mc → n0 + ms0 = ms → cs_ok k T → wp_BRg_burdensOf_72 post (wp_BRg_burdensOf_16 post n16) (wp_BRg_burdensOf_39 post (wp_BRg_burdensOf_16 post n16) n39) mc0 ms0 v0 v1 v2 v3 v4 v5 v6 v7 v8 T → jat l D X 10 72 [(0, .ref v0), (1, .ref v1), (2, vi v2), (3, vi v3), (4, .ref v4), (5, vi v5), (6, .ref v6), (7, vi v7), (8, vi v8)] [] (cwd k T) c0 n0 := by
            intro mc0 ms0 v0 v1 v2 v3 v4 v5 v6 v7 v8 T c0 n0 hc0 hn0 hT hw
            unfold wp_BRg_burdensOf_72 at hw
            refine j_iinc F 8 [(8, vi (v8 + 1)), (0, .ref v0), (1, .ref v1), (2, vi v2), (3, vi v3), (4, .ref v4), (5, vi v5), (6, .ref v6), (7, vi v7)] d_BRg_burdensOf_72 rfl (by decide) rfl ?_
            refine j_goto F 39 d_BRg_burdensOf_75 rfl ?_
            refine j_sub [1, 2, 3, 4, 5, 6, 7, 8, 0] rfl ?_
            exact ih39 _ _ _ _ _ _ _ _ _ _ _ _ _ _ hc0 hn0 hT hw
          intro mc0 ms0 v0 v1 v2 v3 v4 v5 v6 v7 v8 T c0 n0 hc0 hn0 hT hw
          unfold wp_BRg_burdensOf_39 at hw
          refine j_iload F 8 d_BRg_burdensOf_39 rfl ?_
          refine j_iload F 7 d_BRg_burdensOf_41 rfl ?_
          obtain ⟨hc1, hc2, hwt, hwf⟩ := hw
          refine j_icmp_ge F 78 hc1 hc2 d_BRg_burdensOf_43 rfl (fun hh => ?_) (fun hh => ?_)
          · have hw := hwt hh
            refine j_iinc F 5 [(5, vi (v5 + 1)), (0, .ref v0), (1, .ref v1), (2, vi v2), (3, vi v3), (4, .ref v4), (6, .ref v6), (7, vi v7), (8, vi v8)] d_BRg_burdensOf_78 rfl (by decide) rfl ?_
            refine j_goto F 16 d_BRg_burdensOf_81 rfl ?_
            refine j_sub [1, 2, 3, 4, 5, 0] rfl ?_
            exact ih16 _ _ _ _ _ _ _ _ _ _ _ hc0 hn0 hT hw
          · have hw := hwf hh
            refine j_aload F 6 d_BRg_burdensOf_46 rfl ?_
            refine j_iload F 8 d_BRg_burdensOf_48 rfl ?_
            obtain ⟨hc1, hc2, hw⟩ := hw
            refine c_iald F K hT hc1 hc2 d_BRg_burdensOf_50 ?_
            refine j_nmi (fun v9_1 e_v9_1 => ?_)
            have hw := hw v9_1 e_v9_1
            refine j_istore F [(9, vi v9_1), (0, .ref v0), (1, .ref v1), (2, vi v2), (3, vi v3), (4, .ref v4), (5, vi v5), (6, .ref v6), (7, vi v7), (8, vi v8)] d_BRg_burdensOf_51 (by decide) rfl ?_
            refine j_aload_n F 1 d_BRg_burdensOf_53 rfl ?_
            refine j_iload F 0 d_BRg_burdensOf_54 rfl ?_
            refine j_iload F 6 d_BRg_burdensOf_56 rfl ?_
            refine j_iload_n F 3 d_BRg_burdensOf_58 rfl ?_
            refine j_iload_n F 4 d_BRg_burdensOf_59 rfl ?_
            obtain ⟨hg1, hw⟩ := hw
            refine c_callVi F K hT (c_BRg_isBurdened l hw) (tw_gV tq_370 tq_371 tq_372 tq_336 tq_373) 5 rfl (by decide) hg1 q_BRg_isBurdened rfl ⟨by decide, by decide⟩ ⟨rm_z hc0, rm_z hn0⟩ rfl (Nat.le_of_ble_eq_true rfl) d_BRg_burdensOf_60 (fun r_3 T_2 hw hT => ?_)
            obtain ⟨hc1, hwt, hwf⟩ := hw
            refine j_if_eq F 72 hc1 d_BRg_burdensOf_63 rfl (fun hh => ?_) (fun hh => ?_)
            · have hw := hwt hh
              refine j_sub [1, 2, 3, 4, 5, 6, 7, 8, 9] rfl ?_
              exact B72 _ _ _ _ _ _ _ _ _ _ _ _ _ _ hc0 hn0 hT hw
            · have hw := hwf hh
              refine j_aload F 5 d_BRg_burdensOf_66 rfl ?_
              refine j_iload F 6 d_BRg_burdensOf_68 rfl ?_
              refine j_iconst F d_BRg_burdensOf_70 ?_
              obtain ⟨hc1, hc2, hz, hw⟩ := hw
              refine c_zast F K hT hc1 hc2 hz d_BRg_burdensOf_71 (fun T_4 e_T_4 hT => ?_)
              have hw := hw T_4 e_T_4
              refine j_sub [1, 2, 3, 4, 5, 6, 7, 8, 9] rfl ?_
              exact B72 _ _ _ _ _ _ _ _ _ _ _ _ _ _ hc0 hn0 hT hw
      intro mc0 ms0 v0 v1 v2 v3 v4 v5 T c0 n0 hc0 hn0 hT hw
      unfold wp_BRg_burdensOf_16 at hw
      refine j_iload F 5 d_BRg_burdensOf_16 rfl ?_
      refine j_aload_n F 0 d_BRg_burdensOf_18 rfl ?_
      obtain ⟨hc1, q_1, hc2, hw⟩ := hw
      refine c_getr F K hT 5 2 rfl tu_Register (by decide) (by decide) rfl tq_310 (Or.inl rfl) hc1 hc2 d_BRg_burdensOf_19 ?_
      obtain ⟨hg1, hw⟩ := hw
      refine c_callVi F K hT (c_BAL_size l hw) (tw_gV tq_305 tq_306 tq_307 tq_233 tq_308) 7 rfl (by decide) hg1 q_BAL_size rfl ⟨by decide, by decide⟩ ⟨rm_z hc0, rm_z hn0⟩ rfl (Nat.le_of_ble_eq_true rfl) d_BRg_burdensOf_22 (fun r_3 T_2 hw hT => ?_)
      obtain ⟨hc1, hc2, hwt, hwf⟩ := hw
      refine j_icmp_gt F 84 hc1 hc2 d_BRg_burdensOf_25 rfl (fun hh => ?_) (fun hh => ?_)
      · have hw := hwt hh
        refine j_aload F 4 d_BRg_burdensOf_84 rfl ?_
        exact hret _ _ _ _ _ _ hw hT (rm_y hc0) (rm_y hn0) d_BRg_burdensOf_86
      · have hw := hwf hh
        refine j_aload_n F 1 d_BRg_burdensOf_28 rfl ?_
        refine j_astore F [(6, .ref v1), (0, .ref v0), (1, .ref v1), (2, vi v2), (3, vi v3), (4, .ref v4), (5, vi v5)] d_BRg_burdensOf_29 (by decide) rfl ?_
        refine j_aload F 0 d_BRg_burdensOf_31 rfl ?_
        obtain ⟨hc1, hw⟩ := hw
        refine c_alen11 F K hT hc1 d_BRg_burdensOf_33 ?_
        refine j_nmi (fun v7_4 e_v7_4 => ?_)
        have hw := hw v7_4 e_v7_4
        refine j_istore F [(7, vi v7_4), (6, .ref v1), (0, .ref v0), (1, .ref v1), (2, vi v2), (3, vi v3), (4, .ref v4), (5, vi v5)] d_BRg_burdensOf_34 (by decide) rfl ?_
        refine j_iconst F d_BRg_burdensOf_36 ?_
        refine j_istore F [(8, vi 0), (7, vi v7_4), (6, .ref v1), (0, .ref v0), (1, .ref v1), (2, vi v2), (3, vi v3), (4, .ref v4), (5, vi v5)] d_BRg_burdensOf_37 (by decide) rfl ?_
        refine j_sub [3, 4, 5, 6, 7, 8, 2, 1, 0] rfl ?_
        obtain ⟨nn, hw⟩ := hw
        exact B39 nn _ _ _ _ _ _ _ _ _ _ _ _ _ _ hc0 hn0 hT hw
  unfold wp_BRg_burdensOf at hw
  have key : ∀ (mc0 ms0 c0 n0 : Nat), mc0 = mc → ms0 = ms → c0 = 0 → n0 = 0 → c0 + mc0 = mc → n0 + ms0 = ms → jat l D X 10 0 [(0, .ref v0), (1, .ref v1), (2, vi v2), (3, vi v3)] [] (cwd k T) c0 n0 := by
    intro mc0 ms0 c0 n0 hm1 hm2 hz1 hz2 hc0 hn0
    subst hm1; subst hm2
    clear hz1 hz2
    refine j_aload_n F 0 d_BRg_burdensOf_0 rfl ?_
    obtain ⟨hc1, q_1, hc2, hw⟩ := hw
    refine c_getr F K hT 5 2 rfl tu_Register (by decide) (by decide) rfl tq_310 (Or.inl rfl) hc1 hc2 d_BRg_burdensOf_1 ?_
    obtain ⟨hg1, hw⟩ := hw
    refine c_callVi F K hT (c_BAL_size l hw) (tw_gV tq_305 tq_306 tq_307 tq_233 tq_308) 7 rfl (by decide) hg1 q_BAL_size rfl ⟨by decide, by decide⟩ ⟨rm_z hc0, rm_z hn0⟩ rfl (Nat.le_of_ble_eq_true rfl) d_BRg_burdensOf_4 (fun r_3 T_2 hw hT => ?_)
    refine j_iconst F d_BRg_burdensOf_7 ?_
    refine j_iadd F d_BRg_burdensOf_8 ?_
    obtain ⟨hr0, mc_6, ms_7, ⟨he1, he2⟩, hw⟩ := hw
    refine c_newa12 F K hT tq_324 hr0 (rm_l hc0 he1) (rm_l hn0 he2) d_BRg_burdensOf_9 (fun q_4 T_5 e_q_4 e_T_5 hT => ?_)
    have hw := hw q_4 T_5 e_q_4 e_T_5
    have hc0 := rm_c hc0 he1
    have hn0 := rm_c hn0 he2
    refine j_astore F [(4, .ref q_4), (0, .ref v0), (1, .ref v1), (2, vi v2), (3, vi v3)] d_BRg_burdensOf_11 (by decide) rfl ?_
    refine j_iconst F d_BRg_burdensOf_13 ?_
    refine j_istore F [(5, vi 1), (4, .ref q_4), (0, .ref v0), (1, .ref v1), (2, vi v2), (3, vi v3)] d_BRg_burdensOf_14 (by decide) rfl ?_
    refine j_sub [2, 3, 4, 5, 1, 0] rfl ?_
    obtain ⟨nn, hw⟩ := hw
    exact B16 nn _ _ _ _ _ _ _ _ _ _ _ hc0 hn0 hT hw
  exact key mc ms 0 0 rfl rfl rfl rfl (Nat.zero_add _) (Nat.zero_add _)
theorem tq_399 : (Jvm.Cond.methodLink "LandBook$Register" (150 : Nat) ({ cls := "LandBook$Register", name := "burdensOf", desc := "([III)[Z" } : Jvm.MethodName)) ∈ tw_G := tw_in (List.mem_of_getElem? (i := 759) (by decide +kernel)) rfl
theorem tq_400 : (Jvm.Cond.instanceMethod ({ cls := "LandBook$Register", name := "burdensOf", desc := "([III)[Z" } : Jvm.MethodName)) ∈ tw_G := tw_in (List.mem_of_getElem? (i := 761) (by decide +kernel)) rfl
theorem tq_401 : (Jvm.Cond.selects "LandBook$Register" ⟨"LandBook$Register", "burdensOf", "([III)[Z"⟩ ⟨"LandBook$Register", "burdensOf", "([III)[Z"⟩) ∈ tw_G := tw_in (List.mem_of_getElem? (i := 15) (by decide +kernel)) rfl
theorem tq_402 : (Jvm.Cond.code ({ cls := "LandBook$Register", name := "burdensOf", desc := "([III)[Z" } : Jvm.MethodName) prog_10_method_21_code (10 : Nat) (Option.some (Jvm.ClassFile.FieldType.array Jvm.ClassFile.FieldType.boolean))) ∈ tw_G := tw_in (List.mem_of_getElem? (i := 762) (by decide +kernel)) rfl
abbrev y_BRg_replaceLots : MethodName := ⟨"LandBook$Register", "replaceLots", "([LLandBook$Points;)I"⟩
theorem q_BRg_replaceLots : y_BRg_replaceLots.cls = "LandBook$Register" ∧ y_BRg_replaceLots.cls ≠ "java/lang/invoke/MethodHandle" ∧ y_BRg_replaceLots.cls ≠ "java/lang/invoke/VarHandle" ∧ (parseMethodDescriptor y_BRg_replaceLots.desc).map (fun d => d.parameters.length) = some 1 := by decide +kernel
theorem d_BRg_replaceLots_0 : decode prog_10_method_20_code 0 = .ok (.aload_n 0, 1) := by decide +kernel
theorem d_BRg_replaceLots_1 : decode prog_10_method_20_code 1 = .ok (.invokevirtual 96, 3) := by decide +kernel
theorem d_BRg_replaceLots_4 : decode prog_10_method_20_code 4 = .ok (.istore_n 2, 1) := by decide +kernel
theorem d_BRg_replaceLots_5 : decode prog_10_method_20_code 5 = .ok (.aload_n 0, 1) := by decide +kernel
theorem d_BRg_replaceLots_6 : decode prog_10_method_20_code 6 = .ok (.iload_n 2, 1) := by decide +kernel
theorem d_BRg_replaceLots_7 : decode prog_10_method_20_code 7 = .ok (.invokevirtual 116, 3) := by decide +kernel
theorem d_BRg_replaceLots_10 : decode prog_10_method_20_code 10 = .ok (.astore_n 3, 1) := by decide +kernel
theorem d_BRg_replaceLots_11 : decode prog_10_method_20_code 11 = .ok (.bipush 100, 2) := by decide +kernel
theorem d_BRg_replaceLots_13 : decode prog_10_method_20_code 13 = .ok (.newarray .int, 2) := by decide +kernel
theorem d_BRg_replaceLots_15 : decode prog_10_method_20_code 15 = .ok (.astore 4, 2) := by decide +kernel
theorem d_BRg_replaceLots_17 : decode prog_10_method_20_code 17 = .ok (.aload_n 0, 1) := by decide +kernel
theorem d_BRg_replaceLots_18 : decode prog_10_method_20_code 18 = .ok (.aload_n 3, 1) := by decide +kernel
theorem d_BRg_replaceLots_19 : decode prog_10_method_20_code 19 = .ok (.getfield 138, 3) := by decide +kernel
theorem d_BRg_replaceLots_22 : decode prog_10_method_20_code 22 = .ok (.iconst 0, 1) := by decide +kernel
theorem d_BRg_replaceLots_23 : decode prog_10_method_20_code 23 = .ok (.iaload, 1) := by decide +kernel
theorem d_BRg_replaceLots_24 : decode prog_10_method_20_code 24 = .ok (.aload_n 3, 1) := by decide +kernel
theorem d_BRg_replaceLots_25 : decode prog_10_method_20_code 25 = .ok (.getfield 58, 3) := by decide +kernel
theorem d_BRg_replaceLots_28 : decode prog_10_method_20_code 28 = .ok (.iload_n 2, 1) := by decide +kernel
theorem d_BRg_replaceLots_29 : decode prog_10_method_20_code 29 = .ok (.iconst 1, 1) := by decide +kernel
theorem d_BRg_replaceLots_30 : decode prog_10_method_20_code 30 = .ok (.isub, 1) := by decide +kernel
theorem d_BRg_replaceLots_31 : decode prog_10_method_20_code 31 = .ok (.aload 4, 2) := by decide +kernel
theorem d_BRg_replaceLots_33 : decode prog_10_method_20_code 33 = .ok (.invokevirtual 124, 3) := by decide +kernel
theorem d_BRg_replaceLots_36 : decode prog_10_method_20_code 36 = .ok (.aload_n 0, 1) := by decide +kernel
theorem d_BRg_replaceLots_37 : decode prog_10_method_20_code 37 = .ok (.aload_n 3, 1) := by decide +kernel
theorem d_BRg_replaceLots_38 : decode prog_10_method_20_code 38 = .ok (.getfield 138, 3) := by decide +kernel
theorem d_BRg_replaceLots_41 : decode prog_10_method_20_code 41 = .ok (.aload_n 3, 1) := by decide +kernel
theorem d_BRg_replaceLots_42 : decode prog_10_method_20_code 42 = .ok (.getfield 58, 3) := by decide +kernel
theorem d_BRg_replaceLots_45 : decode prog_10_method_20_code 45 = .ok (.iload_n 2, 1) := by decide +kernel
theorem d_BRg_replaceLots_46 : decode prog_10_method_20_code 46 = .ok (.iconst 1, 1) := by decide +kernel
theorem d_BRg_replaceLots_47 : decode prog_10_method_20_code 47 = .ok (.isub, 1) := by decide +kernel
theorem d_BRg_replaceLots_48 : decode prog_10_method_20_code 48 = .ok (.invokevirtual 150, 3) := by decide +kernel
theorem d_BRg_replaceLots_51 : decode prog_10_method_20_code 51 = .ok (.astore 5, 2) := by decide +kernel
theorem d_BRg_replaceLots_53 : decode prog_10_method_20_code 53 = .ok (.aload_n 3, 1) := by decide +kernel
theorem d_BRg_replaceLots_54 : decode prog_10_method_20_code 54 = .ok (.getfield 138, 3) := by decide +kernel
theorem d_BRg_replaceLots_57 : decode prog_10_method_20_code 57 = .ok (.astore 6, 2) := by decide +kernel
theorem d_BRg_replaceLots_59 : decode prog_10_method_20_code 59 = .ok (.aload 6, 2) := by decide +kernel
theorem d_BRg_replaceLots_61 : decode prog_10_method_20_code 61 = .ok (.arraylength, 1) := by decide +kernel
theorem d_BRg_replaceLots_62 : decode prog_10_method_20_code 62 = .ok (.istore 7, 2) := by decide +kernel
theorem d_BRg_replaceLots_64 : decode prog_10_method_20_code 64 = .ok (.iconst 0, 1) := by decide +kernel
theorem d_BRg_replaceLots_65 : decode prog_10_method_20_code 65 = .ok (.istore 8, 2) := by decide +kernel
theorem d_BRg_replaceLots_67 : decode prog_10_method_20_code 67 = .ok (.iload 8, 2) := by decide +kernel
theorem d_BRg_replaceLots_69 : decode prog_10_method_20_code 69 = .ok (.iload 7, 2) := by decide +kernel
theorem d_BRg_replaceLots_71 : decode prog_10_method_20_code 71 = .ok (.if_icmp .ge 26, 3) := by decide +kernel
theorem d_BRg_replaceLots_97 : decode prog_10_method_20_code 97 = .ok (.aload_n 0, 1) := by decide +kernel
theorem d_BRg_replaceLots_98 : decode prog_10_method_20_code 98 = .ok (.getfield 18, 3) := by decide +kernel
theorem d_BRg_replaceLots_101 : decode prog_10_method_20_code 101 = .ok (.invokevirtual 31, 3) := by decide +kernel
theorem d_BRg_replaceLots_104 : decode prog_10_method_20_code 104 = .ok (.iconst 1, 1) := by decide +kernel
theorem d_BRg_replaceLots_105 : decode prog_10_method_20_code 105 = .ok (.iadd, 1) := by decide +kernel
theorem d_BRg_replaceLots_106 : decode prog_10_method_20_code 106 = .ok (.istore 6, 2) := by decide +kernel
theorem d_BRg_replaceLots_108 : decode prog_10_method_20_code 108 = .ok (.aload_n 1, 1) := by decide +kernel
theorem d_BRg_replaceLots_109 : decode prog_10_method_20_code 109 = .ok (.astore 7, 2) := by decide +kernel
theorem d_BRg_replaceLots_111 : decode prog_10_method_20_code 111 = .ok (.aload 7, 2) := by decide +kernel
theorem d_BRg_replaceLots_113 : decode prog_10_method_20_code 113 = .ok (.arraylength, 1) := by decide +kernel
theorem d_BRg_replaceLots_114 : decode prog_10_method_20_code 114 = .ok (.istore 8, 2) := by decide +kernel
theorem d_BRg_replaceLots_116 : decode prog_10_method_20_code 116 = .ok (.iconst 0, 1) := by decide +kernel
theorem d_BRg_replaceLots_117 : decode prog_10_method_20_code 117 = .ok (.istore 9, 2) := by decide +kernel
theorem d_BRg_replaceLots_74 : decode prog_10_method_20_code 74 = .ok (.aload 6, 2) := by decide +kernel
theorem d_BRg_replaceLots_76 : decode prog_10_method_20_code 76 = .ok (.iload 8, 2) := by decide +kernel
theorem d_BRg_replaceLots_78 : decode prog_10_method_20_code 78 = .ok (.iaload, 1) := by decide +kernel
theorem d_BRg_replaceLots_79 : decode prog_10_method_20_code 79 = .ok (.istore 9, 2) := by decide +kernel
theorem d_BRg_replaceLots_81 : decode prog_10_method_20_code 81 = .ok (.aload_n 0, 1) := by decide +kernel
theorem d_BRg_replaceLots_82 : decode prog_10_method_20_code 82 = .ok (.iload 9, 2) := by decide +kernel
theorem d_BRg_replaceLots_84 : decode prog_10_method_20_code 84 = .ok (.invokevirtual 62, 3) := by decide +kernel
theorem d_BRg_replaceLots_87 : decode prog_10_method_20_code 87 = .ok (.iload_n 2, 1) := by decide +kernel
theorem d_BRg_replaceLots_88 : decode prog_10_method_20_code 88 = .ok (.putfield 73, 3) := by decide +kernel
theorem d_BRg_replaceLots_91 : decode prog_10_method_20_code 91 = .ok (.iinc 8 1, 3) := by decide +kernel
theorem d_BRg_replaceLots_94 : decode prog_10_method_20_code 94 = .ok (.goto (-27), 3) := by decide +kernel
theorem d_BRg_replaceLots_119 : decode prog_10_method_20_code 119 = .ok (.iload 9, 2) := by decide +kernel
theorem d_BRg_replaceLots_121 : decode prog_10_method_20_code 121 = .ok (.iload 8, 2) := by decide +kernel
theorem d_BRg_replaceLots_123 : decode prog_10_method_20_code 123 = .ok (.if_icmp .ge 41, 3) := by decide +kernel
theorem d_BRg_replaceLots_164 : decode prog_10_method_20_code 164 = .ok (.iload 6, 2) := by decide +kernel
theorem d_BRg_replaceLots_166 : decode prog_10_method_20_code 166 = .ok (.ireturn, 1) := by decide +kernel
theorem d_BRg_replaceLots_126 : decode prog_10_method_20_code 126 = .ok (.aload 7, 2) := by decide +kernel
theorem d_BRg_replaceLots_128 : decode prog_10_method_20_code 128 = .ok (.iload 9, 2) := by decide +kernel
theorem d_BRg_replaceLots_130 : decode prog_10_method_20_code 130 = .ok (.aaload, 1) := by decide +kernel
theorem d_BRg_replaceLots_131 : decode prog_10_method_20_code 131 = .ok (.astore 10, 2) := by decide +kernel
theorem d_BRg_replaceLots_133 : decode prog_10_method_20_code 133 = .ok (.aload_n 0, 1) := by decide +kernel
theorem d_BRg_replaceLots_134 : decode prog_10_method_20_code 134 = .ok (.getfield 18, 3) := by decide +kernel
theorem d_BRg_replaceLots_137 : decode prog_10_method_20_code 137 = .ok (.new 39, 3) := by decide +kernel
theorem d_BRg_replaceLots_140 : decode prog_10_method_20_code 140 = .ok (.dup, 1) := by decide +kernel
theorem d_BRg_replaceLots_141 : decode prog_10_method_20_code 141 = .ok (.aload 10, 2) := by decide +kernel
theorem d_BRg_replaceLots_143 : decode prog_10_method_20_code 143 = .ok (.invokevirtual 45, 3) := by decide +kernel
theorem d_BRg_replaceLots_146 : decode prog_10_method_20_code 146 = .ok (.iload_n 2, 1) := by decide +kernel
theorem d_BRg_replaceLots_147 : decode prog_10_method_20_code 147 = .ok (.aload 4, 2) := by decide +kernel
theorem d_BRg_replaceLots_149 : decode prog_10_method_20_code 149 = .ok (.aload 5, 2) := by decide +kernel
theorem d_BRg_replaceLots_151 : decode prog_10_method_20_code 151 = .ok (.invokespecial 51, 3) := by decide +kernel
theorem d_BRg_replaceLots_154 : decode prog_10_method_20_code 154 = .ok (.invokevirtual 54, 3) := by decide +kernel
theorem d_BRg_replaceLots_157 : decode prog_10_method_20_code 157 = .ok (.pop, 1) := by decide +kernel
theorem d_BRg_replaceLots_158 : decode prog_10_method_20_code 158 = .ok (.iinc 9 1, 3) := by decide +kernel
theorem d_BRg_replaceLots_161 : decode prog_10_method_20_code 161 = .ok (.goto (-42), 3) := by decide +kernel
def wp_BRg_replaceLots_119 (post : Int → CS → Prop) : Nat → Nat → Nat → Nat → Int → Nat → Nat → Int → Nat → Int → Int → CS → Prop
  | 0, _, _, _, _, _, _, _, _, _, _, _ => False
  | n + 1, mc0, ms0, v0, v2, v4, v5, v6, v7, v8, v9, T => inR v9 ∧ inR v8 ∧ (v8 ≤ v9 → post v6 T) ∧ (¬ (v8 ≤ v9) → (tg T v7 = 14 ∧ ixR v9 (ln T v7) ∧ ∃ q_1 : Nat, fo T v7 v9.toNat = some q_1 ∧ (tg T v0 = 5 ∧ ∃ q_2 : Nat, fo T v0 1 = some q_2 ∧ (∃ mc_5 ms_6 : Nat, (mc0 = 1 + mc_5 ∧ ms0 = 5 + ms_6) ∧ (∀ (q_3 : Nat) (T_4 : CS), tg T q_3 = 0 → T_4 = cs_new T q_3 9 0 → ∃ mc_9 ms_10 mc_11 ms_12 : Nat, (mc_5 = mc_9 + mc_11 ∧ ms_6 = ms_10 + ms_12) ∧ tg T_4 q_1 = 2 ∧ wp_BPt_copy (fun r_8 T_7 => wp_BLo_init (fun T_13 => ∃ mc_17 ms_18 mc_19 ms_20 : Nat, (mc_11 = mc_17 + mc_19 ∧ ms_12 = ms_18 + ms_20) ∧ tg T_13 q_2 = 7 ∧ wp_BAL_add (fun r_16 T_15 => (wp_BRg_replaceLots_119 post n) mc_19 ms_20 v0 v2 v4 v5 v6 v7 v8 (v9 + 1) T_15) mc_17 ms_18 q_2 q_3 T_13) q_3 r_8 v2 v4 v5 T_7) mc_9 ms_10 q_1 T_4)))))
def wp_BRg_replaceLots_67 (post : Int → CS → Prop) : Nat → Nat → Nat → Nat → Nat → Int → Nat → Nat → Nat → Int → Int → CS → Prop
  | 0, _, _, _, _, _, _, _, _, _, _, _ => False
  | n + 1, mc0, ms0, v0, v1, v2, v4, v5, v6, v7, v8, T => inR v8 ∧ inR v7 ∧ (v7 ≤ v8 → (tg T v0 = 5 ∧ ∃ q_1 : Nat, fo T v0 1 = some q_1 ∧ (tg T q_1 = 7 ∧ wp_BAL_size (fun r_3 T_2 => tg T_2 v1 = 14 ∧ (∀ v8_4 : Int, v8_4 = (ln T_2 v1 : Int) → ∃ nn : Nat, wp_BRg_replaceLots_119 post nn mc0 ms0 v0 v2 v4 v5 (r_3 + 1) v1 v8_4 0 T_2)) q_1 T))) ∧ (¬ (v7 ≤ v8) → (tg T v6 = 11 ∧ ixR v8 (ln T v6) ∧ (∀ v9_5 : Int, v9_5 = (fi T v6 v8.toNat) → tg T v0 = 5 ∧ wp_BRg_lot (fun r_7 T_6 => tg T_6 r_7 = 9 ∧ ((∀ T_8 : CS, T_8 = cs_i T_6 r_7 4 v2 → (wp_BRg_replaceLots_67 post n) mc0 ms0 v0 v1 v2 v4 v5 v6 v7 (v8 + 1) T_8))) v0 v9_5 T)))
def wp_BRg_replaceLots (post : Int → CS → Prop) (mc0 ms0 : Nat) (v0 : Nat) (v1 : Nat) (T : CS) : Prop := tg T v0 = 5 ∧ wp_BRg_lastEntry (fun r_2 T_1 => tg T_1 v0 = 5 ∧ wp_BRg_deed (fun r_4 T_3 => ((0 : Int) ≤ 100 ∧ (100 : Int) ≤ 134217728) ∧ ∃ mc_7 ms_8 : Nat, (mc0 = 1 + mc_7 ∧ ms0 = 100 + ms_8) ∧ (∀ (q_5 : Nat) (T_6 : CS), tg T_3 q_5 = 0 → T_6 = cs_new T_3 q_5 11 100 → tg T_6 r_4 = 8 ∧ ∃ q_9 : Nat, fo T_6 r_4 2 = some q_9 ∧ (tg T_6 q_9 = 11 ∧ ixR 0 (ln T_6 q_9) ∧ (tg T_6 r_4 = 8 ∧ (tg T_6 v0 = 5 ∧ wp_BRg_tellShares (fun T_10 => tg T_10 r_4 = 8 ∧ ∃ q_12 : Nat, fo T_10 r_4 2 = some q_12 ∧ (tg T_10 r_4 = 8 ∧ (∃ mc_15 ms_16 mc_17 ms_18 : Nat, (mc_7 = mc_15 + mc_17 ∧ ms_8 = ms_16 + ms_18) ∧ tg T_10 v0 = 5 ∧ wp_BRg_burdensOf (fun r_14 T_13 => tg T_13 r_4 = 8 ∧ ∃ q_19 : Nat, fo T_13 r_4 2 = some q_19 ∧ (tg T_13 q_19 = 11 ∧ (∀ v7_20 : Int, v7_20 = (ln T_13 q_19 : Int) → ∃ nn : Nat, wp_BRg_replaceLots_67 post nn mc_17 ms_18 v0 v1 r_2 q_5 r_14 q_19 v7_20 0 T_13))) mc_15 ms_16 v0 q_12 (fi T_10 r_4 1) (r_2 - 1) T_10))) v0 (fi T_6 q_9 0) (fi T_6 r_4 1) (r_2 - 1) q_5 T_6))))) v0 r_2 T_1) v0 T
set_option maxHeartbeats 4000000 in
set_option maxRecDepth 100000 in
theorem c_BRg_replaceLots (l : Launch) {D : va_G} {k : CK} {post : Int → CS → Prop} {mc ms : Nat} {v0 : Nat} {v1 : Nat} {T : CS} (hw : wp_BRg_replaceLots post mc ms v0 v1 T) : jCi l D k y_BRg_replaceLots prog_10_method_20_code 11 (some .int) 7 191 mc ms T [.ref v0, .ref v1] post := by
  refine j_coi (own := "LandBook$Register") (by decide) rfl (Nat.le_of_ble_eq_true rfl) (fun X F K hT hret => ?_)
  have B119 : ∀ (nn : Nat) (mc0 : Nat) (ms0 : Nat) (v0 : Nat) (v2 : Int) (v4 : Nat) (v5 : Nat) (v6 : Int) (v7 : Nat) (v8 : Int) (v9 : Int) (T : CS) (c0 n0 : Nat), c0 + mc0 = mc → n0 + ms0 = ms → cs_ok k T → wp_BRg_replaceLots_119 post nn mc0 ms0 v0 v2 v4 v5 v6 v7 v8 v9 T → jat l D X 11 119 [(0, .ref v0), (2, vi v2), (4, .ref v4), (5, .ref v5), (6, vi v6), (7, .ref v7), (8, vi v8), (9, vi v9)] [] (cwd k T) c0 n0 := by
    intro nn
    induction nn with
    | zero => intro mc0 ms0 v0 v2 v4 v5 v6 v7 v8 v9 T c0 n0 hc0 hn0 hT hw; exact hw.elim
    | succ n119 ih119 =>
      intro mc0 ms0 v0 v2 v4 v5 v6 v7 v8 v9 T c0 n0 hc0 hn0 hT hw
      unfold wp_BRg_replaceLots_119 at hw
      refine j_iload F 7 d_BRg_replaceLots_119 rfl ?_
      refine j_iload F 6 d_BRg_replaceLots_121 rfl ?_
      obtain ⟨hc1, hc2, hwt, hwf⟩ := hw
      refine j_icmp_ge F 164 hc1 hc2 d_BRg_replaceLots_123 rfl (fun hh => ?_) (fun hh => ?_)
      · have hw := hwt hh
        refine j_iload F 4 d_BRg_replaceLots_164 rfl ?_
        exact hret _ _ _ _ _ _ hw hT (rm_y hc0) (rm_y hn0) d_BRg_replaceLots_166
      · have hw := hwf hh
        refine j_aload F 5 d_BRg_replaceLots_126 rfl ?_
        refine j_iload F 7 d_BRg_replaceLots_128 rfl ?_
        obtain ⟨hc1, hc2, q_1, hc3, hw⟩ := hw
        refine c_aald14 F K hT hc1 hc2 hc3 d_BRg_replaceLots_130 ?_
        refine j_astore F [(10, .ref q_1), (0, .ref v0), (2, vi v2), (4, .ref v4), (5, .ref v5), (6, vi v6), (7, .ref v7), (8, vi v8), (9, vi v9)] d_BRg_replaceLots_131 (by decide) rfl ?_
        refine j_aload_n F 1 d_BRg_replaceLots_133 rfl ?_
        obtain ⟨hc1, q_2, hc2, hw⟩ := hw
        refine c_getr F K hT 5 1 rfl tu_Register (by decide) (by decide) rfl tq_309 (Or.inl rfl) hc1 hc2 d_BRg_replaceLots_134 ?_
        obtain ⟨mc_5, ms_6, ⟨he1, he2⟩, hw⟩ := hw
        refine c_new F K hT 9 rfl tu_Lot t_Lot t_Lot_ok (by decide) rfl (by decide) tq_315 tq_318 tq_319 (rm_l hc0 he1) (rm_l hn0 he2) d_BRg_replaceLots_137 (fun q_3 T_4 e_q_3 e_T_4 hT => ?_)
        have hw := hw q_3 T_4 e_q_3 e_T_4
        have hc0 := rm_c hc0 he1
        have hn0 := rm_c hn0 he2
        refine j_dup F rfl d_BRg_replaceLots_140 ?_
        refine j_aload F 0 d_BRg_replaceLots_141 rfl ?_
        obtain ⟨mc_9, ms_10, mc_11, ms_12, ⟨he1, he2⟩, hw⟩ := hw
        obtain ⟨hg1, hw⟩ := hw
        refine c_callVr F K hT (c_BPt_copy l hw) (tw_gV tq_320 tq_321 tq_322 tq_126 tq_323) 2 rfl (by decide) hg1 q_BPt_copy rfl ⟨by decide, by decide⟩ ⟨rm_l hc0 he1, rm_l hn0 he2⟩ rfl (Nat.le_of_ble_eq_true rfl) d_BRg_replaceLots_143 (fun r_8 T_7 hw hT => ?_)
        have hc0 := rm_c hc0 he1
        have hn0 := rm_c hn0 he2
        refine j_iload_n F 2 d_BRg_replaceLots_146 rfl ?_
        refine j_aload F 3 d_BRg_replaceLots_147 rfl ?_
        refine j_aload F 4 d_BRg_replaceLots_149 rfl ?_
        refine c_callIv F K hT (c_BLo_init l hw) tq_325 tq_319 tq_326 tq_327 rfl q_BLo_init rfl ⟨by decide, by decide⟩ ⟨rm_z hc0, rm_z hn0⟩ rfl (Nat.le_of_ble_eq_true rfl) d_BRg_replaceLots_151 (fun T_13 hw hT => ?_)
        obtain ⟨mc_17, ms_18, mc_19, ms_20, ⟨he1, he2⟩, hw⟩ := hw
        obtain ⟨hg1, hw⟩ := hw
        refine c_callVi F K hT (c_BAL_add l hw) (tw_gV tq_328 tq_329 tq_330 tq_233 tq_331) 7 rfl (by decide) hg1 q_BAL_add rfl ⟨by decide, by decide⟩ ⟨rm_l hc0 he1, rm_l hn0 he2⟩ rfl (Nat.le_of_ble_eq_true rfl) d_BRg_replaceLots_154 (fun r_16 T_15 hw hT => ?_)
        have hc0 := rm_c hc0 he1
        have hn0 := rm_c hn0 he2
        refine j_pop F rfl d_BRg_replaceLots_157 ?_
        refine j_iinc F 8 [(9, vi (v9 + 1)), (10, .ref q_1), (0, .ref v0), (2, vi v2), (4, .ref v4), (5, .ref v5), (6, vi v6), (7, .ref v7), (8, vi v8)] d_BRg_replaceLots_158 rfl (by decide) rfl ?_
        refine j_goto F 119 d_BRg_replaceLots_161 rfl ?_
        refine j_sub [2, 3, 4, 5, 6, 7, 8, 0] rfl ?_
        exact ih119 _ _ _ _ _ _ _ _ _ _ _ _ _ hc0 hn0 hT hw
  have B67 : ∀ (nn : Nat) (mc0 : Nat) (ms0 : Nat) (v0 : Nat) (v1 : Nat) (v2 : Int) (v4 : Nat) (v5 : Nat) (v6 : Nat) (v7 : Int) (v8 : Int) (T : CS) (c0 n0 : Nat), c0 + mc0 = mc → n0 + ms0 = ms → cs_ok k T → wp_BRg_replaceLots_67 post nn mc0 ms0 v0 v1 v2 v4 v5 v6 v7 v8 T → jat l D X 11 67 [(0, .ref v0), (1, .ref v1), (2, vi v2), (4, .ref v4), (5, .ref v5), (6, .ref v6), (7, vi v7), (8, vi v8)] [] (cwd k T) c0 n0 := by
    intro nn
    induction nn with
    | zero => intro mc0 ms0 v0 v1 v2 v4 v5 v6 v7 v8 T c0 n0 hc0 hn0 hT hw; exact hw.elim
    | succ n67 ih67 =>
      intro mc0 ms0 v0 v1 v2 v4 v5 v6 v7 v8 T c0 n0 hc0 hn0 hT hw
      unfold wp_BRg_replaceLots_67 at hw
      refine j_iload F 7 d_BRg_replaceLots_67 rfl ?_
      refine j_iload F 6 d_BRg_replaceLots_69 rfl ?_
      obtain ⟨hc1, hc2, hwt, hwf⟩ := hw
      refine j_icmp_ge F 97 hc1 hc2 d_BRg_replaceLots_71 rfl (fun hh => ?_) (fun hh => ?_)
      · have hw := hwt hh
        refine j_aload_n F 0 d_BRg_replaceLots_97 rfl ?_
        obtain ⟨hc1, q_1, hc2, hw⟩ := hw
        refine c_getr F K hT 5 1 rfl tu_Register (by decide) (by decide) rfl tq_309 (Or.inl rfl) hc1 hc2 d_BRg_replaceLots_98 ?_
        obtain ⟨hg1, hw⟩ := hw
        refine c_callVi F K hT (c_BAL_size l hw) (tw_gV tq_305 tq_306 tq_307 tq_233 tq_308) 7 rfl (by decide) hg1 q_BAL_size rfl ⟨by decide, by decide⟩ ⟨rm_z hc0, rm_z hn0⟩ rfl (Nat.le_of_ble_eq_true rfl) d_BRg_replaceLots_101 (fun r_3 T_2 hw hT => ?_)
        refine j_iconst F d_BRg_replaceLots_104 ?_
        refine j_iadd F d_BRg_replaceLots_105 ?_
        refine j_istore F [(6, vi (r_3 + 1)), (0, .ref v0), (1, .ref v1), (2, vi v2), (4, .ref v4), (5, .ref v5), (7, vi v7), (8, vi v8)] d_BRg_replaceLots_106 (by decide) rfl ?_
        refine j_aload_n F 2 d_BRg_replaceLots_108 rfl ?_
        refine j_astore F [(7, .ref v1), (6, vi (r_3 + 1)), (0, .ref v0), (1, .ref v1), (2, vi v2), (4, .ref v4), (5, .ref v5), (8, vi v8)] d_BRg_replaceLots_109 (by decide) rfl ?_
        refine j_aload F 0 d_BRg_replaceLots_111 rfl ?_
        obtain ⟨hc1, hw⟩ := hw
        refine c_alen14 F K hT hc1 d_BRg_replaceLots_113 ?_
        refine j_nmi (fun v8_4 e_v8_4 => ?_)
        have hw := hw v8_4 e_v8_4
        refine j_istore F [(8, vi v8_4), (7, .ref v1), (6, vi (r_3 + 1)), (0, .ref v0), (1, .ref v1), (2, vi v2), (4, .ref v4), (5, .ref v5)] d_BRg_replaceLots_114 (by decide) rfl ?_
        refine j_iconst F d_BRg_replaceLots_116 ?_
        refine j_istore F [(9, vi 0), (8, vi v8_4), (7, .ref v1), (6, vi (r_3 + 1)), (0, .ref v0), (1, .ref v1), (2, vi v2), (4, .ref v4), (5, .ref v5)] d_BRg_replaceLots_117 (by decide) rfl ?_
        refine j_sub [4, 6, 7, 8, 3, 2, 1, 0] rfl ?_
        obtain ⟨nn, hw⟩ := hw
        exact B119 nn _ _ _ _ _ _ _ _ _ _ _ _ _ hc0 hn0 hT hw
      · have hw := hwf hh
        refine j_aload F 5 d_BRg_replaceLots_74 rfl ?_
        refine j_iload F 7 d_BRg_replaceLots_76 rfl ?_
        obtain ⟨hc1, hc2, hw⟩ := hw
        refine c_iald F K hT hc1 hc2 d_BRg_replaceLots_78 ?_
        refine j_nmi (fun v9_5 e_v9_5 => ?_)
        have hw := hw v9_5 e_v9_5
        refine j_istore F [(9, vi v9_5), (0, .ref v0), (1, .ref v1), (2, vi v2), (4, .ref v4), (5, .ref v5), (6, .ref v6), (7, vi v7), (8, vi v8)] d_BRg_replaceLots_79 (by decide) rfl ?_
        refine j_aload_n F 1 d_BRg_replaceLots_81 rfl ?_
        refine j_iload F 0 d_BRg_replaceLots_82 rfl ?_
        obtain ⟨hg1, hw⟩ := hw
        refine c_callVr F K hT (c_BRg_lot l hw) (tw_gV tq_333 tq_334 tq_335 tq_336 tq_337) 5 rfl (by decide) hg1 q_BRg_lot rfl ⟨by decide, by decide⟩ ⟨rm_z hc0, rm_z hn0⟩ rfl (Nat.le_of_ble_eq_true rfl) d_BRg_replaceLots_84 (fun r_7 T_6 hw hT => ?_)
        refine j_iload_n F 3 d_BRg_replaceLots_87 rfl ?_
        obtain ⟨hc1, hw⟩ := hw
        refine c_puti F K hT 9 4 rfl tu_Lot (by decide) (by decide) rfl tq_343 (Or.inl rfl) t_Lot t_Lot_ok n_Lot rfl (ty := .int) (by decide +kernel) rfl rfl hc1 d_BRg_replaceLots_88 (fun T_8 e_T_8 hT => ?_)
        have hw := hw T_8 e_T_8
        refine j_iinc F 8 [(8, vi (v8 + 1)), (9, vi v9_5), (0, .ref v0), (1, .ref v1), (2, vi v2), (4, .ref v4), (5, .ref v5), (6, .ref v6), (7, vi v7)] d_BRg_replaceLots_91 rfl (by decide) rfl ?_
        refine j_goto F 67 d_BRg_replaceLots_94 rfl ?_
        refine j_sub [2, 3, 4, 5, 6, 7, 8, 0] rfl ?_
        exact ih67 _ _ _ _ _ _ _ _ _ _ _ _ _ hc0 hn0 hT hw
  unfold wp_BRg_replaceLots at hw
  have key : ∀ (mc0 ms0 c0 n0 : Nat), mc0 = mc → ms0 = ms → c0 = 0 → n0 = 0 → c0 + mc0 = mc → n0 + ms0 = ms → jat l D X 11 0 [(0, .ref v0), (1, .ref v1)] [] (cwd k T) c0 n0 := by
    intro mc0 ms0 c0 n0 hm1 hm2 hz1 hz2 hc0 hn0
    subst hm1; subst hm2
    clear hz1 hz2
    refine j_aload_n F 0 d_BRg_replaceLots_0 rfl ?_
    obtain ⟨hg1, hw⟩ := hw
    refine c_callVi F K hT (c_BRg_lastEntry l hw) (tw_gV tq_362 tq_363 tq_364 tq_336 tq_365) 5 rfl (by decide) hg1 q_BRg_lastEntry rfl ⟨by decide, by decide⟩ ⟨rm_z hc0, rm_z hn0⟩ rfl (Nat.le_of_ble_eq_true rfl) d_BRg_replaceLots_1 (fun r_2 T_1 hw hT => ?_)
    refine j_istore_n F [(2, vi r_2), (0, .ref v0), (1, .ref v1)] d_BRg_replaceLots_4 (by decide) rfl ?_
    refine j_aload_n F 1 d_BRg_replaceLots_5 rfl ?_
    refine j_iload_n F 0 d_BRg_replaceLots_6 rfl ?_
    obtain ⟨hg1, hw⟩ := hw
    refine c_callVr F K hT (c_BRg_deed l hw) (tw_gV tq_374 tq_375 tq_376 tq_336 tq_377) 5 rfl (by decide) hg1 q_BRg_deed rfl ⟨by decide, by decide⟩ ⟨rm_z hc0, rm_z hn0⟩ rfl (Nat.le_of_ble_eq_true rfl) d_BRg_replaceLots_7 (fun r_4 T_3 hw hT => ?_)
    refine j_astore_n F [(3, .ref r_4), (2, vi r_2), (0, .ref v0), (1, .ref v1)] d_BRg_replaceLots_10 (by decide) rfl ?_
    refine j_bipush F d_BRg_replaceLots_11 (j_bip (by decide) (by decide)) ?_
    obtain ⟨hr0, mc_7, ms_8, ⟨he1, he2⟩, hw⟩ := hw
    refine c_newa11 F K hT tq_118 hr0 (rm_l hc0 he1) (rm_l hn0 he2) d_BRg_replaceLots_13 (fun q_5 T_6 e_q_5 e_T_6 hT => ?_)
    have hw := hw q_5 T_6 e_q_5 e_T_6
    have hc0 := rm_c hc0 he1
    have hn0 := rm_c hn0 he2
    refine j_astore F [(4, .ref q_5), (3, .ref r_4), (2, vi r_2), (0, .ref v0), (1, .ref v1)] d_BRg_replaceLots_15 (by decide) rfl ?_
    refine j_aload_n F 3 d_BRg_replaceLots_17 rfl ?_
    refine j_aload_n F 1 d_BRg_replaceLots_18 rfl ?_
    obtain ⟨hc1, q_9, hc2, hw⟩ := hw
    refine c_getr F K hT 8 2 rfl tu_Deed (by decide) (by decide) rfl tq_389 (Or.inl rfl) hc1 hc2 d_BRg_replaceLots_19 ?_
    refine j_iconst F d_BRg_replaceLots_22 ?_
    obtain ⟨hc1, hc2, hw⟩ := hw
    refine c_iald F K hT hc1 hc2 d_BRg_replaceLots_23 ?_
    refine j_aload_n F 1 d_BRg_replaceLots_24 rfl ?_
    obtain ⟨hc1, hw⟩ := hw
    refine c_geti F K hT 8 1 rfl tu_Deed (by decide) (by decide) rfl tq_332 (Or.inl rfl) hc1 d_BRg_replaceLots_25 ?_
    refine j_iload_n F 2 d_BRg_replaceLots_28 rfl ?_
    refine j_iconst F d_BRg_replaceLots_29 ?_
    refine j_isub F d_BRg_replaceLots_30 ?_
    refine j_aload F 0 d_BRg_replaceLots_31 rfl ?_
    obtain ⟨hg1, hw⟩ := hw
    refine c_callVv F K hT (c_BRg_tellShares l hw) (tw_gV tq_394 tq_395 tq_396 tq_336 tq_397) 5 rfl (by decide) hg1 q_BRg_tellShares rfl ⟨by decide, by decide⟩ ⟨rm_z hc0, rm_z hn0⟩ rfl (Nat.le_of_ble_eq_true rfl) d_BRg_replaceLots_33 (fun T_10 hw hT => ?_)
    refine j_aload_n F 3 d_BRg_replaceLots_36 rfl ?_
    refine j_aload_n F 1 d_BRg_replaceLots_37 rfl ?_
    obtain ⟨hc1, q_12, hc2, hw⟩ := hw
    refine c_getr F K hT 8 2 rfl tu_Deed (by decide) (by decide) rfl tq_389 (Or.inl rfl) hc1 hc2 d_BRg_replaceLots_38 ?_
    refine j_aload_n F 1 d_BRg_replaceLots_41 rfl ?_
    obtain ⟨hc1, hw⟩ := hw
    refine c_geti F K hT 8 1 rfl tu_Deed (by decide) (by decide) rfl tq_332 (Or.inl rfl) hc1 d_BRg_replaceLots_42 ?_
    refine j_iload_n F 2 d_BRg_replaceLots_45 rfl ?_
    refine j_iconst F d_BRg_replaceLots_46 ?_
    refine j_isub F d_BRg_replaceLots_47 ?_
    obtain ⟨mc_15, ms_16, mc_17, ms_18, ⟨he1, he2⟩, hw⟩ := hw
    obtain ⟨hg1, hw⟩ := hw
    refine c_callVr F K hT (c_BRg_burdensOf l hw) (tw_gV tq_399 tq_400 tq_401 tq_336 tq_402) 5 rfl (by decide) hg1 q_BRg_burdensOf rfl ⟨by decide, by decide⟩ ⟨rm_l hc0 he1, rm_l hn0 he2⟩ rfl (Nat.le_of_ble_eq_true rfl) d_BRg_replaceLots_48 (fun r_14 T_13 hw hT => ?_)
    have hc0 := rm_c hc0 he1
    have hn0 := rm_c hn0 he2
    refine j_astore F [(5, .ref r_14), (4, .ref q_5), (3, .ref r_4), (2, vi r_2), (0, .ref v0), (1, .ref v1)] d_BRg_replaceLots_51 (by decide) rfl ?_
    refine j_aload_n F 2 d_BRg_replaceLots_53 rfl ?_
    obtain ⟨hc1, q_19, hc2, hw⟩ := hw
    refine c_getr F K hT 8 2 rfl tu_Deed (by decide) (by decide) rfl tq_389 (Or.inl rfl) hc1 hc2 d_BRg_replaceLots_54 ?_
    refine j_astore F [(6, .ref q_19), (5, .ref r_14), (4, .ref q_5), (3, .ref r_4), (2, vi r_2), (0, .ref v0), (1, .ref v1)] d_BRg_replaceLots_57 (by decide) rfl ?_
    refine j_aload F 0 d_BRg_replaceLots_59 rfl ?_
    obtain ⟨hc1, hw⟩ := hw
    refine c_alen11 F K hT hc1 d_BRg_replaceLots_61 ?_
    refine j_nmi (fun v7_20 e_v7_20 => ?_)
    have hw := hw v7_20 e_v7_20
    refine j_istore F [(7, vi v7_20), (6, .ref q_19), (5, .ref r_14), (4, .ref q_5), (3, .ref r_4), (2, vi r_2), (0, .ref v0), (1, .ref v1)] d_BRg_replaceLots_62 (by decide) rfl ?_
    refine j_iconst F d_BRg_replaceLots_64 ?_
    refine j_istore F [(8, vi 0), (7, vi v7_20), (6, .ref q_19), (5, .ref r_14), (4, .ref q_5), (3, .ref r_4), (2, vi r_2), (0, .ref v0), (1, .ref v1)] d_BRg_replaceLots_65 (by decide) rfl ?_
    refine j_sub [7, 8, 6, 4, 3, 2, 1, 0] rfl ?_
    obtain ⟨nn, hw⟩ := hw
    exact B67 nn _ _ _ _ _ _ _ _ _ _ _ _ _ hc0 hn0 hT hw
  exact key mc ms 0 0 rfl rfl rfl rfl (Nat.zero_add _) (Nat.zero_add _)
theorem tq_403 : (Jvm.Cond.instantiable "LandBook$Easement" (3 : Nat)) ∈ tw_G := tw_in (List.mem_of_getElem? (i := 847) (by decide +kernel)) rfl
theorem tq_404 : (Jvm.Cond.initialized "LandBook$Easement") ∈ tw_G := tw_in (List.mem_of_getElem? (i := 88) (by decide +kernel)) rfl
theorem tq_405 : (Jvm.Cond.code ({ cls := "LandBook$Easement", name := "<init>", desc := "(II)V" } : Jvm.MethodName) prog_4_method_1_code (3 : Nat) (Option.none : Option Jvm.ClassFile.FieldType)) ∈ tw_G := tw_in (List.mem_of_getElem? (i := 850) (by decide +kernel)) rfl
theorem tq_406 : (Jvm.Cond.methodLink "LandBook$Register" (154 : Nat) ({ cls := "LandBook$Easement", name := "<init>", desc := "(II)V" } : Jvm.MethodName)) ∈ tw_G := tw_in (List.mem_of_getElem? (i := 848) (by decide +kernel)) rfl
theorem tq_407 : (Jvm.Cond.instanceMethod ({ cls := "LandBook$Easement", name := "<init>", desc := "(II)V" } : Jvm.MethodName)) ∈ tw_G := tw_in (List.mem_of_getElem? (i := 849) (by decide +kernel)) rfl
abbrev y_BRg_grant : MethodName := ⟨"LandBook$Register", "grant", "(I)I"⟩
theorem q_BRg_grant : y_BRg_grant.cls = "LandBook$Register" ∧ y_BRg_grant.cls ≠ "java/lang/invoke/MethodHandle" ∧ y_BRg_grant.cls ≠ "java/lang/invoke/VarHandle" ∧ (parseMethodDescriptor y_BRg_grant.desc).map (fun d => d.parameters.length) = some 1 := by decide +kernel
theorem d_BRg_grant_0 : decode prog_10_method_22_code 0 = .ok (.aload_n 0, 1) := by decide +kernel
theorem d_BRg_grant_1 : decode prog_10_method_22_code 1 = .ok (.getfield 21, 3) := by decide +kernel
theorem d_BRg_grant_4 : decode prog_10_method_22_code 4 = .ok (.new 41, 3) := by decide +kernel
theorem d_BRg_grant_7 : decode prog_10_method_22_code 7 = .ok (.dup, 1) := by decide +kernel
theorem d_BRg_grant_8 : decode prog_10_method_22_code 8 = .ok (.iload_n 1, 1) := by decide +kernel
theorem d_BRg_grant_9 : decode prog_10_method_22_code 9 = .ok (.aload_n 0, 1) := by decide +kernel
theorem d_BRg_grant_10 : decode prog_10_method_22_code 10 = .ok (.invokevirtual 96, 3) := by decide +kernel
theorem d_BRg_grant_13 : decode prog_10_method_22_code 13 = .ok (.invokespecial 154, 3) := by decide +kernel
theorem d_BRg_grant_16 : decode prog_10_method_22_code 16 = .ok (.invokevirtual 54, 3) := by decide +kernel
theorem d_BRg_grant_19 : decode prog_10_method_22_code 19 = .ok (.pop, 1) := by decide +kernel
theorem d_BRg_grant_20 : decode prog_10_method_22_code 20 = .ok (.aload_n 0, 1) := by decide +kernel
theorem d_BRg_grant_21 : decode prog_10_method_22_code 21 = .ok (.getfield 21, 3) := by decide +kernel
theorem d_BRg_grant_24 : decode prog_10_method_22_code 24 = .ok (.invokevirtual 31, 3) := by decide +kernel
theorem d_BRg_grant_27 : decode prog_10_method_22_code 27 = .ok (.ireturn, 1) := by decide +kernel
def wp_BRg_grant (post : Int → CS → Prop) (mc0 ms0 : Nat) (v0 : Nat) (v1 : Int) (T : CS) : Prop := tg T v0 = 5 ∧ ∃ q_1 : Nat, fo T v0 2 = some q_1 ∧ (∃ mc_4 ms_5 : Nat, (mc0 = 1 + mc_4 ∧ ms0 = 3 + ms_5) ∧ (∀ (q_2 : Nat) (T_3 : CS), tg T q_2 = 0 → T_3 = cs_new T q_2 10 0 → tg T_3 v0 = 5 ∧ wp_BRg_lastEntry (fun r_7 T_6 => wp_BEa_init (fun T_8 => ∃ mc_12 ms_13 mc_14 ms_15 : Nat, (mc_4 = mc_12 + mc_14 ∧ ms_5 = ms_13 + ms_15) ∧ tg T_8 q_1 = 7 ∧ wp_BAL_add (fun r_11 T_10 => tg T_10 v0 = 5 ∧ ∃ q_16 : Nat, fo T_10 v0 2 = some q_16 ∧ (tg T_10 q_16 = 7 ∧ wp_BAL_size (fun r_18 T_17 => post r_18 T_17) q_16 T_10)) mc_12 ms_13 q_1 q_2 T_8) q_2 v1 r_7 T_6) v0 T_3))
set_option maxHeartbeats 4000000 in
set_option maxRecDepth 100000 in
theorem c_BRg_grant (l : Launch) {D : va_G} {k : CK} {post : Int → CS → Prop} {mc ms : Nat} {v0 : Nat} {v1 : Int} {T : CS} (hw : wp_BRg_grant post mc ms v0 v1 T) : jCi l D k y_BRg_grant prog_10_method_22_code 2 (some .int) 7 191 mc ms T [.ref v0, vi v1] post := by
  refine j_coi (own := "LandBook$Register") (by decide) rfl (Nat.le_of_ble_eq_true rfl) (fun X F K hT hret => ?_)
  unfold wp_BRg_grant at hw
  have key : ∀ (mc0 ms0 c0 n0 : Nat), mc0 = mc → ms0 = ms → c0 = 0 → n0 = 0 → c0 + mc0 = mc → n0 + ms0 = ms → jat l D X 2 0 [(0, .ref v0), (1, vi v1)] [] (cwd k T) c0 n0 := by
    intro mc0 ms0 c0 n0 hm1 hm2 hz1 hz2 hc0 hn0
    subst hm1; subst hm2
    clear hz1 hz2
    refine j_aload_n F 0 d_BRg_grant_0 rfl ?_
    obtain ⟨hc1, q_1, hc2, hw⟩ := hw
    refine c_getr F K hT 5 2 rfl tu_Register (by decide) (by decide) rfl tq_310 (Or.inl rfl) hc1 hc2 d_BRg_grant_1 ?_
    obtain ⟨mc_4, ms_5, ⟨he1, he2⟩, hw⟩ := hw
    refine c_new F K hT 10 rfl tu_Easement t_Easement t_Easement_ok (by decide) rfl (by decide) tq_316 tq_403 tq_404 (rm_l hc0 he1) (rm_l hn0 he2) d_BRg_grant_4 (fun q_2 T_3 e_q_2 e_T_3 hT => ?_)
    have hw := hw q_2 T_3 e_q_2 e_T_3
    have hc0 := rm_c hc0 he1
    have hn0 := rm_c hn0 he2
    refine j_dup F rfl d_BRg_grant_7 ?_
    refine j_iload_n F 1 d_BRg_grant_8 rfl ?_
    refine j_aload_n F 0 d_BRg_grant_9 rfl ?_
    obtain ⟨hg1, hw⟩ := hw
    refine c_callVi F K hT (c_BRg_lastEntry l hw) (tw_gV tq_362 tq_363 tq_364 tq_336 tq_365) 5 rfl (by decide) hg1 q_BRg_lastEntry rfl ⟨by decide, by decide⟩ ⟨rm_z hc0, rm_z hn0⟩ rfl (Nat.le_of_ble_eq_true rfl) d_BRg_grant_10 (fun r_7 T_6 hw hT => ?_)
    refine c_callIv F K hT (c_BEa_init l hw) tq_405 tq_404 tq_406 tq_407 rfl q_BEa_init rfl ⟨by decide, by decide⟩ ⟨rm_z hc0, rm_z hn0⟩ rfl (Nat.le_of_ble_eq_true rfl) d_BRg_grant_13 (fun T_8 hw hT => ?_)
    obtain ⟨mc_12, ms_13, mc_14, ms_15, ⟨he1, he2⟩, hw⟩ := hw
    obtain ⟨hg1, hw⟩ := hw
    refine c_callVi F K hT (c_BAL_add l hw) (tw_gV tq_328 tq_329 tq_330 tq_233 tq_331) 7 rfl (by decide) hg1 q_BAL_add rfl ⟨by decide, by decide⟩ ⟨rm_l hc0 he1, rm_l hn0 he2⟩ rfl (Nat.le_of_ble_eq_true rfl) d_BRg_grant_16 (fun r_11 T_10 hw hT => ?_)
    have hc0 := rm_c hc0 he1
    have hn0 := rm_c hn0 he2
    refine j_pop F rfl d_BRg_grant_19 ?_
    refine j_aload_n F 0 d_BRg_grant_20 rfl ?_
    obtain ⟨hc1, q_16, hc2, hw⟩ := hw
    refine c_getr F K hT 5 2 rfl tu_Register (by decide) (by decide) rfl tq_310 (Or.inl rfl) hc1 hc2 d_BRg_grant_21 ?_
    obtain ⟨hg1, hw⟩ := hw
    refine c_callVi F K hT (c_BAL_size l hw) (tw_gV tq_305 tq_306 tq_307 tq_233 tq_308) 7 rfl (by decide) hg1 q_BAL_size rfl ⟨by decide, by decide⟩ ⟨rm_z hc0, rm_z hn0⟩ rfl (Nat.le_of_ble_eq_true rfl) d_BRg_grant_24 (fun r_18 T_17 hw hT => ?_)
    exact hret _ _ _ _ _ _ hw hT (rm_y hc0) (rm_y hn0) d_BRg_grant_27
  exact key mc ms 0 0 rfl rfl rfl rfl (Nat.zero_add _) (Nat.zero_add _)
abbrev y_BRg_endEasement : MethodName := ⟨"LandBook$Register", "endEasement", "(I)I"⟩
theorem q_BRg_endEasement : y_BRg_endEasement.cls = "LandBook$Register" ∧ y_BRg_endEasement.cls ≠ "java/lang/invoke/MethodHandle" ∧ y_BRg_endEasement.cls ≠ "java/lang/invoke/VarHandle" ∧ (parseMethodDescriptor y_BRg_endEasement.desc).map (fun d => d.parameters.length) = some 1 := by decide +kernel
theorem d_BRg_endEasement_0 : decode prog_10_method_23_code 0 = .ok (.aload_n 0, 1) := by decide +kernel
theorem d_BRg_endEasement_1 : decode prog_10_method_23_code 1 = .ok (.iload_n 1, 1) := by decide +kernel
theorem d_BRg_endEasement_2 : decode prog_10_method_23_code 2 = .ok (.invokevirtual 76, 3) := by decide +kernel
theorem d_BRg_endEasement_5 : decode prog_10_method_23_code 5 = .ok (.aload_n 0, 1) := by decide +kernel
theorem d_BRg_endEasement_6 : decode prog_10_method_23_code 6 = .ok (.invokevirtual 96, 3) := by decide +kernel
theorem d_BRg_endEasement_9 : decode prog_10_method_23_code 9 = .ok (.putfield 83, 3) := by decide +kernel
theorem d_BRg_endEasement_12 : decode prog_10_method_23_code 12 = .ok (.aload_n 0, 1) := by decide +kernel
theorem d_BRg_endEasement_13 : decode prog_10_method_23_code 13 = .ok (.invokevirtual 96, 3) := by decide +kernel
theorem d_BRg_endEasement_16 : decode prog_10_method_23_code 16 = .ok (.ireturn, 1) := by decide +kernel
def wp_BRg_endEasement (post : Int → CS → Prop) (v0 : Nat) (v1 : Int) (T : CS) : Prop := tg T v0 = 5 ∧ wp_BRg_easement (fun r_2 T_1 => tg T_1 v0 = 5 ∧ wp_BRg_lastEntry (fun r_4 T_3 => tg T_3 r_2 = 10 ∧ ((∀ T_5 : CS, T_5 = cs_i T_3 r_2 2 r_4 → tg T_5 v0 = 5 ∧ wp_BRg_lastEntry (fun r_7 T_6 => post r_7 T_6) v0 T_5))) v0 T_1) v0 v1 T
set_option maxHeartbeats 4000000 in
set_option maxRecDepth 100000 in
theorem c_BRg_endEasement (l : Launch) {D : va_G} {k : CK} {post : Int → CS → Prop} {v0 : Nat} {v1 : Int} {T : CS} (hw : wp_BRg_endEasement post v0 v1 T) : jCi l D k y_BRg_endEasement prog_10_method_23_code 2 (some .int) 4 85 0 0 T [.ref v0, vi v1] post := by
  refine j_coi (own := "LandBook$Register") (by decide) rfl (Nat.le_of_ble_eq_true rfl) (fun X F K hT hret => ?_)
  unfold wp_BRg_endEasement at hw
  show jat l D X 2 0 [(0, .ref v0), (1, vi v1)] [] (cwd k T) 0 0
  refine j_aload_n F 0 d_BRg_endEasement_0 rfl ?_
  refine j_iload_n F 1 d_BRg_endEasement_1 rfl ?_
  obtain ⟨hg1, hw⟩ := hw
  refine c_callVr F K hT (c_BRg_easement l hw) (tw_gV tq_344 tq_345 tq_346 tq_336 tq_347) 5 rfl (by decide) hg1 q_BRg_easement rfl ⟨by decide, by decide⟩ ⟨by omega, by omega⟩ rfl (Nat.le_of_ble_eq_true rfl) d_BRg_endEasement_2 (fun r_2 T_1 hw hT => ?_)
  refine j_aload_n F 0 d_BRg_endEasement_5 rfl ?_
  obtain ⟨hg1, hw⟩ := hw
  refine c_callVi F K hT (c_BRg_lastEntry l hw) (tw_gV tq_362 tq_363 tq_364 tq_336 tq_365) 5 rfl (by decide) hg1 q_BRg_lastEntry rfl ⟨by decide, by decide⟩ ⟨by omega, by omega⟩ rfl (Nat.le_of_ble_eq_true rfl) d_BRg_endEasement_6 (fun r_4 T_3 hw hT => ?_)
  obtain ⟨hc1, hw⟩ := hw
  refine c_puti F K hT 10 2 rfl tu_Easement (by decide) (by decide) rfl tq_349 (Or.inl rfl) t_Easement t_Easement_ok n_Easement rfl (ty := .int) (by decide +kernel) rfl rfl hc1 d_BRg_endEasement_9 (fun T_5 e_T_5 hT => ?_)
  have hw := hw T_5 e_T_5
  refine j_aload_n F 0 d_BRg_endEasement_12 rfl ?_
  obtain ⟨hg1, hw⟩ := hw
  refine c_callVi F K hT (c_BRg_lastEntry l hw) (tw_gV tq_362 tq_363 tq_364 tq_336 tq_365) 5 rfl (by decide) hg1 q_BRg_lastEntry rfl ⟨by decide, by decide⟩ ⟨by omega, by omega⟩ rfl (Nat.le_of_ble_eq_true rfl) d_BRg_endEasement_13 (fun r_7 T_6 hw hT => ?_)
  exact hret _ _ _ _ _ _ hw hT (by omega) (by omega) d_BRg_endEasement_16
abbrev y_BRg_changedBy : MethodName := ⟨"LandBook$Register", "changedBy", "(IZI)I"⟩
theorem q_BRg_changedBy : y_BRg_changedBy.cls = "LandBook$Register" ∧ y_BRg_changedBy.cls ≠ "java/lang/invoke/MethodHandle" ∧ y_BRg_changedBy.cls ≠ "java/lang/invoke/VarHandle" ∧ (parseMethodDescriptor y_BRg_changedBy.desc).map (fun d => d.parameters.length) = some 3 := by decide +kernel
theorem d_BRg_changedBy_0 : decode prog_10_method_24_code 0 = .ok (.iconst 0, 1) := by decide +kernel
theorem d_BRg_changedBy_1 : decode prog_10_method_24_code 1 = .ok (.istore 4, 2) := by decide +kernel
theorem d_BRg_changedBy_3 : decode prog_10_method_24_code 3 = .ok (.iconst 1, 1) := by decide +kernel
theorem d_BRg_changedBy_4 : decode prog_10_method_24_code 4 = .ok (.istore 5, 2) := by decide +kernel
theorem d_BRg_changedBy_6 : decode prog_10_method_24_code 6 = .ok (.iload 5, 2) := by decide +kernel
theorem d_BRg_changedBy_8 : decode prog_10_method_24_code 8 = .ok (.aload_n 0, 1) := by decide +kernel
theorem d_BRg_changedBy_9 : decode prog_10_method_24_code 9 = .ok (.getfield 18, 3) := by decide +kernel
theorem d_BRg_changedBy_12 : decode prog_10_method_24_code 12 = .ok (.invokevirtual 31, 3) := by decide +kernel
theorem d_BRg_changedBy_15 : decode prog_10_method_24_code 15 = .ok (.if_icmp .gt 58, 3) := by decide +kernel
theorem d_BRg_changedBy_73 : decode prog_10_method_24_code 73 = .ok (.iconst 0, 1) := by decide +kernel
theorem d_BRg_changedBy_74 : decode prog_10_method_24_code 74 = .ok (.ireturn, 1) := by decide +kernel
theorem d_BRg_changedBy_18 : decode prog_10_method_24_code 18 = .ok (.iload_n 1, 1) := by decide +kernel
theorem d_BRg_changedBy_19 : decode prog_10_method_24_code 19 = .ok (.ifCond .le 54, 3) := by decide +kernel
theorem d_BRg_changedBy_22 : decode prog_10_method_24_code 22 = .ok (.iload_n 2, 1) := by decide +kernel
theorem d_BRg_changedBy_23 : decode prog_10_method_24_code 23 = .ok (.ifCond .eq 15, 3) := by decide +kernel
theorem d_BRg_changedBy_38 : decode prog_10_method_24_code 38 = .ok (.aload_n 0, 1) := by decide +kernel
theorem d_BRg_changedBy_39 : decode prog_10_method_24_code 39 = .ok (.iload 5, 2) := by decide +kernel
theorem d_BRg_changedBy_41 : decode prog_10_method_24_code 41 = .ok (.invokevirtual 62, 3) := by decide +kernel
theorem d_BRg_changedBy_44 : decode prog_10_method_24_code 44 = .ok (.getfield 66, 3) := by decide +kernel
theorem d_BRg_changedBy_26 : decode prog_10_method_24_code 26 = .ok (.aload_n 0, 1) := by decide +kernel
theorem d_BRg_changedBy_27 : decode prog_10_method_24_code 27 = .ok (.iload 5, 2) := by decide +kernel
theorem d_BRg_changedBy_29 : decode prog_10_method_24_code 29 = .ok (.invokevirtual 62, 3) := by decide +kernel
theorem d_BRg_changedBy_32 : decode prog_10_method_24_code 32 = .ok (.getfield 73, 3) := by decide +kernel
theorem d_BRg_changedBy_35 : decode prog_10_method_24_code 35 = .ok (.goto 12, 3) := by decide +kernel
theorem d_BRg_changedBy_47 : decode prog_10_method_24_code 47 = .ok (.istore 6, 2) := by decide +kernel
theorem d_BRg_changedBy_49 : decode prog_10_method_24_code 49 = .ok (.iload 6, 2) := by decide +kernel
theorem d_BRg_changedBy_51 : decode prog_10_method_24_code 51 = .ok (.iload_n 1, 1) := by decide +kernel
theorem d_BRg_changedBy_52 : decode prog_10_method_24_code 52 = .ok (.if_icmp .ne 15, 3) := by decide +kernel
theorem d_BRg_changedBy_55 : decode prog_10_method_24_code 55 = .ok (.iload 4, 2) := by decide +kernel
theorem d_BRg_changedBy_57 : decode prog_10_method_24_code 57 = .ok (.iload_n 3, 1) := by decide +kernel
theorem d_BRg_changedBy_58 : decode prog_10_method_24_code 58 = .ok (.if_icmp .ne 6, 3) := by decide +kernel
theorem d_BRg_changedBy_64 : decode prog_10_method_24_code 64 = .ok (.iinc 4 1, 3) := by decide +kernel
theorem d_BRg_changedBy_61 : decode prog_10_method_24_code 61 = .ok (.iload 5, 2) := by decide +kernel
theorem d_BRg_changedBy_63 : decode prog_10_method_24_code 63 = .ok (.ireturn, 1) := by decide +kernel
theorem d_BRg_changedBy_67 : decode prog_10_method_24_code 67 = .ok (.iinc 5 1, 3) := by decide +kernel
theorem d_BRg_changedBy_70 : decode prog_10_method_24_code 70 = .ok (.goto (-64), 3) := by decide +kernel
def wp_BRg_changedBy_67 (post : Int → CS → Prop) (k6 : Nat → Int → Int → Int → Int → Int → CS → Prop) (v0 : Nat) (v1 : Int) (v2 : Int) (v3 : Int) (v4 : Int) (v5 : Int) (T : CS) : Prop := k6 v0 v1 v2 v3 v4 (v5 + 1) T
def wp_BRg_changedBy_47 (post : Int → CS → Prop) (k6 : Nat → Int → Int → Int → Int → Int → CS → Prop) (v0 : Nat) (v1 : Int) (v2 : Int) (v3 : Int) (v4 : Int) (v5 : Int) (s0 : Int) (T : CS) : Prop := inR s0 ∧ inR v1 ∧ (¬ (s0 = v1) → wp_BRg_changedBy_67 post k6 v0 v1 v2 v3 v4 v5 T) ∧ (s0 = v1 → (inR v4 ∧ inR v3 ∧ (¬ (v4 = v3) → (wp_BRg_changedBy_67 post k6 v0 v1 v2 v3 (v4 + 1) v5 T)) ∧ (v4 = v3 → post v5 T)))
def wp_BRg_changedBy_6 (post : Int → CS → Prop) : Nat → Nat → Int → Int → Int → Int → Int → CS → Prop
  | 0, _, _, _, _, _, _, _ => False
  | n + 1, v0, v1, v2, v3, v4, v5, T => tg T v0 = 5 ∧ ∃ q_1 : Nat, fo T v0 1 = some q_1 ∧ (tg T q_1 = 7 ∧ wp_BAL_size (fun r_3 T_2 => inR v5 ∧ inR r_3 ∧ (r_3 < v5 → post 0 T_2) ∧ (¬ (r_3 < v5) → (inR v1 ∧ (v1 ≤ 0 → post 0 T_2) ∧ (¬ (v1 ≤ 0) → (inR v2 ∧ (v2 = 0 → (tg T_2 v0 = 5 ∧ wp_BRg_lot (fun r_5 T_4 => tg T_4 r_5 = 9 ∧ (wp_BRg_changedBy_47 post (wp_BRg_changedBy_6 post n) v0 v1 v2 v3 v4 v5 (fi T_4 r_5 1) T_4)) v0 v5 T_2)) ∧ (¬ (v2 = 0) → (tg T_2 v0 = 5 ∧ wp_BRg_lot (fun r_7 T_6 => tg T_6 r_7 = 9 ∧ (wp_BRg_changedBy_47 post (wp_BRg_changedBy_6 post n) v0 v1 v2 v3 v4 v5 (fi T_6 r_7 4) T_6)) v0 v5 T_2))))))) q_1 T)
def wp_BRg_changedBy (post : Int → CS → Prop) (v0 : Nat) (v1 : Int) (v2 : Int) (v3 : Int) (T : CS) : Prop := ∃ nn : Nat, wp_BRg_changedBy_6 post nn v0 v1 v2 v3 0 1 T
set_option maxHeartbeats 4000000 in
set_option maxRecDepth 100000 in
theorem c_BRg_changedBy (l : Launch) {D : va_G} {k : CK} {post : Int → CS → Prop} {v0 : Nat} {v1 : Int} {v2 : Int} {v3 : Int} {T : CS} (hw : wp_BRg_changedBy post v0 v1 v2 v3 T) : jCi l D k y_BRg_changedBy prog_10_method_24_code 7 (some .int) 4 85 0 0 T [.ref v0, vi v1, vi v2, vi v3] post := by
  refine j_coi (own := "LandBook$Register") (by decide) rfl (Nat.le_of_ble_eq_true rfl) (fun X F K hT hret => ?_)
  have B6 : ∀ (nn : Nat) (v0 : Nat) (v1 : Int) (v2 : Int) (v3 : Int) (v4 : Int) (v5 : Int) (T : CS), cs_ok k T → wp_BRg_changedBy_6 post nn v0 v1 v2 v3 v4 v5 T → jat l D X 7 6 [(0, .ref v0), (1, vi v1), (2, vi v2), (3, vi v3), (4, vi v4), (5, vi v5)] [] (cwd k T) 0 0 := by
    intro nn
    induction nn with
    | zero => intro v0 v1 v2 v3 v4 v5 T hT hw; exact hw.elim
    | succ n6 ih6 =>
      have B67 : ∀ (v0 : Nat) (v1 : Int) (v2 : Int) (v3 : Int) (v4 : Int) (v5 : Int) (T : CS), cs_ok k T → wp_BRg_changedBy_67 post (wp_BRg_changedBy_6 post n6) v0 v1 v2 v3 v4 v5 T → jat l D X 7 67 [(0, .ref v0), (1, vi v1), (2, vi v2), (3, vi v3), (4, vi v4), (5, vi v5)] [] (cwd k T) 0 0 := by
        intro v0 v1 v2 v3 v4 v5 T hT hw
        unfold wp_BRg_changedBy_67 at hw
        refine j_iinc F 5 [(5, vi (v5 + 1)), (0, .ref v0), (1, vi v1), (2, vi v2), (3, vi v3), (4, vi v4)] d_BRg_changedBy_67 rfl (by decide) rfl ?_
        refine j_goto F 6 d_BRg_changedBy_70 rfl ?_
        refine j_sub [1, 2, 3, 4, 5, 0] rfl ?_
        exact ih6 _ _ _ _ _ _ _ hT hw
      have B47 : ∀ (v0 : Nat) (v1 : Int) (v2 : Int) (v3 : Int) (v4 : Int) (v5 : Int) (s0 : Int) (T : CS), cs_ok k T → wp_BRg_changedBy_47 post (wp_BRg_changedBy_6 post n6) v0 v1 v2 v3 v4 v5 s0 T → jat l D X 7 47 [(0, .ref v0), (1, vi v1), (2, vi v2), (3, vi v3), (4, vi v4), (5, vi v5)] [vi s0] (cwd k T) 0 0 := by
        intro v0 v1 v2 v3 v4 v5 s0 T hT hw
        unfold wp_BRg_changedBy_47 at hw
        refine j_istore F [(6, vi s0), (0, .ref v0), (1, vi v1), (2, vi v2), (3, vi v3), (4, vi v4), (5, vi v5)] d_BRg_changedBy_47 (by decide) rfl ?_
        refine j_iload F 0 d_BRg_changedBy_49 rfl ?_
        refine j_iload_n F 2 d_BRg_changedBy_51 rfl ?_
        obtain ⟨hc1, hc2, hwt, hwf⟩ := hw
        refine j_icmp_ne F 67 hc1 hc2 d_BRg_changedBy_52 rfl (fun hh => ?_) (fun hh => ?_)
        · have hw := hwt hh
          refine j_sub [1, 2, 3, 4, 5, 6] rfl ?_
          exact B67 _ _ _ _ _ _ _ hT hw
        · have hw := hwf hh
          refine j_iload F 5 d_BRg_changedBy_55 rfl ?_
          refine j_iload_n F 4 d_BRg_changedBy_57 rfl ?_
          obtain ⟨hc1, hc2, hwt, hwf⟩ := hw
          refine j_icmp_ne F 64 hc1 hc2 d_BRg_changedBy_58 rfl (fun hh => ?_) (fun hh => ?_)
          · have hw := hwt hh
            refine j_iinc F 5 [(4, vi (v4 + 1)), (6, vi s0), (0, .ref v0), (1, vi v1), (2, vi v2), (3, vi v3), (5, vi v5)] d_BRg_changedBy_64 rfl (by decide) rfl ?_
            refine j_sub [2, 3, 4, 5, 0, 6] rfl ?_
            exact B67 _ _ _ _ _ _ _ hT hw
          · have hw := hwf hh
            refine j_iload F 6 d_BRg_changedBy_61 rfl ?_
            exact hret _ _ _ _ _ _ hw hT (by omega) (by omega) d_BRg_changedBy_63
      intro v0 v1 v2 v3 v4 v5 T hT hw
      unfold wp_BRg_changedBy_6 at hw
      refine j_iload F 5 d_BRg_changedBy_6 rfl ?_
      refine j_aload_n F 0 d_BRg_changedBy_8 rfl ?_
      obtain ⟨hc1, q_1, hc2, hw⟩ := hw
      refine c_getr F K hT 5 1 rfl tu_Register (by decide) (by decide) rfl tq_309 (Or.inl rfl) hc1 hc2 d_BRg_changedBy_9 ?_
      obtain ⟨hg1, hw⟩ := hw
      refine c_callVi F K hT (c_BAL_size l hw) (tw_gV tq_305 tq_306 tq_307 tq_233 tq_308) 7 rfl (by decide) hg1 q_BAL_size rfl ⟨by decide, by decide⟩ ⟨by omega, by omega⟩ rfl (Nat.le_of_ble_eq_true rfl) d_BRg_changedBy_12 (fun r_3 T_2 hw hT => ?_)
      obtain ⟨hc1, hc2, hwt, hwf⟩ := hw
      refine j_icmp_gt F 73 hc1 hc2 d_BRg_changedBy_15 rfl (fun hh => ?_) (fun hh => ?_)
      · have hw := hwt hh
        refine j_iconst F d_BRg_changedBy_73 ?_
        exact hret _ _ _ _ _ _ hw hT (by omega) (by omega) d_BRg_changedBy_74
      · have hw := hwf hh
        refine j_iload_n F 1 d_BRg_changedBy_18 rfl ?_
        obtain ⟨hc1, hwt, hwf⟩ := hw
        refine j_if_le F 73 hc1 d_BRg_changedBy_19 rfl (fun hh => ?_) (fun hh => ?_)
        · have hw := hwt hh
          refine j_iconst F d_BRg_changedBy_73 ?_
          exact hret _ _ _ _ _ _ hw hT (by omega) (by omega) d_BRg_changedBy_74
        · have hw := hwf hh
          refine j_iload_n F 2 d_BRg_changedBy_22 rfl ?_
          obtain ⟨hc1, hwt, hwf⟩ := hw
          refine j_if_eq F 38 hc1 d_BRg_changedBy_23 rfl (fun hh => ?_) (fun hh => ?_)
          · have hw := hwt hh
            refine j_aload_n F 0 d_BRg_changedBy_38 rfl ?_
            refine j_iload F 5 d_BRg_changedBy_39 rfl ?_
            obtain ⟨hg1, hw⟩ := hw
            refine c_callVr F K hT (c_BRg_lot l hw) (tw_gV tq_333 tq_334 tq_335 tq_336 tq_337) 5 rfl (by decide) hg1 q_BRg_lot rfl ⟨by decide, by decide⟩ ⟨by omega, by omega⟩ rfl (Nat.le_of_ble_eq_true rfl) d_BRg_changedBy_41 (fun r_5 T_4 hw hT => ?_)
            obtain ⟨hc1, hw⟩ := hw
            refine c_geti F K hT 9 1 rfl tu_Lot (by decide) (by decide) rfl tq_338 (Or.inl rfl) hc1 d_BRg_changedBy_44 ?_
            exact B47 _ _ _ _ _ _ _ _ hT hw
          · have hw := hwf hh
            refine j_aload_n F 0 d_BRg_changedBy_26 rfl ?_
            refine j_iload F 5 d_BRg_changedBy_27 rfl ?_
            obtain ⟨hg1, hw⟩ := hw
            refine c_callVr F K hT (c_BRg_lot l hw) (tw_gV tq_333 tq_334 tq_335 tq_336 tq_337) 5 rfl (by decide) hg1 q_BRg_lot rfl ⟨by decide, by decide⟩ ⟨by omega, by omega⟩ rfl (Nat.le_of_ble_eq_true rfl) d_BRg_changedBy_29 (fun r_7 T_6 hw hT => ?_)
            obtain ⟨hc1, hw⟩ := hw
            refine c_geti F K hT 9 4 rfl tu_Lot (by decide) (by decide) rfl tq_343 (Or.inl rfl) hc1 d_BRg_changedBy_32 ?_
            refine j_goto F 47 d_BRg_changedBy_35 rfl ?_
            exact B47 _ _ _ _ _ _ _ _ hT hw
  unfold wp_BRg_changedBy at hw
  show jat l D X 7 0 [(0, .ref v0), (1, vi v1), (2, vi v2), (3, vi v3)] [] (cwd k T) 0 0
  refine j_iconst F d_BRg_changedBy_0 ?_
  refine j_istore F [(4, vi 0), (0, .ref v0), (1, vi v1), (2, vi v2), (3, vi v3)] d_BRg_changedBy_1 (by decide) rfl ?_
  refine j_iconst F d_BRg_changedBy_3 ?_
  refine j_istore F [(5, vi 1), (4, vi 0), (0, .ref v0), (1, vi v1), (2, vi v2), (3, vi v3)] d_BRg_changedBy_4 (by decide) rfl ?_
  refine j_sub [2, 3, 4, 5, 1, 0] rfl ?_
  obtain ⟨nn, hw⟩ := hw
  exact B6 nn _ _ _ _ _ _ _ hT hw
theorem tq_408 : (Jvm.Cond.methodLink "LandBook$Register" (157 : Nat) ({ cls := "java/util/ArrayList", name := "remove", desc := "(I)Ljava/lang/Object;" } : Jvm.MethodName)) ∈ tw_G := tw_in (List.mem_of_getElem? (i := 1031) (by decide +kernel)) rfl
theorem tq_409 : (Jvm.Cond.instanceMethod ({ cls := "java/util/ArrayList", name := "remove", desc := "(I)Ljava/lang/Object;" } : Jvm.MethodName)) ∈ tw_G := tw_in (List.mem_of_getElem? (i := 1032) (by decide +kernel)) rfl
theorem tq_410 : (Jvm.Cond.selects "java/util/ArrayList" ({ cls := "java/util/ArrayList", name := "remove", desc := "(I)Ljava/lang/Object;" } : Jvm.MethodName) ({ cls := "java/util/ArrayList", name := "remove", desc := "(I)Ljava/lang/Object;" } : Jvm.MethodName)) ∈ tw_G := tw_in (List.mem_of_getElem? (i := 1033) (by decide +kernel)) rfl
theorem tq_411 : (Jvm.Cond.code ({ cls := "java/util/ArrayList", name := "remove", desc := "(I)Ljava/lang/Object;" } : Jvm.MethodName) prog_30_method_29_code (4 : Nat) (Option.some (Jvm.ClassFile.FieldType.object "java/lang/Object"))) ∈ tw_G := tw_in (List.mem_of_getElem? (i := 1034) (by decide +kernel)) rfl
abbrev y_BRg_cutBack : MethodName := ⟨"LandBook$Register", "cutBack", "(I)V"⟩
theorem q_BRg_cutBack : y_BRg_cutBack.cls = "LandBook$Register" ∧ y_BRg_cutBack.cls ≠ "java/lang/invoke/MethodHandle" ∧ y_BRg_cutBack.cls ≠ "java/lang/invoke/VarHandle" ∧ (parseMethodDescriptor y_BRg_cutBack.desc).map (fun d => d.parameters.length) = some 1 := by decide +kernel
theorem d_BRg_cutBack_0 : decode prog_10_method_25_code 0 = .ok (.aload_n 0, 1) := by decide +kernel
theorem d_BRg_cutBack_1 : decode prog_10_method_25_code 1 = .ok (.getfield 12, 3) := by decide +kernel
theorem d_BRg_cutBack_4 : decode prog_10_method_25_code 4 = .ok (.invokevirtual 31, 3) := by decide +kernel
theorem d_BRg_cutBack_7 : decode prog_10_method_25_code 7 = .ok (.iconst 1, 1) := by decide +kernel
theorem d_BRg_cutBack_8 : decode prog_10_method_25_code 8 = .ok (.isub, 1) := by decide +kernel
theorem d_BRg_cutBack_9 : decode prog_10_method_25_code 9 = .ok (.istore_n 2, 1) := by decide +kernel
theorem d_BRg_cutBack_10 : decode prog_10_method_25_code 10 = .ok (.iload_n 2, 1) := by decide +kernel
theorem d_BRg_cutBack_11 : decode prog_10_method_25_code 11 = .ok (.iload_n 1, 1) := by decide +kernel
theorem d_BRg_cutBack_12 : decode prog_10_method_25_code 12 = .ok (.if_icmp .lt 18, 3) := by decide +kernel
theorem d_BRg_cutBack_30 : decode prog_10_method_25_code 30 = .ok (.aload_n 0, 1) := by decide +kernel
theorem d_BRg_cutBack_31 : decode prog_10_method_25_code 31 = .ok (.getfield 18, 3) := by decide +kernel
theorem d_BRg_cutBack_34 : decode prog_10_method_25_code 34 = .ok (.invokevirtual 31, 3) := by decide +kernel
theorem d_BRg_cutBack_37 : decode prog_10_method_25_code 37 = .ok (.iconst 1, 1) := by decide +kernel
theorem d_BRg_cutBack_38 : decode prog_10_method_25_code 38 = .ok (.isub, 1) := by decide +kernel
theorem d_BRg_cutBack_39 : decode prog_10_method_25_code 39 = .ok (.istore_n 2, 1) := by decide +kernel
theorem d_BRg_cutBack_15 : decode prog_10_method_25_code 15 = .ok (.aload_n 0, 1) := by decide +kernel
theorem d_BRg_cutBack_16 : decode prog_10_method_25_code 16 = .ok (.getfield 12, 3) := by decide +kernel
theorem d_BRg_cutBack_19 : decode prog_10_method_25_code 19 = .ok (.iload_n 2, 1) := by decide +kernel
theorem d_BRg_cutBack_20 : decode prog_10_method_25_code 20 = .ok (.invokevirtual 157, 3) := by decide +kernel
theorem d_BRg_cutBack_23 : decode prog_10_method_25_code 23 = .ok (.pop, 1) := by decide +kernel
theorem d_BRg_cutBack_24 : decode prog_10_method_25_code 24 = .ok (.iinc 2 (-1), 3) := by decide +kernel
theorem d_BRg_cutBack_27 : decode prog_10_method_25_code 27 = .ok (.goto (-17), 3) := by decide +kernel
theorem d_BRg_cutBack_40 : decode prog_10_method_25_code 40 = .ok (.iload_n 2, 1) := by decide +kernel
theorem d_BRg_cutBack_41 : decode prog_10_method_25_code 41 = .ok (.ifCond .lt 72, 3) := by decide +kernel
theorem d_BRg_cutBack_113 : decode prog_10_method_25_code 113 = .ok (.aload_n 0, 1) := by decide +kernel
theorem d_BRg_cutBack_114 : decode prog_10_method_25_code 114 = .ok (.getfield 21, 3) := by decide +kernel
theorem d_BRg_cutBack_117 : decode prog_10_method_25_code 117 = .ok (.invokevirtual 31, 3) := by decide +kernel
theorem d_BRg_cutBack_120 : decode prog_10_method_25_code 120 = .ok (.iconst 1, 1) := by decide +kernel
theorem d_BRg_cutBack_121 : decode prog_10_method_25_code 121 = .ok (.isub, 1) := by decide +kernel
theorem d_BRg_cutBack_122 : decode prog_10_method_25_code 122 = .ok (.istore_n 2, 1) := by decide +kernel
theorem d_BRg_cutBack_44 : decode prog_10_method_25_code 44 = .ok (.aload_n 0, 1) := by decide +kernel
theorem d_BRg_cutBack_45 : decode prog_10_method_25_code 45 = .ok (.getfield 18, 3) := by decide +kernel
theorem d_BRg_cutBack_48 : decode prog_10_method_25_code 48 = .ok (.iload_n 2, 1) := by decide +kernel
theorem d_BRg_cutBack_49 : decode prog_10_method_25_code 49 = .ok (.invokevirtual 35, 3) := by decide +kernel
theorem d_BRg_cutBack_52 : decode prog_10_method_25_code 52 = .ok (.checkcast 39, 3) := by decide +kernel
theorem d_BRg_cutBack_55 : decode prog_10_method_25_code 55 = .ok (.getfield 66, 3) := by decide +kernel
theorem d_BRg_cutBack_58 : decode prog_10_method_25_code 58 = .ok (.iload_n 1, 1) := by decide +kernel
theorem d_BRg_cutBack_59 : decode prog_10_method_25_code 59 = .ok (.if_icmp .le 15, 3) := by decide +kernel
theorem d_BRg_cutBack_74 : decode prog_10_method_25_code 74 = .ok (.aload_n 0, 1) := by decide +kernel
theorem d_BRg_cutBack_75 : decode prog_10_method_25_code 75 = .ok (.getfield 18, 3) := by decide +kernel
theorem d_BRg_cutBack_78 : decode prog_10_method_25_code 78 = .ok (.iload_n 2, 1) := by decide +kernel
theorem d_BRg_cutBack_79 : decode prog_10_method_25_code 79 = .ok (.invokevirtual 35, 3) := by decide +kernel
theorem d_BRg_cutBack_82 : decode prog_10_method_25_code 82 = .ok (.checkcast 39, 3) := by decide +kernel
theorem d_BRg_cutBack_85 : decode prog_10_method_25_code 85 = .ok (.getfield 73, 3) := by decide +kernel
theorem d_BRg_cutBack_88 : decode prog_10_method_25_code 88 = .ok (.iload_n 1, 1) := by decide +kernel
theorem d_BRg_cutBack_89 : decode prog_10_method_25_code 89 = .ok (.if_icmp .le 18, 3) := by decide +kernel
theorem d_BRg_cutBack_92 : decode prog_10_method_25_code 92 = .ok (.aload_n 0, 1) := by decide +kernel
theorem d_BRg_cutBack_93 : decode prog_10_method_25_code 93 = .ok (.getfield 18, 3) := by decide +kernel
theorem d_BRg_cutBack_96 : decode prog_10_method_25_code 96 = .ok (.iload_n 2, 1) := by decide +kernel
theorem d_BRg_cutBack_97 : decode prog_10_method_25_code 97 = .ok (.invokevirtual 35, 3) := by decide +kernel
theorem d_BRg_cutBack_100 : decode prog_10_method_25_code 100 = .ok (.checkcast 39, 3) := by decide +kernel
theorem d_BRg_cutBack_103 : decode prog_10_method_25_code 103 = .ok (.iconst 0, 1) := by decide +kernel
theorem d_BRg_cutBack_104 : decode prog_10_method_25_code 104 = .ok (.putfield 73, 3) := by decide +kernel
theorem d_BRg_cutBack_62 : decode prog_10_method_25_code 62 = .ok (.aload_n 0, 1) := by decide +kernel
theorem d_BRg_cutBack_63 : decode prog_10_method_25_code 63 = .ok (.getfield 18, 3) := by decide +kernel
theorem d_BRg_cutBack_66 : decode prog_10_method_25_code 66 = .ok (.iload_n 2, 1) := by decide +kernel
theorem d_BRg_cutBack_67 : decode prog_10_method_25_code 67 = .ok (.invokevirtual 157, 3) := by decide +kernel
theorem d_BRg_cutBack_70 : decode prog_10_method_25_code 70 = .ok (.pop, 1) := by decide +kernel
theorem d_BRg_cutBack_71 : decode prog_10_method_25_code 71 = .ok (.goto 36, 3) := by decide +kernel
theorem d_BRg_cutBack_123 : decode prog_10_method_25_code 123 = .ok (.iload_n 2, 1) := by decide +kernel
theorem d_BRg_cutBack_124 : decode prog_10_method_25_code 124 = .ok (.ifCond .lt 72, 3) := by decide +kernel
theorem d_BRg_cutBack_196 : decode prog_10_method_25_code 196 = .ok (.return_, 1) := by decide +kernel
theorem d_BRg_cutBack_127 : decode prog_10_method_25_code 127 = .ok (.aload_n 0, 1) := by decide +kernel
theorem d_BRg_cutBack_128 : decode prog_10_method_25_code 128 = .ok (.getfield 21, 3) := by decide +kernel
theorem d_BRg_cutBack_131 : decode prog_10_method_25_code 131 = .ok (.iload_n 2, 1) := by decide +kernel
theorem d_BRg_cutBack_132 : decode prog_10_method_25_code 132 = .ok (.invokevirtual 35, 3) := by decide +kernel
theorem d_BRg_cutBack_135 : decode prog_10_method_25_code 135 = .ok (.checkcast 41, 3) := by decide +kernel
theorem d_BRg_cutBack_138 : decode prog_10_method_25_code 138 = .ok (.getfield 80, 3) := by decide +kernel
theorem d_BRg_cutBack_141 : decode prog_10_method_25_code 141 = .ok (.iload_n 1, 1) := by decide +kernel
theorem d_BRg_cutBack_142 : decode prog_10_method_25_code 142 = .ok (.if_icmp .le 15, 3) := by decide +kernel
theorem d_BRg_cutBack_157 : decode prog_10_method_25_code 157 = .ok (.aload_n 0, 1) := by decide +kernel
theorem d_BRg_cutBack_158 : decode prog_10_method_25_code 158 = .ok (.getfield 21, 3) := by decide +kernel
theorem d_BRg_cutBack_161 : decode prog_10_method_25_code 161 = .ok (.iload_n 2, 1) := by decide +kernel
theorem d_BRg_cutBack_162 : decode prog_10_method_25_code 162 = .ok (.invokevirtual 35, 3) := by decide +kernel
theorem d_BRg_cutBack_165 : decode prog_10_method_25_code 165 = .ok (.checkcast 41, 3) := by decide +kernel
theorem d_BRg_cutBack_168 : decode prog_10_method_25_code 168 = .ok (.getfield 83, 3) := by decide +kernel
theorem d_BRg_cutBack_171 : decode prog_10_method_25_code 171 = .ok (.iload_n 1, 1) := by decide +kernel
theorem d_BRg_cutBack_172 : decode prog_10_method_25_code 172 = .ok (.if_icmp .le 18, 3) := by decide +kernel
theorem d_BRg_cutBack_175 : decode prog_10_method_25_code 175 = .ok (.aload_n 0, 1) := by decide +kernel
theorem d_BRg_cutBack_176 : decode prog_10_method_25_code 176 = .ok (.getfield 21, 3) := by decide +kernel
theorem d_BRg_cutBack_179 : decode prog_10_method_25_code 179 = .ok (.iload_n 2, 1) := by decide +kernel
theorem d_BRg_cutBack_180 : decode prog_10_method_25_code 180 = .ok (.invokevirtual 35, 3) := by decide +kernel
theorem d_BRg_cutBack_183 : decode prog_10_method_25_code 183 = .ok (.checkcast 41, 3) := by decide +kernel
theorem d_BRg_cutBack_186 : decode prog_10_method_25_code 186 = .ok (.iconst 0, 1) := by decide +kernel
theorem d_BRg_cutBack_187 : decode prog_10_method_25_code 187 = .ok (.putfield 83, 3) := by decide +kernel
theorem d_BRg_cutBack_145 : decode prog_10_method_25_code 145 = .ok (.aload_n 0, 1) := by decide +kernel
theorem d_BRg_cutBack_146 : decode prog_10_method_25_code 146 = .ok (.getfield 21, 3) := by decide +kernel
theorem d_BRg_cutBack_149 : decode prog_10_method_25_code 149 = .ok (.iload_n 2, 1) := by decide +kernel
theorem d_BRg_cutBack_150 : decode prog_10_method_25_code 150 = .ok (.invokevirtual 157, 3) := by decide +kernel
theorem d_BRg_cutBack_153 : decode prog_10_method_25_code 153 = .ok (.pop, 1) := by decide +kernel
theorem d_BRg_cutBack_154 : decode prog_10_method_25_code 154 = .ok (.goto 36, 3) := by decide +kernel
theorem d_BRg_cutBack_107 : decode prog_10_method_25_code 107 = .ok (.iinc 2 (-1), 3) := by decide +kernel
theorem d_BRg_cutBack_110 : decode prog_10_method_25_code 110 = .ok (.goto (-70), 3) := by decide +kernel
theorem d_BRg_cutBack_190 : decode prog_10_method_25_code 190 = .ok (.iinc 2 (-1), 3) := by decide +kernel
theorem d_BRg_cutBack_193 : decode prog_10_method_25_code 193 = .ok (.goto (-70), 3) := by decide +kernel
def wp_BRg_cutBack_190 (post : CS → Prop) (k123 : Nat → Int → Int → CS → Prop) (v0 : Nat) (v1 : Int) (v2 : Int) (T : CS) : Prop := k123 v0 v1 (v2 + (-1)) T
def wp_BRg_cutBack_123 (post : CS → Prop) : Nat → Nat → Int → Int → CS → Prop
  | 0, _, _, _, _ => False
  | n + 1, v0, v1, v2, T => inR v2 ∧ (v2 < 0 → post T) ∧ (¬ (v2 < 0) → (tg T v0 = 5 ∧ ∃ q_1 : Nat, fo T v0 2 = some q_1 ∧ (tg T q_1 = 7 ∧ wp_BAL_get (fun r_3 T_2 => tg T_2 r_3 = 10 ∧ (tg T_2 r_3 = 10 ∧ (inR (fi T_2 r_3 1) ∧ inR v1 ∧ ((fi T_2 r_3 1) ≤ v1 → (tg T_2 v0 = 5 ∧ ∃ q_4 : Nat, fo T_2 v0 2 = some q_4 ∧ (tg T_2 q_4 = 7 ∧ wp_BAL_get (fun r_6 T_5 => tg T_5 r_6 = 10 ∧ (tg T_5 r_6 = 10 ∧ (inR (fi T_5 r_6 2) ∧ inR v1 ∧ ((fi T_5 r_6 2) ≤ v1 → wp_BRg_cutBack_190 post (wp_BRg_cutBack_123 post n) v0 v1 v2 T_5) ∧ (¬ ((fi T_5 r_6 2) ≤ v1) → (tg T_5 v0 = 5 ∧ ∃ q_7 : Nat, fo T_5 v0 2 = some q_7 ∧ (tg T_5 q_7 = 7 ∧ wp_BAL_get (fun r_9 T_8 => tg T_8 r_9 = 10 ∧ (tg T_8 r_9 = 10 ∧ ((∀ T_10 : CS, T_10 = cs_i T_8 r_9 2 0 → wp_BRg_cutBack_190 post (wp_BRg_cutBack_123 post n) v0 v1 v2 T_10)))) q_7 v2 T_5)))))) q_4 v2 T_2))) ∧ (¬ ((fi T_2 r_3 1) ≤ v1) → (tg T_2 v0 = 5 ∧ ∃ q_11 : Nat, fo T_2 v0 2 = some q_11 ∧ (tg T_2 q_11 = 7 ∧ wp_BAL_remove (fun r_13 T_12 => wp_BRg_cutBack_190 post (wp_BRg_cutBack_123 post n) v0 v1 v2 T_12) q_11 v2 T_2)))))) q_1 v2 T)))
def wp_BRg_cutBack_107 (post : CS → Prop) (k40 : Nat → Int → Int → CS → Prop) (v0 : Nat) (v1 : Int) (v2 : Int) (T : CS) : Prop := k40 v0 v1 (v2 + (-1)) T
def wp_BRg_cutBack_40 (post : CS → Prop) : Nat → Nat → Int → Int → CS → Prop
  | 0, _, _, _, _ => False
  | n + 1, v0, v1, v2, T => inR v2 ∧ (v2 < 0 → (tg T v0 = 5 ∧ ∃ q_1 : Nat, fo T v0 2 = some q_1 ∧ (tg T q_1 = 7 ∧ wp_BAL_size (fun r_3 T_2 => ∃ nn : Nat, wp_BRg_cutBack_123 post nn v0 v1 (r_3 - 1) T_2) q_1 T))) ∧ (¬ (v2 < 0) → (tg T v0 = 5 ∧ ∃ q_4 : Nat, fo T v0 1 = some q_4 ∧ (tg T q_4 = 7 ∧ wp_BAL_get (fun r_6 T_5 => tg T_5 r_6 = 9 ∧ (tg T_5 r_6 = 9 ∧ (inR (fi T_5 r_6 1) ∧ inR v1 ∧ ((fi T_5 r_6 1) ≤ v1 → (tg T_5 v0 = 5 ∧ ∃ q_7 : Nat, fo T_5 v0 1 = some q_7 ∧ (tg T_5 q_7 = 7 ∧ wp_BAL_get (fun r_9 T_8 => tg T_8 r_9 = 9 ∧ (tg T_8 r_9 = 9 ∧ (inR (fi T_8 r_9 4) ∧ inR v1 ∧ ((fi T_8 r_9 4) ≤ v1 → wp_BRg_cutBack_107 post (wp_BRg_cutBack_40 post n) v0 v1 v2 T_8) ∧ (¬ ((fi T_8 r_9 4) ≤ v1) → (tg T_8 v0 = 5 ∧ ∃ q_10 : Nat, fo T_8 v0 1 = some q_10 ∧ (tg T_8 q_10 = 7 ∧ wp_BAL_get (fun r_12 T_11 => tg T_11 r_12 = 9 ∧ (tg T_11 r_12 = 9 ∧ ((∀ T_13 : CS, T_13 = cs_i T_11 r_12 4 0 → wp_BRg_cutBack_107 post (wp_BRg_cutBack_40 post n) v0 v1 v2 T_13)))) q_10 v2 T_8)))))) q_7 v2 T_5))) ∧ (¬ ((fi T_5 r_6 1) ≤ v1) → (tg T_5 v0 = 5 ∧ ∃ q_14 : Nat, fo T_5 v0 1 = some q_14 ∧ (tg T_5 q_14 = 7 ∧ wp_BAL_remove (fun r_16 T_15 => wp_BRg_cutBack_107 post (wp_BRg_cutBack_40 post n) v0 v1 v2 T_15) q_14 v2 T_5)))))) q_4 v2 T)))
def wp_BRg_cutBack_10 (post : CS → Prop) : Nat → Nat → Int → Int → CS → Prop
  | 0, _, _, _, _ => False
  | n + 1, v0, v1, v2, T => inR v2 ∧ inR v1 ∧ (v2 < v1 → (tg T v0 = 5 ∧ ∃ q_1 : Nat, fo T v0 1 = some q_1 ∧ (tg T q_1 = 7 ∧ wp_BAL_size (fun r_3 T_2 => ∃ nn : Nat, wp_BRg_cutBack_40 post nn v0 v1 (r_3 - 1) T_2) q_1 T))) ∧ (¬ (v2 < v1) → (tg T v0 = 5 ∧ ∃ q_4 : Nat, fo T v0 0 = some q_4 ∧ (tg T q_4 = 7 ∧ wp_BAL_remove (fun r_6 T_5 => (wp_BRg_cutBack_10 post n) v0 v1 (v2 + (-1)) T_5) q_4 v2 T)))
def wp_BRg_cutBack (post : CS → Prop) (v0 : Nat) (v1 : Int) (T : CS) : Prop := tg T v0 = 5 ∧ ∃ q_1 : Nat, fo T v0 0 = some q_1 ∧ (tg T q_1 = 7 ∧ wp_BAL_size (fun r_3 T_2 => ∃ nn : Nat, wp_BRg_cutBack_10 post nn v0 v1 (r_3 - 1) T_2) q_1 T)
set_option maxHeartbeats 4000000 in
set_option maxRecDepth 100000 in
theorem c_BRg_cutBack (l : Launch) {D : va_G} {k : CK} {post : CS → Prop} {v0 : Nat} {v1 : Int} {T : CS} (hw : wp_BRg_cutBack post v0 v1 T) : jCv l D k y_BRg_cutBack prog_10_method_25_code 3 none 3 106 0 0 T [.ref v0, vi v1] post := by
  refine j_cov (own := "LandBook$Register") (by decide) rfl (Nat.le_of_ble_eq_true rfl) (fun X F K hT hret => ?_)
  have B123 : ∀ (nn : Nat) (v0 : Nat) (v1 : Int) (v2 : Int) (T : CS), cs_ok k T → wp_BRg_cutBack_123 post nn v0 v1 v2 T → jat l D X 3 123 [(0, .ref v0), (1, vi v1), (2, vi v2)] [] (cwd k T) 0 0 := by
    intro nn
    induction nn with
    | zero => intro v0 v1 v2 T hT hw; exact hw.elim
    | succ n123 ih123 =>
      have B190 : ∀ (v0 : Nat) (v1 : Int) (v2 : Int) (T : CS), cs_ok k T → wp_BRg_cutBack_190 post (wp_BRg_cutBack_123 post n123) v0 v1 v2 T → jat l D X 3 190 [(0, .ref v0), (1, vi v1), (2, vi v2)] [] (cwd k T) 0 0 := by
        intro v0 v1 v2 T hT hw
        unfold wp_BRg_cutBack_190 at hw
        refine j_iinc F 2 [(2, vi (v2 + (-1))), (0, .ref v0), (1, vi v1)] d_BRg_cutBack_190 rfl (by decide) rfl ?_
        refine j_goto F 123 d_BRg_cutBack_193 rfl ?_
        refine j_sub [1, 2, 0] rfl ?_
        exact ih123 _ _ _ _ hT hw
      intro v0 v1 v2 T hT hw
      unfold wp_BRg_cutBack_123 at hw
      refine j_iload_n F 2 d_BRg_cutBack_123 rfl ?_
      obtain ⟨hc1, hwt, hwf⟩ := hw
      refine j_if_lt F 196 hc1 d_BRg_cutBack_124 rfl (fun hh => ?_) (fun hh => ?_)
      · have hw := hwt hh
        exact hret _ _ _ _ _ hw hT (by omega) (by omega) d_BRg_cutBack_196
      · have hw := hwf hh
        refine j_aload_n F 0 d_BRg_cutBack_127 rfl ?_
        obtain ⟨hc1, q_1, hc2, hw⟩ := hw
        refine c_getr F K hT 5 2 rfl tu_Register (by decide) (by decide) rfl tq_310 (Or.inl rfl) hc1 hc2 d_BRg_cutBack_128 ?_
        refine j_iload_n F 2 d_BRg_cutBack_131 rfl ?_
        obtain ⟨hg1, hw⟩ := hw
        refine c_callVr F K hT (c_BAL_get l hw) (tw_gV tq_311 tq_312 tq_313 tq_233 tq_314) 7 rfl (by decide) hg1 q_BAL_get rfl ⟨by decide, by decide⟩ ⟨by omega, by omega⟩ rfl (Nat.le_of_ble_eq_true rfl) d_BRg_cutBack_132 (fun r_3 T_2 hw hT => ?_)
        obtain ⟨hc1, hw⟩ := hw
        refine c_cast F K hT 10 rfl (by decide) tq_316 (by simp [cwords]) hc1 d_BRg_cutBack_135 ?_
        obtain ⟨hc1, hw⟩ := hw
        refine c_geti F K hT 10 1 rfl tu_Easement (by decide) (by decide) rfl tq_348 (Or.inl rfl) hc1 d_BRg_cutBack_138 ?_
        refine j_iload_n F 1 d_BRg_cutBack_141 rfl ?_
        obtain ⟨hc1, hc2, hwt, hwf⟩ := hw
        refine j_icmp_le F 157 hc1 hc2 d_BRg_cutBack_142 rfl (fun hh => ?_) (fun hh => ?_)
        · have hw := hwt hh
          refine j_aload_n F 0 d_BRg_cutBack_157 rfl ?_
          obtain ⟨hc1, q_4, hc2, hw⟩ := hw
          refine c_getr F K hT 5 2 rfl tu_Register (by decide) (by decide) rfl tq_310 (Or.inl rfl) hc1 hc2 d_BRg_cutBack_158 ?_
          refine j_iload_n F 2 d_BRg_cutBack_161 rfl ?_
          obtain ⟨hg1, hw⟩ := hw
          refine c_callVr F K hT (c_BAL_get l hw) (tw_gV tq_311 tq_312 tq_313 tq_233 tq_314) 7 rfl (by decide) hg1 q_BAL_get rfl ⟨by decide, by decide⟩ ⟨by omega, by omega⟩ rfl (Nat.le_of_ble_eq_true rfl) d_BRg_cutBack_162 (fun r_6 T_5 hw hT => ?_)
          obtain ⟨hc1, hw⟩ := hw
          refine c_cast F K hT 10 rfl (by decide) tq_316 (by simp [cwords]) hc1 d_BRg_cutBack_165 ?_
          obtain ⟨hc1, hw⟩ := hw
          refine c_geti F K hT 10 2 rfl tu_Easement (by decide) (by decide) rfl tq_349 (Or.inl rfl) hc1 d_BRg_cutBack_168 ?_
          refine j_iload_n F 1 d_BRg_cutBack_171 rfl ?_
          obtain ⟨hc1, hc2, hwt, hwf⟩ := hw
          refine j_icmp_le F 190 hc1 hc2 d_BRg_cutBack_172 rfl (fun hh => ?_) (fun hh => ?_)
          · have hw := hwt hh
            exact B190 _ _ _ _ hT hw
          · have hw := hwf hh
            refine j_aload_n F 0 d_BRg_cutBack_175 rfl ?_
            obtain ⟨hc1, q_7, hc2, hw⟩ := hw
            refine c_getr F K hT 5 2 rfl tu_Register (by decide) (by decide) rfl tq_310 (Or.inl rfl) hc1 hc2 d_BRg_cutBack_176 ?_
            refine j_iload_n F 2 d_BRg_cutBack_179 rfl ?_
            obtain ⟨hg1, hw⟩ := hw
            refine c_callVr F K hT (c_BAL_get l hw) (tw_gV tq_311 tq_312 tq_313 tq_233 tq_314) 7 rfl (by decide) hg1 q_BAL_get rfl ⟨by decide, by decide⟩ ⟨by omega, by omega⟩ rfl (Nat.le_of_ble_eq_true rfl) d_BRg_cutBack_180 (fun r_9 T_8 hw hT => ?_)
            obtain ⟨hc1, hw⟩ := hw
            refine c_cast F K hT 10 rfl (by decide) tq_316 (by simp [cwords]) hc1 d_BRg_cutBack_183 ?_
            refine j_iconst F d_BRg_cutBack_186 ?_
            obtain ⟨hc1, hw⟩ := hw
            refine c_puti F K hT 10 2 rfl tu_Easement (by decide) (by decide) rfl tq_349 (Or.inl rfl) t_Easement t_Easement_ok n_Easement rfl (ty := .int) (by decide +kernel) rfl rfl hc1 d_BRg_cutBack_187 (fun T_10 e_T_10 hT => ?_)
            have hw := hw T_10 e_T_10
            exact B190 _ _ _ _ hT hw
        · have hw := hwf hh
          refine j_aload_n F 0 d_BRg_cutBack_145 rfl ?_
          obtain ⟨hc1, q_11, hc2, hw⟩ := hw
          refine c_getr F K hT 5 2 rfl tu_Register (by decide) (by decide) rfl tq_310 (Or.inl rfl) hc1 hc2 d_BRg_cutBack_146 ?_
          refine j_iload_n F 2 d_BRg_cutBack_149 rfl ?_
          obtain ⟨hg1, hw⟩ := hw
          refine c_callVr F K hT (c_BAL_remove l hw) (tw_gV tq_408 tq_409 tq_410 tq_233 tq_411) 7 rfl (by decide) hg1 q_BAL_remove rfl ⟨by decide, by decide⟩ ⟨by omega, by omega⟩ rfl (Nat.le_of_ble_eq_true rfl) d_BRg_cutBack_150 (fun r_13 T_12 hw hT => ?_)
          refine j_pop F rfl d_BRg_cutBack_153 ?_
          refine j_goto F 190 d_BRg_cutBack_154 rfl ?_
          exact B190 _ _ _ _ hT hw
  have B40 : ∀ (nn : Nat) (v0 : Nat) (v1 : Int) (v2 : Int) (T : CS), cs_ok k T → wp_BRg_cutBack_40 post nn v0 v1 v2 T → jat l D X 3 40 [(0, .ref v0), (1, vi v1), (2, vi v2)] [] (cwd k T) 0 0 := by
    intro nn
    induction nn with
    | zero => intro v0 v1 v2 T hT hw; exact hw.elim
    | succ n40 ih40 =>
      have B107 : ∀ (v0 : Nat) (v1 : Int) (v2 : Int) (T : CS), cs_ok k T → wp_BRg_cutBack_107 post (wp_BRg_cutBack_40 post n40) v0 v1 v2 T → jat l D X 3 107 [(0, .ref v0), (1, vi v1), (2, vi v2)] [] (cwd k T) 0 0 := by
        intro v0 v1 v2 T hT hw
        unfold wp_BRg_cutBack_107 at hw
        refine j_iinc F 2 [(2, vi (v2 + (-1))), (0, .ref v0), (1, vi v1)] d_BRg_cutBack_107 rfl (by decide) rfl ?_
        refine j_goto F 40 d_BRg_cutBack_110 rfl ?_
        refine j_sub [1, 2, 0] rfl ?_
        exact ih40 _ _ _ _ hT hw
      intro v0 v1 v2 T hT hw
      unfold wp_BRg_cutBack_40 at hw
      refine j_iload_n F 2 d_BRg_cutBack_40 rfl ?_
      obtain ⟨hc1, hwt, hwf⟩ := hw
      refine j_if_lt F 113 hc1 d_BRg_cutBack_41 rfl (fun hh => ?_) (fun hh => ?_)
      · have hw := hwt hh
        refine j_aload_n F 0 d_BRg_cutBack_113 rfl ?_
        obtain ⟨hc1, q_1, hc2, hw⟩ := hw
        refine c_getr F K hT 5 2 rfl tu_Register (by decide) (by decide) rfl tq_310 (Or.inl rfl) hc1 hc2 d_BRg_cutBack_114 ?_
        obtain ⟨hg1, hw⟩ := hw
        refine c_callVi F K hT (c_BAL_size l hw) (tw_gV tq_305 tq_306 tq_307 tq_233 tq_308) 7 rfl (by decide) hg1 q_BAL_size rfl ⟨by decide, by decide⟩ ⟨by omega, by omega⟩ rfl (Nat.le_of_ble_eq_true rfl) d_BRg_cutBack_117 (fun r_3 T_2 hw hT => ?_)
        refine j_iconst F d_BRg_cutBack_120 ?_
        refine j_isub F d_BRg_cutBack_121 ?_
        refine j_istore_n F [(2, vi (r_3 - 1)), (0, .ref v0), (1, vi v1)] d_BRg_cutBack_122 (by decide) rfl ?_
        refine j_sub [1, 2, 0] rfl ?_
        obtain ⟨nn, hw⟩ := hw
        exact B123 nn _ _ _ _ hT hw
      · have hw := hwf hh
        refine j_aload_n F 0 d_BRg_cutBack_44 rfl ?_
        obtain ⟨hc1, q_4, hc2, hw⟩ := hw
        refine c_getr F K hT 5 1 rfl tu_Register (by decide) (by decide) rfl tq_309 (Or.inl rfl) hc1 hc2 d_BRg_cutBack_45 ?_
        refine j_iload_n F 2 d_BRg_cutBack_48 rfl ?_
        obtain ⟨hg1, hw⟩ := hw
        refine c_callVr F K hT (c_BAL_get l hw) (tw_gV tq_311 tq_312 tq_313 tq_233 tq_314) 7 rfl (by decide) hg1 q_BAL_get rfl ⟨by decide, by decide⟩ ⟨by omega, by omega⟩ rfl (Nat.le_of_ble_eq_true rfl) d_BRg_cutBack_49 (fun r_6 T_5 hw hT => ?_)
        obtain ⟨hc1, hw⟩ := hw
        refine c_cast F K hT 9 rfl (by decide) tq_315 (by simp [cwords]) hc1 d_BRg_cutBack_52 ?_
        obtain ⟨hc1, hw⟩ := hw
        refine c_geti F K hT 9 1 rfl tu_Lot (by decide) (by decide) rfl tq_338 (Or.inl rfl) hc1 d_BRg_cutBack_55 ?_
        refine j_iload_n F 1 d_BRg_cutBack_58 rfl ?_
        obtain ⟨hc1, hc2, hwt, hwf⟩ := hw
        refine j_icmp_le F 74 hc1 hc2 d_BRg_cutBack_59 rfl (fun hh => ?_) (fun hh => ?_)
        · have hw := hwt hh
          refine j_aload_n F 0 d_BRg_cutBack_74 rfl ?_
          obtain ⟨hc1, q_7, hc2, hw⟩ := hw
          refine c_getr F K hT 5 1 rfl tu_Register (by decide) (by decide) rfl tq_309 (Or.inl rfl) hc1 hc2 d_BRg_cutBack_75 ?_
          refine j_iload_n F 2 d_BRg_cutBack_78 rfl ?_
          obtain ⟨hg1, hw⟩ := hw
          refine c_callVr F K hT (c_BAL_get l hw) (tw_gV tq_311 tq_312 tq_313 tq_233 tq_314) 7 rfl (by decide) hg1 q_BAL_get rfl ⟨by decide, by decide⟩ ⟨by omega, by omega⟩ rfl (Nat.le_of_ble_eq_true rfl) d_BRg_cutBack_79 (fun r_9 T_8 hw hT => ?_)
          obtain ⟨hc1, hw⟩ := hw
          refine c_cast F K hT 9 rfl (by decide) tq_315 (by simp [cwords]) hc1 d_BRg_cutBack_82 ?_
          obtain ⟨hc1, hw⟩ := hw
          refine c_geti F K hT 9 4 rfl tu_Lot (by decide) (by decide) rfl tq_343 (Or.inl rfl) hc1 d_BRg_cutBack_85 ?_
          refine j_iload_n F 1 d_BRg_cutBack_88 rfl ?_
          obtain ⟨hc1, hc2, hwt, hwf⟩ := hw
          refine j_icmp_le F 107 hc1 hc2 d_BRg_cutBack_89 rfl (fun hh => ?_) (fun hh => ?_)
          · have hw := hwt hh
            exact B107 _ _ _ _ hT hw
          · have hw := hwf hh
            refine j_aload_n F 0 d_BRg_cutBack_92 rfl ?_
            obtain ⟨hc1, q_10, hc2, hw⟩ := hw
            refine c_getr F K hT 5 1 rfl tu_Register (by decide) (by decide) rfl tq_309 (Or.inl rfl) hc1 hc2 d_BRg_cutBack_93 ?_
            refine j_iload_n F 2 d_BRg_cutBack_96 rfl ?_
            obtain ⟨hg1, hw⟩ := hw
            refine c_callVr F K hT (c_BAL_get l hw) (tw_gV tq_311 tq_312 tq_313 tq_233 tq_314) 7 rfl (by decide) hg1 q_BAL_get rfl ⟨by decide, by decide⟩ ⟨by omega, by omega⟩ rfl (Nat.le_of_ble_eq_true rfl) d_BRg_cutBack_97 (fun r_12 T_11 hw hT => ?_)
            obtain ⟨hc1, hw⟩ := hw
            refine c_cast F K hT 9 rfl (by decide) tq_315 (by simp [cwords]) hc1 d_BRg_cutBack_100 ?_
            refine j_iconst F d_BRg_cutBack_103 ?_
            obtain ⟨hc1, hw⟩ := hw
            refine c_puti F K hT 9 4 rfl tu_Lot (by decide) (by decide) rfl tq_343 (Or.inl rfl) t_Lot t_Lot_ok n_Lot rfl (ty := .int) (by decide +kernel) rfl rfl hc1 d_BRg_cutBack_104 (fun T_13 e_T_13 hT => ?_)
            have hw := hw T_13 e_T_13
            exact B107 _ _ _ _ hT hw
        · have hw := hwf hh
          refine j_aload_n F 0 d_BRg_cutBack_62 rfl ?_
          obtain ⟨hc1, q_14, hc2, hw⟩ := hw
          refine c_getr F K hT 5 1 rfl tu_Register (by decide) (by decide) rfl tq_309 (Or.inl rfl) hc1 hc2 d_BRg_cutBack_63 ?_
          refine j_iload_n F 2 d_BRg_cutBack_66 rfl ?_
          obtain ⟨hg1, hw⟩ := hw
          refine c_callVr F K hT (c_BAL_remove l hw) (tw_gV tq_408 tq_409 tq_410 tq_233 tq_411) 7 rfl (by decide) hg1 q_BAL_remove rfl ⟨by decide, by decide⟩ ⟨by omega, by omega⟩ rfl (Nat.le_of_ble_eq_true rfl) d_BRg_cutBack_67 (fun r_16 T_15 hw hT => ?_)
          refine j_pop F rfl d_BRg_cutBack_70 ?_
          refine j_goto F 107 d_BRg_cutBack_71 rfl ?_
          exact B107 _ _ _ _ hT hw
  have B10 : ∀ (nn : Nat) (v0 : Nat) (v1 : Int) (v2 : Int) (T : CS), cs_ok k T → wp_BRg_cutBack_10 post nn v0 v1 v2 T → jat l D X 3 10 [(0, .ref v0), (1, vi v1), (2, vi v2)] [] (cwd k T) 0 0 := by
    intro nn
    induction nn with
    | zero => intro v0 v1 v2 T hT hw; exact hw.elim
    | succ n10 ih10 =>
      intro v0 v1 v2 T hT hw
      unfold wp_BRg_cutBack_10 at hw
      refine j_iload_n F 2 d_BRg_cutBack_10 rfl ?_
      refine j_iload_n F 1 d_BRg_cutBack_11 rfl ?_
      obtain ⟨hc1, hc2, hwt, hwf⟩ := hw
      refine j_icmp_lt F 30 hc1 hc2 d_BRg_cutBack_12 rfl (fun hh => ?_) (fun hh => ?_)
      · have hw := hwt hh
        refine j_aload_n F 0 d_BRg_cutBack_30 rfl ?_
        obtain ⟨hc1, q_1, hc2, hw⟩ := hw
        refine c_getr F K hT 5 1 rfl tu_Register (by decide) (by decide) rfl tq_309 (Or.inl rfl) hc1 hc2 d_BRg_cutBack_31 ?_
        obtain ⟨hg1, hw⟩ := hw
        refine c_callVi F K hT (c_BAL_size l hw) (tw_gV tq_305 tq_306 tq_307 tq_233 tq_308) 7 rfl (by decide) hg1 q_BAL_size rfl ⟨by decide, by decide⟩ ⟨by omega, by omega⟩ rfl (Nat.le_of_ble_eq_true rfl) d_BRg_cutBack_34 (fun r_3 T_2 hw hT => ?_)
        refine j_iconst F d_BRg_cutBack_37 ?_
        refine j_isub F d_BRg_cutBack_38 ?_
        refine j_istore_n F [(2, vi (r_3 - 1)), (0, .ref v0), (1, vi v1)] d_BRg_cutBack_39 (by decide) rfl ?_
        refine j_sub [1, 2, 0] rfl ?_
        obtain ⟨nn, hw⟩ := hw
        exact B40 nn _ _ _ _ hT hw
      · have hw := hwf hh
        refine j_aload_n F 0 d_BRg_cutBack_15 rfl ?_
        obtain ⟨hc1, q_4, hc2, hw⟩ := hw
        refine c_getr F K hT 5 0 rfl tu_Register (by decide) (by decide) rfl tq_304 (Or.inl rfl) hc1 hc2 d_BRg_cutBack_16 ?_
        refine j_iload_n F 2 d_BRg_cutBack_19 rfl ?_
        obtain ⟨hg1, hw⟩ := hw
        refine c_callVr F K hT (c_BAL_remove l hw) (tw_gV tq_408 tq_409 tq_410 tq_233 tq_411) 7 rfl (by decide) hg1 q_BAL_remove rfl ⟨by decide, by decide⟩ ⟨by omega, by omega⟩ rfl (Nat.le_of_ble_eq_true rfl) d_BRg_cutBack_20 (fun r_6 T_5 hw hT => ?_)
        refine j_pop F rfl d_BRg_cutBack_23 ?_
        refine j_iinc F 2 [(2, vi (v2 + (-1))), (0, .ref v0), (1, vi v1)] d_BRg_cutBack_24 rfl (by decide) rfl ?_
        refine j_goto F 10 d_BRg_cutBack_27 rfl ?_
        refine j_sub [1, 2, 0] rfl ?_
        exact ih10 _ _ _ _ hT hw
  unfold wp_BRg_cutBack at hw
  show jat l D X 3 0 [(0, .ref v0), (1, vi v1)] [] (cwd k T) 0 0
  refine j_aload_n F 0 d_BRg_cutBack_0 rfl ?_
  obtain ⟨hc1, q_1, hc2, hw⟩ := hw
  refine c_getr F K hT 5 0 rfl tu_Register (by decide) (by decide) rfl tq_304 (Or.inl rfl) hc1 hc2 d_BRg_cutBack_1 ?_
  obtain ⟨hg1, hw⟩ := hw
  refine c_callVi F K hT (c_BAL_size l hw) (tw_gV tq_305 tq_306 tq_307 tq_233 tq_308) 7 rfl (by decide) hg1 q_BAL_size rfl ⟨by decide, by decide⟩ ⟨by omega, by omega⟩ rfl (Nat.le_of_ble_eq_true rfl) d_BRg_cutBack_4 (fun r_3 T_2 hw hT => ?_)
  refine j_iconst F d_BRg_cutBack_7 ?_
  refine j_isub F d_BRg_cutBack_8 ?_
  refine j_istore_n F [(2, vi (r_3 - 1)), (0, .ref v0), (1, vi v1)] d_BRg_cutBack_9 (by decide) rfl ?_
  refine j_sub [1, 2, 0] rfl ?_
  obtain ⟨nn, hw⟩ := hw
  exact B10 nn _ _ _ _ hT hw
