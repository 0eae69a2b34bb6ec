theorem tq_224 : (Jvm.Cond.fieldLink "java/util/ArrayList" (48 : Nat) "java/util/ArrayList" "size" "I") ∈ tw_G := tw_in (List.mem_of_getElem? (i := 181) (by decide +kernel)) rfl
abbrev y_BAL_size : MethodName := ⟨"java/util/ArrayList", "size", "()I"⟩
theorem q_BAL_size : y_BAL_size.cls = "java/util/ArrayList" ∧ y_BAL_size.cls ≠ "java/lang/invoke/MethodHandle" ∧ y_BAL_size.cls ≠ "java/lang/invoke/VarHandle" ∧ (parseMethodDescriptor y_BAL_size.desc).map (fun d => d.parameters.length) = some 0 := by decide +kernel
theorem d_BAL_size_0 : decode prog_30_method_8_code 0 = .ok (.aload_n 0, 1) := by decide +kernel
theorem d_BAL_size_1 : decode prog_30_method_8_code 1 = .ok (.getfield 48, 3) := by decide +kernel
theorem d_BAL_size_4 : decode prog_30_method_8_code 4 = .ok (.ireturn, 1) := by decide +kernel
def wp_BAL_size (post : Int → CS → Prop) (v0 : Nat) (T : CS) : Prop := tg T v0 = 7 ∧ (post (fi T v0 1) T)
set_option maxHeartbeats 4000000 in
set_option maxRecDepth 100000 in
theorem c_BAL_size (l : Launch) {D : va_G} {k : CK} {post : Int → CS → Prop} {v0 : Nat} {T : CS} (hw : wp_BAL_size post v0 T) : jCi l D k y_BAL_size prog_30_method_8_code 1 (some .int) 0 0 0 0 T [.ref v0] post := by
  refine j_coi (own := "java/util/ArrayList") (by decide) rfl (Nat.le_of_ble_eq_true rfl) (fun X F K hT hret => ?_)
  unfold wp_BAL_size at hw
  show jat l D X 1 0 [(0, .ref v0)] [] (cwd k T) 0 0
  refine j_aload_n F 0 d_BAL_size_0 rfl ?_
  obtain ⟨hc1, hw⟩ := hw
  refine c_geti F K hT 7 1 rfl tu_ArrayList (by decide) (by decide) rfl tq_224 (Or.inl rfl) hc1 d_BAL_size_1 ?_
  exact hret _ _ _ _ _ _ hw hT (by omega) (by omega) d_BAL_size_4
theorem tq_225 : (Jvm.Cond.fieldLink "java/util/ArrayList" (9 : Nat) "java/util/ArrayList" "elementData" "[Ljava/lang/Object;") ∈ tw_G := tw_in (List.mem_of_getElem? (i := 180) (by decide +kernel)) rfl
abbrev y_BAL_elementData : MethodName := ⟨"java/util/ArrayList", "elementData", "(I)Ljava/lang/Object;"⟩
theorem q_BAL_elementData : y_BAL_elementData.cls = "java/util/ArrayList" ∧ y_BAL_elementData.cls ≠ "java/lang/invoke/MethodHandle" ∧ y_BAL_elementData.cls ≠ "java/lang/invoke/VarHandle" ∧ (parseMethodDescriptor y_BAL_elementData.desc).map (fun d => d.parameters.length) = some 1 := by decide +kernel
theorem d_BAL_elementData_0 : decode prog_30_method_18_code 0 = .ok (.aload_n 0, 1) := by decide +kernel
theorem d_BAL_elementData_1 : decode prog_30_method_18_code 1 = .ok (.getfield 9, 3) := by decide +kernel
theorem d_BAL_elementData_4 : decode prog_30_method_18_code 4 = .ok (.iload_n 1, 1) := by decide +kernel
theorem d_BAL_elementData_5 : decode prog_30_method_18_code 5 = .ok (.aaload, 1) := by decide +kernel
theorem d_BAL_elementData_6 : decode prog_30_method_18_code 6 = .ok (.areturn, 1) := by decide +kernel
def wp_BAL_elementData (post : Nat → CS → Prop) (v0 : Nat) (v1 : Int) (T : CS) : Prop := tg T v0 = 7 ∧ ∃ q_1 : Nat, fo T v0 0 = some q_1 ∧ (tg T q_1 = 13 ∧ ixR v1 (ln T q_1) ∧ ∃ q_2 : Nat, fo T q_1 v1.toNat = some q_2 ∧ post q_2 T)
set_option maxHeartbeats 4000000 in
set_option maxRecDepth 100000 in
theorem c_BAL_elementData (l : Launch) {D : va_G} {k : CK} {post : Nat → CS → Prop} {v0 : Nat} {v1 : Int} {T : CS} (hw : wp_BAL_elementData post v0 v1 T) : jCr l D k y_BAL_elementData prog_30_method_18_code 2 (some (.object "java/lang/Object")) 0 0 0 0 T [.ref v0, vi v1] post := by
  refine j_cor (Or.inl ⟨_, rfl⟩) (own := "java/util/ArrayList") (by decide) rfl (Nat.le_of_ble_eq_true rfl) (fun X F K hT hret => ?_)
  unfold wp_BAL_elementData at hw
  show jat l D X 2 0 [(0, .ref v0), (1, vi v1)] [] (cwd k T) 0 0
  refine j_aload_n F 0 d_BAL_elementData_0 rfl ?_
  obtain ⟨hc1, q_1, hc2, hw⟩ := hw
  refine c_getr F K hT 7 0 rfl tu_ArrayList (by decide) (by decide) rfl tq_225 (Or.inl rfl) hc1 hc2 d_BAL_elementData_1 ?_
  refine j_iload_n F 1 d_BAL_elementData_4 rfl ?_
  obtain ⟨hc1, hc2, q_2, hc3, hw⟩ := hw
  refine c_aald13 F K hT hc1 hc2 hc3 d_BAL_elementData_5 ?_
  exact hret _ _ _ _ _ _ hw hT (by omega) (by omega) d_BAL_elementData_6
theorem tq_226 : (Jvm.Cond.methodLink "java/util/ArrayList" (118 : Nat) ({ cls := "java/util/Objects", name := "checkIndex", desc := "(II)I" } : Jvm.MethodName)) ∈ tw_G := tw_in (List.mem_of_getElem? (i := 593) (by decide +kernel)) rfl
theorem tq_227 : (Jvm.Cond.static ({ cls := "java/util/Objects", name := "checkIndex", desc := "(II)I" } : Jvm.MethodName)) ∈ tw_G := tw_in (List.mem_of_getElem? (i := 594) (by decide +kernel)) rfl
theorem tq_228 : (Jvm.Cond.initialized "java/util/Objects") ∈ tw_G := tw_in (List.mem_of_getElem? (i := 85) (by decide +kernel)) rfl
theorem tq_229 : (Jvm.Cond.code ({ cls := "java/util/Objects", name := "checkIndex", desc := "(II)I" } : Jvm.MethodName) prog_34_method_17_code (2 : Nat) (Option.some Jvm.ClassFile.FieldType.int)) ∈ tw_G := tw_in (List.mem_of_getElem? (i := 595) (by decide +kernel)) rfl
theorem tq_230 : (Jvm.Cond.methodLink "java/util/ArrayList" (123 : Nat) ({ cls := "java/util/ArrayList", name := "elementData", desc := "(I)Ljava/lang/Object;" } : Jvm.MethodName)) ∈ tw_G := tw_in (List.mem_of_getElem? (i := 599) (by decide +kernel)) rfl
theorem tq_231 : (Jvm.Cond.instanceMethod ({ cls := "java/util/ArrayList", name := "elementData", desc := "(I)Ljava/lang/Object;" } : Jvm.MethodName)) ∈ tw_G := tw_in (List.mem_of_getElem? (i := 600) (by decide +kernel)) rfl
theorem tq_232 : (Jvm.Cond.selects "java/util/ArrayList" ({ cls := "java/util/ArrayList", name := "elementData", desc := "(I)Ljava/lang/Object;" } : Jvm.MethodName) ({ cls := "java/util/ArrayList", name := "elementData", desc := "(I)Ljava/lang/Object;" } : Jvm.MethodName)) ∈ tw_G := tw_in (List.mem_of_getElem? (i := 601) (by decide +kernel)) rfl
theorem tq_233 : (Jvm.Cond.initialized "java/util/ArrayList") ∈ tw_G := tw_in (List.mem_of_getElem? (i := 67) (by decide +kernel)) rfl
theorem tq_234 : (Jvm.Cond.code ({ cls := "java/util/ArrayList", name := "elementData", desc := "(I)Ljava/lang/Object;" } : Jvm.MethodName) prog_30_method_18_code (2 : Nat) (Option.some (Jvm.ClassFile.FieldType.object "java/lang/Object"))) ∈ tw_G := tw_in (List.mem_of_getElem? (i := 602) (by decide +kernel)) rfl
abbrev y_BAL_get : MethodName := ⟨"java/util/ArrayList", "get", "(I)Ljava/lang/Object;"⟩
theorem q_BAL_get : y_BAL_get.cls = "java/util/ArrayList" ∧ y_BAL_get.cls ≠ "java/lang/invoke/MethodHandle" ∧ y_BAL_get.cls ≠ "java/lang/invoke/VarHandle" ∧ (parseMethodDescriptor y_BAL_get.desc).map (fun d => d.parameters.length) = some 1 := by decide +kernel
theorem d_BAL_get_0 : decode prog_30_method_20_code 0 = .ok (.iload_n 1, 1) := by decide +kernel
theorem d_BAL_get_1 : decode prog_30_method_20_code 1 = .ok (.aload_n 0, 1) := by decide +kernel
theorem d_BAL_get_2 : decode prog_30_method_20_code 2 = .ok (.getfield 48, 3) := by decide +kernel
theorem d_BAL_get_5 : decode prog_30_method_20_code 5 = .ok (.invokestatic 118, 3) := by decide +kernel
theorem d_BAL_get_8 : decode prog_30_method_20_code 8 = .ok (.pop, 1) := by decide +kernel
theorem d_BAL_get_9 : decode prog_30_method_20_code 9 = .ok (.aload_n 0, 1) := by decide +kernel
theorem d_BAL_get_10 : decode prog_30_method_20_code 10 = .ok (.iload_n 1, 1) := by decide +kernel
theorem d_BAL_get_11 : decode prog_30_method_20_code 11 = .ok (.invokevirtual 123, 3) := by decide +kernel
theorem d_BAL_get_14 : decode prog_30_method_20_code 14 = .ok (.areturn, 1) := by decide +kernel
def wp_BAL_get (post : Nat → CS → Prop) (v0 : Nat) (v1 : Int) (T : CS) : Prop := tg T v0 = 7 ∧ (wp_BOb_checkIndex (fun r_1 => tg T v0 = 7 ∧ wp_BAL_elementData (fun r_3 T_2 => post r_3 T_2) v0 v1 T) v1 (fi T v0 1))
set_option maxHeartbeats 4000000 in
set_option maxRecDepth 100000 in
theorem c_BAL_get (l : Launch) {D : va_G} {k : CK} {post : Nat → CS → Prop} {v0 : Nat} {v1 : Int} {T : CS} (hw : wp_BAL_get post v0 v1 T) : jCr l D k y_BAL_get prog_30_method_20_code 2 (some (.object "java/lang/Object")) 2 43 0 0 T [.ref v0, vi v1] post := by
  refine j_cor (Or.inl ⟨_, rfl⟩) (own := "java/util/ArrayList") (by decide) rfl (Nat.le_of_ble_eq_true rfl) (fun X F K hT hret => ?_)
  unfold wp_BAL_get at hw
  show jat l D X 2 0 [(0, .ref v0), (1, vi v1)] [] (cwd k T) 0 0
  refine j_iload_n F 1 d_BAL_get_0 rfl ?_
  refine j_aload_n F 0 d_BAL_get_1 rfl ?_
  obtain ⟨hc1, hw⟩ := hw
  refine c_geti F K hT 7 1 rfl tu_ArrayList (by decide) (by decide) rfl tq_224 (Or.inl rfl) hc1 d_BAL_get_2 ?_
  refine j_callS F (c_BOb_checkIndex l hw) (tw_gS tq_226 tq_227 tq_228 tq_229) q_BOb_checkIndex rfl ⟨by decide, by decide⟩ ⟨by omega, by omega⟩ rfl (Nat.le_of_ble_eq_true rfl) d_BAL_get_5 (fun r_1 hw => ?_)
  refine j_pop F rfl d_BAL_get_8 ?_
  refine j_aload_n F 0 d_BAL_get_9 rfl ?_
  refine j_iload_n F 1 d_BAL_get_10 rfl ?_
  obtain ⟨hg1, hw⟩ := hw
  refine c_callVr F K hT (c_BAL_elementData l hw) (tw_gV tq_230 tq_231 tq_232 tq_233 tq_234) 7 rfl (by decide) hg1 q_BAL_elementData rfl ⟨by decide, by decide⟩ ⟨by omega, by omega⟩ rfl (Nat.le_of_ble_eq_true rfl) d_BAL_get_11 (fun r_3 T_2 hw hT => ?_)
  exact hret _ _ _ _ _ _ hw hT (by omega) (by omega) d_BAL_get_14
theorem tq_235 : (Jvm.Cond.classLink "java/util/Arrays" (110 : Nat) "[Ljava/lang/Object;") ∈ tw_G := tw_in (List.mem_of_getElem? (i := 527) (by decide +kernel)) rfl
theorem tq_236 : (Jvm.Cond.classLink "java/util/Arrays" (2 : Nat) "java/lang/Object") ∈ tw_G := tw_in (List.mem_of_getElem? (i := 529) (by decide +kernel)) rfl
theorem tq_237 : (Jvm.Cond.methodLink "java/util/Arrays" (304 : Nat) ({ cls := "java/lang/Math", name := "min", desc := "(II)I" } : Jvm.MethodName)) ∈ tw_G := tw_in (List.mem_of_getElem? (i := 530) (by decide +kernel)) rfl
theorem tq_238 : (Jvm.Cond.methodLink "java/util/Arrays" (150 : Nat) ({ cls := "java/lang/System", name := "arraycopy", desc := "(Ljava/lang/Object;ILjava/lang/Object;II)V" } : Jvm.MethodName)) ∈ tw_G := tw_in (List.mem_of_getElem? (i := 531) (by decide +kernel)) rfl
theorem tq_239 : (Jvm.Cond.native ({ cls := "java/lang/System", name := "arraycopy", desc := "(Ljava/lang/Object;ILjava/lang/Object;II)V" } : Jvm.MethodName)) ∈ tw_G := tw_in (List.mem_of_getElem? (i := 533) (by decide +kernel)) rfl
theorem tq_240 : (Jvm.Cond.static ({ cls := "java/lang/System", name := "arraycopy", desc := "(Ljava/lang/Object;ILjava/lang/Object;II)V" } : Jvm.MethodName)) ∈ tw_G := tw_in (List.mem_of_getElem? (i := 532) (by decide +kernel)) rfl
theorem tq_241 : (Jvm.Cond.initialized "java/lang/System") ∈ tw_G := tw_in (List.mem_of_getElem? (i := 83) (by decide +kernel)) rfl
abbrev y_BAr_copyOf3 : MethodName := ⟨"java/util/Arrays", "copyOf", "([Ljava/lang/Object;ILjava/lang/Class;)[Ljava/lang/Object;"⟩
theorem q_BAr_copyOf3 : y_BAr_copyOf3.cls ≠ "java/lang/invoke/MethodHandle" ∧ y_BAr_copyOf3.cls ≠ "java/lang/invoke/VarHandle" ∧ (parseMethodDescriptor y_BAr_copyOf3.desc).map (fun d => d.parameters.length) = some 3 := by decide +kernel
theorem d_BAr_copyOf3_0 : decode prog_31_method_120_code 0 = .ok (.aload_n 2, 1) := by decide +kernel
theorem d_BAr_copyOf3_1 : decode prog_31_method_120_code 1 = .ok (.ldc 110, 2) := by decide +kernel
theorem d_BAr_copyOf3_3 : decode prog_31_method_120_code 3 = .ok (.if_acmp .ne 10, 3) := by decide +kernel
theorem d_BAr_copyOf3_6 : decode prog_31_method_120_code 6 = .ok (.iload_n 1, 1) := by decide +kernel
theorem d_BAr_copyOf3_7 : decode prog_31_method_120_code 7 = .ok (.anewarray 2, 3) := by decide +kernel
theorem d_BAr_copyOf3_10 : decode prog_31_method_120_code 10 = .ok (.goto 14, 3) := by decide +kernel
theorem d_BAr_copyOf3_24 : decode prog_31_method_120_code 24 = .ok (.astore_n 3, 1) := by decide +kernel
theorem d_BAr_copyOf3_25 : decode prog_31_method_120_code 25 = .ok (.aload_n 0, 1) := by decide +kernel
theorem d_BAr_copyOf3_26 : decode prog_31_method_120_code 26 = .ok (.iconst 0, 1) := by decide +kernel
theorem d_BAr_copyOf3_27 : decode prog_31_method_120_code 27 = .ok (.aload_n 3, 1) := by decide +kernel
theorem d_BAr_copyOf3_28 : decode prog_31_method_120_code 28 = .ok (.iconst 0, 1) := by decide +kernel
theorem d_BAr_copyOf3_29 : decode prog_31_method_120_code 29 = .ok (.aload_n 0, 1) := by decide +kernel
theorem d_BAr_copyOf3_30 : decode prog_31_method_120_code 30 = .ok (.arraylength, 1) := by decide +kernel
theorem d_BAr_copyOf3_31 : decode prog_31_method_120_code 31 = .ok (.iload_n 1, 1) := by decide +kernel
theorem d_BAr_copyOf3_32 : decode prog_31_method_120_code 32 = .ok (.invokestatic 304, 3) := by decide +kernel
theorem d_BAr_copyOf3_35 : decode prog_31_method_120_code 35 = .ok (.invokestatic 150, 3) := by decide +kernel
theorem d_BAr_copyOf3_38 : decode prog_31_method_120_code 38 = .ok (.aload_n 3, 1) := by decide +kernel
theorem d_BAr_copyOf3_39 : decode prog_31_method_120_code 39 = .ok (.areturn, 1) := by decide +kernel
def wp_BAr_copyOf3_24 (post : Nat → CS → Prop) (mc0 : Nat) (ms0 : Nat) (v0 : Nat) (v1 : Int) (s0 : Nat) (T : CS) : Prop := tg T v0 = 13 ∧ (wp_BMa_min (fun r_1 => tg T s0 = 13 ∧ tg T v0 = 13 ∧ (((0 : Int) ≤ 0 ∧ (0 : Int) ≤ 0 ∧ (0 : Int) ≤ r_1) ∧ (0 : Int) + r_1 ≤ ln T v0 ∧ (0 : Int) + r_1 ≤ ln T s0) ∧ ∃ tt : Nat, (tt = 8 ∨ tt = 9 ∨ tt = 10) ∧ (∀ i_ v_ : Nat, i_ < r_1.toNat → fo T v0 (0 + i_) = some v_ → tg T v_ = tt) ∧ ((∀ T_2 : CS, T_2 = cs_co T v0 s0 0 0 r_1.toNat → post s0 T_2))) (ln T v0 : Int) v1)
def wp_BAr_copyOf3 (post : Nat → CS → Prop) (mc0 ms0 : Nat) (v0 : Nat) (v1 : Int) (T : CS) : Prop := ((0 : Int) ≤ v1 ∧ (v1 : Int) ≤ 134217728) ∧ ∃ mc_3 ms_4 : Nat, (mc0 = 1 + mc_3 ∧ ms0 = v1.toNat + ms_4) ∧ (∀ (q_1 : Nat) (T_2 : CS), tg T q_1 = 0 → T_2 = cs_new T q_1 13 v1.toNat → wp_BAr_copyOf3_24 post mc_3 ms_4 v0 v1 q_1 T_2)
set_option maxHeartbeats 4000000 in
set_option maxRecDepth 100000 in
theorem c_BAr_copyOf3 (l : Launch) {D : va_G} {k : CK} {post : Nat → CS → Prop} {mc ms : Nat} {v0 : Nat} {v1 : Int} {T : CS} (hw : wp_BAr_copyOf3 post mc ms v0 v1 T) : jCr l D k y_BAr_copyOf3 prog_31_method_120_code 4 (some (.array (.object "java/lang/Object"))) 1 60 mc ms T [.ref v0, vi v1, .ref k.2.2.2.2.2] post := by
  refine j_cor (Or.inr ⟨_, rfl⟩) (own := "java/util/Arrays") (by decide) rfl (Nat.le_of_ble_eq_true rfl) (fun X F K hT hret => ?_)
  have B24 : ∀ (mc0 : Nat) (ms0 : Nat) (v0 : Nat) (v1 : Int) (s0 : Nat) (T : CS) (c0 n0 : Nat), c0 + mc0 = mc → n0 + ms0 = ms → cs_ok k T → wp_BAr_copyOf3_24 post mc0 ms0 v0 v1 s0 T → jat l D X 4 24 [(0, .ref v0), (1, vi v1)] [.ref s0] (cwd k T) c0 n0 := by
    intro mc0 ms0 v0 v1 s0 T c0 n0 hc0 hn0 hT hw
    unfold wp_BAr_copyOf3_24 at hw
    refine j_astore_n F [(3, .ref s0), (0, .ref v0), (1, vi v1)] d_BAr_copyOf3_24 (by decide) rfl ?_
    refine j_aload_n F 1 d_BAr_copyOf3_25 rfl ?_
    refine j_iconst F d_BAr_copyOf3_26 ?_
    refine j_aload_n F 0 d_BAr_copyOf3_27 rfl ?_
    refine j_iconst F d_BAr_copyOf3_28 ?_
    refine j_aload_n F 1 d_BAr_copyOf3_29 rfl ?_
    obtain ⟨hc1, hw⟩ := hw
    refine c_alen13 F K hT hc1 d_BAr_copyOf3_30 ?_
    refine j_iload_n F 2 d_BAr_copyOf3_31 rfl ?_
    refine j_callS F (c_BMa_min l hw) (tw_gS tq_237 tq_98 tq_99 tq_100) q_BMa_min rfl ⟨by decide, by decide⟩ ⟨rm_y hc0, rm_y hn0⟩ rfl (Nat.le_of_ble_eq_true rfl) d_BAr_copyOf3_32 (fun r_1 hw => ?_)
    obtain ⟨hc1, hc2, hc3, tt, hc4, hc5, hw⟩ := hw
    refine c_copyox F K hT tq_238 tq_239 tq_240 tq_241 ⟨by decide, by decide⟩ (Nat.le_of_ble_eq_true rfl) hc1 hc2 hc3 hc4 hc5 d_BAr_copyOf3_35 (fun T_2 e_T_2 hT => ?_)
    have hw := hw T_2 e_T_2
    refine j_aload_n F 0 d_BAr_copyOf3_38 rfl ?_
    exact hret _ _ _ _ _ _ hw hT (rm_y hc0) (rm_y hn0) d_BAr_copyOf3_39
  unfold wp_BAr_copyOf3 at hw
  have key : ∀ (mc0 ms0 c0 n0 : Nat), mc0 = mc → ms0 = ms → c0 = 0 → n0 = 0 → c0 + mc0 = mc → n0 + ms0 = ms → jat l D X 4 0 [(0, .ref v0), (1, vi v1), (2, .ref k.2.2.2.2.2)] [] (cwd k T) c0 n0 := by
    intro mc0 ms0 c0 n0 hm1 hm2 hz1 hz2 hc0 hn0
    subst hm1; subst hm2
    clear hz1 hz2
    refine j_aload_n F 2 d_BAr_copyOf3_0 rfl ?_
    refine c_ldcM F K hT tq_235 d_BAr_copyOf3_1 ?_
    refine c_acmp_ne F 13 d_BAr_copyOf3_3 rfl (fun hh => absurd rfl hh) (fun _ => ?_)
    refine j_iload_n F 1 d_BAr_copyOf3_6 rfl ?_
    obtain ⟨hr0, mc_3, ms_4, ⟨he1, he2⟩, hw⟩ := hw
    refine c_newa13 F K hT tq_236 hr0 (rm_l hc0 he1) (rm_l hn0 he2) d_BAr_copyOf3_7 (fun q_1 T_2 e_q_1 e_T_2 hT => ?_)
    have hw := hw q_1 T_2 e_q_1 e_T_2
    have hc0 := rm_c hc0 he1
    have hn0 := rm_c hn0 he2
    refine j_goto F 24 d_BAr_copyOf3_10 rfl ?_
    refine j_sub [0, 1] rfl ?_
    exact B24 _ _ _ _ _ _ _ _ hc0 hn0 hT hw
  exact key mc ms 0 0 rfl rfl rfl rfl (Nat.zero_add _) (Nat.zero_add _)
theorem tq_242 : (Jvm.Cond.methodLink "java/util/Arrays" (86 : Nat) ({ cls := "java/lang/Object", name := "getClass", desc := "()Ljava/lang/Class;" } : Jvm.MethodName)) ∈ tw_G := tw_in (List.mem_of_getElem? (i := 505) (by decide +kernel)) rfl
theorem tq_243 : (Jvm.Cond.selects "[Ljava/lang/Object;" ({ cls := "java/lang/Object", name := "getClass", desc := "()Ljava/lang/Class;" } : Jvm.MethodName) ({ cls := "java/lang/Object", name := "getClass", desc := "()Ljava/lang/Class;" } : Jvm.MethodName)) ∈ tw_G := tw_in (List.mem_of_getElem? (i := 1470) (by decide +kernel)) rfl
theorem tq_244 : (Jvm.Cond.instanceMethod ({ cls := "java/lang/Object", name := "getClass", desc := "()Ljava/lang/Class;" } : Jvm.MethodName)) ∈ tw_G := tw_in (List.mem_of_getElem? (i := 506) (by decide +kernel)) rfl
theorem tq_245 : (Jvm.Cond.native ({ cls := "java/lang/Object", name := "getClass", desc := "()Ljava/lang/Class;" } : Jvm.MethodName)) ∈ tw_G := tw_in (List.mem_of_getElem? (i := 523) (by decide +kernel)) rfl
theorem tq_246 : (Jvm.Cond.methodLink "java/util/Arrays" (300 : Nat) ({ cls := "java/util/Arrays", name := "copyOf", desc := "([Ljava/lang/Object;ILjava/lang/Class;)[Ljava/lang/Object;" } : Jvm.MethodName)) ∈ tw_G := tw_in (List.mem_of_getElem? (i := 524) (by decide +kernel)) rfl
theorem tq_247 : (Jvm.Cond.static ({ cls := "java/util/Arrays", name := "copyOf", desc := "([Ljava/lang/Object;ILjava/lang/Class;)[Ljava/lang/Object;" } : Jvm.MethodName)) ∈ tw_G := tw_in (List.mem_of_getElem? (i := 525) (by decide +kernel)) rfl
theorem tq_248 : (Jvm.Cond.initialized "java/util/Arrays") ∈ tw_G := tw_in (List.mem_of_getElem? (i := 82) (by decide +kernel)) rfl
theorem tq_249 : (Jvm.Cond.code ({ cls := "java/util/Arrays", name := "copyOf", desc := "([Ljava/lang/Object;ILjava/lang/Class;)[Ljava/lang/Object;" } : Jvm.MethodName) prog_31_method_120_code (4 : Nat) (Option.some (Jvm.ClassFile.FieldType.array (Jvm.ClassFile.FieldType.object "java/lang/Object")))) ∈ tw_G := tw_in (List.mem_of_getElem? (i := 526) (by decide +kernel)) rfl
abbrev y_BAr_copyOf2 : MethodName := ⟨"java/util/Arrays", "copyOf", "([Ljava/lang/Object;I)[Ljava/lang/Object;"⟩
theorem q_BAr_copyOf2 : y_BAr_copyOf2.cls ≠ "java/lang/invoke/MethodHandle" ∧ y_BAr_copyOf2.cls ≠ "java/lang/invoke/VarHandle" ∧ (parseMethodDescriptor y_BAr_copyOf2.desc).map (fun d => d.parameters.length) = some 2 := by decide +kernel
theorem d_BAr_copyOf2_0 : decode prog_31_method_119_code 0 = .ok (.aload_n 0, 1) := by decide +kernel
theorem d_BAr_copyOf2_1 : decode prog_31_method_119_code 1 = .ok (.iload_n 1, 1) := by decide +kernel
theorem d_BAr_copyOf2_2 : decode prog_31_method_119_code 2 = .ok (.aload_n 0, 1) := by decide +kernel
theorem d_BAr_copyOf2_3 : decode prog_31_method_119_code 3 = .ok (.invokevirtual 86, 3) := by decide +kernel
theorem d_BAr_copyOf2_6 : decode prog_31_method_119_code 6 = .ok (.invokestatic 300, 3) := by decide +kernel
theorem d_BAr_copyOf2_9 : decode prog_31_method_119_code 9 = .ok (.areturn, 1) := by decide +kernel
def wp_BAr_copyOf2 (post : Nat → CS → Prop) (mc0 ms0 : Nat) (v0 : Nat) (v1 : Int) (T : CS) : Prop := tg T v0 = 13 ∧ (∃ mc_3 ms_4 mc_5 ms_6 : Nat, (mc0 = mc_3 + mc_5 ∧ ms0 = ms_4 + ms_6) ∧ wp_BAr_copyOf3 (fun r_2 T_1 => post r_2 T_1) mc_3 ms_4 v0 v1 T)
set_option maxHeartbeats 4000000 in
set_option maxRecDepth 100000 in
theorem c_BAr_copyOf2 (l : Launch) {D : va_G} {k : CK} {post : Nat → CS → Prop} {mc ms : Nat} {v0 : Nat} {v1 : Int} {T : CS} (hw : wp_BAr_copyOf2 post mc ms v0 v1 T) : jCr l D k y_BAr_copyOf2 prog_31_method_119_code 2 (some (.array (.object "java/lang/Object"))) 2 83 mc ms T [.ref v0, vi v1] post := by
  refine j_cor (Or.inr ⟨_, rfl⟩) (own := "java/util/Arrays") (by decide) rfl (Nat.le_of_ble_eq_true rfl) (fun X F K hT hret => ?_)
  unfold wp_BAr_copyOf2 at hw
  have key : ∀ (mc0 ms0 c0 n0 : Nat), mc0 = mc → ms0 = ms → c0 = 0 → n0 = 0 → c0 + mc0 = mc → n0 + ms0 = ms → jat l D X 2 0 [(0, .ref v0), (1, vi v1)] [] (cwd k T) c0 n0 := by
    intro mc0 ms0 c0 n0 hm1 hm2 hz1 hz2 hc0 hn0
    subst hm1; subst hm2
    clear hz1 hz2
    refine j_aload_n F 0 d_BAr_copyOf2_0 rfl ?_
    refine j_iload_n F 1 d_BAr_copyOf2_1 rfl ?_
    refine j_aload_n F 0 d_BAr_copyOf2_2 rfl ?_
    obtain ⟨hc1, hw⟩ := hw
    refine c_getC F K hT tq_242 tq_243 tq_244 tq_245 ⟨by decide, by decide⟩ (Nat.le_of_ble_eq_true rfl) hc1 d_BAr_copyOf2_3 ?_
    obtain ⟨mc_3, ms_4, mc_5, ms_6, ⟨he1, he2⟩, hw⟩ := hw
    refine c_callSr F K hT (c_BAr_copyOf3 l hw) (tw_gS tq_246 tq_247 tq_248 tq_249) q_BAr_copyOf3 rfl ⟨by decide, by decide⟩ ⟨rm_l hc0 he1, rm_l hn0 he2⟩ rfl (Nat.le_of_ble_eq_true rfl) d_BAr_copyOf2_6 (fun r_2 T_1 hw hT => ?_)
    have hc0 := rm_c hc0 he1
    have hn0 := rm_c hn0 he2
    exact hret _ _ _ _ _ _ hw hT (rm_y hc0) (rm_y hn0) d_BAr_copyOf2_9
  exact key mc ms 0 0 rfl rfl rfl rfl (Nat.zero_add _) (Nat.zero_add _)
theorem tq_250 : (Jvm.Cond.methodLink "java/util/Arrays" (316 : Nat) ({ cls := "[I", name := "clone", desc := "()Ljava/lang/Object;" } : Jvm.MethodName)) ∈ tw_G := tw_in (List.mem_of_getElem? (i := 733) (by decide +kernel)) rfl
theorem tq_251 : (Jvm.Cond.sameMethod "[I" "java/lang/Object" "clone" "()Ljava/lang/Object;") ∈ tw_G := tw_in (List.mem_of_getElem? (i := 734) (by decide +kernel)) rfl
theorem tq_252 : (Jvm.Cond.native ({ cls := "java/lang/Object", name := "clone", desc := "()Ljava/lang/Object;" } : Jvm.MethodName)) ∈ tw_G := tw_in (List.mem_of_getElem? (i := 735) (by decide +kernel)) rfl
theorem tq_253 : (Jvm.Cond.instanceMethod ({ cls := "java/lang/Object", name := "clone", desc := "()Ljava/lang/Object;" } : Jvm.MethodName)) ∈ tw_G := tw_in (List.mem_of_getElem? (i := 736) (by decide +kernel)) rfl
theorem tq_254 : (Jvm.Cond.selects "[I" ({ cls := "[I", name := "clone", desc := "()Ljava/lang/Object;" } : Jvm.MethodName) ({ cls := "java/lang/Object", name := "clone", desc := "()Ljava/lang/Object;" } : Jvm.MethodName)) ∈ tw_G := tw_in (List.mem_of_getElem? (i := 737) (by decide +kernel)) rfl
theorem tq_255 : (Jvm.Cond.classLink "java/util/Arrays" (317 : Nat) "[I") ∈ tw_G := tw_in (List.mem_of_getElem? (i := 739) (by decide +kernel)) rfl
abbrev y_BAr_copyOfI : MethodName := ⟨"java/util/Arrays", "copyOf", "([II)[I"⟩
theorem q_BAr_copyOfI : y_BAr_copyOfI.cls ≠ "java/lang/invoke/MethodHandle" ∧ y_BAr_copyOfI.cls ≠ "java/lang/invoke/VarHandle" ∧ (parseMethodDescriptor y_BAr_copyOfI.desc).map (fun d => d.parameters.length) = some 2 := by decide +kernel
theorem d_BAr_copyOfI_0 : decode prog_31_method_123_code 0 = .ok (.iload_n 1, 1) := by decide +kernel
theorem d_BAr_copyOfI_1 : decode prog_31_method_123_code 1 = .ok (.aload_n 0, 1) := by decide +kernel
theorem d_BAr_copyOfI_2 : decode prog_31_method_123_code 2 = .ok (.arraylength, 1) := by decide +kernel
theorem d_BAr_copyOfI_3 : decode prog_31_method_123_code 3 = .ok (.if_icmp .ne 11, 3) := by decide +kernel
theorem d_BAr_copyOfI_14 : decode prog_31_method_123_code 14 = .ok (.iload_n 1, 1) := by decide +kernel
theorem d_BAr_copyOfI_15 : decode prog_31_method_123_code 15 = .ok (.newarray .int, 2) := by decide +kernel
theorem d_BAr_copyOfI_17 : decode prog_31_method_123_code 17 = .ok (.astore_n 2, 1) := by decide +kernel
theorem d_BAr_copyOfI_18 : decode prog_31_method_123_code 18 = .ok (.aload_n 0, 1) := by decide +kernel
theorem d_BAr_copyOfI_19 : decode prog_31_method_123_code 19 = .ok (.iconst 0, 1) := by decide +kernel
theorem d_BAr_copyOfI_20 : decode prog_31_method_123_code 20 = .ok (.aload_n 2, 1) := by decide +kernel
theorem d_BAr_copyOfI_21 : decode prog_31_method_123_code 21 = .ok (.iconst 0, 1) := by decide +kernel
theorem d_BAr_copyOfI_22 : decode prog_31_method_123_code 22 = .ok (.aload_n 0, 1) := by decide +kernel
theorem d_BAr_copyOfI_23 : decode prog_31_method_123_code 23 = .ok (.arraylength, 1) := by decide +kernel
theorem d_BAr_copyOfI_24 : decode prog_31_method_123_code 24 = .ok (.iload_n 1, 1) := by decide +kernel
theorem d_BAr_copyOfI_25 : decode prog_31_method_123_code 25 = .ok (.invokestatic 304, 3) := by decide +kernel
theorem d_BAr_copyOfI_28 : decode prog_31_method_123_code 28 = .ok (.invokestatic 150, 3) := by decide +kernel
theorem d_BAr_copyOfI_31 : decode prog_31_method_123_code 31 = .ok (.aload_n 2, 1) := by decide +kernel
theorem d_BAr_copyOfI_32 : decode prog_31_method_123_code 32 = .ok (.areturn, 1) := by decide +kernel
theorem d_BAr_copyOfI_6 : decode prog_31_method_123_code 6 = .ok (.aload_n 0, 1) := by decide +kernel
theorem d_BAr_copyOfI_7 : decode prog_31_method_123_code 7 = .ok (.invokevirtual 316, 3) := by decide +kernel
theorem d_BAr_copyOfI_10 : decode prog_31_method_123_code 10 = .ok (.checkcast 317, 3) := by decide +kernel
theorem d_BAr_copyOfI_13 : decode prog_31_method_123_code 13 = .ok (.areturn, 1) := by decide +kernel
def wp_BAr_copyOfI (post : Nat → CS → Prop) (mc0 ms0 : Nat) (v0 : Nat) (v1 : Int) (T : CS) : Prop := tg T v0 = 11 ∧ (inR v1 ∧ inR (ln T v0 : Int) ∧ (¬ (v1 = (ln T v0 : Int)) → (((0 : Int) ≤ v1 ∧ (v1 : Int) ≤ 134217728) ∧ ∃ mc_3 ms_4 : Nat, (mc0 = 1 + mc_3 ∧ ms0 = v1.toNat + ms_4) ∧ (∀ (q_1 : Nat) (T_2 : CS), tg T q_1 = 0 → T_2 = cs_new T q_1 11 v1.toNat → tg T_2 v0 = 11 ∧ (wp_BMa_min (fun r_5 => tg T_2 q_1 = 11 ∧ tg T_2 v0 = 11 ∧ (((0 : Int) ≤ 0 ∧ (0 : Int) ≤ 0 ∧ (0 : Int) ≤ r_5) ∧ (0 : Int) + r_5 ≤ ln T_2 v0 ∧ (0 : Int) + r_5 ≤ ln T_2 q_1) ∧ ((∀ T_6 : CS, T_6 = cs_ci T_2 v0 q_1 0 0 r_5.toNat → post q_1 T_6))) (ln T_2 v0 : Int) v1)))) ∧ (v1 = (ln T v0 : Int) → (tg T v0 = 11 ∧ ∃ mc_9 ms_10 : Nat, (mc0 = 1 + mc_9 ∧ ms0 = (ln T v0) + ms_10) ∧ (∀ (q_7 : Nat) (T_8 : CS), tg T q_7 = 0 → T_8 = cs_cl T q_7 v0 → tg T_8 q_7 = 11 ∧ post q_7 T_8))))
set_option maxHeartbeats 4000000 in
set_option maxRecDepth 100000 in
theorem c_BAr_copyOfI (l : Launch) {D : va_G} {k : CK} {post : Nat → CS → Prop} {mc ms : Nat} {v0 : Nat} {v1 : Int} {T : CS} (hw : wp_BAr_copyOfI post mc ms v0 v1 T) : jCr l D k y_BAr_copyOfI prog_31_method_123_code 3 (some (.array .int)) 1 60 mc ms T [.ref v0, vi v1] post := by
  refine j_cor (Or.inr ⟨_, rfl⟩) (own := "java/util/Arrays") (by decide) rfl (Nat.le_of_ble_eq_true rfl) (fun X F K hT hret => ?_)
  unfold wp_BAr_copyOfI at hw
  have key : ∀ (mc0 ms0 c0 n0 : Nat), mc0 = mc → ms0 = ms → c0 = 0 → n0 = 0 → c0 + mc0 = mc → n0 + ms0 = ms → jat l D X 3 0 [(0, .ref v0), (1, vi v1)] [] (cwd k T) c0 n0 := by
    intro mc0 ms0 c0 n0 hm1 hm2 hz1 hz2 hc0 hn0
    subst hm1; subst hm2
    clear hz1 hz2
    refine j_iload_n F 1 d_BAr_copyOfI_0 rfl ?_
    refine j_aload_n F 0 d_BAr_copyOfI_1 rfl ?_
    obtain ⟨hc1, hw⟩ := hw
    refine c_alen11 F K hT hc1 d_BAr_copyOfI_2 ?_
    obtain ⟨hc1, hc2, hwt, hwf⟩ := hw
    refine j_icmp_ne F 14 hc1 hc2 d_BAr_copyOfI_3 rfl (fun hh => ?_) (fun hh => ?_)
    · have hw := hwt hh
      refine j_iload_n F 1 d_BAr_copyOfI_14 rfl ?_
      obtain ⟨hr0, mc_3, ms_4, ⟨he1, he2⟩, hw⟩ := hw
      refine c_newa11 F K hT tq_118 hr0 (rm_l hc0 he1) (rm_l hn0 he2) d_BAr_copyOfI_15 (fun q_1 T_2 e_q_1 e_T_2 hT => ?_)
      have hw := hw q_1 T_2 e_q_1 e_T_2
      have hc0 := rm_c hc0 he1
      have hn0 := rm_c hn0 he2
      refine j_astore_n F [(2, .ref q_1), (0, .ref v0), (1, vi v1)] d_BAr_copyOfI_17 (by decide) rfl ?_
      refine j_aload_n F 1 d_BAr_copyOfI_18 rfl ?_
      refine j_iconst F d_BAr_copyOfI_19 ?_
      refine j_aload_n F 0 d_BAr_copyOfI_20 rfl ?_
      refine j_iconst F d_BAr_copyOfI_21 ?_
      refine j_aload_n F 1 d_BAr_copyOfI_22 rfl ?_
      obtain ⟨hc1, hw⟩ := hw
      refine c_alen11 F K hT hc1 d_BAr_copyOfI_23 ?_
      refine j_iload_n F 2 d_BAr_copyOfI_24 rfl ?_
      refine j_callS F (c_BMa_min l hw) (tw_gS tq_237 tq_98 tq_99 tq_100) q_BMa_min rfl ⟨by decide, by decide⟩ ⟨rm_y hc0, rm_y hn0⟩ rfl (Nat.le_of_ble_eq_true rfl) d_BAr_copyOfI_25 (fun r_5 hw => ?_)
      obtain ⟨hc1, hc2, hc3, hw⟩ := hw
      refine c_copyi F K hT tq_238 tq_239 tq_240 tq_241 ⟨by decide, by decide⟩ (Nat.le_of_ble_eq_true rfl) hc1 hc2 hc3 d_BAr_copyOfI_28 (fun T_6 e_T_6 hT => ?_)
      have hw := hw T_6 e_T_6
      refine j_aload_n F 0 d_BAr_copyOfI_31 rfl ?_
      exact hret _ _ _ _ _ _ hw hT (rm_y hc0) (rm_y hn0) d_BAr_copyOfI_32
    · have hw := hwf hh
      refine j_aload_n F 0 d_BAr_copyOfI_6 rfl ?_
      obtain ⟨hc1, mc_9, ms_10, ⟨he1, he2⟩, hw⟩ := hw
      refine c_clone F K hT tq_250 tq_251 tq_252 tq_253 tq_254 hc1 ⟨by decide, by decide⟩ (Nat.le_of_ble_eq_true rfl) (rm_l hc0 he1) (rm_l hn0 he2) d_BAr_copyOfI_7 (fun q_7 T_8 e_q_7 e_T_8 hT => ?_)
      have hw := hw q_7 T_8 e_q_7 e_T_8
      have hc0 := rm_c hc0 he1
      have hn0 := rm_c hn0 he2
      obtain ⟨hc1, hw⟩ := hw
      refine c_castA F K hT tq_255 hc1 d_BAr_copyOfI_10 ?_
      exact hret _ _ _ _ _ _ hw hT (rm_y hc0) (rm_y hn0) d_BAr_copyOfI_13
  exact key mc ms 0 0 rfl rfl rfl rfl (Nat.zero_add _) (Nat.zero_add _)
theorem tq_256 : (Jvm.Cond.fieldLink "java/util/ArrayList" (39 : Nat) "java/util/ArrayList" "DEFAULTCAPACITY_EMPTY_ELEMENTDATA" "[Ljava/lang/Object;") ∈ tw_G := tw_in (List.mem_of_getElem? (i := 178) (by decide +kernel)) rfl
theorem tq_257 : (Jvm.Cond.methodLink "java/util/ArrayList" (79 : Nat) ({ cls := "java/lang/Math", name := "max", desc := "(II)I" } : Jvm.MethodName)) ∈ tw_G := tw_in (List.mem_of_getElem? (i := 534) (by decide +kernel)) rfl
theorem tq_258 : (Jvm.Cond.classLink "java/util/ArrayList" (7 : Nat) "java/lang/Object") ∈ tw_G := tw_in (List.mem_of_getElem? (i := 535) (by decide +kernel)) rfl
theorem tq_259 : (Jvm.Cond.methodLink "java/util/ArrayList" (73 : Nat) ({ cls := "jdk/internal/util/ArraysSupport", name := "newLength", desc := "(III)I" } : Jvm.MethodName)) ∈ tw_G := tw_in (List.mem_of_getElem? (i := 494) (by decide +kernel)) rfl
theorem tq_260 : (Jvm.Cond.static ({ cls := "jdk/internal/util/ArraysSupport", name := "newLength", desc := "(III)I" } : Jvm.MethodName)) ∈ tw_G := tw_in (List.mem_of_getElem? (i := 495) (by decide +kernel)) rfl
theorem tq_261 : (Jvm.Cond.initialized "jdk/internal/util/ArraysSupport") ∈ tw_G := tw_in (List.mem_of_getElem? (i := 81) (by decide +kernel)) rfl
theorem tq_262 : (Jvm.Cond.code ({ cls := "jdk/internal/util/ArraysSupport", name := "newLength", desc := "(III)I" } : Jvm.MethodName) prog_37_method_27_code (4 : Nat) (Option.some Jvm.ClassFile.FieldType.int)) ∈ tw_G := tw_in (List.mem_of_getElem? (i := 496) (by decide +kernel)) rfl
theorem tq_263 : (Jvm.Cond.methodLink "java/util/ArrayList" (66 : Nat) ({ cls := "java/util/Arrays", name := "copyOf", desc := "([Ljava/lang/Object;I)[Ljava/lang/Object;" } : Jvm.MethodName)) ∈ tw_G := tw_in (List.mem_of_getElem? (i := 502) (by decide +kernel)) rfl
theorem tq_264 : (Jvm.Cond.static ({ cls := "java/util/Arrays", name := "copyOf", desc := "([Ljava/lang/Object;I)[Ljava/lang/Object;" } : Jvm.MethodName)) ∈ tw_G := tw_in (List.mem_of_getElem? (i := 503) (by decide +kernel)) rfl
theorem tq_265 : (Jvm.Cond.code ({ cls := "java/util/Arrays", name := "copyOf", desc := "([Ljava/lang/Object;I)[Ljava/lang/Object;" } : Jvm.MethodName) prog_31_method_119_code (2 : Nat) (Option.some (Jvm.ClassFile.FieldType.array (Jvm.ClassFile.FieldType.object "java/lang/Object")))) ∈ tw_G := tw_in (List.mem_of_getElem? (i := 504) (by decide +kernel)) rfl
abbrev y_BAL_grow1 : MethodName := ⟨"java/util/ArrayList", "grow", "(I)[Ljava/lang/Object;"⟩
theorem q_BAL_grow1 : y_BAL_grow1.cls = "java/util/ArrayList" ∧ y_BAL_grow1.cls ≠ "java/lang/invoke/MethodHandle" ∧ y_BAL_grow1.cls ≠ "java/lang/invoke/VarHandle" ∧ (parseMethodDescriptor y_BAL_grow1.desc).map (fun d => d.parameters.length) = some 1 := by decide +kernel
theorem d_BAL_grow1_0 : decode prog_30_method_6_code 0 = .ok (.aload_n 0, 1) := by decide +kernel
theorem d_BAL_grow1_1 : decode prog_30_method_6_code 1 = .ok (.getfield 9, 3) := by decide +kernel
theorem d_BAL_grow1_4 : decode prog_30_method_6_code 4 = .ok (.arraylength, 1) := by decide +kernel
theorem d_BAL_grow1_5 : decode prog_30_method_6_code 5 = .ok (.istore_n 2, 1) := by decide +kernel
theorem d_BAL_grow1_6 : decode prog_30_method_6_code 6 = .ok (.iload_n 2, 1) := by decide +kernel
theorem d_BAL_grow1_7 : decode prog_30_method_6_code 7 = .ok (.ifCond .gt 13, 3) := by decide +kernel
theorem d_BAL_grow1_10 : decode prog_30_method_6_code 10 = .ok (.aload_n 0, 1) := by decide +kernel
theorem d_BAL_grow1_11 : decode prog_30_method_6_code 11 = .ok (.getfield 9, 3) := by decide +kernel
theorem d_BAL_grow1_14 : decode prog_30_method_6_code 14 = .ok (.getstatic 39, 3) := by decide +kernel
theorem d_BAL_grow1_17 : decode prog_30_method_6_code 17 = .ok (.if_acmp .eq 28, 3) := by decide +kernel
theorem d_BAL_grow1_45 : decode prog_30_method_6_code 45 = .ok (.aload_n 0, 1) := by decide +kernel
theorem d_BAL_grow1_46 : decode prog_30_method_6_code 46 = .ok (.bipush 10, 2) := by decide +kernel
theorem d_BAL_grow1_48 : decode prog_30_method_6_code 48 = .ok (.iload_n 1, 1) := by decide +kernel
theorem d_BAL_grow1_49 : decode prog_30_method_6_code 49 = .ok (.invokestatic 79, 3) := by decide +kernel
theorem d_BAL_grow1_52 : decode prog_30_method_6_code 52 = .ok (.anewarray 7, 3) := by decide +kernel
theorem d_BAL_grow1_55 : decode prog_30_method_6_code 55 = .ok (.dup_x1, 1) := by decide +kernel
theorem d_BAL_grow1_56 : decode prog_30_method_6_code 56 = .ok (.putfield 9, 3) := by decide +kernel
theorem d_BAL_grow1_59 : decode prog_30_method_6_code 59 = .ok (.areturn, 1) := by decide +kernel
theorem d_BAL_grow1_20 : decode prog_30_method_6_code 20 = .ok (.iload_n 2, 1) := by decide +kernel
theorem d_BAL_grow1_21 : decode prog_30_method_6_code 21 = .ok (.iload_n 1, 1) := by decide +kernel
theorem d_BAL_grow1_22 : decode prog_30_method_6_code 22 = .ok (.iload_n 2, 1) := by decide +kernel
theorem d_BAL_grow1_23 : decode prog_30_method_6_code 23 = .ok (.isub, 1) := by decide +kernel
theorem d_BAL_grow1_24 : decode prog_30_method_6_code 24 = .ok (.iload_n 2, 1) := by decide +kernel
theorem d_BAL_grow1_25 : decode prog_30_method_6_code 25 = .ok (.iconst 1, 1) := by decide +kernel
theorem d_BAL_grow1_26 : decode prog_30_method_6_code 26 = .ok (.ishr, 1) := by decide +kernel
theorem d_BAL_grow1_27 : decode prog_30_method_6_code 27 = .ok (.invokestatic 73, 3) := by decide +kernel
theorem d_BAL_grow1_30 : decode prog_30_method_6_code 30 = .ok (.istore_n 3, 1) := by decide +kernel
theorem d_BAL_grow1_31 : decode prog_30_method_6_code 31 = .ok (.aload_n 0, 1) := by decide +kernel
theorem d_BAL_grow1_32 : decode prog_30_method_6_code 32 = .ok (.aload_n 0, 1) := by decide +kernel
theorem d_BAL_grow1_33 : decode prog_30_method_6_code 33 = .ok (.getfield 9, 3) := by decide +kernel
theorem d_BAL_grow1_36 : decode prog_30_method_6_code 36 = .ok (.iload_n 3, 1) := by decide +kernel
theorem d_BAL_grow1_37 : decode prog_30_method_6_code 37 = .ok (.invokestatic 66, 3) := by decide +kernel
theorem d_BAL_grow1_40 : decode prog_30_method_6_code 40 = .ok (.dup_x1, 1) := by decide +kernel
theorem d_BAL_grow1_41 : decode prog_30_method_6_code 41 = .ok (.putfield 9, 3) := by decide +kernel
theorem d_BAL_grow1_44 : decode prog_30_method_6_code 44 = .ok (.areturn, 1) := by decide +kernel
def wp_BAL_grow1_20 (post : Nat → CS → Prop) (mc0 : Nat) (ms0 : Nat) (v0 : Nat) (v1 : Int) (v2 : Int) (T : CS) : Prop := (0 ≤ v2 ∧ v2 ≤ 2147483647) ∧ (wp_BAS_newLength (fun r_1 => tg T v0 = 7 ∧ ∃ q_2 : Nat, fo T v0 0 = some q_2 ∧ (∃ mc_5 ms_6 mc_7 ms_8 : Nat, (mc0 = mc_5 + mc_7 ∧ ms0 = ms_6 + ms_8) ∧ wp_BAr_copyOf2 (fun r_4 T_3 => tg T_3 v0 = 7 ∧ ((∀ T_9 : CS, T_9 = cs_o T_3 v0 0 (some r_4) → post r_4 T_9))) mc_5 ms_6 q_2 r_1 T)) v2 (v1 - v2) (v2 / 2))
def wp_BAL_grow1 (post : Nat → CS → Prop) (mc0 ms0 : Nat) (v0 : Nat) (v1 : Int) (T : CS) : Prop := tg T v0 = 7 ∧ ∃ q_1 : Nat, fo T v0 0 = some q_1 ∧ ((tg T q_1 = 13 ∨ tg T q_1 = 20) ∧ (∀ v2_2 : Int, v2_2 = (ln T q_1 : Int) → inR v2_2 ∧ (0 < v2_2 → wp_BAL_grow1_20 post mc0 ms0 v0 v1 v2_2 T) ∧ (¬ (0 < v2_2) → (tg T v0 = 7 ∧ ∃ q_3 : Nat, fo T v0 0 = some q_3 ∧ ((∀ q_4 : Nat, tg T q_4 = 20 → (q_3 = q_4 → (wp_BMa_max (fun r_5 => ((0 : Int) ≤ r_5 ∧ (r_5 : Int) ≤ 134217728) ∧ ∃ mc_8 ms_9 : Nat, (mc0 = 1 + mc_8 ∧ ms0 = r_5.toNat + ms_9) ∧ (∀ (q_6 : Nat) (T_7 : CS), tg T q_6 = 0 → T_7 = cs_new T q_6 13 r_5.toNat → tg T_7 v0 = 7 ∧ ((∀ T_10 : CS, T_10 = cs_o T_7 v0 0 (some q_6) → post q_6 T_10)))) 10 v1)) ∧ (¬ (q_3 = q_4) → wp_BAL_grow1_20 post mc0 ms0 v0 v1 v2_2 T)))))))
set_option maxHeartbeats 4000000 in
set_option maxRecDepth 100000 in
theorem c_BAL_grow1 (l : Launch) {D : va_G} {k : CK} {post : Nat → CS → Prop} {mc ms : Nat} {v0 : Nat} {v1 : Int} {T : CS} (hw : wp_BAL_grow1 post mc ms v0 v1 T) : jCr l D k y_BAL_grow1 prog_30_method_6_code 4 (some (.array (.object "java/lang/Object"))) 3 104 mc ms T [.ref v0, vi v1] post := by
  refine j_cor (Or.inr ⟨_, rfl⟩) (own := "java/util/ArrayList") (by decide) rfl (Nat.le_of_ble_eq_true rfl) (fun X F K hT hret => ?_)
  have B20 : ∀ (mc0 : Nat) (ms0 : Nat) (v0 : Nat) (v1 : Int) (v2 : Int) (T : CS) (c0 n0 : Nat), c0 + mc0 = mc → n0 + ms0 = ms → cs_ok k T → wp_BAL_grow1_20 post mc0 ms0 v0 v1 v2 T → jat l D X 4 20 [(0, .ref v0), (1, vi v1), (2, vi v2)] [] (cwd k T) c0 n0 := by
    intro mc0 ms0 v0 v1 v2 T c0 n0 hc0 hn0 hT hw
    unfold wp_BAL_grow1_20 at hw
    refine j_iload_n F 2 d_BAL_grow1_20 rfl ?_
    refine j_iload_n F 1 d_BAL_grow1_21 rfl ?_
    refine j_iload_n F 2 d_BAL_grow1_22 rfl ?_
    refine j_isub F d_BAL_grow1_23 ?_
    refine j_iload_n F 2 d_BAL_grow1_24 rfl ?_
    refine j_iconst F d_BAL_grow1_25 ?_
    obtain ⟨hc1, hw⟩ := hw
    refine j_ishr1 F hc1 d_BAL_grow1_26 ?_
    refine j_callS F (c_BAS_newLength l hw) (tw_gS tq_259 tq_260 tq_261 tq_262) q_BAS_newLength rfl ⟨by decide, by decide⟩ ⟨rm_y hc0, rm_y hn0⟩ rfl (Nat.le_of_ble_eq_true rfl) d_BAL_grow1_27 (fun r_1 hw => ?_)
    refine j_istore_n F [(3, vi r_1), (0, .ref v0), (1, vi v1), (2, vi v2)] d_BAL_grow1_30 (by decide) rfl ?_
    refine j_aload_n F 1 d_BAL_grow1_31 rfl ?_
    refine j_aload_n F 1 d_BAL_grow1_32 rfl ?_
    obtain ⟨hc1, q_2, hc2, hw⟩ := hw
    refine c_getr F K hT 7 0 rfl tu_ArrayList (by decide) (by decide) rfl tq_225 (Or.inl rfl) hc1 hc2 d_BAL_grow1_33 ?_
    refine j_iload_n F 0 d_BAL_grow1_36 rfl ?_
    obtain ⟨mc_5, ms_6, mc_7, ms_8, ⟨he1, he2⟩, hw⟩ := hw
    refine c_callSr F K hT (c_BAr_copyOf2 l hw) (tw_gS tq_263 tq_264 tq_248 tq_265) q_BAr_copyOf2 rfl ⟨by decide, by decide⟩ ⟨rm_l hc0 he1, rm_l hn0 he2⟩ rfl (Nat.le_of_ble_eq_true rfl) d_BAL_grow1_37 (fun r_4 T_3 hw hT => ?_)
    have hc0 := rm_c hc0 he1
    have hn0 := rm_c hn0 he2
    refine j_dup_x1 F rfl rfl d_BAL_grow1_40 ?_
    obtain ⟨hc1, hw⟩ := hw
    refine c_putr F K hT 7 0 rfl tu_ArrayList (by decide) (by decide) rfl tq_225 (Or.inl rfl) t_ArrayList t_ArrayList_ok n_ArrayList rfl (ty := .array (.object "java/lang/Object")) (by decide +kernel) rfl rfl hc1 d_BAL_grow1_41 (fun T_9 e_T_9 hT => ?_)
    have hw := hw T_9 e_T_9
    exact hret _ _ _ _ _ _ hw hT (rm_y hc0) (rm_y hn0) d_BAL_grow1_44
  unfold wp_BAL_grow1 at hw
  have key : ∀ (mc0 ms0 c0 n0 : Nat), mc0 = mc → ms0 = ms → c0 = 0 → n0 = 0 → c0 + mc0 = mc → n0 + ms0 = ms → jat l D X 4 0 [(0, .ref v0), (1, vi v1)] [] (cwd k T) c0 n0 := by
    intro mc0 ms0 c0 n0 hm1 hm2 hz1 hz2 hc0 hn0
    subst hm1; subst hm2
    clear hz1 hz2
    refine j_aload_n F 0 d_BAL_grow1_0 rfl ?_
    obtain ⟨hc1, q_1, hc2, hw⟩ := hw
    refine c_getr F K hT 7 0 rfl tu_ArrayList (by decide) (by decide) rfl tq_225 (Or.inl rfl) hc1 hc2 d_BAL_grow1_1 ?_
    obtain ⟨hc1, hw⟩ := hw
    refine c_alen20 F K hT hc1 d_BAL_grow1_4 ?_
    refine j_nmi (fun v2_2 e_v2_2 => ?_)
    have hw := hw v2_2 e_v2_2
    refine j_istore_n F [(2, vi v2_2), (0, .ref v0), (1, vi v1)] d_BAL_grow1_5 (by decide) rfl ?_
    refine j_iload_n F 0 d_BAL_grow1_6 rfl ?_
    obtain ⟨hc1, hwt, hwf⟩ := hw
    refine j_if_gt F 20 hc1 d_BAL_grow1_7 rfl (fun hh => ?_) (fun hh => ?_)
    · have hw := hwt hh
      refine j_sub [1, 2, 0] rfl ?_
      exact B20 _ _ _ _ _ _ _ _ hc0 hn0 hT hw
    · have hw := hwf hh
      refine j_aload_n F 1 d_BAL_grow1_10 rfl ?_
      obtain ⟨hc1, q_3, hc2, hw⟩ := hw
      refine c_getr F K hT 7 0 rfl tu_ArrayList (by decide) (by decide) rfl tq_225 (Or.inl rfl) hc1 hc2 d_BAL_grow1_11 ?_
      refine c_gets F K hT tq_256 d_BAL_grow1_14 (fun q_4 e_q_4 => ?_)
      have hw := hw q_4 e_q_4
      obtain ⟨hwt, hwf⟩ := hw
      refine c_acmp_eq F 45 d_BAL_grow1_17 rfl (fun hh => ?_) (fun hh => ?_)
      · have hw := hwt hh
        refine j_aload_n F 1 d_BAL_grow1_45 rfl ?_
        refine j_bipush F d_BAL_grow1_46 (j_bip (by decide) (by decide)) ?_
        refine j_iload_n F 2 d_BAL_grow1_48 rfl ?_
        refine j_callS F (c_BMa_max l hw) (tw_gS tq_257 tq_102 tq_99 tq_103) q_BMa_max rfl ⟨by decide, by decide⟩ ⟨rm_y hc0, rm_y hn0⟩ rfl (Nat.le_of_ble_eq_true rfl) d_BAL_grow1_49 (fun r_5 hw => ?_)
        obtain ⟨hr0, mc_8, ms_9, ⟨he1, he2⟩, hw⟩ := hw
        refine c_newa13 F K hT tq_258 hr0 (rm_l hc0 he1) (rm_l hn0 he2) d_BAL_grow1_52 (fun q_6 T_7 e_q_6 e_T_7 hT => ?_)
        have hw := hw q_6 T_7 e_q_6 e_T_7
        have hc0 := rm_c hc0 he1
        have hn0 := rm_c hn0 he2
        refine j_dup_x1 F rfl rfl d_BAL_grow1_55 ?_
        obtain ⟨hc1, hw⟩ := hw
        refine c_putr F K hT 7 0 rfl tu_ArrayList (by decide) (by decide) rfl tq_225 (Or.inl rfl) t_ArrayList t_ArrayList_ok n_ArrayList rfl (ty := .array (.object "java/lang/Object")) (by decide +kernel) rfl rfl hc1 d_BAL_grow1_56 (fun T_10 e_T_10 hT => ?_)
        have hw := hw T_10 e_T_10
        exact hret _ _ _ _ _ _ hw hT (rm_y hc0) (rm_y hn0) d_BAL_grow1_59
      · have hw := hwf hh
        refine j_sub [1, 2, 0] rfl ?_
        exact B20 _ _ _ _ _ _ _ _ hc0 hn0 hT hw
  exact key mc ms 0 0 rfl rfl rfl rfl (Nat.zero_add _) (Nat.zero_add _)
theorem tq_266 : (Jvm.Cond.methodLink "java/util/ArrayList" (69 : Nat) ({ cls := "java/util/ArrayList", name := "grow", desc := "(I)[Ljava/lang/Object;" } : Jvm.MethodName)) ∈ tw_G := tw_in (List.mem_of_getElem? (i := 490) (by decide +kernel)) rfl
theorem tq_267 : (Jvm.Cond.instanceMethod ({ cls := "java/util/ArrayList", name := "grow", desc := "(I)[Ljava/lang/Object;" } : Jvm.MethodName)) ∈ tw_G := tw_in (List.mem_of_getElem? (i := 492) (by decide +kernel)) rfl
theorem tq_268 : (Jvm.Cond.selects "java/util/ArrayList" ⟨"java/util/ArrayList", "grow", "(I)[Ljava/lang/Object;"⟩ ⟨"java/util/ArrayList", "grow", "(I)[Ljava/lang/Object;"⟩) ∈ tw_G := tw_in (List.mem_of_getElem? (i := 4) (by decide +kernel)) rfl
theorem tq_269 : (Jvm.Cond.code ({ cls := "java/util/ArrayList", name := "grow", desc := "(I)[Ljava/lang/Object;" } : Jvm.MethodName) prog_30_method_6_code (4 : Nat) (Option.some (Jvm.ClassFile.FieldType.array (Jvm.ClassFile.FieldType.object "java/lang/Object")))) ∈ tw_G := tw_in (List.mem_of_getElem? (i := 493) (by decide +kernel)) rfl
abbrev y_BAL_grow : MethodName := ⟨"java/util/ArrayList", "grow", "()[Ljava/lang/Object;"⟩
theorem q_BAL_grow : y_BAL_grow.cls = "java/util/ArrayList" ∧ y_BAL_grow.cls ≠ "java/lang/invoke/MethodHandle" ∧ y_BAL_grow.cls ≠ "java/lang/invoke/VarHandle" ∧ (parseMethodDescriptor y_BAL_grow.desc).map (fun d => d.parameters.length) = some 0 := by decide +kernel
theorem d_BAL_grow_0 : decode prog_30_method_7_code 0 = .ok (.aload_n 0, 1) := by decide +kernel
theorem d_BAL_grow_1 : decode prog_30_method_7_code 1 = .ok (.aload_n 0, 1) := by decide +kernel
theorem d_BAL_grow_2 : decode prog_30_method_7_code 2 = .ok (.getfield 48, 3) := by decide +kernel
theorem d_BAL_grow_5 : decode prog_30_method_7_code 5 = .ok (.iconst 1, 1) := by decide +kernel
theorem d_BAL_grow_6 : decode prog_30_method_7_code 6 = .ok (.iadd, 1) := by decide +kernel
theorem d_BAL_grow_7 : decode prog_30_method_7_code 7 = .ok (.invokevirtual 69, 3) := by decide +kernel
theorem d_BAL_grow_10 : decode prog_30_method_7_code 10 = .ok (.areturn, 1) := by decide +kernel
def wp_BAL_grow (post : Nat → CS → Prop) (mc0 ms0 : Nat) (v0 : Nat) (T : CS) : Prop := tg T v0 = 7 ∧ (∃ mc_3 ms_4 mc_5 ms_6 : Nat, (mc0 = mc_3 + mc_5 ∧ ms0 = ms_4 + ms_6) ∧ tg T v0 = 7 ∧ wp_BAL_grow1 (fun r_2 T_1 => post r_2 T_1) mc_3 ms_4 v0 ((fi T v0 1) + 1) T)
set_option maxHeartbeats 4000000 in
set_option maxRecDepth 100000 in
theorem c_BAL_grow (l : Launch) {D : va_G} {k : CK} {post : Nat → CS → Prop} {mc ms : Nat} {v0 : Nat} {T : CS} (hw : wp_BAL_grow post mc ms v0 T) : jCr l D k y_BAL_grow prog_30_method_7_code 1 (some (.array (.object "java/lang/Object"))) 4 127 mc ms T [.ref v0] post := by
  refine j_cor (Or.inr ⟨_, rfl⟩) (own := "java/util/ArrayList") (by decide) rfl (Nat.le_of_ble_eq_true rfl) (fun X F K hT hret => ?_)
  unfold wp_BAL_grow at hw
  have key : ∀ (mc0 ms0 c0 n0 : Nat), mc0 = mc → ms0 = ms → c0 = 0 → n0 = 0 → c0 + mc0 = mc → n0 + ms0 = ms → jat l D X 1 0 [(0, .ref v0)] [] (cwd k T) c0 n0 := by
    intro mc0 ms0 c0 n0 hm1 hm2 hz1 hz2 hc0 hn0
    subst hm1; subst hm2
    clear hz1 hz2
    refine j_aload_n F 0 d_BAL_grow_0 rfl ?_
    refine j_aload_n F 0 d_BAL_grow_1 rfl ?_
    obtain ⟨hc1, hw⟩ := hw
    refine c_geti F K hT 7 1 rfl tu_ArrayList (by decide) (by decide) rfl tq_224 (Or.inl rfl) hc1 d_BAL_grow_2 ?_
    refine j_iconst F d_BAL_grow_5 ?_
    refine j_iadd F d_BAL_grow_6 ?_
    obtain ⟨mc_3, ms_4, mc_5, ms_6, ⟨he1, he2⟩, hw⟩ := hw
    obtain ⟨hg1, hw⟩ := hw
    refine c_callVr F K hT (c_BAL_grow1 l hw) (tw_gV tq_266 tq_267 tq_268 tq_233 tq_269) 7 rfl (by decide) hg1 q_BAL_grow1 rfl ⟨by decide, by decide⟩ ⟨rm_l hc0 he1, rm_l hn0 he2⟩ rfl (Nat.le_of_ble_eq_true rfl) d_BAL_grow_7 (fun r_2 T_1 hw hT => ?_)
    have hc0 := rm_c hc0 he1
    have hn0 := rm_c hn0 he2
    exact hret _ _ _ _ _ _ hw hT (rm_y hc0) (rm_y hn0) d_BAL_grow_10
  exact key mc ms 0 0 rfl rfl rfl rfl (Nat.zero_add _) (Nat.zero_add _)
theorem tq_270 : (Jvm.Cond.methodLink "java/util/ArrayList" (129 : Nat) ({ cls := "java/util/ArrayList", name := "grow", desc := "()[Ljava/lang/Object;" } : Jvm.MethodName)) ∈ tw_G := tw_in (List.mem_of_getElem? (i := 486) (by decide +kernel)) rfl
theorem tq_271 : (Jvm.Cond.instanceMethod ({ cls := "java/util/ArrayList", name := "grow", desc := "()[Ljava/lang/Object;" } : Jvm.MethodName)) ∈ tw_G := tw_in (List.mem_of_getElem? (i := 488) (by decide +kernel)) rfl
theorem tq_272 : (Jvm.Cond.selects "java/util/ArrayList" ⟨"java/util/ArrayList", "grow", "()[Ljava/lang/Object;"⟩ ⟨"java/util/ArrayList", "grow", "()[Ljava/lang/Object;"⟩) ∈ tw_G := tw_in (List.mem_of_getElem? (i := 3) (by decide +kernel)) rfl
theorem tq_273 : (Jvm.Cond.code ({ cls := "java/util/ArrayList", name := "grow", desc := "()[Ljava/lang/Object;" } : Jvm.MethodName) prog_30_method_7_code (1 : Nat) (Option.some (Jvm.ClassFile.FieldType.array (Jvm.ClassFile.FieldType.object "java/lang/Object")))) ∈ tw_G := tw_in (List.mem_of_getElem? (i := 489) (by decide +kernel)) rfl
abbrev y_BAL_add3 : MethodName := ⟨"java/util/ArrayList", "add", "(Ljava/lang/Object;[Ljava/lang/Object;I)V"⟩
theorem q_BAL_add3 : y_BAL_add3.cls = "java/util/ArrayList" ∧ y_BAL_add3.cls ≠ "java/lang/invoke/MethodHandle" ∧ y_BAL_add3.cls ≠ "java/lang/invoke/VarHandle" ∧ (parseMethodDescriptor y_BAL_add3.desc).map (fun d => d.parameters.length) = some 3 := by decide +kernel
theorem d_BAL_add3_0 : decode prog_30_method_24_code 0 = .ok (.iload_n 3, 1) := by decide +kernel
theorem d_BAL_add3_1 : decode prog_30_method_24_code 1 = .ok (.aload_n 2, 1) := by decide +kernel
theorem d_BAL_add3_2 : decode prog_30_method_24_code 2 = .ok (.arraylength, 1) := by decide +kernel
theorem d_BAL_add3_3 : decode prog_30_method_24_code 3 = .ok (.if_icmp .ne 8, 3) := by decide +kernel
theorem d_BAL_add3_6 : decode prog_30_method_24_code 6 = .ok (.aload_n 0, 1) := by decide +kernel
theorem d_BAL_add3_7 : decode prog_30_method_24_code 7 = .ok (.invokevirtual 129, 3) := by decide +kernel
theorem d_BAL_add3_10 : decode prog_30_method_24_code 10 = .ok (.astore_n 2, 1) := by decide +kernel
theorem d_BAL_add3_11 : decode prog_30_method_24_code 11 = .ok (.aload_n 2, 1) := by decide +kernel
theorem d_BAL_add3_12 : decode prog_30_method_24_code 12 = .ok (.iload_n 3, 1) := by decide +kernel
theorem d_BAL_add3_13 : decode prog_30_method_24_code 13 = .ok (.aload_n 1, 1) := by decide +kernel
theorem d_BAL_add3_14 : decode prog_30_method_24_code 14 = .ok (.aastore, 1) := by decide +kernel
theorem d_BAL_add3_15 : decode prog_30_method_24_code 15 = .ok (.aload_n 0, 1) := by decide +kernel
theorem d_BAL_add3_16 : decode prog_30_method_24_code 16 = .ok (.iload_n 3, 1) := by decide +kernel
theorem d_BAL_add3_17 : decode prog_30_method_24_code 17 = .ok (.iconst 1, 1) := by decide +kernel
theorem d_BAL_add3_18 : decode prog_30_method_24_code 18 = .ok (.iadd, 1) := by decide +kernel
theorem d_BAL_add3_19 : decode prog_30_method_24_code 19 = .ok (.putfield 48, 3) := by decide +kernel
theorem d_BAL_add3_22 : decode prog_30_method_24_code 22 = .ok (.return_, 1) := by decide +kernel
def wp_BAL_add3_11 (post : CS → Prop) (mc0 : Nat) (ms0 : Nat) (v0 : Nat) (v1 : Nat) (v2 : Nat) (v3 : Int) (T : CS) : Prop := tg T v2 = 13 ∧ ixR v3 (ln T v2) ∧ (tg T v1 = 8 ∨ tg T v1 = 9 ∨ tg T v1 = 10) ∧ ((∀ T_1 : CS, T_1 = cs_o T v2 v3.toNat (some v1) → tg T_1 v0 = 7 ∧ ((∀ T_2 : CS, T_2 = cs_i T_1 v0 1 (v3 + 1) → post T_2))))
def wp_BAL_add3 (post : CS → Prop) (mc0 ms0 : Nat) (v0 : Nat) (v1 : Nat) (v2 : Nat) (v3 : Int) (T : CS) : Prop := (tg T v2 = 13 ∨ tg T v2 = 20) ∧ (inR v3 ∧ inR (ln T v2 : Int) ∧ (¬ (v3 = (ln T v2 : Int)) → wp_BAL_add3_11 post mc0 ms0 v0 v1 v2 v3 T) ∧ (v3 = (ln T v2 : Int) → (∃ mc_3 ms_4 mc_5 ms_6 : Nat, (mc0 = mc_3 + mc_5 ∧ ms0 = ms_4 + ms_6) ∧ tg T v0 = 7 ∧ wp_BAL_grow (fun r_2 T_1 => wp_BAL_add3_11 post mc_5 ms_6 v0 v1 r_2 v3 T_1) mc_3 ms_4 v0 T)))
set_option maxHeartbeats 4000000 in
set_option maxRecDepth 100000 in
theorem c_BAL_add3 (l : Launch) {D : va_G} {k : CK} {post : CS → Prop} {mc ms : Nat} {v0 : Nat} {v1 : Nat} {v2 : Nat} {v3 : Int} {T : CS} (hw : wp_BAL_add3 post mc ms v0 v1 v2 v3 T) : jCv l D k y_BAL_add3 prog_30_method_24_code 4 none 5 147 mc ms T [.ref v0, .ref v1, .ref v2, vi v3] post := by
  refine j_cov (own := "java/util/ArrayList") (by decide) rfl (Nat.le_of_ble_eq_true rfl) (fun X F K hT hret => ?_)
  have B11 : ∀ (mc0 : Nat) (ms0 : Nat) (v0 : Nat) (v1 : Nat) (v2 : Nat) (v3 : Int) (T : CS) (c0 n0 : Nat), c0 + mc0 = mc → n0 + ms0 = ms → cs_ok k T → wp_BAL_add3_11 post mc0 ms0 v0 v1 v2 v3 T → jat l D X 4 11 [(0, .ref v0), (1, .ref v1), (2, .ref v2), (3, vi v3)] [] (cwd k T) c0 n0 := by
    intro mc0 ms0 v0 v1 v2 v3 T c0 n0 hc0 hn0 hT hw
    unfold wp_BAL_add3_11 at hw
    refine j_aload_n F 2 d_BAL_add3_11 rfl ?_
    refine j_iload_n F 3 d_BAL_add3_12 rfl ?_
    refine j_aload_n F 1 d_BAL_add3_13 rfl ?_
    obtain ⟨hc1, hc2, hc3, hw⟩ := hw
    refine c_aast13x F K hT hc1 hc2 hc3 d_BAL_add3_14 (fun T_1 e_T_1 hT => ?_)
    have hw := hw T_1 e_T_1
    refine j_aload_n F 0 d_BAL_add3_15 rfl ?_
    refine j_iload_n F 3 d_BAL_add3_16 rfl ?_
    refine j_iconst F d_BAL_add3_17 ?_
    refine j_iadd F d_BAL_add3_18 ?_
    obtain ⟨hc1, hw⟩ := hw
    refine c_puti F K hT 7 1 rfl tu_ArrayList (by decide) (by decide) rfl tq_224 (Or.inl rfl) t_ArrayList t_ArrayList_ok n_ArrayList rfl (ty := .int) (by decide +kernel) rfl rfl hc1 d_BAL_add3_19 (fun T_2 e_T_2 hT => ?_)
    have hw := hw T_2 e_T_2
    exact hret _ _ _ _ _ hw hT (rm_y hc0) (rm_y hn0) d_BAL_add3_22
  unfold wp_BAL_add3 at hw
  have key : ∀ (mc0 ms0 c0 n0 : Nat), mc0 = mc → ms0 = ms → c0 = 0 → n0 = 0 → c0 + mc0 = mc → n0 + ms0 = ms → jat l D X 4 0 [(0, .ref v0), (1, .ref v1), (2, .ref v2), (3, vi v3)] [] (cwd k T) c0 n0 := by
    intro mc0 ms0 c0 n0 hm1 hm2 hz1 hz2 hc0 hn0
    subst hm1; subst hm2
    clear hz1 hz2
    refine j_iload_n F 3 d_BAL_add3_0 rfl ?_
    refine j_aload_n F 2 d_BAL_add3_1 rfl ?_
    obtain ⟨hc1, hw⟩ := hw
    refine c_alen20 F K hT hc1 d_BAL_add3_2 ?_
    obtain ⟨hc1, hc2, hwt, hwf⟩ := hw
    refine j_icmp_ne F 11 hc1 hc2 d_BAL_add3_3 rfl (fun hh => ?_) (fun hh => ?_)
    · have hw := hwt hh
      exact B11 _ _ _ _ _ _ _ _ _ hc0 hn0 hT hw
    · have hw := hwf hh
      refine j_aload_n F 0 d_BAL_add3_6 rfl ?_
      obtain ⟨mc_3, ms_4, mc_5, ms_6, ⟨he1, he2⟩, hw⟩ := hw
      obtain ⟨hg1, hw⟩ := hw
      refine c_callVr F K hT (c_BAL_grow l hw) (tw_gV tq_270 tq_271 tq_272 tq_233 tq_273) 7 rfl (by decide) hg1 q_BAL_grow rfl ⟨by decide, by decide⟩ ⟨rm_l hc0 he1, rm_l hn0 he2⟩ rfl (Nat.le_of_ble_eq_true rfl) d_BAL_add3_7 (fun r_2 T_1 hw hT => ?_)
      have hc0 := rm_c hc0 he1
      have hn0 := rm_c hn0 he2
      refine j_astore_n F [(2, .ref r_2), (0, .ref v0), (1, .ref v1), (3, vi v3)] d_BAL_add3_10 (by decide) rfl ?_
      refine j_sub [1, 2, 0, 3] rfl ?_
      exact B11 _ _ _ _ _ _ _ _ _ hc0 hn0 hT hw
  exact key mc ms 0 0 rfl rfl rfl rfl (Nat.zero_add _) (Nat.zero_add _)
theorem tq_274 : (Jvm.Cond.fieldLink "java/util/ArrayList" (63 : Nat) "java/util/ArrayList" "modCount" "I") ∈ tw_G := tw_in (List.mem_of_getElem? (i := 183) (by decide +kernel)) rfl
theorem tq_275 : (Jvm.Cond.sameField "java/util/ArrayList" "java/util/AbstractList" "modCount" "I") ∈ tw_G := tw_in (List.mem_of_getElem? (i := 184) (by decide +kernel)) rfl
theorem tq_276 : (Jvm.Cond.methodLink "java/util/ArrayList" (131 : Nat) ({ cls := "java/util/ArrayList", name := "add", desc := "(Ljava/lang/Object;[Ljava/lang/Object;I)V" } : Jvm.MethodName)) ∈ tw_G := tw_in (List.mem_of_getElem? (i := 482) (by decide +kernel)) rfl
theorem tq_277 : (Jvm.Cond.instanceMethod ({ cls := "java/util/ArrayList", name := "add", desc := "(Ljava/lang/Object;[Ljava/lang/Object;I)V" } : Jvm.MethodName)) ∈ tw_G := tw_in (List.mem_of_getElem? (i := 484) (by decide +kernel)) rfl
theorem tq_278 : (Jvm.Cond.selects "java/util/ArrayList" ⟨"java/util/ArrayList", "add", "(Ljava/lang/Object;[Ljava/lang/Object;I)V"⟩ ⟨"java/util/ArrayList", "add", "(Ljava/lang/Object;[Ljava/lang/Object;I)V"⟩) ∈ tw_G := tw_in (List.mem_of_getElem? (i := 2) (by decide +kernel)) rfl
theorem tq_279 : (Jvm.Cond.code ({ cls := "java/util/ArrayList", name := "add", desc := "(Ljava/lang/Object;[Ljava/lang/Object;I)V" } : Jvm.MethodName) prog_30_method_24_code (4 : Nat) (Option.none : Option Jvm.ClassFile.FieldType)) ∈ tw_G := tw_in (List.mem_of_getElem? (i := 485) (by decide +kernel)) rfl
abbrev y_BAL_add : MethodName := ⟨"java/util/ArrayList", "add", "(Ljava/lang/Object;)Z"⟩
theorem q_BAL_add : y_BAL_add.cls = "java/util/ArrayList" ∧ y_BAL_add.cls ≠ "java/lang/invoke/MethodHandle" ∧ y_BAL_add.cls ≠ "java/lang/invoke/VarHandle" ∧ (parseMethodDescriptor y_BAL_add.desc).map (fun d => d.parameters.length) = some 1 := by decide +kernel
theorem d_BAL_add_0 : decode prog_30_method_25_code 0 = .ok (.aload_n 0, 1) := by decide +kernel
theorem d_BAL_add_1 : decode prog_30_method_25_code 1 = .ok (.dup, 1) := by decide +kernel
theorem d_BAL_add_2 : decode prog_30_method_25_code 2 = .ok (.getfield 63, 3) := by decide +kernel
theorem d_BAL_add_5 : decode prog_30_method_25_code 5 = .ok (.iconst 1, 1) := by decide +kernel
theorem d_BAL_add_6 : decode prog_30_method_25_code 6 = .ok (.iadd, 1) := by decide +kernel
theorem d_BAL_add_7 : decode prog_30_method_25_code 7 = .ok (.putfield 63, 3) := by decide +kernel
theorem d_BAL_add_10 : decode prog_30_method_25_code 10 = .ok (.aload_n 0, 1) := by decide +kernel
theorem d_BAL_add_11 : decode prog_30_method_25_code 11 = .ok (.aload_n 1, 1) := by decide +kernel
theorem d_BAL_add_12 : decode prog_30_method_25_code 12 = .ok (.aload_n 0, 1) := by decide +kernel
theorem d_BAL_add_13 : decode prog_30_method_25_code 13 = .ok (.getfield 9, 3) := by decide +kernel
theorem d_BAL_add_16 : decode prog_30_method_25_code 16 = .ok (.aload_n 0, 1) := by decide +kernel
theorem d_BAL_add_17 : decode prog_30_method_25_code 17 = .ok (.getfield 48, 3) := by decide +kernel
theorem d_BAL_add_20 : decode prog_30_method_25_code 20 = .ok (.invokevirtual 131, 3) := by decide +kernel
theorem d_BAL_add_23 : decode prog_30_method_25_code 23 = .ok (.iconst 1, 1) := by decide +kernel
theorem d_BAL_add_24 : decode prog_30_method_25_code 24 = .ok (.ireturn, 1) := by decide +kernel
def wp_BAL_add (post : Int → CS → Prop) (mc0 ms0 : Nat) (v0 : Nat) (v1 : Nat) (T : CS) : Prop := tg T v0 = 7 ∧ (tg T v0 = 7 ∧ ((∀ T_1 : CS, T_1 = cs_i T v0 2 ((fi T v0 2) + 1) → tg T_1 v0 = 7 ∧ ∃ q_2 : Nat, fo T_1 v0 0 = some q_2 ∧ (tg T_1 v0 = 7 ∧ (∃ mc_5 ms_6 mc_7 ms_8 : Nat, (mc0 = mc_5 + mc_7 ∧ ms0 = ms_6 + ms_8) ∧ tg T_1 v0 = 7 ∧ wp_BAL_add3 (fun T_3 => post 1 T_3) mc_5 ms_6 v0 v1 q_2 (fi T_1 v0 1) T_1)))))
set_option maxHeartbeats 4000000 in
set_option maxRecDepth 100000 in
theorem c_BAL_add (l : Launch) {D : va_G} {k : CK} {post : Int → CS → Prop} {mc ms : Nat} {v0 : Nat} {v1 : Nat} {T : CS} (hw : wp_BAL_add post mc ms v0 v1 T) : jCi l D k y_BAL_add prog_30_method_25_code 2 (some .boolean) 6 170 mc ms T [.ref v0, .ref v1] post := by
  refine j_coz (own := "java/util/ArrayList") (by decide) rfl (Nat.le_of_ble_eq_true rfl) (fun X F K hT hret => ?_)
  unfold wp_BAL_add at hw
  have key : ∀ (mc0 ms0 c0 n0 : Nat), mc0 = mc → ms0 = ms → c0 = 0 → n0 = 0 → c0 + mc0 = mc → n0 + ms0 = ms → jat l D X 2 0 [(0, .ref v0), (1, .ref v1)] [] (cwd k T) c0 n0 := by
    intro mc0 ms0 c0 n0 hm1 hm2 hz1 hz2 hc0 hn0
    subst hm1; subst hm2
    clear hz1 hz2
    refine j_aload_n F 0 d_BAL_add_0 rfl ?_
    refine j_dup F rfl d_BAL_add_1 ?_
    obtain ⟨hc1, hw⟩ := hw
    refine c_geti F K hT 7 2 rfl tu_ArrayList (by decide) (by decide) rfl tq_274 (Or.inr tq_275) hc1 d_BAL_add_2 ?_
    refine j_iconst F d_BAL_add_5 ?_
    refine j_iadd F d_BAL_add_6 ?_
    obtain ⟨hc1, hw⟩ := hw
    refine c_puti F K hT 7 2 rfl tu_ArrayList (by decide) (by decide) rfl tq_274 (Or.inr tq_275) t_ArrayList t_ArrayList_ok n_ArrayList rfl (ty := .int) (by decide +kernel) rfl rfl hc1 d_BAL_add_7 (fun T_1 e_T_1 hT => ?_)
    have hw := hw T_1 e_T_1
    refine j_aload_n F 0 d_BAL_add_10 rfl ?_
    refine j_aload_n F 1 d_BAL_add_11 rfl ?_
    refine j_aload_n F 0 d_BAL_add_12 rfl ?_
    obtain ⟨hc1, q_2, hc2, hw⟩ := hw
    refine c_getr F K hT 7 0 rfl tu_ArrayList (by decide) (by decide) rfl tq_225 (Or.inl rfl) hc1 hc2 d_BAL_add_13 ?_
    refine j_aload_n F 0 d_BAL_add_16 rfl ?_
    obtain ⟨hc1, hw⟩ := hw
    refine c_geti F K hT 7 1 rfl tu_ArrayList (by decide) (by decide) rfl tq_224 (Or.inl rfl) hc1 d_BAL_add_17 ?_
    obtain ⟨mc_5, ms_6, mc_7, ms_8, ⟨he1, he2⟩, hw⟩ := hw
    obtain ⟨hg1, hw⟩ := hw
    refine c_callVv F K hT (c_BAL_add3 l hw) (tw_gV tq_276 tq_277 tq_278 tq_233 tq_279) 7 rfl (by decide) hg1 q_BAL_add3 rfl ⟨by decide, by decide⟩ ⟨rm_l hc0 he1, rm_l hn0 he2⟩ rfl (Nat.le_of_ble_eq_true rfl) d_BAL_add_20 (fun T_3 hw hT => ?_)
    have hc0 := rm_c hc0 he1
    have hn0 := rm_c hn0 he2
    refine j_iconst F d_BAL_add_23 ?_
    exact hret _ _ _ _ _ _ hw hT (rm_y hc0) (rm_y hn0) (Or.inr rfl) d_BAL_add_24
  exact key mc ms 0 0 rfl rfl rfl rfl (Nat.zero_add _) (Nat.zero_add _)
theorem tq_280 : (Jvm.Cond.methodLink "java/util/ArrayList" (112 : Nat) ({ cls := "java/lang/System", name := "arraycopy", desc := "(Ljava/lang/Object;ILjava/lang/Object;II)V" } : Jvm.MethodName)) ∈ tw_G := tw_in (List.mem_of_getElem? (i := 1039) (by decide +kernel)) rfl
abbrev y_BAL_fastRemove : MethodName := ⟨"java/util/ArrayList", "fastRemove", "([Ljava/lang/Object;I)V"⟩
theorem q_BAL_fastRemove : y_BAL_fastRemove.cls = "java/util/ArrayList" ∧ y_BAL_fastRemove.cls ≠ "java/lang/invoke/MethodHandle" ∧ y_BAL_fastRemove.cls ≠ "java/lang/invoke/VarHandle" ∧ (parseMethodDescriptor y_BAL_fastRemove.desc).map (fun d => d.parameters.length) = some 2 := by decide +kernel
theorem d_BAL_fastRemove_0 : decode prog_30_method_39_code 0 = .ok (.aload_n 0, 1) := by decide +kernel
theorem d_BAL_fastRemove_1 : decode prog_30_method_39_code 1 = .ok (.dup, 1) := by decide +kernel
theorem d_BAL_fastRemove_2 : decode prog_30_method_39_code 2 = .ok (.getfield 63, 3) := by decide +kernel
theorem d_BAL_fastRemove_5 : decode prog_30_method_39_code 5 = .ok (.iconst 1, 1) := by decide +kernel
theorem d_BAL_fastRemove_6 : decode prog_30_method_39_code 6 = .ok (.iadd, 1) := by decide +kernel
theorem d_BAL_fastRemove_7 : decode prog_30_method_39_code 7 = .ok (.putfield 63, 3) := by decide +kernel
theorem d_BAL_fastRemove_10 : decode prog_30_method_39_code 10 = .ok (.aload_n 0, 1) := by decide +kernel
theorem d_BAL_fastRemove_11 : decode prog_30_method_39_code 11 = .ok (.getfield 48, 3) := by decide +kernel
theorem d_BAL_fastRemove_14 : decode prog_30_method_39_code 14 = .ok (.iconst 1, 1) := by decide +kernel
theorem d_BAL_fastRemove_15 : decode prog_30_method_39_code 15 = .ok (.isub, 1) := by decide +kernel
theorem d_BAL_fastRemove_16 : decode prog_30_method_39_code 16 = .ok (.dup, 1) := by decide +kernel
theorem d_BAL_fastRemove_17 : decode prog_30_method_39_code 17 = .ok (.istore_n 3, 1) := by decide +kernel
theorem d_BAL_fastRemove_18 : decode prog_30_method_39_code 18 = .ok (.iload_n 2, 1) := by decide +kernel
theorem d_BAL_fastRemove_19 : decode prog_30_method_39_code 19 = .ok (.if_icmp .le 15, 3) := by decide +kernel
theorem d_BAL_fastRemove_22 : decode prog_30_method_39_code 22 = .ok (.aload_n 1, 1) := by decide +kernel
theorem d_BAL_fastRemove_23 : decode prog_30_method_39_code 23 = .ok (.iload_n 2, 1) := by decide +kernel
theorem d_BAL_fastRemove_24 : decode prog_30_method_39_code 24 = .ok (.iconst 1, 1) := by decide +kernel
theorem d_BAL_fastRemove_25 : decode prog_30_method_39_code 25 = .ok (.iadd, 1) := by decide +kernel
theorem d_BAL_fastRemove_26 : decode prog_30_method_39_code 26 = .ok (.aload_n 1, 1) := by decide +kernel
theorem d_BAL_fastRemove_27 : decode prog_30_method_39_code 27 = .ok (.iload_n 2, 1) := by decide +kernel
theorem d_BAL_fastRemove_28 : decode prog_30_method_39_code 28 = .ok (.iload_n 3, 1) := by decide +kernel
theorem d_BAL_fastRemove_29 : decode prog_30_method_39_code 29 = .ok (.iload_n 2, 1) := by decide +kernel
theorem d_BAL_fastRemove_30 : decode prog_30_method_39_code 30 = .ok (.isub, 1) := by decide +kernel
theorem d_BAL_fastRemove_31 : decode prog_30_method_39_code 31 = .ok (.invokestatic 112, 3) := by decide +kernel
theorem d_BAL_fastRemove_34 : decode prog_30_method_39_code 34 = .ok (.aload_n 1, 1) := by decide +kernel
theorem d_BAL_fastRemove_35 : decode prog_30_method_39_code 35 = .ok (.aload_n 0, 1) := by decide +kernel
theorem d_BAL_fastRemove_36 : decode prog_30_method_39_code 36 = .ok (.iload_n 3, 1) := by decide +kernel
theorem d_BAL_fastRemove_37 : decode prog_30_method_39_code 37 = .ok (.dup_x1, 1) := by decide +kernel
theorem d_BAL_fastRemove_38 : decode prog_30_method_39_code 38 = .ok (.putfield 48, 3) := by decide +kernel
theorem d_BAL_fastRemove_41 : decode prog_30_method_39_code 41 = .ok (.aconst_null, 1) := by decide +kernel
theorem d_BAL_fastRemove_42 : decode prog_30_method_39_code 42 = .ok (.aastore, 1) := by decide +kernel
theorem d_BAL_fastRemove_43 : decode prog_30_method_39_code 43 = .ok (.return_, 1) := by decide +kernel
def wp_BAL_fastRemove_34 (post : CS → Prop) (v0 : Nat) (v1 : Nat) (v3 : Int) (T : CS) : Prop := tg T v0 = 7 ∧ ((∀ T_1 : CS, T_1 = cs_i T v0 1 v3 → tg T_1 v1 = 13 ∧ ixR v3 (ln T_1 v1) ∧ ((∀ T_2 : CS, T_2 = cs_o T_1 v1 v3.toNat none → post T_2))))
def wp_BAL_fastRemove (post : CS → Prop) (v0 : Nat) (v1 : Nat) (v2 : Int) (T : CS) : Prop := tg T v0 = 7 ∧ (tg T v0 = 7 ∧ ((∀ T_1 : CS, T_1 = cs_i T v0 2 ((fi T v0 2) + 1) → tg T_1 v0 = 7 ∧ (∀ v3_2 : Int, v3_2 = ((fi T_1 v0 1) - 1) → inR ((fi T_1 v0 1) - 1) ∧ inR v2 ∧ (((fi T_1 v0 1) - 1) ≤ v2 → wp_BAL_fastRemove_34 post v0 v1 v3_2 T_1) ∧ (¬ (((fi T_1 v0 1) - 1) ≤ v2) → (tg T_1 v1 = 13 ∧ tg T_1 v1 = 13 ∧ (((0 : Int) ≤ (v2 + 1) ∧ (0 : Int) ≤ v2 ∧ (0 : Int) ≤ (v3_2 - v2)) ∧ ((v2 + 1) : Int) + (v3_2 - v2) ≤ ln T_1 v1 ∧ (v2 : Int) + (v3_2 - v2) ≤ ln T_1 v1) ∧ ∃ tt : Nat, (tt = 8 ∨ tt = 9 ∨ tt = 10) ∧ (∀ i_ v_ : Nat, i_ < (v3_2 - v2).toNat → fo T_1 v1 ((v2 + 1).toNat + i_) = some v_ → tg T_1 v_ = tt) ∧ ((∀ T_3 : CS, T_3 = cs_co T_1 v1 v1 (v2 + 1).toNat v2.toNat (v3_2 - v2).toNat → wp_BAL_fastRemove_34 post v0 v1 v3_2 T_3))))))))
set_option maxHeartbeats 4000000 in
set_option maxRecDepth 100000 in
theorem c_BAL_fastRemove (l : Launch) {D : va_G} {k : CK} {post : CS → Prop} {v0 : Nat} {v1 : Nat} {v2 : Int} {T : CS} (hw : wp_BAL_fastRemove post v0 v1 v2 T) : jCv l D k y_BAL_fastRemove prog_30_method_39_code 4 none 1 60 0 0 T [.ref v0, .ref v1, vi v2] post := by
  refine j_cov (own := "java/util/ArrayList") (by decide) rfl (Nat.le_of_ble_eq_true rfl) (fun X F K hT hret => ?_)
  have B34 : ∀ (v0 : Nat) (v1 : Nat) (v3 : Int) (T : CS), cs_ok k T → wp_BAL_fastRemove_34 post v0 v1 v3 T → jat l D X 4 34 [(0, .ref v0), (1, .ref v1), (3, vi v3)] [] (cwd k T) 0 0 := by
    intro v0 v1 v3 T hT hw
    unfold wp_BAL_fastRemove_34 at hw
    refine j_aload_n F 1 d_BAL_fastRemove_34 rfl ?_
    refine j_aload_n F 0 d_BAL_fastRemove_35 rfl ?_
    refine j_iload_n F 2 d_BAL_fastRemove_36 rfl ?_
    refine j_dup_x1 F rfl rfl d_BAL_fastRemove_37 ?_
    obtain ⟨hc1, hw⟩ := hw
    refine c_puti F K hT 7 1 rfl tu_ArrayList (by decide) (by decide) rfl tq_224 (Or.inl rfl) t_ArrayList t_ArrayList_ok n_ArrayList rfl (ty := .int) (by decide +kernel) rfl rfl hc1 d_BAL_fastRemove_38 (fun T_1 e_T_1 hT => ?_)
    have hw := hw T_1 e_T_1
    refine j_null F d_BAL_fastRemove_41 ?_
    obtain ⟨hc1, hc2, hw⟩ := hw
    refine c_aast13N F K hT hc1 hc2 d_BAL_fastRemove_42 (fun T_2 e_T_2 hT => ?_)
    have hw := hw T_2 e_T_2
    exact hret _ _ _ _ _ hw hT (by omega) (by omega) d_BAL_fastRemove_43
  unfold wp_BAL_fastRemove at hw
  show jat l D X 4 0 [(0, .ref v0), (1, .ref v1), (2, vi v2)] [] (cwd k T) 0 0
  refine j_aload_n F 0 d_BAL_fastRemove_0 rfl ?_
  refine j_dup F rfl d_BAL_fastRemove_1 ?_
  obtain ⟨hc1, hw⟩ := hw
  refine c_geti F K hT 7 2 rfl tu_ArrayList (by decide) (by decide) rfl tq_274 (Or.inr tq_275) hc1 d_BAL_fastRemove_2 ?_
  refine j_iconst F d_BAL_fastRemove_5 ?_
  refine j_iadd F d_BAL_fastRemove_6 ?_
  obtain ⟨hc1, hw⟩ := hw
  refine c_puti F K hT 7 2 rfl tu_ArrayList (by decide) (by decide) rfl tq_274 (Or.inr tq_275) t_ArrayList t_ArrayList_ok n_ArrayList rfl (ty := .int) (by decide +kernel) rfl rfl hc1 d_BAL_fastRemove_7 (fun T_1 e_T_1 hT => ?_)
  have hw := hw T_1 e_T_1
  refine j_aload_n F 0 d_BAL_fastRemove_10 rfl ?_
  obtain ⟨hc1, hw⟩ := hw
  refine c_geti F K hT 7 1 rfl tu_ArrayList (by decide) (by decide) rfl tq_224 (Or.inl rfl) hc1 d_BAL_fastRemove_11 ?_
  refine j_iconst F d_BAL_fastRemove_14 ?_
  refine j_isub F d_BAL_fastRemove_15 ?_
  refine j_dup F rfl d_BAL_fastRemove_16 ?_
  refine j_nmi (fun v3_2 e_v3_2 => ?_)
  have hw := hw v3_2 e_v3_2
  refine j_istore_n F [(3, vi v3_2), (0, .ref v0), (1, .ref v1), (2, vi v2)] d_BAL_fastRemove_17 (by decide) rfl ?_
  refine j_iload_n F 3 d_BAL_fastRemove_18 rfl ?_
  obtain ⟨hc1, hc2, hwt, hwf⟩ := hw
  refine j_icmp_le F 34 hc1 hc2 d_BAL_fastRemove_19 rfl (fun hh => ?_) (fun hh => ?_)
  · have hw := hwt hh
    refine j_sub [1, 2, 0] rfl ?_
    exact B34 _ _ _ _ hT hw
  · have hw := hwf hh
    refine j_aload_n F 2 d_BAL_fastRemove_22 rfl ?_
    refine j_iload_n F 3 d_BAL_fastRemove_23 rfl ?_
    refine j_iconst F d_BAL_fastRemove_24 ?_
    refine j_iadd F d_BAL_fastRemove_25 ?_
    refine j_aload_n F 2 d_BAL_fastRemove_26 rfl ?_
    refine j_iload_n F 3 d_BAL_fastRemove_27 rfl ?_
    refine j_iload_n F 0 d_BAL_fastRemove_28 rfl ?_
    refine j_iload_n F 3 d_BAL_fastRemove_29 rfl ?_
    refine j_isub F d_BAL_fastRemove_30 ?_
    obtain ⟨hc1, hc2, hc3, tt, hc4, hc5, hw⟩ := hw
    refine c_copyox F K hT tq_280 tq_239 tq_240 tq_241 ⟨by decide, by decide⟩ (Nat.le_of_ble_eq_true rfl) hc1 hc2 hc3 hc4 hc5 d_BAL_fastRemove_31 (fun T_3 e_T_3 hT => ?_)
    have hw := hw T_3 e_T_3
    refine j_sub [1, 2, 0] rfl ?_
    exact B34 _ _ _ _ hT hw
theorem tq_281 : (Jvm.Cond.methodLink "java/util/ArrayList" (144 : Nat) ({ cls := "java/util/ArrayList", name := "fastRemove", desc := "([Ljava/lang/Object;I)V" } : Jvm.MethodName)) ∈ tw_G := tw_in (List.mem_of_getElem? (i := 1035) (by decide +kernel)) rfl
theorem tq_282 : (Jvm.Cond.instanceMethod ({ cls := "java/util/ArrayList", name := "fastRemove", desc := "([Ljava/lang/Object;I)V" } : Jvm.MethodName)) ∈ tw_G := tw_in (List.mem_of_getElem? (i := 1037) (by decide +kernel)) rfl
theorem tq_283 : (Jvm.Cond.selects "java/util/ArrayList" ⟨"java/util/ArrayList", "fastRemove", "([Ljava/lang/Object;I)V"⟩ ⟨"java/util/ArrayList", "fastRemove", "([Ljava/lang/Object;I)V"⟩) ∈ tw_G := tw_in (List.mem_of_getElem? (i := 19) (by decide +kernel)) rfl
theorem tq_284 : (Jvm.Cond.code ({ cls := "java/util/ArrayList", name := "fastRemove", desc := "([Ljava/lang/Object;I)V" } : Jvm.MethodName) prog_30_method_39_code (4 : Nat) (Option.none : Option Jvm.ClassFile.FieldType)) ∈ tw_G := tw_in (List.mem_of_getElem? (i := 1038) (by decide +kernel)) rfl
abbrev y_BAL_remove : MethodName := ⟨"java/util/ArrayList", "remove", "(I)Ljava/lang/Object;"⟩
theorem q_BAL_remove : y_BAL_remove.cls = "java/util/ArrayList" ∧ y_BAL_remove.cls ≠ "java/lang/invoke/MethodHandle" ∧ y_BAL_remove.cls ≠ "java/lang/invoke/VarHandle" ∧ (parseMethodDescriptor y_BAL_remove.desc).map (fun d => d.parameters.length) = some 1 := by decide +kernel
theorem d_BAL_remove_0 : decode prog_30_method_29_code 0 = .ok (.iload_n 1, 1) := by decide +kernel
theorem d_BAL_remove_1 : decode prog_30_method_29_code 1 = .ok (.aload_n 0, 1) := by decide +kernel
theorem d_BAL_remove_2 : decode prog_30_method_29_code 2 = .ok (.getfield 48, 3) := by decide +kernel
theorem d_BAL_remove_5 : decode prog_30_method_29_code 5 = .ok (.invokestatic 118, 3) := by decide +kernel
theorem d_BAL_remove_8 : decode prog_30_method_29_code 8 = .ok (.pop, 1) := by decide +kernel
theorem d_BAL_remove_9 : decode prog_30_method_29_code 9 = .ok (.aload_n 0, 1) := by decide +kernel
theorem d_BAL_remove_10 : decode prog_30_method_29_code 10 = .ok (.getfield 9, 3) := by decide +kernel
theorem d_BAL_remove_13 : decode prog_30_method_29_code 13 = .ok (.astore_n 2, 1) := by decide +kernel
theorem d_BAL_remove_14 : decode prog_30_method_29_code 14 = .ok (.aload_n 2, 1) := by decide +kernel
theorem d_BAL_remove_15 : decode prog_30_method_29_code 15 = .ok (.iload_n 1, 1) := by decide +kernel
theorem d_BAL_remove_16 : decode prog_30_method_29_code 16 = .ok (.aaload, 1) := by decide +kernel
theorem d_BAL_remove_17 : decode prog_30_method_29_code 17 = .ok (.astore_n 3, 1) := by decide +kernel
theorem d_BAL_remove_18 : decode prog_30_method_29_code 18 = .ok (.aload_n 0, 1) := by decide +kernel
theorem d_BAL_remove_19 : decode prog_30_method_29_code 19 = .ok (.aload_n 2, 1) := by decide +kernel
theorem d_BAL_remove_20 : decode prog_30_method_29_code 20 = .ok (.iload_n 1, 1) := by decide +kernel
theorem d_BAL_remove_21 : decode prog_30_method_29_code 21 = .ok (.invokevirtual 144, 3) := by decide +kernel
theorem d_BAL_remove_24 : decode prog_30_method_29_code 24 = .ok (.aload_n 3, 1) := by decide +kernel
theorem d_BAL_remove_25 : decode prog_30_method_29_code 25 = .ok (.areturn, 1) := by decide +kernel
def wp_BAL_remove (post : Nat → CS → Prop) (v0 : Nat) (v1 : Int) (T : CS) : Prop := tg T v0 = 7 ∧ (wp_BOb_checkIndex (fun r_1 => tg T v0 = 7 ∧ ∃ q_2 : Nat, fo T v0 0 = some q_2 ∧ (tg T q_2 = 13 ∧ ixR v1 (ln T q_2) ∧ ∃ q_3 : Nat, fo T q_2 v1.toNat = some q_3 ∧ (tg T v0 = 7 ∧ wp_BAL_fastRemove (fun T_4 => post q_3 T_4) v0 q_2 v1 T))) v1 (fi T v0 1))
set_option maxHeartbeats 4000000 in
set_option maxRecDepth 100000 in
theorem c_BAL_remove (l : Launch) {D : va_G} {k : CK} {post : Nat → CS → Prop} {v0 : Nat} {v1 : Int} {T : CS} (hw : wp_BAL_remove post v0 v1 T) : jCr l D k y_BAL_remove prog_30_method_29_code 4 (some (.object "java/lang/Object")) 2 83 0 0 T [.ref v0, vi v1] post := by
  refine j_cor (Or.inl ⟨_, rfl⟩) (own := "java/util/ArrayList") (by decide) rfl (Nat.le_of_ble_eq_true rfl) (fun X F K hT hret => ?_)
  unfold wp_BAL_remove at hw
  show jat l D X 4 0 [(0, .ref v0), (1, vi v1)] [] (cwd k T) 0 0
  refine j_iload_n F 1 d_BAL_remove_0 rfl ?_
  refine j_aload_n F 0 d_BAL_remove_1 rfl ?_
  obtain ⟨hc1, hw⟩ := hw
  refine c_geti F K hT 7 1 rfl tu_ArrayList (by decide) (by decide) rfl tq_224 (Or.inl rfl) hc1 d_BAL_remove_2 ?_
  refine j_callS F (c_BOb_checkIndex l hw) (tw_gS tq_226 tq_227 tq_228 tq_229) q_BOb_checkIndex rfl ⟨by decide, by decide⟩ ⟨by omega, by omega⟩ rfl (Nat.le_of_ble_eq_true rfl) d_BAL_remove_5 (fun r_1 hw => ?_)
  refine j_pop F rfl d_BAL_remove_8 ?_
  refine j_aload_n F 0 d_BAL_remove_9 rfl ?_
  obtain ⟨hc1, q_2, hc2, hw⟩ := hw
  refine c_getr F K hT 7 0 rfl tu_ArrayList (by decide) (by decide) rfl tq_225 (Or.inl rfl) hc1 hc2 d_BAL_remove_10 ?_
  refine j_astore_n F [(2, .ref q_2), (0, .ref v0), (1, vi v1)] d_BAL_remove_13 (by decide) rfl ?_
  refine j_aload_n F 0 d_BAL_remove_14 rfl ?_
  refine j_iload_n F 2 d_BAL_remove_15 rfl ?_
  obtain ⟨hc1, hc2, q_3, hc3, hw⟩ := hw
  refine c_aald13 F K hT hc1 hc2 hc3 d_BAL_remove_16 ?_
  refine j_astore_n F [(3, .ref q_3), (2, .ref q_2), (0, .ref v0), (1, vi v1)] d_BAL_remove_17 (by decide) rfl ?_
  refine j_aload_n F 2 d_BAL_remove_18 rfl ?_
  refine j_aload_n F 1 d_BAL_remove_19 rfl ?_
  refine j_iload_n F 3 d_BAL_remove_20 rfl ?_
  obtain ⟨hg1, hw⟩ := hw
  refine c_callVv F K hT (c_BAL_fastRemove l hw) (tw_gV tq_281 tq_282 tq_283 tq_233 tq_284) 7 rfl (by decide) hg1 q_BAL_fastRemove rfl ⟨by decide, by decide⟩ ⟨by omega, by omega⟩ rfl (Nat.le_of_ble_eq_true rfl) d_BAL_remove_21 (fun T_4 hw hT => ?_)
  refine j_aload_n F 0 d_BAL_remove_24 rfl ?_
  exact hret _ _ _ _ _ _ hw hT (by omega) (by omega) d_BAL_remove_25
