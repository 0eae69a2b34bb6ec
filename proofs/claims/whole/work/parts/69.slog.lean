abbrev y_BLg_lengthOf : MethodName := ⟨"LandBook$Log", "lengthOf", "([I)I"⟩
theorem q_BLg_lengthOf : y_BLg_lengthOf.cls ≠ "java/lang/invoke/MethodHandle" ∧ y_BLg_lengthOf.cls ≠ "java/lang/invoke/VarHandle" ∧ (parseMethodDescriptor y_BLg_lengthOf.desc).map (fun d => d.parameters.length) = some 1 := by decide +kernel
theorem d_BLg_lengthOf_0 : decode prog_6_method_2_code 0 = .ok (.aload_n 0, 1) := by decide +kernel
theorem d_BLg_lengthOf_1 : decode prog_6_method_2_code 1 = .ok (.arraylength, 1) := by decide +kernel
theorem d_BLg_lengthOf_2 : decode prog_6_method_2_code 2 = .ok (.iconst 4, 1) := by decide +kernel
theorem d_BLg_lengthOf_3 : decode prog_6_method_2_code 3 = .ok (.iadd, 1) := by decide +kernel
theorem d_BLg_lengthOf_4 : decode prog_6_method_2_code 4 = .ok (.ireturn, 1) := by decide +kernel
def wp_BLg_lengthOf (post : Int → CS → Prop) (v0 : Nat) (T : CS) : Prop := tg T v0 = 11 ∧ (post ((ln T v0 : Int) + 4) T)
set_option maxHeartbeats 4000000 in
set_option maxRecDepth 100000 in
theorem c_BLg_lengthOf (l : Launch) {D : va_G} {k : CK} {post : Int → CS → Prop} {v0 : Nat} {T : CS} (hw : wp_BLg_lengthOf post v0 T) : jCi l D k y_BLg_lengthOf prog_6_method_2_code 1 (some .int) 0 0 0 0 T [.ref v0] post := by
  refine j_coi (own := "LandBook$Log") (by decide) rfl (Nat.le_of_ble_eq_true rfl) (fun X F K hT hret => ?_)
  unfold wp_BLg_lengthOf at hw
  show jat l D X 1 0 [(0, .ref v0)] [] (cwd k T) 0 0
  refine j_aload_n F 0 d_BLg_lengthOf_0 rfl ?_
  obtain ⟨hc1, hw⟩ := hw
  refine c_alen11 F K hT hc1 d_BLg_lengthOf_1 ?_
  refine j_iconst F d_BLg_lengthOf_2 ?_
  refine j_iadd F d_BLg_lengthOf_3 ?_
  exact hret _ _ _ _ _ _ hw hT (by omega) (by omega) d_BLg_lengthOf_4
theorem tq_412 : (Jvm.Cond.fieldLink "LandBook$Log" (11 : Nat) "LandBook$Log" "words" "[I") ∈ tw_G := tw_in (List.mem_of_getElem? (i := 214) (by decide +kernel)) rfl
abbrev y_BLg_at : MethodName := ⟨"LandBook$Log", "at", "(I)I"⟩
theorem q_BLg_at : y_BLg_at.cls = "LandBook$Log" ∧ y_BLg_at.cls ≠ "java/lang/invoke/MethodHandle" ∧ y_BLg_at.cls ≠ "java/lang/invoke/VarHandle" ∧ (parseMethodDescriptor y_BLg_at.desc).map (fun d => d.parameters.length) = some 1 := by decide +kernel
theorem d_BLg_at_0 : decode prog_6_method_3_code 0 = .ok (.aload_n 0, 1) := by decide +kernel
theorem d_BLg_at_1 : decode prog_6_method_3_code 1 = .ok (.getfield 11, 3) := by decide +kernel
theorem d_BLg_at_4 : decode prog_6_method_3_code 4 = .ok (.iload_n 1, 1) := by decide +kernel
theorem d_BLg_at_5 : decode prog_6_method_3_code 5 = .ok (.iaload, 1) := by decide +kernel
theorem d_BLg_at_6 : decode prog_6_method_3_code 6 = .ok (.ireturn, 1) := by decide +kernel
def wp_BLg_at (post : Int → CS → Prop) (v0 : Nat) (v1 : Int) (T : CS) : Prop := tg T v0 = 6 ∧ ∃ q_1 : Nat, fo T v0 0 = some q_1 ∧ (tg T q_1 = 11 ∧ ixR v1 (ln T q_1) ∧ (post (fi T q_1 v1.toNat) T))
set_option maxHeartbeats 4000000 in
set_option maxRecDepth 100000 in
theorem c_BLg_at (l : Launch) {D : va_G} {k : CK} {post : Int → CS → Prop} {v0 : Nat} {v1 : Int} {T : CS} (hw : wp_BLg_at post v0 v1 T) : jCi l D k y_BLg_at prog_6_method_3_code 2 (some .int) 0 0 0 0 T [.ref v0, vi v1] post := by
  refine j_coi (own := "LandBook$Log") (by decide) rfl (Nat.le_of_ble_eq_true rfl) (fun X F K hT hret => ?_)
  unfold wp_BLg_at at hw
  show jat l D X 2 0 [(0, .ref v0), (1, vi v1)] [] (cwd k T) 0 0
  refine j_aload_n F 0 d_BLg_at_0 rfl ?_
  obtain ⟨hc1, q_1, hc2, hw⟩ := hw
  refine c_getr F K hT 6 0 rfl tu_Log (by decide) (by decide) rfl tq_412 (Or.inl rfl) hc1 hc2 d_BLg_at_1 ?_
  refine j_iload_n F 1 d_BLg_at_4 rfl ?_
  obtain ⟨hc1, hc2, hw⟩ := hw
  refine c_iald F K hT hc1 hc2 d_BLg_at_5 ?_
  exact hret _ _ _ _ _ _ hw hT (by omega) (by omega) d_BLg_at_6
theorem tq_413 : (Jvm.Cond.fieldLink "LandBook$Log" (15 : Nat) "LandBook$Log" "size" "I") ∈ tw_G := tw_in (List.mem_of_getElem? (i := 215) (by decide +kernel)) rfl
theorem tq_414 : (Jvm.Cond.methodLink "LandBook$Log" (38 : Nat) ({ cls := "java/util/Arrays", name := "copyOf", desc := "([II)[I" } : Jvm.MethodName)) ∈ tw_G := tw_in (List.mem_of_getElem? (i := 730) (by decide +kernel)) rfl
abbrev y_BLg_put : MethodName := ⟨"LandBook$Log", "put", "(I)V"⟩
theorem q_BLg_put : y_BLg_put.cls = "LandBook$Log" ∧ y_BLg_put.cls ≠ "java/lang/invoke/MethodHandle" ∧ y_BLg_put.cls ≠ "java/lang/invoke/VarHandle" ∧ (parseMethodDescriptor y_BLg_put.desc).map (fun d => d.parameters.length) = some 1 := by decide +kernel
theorem d_BLg_put_0 : decode prog_6_method_5_code 0 = .ok (.aload_n 0, 1) := by decide +kernel
theorem d_BLg_put_1 : decode prog_6_method_5_code 1 = .ok (.getfield 15, 3) := by decide +kernel
theorem d_BLg_put_4 : decode prog_6_method_5_code 4 = .ok (.aload_n 0, 1) := by decide +kernel
theorem d_BLg_put_5 : decode prog_6_method_5_code 5 = .ok (.getfield 11, 3) := by decide +kernel
theorem d_BLg_put_8 : decode prog_6_method_5_code 8 = .ok (.arraylength, 1) := by decide +kernel
theorem d_BLg_put_9 : decode prog_6_method_5_code 9 = .ok (.if_icmp .lt 20, 3) := by decide +kernel
theorem d_BLg_put_12 : decode prog_6_method_5_code 12 = .ok (.aload_n 0, 1) := by decide +kernel
theorem d_BLg_put_13 : decode prog_6_method_5_code 13 = .ok (.aload_n 0, 1) := by decide +kernel
theorem d_BLg_put_14 : decode prog_6_method_5_code 14 = .ok (.getfield 11, 3) := by decide +kernel
theorem d_BLg_put_17 : decode prog_6_method_5_code 17 = .ok (.iconst 2, 1) := by decide +kernel
theorem d_BLg_put_18 : decode prog_6_method_5_code 18 = .ok (.aload_n 0, 1) := by decide +kernel
theorem d_BLg_put_19 : decode prog_6_method_5_code 19 = .ok (.getfield 15, 3) := by decide +kernel
theorem d_BLg_put_22 : decode prog_6_method_5_code 22 = .ok (.imul, 1) := by decide +kernel
theorem d_BLg_put_23 : decode prog_6_method_5_code 23 = .ok (.invokestatic 38, 3) := by decide +kernel
theorem d_BLg_put_26 : decode prog_6_method_5_code 26 = .ok (.putfield 11, 3) := by decide +kernel
theorem d_BLg_put_29 : decode prog_6_method_5_code 29 = .ok (.aload_n 0, 1) := by decide +kernel
theorem d_BLg_put_30 : decode prog_6_method_5_code 30 = .ok (.getfield 11, 3) := by decide +kernel
theorem d_BLg_put_33 : decode prog_6_method_5_code 33 = .ok (.aload_n 0, 1) := by decide +kernel
theorem d_BLg_put_34 : decode prog_6_method_5_code 34 = .ok (.getfield 15, 3) := by decide +kernel
theorem d_BLg_put_37 : decode prog_6_method_5_code 37 = .ok (.iload_n 1, 1) := by decide +kernel
theorem d_BLg_put_38 : decode prog_6_method_5_code 38 = .ok (.iastore, 1) := by decide +kernel
theorem d_BLg_put_39 : decode prog_6_method_5_code 39 = .ok (.aload_n 0, 1) := by decide +kernel
theorem d_BLg_put_40 : decode prog_6_method_5_code 40 = .ok (.dup, 1) := by decide +kernel
theorem d_BLg_put_41 : decode prog_6_method_5_code 41 = .ok (.getfield 15, 3) := by decide +kernel
theorem d_BLg_put_44 : decode prog_6_method_5_code 44 = .ok (.iconst 1, 1) := by decide +kernel
theorem d_BLg_put_45 : decode prog_6_method_5_code 45 = .ok (.iadd, 1) := by decide +kernel
theorem d_BLg_put_46 : decode prog_6_method_5_code 46 = .ok (.putfield 15, 3) := by decide +kernel
theorem d_BLg_put_49 : decode prog_6_method_5_code 49 = .ok (.return_, 1) := by decide +kernel
def wp_BLg_put_29 (post : CS → Prop) (mc0 : Nat) (ms0 : Nat) (v0 : Nat) (v1 : Int) (T : CS) : Prop := tg T v0 = 6 ∧ ∃ q_1 : Nat, fo T v0 0 = some q_1 ∧ (tg T v0 = 6 ∧ (tg T q_1 = 11 ∧ ixR (fi T v0 1) (ln T q_1) ∧ ((∀ T_2 : CS, T_2 = cs_i T q_1 (fi T v0 1).toNat v1 → tg T_2 v0 = 6 ∧ (tg T_2 v0 = 6 ∧ ((∀ T_3 : CS, T_3 = cs_i T_2 v0 1 ((fi T_2 v0 1) + 1) → post T_3)))))))
def wp_BLg_put (post : CS → Prop) (mc0 ms0 : Nat) (v0 : Nat) (v1 : Int) (T : CS) : Prop := tg T v0 = 6 ∧ (tg T v0 = 6 ∧ ∃ q_1 : Nat, fo T v0 0 = some q_1 ∧ (tg T q_1 = 11 ∧ (inR (fi T v0 1) ∧ inR (ln T q_1 : Int) ∧ ((fi T v0 1) < (ln T q_1 : Int) → wp_BLg_put_29 post mc0 ms0 v0 v1 T) ∧ (¬ ((fi T v0 1) < (ln T q_1 : Int)) → (tg T v0 = 6 ∧ ∃ q_2 : Nat, fo T v0 0 = some q_2 ∧ (tg T v0 = 6 ∧ (∃ mc_5 ms_6 mc_7 ms_8 : Nat, (mc0 = mc_5 + mc_7 ∧ ms0 = ms_6 + ms_8) ∧ wp_BAr_copyOfI (fun r_4 T_3 => tg T_3 v0 = 6 ∧ ((∀ T_9 : CS, T_9 = cs_o T_3 v0 0 (some r_4) → wp_BLg_put_29 post mc_7 ms_8 v0 v1 T_9))) mc_5 ms_6 q_2 (2 * (fi T v0 1)) T)))))))
set_option maxHeartbeats 4000000 in
set_option maxRecDepth 100000 in
theorem c_BLg_put (l : Launch) {D : va_G} {k : CK} {post : CS → Prop} {mc ms : Nat} {v0 : Nat} {v1 : Int} {T : CS} (hw : wp_BLg_put post mc ms v0 v1 T) : jCv l D k y_BLg_put prog_6_method_5_code 2 none 2 82 mc ms T [.ref v0, vi v1] post := by
  refine j_cov (own := "LandBook$Log") (by decide) rfl (Nat.le_of_ble_eq_true rfl) (fun X F K hT hret => ?_)
  have B29 : ∀ (mc0 : Nat) (ms0 : Nat) (v0 : Nat) (v1 : Int) (T : CS) (c0 n0 : Nat), c0 + mc0 = mc → n0 + ms0 = ms → cs_ok k T → wp_BLg_put_29 post mc0 ms0 v0 v1 T → jat l D X 2 29 [(0, .ref v0), (1, vi v1)] [] (cwd k T) c0 n0 := by
    intro mc0 ms0 v0 v1 T c0 n0 hc0 hn0 hT hw
    unfold wp_BLg_put_29 at hw
    refine j_aload_n F 0 d_BLg_put_29 rfl ?_
    obtain ⟨hc1, q_1, hc2, hw⟩ := hw
    refine c_getr F K hT 6 0 rfl tu_Log (by decide) (by decide) rfl tq_412 (Or.inl rfl) hc1 hc2 d_BLg_put_30 ?_
    refine j_aload_n F 0 d_BLg_put_33 rfl ?_
    obtain ⟨hc1, hw⟩ := hw
    refine c_geti F K hT 6 1 rfl tu_Log (by decide) (by decide) rfl tq_413 (Or.inl rfl) hc1 d_BLg_put_34 ?_
    refine j_iload_n F 1 d_BLg_put_37 rfl ?_
    obtain ⟨hc1, hc2, hw⟩ := hw
    refine c_iast F K hT hc1 hc2 d_BLg_put_38 (fun T_2 e_T_2 hT => ?_)
    have hw := hw T_2 e_T_2
    refine j_aload_n F 0 d_BLg_put_39 rfl ?_
    refine j_dup F rfl d_BLg_put_40 ?_
    obtain ⟨hc1, hw⟩ := hw
    refine c_geti F K hT 6 1 rfl tu_Log (by decide) (by decide) rfl tq_413 (Or.inl rfl) hc1 d_BLg_put_41 ?_
    refine j_iconst F d_BLg_put_44 ?_
    refine j_iadd F d_BLg_put_45 ?_
    obtain ⟨hc1, hw⟩ := hw
    refine c_puti F K hT 6 1 rfl tu_Log (by decide) (by decide) rfl tq_413 (Or.inl rfl) t_Log t_Log_ok n_Log rfl (ty := .int) (by decide +kernel) rfl rfl hc1 d_BLg_put_46 (fun T_3 e_T_3 hT => ?_)
    have hw := hw T_3 e_T_3
    exact hret _ _ _ _ _ hw hT (rm_y hc0) (rm_y hn0) d_BLg_put_49
  unfold wp_BLg_put at hw
  have key : ∀ (mc0 ms0 c0 n0 : Nat), mc0 = mc → ms0 = ms → c0 = 0 → n0 = 0 → c0 + mc0 = mc → n0 + ms0 = ms → jat l D X 2 0 [(0, .ref v0), (1, vi v1)] [] (cwd k T) c0 n0 := by
    intro mc0 ms0 c0 n0 hm1 hm2 hz1 hz2 hc0 hn0
    subst hm1; subst hm2
    clear hz1 hz2
    refine j_aload_n F 0 d_BLg_put_0 rfl ?_
    obtain ⟨hc1, hw⟩ := hw
    refine c_geti F K hT 6 1 rfl tu_Log (by decide) (by decide) rfl tq_413 (Or.inl rfl) hc1 d_BLg_put_1 ?_
    refine j_aload_n F 0 d_BLg_put_4 rfl ?_
    obtain ⟨hc1, q_1, hc2, hw⟩ := hw
    refine c_getr F K hT 6 0 rfl tu_Log (by decide) (by decide) rfl tq_412 (Or.inl rfl) hc1 hc2 d_BLg_put_5 ?_
    obtain ⟨hc1, hw⟩ := hw
    refine c_alen11 F K hT hc1 d_BLg_put_8 ?_
    obtain ⟨hc1, hc2, hwt, hwf⟩ := hw
    refine j_icmp_lt F 29 hc1 hc2 d_BLg_put_9 rfl (fun hh => ?_) (fun hh => ?_)
    · have hw := hwt hh
      exact B29 _ _ _ _ _ _ _ hc0 hn0 hT hw
    · have hw := hwf hh
      refine j_aload_n F 0 d_BLg_put_12 rfl ?_
      refine j_aload_n F 0 d_BLg_put_13 rfl ?_
      obtain ⟨hc1, q_2, hc2, hw⟩ := hw
      refine c_getr F K hT 6 0 rfl tu_Log (by decide) (by decide) rfl tq_412 (Or.inl rfl) hc1 hc2 d_BLg_put_14 ?_
      refine j_iconst F d_BLg_put_17 ?_
      refine j_aload_n F 0 d_BLg_put_18 rfl ?_
      obtain ⟨hc1, hw⟩ := hw
      refine c_geti F K hT 6 1 rfl tu_Log (by decide) (by decide) rfl tq_413 (Or.inl rfl) hc1 d_BLg_put_19 ?_
      refine j_imul F d_BLg_put_22 ?_
      obtain ⟨mc_5, ms_6, mc_7, ms_8, ⟨he1, he2⟩, hw⟩ := hw
      refine c_callSr F K hT (c_BAr_copyOfI l hw) (tw_gS tq_414 tq_360 tq_248 tq_361) q_BAr_copyOfI rfl ⟨by decide, by decide⟩ ⟨rm_l hc0 he1, rm_l hn0 he2⟩ rfl (Nat.le_of_ble_eq_true rfl) d_BLg_put_23 (fun r_4 T_3 hw hT => ?_)
      have hc0 := rm_c hc0 he1
      have hn0 := rm_c hn0 he2
      obtain ⟨hc1, hw⟩ := hw
      refine c_putr F K hT 6 0 rfl tu_Log (by decide) (by decide) rfl tq_412 (Or.inl rfl) t_Log t_Log_ok n_Log rfl (ty := .array .int) (by decide +kernel) rfl rfl hc1 d_BLg_put_26 (fun T_9 e_T_9 hT => ?_)
      have hw := hw T_9 e_T_9
      exact B29 _ _ _ _ _ _ _ hc0 hn0 hT hw
  exact key mc ms 0 0 rfl rfl rfl rfl (Nat.zero_add _) (Nat.zero_add _)
theorem tq_415 : (Jvm.Cond.constantLong "LandBook$Log" (44 : Nat) (2147483648 : Int64)) ∈ tw_G := tw_in (List.mem_of_getElem? (i := 745) (by decide +kernel)) rfl
theorem tq_416 : (Jvm.Cond.methodLink "LandBook$Log" (46 : Nat) ({ cls := "java/lang/Math", name := "floorMod", desc := "(JJ)J" } : Jvm.MethodName)) ∈ tw_G := tw_in (List.mem_of_getElem? (i := 746) (by decide +kernel)) rfl
theorem tq_417 : (Jvm.Cond.static ({ cls := "java/lang/Math", name := "floorMod", desc := "(JJ)J" } : Jvm.MethodName)) ∈ tw_G := tw_in (List.mem_of_getElem? (i := 747) (by decide +kernel)) rfl
theorem tq_418 : (Jvm.Cond.code ({ cls := "java/lang/Math", name := "floorMod", desc := "(JJ)J" } : Jvm.MethodName) prog_22_method_52_code (6 : Nat) (Option.some Jvm.ClassFile.FieldType.long)) ∈ tw_G := tw_in (List.mem_of_getElem? (i := 748) (by decide +kernel)) rfl
abbrev y_BLg_sumOf : MethodName := ⟨"LandBook$Log", "sumOf", "(II)I"⟩
theorem q_BLg_sumOf : y_BLg_sumOf.cls = "LandBook$Log" ∧ y_BLg_sumOf.cls ≠ "java/lang/invoke/MethodHandle" ∧ y_BLg_sumOf.cls ≠ "java/lang/invoke/VarHandle" ∧ (parseMethodDescriptor y_BLg_sumOf.desc).map (fun d => d.parameters.length) = some 2 := by decide +kernel
theorem d_BLg_sumOf_0 : decode prog_6_method_6_code 0 = .ok (.lconst 0, 1) := by decide +kernel
theorem d_BLg_sumOf_1 : decode prog_6_method_6_code 1 = .ok (.lstore_n 3, 1) := by decide +kernel
theorem d_BLg_sumOf_2 : decode prog_6_method_6_code 2 = .ok (.iconst 0, 1) := by decide +kernel
theorem d_BLg_sumOf_3 : decode prog_6_method_6_code 3 = .ok (.istore 5, 2) := by decide +kernel
theorem d_BLg_sumOf_5 : decode prog_6_method_6_code 5 = .ok (.iload 5, 2) := by decide +kernel
theorem d_BLg_sumOf_7 : decode prog_6_method_6_code 7 = .ok (.iload_n 2, 1) := by decide +kernel
theorem d_BLg_sumOf_8 : decode prog_6_method_6_code 8 = .ok (.if_icmp .ge 28, 3) := by decide +kernel
theorem d_BLg_sumOf_36 : decode prog_6_method_6_code 36 = .ok (.lload_n 3, 1) := by decide +kernel
theorem d_BLg_sumOf_37 : decode prog_6_method_6_code 37 = .ok (.ldc2_w 44, 3) := by decide +kernel
theorem d_BLg_sumOf_40 : decode prog_6_method_6_code 40 = .ok (.invokestatic 46, 3) := by decide +kernel
theorem d_BLg_sumOf_43 : decode prog_6_method_6_code 43 = .ok (.l2i, 1) := by decide +kernel
theorem d_BLg_sumOf_44 : decode prog_6_method_6_code 44 = .ok (.ireturn, 1) := by decide +kernel
theorem d_BLg_sumOf_11 : decode prog_6_method_6_code 11 = .ok (.lload_n 3, 1) := by decide +kernel
theorem d_BLg_sumOf_12 : decode prog_6_method_6_code 12 = .ok (.aload_n 0, 1) := by decide +kernel
theorem d_BLg_sumOf_13 : decode prog_6_method_6_code 13 = .ok (.getfield 11, 3) := by decide +kernel
theorem d_BLg_sumOf_16 : decode prog_6_method_6_code 16 = .ok (.iload_n 1, 1) := by decide +kernel
theorem d_BLg_sumOf_17 : decode prog_6_method_6_code 17 = .ok (.iload 5, 2) := by decide +kernel
theorem d_BLg_sumOf_19 : decode prog_6_method_6_code 19 = .ok (.iadd, 1) := by decide +kernel
theorem d_BLg_sumOf_20 : decode prog_6_method_6_code 20 = .ok (.iaload, 1) := by decide +kernel
theorem d_BLg_sumOf_21 : decode prog_6_method_6_code 21 = .ok (.i2l, 1) := by decide +kernel
theorem d_BLg_sumOf_22 : decode prog_6_method_6_code 22 = .ok (.iload 5, 2) := by decide +kernel
theorem d_BLg_sumOf_24 : decode prog_6_method_6_code 24 = .ok (.iconst 1, 1) := by decide +kernel
theorem d_BLg_sumOf_25 : decode prog_6_method_6_code 25 = .ok (.iadd, 1) := by decide +kernel
theorem d_BLg_sumOf_26 : decode prog_6_method_6_code 26 = .ok (.i2l, 1) := by decide +kernel
theorem d_BLg_sumOf_27 : decode prog_6_method_6_code 27 = .ok (.lmul, 1) := by decide +kernel
theorem d_BLg_sumOf_28 : decode prog_6_method_6_code 28 = .ok (.ladd, 1) := by decide +kernel
theorem d_BLg_sumOf_29 : decode prog_6_method_6_code 29 = .ok (.lstore_n 3, 1) := by decide +kernel
theorem d_BLg_sumOf_30 : decode prog_6_method_6_code 30 = .ok (.iinc 5 1, 3) := by decide +kernel
theorem d_BLg_sumOf_33 : decode prog_6_method_6_code 33 = .ok (.goto (-28), 3) := by decide +kernel
def wp_BLg_sumOf_5 (post : Int → CS → Prop) : Nat → Nat → Int → Int → Int → Int → CS → Prop
  | 0, _, _, _, _, _, _ => False
  | n + 1, v0, v1, v2, v3, v5, T => inR v5 ∧ inR v2 ∧ (v2 ≤ v5 → (wp_BMa_fmodl (fun r_1 => post r_1 T) v3 2147483648)) ∧ (¬ (v2 ≤ v5) → (tg T v0 = 6 ∧ ∃ q_2 : Nat, fo T v0 0 = some q_2 ∧ (tg T q_2 = 11 ∧ ixR (v1 + v5) (ln T q_2) ∧ (inR (fi T q_2 (v1 + v5).toNat) ∧ (inR (v5 + 1) ∧ (∀ v3_3 : Int, v3_3 = (v3 + ((fi T q_2 (v1 + v5).toNat) * (v5 + 1))) → (wp_BLg_sumOf_5 post n) v0 v1 v2 v3_3 (v5 + 1) T))))))
def wp_BLg_sumOf (post : Int → CS → Prop) (v0 : Nat) (v1 : Int) (v2 : Int) (T : CS) : Prop := ∃ nn : Nat, wp_BLg_sumOf_5 post nn v0 v1 v2 0 0 T
set_option maxHeartbeats 4000000 in
set_option maxRecDepth 100000 in
theorem c_BLg_sumOf (l : Launch) {D : va_G} {k : CK} {post : Int → CS → Prop} {v0 : Nat} {v1 : Int} {v2 : Int} {T : CS} (hw : wp_BLg_sumOf post v0 v1 v2 T) : jCi l D k y_BLg_sumOf prog_6_method_6_code 6 (some .int) 1 25 0 0 T [.ref v0, vi v1, vi v2] post := by
  refine j_coi (own := "LandBook$Log") (by decide) rfl (Nat.le_of_ble_eq_true rfl) (fun X F K hT hret => ?_)
  have B5 : ∀ (nn : Nat) (v0 : Nat) (v1 : Int) (v2 : Int) (v3 : Int) (v5 : Int) (T : CS), cs_ok k T → wp_BLg_sumOf_5 post nn v0 v1 v2 v3 v5 T → jat l D X 6 5 [(0, .ref v0), (1, vi v1), (2, vi v2), (3, vl v3), (5, vi v5)] [] (cwd k T) 0 0 := by
    intro nn
    induction nn with
    | zero => intro v0 v1 v2 v3 v5 T hT hw; exact hw.elim
    | succ n5 ih5 =>
      intro v0 v1 v2 v3 v5 T hT hw
      unfold wp_BLg_sumOf_5 at hw
      refine j_iload F 4 d_BLg_sumOf_5 rfl ?_
      refine j_iload_n F 2 d_BLg_sumOf_7 rfl ?_
      obtain ⟨hc1, hc2, hwt, hwf⟩ := hw
      refine j_icmp_ge F 36 hc1 hc2 d_BLg_sumOf_8 rfl (fun hh => ?_) (fun hh => ?_)
      · have hw := hwt hh
        refine j_lload_n F 3 d_BLg_sumOf_36 rfl ?_
        refine j_ldc2 (x := 2147483648) F tq_415 (by decide) d_BLg_sumOf_37 ?_
        refine j_callSl F (c_BMa_fmodl l hw) (tw_gS tq_416 tq_417 tq_99 tq_418) q_BMa_fmodl rfl ⟨by decide, by decide⟩ ⟨by omega, by omega⟩ rfl (Nat.le_of_ble_eq_true rfl) d_BLg_sumOf_40 (fun r_1 hw => ?_)
        refine j_l2i F d_BLg_sumOf_43 ?_
        exact hret _ _ _ _ _ _ hw hT (by omega) (by omega) d_BLg_sumOf_44
      · have hw := hwf hh
        refine j_lload_n F 3 d_BLg_sumOf_11 rfl ?_
        refine j_aload_n F 0 d_BLg_sumOf_12 rfl ?_
        obtain ⟨hc1, q_2, hc2, hw⟩ := hw
        refine c_getr F K hT 6 0 rfl tu_Log (by decide) (by decide) rfl tq_412 (Or.inl rfl) hc1 hc2 d_BLg_sumOf_13 ?_
        refine j_iload_n F 1 d_BLg_sumOf_16 rfl ?_
        refine j_iload F 4 d_BLg_sumOf_17 rfl ?_
        refine j_iadd F d_BLg_sumOf_19 ?_
        obtain ⟨hc1, hc2, hw⟩ := hw
        refine c_iald F K hT hc1 hc2 d_BLg_sumOf_20 ?_
        obtain ⟨hc1, hw⟩ := hw
        refine j_i2l F hc1 d_BLg_sumOf_21 ?_
        refine j_iload F 4 d_BLg_sumOf_22 rfl ?_
        refine j_iconst F d_BLg_sumOf_24 ?_
        refine j_iadd F d_BLg_sumOf_25 ?_
        obtain ⟨hc1, hw⟩ := hw
        refine j_i2l F hc1 d_BLg_sumOf_26 ?_
        refine j_lmul F d_BLg_sumOf_27 ?_
        refine j_ladd F d_BLg_sumOf_28 ?_
        refine j_nml (fun v3_3 e_v3_3 => ?_)
        have hw := hw v3_3 e_v3_3
        refine j_lstore_n F [(3, vl v3_3), (0, .ref v0), (1, vi v1), (2, vi v2), (5, vi v5)] d_BLg_sumOf_29 (by decide) rfl ?_
        refine j_iinc F 4 [(5, vi (v5 + 1)), (3, vl v3_3), (0, .ref v0), (1, vi v1), (2, vi v2)] d_BLg_sumOf_30 rfl (by decide) rfl ?_
        refine j_goto F 5 d_BLg_sumOf_33 rfl ?_
        refine j_sub [2, 3, 4, 1, 0] rfl ?_
        exact ih5 _ _ _ _ _ _ hT hw
  unfold wp_BLg_sumOf at hw
  show jat l D X 6 0 [(0, .ref v0), (1, vi v1), (2, vi v2)] [] (cwd k T) 0 0
  refine j_lconst (x := 0) F d_BLg_sumOf_0 (by decide) ?_
  refine j_lstore_n F [(3, vl 0), (0, .ref v0), (1, vi v1), (2, vi v2)] d_BLg_sumOf_1 (by decide) rfl ?_
  refine j_iconst F d_BLg_sumOf_2 ?_
  refine j_istore F [(5, vi 0), (3, vl 0), (0, .ref v0), (1, vi v1), (2, vi v2)] d_BLg_sumOf_3 (by decide) rfl ?_
  refine j_sub [2, 3, 4, 1, 0] rfl ?_
  obtain ⟨nn, hw⟩ := hw
  exact B5 nn _ _ _ _ _ _ hT hw
theorem tq_419 : (Jvm.Cond.fieldLink "LandBook$Log" (19 : Nat) "LandBook$Deed" "kind" "I") ∈ tw_G := tw_in (List.mem_of_getElem? (i := 687) (by decide +kernel)) rfl
theorem tq_420 : (Jvm.Cond.constant "LandBook$Log" (24 : Nat) (65536 : Int32)) ∈ tw_G := tw_in (List.mem_of_getElem? (i := 725) (by decide +kernel)) rfl
theorem tq_421 : (Jvm.Cond.methodLink "LandBook$Log" (25 : Nat) ({ cls := "LandBook$Log", name := "put", desc := "(I)V" } : Jvm.MethodName)) ∈ tw_G := tw_in (List.mem_of_getElem? (i := 726) (by decide +kernel)) rfl
theorem tq_422 : (Jvm.Cond.instanceMethod ({ cls := "LandBook$Log", name := "put", desc := "(I)V" } : Jvm.MethodName)) ∈ tw_G := tw_in (List.mem_of_getElem? (i := 728) (by decide +kernel)) rfl
theorem tq_423 : (Jvm.Cond.selects "LandBook$Log" ⟨"LandBook$Log", "put", "(I)V"⟩ ⟨"LandBook$Log", "put", "(I)V"⟩) ∈ tw_G := tw_in (List.mem_of_getElem? (i := 12) (by decide +kernel)) rfl
theorem tq_424 : (Jvm.Cond.initialized "LandBook$Log") ∈ tw_G := tw_in (List.mem_of_getElem? (i := 68) (by decide +kernel)) rfl
theorem tq_425 : (Jvm.Cond.code ({ cls := "LandBook$Log", name := "put", desc := "(I)V" } : Jvm.MethodName) prog_6_method_5_code (2 : Nat) (Option.none : Option Jvm.ClassFile.FieldType)) ∈ tw_G := tw_in (List.mem_of_getElem? (i := 729) (by decide +kernel)) rfl
theorem tq_426 : (Jvm.Cond.constant "LandBook$Log" (29 : Nat) (32768 : Int32)) ∈ tw_G := tw_in (List.mem_of_getElem? (i := 740) (by decide +kernel)) rfl
theorem tq_427 : (Jvm.Cond.fieldLink "LandBook$Log" (30 : Nat) "LandBook$Deed" "day" "I") ∈ tw_G := tw_in (List.mem_of_getElem? (i := 690) (by decide +kernel)) rfl
theorem tq_428 : (Jvm.Cond.methodLink "LandBook$Log" (33 : Nat) ({ cls := "LandBook$Log", name := "sumOf", desc := "(II)I" } : Jvm.MethodName)) ∈ tw_G := tw_in (List.mem_of_getElem? (i := 741) (by decide +kernel)) rfl
theorem tq_429 : (Jvm.Cond.instanceMethod ({ cls := "LandBook$Log", name := "sumOf", desc := "(II)I" } : Jvm.MethodName)) ∈ tw_G := tw_in (List.mem_of_getElem? (i := 743) (by decide +kernel)) rfl
theorem tq_430 : (Jvm.Cond.selects "LandBook$Log" ⟨"LandBook$Log", "sumOf", "(II)I"⟩ ⟨"LandBook$Log", "sumOf", "(II)I"⟩) ∈ tw_G := tw_in (List.mem_of_getElem? (i := 13) (by decide +kernel)) rfl
theorem tq_431 : (Jvm.Cond.code ({ cls := "LandBook$Log", name := "sumOf", desc := "(II)I" } : Jvm.MethodName) prog_6_method_6_code (6 : Nat) (Option.some Jvm.ClassFile.FieldType.int)) ∈ tw_G := tw_in (List.mem_of_getElem? (i := 744) (by decide +kernel)) rfl
theorem tq_432 : (Jvm.Cond.constant "LandBook$Log" (37 : Nat) (-2147483648 : Int32)) ∈ tw_G := tw_in (List.mem_of_getElem? (i := 749) (by decide +kernel)) rfl
abbrev y_BLg_append : MethodName := ⟨"LandBook$Log", "append", "(LLandBook$Deed;I[I)V"⟩
theorem q_BLg_append : y_BLg_append.cls = "LandBook$Log" ∧ y_BLg_append.cls ≠ "java/lang/invoke/MethodHandle" ∧ y_BLg_append.cls ≠ "java/lang/invoke/VarHandle" ∧ (parseMethodDescriptor y_BLg_append.desc).map (fun d => d.parameters.length) = some 3 := by decide +kernel
theorem d_BLg_append_0 : decode prog_6_method_4_code 0 = .ok (.aload_n 0, 1) := by decide +kernel
theorem d_BLg_append_1 : decode prog_6_method_4_code 1 = .ok (.getfield 15, 3) := by decide +kernel
theorem d_BLg_append_4 : decode prog_6_method_4_code 4 = .ok (.istore 4, 2) := by decide +kernel
theorem d_BLg_append_6 : decode prog_6_method_4_code 6 = .ok (.aload_n 3, 1) := by decide +kernel
theorem d_BLg_append_7 : decode prog_6_method_4_code 7 = .ok (.arraylength, 1) := by decide +kernel
theorem d_BLg_append_8 : decode prog_6_method_4_code 8 = .ok (.iconst 2, 1) := by decide +kernel
theorem d_BLg_append_9 : decode prog_6_method_4_code 9 = .ok (.iadd, 1) := by decide +kernel
theorem d_BLg_append_10 : decode prog_6_method_4_code 10 = .ok (.istore 5, 2) := by decide +kernel
theorem d_BLg_append_12 : decode prog_6_method_4_code 12 = .ok (.aload_n 0, 1) := by decide +kernel
theorem d_BLg_append_13 : decode prog_6_method_4_code 13 = .ok (.aload_n 1, 1) := by decide +kernel
theorem d_BLg_append_14 : decode prog_6_method_4_code 14 = .ok (.getfield 19, 3) := by decide +kernel
theorem d_BLg_append_17 : decode prog_6_method_4_code 17 = .ok (.ldc 24, 2) := by decide +kernel
theorem d_BLg_append_19 : decode prog_6_method_4_code 19 = .ok (.imul, 1) := by decide +kernel
theorem d_BLg_append_20 : decode prog_6_method_4_code 20 = .ok (.iload 5, 2) := by decide +kernel
theorem d_BLg_append_22 : decode prog_6_method_4_code 22 = .ok (.iadd, 1) := by decide +kernel
theorem d_BLg_append_23 : decode prog_6_method_4_code 23 = .ok (.invokevirtual 25, 3) := by decide +kernel
theorem d_BLg_append_26 : decode prog_6_method_4_code 26 = .ok (.aload_n 0, 1) := by decide +kernel
theorem d_BLg_append_27 : decode prog_6_method_4_code 27 = .ok (.iload_n 2, 1) := by decide +kernel
theorem d_BLg_append_28 : decode prog_6_method_4_code 28 = .ok (.ldc 29, 2) := by decide +kernel
theorem d_BLg_append_30 : decode prog_6_method_4_code 30 = .ok (.imul, 1) := by decide +kernel
theorem d_BLg_append_31 : decode prog_6_method_4_code 31 = .ok (.aload_n 1, 1) := by decide +kernel
theorem d_BLg_append_32 : decode prog_6_method_4_code 32 = .ok (.getfield 30, 3) := by decide +kernel
theorem d_BLg_append_35 : decode prog_6_method_4_code 35 = .ok (.iadd, 1) := by decide +kernel
theorem d_BLg_append_36 : decode prog_6_method_4_code 36 = .ok (.invokevirtual 25, 3) := by decide +kernel
theorem d_BLg_append_39 : decode prog_6_method_4_code 39 = .ok (.aload_n 3, 1) := by decide +kernel
theorem d_BLg_append_40 : decode prog_6_method_4_code 40 = .ok (.astore 6, 2) := by decide +kernel
theorem d_BLg_append_42 : decode prog_6_method_4_code 42 = .ok (.aload 6, 2) := by decide +kernel
theorem d_BLg_append_44 : decode prog_6_method_4_code 44 = .ok (.arraylength, 1) := by decide +kernel
theorem d_BLg_append_45 : decode prog_6_method_4_code 45 = .ok (.istore 7, 2) := by decide +kernel
theorem d_BLg_append_47 : decode prog_6_method_4_code 47 = .ok (.iconst 0, 1) := by decide +kernel
theorem d_BLg_append_48 : decode prog_6_method_4_code 48 = .ok (.istore 8, 2) := by decide +kernel
theorem d_BLg_append_50 : decode prog_6_method_4_code 50 = .ok (.iload 8, 2) := by decide +kernel
theorem d_BLg_append_52 : decode prog_6_method_4_code 52 = .ok (.iload 7, 2) := by decide +kernel
theorem d_BLg_append_54 : decode prog_6_method_4_code 54 = .ok (.if_icmp .ge 22, 3) := by decide +kernel
theorem d_BLg_append_76 : decode prog_6_method_4_code 76 = .ok (.aload_n 0, 1) := by decide +kernel
theorem d_BLg_append_77 : decode prog_6_method_4_code 77 = .ok (.iload 4, 2) := by decide +kernel
theorem d_BLg_append_79 : decode prog_6_method_4_code 79 = .ok (.iload 5, 2) := by decide +kernel
theorem d_BLg_append_81 : decode prog_6_method_4_code 81 = .ok (.invokevirtual 33, 3) := by decide +kernel
theorem d_BLg_append_84 : decode prog_6_method_4_code 84 = .ok (.istore 6, 2) := by decide +kernel
theorem d_BLg_append_86 : decode prog_6_method_4_code 86 = .ok (.aload_n 0, 1) := by decide +kernel
theorem d_BLg_append_87 : decode prog_6_method_4_code 87 = .ok (.ldc 37, 2) := by decide +kernel
theorem d_BLg_append_89 : decode prog_6_method_4_code 89 = .ok (.iload 5, 2) := by decide +kernel
theorem d_BLg_append_91 : decode prog_6_method_4_code 91 = .ok (.iadd, 1) := by decide +kernel
theorem d_BLg_append_92 : decode prog_6_method_4_code 92 = .ok (.invokevirtual 25, 3) := by decide +kernel
theorem d_BLg_append_95 : decode prog_6_method_4_code 95 = .ok (.aload_n 0, 1) := by decide +kernel
theorem d_BLg_append_96 : decode prog_6_method_4_code 96 = .ok (.ldc 37, 2) := by decide +kernel
theorem d_BLg_append_98 : decode prog_6_method_4_code 98 = .ok (.iload 6, 2) := by decide +kernel
theorem d_BLg_append_100 : decode prog_6_method_4_code 100 = .ok (.iadd, 1) := by decide +kernel
theorem d_BLg_append_101 : decode prog_6_method_4_code 101 = .ok (.invokevirtual 25, 3) := by decide +kernel
theorem d_BLg_append_104 : decode prog_6_method_4_code 104 = .ok (.return_, 1) := by decide +kernel
theorem d_BLg_append_57 : decode prog_6_method_4_code 57 = .ok (.aload 6, 2) := by decide +kernel
theorem d_BLg_append_59 : decode prog_6_method_4_code 59 = .ok (.iload 8, 2) := by decide +kernel
theorem d_BLg_append_61 : decode prog_6_method_4_code 61 = .ok (.iaload, 1) := by decide +kernel
theorem d_BLg_append_62 : decode prog_6_method_4_code 62 = .ok (.istore 9, 2) := by decide +kernel
theorem d_BLg_append_64 : decode prog_6_method_4_code 64 = .ok (.aload_n 0, 1) := by decide +kernel
theorem d_BLg_append_65 : decode prog_6_method_4_code 65 = .ok (.iload 9, 2) := by decide +kernel
theorem d_BLg_append_67 : decode prog_6_method_4_code 67 = .ok (.invokevirtual 25, 3) := by decide +kernel
theorem d_BLg_append_70 : decode prog_6_method_4_code 70 = .ok (.iinc 8 1, 3) := by decide +kernel
theorem d_BLg_append_73 : decode prog_6_method_4_code 73 = .ok (.goto (-23), 3) := by decide +kernel
def wp_BLg_append_50 (post : CS → Prop) : Nat → Nat → Nat → Nat → Int → Int → Nat → Int → Int → CS → Prop
  | 0, _, _, _, _, _, _, _, _, _ => False
  | n + 1, mc0, ms0, v0, v4, v5, v6, v7, v8, T => inR v8 ∧ inR v7 ∧ (v7 ≤ v8 → (tg T v0 = 6 ∧ wp_BLg_sumOf (fun r_2 T_1 => ∃ mc_5 ms_6 mc_7 ms_8 : Nat, (mc0 = mc_5 + mc_7 ∧ ms0 = ms_6 + ms_8) ∧ tg T_1 v0 = 6 ∧ wp_BLg_put (fun T_3 => ∃ mc_11 ms_12 mc_13 ms_14 : Nat, (mc_7 = mc_11 + mc_13 ∧ ms_8 = ms_12 + ms_14) ∧ tg T_3 v0 = 6 ∧ wp_BLg_put (fun T_9 => post T_9) mc_11 ms_12 v0 ((-2147483648) + r_2) T_3) mc_5 ms_6 v0 ((-2147483648) + v5) T_1) v0 v4 v5 T)) ∧ (¬ (v7 ≤ v8) → (tg T v6 = 11 ∧ ixR v8 (ln T v6) ∧ (∀ v9_15 : Int, v9_15 = (fi T v6 v8.toNat) → ∃ mc_18 ms_19 mc_20 ms_21 : Nat, (mc0 = mc_18 + mc_20 ∧ ms0 = ms_19 + ms_21) ∧ tg T v0 = 6 ∧ wp_BLg_put (fun T_16 => (wp_BLg_append_50 post n) mc_20 ms_21 v0 v4 v5 v6 v7 (v8 + 1) T_16) mc_18 ms_19 v0 v9_15 T)))
def wp_BLg_append (post : CS → Prop) (mc0 ms0 : Nat) (v0 : Nat) (v1 : Nat) (v2 : Int) (v3 : Nat) (T : CS) : Prop := tg T v0 = 6 ∧ (∀ v4_1 : Int, v4_1 = (fi T v0 1) → tg T v3 = 11 ∧ (∀ v5_2 : Int, v5_2 = ((ln T v3 : Int) + 2) → tg T v1 = 8 ∧ (∃ mc_5 ms_6 mc_7 ms_8 : Nat, (mc0 = mc_5 + mc_7 ∧ ms0 = ms_6 + ms_8) ∧ tg T v0 = 6 ∧ wp_BLg_put (fun T_3 => tg T_3 v1 = 8 ∧ (∃ mc_11 ms_12 mc_13 ms_14 : Nat, (mc_7 = mc_11 + mc_13 ∧ ms_8 = ms_12 + ms_14) ∧ tg T_3 v0 = 6 ∧ wp_BLg_put (fun T_9 => tg T_9 v3 = 11 ∧ (∀ v7_15 : Int, v7_15 = (ln T_9 v3 : Int) → ∃ nn : Nat, wp_BLg_append_50 post nn mc_13 ms_14 v0 v4_1 v5_2 v3 v7_15 0 T_9)) mc_11 ms_12 v0 ((v2 * 32768) + (fi T_3 v1 1)) T_3)) mc_5 ms_6 v0 (((fi T v1 0) * 65536) + v5_2) T)))
set_option maxHeartbeats 4000000 in
set_option maxRecDepth 100000 in
theorem c_BLg_append (l : Launch) {D : va_G} {k : CK} {post : CS → Prop} {mc ms : Nat} {v0 : Nat} {v1 : Nat} {v2 : Int} {v3 : Nat} {T : CS} (hw : wp_BLg_append post mc ms v0 v1 v2 v3 T) : jCv l D k y_BLg_append prog_6_method_4_code 10 none 3 103 mc ms T [.ref v0, .ref v1, vi v2, .ref v3] post := by
  refine j_cov (own := "LandBook$Log") (by decide) rfl (Nat.le_of_ble_eq_true rfl) (fun X F K hT hret => ?_)
  have B50 : ∀ (nn : Nat) (mc0 : Nat) (ms0 : Nat) (v0 : Nat) (v4 : Int) (v5 : Int) (v6 : Nat) (v7 : Int) (v8 : Int) (T : CS) (c0 n0 : Nat), c0 + mc0 = mc → n0 + ms0 = ms → cs_ok k T → wp_BLg_append_50 post nn mc0 ms0 v0 v4 v5 v6 v7 v8 T → jat l D X 10 50 [(0, .ref v0), (4, vi v4), (5, vi v5), (6, .ref v6), (7, vi v7), (8, vi v8)] [] (cwd k T) c0 n0 := by
    intro nn
    induction nn with
    | zero => intro mc0 ms0 v0 v4 v5 v6 v7 v8 T c0 n0 hc0 hn0 hT hw; exact hw.elim
    | succ n50 ih50 =>
      intro mc0 ms0 v0 v4 v5 v6 v7 v8 T c0 n0 hc0 hn0 hT hw
      unfold wp_BLg_append_50 at hw
      refine j_iload F 5 d_BLg_append_50 rfl ?_
      refine j_iload F 4 d_BLg_append_52 rfl ?_
      obtain ⟨hc1, hc2, hwt, hwf⟩ := hw
      refine j_icmp_ge F 76 hc1 hc2 d_BLg_append_54 rfl (fun hh => ?_) (fun hh => ?_)
      · have hw := hwt hh
        refine j_aload_n F 0 d_BLg_append_76 rfl ?_
        refine j_iload F 1 d_BLg_append_77 rfl ?_
        refine j_iload F 2 d_BLg_append_79 rfl ?_
        obtain ⟨hg1, hw⟩ := hw
        refine c_callVi F K hT (c_BLg_sumOf l hw) (tw_gV tq_428 tq_429 tq_430 tq_424 tq_431) 6 rfl (by decide) hg1 q_BLg_sumOf rfl ⟨by decide, by decide⟩ ⟨rm_z hc0, rm_z hn0⟩ rfl (Nat.le_of_ble_eq_true rfl) d_BLg_append_81 (fun r_2 T_1 hw hT => ?_)
        refine j_istore F [(6, vi r_2), (0, .ref v0), (4, vi v4), (5, vi v5), (7, vi v7), (8, vi v8)] d_BLg_append_84 (by decide) rfl ?_
        refine j_aload_n F 1 d_BLg_append_86 rfl ?_
        refine j_ldc (x := (-2147483648)) F tq_432 (by decide) d_BLg_append_87 ?_
        refine j_iload F 3 d_BLg_append_89 rfl ?_
        refine j_iadd F d_BLg_append_91 ?_
        obtain ⟨mc_5, ms_6, mc_7, ms_8, ⟨he1, he2⟩, hw⟩ := hw
        obtain ⟨hg1, hw⟩ := hw
        refine c_callVv F K hT (c_BLg_put l hw) (tw_gV tq_421 tq_422 tq_423 tq_424 tq_425) 6 rfl (by decide) hg1 q_BLg_put rfl ⟨by decide, by decide⟩ ⟨rm_l hc0 he1, rm_l hn0 he2⟩ rfl (Nat.le_of_ble_eq_true rfl) d_BLg_append_92 (fun T_3 hw hT => ?_)
        have hc0 := rm_c hc0 he1
        have hn0 := rm_c hn0 he2
        refine j_aload_n F 1 d_BLg_append_95 rfl ?_
        refine j_ldc (x := (-2147483648)) F tq_432 (by decide) d_BLg_append_96 ?_
        refine j_iload F 0 d_BLg_append_98 rfl ?_
        refine j_iadd F d_BLg_append_100 ?_
        obtain ⟨mc_11, ms_12, mc_13, ms_14, ⟨he1, he2⟩, hw⟩ := hw
        obtain ⟨hg1, hw⟩ := hw
        refine c_callVv F K hT (c_BLg_put l hw) (tw_gV tq_421 tq_422 tq_423 tq_424 tq_425) 6 rfl (by decide) hg1 q_BLg_put rfl ⟨by decide, by decide⟩ ⟨rm_l hc0 he1, rm_l hn0 he2⟩ rfl (Nat.le_of_ble_eq_true rfl) d_BLg_append_101 (fun T_9 hw hT => ?_)
        have hc0 := rm_c hc0 he1
        have hn0 := rm_c hn0 he2
        exact hret _ _ _ _ _ hw hT (rm_y hc0) (rm_y hn0) d_BLg_append_104
      · have hw := hwf hh
        refine j_aload F 3 d_BLg_append_57 rfl ?_
        refine j_iload F 5 d_BLg_append_59 rfl ?_
        obtain ⟨hc1, hc2, hw⟩ := hw
        refine c_iald F K hT hc1 hc2 d_BLg_append_61 ?_
        refine j_nmi (fun v9_15 e_v9_15 => ?_)
        have hw := hw v9_15 e_v9_15
        refine j_istore F [(9, vi v9_15), (0, .ref v0), (4, vi v4), (5, vi v5), (6, .ref v6), (7, vi v7), (8, vi v8)] d_BLg_append_62 (by decide) rfl ?_
        refine j_aload_n F 1 d_BLg_append_64 rfl ?_
        refine j_iload F 0 d_BLg_append_65 rfl ?_
        obtain ⟨mc_18, ms_19, mc_20, ms_21, ⟨he1, he2⟩, hw⟩ := hw
        obtain ⟨hg1, hw⟩ := hw
        refine c_callVv F K hT (c_BLg_put l hw) (tw_gV tq_421 tq_422 tq_423 tq_424 tq_425) 6 rfl (by decide) hg1 q_BLg_put rfl ⟨by decide, by decide⟩ ⟨rm_l hc0 he1, rm_l hn0 he2⟩ rfl (Nat.le_of_ble_eq_true rfl) d_BLg_append_67 (fun T_16 hw hT => ?_)
        have hc0 := rm_c hc0 he1
        have hn0 := rm_c hn0 he2
        refine j_iinc F 6 [(8, vi (v8 + 1)), (9, vi v9_15), (0, .ref v0), (4, vi v4), (5, vi v5), (6, .ref v6), (7, vi v7)] d_BLg_append_70 rfl (by decide) rfl ?_
        refine j_goto F 50 d_BLg_append_73 rfl ?_
        refine j_sub [2, 3, 4, 5, 6, 0] rfl ?_
        exact ih50 _ _ _ _ _ _ _ _ _ _ _ hc0 hn0 hT hw
  unfold wp_BLg_append at hw
  have key : ∀ (mc0 ms0 c0 n0 : Nat), mc0 = mc → ms0 = ms → c0 = 0 → n0 = 0 → c0 + mc0 = mc → n0 + ms0 = ms → jat l D X 10 0 [(0, .ref v0), (1, .ref v1), (2, vi v2), (3, .ref v3)] [] (cwd k T) c0 n0 := by
    intro mc0 ms0 c0 n0 hm1 hm2 hz1 hz2 hc0 hn0
    subst hm1; subst hm2
    clear hz1 hz2
    refine j_aload_n F 0 d_BLg_append_0 rfl ?_
    obtain ⟨hc1, hw⟩ := hw
    refine c_geti F K hT 6 1 rfl tu_Log (by decide) (by decide) rfl tq_413 (Or.inl rfl) hc1 d_BLg_append_1 ?_
    refine j_nmi (fun v4_1 e_v4_1 => ?_)
    have hw := hw v4_1 e_v4_1
    refine j_istore F [(4, vi v4_1), (0, .ref v0), (1, .ref v1), (2, vi v2), (3, .ref v3)] d_BLg_append_4 (by decide) rfl ?_
    refine j_aload_n F 4 d_BLg_append_6 rfl ?_
    obtain ⟨hc1, hw⟩ := hw
    refine c_alen11 F K hT hc1 d_BLg_append_7 ?_
    refine j_iconst F d_BLg_append_8 ?_
    refine j_iadd F d_BLg_append_9 ?_
    refine j_nmi (fun v5_2 e_v5_2 => ?_)
    have hw := hw v5_2 e_v5_2
    refine j_istore F [(5, vi v5_2), (4, vi v4_1), (0, .ref v0), (1, .ref v1), (2, vi v2), (3, .ref v3)] d_BLg_append_10 (by decide) rfl ?_
    refine j_aload_n F 2 d_BLg_append_12 rfl ?_
    refine j_aload_n F 3 d_BLg_append_13 rfl ?_
    obtain ⟨hc1, hw⟩ := hw
    refine c_geti F K hT 8 0 rfl tu_Deed (by decide) (by decide) rfl tq_419 (Or.inl rfl) hc1 d_BLg_append_14 ?_
    refine j_ldc (x := 65536) F tq_420 (by decide) d_BLg_append_17 ?_
    refine j_imul F d_BLg_append_19 ?_
    refine j_iload F 0 d_BLg_append_20 rfl ?_
    refine j_iadd F d_BLg_append_22 ?_
    obtain ⟨mc_5, ms_6, mc_7, ms_8, ⟨he1, he2⟩, hw⟩ := hw
    obtain ⟨hg1, hw⟩ := hw
    refine c_callVv F K hT (c_BLg_put l hw) (tw_gV tq_421 tq_422 tq_423 tq_424 tq_425) 6 rfl (by decide) hg1 q_BLg_put rfl ⟨by decide, by decide⟩ ⟨rm_l hc0 he1, rm_l hn0 he2⟩ rfl (Nat.le_of_ble_eq_true rfl) d_BLg_append_23 (fun T_3 hw hT => ?_)
    have hc0 := rm_c hc0 he1
    have hn0 := rm_c hn0 he2
    refine j_aload_n F 2 d_BLg_append_26 rfl ?_
    refine j_iload_n F 4 d_BLg_append_27 rfl ?_
    refine j_ldc (x := 32768) F tq_426 (by decide) d_BLg_append_28 ?_
    refine j_imul F d_BLg_append_30 ?_
    refine j_aload_n F 3 d_BLg_append_31 rfl ?_
    obtain ⟨hc1, hw⟩ := hw
    refine c_geti F K hT 8 1 rfl tu_Deed (by decide) (by decide) rfl tq_427 (Or.inl rfl) hc1 d_BLg_append_32 ?_
    refine j_iadd F d_BLg_append_35 ?_
    obtain ⟨mc_11, ms_12, mc_13, ms_14, ⟨he1, he2⟩, hw⟩ := hw
    obtain ⟨hg1, hw⟩ := hw
    refine c_callVv F K hT (c_BLg_put l hw) (tw_gV tq_421 tq_422 tq_423 tq_424 tq_425) 6 rfl (by decide) hg1 q_BLg_put rfl ⟨by decide, by decide⟩ ⟨rm_l hc0 he1, rm_l hn0 he2⟩ rfl (Nat.le_of_ble_eq_true rfl) d_BLg_append_36 (fun T_9 hw hT => ?_)
    have hc0 := rm_c hc0 he1
    have hn0 := rm_c hn0 he2
    refine j_aload_n F 5 d_BLg_append_39 rfl ?_
    refine j_astore F [(6, .ref v3), (5, vi v5_2), (4, vi v4_1), (0, .ref v0), (1, .ref v1), (2, vi v2), (3, .ref v3)] d_BLg_append_40 (by decide) rfl ?_
    refine j_aload F 0 d_BLg_append_42 rfl ?_
    obtain ⟨hc1, hw⟩ := hw
    refine c_alen11 F K hT hc1 d_BLg_append_44 ?_
    refine j_nmi (fun v7_15 e_v7_15 => ?_)
    have hw := hw v7_15 e_v7_15
    refine j_istore F [(7, vi v7_15), (6, .ref v3), (5, vi v5_2), (4, vi v4_1), (0, .ref v0), (1, .ref v1), (2, vi v2), (3, .ref v3)] d_BLg_append_45 (by decide) rfl ?_
    refine j_iconst F d_BLg_append_47 ?_
    refine j_istore F [(8, vi 0), (7, vi v7_15), (6, .ref v3), (5, vi v5_2), (4, vi v4_1), (0, .ref v0), (1, .ref v1), (2, vi v2), (3, .ref v3)] d_BLg_append_48 (by decide) rfl ?_
    refine j_sub [5, 4, 3, 2, 1, 0] rfl ?_
    obtain ⟨nn, hw⟩ := hw
    exact B50 nn _ _ _ _ _ _ _ _ _ _ _ hc0 hn0 hT hw
  exact key mc ms 0 0 rfl rfl rfl rfl (Nat.zero_add _) (Nat.zero_add _)
abbrev y_BLg_recordLength : MethodName := ⟨"LandBook$Log", "recordLength", "(I)I"⟩
theorem q_BLg_recordLength : y_BLg_recordLength.cls = "LandBook$Log" ∧ y_BLg_recordLength.cls ≠ "java/lang/invoke/MethodHandle" ∧ y_BLg_recordLength.cls ≠ "java/lang/invoke/VarHandle" ∧ (parseMethodDescriptor y_BLg_recordLength.desc).map (fun d => d.parameters.length) = some 1 := by decide +kernel
theorem d_BLg_recordLength_0 : decode prog_6_method_7_code 0 = .ok (.aload_n 0, 1) := by decide +kernel
theorem d_BLg_recordLength_1 : decode prog_6_method_7_code 1 = .ok (.getfield 11, 3) := by decide +kernel
theorem d_BLg_recordLength_4 : decode prog_6_method_7_code 4 = .ok (.iload_n 1, 1) := by decide +kernel
theorem d_BLg_recordLength_5 : decode prog_6_method_7_code 5 = .ok (.iaload, 1) := by decide +kernel
theorem d_BLg_recordLength_6 : decode prog_6_method_7_code 6 = .ok (.ldc 24, 2) := by decide +kernel
theorem d_BLg_recordLength_8 : decode prog_6_method_7_code 8 = .ok (.irem, 1) := by decide +kernel
theorem d_BLg_recordLength_9 : decode prog_6_method_7_code 9 = .ok (.istore_n 2, 1) := by decide +kernel
theorem d_BLg_recordLength_10 : decode prog_6_method_7_code 10 = .ok (.iload_n 2, 1) := by decide +kernel
theorem d_BLg_recordLength_11 : decode prog_6_method_7_code 11 = .ok (.iconst 2, 1) := by decide +kernel
theorem d_BLg_recordLength_12 : decode prog_6_method_7_code 12 = .ok (.if_icmp .lt 15, 3) := by decide +kernel
theorem d_BLg_recordLength_27 : decode prog_6_method_7_code 27 = .ok (.iconst 0, 1) := by decide +kernel
theorem d_BLg_recordLength_28 : decode prog_6_method_7_code 28 = .ok (.ireturn, 1) := by decide +kernel
theorem d_BLg_recordLength_15 : decode prog_6_method_7_code 15 = .ok (.iload_n 2, 1) := by decide +kernel
theorem d_BLg_recordLength_16 : decode prog_6_method_7_code 16 = .ok (.aload_n 0, 1) := by decide +kernel
theorem d_BLg_recordLength_17 : decode prog_6_method_7_code 17 = .ok (.getfield 15, 3) := by decide +kernel
theorem d_BLg_recordLength_20 : decode prog_6_method_7_code 20 = .ok (.iload_n 1, 1) := by decide +kernel
theorem d_BLg_recordLength_21 : decode prog_6_method_7_code 21 = .ok (.isub, 1) := by decide +kernel
theorem d_BLg_recordLength_22 : decode prog_6_method_7_code 22 = .ok (.iconst 2, 1) := by decide +kernel
theorem d_BLg_recordLength_23 : decode prog_6_method_7_code 23 = .ok (.isub, 1) := by decide +kernel
theorem d_BLg_recordLength_24 : decode prog_6_method_7_code 24 = .ok (.if_icmp .le 5, 3) := by decide +kernel
theorem d_BLg_recordLength_29 : decode prog_6_method_7_code 29 = .ok (.aload_n 0, 1) := by decide +kernel
theorem d_BLg_recordLength_30 : decode prog_6_method_7_code 30 = .ok (.getfield 11, 3) := by decide +kernel
theorem d_BLg_recordLength_33 : decode prog_6_method_7_code 33 = .ok (.iload_n 1, 1) := by decide +kernel
theorem d_BLg_recordLength_34 : decode prog_6_method_7_code 34 = .ok (.iload_n 2, 1) := by decide +kernel
theorem d_BLg_recordLength_35 : decode prog_6_method_7_code 35 = .ok (.iadd, 1) := by decide +kernel
theorem d_BLg_recordLength_36 : decode prog_6_method_7_code 36 = .ok (.iaload, 1) := by decide +kernel
theorem d_BLg_recordLength_37 : decode prog_6_method_7_code 37 = .ok (.ldc 37, 2) := by decide +kernel
theorem d_BLg_recordLength_39 : decode prog_6_method_7_code 39 = .ok (.iload_n 2, 1) := by decide +kernel
theorem d_BLg_recordLength_40 : decode prog_6_method_7_code 40 = .ok (.iadd, 1) := by decide +kernel
theorem d_BLg_recordLength_41 : decode prog_6_method_7_code 41 = .ok (.if_icmp .ne 29, 3) := by decide +kernel
theorem d_BLg_recordLength_70 : decode prog_6_method_7_code 70 = .ok (.iconst 0, 1) := by decide +kernel
theorem d_BLg_recordLength_44 : decode prog_6_method_7_code 44 = .ok (.aload_n 0, 1) := by decide +kernel
theorem d_BLg_recordLength_45 : decode prog_6_method_7_code 45 = .ok (.getfield 11, 3) := by decide +kernel
theorem d_BLg_recordLength_48 : decode prog_6_method_7_code 48 = .ok (.iload_n 1, 1) := by decide +kernel
theorem d_BLg_recordLength_49 : decode prog_6_method_7_code 49 = .ok (.iload_n 2, 1) := by decide +kernel
theorem d_BLg_recordLength_50 : decode prog_6_method_7_code 50 = .ok (.iadd, 1) := by decide +kernel
theorem d_BLg_recordLength_51 : decode prog_6_method_7_code 51 = .ok (.iconst 1, 1) := by decide +kernel
theorem d_BLg_recordLength_52 : decode prog_6_method_7_code 52 = .ok (.iadd, 1) := by decide +kernel
theorem d_BLg_recordLength_53 : decode prog_6_method_7_code 53 = .ok (.iaload, 1) := by decide +kernel
theorem d_BLg_recordLength_54 : decode prog_6_method_7_code 54 = .ok (.ldc 37, 2) := by decide +kernel
theorem d_BLg_recordLength_56 : decode prog_6_method_7_code 56 = .ok (.aload_n 0, 1) := by decide +kernel
theorem d_BLg_recordLength_57 : decode prog_6_method_7_code 57 = .ok (.iload_n 1, 1) := by decide +kernel
theorem d_BLg_recordLength_58 : decode prog_6_method_7_code 58 = .ok (.iload_n 2, 1) := by decide +kernel
theorem d_BLg_recordLength_59 : decode prog_6_method_7_code 59 = .ok (.invokevirtual 33, 3) := by decide +kernel
theorem d_BLg_recordLength_62 : decode prog_6_method_7_code 62 = .ok (.iadd, 1) := by decide +kernel
theorem d_BLg_recordLength_63 : decode prog_6_method_7_code 63 = .ok (.if_icmp .ne 7, 3) := by decide +kernel
theorem d_BLg_recordLength_66 : decode prog_6_method_7_code 66 = .ok (.iconst 1, 1) := by decide +kernel
theorem d_BLg_recordLength_67 : decode prog_6_method_7_code 67 = .ok (.goto 4, 3) := by decide +kernel
theorem d_BLg_recordLength_71 : decode prog_6_method_7_code 71 = .ok (.istore_n 3, 1) := by decide +kernel
theorem d_BLg_recordLength_72 : decode prog_6_method_7_code 72 = .ok (.iload_n 3, 1) := by decide +kernel
theorem d_BLg_recordLength_73 : decode prog_6_method_7_code 73 = .ok (.ifCond .eq 9, 3) := by decide +kernel
theorem d_BLg_recordLength_82 : decode prog_6_method_7_code 82 = .ok (.iconst 0, 1) := by decide +kernel
theorem d_BLg_recordLength_83 : decode prog_6_method_7_code 83 = .ok (.ireturn, 1) := by decide +kernel
theorem d_BLg_recordLength_76 : decode prog_6_method_7_code 76 = .ok (.iload_n 2, 1) := by decide +kernel
theorem d_BLg_recordLength_77 : decode prog_6_method_7_code 77 = .ok (.iconst 2, 1) := by decide +kernel
theorem d_BLg_recordLength_78 : decode prog_6_method_7_code 78 = .ok (.iadd, 1) := by decide +kernel
theorem d_BLg_recordLength_79 : decode prog_6_method_7_code 79 = .ok (.goto 4, 3) := by decide +kernel
def wp_BLg_recordLength_71 (post : Int → CS → Prop) (v2 : Int) (s0 : Int) (T : CS) : Prop := inR s0 ∧ (s0 = 0 → post 0 T) ∧ (¬ (s0 = 0) → (post (v2 + 2) T))
def wp_BLg_recordLength (post : Int → CS → Prop) (v0 : Nat) (v1 : Int) (T : CS) : Prop := tg T v0 = 6 ∧ ∃ q_1 : Nat, fo T v0 0 = some q_1 ∧ (tg T q_1 = 11 ∧ ixR v1 (ln T q_1) ∧ (dvR (fi T q_1 v1.toNat) 65536 ∧ (∀ v2_2 : Int, v2_2 = ((fi T q_1 v1.toNat) % 65536) → inR v2_2 ∧ (v2_2 < 2 → post 0 T) ∧ (¬ (v2_2 < 2) → (tg T v0 = 6 ∧ (inR v2_2 ∧ inR (((fi T v0 1) - v1) - 2) ∧ (v2_2 ≤ (((fi T v0 1) - v1) - 2) → (tg T v0 = 6 ∧ ∃ q_3 : Nat, fo T v0 0 = some q_3 ∧ (tg T q_3 = 11 ∧ ixR (v1 + v2_2) (ln T q_3) ∧ (inR (fi T q_3 (v1 + v2_2).toNat) ∧ inR ((-2147483648) + v2_2) ∧ (¬ ((fi T q_3 (v1 + v2_2).toNat) = ((-2147483648) + v2_2)) → wp_BLg_recordLength_71 post v2_2 0 T) ∧ ((fi T q_3 (v1 + v2_2).toNat) = ((-2147483648) + v2_2) → (tg T v0 = 6 ∧ ∃ q_4 : Nat, fo T v0 0 = some q_4 ∧ (tg T q_4 = 11 ∧ ixR ((v1 + v2_2) + 1) (ln T q_4) ∧ (tg T v0 = 6 ∧ wp_BLg_sumOf (fun r_6 T_5 => inR (fi T q_4 ((v1 + v2_2) + 1).toNat) ∧ inR ((-2147483648) + r_6) ∧ (¬ ((fi T q_4 ((v1 + v2_2) + 1).toNat) = ((-2147483648) + r_6)) → wp_BLg_recordLength_71 post v2_2 0 T_5) ∧ ((fi T q_4 ((v1 + v2_2) + 1).toNat) = ((-2147483648) + r_6) → wp_BLg_recordLength_71 post v2_2 1 T_5)) v0 v1 v2_2 T)))))))) ∧ (¬ (v2_2 ≤ (((fi T v0 1) - v1) - 2)) → post 0 T)))))))
set_option maxHeartbeats 4000000 in
set_option maxRecDepth 100000 in
theorem c_BLg_recordLength (l : Launch) {D : va_G} {k : CK} {post : Int → CS → Prop} {v0 : Nat} {v1 : Int} {T : CS} (hw : wp_BLg_recordLength post v0 v1 T) : jCi l D k y_BLg_recordLength prog_6_method_7_code 4 (some .int) 2 50 0 0 T [.ref v0, vi v1] post := by
  refine j_coi (own := "LandBook$Log") (by decide) rfl (Nat.le_of_ble_eq_true rfl) (fun X F K hT hret => ?_)
  have B71 : ∀ (v2 : Int) (s0 : Int) (T : CS), cs_ok k T → wp_BLg_recordLength_71 post v2 s0 T → jat l D X 4 71 [(2, vi v2)] [vi s0] (cwd k T) 0 0 := by
    intro v2 s0 T hT hw
    unfold wp_BLg_recordLength_71 at hw
    refine j_istore_n F [(3, vi s0), (2, vi v2)] d_BLg_recordLength_71 (by decide) rfl ?_
    refine j_iload_n F 0 d_BLg_recordLength_72 rfl ?_
    obtain ⟨hc1, hwt, hwf⟩ := hw
    refine j_if_eq F 82 hc1 d_BLg_recordLength_73 rfl (fun hh => ?_) (fun hh => ?_)
    · have hw := hwt hh
      refine j_iconst F d_BLg_recordLength_82 ?_
      exact hret _ _ _ _ _ _ hw hT (by omega) (by omega) d_BLg_recordLength_83
    · have hw := hwf hh
      refine j_iload_n F 1 d_BLg_recordLength_76 rfl ?_
      refine j_iconst F d_BLg_recordLength_77 ?_
      refine j_iadd F d_BLg_recordLength_78 ?_
      refine j_goto F 83 d_BLg_recordLength_79 rfl ?_
      exact hret _ _ _ _ _ _ hw hT (by omega) (by omega) d_BLg_recordLength_83
  unfold wp_BLg_recordLength at hw
  show jat l D X 4 0 [(0, .ref v0), (1, vi v1)] [] (cwd k T) 0 0
  refine j_aload_n F 0 d_BLg_recordLength_0 rfl ?_
  obtain ⟨hc1, q_1, hc2, hw⟩ := hw
  refine c_getr F K hT 6 0 rfl tu_Log (by decide) (by decide) rfl tq_412 (Or.inl rfl) hc1 hc2 d_BLg_recordLength_1 ?_
  refine j_iload_n F 1 d_BLg_recordLength_4 rfl ?_
  obtain ⟨hc1, hc2, hw⟩ := hw
  refine c_iald F K hT hc1 hc2 d_BLg_recordLength_5 ?_
  refine j_ldc (x := 65536) F tq_420 (by decide) d_BLg_recordLength_6 ?_
  obtain ⟨hc1, hw⟩ := hw
  refine j_irem F hc1 d_BLg_recordLength_8 ?_
  refine j_nmi (fun v2_2 e_v2_2 => ?_)
  have hw := hw v2_2 e_v2_2
  refine j_istore_n F [(2, vi v2_2), (0, .ref v0), (1, vi v1)] d_BLg_recordLength_9 (by decide) rfl ?_
  refine j_iload_n F 0 d_BLg_recordLength_10 rfl ?_
  refine j_iconst F d_BLg_recordLength_11 ?_
  obtain ⟨hc1, hwt, hwf⟩ := hw
  refine j_icmp_lt F 27 hc1 ⟨by decide, by decide⟩ d_BLg_recordLength_12 rfl (fun hh => ?_) (fun hh => ?_)
  · have hw := hwt hh
    refine j_iconst F d_BLg_recordLength_27 ?_
    exact hret _ _ _ _ _ _ hw hT (by omega) (by omega) d_BLg_recordLength_28
  · have hw := hwf hh
    refine j_iload_n F 0 d_BLg_recordLength_15 rfl ?_
    refine j_aload_n F 1 d_BLg_recordLength_16 rfl ?_
    obtain ⟨hc1, hw⟩ := hw
    refine c_geti F K hT 6 1 rfl tu_Log (by decide) (by decide) rfl tq_413 (Or.inl rfl) hc1 d_BLg_recordLength_17 ?_
    refine j_iload_n F 2 d_BLg_recordLength_20 rfl ?_
    refine j_isub F d_BLg_recordLength_21 ?_
    refine j_iconst F d_BLg_recordLength_22 ?_
    refine j_isub F d_BLg_recordLength_23 ?_
    obtain ⟨hc1, hc2, hwt, hwf⟩ := hw
    refine j_icmp_le F 29 hc1 hc2 d_BLg_recordLength_24 rfl (fun hh => ?_) (fun hh => ?_)
    · have hw := hwt hh
      refine j_aload_n F 1 d_BLg_recordLength_29 rfl ?_
      obtain ⟨hc1, q_3, hc2, hw⟩ := hw
      refine c_getr F K hT 6 0 rfl tu_Log (by decide) (by decide) rfl tq_412 (Or.inl rfl) hc1 hc2 d_BLg_recordLength_30 ?_
      refine j_iload_n F 2 d_BLg_recordLength_33 rfl ?_
      refine j_iload_n F 0 d_BLg_recordLength_34 rfl ?_
      refine j_iadd F d_BLg_recordLength_35 ?_
      obtain ⟨hc1, hc2, hw⟩ := hw
      refine c_iald F K hT hc1 hc2 d_BLg_recordLength_36 ?_
      refine j_ldc (x := (-2147483648)) F tq_432 (by decide) d_BLg_recordLength_37 ?_
      refine j_iload_n F 0 d_BLg_recordLength_39 rfl ?_
      refine j_iadd F d_BLg_recordLength_40 ?_
      obtain ⟨hc1, hc2, hwt, hwf⟩ := hw
      refine j_icmp_ne F 70 hc1 hc2 d_BLg_recordLength_41 rfl (fun hh => ?_) (fun hh => ?_)
      · have hw := hwt hh
        refine j_iconst F d_BLg_recordLength_70 ?_
        refine j_sub [0] rfl ?_
        exact B71 _ _ _ hT hw
      · have hw := hwf hh
        refine j_aload_n F 1 d_BLg_recordLength_44 rfl ?_
        obtain ⟨hc1, q_4, hc2, hw⟩ := hw
        refine c_getr F K hT 6 0 rfl tu_Log (by decide) (by decide) rfl tq_412 (Or.inl rfl) hc1 hc2 d_BLg_recordLength_45 ?_
        refine j_iload_n F 2 d_BLg_recordLength_48 rfl ?_
        refine j_iload_n F 0 d_BLg_recordLength_49 rfl ?_
        refine j_iadd F d_BLg_recordLength_50 ?_
        refine j_iconst F d_BLg_recordLength_51 ?_
        refine j_iadd F d_BLg_recordLength_52 ?_
        obtain ⟨hc1, hc2, hw⟩ := hw
        refine c_iald F K hT hc1 hc2 d_BLg_recordLength_53 ?_
        refine j_ldc (x := (-2147483648)) F tq_432 (by decide) d_BLg_recordLength_54 ?_
        refine j_aload_n F 1 d_BLg_recordLength_56 rfl ?_
        refine j_iload_n F 2 d_BLg_recordLength_57 rfl ?_
        refine j_iload_n F 0 d_BLg_recordLength_58 rfl ?_
        obtain ⟨hg1, hw⟩ := hw
        refine c_callVi F K hT (c_BLg_sumOf l hw) (tw_gV tq_428 tq_429 tq_430 tq_424 tq_431) 6 rfl (by decide) hg1 q_BLg_sumOf rfl ⟨by decide, by decide⟩ ⟨by omega, by omega⟩ rfl (Nat.le_of_ble_eq_true rfl) d_BLg_recordLength_59 (fun r_6 T_5 hw hT => ?_)
        refine j_iadd F d_BLg_recordLength_62 ?_
        obtain ⟨hc1, hc2, hwt, hwf⟩ := hw
        refine j_icmp_ne F 70 hc1 hc2 d_BLg_recordLength_63 rfl (fun hh => ?_) (fun hh => ?_)
        · have hw := hwt hh
          refine j_iconst F d_BLg_recordLength_70 ?_
          refine j_sub [0] rfl ?_
          exact B71 _ _ _ hT hw
        · have hw := hwf hh
          refine j_iconst F d_BLg_recordLength_66 ?_
          refine j_goto F 71 d_BLg_recordLength_67 rfl ?_
          refine j_sub [0] rfl ?_
          exact B71 _ _ _ hT hw
    · have hw := hwf hh
      refine j_iconst F d_BLg_recordLength_27 ?_
      exact hret _ _ _ _ _ _ hw hT (by omega) (by omega) d_BLg_recordLength_28
theorem tq_433 : (Jvm.Cond.fieldLink "LandBook$Log" (52 : Nat) "LandBook$Log" "synced" "I") ∈ tw_G := tw_in (List.mem_of_getElem? (i := 217) (by decide +kernel)) rfl
abbrev y_BLg_keep : MethodName := ⟨"LandBook$Log", "keep", "(I)V"⟩
theorem q_BLg_keep : y_BLg_keep.cls = "LandBook$Log" ∧ y_BLg_keep.cls ≠ "java/lang/invoke/MethodHandle" ∧ y_BLg_keep.cls ≠ "java/lang/invoke/VarHandle" ∧ (parseMethodDescriptor y_BLg_keep.desc).map (fun d => d.parameters.length) = some 1 := by decide +kernel
theorem d_BLg_keep_0 : decode prog_6_method_8_code 0 = .ok (.aload_n 0, 1) := by decide +kernel
theorem d_BLg_keep_1 : decode prog_6_method_8_code 1 = .ok (.iload_n 1, 1) := by decide +kernel
theorem d_BLg_keep_2 : decode prog_6_method_8_code 2 = .ok (.putfield 15, 3) := by decide +kernel
theorem d_BLg_keep_5 : decode prog_6_method_8_code 5 = .ok (.aload_n 0, 1) := by decide +kernel
theorem d_BLg_keep_6 : decode prog_6_method_8_code 6 = .ok (.iload_n 1, 1) := by decide +kernel
theorem d_BLg_keep_7 : decode prog_6_method_8_code 7 = .ok (.putfield 52, 3) := by decide +kernel
theorem d_BLg_keep_10 : decode prog_6_method_8_code 10 = .ok (.return_, 1) := by decide +kernel
def wp_BLg_keep (post : CS → Prop) (v0 : Nat) (v1 : Int) (T : CS) : Prop := tg T v0 = 6 ∧ ((∀ T_1 : CS, T_1 = cs_i T v0 1 v1 → tg T_1 v0 = 6 ∧ ((∀ T_2 : CS, T_2 = cs_i T_1 v0 2 v1 → post T_2))))
set_option maxHeartbeats 4000000 in
set_option maxRecDepth 100000 in
theorem c_BLg_keep (l : Launch) {D : va_G} {k : CK} {post : CS → Prop} {v0 : Nat} {v1 : Int} {T : CS} (hw : wp_BLg_keep post v0 v1 T) : jCv l D k y_BLg_keep prog_6_method_8_code 2 none 0 0 0 0 T [.ref v0, vi v1] post := by
  refine j_cov (own := "LandBook$Log") (by decide) rfl (Nat.le_of_ble_eq_true rfl) (fun X F K hT hret => ?_)
  unfold wp_BLg_keep at hw
  show jat l D X 2 0 [(0, .ref v0), (1, vi v1)] [] (cwd k T) 0 0
  refine j_aload_n F 0 d_BLg_keep_0 rfl ?_
  refine j_iload_n F 1 d_BLg_keep_1 rfl ?_
  obtain ⟨hc1, hw⟩ := hw
  refine c_puti F K hT 6 1 rfl tu_Log (by decide) (by decide) rfl tq_413 (Or.inl rfl) t_Log t_Log_ok n_Log rfl (ty := .int) (by decide +kernel) rfl rfl hc1 d_BLg_keep_2 (fun T_1 e_T_1 hT => ?_)
  have hw := hw T_1 e_T_1
  refine j_aload_n F 0 d_BLg_keep_5 rfl ?_
  refine j_iload_n F 1 d_BLg_keep_6 rfl ?_
  obtain ⟨hc1, hw⟩ := hw
  refine c_puti F K hT 6 2 rfl tu_Log (by decide) (by decide) rfl tq_433 (Or.inl rfl) t_Log t_Log_ok n_Log rfl (ty := .int) (by decide +kernel) rfl rfl hc1 d_BLg_keep_7 (fun T_2 e_T_2 hT => ?_)
  have hw := hw T_2 e_T_2
  exact hret _ _ _ _ _ hw hT (by omega) (by omega) d_BLg_keep_10
theorem tq_434 : (Jvm.Cond.methodLink "LandBook$Log" (55 : Nat) ({ cls := "java/lang/Math", name := "min", desc := "(II)I" } : Jvm.MethodName)) ∈ tw_G := tw_in (List.mem_of_getElem? (i := 1013) (by decide +kernel)) rfl
abbrev y_BLg_tear : MethodName := ⟨"LandBook$Log", "tear", "(I)V"⟩
theorem q_BLg_tear : y_BLg_tear.cls = "LandBook$Log" ∧ y_BLg_tear.cls ≠ "java/lang/invoke/MethodHandle" ∧ y_BLg_tear.cls ≠ "java/lang/invoke/VarHandle" ∧ (parseMethodDescriptor y_BLg_tear.desc).map (fun d => d.parameters.length) = some 1 := by decide +kernel
theorem d_BLg_tear_0 : decode prog_6_method_9_code 0 = .ok (.aload_n 0, 1) := by decide +kernel
theorem d_BLg_tear_1 : decode prog_6_method_9_code 1 = .ok (.aload_n 0, 1) := by decide +kernel
theorem d_BLg_tear_2 : decode prog_6_method_9_code 2 = .ok (.getfield 52, 3) := by decide +kernel
theorem d_BLg_tear_5 : decode prog_6_method_9_code 5 = .ok (.iload_n 1, 1) := by decide +kernel
theorem d_BLg_tear_6 : decode prog_6_method_9_code 6 = .ok (.aload_n 0, 1) := by decide +kernel
theorem d_BLg_tear_7 : decode prog_6_method_9_code 7 = .ok (.getfield 15, 3) := by decide +kernel
theorem d_BLg_tear_10 : decode prog_6_method_9_code 10 = .ok (.aload_n 0, 1) := by decide +kernel
theorem d_BLg_tear_11 : decode prog_6_method_9_code 11 = .ok (.getfield 52, 3) := by decide +kernel
theorem d_BLg_tear_14 : decode prog_6_method_9_code 14 = .ok (.isub, 1) := by decide +kernel
theorem d_BLg_tear_15 : decode prog_6_method_9_code 15 = .ok (.invokestatic 55, 3) := by decide +kernel
theorem d_BLg_tear_18 : decode prog_6_method_9_code 18 = .ok (.iadd, 1) := by decide +kernel
theorem d_BLg_tear_19 : decode prog_6_method_9_code 19 = .ok (.putfield 15, 3) := by decide +kernel
theorem d_BLg_tear_22 : decode prog_6_method_9_code 22 = .ok (.return_, 1) := by decide +kernel
def wp_BLg_tear (post : CS → Prop) (v0 : Nat) (v1 : Int) (T : CS) : Prop := tg T v0 = 6 ∧ (tg T v0 = 6 ∧ (tg T v0 = 6 ∧ (wp_BMa_min (fun r_1 => tg T v0 = 6 ∧ ((∀ T_2 : CS, T_2 = cs_i T v0 1 ((fi T v0 2) + r_1) → post T_2))) v1 ((fi T v0 1) - (fi T v0 2)))))
set_option maxHeartbeats 4000000 in
set_option maxRecDepth 100000 in
theorem c_BLg_tear (l : Launch) {D : va_G} {k : CK} {post : CS → Prop} {v0 : Nat} {v1 : Int} {T : CS} (hw : wp_BLg_tear post v0 v1 T) : jCv l D k y_BLg_tear prog_6_method_9_code 2 none 1 21 0 0 T [.ref v0, vi v1] post := by
  refine j_cov (own := "LandBook$Log") (by decide) rfl (Nat.le_of_ble_eq_true rfl) (fun X F K hT hret => ?_)
  unfold wp_BLg_tear at hw
  show jat l D X 2 0 [(0, .ref v0), (1, vi v1)] [] (cwd k T) 0 0
  refine j_aload_n F 0 d_BLg_tear_0 rfl ?_
  refine j_aload_n F 0 d_BLg_tear_1 rfl ?_
  obtain ⟨hc1, hw⟩ := hw
  refine c_geti F K hT 6 2 rfl tu_Log (by decide) (by decide) rfl tq_433 (Or.inl rfl) hc1 d_BLg_tear_2 ?_
  refine j_iload_n F 1 d_BLg_tear_5 rfl ?_
  refine j_aload_n F 0 d_BLg_tear_6 rfl ?_
  obtain ⟨hc1, hw⟩ := hw
  refine c_geti F K hT 6 1 rfl tu_Log (by decide) (by decide) rfl tq_413 (Or.inl rfl) hc1 d_BLg_tear_7 ?_
  refine j_aload_n F 0 d_BLg_tear_10 rfl ?_
  obtain ⟨hc1, hw⟩ := hw
  refine c_geti F K hT 6 2 rfl tu_Log (by decide) (by decide) rfl tq_433 (Or.inl rfl) hc1 d_BLg_tear_11 ?_
  refine j_isub F d_BLg_tear_14 ?_
  refine j_callS F (c_BMa_min l hw) (tw_gS tq_434 tq_98 tq_99 tq_100) q_BMa_min rfl ⟨by decide, by decide⟩ ⟨by omega, by omega⟩ rfl (Nat.le_of_ble_eq_true rfl) d_BLg_tear_15 (fun r_1 hw => ?_)
  refine j_iadd F d_BLg_tear_18 ?_
  obtain ⟨hc1, hw⟩ := hw
  refine c_puti F K hT 6 1 rfl tu_Log (by decide) (by decide) rfl tq_413 (Or.inl rfl) t_Log t_Log_ok n_Log rfl (ty := .int) (by decide +kernel) rfl rfl hc1 d_BLg_tear_19 (fun T_2 e_T_2 hT => ?_)
  have hw := hw T_2 e_T_2
  exact hret _ _ _ _ _ hw hT (by omega) (by omega) d_BLg_tear_22
