theorem tq_285 : (Jvm.Cond.methodLink "LandBook$Deed" (7 : Nat) ({ cls := "java/lang/Object", name := "<init>", desc := "()V" } : Jvm.MethodName)) ∈ tw_G := tw_in (List.mem_of_getElem? (i := 685) (by decide +kernel)) rfl
theorem tq_286 : (Jvm.Cond.fieldLink "LandBook$Deed" (12 : Nat) "LandBook$Deed" "kind" "I") ∈ tw_G := tw_in (List.mem_of_getElem? (i := 686) (by decide +kernel)) rfl
theorem tq_287 : (Jvm.Cond.fieldLink "LandBook$Deed" (16 : Nat) "LandBook$Deed" "day" "I") ∈ tw_G := tw_in (List.mem_of_getElem? (i := 689) (by decide +kernel)) rfl
theorem tq_288 : (Jvm.Cond.fieldLink "LandBook$Deed" (19 : Nat) "LandBook$Deed" "names" "[I") ∈ tw_G := tw_in (List.mem_of_getElem? (i := 692) (by decide +kernel)) rfl
theorem tq_289 : (Jvm.Cond.fieldLink "LandBook$Deed" (23 : Nat) "LandBook$Deed" "from" "I") ∈ tw_G := tw_in (List.mem_of_getElem? (i := 694) (by decide +kernel)) rfl
theorem tq_290 : (Jvm.Cond.fieldLink "LandBook$Deed" (26 : Nat) "LandBook$Deed" "to" "I") ∈ tw_G := tw_in (List.mem_of_getElem? (i := 696) (by decide +kernel)) rfl
theorem tq_291 : (Jvm.Cond.fieldLink "LandBook$Deed" (29 : Nat) "LandBook$Deed" "parts" "I") ∈ tw_G := tw_in (List.mem_of_getElem? (i := 698) (by decide +kernel)) rfl
abbrev y_BDe_init6 : MethodName := ⟨"LandBook$Deed", "<init>", "(II[IIII)V"⟩
theorem q_BDe_init6 : y_BDe_init6.cls ≠ "java/lang/invoke/MethodHandle" ∧ y_BDe_init6.cls ≠ "java/lang/invoke/VarHandle" ∧ (parseMethodDescriptor y_BDe_init6.desc).map (fun d => d.parameters.length) = some 6 := by decide +kernel
theorem d_BDe_init6_0 : decode prog_3_method_2_code 0 = .ok (.aload_n 0, 1) := by decide +kernel
theorem d_BDe_init6_1 : decode prog_3_method_2_code 1 = .ok (.invokespecial 7, 3) := by decide +kernel
theorem d_BDe_init6_4 : decode prog_3_method_2_code 4 = .ok (.aload_n 0, 1) := by decide +kernel
theorem d_BDe_init6_5 : decode prog_3_method_2_code 5 = .ok (.iload_n 1, 1) := by decide +kernel
theorem d_BDe_init6_6 : decode prog_3_method_2_code 6 = .ok (.putfield 12, 3) := by decide +kernel
theorem d_BDe_init6_9 : decode prog_3_method_2_code 9 = .ok (.aload_n 0, 1) := by decide +kernel
theorem d_BDe_init6_10 : decode prog_3_method_2_code 10 = .ok (.iload_n 2, 1) := by decide +kernel
theorem d_BDe_init6_11 : decode prog_3_method_2_code 11 = .ok (.putfield 16, 3) := by decide +kernel
theorem d_BDe_init6_14 : decode prog_3_method_2_code 14 = .ok (.aload_n 0, 1) := by decide +kernel
theorem d_BDe_init6_15 : decode prog_3_method_2_code 15 = .ok (.aload_n 3, 1) := by decide +kernel
theorem d_BDe_init6_16 : decode prog_3_method_2_code 16 = .ok (.putfield 19, 3) := by decide +kernel
theorem d_BDe_init6_19 : decode prog_3_method_2_code 19 = .ok (.aload_n 0, 1) := by decide +kernel
theorem d_BDe_init6_20 : decode prog_3_method_2_code 20 = .ok (.iload 4, 2) := by decide +kernel
theorem d_BDe_init6_22 : decode prog_3_method_2_code 22 = .ok (.putfield 23, 3) := by decide +kernel
theorem d_BDe_init6_25 : decode prog_3_method_2_code 25 = .ok (.aload_n 0, 1) := by decide +kernel
theorem d_BDe_init6_26 : decode prog_3_method_2_code 26 = .ok (.iload 5, 2) := by decide +kernel
theorem d_BDe_init6_28 : decode prog_3_method_2_code 28 = .ok (.putfield 26, 3) := by decide +kernel
theorem d_BDe_init6_31 : decode prog_3_method_2_code 31 = .ok (.aload_n 0, 1) := by decide +kernel
theorem d_BDe_init6_32 : decode prog_3_method_2_code 32 = .ok (.iload 6, 2) := by decide +kernel
theorem d_BDe_init6_34 : decode prog_3_method_2_code 34 = .ok (.putfield 29, 3) := by decide +kernel
theorem d_BDe_init6_37 : decode prog_3_method_2_code 37 = .ok (.return_, 1) := by decide +kernel
def wp_BDe_init6 (post : CS → Prop) (v0 : Nat) (v1 : Int) (v2 : Int) (v3 : Nat) (v4 : Int) (v5 : Int) (v6 : Int) (T : CS) : Prop := tg T v0 = 8 ∧ ((∀ T_1 : CS, T_1 = cs_i T v0 0 v1 → tg T_1 v0 = 8 ∧ ((∀ T_2 : CS, T_2 = cs_i T_1 v0 1 v2 → tg T_2 v0 = 8 ∧ ((∀ T_3 : CS, T_3 = cs_o T_2 v0 2 (some v3) → tg T_3 v0 = 8 ∧ ((∀ T_4 : CS, T_4 = cs_i T_3 v0 3 v4 → tg T_4 v0 = 8 ∧ ((∀ T_5 : CS, T_5 = cs_i T_4 v0 4 v5 → tg T_5 v0 = 8 ∧ ((∀ T_6 : CS, T_6 = cs_i T_5 v0 5 v6 → post T_6))))))))))))
set_option maxHeartbeats 4000000 in
set_option maxRecDepth 100000 in
theorem c_BDe_init6 (l : Launch) {D : va_G} {k : CK} {post : CS → Prop} {v0 : Nat} {v1 : Int} {v2 : Int} {v3 : Nat} {v4 : Int} {v5 : Int} {v6 : Int} {T : CS} (hw : wp_BDe_init6 post v0 v1 v2 v3 v4 v5 v6 T) : jCv l D k y_BDe_init6 prog_3_method_2_code 7 none 1 20 0 0 T [.ref v0, vi v1, vi v2, .ref v3, vi v4, vi v5, vi v6] post := by
  refine j_con rfl (own := "LandBook$Deed") (by decide) rfl (Nat.le_of_ble_eq_true rfl) (fun X F K hT I hret => ?_)
  unfold wp_BDe_init6 at hw
  show jat l D X 7 0 [(0, .ref v0), (1, vi v1), (2, vi v2), (3, .ref v3), (4, vi v4), (5, vi v5), (6, vi v6)] [] (cwd k T) 0 0
  refine j_aload_n F 0 d_BDe_init6_0 rfl ?_
  refine c_objInit F K hT tq_285 tq_116 tq_117 ⟨by decide, by decide⟩ (Nat.le_of_ble_eq_true rfl) d_BDe_init6_1 ?_
  refine j_aload_n F 0 d_BDe_init6_4 rfl ?_
  refine j_iload_n F 1 d_BDe_init6_5 rfl ?_
  obtain ⟨hc1, hw⟩ := hw
  refine c_putiF F K hT I 8 0 rfl tu_Deed (by decide) (by decide) rfl tq_286 (Or.inl rfl) t_Deed t_Deed_ok n_Deed rfl rfl (ty := .int) (by decide +kernel) rfl rfl hc1 d_BDe_init6_6 (fun T_1 e_T_1 hT => ?_)
  have hw := hw T_1 e_T_1
  refine j_aload_n F 0 d_BDe_init6_9 rfl ?_
  refine j_iload_n F 2 d_BDe_init6_10 rfl ?_
  obtain ⟨hc1, hw⟩ := hw
  refine c_putiF F K hT I 8 1 rfl tu_Deed (by decide) (by decide) rfl tq_287 (Or.inl rfl) t_Deed t_Deed_ok n_Deed rfl rfl (ty := .int) (by decide +kernel) rfl rfl hc1 d_BDe_init6_11 (fun T_2 e_T_2 hT => ?_)
  have hw := hw T_2 e_T_2
  refine j_aload_n F 0 d_BDe_init6_14 rfl ?_
  refine j_aload_n F 3 d_BDe_init6_15 rfl ?_
  obtain ⟨hc1, hw⟩ := hw
  refine c_putrF F K hT I 8 2 rfl tu_Deed (by decide) (by decide) rfl tq_288 (Or.inl rfl) t_Deed t_Deed_ok n_Deed rfl rfl (ty := .array .int) (by decide +kernel) rfl rfl hc1 d_BDe_init6_16 (fun T_3 e_T_3 hT => ?_)
  have hw := hw T_3 e_T_3
  refine j_aload_n F 0 d_BDe_init6_19 rfl ?_
  refine j_iload F 4 d_BDe_init6_20 rfl ?_
  obtain ⟨hc1, hw⟩ := hw
  refine c_putiF F K hT I 8 3 rfl tu_Deed (by decide) (by decide) rfl tq_289 (Or.inl rfl) t_Deed t_Deed_ok n_Deed rfl rfl (ty := .int) (by decide +kernel) rfl rfl hc1 d_BDe_init6_22 (fun T_4 e_T_4 hT => ?_)
  have hw := hw T_4 e_T_4
  refine j_aload_n F 0 d_BDe_init6_25 rfl ?_
  refine j_iload F 5 d_BDe_init6_26 rfl ?_
  obtain ⟨hc1, hw⟩ := hw
  refine c_putiF F K hT I 8 4 rfl tu_Deed (by decide) (by decide) rfl tq_290 (Or.inl rfl) t_Deed t_Deed_ok n_Deed rfl rfl (ty := .int) (by decide +kernel) rfl rfl hc1 d_BDe_init6_28 (fun T_5 e_T_5 hT => ?_)
  have hw := hw T_5 e_T_5
  refine j_aload_n F 0 d_BDe_init6_31 rfl ?_
  refine j_iload F 6 d_BDe_init6_32 rfl ?_
  obtain ⟨hc1, hw⟩ := hw
  refine c_putiF F K hT I 8 5 rfl tu_Deed (by decide) (by decide) rfl tq_291 (Or.inl rfl) t_Deed t_Deed_ok n_Deed rfl rfl (ty := .int) (by decide +kernel) rfl rfl hc1 d_BDe_init6_34 (fun T_6 e_T_6 hT => ?_)
  have hw := hw T_6 e_T_6
  exact hret _ _ _ _ _ hw hT (by omega) (by omega) d_BDe_init6_37
theorem tq_292 : (Jvm.Cond.code ({ cls := "LandBook$Deed", name := "<init>", desc := "(II[IIII)V" } : Jvm.MethodName) prog_3_method_2_code (7 : Nat) (Option.none : Option Jvm.ClassFile.FieldType)) ∈ tw_G := tw_in (List.mem_of_getElem? (i := 684) (by decide +kernel)) rfl
theorem tq_293 : (Jvm.Cond.initialized "LandBook$Deed") ∈ tw_G := tw_in (List.mem_of_getElem? (i := 87) (by decide +kernel)) rfl
theorem tq_294 : (Jvm.Cond.methodLink "LandBook$Deed" (1 : Nat) ({ cls := "LandBook$Deed", name := "<init>", desc := "(II[IIII)V" } : Jvm.MethodName)) ∈ tw_G := tw_in (List.mem_of_getElem? (i := 682) (by decide +kernel)) rfl
theorem tq_295 : (Jvm.Cond.instanceMethod ({ cls := "LandBook$Deed", name := "<init>", desc := "(II[IIII)V" } : Jvm.MethodName)) ∈ tw_G := tw_in (List.mem_of_getElem? (i := 683) (by decide +kernel)) rfl
abbrev y_BDe_init3 : MethodName := ⟨"LandBook$Deed", "<init>", "(II[I)V"⟩
theorem q_BDe_init3 : y_BDe_init3.cls ≠ "java/lang/invoke/MethodHandle" ∧ y_BDe_init3.cls ≠ "java/lang/invoke/VarHandle" ∧ (parseMethodDescriptor y_BDe_init3.desc).map (fun d => d.parameters.length) = some 3 := by decide +kernel
theorem d_BDe_init3_0 : decode prog_3_method_1_code 0 = .ok (.aload_n 0, 1) := by decide +kernel
theorem d_BDe_init3_1 : decode prog_3_method_1_code 1 = .ok (.iload_n 1, 1) := by decide +kernel
theorem d_BDe_init3_2 : decode prog_3_method_1_code 2 = .ok (.iload_n 2, 1) := by decide +kernel
theorem d_BDe_init3_3 : decode prog_3_method_1_code 3 = .ok (.aload_n 3, 1) := by decide +kernel
theorem d_BDe_init3_4 : decode prog_3_method_1_code 4 = .ok (.iconst 0, 1) := by decide +kernel
theorem d_BDe_init3_5 : decode prog_3_method_1_code 5 = .ok (.iconst 0, 1) := by decide +kernel
theorem d_BDe_init3_6 : decode prog_3_method_1_code 6 = .ok (.iconst 0, 1) := by decide +kernel
theorem d_BDe_init3_7 : decode prog_3_method_1_code 7 = .ok (.invokespecial 1, 3) := by decide +kernel
theorem d_BDe_init3_10 : decode prog_3_method_1_code 10 = .ok (.return_, 1) := by decide +kernel
def wp_BDe_init3 (post : CS → Prop) (v0 : Nat) (v1 : Int) (v2 : Int) (v3 : Nat) (T : CS) : Prop := wp_BDe_init6 (fun T_1 => post T_1) v0 v1 v2 v3 0 0 0 T
set_option maxHeartbeats 4000000 in
set_option maxRecDepth 100000 in
theorem c_BDe_init3 (l : Launch) {D : va_G} {k : CK} {post : CS → Prop} {v0 : Nat} {v1 : Int} {v2 : Int} {v3 : Nat} {T : CS} (hw : wp_BDe_init3 post v0 v1 v2 v3 T) : jCv l D k y_BDe_init3 prog_3_method_1_code 4 none 2 46 0 0 T [.ref v0, vi v1, vi v2, .ref v3] post := by
  refine j_con rfl (own := "LandBook$Deed") (by decide) rfl (Nat.le_of_ble_eq_true rfl) (fun X F K hT I hret => ?_)
  unfold wp_BDe_init3 at hw
  show jat l D X 4 0 [(0, .ref v0), (1, vi v1), (2, vi v2), (3, .ref v3)] [] (cwd k T) 0 0
  refine j_aload_n F 0 d_BDe_init3_0 rfl ?_
  refine j_iload_n F 1 d_BDe_init3_1 rfl ?_
  refine j_iload_n F 2 d_BDe_init3_2 rfl ?_
  refine j_aload_n F 3 d_BDe_init3_3 rfl ?_
  refine j_iconst F d_BDe_init3_4 ?_
  refine j_iconst F d_BDe_init3_5 ?_
  refine j_iconst F d_BDe_init3_6 ?_
  refine c_callIv F K hT (c_BDe_init6 l hw) tq_292 tq_293 tq_294 tq_295 rfl q_BDe_init6 rfl ⟨by decide, by decide⟩ ⟨by omega, by omega⟩ rfl (Nat.le_of_ble_eq_true rfl) d_BDe_init3_7 (fun T_1 hw hT => ?_)
  exact hret _ _ _ _ _ hw hT (by omega) (by omega) d_BDe_init3_10
abbrev y_BDe_namesOneOf : MethodName := ⟨"LandBook$Deed", "namesOneOf", "([I)Z"⟩
theorem q_BDe_namesOneOf : y_BDe_namesOneOf.cls = "LandBook$Deed" ∧ y_BDe_namesOneOf.cls ≠ "java/lang/invoke/MethodHandle" ∧ y_BDe_namesOneOf.cls ≠ "java/lang/invoke/VarHandle" ∧ (parseMethodDescriptor y_BDe_namesOneOf.desc).map (fun d => d.parameters.length) = some 1 := by decide +kernel
theorem d_BDe_namesOneOf_0 : decode prog_3_method_3_code 0 = .ok (.aload_n 0, 1) := by decide +kernel
theorem d_BDe_namesOneOf_1 : decode prog_3_method_3_code 1 = .ok (.getfield 19, 3) := by decide +kernel
theorem d_BDe_namesOneOf_4 : decode prog_3_method_3_code 4 = .ok (.astore_n 2, 1) := by decide +kernel
theorem d_BDe_namesOneOf_5 : decode prog_3_method_3_code 5 = .ok (.aload_n 2, 1) := by decide +kernel
theorem d_BDe_namesOneOf_6 : decode prog_3_method_3_code 6 = .ok (.arraylength, 1) := by decide +kernel
theorem d_BDe_namesOneOf_7 : decode prog_3_method_3_code 7 = .ok (.istore_n 3, 1) := by decide +kernel
theorem d_BDe_namesOneOf_8 : decode prog_3_method_3_code 8 = .ok (.iconst 0, 1) := by decide +kernel
theorem d_BDe_namesOneOf_9 : decode prog_3_method_3_code 9 = .ok (.istore 4, 2) := by decide +kernel
theorem d_BDe_namesOneOf_11 : decode prog_3_method_3_code 11 = .ok (.iload 4, 2) := by decide +kernel
theorem d_BDe_namesOneOf_13 : decode prog_3_method_3_code 13 = .ok (.iload_n 3, 1) := by decide +kernel
theorem d_BDe_namesOneOf_14 : decode prog_3_method_3_code 14 = .ok (.if_icmp .ge 55, 3) := by decide +kernel
theorem d_BDe_namesOneOf_69 : decode prog_3_method_3_code 69 = .ok (.iconst 0, 1) := by decide +kernel
theorem d_BDe_namesOneOf_70 : decode prog_3_method_3_code 70 = .ok (.ireturn, 1) := by decide +kernel
theorem d_BDe_namesOneOf_17 : decode prog_3_method_3_code 17 = .ok (.aload_n 2, 1) := by decide +kernel
theorem d_BDe_namesOneOf_18 : decode prog_3_method_3_code 18 = .ok (.iload 4, 2) := by decide +kernel
theorem d_BDe_namesOneOf_20 : decode prog_3_method_3_code 20 = .ok (.iaload, 1) := by decide +kernel
theorem d_BDe_namesOneOf_21 : decode prog_3_method_3_code 21 = .ok (.istore 5, 2) := by decide +kernel
theorem d_BDe_namesOneOf_23 : decode prog_3_method_3_code 23 = .ok (.aload_n 1, 1) := by decide +kernel
theorem d_BDe_namesOneOf_24 : decode prog_3_method_3_code 24 = .ok (.astore 6, 2) := by decide +kernel
theorem d_BDe_namesOneOf_26 : decode prog_3_method_3_code 26 = .ok (.aload 6, 2) := by decide +kernel
theorem d_BDe_namesOneOf_28 : decode prog_3_method_3_code 28 = .ok (.arraylength, 1) := by decide +kernel
theorem d_BDe_namesOneOf_29 : decode prog_3_method_3_code 29 = .ok (.istore 7, 2) := by decide +kernel
theorem d_BDe_namesOneOf_31 : decode prog_3_method_3_code 31 = .ok (.iconst 0, 1) := by decide +kernel
theorem d_BDe_namesOneOf_32 : decode prog_3_method_3_code 32 = .ok (.istore 8, 2) := by decide +kernel
theorem d_BDe_namesOneOf_34 : decode prog_3_method_3_code 34 = .ok (.iload 8, 2) := by decide +kernel
theorem d_BDe_namesOneOf_36 : decode prog_3_method_3_code 36 = .ok (.iload 7, 2) := by decide +kernel
theorem d_BDe_namesOneOf_38 : decode prog_3_method_3_code 38 = .ok (.if_icmp .ge 25, 3) := by decide +kernel
theorem d_BDe_namesOneOf_63 : decode prog_3_method_3_code 63 = .ok (.iinc 4 1, 3) := by decide +kernel
theorem d_BDe_namesOneOf_66 : decode prog_3_method_3_code 66 = .ok (.goto (-55), 3) := by decide +kernel
theorem d_BDe_namesOneOf_41 : decode prog_3_method_3_code 41 = .ok (.aload 6, 2) := by decide +kernel
theorem d_BDe_namesOneOf_43 : decode prog_3_method_3_code 43 = .ok (.iload 8, 2) := by decide +kernel
theorem d_BDe_namesOneOf_45 : decode prog_3_method_3_code 45 = .ok (.iaload, 1) := by decide +kernel
theorem d_BDe_namesOneOf_46 : decode prog_3_method_3_code 46 = .ok (.istore 9, 2) := by decide +kernel
theorem d_BDe_namesOneOf_48 : decode prog_3_method_3_code 48 = .ok (.iload 5, 2) := by decide +kernel
theorem d_BDe_namesOneOf_50 : decode prog_3_method_3_code 50 = .ok (.iload 9, 2) := by decide +kernel
theorem d_BDe_namesOneOf_52 : decode prog_3_method_3_code 52 = .ok (.if_icmp .ne 5, 3) := by decide +kernel
theorem d_BDe_namesOneOf_57 : decode prog_3_method_3_code 57 = .ok (.iinc 8 1, 3) := by decide +kernel
theorem d_BDe_namesOneOf_60 : decode prog_3_method_3_code 60 = .ok (.goto (-26), 3) := by decide +kernel
theorem d_BDe_namesOneOf_55 : decode prog_3_method_3_code 55 = .ok (.iconst 1, 1) := by decide +kernel
theorem d_BDe_namesOneOf_56 : decode prog_3_method_3_code 56 = .ok (.ireturn, 1) := by decide +kernel
def wp_BDe_namesOneOf_34 (post : Int → CS → Prop) (k11 : Nat → Nat → Int → Int → CS → Prop) : Nat → Nat → Nat → Int → Int → Int → Nat → Int → Int → CS → Prop
  | 0, _, _, _, _, _, _, _, _, _ => False
  | n + 1, v1, v2, v3, v4, v5, v6, v7, v8, T => inR v8 ∧ inR v7 ∧ (v7 ≤ v8 → (k11 v1 v2 v3 (v4 + 1) T)) ∧ (¬ (v7 ≤ v8) → (tg T v6 = 11 ∧ ixR v8 (ln T v6) ∧ (∀ v9_1 : Int, v9_1 = (fi T v6 v8.toNat) → inR v5 ∧ inR v9_1 ∧ (¬ (v5 = v9_1) → ((wp_BDe_namesOneOf_34 post k11 n) v1 v2 v3 v4 v5 v6 v7 (v8 + 1) T)) ∧ (v5 = v9_1 → post 1 T))))
def wp_BDe_namesOneOf_11 (post : Int → CS → Prop) : Nat → Nat → Nat → Int → Int → CS → Prop
  | 0, _, _, _, _, _ => False
  | n + 1, v1, v2, v3, v4, T => inR v4 ∧ inR v3 ∧ (v3 ≤ v4 → post 0 T) ∧ (¬ (v3 ≤ v4) → (tg T v2 = 11 ∧ ixR v4 (ln T v2) ∧ (∀ v5_1 : Int, v5_1 = (fi T v2 v4.toNat) → tg T v1 = 11 ∧ (∀ v7_2 : Int, v7_2 = (ln T v1 : Int) → ∃ nn : Nat, wp_BDe_namesOneOf_34 post (wp_BDe_namesOneOf_11 post n) nn v1 v2 v3 v4 v5_1 v1 v7_2 0 T))))
def wp_BDe_namesOneOf (post : Int → CS → Prop) (v0 : Nat) (v1 : Nat) (T : CS) : Prop := tg T v0 = 8 ∧ ∃ q_1 : Nat, fo T v0 2 = some q_1 ∧ (tg T q_1 = 11 ∧ (∀ v3_2 : Int, v3_2 = (ln T q_1 : Int) → ∃ nn : Nat, wp_BDe_namesOneOf_11 post nn v1 q_1 v3_2 0 T))
set_option maxHeartbeats 4000000 in
set_option maxRecDepth 100000 in
theorem c_BDe_namesOneOf (l : Launch) {D : va_G} {k : CK} {post : Int → CS → Prop} {v0 : Nat} {v1 : Nat} {T : CS} (hw : wp_BDe_namesOneOf post v0 v1 T) : jCi l D k y_BDe_namesOneOf prog_3_method_3_code 10 (some .boolean) 0 0 0 0 T [.ref v0, .ref v1] post := by
  refine j_coz (own := "LandBook$Deed") (by decide) rfl (Nat.le_of_ble_eq_true rfl) (fun X F K hT hret => ?_)
  have B11 : ∀ (nn : Nat) (v1 : Nat) (v2 : Nat) (v3 : Int) (v4 : Int) (T : CS), cs_ok k T → wp_BDe_namesOneOf_11 post nn v1 v2 v3 v4 T → jat l D X 10 11 [(1, .ref v1), (2, .ref v2), (3, vi v3), (4, vi v4)] [] (cwd k T) 0 0 := by
    intro nn
    induction nn with
    | zero => intro v1 v2 v3 v4 T hT hw; exact hw.elim
    | succ n11 ih11 =>
      have B34 : ∀ (nn : Nat) (v1 : Nat) (v2 : Nat) (v3 : Int) (v4 : Int) (v5 : Int) (v6 : Nat) (v7 : Int) (v8 : Int) (T : CS), cs_ok k T → wp_BDe_namesOneOf_34 post (wp_BDe_namesOneOf_11 post n11) nn v1 v2 v3 v4 v5 v6 v7 v8 T → jat l D X 10 34 [(1, .ref v1), (2, .ref v2), (3, vi v3), (4, vi v4), (5, vi v5), (6, .ref v6), (7, vi v7), (8, vi v8)] [] (cwd k T) 0 0 := by
        intro nn
        induction nn with
        | zero => intro v1 v2 v3 v4 v5 v6 v7 v8 T hT hw; exact hw.elim
        | succ n34 ih34 =>
          intro v1 v2 v3 v4 v5 v6 v7 v8 T hT hw
          unfold wp_BDe_namesOneOf_34 at hw
          refine j_iload F 7 d_BDe_namesOneOf_34 rfl ?_
          refine j_iload F 6 d_BDe_namesOneOf_36 rfl ?_
          obtain ⟨hc1, hc2, hwt, hwf⟩ := hw
          refine j_icmp_ge F 63 hc1 hc2 d_BDe_namesOneOf_38 rfl (fun hh => ?_) (fun hh => ?_)
          · have hw := hwt hh
            refine j_iinc F 3 [(4, vi (v4 + 1)), (1, .ref v1), (2, .ref v2), (3, vi v3), (5, vi v5), (6, .ref v6), (7, vi v7), (8, vi v8)] d_BDe_namesOneOf_63 rfl (by decide) rfl ?_
            refine j_goto F 11 d_BDe_namesOneOf_66 rfl ?_
            refine j_sub [1, 2, 3, 0] rfl ?_
            exact ih11 _ _ _ _ _ hT hw
          · have hw := hwf hh
            refine j_aload F 5 d_BDe_namesOneOf_41 rfl ?_
            refine j_iload F 7 d_BDe_namesOneOf_43 rfl ?_
            obtain ⟨hc1, hc2, hw⟩ := hw
            refine c_iald F K hT hc1 hc2 d_BDe_namesOneOf_45 ?_
            refine j_nmi (fun v9_1 e_v9_1 => ?_)
            have hw := hw v9_1 e_v9_1
            refine j_istore F [(9, vi v9_1), (1, .ref v1), (2, .ref v2), (3, vi v3), (4, vi v4), (5, vi v5), (6, .ref v6), (7, vi v7), (8, vi v8)] d_BDe_namesOneOf_46 (by decide) rfl ?_
            refine j_iload F 5 d_BDe_namesOneOf_48 rfl ?_
            refine j_iload F 0 d_BDe_namesOneOf_50 rfl ?_
            obtain ⟨hc1, hc2, hwt, hwf⟩ := hw
            refine j_icmp_ne F 57 hc1 hc2 d_BDe_namesOneOf_52 rfl (fun hh => ?_) (fun hh => ?_)
            · have hw := hwt hh
              refine j_iinc F 8 [(8, vi (v8 + 1)), (9, vi v9_1), (1, .ref v1), (2, .ref v2), (3, vi v3), (4, vi v4), (5, vi v5), (6, .ref v6), (7, vi v7)] d_BDe_namesOneOf_57 rfl (by decide) rfl ?_
              refine j_goto F 34 d_BDe_namesOneOf_60 rfl ?_
              refine j_sub [2, 3, 4, 5, 6, 7, 8, 0] rfl ?_
              exact ih34 _ _ _ _ _ _ _ _ _ hT hw
            · have hw := hwf hh
              refine j_iconst F d_BDe_namesOneOf_55 ?_
              exact hret _ _ _ _ _ _ hw hT (by omega) (by omega) (Or.inr rfl) d_BDe_namesOneOf_56
      intro v1 v2 v3 v4 T hT hw
      unfold wp_BDe_namesOneOf_11 at hw
      refine j_iload F 3 d_BDe_namesOneOf_11 rfl ?_
      refine j_iload_n F 2 d_BDe_namesOneOf_13 rfl ?_
      obtain ⟨hc1, hc2, hwt, hwf⟩ := hw
      refine j_icmp_ge F 69 hc1 hc2 d_BDe_namesOneOf_14 rfl (fun hh => ?_) (fun hh => ?_)
      · have hw := hwt hh
        refine j_iconst F d_BDe_namesOneOf_69 ?_
        exact hret _ _ _ _ _ _ hw hT (by omega) (by omega) (Or.inl rfl) d_BDe_namesOneOf_70
      · have hw := hwf hh
        refine j_aload_n F 1 d_BDe_namesOneOf_17 rfl ?_
        refine j_iload F 3 d_BDe_namesOneOf_18 rfl ?_
        obtain ⟨hc1, hc2, hw⟩ := hw
        refine c_iald F K hT hc1 hc2 d_BDe_namesOneOf_20 ?_
        refine j_nmi (fun v5_1 e_v5_1 => ?_)
        have hw := hw v5_1 e_v5_1
        refine j_istore F [(5, vi v5_1), (1, .ref v1), (2, .ref v2), (3, vi v3), (4, vi v4)] d_BDe_namesOneOf_21 (by decide) rfl ?_
        refine j_aload_n F 1 d_BDe_namesOneOf_23 rfl ?_
        refine j_astore F [(6, .ref v1), (5, vi v5_1), (1, .ref v1), (2, .ref v2), (3, vi v3), (4, vi v4)] d_BDe_namesOneOf_24 (by decide) rfl ?_
        refine j_aload F 0 d_BDe_namesOneOf_26 rfl ?_
        obtain ⟨hc1, hw⟩ := hw
        refine c_alen11 F K hT hc1 d_BDe_namesOneOf_28 ?_
        refine j_nmi (fun v7_2 e_v7_2 => ?_)
        have hw := hw v7_2 e_v7_2
        refine j_istore F [(7, vi v7_2), (6, .ref v1), (5, vi v5_1), (1, .ref v1), (2, .ref v2), (3, vi v3), (4, vi v4)] d_BDe_namesOneOf_29 (by decide) rfl ?_
        refine j_iconst F d_BDe_namesOneOf_31 ?_
        refine j_istore F [(8, vi 0), (7, vi v7_2), (6, .ref v1), (5, vi v5_1), (1, .ref v1), (2, .ref v2), (3, vi v3), (4, vi v4)] d_BDe_namesOneOf_32 (by decide) rfl ?_
        refine j_sub [4, 5, 6, 7, 3, 2, 1, 0] rfl ?_
        obtain ⟨nn, hw⟩ := hw
        exact B34 nn _ _ _ _ _ _ _ _ _ hT hw
  unfold wp_BDe_namesOneOf at hw
  show jat l D X 10 0 [(0, .ref v0), (1, .ref v1)] [] (cwd k T) 0 0
  refine j_aload_n F 0 d_BDe_namesOneOf_0 rfl ?_
  obtain ⟨hc1, q_1, hc2, hw⟩ := hw
  refine c_getr F K hT 8 2 rfl tu_Deed (by decide) (by decide) rfl tq_288 (Or.inl rfl) hc1 hc2 d_BDe_namesOneOf_1 ?_
  refine j_astore_n F [(2, .ref q_1), (0, .ref v0), (1, .ref v1)] d_BDe_namesOneOf_4 (by decide) rfl ?_
  refine j_aload_n F 0 d_BDe_namesOneOf_5 rfl ?_
  obtain ⟨hc1, hw⟩ := hw
  refine c_alen11 F K hT hc1 d_BDe_namesOneOf_6 ?_
  refine j_nmi (fun v3_2 e_v3_2 => ?_)
  have hw := hw v3_2 e_v3_2
  refine j_istore_n F [(3, vi v3_2), (2, .ref q_1), (0, .ref v0), (1, .ref v1)] d_BDe_namesOneOf_7 (by decide) rfl ?_
  refine j_iconst F d_BDe_namesOneOf_8 ?_
  refine j_istore F [(4, vi 0), (3, vi v3_2), (2, .ref q_1), (0, .ref v0), (1, .ref v1)] d_BDe_namesOneOf_9 (by decide) rfl ?_
  refine j_sub [4, 2, 1, 0] rfl ?_
  obtain ⟨nn, hw⟩ := hw
  exact B11 nn _ _ _ _ _ hT hw
theorem tq_296 : (Jvm.Cond.methodLink "LandBook$Lot" (1 : Nat) ({ cls := "java/lang/Object", name := "<init>", desc := "()V" } : Jvm.MethodName)) ∈ tw_G := tw_in (List.mem_of_getElem? (i := 455) (by decide +kernel)) rfl
theorem tq_297 : (Jvm.Cond.fieldLink "LandBook$Lot" (7 : Nat) "LandBook$Lot" "ring" "LLandBook$Points;") ∈ tw_G := tw_in (List.mem_of_getElem? (i := 456) (by decide +kernel)) rfl
theorem tq_298 : (Jvm.Cond.fieldLink "LandBook$Lot" (13 : Nat) "LandBook$Lot" "began" "I") ∈ tw_G := tw_in (List.mem_of_getElem? (i := 458) (by decide +kernel)) rfl
theorem tq_299 : (Jvm.Cond.fieldLink "LandBook$Lot" (17 : Nat) "LandBook$Lot" "shares" "[I") ∈ tw_G := tw_in (List.mem_of_getElem? (i := 461) (by decide +kernel)) rfl
theorem tq_300 : (Jvm.Cond.fieldLink "LandBook$Lot" (21 : Nat) "LandBook$Lot" "tookOver" "[Z") ∈ tw_G := tw_in (List.mem_of_getElem? (i := 463) (by decide +kernel)) rfl
abbrev y_BLo_init : MethodName := ⟨"LandBook$Lot", "<init>", "(LLandBook$Points;I[I[Z)V"⟩
theorem q_BLo_init : y_BLo_init.cls ≠ "java/lang/invoke/MethodHandle" ∧ y_BLo_init.cls ≠ "java/lang/invoke/VarHandle" ∧ (parseMethodDescriptor y_BLo_init.desc).map (fun d => d.parameters.length) = some 4 := by decide +kernel
theorem d_BLo_init_0 : decode prog_7_method_1_code 0 = .ok (.aload_n 0, 1) := by decide +kernel
theorem d_BLo_init_1 : decode prog_7_method_1_code 1 = .ok (.invokespecial 1, 3) := by decide +kernel
theorem d_BLo_init_4 : decode prog_7_method_1_code 4 = .ok (.aload_n 0, 1) := by decide +kernel
theorem d_BLo_init_5 : decode prog_7_method_1_code 5 = .ok (.aload_n 1, 1) := by decide +kernel
theorem d_BLo_init_6 : decode prog_7_method_1_code 6 = .ok (.putfield 7, 3) := by decide +kernel
theorem d_BLo_init_9 : decode prog_7_method_1_code 9 = .ok (.aload_n 0, 1) := by decide +kernel
theorem d_BLo_init_10 : decode prog_7_method_1_code 10 = .ok (.iload_n 2, 1) := by decide +kernel
theorem d_BLo_init_11 : decode prog_7_method_1_code 11 = .ok (.putfield 13, 3) := by decide +kernel
theorem d_BLo_init_14 : decode prog_7_method_1_code 14 = .ok (.aload_n 0, 1) := by decide +kernel
theorem d_BLo_init_15 : decode prog_7_method_1_code 15 = .ok (.aload_n 3, 1) := by decide +kernel
theorem d_BLo_init_16 : decode prog_7_method_1_code 16 = .ok (.putfield 17, 3) := by decide +kernel
theorem d_BLo_init_19 : decode prog_7_method_1_code 19 = .ok (.aload_n 0, 1) := by decide +kernel
theorem d_BLo_init_20 : decode prog_7_method_1_code 20 = .ok (.aload 4, 2) := by decide +kernel
theorem d_BLo_init_22 : decode prog_7_method_1_code 22 = .ok (.putfield 21, 3) := by decide +kernel
theorem d_BLo_init_25 : decode prog_7_method_1_code 25 = .ok (.return_, 1) := by decide +kernel
def wp_BLo_init (post : CS → Prop) (v0 : Nat) (v1 : Nat) (v2 : Int) (v3 : Nat) (v4 : Nat) (T : CS) : Prop := tg T v0 = 9 ∧ ((∀ T_1 : CS, T_1 = cs_o T v0 0 (some v1) → tg T_1 v0 = 9 ∧ ((∀ T_2 : CS, T_2 = cs_i T_1 v0 1 v2 → tg T_2 v0 = 9 ∧ ((∀ T_3 : CS, T_3 = cs_o T_2 v0 2 (some v3) → tg T_3 v0 = 9 ∧ ((∀ T_4 : CS, T_4 = cs_o T_3 v0 3 (some v4) → post T_4))))))))
set_option maxHeartbeats 4000000 in
set_option maxRecDepth 100000 in
theorem c_BLo_init (l : Launch) {D : va_G} {k : CK} {post : CS → Prop} {v0 : Nat} {v1 : Nat} {v2 : Int} {v3 : Nat} {v4 : Nat} {T : CS} (hw : wp_BLo_init post v0 v1 v2 v3 v4 T) : jCv l D k y_BLo_init prog_7_method_1_code 5 none 1 20 0 0 T [.ref v0, .ref v1, vi v2, .ref v3, .ref v4] post := by
  refine j_con rfl (own := "LandBook$Lot") (by decide) rfl (Nat.le_of_ble_eq_true rfl) (fun X F K hT I hret => ?_)
  unfold wp_BLo_init at hw
  show jat l D X 5 0 [(0, .ref v0), (1, .ref v1), (2, vi v2), (3, .ref v3), (4, .ref v4)] [] (cwd k T) 0 0
  refine j_aload_n F 0 d_BLo_init_0 rfl ?_
  refine c_objInit F K hT tq_296 tq_116 tq_117 ⟨by decide, by decide⟩ (Nat.le_of_ble_eq_true rfl) d_BLo_init_1 ?_
  refine j_aload_n F 0 d_BLo_init_4 rfl ?_
  refine j_aload_n F 1 d_BLo_init_5 rfl ?_
  obtain ⟨hc1, hw⟩ := hw
  refine c_putrF F K hT I 9 0 rfl tu_Lot (by decide) (by decide) rfl tq_297 (Or.inl rfl) t_Lot t_Lot_ok n_Lot rfl rfl (ty := .object "LandBook$Points") (by decide +kernel) rfl rfl hc1 d_BLo_init_6 (fun T_1 e_T_1 hT => ?_)
  have hw := hw T_1 e_T_1
  refine j_aload_n F 0 d_BLo_init_9 rfl ?_
  refine j_iload_n F 2 d_BLo_init_10 rfl ?_
  obtain ⟨hc1, hw⟩ := hw
  refine c_putiF F K hT I 9 1 rfl tu_Lot (by decide) (by decide) rfl tq_298 (Or.inl rfl) t_Lot t_Lot_ok n_Lot rfl rfl (ty := .int) (by decide +kernel) rfl rfl hc1 d_BLo_init_11 (fun T_2 e_T_2 hT => ?_)
  have hw := hw T_2 e_T_2
  refine j_aload_n F 0 d_BLo_init_14 rfl ?_
  refine j_aload_n F 3 d_BLo_init_15 rfl ?_
  obtain ⟨hc1, hw⟩ := hw
  refine c_putrF F K hT I 9 2 rfl tu_Lot (by decide) (by decide) rfl tq_299 (Or.inl rfl) t_Lot t_Lot_ok n_Lot rfl rfl (ty := .array .int) (by decide +kernel) rfl rfl hc1 d_BLo_init_16 (fun T_3 e_T_3 hT => ?_)
  have hw := hw T_3 e_T_3
  refine j_aload_n F 0 d_BLo_init_19 rfl ?_
  refine j_aload F 4 d_BLo_init_20 rfl ?_
  obtain ⟨hc1, hw⟩ := hw
  refine c_putrF F K hT I 9 3 rfl tu_Lot (by decide) (by decide) rfl tq_300 (Or.inl rfl) t_Lot t_Lot_ok n_Lot rfl rfl (ty := .array .boolean) (by decide +kernel) rfl rfl hc1 d_BLo_init_22 (fun T_4 e_T_4 hT => ?_)
  have hw := hw T_4 e_T_4
  exact hret _ _ _ _ _ hw hT (by omega) (by omega) d_BLo_init_25
abbrev y_BLo_tookOver : MethodName := ⟨"LandBook$Lot", "tookOver", "(I)Z"⟩
theorem q_BLo_tookOver : y_BLo_tookOver.cls = "LandBook$Lot" ∧ y_BLo_tookOver.cls ≠ "java/lang/invoke/MethodHandle" ∧ y_BLo_tookOver.cls ≠ "java/lang/invoke/VarHandle" ∧ (parseMethodDescriptor y_BLo_tookOver.desc).map (fun d => d.parameters.length) = some 1 := by decide +kernel
theorem d_BLo_tookOver_0 : decode prog_7_method_2_code 0 = .ok (.iload_n 1, 1) := by decide +kernel
theorem d_BLo_tookOver_1 : decode prog_7_method_2_code 1 = .ok (.aload_n 0, 1) := by decide +kernel
theorem d_BLo_tookOver_2 : decode prog_7_method_2_code 2 = .ok (.getfield 21, 3) := by decide +kernel
theorem d_BLo_tookOver_5 : decode prog_7_method_2_code 5 = .ok (.arraylength, 1) := by decide +kernel
theorem d_BLo_tookOver_6 : decode prog_7_method_2_code 6 = .ok (.if_icmp .ge 16, 3) := by decide +kernel
theorem d_BLo_tookOver_22 : decode prog_7_method_2_code 22 = .ok (.iconst 0, 1) := by decide +kernel
theorem d_BLo_tookOver_23 : decode prog_7_method_2_code 23 = .ok (.ireturn, 1) := by decide +kernel
theorem d_BLo_tookOver_9 : decode prog_7_method_2_code 9 = .ok (.aload_n 0, 1) := by decide +kernel
theorem d_BLo_tookOver_10 : decode prog_7_method_2_code 10 = .ok (.getfield 21, 3) := by decide +kernel
theorem d_BLo_tookOver_13 : decode prog_7_method_2_code 13 = .ok (.iload_n 1, 1) := by decide +kernel
theorem d_BLo_tookOver_14 : decode prog_7_method_2_code 14 = .ok (.baload, 1) := by decide +kernel
theorem d_BLo_tookOver_15 : decode prog_7_method_2_code 15 = .ok (.ifCond .eq 7, 3) := by decide +kernel
theorem d_BLo_tookOver_18 : decode prog_7_method_2_code 18 = .ok (.iconst 1, 1) := by decide +kernel
theorem d_BLo_tookOver_19 : decode prog_7_method_2_code 19 = .ok (.goto 4, 3) := by decide +kernel
def wp_BLo_tookOver (post : Int → CS → Prop) (v0 : Nat) (v1 : Int) (T : CS) : Prop := tg T v0 = 9 ∧ ∃ q_1 : Nat, fo T v0 3 = some q_1 ∧ (tg T q_1 = 12 ∧ (inR v1 ∧ inR (ln T q_1 : Int) ∧ ((ln T q_1 : Int) ≤ v1 → post 0 T) ∧ (¬ ((ln T q_1 : Int) ≤ v1) → (tg T v0 = 9 ∧ ∃ q_2 : Nat, fo T v0 3 = some q_2 ∧ (tg T q_2 = 12 ∧ ixR v1 (ln T q_2) ∧ (inR (fi T q_2 v1.toNat) ∧ ((fi T q_2 v1.toNat) = 0 → post 0 T) ∧ (¬ ((fi T q_2 v1.toNat) = 0) → post 1 T)))))))
set_option maxHeartbeats 4000000 in
set_option maxRecDepth 100000 in
theorem c_BLo_tookOver (l : Launch) {D : va_G} {k : CK} {post : Int → CS → Prop} {v0 : Nat} {v1 : Int} {T : CS} (hw : wp_BLo_tookOver post v0 v1 T) : jCi l D k y_BLo_tookOver prog_7_method_2_code 2 (some .boolean) 0 0 0 0 T [.ref v0, vi v1] post := by
  refine j_coz (own := "LandBook$Lot") (by decide) rfl (Nat.le_of_ble_eq_true rfl) (fun X F K hT hret => ?_)
  unfold wp_BLo_tookOver at hw
  show jat l D X 2 0 [(0, .ref v0), (1, vi v1)] [] (cwd k T) 0 0
  refine j_iload_n F 1 d_BLo_tookOver_0 rfl ?_
  refine j_aload_n F 0 d_BLo_tookOver_1 rfl ?_
  obtain ⟨hc1, q_1, hc2, hw⟩ := hw
  refine c_getr F K hT 9 3 rfl tu_Lot (by decide) (by decide) rfl tq_300 (Or.inl rfl) hc1 hc2 d_BLo_tookOver_2 ?_
  obtain ⟨hc1, hw⟩ := hw
  refine c_alen12 F K hT hc1 d_BLo_tookOver_5 ?_
  obtain ⟨hc1, hc2, hwt, hwf⟩ := hw
  refine j_icmp_ge F 22 hc1 hc2 d_BLo_tookOver_6 rfl (fun hh => ?_) (fun hh => ?_)
  · have hw := hwt hh
    refine j_iconst F d_BLo_tookOver_22 ?_
    exact hret _ _ _ _ _ _ hw hT (by omega) (by omega) (Or.inl rfl) d_BLo_tookOver_23
  · have hw := hwf hh
    refine j_aload_n F 0 d_BLo_tookOver_9 rfl ?_
    obtain ⟨hc1, q_2, hc2, hw⟩ := hw
    refine c_getr F K hT 9 3 rfl tu_Lot (by decide) (by decide) rfl tq_300 (Or.inl rfl) hc1 hc2 d_BLo_tookOver_10 ?_
    refine j_iload_n F 1 d_BLo_tookOver_13 rfl ?_
    obtain ⟨hc1, hc2, hw⟩ := hw
    refine c_zald F K hT hc1 hc2 d_BLo_tookOver_14 ?_
    obtain ⟨hc1, hwt, hwf⟩ := hw
    refine j_if_eq F 22 hc1 d_BLo_tookOver_15 rfl (fun hh => ?_) (fun hh => ?_)
    · have hw := hwt hh
      refine j_iconst F d_BLo_tookOver_22 ?_
      exact hret _ _ _ _ _ _ hw hT (by omega) (by omega) (Or.inl rfl) d_BLo_tookOver_23
    · have hw := hwf hh
      refine j_iconst F d_BLo_tookOver_18 ?_
      refine j_goto F 23 d_BLo_tookOver_19 rfl ?_
      exact hret _ _ _ _ _ _ hw hT (by omega) (by omega) (Or.inr rfl) d_BLo_tookOver_23
theorem tq_301 : (Jvm.Cond.methodLink "LandBook$Easement" (1 : Nat) ({ cls := "java/lang/Object", name := "<init>", desc := "()V" } : Jvm.MethodName)) ∈ tw_G := tw_in (List.mem_of_getElem? (i := 851) (by decide +kernel)) rfl
theorem tq_302 : (Jvm.Cond.fieldLink "LandBook$Easement" (7 : Nat) "LandBook$Easement" "over" "I") ∈ tw_G := tw_in (List.mem_of_getElem? (i := 852) (by decide +kernel)) rfl
theorem tq_303 : (Jvm.Cond.fieldLink "LandBook$Easement" (13 : Nat) "LandBook$Easement" "granted" "I") ∈ tw_G := tw_in (List.mem_of_getElem? (i := 854) (by decide +kernel)) rfl
abbrev y_BEa_init : MethodName := ⟨"LandBook$Easement", "<init>", "(II)V"⟩
theorem q_BEa_init : y_BEa_init.cls ≠ "java/lang/invoke/MethodHandle" ∧ y_BEa_init.cls ≠ "java/lang/invoke/VarHandle" ∧ (parseMethodDescriptor y_BEa_init.desc).map (fun d => d.parameters.length) = some 2 := by decide +kernel
theorem d_BEa_init_0 : decode prog_4_method_1_code 0 = .ok (.aload_n 0, 1) := by decide +kernel
theorem d_BEa_init_1 : decode prog_4_method_1_code 1 = .ok (.invokespecial 1, 3) := by decide +kernel
theorem d_BEa_init_4 : decode prog_4_method_1_code 4 = .ok (.aload_n 0, 1) := by decide +kernel
theorem d_BEa_init_5 : decode prog_4_method_1_code 5 = .ok (.iload_n 1, 1) := by decide +kernel
theorem d_BEa_init_6 : decode prog_4_method_1_code 6 = .ok (.putfield 7, 3) := by decide +kernel
theorem d_BEa_init_9 : decode prog_4_method_1_code 9 = .ok (.aload_n 0, 1) := by decide +kernel
theorem d_BEa_init_10 : decode prog_4_method_1_code 10 = .ok (.iload_n 2, 1) := by decide +kernel
theorem d_BEa_init_11 : decode prog_4_method_1_code 11 = .ok (.putfield 13, 3) := by decide +kernel
theorem d_BEa_init_14 : decode prog_4_method_1_code 14 = .ok (.return_, 1) := by decide +kernel
def wp_BEa_init (post : CS → Prop) (v0 : Nat) (v1 : Int) (v2 : Int) (T : CS) : Prop := tg T v0 = 10 ∧ ((∀ T_1 : CS, T_1 = cs_i T v0 0 v1 → tg T_1 v0 = 10 ∧ ((∀ T_2 : CS, T_2 = cs_i T_1 v0 1 v2 → post T_2))))
set_option maxHeartbeats 4000000 in
set_option maxRecDepth 100000 in
theorem c_BEa_init (l : Launch) {D : va_G} {k : CK} {post : CS → Prop} {v0 : Nat} {v1 : Int} {v2 : Int} {T : CS} (hw : wp_BEa_init post v0 v1 v2 T) : jCv l D k y_BEa_init prog_4_method_1_code 3 none 1 20 0 0 T [.ref v0, vi v1, vi v2] post := by
  refine j_con rfl (own := "LandBook$Easement") (by decide) rfl (Nat.le_of_ble_eq_true rfl) (fun X F K hT I hret => ?_)
  unfold wp_BEa_init at hw
  show jat l D X 3 0 [(0, .ref v0), (1, vi v1), (2, vi v2)] [] (cwd k T) 0 0
  refine j_aload_n F 0 d_BEa_init_0 rfl ?_
  refine c_objInit F K hT tq_301 tq_116 tq_117 ⟨by decide, by decide⟩ (Nat.le_of_ble_eq_true rfl) d_BEa_init_1 ?_
  refine j_aload_n F 0 d_BEa_init_4 rfl ?_
  refine j_iload_n F 1 d_BEa_init_5 rfl ?_
  obtain ⟨hc1, hw⟩ := hw
  refine c_putiF F K hT I 10 0 rfl tu_Easement (by decide) (by decide) rfl tq_302 (Or.inl rfl) t_Easement t_Easement_ok n_Easement rfl rfl (ty := .int) (by decide +kernel) rfl rfl hc1 d_BEa_init_6 (fun T_1 e_T_1 hT => ?_)
  have hw := hw T_1 e_T_1
  refine j_aload_n F 0 d_BEa_init_9 rfl ?_
  refine j_iload_n F 2 d_BEa_init_10 rfl ?_
  obtain ⟨hc1, hw⟩ := hw
  refine c_putiF F K hT I 10 1 rfl tu_Easement (by decide) (by decide) rfl tq_303 (Or.inl rfl) t_Easement t_Easement_ok n_Easement rfl rfl (ty := .int) (by decide +kernel) rfl rfl hc1 d_BEa_init_11 (fun T_2 e_T_2 hT => ?_)
  have hw := hw T_2 e_T_2
  exact hret _ _ _ _ _ hw hT (by omega) (by omega) d_BEa_init_14
