theorem tj_107 : (Jvm.Cond.fieldLink "LandBookModel" (98 : Nat) "LandBookModel" "thrown" "I") ∈ tw_G := tw_in (List.mem_of_getElem? (i := 1046) (by decide +kernel)) rfl
abbrev y_Mo_thrown : MethodName := ⟨"LandBookModel", "thrown", "()I"⟩
theorem q_Mo_thrown : y_Mo_thrown.cls = "LandBookModel" ∧ y_Mo_thrown.cls ≠ "java/lang/invoke/MethodHandle" ∧ y_Mo_thrown.cls ≠ "java/lang/invoke/VarHandle" ∧ (parseMethodDescriptor y_Mo_thrown.desc).map (fun d => d.parameters.length) = some 0 := by decide +kernel
theorem d_Mo_thrown_0 : decode prog_13_method_2_code 0 = .ok (.aload_n 0, 1) := by decide +kernel
theorem d_Mo_thrown_1 : decode prog_13_method_2_code 1 = .ok (.getfield 98, 3) := by decide +kernel
theorem d_Mo_thrown_4 : decode prog_13_method_2_code 4 = .ok (.ireturn, 1) := by decide +kernel
def wp_Mo_thrown (post : Int → MS → Prop)  (S : MS) : Prop := post (S.1 0) S
set_option maxHeartbeats 4000000 in
set_option maxRecDepth 100000 in
theorem c_Mo_thrown (l : Launch) {D : va_G} {h : Nat} {ad : Nat → Nat} {kc : Nat → ClassId} {post : Int → MS → Prop}  {S : MS} (hw : wp_Mo_thrown post  S) : jMi l D h ad kc y_Mo_thrown prog_13_method_2_code 1 (some .int) 0 0 S [] post := by
  refine j_moi (own := "LandBookModel") (by decide) rfl (Nat.le_of_ble_eq_true rfl) (fun X F K hret => ?_)
  unfold wp_Mo_thrown at hw
  show jat l D X 1 0 [(0, .ref h)] [] (mw h ad kc S) 0 0
  refine j_aload_n F 0 d_Mo_thrown_0 rfl ?_
  refine m_geti F K 0 (by decide) rfl tj_107 rfl d_Mo_thrown_1 ?_
  exact hret _ _ _ _ hw d_Mo_thrown_4
theorem tj_108 : (Jvm.Cond.methodLink "LandBookModel" (102 : Nat) ({ cls := "LandBookModel", name := "isPoint", desc := "(II)Z" } : Jvm.MethodName)) ∈ tw_G := tw_in (List.mem_of_getElem? (i := 1181) (by decide +kernel)) rfl
theorem tj_109 : (Jvm.Cond.static ({ cls := "LandBookModel", name := "isPoint", desc := "(II)Z" } : Jvm.MethodName)) ∈ tw_G := tw_in (List.mem_of_getElem? (i := 1182) (by decide +kernel)) rfl
theorem tj_110 : (Jvm.Cond.code ({ cls := "LandBookModel", name := "isPoint", desc := "(II)Z" } : Jvm.MethodName) prog_13_method_5_code (2 : Nat) (Option.some Jvm.ClassFile.FieldType.boolean)) ∈ tw_G := tw_in (List.mem_of_getElem? (i := 1183) (by decide +kernel)) rfl
theorem tj_111 : (Jvm.Cond.fieldLink "LandBookModel" (106 : Nat) "LandBookModel" "rowSize" "I") ∈ tw_G := tw_in (List.mem_of_getElem? (i := 1050) (by decide +kernel)) rfl
theorem tj_112 : (Jvm.Cond.fieldLink "LandBookModel" (7 : Nat) "LandBookModel" "rowX" "[I") ∈ tw_G := tw_in (List.mem_of_getElem? (i := 1051) (by decide +kernel)) rfl
theorem tj_113 : (Jvm.Cond.fieldLink "LandBookModel" (13 : Nat) "LandBookModel" "rowY" "[I") ∈ tw_G := tw_in (List.mem_of_getElem? (i := 1052) (by decide +kernel)) rfl
abbrev y_Mo_point : MethodName := ⟨"LandBookModel", "point", "(II)I"⟩
theorem q_Mo_point : y_Mo_point.cls = "LandBookModel" ∧ y_Mo_point.cls ≠ "java/lang/invoke/MethodHandle" ∧ y_Mo_point.cls ≠ "java/lang/invoke/VarHandle" ∧ (parseMethodDescriptor y_Mo_point.desc).map (fun d => d.parameters.length) = some 2 := by decide +kernel
theorem d_Mo_point_0 : decode prog_13_method_7_code 0 = .ok (.aload_n 0, 1) := by decide +kernel
theorem d_Mo_point_1 : decode prog_13_method_7_code 1 = .ok (.iload_n 1, 1) := by decide +kernel
theorem d_Mo_point_2 : decode prog_13_method_7_code 2 = .ok (.iload_n 2, 1) := by decide +kernel
theorem d_Mo_point_3 : decode prog_13_method_7_code 3 = .ok (.invokestatic 102, 3) := by decide +kernel
theorem d_Mo_point_6 : decode prog_13_method_7_code 6 = .ok (.ifCond .ne 7, 3) := by decide +kernel
theorem d_Mo_point_13 : decode prog_13_method_7_code 13 = .ok (.aload_n 0, 1) := by decide +kernel
theorem d_Mo_point_14 : decode prog_13_method_7_code 14 = .ok (.getfield 106, 3) := by decide +kernel
theorem d_Mo_point_17 : decode prog_13_method_7_code 17 = .ok (.bipush 32, 2) := by decide +kernel
theorem d_Mo_point_19 : decode prog_13_method_7_code 19 = .ok (.if_icmp .ne 7, 3) := by decide +kernel
theorem d_Mo_point_26 : decode prog_13_method_7_code 26 = .ok (.iconst 0, 1) := by decide +kernel
theorem d_Mo_point_22 : decode prog_13_method_7_code 22 = .ok (.iconst 2, 1) := by decide +kernel
theorem d_Mo_point_23 : decode prog_13_method_7_code 23 = .ok (.goto 4, 3) := by decide +kernel
theorem d_Mo_point_9 : decode prog_13_method_7_code 9 = .ok (.iconst 1, 1) := by decide +kernel
theorem d_Mo_point_10 : decode prog_13_method_7_code 10 = .ok (.goto 17, 3) := by decide +kernel
theorem d_Mo_point_27 : decode prog_13_method_7_code 27 = .ok (.putfield 98, 3) := by decide +kernel
theorem d_Mo_point_30 : decode prog_13_method_7_code 30 = .ok (.aload_n 0, 1) := by decide +kernel
theorem d_Mo_point_31 : decode prog_13_method_7_code 31 = .ok (.getfield 98, 3) := by decide +kernel
theorem d_Mo_point_34 : decode prog_13_method_7_code 34 = .ok (.ifCond .le 5, 3) := by decide +kernel
theorem d_Mo_point_39 : decode prog_13_method_7_code 39 = .ok (.aload_n 0, 1) := by decide +kernel
theorem d_Mo_point_40 : decode prog_13_method_7_code 40 = .ok (.getfield 7, 3) := by decide +kernel
theorem d_Mo_point_43 : decode prog_13_method_7_code 43 = .ok (.aload_n 0, 1) := by decide +kernel
theorem d_Mo_point_44 : decode prog_13_method_7_code 44 = .ok (.getfield 106, 3) := by decide +kernel
theorem d_Mo_point_47 : decode prog_13_method_7_code 47 = .ok (.iload_n 1, 1) := by decide +kernel
theorem d_Mo_point_48 : decode prog_13_method_7_code 48 = .ok (.iastore, 1) := by decide +kernel
theorem d_Mo_point_49 : decode prog_13_method_7_code 49 = .ok (.aload_n 0, 1) := by decide +kernel
theorem d_Mo_point_50 : decode prog_13_method_7_code 50 = .ok (.getfield 13, 3) := by decide +kernel
theorem d_Mo_point_53 : decode prog_13_method_7_code 53 = .ok (.aload_n 0, 1) := by decide +kernel
theorem d_Mo_point_54 : decode prog_13_method_7_code 54 = .ok (.getfield 106, 3) := by decide +kernel
theorem d_Mo_point_57 : decode prog_13_method_7_code 57 = .ok (.iload_n 2, 1) := by decide +kernel
theorem d_Mo_point_58 : decode prog_13_method_7_code 58 = .ok (.iastore, 1) := by decide +kernel
theorem d_Mo_point_59 : decode prog_13_method_7_code 59 = .ok (.aload_n 0, 1) := by decide +kernel
theorem d_Mo_point_60 : decode prog_13_method_7_code 60 = .ok (.dup, 1) := by decide +kernel
theorem d_Mo_point_61 : decode prog_13_method_7_code 61 = .ok (.getfield 106, 3) := by decide +kernel
theorem d_Mo_point_64 : decode prog_13_method_7_code 64 = .ok (.iconst 1, 1) := by decide +kernel
theorem d_Mo_point_65 : decode prog_13_method_7_code 65 = .ok (.iadd, 1) := by decide +kernel
theorem d_Mo_point_66 : decode prog_13_method_7_code 66 = .ok (.putfield 106, 3) := by decide +kernel
theorem d_Mo_point_69 : decode prog_13_method_7_code 69 = .ok (.aload_n 0, 1) := by decide +kernel
theorem d_Mo_point_70 : decode prog_13_method_7_code 70 = .ok (.getfield 106, 3) := by decide +kernel
theorem d_Mo_point_73 : decode prog_13_method_7_code 73 = .ok (.ireturn, 1) := by decide +kernel
theorem d_Mo_point_37 : decode prog_13_method_7_code 37 = .ok (.iconst 0, 1) := by decide +kernel
theorem d_Mo_point_38 : decode prog_13_method_7_code 38 = .ok (.ireturn, 1) := by decide +kernel
def wp_Mo_point_27 (post : Int → MS → Prop) (v1 : Int) (v2 : Int) (s0 : Int) (S : MS) : Prop := (∀ S_1 : MS, S_1 = ms_i S 0 s0 → inR (S_1.1 0) ∧ ((S_1.1 0) ≤ 0 → (ixR (S_1.1 4) 32 ∧ (∀ S_2 : MS, S_2 = ms_a S_1 5 (S_1.1 4) v1 → ixR (S_2.1 4) 32 ∧ (∀ S_3 : MS, S_3 = ms_a S_2 6 (S_2.1 4) v2 → (∀ S_4 : MS, S_4 = ms_i S_3 4 ((S_3.1 4) + 1) → post (S_4.1 4) S_4))))) ∧ (¬ ((S_1.1 0) ≤ 0) → post 0 S_1))
def wp_Mo_point (post : Int → MS → Prop) (v1 : Int) (v2 : Int) (S : MS) : Prop := wp_Mo_isPoint (fun r_1 => inR r_1 ∧ (¬ (r_1 = 0) → (inR (S.1 4) ∧ (¬ ((S.1 4) = 32) → wp_Mo_point_27 post v1 v2 0 S) ∧ ((S.1 4) = 32 → wp_Mo_point_27 post v1 v2 2 S))) ∧ (r_1 = 0 → wp_Mo_point_27 post v1 v2 1 S)) v1 v2
set_option maxHeartbeats 4000000 in
set_option maxRecDepth 100000 in
theorem c_Mo_point (l : Launch) {D : va_G} {h : Nat} {ad : Nat → Nat} {kc : Nat → ClassId} {post : Int → MS → Prop} {v1 : Int} {v2 : Int} {S : MS} (hw : wp_Mo_point post v1 v2 S) : jMi l D h ad kc y_Mo_point prog_13_method_7_code 3 (some .int) 1 21 S [vi v1, vi v2] post := by
  refine j_moi (own := "LandBookModel") (by decide) rfl (Nat.le_of_ble_eq_true rfl) (fun X F K hret => ?_)
  have B27 : ∀ (v1 : Int) (v2 : Int) (s0 : Int) (S : MS), wp_Mo_point_27 post v1 v2 s0 S → jat l D X 3 27 [(0, .ref h), (1, vi v1), (2, vi v2)] [vi s0, .ref h] (mw h ad kc S) 0 0 := by
    intro v1 v2 s0 S hw
    unfold wp_Mo_point_27 at hw
    refine m_puti F K 0 (by decide) rfl tj_107 rfl rfl (ty := .int) (by decide +kernel) rfl rfl d_Mo_point_27 (fun S_1 e_S_1 => ?_)
    have hw := hw S_1 e_S_1
    refine j_aload_n F 0 d_Mo_point_30 rfl ?_
    refine m_geti F K 0 (by decide) rfl tj_107 rfl d_Mo_point_31 ?_
    obtain ⟨hc1, hwt, hwf⟩ := hw
    refine j_if_le F 39 hc1 d_Mo_point_34 rfl (fun hh => ?_) (fun hh => ?_)
    · have hw := hwt hh
      refine j_aload_n F 0 d_Mo_point_39 rfl ?_
      refine m_geta F K 5 (by decide) (by decide) tj_112 rfl d_Mo_point_40 ?_
      refine j_aload_n F 0 d_Mo_point_43 rfl ?_
      refine m_geti F K 4 (by decide) rfl tj_111 rfl d_Mo_point_44 ?_
      refine j_iload_n F 1 d_Mo_point_47 rfl ?_
      obtain ⟨hc1, hw⟩ := hw
      refine m_iast F K 5 0 rfl rfl hc1 d_Mo_point_48 (fun S_2 e_S_2 => ?_)
      have hw := hw S_2 e_S_2
      refine j_aload_n F 0 d_Mo_point_49 rfl ?_
      refine m_geta F K 6 (by decide) (by decide) tj_113 rfl d_Mo_point_50 ?_
      refine j_aload_n F 0 d_Mo_point_53 rfl ?_
      refine m_geti F K 4 (by decide) rfl tj_111 rfl d_Mo_point_54 ?_
      refine j_iload_n F 2 d_Mo_point_57 rfl ?_
      obtain ⟨hc1, hw⟩ := hw
      refine m_iast F K 6 1 rfl rfl hc1 d_Mo_point_58 (fun S_3 e_S_3 => ?_)
      have hw := hw S_3 e_S_3
      refine j_aload_n F 0 d_Mo_point_59 rfl ?_
      refine j_dup F rfl d_Mo_point_60 ?_
      refine m_geti F K 4 (by decide) rfl tj_111 rfl d_Mo_point_61 ?_
      refine j_iconst F d_Mo_point_64 ?_
      refine j_iadd F d_Mo_point_65 ?_
      refine m_puti F K 4 (by decide) rfl tj_111 rfl rfl (ty := .int) (by decide +kernel) rfl rfl d_Mo_point_66 (fun S_4 e_S_4 => ?_)
      have hw := hw S_4 e_S_4
      refine j_aload_n F 0 d_Mo_point_69 rfl ?_
      refine m_geti F K 4 (by decide) rfl tj_111 rfl d_Mo_point_70 ?_
      exact hret _ _ _ _ hw d_Mo_point_73
    · have hw := hwf hh
      refine j_iconst F d_Mo_point_37 ?_
      exact hret _ _ _ _ hw d_Mo_point_38
  unfold wp_Mo_point at hw
  show jat l D X 3 0 [(0, .ref h), (1, vi v1), (2, vi v2)] [] (mw h ad kc S) 0 0
  refine j_aload_n F 0 d_Mo_point_0 rfl ?_
  refine j_iload_n F 1 d_Mo_point_1 rfl ?_
  refine j_iload_n F 2 d_Mo_point_2 rfl ?_
  refine j_callS F (c_Mo_isPoint l hw) (tw_gS tj_108 tj_109 tj_87 tj_110) q_Mo_isPoint rfl ⟨by decide, by decide⟩ ⟨Nat.zero_le _, Nat.zero_le _⟩ rfl (Nat.le_of_ble_eq_true rfl) d_Mo_point_3 (fun r_1 hw => ?_)
  obtain ⟨hc1, hwt, hwf⟩ := hw
  refine j_if_ne F 13 hc1 d_Mo_point_6 rfl (fun hh => ?_) (fun hh => ?_)
  · have hw := hwt hh
    refine j_aload_n F 0 d_Mo_point_13 rfl ?_
    refine m_geti F K 4 (by decide) rfl tj_111 rfl d_Mo_point_14 ?_
    refine j_bipush F d_Mo_point_17 (j_bip (by decide) (by decide)) ?_
    obtain ⟨hc1, hwt, hwf⟩ := hw
    refine j_icmp_ne F 26 hc1 ⟨by decide, by decide⟩ d_Mo_point_19 rfl (fun hh => ?_) (fun hh => ?_)
    · have hw := hwt hh
      refine j_iconst F d_Mo_point_26 ?_
      exact B27 _ _ _ _ hw
    · have hw := hwf hh
      refine j_iconst F d_Mo_point_22 ?_
      refine j_goto F 27 d_Mo_point_23 rfl ?_
      exact B27 _ _ _ _ hw
  · have hw := hwf hh
    refine j_iconst F d_Mo_point_9 ?_
    refine j_goto F 27 d_Mo_point_10 rfl ?_
    exact B27 _ _ _ _ hw
theorem tj_114 : (Jvm.Cond.methodLink "LandBookModel" (125 : Nat) ({ cls := "LandBookModel", name := "isFolded", desc := "(IIIIII)Z" } : Jvm.MethodName)) ∈ tw_G := tw_in (List.mem_of_getElem? (i := 1192) (by decide +kernel)) rfl
theorem tj_115 : (Jvm.Cond.static ({ cls := "LandBookModel", name := "isFolded", desc := "(IIIIII)Z" } : Jvm.MethodName)) ∈ tw_G := tw_in (List.mem_of_getElem? (i := 1193) (by decide +kernel)) rfl
theorem tj_116 : (Jvm.Cond.code ({ cls := "LandBookModel", name := "isFolded", desc := "(IIIIII)Z" } : Jvm.MethodName) prog_13_method_13_code (8 : Nat) (Option.some Jvm.ClassFile.FieldType.boolean)) ∈ tw_G := tw_in (List.mem_of_getElem? (i := 1194) (by decide +kernel)) rfl
theorem tj_117 : (Jvm.Cond.methodLink "LandBookModel" (128 : Nat) ({ cls := "LandBookModel", name := "meet", desc := "(IIIIIIII)Z" } : Jvm.MethodName)) ∈ tw_G := tw_in (List.mem_of_getElem? (i := 1198) (by decide +kernel)) rfl
theorem tj_118 : (Jvm.Cond.static ({ cls := "LandBookModel", name := "meet", desc := "(IIIIIIII)Z" } : Jvm.MethodName)) ∈ tw_G := tw_in (List.mem_of_getElem? (i := 1199) (by decide +kernel)) rfl
theorem tj_119 : (Jvm.Cond.code ({ cls := "LandBookModel", name := "meet", desc := "(IIIIIIII)Z" } : Jvm.MethodName) prog_13_method_12_code (13 : Nat) (Option.some Jvm.ClassFile.FieldType.boolean)) ∈ tw_G := tw_in (List.mem_of_getElem? (i := 1200) (by decide +kernel)) rfl
abbrev y_Mo_isSimple : MethodName := ⟨"LandBookModel", "isSimple", "(Z)Z"⟩
theorem q_Mo_isSimple : y_Mo_isSimple.cls = "LandBookModel" ∧ y_Mo_isSimple.cls ≠ "java/lang/invoke/MethodHandle" ∧ y_Mo_isSimple.cls ≠ "java/lang/invoke/VarHandle" ∧ (parseMethodDescriptor y_Mo_isSimple.desc).map (fun d => d.parameters.length) = some 1 := by decide +kernel
theorem d_Mo_isSimple_0 : decode prog_13_method_14_code 0 = .ok (.aload_n 0, 1) := by decide +kernel
theorem d_Mo_isSimple_1 : decode prog_13_method_14_code 1 = .ok (.getfield 106, 3) := by decide +kernel
theorem d_Mo_isSimple_4 : decode prog_13_method_14_code 4 = .ok (.istore_n 2, 1) := by decide +kernel
theorem d_Mo_isSimple_5 : decode prog_13_method_14_code 5 = .ok (.iload_n 1, 1) := by decide +kernel
theorem d_Mo_isSimple_6 : decode prog_13_method_14_code 6 = .ok (.ifCond .eq 7, 3) := by decide +kernel
theorem d_Mo_isSimple_13 : decode prog_13_method_14_code 13 = .ok (.iload_n 2, 1) := by decide +kernel
theorem d_Mo_isSimple_14 : decode prog_13_method_14_code 14 = .ok (.iconst 1, 1) := by decide +kernel
theorem d_Mo_isSimple_15 : decode prog_13_method_14_code 15 = .ok (.isub, 1) := by decide +kernel
theorem d_Mo_isSimple_9 : decode prog_13_method_14_code 9 = .ok (.iload_n 2, 1) := by decide +kernel
theorem d_Mo_isSimple_10 : decode prog_13_method_14_code 10 = .ok (.goto 6, 3) := by decide +kernel
theorem d_Mo_isSimple_16 : decode prog_13_method_14_code 16 = .ok (.istore_n 3, 1) := by decide +kernel
theorem d_Mo_isSimple_17 : decode prog_13_method_14_code 17 = .ok (.iconst 1, 1) := by decide +kernel
theorem d_Mo_isSimple_18 : decode prog_13_method_14_code 18 = .ok (.istore 4, 2) := by decide +kernel
theorem d_Mo_isSimple_20 : decode prog_13_method_14_code 20 = .ok (.iconst 0, 1) := by decide +kernel
theorem d_Mo_isSimple_21 : decode prog_13_method_14_code 21 = .ok (.istore 5, 2) := by decide +kernel
theorem d_Mo_isSimple_23 : decode prog_13_method_14_code 23 = .ok (.iload 5, 2) := by decide +kernel
theorem d_Mo_isSimple_25 : decode prog_13_method_14_code 25 = .ok (.iload_n 3, 1) := by decide +kernel
theorem d_Mo_isSimple_26 : decode prog_13_method_14_code 26 = .ok (.if_icmp .ge 63, 3) := by decide +kernel
theorem d_Mo_isSimple_89 : decode prog_13_method_14_code 89 = .ok (.iconst 0, 1) := by decide +kernel
theorem d_Mo_isSimple_90 : decode prog_13_method_14_code 90 = .ok (.istore 5, 2) := by decide +kernel
theorem d_Mo_isSimple_29 : decode prog_13_method_14_code 29 = .ok (.iload 5, 2) := by decide +kernel
theorem d_Mo_isSimple_31 : decode prog_13_method_14_code 31 = .ok (.iconst 1, 1) := by decide +kernel
theorem d_Mo_isSimple_32 : decode prog_13_method_14_code 32 = .ok (.iadd, 1) := by decide +kernel
theorem d_Mo_isSimple_33 : decode prog_13_method_14_code 33 = .ok (.iload_n 2, 1) := by decide +kernel
theorem d_Mo_isSimple_34 : decode prog_13_method_14_code 34 = .ok (.irem, 1) := by decide +kernel
theorem d_Mo_isSimple_35 : decode prog_13_method_14_code 35 = .ok (.istore 6, 2) := by decide +kernel
theorem d_Mo_isSimple_37 : decode prog_13_method_14_code 37 = .ok (.iload 4, 2) := by decide +kernel
theorem d_Mo_isSimple_39 : decode prog_13_method_14_code 39 = .ok (.ifCond .eq 41, 3) := by decide +kernel
theorem d_Mo_isSimple_80 : decode prog_13_method_14_code 80 = .ok (.iconst 0, 1) := by decide +kernel
theorem d_Mo_isSimple_42 : decode prog_13_method_14_code 42 = .ok (.aload_n 0, 1) := by decide +kernel
theorem d_Mo_isSimple_43 : decode prog_13_method_14_code 43 = .ok (.getfield 7, 3) := by decide +kernel
theorem d_Mo_isSimple_46 : decode prog_13_method_14_code 46 = .ok (.iload 5, 2) := by decide +kernel
theorem d_Mo_isSimple_48 : decode prog_13_method_14_code 48 = .ok (.iaload, 1) := by decide +kernel
theorem d_Mo_isSimple_49 : decode prog_13_method_14_code 49 = .ok (.aload_n 0, 1) := by decide +kernel
theorem d_Mo_isSimple_50 : decode prog_13_method_14_code 50 = .ok (.getfield 7, 3) := by decide +kernel
theorem d_Mo_isSimple_53 : decode prog_13_method_14_code 53 = .ok (.iload 6, 2) := by decide +kernel
theorem d_Mo_isSimple_55 : decode prog_13_method_14_code 55 = .ok (.iaload, 1) := by decide +kernel
theorem d_Mo_isSimple_56 : decode prog_13_method_14_code 56 = .ok (.if_icmp .ne 20, 3) := by decide +kernel
theorem d_Mo_isSimple_76 : decode prog_13_method_14_code 76 = .ok (.iconst 1, 1) := by decide +kernel
theorem d_Mo_isSimple_77 : decode prog_13_method_14_code 77 = .ok (.goto 4, 3) := by decide +kernel
theorem d_Mo_isSimple_59 : decode prog_13_method_14_code 59 = .ok (.aload_n 0, 1) := by decide +kernel
theorem d_Mo_isSimple_60 : decode prog_13_method_14_code 60 = .ok (.getfield 13, 3) := by decide +kernel
theorem d_Mo_isSimple_63 : decode prog_13_method_14_code 63 = .ok (.iload 5, 2) := by decide +kernel
theorem d_Mo_isSimple_65 : decode prog_13_method_14_code 65 = .ok (.iaload, 1) := by decide +kernel
theorem d_Mo_isSimple_66 : decode prog_13_method_14_code 66 = .ok (.aload_n 0, 1) := by decide +kernel
theorem d_Mo_isSimple_67 : decode prog_13_method_14_code 67 = .ok (.getfield 13, 3) := by decide +kernel
theorem d_Mo_isSimple_70 : decode prog_13_method_14_code 70 = .ok (.iload 6, 2) := by decide +kernel
theorem d_Mo_isSimple_72 : decode prog_13_method_14_code 72 = .ok (.iaload, 1) := by decide +kernel
theorem d_Mo_isSimple_73 : decode prog_13_method_14_code 73 = .ok (.if_icmp .eq 7, 3) := by decide +kernel
theorem d_Mo_isSimple_92 : decode prog_13_method_14_code 92 = .ok (.iload 5, 2) := by decide +kernel
theorem d_Mo_isSimple_94 : decode prog_13_method_14_code 94 = .ok (.iload_n 3, 1) := by decide +kernel
theorem d_Mo_isSimple_95 : decode prog_13_method_14_code 95 = .ok (.if_icmp .ge 285, 3) := by decide +kernel
theorem d_Mo_isSimple_380 : decode prog_13_method_14_code 380 = .ok (.iload 4, 2) := by decide +kernel
theorem d_Mo_isSimple_382 : decode prog_13_method_14_code 382 = .ok (.ireturn, 1) := by decide +kernel
theorem d_Mo_isSimple_98 : decode prog_13_method_14_code 98 = .ok (.iload 4, 2) := by decide +kernel
theorem d_Mo_isSimple_100 : decode prog_13_method_14_code 100 = .ok (.ifCond .eq 280, 3) := by decide +kernel
theorem d_Mo_isSimple_103 : decode prog_13_method_14_code 103 = .ok (.iload 5, 2) := by decide +kernel
theorem d_Mo_isSimple_105 : decode prog_13_method_14_code 105 = .ok (.iconst 1, 1) := by decide +kernel
theorem d_Mo_isSimple_106 : decode prog_13_method_14_code 106 = .ok (.iadd, 1) := by decide +kernel
theorem d_Mo_isSimple_107 : decode prog_13_method_14_code 107 = .ok (.istore 6, 2) := by decide +kernel
theorem d_Mo_isSimple_81 : decode prog_13_method_14_code 81 = .ok (.istore 4, 2) := by decide +kernel
theorem d_Mo_isSimple_83 : decode prog_13_method_14_code 83 = .ok (.iinc 5 1, 3) := by decide +kernel
theorem d_Mo_isSimple_86 : decode prog_13_method_14_code 86 = .ok (.goto (-63), 3) := by decide +kernel
theorem d_Mo_isSimple_109 : decode prog_13_method_14_code 109 = .ok (.iload 6, 2) := by decide +kernel
theorem d_Mo_isSimple_111 : decode prog_13_method_14_code 111 = .ok (.iload_n 3, 1) := by decide +kernel
theorem d_Mo_isSimple_112 : decode prog_13_method_14_code 112 = .ok (.if_icmp .ge 262, 3) := by decide +kernel
theorem d_Mo_isSimple_115 : decode prog_13_method_14_code 115 = .ok (.iload 4, 2) := by decide +kernel
theorem d_Mo_isSimple_117 : decode prog_13_method_14_code 117 = .ok (.ifCond .eq 257, 3) := by decide +kernel
theorem d_Mo_isSimple_120 : decode prog_13_method_14_code 120 = .ok (.iload 5, 2) := by decide +kernel
theorem d_Mo_isSimple_122 : decode prog_13_method_14_code 122 = .ok (.iconst 1, 1) := by decide +kernel
theorem d_Mo_isSimple_123 : decode prog_13_method_14_code 123 = .ok (.iadd, 1) := by decide +kernel
theorem d_Mo_isSimple_124 : decode prog_13_method_14_code 124 = .ok (.iload_n 2, 1) := by decide +kernel
theorem d_Mo_isSimple_125 : decode prog_13_method_14_code 125 = .ok (.irem, 1) := by decide +kernel
theorem d_Mo_isSimple_126 : decode prog_13_method_14_code 126 = .ok (.istore 7, 2) := by decide +kernel
theorem d_Mo_isSimple_128 : decode prog_13_method_14_code 128 = .ok (.iload 6, 2) := by decide +kernel
theorem d_Mo_isSimple_130 : decode prog_13_method_14_code 130 = .ok (.iconst 1, 1) := by decide +kernel
theorem d_Mo_isSimple_131 : decode prog_13_method_14_code 131 = .ok (.iadd, 1) := by decide +kernel
theorem d_Mo_isSimple_132 : decode prog_13_method_14_code 132 = .ok (.iload_n 2, 1) := by decide +kernel
theorem d_Mo_isSimple_133 : decode prog_13_method_14_code 133 = .ok (.irem, 1) := by decide +kernel
theorem d_Mo_isSimple_134 : decode prog_13_method_14_code 134 = .ok (.istore 8, 2) := by decide +kernel
theorem d_Mo_isSimple_136 : decode prog_13_method_14_code 136 = .ok (.iload 7, 2) := by decide +kernel
theorem d_Mo_isSimple_138 : decode prog_13_method_14_code 138 = .ok (.iload 6, 2) := by decide +kernel
theorem d_Mo_isSimple_140 : decode prog_13_method_14_code 140 = .ok (.if_icmp .ne 7, 3) := by decide +kernel
theorem d_Mo_isSimple_147 : decode prog_13_method_14_code 147 = .ok (.iconst 0, 1) := by decide +kernel
theorem d_Mo_isSimple_143 : decode prog_13_method_14_code 143 = .ok (.iconst 1, 1) := by decide +kernel
theorem d_Mo_isSimple_144 : decode prog_13_method_14_code 144 = .ok (.goto 4, 3) := by decide +kernel
theorem d_Mo_isSimple_374 : decode prog_13_method_14_code 374 = .ok (.iinc 5 1, 3) := by decide +kernel
theorem d_Mo_isSimple_377 : decode prog_13_method_14_code 377 = .ok (.goto (-285), 3) := by decide +kernel
theorem d_Mo_isSimple_148 : decode prog_13_method_14_code 148 = .ok (.istore 9, 2) := by decide +kernel
theorem d_Mo_isSimple_150 : decode prog_13_method_14_code 150 = .ok (.iload 8, 2) := by decide +kernel
theorem d_Mo_isSimple_152 : decode prog_13_method_14_code 152 = .ok (.iload 5, 2) := by decide +kernel
theorem d_Mo_isSimple_154 : decode prog_13_method_14_code 154 = .ok (.if_icmp .ne 7, 3) := by decide +kernel
theorem d_Mo_isSimple_161 : decode prog_13_method_14_code 161 = .ok (.iconst 0, 1) := by decide +kernel
theorem d_Mo_isSimple_157 : decode prog_13_method_14_code 157 = .ok (.iconst 1, 1) := by decide +kernel
theorem d_Mo_isSimple_158 : decode prog_13_method_14_code 158 = .ok (.goto 4, 3) := by decide +kernel
theorem d_Mo_isSimple_162 : decode prog_13_method_14_code 162 = .ok (.istore 10, 2) := by decide +kernel
theorem d_Mo_isSimple_164 : decode prog_13_method_14_code 164 = .ok (.iload 9, 2) := by decide +kernel
theorem d_Mo_isSimple_166 : decode prog_13_method_14_code 166 = .ok (.ifCond .eq 58, 3) := by decide +kernel
theorem d_Mo_isSimple_169 : decode prog_13_method_14_code 169 = .ok (.aload_n 0, 1) := by decide +kernel
theorem d_Mo_isSimple_170 : decode prog_13_method_14_code 170 = .ok (.getfield 7, 3) := by decide +kernel
theorem d_Mo_isSimple_173 : decode prog_13_method_14_code 173 = .ok (.iload 7, 2) := by decide +kernel
theorem d_Mo_isSimple_175 : decode prog_13_method_14_code 175 = .ok (.iaload, 1) := by decide +kernel
theorem d_Mo_isSimple_176 : decode prog_13_method_14_code 176 = .ok (.aload_n 0, 1) := by decide +kernel
theorem d_Mo_isSimple_177 : decode prog_13_method_14_code 177 = .ok (.getfield 13, 3) := by decide +kernel
theorem d_Mo_isSimple_180 : decode prog_13_method_14_code 180 = .ok (.iload 7, 2) := by decide +kernel
theorem d_Mo_isSimple_182 : decode prog_13_method_14_code 182 = .ok (.iaload, 1) := by decide +kernel
theorem d_Mo_isSimple_183 : decode prog_13_method_14_code 183 = .ok (.aload_n 0, 1) := by decide +kernel
theorem d_Mo_isSimple_184 : decode prog_13_method_14_code 184 = .ok (.getfield 7, 3) := by decide +kernel
theorem d_Mo_isSimple_187 : decode prog_13_method_14_code 187 = .ok (.iload 5, 2) := by decide +kernel
theorem d_Mo_isSimple_189 : decode prog_13_method_14_code 189 = .ok (.iaload, 1) := by decide +kernel
theorem d_Mo_isSimple_190 : decode prog_13_method_14_code 190 = .ok (.aload_n 0, 1) := by decide +kernel
theorem d_Mo_isSimple_191 : decode prog_13_method_14_code 191 = .ok (.getfield 13, 3) := by decide +kernel
theorem d_Mo_isSimple_194 : decode prog_13_method_14_code 194 = .ok (.iload 5, 2) := by decide +kernel
theorem d_Mo_isSimple_196 : decode prog_13_method_14_code 196 = .ok (.iaload, 1) := by decide +kernel
theorem d_Mo_isSimple_197 : decode prog_13_method_14_code 197 = .ok (.aload_n 0, 1) := by decide +kernel
theorem d_Mo_isSimple_198 : decode prog_13_method_14_code 198 = .ok (.getfield 7, 3) := by decide +kernel
theorem d_Mo_isSimple_201 : decode prog_13_method_14_code 201 = .ok (.iload 8, 2) := by decide +kernel
theorem d_Mo_isSimple_203 : decode prog_13_method_14_code 203 = .ok (.iaload, 1) := by decide +kernel
theorem d_Mo_isSimple_204 : decode prog_13_method_14_code 204 = .ok (.aload_n 0, 1) := by decide +kernel
theorem d_Mo_isSimple_205 : decode prog_13_method_14_code 205 = .ok (.getfield 13, 3) := by decide +kernel
theorem d_Mo_isSimple_208 : decode prog_13_method_14_code 208 = .ok (.iload 8, 2) := by decide +kernel
theorem d_Mo_isSimple_210 : decode prog_13_method_14_code 210 = .ok (.iaload, 1) := by decide +kernel
theorem d_Mo_isSimple_211 : decode prog_13_method_14_code 211 = .ok (.invokestatic 125, 3) := by decide +kernel
theorem d_Mo_isSimple_214 : decode prog_13_method_14_code 214 = .ok (.ifCond .ne 7, 3) := by decide +kernel
theorem d_Mo_isSimple_221 : decode prog_13_method_14_code 221 = .ok (.iconst 0, 1) := by decide +kernel
theorem d_Mo_isSimple_217 : decode prog_13_method_14_code 217 = .ok (.iconst 1, 1) := by decide +kernel
theorem d_Mo_isSimple_218 : decode prog_13_method_14_code 218 = .ok (.goto 4, 3) := by decide +kernel
theorem d_Mo_isSimple_224 : decode prog_13_method_14_code 224 = .ok (.iload 10, 2) := by decide +kernel
theorem d_Mo_isSimple_226 : decode prog_13_method_14_code 226 = .ok (.ifCond .eq 63, 3) := by decide +kernel
theorem d_Mo_isSimple_229 : decode prog_13_method_14_code 229 = .ok (.iload 4, 2) := by decide +kernel
theorem d_Mo_isSimple_231 : decode prog_13_method_14_code 231 = .ok (.ifCond .eq 55, 3) := by decide +kernel
theorem d_Mo_isSimple_286 : decode prog_13_method_14_code 286 = .ok (.iconst 0, 1) := by decide +kernel
theorem d_Mo_isSimple_234 : decode prog_13_method_14_code 234 = .ok (.aload_n 0, 1) := by decide +kernel
theorem d_Mo_isSimple_235 : decode prog_13_method_14_code 235 = .ok (.getfield 7, 3) := by decide +kernel
theorem d_Mo_isSimple_238 : decode prog_13_method_14_code 238 = .ok (.iload 5, 2) := by decide +kernel
theorem d_Mo_isSimple_240 : decode prog_13_method_14_code 240 = .ok (.iaload, 1) := by decide +kernel
theorem d_Mo_isSimple_241 : decode prog_13_method_14_code 241 = .ok (.aload_n 0, 1) := by decide +kernel
theorem d_Mo_isSimple_242 : decode prog_13_method_14_code 242 = .ok (.getfield 13, 3) := by decide +kernel
theorem d_Mo_isSimple_245 : decode prog_13_method_14_code 245 = .ok (.iload 5, 2) := by decide +kernel
theorem d_Mo_isSimple_247 : decode prog_13_method_14_code 247 = .ok (.iaload, 1) := by decide +kernel
theorem d_Mo_isSimple_248 : decode prog_13_method_14_code 248 = .ok (.aload_n 0, 1) := by decide +kernel
theorem d_Mo_isSimple_249 : decode prog_13_method_14_code 249 = .ok (.getfield 7, 3) := by decide +kernel
theorem d_Mo_isSimple_252 : decode prog_13_method_14_code 252 = .ok (.iload 7, 2) := by decide +kernel
theorem d_Mo_isSimple_254 : decode prog_13_method_14_code 254 = .ok (.iaload, 1) := by decide +kernel
theorem d_Mo_isSimple_255 : decode prog_13_method_14_code 255 = .ok (.aload_n 0, 1) := by decide +kernel
theorem d_Mo_isSimple_256 : decode prog_13_method_14_code 256 = .ok (.getfield 13, 3) := by decide +kernel
theorem d_Mo_isSimple_259 : decode prog_13_method_14_code 259 = .ok (.iload 7, 2) := by decide +kernel
theorem d_Mo_isSimple_261 : decode prog_13_method_14_code 261 = .ok (.iaload, 1) := by decide +kernel
theorem d_Mo_isSimple_262 : decode prog_13_method_14_code 262 = .ok (.aload_n 0, 1) := by decide +kernel
theorem d_Mo_isSimple_263 : decode prog_13_method_14_code 263 = .ok (.getfield 7, 3) := by decide +kernel
theorem d_Mo_isSimple_266 : decode prog_13_method_14_code 266 = .ok (.iload 6, 2) := by decide +kernel
theorem d_Mo_isSimple_268 : decode prog_13_method_14_code 268 = .ok (.iaload, 1) := by decide +kernel
theorem d_Mo_isSimple_269 : decode prog_13_method_14_code 269 = .ok (.aload_n 0, 1) := by decide +kernel
theorem d_Mo_isSimple_270 : decode prog_13_method_14_code 270 = .ok (.getfield 13, 3) := by decide +kernel
theorem d_Mo_isSimple_273 : decode prog_13_method_14_code 273 = .ok (.iload 6, 2) := by decide +kernel
theorem d_Mo_isSimple_275 : decode prog_13_method_14_code 275 = .ok (.iaload, 1) := by decide +kernel
theorem d_Mo_isSimple_276 : decode prog_13_method_14_code 276 = .ok (.invokestatic 125, 3) := by decide +kernel
theorem d_Mo_isSimple_279 : decode prog_13_method_14_code 279 = .ok (.ifCond .ne 7, 3) := by decide +kernel
theorem d_Mo_isSimple_282 : decode prog_13_method_14_code 282 = .ok (.iconst 1, 1) := by decide +kernel
theorem d_Mo_isSimple_283 : decode prog_13_method_14_code 283 = .ok (.goto 4, 3) := by decide +kernel
theorem d_Mo_isSimple_222 : decode prog_13_method_14_code 222 = .ok (.istore 4, 2) := by decide +kernel
theorem d_Mo_isSimple_289 : decode prog_13_method_14_code 289 = .ok (.iload 9, 2) := by decide +kernel
theorem d_Mo_isSimple_291 : decode prog_13_method_14_code 291 = .ok (.ifCond .ne 77, 3) := by decide +kernel
theorem d_Mo_isSimple_294 : decode prog_13_method_14_code 294 = .ok (.iload 10, 2) := by decide +kernel
theorem d_Mo_isSimple_296 : decode prog_13_method_14_code 296 = .ok (.ifCond .ne 72, 3) := by decide +kernel
theorem d_Mo_isSimple_299 : decode prog_13_method_14_code 299 = .ok (.aload_n 0, 1) := by decide +kernel
theorem d_Mo_isSimple_300 : decode prog_13_method_14_code 300 = .ok (.getfield 7, 3) := by decide +kernel
theorem d_Mo_isSimple_303 : decode prog_13_method_14_code 303 = .ok (.iload 5, 2) := by decide +kernel
theorem d_Mo_isSimple_305 : decode prog_13_method_14_code 305 = .ok (.iaload, 1) := by decide +kernel
theorem d_Mo_isSimple_306 : decode prog_13_method_14_code 306 = .ok (.aload_n 0, 1) := by decide +kernel
theorem d_Mo_isSimple_307 : decode prog_13_method_14_code 307 = .ok (.getfield 13, 3) := by decide +kernel
theorem d_Mo_isSimple_310 : decode prog_13_method_14_code 310 = .ok (.iload 5, 2) := by decide +kernel
theorem d_Mo_isSimple_312 : decode prog_13_method_14_code 312 = .ok (.iaload, 1) := by decide +kernel
theorem d_Mo_isSimple_313 : decode prog_13_method_14_code 313 = .ok (.aload_n 0, 1) := by decide +kernel
theorem d_Mo_isSimple_314 : decode prog_13_method_14_code 314 = .ok (.getfield 7, 3) := by decide +kernel
theorem d_Mo_isSimple_317 : decode prog_13_method_14_code 317 = .ok (.iload 7, 2) := by decide +kernel
theorem d_Mo_isSimple_319 : decode prog_13_method_14_code 319 = .ok (.iaload, 1) := by decide +kernel
theorem d_Mo_isSimple_320 : decode prog_13_method_14_code 320 = .ok (.aload_n 0, 1) := by decide +kernel
theorem d_Mo_isSimple_321 : decode prog_13_method_14_code 321 = .ok (.getfield 13, 3) := by decide +kernel
theorem d_Mo_isSimple_324 : decode prog_13_method_14_code 324 = .ok (.iload 7, 2) := by decide +kernel
theorem d_Mo_isSimple_326 : decode prog_13_method_14_code 326 = .ok (.iaload, 1) := by decide +kernel
theorem d_Mo_isSimple_327 : decode prog_13_method_14_code 327 = .ok (.aload_n 0, 1) := by decide +kernel
theorem d_Mo_isSimple_328 : decode prog_13_method_14_code 328 = .ok (.getfield 7, 3) := by decide +kernel
theorem d_Mo_isSimple_331 : decode prog_13_method_14_code 331 = .ok (.iload 6, 2) := by decide +kernel
theorem d_Mo_isSimple_333 : decode prog_13_method_14_code 333 = .ok (.iaload, 1) := by decide +kernel
theorem d_Mo_isSimple_334 : decode prog_13_method_14_code 334 = .ok (.aload_n 0, 1) := by decide +kernel
theorem d_Mo_isSimple_335 : decode prog_13_method_14_code 335 = .ok (.getfield 13, 3) := by decide +kernel
theorem d_Mo_isSimple_338 : decode prog_13_method_14_code 338 = .ok (.iload 6, 2) := by decide +kernel
theorem d_Mo_isSimple_340 : decode prog_13_method_14_code 340 = .ok (.iaload, 1) := by decide +kernel
theorem d_Mo_isSimple_341 : decode prog_13_method_14_code 341 = .ok (.aload_n 0, 1) := by decide +kernel
theorem d_Mo_isSimple_342 : decode prog_13_method_14_code 342 = .ok (.getfield 7, 3) := by decide +kernel
theorem d_Mo_isSimple_345 : decode prog_13_method_14_code 345 = .ok (.iload 8, 2) := by decide +kernel
theorem d_Mo_isSimple_347 : decode prog_13_method_14_code 347 = .ok (.iaload, 1) := by decide +kernel
theorem d_Mo_isSimple_348 : decode prog_13_method_14_code 348 = .ok (.aload_n 0, 1) := by decide +kernel
theorem d_Mo_isSimple_349 : decode prog_13_method_14_code 349 = .ok (.getfield 13, 3) := by decide +kernel
theorem d_Mo_isSimple_352 : decode prog_13_method_14_code 352 = .ok (.iload 8, 2) := by decide +kernel
theorem d_Mo_isSimple_354 : decode prog_13_method_14_code 354 = .ok (.iaload, 1) := by decide +kernel
theorem d_Mo_isSimple_355 : decode prog_13_method_14_code 355 = .ok (.invokestatic 128, 3) := by decide +kernel
theorem d_Mo_isSimple_358 : decode prog_13_method_14_code 358 = .ok (.ifCond .ne 7, 3) := by decide +kernel
theorem d_Mo_isSimple_365 : decode prog_13_method_14_code 365 = .ok (.iconst 0, 1) := by decide +kernel
theorem d_Mo_isSimple_361 : decode prog_13_method_14_code 361 = .ok (.iconst 1, 1) := by decide +kernel
theorem d_Mo_isSimple_362 : decode prog_13_method_14_code 362 = .ok (.goto 4, 3) := by decide +kernel
theorem d_Mo_isSimple_287 : decode prog_13_method_14_code 287 = .ok (.istore 4, 2) := by decide +kernel
theorem d_Mo_isSimple_368 : decode prog_13_method_14_code 368 = .ok (.iinc 6 1, 3) := by decide +kernel
theorem d_Mo_isSimple_371 : decode prog_13_method_14_code 371 = .ok (.goto (-262), 3) := by decide +kernel
theorem d_Mo_isSimple_366 : decode prog_13_method_14_code 366 = .ok (.istore 4, 2) := by decide +kernel
def wp_Mo_isSimple_374 (post : Int → MS → Prop) (k92 : Int → Int → Int → Int → MS → Prop) (v2 : Int) (v3 : Int) (v4 : Int) (v5 : Int) (S : MS) : Prop := k92 v2 v3 v4 (v5 + 1) S
def wp_Mo_isSimple_368 (post : Int → MS → Prop) (k92 : Int → Int → Int → Int → MS → Prop) (k109 : Int → Int → Int → Int → Int → MS → Prop) (v2 : Int) (v3 : Int) (v4 : Int) (v5 : Int) (v6 : Int) (S : MS) : Prop := k109 v2 v3 v4 v5 (v6 + 1) S
def wp_Mo_isSimple_366 (post : Int → MS → Prop) (k92 : Int → Int → Int → Int → MS → Prop) (k109 : Int → Int → Int → Int → Int → MS → Prop) (v2 : Int) (v3 : Int) (v5 : Int) (v6 : Int) (s0 : Int) (S : MS) : Prop := wp_Mo_isSimple_368 post k92 k109 v2 v3 s0 v5 v6 S
def wp_Mo_isSimple_289 (post : Int → MS → Prop) (k92 : Int → Int → Int → Int → MS → Prop) (k109 : Int → Int → Int → Int → Int → MS → Prop) (v2 : Int) (v3 : Int) (v4 : Int) (v5 : Int) (v6 : Int) (v7 : Int) (v8 : Int) (v9 : Int) (v10 : Int) (S : MS) : Prop := inR v9 ∧ (¬ (v9 = 0) → wp_Mo_isSimple_368 post k92 k109 v2 v3 v4 v5 v6 S) ∧ (v9 = 0 → (inR v10 ∧ (¬ (v10 = 0) → wp_Mo_isSimple_368 post k92 k109 v2 v3 v4 v5 v6 S) ∧ (v10 = 0 → (ixR v5 32 ∧ (ixR v5 32 ∧ (ixR v7 32 ∧ (ixR v7 32 ∧ (ixR v6 32 ∧ (ixR v6 32 ∧ (ixR v8 32 ∧ (ixR v8 32 ∧ (wp_Mo_meet (fun r_1 => inR r_1 ∧ (¬ (r_1 = 0) → wp_Mo_isSimple_366 post k92 k109 v2 v3 v5 v6 0 S) ∧ (r_1 = 0 → wp_Mo_isSimple_366 post k92 k109 v2 v3 v5 v6 1 S)) (S.2 5 v5.toNat) (S.2 6 v5.toNat) (S.2 5 v7.toNat) (S.2 6 v7.toNat) (S.2 5 v6.toNat) (S.2 6 v6.toNat) (S.2 5 v8.toNat) (S.2 6 v8.toNat)))))))))))))
def wp_Mo_isSimple_287 (post : Int → MS → Prop) (k92 : Int → Int → Int → Int → MS → Prop) (k109 : Int → Int → Int → Int → Int → MS → Prop) (v2 : Int) (v3 : Int) (v5 : Int) (v6 : Int) (v7 : Int) (v8 : Int) (v9 : Int) (v10 : Int) (s0 : Int) (S : MS) : Prop := wp_Mo_isSimple_289 post k92 k109 v2 v3 s0 v5 v6 v7 v8 v9 v10 S
def wp_Mo_isSimple_224 (post : Int → MS → Prop) (k92 : Int → Int → Int → Int → MS → Prop) (k109 : Int → Int → Int → Int → Int → MS → Prop) (v2 : Int) (v3 : Int) (v4 : Int) (v5 : Int) (v6 : Int) (v7 : Int) (v8 : Int) (v9 : Int) (v10 : Int) (S : MS) : Prop := inR v10 ∧ (v10 = 0 → wp_Mo_isSimple_289 post k92 k109 v2 v3 v4 v5 v6 v7 v8 v9 v10 S) ∧ (¬ (v10 = 0) → (inR v4 ∧ (v4 = 0 → wp_Mo_isSimple_287 post k92 k109 v2 v3 v5 v6 v7 v8 v9 v10 0 S) ∧ (¬ (v4 = 0) → (ixR v5 32 ∧ (ixR v5 32 ∧ (ixR v7 32 ∧ (ixR v7 32 ∧ (ixR v6 32 ∧ (ixR v6 32 ∧ (wp_Mo_isFolded (fun r_1 => inR r_1 ∧ (¬ (r_1 = 0) → wp_Mo_isSimple_287 post k92 k109 v2 v3 v5 v6 v7 v8 v9 v10 0 S) ∧ (r_1 = 0 → wp_Mo_isSimple_287 post k92 k109 v2 v3 v5 v6 v7 v8 v9 v10 1 S)) (S.2 5 v5.toNat) (S.2 6 v5.toNat) (S.2 5 v7.toNat) (S.2 6 v7.toNat) (S.2 5 v6.toNat) (S.2 6 v6.toNat)))))))))))
def wp_Mo_isSimple_222 (post : Int → MS → Prop) (k92 : Int → Int → Int → Int → MS → Prop) (k109 : Int → Int → Int → Int → Int → MS → Prop) (v2 : Int) (v3 : Int) (v5 : Int) (v6 : Int) (v7 : Int) (v8 : Int) (v9 : Int) (v10 : Int) (s0 : Int) (S : MS) : Prop := wp_Mo_isSimple_224 post k92 k109 v2 v3 s0 v5 v6 v7 v8 v9 v10 S
def wp_Mo_isSimple_162 (post : Int → MS → Prop) (k92 : Int → Int → Int → Int → MS → Prop) (k109 : Int → Int → Int → Int → Int → MS → Prop) (v2 : Int) (v3 : Int) (v4 : Int) (v5 : Int) (v6 : Int) (v7 : Int) (v8 : Int) (v9 : Int) (s0 : Int) (S : MS) : Prop := inR v9 ∧ (v9 = 0 → wp_Mo_isSimple_224 post k92 k109 v2 v3 v4 v5 v6 v7 v8 v9 s0 S) ∧ (¬ (v9 = 0) → (ixR v7 32 ∧ (ixR v7 32 ∧ (ixR v5 32 ∧ (ixR v5 32 ∧ (ixR v8 32 ∧ (ixR v8 32 ∧ (wp_Mo_isFolded (fun r_1 => inR r_1 ∧ (¬ (r_1 = 0) → wp_Mo_isSimple_222 post k92 k109 v2 v3 v5 v6 v7 v8 v9 s0 0 S) ∧ (r_1 = 0 → wp_Mo_isSimple_222 post k92 k109 v2 v3 v5 v6 v7 v8 v9 s0 1 S)) (S.2 5 v7.toNat) (S.2 6 v7.toNat) (S.2 5 v5.toNat) (S.2 6 v5.toNat) (S.2 5 v8.toNat) (S.2 6 v8.toNat)))))))))
def wp_Mo_isSimple_148 (post : Int → MS → Prop) (k92 : Int → Int → Int → Int → MS → Prop) (k109 : Int → Int → Int → Int → Int → MS → Prop) (v2 : Int) (v3 : Int) (v4 : Int) (v5 : Int) (v6 : Int) (v7 : Int) (v8 : Int) (s0 : Int) (S : MS) : Prop := inR v8 ∧ inR v5 ∧ (¬ (v8 = v5) → wp_Mo_isSimple_162 post k92 k109 v2 v3 v4 v5 v6 v7 v8 s0 0 S) ∧ (v8 = v5 → wp_Mo_isSimple_162 post k92 k109 v2 v3 v4 v5 v6 v7 v8 s0 1 S)
def wp_Mo_isSimple_109 (post : Int → MS → Prop) (k92 : Int → Int → Int → Int → MS → Prop) : Nat → Int → Int → Int → Int → Int → MS → Prop
  | 0, _, _, _, _, _, _ => False
  | n + 1, v2, v3, v4, v5, v6, S => inR v6 ∧ inR v3 ∧ (v3 ≤ v6 → wp_Mo_isSimple_374 post k92 v2 v3 v4 v5 S) ∧ (¬ (v3 ≤ v6) → (inR v4 ∧ (v4 = 0 → wp_Mo_isSimple_374 post k92 v2 v3 v4 v5 S) ∧ (¬ (v4 = 0) → (dvR (v5 + 1) v2 ∧ (∀ v7_1 : Int, v7_1 = ((v5 + 1) % v2) → dvR (v6 + 1) v2 ∧ (∀ v8_2 : Int, v8_2 = ((v6 + 1) % v2) → inR v7_1 ∧ inR v6 ∧ (¬ (v7_1 = v6) → wp_Mo_isSimple_148 post k92 (wp_Mo_isSimple_109 post k92 n) v2 v3 v4 v5 v6 v7_1 v8_2 0 S) ∧ (v7_1 = v6 → wp_Mo_isSimple_148 post k92 (wp_Mo_isSimple_109 post k92 n) v2 v3 v4 v5 v6 v7_1 v8_2 1 S)))))))
def wp_Mo_isSimple_92 (post : Int → MS → Prop) : Nat → Int → Int → Int → Int → MS → Prop
  | 0, _, _, _, _, _ => False
  | n + 1, v2, v3, v4, v5, S => inR v5 ∧ inR v3 ∧ (v3 ≤ v5 → (b01 v4 ∧ post v4 S)) ∧ (¬ (v3 ≤ v5) → (inR v4 ∧ (v4 = 0 → (b01 v4 ∧ post v4 S)) ∧ (¬ (v4 = 0) → (∃ n0 : Nat, wp_Mo_isSimple_109 post (wp_Mo_isSimple_92 post n) n0 v2 v3 v4 v5 (v5 + 1) S))))
def wp_Mo_isSimple_81 (post : Int → MS → Prop) (k23 : Int → Int → Int → Int → MS → Prop) (v2 : Int) (v3 : Int) (v5 : Int) (s0 : Int) (S : MS) : Prop := k23 v2 v3 s0 (v5 + 1) S
def wp_Mo_isSimple_23 (post : Int → MS → Prop) : Nat → Int → Int → Int → Int → MS → Prop
  | 0, _, _, _, _, _ => False
  | n + 1, v2, v3, v4, v5, S => inR v5 ∧ inR v3 ∧ (v3 ≤ v5 → (∃ n0 : Nat, wp_Mo_isSimple_92 post n0 v2 v3 v4 0 S)) ∧ (¬ (v3 ≤ v5) → (dvR (v5 + 1) v2 ∧ (∀ v6_1 : Int, v6_1 = ((v5 + 1) % v2) → inR v4 ∧ (v4 = 0 → wp_Mo_isSimple_81 post (wp_Mo_isSimple_23 post n) v2 v3 v5 0 S) ∧ (¬ (v4 = 0) → (ixR v5 32 ∧ (ixR v6_1 32 ∧ (inR (S.2 5 v5.toNat) ∧ inR (S.2 5 v6_1.toNat) ∧ (¬ ((S.2 5 v5.toNat) = (S.2 5 v6_1.toNat)) → wp_Mo_isSimple_81 post (wp_Mo_isSimple_23 post n) v2 v3 v5 1 S) ∧ ((S.2 5 v5.toNat) = (S.2 5 v6_1.toNat) → (ixR v5 32 ∧ (ixR v6_1 32 ∧ (inR (S.2 6 v5.toNat) ∧ inR (S.2 6 v6_1.toNat) ∧ ((S.2 6 v5.toNat) = (S.2 6 v6_1.toNat) → wp_Mo_isSimple_81 post (wp_Mo_isSimple_23 post n) v2 v3 v5 0 S) ∧ (¬ ((S.2 6 v5.toNat) = (S.2 6 v6_1.toNat)) → wp_Mo_isSimple_81 post (wp_Mo_isSimple_23 post n) v2 v3 v5 1 S))))))))))))
def wp_Mo_isSimple_16 (post : Int → MS → Prop) (v2 : Int) (s0 : Int) (S : MS) : Prop := ∃ n0 : Nat, wp_Mo_isSimple_23 post n0 v2 s0 1 0 S
def wp_Mo_isSimple (post : Int → MS → Prop) (v1 : Int) (S : MS) : Prop := ∀ v2_1 : Int, v2_1 = (S.1 4) → inR v1 ∧ (v1 = 0 → (wp_Mo_isSimple_16 post v2_1 (v2_1 - 1) S)) ∧ (¬ (v1 = 0) → wp_Mo_isSimple_16 post v2_1 v2_1 S)
set_option maxHeartbeats 4000000 in
set_option maxRecDepth 100000 in
theorem c_Mo_isSimple (l : Launch) {D : va_G} {h : Nat} {ad : Nat → Nat} {kc : Nat → ClassId} {post : Int → MS → Prop} {v1 : Int} {S : MS} (hw : wp_Mo_isSimple post v1 S) : jMi l D h ad kc y_Mo_isSimple prog_13_method_14_code 11 (some .boolean) 3 82 S [vi v1] post := by
  refine j_moz (own := "LandBookModel") (by decide) rfl (Nat.le_of_ble_eq_true rfl) (fun X F K hret => ?_)
  have B92 : ∀ (n0 : Nat) (v2 : Int) (v3 : Int) (v4 : Int) (v5 : Int) (S : MS), wp_Mo_isSimple_92 post n0 v2 v3 v4 v5 S → jat l D X 11 92 [(0, .ref h), (2, vi v2), (3, vi v3), (4, vi v4), (5, vi v5)] [] (mw h ad kc S) 0 0 := by
    intro n0
    induction n0 with
    | zero => intro v2 v3 v4 v5 S hw; exact hw.elim
    | succ n92 ih92 =>
      have B374 : ∀ (v2 : Int) (v3 : Int) (v4 : Int) (v5 : Int) (S : MS), wp_Mo_isSimple_374 post (wp_Mo_isSimple_92 post n92) v2 v3 v4 v5 S → jat l D X 11 374 [(0, .ref h), (2, vi v2), (3, vi v3), (4, vi v4), (5, vi v5)] [] (mw h ad kc S) 0 0 := by
        intro v2 v3 v4 v5 S hw
        unfold wp_Mo_isSimple_374 at hw
        refine j_iinc F 4 [(5, vi (v5 + 1)), (0, .ref h), (2, vi v2), (3, vi v3), (4, vi v4)] d_Mo_isSimple_374 rfl (by decide) rfl ?_
        refine j_goto F 92 d_Mo_isSimple_377 rfl ?_
        refine j_sub [1, 2, 3, 4, 0] rfl ?_
        exact ih92 _ _ _ _ _ hw
      have B109 : ∀ (n0 : Nat) (v2 : Int) (v3 : Int) (v4 : Int) (v5 : Int) (v6 : Int) (S : MS), wp_Mo_isSimple_109 post (wp_Mo_isSimple_92 post n92) n0 v2 v3 v4 v5 v6 S → jat l D X 11 109 [(0, .ref h), (2, vi v2), (3, vi v3), (4, vi v4), (5, vi v5), (6, vi v6)] [] (mw h ad kc S) 0 0 := by
        intro n0
        induction n0 with
        | zero => intro v2 v3 v4 v5 v6 S hw; exact hw.elim
        | succ n109 ih109 =>
          have B368 : ∀ (v2 : Int) (v3 : Int) (v4 : Int) (v5 : Int) (v6 : Int) (S : MS), wp_Mo_isSimple_368 post (wp_Mo_isSimple_92 post n92) (wp_Mo_isSimple_109 post (wp_Mo_isSimple_92 post n92) n109) v2 v3 v4 v5 v6 S → jat l D X 11 368 [(0, .ref h), (2, vi v2), (3, vi v3), (4, vi v4), (5, vi v5), (6, vi v6)] [] (mw h ad kc S) 0 0 := by
            intro v2 v3 v4 v5 v6 S hw
            unfold wp_Mo_isSimple_368 at hw
            refine j_iinc F 5 [(6, vi (v6 + 1)), (0, .ref h), (2, vi v2), (3, vi v3), (4, vi v4), (5, vi v5)] d_Mo_isSimple_368 rfl (by decide) rfl ?_
            refine j_goto F 109 d_Mo_isSimple_371 rfl ?_
            refine j_sub [1, 2, 3, 4, 5, 0] rfl ?_
            exact ih109 _ _ _ _ _ _ hw
          have B366 : ∀ (v2 : Int) (v3 : Int) (v5 : Int) (v6 : Int) (s0 : Int) (S : MS), wp_Mo_isSimple_366 post (wp_Mo_isSimple_92 post n92) (wp_Mo_isSimple_109 post (wp_Mo_isSimple_92 post n92) n109) v2 v3 v5 v6 s0 S → jat l D X 11 366 [(0, .ref h), (2, vi v2), (3, vi v3), (5, vi v5), (6, vi v6)] [vi s0] (mw h ad kc S) 0 0 := by
            intro v2 v3 v5 v6 s0 S hw
            unfold wp_Mo_isSimple_366 at hw
            refine j_istore F [(4, vi s0), (0, .ref h), (2, vi v2), (3, vi v3), (5, vi v5), (6, vi v6)] d_Mo_isSimple_366 (by decide) rfl ?_
            refine j_sub [1, 2, 3, 0, 4, 5] rfl ?_
            exact B368 _ _ _ _ _ _ hw
          have B289 : ∀ (v2 : Int) (v3 : Int) (v4 : Int) (v5 : Int) (v6 : Int) (v7 : Int) (v8 : Int) (v9 : Int) (v10 : Int) (S : MS), wp_Mo_isSimple_289 post (wp_Mo_isSimple_92 post n92) (wp_Mo_isSimple_109 post (wp_Mo_isSimple_92 post n92) n109) v2 v3 v4 v5 v6 v7 v8 v9 v10 S → jat l D X 11 289 [(0, .ref h), (2, vi v2), (3, vi v3), (4, vi v4), (5, vi v5), (6, vi v6), (7, vi v7), (8, vi v8), (9, vi v9), (10, vi v10)] [] (mw h ad kc S) 0 0 := by
            intro v2 v3 v4 v5 v6 v7 v8 v9 v10 S hw
            unfold wp_Mo_isSimple_289 at hw
            refine j_iload F 8 d_Mo_isSimple_289 rfl ?_
            obtain ⟨hc1, hwt, hwf⟩ := hw
            refine j_if_ne F 368 hc1 d_Mo_isSimple_291 rfl (fun hh => ?_) (fun hh => ?_)
            · have hw := hwt hh
              refine j_sub [0, 1, 2, 3, 4, 5] rfl ?_
              exact B368 _ _ _ _ _ _ hw
            · have hw := hwf hh
              refine j_iload F 9 d_Mo_isSimple_294 rfl ?_
              obtain ⟨hc1, hwt, hwf⟩ := hw
              refine j_if_ne F 368 hc1 d_Mo_isSimple_296 rfl (fun hh => ?_) (fun hh => ?_)
              · have hw := hwt hh
                refine j_sub [0, 1, 2, 3, 4, 5] rfl ?_
                exact B368 _ _ _ _ _ _ hw
              · have hw := hwf hh
                refine j_aload_n F 0 d_Mo_isSimple_299 rfl ?_
                refine m_geta F K 5 (by decide) (by decide) tj_112 rfl d_Mo_isSimple_300 ?_
                refine j_iload F 4 d_Mo_isSimple_303 rfl ?_
                obtain ⟨hc1, hw⟩ := hw
                refine m_iald F K 5 0 rfl rfl hc1 d_Mo_isSimple_305 ?_
                refine j_aload_n F 0 d_Mo_isSimple_306 rfl ?_
                refine m_geta F K 6 (by decide) (by decide) tj_113 rfl d_Mo_isSimple_307 ?_
                refine j_iload F 4 d_Mo_isSimple_310 rfl ?_
                obtain ⟨hc1, hw⟩ := hw
                refine m_iald F K 6 1 rfl rfl hc1 d_Mo_isSimple_312 ?_
                refine j_aload_n F 0 d_Mo_isSimple_313 rfl ?_
                refine m_geta F K 5 (by decide) (by decide) tj_112 rfl d_Mo_isSimple_314 ?_
                refine j_iload F 6 d_Mo_isSimple_317 rfl ?_
                obtain ⟨hc1, hw⟩ := hw
                refine m_iald F K 5 0 rfl rfl hc1 d_Mo_isSimple_319 ?_
                refine j_aload_n F 0 d_Mo_isSimple_320 rfl ?_
                refine m_geta F K 6 (by decide) (by decide) tj_113 rfl d_Mo_isSimple_321 ?_
                refine j_iload F 6 d_Mo_isSimple_324 rfl ?_
                obtain ⟨hc1, hw⟩ := hw
                refine m_iald F K 6 1 rfl rfl hc1 d_Mo_isSimple_326 ?_
                refine j_aload_n F 0 d_Mo_isSimple_327 rfl ?_
                refine m_geta F K 5 (by decide) (by decide) tj_112 rfl d_Mo_isSimple_328 ?_
                refine j_iload F 5 d_Mo_isSimple_331 rfl ?_
                obtain ⟨hc1, hw⟩ := hw
                refine m_iald F K 5 0 rfl rfl hc1 d_Mo_isSimple_333 ?_
                refine j_aload_n F 0 d_Mo_isSimple_334 rfl ?_
                refine m_geta F K 6 (by decide) (by decide) tj_113 rfl d_Mo_isSimple_335 ?_
                refine j_iload F 5 d_Mo_isSimple_338 rfl ?_
                obtain ⟨hc1, hw⟩ := hw
                refine m_iald F K 6 1 rfl rfl hc1 d_Mo_isSimple_340 ?_
                refine j_aload_n F 0 d_Mo_isSimple_341 rfl ?_
                refine m_geta F K 5 (by decide) (by decide) tj_112 rfl d_Mo_isSimple_342 ?_
                refine j_iload F 7 d_Mo_isSimple_345 rfl ?_
                obtain ⟨hc1, hw⟩ := hw
                refine m_iald F K 5 0 rfl rfl hc1 d_Mo_isSimple_347 ?_
                refine j_aload_n F 0 d_Mo_isSimple_348 rfl ?_
                refine m_geta F K 6 (by decide) (by decide) tj_113 rfl d_Mo_isSimple_349 ?_
                refine j_iload F 7 d_Mo_isSimple_352 rfl ?_
                obtain ⟨hc1, hw⟩ := hw
                refine m_iald F K 6 1 rfl rfl hc1 d_Mo_isSimple_354 ?_
                refine j_callS F (c_Mo_meet l hw) (tw_gS tj_117 tj_118 tj_87 tj_119) q_Mo_meet rfl ⟨by decide, by decide⟩ ⟨Nat.zero_le _, Nat.zero_le _⟩ rfl (Nat.le_of_ble_eq_true rfl) d_Mo_isSimple_355 (fun r_1 hw => ?_)
                obtain ⟨hc1, hwt, hwf⟩ := hw
                refine j_if_ne F 365 hc1 d_Mo_isSimple_358 rfl (fun hh => ?_) (fun hh => ?_)
                · have hw := hwt hh
                  refine j_iconst F d_Mo_isSimple_365 ?_
                  refine j_sub [0, 1, 2, 4, 5] rfl ?_
                  exact B366 _ _ _ _ _ _ hw
                · have hw := hwf hh
                  refine j_iconst F d_Mo_isSimple_361 ?_
                  refine j_goto F 366 d_Mo_isSimple_362 rfl ?_
                  refine j_sub [0, 1, 2, 4, 5] rfl ?_
                  exact B366 _ _ _ _ _ _ hw
          have B287 : ∀ (v2 : Int) (v3 : Int) (v5 : Int) (v6 : Int) (v7 : Int) (v8 : Int) (v9 : Int) (v10 : Int) (s0 : Int) (S : MS), wp_Mo_isSimple_287 post (wp_Mo_isSimple_92 post n92) (wp_Mo_isSimple_109 post (wp_Mo_isSimple_92 post n92) n109) v2 v3 v5 v6 v7 v8 v9 v10 s0 S → jat l D X 11 287 [(0, .ref h), (2, vi v2), (3, vi v3), (5, vi v5), (6, vi v6), (7, vi v7), (8, vi v8), (9, vi v9), (10, vi v10)] [vi s0] (mw h ad kc S) 0 0 := by
            intro v2 v3 v5 v6 v7 v8 v9 v10 s0 S hw
            unfold wp_Mo_isSimple_287 at hw
            refine j_istore F [(4, vi s0), (0, .ref h), (2, vi v2), (3, vi v3), (5, vi v5), (6, vi v6), (7, vi v7), (8, vi v8), (9, vi v9), (10, vi v10)] d_Mo_isSimple_287 (by decide) rfl ?_
            refine j_sub [1, 2, 3, 0, 4, 5, 6, 7, 8, 9] rfl ?_
            exact B289 _ _ _ _ _ _ _ _ _ _ hw
          have B224 : ∀ (v2 : Int) (v3 : Int) (v4 : Int) (v5 : Int) (v6 : Int) (v7 : Int) (v8 : Int) (v9 : Int) (v10 : Int) (S : MS), wp_Mo_isSimple_224 post (wp_Mo_isSimple_92 post n92) (wp_Mo_isSimple_109 post (wp_Mo_isSimple_92 post n92) n109) v2 v3 v4 v5 v6 v7 v8 v9 v10 S → jat l D X 11 224 [(0, .ref h), (2, vi v2), (3, vi v3), (4, vi v4), (5, vi v5), (6, vi v6), (7, vi v7), (8, vi v8), (9, vi v9), (10, vi v10)] [] (mw h ad kc S) 0 0 := by
            intro v2 v3 v4 v5 v6 v7 v8 v9 v10 S hw
            unfold wp_Mo_isSimple_224 at hw
            refine j_iload F 9 d_Mo_isSimple_224 rfl ?_
            obtain ⟨hc1, hwt, hwf⟩ := hw
            refine j_if_eq F 289 hc1 d_Mo_isSimple_226 rfl (fun hh => ?_) (fun hh => ?_)
            · have hw := hwt hh
              exact B289 _ _ _ _ _ _ _ _ _ _ hw
            · have hw := hwf hh
              refine j_iload F 3 d_Mo_isSimple_229 rfl ?_
              obtain ⟨hc1, hwt, hwf⟩ := hw
              refine j_if_eq F 286 hc1 d_Mo_isSimple_231 rfl (fun hh => ?_) (fun hh => ?_)
              · have hw := hwt hh
                refine j_iconst F d_Mo_isSimple_286 ?_
                refine j_sub [0, 1, 2, 4, 5, 6, 7, 8, 9] rfl ?_
                exact B287 _ _ _ _ _ _ _ _ _ _ hw
              · have hw := hwf hh
                refine j_aload_n F 0 d_Mo_isSimple_234 rfl ?_
                refine m_geta F K 5 (by decide) (by decide) tj_112 rfl d_Mo_isSimple_235 ?_
                refine j_iload F 4 d_Mo_isSimple_238 rfl ?_
                obtain ⟨hc1, hw⟩ := hw
                refine m_iald F K 5 0 rfl rfl hc1 d_Mo_isSimple_240 ?_
                refine j_aload_n F 0 d_Mo_isSimple_241 rfl ?_
                refine m_geta F K 6 (by decide) (by decide) tj_113 rfl d_Mo_isSimple_242 ?_
                refine j_iload F 4 d_Mo_isSimple_245 rfl ?_
                obtain ⟨hc1, hw⟩ := hw
                refine m_iald F K 6 1 rfl rfl hc1 d_Mo_isSimple_247 ?_
                refine j_aload_n F 0 d_Mo_isSimple_248 rfl ?_
                refine m_geta F K 5 (by decide) (by decide) tj_112 rfl d_Mo_isSimple_249 ?_
                refine j_iload F 6 d_Mo_isSimple_252 rfl ?_
                obtain ⟨hc1, hw⟩ := hw
                refine m_iald F K 5 0 rfl rfl hc1 d_Mo_isSimple_254 ?_
                refine j_aload_n F 0 d_Mo_isSimple_255 rfl ?_
                refine m_geta F K 6 (by decide) (by decide) tj_113 rfl d_Mo_isSimple_256 ?_
                refine j_iload F 6 d_Mo_isSimple_259 rfl ?_
                obtain ⟨hc1, hw⟩ := hw
                refine m_iald F K 6 1 rfl rfl hc1 d_Mo_isSimple_261 ?_
                refine j_aload_n F 0 d_Mo_isSimple_262 rfl ?_
                refine m_geta F K 5 (by decide) (by decide) tj_112 rfl d_Mo_isSimple_263 ?_
                refine j_iload F 5 d_Mo_isSimple_266 rfl ?_
                obtain ⟨hc1, hw⟩ := hw
                refine m_iald F K 5 0 rfl rfl hc1 d_Mo_isSimple_268 ?_
                refine j_aload_n F 0 d_Mo_isSimple_269 rfl ?_
                refine m_geta F K 6 (by decide) (by decide) tj_113 rfl d_Mo_isSimple_270 ?_
                refine j_iload F 5 d_Mo_isSimple_273 rfl ?_
                obtain ⟨hc1, hw⟩ := hw
                refine m_iald F K 6 1 rfl rfl hc1 d_Mo_isSimple_275 ?_
                refine j_callS F (c_Mo_isFolded l hw) (tw_gS tj_114 tj_115 tj_87 tj_116) q_Mo_isFolded rfl ⟨by decide, by decide⟩ ⟨Nat.zero_le _, Nat.zero_le _⟩ rfl (Nat.le_of_ble_eq_true rfl) d_Mo_isSimple_276 (fun r_1 hw => ?_)
                obtain ⟨hc1, hwt, hwf⟩ := hw
                refine j_if_ne F 286 hc1 d_Mo_isSimple_279 rfl (fun hh => ?_) (fun hh => ?_)
                · have hw := hwt hh
                  refine j_iconst F d_Mo_isSimple_286 ?_
                  refine j_sub [0, 1, 2, 4, 5, 6, 7, 8, 9] rfl ?_
                  exact B287 _ _ _ _ _ _ _ _ _ _ hw
                · have hw := hwf hh
                  refine j_iconst F d_Mo_isSimple_282 ?_
                  refine j_goto F 287 d_Mo_isSimple_283 rfl ?_
                  refine j_sub [0, 1, 2, 4, 5, 6, 7, 8, 9] rfl ?_
                  exact B287 _ _ _ _ _ _ _ _ _ _ hw
          have B222 : ∀ (v2 : Int) (v3 : Int) (v5 : Int) (v6 : Int) (v7 : Int) (v8 : Int) (v9 : Int) (v10 : Int) (s0 : Int) (S : MS), wp_Mo_isSimple_222 post (wp_Mo_isSimple_92 post n92) (wp_Mo_isSimple_109 post (wp_Mo_isSimple_92 post n92) n109) v2 v3 v5 v6 v7 v8 v9 v10 s0 S → jat l D X 11 222 [(0, .ref h), (2, vi v2), (3, vi v3), (5, vi v5), (6, vi v6), (7, vi v7), (8, vi v8), (9, vi v9), (10, vi v10)] [vi s0] (mw h ad kc S) 0 0 := by
            intro v2 v3 v5 v6 v7 v8 v9 v10 s0 S hw
            unfold wp_Mo_isSimple_222 at hw
            refine j_istore F [(4, vi s0), (0, .ref h), (2, vi v2), (3, vi v3), (5, vi v5), (6, vi v6), (7, vi v7), (8, vi v8), (9, vi v9), (10, vi v10)] d_Mo_isSimple_222 (by decide) rfl ?_
            refine j_sub [1, 2, 3, 0, 4, 5, 6, 7, 8, 9] rfl ?_
            exact B224 _ _ _ _ _ _ _ _ _ _ hw
          have B162 : ∀ (v2 : Int) (v3 : Int) (v4 : Int) (v5 : Int) (v6 : Int) (v7 : Int) (v8 : Int) (v9 : Int) (s0 : Int) (S : MS), wp_Mo_isSimple_162 post (wp_Mo_isSimple_92 post n92) (wp_Mo_isSimple_109 post (wp_Mo_isSimple_92 post n92) n109) v2 v3 v4 v5 v6 v7 v8 v9 s0 S → jat l D X 11 162 [(0, .ref h), (2, vi v2), (3, vi v3), (4, vi v4), (5, vi v5), (6, vi v6), (7, vi v7), (8, vi v8), (9, vi v9)] [vi s0] (mw h ad kc S) 0 0 := by
            intro v2 v3 v4 v5 v6 v7 v8 v9 s0 S hw
            unfold wp_Mo_isSimple_162 at hw
            refine j_istore F [(10, vi s0), (0, .ref h), (2, vi v2), (3, vi v3), (4, vi v4), (5, vi v5), (6, vi v6), (7, vi v7), (8, vi v8), (9, vi v9)] d_Mo_isSimple_162 (by decide) rfl ?_
            refine j_iload F 9 d_Mo_isSimple_164 rfl ?_
            obtain ⟨hc1, hwt, hwf⟩ := hw
            refine j_if_eq F 224 hc1 d_Mo_isSimple_166 rfl (fun hh => ?_) (fun hh => ?_)
            · have hw := hwt hh
              refine j_sub [1, 2, 3, 4, 5, 6, 7, 8, 9, 0] rfl ?_
              exact B224 _ _ _ _ _ _ _ _ _ _ hw
            · have hw := hwf hh
              refine j_aload_n F 1 d_Mo_isSimple_169 rfl ?_
              refine m_geta F K 5 (by decide) (by decide) tj_112 rfl d_Mo_isSimple_170 ?_
              refine j_iload F 7 d_Mo_isSimple_173 rfl ?_
              obtain ⟨hc1, hw⟩ := hw
              refine m_iald F K 5 0 rfl rfl hc1 d_Mo_isSimple_175 ?_
              refine j_aload_n F 1 d_Mo_isSimple_176 rfl ?_
              refine m_geta F K 6 (by decide) (by decide) tj_113 rfl d_Mo_isSimple_177 ?_
              refine j_iload F 7 d_Mo_isSimple_180 rfl ?_
              obtain ⟨hc1, hw⟩ := hw
              refine m_iald F K 6 1 rfl rfl hc1 d_Mo_isSimple_182 ?_
              refine j_aload_n F 1 d_Mo_isSimple_183 rfl ?_
              refine m_geta F K 5 (by decide) (by decide) tj_112 rfl d_Mo_isSimple_184 ?_
              refine j_iload F 5 d_Mo_isSimple_187 rfl ?_
              obtain ⟨hc1, hw⟩ := hw
              refine m_iald F K 5 0 rfl rfl hc1 d_Mo_isSimple_189 ?_
              refine j_aload_n F 1 d_Mo_isSimple_190 rfl ?_
              refine m_geta F K 6 (by decide) (by decide) tj_113 rfl d_Mo_isSimple_191 ?_
              refine j_iload F 5 d_Mo_isSimple_194 rfl ?_
              obtain ⟨hc1, hw⟩ := hw
              refine m_iald F K 6 1 rfl rfl hc1 d_Mo_isSimple_196 ?_
              refine j_aload_n F 1 d_Mo_isSimple_197 rfl ?_
              refine m_geta F K 5 (by decide) (by decide) tj_112 rfl d_Mo_isSimple_198 ?_
              refine j_iload F 8 d_Mo_isSimple_201 rfl ?_
              obtain ⟨hc1, hw⟩ := hw
              refine m_iald F K 5 0 rfl rfl hc1 d_Mo_isSimple_203 ?_
              refine j_aload_n F 1 d_Mo_isSimple_204 rfl ?_
              refine m_geta F K 6 (by decide) (by decide) tj_113 rfl d_Mo_isSimple_205 ?_
              refine j_iload F 8 d_Mo_isSimple_208 rfl ?_
              obtain ⟨hc1, hw⟩ := hw
              refine m_iald F K 6 1 rfl rfl hc1 d_Mo_isSimple_210 ?_
              refine j_callS F (c_Mo_isFolded l hw) (tw_gS tj_114 tj_115 tj_87 tj_116) q_Mo_isFolded rfl ⟨by decide, by decide⟩ ⟨Nat.zero_le _, Nat.zero_le _⟩ rfl (Nat.le_of_ble_eq_true rfl) d_Mo_isSimple_211 (fun r_1 hw => ?_)
              obtain ⟨hc1, hwt, hwf⟩ := hw
              refine j_if_ne F 221 hc1 d_Mo_isSimple_214 rfl (fun hh => ?_) (fun hh => ?_)
              · have hw := hwt hh
                refine j_iconst F d_Mo_isSimple_221 ?_
                refine j_sub [1, 2, 3, 5, 6, 7, 8, 9, 0] rfl ?_
                exact B222 _ _ _ _ _ _ _ _ _ _ hw
              · have hw := hwf hh
                refine j_iconst F d_Mo_isSimple_217 ?_
                refine j_goto F 222 d_Mo_isSimple_218 rfl ?_
                refine j_sub [1, 2, 3, 5, 6, 7, 8, 9, 0] rfl ?_
                exact B222 _ _ _ _ _ _ _ _ _ _ hw
          have B148 : ∀ (v2 : Int) (v3 : Int) (v4 : Int) (v5 : Int) (v6 : Int) (v7 : Int) (v8 : Int) (s0 : Int) (S : MS), wp_Mo_isSimple_148 post (wp_Mo_isSimple_92 post n92) (wp_Mo_isSimple_109 post (wp_Mo_isSimple_92 post n92) n109) v2 v3 v4 v5 v6 v7 v8 s0 S → jat l D X 11 148 [(0, .ref h), (2, vi v2), (3, vi v3), (4, vi v4), (5, vi v5), (6, vi v6), (7, vi v7), (8, vi v8)] [vi s0] (mw h ad kc S) 0 0 := by
            intro v2 v3 v4 v5 v6 v7 v8 s0 S hw
            unfold wp_Mo_isSimple_148 at hw
            refine j_istore F [(9, vi s0), (0, .ref h), (2, vi v2), (3, vi v3), (4, vi v4), (5, vi v5), (6, vi v6), (7, vi v7), (8, vi v8)] d_Mo_isSimple_148 (by decide) rfl ?_
            refine j_iload F 8 d_Mo_isSimple_150 rfl ?_
            refine j_iload F 5 d_Mo_isSimple_152 rfl ?_
            obtain ⟨hc1, hc2, hwt, hwf⟩ := hw
            refine j_icmp_ne F 161 hc1 hc2 d_Mo_isSimple_154 rfl (fun hh => ?_) (fun hh => ?_)
            · have hw := hwt hh
              refine j_iconst F d_Mo_isSimple_161 ?_
              refine j_sub [1, 2, 3, 4, 5, 6, 7, 8, 0] rfl ?_
              exact B162 _ _ _ _ _ _ _ _ _ _ hw
            · have hw := hwf hh
              refine j_iconst F d_Mo_isSimple_157 ?_
              refine j_goto F 162 d_Mo_isSimple_158 rfl ?_
              refine j_sub [1, 2, 3, 4, 5, 6, 7, 8, 0] rfl ?_
              exact B162 _ _ _ _ _ _ _ _ _ _ hw
          intro v2 v3 v4 v5 v6 S hw
          unfold wp_Mo_isSimple_109 at hw
          refine j_iload F 5 d_Mo_isSimple_109 rfl ?_
          refine j_iload_n F 2 d_Mo_isSimple_111 rfl ?_
          obtain ⟨hc1, hc2, hwt, hwf⟩ := hw
          refine j_icmp_ge F 374 hc1 hc2 d_Mo_isSimple_112 rfl (fun hh => ?_) (fun hh => ?_)
          · have hw := hwt hh
            refine j_sub [0, 1, 2, 3, 4] rfl ?_
            exact B374 _ _ _ _ _ hw
          · have hw := hwf hh
            refine j_iload F 3 d_Mo_isSimple_115 rfl ?_
            obtain ⟨hc1, hwt, hwf⟩ := hw
            refine j_if_eq F 374 hc1 d_Mo_isSimple_117 rfl (fun hh => ?_) (fun hh => ?_)
            · have hw := hwt hh
              refine j_sub [0, 1, 2, 3, 4] rfl ?_
              exact B374 _ _ _ _ _ hw
            · have hw := hwf hh
              refine j_iload F 4 d_Mo_isSimple_120 rfl ?_
              refine j_iconst F d_Mo_isSimple_122 ?_
              refine j_iadd F d_Mo_isSimple_123 ?_
              refine j_iload_n F 1 d_Mo_isSimple_124 rfl ?_
              obtain ⟨hc1, hw⟩ := hw
              refine j_irem F hc1 d_Mo_isSimple_125 ?_
              refine j_nmi (fun v7_1 e_v7_1 => ?_)
              have hw := hw v7_1 e_v7_1
              refine j_istore F [(7, vi v7_1), (0, .ref h), (2, vi v2), (3, vi v3), (4, vi v4), (5, vi v5), (6, vi v6)] d_Mo_isSimple_126 (by decide) rfl ?_
              refine j_iload F 6 d_Mo_isSimple_128 rfl ?_
              refine j_iconst F d_Mo_isSimple_130 ?_
              refine j_iadd F d_Mo_isSimple_131 ?_
              refine j_iload_n F 2 d_Mo_isSimple_132 rfl ?_
              obtain ⟨hc1, hw⟩ := hw
              refine j_irem F hc1 d_Mo_isSimple_133 ?_
              refine j_nmi (fun v8_2 e_v8_2 => ?_)
              have hw := hw v8_2 e_v8_2
              refine j_istore F [(8, vi v8_2), (7, vi v7_1), (0, .ref h), (2, vi v2), (3, vi v3), (4, vi v4), (5, vi v5), (6, vi v6)] d_Mo_isSimple_134 (by decide) rfl ?_
              refine j_iload F 1 d_Mo_isSimple_136 rfl ?_
              refine j_iload F 7 d_Mo_isSimple_138 rfl ?_
              obtain ⟨hc1, hc2, hwt, hwf⟩ := hw
              refine j_icmp_ne F 147 hc1 hc2 d_Mo_isSimple_140 rfl (fun hh => ?_) (fun hh => ?_)
              · have hw := hwt hh
                refine j_iconst F d_Mo_isSimple_147 ?_
                refine j_sub [2, 3, 4, 5, 6, 7, 1, 0] rfl ?_
                exact B148 _ _ _ _ _ _ _ _ _ hw
              · have hw := hwf hh
                refine j_iconst F d_Mo_isSimple_143 ?_
                refine j_goto F 148 d_Mo_isSimple_144 rfl ?_
                refine j_sub [2, 3, 4, 5, 6, 7, 1, 0] rfl ?_
                exact B148 _ _ _ _ _ _ _ _ _ hw
      intro v2 v3 v4 v5 S hw
      unfold wp_Mo_isSimple_92 at hw
      refine j_iload F 4 d_Mo_isSimple_92 rfl ?_
      refine j_iload_n F 2 d_Mo_isSimple_94 rfl ?_
      obtain ⟨hc1, hc2, hwt, hwf⟩ := hw
      refine j_icmp_ge F 380 hc1 hc2 d_Mo_isSimple_95 rfl (fun hh => ?_) (fun hh => ?_)
      · have hw := hwt hh
        refine j_iload F 3 d_Mo_isSimple_380 rfl ?_
        exact hret _ _ _ _ hw.2 hw.1 d_Mo_isSimple_382
      · have hw := hwf hh
        refine j_iload F 3 d_Mo_isSimple_98 rfl ?_
        obtain ⟨hc1, hwt, hwf⟩ := hw
        refine j_if_eq F 380 hc1 d_Mo_isSimple_100 rfl (fun hh => ?_) (fun hh => ?_)
        · have hw := hwt hh
          refine j_iload F 3 d_Mo_isSimple_380 rfl ?_
          exact hret _ _ _ _ hw.2 hw.1 d_Mo_isSimple_382
        · have hw := hwf hh
          refine j_iload F 4 d_Mo_isSimple_103 rfl ?_
          refine j_iconst F d_Mo_isSimple_105 ?_
          refine j_iadd F d_Mo_isSimple_106 ?_
          refine j_istore F [(6, vi (v5 + 1)), (0, .ref h), (2, vi v2), (3, vi v3), (4, vi v4), (5, vi v5)] d_Mo_isSimple_107 (by decide) rfl ?_
          refine j_sub [1, 2, 3, 4, 5, 0] rfl ?_
          obtain ⟨n0, hw⟩ := hw
          exact B109 n0 _ _ _ _ _ _ hw
  have B23 : ∀ (n0 : Nat) (v2 : Int) (v3 : Int) (v4 : Int) (v5 : Int) (S : MS), wp_Mo_isSimple_23 post n0 v2 v3 v4 v5 S → jat l D X 11 23 [(0, .ref h), (2, vi v2), (3, vi v3), (4, vi v4), (5, vi v5)] [] (mw h ad kc S) 0 0 := by
    intro n0
    induction n0 with
    | zero => intro v2 v3 v4 v5 S hw; exact hw.elim
    | succ n23 ih23 =>
      have B81 : ∀ (v2 : Int) (v3 : Int) (v5 : Int) (s0 : Int) (S : MS), wp_Mo_isSimple_81 post (wp_Mo_isSimple_23 post n23) v2 v3 v5 s0 S → jat l D X 11 81 [(0, .ref h), (2, vi v2), (3, vi v3), (5, vi v5)] [vi s0] (mw h ad kc S) 0 0 := by
        intro v2 v3 v5 s0 S hw
        unfold wp_Mo_isSimple_81 at hw
        refine j_istore F [(4, vi s0), (0, .ref h), (2, vi v2), (3, vi v3), (5, vi v5)] d_Mo_isSimple_81 (by decide) rfl ?_
        refine j_iinc F 4 [(5, vi (v5 + 1)), (4, vi s0), (0, .ref h), (2, vi v2), (3, vi v3)] d_Mo_isSimple_83 rfl (by decide) rfl ?_
        refine j_goto F 23 d_Mo_isSimple_86 rfl ?_
        refine j_sub [2, 3, 4, 1, 0] rfl ?_
        exact ih23 _ _ _ _ _ hw
      intro v2 v3 v4 v5 S hw
      unfold wp_Mo_isSimple_23 at hw
      refine j_iload F 4 d_Mo_isSimple_23 rfl ?_
      refine j_iload_n F 2 d_Mo_isSimple_25 rfl ?_
      obtain ⟨hc1, hc2, hwt, hwf⟩ := hw
      refine j_icmp_ge F 89 hc1 hc2 d_Mo_isSimple_26 rfl (fun hh => ?_) (fun hh => ?_)
      · have hw := hwt hh
        refine j_iconst F d_Mo_isSimple_89 ?_
        refine j_istore F [(5, vi 0), (0, .ref h), (2, vi v2), (3, vi v3), (4, vi v4)] d_Mo_isSimple_90 (by decide) rfl ?_
        refine j_sub [1, 2, 3, 4, 0] rfl ?_
        obtain ⟨n0, hw⟩ := hw
        exact B92 n0 _ _ _ _ _ hw
      · have hw := hwf hh
        refine j_iload F 4 d_Mo_isSimple_29 rfl ?_
        refine j_iconst F d_Mo_isSimple_31 ?_
        refine j_iadd F d_Mo_isSimple_32 ?_
        refine j_iload_n F 1 d_Mo_isSimple_33 rfl ?_
        obtain ⟨hc1, hw⟩ := hw
        refine j_irem F hc1 d_Mo_isSimple_34 ?_
        refine j_nmi (fun v6_1 e_v6_1 => ?_)
        have hw := hw v6_1 e_v6_1
        refine j_istore F [(6, vi v6_1), (0, .ref h), (2, vi v2), (3, vi v3), (4, vi v4), (5, vi v5)] d_Mo_isSimple_35 (by decide) rfl ?_
        refine j_iload F 4 d_Mo_isSimple_37 rfl ?_
        obtain ⟨hc1, hwt, hwf⟩ := hw
        refine j_if_eq F 80 hc1 d_Mo_isSimple_39 rfl (fun hh => ?_) (fun hh => ?_)
        · have hw := hwt hh
          refine j_iconst F d_Mo_isSimple_80 ?_
          refine j_sub [1, 2, 3, 5] rfl ?_
          exact B81 _ _ _ _ _ hw
        · have hw := hwf hh
          refine j_aload_n F 1 d_Mo_isSimple_42 rfl ?_
          refine m_geta F K 5 (by decide) (by decide) tj_112 rfl d_Mo_isSimple_43 ?_
          refine j_iload F 5 d_Mo_isSimple_46 rfl ?_
          obtain ⟨hc1, hw⟩ := hw
          refine m_iald F K 5 0 rfl rfl hc1 d_Mo_isSimple_48 ?_
          refine j_aload_n F 1 d_Mo_isSimple_49 rfl ?_
          refine m_geta F K 5 (by decide) (by decide) tj_112 rfl d_Mo_isSimple_50 ?_
          refine j_iload F 0 d_Mo_isSimple_53 rfl ?_
          obtain ⟨hc1, hw⟩ := hw
          refine m_iald F K 5 0 rfl rfl hc1 d_Mo_isSimple_55 ?_
          obtain ⟨hc1, hc2, hwt, hwf⟩ := hw
          refine j_icmp_ne F 76 hc1 hc2 d_Mo_isSimple_56 rfl (fun hh => ?_) (fun hh => ?_)
          · have hw := hwt hh
            refine j_iconst F d_Mo_isSimple_76 ?_
            refine j_goto F 81 d_Mo_isSimple_77 rfl ?_
            refine j_sub [1, 2, 3, 5] rfl ?_
            exact B81 _ _ _ _ _ hw
          · have hw := hwf hh
            refine j_aload_n F 1 d_Mo_isSimple_59 rfl ?_
            refine m_geta F K 6 (by decide) (by decide) tj_113 rfl d_Mo_isSimple_60 ?_
            refine j_iload F 5 d_Mo_isSimple_63 rfl ?_
            obtain ⟨hc1, hw⟩ := hw
            refine m_iald F K 6 1 rfl rfl hc1 d_Mo_isSimple_65 ?_
            refine j_aload_n F 1 d_Mo_isSimple_66 rfl ?_
            refine m_geta F K 6 (by decide) (by decide) tj_113 rfl d_Mo_isSimple_67 ?_
            refine j_iload F 0 d_Mo_isSimple_70 rfl ?_
            obtain ⟨hc1, hw⟩ := hw
            refine m_iald F K 6 1 rfl rfl hc1 d_Mo_isSimple_72 ?_
            obtain ⟨hc1, hc2, hwt, hwf⟩ := hw
            refine j_icmp_eq F 80 hc1 hc2 d_Mo_isSimple_73 rfl (fun hh => ?_) (fun hh => ?_)
            · have hw := hwt hh
              refine j_iconst F d_Mo_isSimple_80 ?_
              refine j_sub [1, 2, 3, 5] rfl ?_
              exact B81 _ _ _ _ _ hw
            · have hw := hwf hh
              refine j_iconst F d_Mo_isSimple_76 ?_
              refine j_goto F 81 d_Mo_isSimple_77 rfl ?_
              refine j_sub [1, 2, 3, 5] rfl ?_
              exact B81 _ _ _ _ _ hw
  have B16 : ∀ (v2 : Int) (s0 : Int) (S : MS), wp_Mo_isSimple_16 post v2 s0 S → jat l D X 11 16 [(0, .ref h), (2, vi v2)] [vi s0] (mw h ad kc S) 0 0 := by
    intro v2 s0 S hw
    unfold wp_Mo_isSimple_16 at hw
    refine j_istore_n F [(3, vi s0), (0, .ref h), (2, vi v2)] d_Mo_isSimple_16 (by decide) rfl ?_
    refine j_iconst F d_Mo_isSimple_17 ?_
    refine j_istore F [(4, vi 1), (3, vi s0), (0, .ref h), (2, vi v2)] d_Mo_isSimple_18 (by decide) rfl ?_
    refine j_iconst F d_Mo_isSimple_20 ?_
    refine j_istore F [(5, vi 0), (4, vi 1), (3, vi s0), (0, .ref h), (2, vi v2)] d_Mo_isSimple_21 (by decide) rfl ?_
    refine j_sub [3, 4, 2, 1, 0] rfl ?_
    obtain ⟨n0, hw⟩ := hw
    exact B23 n0 _ _ _ _ _ hw
  unfold wp_Mo_isSimple at hw
  show jat l D X 11 0 [(0, .ref h), (1, vi v1)] [] (mw h ad kc S) 0 0
  refine j_aload_n F 0 d_Mo_isSimple_0 rfl ?_
  refine m_geti F K 4 (by decide) rfl tj_111 rfl d_Mo_isSimple_1 ?_
  refine j_nmi (fun v2_1 e_v2_1 => ?_)
  have hw := hw v2_1 e_v2_1
  refine j_istore_n F [(2, vi v2_1), (0, .ref h), (1, vi v1)] d_Mo_isSimple_4 (by decide) rfl ?_
  refine j_iload_n F 2 d_Mo_isSimple_5 rfl ?_
  obtain ⟨hc1, hwt, hwf⟩ := hw
  refine j_if_eq F 13 hc1 d_Mo_isSimple_6 rfl (fun hh => ?_) (fun hh => ?_)
  · have hw := hwt hh
    refine j_iload_n F 0 d_Mo_isSimple_13 rfl ?_
    refine j_iconst F d_Mo_isSimple_14 ?_
    refine j_isub F d_Mo_isSimple_15 ?_
    refine j_sub [1, 0] rfl ?_
    exact B16 _ _ _ hw
  · have hw := hwf hh
    refine j_iload_n F 0 d_Mo_isSimple_9 rfl ?_
    refine j_goto F 16 d_Mo_isSimple_10 rfl ?_
    refine j_sub [1, 0] rfl ?_
    exact B16 _ _ _ hw
theorem tj_120 : (Jvm.Cond.fieldLink "LandBookModel" (80 : Nat) "LandBookModel" "madeX" "[I") ∈ tw_G := tw_in (List.mem_of_getElem? (i := 1080) (by decide +kernel)) rfl
theorem tj_121 : (Jvm.Cond.fieldLink "LandBookModel" (132 : Nat) "LandBookModel" "madeSize" "I") ∈ tw_G := tw_in (List.mem_of_getElem? (i := 1079) (by decide +kernel)) rfl
theorem tj_122 : (Jvm.Cond.fieldLink "LandBookModel" (83 : Nat) "LandBookModel" "madeY" "[I") ∈ tw_G := tw_in (List.mem_of_getElem? (i := 1081) (by decide +kernel)) rfl
abbrev y_Mo_make : MethodName := ⟨"LandBookModel", "make", "(II)V"⟩
theorem q_Mo_make : y_Mo_make.cls = "LandBookModel" ∧ y_Mo_make.cls ≠ "java/lang/invoke/MethodHandle" ∧ y_Mo_make.cls ≠ "java/lang/invoke/VarHandle" ∧ (parseMethodDescriptor y_Mo_make.desc).map (fun d => d.parameters.length) = some 2 := by decide +kernel
theorem d_Mo_make_0 : decode prog_13_method_15_code 0 = .ok (.aload_n 0, 1) := by decide +kernel
theorem d_Mo_make_1 : decode prog_13_method_15_code 1 = .ok (.getfield 80, 3) := by decide +kernel
theorem d_Mo_make_4 : decode prog_13_method_15_code 4 = .ok (.aload_n 0, 1) := by decide +kernel
theorem d_Mo_make_5 : decode prog_13_method_15_code 5 = .ok (.getfield 132, 3) := by decide +kernel
theorem d_Mo_make_8 : decode prog_13_method_15_code 8 = .ok (.iload_n 1, 1) := by decide +kernel
theorem d_Mo_make_9 : decode prog_13_method_15_code 9 = .ok (.iastore, 1) := by decide +kernel
theorem d_Mo_make_10 : decode prog_13_method_15_code 10 = .ok (.aload_n 0, 1) := by decide +kernel
theorem d_Mo_make_11 : decode prog_13_method_15_code 11 = .ok (.getfield 83, 3) := by decide +kernel
theorem d_Mo_make_14 : decode prog_13_method_15_code 14 = .ok (.aload_n 0, 1) := by decide +kernel
theorem d_Mo_make_15 : decode prog_13_method_15_code 15 = .ok (.getfield 132, 3) := by decide +kernel
theorem d_Mo_make_18 : decode prog_13_method_15_code 18 = .ok (.iload_n 2, 1) := by decide +kernel
theorem d_Mo_make_19 : decode prog_13_method_15_code 19 = .ok (.iastore, 1) := by decide +kernel
theorem d_Mo_make_20 : decode prog_13_method_15_code 20 = .ok (.aload_n 0, 1) := by decide +kernel
theorem d_Mo_make_21 : decode prog_13_method_15_code 21 = .ok (.dup, 1) := by decide +kernel
theorem d_Mo_make_22 : decode prog_13_method_15_code 22 = .ok (.getfield 132, 3) := by decide +kernel
theorem d_Mo_make_25 : decode prog_13_method_15_code 25 = .ok (.iconst 1, 1) := by decide +kernel
theorem d_Mo_make_26 : decode prog_13_method_15_code 26 = .ok (.iadd, 1) := by decide +kernel
theorem d_Mo_make_27 : decode prog_13_method_15_code 27 = .ok (.putfield 132, 3) := by decide +kernel
theorem d_Mo_make_30 : decode prog_13_method_15_code 30 = .ok (.return_, 1) := by decide +kernel
def wp_Mo_make (post : MS → Prop) (v1 : Int) (v2 : Int) (S : MS) : Prop := ixR (S.1 33) 400 ∧ (∀ S_1 : MS, S_1 = ms_a S 34 (S.1 33) v1 → ixR (S_1.1 33) 400 ∧ (∀ S_2 : MS, S_2 = ms_a S_1 35 (S_1.1 33) v2 → (∀ S_3 : MS, S_3 = ms_i S_2 33 ((S_2.1 33) + 1) → post S_3)))
set_option maxHeartbeats 4000000 in
set_option maxRecDepth 100000 in
theorem c_Mo_make (l : Launch) {D : va_G} {h : Nat} {ad : Nat → Nat} {kc : Nat → ClassId} {post : MS → Prop} {v1 : Int} {v2 : Int} {S : MS} (hw : wp_Mo_make post v1 v2 S) : jMv l D h ad kc y_Mo_make prog_13_method_15_code 3 none 0 0 S [vi v1, vi v2] post := by
  refine j_mov (own := "LandBookModel") (by decide) rfl (Nat.le_of_ble_eq_true rfl) (fun X F K hret => ?_)
  unfold wp_Mo_make at hw
  show jat l D X 3 0 [(0, .ref h), (1, vi v1), (2, vi v2)] [] (mw h ad kc S) 0 0
  refine j_aload_n F 0 d_Mo_make_0 rfl ?_
  refine m_geta F K 34 (by decide) (by decide) tj_120 rfl d_Mo_make_1 ?_
  refine j_aload_n F 0 d_Mo_make_4 rfl ?_
  refine m_geti F K 33 (by decide) rfl tj_121 rfl d_Mo_make_5 ?_
  refine j_iload_n F 1 d_Mo_make_8 rfl ?_
  obtain ⟨hc1, hw⟩ := hw
  refine m_iast F K 34 23 rfl rfl hc1 d_Mo_make_9 (fun S_1 e_S_1 => ?_)
  have hw := hw S_1 e_S_1
  refine j_aload_n F 0 d_Mo_make_10 rfl ?_
  refine m_geta F K 35 (by decide) (by decide) tj_122 rfl d_Mo_make_11 ?_
  refine j_aload_n F 0 d_Mo_make_14 rfl ?_
  refine m_geti F K 33 (by decide) rfl tj_121 rfl d_Mo_make_15 ?_
  refine j_iload_n F 2 d_Mo_make_18 rfl ?_
  obtain ⟨hc1, hw⟩ := hw
  refine m_iast F K 35 24 rfl rfl hc1 d_Mo_make_19 (fun S_2 e_S_2 => ?_)
  have hw := hw S_2 e_S_2
  refine j_aload_n F 0 d_Mo_make_20 rfl ?_
  refine j_dup F rfl d_Mo_make_21 ?_
  refine m_geti F K 33 (by decide) rfl tj_121 rfl d_Mo_make_22 ?_
  refine j_iconst F d_Mo_make_25 ?_
  refine j_iadd F d_Mo_make_26 ?_
  refine m_puti F K 33 (by decide) rfl tj_121 rfl rfl (ty := .int) (by decide +kernel) rfl rfl d_Mo_make_27 (fun S_3 e_S_3 => ?_)
  have hw := hw S_3 e_S_3
  exact hret _ _ _ hw d_Mo_make_30
abbrev y_Mo_madeArea : MethodName := ⟨"LandBookModel", "madeArea", "()J"⟩
theorem q_Mo_madeArea : y_Mo_madeArea.cls = "LandBookModel" ∧ y_Mo_madeArea.cls ≠ "java/lang/invoke/MethodHandle" ∧ y_Mo_madeArea.cls ≠ "java/lang/invoke/VarHandle" ∧ (parseMethodDescriptor y_Mo_madeArea.desc).map (fun d => d.parameters.length) = some 0 := by decide +kernel
theorem d_Mo_madeArea_0 : decode prog_13_method_16_code 0 = .ok (.lconst 0, 1) := by decide +kernel
theorem d_Mo_madeArea_1 : decode prog_13_method_16_code 1 = .ok (.lstore_n 1, 1) := by decide +kernel
theorem d_Mo_madeArea_2 : decode prog_13_method_16_code 2 = .ok (.iconst 0, 1) := by decide +kernel
theorem d_Mo_madeArea_3 : decode prog_13_method_16_code 3 = .ok (.istore_n 3, 1) := by decide +kernel
theorem d_Mo_madeArea_4 : decode prog_13_method_16_code 4 = .ok (.iload_n 3, 1) := by decide +kernel
theorem d_Mo_madeArea_5 : decode prog_13_method_16_code 5 = .ok (.aload_n 0, 1) := by decide +kernel
theorem d_Mo_madeArea_6 : decode prog_13_method_16_code 6 = .ok (.getfield 132, 3) := by decide +kernel
theorem d_Mo_madeArea_9 : decode prog_13_method_16_code 9 = .ok (.if_icmp .ge 55, 3) := by decide +kernel
theorem d_Mo_madeArea_64 : decode prog_13_method_16_code 64 = .ok (.lload_n 1, 1) := by decide +kernel
theorem d_Mo_madeArea_65 : decode prog_13_method_16_code 65 = .ok (.lreturn, 1) := by decide +kernel
theorem d_Mo_madeArea_12 : decode prog_13_method_16_code 12 = .ok (.iload_n 3, 1) := by decide +kernel
theorem d_Mo_madeArea_13 : decode prog_13_method_16_code 13 = .ok (.iconst 1, 1) := by decide +kernel
theorem d_Mo_madeArea_14 : decode prog_13_method_16_code 14 = .ok (.iadd, 1) := by decide +kernel
theorem d_Mo_madeArea_15 : decode prog_13_method_16_code 15 = .ok (.aload_n 0, 1) := by decide +kernel
theorem d_Mo_madeArea_16 : decode prog_13_method_16_code 16 = .ok (.getfield 132, 3) := by decide +kernel
theorem d_Mo_madeArea_19 : decode prog_13_method_16_code 19 = .ok (.irem, 1) := by decide +kernel
theorem d_Mo_madeArea_20 : decode prog_13_method_16_code 20 = .ok (.istore 4, 2) := by decide +kernel
theorem d_Mo_madeArea_22 : decode prog_13_method_16_code 22 = .ok (.lload_n 1, 1) := by decide +kernel
theorem d_Mo_madeArea_23 : decode prog_13_method_16_code 23 = .ok (.aload_n 0, 1) := by decide +kernel
theorem d_Mo_madeArea_24 : decode prog_13_method_16_code 24 = .ok (.getfield 80, 3) := by decide +kernel
theorem d_Mo_madeArea_27 : decode prog_13_method_16_code 27 = .ok (.iload_n 3, 1) := by decide +kernel
theorem d_Mo_madeArea_28 : decode prog_13_method_16_code 28 = .ok (.iaload, 1) := by decide +kernel
theorem d_Mo_madeArea_29 : decode prog_13_method_16_code 29 = .ok (.i2l, 1) := by decide +kernel
theorem d_Mo_madeArea_30 : decode prog_13_method_16_code 30 = .ok (.aload_n 0, 1) := by decide +kernel
theorem d_Mo_madeArea_31 : decode prog_13_method_16_code 31 = .ok (.getfield 83, 3) := by decide +kernel
theorem d_Mo_madeArea_34 : decode prog_13_method_16_code 34 = .ok (.iload 4, 2) := by decide +kernel
theorem d_Mo_madeArea_36 : decode prog_13_method_16_code 36 = .ok (.iaload, 1) := by decide +kernel
theorem d_Mo_madeArea_37 : decode prog_13_method_16_code 37 = .ok (.i2l, 1) := by decide +kernel
theorem d_Mo_madeArea_38 : decode prog_13_method_16_code 38 = .ok (.lmul, 1) := by decide +kernel
theorem d_Mo_madeArea_39 : decode prog_13_method_16_code 39 = .ok (.ladd, 1) := by decide +kernel
theorem d_Mo_madeArea_40 : decode prog_13_method_16_code 40 = .ok (.aload_n 0, 1) := by decide +kernel
theorem d_Mo_madeArea_41 : decode prog_13_method_16_code 41 = .ok (.getfield 80, 3) := by decide +kernel
theorem d_Mo_madeArea_44 : decode prog_13_method_16_code 44 = .ok (.iload 4, 2) := by decide +kernel
theorem d_Mo_madeArea_46 : decode prog_13_method_16_code 46 = .ok (.iaload, 1) := by decide +kernel
theorem d_Mo_madeArea_47 : decode prog_13_method_16_code 47 = .ok (.i2l, 1) := by decide +kernel
theorem d_Mo_madeArea_48 : decode prog_13_method_16_code 48 = .ok (.aload_n 0, 1) := by decide +kernel
theorem d_Mo_madeArea_49 : decode prog_13_method_16_code 49 = .ok (.getfield 83, 3) := by decide +kernel
theorem d_Mo_madeArea_52 : decode prog_13_method_16_code 52 = .ok (.iload_n 3, 1) := by decide +kernel
theorem d_Mo_madeArea_53 : decode prog_13_method_16_code 53 = .ok (.iaload, 1) := by decide +kernel
theorem d_Mo_madeArea_54 : decode prog_13_method_16_code 54 = .ok (.i2l, 1) := by decide +kernel
theorem d_Mo_madeArea_55 : decode prog_13_method_16_code 55 = .ok (.lmul, 1) := by decide +kernel
theorem d_Mo_madeArea_56 : decode prog_13_method_16_code 56 = .ok (.lsub, 1) := by decide +kernel
theorem d_Mo_madeArea_57 : decode prog_13_method_16_code 57 = .ok (.lstore_n 1, 1) := by decide +kernel
theorem d_Mo_madeArea_58 : decode prog_13_method_16_code 58 = .ok (.iinc 3 1, 3) := by decide +kernel
theorem d_Mo_madeArea_61 : decode prog_13_method_16_code 61 = .ok (.goto (-57), 3) := by decide +kernel
def wp_Mo_madeArea_4 (post : Int → MS → Prop) : Nat → Int → Int → MS → Prop
  | 0, _, _, _ => False
  | n + 1, v1, v3, S => inR v3 ∧ inR (S.1 33) ∧ ((S.1 33) ≤ v3 → post v1 S) ∧ (¬ ((S.1 33) ≤ v3) → (dvR (v3 + 1) (S.1 33) ∧ (∀ v4_1 : Int, v4_1 = ((v3 + 1) % (S.1 33)) → ixR v3 400 ∧ (inR (S.2 34 v3.toNat) ∧ (ixR v4_1 400 ∧ (inR (S.2 35 v4_1.toNat) ∧ (ixR v4_1 400 ∧ (inR (S.2 34 v4_1.toNat) ∧ (ixR v3 400 ∧ (inR (S.2 35 v3.toNat) ∧ (∀ v1_2 : Int, v1_2 = ((v1 + ((S.2 34 v3.toNat) * (S.2 35 v4_1.toNat))) - ((S.2 34 v4_1.toNat) * (S.2 35 v3.toNat))) → (wp_Mo_madeArea_4 post n) v1_2 (v3 + 1) S)))))))))))
def wp_Mo_madeArea (post : Int → MS → Prop)  (S : MS) : Prop := ∃ n0 : Nat, wp_Mo_madeArea_4 post n0 0 0 S
set_option maxHeartbeats 4000000 in
set_option maxRecDepth 100000 in
theorem c_Mo_madeArea (l : Launch) {D : va_G} {h : Nat} {ad : Nat → Nat} {kc : Nat → ClassId} {post : Int → MS → Prop}  {S : MS} (hw : wp_Mo_madeArea post  S) : jMl l D h ad kc y_Mo_madeArea prog_13_method_16_code 5 (some .long) 0 0 S [] post := by
  refine j_mol (own := "LandBookModel") (by decide) rfl (Nat.le_of_ble_eq_true rfl) (fun X F K hret => ?_)
  have B4 : ∀ (n0 : Nat) (v1 : Int) (v3 : Int) (S : MS), wp_Mo_madeArea_4 post n0 v1 v3 S → jat l D X 5 4 [(0, .ref h), (1, vl v1), (3, vi v3)] [] (mw h ad kc S) 0 0 := by
    intro n0
    induction n0 with
    | zero => intro v1 v3 S hw; exact hw.elim
    | succ n4 ih4 =>
      intro v1 v3 S hw
      unfold wp_Mo_madeArea_4 at hw
      refine j_iload_n F 2 d_Mo_madeArea_4 rfl ?_
      refine j_aload_n F 0 d_Mo_madeArea_5 rfl ?_
      refine m_geti F K 33 (by decide) rfl tj_121 rfl d_Mo_madeArea_6 ?_
      obtain ⟨hc1, hc2, hwt, hwf⟩ := hw
      refine j_icmp_ge F 64 hc1 hc2 d_Mo_madeArea_9 rfl (fun hh => ?_) (fun hh => ?_)
      · have hw := hwt hh
        refine j_lload_n F 1 d_Mo_madeArea_64 rfl ?_
        exact hret _ _ _ _ hw d_Mo_madeArea_65
      · have hw := hwf hh
        refine j_iload_n F 2 d_Mo_madeArea_12 rfl ?_
        refine j_iconst F d_Mo_madeArea_13 ?_
        refine j_iadd F d_Mo_madeArea_14 ?_
        refine j_aload_n F 0 d_Mo_madeArea_15 rfl ?_
        refine m_geti F K 33 (by decide) rfl tj_121 rfl d_Mo_madeArea_16 ?_
        obtain ⟨hc1, hw⟩ := hw
        refine j_irem F hc1 d_Mo_madeArea_19 ?_
        refine j_nmi (fun v4_1 e_v4_1 => ?_)
        have hw := hw v4_1 e_v4_1
        refine j_istore F [(4, vi v4_1), (0, .ref h), (1, vl v1), (3, vi v3)] d_Mo_madeArea_20 (by decide) rfl ?_
        refine j_lload_n F 2 d_Mo_madeArea_22 rfl ?_
        refine j_aload_n F 1 d_Mo_madeArea_23 rfl ?_
        refine m_geta F K 34 (by decide) (by decide) tj_120 rfl d_Mo_madeArea_24 ?_
        refine j_iload_n F 3 d_Mo_madeArea_27 rfl ?_
        obtain ⟨hc1, hw⟩ := hw
        refine m_iald F K 34 23 rfl rfl hc1 d_Mo_madeArea_28 ?_
        obtain ⟨hc1, hw⟩ := hw
        refine j_i2l F hc1 d_Mo_madeArea_29 ?_
        refine j_aload_n F 1 d_Mo_madeArea_30 rfl ?_
        refine m_geta F K 35 (by decide) (by decide) tj_122 rfl d_Mo_madeArea_31 ?_
        refine j_iload F 0 d_Mo_madeArea_34 rfl ?_
        obtain ⟨hc1, hw⟩ := hw
        refine m_iald F K 35 24 rfl rfl hc1 d_Mo_madeArea_36 ?_
        obtain ⟨hc1, hw⟩ := hw
        refine j_i2l F hc1 d_Mo_madeArea_37 ?_
        refine j_lmul F d_Mo_madeArea_38 ?_
        refine j_ladd F d_Mo_madeArea_39 ?_
        refine j_aload_n F 1 d_Mo_madeArea_40 rfl ?_
        refine m_geta F K 34 (by decide) (by decide) tj_120 rfl d_Mo_madeArea_41 ?_
        refine j_iload F 0 d_Mo_madeArea_44 rfl ?_
        obtain ⟨hc1, hw⟩ := hw
        refine m_iald F K 34 23 rfl rfl hc1 d_Mo_madeArea_46 ?_
        obtain ⟨hc1, hw⟩ := hw
        refine j_i2l F hc1 d_Mo_madeArea_47 ?_
        refine j_aload_n F 1 d_Mo_madeArea_48 rfl ?_
        refine m_geta F K 35 (by decide) (by decide) tj_122 rfl d_Mo_madeArea_49 ?_
        refine j_iload_n F 3 d_Mo_madeArea_52 rfl ?_
        obtain ⟨hc1, hw⟩ := hw
        refine m_iald F K 35 24 rfl rfl hc1 d_Mo_madeArea_53 ?_
        obtain ⟨hc1, hw⟩ := hw
        refine j_i2l F hc1 d_Mo_madeArea_54 ?_
        refine j_lmul F d_Mo_madeArea_55 ?_
        refine j_lsub F d_Mo_madeArea_56 ?_
        refine j_nml (fun v1_2 e_v1_2 => ?_)
        have hw := hw v1_2 e_v1_2
        refine j_lstore_n F [(1, vl v1_2), (4, vi v4_1), (0, .ref h), (3, vi v3)] d_Mo_madeArea_57 (by decide) rfl ?_
        refine j_iinc F 3 [(3, vi (v3 + 1)), (1, vl v1_2), (4, vi v4_1), (0, .ref h)] d_Mo_madeArea_58 rfl (by decide) rfl ?_
        refine j_goto F 4 d_Mo_madeArea_61 rfl ?_
        refine j_sub [3, 1, 0] rfl ?_
        exact ih4 _ _ _ hw
  unfold wp_Mo_madeArea at hw
  show jat l D X 5 0 [(0, .ref h)] [] (mw h ad kc S) 0 0
  refine j_lconst (x := 0) F d_Mo_madeArea_0 (by decide) ?_
  refine j_lstore_n F [(1, vl 0), (0, .ref h)] d_Mo_madeArea_1 (by decide) rfl ?_
  refine j_iconst F d_Mo_madeArea_2 ?_
  refine j_istore_n F [(3, vi 0), (1, vl 0), (0, .ref h)] d_Mo_madeArea_3 (by decide) rfl ?_
  refine j_sub [2, 1, 0] rfl ?_
  obtain ⟨n0, hw⟩ := hw
  exact B4 n0 _ _ _ hw
abbrev y_Mo_dropMade : MethodName := ⟨"LandBookModel", "dropMade", "(I)V"⟩
theorem q_Mo_dropMade : y_Mo_dropMade.cls = "LandBookModel" ∧ y_Mo_dropMade.cls ≠ "java/lang/invoke/MethodHandle" ∧ y_Mo_dropMade.cls ≠ "java/lang/invoke/VarHandle" ∧ (parseMethodDescriptor y_Mo_dropMade.desc).map (fun d => d.parameters.length) = some 1 := by decide +kernel
theorem d_Mo_dropMade_0 : decode prog_13_method_17_code 0 = .ok (.aload_n 0, 1) := by decide +kernel
theorem d_Mo_dropMade_1 : decode prog_13_method_17_code 1 = .ok (.dup, 1) := by decide +kernel
theorem d_Mo_dropMade_2 : decode prog_13_method_17_code 2 = .ok (.getfield 132, 3) := by decide +kernel
theorem d_Mo_dropMade_5 : decode prog_13_method_17_code 5 = .ok (.iconst 1, 1) := by decide +kernel
theorem d_Mo_dropMade_6 : decode prog_13_method_17_code 6 = .ok (.isub, 1) := by decide +kernel
theorem d_Mo_dropMade_7 : decode prog_13_method_17_code 7 = .ok (.putfield 132, 3) := by decide +kernel
theorem d_Mo_dropMade_10 : decode prog_13_method_17_code 10 = .ok (.iload_n 1, 1) := by decide +kernel
theorem d_Mo_dropMade_11 : decode prog_13_method_17_code 11 = .ok (.istore_n 2, 1) := by decide +kernel
theorem d_Mo_dropMade_12 : decode prog_13_method_17_code 12 = .ok (.iload_n 2, 1) := by decide +kernel
theorem d_Mo_dropMade_13 : decode prog_13_method_17_code 13 = .ok (.aload_n 0, 1) := by decide +kernel
theorem d_Mo_dropMade_14 : decode prog_13_method_17_code 14 = .ok (.getfield 132, 3) := by decide +kernel
theorem d_Mo_dropMade_17 : decode prog_13_method_17_code 17 = .ok (.if_icmp .ge 37, 3) := by decide +kernel
theorem d_Mo_dropMade_54 : decode prog_13_method_17_code 54 = .ok (.return_, 1) := by decide +kernel
theorem d_Mo_dropMade_20 : decode prog_13_method_17_code 20 = .ok (.aload_n 0, 1) := by decide +kernel
theorem d_Mo_dropMade_21 : decode prog_13_method_17_code 21 = .ok (.getfield 80, 3) := by decide +kernel
theorem d_Mo_dropMade_24 : decode prog_13_method_17_code 24 = .ok (.iload_n 2, 1) := by decide +kernel
theorem d_Mo_dropMade_25 : decode prog_13_method_17_code 25 = .ok (.aload_n 0, 1) := by decide +kernel
theorem d_Mo_dropMade_26 : decode prog_13_method_17_code 26 = .ok (.getfield 80, 3) := by decide +kernel
theorem d_Mo_dropMade_29 : decode prog_13_method_17_code 29 = .ok (.iload_n 2, 1) := by decide +kernel
theorem d_Mo_dropMade_30 : decode prog_13_method_17_code 30 = .ok (.iconst 1, 1) := by decide +kernel
theorem d_Mo_dropMade_31 : decode prog_13_method_17_code 31 = .ok (.iadd, 1) := by decide +kernel
theorem d_Mo_dropMade_32 : decode prog_13_method_17_code 32 = .ok (.iaload, 1) := by decide +kernel
theorem d_Mo_dropMade_33 : decode prog_13_method_17_code 33 = .ok (.iastore, 1) := by decide +kernel
theorem d_Mo_dropMade_34 : decode prog_13_method_17_code 34 = .ok (.aload_n 0, 1) := by decide +kernel
theorem d_Mo_dropMade_35 : decode prog_13_method_17_code 35 = .ok (.getfield 83, 3) := by decide +kernel
theorem d_Mo_dropMade_38 : decode prog_13_method_17_code 38 = .ok (.iload_n 2, 1) := by decide +kernel
theorem d_Mo_dropMade_39 : decode prog_13_method_17_code 39 = .ok (.aload_n 0, 1) := by decide +kernel
theorem d_Mo_dropMade_40 : decode prog_13_method_17_code 40 = .ok (.getfield 83, 3) := by decide +kernel
theorem d_Mo_dropMade_43 : decode prog_13_method_17_code 43 = .ok (.iload_n 2, 1) := by decide +kernel
theorem d_Mo_dropMade_44 : decode prog_13_method_17_code 44 = .ok (.iconst 1, 1) := by decide +kernel
theorem d_Mo_dropMade_45 : decode prog_13_method_17_code 45 = .ok (.iadd, 1) := by decide +kernel
theorem d_Mo_dropMade_46 : decode prog_13_method_17_code 46 = .ok (.iaload, 1) := by decide +kernel
theorem d_Mo_dropMade_47 : decode prog_13_method_17_code 47 = .ok (.iastore, 1) := by decide +kernel
theorem d_Mo_dropMade_48 : decode prog_13_method_17_code 48 = .ok (.iinc 2 1, 3) := by decide +kernel
theorem d_Mo_dropMade_51 : decode prog_13_method_17_code 51 = .ok (.goto (-39), 3) := by decide +kernel
def wp_Mo_dropMade_12 (post : MS → Prop) : Nat → Int → MS → Prop
  | 0, _, _ => False
  | n + 1, v2, S => inR v2 ∧ inR (S.1 33) ∧ ((S.1 33) ≤ v2 → post S) ∧ (¬ ((S.1 33) ≤ v2) → (ixR (v2 + 1) 400 ∧ (ixR v2 400 ∧ (∀ S_1 : MS, S_1 = ms_a S 34 v2 (S.2 34 (v2 + 1).toNat) → ixR (v2 + 1) 400 ∧ (ixR v2 400 ∧ (∀ S_2 : MS, S_2 = ms_a S_1 35 v2 (S_1.2 35 (v2 + 1).toNat) → (wp_Mo_dropMade_12 post n) (v2 + 1) S_2))))))
def wp_Mo_dropMade (post : MS → Prop) (v1 : Int) (S : MS) : Prop := (∀ S_1 : MS, S_1 = ms_i S 33 ((S.1 33) - 1) → ∃ n0 : Nat, wp_Mo_dropMade_12 post n0 v1 S_1)
set_option maxHeartbeats 4000000 in
set_option maxRecDepth 100000 in
theorem c_Mo_dropMade (l : Launch) {D : va_G} {h : Nat} {ad : Nat → Nat} {kc : Nat → ClassId} {post : MS → Prop} {v1 : Int} {S : MS} (hw : wp_Mo_dropMade post v1 S) : jMv l D h ad kc y_Mo_dropMade prog_13_method_17_code 3 none 0 0 S [vi v1] post := by
  refine j_mov (own := "LandBookModel") (by decide) rfl (Nat.le_of_ble_eq_true rfl) (fun X F K hret => ?_)
  have B12 : ∀ (n0 : Nat) (v2 : Int) (S : MS), wp_Mo_dropMade_12 post n0 v2 S → jat l D X 3 12 [(0, .ref h), (2, vi v2)] [] (mw h ad kc S) 0 0 := by
    intro n0
    induction n0 with
    | zero => intro v2 S hw; exact hw.elim
    | succ n12 ih12 =>
      intro v2 S hw
      unfold wp_Mo_dropMade_12 at hw
      refine j_iload_n F 1 d_Mo_dropMade_12 rfl ?_
      refine j_aload_n F 0 d_Mo_dropMade_13 rfl ?_
      refine m_geti F K 33 (by decide) rfl tj_121 rfl d_Mo_dropMade_14 ?_
      obtain ⟨hc1, hc2, hwt, hwf⟩ := hw
      refine j_icmp_ge F 54 hc1 hc2 d_Mo_dropMade_17 rfl (fun hh => ?_) (fun hh => ?_)
      · have hw := hwt hh
        exact hret _ _ _ hw d_Mo_dropMade_54
      · have hw := hwf hh
        refine j_aload_n F 0 d_Mo_dropMade_20 rfl ?_
        refine m_geta F K 34 (by decide) (by decide) tj_120 rfl d_Mo_dropMade_21 ?_
        refine j_iload_n F 1 d_Mo_dropMade_24 rfl ?_
        refine j_aload_n F 0 d_Mo_dropMade_25 rfl ?_
        refine m_geta F K 34 (by decide) (by decide) tj_120 rfl d_Mo_dropMade_26 ?_
        refine j_iload_n F 1 d_Mo_dropMade_29 rfl ?_
        refine j_iconst F d_Mo_dropMade_30 ?_
        refine j_iadd F d_Mo_dropMade_31 ?_
        obtain ⟨hc1, hw⟩ := hw
        refine m_iald F K 34 23 rfl rfl hc1 d_Mo_dropMade_32 ?_
        obtain ⟨hc1, hw⟩ := hw
        refine m_iast F K 34 23 rfl rfl hc1 d_Mo_dropMade_33 (fun S_1 e_S_1 => ?_)
        have hw := hw S_1 e_S_1
        refine j_aload_n F 0 d_Mo_dropMade_34 rfl ?_
        refine m_geta F K 35 (by decide) (by decide) tj_122 rfl d_Mo_dropMade_35 ?_
        refine j_iload_n F 1 d_Mo_dropMade_38 rfl ?_
        refine j_aload_n F 0 d_Mo_dropMade_39 rfl ?_
        refine m_geta F K 35 (by decide) (by decide) tj_122 rfl d_Mo_dropMade_40 ?_
        refine j_iload_n F 1 d_Mo_dropMade_43 rfl ?_
        refine j_iconst F d_Mo_dropMade_44 ?_
        refine j_iadd F d_Mo_dropMade_45 ?_
        obtain ⟨hc1, hw⟩ := hw
        refine m_iald F K 35 24 rfl rfl hc1 d_Mo_dropMade_46 ?_
        obtain ⟨hc1, hw⟩ := hw
        refine m_iast F K 35 24 rfl rfl hc1 d_Mo_dropMade_47 (fun S_2 e_S_2 => ?_)
        have hw := hw S_2 e_S_2
        refine j_iinc F 1 [(2, vi (v2 + 1)), (0, .ref h)] d_Mo_dropMade_48 rfl (by decide) rfl ?_
        refine j_goto F 12 d_Mo_dropMade_51 rfl ?_
        refine j_sub [1, 0] rfl ?_
        exact ih12 _ _ hw
  unfold wp_Mo_dropMade at hw
  show jat l D X 3 0 [(0, .ref h), (1, vi v1)] [] (mw h ad kc S) 0 0
  refine j_aload_n F 0 d_Mo_dropMade_0 rfl ?_
  refine j_dup F rfl d_Mo_dropMade_1 ?_
  refine m_geti F K 33 (by decide) rfl tj_121 rfl d_Mo_dropMade_2 ?_
  refine j_iconst F d_Mo_dropMade_5 ?_
  refine j_isub F d_Mo_dropMade_6 ?_
  refine m_puti F K 33 (by decide) rfl tj_121 rfl rfl (ty := .int) (by decide +kernel) rfl rfl d_Mo_dropMade_7 (fun S_1 e_S_1 => ?_)
  have hw := hw S_1 e_S_1
  refine j_iload_n F 1 d_Mo_dropMade_10 rfl ?_
  refine j_istore_n F [(2, vi v1), (0, .ref h), (1, vi v1)] d_Mo_dropMade_11 (by decide) rfl ?_
  refine j_sub [1, 0] rfl ?_
  obtain ⟨n0, hw⟩ := hw
  exact B12 n0 _ _ hw
theorem tj_123 : (Jvm.Cond.methodLink "LandBookModel" (135 : Nat) ({ cls := "LandBookModel", name := "madeArea", desc := "()J" } : Jvm.MethodName)) ∈ tw_G := tw_in (List.mem_of_getElem? (i := 1218) (by decide +kernel)) rfl
theorem tj_124 : (Jvm.Cond.instanceMethod ({ cls := "LandBookModel", name := "madeArea", desc := "()J" } : Jvm.MethodName)) ∈ tw_G := tw_in (List.mem_of_getElem? (i := 1220) (by decide +kernel)) rfl
theorem tj_125 : (Jvm.Cond.selects "LandBookModel" ⟨"LandBookModel", "madeArea", "()J"⟩ ⟨"LandBookModel", "madeArea", "()J"⟩) ∈ tw_G := tw_in (List.mem_of_getElem? (i := 23) (by decide +kernel)) rfl
theorem tj_126 : (Jvm.Cond.code ({ cls := "LandBookModel", name := "madeArea", desc := "()J" } : Jvm.MethodName) prog_13_method_16_code (5 : Nat) (Option.some Jvm.ClassFile.FieldType.long)) ∈ tw_G := tw_in (List.mem_of_getElem? (i := 1221) (by decide +kernel)) rfl
theorem tj_127 : (Jvm.Cond.methodLink "LandBookModel" (139 : Nat) ({ cls := "LandBookModel", name := "dropMade", desc := "(I)V" } : Jvm.MethodName)) ∈ tw_G := tw_in (List.mem_of_getElem? (i := 1222) (by decide +kernel)) rfl
theorem tj_128 : (Jvm.Cond.instanceMethod ({ cls := "LandBookModel", name := "dropMade", desc := "(I)V" } : Jvm.MethodName)) ∈ tw_G := tw_in (List.mem_of_getElem? (i := 1224) (by decide +kernel)) rfl
theorem tj_129 : (Jvm.Cond.selects "LandBookModel" ⟨"LandBookModel", "dropMade", "(I)V"⟩ ⟨"LandBookModel", "dropMade", "(I)V"⟩) ∈ tw_G := tw_in (List.mem_of_getElem? (i := 24) (by decide +kernel)) rfl
theorem tj_130 : (Jvm.Cond.code ({ cls := "LandBookModel", name := "dropMade", desc := "(I)V" } : Jvm.MethodName) prog_13_method_17_code (3 : Nat) (Option.none : Option Jvm.ClassFile.FieldType)) ∈ tw_G := tw_in (List.mem_of_getElem? (i := 1225) (by decide +kernel)) rfl
abbrev y_Mo_tidy : MethodName := ⟨"LandBookModel", "tidy", "()V"⟩
theorem q_Mo_tidy : y_Mo_tidy.cls = "LandBookModel" ∧ y_Mo_tidy.cls ≠ "java/lang/invoke/MethodHandle" ∧ y_Mo_tidy.cls ≠ "java/lang/invoke/VarHandle" ∧ (parseMethodDescriptor y_Mo_tidy.desc).map (fun d => d.parameters.length) = some 0 := by decide +kernel
theorem d_Mo_tidy_0 : decode prog_13_method_18_code 0 = .ok (.aload_n 0, 1) := by decide +kernel
theorem d_Mo_tidy_1 : decode prog_13_method_18_code 1 = .ok (.invokevirtual 135, 3) := by decide +kernel
theorem d_Mo_tidy_4 : decode prog_13_method_18_code 4 = .ok (.lconst 0, 1) := by decide +kernel
theorem d_Mo_tidy_5 : decode prog_13_method_18_code 5 = .ok (.lcmp, 1) := by decide +kernel
theorem d_Mo_tidy_6 : decode prog_13_method_18_code 6 = .ok (.ifCond .ge 80, 3) := by decide +kernel
theorem d_Mo_tidy_9 : decode prog_13_method_18_code 9 = .ok (.iconst 0, 1) := by decide +kernel
theorem d_Mo_tidy_10 : decode prog_13_method_18_code 10 = .ok (.istore_n 1, 1) := by decide +kernel
theorem d_Mo_tidy_11 : decode prog_13_method_18_code 11 = .ok (.aload_n 0, 1) := by decide +kernel
theorem d_Mo_tidy_12 : decode prog_13_method_18_code 12 = .ok (.getfield 132, 3) := by decide +kernel
theorem d_Mo_tidy_15 : decode prog_13_method_18_code 15 = .ok (.iconst 1, 1) := by decide +kernel
theorem d_Mo_tidy_16 : decode prog_13_method_18_code 16 = .ok (.isub, 1) := by decide +kernel
theorem d_Mo_tidy_17 : decode prog_13_method_18_code 17 = .ok (.istore_n 2, 1) := by decide +kernel
theorem d_Mo_tidy_86 : decode prog_13_method_18_code 86 = .ok (.iconst 1, 1) := by decide +kernel
theorem d_Mo_tidy_87 : decode prog_13_method_18_code 87 = .ok (.istore_n 1, 1) := by decide +kernel
theorem d_Mo_tidy_18 : decode prog_13_method_18_code 18 = .ok (.iload_n 1, 1) := by decide +kernel
theorem d_Mo_tidy_19 : decode prog_13_method_18_code 19 = .ok (.iload_n 2, 1) := by decide +kernel
theorem d_Mo_tidy_20 : decode prog_13_method_18_code 20 = .ok (.if_icmp .ge 66, 3) := by decide +kernel
theorem d_Mo_tidy_23 : decode prog_13_method_18_code 23 = .ok (.aload_n 0, 1) := by decide +kernel
theorem d_Mo_tidy_24 : decode prog_13_method_18_code 24 = .ok (.getfield 80, 3) := by decide +kernel
theorem d_Mo_tidy_27 : decode prog_13_method_18_code 27 = .ok (.iload_n 1, 1) := by decide +kernel
theorem d_Mo_tidy_28 : decode prog_13_method_18_code 28 = .ok (.iaload, 1) := by decide +kernel
theorem d_Mo_tidy_29 : decode prog_13_method_18_code 29 = .ok (.istore_n 3, 1) := by decide +kernel
theorem d_Mo_tidy_30 : decode prog_13_method_18_code 30 = .ok (.aload_n 0, 1) := by decide +kernel
theorem d_Mo_tidy_31 : decode prog_13_method_18_code 31 = .ok (.getfield 83, 3) := by decide +kernel
theorem d_Mo_tidy_34 : decode prog_13_method_18_code 34 = .ok (.iload_n 1, 1) := by decide +kernel
theorem d_Mo_tidy_35 : decode prog_13_method_18_code 35 = .ok (.iaload, 1) := by decide +kernel
theorem d_Mo_tidy_36 : decode prog_13_method_18_code 36 = .ok (.istore 4, 2) := by decide +kernel
theorem d_Mo_tidy_38 : decode prog_13_method_18_code 38 = .ok (.aload_n 0, 1) := by decide +kernel
theorem d_Mo_tidy_39 : decode prog_13_method_18_code 39 = .ok (.getfield 80, 3) := by decide +kernel
theorem d_Mo_tidy_42 : decode prog_13_method_18_code 42 = .ok (.iload_n 1, 1) := by decide +kernel
theorem d_Mo_tidy_43 : decode prog_13_method_18_code 43 = .ok (.aload_n 0, 1) := by decide +kernel
theorem d_Mo_tidy_44 : decode prog_13_method_18_code 44 = .ok (.getfield 80, 3) := by decide +kernel
theorem d_Mo_tidy_47 : decode prog_13_method_18_code 47 = .ok (.iload_n 2, 1) := by decide +kernel
theorem d_Mo_tidy_48 : decode prog_13_method_18_code 48 = .ok (.iaload, 1) := by decide +kernel
theorem d_Mo_tidy_49 : decode prog_13_method_18_code 49 = .ok (.iastore, 1) := by decide +kernel
theorem d_Mo_tidy_50 : decode prog_13_method_18_code 50 = .ok (.aload_n 0, 1) := by decide +kernel
theorem d_Mo_tidy_51 : decode prog_13_method_18_code 51 = .ok (.getfield 83, 3) := by decide +kernel
theorem d_Mo_tidy_54 : decode prog_13_method_18_code 54 = .ok (.iload_n 1, 1) := by decide +kernel
theorem d_Mo_tidy_55 : decode prog_13_method_18_code 55 = .ok (.aload_n 0, 1) := by decide +kernel
theorem d_Mo_tidy_56 : decode prog_13_method_18_code 56 = .ok (.getfield 83, 3) := by decide +kernel
theorem d_Mo_tidy_59 : decode prog_13_method_18_code 59 = .ok (.iload_n 2, 1) := by decide +kernel
theorem d_Mo_tidy_60 : decode prog_13_method_18_code 60 = .ok (.iaload, 1) := by decide +kernel
theorem d_Mo_tidy_61 : decode prog_13_method_18_code 61 = .ok (.iastore, 1) := by decide +kernel
theorem d_Mo_tidy_62 : decode prog_13_method_18_code 62 = .ok (.aload_n 0, 1) := by decide +kernel
theorem d_Mo_tidy_63 : decode prog_13_method_18_code 63 = .ok (.getfield 80, 3) := by decide +kernel
theorem d_Mo_tidy_66 : decode prog_13_method_18_code 66 = .ok (.iload_n 2, 1) := by decide +kernel
theorem d_Mo_tidy_67 : decode prog_13_method_18_code 67 = .ok (.iload_n 3, 1) := by decide +kernel
theorem d_Mo_tidy_68 : decode prog_13_method_18_code 68 = .ok (.iastore, 1) := by decide +kernel
theorem d_Mo_tidy_69 : decode prog_13_method_18_code 69 = .ok (.aload_n 0, 1) := by decide +kernel
theorem d_Mo_tidy_70 : decode prog_13_method_18_code 70 = .ok (.getfield 83, 3) := by decide +kernel
theorem d_Mo_tidy_73 : decode prog_13_method_18_code 73 = .ok (.iload_n 2, 1) := by decide +kernel
theorem d_Mo_tidy_74 : decode prog_13_method_18_code 74 = .ok (.iload 4, 2) := by decide +kernel
theorem d_Mo_tidy_76 : decode prog_13_method_18_code 76 = .ok (.iastore, 1) := by decide +kernel
theorem d_Mo_tidy_77 : decode prog_13_method_18_code 77 = .ok (.iinc 1 1, 3) := by decide +kernel
theorem d_Mo_tidy_80 : decode prog_13_method_18_code 80 = .ok (.iinc 2 (-1), 3) := by decide +kernel
theorem d_Mo_tidy_83 : decode prog_13_method_18_code 83 = .ok (.goto (-65), 3) := by decide +kernel
theorem d_Mo_tidy_88 : decode prog_13_method_18_code 88 = .ok (.iload_n 1, 1) := by decide +kernel
theorem d_Mo_tidy_89 : decode prog_13_method_18_code 89 = .ok (.ifCond .eq 103, 3) := by decide +kernel
theorem d_Mo_tidy_192 : decode prog_13_method_18_code 192 = .ok (.return_, 1) := by decide +kernel
theorem d_Mo_tidy_92 : decode prog_13_method_18_code 92 = .ok (.iconst 0, 1) := by decide +kernel
theorem d_Mo_tidy_93 : decode prog_13_method_18_code 93 = .ok (.istore_n 1, 1) := by decide +kernel
theorem d_Mo_tidy_94 : decode prog_13_method_18_code 94 = .ok (.iconst 0, 1) := by decide +kernel
theorem d_Mo_tidy_95 : decode prog_13_method_18_code 95 = .ok (.istore_n 2, 1) := by decide +kernel
theorem d_Mo_tidy_96 : decode prog_13_method_18_code 96 = .ok (.iload_n 2, 1) := by decide +kernel
theorem d_Mo_tidy_97 : decode prog_13_method_18_code 97 = .ok (.aload_n 0, 1) := by decide +kernel
theorem d_Mo_tidy_98 : decode prog_13_method_18_code 98 = .ok (.getfield 132, 3) := by decide +kernel
theorem d_Mo_tidy_101 : decode prog_13_method_18_code 101 = .ok (.if_icmp .ge 88, 3) := by decide +kernel
theorem d_Mo_tidy_189 : decode prog_13_method_18_code 189 = .ok (.goto (-101), 3) := by decide +kernel
theorem d_Mo_tidy_104 : decode prog_13_method_18_code 104 = .ok (.iload_n 1, 1) := by decide +kernel
theorem d_Mo_tidy_105 : decode prog_13_method_18_code 105 = .ok (.ifCond .ne 84, 3) := by decide +kernel
theorem d_Mo_tidy_108 : decode prog_13_method_18_code 108 = .ok (.iload_n 2, 1) := by decide +kernel
theorem d_Mo_tidy_109 : decode prog_13_method_18_code 109 = .ok (.aload_n 0, 1) := by decide +kernel
theorem d_Mo_tidy_110 : decode prog_13_method_18_code 110 = .ok (.getfield 132, 3) := by decide +kernel
theorem d_Mo_tidy_113 : decode prog_13_method_18_code 113 = .ok (.iadd, 1) := by decide +kernel
theorem d_Mo_tidy_114 : decode prog_13_method_18_code 114 = .ok (.iconst 1, 1) := by decide +kernel
theorem d_Mo_tidy_115 : decode prog_13_method_18_code 115 = .ok (.isub, 1) := by decide +kernel
theorem d_Mo_tidy_116 : decode prog_13_method_18_code 116 = .ok (.aload_n 0, 1) := by decide +kernel
theorem d_Mo_tidy_117 : decode prog_13_method_18_code 117 = .ok (.getfield 132, 3) := by decide +kernel
theorem d_Mo_tidy_120 : decode prog_13_method_18_code 120 = .ok (.irem, 1) := by decide +kernel
theorem d_Mo_tidy_121 : decode prog_13_method_18_code 121 = .ok (.istore_n 3, 1) := by decide +kernel
theorem d_Mo_tidy_122 : decode prog_13_method_18_code 122 = .ok (.iload_n 2, 1) := by decide +kernel
theorem d_Mo_tidy_123 : decode prog_13_method_18_code 123 = .ok (.iconst 1, 1) := by decide +kernel
theorem d_Mo_tidy_124 : decode prog_13_method_18_code 124 = .ok (.iadd, 1) := by decide +kernel
theorem d_Mo_tidy_125 : decode prog_13_method_18_code 125 = .ok (.aload_n 0, 1) := by decide +kernel
theorem d_Mo_tidy_126 : decode prog_13_method_18_code 126 = .ok (.getfield 132, 3) := by decide +kernel
theorem d_Mo_tidy_129 : decode prog_13_method_18_code 129 = .ok (.irem, 1) := by decide +kernel
theorem d_Mo_tidy_130 : decode prog_13_method_18_code 130 = .ok (.istore 4, 2) := by decide +kernel
theorem d_Mo_tidy_132 : decode prog_13_method_18_code 132 = .ok (.aload_n 0, 1) := by decide +kernel
theorem d_Mo_tidy_133 : decode prog_13_method_18_code 133 = .ok (.getfield 80, 3) := by decide +kernel
theorem d_Mo_tidy_136 : decode prog_13_method_18_code 136 = .ok (.iload_n 3, 1) := by decide +kernel
theorem d_Mo_tidy_137 : decode prog_13_method_18_code 137 = .ok (.iaload, 1) := by decide +kernel
theorem d_Mo_tidy_138 : decode prog_13_method_18_code 138 = .ok (.aload_n 0, 1) := by decide +kernel
theorem d_Mo_tidy_139 : decode prog_13_method_18_code 139 = .ok (.getfield 83, 3) := by decide +kernel
theorem d_Mo_tidy_142 : decode prog_13_method_18_code 142 = .ok (.iload_n 3, 1) := by decide +kernel
theorem d_Mo_tidy_143 : decode prog_13_method_18_code 143 = .ok (.iaload, 1) := by decide +kernel
theorem d_Mo_tidy_144 : decode prog_13_method_18_code 144 = .ok (.aload_n 0, 1) := by decide +kernel
theorem d_Mo_tidy_145 : decode prog_13_method_18_code 145 = .ok (.getfield 80, 3) := by decide +kernel
theorem d_Mo_tidy_148 : decode prog_13_method_18_code 148 = .ok (.iload_n 2, 1) := by decide +kernel
theorem d_Mo_tidy_149 : decode prog_13_method_18_code 149 = .ok (.iaload, 1) := by decide +kernel
theorem d_Mo_tidy_150 : decode prog_13_method_18_code 150 = .ok (.aload_n 0, 1) := by decide +kernel
theorem d_Mo_tidy_151 : decode prog_13_method_18_code 151 = .ok (.getfield 83, 3) := by decide +kernel
theorem d_Mo_tidy_154 : decode prog_13_method_18_code 154 = .ok (.iload_n 2, 1) := by decide +kernel
theorem d_Mo_tidy_155 : decode prog_13_method_18_code 155 = .ok (.iaload, 1) := by decide +kernel
theorem d_Mo_tidy_156 : decode prog_13_method_18_code 156 = .ok (.aload_n 0, 1) := by decide +kernel
theorem d_Mo_tidy_157 : decode prog_13_method_18_code 157 = .ok (.getfield 80, 3) := by decide +kernel
theorem d_Mo_tidy_160 : decode prog_13_method_18_code 160 = .ok (.iload 4, 2) := by decide +kernel
theorem d_Mo_tidy_162 : decode prog_13_method_18_code 162 = .ok (.iaload, 1) := by decide +kernel
theorem d_Mo_tidy_163 : decode prog_13_method_18_code 163 = .ok (.aload_n 0, 1) := by decide +kernel
theorem d_Mo_tidy_164 : decode prog_13_method_18_code 164 = .ok (.getfield 83, 3) := by decide +kernel
theorem d_Mo_tidy_167 : decode prog_13_method_18_code 167 = .ok (.iload 4, 2) := by decide +kernel
theorem d_Mo_tidy_169 : decode prog_13_method_18_code 169 = .ok (.iaload, 1) := by decide +kernel
theorem d_Mo_tidy_170 : decode prog_13_method_18_code 170 = .ok (.invokestatic 109, 3) := by decide +kernel
theorem d_Mo_tidy_173 : decode prog_13_method_18_code 173 = .ok (.ifCond .ne 10, 3) := by decide +kernel
theorem d_Mo_tidy_176 : decode prog_13_method_18_code 176 = .ok (.aload_n 0, 1) := by decide +kernel
theorem d_Mo_tidy_177 : decode prog_13_method_18_code 177 = .ok (.iload_n 2, 1) := by decide +kernel
theorem d_Mo_tidy_178 : decode prog_13_method_18_code 178 = .ok (.invokevirtual 139, 3) := by decide +kernel
theorem d_Mo_tidy_181 : decode prog_13_method_18_code 181 = .ok (.iconst 1, 1) := by decide +kernel
theorem d_Mo_tidy_182 : decode prog_13_method_18_code 182 = .ok (.istore_n 1, 1) := by decide +kernel
theorem d_Mo_tidy_183 : decode prog_13_method_18_code 183 = .ok (.iinc 2 1, 3) := by decide +kernel
theorem d_Mo_tidy_186 : decode prog_13_method_18_code 186 = .ok (.goto (-90), 3) := by decide +kernel
def wp_Mo_tidy_183 (post : MS → Prop) (k88 : Int → MS → Prop) (k96 : Int → Int → MS → Prop) (v1 : Int) (v2 : Int) (S : MS) : Prop := k96 v1 (v2 + 1) S
def wp_Mo_tidy_96 (post : MS → Prop) (k88 : Int → MS → Prop) : Nat → Int → Int → MS → Prop
  | 0, _, _, _ => False
  | n + 1, v1, v2, S => inR v2 ∧ inR (S.1 33) ∧ ((S.1 33) ≤ v2 → k88 v1 S) ∧ (¬ ((S.1 33) ≤ v2) → (inR v1 ∧ (¬ (v1 = 0) → k88 v1 S) ∧ (v1 = 0 → (dvR ((v2 + (S.1 33)) - 1) (S.1 33) ∧ (∀ v3_1 : Int, v3_1 = (((v2 + (S.1 33)) - 1) % (S.1 33)) → dvR (v2 + 1) (S.1 33) ∧ (∀ v4_2 : Int, v4_2 = ((v2 + 1) % (S.1 33)) → ixR v3_1 400 ∧ (ixR v3_1 400 ∧ (ixR v2 400 ∧ (ixR v2 400 ∧ (ixR v4_2 400 ∧ (ixR v4_2 400 ∧ (wp_Mo_turn (fun r_3 => inR r_3 ∧ (¬ (r_3 = 0) → wp_Mo_tidy_183 post k88 (wp_Mo_tidy_96 post k88 n) v1 v2 S) ∧ (r_3 = 0 → (wp_Mo_dropMade (fun S_4 => wp_Mo_tidy_183 post k88 (wp_Mo_tidy_96 post k88 n) 1 v2 S_4) v2 S))) (S.2 34 v3_1.toNat) (S.2 35 v3_1.toNat) (S.2 34 v2.toNat) (S.2 35 v2.toNat) (S.2 34 v4_2.toNat) (S.2 35 v4_2.toNat)))))))))))))
def wp_Mo_tidy_88 (post : MS → Prop) : Nat → Int → MS → Prop
  | 0, _, _ => False
  | n + 1, v1, S => inR v1 ∧ (v1 = 0 → post S) ∧ (¬ (v1 = 0) → (∃ n0 : Nat, wp_Mo_tidy_96 post (wp_Mo_tidy_88 post n) n0 0 0 S))
def wp_Mo_tidy_86 (post : MS → Prop) (S : MS) : Prop := ∃ n0 : Nat, wp_Mo_tidy_88 post n0 1 S
def wp_Mo_tidy_18 (post : MS → Prop) : Nat → Int → Int → MS → Prop
  | 0, _, _, _ => False
  | n + 1, v1, v2, S => inR v1 ∧ inR v2 ∧ (v2 ≤ v1 → wp_Mo_tidy_86 post S) ∧ (¬ (v2 ≤ v1) → (ixR v1 400 ∧ (∀ v3_1 : Int, v3_1 = (S.2 34 v1.toNat) → ixR v1 400 ∧ (∀ v4_2 : Int, v4_2 = (S.2 35 v1.toNat) → ixR v2 400 ∧ (ixR v1 400 ∧ (∀ S_3 : MS, S_3 = ms_a S 34 v1 (S.2 34 v2.toNat) → ixR v2 400 ∧ (ixR v1 400 ∧ (∀ S_4 : MS, S_4 = ms_a S_3 35 v1 (S_3.2 35 v2.toNat) → ixR v2 400 ∧ (∀ S_5 : MS, S_5 = ms_a S_4 34 v2 v3_1 → ixR v2 400 ∧ (∀ S_6 : MS, S_6 = ms_a S_5 35 v2 v4_2 → (wp_Mo_tidy_18 post n) (v1 + 1) (v2 + (-1)) S_6))))))))))
def wp_Mo_tidy (post : MS → Prop)  (S : MS) : Prop := wp_Mo_madeArea (fun r_2 S_1 => inL r_2 ∧ (0 ≤ r_2 → wp_Mo_tidy_86 post S_1) ∧ (¬ (0 ≤ r_2) → (∀ v2_3 : Int, v2_3 = ((S_1.1 33) - 1) → ∃ n0 : Nat, wp_Mo_tidy_18 post n0 0 v2_3 S_1)))  S
set_option maxHeartbeats 4000000 in
set_option maxRecDepth 100000 in
theorem c_Mo_tidy (l : Launch) {D : va_G} {h : Nat} {ad : Nat → Nat} {kc : Nat → ClassId} {post : MS → Prop}  {S : MS} (hw : wp_Mo_tidy post  S) : jMv l D h ad kc y_Mo_tidy prog_13_method_18_code 5 none 1 25 S [] post := by
  refine j_mov (own := "LandBookModel") (by decide) rfl (Nat.le_of_ble_eq_true rfl) (fun X F K hret => ?_)
  have B88 : ∀ (n0 : Nat) (v1 : Int) (S : MS), wp_Mo_tidy_88 post n0 v1 S → jat l D X 5 88 [(0, .ref h), (1, vi v1)] [] (mw h ad kc S) 0 0 := by
    intro n0
    induction n0 with
    | zero => intro v1 S hw; exact hw.elim
    | succ n88 ih88 =>
      have B96 : ∀ (n0 : Nat) (v1 : Int) (v2 : Int) (S : MS), wp_Mo_tidy_96 post (wp_Mo_tidy_88 post n88) n0 v1 v2 S → jat l D X 5 96 [(0, .ref h), (1, vi v1), (2, vi v2)] [] (mw h ad kc S) 0 0 := by
        intro n0
        induction n0 with
        | zero => intro v1 v2 S hw; exact hw.elim
        | succ n96 ih96 =>
          have B183 : ∀ (v1 : Int) (v2 : Int) (S : MS), wp_Mo_tidy_183 post (wp_Mo_tidy_88 post n88) (wp_Mo_tidy_96 post (wp_Mo_tidy_88 post n88) n96) v1 v2 S → jat l D X 5 183 [(0, .ref h), (1, vi v1), (2, vi v2)] [] (mw h ad kc S) 0 0 := by
            intro v1 v2 S hw
            unfold wp_Mo_tidy_183 at hw
            refine j_iinc F 2 [(2, vi (v2 + 1)), (0, .ref h), (1, vi v1)] d_Mo_tidy_183 rfl (by decide) rfl ?_
            refine j_goto F 96 d_Mo_tidy_186 rfl ?_
            refine j_sub [1, 2, 0] rfl ?_
            exact ih96 _ _ _ hw
          intro v1 v2 S hw
          unfold wp_Mo_tidy_96 at hw
          refine j_iload_n F 2 d_Mo_tidy_96 rfl ?_
          refine j_aload_n F 0 d_Mo_tidy_97 rfl ?_
          refine m_geti F K 33 (by decide) rfl tj_121 rfl d_Mo_tidy_98 ?_
          obtain ⟨hc1, hc2, hwt, hwf⟩ := hw
          refine j_icmp_ge F 189 hc1 hc2 d_Mo_tidy_101 rfl (fun hh => ?_) (fun hh => ?_)
          · have hw := hwt hh
            refine j_goto F 88 d_Mo_tidy_189 rfl ?_
            refine j_sub [0, 1] rfl ?_
            exact ih88 _ _ hw
          · have hw := hwf hh
            refine j_iload_n F 1 d_Mo_tidy_104 rfl ?_
            obtain ⟨hc1, hwt, hwf⟩ := hw
            refine j_if_ne F 189 hc1 d_Mo_tidy_105 rfl (fun hh => ?_) (fun hh => ?_)
            · have hw := hwt hh
              refine j_goto F 88 d_Mo_tidy_189 rfl ?_
              refine j_sub [0, 1] rfl ?_
              exact ih88 _ _ hw
            · have hw := hwf hh
              refine j_iload_n F 2 d_Mo_tidy_108 rfl ?_
              refine j_aload_n F 0 d_Mo_tidy_109 rfl ?_
              refine m_geti F K 33 (by decide) rfl tj_121 rfl d_Mo_tidy_110 ?_
              refine j_iadd F d_Mo_tidy_113 ?_
              refine j_iconst F d_Mo_tidy_114 ?_
              refine j_isub F d_Mo_tidy_115 ?_
              refine j_aload_n F 0 d_Mo_tidy_116 rfl ?_
              refine m_geti F K 33 (by decide) rfl tj_121 rfl d_Mo_tidy_117 ?_
              obtain ⟨hc1, hw⟩ := hw
              refine j_irem F hc1 d_Mo_tidy_120 ?_
              refine j_nmi (fun v3_1 e_v3_1 => ?_)
              have hw := hw v3_1 e_v3_1
              refine j_istore_n F [(3, vi v3_1), (0, .ref h), (1, vi v1), (2, vi v2)] d_Mo_tidy_121 (by decide) rfl ?_
              refine j_iload_n F 3 d_Mo_tidy_122 rfl ?_
              refine j_iconst F d_Mo_tidy_123 ?_
              refine j_iadd F d_Mo_tidy_124 ?_
              refine j_aload_n F 1 d_Mo_tidy_125 rfl ?_
              refine m_geti F K 33 (by decide) rfl tj_121 rfl d_Mo_tidy_126 ?_
              obtain ⟨hc1, hw⟩ := hw
              refine j_irem F hc1 d_Mo_tidy_129 ?_
              refine j_nmi (fun v4_2 e_v4_2 => ?_)
              have hw := hw v4_2 e_v4_2
              refine j_istore F [(4, vi v4_2), (3, vi v3_1), (0, .ref h), (1, vi v1), (2, vi v2)] d_Mo_tidy_130 (by decide) rfl ?_
              refine j_aload_n F 2 d_Mo_tidy_132 rfl ?_
              refine m_geta F K 34 (by decide) (by decide) tj_120 rfl d_Mo_tidy_133 ?_
              refine j_iload_n F 1 d_Mo_tidy_136 rfl ?_
              obtain ⟨hc1, hw⟩ := hw
              refine m_iald F K 34 23 rfl rfl hc1 d_Mo_tidy_137 ?_
              refine j_aload_n F 2 d_Mo_tidy_138 rfl ?_
              refine m_geta F K 35 (by decide) (by decide) tj_122 rfl d_Mo_tidy_139 ?_
              refine j_iload_n F 1 d_Mo_tidy_142 rfl ?_
              obtain ⟨hc1, hw⟩ := hw
              refine m_iald F K 35 24 rfl rfl hc1 d_Mo_tidy_143 ?_
              refine j_aload_n F 2 d_Mo_tidy_144 rfl ?_
              refine m_geta F K 34 (by decide) (by decide) tj_120 rfl d_Mo_tidy_145 ?_
              refine j_iload_n F 4 d_Mo_tidy_148 rfl ?_
              obtain ⟨hc1, hw⟩ := hw
              refine m_iald F K 34 23 rfl rfl hc1 d_Mo_tidy_149 ?_
              refine j_aload_n F 2 d_Mo_tidy_150 rfl ?_
              refine m_geta F K 35 (by decide) (by decide) tj_122 rfl d_Mo_tidy_151 ?_
              refine j_iload_n F 4 d_Mo_tidy_154 rfl ?_
              obtain ⟨hc1, hw⟩ := hw
              refine m_iald F K 35 24 rfl rfl hc1 d_Mo_tidy_155 ?_
              refine j_aload_n F 2 d_Mo_tidy_156 rfl ?_
              refine m_geta F K 34 (by decide) (by decide) tj_120 rfl d_Mo_tidy_157 ?_
              refine j_iload F 0 d_Mo_tidy_160 rfl ?_
              obtain ⟨hc1, hw⟩ := hw
              refine m_iald F K 34 23 rfl rfl hc1 d_Mo_tidy_162 ?_
              refine j_aload_n F 2 d_Mo_tidy_163 rfl ?_
              refine m_geta F K 35 (by decide) (by decide) tj_122 rfl d_Mo_tidy_164 ?_
              refine j_iload F 0 d_Mo_tidy_167 rfl ?_
              obtain ⟨hc1, hw⟩ := hw
              refine m_iald F K 35 24 rfl rfl hc1 d_Mo_tidy_169 ?_
              refine j_callS F (c_Mo_turn l hw) (tw_gS tj_85 tj_86 tj_87 tj_88) q_Mo_turn rfl ⟨by decide, by decide⟩ ⟨Nat.zero_le _, Nat.zero_le _⟩ rfl (Nat.le_of_ble_eq_true rfl) d_Mo_tidy_170 (fun r_3 hw => ?_)
              obtain ⟨hc1, hwt, hwf⟩ := hw
              refine j_if_ne F 183 hc1 d_Mo_tidy_173 rfl (fun hh => ?_) (fun hh => ?_)
              · have hw := hwt hh
                refine j_sub [2, 3, 4] rfl ?_
                exact B183 _ _ _ hw
              · have hw := hwf hh
                refine j_aload_n F 2 d_Mo_tidy_176 rfl ?_
                refine j_iload_n F 4 d_Mo_tidy_177 rfl ?_
                refine m_callv F K (c_Mo_dropMade l hw) (tw_gV tj_127 tj_128 tj_129 tj_87 tj_130) q_Mo_dropMade rfl ⟨by decide, by decide⟩ ⟨Nat.zero_le _, Nat.zero_le _⟩ rfl (Nat.le_of_ble_eq_true rfl) d_Mo_tidy_178 (fun S_4 hw => ?_)
                refine j_iconst F d_Mo_tidy_181 ?_
                refine j_istore_n F [(1, vi 1), (4, vi v4_2), (3, vi v3_1), (0, .ref h), (2, vi v2)] d_Mo_tidy_182 (by decide) rfl ?_
                refine j_sub [3, 0, 4] rfl ?_
                exact B183 _ _ _ hw
      intro v1 S hw
      unfold wp_Mo_tidy_88 at hw
      refine j_iload_n F 1 d_Mo_tidy_88 rfl ?_
      obtain ⟨hc1, hwt, hwf⟩ := hw
      refine j_if_eq F 192 hc1 d_Mo_tidy_89 rfl (fun hh => ?_) (fun hh => ?_)
      · have hw := hwt hh
        exact hret _ _ _ hw d_Mo_tidy_192
      · have hw := hwf hh
        refine j_iconst F d_Mo_tidy_92 ?_
        refine j_istore_n F [(1, vi 0), (0, .ref h)] d_Mo_tidy_93 (by decide) rfl ?_
        refine j_iconst F d_Mo_tidy_94 ?_
        refine j_istore_n F [(2, vi 0), (1, vi 0), (0, .ref h)] d_Mo_tidy_95 (by decide) rfl ?_
        refine j_sub [2, 1, 0] rfl ?_
        obtain ⟨n0, hw⟩ := hw
        exact B96 n0 _ _ _ hw
  have B86 : ∀ (S : MS), wp_Mo_tidy_86 post S → jat l D X 5 86 [(0, .ref h)] [] (mw h ad kc S) 0 0 := by
    intro S hw
    unfold wp_Mo_tidy_86 at hw
    refine j_iconst F d_Mo_tidy_86 ?_
    refine j_istore_n F [(1, vi 1), (0, .ref h)] d_Mo_tidy_87 (by decide) rfl ?_
    refine j_sub [1, 0] rfl ?_
    obtain ⟨n0, hw⟩ := hw
    exact B88 n0 _ _ hw
  have B18 : ∀ (n0 : Nat) (v1 : Int) (v2 : Int) (S : MS), wp_Mo_tidy_18 post n0 v1 v2 S → jat l D X 5 18 [(0, .ref h), (1, vi v1), (2, vi v2)] [] (mw h ad kc S) 0 0 := by
    intro n0
    induction n0 with
    | zero => intro v1 v2 S hw; exact hw.elim
    | succ n18 ih18 =>
      intro v1 v2 S hw
      unfold wp_Mo_tidy_18 at hw
      refine j_iload_n F 1 d_Mo_tidy_18 rfl ?_
      refine j_iload_n F 2 d_Mo_tidy_19 rfl ?_
      obtain ⟨hc1, hc2, hwt, hwf⟩ := hw
      refine j_icmp_ge F 86 hc1 hc2 d_Mo_tidy_20 rfl (fun hh => ?_) (fun hh => ?_)
      · have hw := hwt hh
        refine j_sub [0] rfl ?_
        exact B86 _ hw
      · have hw := hwf hh
        refine j_aload_n F 0 d_Mo_tidy_23 rfl ?_
        refine m_geta F K 34 (by decide) (by decide) tj_120 rfl d_Mo_tidy_24 ?_
        refine j_iload_n F 1 d_Mo_tidy_27 rfl ?_
        obtain ⟨hc1, hw⟩ := hw
        refine m_iald F K 34 23 rfl rfl hc1 d_Mo_tidy_28 ?_
        refine j_nmi (fun v3_1 e_v3_1 => ?_)
        have hw := hw v3_1 e_v3_1
        refine j_istore_n F [(3, vi v3_1), (0, .ref h), (1, vi v1), (2, vi v2)] d_Mo_tidy_29 (by decide) rfl ?_
        refine j_aload_n F 1 d_Mo_tidy_30 rfl ?_
        refine m_geta F K 35 (by decide) (by decide) tj_122 rfl d_Mo_tidy_31 ?_
        refine j_iload_n F 2 d_Mo_tidy_34 rfl ?_
        obtain ⟨hc1, hw⟩ := hw
        refine m_iald F K 35 24 rfl rfl hc1 d_Mo_tidy_35 ?_
        refine j_nmi (fun v4_2 e_v4_2 => ?_)
        have hw := hw v4_2 e_v4_2
        refine j_istore F [(4, vi v4_2), (3, vi v3_1), (0, .ref h), (1, vi v1), (2, vi v2)] d_Mo_tidy_36 (by decide) rfl ?_
        refine j_aload_n F 2 d_Mo_tidy_38 rfl ?_
        refine m_geta F K 34 (by decide) (by decide) tj_120 rfl d_Mo_tidy_39 ?_
        refine j_iload_n F 3 d_Mo_tidy_42 rfl ?_
        refine j_aload_n F 2 d_Mo_tidy_43 rfl ?_
        refine m_geta F K 34 (by decide) (by decide) tj_120 rfl d_Mo_tidy_44 ?_
        refine j_iload_n F 4 d_Mo_tidy_47 rfl ?_
        obtain ⟨hc1, hw⟩ := hw
        refine m_iald F K 34 23 rfl rfl hc1 d_Mo_tidy_48 ?_
        obtain ⟨hc1, hw⟩ := hw
        refine m_iast F K 34 23 rfl rfl hc1 d_Mo_tidy_49 (fun S_3 e_S_3 => ?_)
        have hw := hw S_3 e_S_3
        refine j_aload_n F 2 d_Mo_tidy_50 rfl ?_
        refine m_geta F K 35 (by decide) (by decide) tj_122 rfl d_Mo_tidy_51 ?_
        refine j_iload_n F 3 d_Mo_tidy_54 rfl ?_
        refine j_aload_n F 2 d_Mo_tidy_55 rfl ?_
        refine m_geta F K 35 (by decide) (by decide) tj_122 rfl d_Mo_tidy_56 ?_
        refine j_iload_n F 4 d_Mo_tidy_59 rfl ?_
        obtain ⟨hc1, hw⟩ := hw
        refine m_iald F K 35 24 rfl rfl hc1 d_Mo_tidy_60 ?_
        obtain ⟨hc1, hw⟩ := hw
        refine m_iast F K 35 24 rfl rfl hc1 d_Mo_tidy_61 (fun S_4 e_S_4 => ?_)
        have hw := hw S_4 e_S_4
        refine j_aload_n F 2 d_Mo_tidy_62 rfl ?_
        refine m_geta F K 34 (by decide) (by decide) tj_120 rfl d_Mo_tidy_63 ?_
        refine j_iload_n F 4 d_Mo_tidy_66 rfl ?_
        refine j_iload_n F 1 d_Mo_tidy_67 rfl ?_
        obtain ⟨hc1, hw⟩ := hw
        refine m_iast F K 34 23 rfl rfl hc1 d_Mo_tidy_68 (fun S_5 e_S_5 => ?_)
        have hw := hw S_5 e_S_5
        refine j_aload_n F 2 d_Mo_tidy_69 rfl ?_
        refine m_geta F K 35 (by decide) (by decide) tj_122 rfl d_Mo_tidy_70 ?_
        refine j_iload_n F 4 d_Mo_tidy_73 rfl ?_
        refine j_iload F 0 d_Mo_tidy_74 rfl ?_
        obtain ⟨hc1, hw⟩ := hw
        refine m_iast F K 35 24 rfl rfl hc1 d_Mo_tidy_76 (fun S_6 e_S_6 => ?_)
        have hw := hw S_6 e_S_6
        refine j_iinc F 3 [(1, vi (v1 + 1)), (4, vi v4_2), (3, vi v3_1), (0, .ref h), (2, vi v2)] d_Mo_tidy_77 rfl (by decide) rfl ?_
        refine j_iinc F 4 [(2, vi (v2 + (-1))), (1, vi (v1 + 1)), (4, vi v4_2), (3, vi v3_1), (0, .ref h)] d_Mo_tidy_80 rfl (by decide) rfl ?_
        refine j_goto F 18 d_Mo_tidy_83 rfl ?_
        refine j_sub [4, 1, 0] rfl ?_
        exact ih18 _ _ _ hw
  unfold wp_Mo_tidy at hw
  show jat l D X 5 0 [(0, .ref h)] [] (mw h ad kc S) 0 0
  refine j_aload_n F 0 d_Mo_tidy_0 rfl ?_
  refine m_calll F K (c_Mo_madeArea l hw) (tw_gV tj_123 tj_124 tj_125 tj_87 tj_126) q_Mo_madeArea rfl ⟨by decide, by decide⟩ ⟨Nat.zero_le _, Nat.zero_le _⟩ rfl (Nat.le_of_ble_eq_true rfl) d_Mo_tidy_1 (fun r_2 S_1 hw => ?_)
  refine j_lconst (x := 0) F d_Mo_tidy_4 (by decide) ?_
  obtain ⟨hc1, hwt, hwf⟩ := hw
  refine j_lcmp_ge F 86 hc1 ⟨by decide, by decide⟩ d_Mo_tidy_5 d_Mo_tidy_6 rfl (fun hh => ?_) (fun hh => ?_)
  · have hw := hwt hh
    exact B86 _ hw
  · have hw := hwf hh
    refine j_iconst F d_Mo_tidy_9 ?_
    refine j_istore_n F [(1, vi 0), (0, .ref h)] d_Mo_tidy_10 (by decide) rfl ?_
    refine j_aload_n F 1 d_Mo_tidy_11 rfl ?_
    refine m_geti F K 33 (by decide) rfl tj_121 rfl d_Mo_tidy_12 ?_
    refine j_iconst F d_Mo_tidy_15 ?_
    refine j_isub F d_Mo_tidy_16 ?_
    refine j_nmi (fun v2_3 e_v2_3 => ?_)
    have hw := hw v2_3 e_v2_3
    refine j_istore_n F [(2, vi v2_3), (1, vi 0), (0, .ref h)] d_Mo_tidy_17 (by decide) rfl ?_
    refine j_sub [2, 1, 0] rfl ?_
    obtain ⟨n0, hw⟩ := hw
    exact B18 n0 _ _ _ hw
theorem tj_131 : (Jvm.Cond.fieldLink "LandBookModel" (22 : Nat) "LandBookModel" "ringSize" "[I") ∈ tw_G := tw_in (List.mem_of_getElem? (i := 1056) (by decide +kernel)) rfl
theorem tj_132 : (Jvm.Cond.fieldLink "LandBookModel" (16 : Nat) "LandBookModel" "ringX" "[I") ∈ tw_G := tw_in (List.mem_of_getElem? (i := 1054) (by decide +kernel)) rfl
theorem tj_133 : (Jvm.Cond.fieldLink "LandBookModel" (19 : Nat) "LandBookModel" "ringY" "[I") ∈ tw_G := tw_in (List.mem_of_getElem? (i := 1055) (by decide +kernel)) rfl
abbrev y_Mo_give : MethodName := ⟨"LandBookModel", "give", "(I)V"⟩
theorem q_Mo_give : y_Mo_give.cls = "LandBookModel" ∧ y_Mo_give.cls ≠ "java/lang/invoke/MethodHandle" ∧ y_Mo_give.cls ≠ "java/lang/invoke/VarHandle" ∧ (parseMethodDescriptor y_Mo_give.desc).map (fun d => d.parameters.length) = some 1 := by decide +kernel
theorem d_Mo_give_0 : decode prog_13_method_19_code 0 = .ok (.iconst 0, 1) := by decide +kernel
theorem d_Mo_give_1 : decode prog_13_method_19_code 1 = .ok (.istore_n 2, 1) := by decide +kernel
theorem d_Mo_give_2 : decode prog_13_method_19_code 2 = .ok (.iconst 1, 1) := by decide +kernel
theorem d_Mo_give_3 : decode prog_13_method_19_code 3 = .ok (.istore_n 3, 1) := by decide +kernel
theorem d_Mo_give_4 : decode prog_13_method_19_code 4 = .ok (.iload_n 3, 1) := by decide +kernel
theorem d_Mo_give_5 : decode prog_13_method_19_code 5 = .ok (.aload_n 0, 1) := by decide +kernel
theorem d_Mo_give_6 : decode prog_13_method_19_code 6 = .ok (.getfield 132, 3) := by decide +kernel
theorem d_Mo_give_9 : decode prog_13_method_19_code 9 = .ok (.if_icmp .ge 72, 3) := by decide +kernel
theorem d_Mo_give_81 : decode prog_13_method_19_code 81 = .ok (.aload_n 0, 1) := by decide +kernel
theorem d_Mo_give_82 : decode prog_13_method_19_code 82 = .ok (.getfield 22, 3) := by decide +kernel
theorem d_Mo_give_85 : decode prog_13_method_19_code 85 = .ok (.iload_n 1, 1) := by decide +kernel
theorem d_Mo_give_86 : decode prog_13_method_19_code 86 = .ok (.aload_n 0, 1) := by decide +kernel
theorem d_Mo_give_87 : decode prog_13_method_19_code 87 = .ok (.getfield 132, 3) := by decide +kernel
theorem d_Mo_give_90 : decode prog_13_method_19_code 90 = .ok (.iastore, 1) := by decide +kernel
theorem d_Mo_give_91 : decode prog_13_method_19_code 91 = .ok (.iconst 0, 1) := by decide +kernel
theorem d_Mo_give_92 : decode prog_13_method_19_code 92 = .ok (.istore_n 3, 1) := by decide +kernel
theorem d_Mo_give_12 : decode prog_13_method_19_code 12 = .ok (.aload_n 0, 1) := by decide +kernel
theorem d_Mo_give_13 : decode prog_13_method_19_code 13 = .ok (.getfield 80, 3) := by decide +kernel
theorem d_Mo_give_16 : decode prog_13_method_19_code 16 = .ok (.iload_n 3, 1) := by decide +kernel
theorem d_Mo_give_17 : decode prog_13_method_19_code 17 = .ok (.iaload, 1) := by decide +kernel
theorem d_Mo_give_18 : decode prog_13_method_19_code 18 = .ok (.aload_n 0, 1) := by decide +kernel
theorem d_Mo_give_19 : decode prog_13_method_19_code 19 = .ok (.getfield 80, 3) := by decide +kernel
theorem d_Mo_give_22 : decode prog_13_method_19_code 22 = .ok (.iload_n 2, 1) := by decide +kernel
theorem d_Mo_give_23 : decode prog_13_method_19_code 23 = .ok (.iaload, 1) := by decide +kernel
theorem d_Mo_give_24 : decode prog_13_method_19_code 24 = .ok (.if_icmp .lt 33, 3) := by decide +kernel
theorem d_Mo_give_57 : decode prog_13_method_19_code 57 = .ok (.iconst 1, 1) := by decide +kernel
theorem d_Mo_give_58 : decode prog_13_method_19_code 58 = .ok (.goto 4, 3) := by decide +kernel
theorem d_Mo_give_27 : decode prog_13_method_19_code 27 = .ok (.aload_n 0, 1) := by decide +kernel
theorem d_Mo_give_28 : decode prog_13_method_19_code 28 = .ok (.getfield 80, 3) := by decide +kernel
theorem d_Mo_give_31 : decode prog_13_method_19_code 31 = .ok (.iload_n 3, 1) := by decide +kernel
theorem d_Mo_give_32 : decode prog_13_method_19_code 32 = .ok (.iaload, 1) := by decide +kernel
theorem d_Mo_give_33 : decode prog_13_method_19_code 33 = .ok (.aload_n 0, 1) := by decide +kernel
theorem d_Mo_give_34 : decode prog_13_method_19_code 34 = .ok (.getfield 80, 3) := by decide +kernel
theorem d_Mo_give_37 : decode prog_13_method_19_code 37 = .ok (.iload_n 2, 1) := by decide +kernel
theorem d_Mo_give_38 : decode prog_13_method_19_code 38 = .ok (.iaload, 1) := by decide +kernel
theorem d_Mo_give_39 : decode prog_13_method_19_code 39 = .ok (.if_icmp .ne 22, 3) := by decide +kernel
theorem d_Mo_give_61 : decode prog_13_method_19_code 61 = .ok (.iconst 0, 1) := by decide +kernel
theorem d_Mo_give_42 : decode prog_13_method_19_code 42 = .ok (.aload_n 0, 1) := by decide +kernel
theorem d_Mo_give_43 : decode prog_13_method_19_code 43 = .ok (.getfield 83, 3) := by decide +kernel
theorem d_Mo_give_46 : decode prog_13_method_19_code 46 = .ok (.iload_n 3, 1) := by decide +kernel
theorem d_Mo_give_47 : decode prog_13_method_19_code 47 = .ok (.iaload, 1) := by decide +kernel
theorem d_Mo_give_48 : decode prog_13_method_19_code 48 = .ok (.aload_n 0, 1) := by decide +kernel
theorem d_Mo_give_49 : decode prog_13_method_19_code 49 = .ok (.getfield 83, 3) := by decide +kernel
theorem d_Mo_give_52 : decode prog_13_method_19_code 52 = .ok (.iload_n 2, 1) := by decide +kernel
theorem d_Mo_give_53 : decode prog_13_method_19_code 53 = .ok (.iaload, 1) := by decide +kernel
theorem d_Mo_give_54 : decode prog_13_method_19_code 54 = .ok (.if_icmp .ge 7, 3) := by decide +kernel
theorem d_Mo_give_93 : decode prog_13_method_19_code 93 = .ok (.iload_n 3, 1) := by decide +kernel
theorem d_Mo_give_94 : decode prog_13_method_19_code 94 = .ok (.aload_n 0, 1) := by decide +kernel
theorem d_Mo_give_95 : decode prog_13_method_19_code 95 = .ok (.getfield 132, 3) := by decide +kernel
theorem d_Mo_give_98 : decode prog_13_method_19_code 98 = .ok (.if_icmp .ge 57, 3) := by decide +kernel
theorem d_Mo_give_155 : decode prog_13_method_19_code 155 = .ok (.return_, 1) := by decide +kernel
theorem d_Mo_give_101 : decode prog_13_method_19_code 101 = .ok (.aload_n 0, 1) := by decide +kernel
theorem d_Mo_give_102 : decode prog_13_method_19_code 102 = .ok (.getfield 16, 3) := by decide +kernel
theorem d_Mo_give_105 : decode prog_13_method_19_code 105 = .ok (.bipush 60, 2) := by decide +kernel
theorem d_Mo_give_107 : decode prog_13_method_19_code 107 = .ok (.iload_n 1, 1) := by decide +kernel
theorem d_Mo_give_108 : decode prog_13_method_19_code 108 = .ok (.imul, 1) := by decide +kernel
theorem d_Mo_give_109 : decode prog_13_method_19_code 109 = .ok (.iload_n 3, 1) := by decide +kernel
theorem d_Mo_give_110 : decode prog_13_method_19_code 110 = .ok (.iadd, 1) := by decide +kernel
theorem d_Mo_give_111 : decode prog_13_method_19_code 111 = .ok (.aload_n 0, 1) := by decide +kernel
theorem d_Mo_give_112 : decode prog_13_method_19_code 112 = .ok (.getfield 80, 3) := by decide +kernel
theorem d_Mo_give_115 : decode prog_13_method_19_code 115 = .ok (.iload_n 2, 1) := by decide +kernel
theorem d_Mo_give_116 : decode prog_13_method_19_code 116 = .ok (.iload_n 3, 1) := by decide +kernel
theorem d_Mo_give_117 : decode prog_13_method_19_code 117 = .ok (.iadd, 1) := by decide +kernel
theorem d_Mo_give_118 : decode prog_13_method_19_code 118 = .ok (.aload_n 0, 1) := by decide +kernel
theorem d_Mo_give_119 : decode prog_13_method_19_code 119 = .ok (.getfield 132, 3) := by decide +kernel
theorem d_Mo_give_122 : decode prog_13_method_19_code 122 = .ok (.irem, 1) := by decide +kernel
theorem d_Mo_give_123 : decode prog_13_method_19_code 123 = .ok (.iaload, 1) := by decide +kernel
theorem d_Mo_give_124 : decode prog_13_method_19_code 124 = .ok (.iastore, 1) := by decide +kernel
theorem d_Mo_give_125 : decode prog_13_method_19_code 125 = .ok (.aload_n 0, 1) := by decide +kernel
theorem d_Mo_give_126 : decode prog_13_method_19_code 126 = .ok (.getfield 19, 3) := by decide +kernel
theorem d_Mo_give_129 : decode prog_13_method_19_code 129 = .ok (.bipush 60, 2) := by decide +kernel
theorem d_Mo_give_131 : decode prog_13_method_19_code 131 = .ok (.iload_n 1, 1) := by decide +kernel
theorem d_Mo_give_132 : decode prog_13_method_19_code 132 = .ok (.imul, 1) := by decide +kernel
theorem d_Mo_give_133 : decode prog_13_method_19_code 133 = .ok (.iload_n 3, 1) := by decide +kernel
theorem d_Mo_give_134 : decode prog_13_method_19_code 134 = .ok (.iadd, 1) := by decide +kernel
theorem d_Mo_give_135 : decode prog_13_method_19_code 135 = .ok (.aload_n 0, 1) := by decide +kernel
theorem d_Mo_give_136 : decode prog_13_method_19_code 136 = .ok (.getfield 83, 3) := by decide +kernel
theorem d_Mo_give_139 : decode prog_13_method_19_code 139 = .ok (.iload_n 2, 1) := by decide +kernel
theorem d_Mo_give_140 : decode prog_13_method_19_code 140 = .ok (.iload_n 3, 1) := by decide +kernel
theorem d_Mo_give_141 : decode prog_13_method_19_code 141 = .ok (.iadd, 1) := by decide +kernel
theorem d_Mo_give_142 : decode prog_13_method_19_code 142 = .ok (.aload_n 0, 1) := by decide +kernel
theorem d_Mo_give_143 : decode prog_13_method_19_code 143 = .ok (.getfield 132, 3) := by decide +kernel
theorem d_Mo_give_146 : decode prog_13_method_19_code 146 = .ok (.irem, 1) := by decide +kernel
theorem d_Mo_give_147 : decode prog_13_method_19_code 147 = .ok (.iaload, 1) := by decide +kernel
theorem d_Mo_give_148 : decode prog_13_method_19_code 148 = .ok (.iastore, 1) := by decide +kernel
theorem d_Mo_give_149 : decode prog_13_method_19_code 149 = .ok (.iinc 3 1, 3) := by decide +kernel
theorem d_Mo_give_152 : decode prog_13_method_19_code 152 = .ok (.goto (-59), 3) := by decide +kernel
theorem d_Mo_give_62 : decode prog_13_method_19_code 62 = .ok (.istore 4, 2) := by decide +kernel
theorem d_Mo_give_64 : decode prog_13_method_19_code 64 = .ok (.iload 4, 2) := by decide +kernel
theorem d_Mo_give_66 : decode prog_13_method_19_code 66 = .ok (.ifCond .eq 7, 3) := by decide +kernel
theorem d_Mo_give_73 : decode prog_13_method_19_code 73 = .ok (.iload_n 2, 1) := by decide +kernel
theorem d_Mo_give_69 : decode prog_13_method_19_code 69 = .ok (.iload_n 3, 1) := by decide +kernel
theorem d_Mo_give_70 : decode prog_13_method_19_code 70 = .ok (.goto 4, 3) := by decide +kernel
theorem d_Mo_give_74 : decode prog_13_method_19_code 74 = .ok (.istore_n 2, 1) := by decide +kernel
theorem d_Mo_give_75 : decode prog_13_method_19_code 75 = .ok (.iinc 3 1, 3) := by decide +kernel
theorem d_Mo_give_78 : decode prog_13_method_19_code 78 = .ok (.goto (-74), 3) := by decide +kernel
def wp_Mo_give_93 (post : MS → Prop) : Nat → Int → Int → Int → MS → Prop
  | 0, _, _, _, _ => False
  | n + 1, v1, v2, v3, S => inR v3 ∧ inR (S.1 33) ∧ ((S.1 33) ≤ v3 → post S) ∧ (¬ ((S.1 33) ≤ v3) → (dvR (v2 + v3) (S.1 33) ∧ (ixR ((v2 + v3) % (S.1 33)) 400 ∧ (ixR ((60 * v1) + v3) 18120 ∧ (∀ S_1 : MS, S_1 = ms_a S 8 ((60 * v1) + v3) (S.2 34 ((v2 + v3) % (S.1 33)).toNat) → dvR (v2 + v3) (S_1.1 33) ∧ (ixR ((v2 + v3) % (S_1.1 33)) 400 ∧ (ixR ((60 * v1) + v3) 18120 ∧ (∀ S_2 : MS, S_2 = ms_a S_1 9 ((60 * v1) + v3) (S_1.2 35 ((v2 + v3) % (S_1.1 33)).toNat) → (wp_Mo_give_93 post n) v1 v2 (v3 + 1) S_2))))))))
def wp_Mo_give_74 (post : MS → Prop) (k4 : Int → Int → Int → MS → Prop) (v1 : Int) (v3 : Int) (s0 : Int) (S : MS) : Prop := k4 v1 s0 (v3 + 1) S
def wp_Mo_give_62 (post : MS → Prop) (k4 : Int → Int → Int → MS → Prop) (v1 : Int) (v2 : Int) (v3 : Int) (s0 : Int) (S : MS) : Prop := inR s0 ∧ (s0 = 0 → wp_Mo_give_74 post k4 v1 v3 v2 S) ∧ (¬ (s0 = 0) → wp_Mo_give_74 post k4 v1 v3 v3 S)
def wp_Mo_give_4 (post : MS → Prop) : Nat → Int → Int → Int → MS → Prop
  | 0, _, _, _, _ => False
  | n + 1, v1, v2, v3, S => inR v3 ∧ inR (S.1 33) ∧ ((S.1 33) ≤ v3 → (ixR v1 302 ∧ (∀ S_1 : MS, S_1 = ms_a S 10 v1 (S.1 33) → ∃ n0 : Nat, wp_Mo_give_93 post n0 v1 v2 0 S_1))) ∧ (¬ ((S.1 33) ≤ v3) → (ixR v3 400 ∧ (ixR v2 400 ∧ (inR (S.2 34 v3.toNat) ∧ inR (S.2 34 v2.toNat) ∧ ((S.2 34 v3.toNat) < (S.2 34 v2.toNat) → wp_Mo_give_62 post (wp_Mo_give_4 post n) v1 v2 v3 1 S) ∧ (¬ ((S.2 34 v3.toNat) < (S.2 34 v2.toNat)) → (ixR v3 400 ∧ (ixR v2 400 ∧ (inR (S.2 34 v3.toNat) ∧ inR (S.2 34 v2.toNat) ∧ (¬ ((S.2 34 v3.toNat) = (S.2 34 v2.toNat)) → wp_Mo_give_62 post (wp_Mo_give_4 post n) v1 v2 v3 0 S) ∧ ((S.2 34 v3.toNat) = (S.2 34 v2.toNat) → (ixR v3 400 ∧ (ixR v2 400 ∧ (inR (S.2 35 v3.toNat) ∧ inR (S.2 35 v2.toNat) ∧ ((S.2 35 v2.toNat) ≤ (S.2 35 v3.toNat) → wp_Mo_give_62 post (wp_Mo_give_4 post n) v1 v2 v3 0 S) ∧ (¬ ((S.2 35 v2.toNat) ≤ (S.2 35 v3.toNat)) → wp_Mo_give_62 post (wp_Mo_give_4 post n) v1 v2 v3 1 S)))))))))))))
def wp_Mo_give (post : MS → Prop) (v1 : Int) (S : MS) : Prop := ∃ n0 : Nat, wp_Mo_give_4 post n0 v1 0 1 S
set_option maxHeartbeats 4000000 in
set_option maxRecDepth 100000 in
theorem c_Mo_give (l : Launch) {D : va_G} {h : Nat} {ad : Nat → Nat} {kc : Nat → ClassId} {post : MS → Prop} {v1 : Int} {S : MS} (hw : wp_Mo_give post v1 S) : jMv l D h ad kc y_Mo_give prog_13_method_19_code 5 none 0 0 S [vi v1] post := by
  refine j_mov (own := "LandBookModel") (by decide) rfl (Nat.le_of_ble_eq_true rfl) (fun X F K hret => ?_)
  have B93 : ∀ (n0 : Nat) (v1 : Int) (v2 : Int) (v3 : Int) (S : MS), wp_Mo_give_93 post n0 v1 v2 v3 S → jat l D X 5 93 [(0, .ref h), (1, vi v1), (2, vi v2), (3, vi v3)] [] (mw h ad kc S) 0 0 := by
    intro n0
    induction n0 with
    | zero => intro v1 v2 v3 S hw; exact hw.elim
    | succ n93 ih93 =>
      intro v1 v2 v3 S hw
      unfold wp_Mo_give_93 at hw
      refine j_iload_n F 3 d_Mo_give_93 rfl ?_
      refine j_aload_n F 0 d_Mo_give_94 rfl ?_
      refine m_geti F K 33 (by decide) rfl tj_121 rfl d_Mo_give_95 ?_
      obtain ⟨hc1, hc2, hwt, hwf⟩ := hw
      refine j_icmp_ge F 155 hc1 hc2 d_Mo_give_98 rfl (fun hh => ?_) (fun hh => ?_)
      · have hw := hwt hh
        exact hret _ _ _ hw d_Mo_give_155
      · have hw := hwf hh
        refine j_aload_n F 0 d_Mo_give_101 rfl ?_
        refine m_geta F K 8 (by decide) (by decide) tj_132 rfl d_Mo_give_102 ?_
        refine j_bipush F d_Mo_give_105 (j_bip (by decide) (by decide)) ?_
        refine j_iload_n F 1 d_Mo_give_107 rfl ?_
        refine j_imul F d_Mo_give_108 ?_
        refine j_iload_n F 3 d_Mo_give_109 rfl ?_
        refine j_iadd F d_Mo_give_110 ?_
        refine j_aload_n F 0 d_Mo_give_111 rfl ?_
        refine m_geta F K 34 (by decide) (by decide) tj_120 rfl d_Mo_give_112 ?_
        refine j_iload_n F 2 d_Mo_give_115 rfl ?_
        refine j_iload_n F 3 d_Mo_give_116 rfl ?_
        refine j_iadd F d_Mo_give_117 ?_
        refine j_aload_n F 0 d_Mo_give_118 rfl ?_
        refine m_geti F K 33 (by decide) rfl tj_121 rfl d_Mo_give_119 ?_
        obtain ⟨hc1, hw⟩ := hw
        refine j_irem F hc1 d_Mo_give_122 ?_
        obtain ⟨hc1, hw⟩ := hw
        refine m_iald F K 34 23 rfl rfl hc1 d_Mo_give_123 ?_
        obtain ⟨hc1, hw⟩ := hw
        refine m_iast F K 8 2 rfl rfl hc1 d_Mo_give_124 (fun S_1 e_S_1 => ?_)
        have hw := hw S_1 e_S_1
        refine j_aload_n F 0 d_Mo_give_125 rfl ?_
        refine m_geta F K 9 (by decide) (by decide) tj_133 rfl d_Mo_give_126 ?_
        refine j_bipush F d_Mo_give_129 (j_bip (by decide) (by decide)) ?_
        refine j_iload_n F 1 d_Mo_give_131 rfl ?_
        refine j_imul F d_Mo_give_132 ?_
        refine j_iload_n F 3 d_Mo_give_133 rfl ?_
        refine j_iadd F d_Mo_give_134 ?_
        refine j_aload_n F 0 d_Mo_give_135 rfl ?_
        refine m_geta F K 35 (by decide) (by decide) tj_122 rfl d_Mo_give_136 ?_
        refine j_iload_n F 2 d_Mo_give_139 rfl ?_
        refine j_iload_n F 3 d_Mo_give_140 rfl ?_
        refine j_iadd F d_Mo_give_141 ?_
        refine j_aload_n F 0 d_Mo_give_142 rfl ?_
        refine m_geti F K 33 (by decide) rfl tj_121 rfl d_Mo_give_143 ?_
        obtain ⟨hc1, hw⟩ := hw
        refine j_irem F hc1 d_Mo_give_146 ?_
        obtain ⟨hc1, hw⟩ := hw
        refine m_iald F K 35 24 rfl rfl hc1 d_Mo_give_147 ?_
        obtain ⟨hc1, hw⟩ := hw
        refine m_iast F K 9 3 rfl rfl hc1 d_Mo_give_148 (fun S_2 e_S_2 => ?_)
        have hw := hw S_2 e_S_2
        refine j_iinc F 3 [(3, vi (v3 + 1)), (0, .ref h), (1, vi v1), (2, vi v2)] d_Mo_give_149 rfl (by decide) rfl ?_
        refine j_goto F 93 d_Mo_give_152 rfl ?_
        refine j_sub [1, 2, 3, 0] rfl ?_
        exact ih93 _ _ _ _ hw
  have B4 : ∀ (n0 : Nat) (v1 : Int) (v2 : Int) (v3 : Int) (S : MS), wp_Mo_give_4 post n0 v1 v2 v3 S → jat l D X 5 4 [(0, .ref h), (1, vi v1), (2, vi v2), (3, vi v3)] [] (mw h ad kc S) 0 0 := by
    intro n0
    induction n0 with
    | zero => intro v1 v2 v3 S hw; exact hw.elim
    | succ n4 ih4 =>
      have B74 : ∀ (v1 : Int) (v3 : Int) (s0 : Int) (S : MS), wp_Mo_give_74 post (wp_Mo_give_4 post n4) v1 v3 s0 S → jat l D X 5 74 [(0, .ref h), (1, vi v1), (3, vi v3)] [vi s0] (mw h ad kc S) 0 0 := by
        intro v1 v3 s0 S hw
        unfold wp_Mo_give_74 at hw
        refine j_istore_n F [(2, vi s0), (0, .ref h), (1, vi v1), (3, vi v3)] d_Mo_give_74 (by decide) rfl ?_
        refine j_iinc F 3 [(3, vi (v3 + 1)), (2, vi s0), (0, .ref h), (1, vi v1)] d_Mo_give_75 rfl (by decide) rfl ?_
        refine j_goto F 4 d_Mo_give_78 rfl ?_
        refine j_sub [2, 3, 1, 0] rfl ?_
        exact ih4 _ _ _ _ hw
      have B62 : ∀ (v1 : Int) (v2 : Int) (v3 : Int) (s0 : Int) (S : MS), wp_Mo_give_62 post (wp_Mo_give_4 post n4) v1 v2 v3 s0 S → jat l D X 5 62 [(0, .ref h), (1, vi v1), (2, vi v2), (3, vi v3)] [vi s0] (mw h ad kc S) 0 0 := by
        intro v1 v2 v3 s0 S hw
        unfold wp_Mo_give_62 at hw
        refine j_istore F [(4, vi s0), (0, .ref h), (1, vi v1), (2, vi v2), (3, vi v3)] d_Mo_give_62 (by decide) rfl ?_
        refine j_iload F 0 d_Mo_give_64 rfl ?_
        obtain ⟨hc1, hwt, hwf⟩ := hw
        refine j_if_eq F 73 hc1 d_Mo_give_66 rfl (fun hh => ?_) (fun hh => ?_)
        · have hw := hwt hh
          refine j_iload_n F 3 d_Mo_give_73 rfl ?_
          refine j_sub [1, 2, 4] rfl ?_
          exact B74 _ _ _ _ hw
        · have hw := hwf hh
          refine j_iload_n F 4 d_Mo_give_69 rfl ?_
          refine j_goto F 74 d_Mo_give_70 rfl ?_
          refine j_sub [1, 2, 4] rfl ?_
          exact B74 _ _ _ _ hw
      intro v1 v2 v3 S hw
      unfold wp_Mo_give_4 at hw
      refine j_iload_n F 3 d_Mo_give_4 rfl ?_
      refine j_aload_n F 0 d_Mo_give_5 rfl ?_
      refine m_geti F K 33 (by decide) rfl tj_121 rfl d_Mo_give_6 ?_
      obtain ⟨hc1, hc2, hwt, hwf⟩ := hw
      refine j_icmp_ge F 81 hc1 hc2 d_Mo_give_9 rfl (fun hh => ?_) (fun hh => ?_)
      · have hw := hwt hh
        refine j_aload_n F 0 d_Mo_give_81 rfl ?_
        refine m_geta F K 10 (by decide) (by decide) tj_131 rfl d_Mo_give_82 ?_
        refine j_iload_n F 1 d_Mo_give_85 rfl ?_
        refine j_aload_n F 0 d_Mo_give_86 rfl ?_
        refine m_geti F K 33 (by decide) rfl tj_121 rfl d_Mo_give_87 ?_
        obtain ⟨hc1, hw⟩ := hw
        refine m_iast F K 10 4 rfl rfl hc1 d_Mo_give_90 (fun S_1 e_S_1 => ?_)
        have hw := hw S_1 e_S_1
        refine j_iconst F d_Mo_give_91 ?_
        refine j_istore_n F [(3, vi 0), (0, .ref h), (1, vi v1), (2, vi v2)] d_Mo_give_92 (by decide) rfl ?_
        refine j_sub [1, 2, 3, 0] rfl ?_
        obtain ⟨n0, hw⟩ := hw
        exact B93 n0 _ _ _ _ hw
      · have hw := hwf hh
        refine j_aload_n F 0 d_Mo_give_12 rfl ?_
        refine m_geta F K 34 (by decide) (by decide) tj_120 rfl d_Mo_give_13 ?_
        refine j_iload_n F 3 d_Mo_give_16 rfl ?_
        obtain ⟨hc1, hw⟩ := hw
        refine m_iald F K 34 23 rfl rfl hc1 d_Mo_give_17 ?_
        refine j_aload_n F 0 d_Mo_give_18 rfl ?_
        refine m_geta F K 34 (by decide) (by decide) tj_120 rfl d_Mo_give_19 ?_
        refine j_iload_n F 2 d_Mo_give_22 rfl ?_
        obtain ⟨hc1, hw⟩ := hw
        refine m_iald F K 34 23 rfl rfl hc1 d_Mo_give_23 ?_
        obtain ⟨hc1, hc2, hwt, hwf⟩ := hw
        refine j_icmp_lt F 57 hc1 hc2 d_Mo_give_24 rfl (fun hh => ?_) (fun hh => ?_)
        · have hw := hwt hh
          refine j_iconst F d_Mo_give_57 ?_
          refine j_goto F 62 d_Mo_give_58 rfl ?_
          exact B62 _ _ _ _ _ hw
        · have hw := hwf hh
          refine j_aload_n F 0 d_Mo_give_27 rfl ?_
          refine m_geta F K 34 (by decide) (by decide) tj_120 rfl d_Mo_give_28 ?_
          refine j_iload_n F 3 d_Mo_give_31 rfl ?_
          obtain ⟨hc1, hw⟩ := hw
          refine m_iald F K 34 23 rfl rfl hc1 d_Mo_give_32 ?_
          refine j_aload_n F 0 d_Mo_give_33 rfl ?_
          refine m_geta F K 34 (by decide) (by decide) tj_120 rfl d_Mo_give_34 ?_
          refine j_iload_n F 2 d_Mo_give_37 rfl ?_
          obtain ⟨hc1, hw⟩ := hw
          refine m_iald F K 34 23 rfl rfl hc1 d_Mo_give_38 ?_
          obtain ⟨hc1, hc2, hwt, hwf⟩ := hw
          refine j_icmp_ne F 61 hc1 hc2 d_Mo_give_39 rfl (fun hh => ?_) (fun hh => ?_)
          · have hw := hwt hh
            refine j_iconst F d_Mo_give_61 ?_
            exact B62 _ _ _ _ _ hw
          · have hw := hwf hh
            refine j_aload_n F 0 d_Mo_give_42 rfl ?_
            refine m_geta F K 35 (by decide) (by decide) tj_122 rfl d_Mo_give_43 ?_
            refine j_iload_n F 3 d_Mo_give_46 rfl ?_
            obtain ⟨hc1, hw⟩ := hw
            refine m_iald F K 35 24 rfl rfl hc1 d_Mo_give_47 ?_
            refine j_aload_n F 0 d_Mo_give_48 rfl ?_
            refine m_geta F K 35 (by decide) (by decide) tj_122 rfl d_Mo_give_49 ?_
            refine j_iload_n F 2 d_Mo_give_52 rfl ?_
            obtain ⟨hc1, hw⟩ := hw
            refine m_iald F K 35 24 rfl rfl hc1 d_Mo_give_53 ?_
            obtain ⟨hc1, hc2, hwt, hwf⟩ := hw
            refine j_icmp_ge F 61 hc1 hc2 d_Mo_give_54 rfl (fun hh => ?_) (fun hh => ?_)
            · have hw := hwt hh
              refine j_iconst F d_Mo_give_61 ?_
              exact B62 _ _ _ _ _ hw
            · have hw := hwf hh
              refine j_iconst F d_Mo_give_57 ?_
              refine j_goto F 62 d_Mo_give_58 rfl ?_
              exact B62 _ _ _ _ _ hw
  unfold wp_Mo_give at hw
  show jat l D X 5 0 [(0, .ref h), (1, vi v1)] [] (mw h ad kc S) 0 0
  refine j_iconst F d_Mo_give_0 ?_
  refine j_istore_n F [(2, vi 0), (0, .ref h), (1, vi v1)] d_Mo_give_1 (by decide) rfl ?_
  refine j_iconst F d_Mo_give_2 ?_
  refine j_istore_n F [(3, vi 1), (2, vi 0), (0, .ref h), (1, vi v1)] d_Mo_give_3 (by decide) rfl ?_
  refine j_sub [2, 3, 1, 0] rfl ?_
  obtain ⟨n0, hw⟩ := hw
  exact B4 n0 _ _ _ _ hw
abbrev y_Mo_cornerX : MethodName := ⟨"LandBookModel", "cornerX", "(II)I"⟩
theorem q_Mo_cornerX : y_Mo_cornerX.cls = "LandBookModel" ∧ y_Mo_cornerX.cls ≠ "java/lang/invoke/MethodHandle" ∧ y_Mo_cornerX.cls ≠ "java/lang/invoke/VarHandle" ∧ (parseMethodDescriptor y_Mo_cornerX.desc).map (fun d => d.parameters.length) = some 2 := by decide +kernel
theorem d_Mo_cornerX_0 : decode prog_13_method_20_code 0 = .ok (.aload_n 0, 1) := by decide +kernel
theorem d_Mo_cornerX_1 : decode prog_13_method_20_code 1 = .ok (.getfield 16, 3) := by decide +kernel
theorem d_Mo_cornerX_4 : decode prog_13_method_20_code 4 = .ok (.bipush 60, 2) := by decide +kernel
theorem d_Mo_cornerX_6 : decode prog_13_method_20_code 6 = .ok (.iload_n 1, 1) := by decide +kernel
theorem d_Mo_cornerX_7 : decode prog_13_method_20_code 7 = .ok (.imul, 1) := by decide +kernel
theorem d_Mo_cornerX_8 : decode prog_13_method_20_code 8 = .ok (.iload_n 2, 1) := by decide +kernel
theorem d_Mo_cornerX_9 : decode prog_13_method_20_code 9 = .ok (.aload_n 0, 1) := by decide +kernel
theorem d_Mo_cornerX_10 : decode prog_13_method_20_code 10 = .ok (.getfield 22, 3) := by decide +kernel
theorem d_Mo_cornerX_13 : decode prog_13_method_20_code 13 = .ok (.iload_n 1, 1) := by decide +kernel
theorem d_Mo_cornerX_14 : decode prog_13_method_20_code 14 = .ok (.iaload, 1) := by decide +kernel
theorem d_Mo_cornerX_15 : decode prog_13_method_20_code 15 = .ok (.irem, 1) := by decide +kernel
theorem d_Mo_cornerX_16 : decode prog_13_method_20_code 16 = .ok (.iadd, 1) := by decide +kernel
theorem d_Mo_cornerX_17 : decode prog_13_method_20_code 17 = .ok (.iaload, 1) := by decide +kernel
theorem d_Mo_cornerX_18 : decode prog_13_method_20_code 18 = .ok (.ireturn, 1) := by decide +kernel
def wp_Mo_cornerX (post : Int → MS → Prop) (v1 : Int) (v2 : Int) (S : MS) : Prop := ixR v1 302 ∧ (dvR v2 (S.2 10 v1.toNat) ∧ (ixR ((60 * v1) + (v2 % (S.2 10 v1.toNat))) 18120 ∧ (post (S.2 8 ((60 * v1) + (v2 % (S.2 10 v1.toNat))).toNat) S)))
set_option maxHeartbeats 4000000 in
set_option maxRecDepth 100000 in
theorem c_Mo_cornerX (l : Launch) {D : va_G} {h : Nat} {ad : Nat → Nat} {kc : Nat → ClassId} {post : Int → MS → Prop} {v1 : Int} {v2 : Int} {S : MS} (hw : wp_Mo_cornerX post v1 v2 S) : jMi l D h ad kc y_Mo_cornerX prog_13_method_20_code 3 (some .int) 0 0 S [vi v1, vi v2] post := by
  refine j_moi (own := "LandBookModel") (by decide) rfl (Nat.le_of_ble_eq_true rfl) (fun X F K hret => ?_)
  unfold wp_Mo_cornerX at hw
  show jat l D X 3 0 [(0, .ref h), (1, vi v1), (2, vi v2)] [] (mw h ad kc S) 0 0
  refine j_aload_n F 0 d_Mo_cornerX_0 rfl ?_
  refine m_geta F K 8 (by decide) (by decide) tj_132 rfl d_Mo_cornerX_1 ?_
  refine j_bipush F d_Mo_cornerX_4 (j_bip (by decide) (by decide)) ?_
  refine j_iload_n F 1 d_Mo_cornerX_6 rfl ?_
  refine j_imul F d_Mo_cornerX_7 ?_
  refine j_iload_n F 2 d_Mo_cornerX_8 rfl ?_
  refine j_aload_n F 0 d_Mo_cornerX_9 rfl ?_
  refine m_geta F K 10 (by decide) (by decide) tj_131 rfl d_Mo_cornerX_10 ?_
  refine j_iload_n F 1 d_Mo_cornerX_13 rfl ?_
  obtain ⟨hc1, hw⟩ := hw
  refine m_iald F K 10 4 rfl rfl hc1 d_Mo_cornerX_14 ?_
  obtain ⟨hc1, hw⟩ := hw
  refine j_irem F hc1 d_Mo_cornerX_15 ?_
  refine j_iadd F d_Mo_cornerX_16 ?_
  obtain ⟨hc1, hw⟩ := hw
  refine m_iald F K 8 2 rfl rfl hc1 d_Mo_cornerX_17 ?_
  exact hret _ _ _ _ hw d_Mo_cornerX_18
