theorem tq_160 : (Jvm.Cond.methodLink "LandBook$Cutter" (66 : Nat) ({ cls := "LandBook$Plane", name := "xOf", desc := "(I)I" } : Jvm.MethodName)) ∈ tw_G := tw_in (List.mem_of_getElem? (i := 638) (by decide +kernel)) rfl
theorem tq_161 : (Jvm.Cond.methodLink "LandBook$Cutter" (71 : Nat) ({ cls := "LandBook$Plane", name := "yOf", desc := "(I)I" } : Jvm.MethodName)) ∈ tw_G := tw_in (List.mem_of_getElem? (i := 639) (by decide +kernel)) rfl
theorem tq_162 : (Jvm.Cond.methodLink "LandBook$Cutter" (74 : Nat) ({ cls := "LandBook$Rings", name := "where", desc := "(LLandBook$Points;II)I" } : Jvm.MethodName)) ∈ tw_G := tw_in (List.mem_of_getElem? (i := 640) (by decide +kernel)) rfl
theorem tq_163 : (Jvm.Cond.static ({ cls := "LandBook$Rings", name := "where", desc := "(LLandBook$Points;II)I" } : Jvm.MethodName)) ∈ tw_G := tw_in (List.mem_of_getElem? (i := 641) (by decide +kernel)) rfl
theorem tq_164 : (Jvm.Cond.code ({ cls := "LandBook$Rings", name := "where", desc := "(LLandBook$Points;II)I" } : Jvm.MethodName) prog_11_method_5_code (12 : Nat) (Option.some Jvm.ClassFile.FieldType.int)) ∈ tw_G := tw_in (List.mem_of_getElem? (i := 642) (by decide +kernel)) rfl
abbrev y_BCu_whereIsMiddle : MethodName := ⟨"LandBook$Cutter", "whereIsMiddle", "(LLandBook$Points;II)I"⟩
theorem q_BCu_whereIsMiddle : y_BCu_whereIsMiddle.cls ≠ "java/lang/invoke/MethodHandle" ∧ y_BCu_whereIsMiddle.cls ≠ "java/lang/invoke/VarHandle" ∧ (parseMethodDescriptor y_BCu_whereIsMiddle.desc).map (fun d => d.parameters.length) = some 3 := by decide +kernel
theorem d_BCu_whereIsMiddle_0 : decode prog_2_method_4_code 0 = .ok (.aload_n 0, 1) := by decide +kernel
theorem d_BCu_whereIsMiddle_1 : decode prog_2_method_4_code 1 = .ok (.iload_n 1, 1) := by decide +kernel
theorem d_BCu_whereIsMiddle_2 : decode prog_2_method_4_code 2 = .ok (.invokestatic 66, 3) := by decide +kernel
theorem d_BCu_whereIsMiddle_5 : decode prog_2_method_4_code 5 = .ok (.iload_n 2, 1) := by decide +kernel
theorem d_BCu_whereIsMiddle_6 : decode prog_2_method_4_code 6 = .ok (.invokestatic 66, 3) := by decide +kernel
theorem d_BCu_whereIsMiddle_9 : decode prog_2_method_4_code 9 = .ok (.iadd, 1) := by decide +kernel
theorem d_BCu_whereIsMiddle_10 : decode prog_2_method_4_code 10 = .ok (.iload_n 1, 1) := by decide +kernel
theorem d_BCu_whereIsMiddle_11 : decode prog_2_method_4_code 11 = .ok (.invokestatic 71, 3) := by decide +kernel
theorem d_BCu_whereIsMiddle_14 : decode prog_2_method_4_code 14 = .ok (.iload_n 2, 1) := by decide +kernel
theorem d_BCu_whereIsMiddle_15 : decode prog_2_method_4_code 15 = .ok (.invokestatic 71, 3) := by decide +kernel
theorem d_BCu_whereIsMiddle_18 : decode prog_2_method_4_code 18 = .ok (.iadd, 1) := by decide +kernel
theorem d_BCu_whereIsMiddle_19 : decode prog_2_method_4_code 19 = .ok (.invokestatic 74, 3) := by decide +kernel
theorem d_BCu_whereIsMiddle_22 : decode prog_2_method_4_code 22 = .ok (.ireturn, 1) := by decide +kernel
def wp_BCu_whereIsMiddle (post : Int → CS → Prop) (v0 : Nat) (v1 : Int) (v2 : Int) (T : CS) : Prop := wp_BPl_xOf (fun r_1 => wp_BPl_xOf (fun r_2 => wp_BPl_yOf (fun r_3 => wp_BPl_yOf (fun r_4 => wp_BRi_where (fun r_6 T_5 => post r_6 T_5) v0 (r_1 + r_2) (r_3 + r_4) T) v2) v1) v2) v1
set_option maxHeartbeats 4000000 in
set_option maxRecDepth 100000 in
theorem c_BCu_whereIsMiddle (l : Launch) {D : va_G} {k : CK} {post : Int → CS → Prop} {v0 : Nat} {v1 : Int} {v2 : Int} {T : CS} (hw : wp_BCu_whereIsMiddle post v0 v1 v2 T) : jCi l D k y_BCu_whereIsMiddle prog_2_method_4_code 3 (some .int) 3 74 0 0 T [.ref v0, vi v1, vi v2] post := by
  refine j_coi (own := "LandBook$Cutter") (by decide) rfl (Nat.le_of_ble_eq_true rfl) (fun X F K hT hret => ?_)
  unfold wp_BCu_whereIsMiddle at hw
  show jat l D X 3 0 [(0, .ref v0), (1, vi v1), (2, vi v2)] [] (cwd k T) 0 0
  refine j_aload_n F 0 d_BCu_whereIsMiddle_0 rfl ?_
  refine j_iload_n F 1 d_BCu_whereIsMiddle_1 rfl ?_
  refine j_callS F (c_BPl_xOf l hw) (tw_gS tq_160 tq_87 tq_88 tq_89) q_BPl_xOf rfl ⟨by decide, by decide⟩ ⟨by omega, by omega⟩ rfl (Nat.le_of_ble_eq_true rfl) d_BCu_whereIsMiddle_2 (fun r_1 hw => ?_)
  refine j_iload_n F 2 d_BCu_whereIsMiddle_5 rfl ?_
  refine j_callS F (c_BPl_xOf l hw) (tw_gS tq_160 tq_87 tq_88 tq_89) q_BPl_xOf rfl ⟨by decide, by decide⟩ ⟨by omega, by omega⟩ rfl (Nat.le_of_ble_eq_true rfl) d_BCu_whereIsMiddle_6 (fun r_2 hw => ?_)
  refine j_iadd F d_BCu_whereIsMiddle_9 ?_
  refine j_iload_n F 1 d_BCu_whereIsMiddle_10 rfl ?_
  refine j_callS F (c_BPl_yOf l hw) (tw_gS tq_161 tq_91 tq_88 tq_92) q_BPl_yOf rfl ⟨by decide, by decide⟩ ⟨by omega, by omega⟩ rfl (Nat.le_of_ble_eq_true rfl) d_BCu_whereIsMiddle_11 (fun r_3 hw => ?_)
  refine j_iload_n F 2 d_BCu_whereIsMiddle_14 rfl ?_
  refine j_callS F (c_BPl_yOf l hw) (tw_gS tq_161 tq_91 tq_88 tq_92) q_BPl_yOf rfl ⟨by decide, by decide⟩ ⟨by omega, by omega⟩ rfl (Nat.le_of_ble_eq_true rfl) d_BCu_whereIsMiddle_15 (fun r_4 hw => ?_)
  refine j_iadd F d_BCu_whereIsMiddle_18 ?_
  refine c_callSi F K hT (c_BRi_where l hw) (tw_gS tq_162 tq_163 tq_146 tq_164) q_BRi_where rfl ⟨by decide, by decide⟩ ⟨by omega, by omega⟩ rfl (Nat.le_of_ble_eq_true rfl) d_BCu_whereIsMiddle_19 (fun r_6 T_5 hw hT => ?_)
  exact hret _ _ _ _ _ _ hw hT (by omega) (by omega) d_BCu_whereIsMiddle_22
theorem tq_165 : (Jvm.Cond.fieldLink "LandBook$Cutter" (30 : Nat) "LandBook$Points" "size" "I") ∈ tw_G := tw_in (List.mem_of_getElem? (i := 107) (by decide +kernel)) rfl
theorem tq_166 : (Jvm.Cond.methodLink "LandBook$Cutter" (34 : Nat) ({ cls := "LandBook$Points", name := "at", desc := "(I)I" } : Jvm.MethodName)) ∈ tw_G := tw_in (List.mem_of_getElem? (i := 628) (by decide +kernel)) rfl
theorem tq_167 : (Jvm.Cond.methodLink "LandBook$Cutter" (77 : Nat) ({ cls := "LandBook$Plane", name := "meeting", desc := "(IIII)I" } : Jvm.MethodName)) ∈ tw_G := tw_in (List.mem_of_getElem? (i := 652) (by decide +kernel)) rfl
theorem tq_168 : (Jvm.Cond.methodLink "LandBook$Cutter" (81 : Nat) ({ cls := "LandBook$Plane", name := "lies", desc := "(III)Z" } : Jvm.MethodName)) ∈ tw_G := tw_in (List.mem_of_getElem? (i := 653) (by decide +kernel)) rfl
abbrev y_BCu_meetsOnlyAtEnds : MethodName := ⟨"LandBook$Cutter", "meetsOnlyAtEnds", "(LLandBook$Points;LLandBook$Points;)Z"⟩
theorem q_BCu_meetsOnlyAtEnds : y_BCu_meetsOnlyAtEnds.cls ≠ "java/lang/invoke/MethodHandle" ∧ y_BCu_meetsOnlyAtEnds.cls ≠ "java/lang/invoke/VarHandle" ∧ (parseMethodDescriptor y_BCu_meetsOnlyAtEnds.desc).map (fun d => d.parameters.length) = some 2 := by decide +kernel
theorem d_BCu_meetsOnlyAtEnds_0 : decode prog_2_method_5_code 0 = .ok (.aload_n 1, 1) := by decide +kernel
theorem d_BCu_meetsOnlyAtEnds_1 : decode prog_2_method_5_code 1 = .ok (.getfield 30, 3) := by decide +kernel
theorem d_BCu_meetsOnlyAtEnds_4 : decode prog_2_method_5_code 4 = .ok (.iconst 1, 1) := by decide +kernel
theorem d_BCu_meetsOnlyAtEnds_5 : decode prog_2_method_5_code 5 = .ok (.isub, 1) := by decide +kernel
theorem d_BCu_meetsOnlyAtEnds_6 : decode prog_2_method_5_code 6 = .ok (.istore_n 2, 1) := by decide +kernel
theorem d_BCu_meetsOnlyAtEnds_7 : decode prog_2_method_5_code 7 = .ok (.iconst 0, 1) := by decide +kernel
theorem d_BCu_meetsOnlyAtEnds_8 : decode prog_2_method_5_code 8 = .ok (.istore_n 3, 1) := by decide +kernel
theorem d_BCu_meetsOnlyAtEnds_9 : decode prog_2_method_5_code 9 = .ok (.iload_n 3, 1) := by decide +kernel
theorem d_BCu_meetsOnlyAtEnds_10 : decode prog_2_method_5_code 10 = .ok (.iload_n 2, 1) := by decide +kernel
theorem d_BCu_meetsOnlyAtEnds_11 : decode prog_2_method_5_code 11 = .ok (.if_icmp .ge 133, 3) := by decide +kernel
theorem d_BCu_meetsOnlyAtEnds_144 : decode prog_2_method_5_code 144 = .ok (.iconst 1, 1) := by decide +kernel
theorem d_BCu_meetsOnlyAtEnds_145 : decode prog_2_method_5_code 145 = .ok (.ireturn, 1) := by decide +kernel
theorem d_BCu_meetsOnlyAtEnds_14 : decode prog_2_method_5_code 14 = .ok (.iconst 0, 1) := by decide +kernel
theorem d_BCu_meetsOnlyAtEnds_15 : decode prog_2_method_5_code 15 = .ok (.istore 4, 2) := by decide +kernel
theorem d_BCu_meetsOnlyAtEnds_17 : decode prog_2_method_5_code 17 = .ok (.iload 4, 2) := by decide +kernel
theorem d_BCu_meetsOnlyAtEnds_19 : decode prog_2_method_5_code 19 = .ok (.aload_n 0, 1) := by decide +kernel
theorem d_BCu_meetsOnlyAtEnds_20 : decode prog_2_method_5_code 20 = .ok (.getfield 30, 3) := by decide +kernel
theorem d_BCu_meetsOnlyAtEnds_23 : decode prog_2_method_5_code 23 = .ok (.if_icmp .ge 115, 3) := by decide +kernel
theorem d_BCu_meetsOnlyAtEnds_138 : decode prog_2_method_5_code 138 = .ok (.iinc 3 1, 3) := by decide +kernel
theorem d_BCu_meetsOnlyAtEnds_141 : decode prog_2_method_5_code 141 = .ok (.goto (-132), 3) := by decide +kernel
theorem d_BCu_meetsOnlyAtEnds_26 : decode prog_2_method_5_code 26 = .ok (.aload_n 0, 1) := by decide +kernel
theorem d_BCu_meetsOnlyAtEnds_27 : decode prog_2_method_5_code 27 = .ok (.iload 4, 2) := by decide +kernel
theorem d_BCu_meetsOnlyAtEnds_29 : decode prog_2_method_5_code 29 = .ok (.invokevirtual 34, 3) := by decide +kernel
theorem d_BCu_meetsOnlyAtEnds_32 : decode prog_2_method_5_code 32 = .ok (.istore 5, 2) := by decide +kernel
theorem d_BCu_meetsOnlyAtEnds_34 : decode prog_2_method_5_code 34 = .ok (.aload_n 0, 1) := by decide +kernel
theorem d_BCu_meetsOnlyAtEnds_35 : decode prog_2_method_5_code 35 = .ok (.iload 4, 2) := by decide +kernel
theorem d_BCu_meetsOnlyAtEnds_37 : decode prog_2_method_5_code 37 = .ok (.iconst 1, 1) := by decide +kernel
theorem d_BCu_meetsOnlyAtEnds_38 : decode prog_2_method_5_code 38 = .ok (.iadd, 1) := by decide +kernel
theorem d_BCu_meetsOnlyAtEnds_39 : decode prog_2_method_5_code 39 = .ok (.invokevirtual 34, 3) := by decide +kernel
theorem d_BCu_meetsOnlyAtEnds_42 : decode prog_2_method_5_code 42 = .ok (.istore 6, 2) := by decide +kernel
theorem d_BCu_meetsOnlyAtEnds_44 : decode prog_2_method_5_code 44 = .ok (.aload_n 1, 1) := by decide +kernel
theorem d_BCu_meetsOnlyAtEnds_45 : decode prog_2_method_5_code 45 = .ok (.iload_n 3, 1) := by decide +kernel
theorem d_BCu_meetsOnlyAtEnds_46 : decode prog_2_method_5_code 46 = .ok (.invokevirtual 34, 3) := by decide +kernel
theorem d_BCu_meetsOnlyAtEnds_49 : decode prog_2_method_5_code 49 = .ok (.aload_n 1, 1) := by decide +kernel
theorem d_BCu_meetsOnlyAtEnds_50 : decode prog_2_method_5_code 50 = .ok (.iload_n 3, 1) := by decide +kernel
theorem d_BCu_meetsOnlyAtEnds_51 : decode prog_2_method_5_code 51 = .ok (.iconst 1, 1) := by decide +kernel
theorem d_BCu_meetsOnlyAtEnds_52 : decode prog_2_method_5_code 52 = .ok (.iadd, 1) := by decide +kernel
theorem d_BCu_meetsOnlyAtEnds_53 : decode prog_2_method_5_code 53 = .ok (.invokevirtual 34, 3) := by decide +kernel
theorem d_BCu_meetsOnlyAtEnds_56 : decode prog_2_method_5_code 56 = .ok (.iload 5, 2) := by decide +kernel
theorem d_BCu_meetsOnlyAtEnds_58 : decode prog_2_method_5_code 58 = .ok (.iload 6, 2) := by decide +kernel
theorem d_BCu_meetsOnlyAtEnds_60 : decode prog_2_method_5_code 60 = .ok (.invokestatic 77, 3) := by decide +kernel
theorem d_BCu_meetsOnlyAtEnds_63 : decode prog_2_method_5_code 63 = .ok (.istore 7, 2) := by decide +kernel
theorem d_BCu_meetsOnlyAtEnds_65 : decode prog_2_method_5_code 65 = .ok (.iload_n 3, 1) := by decide +kernel
theorem d_BCu_meetsOnlyAtEnds_66 : decode prog_2_method_5_code 66 = .ok (.ifCond .ne 18, 3) := by decide +kernel
theorem d_BCu_meetsOnlyAtEnds_69 : decode prog_2_method_5_code 69 = .ok (.aload_n 1, 1) := by decide +kernel
theorem d_BCu_meetsOnlyAtEnds_70 : decode prog_2_method_5_code 70 = .ok (.iconst 0, 1) := by decide +kernel
theorem d_BCu_meetsOnlyAtEnds_71 : decode prog_2_method_5_code 71 = .ok (.invokevirtual 34, 3) := by decide +kernel
theorem d_BCu_meetsOnlyAtEnds_74 : decode prog_2_method_5_code 74 = .ok (.iload 5, 2) := by decide +kernel
theorem d_BCu_meetsOnlyAtEnds_76 : decode prog_2_method_5_code 76 = .ok (.iload 6, 2) := by decide +kernel
theorem d_BCu_meetsOnlyAtEnds_78 : decode prog_2_method_5_code 78 = .ok (.invokestatic 81, 3) := by decide +kernel
theorem d_BCu_meetsOnlyAtEnds_81 : decode prog_2_method_5_code 81 = .ok (.ifCond .ne 25, 3) := by decide +kernel
theorem d_BCu_meetsOnlyAtEnds_106 : decode prog_2_method_5_code 106 = .ok (.iconst 1, 1) := by decide +kernel
theorem d_BCu_meetsOnlyAtEnds_107 : decode prog_2_method_5_code 107 = .ok (.goto 4, 3) := by decide +kernel
theorem d_BCu_meetsOnlyAtEnds_84 : decode prog_2_method_5_code 84 = .ok (.iload_n 3, 1) := by decide +kernel
theorem d_BCu_meetsOnlyAtEnds_85 : decode prog_2_method_5_code 85 = .ok (.iload_n 2, 1) := by decide +kernel
theorem d_BCu_meetsOnlyAtEnds_86 : decode prog_2_method_5_code 86 = .ok (.iconst 1, 1) := by decide +kernel
theorem d_BCu_meetsOnlyAtEnds_87 : decode prog_2_method_5_code 87 = .ok (.isub, 1) := by decide +kernel
theorem d_BCu_meetsOnlyAtEnds_88 : decode prog_2_method_5_code 88 = .ok (.if_icmp .ne 22, 3) := by decide +kernel
theorem d_BCu_meetsOnlyAtEnds_110 : decode prog_2_method_5_code 110 = .ok (.iconst 0, 1) := by decide +kernel
theorem d_BCu_meetsOnlyAtEnds_91 : decode prog_2_method_5_code 91 = .ok (.aload_n 1, 1) := by decide +kernel
theorem d_BCu_meetsOnlyAtEnds_92 : decode prog_2_method_5_code 92 = .ok (.iload_n 2, 1) := by decide +kernel
theorem d_BCu_meetsOnlyAtEnds_93 : decode prog_2_method_5_code 93 = .ok (.invokevirtual 34, 3) := by decide +kernel
theorem d_BCu_meetsOnlyAtEnds_96 : decode prog_2_method_5_code 96 = .ok (.iload 5, 2) := by decide +kernel
theorem d_BCu_meetsOnlyAtEnds_98 : decode prog_2_method_5_code 98 = .ok (.iload 6, 2) := by decide +kernel
theorem d_BCu_meetsOnlyAtEnds_100 : decode prog_2_method_5_code 100 = .ok (.invokestatic 81, 3) := by decide +kernel
theorem d_BCu_meetsOnlyAtEnds_103 : decode prog_2_method_5_code 103 = .ok (.ifCond .eq 7, 3) := by decide +kernel
theorem d_BCu_meetsOnlyAtEnds_111 : decode prog_2_method_5_code 111 = .ok (.istore 8, 2) := by decide +kernel
theorem d_BCu_meetsOnlyAtEnds_113 : decode prog_2_method_5_code 113 = .ok (.iload 7, 2) := by decide +kernel
theorem d_BCu_meetsOnlyAtEnds_115 : decode prog_2_method_5_code 115 = .ok (.iconst 2, 1) := by decide +kernel
theorem d_BCu_meetsOnlyAtEnds_116 : decode prog_2_method_5_code 116 = .ok (.if_icmp .eq 14, 3) := by decide +kernel
theorem d_BCu_meetsOnlyAtEnds_130 : decode prog_2_method_5_code 130 = .ok (.iconst 0, 1) := by decide +kernel
theorem d_BCu_meetsOnlyAtEnds_131 : decode prog_2_method_5_code 131 = .ok (.ireturn, 1) := by decide +kernel
theorem d_BCu_meetsOnlyAtEnds_119 : decode prog_2_method_5_code 119 = .ok (.iload 7, 2) := by decide +kernel
theorem d_BCu_meetsOnlyAtEnds_121 : decode prog_2_method_5_code 121 = .ok (.iconst 1, 1) := by decide +kernel
theorem d_BCu_meetsOnlyAtEnds_122 : decode prog_2_method_5_code 122 = .ok (.if_icmp .ne 10, 3) := by decide +kernel
theorem d_BCu_meetsOnlyAtEnds_125 : decode prog_2_method_5_code 125 = .ok (.iload 8, 2) := by decide +kernel
theorem d_BCu_meetsOnlyAtEnds_127 : decode prog_2_method_5_code 127 = .ok (.ifCond .ne 5, 3) := by decide +kernel
theorem d_BCu_meetsOnlyAtEnds_132 : decode prog_2_method_5_code 132 = .ok (.iinc 4 1, 3) := by decide +kernel
theorem d_BCu_meetsOnlyAtEnds_135 : decode prog_2_method_5_code 135 = .ok (.goto (-118), 3) := by decide +kernel
def wp_BCu_meetsOnlyAtEnds_132 (post : Int → CS → Prop) (k9 : Nat → Nat → Int → Int → CS → Prop) (k17 : Nat → Nat → Int → Int → Int → CS → Prop) (v0 : Nat) (v1 : Nat) (v2 : Int) (v3 : Int) (v4 : Int) (T : CS) : Prop := k17 v0 v1 v2 v3 (v4 + 1) T
def wp_BCu_meetsOnlyAtEnds_111 (post : Int → CS → Prop) (k9 : Nat → Nat → Int → Int → CS → Prop) (k17 : Nat → Nat → Int → Int → Int → CS → Prop) (v0 : Nat) (v1 : Nat) (v2 : Int) (v3 : Int) (v4 : Int) (v7 : Int) (s0 : Int) (T : CS) : Prop := inR v7 ∧ (v7 = 2 → post 0 T) ∧ (¬ (v7 = 2) → (inR v7 ∧ (¬ (v7 = 1) → wp_BCu_meetsOnlyAtEnds_132 post k9 k17 v0 v1 v2 v3 v4 T) ∧ (v7 = 1 → (inR s0 ∧ (¬ (s0 = 0) → wp_BCu_meetsOnlyAtEnds_132 post k9 k17 v0 v1 v2 v3 v4 T) ∧ (s0 = 0 → post 0 T)))))
def wp_BCu_meetsOnlyAtEnds_84 (post : Int → CS → Prop) (k9 : Nat → Nat → Int → Int → CS → Prop) (k17 : Nat → Nat → Int → Int → Int → CS → Prop) (v0 : Nat) (v1 : Nat) (v2 : Int) (v3 : Int) (v4 : Int) (v5 : Int) (v6 : Int) (v7 : Int) (T : CS) : Prop := inR v3 ∧ inR (v2 - 1) ∧ (¬ (v3 = (v2 - 1)) → wp_BCu_meetsOnlyAtEnds_111 post k9 k17 v0 v1 v2 v3 v4 v7 0 T) ∧ (v3 = (v2 - 1) → (tg T v1 = 2 ∧ wp_BPt_at (fun r_2 T_1 => wp_BPl_lies (fun r_3 => inR r_3 ∧ (r_3 = 0 → wp_BCu_meetsOnlyAtEnds_111 post k9 k17 v0 v1 v2 v3 v4 v7 0 T_1) ∧ (¬ (r_3 = 0) → wp_BCu_meetsOnlyAtEnds_111 post k9 k17 v0 v1 v2 v3 v4 v7 1 T_1)) r_2 v5 v6) v1 v2 T))
def wp_BCu_meetsOnlyAtEnds_17 (post : Int → CS → Prop) (k9 : Nat → Nat → Int → Int → CS → Prop) : Nat → Nat → Nat → Int → Int → Int → CS → Prop
  | 0, _, _, _, _, _, _ => False
  | n + 1, v0, v1, v2, v3, v4, T => tg T v0 = 2 ∧ (inR v4 ∧ inR (fi T v0 1) ∧ ((fi T v0 1) ≤ v4 → (k9 v0 v1 v2 (v3 + 1) T)) ∧ (¬ ((fi T v0 1) ≤ v4) → (tg T v0 = 2 ∧ wp_BPt_at (fun r_2 T_1 => tg T_1 v0 = 2 ∧ wp_BPt_at (fun r_4 T_3 => tg T_3 v1 = 2 ∧ wp_BPt_at (fun r_6 T_5 => tg T_5 v1 = 2 ∧ wp_BPt_at (fun r_8 T_7 => wp_BPl_meeting (fun r_9 => inR v3 ∧ (¬ (v3 = 0) → wp_BCu_meetsOnlyAtEnds_84 post k9 (wp_BCu_meetsOnlyAtEnds_17 post k9 n) v0 v1 v2 v3 v4 r_2 r_4 r_9 T_7) ∧ (v3 = 0 → (tg T_7 v1 = 2 ∧ wp_BPt_at (fun r_11 T_10 => wp_BPl_lies (fun r_12 => inR r_12 ∧ (¬ (r_12 = 0) → wp_BCu_meetsOnlyAtEnds_111 post k9 (wp_BCu_meetsOnlyAtEnds_17 post k9 n) v0 v1 v2 v3 v4 r_9 1 T_10) ∧ (r_12 = 0 → wp_BCu_meetsOnlyAtEnds_84 post k9 (wp_BCu_meetsOnlyAtEnds_17 post k9 n) v0 v1 v2 v3 v4 r_2 r_4 r_9 T_10)) r_11 r_2 r_4) v1 0 T_7))) r_6 r_8 r_2 r_4) v1 (v3 + 1) T_5) v1 v3 T_3) v0 (v4 + 1) T_1) v0 v4 T)))
def wp_BCu_meetsOnlyAtEnds_9 (post : Int → CS → Prop) : Nat → Nat → Nat → Int → Int → CS → Prop
  | 0, _, _, _, _, _ => False
  | n + 1, v0, v1, v2, v3, T => inR v3 ∧ inR v2 ∧ (v2 ≤ v3 → post 1 T) ∧ (¬ (v2 ≤ v3) → (∃ nn : Nat, wp_BCu_meetsOnlyAtEnds_17 post (wp_BCu_meetsOnlyAtEnds_9 post n) nn v0 v1 v2 v3 0 T))
def wp_BCu_meetsOnlyAtEnds (post : Int → CS → Prop) (v0 : Nat) (v1 : Nat) (T : CS) : Prop := tg T v1 = 2 ∧ (∀ v2_1 : Int, v2_1 = ((fi T v1 1) - 1) → ∃ nn : Nat, wp_BCu_meetsOnlyAtEnds_9 post nn v0 v1 v2_1 0 T)
set_option maxHeartbeats 4000000 in
set_option maxRecDepth 100000 in
theorem c_BCu_meetsOnlyAtEnds (l : Launch) {D : va_G} {k : CK} {post : Int → CS → Prop} {v0 : Nat} {v1 : Nat} {T : CS} (hw : wp_BCu_meetsOnlyAtEnds post v0 v1 T) : jCi l D k y_BCu_meetsOnlyAtEnds prog_2_method_5_code 9 (some .boolean) 3 70 0 0 T [.ref v0, .ref v1] post := by
  refine j_coz (own := "LandBook$Cutter") (by decide) rfl (Nat.le_of_ble_eq_true rfl) (fun X F K hT hret => ?_)
  have B9 : ∀ (nn : Nat) (v0 : Nat) (v1 : Nat) (v2 : Int) (v3 : Int) (T : CS), cs_ok k T → wp_BCu_meetsOnlyAtEnds_9 post nn v0 v1 v2 v3 T → jat l D X 9 9 [(0, .ref v0), (1, .ref v1), (2, vi v2), (3, vi v3)] [] (cwd k T) 0 0 := by
    intro nn
    induction nn with
    | zero => intro v0 v1 v2 v3 T hT hw; exact hw.elim
    | succ n9 ih9 =>
      have B17 : ∀ (nn : Nat) (v0 : Nat) (v1 : Nat) (v2 : Int) (v3 : Int) (v4 : Int) (T : CS), cs_ok k T → wp_BCu_meetsOnlyAtEnds_17 post (wp_BCu_meetsOnlyAtEnds_9 post n9) nn v0 v1 v2 v3 v4 T → jat l D X 9 17 [(0, .ref v0), (1, .ref v1), (2, vi v2), (3, vi v3), (4, vi v4)] [] (cwd k T) 0 0 := by
        intro nn
        induction nn with
        | zero => intro v0 v1 v2 v3 v4 T hT hw; exact hw.elim
        | succ n17 ih17 =>
          have B132 : ∀ (v0 : Nat) (v1 : Nat) (v2 : Int) (v3 : Int) (v4 : Int) (T : CS), cs_ok k T → wp_BCu_meetsOnlyAtEnds_132 post (wp_BCu_meetsOnlyAtEnds_9 post n9) (wp_BCu_meetsOnlyAtEnds_17 post (wp_BCu_meetsOnlyAtEnds_9 post n9) n17) v0 v1 v2 v3 v4 T → jat l D X 9 132 [(0, .ref v0), (1, .ref v1), (2, vi v2), (3, vi v3), (4, vi v4)] [] (cwd k T) 0 0 := by
            intro v0 v1 v2 v3 v4 T hT hw
            unfold wp_BCu_meetsOnlyAtEnds_132 at hw
            refine j_iinc F 4 [(4, vi (v4 + 1)), (0, .ref v0), (1, .ref v1), (2, vi v2), (3, vi v3)] d_BCu_meetsOnlyAtEnds_132 rfl (by decide) rfl ?_
            refine j_goto F 17 d_BCu_meetsOnlyAtEnds_135 rfl ?_
            refine j_sub [1, 2, 3, 4, 0] rfl ?_
            exact ih17 _ _ _ _ _ _ hT hw
          have B111 : ∀ (v0 : Nat) (v1 : Nat) (v2 : Int) (v3 : Int) (v4 : Int) (v7 : Int) (s0 : Int) (T : CS), cs_ok k T → wp_BCu_meetsOnlyAtEnds_111 post (wp_BCu_meetsOnlyAtEnds_9 post n9) (wp_BCu_meetsOnlyAtEnds_17 post (wp_BCu_meetsOnlyAtEnds_9 post n9) n17) v0 v1 v2 v3 v4 v7 s0 T → jat l D X 9 111 [(0, .ref v0), (1, .ref v1), (2, vi v2), (3, vi v3), (4, vi v4), (7, vi v7)] [vi s0] (cwd k T) 0 0 := by
            intro v0 v1 v2 v3 v4 v7 s0 T hT hw
            unfold wp_BCu_meetsOnlyAtEnds_111 at hw
            refine j_istore F [(8, vi s0), (0, .ref v0), (1, .ref v1), (2, vi v2), (3, vi v3), (4, vi v4), (7, vi v7)] d_BCu_meetsOnlyAtEnds_111 (by decide) rfl ?_
            refine j_iload F 6 d_BCu_meetsOnlyAtEnds_113 rfl ?_
            refine j_iconst F d_BCu_meetsOnlyAtEnds_115 ?_
            obtain ⟨hc1, hwt, hwf⟩ := hw
            refine j_icmp_eq F 130 hc1 ⟨by decide, by decide⟩ d_BCu_meetsOnlyAtEnds_116 rfl (fun hh => ?_) (fun hh => ?_)
            · have hw := hwt hh
              refine j_iconst F d_BCu_meetsOnlyAtEnds_130 ?_
              exact hret _ _ _ _ _ _ hw hT (by omega) (by omega) (Or.inl rfl) d_BCu_meetsOnlyAtEnds_131
            · have hw := hwf hh
              refine j_iload F 6 d_BCu_meetsOnlyAtEnds_119 rfl ?_
              refine j_iconst F d_BCu_meetsOnlyAtEnds_121 ?_
              obtain ⟨hc1, hwt, hwf⟩ := hw
              refine j_icmp_ne F 132 hc1 ⟨by decide, by decide⟩ d_BCu_meetsOnlyAtEnds_122 rfl (fun hh => ?_) (fun hh => ?_)
              · have hw := hwt hh
                refine j_sub [1, 2, 3, 4, 5] rfl ?_
                exact B132 _ _ _ _ _ _ hT hw
              · have hw := hwf hh
                refine j_iload F 0 d_BCu_meetsOnlyAtEnds_125 rfl ?_
                obtain ⟨hc1, hwt, hwf⟩ := hw
                refine j_if_ne F 132 hc1 d_BCu_meetsOnlyAtEnds_127 rfl (fun hh => ?_) (fun hh => ?_)
                · have hw := hwt hh
                  refine j_sub [1, 2, 3, 4, 5] rfl ?_
                  exact B132 _ _ _ _ _ _ hT hw
                · have hw := hwf hh
                  refine j_iconst F d_BCu_meetsOnlyAtEnds_130 ?_
                  exact hret _ _ _ _ _ _ hw hT (by omega) (by omega) (Or.inl rfl) d_BCu_meetsOnlyAtEnds_131
          have B84 : ∀ (v0 : Nat) (v1 : Nat) (v2 : Int) (v3 : Int) (v4 : Int) (v5 : Int) (v6 : Int) (v7 : Int) (T : CS), cs_ok k T → wp_BCu_meetsOnlyAtEnds_84 post (wp_BCu_meetsOnlyAtEnds_9 post n9) (wp_BCu_meetsOnlyAtEnds_17 post (wp_BCu_meetsOnlyAtEnds_9 post n9) n17) v0 v1 v2 v3 v4 v5 v6 v7 T → jat l D X 9 84 [(0, .ref v0), (1, .ref v1), (2, vi v2), (3, vi v3), (4, vi v4), (5, vi v5), (6, vi v6), (7, vi v7)] [] (cwd k T) 0 0 := by
            intro v0 v1 v2 v3 v4 v5 v6 v7 T hT hw
            unfold wp_BCu_meetsOnlyAtEnds_84 at hw
            refine j_iload_n F 3 d_BCu_meetsOnlyAtEnds_84 rfl ?_
            refine j_iload_n F 2 d_BCu_meetsOnlyAtEnds_85 rfl ?_
            refine j_iconst F d_BCu_meetsOnlyAtEnds_86 ?_
            refine j_isub F d_BCu_meetsOnlyAtEnds_87 ?_
            obtain ⟨hc1, hc2, hwt, hwf⟩ := hw
            refine j_icmp_ne F 110 hc1 hc2 d_BCu_meetsOnlyAtEnds_88 rfl (fun hh => ?_) (fun hh => ?_)
            · have hw := hwt hh
              refine j_iconst F d_BCu_meetsOnlyAtEnds_110 ?_
              refine j_sub [0, 1, 2, 3, 4, 7] rfl ?_
              exact B111 _ _ _ _ _ _ _ _ hT hw
            · have hw := hwf hh
              refine j_aload_n F 1 d_BCu_meetsOnlyAtEnds_91 rfl ?_
              refine j_iload_n F 2 d_BCu_meetsOnlyAtEnds_92 rfl ?_
              obtain ⟨hg1, hw⟩ := hw
              refine c_callVi F K hT (c_BPt_at l hw) (tw_gV tq_166 tq_136 tq_137 tq_126 tq_138) 2 rfl (by decide) hg1 q_BPt_at rfl ⟨by decide, by decide⟩ ⟨by omega, by omega⟩ rfl (Nat.le_of_ble_eq_true rfl) d_BCu_meetsOnlyAtEnds_93 (fun r_2 T_1 hw hT => ?_)
              refine j_iload F 5 d_BCu_meetsOnlyAtEnds_96 rfl ?_
              refine j_iload F 6 d_BCu_meetsOnlyAtEnds_98 rfl ?_
              refine j_callS F (c_BPl_lies l hw) (tw_gS tq_168 tq_158 tq_88 tq_159) q_BPl_lies rfl ⟨by decide, by decide⟩ ⟨by omega, by omega⟩ rfl (Nat.le_of_ble_eq_true rfl) d_BCu_meetsOnlyAtEnds_100 (fun r_3 hw => ?_)
              obtain ⟨hc1, hwt, hwf⟩ := hw
              refine j_if_eq F 110 hc1 d_BCu_meetsOnlyAtEnds_103 rfl (fun hh => ?_) (fun hh => ?_)
              · have hw := hwt hh
                refine j_iconst F d_BCu_meetsOnlyAtEnds_110 ?_
                refine j_sub [0, 1, 2, 3, 4, 7] rfl ?_
                exact B111 _ _ _ _ _ _ _ _ hT hw
              · have hw := hwf hh
                refine j_iconst F d_BCu_meetsOnlyAtEnds_106 ?_
                refine j_goto F 111 d_BCu_meetsOnlyAtEnds_107 rfl ?_
                refine j_sub [0, 1, 2, 3, 4, 7] rfl ?_
                exact B111 _ _ _ _ _ _ _ _ hT hw
          intro v0 v1 v2 v3 v4 T hT hw
          unfold wp_BCu_meetsOnlyAtEnds_17 at hw
          refine j_iload F 4 d_BCu_meetsOnlyAtEnds_17 rfl ?_
          refine j_aload_n F 0 d_BCu_meetsOnlyAtEnds_19 rfl ?_
          obtain ⟨hc1, hw⟩ := hw
          refine c_geti F K hT 2 1 rfl tu_Points (by decide) (by decide) rfl tq_165 (Or.inl rfl) hc1 d_BCu_meetsOnlyAtEnds_20 ?_
          obtain ⟨hc1, hc2, hwt, hwf⟩ := hw
          refine j_icmp_ge F 138 hc1 hc2 d_BCu_meetsOnlyAtEnds_23 rfl (fun hh => ?_) (fun hh => ?_)
          · have hw := hwt hh
            refine j_iinc F 3 [(3, vi (v3 + 1)), (0, .ref v0), (1, .ref v1), (2, vi v2), (4, vi v4)] d_BCu_meetsOnlyAtEnds_138 rfl (by decide) rfl ?_
            refine j_goto F 9 d_BCu_meetsOnlyAtEnds_141 rfl ?_
            refine j_sub [1, 2, 3, 0] rfl ?_
            exact ih9 _ _ _ _ _ hT hw
          · have hw := hwf hh
            refine j_aload_n F 0 d_BCu_meetsOnlyAtEnds_26 rfl ?_
            refine j_iload F 4 d_BCu_meetsOnlyAtEnds_27 rfl ?_
            obtain ⟨hg1, hw⟩ := hw
            refine c_callVi F K hT (c_BPt_at l hw) (tw_gV tq_166 tq_136 tq_137 tq_126 tq_138) 2 rfl (by decide) hg1 q_BPt_at rfl ⟨by decide, by decide⟩ ⟨by omega, by omega⟩ rfl (Nat.le_of_ble_eq_true rfl) d_BCu_meetsOnlyAtEnds_29 (fun r_2 T_1 hw hT => ?_)
            refine j_istore F [(5, vi r_2), (0, .ref v0), (1, .ref v1), (2, vi v2), (3, vi v3), (4, vi v4)] d_BCu_meetsOnlyAtEnds_32 (by decide) rfl ?_
            refine j_aload_n F 1 d_BCu_meetsOnlyAtEnds_34 rfl ?_
            refine j_iload F 5 d_BCu_meetsOnlyAtEnds_35 rfl ?_
            refine j_iconst F d_BCu_meetsOnlyAtEnds_37 ?_
            refine j_iadd F d_BCu_meetsOnlyAtEnds_38 ?_
            obtain ⟨hg1, hw⟩ := hw
            refine c_callVi F K hT (c_BPt_at l hw) (tw_gV tq_166 tq_136 tq_137 tq_126 tq_138) 2 rfl (by decide) hg1 q_BPt_at rfl ⟨by decide, by decide⟩ ⟨by omega, by omega⟩ rfl (Nat.le_of_ble_eq_true rfl) d_BCu_meetsOnlyAtEnds_39 (fun r_4 T_3 hw hT => ?_)
            refine j_istore F [(6, vi r_4), (5, vi r_2), (0, .ref v0), (1, .ref v1), (2, vi v2), (3, vi v3), (4, vi v4)] d_BCu_meetsOnlyAtEnds_42 (by decide) rfl ?_
            refine j_aload_n F 3 d_BCu_meetsOnlyAtEnds_44 rfl ?_
            refine j_iload_n F 5 d_BCu_meetsOnlyAtEnds_45 rfl ?_
            obtain ⟨hg1, hw⟩ := hw
            refine c_callVi F K hT (c_BPt_at l hw) (tw_gV tq_166 tq_136 tq_137 tq_126 tq_138) 2 rfl (by decide) hg1 q_BPt_at rfl ⟨by decide, by decide⟩ ⟨by omega, by omega⟩ rfl (Nat.le_of_ble_eq_true rfl) d_BCu_meetsOnlyAtEnds_46 (fun r_6 T_5 hw hT => ?_)
            refine j_aload_n F 3 d_BCu_meetsOnlyAtEnds_49 rfl ?_
            refine j_iload_n F 5 d_BCu_meetsOnlyAtEnds_50 rfl ?_
            refine j_iconst F d_BCu_meetsOnlyAtEnds_51 ?_
            refine j_iadd F d_BCu_meetsOnlyAtEnds_52 ?_
            obtain ⟨hg1, hw⟩ := hw
            refine c_callVi F K hT (c_BPt_at l hw) (tw_gV tq_166 tq_136 tq_137 tq_126 tq_138) 2 rfl (by decide) hg1 q_BPt_at rfl ⟨by decide, by decide⟩ ⟨by omega, by omega⟩ rfl (Nat.le_of_ble_eq_true rfl) d_BCu_meetsOnlyAtEnds_53 (fun r_8 T_7 hw hT => ?_)
            refine j_iload F 1 d_BCu_meetsOnlyAtEnds_56 rfl ?_
            refine j_iload F 0 d_BCu_meetsOnlyAtEnds_58 rfl ?_
            refine j_callS F (c_BPl_meeting l hw) (tw_gS tq_167 tq_140 tq_88 tq_141) q_BPl_meeting rfl ⟨by decide, by decide⟩ ⟨by omega, by omega⟩ rfl (Nat.le_of_ble_eq_true rfl) d_BCu_meetsOnlyAtEnds_60 (fun r_9 hw => ?_)
            refine j_istore F [(7, vi r_9), (6, vi r_4), (5, vi r_2), (0, .ref v0), (1, .ref v1), (2, vi v2), (3, vi v3), (4, vi v4)] d_BCu_meetsOnlyAtEnds_63 (by decide) rfl ?_
            refine j_iload_n F 6 d_BCu_meetsOnlyAtEnds_65 rfl ?_
            obtain ⟨hc1, hwt, hwf⟩ := hw
            refine j_if_ne F 84 hc1 d_BCu_meetsOnlyAtEnds_66 rfl (fun hh => ?_) (fun hh => ?_)
            · have hw := hwt hh
              refine j_sub [3, 4, 5, 6, 7, 2, 1, 0] rfl ?_
              exact B84 _ _ _ _ _ _ _ _ _ hT hw
            · have hw := hwf hh
              refine j_aload_n F 4 d_BCu_meetsOnlyAtEnds_69 rfl ?_
              refine j_iconst F d_BCu_meetsOnlyAtEnds_70 ?_
              obtain ⟨hg1, hw⟩ := hw
              refine c_callVi F K hT (c_BPt_at l hw) (tw_gV tq_166 tq_136 tq_137 tq_126 tq_138) 2 rfl (by decide) hg1 q_BPt_at rfl ⟨by decide, by decide⟩ ⟨by omega, by omega⟩ rfl (Nat.le_of_ble_eq_true rfl) d_BCu_meetsOnlyAtEnds_71 (fun r_11 T_10 hw hT => ?_)
              refine j_iload F 2 d_BCu_meetsOnlyAtEnds_74 rfl ?_
              refine j_iload F 1 d_BCu_meetsOnlyAtEnds_76 rfl ?_
              refine j_callS F (c_BPl_lies l hw) (tw_gS tq_168 tq_158 tq_88 tq_159) q_BPl_lies rfl ⟨by decide, by decide⟩ ⟨by omega, by omega⟩ rfl (Nat.le_of_ble_eq_true rfl) d_BCu_meetsOnlyAtEnds_78 (fun r_12 hw => ?_)
              obtain ⟨hc1, hwt, hwf⟩ := hw
              refine j_if_ne F 106 hc1 d_BCu_meetsOnlyAtEnds_81 rfl (fun hh => ?_) (fun hh => ?_)
              · have hw := hwt hh
                refine j_iconst F d_BCu_meetsOnlyAtEnds_106 ?_
                refine j_goto F 111 d_BCu_meetsOnlyAtEnds_107 rfl ?_
                refine j_sub [3, 4, 5, 6, 7, 0] rfl ?_
                exact B111 _ _ _ _ _ _ _ _ hT hw
              · have hw := hwf hh
                refine j_sub [3, 4, 5, 6, 7, 2, 1, 0] rfl ?_
                exact B84 _ _ _ _ _ _ _ _ _ hT hw
      intro v0 v1 v2 v3 T hT hw
      unfold wp_BCu_meetsOnlyAtEnds_9 at hw
      refine j_iload_n F 3 d_BCu_meetsOnlyAtEnds_9 rfl ?_
      refine j_iload_n F 2 d_BCu_meetsOnlyAtEnds_10 rfl ?_
      obtain ⟨hc1, hc2, hwt, hwf⟩ := hw
      refine j_icmp_ge F 144 hc1 hc2 d_BCu_meetsOnlyAtEnds_11 rfl (fun hh => ?_) (fun hh => ?_)
      · have hw := hwt hh
        refine j_iconst F d_BCu_meetsOnlyAtEnds_144 ?_
        exact hret _ _ _ _ _ _ hw hT (by omega) (by omega) (Or.inr rfl) d_BCu_meetsOnlyAtEnds_145
      · have hw := hwf hh
        refine j_iconst F d_BCu_meetsOnlyAtEnds_14 ?_
        refine j_istore F [(4, vi 0), (0, .ref v0), (1, .ref v1), (2, vi v2), (3, vi v3)] d_BCu_meetsOnlyAtEnds_15 (by decide) rfl ?_
        refine j_sub [1, 2, 3, 4, 0] rfl ?_
        obtain ⟨nn, hw⟩ := hw
        exact B17 nn _ _ _ _ _ _ hT hw
  unfold wp_BCu_meetsOnlyAtEnds at hw
  show jat l D X 9 0 [(0, .ref v0), (1, .ref v1)] [] (cwd k T) 0 0
  refine j_aload_n F 1 d_BCu_meetsOnlyAtEnds_0 rfl ?_
  obtain ⟨hc1, hw⟩ := hw
  refine c_geti F K hT 2 1 rfl tu_Points (by decide) (by decide) rfl tq_165 (Or.inl rfl) hc1 d_BCu_meetsOnlyAtEnds_1 ?_
  refine j_iconst F d_BCu_meetsOnlyAtEnds_4 ?_
  refine j_isub F d_BCu_meetsOnlyAtEnds_5 ?_
  refine j_nmi (fun v2_1 e_v2_1 => ?_)
  have hw := hw v2_1 e_v2_1
  refine j_istore_n F [(2, vi v2_1), (0, .ref v0), (1, .ref v1)] d_BCu_meetsOnlyAtEnds_6 (by decide) rfl ?_
  refine j_iconst F d_BCu_meetsOnlyAtEnds_7 ?_
  refine j_istore_n F [(3, vi 0), (2, vi v2_1), (0, .ref v0), (1, .ref v1)] d_BCu_meetsOnlyAtEnds_8 (by decide) rfl ?_
  refine j_sub [2, 3, 1, 0] rfl ?_
  obtain ⟨nn, hw⟩ := hw
  exact B9 nn _ _ _ _ _ hT hw
theorem tq_169 : (Jvm.Cond.methodLink "LandBook$Cutter" (51 : Nat) ({ cls := "LandBook$Rings", name := "sideOf", desc := "(LLandBook$Points;I)I" } : Jvm.MethodName)) ∈ tw_G := tw_in (List.mem_of_getElem? (i := 629) (by decide +kernel)) rfl
theorem tq_170 : (Jvm.Cond.static ({ cls := "LandBook$Rings", name := "sideOf", desc := "(LLandBook$Points;I)I" } : Jvm.MethodName)) ∈ tw_G := tw_in (List.mem_of_getElem? (i := 630) (by decide +kernel)) rfl
theorem tq_171 : (Jvm.Cond.code ({ cls := "LandBook$Rings", name := "sideOf", desc := "(LLandBook$Points;I)I" } : Jvm.MethodName) prog_11_method_7_code (3 : Nat) (Option.some Jvm.ClassFile.FieldType.int)) ∈ tw_G := tw_in (List.mem_of_getElem? (i := 631) (by decide +kernel)) rfl
theorem tq_172 : (Jvm.Cond.methodLink "LandBook$Cutter" (59 : Nat) ({ cls := "LandBook$Rings", name := "isSimple", desc := "(LLandBook$Points;Z)Z" } : Jvm.MethodName)) ∈ tw_G := tw_in (List.mem_of_getElem? (i := 648) (by decide +kernel)) rfl
theorem tq_173 : (Jvm.Cond.static ({ cls := "LandBook$Rings", name := "isSimple", desc := "(LLandBook$Points;Z)Z" } : Jvm.MethodName)) ∈ tw_G := tw_in (List.mem_of_getElem? (i := 404) (by decide +kernel)) rfl
theorem tq_174 : (Jvm.Cond.code ({ cls := "LandBook$Rings", name := "isSimple", desc := "(LLandBook$Points;Z)Z" } : Jvm.MethodName) prog_11_method_2_code (7 : Nat) (Option.some Jvm.ClassFile.FieldType.boolean)) ∈ tw_G := tw_in (List.mem_of_getElem? (i := 405) (by decide +kernel)) rfl
theorem tq_175 : (Jvm.Cond.methodLink "LandBook$Cutter" (63 : Nat) ({ cls := "LandBook$Cutter", name := "meetsOnlyAtEnds", desc := "(LLandBook$Points;LLandBook$Points;)Z" } : Jvm.MethodName)) ∈ tw_G := tw_in (List.mem_of_getElem? (i := 649) (by decide +kernel)) rfl
theorem tq_176 : (Jvm.Cond.static ({ cls := "LandBook$Cutter", name := "meetsOnlyAtEnds", desc := "(LLandBook$Points;LLandBook$Points;)Z" } : Jvm.MethodName)) ∈ tw_G := tw_in (List.mem_of_getElem? (i := 650) (by decide +kernel)) rfl
theorem tq_177 : (Jvm.Cond.initialized "LandBook$Cutter") ∈ tw_G := tw_in (List.mem_of_getElem? (i := 62) (by decide +kernel)) rfl
theorem tq_178 : (Jvm.Cond.code ({ cls := "LandBook$Cutter", name := "meetsOnlyAtEnds", desc := "(LLandBook$Points;LLandBook$Points;)Z" } : Jvm.MethodName) prog_2_method_5_code (9 : Nat) (Option.some Jvm.ClassFile.FieldType.boolean)) ∈ tw_G := tw_in (List.mem_of_getElem? (i := 651) (by decide +kernel)) rfl
theorem tq_179 : (Jvm.Cond.methodLink "LandBook$Cutter" (55 : Nat) ({ cls := "LandBook$Cutter", name := "whereIsMiddle", desc := "(LLandBook$Points;II)I" } : Jvm.MethodName)) ∈ tw_G := tw_in (List.mem_of_getElem? (i := 635) (by decide +kernel)) rfl
theorem tq_180 : (Jvm.Cond.static ({ cls := "LandBook$Cutter", name := "whereIsMiddle", desc := "(LLandBook$Points;II)I" } : Jvm.MethodName)) ∈ tw_G := tw_in (List.mem_of_getElem? (i := 636) (by decide +kernel)) rfl
theorem tq_181 : (Jvm.Cond.code ({ cls := "LandBook$Cutter", name := "whereIsMiddle", desc := "(LLandBook$Points;II)I" } : Jvm.MethodName) prog_2_method_4_code (3 : Nat) (Option.some Jvm.ClassFile.FieldType.int)) ∈ tw_G := tw_in (List.mem_of_getElem? (i := 637) (by decide +kernel)) rfl
abbrev y_BCu_fits : MethodName := ⟨"LandBook$Cutter", "fits", "(LLandBook$Points;LLandBook$Points;)Z"⟩
theorem q_BCu_fits : y_BCu_fits.cls ≠ "java/lang/invoke/MethodHandle" ∧ y_BCu_fits.cls ≠ "java/lang/invoke/VarHandle" ∧ (parseMethodDescriptor y_BCu_fits.desc).map (fun d => d.parameters.length) = some 2 := by decide +kernel
theorem d_BCu_fits_0 : decode prog_2_method_3_code 0 = .ok (.aload_n 1, 1) := by decide +kernel
theorem d_BCu_fits_1 : decode prog_2_method_3_code 1 = .ok (.getfield 30, 3) := by decide +kernel
theorem d_BCu_fits_4 : decode prog_2_method_3_code 4 = .ok (.iconst 1, 1) := by decide +kernel
theorem d_BCu_fits_5 : decode prog_2_method_3_code 5 = .ok (.isub, 1) := by decide +kernel
theorem d_BCu_fits_6 : decode prog_2_method_3_code 6 = .ok (.istore_n 2, 1) := by decide +kernel
theorem d_BCu_fits_7 : decode prog_2_method_3_code 7 = .ok (.iload_n 2, 1) := by decide +kernel
theorem d_BCu_fits_8 : decode prog_2_method_3_code 8 = .ok (.iconst 1, 1) := by decide +kernel
theorem d_BCu_fits_9 : decode prog_2_method_3_code 9 = .ok (.if_icmp .lt 40, 3) := by decide +kernel
theorem d_BCu_fits_49 : decode prog_2_method_3_code 49 = .ok (.iconst 0, 1) := by decide +kernel
theorem d_BCu_fits_50 : decode prog_2_method_3_code 50 = .ok (.ireturn, 1) := by decide +kernel
theorem d_BCu_fits_12 : decode prog_2_method_3_code 12 = .ok (.aload_n 1, 1) := by decide +kernel
theorem d_BCu_fits_13 : decode prog_2_method_3_code 13 = .ok (.iconst 0, 1) := by decide +kernel
theorem d_BCu_fits_14 : decode prog_2_method_3_code 14 = .ok (.invokevirtual 34, 3) := by decide +kernel
theorem d_BCu_fits_17 : decode prog_2_method_3_code 17 = .ok (.aload_n 1, 1) := by decide +kernel
theorem d_BCu_fits_18 : decode prog_2_method_3_code 18 = .ok (.iload_n 2, 1) := by decide +kernel
theorem d_BCu_fits_19 : decode prog_2_method_3_code 19 = .ok (.invokevirtual 34, 3) := by decide +kernel
theorem d_BCu_fits_22 : decode prog_2_method_3_code 22 = .ok (.if_icmp .eq 27, 3) := by decide +kernel
theorem d_BCu_fits_25 : decode prog_2_method_3_code 25 = .ok (.aload_n 0, 1) := by decide +kernel
theorem d_BCu_fits_26 : decode prog_2_method_3_code 26 = .ok (.aload_n 1, 1) := by decide +kernel
theorem d_BCu_fits_27 : decode prog_2_method_3_code 27 = .ok (.iconst 0, 1) := by decide +kernel
theorem d_BCu_fits_28 : decode prog_2_method_3_code 28 = .ok (.invokevirtual 34, 3) := by decide +kernel
theorem d_BCu_fits_31 : decode prog_2_method_3_code 31 = .ok (.invokestatic 51, 3) := by decide +kernel
theorem d_BCu_fits_34 : decode prog_2_method_3_code 34 = .ok (.ifCond .lt 15, 3) := by decide +kernel
theorem d_BCu_fits_37 : decode prog_2_method_3_code 37 = .ok (.aload_n 0, 1) := by decide +kernel
theorem d_BCu_fits_38 : decode prog_2_method_3_code 38 = .ok (.aload_n 1, 1) := by decide +kernel
theorem d_BCu_fits_39 : decode prog_2_method_3_code 39 = .ok (.iload_n 2, 1) := by decide +kernel
theorem d_BCu_fits_40 : decode prog_2_method_3_code 40 = .ok (.invokevirtual 34, 3) := by decide +kernel
theorem d_BCu_fits_43 : decode prog_2_method_3_code 43 = .ok (.invokestatic 51, 3) := by decide +kernel
theorem d_BCu_fits_46 : decode prog_2_method_3_code 46 = .ok (.ifCond .ge 5, 3) := by decide +kernel
theorem d_BCu_fits_51 : decode prog_2_method_3_code 51 = .ok (.iconst 1, 1) := by decide +kernel
theorem d_BCu_fits_52 : decode prog_2_method_3_code 52 = .ok (.istore_n 3, 1) := by decide +kernel
theorem d_BCu_fits_53 : decode prog_2_method_3_code 53 = .ok (.iload_n 3, 1) := by decide +kernel
theorem d_BCu_fits_54 : decode prog_2_method_3_code 54 = .ok (.iload_n 2, 1) := by decide +kernel
theorem d_BCu_fits_55 : decode prog_2_method_3_code 55 = .ok (.if_icmp .ge 29, 3) := by decide +kernel
theorem d_BCu_fits_84 : decode prog_2_method_3_code 84 = .ok (.aload_n 1, 1) := by decide +kernel
theorem d_BCu_fits_85 : decode prog_2_method_3_code 85 = .ok (.iconst 0, 1) := by decide +kernel
theorem d_BCu_fits_86 : decode prog_2_method_3_code 86 = .ok (.invokestatic 59, 3) := by decide +kernel
theorem d_BCu_fits_89 : decode prog_2_method_3_code 89 = .ok (.ifCond .eq 33, 3) := by decide +kernel
theorem d_BCu_fits_122 : decode prog_2_method_3_code 122 = .ok (.iconst 0, 1) := by decide +kernel
theorem d_BCu_fits_123 : decode prog_2_method_3_code 123 = .ok (.ireturn, 1) := by decide +kernel
theorem d_BCu_fits_92 : decode prog_2_method_3_code 92 = .ok (.aload_n 0, 1) := by decide +kernel
theorem d_BCu_fits_93 : decode prog_2_method_3_code 93 = .ok (.aload_n 1, 1) := by decide +kernel
theorem d_BCu_fits_94 : decode prog_2_method_3_code 94 = .ok (.invokestatic 63, 3) := by decide +kernel
theorem d_BCu_fits_97 : decode prog_2_method_3_code 97 = .ok (.ifCond .eq 25, 3) := by decide +kernel
theorem d_BCu_fits_100 : decode prog_2_method_3_code 100 = .ok (.aload_n 0, 1) := by decide +kernel
theorem d_BCu_fits_101 : decode prog_2_method_3_code 101 = .ok (.aload_n 1, 1) := by decide +kernel
theorem d_BCu_fits_102 : decode prog_2_method_3_code 102 = .ok (.iconst 0, 1) := by decide +kernel
theorem d_BCu_fits_103 : decode prog_2_method_3_code 103 = .ok (.invokevirtual 34, 3) := by decide +kernel
theorem d_BCu_fits_106 : decode prog_2_method_3_code 106 = .ok (.aload_n 1, 1) := by decide +kernel
theorem d_BCu_fits_107 : decode prog_2_method_3_code 107 = .ok (.iconst 1, 1) := by decide +kernel
theorem d_BCu_fits_108 : decode prog_2_method_3_code 108 = .ok (.invokevirtual 34, 3) := by decide +kernel
theorem d_BCu_fits_111 : decode prog_2_method_3_code 111 = .ok (.invokestatic 55, 3) := by decide +kernel
theorem d_BCu_fits_114 : decode prog_2_method_3_code 114 = .ok (.iconst 1, 1) := by decide +kernel
theorem d_BCu_fits_115 : decode prog_2_method_3_code 115 = .ok (.if_icmp .ne 7, 3) := by decide +kernel
theorem d_BCu_fits_118 : decode prog_2_method_3_code 118 = .ok (.iconst 1, 1) := by decide +kernel
theorem d_BCu_fits_119 : decode prog_2_method_3_code 119 = .ok (.goto 4, 3) := by decide +kernel
theorem d_BCu_fits_58 : decode prog_2_method_3_code 58 = .ok (.aload_n 0, 1) := by decide +kernel
theorem d_BCu_fits_59 : decode prog_2_method_3_code 59 = .ok (.aload_n 1, 1) := by decide +kernel
theorem d_BCu_fits_60 : decode prog_2_method_3_code 60 = .ok (.iload_n 3, 1) := by decide +kernel
theorem d_BCu_fits_61 : decode prog_2_method_3_code 61 = .ok (.invokevirtual 34, 3) := by decide +kernel
theorem d_BCu_fits_64 : decode prog_2_method_3_code 64 = .ok (.aload_n 1, 1) := by decide +kernel
theorem d_BCu_fits_65 : decode prog_2_method_3_code 65 = .ok (.iload_n 3, 1) := by decide +kernel
theorem d_BCu_fits_66 : decode prog_2_method_3_code 66 = .ok (.invokevirtual 34, 3) := by decide +kernel
theorem d_BCu_fits_69 : decode prog_2_method_3_code 69 = .ok (.invokestatic 55, 3) := by decide +kernel
theorem d_BCu_fits_72 : decode prog_2_method_3_code 72 = .ok (.iconst 1, 1) := by decide +kernel
theorem d_BCu_fits_73 : decode prog_2_method_3_code 73 = .ok (.if_icmp .eq 5, 3) := by decide +kernel
theorem d_BCu_fits_78 : decode prog_2_method_3_code 78 = .ok (.iinc 3 1, 3) := by decide +kernel
theorem d_BCu_fits_81 : decode prog_2_method_3_code 81 = .ok (.goto (-28), 3) := by decide +kernel
theorem d_BCu_fits_76 : decode prog_2_method_3_code 76 = .ok (.iconst 0, 1) := by decide +kernel
theorem d_BCu_fits_77 : decode prog_2_method_3_code 77 = .ok (.ireturn, 1) := by decide +kernel
def wp_BCu_fits_53 (post : Int → CS → Prop) : Nat → Nat → Nat → Int → Int → CS → Prop
  | 0, _, _, _, _, _ => False
  | n + 1, v0, v1, v2, v3, T => inR v3 ∧ inR v2 ∧ (v2 ≤ v3 → (wp_BRi_isSimple (fun r_2 T_1 => inR r_2 ∧ (r_2 = 0 → post 0 T_1) ∧ (¬ (r_2 = 0) → (wp_BCu_meetsOnlyAtEnds (fun r_4 T_3 => inR r_4 ∧ (r_4 = 0 → post 0 T_3) ∧ (¬ (r_4 = 0) → (tg T_3 v1 = 2 ∧ wp_BPt_at (fun r_6 T_5 => tg T_5 v1 = 2 ∧ wp_BPt_at (fun r_8 T_7 => wp_BCu_whereIsMiddle (fun r_10 T_9 => inR r_10 ∧ (¬ (r_10 = 1) → post 0 T_9) ∧ (r_10 = 1 → post 1 T_9)) v0 r_6 r_8 T_7) v1 1 T_5) v1 0 T_3))) v0 v1 T_1))) v1 0 T)) ∧ (¬ (v2 ≤ v3) → (tg T v1 = 2 ∧ wp_BPt_at (fun r_12 T_11 => tg T_11 v1 = 2 ∧ wp_BPt_at (fun r_14 T_13 => wp_BCu_whereIsMiddle (fun r_16 T_15 => inR r_16 ∧ (r_16 = 1 → ((wp_BCu_fits_53 post n) v0 v1 v2 (v3 + 1) T_15)) ∧ (¬ (r_16 = 1) → post 0 T_15)) v0 r_12 r_14 T_13) v1 v3 T_11) v1 v3 T))
def wp_BCu_fits (post : Int → CS → Prop) (v0 : Nat) (v1 : Nat) (T : CS) : Prop := tg T v1 = 2 ∧ (∀ v2_1 : Int, v2_1 = ((fi T v1 1) - 1) → inR v2_1 ∧ (v2_1 < 1 → post 0 T) ∧ (¬ (v2_1 < 1) → (tg T v1 = 2 ∧ wp_BPt_at (fun r_3 T_2 => tg T_2 v1 = 2 ∧ wp_BPt_at (fun r_5 T_4 => inR r_3 ∧ inR r_5 ∧ (r_3 = r_5 → post 0 T_4) ∧ (¬ (r_3 = r_5) → (tg T_4 v1 = 2 ∧ wp_BPt_at (fun r_7 T_6 => wp_BRi_sideOf (fun r_9 T_8 => inR r_9 ∧ (r_9 < 0 → post 0 T_8) ∧ (¬ (r_9 < 0) → (tg T_8 v1 = 2 ∧ wp_BPt_at (fun r_11 T_10 => wp_BRi_sideOf (fun r_13 T_12 => inR r_13 ∧ (0 ≤ r_13 → (∃ nn : Nat, wp_BCu_fits_53 post nn v0 v1 v2_1 1 T_12)) ∧ (¬ (0 ≤ r_13) → post 0 T_12)) v0 r_11 T_10) v1 v2_1 T_8))) v0 r_7 T_6) v1 0 T_4))) v1 v2_1 T_2) v1 0 T)))
set_option maxHeartbeats 4000000 in
set_option maxRecDepth 100000 in
theorem c_BCu_fits (l : Launch) {D : va_G} {k : CK} {post : Int → CS → Prop} {v0 : Nat} {v1 : Nat} {T : CS} (hw : wp_BCu_fits post v0 v1 T) : jCi l D k y_BCu_fits prog_2_method_3_code 4 (some .boolean) 4 98 0 0 T [.ref v0, .ref v1] post := by
  refine j_coz (own := "LandBook$Cutter") (by decide) rfl (Nat.le_of_ble_eq_true rfl) (fun X F K hT hret => ?_)
  have B53 : ∀ (nn : Nat) (v0 : Nat) (v1 : Nat) (v2 : Int) (v3 : Int) (T : CS), cs_ok k T → wp_BCu_fits_53 post nn v0 v1 v2 v3 T → jat l D X 4 53 [(0, .ref v0), (1, .ref v1), (2, vi v2), (3, vi v3)] [] (cwd k T) 0 0 := by
    intro nn
    induction nn with
    | zero => intro v0 v1 v2 v3 T hT hw; exact hw.elim
    | succ n53 ih53 =>
      intro v0 v1 v2 v3 T hT hw
      unfold wp_BCu_fits_53 at hw
      refine j_iload_n F 3 d_BCu_fits_53 rfl ?_
      refine j_iload_n F 2 d_BCu_fits_54 rfl ?_
      obtain ⟨hc1, hc2, hwt, hwf⟩ := hw
      refine j_icmp_ge F 84 hc1 hc2 d_BCu_fits_55 rfl (fun hh => ?_) (fun hh => ?_)
      · have hw := hwt hh
        refine j_aload_n F 1 d_BCu_fits_84 rfl ?_
        refine j_iconst F d_BCu_fits_85 ?_
        refine c_callSi F K hT (c_BRi_isSimple l hw) (tw_gS tq_172 tq_173 tq_146 tq_174) q_BRi_isSimple rfl ⟨by decide, by decide⟩ ⟨by omega, by omega⟩ rfl (Nat.le_of_ble_eq_true rfl) d_BCu_fits_86 (fun r_2 T_1 hw hT => ?_)
        obtain ⟨hc1, hwt, hwf⟩ := hw
        refine j_if_eq F 122 hc1 d_BCu_fits_89 rfl (fun hh => ?_) (fun hh => ?_)
        · have hw := hwt hh
          refine j_iconst F d_BCu_fits_122 ?_
          exact hret _ _ _ _ _ _ hw hT (by omega) (by omega) (Or.inl rfl) d_BCu_fits_123
        · have hw := hwf hh
          refine j_aload_n F 0 d_BCu_fits_92 rfl ?_
          refine j_aload_n F 1 d_BCu_fits_93 rfl ?_
          refine c_callSi F K hT (c_BCu_meetsOnlyAtEnds l hw) (tw_gS tq_175 tq_176 tq_177 tq_178) q_BCu_meetsOnlyAtEnds rfl ⟨by decide, by decide⟩ ⟨by omega, by omega⟩ rfl (Nat.le_of_ble_eq_true rfl) d_BCu_fits_94 (fun r_4 T_3 hw hT => ?_)
          obtain ⟨hc1, hwt, hwf⟩ := hw
          refine j_if_eq F 122 hc1 d_BCu_fits_97 rfl (fun hh => ?_) (fun hh => ?_)
          · have hw := hwt hh
            refine j_iconst F d_BCu_fits_122 ?_
            exact hret _ _ _ _ _ _ hw hT (by omega) (by omega) (Or.inl rfl) d_BCu_fits_123
          · have hw := hwf hh
            refine j_aload_n F 0 d_BCu_fits_100 rfl ?_
            refine j_aload_n F 1 d_BCu_fits_101 rfl ?_
            refine j_iconst F d_BCu_fits_102 ?_
            obtain ⟨hg1, hw⟩ := hw
            refine c_callVi F K hT (c_BPt_at l hw) (tw_gV tq_166 tq_136 tq_137 tq_126 tq_138) 2 rfl (by decide) hg1 q_BPt_at rfl ⟨by decide, by decide⟩ ⟨by omega, by omega⟩ rfl (Nat.le_of_ble_eq_true rfl) d_BCu_fits_103 (fun r_6 T_5 hw hT => ?_)
            refine j_aload_n F 1 d_BCu_fits_106 rfl ?_
            refine j_iconst F d_BCu_fits_107 ?_
            obtain ⟨hg1, hw⟩ := hw
            refine c_callVi F K hT (c_BPt_at l hw) (tw_gV tq_166 tq_136 tq_137 tq_126 tq_138) 2 rfl (by decide) hg1 q_BPt_at rfl ⟨by decide, by decide⟩ ⟨by omega, by omega⟩ rfl (Nat.le_of_ble_eq_true rfl) d_BCu_fits_108 (fun r_8 T_7 hw hT => ?_)
            refine c_callSi F K hT (c_BCu_whereIsMiddle l hw) (tw_gS tq_179 tq_180 tq_177 tq_181) q_BCu_whereIsMiddle rfl ⟨by decide, by decide⟩ ⟨by omega, by omega⟩ rfl (Nat.le_of_ble_eq_true rfl) d_BCu_fits_111 (fun r_10 T_9 hw hT => ?_)
            refine j_iconst F d_BCu_fits_114 ?_
            obtain ⟨hc1, hwt, hwf⟩ := hw
            refine j_icmp_ne F 122 hc1 ⟨by decide, by decide⟩ d_BCu_fits_115 rfl (fun hh => ?_) (fun hh => ?_)
            · have hw := hwt hh
              refine j_iconst F d_BCu_fits_122 ?_
              exact hret _ _ _ _ _ _ hw hT (by omega) (by omega) (Or.inl rfl) d_BCu_fits_123
            · have hw := hwf hh
              refine j_iconst F d_BCu_fits_118 ?_
              refine j_goto F 123 d_BCu_fits_119 rfl ?_
              exact hret _ _ _ _ _ _ hw hT (by omega) (by omega) (Or.inr rfl) d_BCu_fits_123
      · have hw := hwf hh
        refine j_aload_n F 0 d_BCu_fits_58 rfl ?_
        refine j_aload_n F 1 d_BCu_fits_59 rfl ?_
        refine j_iload_n F 3 d_BCu_fits_60 rfl ?_
        obtain ⟨hg1, hw⟩ := hw
        refine c_callVi F K hT (c_BPt_at l hw) (tw_gV tq_166 tq_136 tq_137 tq_126 tq_138) 2 rfl (by decide) hg1 q_BPt_at rfl ⟨by decide, by decide⟩ ⟨by omega, by omega⟩ rfl (Nat.le_of_ble_eq_true rfl) d_BCu_fits_61 (fun r_12 T_11 hw hT => ?_)
        refine j_aload_n F 1 d_BCu_fits_64 rfl ?_
        refine j_iload_n F 3 d_BCu_fits_65 rfl ?_
        obtain ⟨hg1, hw⟩ := hw
        refine c_callVi F K hT (c_BPt_at l hw) (tw_gV tq_166 tq_136 tq_137 tq_126 tq_138) 2 rfl (by decide) hg1 q_BPt_at rfl ⟨by decide, by decide⟩ ⟨by omega, by omega⟩ rfl (Nat.le_of_ble_eq_true rfl) d_BCu_fits_66 (fun r_14 T_13 hw hT => ?_)
        refine c_callSi F K hT (c_BCu_whereIsMiddle l hw) (tw_gS tq_179 tq_180 tq_177 tq_181) q_BCu_whereIsMiddle rfl ⟨by decide, by decide⟩ ⟨by omega, by omega⟩ rfl (Nat.le_of_ble_eq_true rfl) d_BCu_fits_69 (fun r_16 T_15 hw hT => ?_)
        refine j_iconst F d_BCu_fits_72 ?_
        obtain ⟨hc1, hwt, hwf⟩ := hw
        refine j_icmp_eq F 78 hc1 ⟨by decide, by decide⟩ d_BCu_fits_73 rfl (fun hh => ?_) (fun hh => ?_)
        · have hw := hwt hh
          refine j_iinc F 3 [(3, vi (v3 + 1)), (0, .ref v0), (1, .ref v1), (2, vi v2)] d_BCu_fits_78 rfl (by decide) rfl ?_
          refine j_goto F 53 d_BCu_fits_81 rfl ?_
          refine j_sub [1, 2, 3, 0] rfl ?_
          exact ih53 _ _ _ _ _ hT hw
        · have hw := hwf hh
          refine j_iconst F d_BCu_fits_76 ?_
          exact hret _ _ _ _ _ _ hw hT (by omega) (by omega) (Or.inl rfl) d_BCu_fits_77
  unfold wp_BCu_fits at hw
  show jat l D X 4 0 [(0, .ref v0), (1, .ref v1)] [] (cwd k T) 0 0
  refine j_aload_n F 1 d_BCu_fits_0 rfl ?_
  obtain ⟨hc1, hw⟩ := hw
  refine c_geti F K hT 2 1 rfl tu_Points (by decide) (by decide) rfl tq_165 (Or.inl rfl) hc1 d_BCu_fits_1 ?_
  refine j_iconst F d_BCu_fits_4 ?_
  refine j_isub F d_BCu_fits_5 ?_
  refine j_nmi (fun v2_1 e_v2_1 => ?_)
  have hw := hw v2_1 e_v2_1
  refine j_istore_n F [(2, vi v2_1), (0, .ref v0), (1, .ref v1)] d_BCu_fits_6 (by decide) rfl ?_
  refine j_iload_n F 0 d_BCu_fits_7 rfl ?_
  refine j_iconst F d_BCu_fits_8 ?_
  obtain ⟨hc1, hwt, hwf⟩ := hw
  refine j_icmp_lt F 49 hc1 ⟨by decide, by decide⟩ d_BCu_fits_9 rfl (fun hh => ?_) (fun hh => ?_)
  · have hw := hwt hh
    refine j_iconst F d_BCu_fits_49 ?_
    exact hret _ _ _ _ _ _ hw hT (by omega) (by omega) (Or.inl rfl) d_BCu_fits_50
  · have hw := hwf hh
    refine j_aload_n F 2 d_BCu_fits_12 rfl ?_
    refine j_iconst F d_BCu_fits_13 ?_
    obtain ⟨hg1, hw⟩ := hw
    refine c_callVi F K hT (c_BPt_at l hw) (tw_gV tq_166 tq_136 tq_137 tq_126 tq_138) 2 rfl (by decide) hg1 q_BPt_at rfl ⟨by decide, by decide⟩ ⟨by omega, by omega⟩ rfl (Nat.le_of_ble_eq_true rfl) d_BCu_fits_14 (fun r_3 T_2 hw hT => ?_)
    refine j_aload_n F 2 d_BCu_fits_17 rfl ?_
    refine j_iload_n F 0 d_BCu_fits_18 rfl ?_
    obtain ⟨hg1, hw⟩ := hw
    refine c_callVi F K hT (c_BPt_at l hw) (tw_gV tq_166 tq_136 tq_137 tq_126 tq_138) 2 rfl (by decide) hg1 q_BPt_at rfl ⟨by decide, by decide⟩ ⟨by omega, by omega⟩ rfl (Nat.le_of_ble_eq_true rfl) d_BCu_fits_19 (fun r_5 T_4 hw hT => ?_)
    obtain ⟨hc1, hc2, hwt, hwf⟩ := hw
    refine j_icmp_eq F 49 hc1 hc2 d_BCu_fits_22 rfl (fun hh => ?_) (fun hh => ?_)
    · have hw := hwt hh
      refine j_iconst F d_BCu_fits_49 ?_
      exact hret _ _ _ _ _ _ hw hT (by omega) (by omega) (Or.inl rfl) d_BCu_fits_50
    · have hw := hwf hh
      refine j_aload_n F 1 d_BCu_fits_25 rfl ?_
      refine j_aload_n F 2 d_BCu_fits_26 rfl ?_
      refine j_iconst F d_BCu_fits_27 ?_
      obtain ⟨hg1, hw⟩ := hw
      refine c_callVi F K hT (c_BPt_at l hw) (tw_gV tq_166 tq_136 tq_137 tq_126 tq_138) 2 rfl (by decide) hg1 q_BPt_at rfl ⟨by decide, by decide⟩ ⟨by omega, by omega⟩ rfl (Nat.le_of_ble_eq_true rfl) d_BCu_fits_28 (fun r_7 T_6 hw hT => ?_)
      refine c_callSi F K hT (c_BRi_sideOf l hw) (tw_gS tq_169 tq_170 tq_146 tq_171) q_BRi_sideOf rfl ⟨by decide, by decide⟩ ⟨by omega, by omega⟩ rfl (Nat.le_of_ble_eq_true rfl) d_BCu_fits_31 (fun r_9 T_8 hw hT => ?_)
      obtain ⟨hc1, hwt, hwf⟩ := hw
      refine j_if_lt F 49 hc1 d_BCu_fits_34 rfl (fun hh => ?_) (fun hh => ?_)
      · have hw := hwt hh
        refine j_iconst F d_BCu_fits_49 ?_
        exact hret _ _ _ _ _ _ hw hT (by omega) (by omega) (Or.inl rfl) d_BCu_fits_50
      · have hw := hwf hh
        refine j_aload_n F 1 d_BCu_fits_37 rfl ?_
        refine j_aload_n F 2 d_BCu_fits_38 rfl ?_
        refine j_iload_n F 0 d_BCu_fits_39 rfl ?_
        obtain ⟨hg1, hw⟩ := hw
        refine c_callVi F K hT (c_BPt_at l hw) (tw_gV tq_166 tq_136 tq_137 tq_126 tq_138) 2 rfl (by decide) hg1 q_BPt_at rfl ⟨by decide, by decide⟩ ⟨by omega, by omega⟩ rfl (Nat.le_of_ble_eq_true rfl) d_BCu_fits_40 (fun r_11 T_10 hw hT => ?_)
        refine c_callSi F K hT (c_BRi_sideOf l hw) (tw_gS tq_169 tq_170 tq_146 tq_171) q_BRi_sideOf rfl ⟨by decide, by decide⟩ ⟨by omega, by omega⟩ rfl (Nat.le_of_ble_eq_true rfl) d_BCu_fits_43 (fun r_13 T_12 hw hT => ?_)
        obtain ⟨hc1, hwt, hwf⟩ := hw
        refine j_if_ge F 51 hc1 d_BCu_fits_46 rfl (fun hh => ?_) (fun hh => ?_)
        · have hw := hwt hh
          refine j_iconst F d_BCu_fits_51 ?_
          refine j_istore_n F [(3, vi 1), (2, vi v2_1), (0, .ref v0), (1, .ref v1)] d_BCu_fits_52 (by decide) rfl ?_
          refine j_sub [2, 3, 1, 0] rfl ?_
          obtain ⟨nn, hw⟩ := hw
          exact B53 nn _ _ _ _ _ hT hw
        · have hw := hwf hh
          refine j_iconst F d_BCu_fits_49 ?_
          exact hret _ _ _ _ _ _ hw hT (by omega) (by omega) (Or.inl rfl) d_BCu_fits_50
theorem tq_182 : (Jvm.Cond.fieldLink "LandBook$Cutter" (16 : Nat) "LandBook$Cutter" "piece" "LLandBook$Points;") ∈ tw_G := tw_in (List.mem_of_getElem? (i := 123) (by decide +kernel)) rfl
theorem tq_183 : (Jvm.Cond.methodLink "LandBook$Cutter" (85 : Nat) ({ cls := "LandBook$Points", name := "clear", desc := "()V" } : Jvm.MethodName)) ∈ tw_G := tw_in (List.mem_of_getElem? (i := 658) (by decide +kernel)) rfl
theorem tq_184 : (Jvm.Cond.methodLink "LandBook$Cutter" (42 : Nat) ({ cls := "LandBook$Points", name := "add", desc := "(I)V" } : Jvm.MethodName)) ∈ tw_G := tw_in (List.mem_of_getElem? (i := 659) (by decide +kernel)) rfl
abbrev y_BCu_walk : MethodName := ⟨"LandBook$Cutter", "walk", "(LLandBook$Points;II)V"⟩
theorem q_BCu_walk : y_BCu_walk.cls = "LandBook$Cutter" ∧ y_BCu_walk.cls ≠ "java/lang/invoke/MethodHandle" ∧ y_BCu_walk.cls ≠ "java/lang/invoke/VarHandle" ∧ (parseMethodDescriptor y_BCu_walk.desc).map (fun d => d.parameters.length) = some 3 := by decide +kernel
theorem d_BCu_walk_0 : decode prog_2_method_6_code 0 = .ok (.aload_n 1, 1) := by decide +kernel
theorem d_BCu_walk_1 : decode prog_2_method_6_code 1 = .ok (.iload_n 2, 1) := by decide +kernel
theorem d_BCu_walk_2 : decode prog_2_method_6_code 2 = .ok (.invokestatic 51, 3) := by decide +kernel
theorem d_BCu_walk_5 : decode prog_2_method_6_code 5 = .ok (.istore 4, 2) := by decide +kernel
theorem d_BCu_walk_7 : decode prog_2_method_6_code 7 = .ok (.aload_n 1, 1) := by decide +kernel
theorem d_BCu_walk_8 : decode prog_2_method_6_code 8 = .ok (.iload_n 3, 1) := by decide +kernel
theorem d_BCu_walk_9 : decode prog_2_method_6_code 9 = .ok (.invokestatic 51, 3) := by decide +kernel
theorem d_BCu_walk_12 : decode prog_2_method_6_code 12 = .ok (.iload 4, 2) := by decide +kernel
theorem d_BCu_walk_14 : decode prog_2_method_6_code 14 = .ok (.isub, 1) := by decide +kernel
theorem d_BCu_walk_15 : decode prog_2_method_6_code 15 = .ok (.istore 5, 2) := by decide +kernel
theorem d_BCu_walk_17 : decode prog_2_method_6_code 17 = .ok (.aload_n 1, 1) := by decide +kernel
theorem d_BCu_walk_18 : decode prog_2_method_6_code 18 = .ok (.iload 4, 2) := by decide +kernel
theorem d_BCu_walk_20 : decode prog_2_method_6_code 20 = .ok (.invokevirtual 34, 3) := by decide +kernel
theorem d_BCu_walk_23 : decode prog_2_method_6_code 23 = .ok (.aload_n 1, 1) := by decide +kernel
theorem d_BCu_walk_24 : decode prog_2_method_6_code 24 = .ok (.iload 4, 2) := by decide +kernel
theorem d_BCu_walk_26 : decode prog_2_method_6_code 26 = .ok (.iconst 1, 1) := by decide +kernel
theorem d_BCu_walk_27 : decode prog_2_method_6_code 27 = .ok (.iadd, 1) := by decide +kernel
theorem d_BCu_walk_28 : decode prog_2_method_6_code 28 = .ok (.invokevirtual 34, 3) := by decide +kernel
theorem d_BCu_walk_31 : decode prog_2_method_6_code 31 = .ok (.if_icmp .ge 7, 3) := by decide +kernel
theorem d_BCu_walk_38 : decode prog_2_method_6_code 38 = .ok (.iconst 0, 1) := by decide +kernel
theorem d_BCu_walk_34 : decode prog_2_method_6_code 34 = .ok (.iconst 1, 1) := by decide +kernel
theorem d_BCu_walk_35 : decode prog_2_method_6_code 35 = .ok (.goto 4, 3) := by decide +kernel
theorem d_BCu_walk_39 : decode prog_2_method_6_code 39 = .ok (.istore 6, 2) := by decide +kernel
theorem d_BCu_walk_41 : decode prog_2_method_6_code 41 = .ok (.iload 5, 2) := by decide +kernel
theorem d_BCu_walk_43 : decode prog_2_method_6_code 43 = .ok (.ifCond .lt 23, 3) := by decide +kernel
theorem d_BCu_walk_46 : decode prog_2_method_6_code 46 = .ok (.iload 5, 2) := by decide +kernel
theorem d_BCu_walk_48 : decode prog_2_method_6_code 48 = .ok (.ifCond .ne 27, 3) := by decide +kernel
theorem d_BCu_walk_51 : decode prog_2_method_6_code 51 = .ok (.iload 6, 2) := by decide +kernel
theorem d_BCu_walk_53 : decode prog_2_method_6_code 53 = .ok (.iload_n 2, 1) := by decide +kernel
theorem d_BCu_walk_54 : decode prog_2_method_6_code 54 = .ok (.iload_n 3, 1) := by decide +kernel
theorem d_BCu_walk_55 : decode prog_2_method_6_code 55 = .ok (.if_icmp .ge 7, 3) := by decide +kernel
theorem d_BCu_walk_62 : decode prog_2_method_6_code 62 = .ok (.iconst 0, 1) := by decide +kernel
theorem d_BCu_walk_58 : decode prog_2_method_6_code 58 = .ok (.iconst 1, 1) := by decide +kernel
theorem d_BCu_walk_59 : decode prog_2_method_6_code 59 = .ok (.goto 4, 3) := by decide +kernel
theorem d_BCu_walk_66 : decode prog_2_method_6_code 66 = .ok (.iload 5, 2) := by decide +kernel
theorem d_BCu_walk_68 : decode prog_2_method_6_code 68 = .ok (.aload_n 1, 1) := by decide +kernel
theorem d_BCu_walk_69 : decode prog_2_method_6_code 69 = .ok (.getfield 30, 3) := by decide +kernel
theorem d_BCu_walk_72 : decode prog_2_method_6_code 72 = .ok (.iadd, 1) := by decide +kernel
theorem d_BCu_walk_73 : decode prog_2_method_6_code 73 = .ok (.istore 5, 2) := by decide +kernel
theorem d_BCu_walk_75 : decode prog_2_method_6_code 75 = .ok (.aload_n 0, 1) := by decide +kernel
theorem d_BCu_walk_76 : decode prog_2_method_6_code 76 = .ok (.getfield 16, 3) := by decide +kernel
theorem d_BCu_walk_79 : decode prog_2_method_6_code 79 = .ok (.invokevirtual 85, 3) := by decide +kernel
theorem d_BCu_walk_82 : decode prog_2_method_6_code 82 = .ok (.aload_n 0, 1) := by decide +kernel
theorem d_BCu_walk_83 : decode prog_2_method_6_code 83 = .ok (.getfield 16, 3) := by decide +kernel
theorem d_BCu_walk_86 : decode prog_2_method_6_code 86 = .ok (.iload_n 2, 1) := by decide +kernel
theorem d_BCu_walk_87 : decode prog_2_method_6_code 87 = .ok (.invokevirtual 42, 3) := by decide +kernel
theorem d_BCu_walk_90 : decode prog_2_method_6_code 90 = .ok (.iconst 1, 1) := by decide +kernel
theorem d_BCu_walk_91 : decode prog_2_method_6_code 91 = .ok (.istore 7, 2) := by decide +kernel
theorem d_BCu_walk_63 : decode prog_2_method_6_code 63 = .ok (.if_icmp .eq 12, 3) := by decide +kernel
theorem d_BCu_walk_93 : decode prog_2_method_6_code 93 = .ok (.iload 7, 2) := by decide +kernel
theorem d_BCu_walk_95 : decode prog_2_method_6_code 95 = .ok (.iload 5, 2) := by decide +kernel
theorem d_BCu_walk_97 : decode prog_2_method_6_code 97 = .ok (.if_icmp .gt 38, 3) := by decide +kernel
theorem d_BCu_walk_135 : decode prog_2_method_6_code 135 = .ok (.aload_n 0, 1) := by decide +kernel
theorem d_BCu_walk_136 : decode prog_2_method_6_code 136 = .ok (.getfield 16, 3) := by decide +kernel
theorem d_BCu_walk_139 : decode prog_2_method_6_code 139 = .ok (.iload_n 3, 1) := by decide +kernel
theorem d_BCu_walk_140 : decode prog_2_method_6_code 140 = .ok (.invokevirtual 42, 3) := by decide +kernel
theorem d_BCu_walk_143 : decode prog_2_method_6_code 143 = .ok (.return_, 1) := by decide +kernel
theorem d_BCu_walk_100 : decode prog_2_method_6_code 100 = .ok (.aload_n 1, 1) := by decide +kernel
theorem d_BCu_walk_101 : decode prog_2_method_6_code 101 = .ok (.iload 4, 2) := by decide +kernel
theorem d_BCu_walk_103 : decode prog_2_method_6_code 103 = .ok (.iload 7, 2) := by decide +kernel
theorem d_BCu_walk_105 : decode prog_2_method_6_code 105 = .ok (.iadd, 1) := by decide +kernel
theorem d_BCu_walk_106 : decode prog_2_method_6_code 106 = .ok (.invokevirtual 34, 3) := by decide +kernel
theorem d_BCu_walk_109 : decode prog_2_method_6_code 109 = .ok (.iload_n 3, 1) := by decide +kernel
theorem d_BCu_walk_110 : decode prog_2_method_6_code 110 = .ok (.if_icmp .eq 19, 3) := by decide +kernel
theorem d_BCu_walk_113 : decode prog_2_method_6_code 113 = .ok (.aload_n 0, 1) := by decide +kernel
theorem d_BCu_walk_114 : decode prog_2_method_6_code 114 = .ok (.getfield 16, 3) := by decide +kernel
theorem d_BCu_walk_117 : decode prog_2_method_6_code 117 = .ok (.aload_n 1, 1) := by decide +kernel
theorem d_BCu_walk_118 : decode prog_2_method_6_code 118 = .ok (.iload 4, 2) := by decide +kernel
theorem d_BCu_walk_120 : decode prog_2_method_6_code 120 = .ok (.iload 7, 2) := by decide +kernel
theorem d_BCu_walk_122 : decode prog_2_method_6_code 122 = .ok (.iadd, 1) := by decide +kernel
theorem d_BCu_walk_123 : decode prog_2_method_6_code 123 = .ok (.invokevirtual 34, 3) := by decide +kernel
theorem d_BCu_walk_126 : decode prog_2_method_6_code 126 = .ok (.invokevirtual 42, 3) := by decide +kernel
theorem d_BCu_walk_129 : decode prog_2_method_6_code 129 = .ok (.iinc 7 1, 3) := by decide +kernel
theorem d_BCu_walk_132 : decode prog_2_method_6_code 132 = .ok (.goto (-39), 3) := by decide +kernel
def wp_BCu_walk_129 (post : CS → Prop) (k93 : Nat → Nat → Int → Int → Int → Int → CS → Prop) (v0 : Nat) (v1 : Nat) (v3 : Int) (v4 : Int) (v5 : Int) (v7 : Int) (T : CS) : Prop := k93 v0 v1 v3 v4 v5 (v7 + 1) T
def wp_BCu_walk_93 (post : CS → Prop) : Nat → Nat → Nat → Int → Int → Int → Int → CS → Prop
  | 0, _, _, _, _, _, _, _ => False
  | n + 1, v0, v1, v3, v4, v5, v7, T => inR v7 ∧ inR v5 ∧ (v5 < v7 → (tg T v0 = 3 ∧ ∃ q_1 : Nat, fo T v0 0 = some q_1 ∧ (tg T q_1 = 2 ∧ wp_BPt_add (fun T_2 => post T_2) q_1 v3 T))) ∧ (¬ (v5 < v7) → (tg T v1 = 2 ∧ wp_BPt_at (fun r_5 T_4 => inR r_5 ∧ inR v3 ∧ (r_5 = v3 → wp_BCu_walk_129 post (wp_BCu_walk_93 post n) v0 v1 v3 v4 v5 v7 T_4) ∧ (¬ (r_5 = v3) → (tg T_4 v0 = 3 ∧ ∃ q_6 : Nat, fo T_4 v0 0 = some q_6 ∧ (tg T_4 v1 = 2 ∧ wp_BPt_at (fun r_8 T_7 => tg T_7 q_6 = 2 ∧ wp_BPt_add (fun T_9 => wp_BCu_walk_129 post (wp_BCu_walk_93 post n) v0 v1 v3 v4 v5 v7 T_9) q_6 r_8 T_7) v1 (v4 + v7) T_4)))) v1 (v4 + v7) T))
def wp_BCu_walk_75 (post : CS → Prop) (v0 : Nat) (v1 : Nat) (v2 : Int) (v3 : Int) (v4 : Int) (v5 : Int) (T : CS) : Prop := tg T v0 = 3 ∧ ∃ q_1 : Nat, fo T v0 0 = some q_1 ∧ (tg T q_1 = 2 ∧ wp_BPt_clear (fun T_2 => tg T_2 v0 = 3 ∧ ∃ q_4 : Nat, fo T_2 v0 0 = some q_4 ∧ (tg T_2 q_4 = 2 ∧ wp_BPt_add (fun T_5 => ∃ nn : Nat, wp_BCu_walk_93 post nn v0 v1 v3 v4 v5 1 T_5) q_4 v2 T_2)) q_1 T)
def wp_BCu_walk_66 (post : CS → Prop) (v0 : Nat) (v1 : Nat) (v2 : Int) (v3 : Int) (v4 : Int) (v5 : Int) (T : CS) : Prop := tg T v1 = 2 ∧ (∀ v5_1 : Int, v5_1 = (v5 + (fi T v1 1)) → wp_BCu_walk_75 post v0 v1 v2 v3 v4 v5_1 T)
def wp_BCu_walk_63 (post : CS → Prop) (v0 : Nat) (v1 : Nat) (v2 : Int) (v3 : Int) (v4 : Int) (v5 : Int) (s0 : Int) (s1 : Int) (T : CS) : Prop := inR s1 ∧ inR s0 ∧ (s1 = s0 → wp_BCu_walk_75 post v0 v1 v2 v3 v4 v5 T) ∧ (¬ (s1 = s0) → wp_BCu_walk_66 post v0 v1 v2 v3 v4 v5 T)
def wp_BCu_walk_39 (post : CS → Prop) (v0 : Nat) (v1 : Nat) (v2 : Int) (v3 : Int) (v4 : Int) (v5 : Int) (s0 : Int) (T : CS) : Prop := inR v5 ∧ (v5 < 0 → wp_BCu_walk_66 post v0 v1 v2 v3 v4 v5 T) ∧ (¬ (v5 < 0) → (inR v5 ∧ (¬ (v5 = 0) → wp_BCu_walk_75 post v0 v1 v2 v3 v4 v5 T) ∧ (v5 = 0 → (inR v2 ∧ inR v3 ∧ (v3 ≤ v2 → wp_BCu_walk_63 post v0 v1 v2 v3 v4 v5 0 s0 T) ∧ (¬ (v3 ≤ v2) → wp_BCu_walk_63 post v0 v1 v2 v3 v4 v5 1 s0 T)))))
def wp_BCu_walk (post : CS → Prop) (v0 : Nat) (v1 : Nat) (v2 : Int) (v3 : Int) (T : CS) : Prop := wp_BRi_sideOf (fun r_2 T_1 => wp_BRi_sideOf (fun r_4 T_3 => ∀ v5_5 : Int, v5_5 = (r_4 - r_2) → tg T_3 v1 = 2 ∧ wp_BPt_at (fun r_7 T_6 => tg T_6 v1 = 2 ∧ wp_BPt_at (fun r_9 T_8 => inR r_7 ∧ inR r_9 ∧ (r_9 ≤ r_7 → wp_BCu_walk_39 post v0 v1 v2 v3 r_2 v5_5 0 T_8) ∧ (¬ (r_9 ≤ r_7) → wp_BCu_walk_39 post v0 v1 v2 v3 r_2 v5_5 1 T_8)) v1 (r_2 + 1) T_6) v1 r_2 T_3) v1 v3 T_1) v1 v2 T
set_option maxHeartbeats 4000000 in
set_option maxRecDepth 100000 in
theorem c_BCu_walk (l : Launch) {D : va_G} {k : CK} {post : CS → Prop} {v0 : Nat} {v1 : Nat} {v2 : Int} {v3 : Int} {T : CS} (hw : wp_BCu_walk post v0 v1 v2 v3 T) : jCv l D k y_BCu_walk prog_2_method_6_code 8 none 4 86 0 0 T [.ref v0, .ref v1, vi v2, vi v3] post := by
  refine j_cov (own := "LandBook$Cutter") (by decide) rfl (Nat.le_of_ble_eq_true rfl) (fun X F K hT hret => ?_)
  have B93 : ∀ (nn : Nat) (v0 : Nat) (v1 : Nat) (v3 : Int) (v4 : Int) (v5 : Int) (v7 : Int) (T : CS), cs_ok k T → wp_BCu_walk_93 post nn v0 v1 v3 v4 v5 v7 T → jat l D X 8 93 [(0, .ref v0), (1, .ref v1), (3, vi v3), (4, vi v4), (5, vi v5), (7, vi v7)] [] (cwd k T) 0 0 := by
    intro nn
    induction nn with
    | zero => intro v0 v1 v3 v4 v5 v7 T hT hw; exact hw.elim
    | succ n93 ih93 =>
      have B129 : ∀ (v0 : Nat) (v1 : Nat) (v3 : Int) (v4 : Int) (v5 : Int) (v7 : Int) (T : CS), cs_ok k T → wp_BCu_walk_129 post (wp_BCu_walk_93 post n93) v0 v1 v3 v4 v5 v7 T → jat l D X 8 129 [(0, .ref v0), (1, .ref v1), (3, vi v3), (4, vi v4), (5, vi v5), (7, vi v7)] [] (cwd k T) 0 0 := by
        intro v0 v1 v3 v4 v5 v7 T hT hw
        unfold wp_BCu_walk_129 at hw
        refine j_iinc F 5 [(7, vi (v7 + 1)), (0, .ref v0), (1, .ref v1), (3, vi v3), (4, vi v4), (5, vi v5)] d_BCu_walk_129 rfl (by decide) rfl ?_
        refine j_goto F 93 d_BCu_walk_132 rfl ?_
        refine j_sub [1, 2, 3, 4, 5, 0] rfl ?_
        exact ih93 _ _ _ _ _ _ _ hT hw
      intro v0 v1 v3 v4 v5 v7 T hT hw
      unfold wp_BCu_walk_93 at hw
      refine j_iload F 5 d_BCu_walk_93 rfl ?_
      refine j_iload F 4 d_BCu_walk_95 rfl ?_
      obtain ⟨hc1, hc2, hwt, hwf⟩ := hw
      refine j_icmp_gt F 135 hc1 hc2 d_BCu_walk_97 rfl (fun hh => ?_) (fun hh => ?_)
      · have hw := hwt hh
        refine j_aload_n F 0 d_BCu_walk_135 rfl ?_
        obtain ⟨hc1, q_1, hc2, hw⟩ := hw
        refine c_getr F K hT 3 0 rfl tu_Cutter (by decide) (by decide) rfl tq_182 (Or.inl rfl) hc1 hc2 d_BCu_walk_136 ?_
        refine j_iload_n F 2 d_BCu_walk_139 rfl ?_
        obtain ⟨hg1, hw⟩ := hw
        refine c_callVv F K hT (c_BPt_add l hw) (tw_gV tq_184 tq_131 tq_132 tq_126 tq_133) 2 rfl (by decide) hg1 q_BPt_add rfl ⟨by decide, by decide⟩ ⟨by omega, by omega⟩ rfl (Nat.le_of_ble_eq_true rfl) d_BCu_walk_140 (fun T_2 hw hT => ?_)
        exact hret _ _ _ _ _ hw hT (by omega) (by omega) d_BCu_walk_143
      · have hw := hwf hh
        refine j_aload_n F 1 d_BCu_walk_100 rfl ?_
        refine j_iload F 3 d_BCu_walk_101 rfl ?_
        refine j_iload F 5 d_BCu_walk_103 rfl ?_
        refine j_iadd F d_BCu_walk_105 ?_
        obtain ⟨hg1, hw⟩ := hw
        refine c_callVi F K hT (c_BPt_at l hw) (tw_gV tq_166 tq_136 tq_137 tq_126 tq_138) 2 rfl (by decide) hg1 q_BPt_at rfl ⟨by decide, by decide⟩ ⟨by omega, by omega⟩ rfl (Nat.le_of_ble_eq_true rfl) d_BCu_walk_106 (fun r_5 T_4 hw hT => ?_)
        refine j_iload_n F 2 d_BCu_walk_109 rfl ?_
        obtain ⟨hc1, hc2, hwt, hwf⟩ := hw
        refine j_icmp_eq F 129 hc1 hc2 d_BCu_walk_110 rfl (fun hh => ?_) (fun hh => ?_)
        · have hw := hwt hh
          exact B129 _ _ _ _ _ _ _ hT hw
        · have hw := hwf hh
          refine j_aload_n F 0 d_BCu_walk_113 rfl ?_
          obtain ⟨hc1, q_6, hc2, hw⟩ := hw
          refine c_getr F K hT 3 0 rfl tu_Cutter (by decide) (by decide) rfl tq_182 (Or.inl rfl) hc1 hc2 d_BCu_walk_114 ?_
          refine j_aload_n F 1 d_BCu_walk_117 rfl ?_
          refine j_iload F 3 d_BCu_walk_118 rfl ?_
          refine j_iload F 5 d_BCu_walk_120 rfl ?_
          refine j_iadd F d_BCu_walk_122 ?_
          obtain ⟨hg1, hw⟩ := hw
          refine c_callVi F K hT (c_BPt_at l hw) (tw_gV tq_166 tq_136 tq_137 tq_126 tq_138) 2 rfl (by decide) hg1 q_BPt_at rfl ⟨by decide, by decide⟩ ⟨by omega, by omega⟩ rfl (Nat.le_of_ble_eq_true rfl) d_BCu_walk_123 (fun r_8 T_7 hw hT => ?_)
          obtain ⟨hg1, hw⟩ := hw
          refine c_callVv F K hT (c_BPt_add l hw) (tw_gV tq_184 tq_131 tq_132 tq_126 tq_133) 2 rfl (by decide) hg1 q_BPt_add rfl ⟨by decide, by decide⟩ ⟨by omega, by omega⟩ rfl (Nat.le_of_ble_eq_true rfl) d_BCu_walk_126 (fun T_9 hw hT => ?_)
          exact B129 _ _ _ _ _ _ _ hT hw
  have B75 : ∀ (v0 : Nat) (v1 : Nat) (v2 : Int) (v3 : Int) (v4 : Int) (v5 : Int) (T : CS), cs_ok k T → wp_BCu_walk_75 post v0 v1 v2 v3 v4 v5 T → jat l D X 8 75 [(0, .ref v0), (1, .ref v1), (2, vi v2), (3, vi v3), (4, vi v4), (5, vi v5)] [] (cwd k T) 0 0 := by
    intro v0 v1 v2 v3 v4 v5 T hT hw
    unfold wp_BCu_walk_75 at hw
    refine j_aload_n F 0 d_BCu_walk_75 rfl ?_
    obtain ⟨hc1, q_1, hc2, hw⟩ := hw
    refine c_getr F K hT 3 0 rfl tu_Cutter (by decide) (by decide) rfl tq_182 (Or.inl rfl) hc1 hc2 d_BCu_walk_76 ?_
    obtain ⟨hg1, hw⟩ := hw
    refine c_callVv F K hT (c_BPt_clear l hw) (tw_gV tq_183 tq_149 tq_150 tq_126 tq_151) 2 rfl (by decide) hg1 q_BPt_clear rfl ⟨by decide, by decide⟩ ⟨by omega, by omega⟩ rfl (Nat.le_of_ble_eq_true rfl) d_BCu_walk_79 (fun T_2 hw hT => ?_)
    refine j_aload_n F 0 d_BCu_walk_82 rfl ?_
    obtain ⟨hc1, q_4, hc2, hw⟩ := hw
    refine c_getr F K hT 3 0 rfl tu_Cutter (by decide) (by decide) rfl tq_182 (Or.inl rfl) hc1 hc2 d_BCu_walk_83 ?_
    refine j_iload_n F 2 d_BCu_walk_86 rfl ?_
    obtain ⟨hg1, hw⟩ := hw
    refine c_callVv F K hT (c_BPt_add l hw) (tw_gV tq_184 tq_131 tq_132 tq_126 tq_133) 2 rfl (by decide) hg1 q_BPt_add rfl ⟨by decide, by decide⟩ ⟨by omega, by omega⟩ rfl (Nat.le_of_ble_eq_true rfl) d_BCu_walk_87 (fun T_5 hw hT => ?_)
    refine j_iconst F d_BCu_walk_90 ?_
    refine j_istore F [(7, vi 1), (0, .ref v0), (1, .ref v1), (2, vi v2), (3, vi v3), (4, vi v4), (5, vi v5)] d_BCu_walk_91 (by decide) rfl ?_
    refine j_sub [1, 2, 4, 5, 6, 0] rfl ?_
    obtain ⟨nn, hw⟩ := hw
    exact B93 nn _ _ _ _ _ _ _ hT hw
  have B66 : ∀ (v0 : Nat) (v1 : Nat) (v2 : Int) (v3 : Int) (v4 : Int) (v5 : Int) (T : CS), cs_ok k T → wp_BCu_walk_66 post v0 v1 v2 v3 v4 v5 T → jat l D X 8 66 [(0, .ref v0), (1, .ref v1), (2, vi v2), (3, vi v3), (4, vi v4), (5, vi v5)] [] (cwd k T) 0 0 := by
    intro v0 v1 v2 v3 v4 v5 T hT hw
    unfold wp_BCu_walk_66 at hw
    refine j_iload F 5 d_BCu_walk_66 rfl ?_
    refine j_aload_n F 1 d_BCu_walk_68 rfl ?_
    obtain ⟨hc1, hw⟩ := hw
    refine c_geti F K hT 2 1 rfl tu_Points (by decide) (by decide) rfl tq_165 (Or.inl rfl) hc1 d_BCu_walk_69 ?_
    refine j_iadd F d_BCu_walk_72 ?_
    refine j_nmi (fun v5_1 e_v5_1 => ?_)
    have hw := hw v5_1 e_v5_1
    refine j_istore F [(5, vi v5_1), (0, .ref v0), (1, .ref v1), (2, vi v2), (3, vi v3), (4, vi v4)] d_BCu_walk_73 (by decide) rfl ?_
    refine j_sub [1, 2, 3, 4, 5, 0] rfl ?_
    exact B75 _ _ _ _ _ _ _ hT hw
  have B63 : ∀ (v0 : Nat) (v1 : Nat) (v2 : Int) (v3 : Int) (v4 : Int) (v5 : Int) (s0 : Int) (s1 : Int) (T : CS), cs_ok k T → wp_BCu_walk_63 post v0 v1 v2 v3 v4 v5 s0 s1 T → jat l D X 8 63 [(0, .ref v0), (1, .ref v1), (2, vi v2), (3, vi v3), (4, vi v4), (5, vi v5)] [vi s0, vi s1] (cwd k T) 0 0 := by
    intro v0 v1 v2 v3 v4 v5 s0 s1 T hT hw
    unfold wp_BCu_walk_63 at hw
    obtain ⟨hc1, hc2, hwt, hwf⟩ := hw
    refine j_icmp_eq F 75 hc1 hc2 d_BCu_walk_63 rfl (fun hh => ?_) (fun hh => ?_)
    · have hw := hwt hh
      exact B75 _ _ _ _ _ _ _ hT hw
    · have hw := hwf hh
      exact B66 _ _ _ _ _ _ _ hT hw
  have B39 : ∀ (v0 : Nat) (v1 : Nat) (v2 : Int) (v3 : Int) (v4 : Int) (v5 : Int) (s0 : Int) (T : CS), cs_ok k T → wp_BCu_walk_39 post v0 v1 v2 v3 v4 v5 s0 T → jat l D X 8 39 [(0, .ref v0), (1, .ref v1), (2, vi v2), (3, vi v3), (4, vi v4), (5, vi v5)] [vi s0] (cwd k T) 0 0 := by
    intro v0 v1 v2 v3 v4 v5 s0 T hT hw
    unfold wp_BCu_walk_39 at hw
    refine j_istore F [(6, vi s0), (0, .ref v0), (1, .ref v1), (2, vi v2), (3, vi v3), (4, vi v4), (5, vi v5)] d_BCu_walk_39 (by decide) rfl ?_
    refine j_iload F 6 d_BCu_walk_41 rfl ?_
    obtain ⟨hc1, hwt, hwf⟩ := hw
    refine j_if_lt F 66 hc1 d_BCu_walk_43 rfl (fun hh => ?_) (fun hh => ?_)
    · have hw := hwt hh
      refine j_sub [1, 2, 3, 4, 5, 6] rfl ?_
      exact B66 _ _ _ _ _ _ _ hT hw
    · have hw := hwf hh
      refine j_iload F 6 d_BCu_walk_46 rfl ?_
      obtain ⟨hc1, hwt, hwf⟩ := hw
      refine j_if_ne F 75 hc1 d_BCu_walk_48 rfl (fun hh => ?_) (fun hh => ?_)
      · have hw := hwt hh
        refine j_sub [1, 2, 3, 4, 5, 6] rfl ?_
        exact B75 _ _ _ _ _ _ _ hT hw
      · have hw := hwf hh
        refine j_iload F 0 d_BCu_walk_51 rfl ?_
        refine j_iload_n F 3 d_BCu_walk_53 rfl ?_
        refine j_iload_n F 4 d_BCu_walk_54 rfl ?_
        obtain ⟨hc1, hc2, hwt, hwf⟩ := hw
        refine j_icmp_ge F 62 hc1 hc2 d_BCu_walk_55 rfl (fun hh => ?_) (fun hh => ?_)
        · have hw := hwt hh
          refine j_iconst F d_BCu_walk_62 ?_
          refine j_sub [1, 2, 3, 4, 5, 6] rfl ?_
          exact B63 _ _ _ _ _ _ _ _ _ hT hw
        · have hw := hwf hh
          refine j_iconst F d_BCu_walk_58 ?_
          refine j_goto F 63 d_BCu_walk_59 rfl ?_
          refine j_sub [1, 2, 3, 4, 5, 6] rfl ?_
          exact B63 _ _ _ _ _ _ _ _ _ hT hw
  unfold wp_BCu_walk at hw
  show jat l D X 8 0 [(0, .ref v0), (1, .ref v1), (2, vi v2), (3, vi v3)] [] (cwd k T) 0 0
  refine j_aload_n F 1 d_BCu_walk_0 rfl ?_
  refine j_iload_n F 2 d_BCu_walk_1 rfl ?_
  refine c_callSi F K hT (c_BRi_sideOf l hw) (tw_gS tq_169 tq_170 tq_146 tq_171) q_BRi_sideOf rfl ⟨by decide, by decide⟩ ⟨by omega, by omega⟩ rfl (Nat.le_of_ble_eq_true rfl) d_BCu_walk_2 (fun r_2 T_1 hw hT => ?_)
  refine j_istore F [(4, vi r_2), (0, .ref v0), (1, .ref v1), (2, vi v2), (3, vi v3)] d_BCu_walk_5 (by decide) rfl ?_
  refine j_aload_n F 2 d_BCu_walk_7 rfl ?_
  refine j_iload_n F 4 d_BCu_walk_8 rfl ?_
  refine c_callSi F K hT (c_BRi_sideOf l hw) (tw_gS tq_169 tq_170 tq_146 tq_171) q_BRi_sideOf rfl ⟨by decide, by decide⟩ ⟨by omega, by omega⟩ rfl (Nat.le_of_ble_eq_true rfl) d_BCu_walk_9 (fun r_4 T_3 hw hT => ?_)
  refine j_iload F 0 d_BCu_walk_12 rfl ?_
  refine j_isub F d_BCu_walk_14 ?_
  refine j_nmi (fun v5_5 e_v5_5 => ?_)
  have hw := hw v5_5 e_v5_5
  refine j_istore F [(5, vi v5_5), (4, vi r_2), (0, .ref v0), (1, .ref v1), (2, vi v2), (3, vi v3)] d_BCu_walk_15 (by decide) rfl ?_
  refine j_aload_n F 3 d_BCu_walk_17 rfl ?_
  refine j_iload F 1 d_BCu_walk_18 rfl ?_
  obtain ⟨hg1, hw⟩ := hw
  refine c_callVi F K hT (c_BPt_at l hw) (tw_gV tq_166 tq_136 tq_137 tq_126 tq_138) 2 rfl (by decide) hg1 q_BPt_at rfl ⟨by decide, by decide⟩ ⟨by omega, by omega⟩ rfl (Nat.le_of_ble_eq_true rfl) d_BCu_walk_20 (fun r_7 T_6 hw hT => ?_)
  refine j_aload_n F 3 d_BCu_walk_23 rfl ?_
  refine j_iload F 1 d_BCu_walk_24 rfl ?_
  refine j_iconst F d_BCu_walk_26 ?_
  refine j_iadd F d_BCu_walk_27 ?_
  obtain ⟨hg1, hw⟩ := hw
  refine c_callVi F K hT (c_BPt_at l hw) (tw_gV tq_166 tq_136 tq_137 tq_126 tq_138) 2 rfl (by decide) hg1 q_BPt_at rfl ⟨by decide, by decide⟩ ⟨by omega, by omega⟩ rfl (Nat.le_of_ble_eq_true rfl) d_BCu_walk_28 (fun r_9 T_8 hw hT => ?_)
  obtain ⟨hc1, hc2, hwt, hwf⟩ := hw
  refine j_icmp_ge F 38 hc1 hc2 d_BCu_walk_31 rfl (fun hh => ?_) (fun hh => ?_)
  · have hw := hwt hh
    refine j_iconst F d_BCu_walk_38 ?_
    refine j_sub [2, 3, 4, 5, 1, 0] rfl ?_
    exact B39 _ _ _ _ _ _ _ _ hT hw
  · have hw := hwf hh
    refine j_iconst F d_BCu_walk_34 ?_
    refine j_goto F 39 d_BCu_walk_35 rfl ?_
    refine j_sub [2, 3, 4, 5, 1, 0] rfl ?_
    exact B39 _ _ _ _ _ _ _ _ hT hw
theorem tq_185 : (Jvm.Cond.methodLink "LandBook$Cutter" (26 : Nat) ({ cls := "LandBook$Cutter", name := "fits", desc := "(LLandBook$Points;LLandBook$Points;)Z" } : Jvm.MethodName)) ∈ tw_G := tw_in (List.mem_of_getElem? (i := 625) (by decide +kernel)) rfl
theorem tq_186 : (Jvm.Cond.static ({ cls := "LandBook$Cutter", name := "fits", desc := "(LLandBook$Points;LLandBook$Points;)Z" } : Jvm.MethodName)) ∈ tw_G := tw_in (List.mem_of_getElem? (i := 626) (by decide +kernel)) rfl
theorem tq_187 : (Jvm.Cond.code ({ cls := "LandBook$Cutter", name := "fits", desc := "(LLandBook$Points;LLandBook$Points;)Z" } : Jvm.MethodName) prog_2_method_3_code (4 : Nat) (Option.some Jvm.ClassFile.FieldType.boolean)) ∈ tw_G := tw_in (List.mem_of_getElem? (i := 627) (by decide +kernel)) rfl
theorem tq_188 : (Jvm.Cond.methodLink "LandBook$Cutter" (38 : Nat) ({ cls := "LandBook$Cutter", name := "walk", desc := "(LLandBook$Points;II)V" } : Jvm.MethodName)) ∈ tw_G := tw_in (List.mem_of_getElem? (i := 654) (by decide +kernel)) rfl
theorem tq_189 : (Jvm.Cond.instanceMethod ({ cls := "LandBook$Cutter", name := "walk", desc := "(LLandBook$Points;II)V" } : Jvm.MethodName)) ∈ tw_G := tw_in (List.mem_of_getElem? (i := 656) (by decide +kernel)) rfl
theorem tq_190 : (Jvm.Cond.selects "LandBook$Cutter" ⟨"LandBook$Cutter", "walk", "(LLandBook$Points;II)V"⟩ ⟨"LandBook$Cutter", "walk", "(LLandBook$Points;II)V"⟩) ∈ tw_G := tw_in (List.mem_of_getElem? (i := 9) (by decide +kernel)) rfl
theorem tq_191 : (Jvm.Cond.code ({ cls := "LandBook$Cutter", name := "walk", desc := "(LLandBook$Points;II)V" } : Jvm.MethodName) prog_2_method_6_code (8 : Nat) (Option.none : Option Jvm.ClassFile.FieldType)) ∈ tw_G := tw_in (List.mem_of_getElem? (i := 657) (by decide +kernel)) rfl
theorem tq_192 : (Jvm.Cond.fieldLink "LandBook$Cutter" (20 : Nat) "LandBook$Cutter" "first" "LLandBook$Points;") ∈ tw_G := tw_in (List.mem_of_getElem? (i := 124) (by decide +kernel)) rfl
theorem tq_193 : (Jvm.Cond.methodLink "LandBook$Cutter" (45 : Nat) ({ cls := "LandBook$Rings", name := "keep", desc := "(LLandBook$Points;LLandBook$Points;)V" } : Jvm.MethodName)) ∈ tw_G := tw_in (List.mem_of_getElem? (i := 660) (by decide +kernel)) rfl
theorem tq_194 : (Jvm.Cond.static ({ cls := "LandBook$Rings", name := "keep", desc := "(LLandBook$Points;LLandBook$Points;)V" } : Jvm.MethodName)) ∈ tw_G := tw_in (List.mem_of_getElem? (i := 429) (by decide +kernel)) rfl
theorem tq_195 : (Jvm.Cond.code ({ cls := "LandBook$Rings", name := "keep", desc := "(LLandBook$Points;LLandBook$Points;)V" } : Jvm.MethodName) prog_11_method_4_code (6 : Nat) (Option.none : Option Jvm.ClassFile.FieldType)) ∈ tw_G := tw_in (List.mem_of_getElem? (i := 430) (by decide +kernel)) rfl
theorem tq_196 : (Jvm.Cond.fieldLink "LandBook$Cutter" (23 : Nat) "LandBook$Cutter" "second" "LLandBook$Points;") ∈ tw_G := tw_in (List.mem_of_getElem? (i := 126) (by decide +kernel)) rfl
abbrev y_BCu_cut : MethodName := ⟨"LandBook$Cutter", "cut", "(LLandBook$Points;LLandBook$Points;)Z"⟩
theorem q_BCu_cut : y_BCu_cut.cls = "LandBook$Cutter" ∧ y_BCu_cut.cls ≠ "java/lang/invoke/MethodHandle" ∧ y_BCu_cut.cls ≠ "java/lang/invoke/VarHandle" ∧ (parseMethodDescriptor y_BCu_cut.desc).map (fun d => d.parameters.length) = some 2 := by decide +kernel
theorem d_BCu_cut_0 : decode prog_2_method_2_code 0 = .ok (.aload_n 1, 1) := by decide +kernel
theorem d_BCu_cut_1 : decode prog_2_method_2_code 1 = .ok (.aload_n 2, 1) := by decide +kernel
theorem d_BCu_cut_2 : decode prog_2_method_2_code 2 = .ok (.invokestatic 26, 3) := by decide +kernel
theorem d_BCu_cut_5 : decode prog_2_method_2_code 5 = .ok (.ifCond .ne 5, 3) := by decide +kernel
theorem d_BCu_cut_10 : decode prog_2_method_2_code 10 = .ok (.aload_n 2, 1) := by decide +kernel
theorem d_BCu_cut_11 : decode prog_2_method_2_code 11 = .ok (.getfield 30, 3) := by decide +kernel
theorem d_BCu_cut_14 : decode prog_2_method_2_code 14 = .ok (.iconst 1, 1) := by decide +kernel
theorem d_BCu_cut_15 : decode prog_2_method_2_code 15 = .ok (.isub, 1) := by decide +kernel
theorem d_BCu_cut_16 : decode prog_2_method_2_code 16 = .ok (.istore_n 3, 1) := by decide +kernel
theorem d_BCu_cut_17 : decode prog_2_method_2_code 17 = .ok (.aload_n 0, 1) := by decide +kernel
theorem d_BCu_cut_18 : decode prog_2_method_2_code 18 = .ok (.aload_n 1, 1) := by decide +kernel
theorem d_BCu_cut_19 : decode prog_2_method_2_code 19 = .ok (.aload_n 2, 1) := by decide +kernel
theorem d_BCu_cut_20 : decode prog_2_method_2_code 20 = .ok (.iconst 0, 1) := by decide +kernel
theorem d_BCu_cut_21 : decode prog_2_method_2_code 21 = .ok (.invokevirtual 34, 3) := by decide +kernel
theorem d_BCu_cut_24 : decode prog_2_method_2_code 24 = .ok (.aload_n 2, 1) := by decide +kernel
theorem d_BCu_cut_25 : decode prog_2_method_2_code 25 = .ok (.iload_n 3, 1) := by decide +kernel
theorem d_BCu_cut_26 : decode prog_2_method_2_code 26 = .ok (.invokevirtual 34, 3) := by decide +kernel
theorem d_BCu_cut_29 : decode prog_2_method_2_code 29 = .ok (.invokevirtual 38, 3) := by decide +kernel
theorem d_BCu_cut_32 : decode prog_2_method_2_code 32 = .ok (.iload_n 3, 1) := by decide +kernel
theorem d_BCu_cut_33 : decode prog_2_method_2_code 33 = .ok (.iconst 1, 1) := by decide +kernel
theorem d_BCu_cut_34 : decode prog_2_method_2_code 34 = .ok (.isub, 1) := by decide +kernel
theorem d_BCu_cut_35 : decode prog_2_method_2_code 35 = .ok (.istore 4, 2) := by decide +kernel
theorem d_BCu_cut_8 : decode prog_2_method_2_code 8 = .ok (.iconst 0, 1) := by decide +kernel
theorem d_BCu_cut_9 : decode prog_2_method_2_code 9 = .ok (.ireturn, 1) := by decide +kernel
theorem d_BCu_cut_37 : decode prog_2_method_2_code 37 = .ok (.iload 4, 2) := by decide +kernel
theorem d_BCu_cut_39 : decode prog_2_method_2_code 39 = .ok (.ifCond .le 22, 3) := by decide +kernel
theorem d_BCu_cut_61 : decode prog_2_method_2_code 61 = .ok (.aload_n 0, 1) := by decide +kernel
theorem d_BCu_cut_62 : decode prog_2_method_2_code 62 = .ok (.getfield 16, 3) := by decide +kernel
theorem d_BCu_cut_65 : decode prog_2_method_2_code 65 = .ok (.aload_n 0, 1) := by decide +kernel
theorem d_BCu_cut_66 : decode prog_2_method_2_code 66 = .ok (.getfield 20, 3) := by decide +kernel
theorem d_BCu_cut_69 : decode prog_2_method_2_code 69 = .ok (.invokestatic 45, 3) := by decide +kernel
theorem d_BCu_cut_72 : decode prog_2_method_2_code 72 = .ok (.aload_n 0, 1) := by decide +kernel
theorem d_BCu_cut_73 : decode prog_2_method_2_code 73 = .ok (.aload_n 1, 1) := by decide +kernel
theorem d_BCu_cut_74 : decode prog_2_method_2_code 74 = .ok (.aload_n 2, 1) := by decide +kernel
theorem d_BCu_cut_75 : decode prog_2_method_2_code 75 = .ok (.iload_n 3, 1) := by decide +kernel
theorem d_BCu_cut_76 : decode prog_2_method_2_code 76 = .ok (.invokevirtual 34, 3) := by decide +kernel
theorem d_BCu_cut_79 : decode prog_2_method_2_code 79 = .ok (.aload_n 2, 1) := by decide +kernel
theorem d_BCu_cut_80 : decode prog_2_method_2_code 80 = .ok (.iconst 0, 1) := by decide +kernel
theorem d_BCu_cut_81 : decode prog_2_method_2_code 81 = .ok (.invokevirtual 34, 3) := by decide +kernel
theorem d_BCu_cut_84 : decode prog_2_method_2_code 84 = .ok (.invokevirtual 38, 3) := by decide +kernel
theorem d_BCu_cut_87 : decode prog_2_method_2_code 87 = .ok (.iconst 1, 1) := by decide +kernel
theorem d_BCu_cut_88 : decode prog_2_method_2_code 88 = .ok (.istore 4, 2) := by decide +kernel
theorem d_BCu_cut_42 : decode prog_2_method_2_code 42 = .ok (.aload_n 0, 1) := by decide +kernel
theorem d_BCu_cut_43 : decode prog_2_method_2_code 43 = .ok (.getfield 16, 3) := by decide +kernel
theorem d_BCu_cut_46 : decode prog_2_method_2_code 46 = .ok (.aload_n 2, 1) := by decide +kernel
theorem d_BCu_cut_47 : decode prog_2_method_2_code 47 = .ok (.iload 4, 2) := by decide +kernel
theorem d_BCu_cut_49 : decode prog_2_method_2_code 49 = .ok (.invokevirtual 34, 3) := by decide +kernel
theorem d_BCu_cut_52 : decode prog_2_method_2_code 52 = .ok (.invokevirtual 42, 3) := by decide +kernel
theorem d_BCu_cut_55 : decode prog_2_method_2_code 55 = .ok (.iinc 4 (-1), 3) := by decide +kernel
theorem d_BCu_cut_58 : decode prog_2_method_2_code 58 = .ok (.goto (-21), 3) := by decide +kernel
theorem d_BCu_cut_90 : decode prog_2_method_2_code 90 = .ok (.iload 4, 2) := by decide +kernel
theorem d_BCu_cut_92 : decode prog_2_method_2_code 92 = .ok (.iload_n 3, 1) := by decide +kernel
theorem d_BCu_cut_93 : decode prog_2_method_2_code 93 = .ok (.if_icmp .ge 22, 3) := by decide +kernel
theorem d_BCu_cut_115 : decode prog_2_method_2_code 115 = .ok (.aload_n 0, 1) := by decide +kernel
theorem d_BCu_cut_116 : decode prog_2_method_2_code 116 = .ok (.getfield 16, 3) := by decide +kernel
theorem d_BCu_cut_119 : decode prog_2_method_2_code 119 = .ok (.aload_n 0, 1) := by decide +kernel
theorem d_BCu_cut_120 : decode prog_2_method_2_code 120 = .ok (.getfield 23, 3) := by decide +kernel
theorem d_BCu_cut_123 : decode prog_2_method_2_code 123 = .ok (.invokestatic 45, 3) := by decide +kernel
theorem d_BCu_cut_126 : decode prog_2_method_2_code 126 = .ok (.iconst 1, 1) := by decide +kernel
theorem d_BCu_cut_127 : decode prog_2_method_2_code 127 = .ok (.ireturn, 1) := by decide +kernel
theorem d_BCu_cut_96 : decode prog_2_method_2_code 96 = .ok (.aload_n 0, 1) := by decide +kernel
theorem d_BCu_cut_97 : decode prog_2_method_2_code 97 = .ok (.getfield 16, 3) := by decide +kernel
theorem d_BCu_cut_100 : decode prog_2_method_2_code 100 = .ok (.aload_n 2, 1) := by decide +kernel
theorem d_BCu_cut_101 : decode prog_2_method_2_code 101 = .ok (.iload 4, 2) := by decide +kernel
theorem d_BCu_cut_103 : decode prog_2_method_2_code 103 = .ok (.invokevirtual 34, 3) := by decide +kernel
theorem d_BCu_cut_106 : decode prog_2_method_2_code 106 = .ok (.invokevirtual 42, 3) := by decide +kernel
theorem d_BCu_cut_109 : decode prog_2_method_2_code 109 = .ok (.iinc 4 1, 3) := by decide +kernel
theorem d_BCu_cut_112 : decode prog_2_method_2_code 112 = .ok (.goto (-22), 3) := by decide +kernel
def wp_BCu_cut_90 (post : Int → CS → Prop) : Nat → Nat → Nat → Int → Int → CS → Prop
  | 0, _, _, _, _, _ => False
  | n + 1, v0, v2, v3, v4, T => inR v4 ∧ inR v3 ∧ (v3 ≤ v4 → (tg T v0 = 3 ∧ ∃ q_1 : Nat, fo T v0 0 = some q_1 ∧ (tg T v0 = 3 ∧ ∃ q_2 : Nat, fo T v0 2 = some q_2 ∧ (wp_BRi_keep (fun T_3 => post 1 T_3) q_1 q_2 T)))) ∧ (¬ (v3 ≤ v4) → (tg T v0 = 3 ∧ ∃ q_5 : Nat, fo T v0 0 = some q_5 ∧ (tg T v2 = 2 ∧ wp_BPt_at (fun r_7 T_6 => tg T_6 q_5 = 2 ∧ wp_BPt_add (fun T_8 => (wp_BCu_cut_90 post n) v0 v2 v3 (v4 + 1) T_8) q_5 r_7 T_6) v2 v4 T)))
def wp_BCu_cut_37 (post : Int → CS → Prop) : Nat → Nat → Nat → Nat → Int → Int → CS → Prop
  | 0, _, _, _, _, _, _ => False
  | n + 1, v0, v1, v2, v3, v4, T => inR v4 ∧ (v4 ≤ 0 → (tg T v0 = 3 ∧ ∃ q_1 : Nat, fo T v0 0 = some q_1 ∧ (tg T v0 = 3 ∧ ∃ q_2 : Nat, fo T v0 1 = some q_2 ∧ (wp_BRi_keep (fun T_3 => tg T_3 v2 = 2 ∧ wp_BPt_at (fun r_6 T_5 => tg T_5 v2 = 2 ∧ wp_BPt_at (fun r_8 T_7 => tg T_7 v0 = 3 ∧ wp_BCu_walk (fun T_9 => ∃ nn : Nat, wp_BCu_cut_90 post nn v0 v2 v3 1 T_9) v0 v1 r_6 r_8 T_7) v2 0 T_5) v2 v3 T_3) q_1 q_2 T)))) ∧ (¬ (v4 ≤ 0) → (tg T v0 = 3 ∧ ∃ q_11 : Nat, fo T v0 0 = some q_11 ∧ (tg T v2 = 2 ∧ wp_BPt_at (fun r_13 T_12 => tg T_12 q_11 = 2 ∧ wp_BPt_add (fun T_14 => (wp_BCu_cut_37 post n) v0 v1 v2 v3 (v4 + (-1)) T_14) q_11 r_13 T_12) v2 v4 T)))
def wp_BCu_cut (post : Int → CS → Prop) (v0 : Nat) (v1 : Nat) (v2 : Nat) (T : CS) : Prop := wp_BCu_fits (fun r_2 T_1 => inR r_2 ∧ (¬ (r_2 = 0) → (tg T_1 v2 = 2 ∧ (∀ v3_3 : Int, v3_3 = ((fi T_1 v2 1) - 1) → tg T_1 v2 = 2 ∧ wp_BPt_at (fun r_5 T_4 => tg T_4 v2 = 2 ∧ wp_BPt_at (fun r_7 T_6 => tg T_6 v0 = 3 ∧ wp_BCu_walk (fun T_8 => ∃ nn : Nat, wp_BCu_cut_37 post nn v0 v1 v2 v3_3 (v3_3 - 1) T_8) v0 v1 r_5 r_7 T_6) v2 v3_3 T_4) v2 0 T_1))) ∧ (r_2 = 0 → post 0 T_1)) v1 v2 T
set_option maxHeartbeats 4000000 in
set_option maxRecDepth 100000 in
theorem c_BCu_cut (l : Launch) {D : va_G} {k : CK} {post : Int → CS → Prop} {v0 : Nat} {v1 : Nat} {v2 : Nat} {T : CS} (hw : wp_BCu_cut post v0 v1 v2 T) : jCi l D k y_BCu_cut prog_2_method_2_code 5 (some .boolean) 5 121 0 0 T [.ref v0, .ref v1, .ref v2] post := by
  refine j_coz (own := "LandBook$Cutter") (by decide) rfl (Nat.le_of_ble_eq_true rfl) (fun X F K hT hret => ?_)
  have B90 : ∀ (nn : Nat) (v0 : Nat) (v2 : Nat) (v3 : Int) (v4 : Int) (T : CS), cs_ok k T → wp_BCu_cut_90 post nn v0 v2 v3 v4 T → jat l D X 5 90 [(0, .ref v0), (2, .ref v2), (3, vi v3), (4, vi v4)] [] (cwd k T) 0 0 := by
    intro nn
    induction nn with
    | zero => intro v0 v2 v3 v4 T hT hw; exact hw.elim
    | succ n90 ih90 =>
      intro v0 v2 v3 v4 T hT hw
      unfold wp_BCu_cut_90 at hw
      refine j_iload F 3 d_BCu_cut_90 rfl ?_
      refine j_iload_n F 2 d_BCu_cut_92 rfl ?_
      obtain ⟨hc1, hc2, hwt, hwf⟩ := hw
      refine j_icmp_ge F 115 hc1 hc2 d_BCu_cut_93 rfl (fun hh => ?_) (fun hh => ?_)
      · have hw := hwt hh
        refine j_aload_n F 0 d_BCu_cut_115 rfl ?_
        obtain ⟨hc1, q_1, hc2, hw⟩ := hw
        refine c_getr F K hT 3 0 rfl tu_Cutter (by decide) (by decide) rfl tq_182 (Or.inl rfl) hc1 hc2 d_BCu_cut_116 ?_
        refine j_aload_n F 0 d_BCu_cut_119 rfl ?_
        obtain ⟨hc1, q_2, hc2, hw⟩ := hw
        refine c_getr F K hT 3 2 rfl tu_Cutter (by decide) (by decide) rfl tq_196 (Or.inl rfl) hc1 hc2 d_BCu_cut_120 ?_
        refine c_callSv F K hT (c_BRi_keep l hw) (tw_gS tq_193 tq_194 tq_146 tq_195) q_BRi_keep rfl ⟨by decide, by decide⟩ ⟨by omega, by omega⟩ rfl (Nat.le_of_ble_eq_true rfl) d_BCu_cut_123 (fun T_3 hw hT => ?_)
        refine j_iconst F d_BCu_cut_126 ?_
        exact hret _ _ _ _ _ _ hw hT (by omega) (by omega) (Or.inr rfl) d_BCu_cut_127
      · have hw := hwf hh
        refine j_aload_n F 0 d_BCu_cut_96 rfl ?_
        obtain ⟨hc1, q_5, hc2, hw⟩ := hw
        refine c_getr F K hT 3 0 rfl tu_Cutter (by decide) (by decide) rfl tq_182 (Or.inl rfl) hc1 hc2 d_BCu_cut_97 ?_
        refine j_aload_n F 1 d_BCu_cut_100 rfl ?_
        refine j_iload F 3 d_BCu_cut_101 rfl ?_
        obtain ⟨hg1, hw⟩ := hw
        refine c_callVi F K hT (c_BPt_at l hw) (tw_gV tq_166 tq_136 tq_137 tq_126 tq_138) 2 rfl (by decide) hg1 q_BPt_at rfl ⟨by decide, by decide⟩ ⟨by omega, by omega⟩ rfl (Nat.le_of_ble_eq_true rfl) d_BCu_cut_103 (fun r_7 T_6 hw hT => ?_)
        obtain ⟨hg1, hw⟩ := hw
        refine c_callVv F K hT (c_BPt_add l hw) (tw_gV tq_184 tq_131 tq_132 tq_126 tq_133) 2 rfl (by decide) hg1 q_BPt_add rfl ⟨by decide, by decide⟩ ⟨by omega, by omega⟩ rfl (Nat.le_of_ble_eq_true rfl) d_BCu_cut_106 (fun T_8 hw hT => ?_)
        refine j_iinc F 3 [(4, vi (v4 + 1)), (0, .ref v0), (2, .ref v2), (3, vi v3)] d_BCu_cut_109 rfl (by decide) rfl ?_
        refine j_goto F 90 d_BCu_cut_112 rfl ?_
        refine j_sub [1, 2, 3, 0] rfl ?_
        exact ih90 _ _ _ _ _ hT hw
  have B37 : ∀ (nn : Nat) (v0 : Nat) (v1 : Nat) (v2 : Nat) (v3 : Int) (v4 : Int) (T : CS), cs_ok k T → wp_BCu_cut_37 post nn v0 v1 v2 v3 v4 T → jat l D X 5 37 [(0, .ref v0), (1, .ref v1), (2, .ref v2), (3, vi v3), (4, vi v4)] [] (cwd k T) 0 0 := by
    intro nn
    induction nn with
    | zero => intro v0 v1 v2 v3 v4 T hT hw; exact hw.elim
    | succ n37 ih37 =>
      intro v0 v1 v2 v3 v4 T hT hw
      unfold wp_BCu_cut_37 at hw
      refine j_iload F 4 d_BCu_cut_37 rfl ?_
      obtain ⟨hc1, hwt, hwf⟩ := hw
      refine j_if_le F 61 hc1 d_BCu_cut_39 rfl (fun hh => ?_) (fun hh => ?_)
      · have hw := hwt hh
        refine j_aload_n F 0 d_BCu_cut_61 rfl ?_
        obtain ⟨hc1, q_1, hc2, hw⟩ := hw
        refine c_getr F K hT 3 0 rfl tu_Cutter (by decide) (by decide) rfl tq_182 (Or.inl rfl) hc1 hc2 d_BCu_cut_62 ?_
        refine j_aload_n F 0 d_BCu_cut_65 rfl ?_
        obtain ⟨hc1, q_2, hc2, hw⟩ := hw
        refine c_getr F K hT 3 1 rfl tu_Cutter (by decide) (by decide) rfl tq_192 (Or.inl rfl) hc1 hc2 d_BCu_cut_66 ?_
        refine c_callSv F K hT (c_BRi_keep l hw) (tw_gS tq_193 tq_194 tq_146 tq_195) q_BRi_keep rfl ⟨by decide, by decide⟩ ⟨by omega, by omega⟩ rfl (Nat.le_of_ble_eq_true rfl) d_BCu_cut_69 (fun T_3 hw hT => ?_)
        refine j_aload_n F 0 d_BCu_cut_72 rfl ?_
        refine j_aload_n F 1 d_BCu_cut_73 rfl ?_
        refine j_aload_n F 2 d_BCu_cut_74 rfl ?_
        refine j_iload_n F 3 d_BCu_cut_75 rfl ?_
        obtain ⟨hg1, hw⟩ := hw
        refine c_callVi F K hT (c_BPt_at l hw) (tw_gV tq_166 tq_136 tq_137 tq_126 tq_138) 2 rfl (by decide) hg1 q_BPt_at rfl ⟨by decide, by decide⟩ ⟨by omega, by omega⟩ rfl (Nat.le_of_ble_eq_true rfl) d_BCu_cut_76 (fun r_6 T_5 hw hT => ?_)
        refine j_aload_n F 2 d_BCu_cut_79 rfl ?_
        refine j_iconst F d_BCu_cut_80 ?_
        obtain ⟨hg1, hw⟩ := hw
        refine c_callVi F K hT (c_BPt_at l hw) (tw_gV tq_166 tq_136 tq_137 tq_126 tq_138) 2 rfl (by decide) hg1 q_BPt_at rfl ⟨by decide, by decide⟩ ⟨by omega, by omega⟩ rfl (Nat.le_of_ble_eq_true rfl) d_BCu_cut_81 (fun r_8 T_7 hw hT => ?_)
        obtain ⟨hg1, hw⟩ := hw
        refine c_callVv F K hT (c_BCu_walk l hw) (tw_gV tq_188 tq_189 tq_190 tq_177 tq_191) 3 rfl (by decide) hg1 q_BCu_walk rfl ⟨by decide, by decide⟩ ⟨by omega, by omega⟩ rfl (Nat.le_of_ble_eq_true rfl) d_BCu_cut_84 (fun T_9 hw hT => ?_)
        refine j_iconst F d_BCu_cut_87 ?_
        refine j_istore F [(4, vi 1), (0, .ref v0), (1, .ref v1), (2, .ref v2), (3, vi v3)] d_BCu_cut_88 (by decide) rfl ?_
        refine j_sub [1, 3, 4, 0] rfl ?_
        obtain ⟨nn, hw⟩ := hw
        exact B90 nn _ _ _ _ _ hT hw
      · have hw := hwf hh
        refine j_aload_n F 0 d_BCu_cut_42 rfl ?_
        obtain ⟨hc1, q_11, hc2, hw⟩ := hw
        refine c_getr F K hT 3 0 rfl tu_Cutter (by decide) (by decide) rfl tq_182 (Or.inl rfl) hc1 hc2 d_BCu_cut_43 ?_
        refine j_aload_n F 2 d_BCu_cut_46 rfl ?_
        refine j_iload F 4 d_BCu_cut_47 rfl ?_
        obtain ⟨hg1, hw⟩ := hw
        refine c_callVi F K hT (c_BPt_at l hw) (tw_gV tq_166 tq_136 tq_137 tq_126 tq_138) 2 rfl (by decide) hg1 q_BPt_at rfl ⟨by decide, by decide⟩ ⟨by omega, by omega⟩ rfl (Nat.le_of_ble_eq_true rfl) d_BCu_cut_49 (fun r_13 T_12 hw hT => ?_)
        obtain ⟨hg1, hw⟩ := hw
        refine c_callVv F K hT (c_BPt_add l hw) (tw_gV tq_184 tq_131 tq_132 tq_126 tq_133) 2 rfl (by decide) hg1 q_BPt_add rfl ⟨by decide, by decide⟩ ⟨by omega, by omega⟩ rfl (Nat.le_of_ble_eq_true rfl) d_BCu_cut_52 (fun T_14 hw hT => ?_)
        refine j_iinc F 4 [(4, vi (v4 + (-1))), (0, .ref v0), (1, .ref v1), (2, .ref v2), (3, vi v3)] d_BCu_cut_55 rfl (by decide) rfl ?_
        refine j_goto F 37 d_BCu_cut_58 rfl ?_
        refine j_sub [1, 2, 3, 4, 0] rfl ?_
        exact ih37 _ _ _ _ _ _ hT hw
  unfold wp_BCu_cut at hw
  show jat l D X 5 0 [(0, .ref v0), (1, .ref v1), (2, .ref v2)] [] (cwd k T) 0 0
  refine j_aload_n F 1 d_BCu_cut_0 rfl ?_
  refine j_aload_n F 2 d_BCu_cut_1 rfl ?_
  refine c_callSi F K hT (c_BCu_fits l hw) (tw_gS tq_185 tq_186 tq_177 tq_187) q_BCu_fits rfl ⟨by decide, by decide⟩ ⟨by omega, by omega⟩ rfl (Nat.le_of_ble_eq_true rfl) d_BCu_cut_2 (fun r_2 T_1 hw hT => ?_)
  obtain ⟨hc1, hwt, hwf⟩ := hw
  refine j_if_ne F 10 hc1 d_BCu_cut_5 rfl (fun hh => ?_) (fun hh => ?_)
  · have hw := hwt hh
    refine j_aload_n F 2 d_BCu_cut_10 rfl ?_
    obtain ⟨hc1, hw⟩ := hw
    refine c_geti F K hT 2 1 rfl tu_Points (by decide) (by decide) rfl tq_165 (Or.inl rfl) hc1 d_BCu_cut_11 ?_
    refine j_iconst F d_BCu_cut_14 ?_
    refine j_isub F d_BCu_cut_15 ?_
    refine j_nmi (fun v3_3 e_v3_3 => ?_)
    have hw := hw v3_3 e_v3_3
    refine j_istore_n F [(3, vi v3_3), (0, .ref v0), (1, .ref v1), (2, .ref v2)] d_BCu_cut_16 (by decide) rfl ?_
    refine j_aload_n F 1 d_BCu_cut_17 rfl ?_
    refine j_aload_n F 2 d_BCu_cut_18 rfl ?_
    refine j_aload_n F 3 d_BCu_cut_19 rfl ?_
    refine j_iconst F d_BCu_cut_20 ?_
    obtain ⟨hg1, hw⟩ := hw
    refine c_callVi F K hT (c_BPt_at l hw) (tw_gV tq_166 tq_136 tq_137 tq_126 tq_138) 2 rfl (by decide) hg1 q_BPt_at rfl ⟨by decide, by decide⟩ ⟨by omega, by omega⟩ rfl (Nat.le_of_ble_eq_true rfl) d_BCu_cut_21 (fun r_5 T_4 hw hT => ?_)
    refine j_aload_n F 3 d_BCu_cut_24 rfl ?_
    refine j_iload_n F 0 d_BCu_cut_25 rfl ?_
    obtain ⟨hg1, hw⟩ := hw
    refine c_callVi F K hT (c_BPt_at l hw) (tw_gV tq_166 tq_136 tq_137 tq_126 tq_138) 2 rfl (by decide) hg1 q_BPt_at rfl ⟨by decide, by decide⟩ ⟨by omega, by omega⟩ rfl (Nat.le_of_ble_eq_true rfl) d_BCu_cut_26 (fun r_7 T_6 hw hT => ?_)
    obtain ⟨hg1, hw⟩ := hw
    refine c_callVv F K hT (c_BCu_walk l hw) (tw_gV tq_188 tq_189 tq_190 tq_177 tq_191) 3 rfl (by decide) hg1 q_BCu_walk rfl ⟨by decide, by decide⟩ ⟨by omega, by omega⟩ rfl (Nat.le_of_ble_eq_true rfl) d_BCu_cut_29 (fun T_8 hw hT => ?_)
    refine j_iload_n F 0 d_BCu_cut_32 rfl ?_
    refine j_iconst F d_BCu_cut_33 ?_
    refine j_isub F d_BCu_cut_34 ?_
    refine j_istore F [(4, vi (v3_3 - 1)), (3, vi v3_3), (0, .ref v0), (1, .ref v1), (2, .ref v2)] d_BCu_cut_35 (by decide) rfl ?_
    refine j_sub [2, 3, 4, 1, 0] rfl ?_
    obtain ⟨nn, hw⟩ := hw
    exact B37 nn _ _ _ _ _ _ hT hw
  · have hw := hwf hh
    refine j_iconst F d_BCu_cut_8 ?_
    exact hret _ _ _ _ _ _ hw hT (by omega) (by omega) (Or.inl rfl) d_BCu_cut_9
