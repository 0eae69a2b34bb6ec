theorem tq_547 : (Jvm.Cond.methodLink "LandBook" (167 : Nat) ({ cls := "LandBook", name := "checkPerson", desc := "(I)V" } : Jvm.MethodName)) ∈ tw_G := tw_in (List.mem_of_getElem? (i := 823) (by decide +kernel)) rfl
theorem tq_548 : (Jvm.Cond.static ({ cls := "LandBook", name := "checkPerson", desc := "(I)V" } : Jvm.MethodName)) ∈ tw_G := tw_in (List.mem_of_getElem? (i := 824) (by decide +kernel)) rfl
theorem tq_549 : (Jvm.Cond.code ({ cls := "LandBook", name := "checkPerson", desc := "(I)V" } : Jvm.MethodName) prog_1_method_30_code (1 : Nat) (Option.none : Option Jvm.ClassFile.FieldType)) ∈ tw_G := tw_in (List.mem_of_getElem? (i := 825) (by decide +kernel)) rfl
theorem tq_550 : (Jvm.Cond.methodLink "LandBook" (170 : Nat) ({ cls := "LandBook", name := "checkTerm", desc := "(I)V" } : Jvm.MethodName)) ∈ tw_G := tw_in (List.mem_of_getElem? (i := 827) (by decide +kernel)) rfl
theorem tq_551 : (Jvm.Cond.static ({ cls := "LandBook", name := "checkTerm", desc := "(I)V" } : Jvm.MethodName)) ∈ tw_G := tw_in (List.mem_of_getElem? (i := 828) (by decide +kernel)) rfl
theorem tq_552 : (Jvm.Cond.code ({ cls := "LandBook", name := "checkTerm", desc := "(I)V" } : Jvm.MethodName) prog_1_method_31_code (1 : Nat) (Option.none : Option Jvm.ClassFile.FieldType)) ∈ tw_G := tw_in (List.mem_of_getElem? (i := 829) (by decide +kernel)) rfl
theorem tq_553 : (Jvm.Cond.methodLink "LandBook" (176 : Nat) ({ cls := "LandBook$Register", name := "shareOf", desc := "(IIII)I" } : Jvm.MethodName)) ∈ tw_G := tw_in (List.mem_of_getElem? (i := 831) (by decide +kernel)) rfl
theorem tq_554 : (Jvm.Cond.instanceMethod ({ cls := "LandBook$Register", name := "shareOf", desc := "(IIII)I" } : Jvm.MethodName)) ∈ tw_G := tw_in (List.mem_of_getElem? (i := 832) (by decide +kernel)) rfl
theorem tq_555 : (Jvm.Cond.selects "LandBook$Register" ({ cls := "LandBook$Register", name := "shareOf", desc := "(IIII)I" } : Jvm.MethodName) ({ cls := "LandBook$Register", name := "shareOf", desc := "(IIII)I" } : Jvm.MethodName)) ∈ tw_G := tw_in (List.mem_of_getElem? (i := 833) (by decide +kernel)) rfl
theorem tq_556 : (Jvm.Cond.code ({ cls := "LandBook$Register", name := "shareOf", desc := "(IIII)I" } : Jvm.MethodName) prog_10_method_16_code (5 : Nat) (Option.some Jvm.ClassFile.FieldType.int)) ∈ tw_G := tw_in (List.mem_of_getElem? (i := 834) (by decide +kernel)) rfl
theorem tq_557 : (Jvm.Cond.methodLink "LandBook" (180 : Nat) ({ cls := "LandBook$Deed", name := "<init>", desc := "(II[IIII)V" } : Jvm.MethodName)) ∈ tw_G := tw_in (List.mem_of_getElem? (i := 835) (by decide +kernel)) rfl
abbrev y_BLB_transfer : MethodName := ⟨"LandBook", "transfer", "(IIIIII)I"⟩
theorem q_BLB_transfer : y_BLB_transfer.cls = "LandBook" ∧ y_BLB_transfer.cls ≠ "java/lang/invoke/MethodHandle" ∧ y_BLB_transfer.cls ≠ "java/lang/invoke/VarHandle" ∧ (parseMethodDescriptor y_BLB_transfer.desc).map (fun d => d.parameters.length) = some 6 := by decide +kernel
theorem d_BLB_transfer_0 : decode prog_1_method_6_code 0 = .ok (.aload_n 0, 1) := by decide +kernel
theorem d_BLB_transfer_1 : decode prog_1_method_6_code 1 = .ok (.invokevirtual 99, 3) := by decide +kernel
theorem d_BLB_transfer_4 : decode prog_1_method_6_code 4 = .ok (.aload_n 0, 1) := by decide +kernel
theorem d_BLB_transfer_5 : decode prog_1_method_6_code 5 = .ok (.iload_n 1, 1) := by decide +kernel
theorem d_BLB_transfer_6 : decode prog_1_method_6_code 6 = .ok (.invokevirtual 102, 3) := by decide +kernel
theorem d_BLB_transfer_9 : decode prog_1_method_6_code 9 = .ok (.iload_n 2, 1) := by decide +kernel
theorem d_BLB_transfer_10 : decode prog_1_method_6_code 10 = .ok (.invokestatic 167, 3) := by decide +kernel
theorem d_BLB_transfer_13 : decode prog_1_method_6_code 13 = .ok (.iload_n 3, 1) := by decide +kernel
theorem d_BLB_transfer_14 : decode prog_1_method_6_code 14 = .ok (.invokestatic 167, 3) := by decide +kernel
theorem d_BLB_transfer_17 : decode prog_1_method_6_code 17 = .ok (.iload 4, 2) := by decide +kernel
theorem d_BLB_transfer_19 : decode prog_1_method_6_code 19 = .ok (.invokestatic 170, 3) := by decide +kernel
theorem d_BLB_transfer_22 : decode prog_1_method_6_code 22 = .ok (.iload 5, 2) := by decide +kernel
theorem d_BLB_transfer_24 : decode prog_1_method_6_code 24 = .ok (.invokestatic 170, 3) := by decide +kernel
theorem d_BLB_transfer_27 : decode prog_1_method_6_code 27 = .ok (.iload 6, 2) := by decide +kernel
theorem d_BLB_transfer_29 : decode prog_1_method_6_code 29 = .ok (.invokestatic 105, 3) := by decide +kernel
theorem d_BLB_transfer_32 : decode prog_1_method_6_code 32 = .ok (.iconst 1, 1) := by decide +kernel
theorem d_BLB_transfer_33 : decode prog_1_method_6_code 33 = .ok (.newarray .int, 2) := by decide +kernel
theorem d_BLB_transfer_35 : decode prog_1_method_6_code 35 = .ok (.dup, 1) := by decide +kernel
theorem d_BLB_transfer_36 : decode prog_1_method_6_code 36 = .ok (.iconst 0, 1) := by decide +kernel
theorem d_BLB_transfer_37 : decode prog_1_method_6_code 37 = .ok (.iload_n 1, 1) := by decide +kernel
theorem d_BLB_transfer_38 : decode prog_1_method_6_code 38 = .ok (.iastore, 1) := by decide +kernel
theorem d_BLB_transfer_39 : decode prog_1_method_6_code 39 = .ok (.astore 7, 2) := by decide +kernel
theorem d_BLB_transfer_41 : decode prog_1_method_6_code 41 = .ok (.aload_n 0, 1) := by decide +kernel
theorem d_BLB_transfer_42 : decode prog_1_method_6_code 42 = .ok (.getfield 38, 3) := by decide +kernel
theorem d_BLB_transfer_45 : decode prog_1_method_6_code 45 = .ok (.aload 7, 2) := by decide +kernel
theorem d_BLB_transfer_47 : decode prog_1_method_6_code 47 = .ok (.iload 6, 2) := by decide +kernel
theorem d_BLB_transfer_49 : decode prog_1_method_6_code 49 = .ok (.invokevirtual 108, 3) := by decide +kernel
theorem d_BLB_transfer_52 : decode prog_1_method_6_code 52 = .ok (.istore 8, 2) := by decide +kernel
theorem d_BLB_transfer_54 : decode prog_1_method_6_code 54 = .ok (.iload 8, 2) := by decide +kernel
theorem d_BLB_transfer_56 : decode prog_1_method_6_code 56 = .ok (.ifCond .eq 6, 3) := by decide +kernel
theorem d_BLB_transfer_62 : decode prog_1_method_6_code 62 = .ok (.sipush 5040, 3) := by decide +kernel
theorem d_BLB_transfer_65 : decode prog_1_method_6_code 65 = .ok (.iload 5, 2) := by decide +kernel
theorem d_BLB_transfer_67 : decode prog_1_method_6_code 67 = .ok (.idiv, 1) := by decide +kernel
theorem d_BLB_transfer_68 : decode prog_1_method_6_code 68 = .ok (.iload 4, 2) := by decide +kernel
theorem d_BLB_transfer_70 : decode prog_1_method_6_code 70 = .ok (.imul, 1) := by decide +kernel
theorem d_BLB_transfer_71 : decode prog_1_method_6_code 71 = .ok (.istore 9, 2) := by decide +kernel
theorem d_BLB_transfer_73 : decode prog_1_method_6_code 73 = .ok (.iload_n 2, 1) := by decide +kernel
theorem d_BLB_transfer_74 : decode prog_1_method_6_code 74 = .ok (.iload_n 3, 1) := by decide +kernel
theorem d_BLB_transfer_75 : decode prog_1_method_6_code 75 = .ok (.if_icmp .eq 35, 3) := by decide +kernel
theorem d_BLB_transfer_110 : decode prog_1_method_6_code 110 = .ok (.bipush (-3), 2) := by decide +kernel
theorem d_BLB_transfer_112 : decode prog_1_method_6_code 112 = .ok (.ireturn, 1) := by decide +kernel
theorem d_BLB_transfer_78 : decode prog_1_method_6_code 78 = .ok (.sipush 5040, 3) := by decide +kernel
theorem d_BLB_transfer_81 : decode prog_1_method_6_code 81 = .ok (.iload 5, 2) := by decide +kernel
theorem d_BLB_transfer_83 : decode prog_1_method_6_code 83 = .ok (.irem, 1) := by decide +kernel
theorem d_BLB_transfer_84 : decode prog_1_method_6_code 84 = .ok (.ifCond .ne 26, 3) := by decide +kernel
theorem d_BLB_transfer_87 : decode prog_1_method_6_code 87 = .ok (.aload_n 0, 1) := by decide +kernel
theorem d_BLB_transfer_88 : decode prog_1_method_6_code 88 = .ok (.getfield 38, 3) := by decide +kernel
theorem d_BLB_transfer_91 : decode prog_1_method_6_code 91 = .ok (.iload_n 1, 1) := by decide +kernel
theorem d_BLB_transfer_92 : decode prog_1_method_6_code 92 = .ok (.iload_n 2, 1) := by decide +kernel
theorem d_BLB_transfer_93 : decode prog_1_method_6_code 93 = .ok (.iload 6, 2) := by decide +kernel
theorem d_BLB_transfer_95 : decode prog_1_method_6_code 95 = .ok (.aload_n 0, 1) := by decide +kernel
theorem d_BLB_transfer_96 : decode prog_1_method_6_code 96 = .ok (.getfield 38, 3) := by decide +kernel
theorem d_BLB_transfer_99 : decode prog_1_method_6_code 99 = .ok (.invokevirtual 173, 3) := by decide +kernel
theorem d_BLB_transfer_102 : decode prog_1_method_6_code 102 = .ok (.invokevirtual 176, 3) := by decide +kernel
theorem d_BLB_transfer_105 : decode prog_1_method_6_code 105 = .ok (.iload 9, 2) := by decide +kernel
theorem d_BLB_transfer_107 : decode prog_1_method_6_code 107 = .ok (.if_icmp .ge 6, 3) := by decide +kernel
theorem d_BLB_transfer_113 : decode prog_1_method_6_code 113 = .ok (.iconst 2, 1) := by decide +kernel
theorem d_BLB_transfer_114 : decode prog_1_method_6_code 114 = .ok (.newarray .int, 2) := by decide +kernel
theorem d_BLB_transfer_116 : decode prog_1_method_6_code 116 = .ok (.dup, 1) := by decide +kernel
theorem d_BLB_transfer_117 : decode prog_1_method_6_code 117 = .ok (.iconst 0, 1) := by decide +kernel
theorem d_BLB_transfer_118 : decode prog_1_method_6_code 118 = .ok (.iload_n 1, 1) := by decide +kernel
theorem d_BLB_transfer_119 : decode prog_1_method_6_code 119 = .ok (.sipush 16384, 3) := by decide +kernel
theorem d_BLB_transfer_122 : decode prog_1_method_6_code 122 = .ok (.imul, 1) := by decide +kernel
theorem d_BLB_transfer_123 : decode prog_1_method_6_code 123 = .ok (.iload_n 2, 1) := by decide +kernel
theorem d_BLB_transfer_124 : decode prog_1_method_6_code 124 = .ok (.sipush 128, 3) := by decide +kernel
theorem d_BLB_transfer_127 : decode prog_1_method_6_code 127 = .ok (.imul, 1) := by decide +kernel
theorem d_BLB_transfer_128 : decode prog_1_method_6_code 128 = .ok (.iadd, 1) := by decide +kernel
theorem d_BLB_transfer_129 : decode prog_1_method_6_code 129 = .ok (.iload_n 3, 1) := by decide +kernel
theorem d_BLB_transfer_130 : decode prog_1_method_6_code 130 = .ok (.iadd, 1) := by decide +kernel
theorem d_BLB_transfer_131 : decode prog_1_method_6_code 131 = .ok (.iastore, 1) := by decide +kernel
theorem d_BLB_transfer_132 : decode prog_1_method_6_code 132 = .ok (.dup, 1) := by decide +kernel
theorem d_BLB_transfer_133 : decode prog_1_method_6_code 133 = .ok (.iconst 1, 1) := by decide +kernel
theorem d_BLB_transfer_134 : decode prog_1_method_6_code 134 = .ok (.iload 9, 2) := by decide +kernel
theorem d_BLB_transfer_136 : decode prog_1_method_6_code 136 = .ok (.iastore, 1) := by decide +kernel
theorem d_BLB_transfer_137 : decode prog_1_method_6_code 137 = .ok (.astore 10, 2) := by decide +kernel
theorem d_BLB_transfer_139 : decode prog_1_method_6_code 139 = .ok (.aload_n 0, 1) := by decide +kernel
theorem d_BLB_transfer_140 : decode prog_1_method_6_code 140 = .ok (.iconst 0, 1) := by decide +kernel
theorem d_BLB_transfer_141 : decode prog_1_method_6_code 141 = .ok (.iconst 0, 1) := by decide +kernel
theorem d_BLB_transfer_142 : decode prog_1_method_6_code 142 = .ok (.aload 10, 2) := by decide +kernel
theorem d_BLB_transfer_144 : decode prog_1_method_6_code 144 = .ok (.invokevirtual 135, 3) := by decide +kernel
theorem d_BLB_transfer_147 : decode prog_1_method_6_code 147 = .ok (.ifCond .eq 6, 3) := by decide +kernel
theorem d_BLB_transfer_153 : decode prog_1_method_6_code 153 = .ok (.aload_n 0, 1) := by decide +kernel
theorem d_BLB_transfer_154 : decode prog_1_method_6_code 154 = .ok (.new 143, 3) := by decide +kernel
theorem d_BLB_transfer_157 : decode prog_1_method_6_code 157 = .ok (.dup, 1) := by decide +kernel
theorem d_BLB_transfer_158 : decode prog_1_method_6_code 158 = .ok (.iconst 3, 1) := by decide +kernel
theorem d_BLB_transfer_159 : decode prog_1_method_6_code 159 = .ok (.iload 6, 2) := by decide +kernel
theorem d_BLB_transfer_161 : decode prog_1_method_6_code 161 = .ok (.aload 7, 2) := by decide +kernel
theorem d_BLB_transfer_163 : decode prog_1_method_6_code 163 = .ok (.iload_n 2, 1) := by decide +kernel
theorem d_BLB_transfer_164 : decode prog_1_method_6_code 164 = .ok (.iload_n 3, 1) := by decide +kernel
theorem d_BLB_transfer_165 : decode prog_1_method_6_code 165 = .ok (.iload 9, 2) := by decide +kernel
theorem d_BLB_transfer_167 : decode prog_1_method_6_code 167 = .ok (.invokespecial 180, 3) := by decide +kernel
theorem d_BLB_transfer_170 : decode prog_1_method_6_code 170 = .ok (.aload 10, 2) := by decide +kernel
theorem d_BLB_transfer_172 : decode prog_1_method_6_code 172 = .ok (.invokevirtual 148, 3) := by decide +kernel
theorem d_BLB_transfer_175 : decode prog_1_method_6_code 175 = .ok (.ireturn, 1) := by decide +kernel
theorem d_BLB_transfer_150 : decode prog_1_method_6_code 150 = .ok (.bipush (-4), 2) := by decide +kernel
theorem d_BLB_transfer_152 : decode prog_1_method_6_code 152 = .ok (.ireturn, 1) := by decide +kernel
theorem d_BLB_transfer_59 : decode prog_1_method_6_code 59 = .ok (.iload 8, 2) := by decide +kernel
theorem d_BLB_transfer_61 : decode prog_1_method_6_code 61 = .ok (.ireturn, 1) := by decide +kernel
def wp_BLB_transfer (post : Int → CS → Prop) (pe : String → CS → Prop) (mc0 ms0 : Nat) (v0 : Nat) (v1 : Int) (v2 : Int) (v3 : Int) (v4 : Int) (v5 : Int) (v6 : Int) (T : CS) : Prop := ∃ mc_3 ms_4 mc_5 ms_6 : Nat, (mc0 = mc_3 + mc_5 ∧ ms0 = ms_4 + ms_6) ∧ tg T v0 = 1 ∧ wp_BLB_checkUp (fun T_1 => ∃ mc_9 ms_10 mc_11 ms_12 : Nat, (mc_5 = mc_9 + mc_11 ∧ ms_6 = ms_10 + ms_12) ∧ tg T_1 v0 = 1 ∧ wp_BLB_checkLot (fun T_7 => ∃ mc_15 ms_16 mc_17 ms_18 : Nat, (mc_11 = mc_15 + mc_17 ∧ ms_12 = ms_16 + ms_18) ∧ wp_BLB_checkPerson (fun T_13 => ∃ mc_21 ms_22 mc_23 ms_24 : Nat, (mc_17 = mc_21 + mc_23 ∧ ms_18 = ms_22 + ms_24) ∧ wp_BLB_checkPerson (fun T_19 => ∃ mc_27 ms_28 mc_29 ms_30 : Nat, (mc_23 = mc_27 + mc_29 ∧ ms_24 = ms_28 + ms_30) ∧ wp_BLB_checkTerm (fun T_25 => ∃ mc_33 ms_34 mc_35 ms_36 : Nat, (mc_29 = mc_33 + mc_35 ∧ ms_30 = ms_34 + ms_36) ∧ wp_BLB_checkTerm (fun T_31 => ∃ mc_39 ms_40 mc_41 ms_42 : Nat, (mc_35 = mc_39 + mc_41 ∧ ms_36 = ms_40 + ms_42) ∧ wp_BLB_checkDay (fun T_37 => ((0 : Int) ≤ 1 ∧ (1 : Int) ≤ 134217728) ∧ ∃ mc_45 ms_46 : Nat, (mc_41 = 1 + mc_45 ∧ ms_42 = 1 + ms_46) ∧ (∀ (q_43 : Nat) (T_44 : CS), tg T_37 q_43 = 0 → T_44 = cs_new T_37 q_43 11 1 → tg T_44 q_43 = 11 ∧ ixR 0 (ln T_44 q_43) ∧ ((∀ T_47 : CS, T_47 = cs_i T_44 q_43 0 v1 → tg T_47 v0 = 1 ∧ ∃ q_48 : Nat, fo T_47 v0 4 = some q_48 ∧ (tg T_47 q_48 = 5 ∧ wp_BRg_objection (fun r_50 T_49 => inR r_50 ∧ (r_50 = 0 → (dvR 5040 v5 ∧ (∀ v9_51 : Int, v9_51 = ((5040 / v5) * v4) → inR v2 ∧ inR v3 ∧ (v2 = v3 → (post (-3) T_49)) ∧ (¬ (v2 = v3) → (dvR 5040 v5 ∧ (inR (5040 % v5) ∧ (¬ ((5040 % v5) = 0) → (post (-3) T_49)) ∧ ((5040 % v5) = 0 → (tg T_49 v0 = 1 ∧ ∃ q_52 : Nat, fo T_49 v0 4 = some q_52 ∧ (tg T_49 v0 = 1 ∧ ∃ q_53 : Nat, fo T_49 v0 4 = some q_53 ∧ (tg T_49 q_53 = 5 ∧ wp_BRg_lastEntry (fun r_55 T_54 => tg T_54 q_52 = 5 ∧ wp_BRg_shareOf (fun r_57 T_56 => inR r_57 ∧ inR v9_51 ∧ (v9_51 ≤ r_57 → (((0 : Int) ≤ 2 ∧ (2 : Int) ≤ 134217728) ∧ ∃ mc_60 ms_61 : Nat, (mc_45 = 1 + mc_60 ∧ ms_46 = 2 + ms_61) ∧ (∀ (q_58 : Nat) (T_59 : CS), tg T_56 q_58 = 0 → T_59 = cs_new T_56 q_58 11 2 → tg T_59 q_58 = 11 ∧ ixR 0 (ln T_59 q_58) ∧ ((∀ T_62 : CS, T_62 = cs_i T_59 q_58 0 (((v1 * 16384) + (v2 * 128)) + v3) → tg T_62 q_58 = 11 ∧ ixR 1 (ln T_62 q_58) ∧ ((∀ T_63 : CS, T_63 = cs_i T_62 q_58 1 v9_51 → tg T_63 v0 = 1 ∧ wp_BLB_isFull (fun r_65 T_64 => inR r_65 ∧ (r_65 = 0 → (∃ mc_68 ms_69 : Nat, (mc_60 = 1 + mc_68 ∧ ms_61 = 6 + ms_69) ∧ (∀ (q_66 : Nat) (T_67 : CS), tg T_64 q_66 = 0 → T_67 = cs_new T_64 q_66 8 0 → wp_BDe_init6 (fun T_70 => ∃ mc_74 ms_75 mc_76 ms_77 : Nat, (mc_68 = mc_74 + mc_76 ∧ ms_69 = ms_75 + ms_77) ∧ tg T_70 v0 = 1 ∧ wp_BLB_enter (fun r_73 T_72 => post r_73 T_72) mc_74 ms_75 v0 q_66 q_58 T_70) q_66 3 v6 q_43 v2 v3 v9_51 T_67))) ∧ (¬ (r_65 = 0) → (post (-4) T_64))) v0 0 0 q_58 T_63))))))) ∧ (¬ (v9_51 ≤ r_57) → (post (-3) T_56))) q_52 v1 v2 v6 r_55 T_54) q_53 T_49)))))))))) ∧ (¬ (r_50 = 0) → post r_50 T_49)) q_48 q_43 v6 T_47))))) pe mc_39 ms_40 v6 T_31) pe mc_33 ms_34 v5 T_25) pe mc_27 ms_28 v4 T_19) pe mc_21 ms_22 v3 T_13) pe mc_15 ms_16 v2 T_7) pe mc_9 ms_10 v0 v1 T_1) pe mc_3 ms_4 v0 T
set_option maxHeartbeats 4000000 in
set_option maxRecDepth 100000 in
theorem c_BLB_transfer (l : Launch) (hfl : l.flags = pinnedFlags ++ [noTraceFlag]) {D : va_G} {k : CK} {post : Int → CS → Prop} {pe : String → CS → Prop} {mc ms : Nat} {v0 : Nat} {v1 : Int} {v2 : Int} {v3 : Int} {v4 : Int} {v5 : Int} {v6 : Int} {T : CS} (hw : wp_BLB_transfer post pe mc ms v0 v1 v2 v3 v4 v5 v6 T) : jE l D k y_BLB_transfer prog_1_method_6_code 11 (some .int) 9 235 mc ms T [.ref v0, vi v1, vi v2, vi v3, vi v4, vi v5, vi v6] (rtI post) pe := by
  refine j_eo hfl (by decide) rfl (Nat.le_of_ble_eq_true rfl) (by decide) (by decide) (fun X F K E hT Pr hthr hri hrz hrv => ?_)
  unfold wp_BLB_transfer at hw
  have key : ∀ (mc0 ms0 c0 n0 : Nat), mc0 = mc → ms0 = ms → c0 = 0 → n0 = 0 → c0 + mc0 = mc → n0 + ms0 = ms → jat l D X 11 0 [(0, .ref v0), (1, vi v1), (2, vi v2), (3, vi v3), (4, vi v4), (5, vi v5), (6, vi v6)] [] (cwd k T) c0 n0 := by
    intro mc0 ms0 c0 n0 hm1 hm2 hz1 hz2 hc0 hn0
    subst hm1; subst hm2
    clear hz1 hz2
    refine j_aload_n F 0 d_BLB_transfer_0 rfl ?_
    obtain ⟨mc_3, ms_4, mc_5, ms_6, ⟨he1, he2⟩, hw⟩ := hw
    obtain ⟨hg1, hw⟩ := hw
    refine e_callV F K E Pr hT (c_BLB_checkUp l hfl hw) (tw_gV tq_495 tq_496 tq_497 tq_473 tq_498) hg1 q_BLB_checkUp rfl ⟨by decide, by decide⟩ ⟨rm_l hc0 he1, rm_l hn0 he2⟩ rfl (Nat.le_of_ble_eq_true rfl) d_BLB_transfer_1 (fun ov T_1 hw hT => ?_)
    obtain ⟨rfl, hw⟩ := hw
    have hc0 := rm_c hc0 he1
    have hn0 := rm_c hn0 he2
    refine j_aload_n F 0 d_BLB_transfer_4 rfl ?_
    refine j_iload_n F 1 d_BLB_transfer_5 rfl ?_
    obtain ⟨mc_9, ms_10, mc_11, ms_12, ⟨he1, he2⟩, hw⟩ := hw
    obtain ⟨hg1, hw⟩ := hw
    refine e_callV F K E Pr hT (c_BLB_checkLot l hfl hw) (tw_gV tq_499 tq_500 tq_501 tq_473 tq_502) hg1 q_BLB_checkLot rfl ⟨by decide, by decide⟩ ⟨rm_l hc0 he1, rm_l hn0 he2⟩ rfl (Nat.le_of_ble_eq_true rfl) d_BLB_transfer_6 (fun ov T_7 hw hT => ?_)
    obtain ⟨rfl, hw⟩ := hw
    have hc0 := rm_c hc0 he1
    have hn0 := rm_c hn0 he2
    refine j_iload_n F 2 d_BLB_transfer_9 rfl ?_
    obtain ⟨mc_15, ms_16, mc_17, ms_18, ⟨he1, he2⟩, hw⟩ := hw
    refine e_callS F K E Pr hT (c_BLB_checkPerson l hfl hw) (tw_gS tq_547 tq_548 tq_473 tq_549) q_BLB_checkPerson rfl ⟨by decide, by decide⟩ ⟨rm_l hc0 he1, rm_l hn0 he2⟩ rfl (Nat.le_of_ble_eq_true rfl) d_BLB_transfer_10 (fun ov T_13 hw hT => ?_)
    obtain ⟨rfl, hw⟩ := hw
    have hc0 := rm_c hc0 he1
    have hn0 := rm_c hn0 he2
    refine j_iload_n F 3 d_BLB_transfer_13 rfl ?_
    obtain ⟨mc_21, ms_22, mc_23, ms_24, ⟨he1, he2⟩, hw⟩ := hw
    refine e_callS F K E Pr hT (c_BLB_checkPerson l hfl hw) (tw_gS tq_547 tq_548 tq_473 tq_549) q_BLB_checkPerson rfl ⟨by decide, by decide⟩ ⟨rm_l hc0 he1, rm_l hn0 he2⟩ rfl (Nat.le_of_ble_eq_true rfl) d_BLB_transfer_14 (fun ov T_19 hw hT => ?_)
    obtain ⟨rfl, hw⟩ := hw
    have hc0 := rm_c hc0 he1
    have hn0 := rm_c hn0 he2
    refine j_iload F 4 d_BLB_transfer_17 rfl ?_
    obtain ⟨mc_27, ms_28, mc_29, ms_30, ⟨he1, he2⟩, hw⟩ := hw
    refine e_callS F K E Pr hT (c_BLB_checkTerm l hfl hw) (tw_gS tq_550 tq_551 tq_473 tq_552) q_BLB_checkTerm rfl ⟨by decide, by decide⟩ ⟨rm_l hc0 he1, rm_l hn0 he2⟩ rfl (Nat.le_of_ble_eq_true rfl) d_BLB_transfer_19 (fun ov T_25 hw hT => ?_)
    obtain ⟨rfl, hw⟩ := hw
    have hc0 := rm_c hc0 he1
    have hn0 := rm_c hn0 he2
    refine j_iload F 5 d_BLB_transfer_22 rfl ?_
    obtain ⟨mc_33, ms_34, mc_35, ms_36, ⟨he1, he2⟩, hw⟩ := hw
    refine e_callS F K E Pr hT (c_BLB_checkTerm l hfl hw) (tw_gS tq_550 tq_551 tq_473 tq_552) q_BLB_checkTerm rfl ⟨by decide, by decide⟩ ⟨rm_l hc0 he1, rm_l hn0 he2⟩ rfl (Nat.le_of_ble_eq_true rfl) d_BLB_transfer_24 (fun ov T_31 hw hT => ?_)
    obtain ⟨rfl, hw⟩ := hw
    have hc0 := rm_c hc0 he1
    have hn0 := rm_c hn0 he2
    refine j_iload F 6 d_BLB_transfer_27 rfl ?_
    obtain ⟨mc_39, ms_40, mc_41, ms_42, ⟨he1, he2⟩, hw⟩ := hw
    refine e_callS F K E Pr hT (c_BLB_checkDay l hfl hw) (tw_gS tq_471 tq_472 tq_473 tq_474) q_BLB_checkDay rfl ⟨by decide, by decide⟩ ⟨rm_l hc0 he1, rm_l hn0 he2⟩ rfl (Nat.le_of_ble_eq_true rfl) d_BLB_transfer_29 (fun ov T_37 hw hT => ?_)
    obtain ⟨rfl, hw⟩ := hw
    have hc0 := rm_c hc0 he1
    have hn0 := rm_c hn0 he2
    refine j_iconst F d_BLB_transfer_32 ?_
    obtain ⟨hr0, mc_45, ms_46, ⟨he1, he2⟩, hw⟩ := hw
    refine c_newa11 F K hT tq_118 hr0 (rm_l hc0 he1) (rm_l hn0 he2) d_BLB_transfer_33 (fun q_43 T_44 e_q_43 e_T_44 hT => ?_)
    have hw := hw q_43 T_44 e_q_43 e_T_44
    have hc0 := rm_c hc0 he1
    have hn0 := rm_c hn0 he2
    refine j_dup F rfl d_BLB_transfer_35 ?_
    refine j_iconst F d_BLB_transfer_36 ?_
    refine j_iload_n F 1 d_BLB_transfer_37 rfl ?_
    obtain ⟨hc1, hc2, hw⟩ := hw
    refine c_iast F K hT hc1 hc2 d_BLB_transfer_38 (fun T_47 e_T_47 hT => ?_)
    have hw := hw T_47 e_T_47
    refine j_astore F [(7, .ref q_43), (0, .ref v0), (1, vi v1), (2, vi v2), (3, vi v3), (4, vi v4), (5, vi v5), (6, vi v6)] d_BLB_transfer_39 (by decide) rfl ?_
    refine j_aload_n F 1 d_BLB_transfer_41 rfl ?_
    obtain ⟨hc1, q_48, hc2, hw⟩ := hw
    refine c_getr F K hT 1 4 rfl tu_LandBook (by decide) (by decide) rfl tq_441 (Or.inl rfl) hc1 hc2 d_BLB_transfer_42 ?_
    refine j_aload F 0 d_BLB_transfer_45 rfl ?_
    refine j_iload F 7 d_BLB_transfer_47 rfl ?_
    obtain ⟨hg1, hw⟩ := hw
    refine c_callVi F K hT (c_BRg_objection l hw) (tw_gV tq_503 tq_504 tq_505 tq_336 tq_506) 5 rfl (by decide) hg1 q_BRg_objection rfl ⟨by decide, by decide⟩ ⟨rm_z hc0, rm_z hn0⟩ rfl (Nat.le_of_ble_eq_true rfl) d_BLB_transfer_49 (fun r_50 T_49 hw hT => ?_)
    refine j_istore F [(8, vi r_50), (7, .ref q_43), (0, .ref v0), (1, vi v1), (2, vi v2), (3, vi v3), (4, vi v4), (5, vi v5), (6, vi v6)] d_BLB_transfer_52 (by decide) rfl ?_
    refine j_iload F 0 d_BLB_transfer_54 rfl ?_
    obtain ⟨hc1, hwt, hwf⟩ := hw
    refine j_if_eq F 62 hc1 d_BLB_transfer_56 rfl (fun hh => ?_) (fun hh => ?_)
    · have hw := hwt hh
      refine j_sipush F d_BLB_transfer_62 (j_sip (by decide) (by decide)) ?_
      refine j_iload F 7 d_BLB_transfer_65 rfl ?_
      obtain ⟨hc1, hw⟩ := hw
      refine j_idiv F hc1 d_BLB_transfer_67 ?_
      refine j_iload F 6 d_BLB_transfer_68 rfl ?_
      refine j_imul F d_BLB_transfer_70 ?_
      refine j_nmi (fun v9_51 e_v9_51 => ?_)
      have hw := hw v9_51 e_v9_51
      refine j_istore F [(9, vi v9_51), (8, vi r_50), (7, .ref q_43), (0, .ref v0), (1, vi v1), (2, vi v2), (3, vi v3), (4, vi v4), (5, vi v5), (6, vi v6)] d_BLB_transfer_71 (by decide) rfl ?_
      refine j_iload_n F 5 d_BLB_transfer_73 rfl ?_
      refine j_iload_n F 6 d_BLB_transfer_74 rfl ?_
      obtain ⟨hc1, hc2, hwt, hwf⟩ := hw
      refine j_icmp_eq F 110 hc1 hc2 d_BLB_transfer_75 rfl (fun hh => ?_) (fun hh => ?_)
      · have hw := hwt hh
        refine j_bipush F d_BLB_transfer_110 (j_bip (by decide) (by decide)) ?_
        exact hri _ _ _ _ _ _ rfl ⟨_, rfl, hw⟩ hT (rm_y hc0) (rm_y hn0) d_BLB_transfer_112
      · have hw := hwf hh
        refine j_sipush F d_BLB_transfer_78 (j_sip (by decide) (by decide)) ?_
        refine j_iload F 8 d_BLB_transfer_81 rfl ?_
        obtain ⟨hc1, hw⟩ := hw
        refine j_irem F hc1 d_BLB_transfer_83 ?_
        obtain ⟨hc1, hwt, hwf⟩ := hw
        refine j_if_ne F 110 hc1 d_BLB_transfer_84 rfl (fun hh => ?_) (fun hh => ?_)
        · have hw := hwt hh
          refine j_bipush F d_BLB_transfer_110 (j_bip (by decide) (by decide)) ?_
          exact hri _ _ _ _ _ _ rfl ⟨_, rfl, hw⟩ hT (rm_y hc0) (rm_y hn0) d_BLB_transfer_112
        · have hw := hwf hh
          refine j_aload_n F 3 d_BLB_transfer_87 rfl ?_
          obtain ⟨hc1, q_52, hc2, hw⟩ := hw
          refine c_getr F K hT 1 4 rfl tu_LandBook (by decide) (by decide) rfl tq_441 (Or.inl rfl) hc1 hc2 d_BLB_transfer_88 ?_
          refine j_iload_n F 4 d_BLB_transfer_91 rfl ?_
          refine j_iload_n F 5 d_BLB_transfer_92 rfl ?_
          refine j_iload F 9 d_BLB_transfer_93 rfl ?_
          refine j_aload_n F 3 d_BLB_transfer_95 rfl ?_
          obtain ⟨hc1, q_53, hc2, hw⟩ := hw
          refine c_getr F K hT 1 4 rfl tu_LandBook (by decide) (by decide) rfl tq_441 (Or.inl rfl) hc1 hc2 d_BLB_transfer_96 ?_
          obtain ⟨hg1, hw⟩ := hw
          refine c_callVi F K hT (c_BRg_lastEntry l hw) (tw_gV tq_442 tq_363 tq_364 tq_336 tq_365) 5 rfl (by decide) hg1 q_BRg_lastEntry rfl ⟨by decide, by decide⟩ ⟨rm_z hc0, rm_z hn0⟩ rfl (Nat.le_of_ble_eq_true rfl) d_BLB_transfer_99 (fun r_55 T_54 hw hT => ?_)
          obtain ⟨hg1, hw⟩ := hw
          refine c_callVi F K hT (c_BRg_shareOf l hw) (tw_gV tq_553 tq_554 tq_555 tq_336 tq_556) 5 rfl (by decide) hg1 q_BRg_shareOf rfl ⟨by decide, by decide⟩ ⟨rm_z hc0, rm_z hn0⟩ rfl (Nat.le_of_ble_eq_true rfl) d_BLB_transfer_102 (fun r_57 T_56 hw hT => ?_)
          refine j_iload F 0 d_BLB_transfer_105 rfl ?_
          obtain ⟨hc1, hc2, hwt, hwf⟩ := hw
          refine j_icmp_ge F 113 hc1 hc2 d_BLB_transfer_107 rfl (fun hh => ?_) (fun hh => ?_)
          · have hw := hwt hh
            refine j_iconst F d_BLB_transfer_113 ?_
            obtain ⟨hr0, mc_60, ms_61, ⟨he1, he2⟩, hw⟩ := hw
            refine c_newa11 F K hT tq_118 hr0 (rm_l hc0 he1) (rm_l hn0 he2) d_BLB_transfer_114 (fun q_58 T_59 e_q_58 e_T_59 hT => ?_)
            have hw := hw q_58 T_59 e_q_58 e_T_59
            have hc0 := rm_c hc0 he1
            have hn0 := rm_c hn0 he2
            refine j_dup F rfl d_BLB_transfer_116 ?_
            refine j_iconst F d_BLB_transfer_117 ?_
            refine j_iload_n F 4 d_BLB_transfer_118 rfl ?_
            refine j_sipush F d_BLB_transfer_119 (j_sip (by decide) (by decide)) ?_
            refine j_imul F d_BLB_transfer_122 ?_
            refine j_iload_n F 5 d_BLB_transfer_123 rfl ?_
            refine j_sipush F d_BLB_transfer_124 (j_sip (by decide) (by decide)) ?_
            refine j_imul F d_BLB_transfer_127 ?_
            refine j_iadd F d_BLB_transfer_128 ?_
            refine j_iload_n F 6 d_BLB_transfer_129 rfl ?_
            refine j_iadd F d_BLB_transfer_130 ?_
            obtain ⟨hc1, hc2, hw⟩ := hw
            refine c_iast F K hT hc1 hc2 d_BLB_transfer_131 (fun T_62 e_T_62 hT => ?_)
            have hw := hw T_62 e_T_62
            refine j_dup F rfl d_BLB_transfer_132 ?_
            refine j_iconst F d_BLB_transfer_133 ?_
            refine j_iload F 0 d_BLB_transfer_134 rfl ?_
            obtain ⟨hc1, hc2, hw⟩ := hw
            refine c_iast F K hT hc1 hc2 d_BLB_transfer_136 (fun T_63 e_T_63 hT => ?_)
            have hw := hw T_63 e_T_63
            refine j_astore F [(10, .ref q_58), (9, vi v9_51), (8, vi r_50), (7, .ref q_43), (0, .ref v0), (1, vi v1), (2, vi v2), (3, vi v3), (4, vi v4), (5, vi v5), (6, vi v6)] d_BLB_transfer_137 (by decide) rfl ?_
            refine j_aload_n F 4 d_BLB_transfer_139 rfl ?_
            refine j_iconst F d_BLB_transfer_140 ?_
            refine j_iconst F d_BLB_transfer_141 ?_
            refine j_aload F 0 d_BLB_transfer_142 rfl ?_
            obtain ⟨hg1, hw⟩ := hw
            refine c_callVi F K hT (c_BLB_isFull l hw) (tw_gV tq_516 tq_517 tq_518 tq_473 tq_519) 1 rfl (by decide) hg1 q_BLB_isFull rfl ⟨by decide, by decide⟩ ⟨rm_z hc0, rm_z hn0⟩ rfl (Nat.le_of_ble_eq_true rfl) d_BLB_transfer_144 (fun r_65 T_64 hw hT => ?_)
            obtain ⟨hc1, hwt, hwf⟩ := hw
            refine j_if_eq F 153 hc1 d_BLB_transfer_147 rfl (fun hh => ?_) (fun hh => ?_)
            · have hw := hwt hh
              refine j_aload_n F 4 d_BLB_transfer_153 rfl ?_
              obtain ⟨mc_68, ms_69, ⟨he1, he2⟩, hw⟩ := hw
              refine c_new F K hT 8 rfl tu_Deed t_Deed t_Deed_ok (by decide) rfl (by decide) tq_523 tq_524 tq_293 (rm_l hc0 he1) (rm_l hn0 he2) d_BLB_transfer_154 (fun q_66 T_67 e_q_66 e_T_67 hT => ?_)
              have hw := hw q_66 T_67 e_q_66 e_T_67
              have hc0 := rm_c hc0 he1
              have hn0 := rm_c hn0 he2
              refine j_dup F rfl d_BLB_transfer_157 ?_
              refine j_iconst F d_BLB_transfer_158 ?_
              refine j_iload F 10 d_BLB_transfer_159 rfl ?_
              refine j_aload F 3 d_BLB_transfer_161 rfl ?_
              refine j_iload_n F 6 d_BLB_transfer_163 rfl ?_
              refine j_iload_n F 7 d_BLB_transfer_164 rfl ?_
              refine j_iload F 1 d_BLB_transfer_165 rfl ?_
              refine c_callIv F K hT (c_BDe_init6 l hw) tq_292 tq_293 tq_557 tq_295 rfl q_BDe_init6 rfl ⟨by decide, by decide⟩ ⟨rm_z hc0, rm_z hn0⟩ rfl (Nat.le_of_ble_eq_true rfl) d_BLB_transfer_167 (fun T_70 hw hT => ?_)
              refine j_aload F 0 d_BLB_transfer_170 rfl ?_
              obtain ⟨mc_74, ms_75, mc_76, ms_77, ⟨he1, he2⟩, hw⟩ := hw
              obtain ⟨hg1, hw⟩ := hw
              refine c_callVi F K hT (c_BLB_enter l hw) (tw_gV tq_528 tq_529 tq_530 tq_473 tq_531) 1 rfl (by decide) hg1 q_BLB_enter rfl ⟨by decide, by decide⟩ ⟨rm_l hc0 he1, rm_l hn0 he2⟩ rfl (Nat.le_of_ble_eq_true rfl) d_BLB_transfer_172 (fun r_73 T_72 hw hT => ?_)
              have hc0 := rm_c hc0 he1
              have hn0 := rm_c hn0 he2
              exact hri _ _ _ _ _ _ rfl ⟨_, rfl, hw⟩ hT (rm_y hc0) (rm_y hn0) d_BLB_transfer_175
            · have hw := hwf hh
              refine j_bipush F d_BLB_transfer_150 (j_bip (by decide) (by decide)) ?_
              exact hri _ _ _ _ _ _ rfl ⟨_, rfl, hw⟩ hT (rm_y hc0) (rm_y hn0) d_BLB_transfer_152
          · have hw := hwf hh
            refine j_bipush F d_BLB_transfer_110 (j_bip (by decide) (by decide)) ?_
            exact hri _ _ _ _ _ _ rfl ⟨_, rfl, hw⟩ hT (rm_y hc0) (rm_y hn0) d_BLB_transfer_112
    · have hw := hwf hh
      refine j_iload F 0 d_BLB_transfer_59 rfl ?_
      exact hri _ _ _ _ _ _ rfl ⟨_, rfl, hw⟩ hT (rm_y hc0) (rm_y hn0) d_BLB_transfer_61
  exact key mc ms 0 0 rfl rfl rfl rfl (Nat.zero_add _) (Nat.zero_add _)
theorem tq_558 : (Jvm.Cond.methodLink "LandBook" (183 : Nat) ({ cls := "LandBook$Register", name := "grant", desc := "(I)I" } : Jvm.MethodName)) ∈ tw_G := tw_in (List.mem_of_getElem? (i := 843) (by decide +kernel)) rfl
theorem tq_559 : (Jvm.Cond.instanceMethod ({ cls := "LandBook$Register", name := "grant", desc := "(I)I" } : Jvm.MethodName)) ∈ tw_G := tw_in (List.mem_of_getElem? (i := 844) (by decide +kernel)) rfl
theorem tq_560 : (Jvm.Cond.selects "LandBook$Register" ({ cls := "LandBook$Register", name := "grant", desc := "(I)I" } : Jvm.MethodName) ({ cls := "LandBook$Register", name := "grant", desc := "(I)I" } : Jvm.MethodName)) ∈ tw_G := tw_in (List.mem_of_getElem? (i := 845) (by decide +kernel)) rfl
theorem tq_561 : (Jvm.Cond.code ({ cls := "LandBook$Register", name := "grant", desc := "(I)I" } : Jvm.MethodName) prog_10_method_22_code (2 : Nat) (Option.some Jvm.ClassFile.FieldType.int)) ∈ tw_G := tw_in (List.mem_of_getElem? (i := 846) (by decide +kernel)) rfl
abbrev y_BLB_ease : MethodName := ⟨"LandBook", "ease", "(III)I"⟩
theorem q_BLB_ease : y_BLB_ease.cls = "LandBook" ∧ y_BLB_ease.cls ≠ "java/lang/invoke/MethodHandle" ∧ y_BLB_ease.cls ≠ "java/lang/invoke/VarHandle" ∧ (parseMethodDescriptor y_BLB_ease.desc).map (fun d => d.parameters.length) = some 3 := by decide +kernel
theorem d_BLB_ease_0 : decode prog_1_method_7_code 0 = .ok (.aload_n 0, 1) := by decide +kernel
theorem d_BLB_ease_1 : decode prog_1_method_7_code 1 = .ok (.invokevirtual 99, 3) := by decide +kernel
theorem d_BLB_ease_4 : decode prog_1_method_7_code 4 = .ok (.aload_n 0, 1) := by decide +kernel
theorem d_BLB_ease_5 : decode prog_1_method_7_code 5 = .ok (.iload_n 1, 1) := by decide +kernel
theorem d_BLB_ease_6 : decode prog_1_method_7_code 6 = .ok (.invokevirtual 102, 3) := by decide +kernel
theorem d_BLB_ease_9 : decode prog_1_method_7_code 9 = .ok (.aload_n 0, 1) := by decide +kernel
theorem d_BLB_ease_10 : decode prog_1_method_7_code 10 = .ok (.iload_n 2, 1) := by decide +kernel
theorem d_BLB_ease_11 : decode prog_1_method_7_code 11 = .ok (.invokevirtual 102, 3) := by decide +kernel
theorem d_BLB_ease_14 : decode prog_1_method_7_code 14 = .ok (.iload_n 3, 1) := by decide +kernel
theorem d_BLB_ease_15 : decode prog_1_method_7_code 15 = .ok (.invokestatic 105, 3) := by decide +kernel
theorem d_BLB_ease_18 : decode prog_1_method_7_code 18 = .ok (.iconst 2, 1) := by decide +kernel
theorem d_BLB_ease_19 : decode prog_1_method_7_code 19 = .ok (.newarray .int, 2) := by decide +kernel
theorem d_BLB_ease_21 : decode prog_1_method_7_code 21 = .ok (.dup, 1) := by decide +kernel
theorem d_BLB_ease_22 : decode prog_1_method_7_code 22 = .ok (.iconst 0, 1) := by decide +kernel
theorem d_BLB_ease_23 : decode prog_1_method_7_code 23 = .ok (.iload_n 1, 1) := by decide +kernel
theorem d_BLB_ease_24 : decode prog_1_method_7_code 24 = .ok (.iastore, 1) := by decide +kernel
theorem d_BLB_ease_25 : decode prog_1_method_7_code 25 = .ok (.dup, 1) := by decide +kernel
theorem d_BLB_ease_26 : decode prog_1_method_7_code 26 = .ok (.iconst 1, 1) := by decide +kernel
theorem d_BLB_ease_27 : decode prog_1_method_7_code 27 = .ok (.iload_n 2, 1) := by decide +kernel
theorem d_BLB_ease_28 : decode prog_1_method_7_code 28 = .ok (.iastore, 1) := by decide +kernel
theorem d_BLB_ease_29 : decode prog_1_method_7_code 29 = .ok (.astore 4, 2) := by decide +kernel
theorem d_BLB_ease_31 : decode prog_1_method_7_code 31 = .ok (.aload_n 0, 1) := by decide +kernel
theorem d_BLB_ease_32 : decode prog_1_method_7_code 32 = .ok (.getfield 38, 3) := by decide +kernel
theorem d_BLB_ease_35 : decode prog_1_method_7_code 35 = .ok (.aload 4, 2) := by decide +kernel
theorem d_BLB_ease_37 : decode prog_1_method_7_code 37 = .ok (.iload_n 3, 1) := by decide +kernel
theorem d_BLB_ease_38 : decode prog_1_method_7_code 38 = .ok (.invokevirtual 108, 3) := by decide +kernel
theorem d_BLB_ease_41 : decode prog_1_method_7_code 41 = .ok (.istore 5, 2) := by decide +kernel
theorem d_BLB_ease_43 : decode prog_1_method_7_code 43 = .ok (.iload 5, 2) := by decide +kernel
theorem d_BLB_ease_45 : decode prog_1_method_7_code 45 = .ok (.ifCond .eq 6, 3) := by decide +kernel
theorem d_BLB_ease_51 : decode prog_1_method_7_code 51 = .ok (.iload_n 1, 1) := by decide +kernel
theorem d_BLB_ease_52 : decode prog_1_method_7_code 52 = .ok (.iload_n 2, 1) := by decide +kernel
theorem d_BLB_ease_53 : decode prog_1_method_7_code 53 = .ok (.if_icmp .ne 6, 3) := by decide +kernel
theorem d_BLB_ease_59 : decode prog_1_method_7_code 59 = .ok (.iconst 1, 1) := by decide +kernel
theorem d_BLB_ease_60 : decode prog_1_method_7_code 60 = .ok (.newarray .int, 2) := by decide +kernel
theorem d_BLB_ease_62 : decode prog_1_method_7_code 62 = .ok (.dup, 1) := by decide +kernel
theorem d_BLB_ease_63 : decode prog_1_method_7_code 63 = .ok (.iconst 0, 1) := by decide +kernel
theorem d_BLB_ease_64 : decode prog_1_method_7_code 64 = .ok (.iload_n 1, 1) := by decide +kernel
theorem d_BLB_ease_65 : decode prog_1_method_7_code 65 = .ok (.ldc 163, 2) := by decide +kernel
theorem d_BLB_ease_67 : decode prog_1_method_7_code 67 = .ok (.imul, 1) := by decide +kernel
theorem d_BLB_ease_68 : decode prog_1_method_7_code 68 = .ok (.iload_n 2, 1) := by decide +kernel
theorem d_BLB_ease_69 : decode prog_1_method_7_code 69 = .ok (.iadd, 1) := by decide +kernel
theorem d_BLB_ease_70 : decode prog_1_method_7_code 70 = .ok (.iastore, 1) := by decide +kernel
theorem d_BLB_ease_71 : decode prog_1_method_7_code 71 = .ok (.astore 6, 2) := by decide +kernel
theorem d_BLB_ease_73 : decode prog_1_method_7_code 73 = .ok (.aload_n 0, 1) := by decide +kernel
theorem d_BLB_ease_74 : decode prog_1_method_7_code 74 = .ok (.iconst 0, 1) := by decide +kernel
theorem d_BLB_ease_75 : decode prog_1_method_7_code 75 = .ok (.iconst 1, 1) := by decide +kernel
theorem d_BLB_ease_76 : decode prog_1_method_7_code 76 = .ok (.aload 6, 2) := by decide +kernel
theorem d_BLB_ease_78 : decode prog_1_method_7_code 78 = .ok (.invokevirtual 135, 3) := by decide +kernel
theorem d_BLB_ease_81 : decode prog_1_method_7_code 81 = .ok (.ifCond .eq 6, 3) := by decide +kernel
theorem d_BLB_ease_87 : decode prog_1_method_7_code 87 = .ok (.aload_n 0, 1) := by decide +kernel
theorem d_BLB_ease_88 : decode prog_1_method_7_code 88 = .ok (.new 143, 3) := by decide +kernel
theorem d_BLB_ease_91 : decode prog_1_method_7_code 91 = .ok (.dup, 1) := by decide +kernel
theorem d_BLB_ease_92 : decode prog_1_method_7_code 92 = .ok (.iconst 4, 1) := by decide +kernel
theorem d_BLB_ease_93 : decode prog_1_method_7_code 93 = .ok (.iload_n 3, 1) := by decide +kernel
theorem d_BLB_ease_94 : decode prog_1_method_7_code 94 = .ok (.aload 4, 2) := by decide +kernel
theorem d_BLB_ease_96 : decode prog_1_method_7_code 96 = .ok (.invokespecial 145, 3) := by decide +kernel
theorem d_BLB_ease_99 : decode prog_1_method_7_code 99 = .ok (.aload 6, 2) := by decide +kernel
theorem d_BLB_ease_101 : decode prog_1_method_7_code 101 = .ok (.invokevirtual 148, 3) := by decide +kernel
theorem d_BLB_ease_104 : decode prog_1_method_7_code 104 = .ok (.pop, 1) := by decide +kernel
theorem d_BLB_ease_105 : decode prog_1_method_7_code 105 = .ok (.aload_n 0, 1) := by decide +kernel
theorem d_BLB_ease_106 : decode prog_1_method_7_code 106 = .ok (.getfield 38, 3) := by decide +kernel
theorem d_BLB_ease_109 : decode prog_1_method_7_code 109 = .ok (.iload_n 1, 1) := by decide +kernel
theorem d_BLB_ease_110 : decode prog_1_method_7_code 110 = .ok (.invokevirtual 183, 3) := by decide +kernel
theorem d_BLB_ease_113 : decode prog_1_method_7_code 113 = .ok (.ireturn, 1) := by decide +kernel
theorem d_BLB_ease_84 : decode prog_1_method_7_code 84 = .ok (.bipush (-4), 2) := by decide +kernel
theorem d_BLB_ease_86 : decode prog_1_method_7_code 86 = .ok (.ireturn, 1) := by decide +kernel
theorem d_BLB_ease_56 : decode prog_1_method_7_code 56 = .ok (.bipush (-3), 2) := by decide +kernel
theorem d_BLB_ease_58 : decode prog_1_method_7_code 58 = .ok (.ireturn, 1) := by decide +kernel
theorem d_BLB_ease_48 : decode prog_1_method_7_code 48 = .ok (.iload 5, 2) := by decide +kernel
theorem d_BLB_ease_50 : decode prog_1_method_7_code 50 = .ok (.ireturn, 1) := by decide +kernel
def wp_BLB_ease (post : Int → CS → Prop) (pe : String → CS → Prop) (mc0 ms0 : Nat) (v0 : Nat) (v1 : Int) (v2 : Int) (v3 : Int) (T : CS) : Prop := ∃ mc_3 ms_4 mc_5 ms_6 : Nat, (mc0 = mc_3 + mc_5 ∧ ms0 = ms_4 + ms_6) ∧ tg T v0 = 1 ∧ wp_BLB_checkUp (fun T_1 => ∃ mc_9 ms_10 mc_11 ms_12 : Nat, (mc_5 = mc_9 + mc_11 ∧ ms_6 = ms_10 + ms_12) ∧ tg T_1 v0 = 1 ∧ wp_BLB_checkLot (fun T_7 => ∃ mc_15 ms_16 mc_17 ms_18 : Nat, (mc_11 = mc_15 + mc_17 ∧ ms_12 = ms_16 + ms_18) ∧ tg T_7 v0 = 1 ∧ wp_BLB_checkLot (fun T_13 => ∃ mc_21 ms_22 mc_23 ms_24 : Nat, (mc_17 = mc_21 + mc_23 ∧ ms_18 = ms_22 + ms_24) ∧ wp_BLB_checkDay (fun T_19 => ((0 : Int) ≤ 2 ∧ (2 : Int) ≤ 134217728) ∧ ∃ mc_27 ms_28 : Nat, (mc_23 = 1 + mc_27 ∧ ms_24 = 2 + ms_28) ∧ (∀ (q_25 : Nat) (T_26 : CS), tg T_19 q_25 = 0 → T_26 = cs_new T_19 q_25 11 2 → tg T_26 q_25 = 11 ∧ ixR 0 (ln T_26 q_25) ∧ ((∀ T_29 : CS, T_29 = cs_i T_26 q_25 0 v1 → tg T_29 q_25 = 11 ∧ ixR 1 (ln T_29 q_25) ∧ ((∀ T_30 : CS, T_30 = cs_i T_29 q_25 1 v2 → tg T_30 v0 = 1 ∧ ∃ q_31 : Nat, fo T_30 v0 4 = some q_31 ∧ (tg T_30 q_31 = 5 ∧ wp_BRg_objection (fun r_33 T_32 => inR r_33 ∧ (r_33 = 0 → (inR v1 ∧ inR v2 ∧ (¬ (v1 = v2) → (((0 : Int) ≤ 1 ∧ (1 : Int) ≤ 134217728) ∧ ∃ mc_36 ms_37 : Nat, (mc_27 = 1 + mc_36 ∧ ms_28 = 1 + ms_37) ∧ (∀ (q_34 : Nat) (T_35 : CS), tg T_32 q_34 = 0 → T_35 = cs_new T_32 q_34 11 1 → tg T_35 q_34 = 11 ∧ ixR 0 (ln T_35 q_34) ∧ ((∀ T_38 : CS, T_38 = cs_i T_35 q_34 0 ((v1 * 65536) + v2) → tg T_38 v0 = 1 ∧ wp_BLB_isFull (fun r_40 T_39 => inR r_40 ∧ (r_40 = 0 → (∃ mc_43 ms_44 : Nat, (mc_36 = 1 + mc_43 ∧ ms_37 = 6 + ms_44) ∧ (∀ (q_41 : Nat) (T_42 : CS), tg T_39 q_41 = 0 → T_42 = cs_new T_39 q_41 8 0 → wp_BDe_init3 (fun T_45 => ∃ mc_49 ms_50 mc_51 ms_52 : Nat, (mc_43 = mc_49 + mc_51 ∧ ms_44 = ms_50 + ms_52) ∧ tg T_45 v0 = 1 ∧ wp_BLB_enter (fun r_48 T_47 => tg T_47 v0 = 1 ∧ ∃ q_53 : Nat, fo T_47 v0 4 = some q_53 ∧ (∃ mc_56 ms_57 mc_58 ms_59 : Nat, (mc_51 = mc_56 + mc_58 ∧ ms_52 = ms_57 + ms_59) ∧ tg T_47 q_53 = 5 ∧ wp_BRg_grant (fun r_55 T_54 => post r_55 T_54) mc_56 ms_57 q_53 v1 T_47)) mc_49 ms_50 v0 q_41 q_34 T_45) q_41 4 v3 q_25 T_42))) ∧ (¬ (r_40 = 0) → (post (-4) T_39))) v0 0 1 q_34 T_38))))) ∧ (v1 = v2 → (post (-3) T_32)))) ∧ (¬ (r_33 = 0) → post r_33 T_32)) q_31 q_25 v3 T_30))))))) pe mc_21 ms_22 v3 T_13) pe mc_15 ms_16 v0 v2 T_7) pe mc_9 ms_10 v0 v1 T_1) pe mc_3 ms_4 v0 T
set_option maxHeartbeats 4000000 in
set_option maxRecDepth 100000 in
theorem c_BLB_ease (l : Launch) (hfl : l.flags = pinnedFlags ++ [noTraceFlag]) {D : va_G} {k : CK} {post : Int → CS → Prop} {pe : String → CS → Prop} {mc ms : Nat} {v0 : Nat} {v1 : Int} {v2 : Int} {v3 : Int} {T : CS} (hw : wp_BLB_ease post pe mc ms v0 v1 v2 v3 T) : jE l D k y_BLB_ease prog_1_method_7_code 7 (some .int) 9 235 mc ms T [.ref v0, vi v1, vi v2, vi v3] (rtI post) pe := by
  refine j_eo hfl (by decide) rfl (Nat.le_of_ble_eq_true rfl) (by decide) (by decide) (fun X F K E hT Pr hthr hri hrz hrv => ?_)
  unfold wp_BLB_ease at hw
  have key : ∀ (mc0 ms0 c0 n0 : Nat), mc0 = mc → ms0 = ms → c0 = 0 → n0 = 0 → c0 + mc0 = mc → n0 + ms0 = ms → jat l D X 7 0 [(0, .ref v0), (1, vi v1), (2, vi v2), (3, vi v3)] [] (cwd k T) c0 n0 := by
    intro mc0 ms0 c0 n0 hm1 hm2 hz1 hz2 hc0 hn0
    subst hm1; subst hm2
    clear hz1 hz2
    refine j_aload_n F 0 d_BLB_ease_0 rfl ?_
    obtain ⟨mc_3, ms_4, mc_5, ms_6, ⟨he1, he2⟩, hw⟩ := hw
    obtain ⟨hg1, hw⟩ := hw
    refine e_callV F K E Pr hT (c_BLB_checkUp l hfl hw) (tw_gV tq_495 tq_496 tq_497 tq_473 tq_498) hg1 q_BLB_checkUp rfl ⟨by decide, by decide⟩ ⟨rm_l hc0 he1, rm_l hn0 he2⟩ rfl (Nat.le_of_ble_eq_true rfl) d_BLB_ease_1 (fun ov T_1 hw hT => ?_)
    obtain ⟨rfl, hw⟩ := hw
    have hc0 := rm_c hc0 he1
    have hn0 := rm_c hn0 he2
    refine j_aload_n F 0 d_BLB_ease_4 rfl ?_
    refine j_iload_n F 1 d_BLB_ease_5 rfl ?_
    obtain ⟨mc_9, ms_10, mc_11, ms_12, ⟨he1, he2⟩, hw⟩ := hw
    obtain ⟨hg1, hw⟩ := hw
    refine e_callV F K E Pr hT (c_BLB_checkLot l hfl hw) (tw_gV tq_499 tq_500 tq_501 tq_473 tq_502) hg1 q_BLB_checkLot rfl ⟨by decide, by decide⟩ ⟨rm_l hc0 he1, rm_l hn0 he2⟩ rfl (Nat.le_of_ble_eq_true rfl) d_BLB_ease_6 (fun ov T_7 hw hT => ?_)
    obtain ⟨rfl, hw⟩ := hw
    have hc0 := rm_c hc0 he1
    have hn0 := rm_c hn0 he2
    refine j_aload_n F 0 d_BLB_ease_9 rfl ?_
    refine j_iload_n F 2 d_BLB_ease_10 rfl ?_
    obtain ⟨mc_15, ms_16, mc_17, ms_18, ⟨he1, he2⟩, hw⟩ := hw
    obtain ⟨hg1, hw⟩ := hw
    refine e_callV F K E Pr hT (c_BLB_checkLot l hfl hw) (tw_gV tq_499 tq_500 tq_501 tq_473 tq_502) hg1 q_BLB_checkLot rfl ⟨by decide, by decide⟩ ⟨rm_l hc0 he1, rm_l hn0 he2⟩ rfl (Nat.le_of_ble_eq_true rfl) d_BLB_ease_11 (fun ov T_13 hw hT => ?_)
    obtain ⟨rfl, hw⟩ := hw
    have hc0 := rm_c hc0 he1
    have hn0 := rm_c hn0 he2
    refine j_iload_n F 3 d_BLB_ease_14 rfl ?_
    obtain ⟨mc_21, ms_22, mc_23, ms_24, ⟨he1, he2⟩, hw⟩ := hw
    refine e_callS F K E Pr hT (c_BLB_checkDay l hfl hw) (tw_gS tq_471 tq_472 tq_473 tq_474) q_BLB_checkDay rfl ⟨by decide, by decide⟩ ⟨rm_l hc0 he1, rm_l hn0 he2⟩ rfl (Nat.le_of_ble_eq_true rfl) d_BLB_ease_15 (fun ov T_19 hw hT => ?_)
    obtain ⟨rfl, hw⟩ := hw
    have hc0 := rm_c hc0 he1
    have hn0 := rm_c hn0 he2
    refine j_iconst F d_BLB_ease_18 ?_
    obtain ⟨hr0, mc_27, ms_28, ⟨he1, he2⟩, hw⟩ := hw
    refine c_newa11 F K hT tq_118 hr0 (rm_l hc0 he1) (rm_l hn0 he2) d_BLB_ease_19 (fun q_25 T_26 e_q_25 e_T_26 hT => ?_)
    have hw := hw q_25 T_26 e_q_25 e_T_26
    have hc0 := rm_c hc0 he1
    have hn0 := rm_c hn0 he2
    refine j_dup F rfl d_BLB_ease_21 ?_
    refine j_iconst F d_BLB_ease_22 ?_
    refine j_iload_n F 1 d_BLB_ease_23 rfl ?_
    obtain ⟨hc1, hc2, hw⟩ := hw
    refine c_iast F K hT hc1 hc2 d_BLB_ease_24 (fun T_29 e_T_29 hT => ?_)
    have hw := hw T_29 e_T_29
    refine j_dup F rfl d_BLB_ease_25 ?_
    refine j_iconst F d_BLB_ease_26 ?_
    refine j_iload_n F 2 d_BLB_ease_27 rfl ?_
    obtain ⟨hc1, hc2, hw⟩ := hw
    refine c_iast F K hT hc1 hc2 d_BLB_ease_28 (fun T_30 e_T_30 hT => ?_)
    have hw := hw T_30 e_T_30
    refine j_astore F [(4, .ref q_25), (0, .ref v0), (1, vi v1), (2, vi v2), (3, vi v3)] d_BLB_ease_29 (by decide) rfl ?_
    refine j_aload_n F 1 d_BLB_ease_31 rfl ?_
    obtain ⟨hc1, q_31, hc2, hw⟩ := hw
    refine c_getr F K hT 1 4 rfl tu_LandBook (by decide) (by decide) rfl tq_441 (Or.inl rfl) hc1 hc2 d_BLB_ease_32 ?_
    refine j_aload F 0 d_BLB_ease_35 rfl ?_
    refine j_iload_n F 4 d_BLB_ease_37 rfl ?_
    obtain ⟨hg1, hw⟩ := hw
    refine c_callVi F K hT (c_BRg_objection l hw) (tw_gV tq_503 tq_504 tq_505 tq_336 tq_506) 5 rfl (by decide) hg1 q_BRg_objection rfl ⟨by decide, by decide⟩ ⟨rm_z hc0, rm_z hn0⟩ rfl (Nat.le_of_ble_eq_true rfl) d_BLB_ease_38 (fun r_33 T_32 hw hT => ?_)
    refine j_istore F [(5, vi r_33), (4, .ref q_25), (0, .ref v0), (1, vi v1), (2, vi v2), (3, vi v3)] d_BLB_ease_41 (by decide) rfl ?_
    refine j_iload F 0 d_BLB_ease_43 rfl ?_
    obtain ⟨hc1, hwt, hwf⟩ := hw
    refine j_if_eq F 51 hc1 d_BLB_ease_45 rfl (fun hh => ?_) (fun hh => ?_)
    · have hw := hwt hh
      refine j_iload_n F 3 d_BLB_ease_51 rfl ?_
      refine j_iload_n F 4 d_BLB_ease_52 rfl ?_
      obtain ⟨hc1, hc2, hwt, hwf⟩ := hw
      refine j_icmp_ne F 59 hc1 hc2 d_BLB_ease_53 rfl (fun hh => ?_) (fun hh => ?_)
      · have hw := hwt hh
        refine j_iconst F d_BLB_ease_59 ?_
        obtain ⟨hr0, mc_36, ms_37, ⟨he1, he2⟩, hw⟩ := hw
        refine c_newa11 F K hT tq_118 hr0 (rm_l hc0 he1) (rm_l hn0 he2) d_BLB_ease_60 (fun q_34 T_35 e_q_34 e_T_35 hT => ?_)
        have hw := hw q_34 T_35 e_q_34 e_T_35
        have hc0 := rm_c hc0 he1
        have hn0 := rm_c hn0 he2
        refine j_dup F rfl d_BLB_ease_62 ?_
        refine j_iconst F d_BLB_ease_63 ?_
        refine j_iload_n F 3 d_BLB_ease_64 rfl ?_
        refine j_ldc (x := 65536) F tq_545 (by decide) d_BLB_ease_65 ?_
        refine j_imul F d_BLB_ease_67 ?_
        refine j_iload_n F 4 d_BLB_ease_68 rfl ?_
        refine j_iadd F d_BLB_ease_69 ?_
        obtain ⟨hc1, hc2, hw⟩ := hw
        refine c_iast F K hT hc1 hc2 d_BLB_ease_70 (fun T_38 e_T_38 hT => ?_)
        have hw := hw T_38 e_T_38
        refine j_astore F [(6, .ref q_34), (5, vi r_33), (4, .ref q_25), (0, .ref v0), (1, vi v1), (2, vi v2), (3, vi v3)] d_BLB_ease_71 (by decide) rfl ?_
        refine j_aload_n F 3 d_BLB_ease_73 rfl ?_
        refine j_iconst F d_BLB_ease_74 ?_
        refine j_iconst F d_BLB_ease_75 ?_
        refine j_aload F 0 d_BLB_ease_76 rfl ?_
        obtain ⟨hg1, hw⟩ := hw
        refine c_callVi F K hT (c_BLB_isFull l hw) (tw_gV tq_516 tq_517 tq_518 tq_473 tq_519) 1 rfl (by decide) hg1 q_BLB_isFull rfl ⟨by decide, by decide⟩ ⟨rm_z hc0, rm_z hn0⟩ rfl (Nat.le_of_ble_eq_true rfl) d_BLB_ease_78 (fun r_40 T_39 hw hT => ?_)
        obtain ⟨hc1, hwt, hwf⟩ := hw
        refine j_if_eq F 87 hc1 d_BLB_ease_81 rfl (fun hh => ?_) (fun hh => ?_)
        · have hw := hwt hh
          refine j_aload_n F 3 d_BLB_ease_87 rfl ?_
          obtain ⟨mc_43, ms_44, ⟨he1, he2⟩, hw⟩ := hw
          refine c_new F K hT 8 rfl tu_Deed t_Deed t_Deed_ok (by decide) rfl (by decide) tq_523 tq_524 tq_293 (rm_l hc0 he1) (rm_l hn0 he2) d_BLB_ease_88 (fun q_41 T_42 e_q_41 e_T_42 hT => ?_)
          have hw := hw q_41 T_42 e_q_41 e_T_42
          have hc0 := rm_c hc0 he1
          have hn0 := rm_c hn0 he2
          refine j_dup F rfl d_BLB_ease_91 ?_
          refine j_iconst F d_BLB_ease_92 ?_
          refine j_iload_n F 6 d_BLB_ease_93 rfl ?_
          refine j_aload F 2 d_BLB_ease_94 rfl ?_
          refine c_callIv F K hT (c_BDe_init3 l hw) tq_525 tq_293 tq_526 tq_527 rfl q_BDe_init3 rfl ⟨by decide, by decide⟩ ⟨rm_z hc0, rm_z hn0⟩ rfl (Nat.le_of_ble_eq_true rfl) d_BLB_ease_96 (fun T_45 hw hT => ?_)
          refine j_aload F 0 d_BLB_ease_99 rfl ?_
          obtain ⟨mc_49, ms_50, mc_51, ms_52, ⟨he1, he2⟩, hw⟩ := hw
          obtain ⟨hg1, hw⟩ := hw
          refine c_callVi F K hT (c_BLB_enter l hw) (tw_gV tq_528 tq_529 tq_530 tq_473 tq_531) 1 rfl (by decide) hg1 q_BLB_enter rfl ⟨by decide, by decide⟩ ⟨rm_l hc0 he1, rm_l hn0 he2⟩ rfl (Nat.le_of_ble_eq_true rfl) d_BLB_ease_101 (fun r_48 T_47 hw hT => ?_)
          have hc0 := rm_c hc0 he1
          have hn0 := rm_c hn0 he2
          refine j_pop F rfl d_BLB_ease_104 ?_
          refine j_aload_n F 3 d_BLB_ease_105 rfl ?_
          obtain ⟨hc1, q_53, hc2, hw⟩ := hw
          refine c_getr F K hT 1 4 rfl tu_LandBook (by decide) (by decide) rfl tq_441 (Or.inl rfl) hc1 hc2 d_BLB_ease_106 ?_
          refine j_iload_n F 4 d_BLB_ease_109 rfl ?_
          obtain ⟨mc_56, ms_57, mc_58, ms_59, ⟨he1, he2⟩, hw⟩ := hw
          obtain ⟨hg1, hw⟩ := hw
          refine c_callVi F K hT (c_BRg_grant l hw) (tw_gV tq_558 tq_559 tq_560 tq_336 tq_561) 5 rfl (by decide) hg1 q_BRg_grant rfl ⟨by decide, by decide⟩ ⟨rm_l hc0 he1, rm_l hn0 he2⟩ rfl (Nat.le_of_ble_eq_true rfl) d_BLB_ease_110 (fun r_55 T_54 hw hT => ?_)
          have hc0 := rm_c hc0 he1
          have hn0 := rm_c hn0 he2
          exact hri _ _ _ _ _ _ rfl ⟨_, rfl, hw⟩ hT (rm_y hc0) (rm_y hn0) d_BLB_ease_113
        · have hw := hwf hh
          refine j_bipush F d_BLB_ease_84 (j_bip (by decide) (by decide)) ?_
          exact hri _ _ _ _ _ _ rfl ⟨_, rfl, hw⟩ hT (rm_y hc0) (rm_y hn0) d_BLB_ease_86
      · have hw := hwf hh
        refine j_bipush F d_BLB_ease_56 (j_bip (by decide) (by decide)) ?_
        exact hri _ _ _ _ _ _ rfl ⟨_, rfl, hw⟩ hT (rm_y hc0) (rm_y hn0) d_BLB_ease_58
    · have hw := hwf hh
      refine j_iload F 0 d_BLB_ease_48 rfl ?_
      exact hri _ _ _ _ _ _ rfl ⟨_, rfl, hw⟩ hT (rm_y hc0) (rm_y hn0) d_BLB_ease_50
  exact key mc ms 0 0 rfl rfl rfl rfl (Nat.zero_add _) (Nat.zero_add _)
theorem tq_562 : (Jvm.Cond.methodLink "LandBook" (194 : Nat) ({ cls := "LandBook$Register", name := "stands", desc := "(III)Z" } : Jvm.MethodName)) ∈ tw_G := tw_in (List.mem_of_getElem? (i := 872) (by decide +kernel)) rfl
theorem tq_563 : (Jvm.Cond.methodLink "LandBook" (197 : Nat) ({ cls := "LandBook$Register", name := "lotsBurdened", desc := "(II)[I" } : Jvm.MethodName)) ∈ tw_G := tw_in (List.mem_of_getElem? (i := 873) (by decide +kernel)) rfl
theorem tq_564 : (Jvm.Cond.instanceMethod ({ cls := "LandBook$Register", name := "lotsBurdened", desc := "(II)[I" } : Jvm.MethodName)) ∈ tw_G := tw_in (List.mem_of_getElem? (i := 874) (by decide +kernel)) rfl
theorem tq_565 : (Jvm.Cond.selects "LandBook$Register" ({ cls := "LandBook$Register", name := "lotsBurdened", desc := "(II)[I" } : Jvm.MethodName) ({ cls := "LandBook$Register", name := "lotsBurdened", desc := "(II)[I" } : Jvm.MethodName)) ∈ tw_G := tw_in (List.mem_of_getElem? (i := 875) (by decide +kernel)) rfl
theorem tq_566 : (Jvm.Cond.code ({ cls := "LandBook$Register", name := "lotsBurdened", desc := "(II)[I" } : Jvm.MethodName) prog_10_method_13_code (6 : Nat) (Option.some (Jvm.ClassFile.FieldType.array Jvm.ClassFile.FieldType.int))) ∈ tw_G := tw_in (List.mem_of_getElem? (i := 876) (by decide +kernel)) rfl
theorem tq_567 : (Jvm.Cond.methodLink "LandBook" (201 : Nat) ({ cls := "LandBook$Register", name := "isLate", desc := "([II)Z" } : Jvm.MethodName)) ∈ tw_G := tw_in (List.mem_of_getElem? (i := 878) (by decide +kernel)) rfl
theorem tq_568 : (Jvm.Cond.methodLink "LandBook" (205 : Nat) ({ cls := "LandBook$Register", name := "endEasement", desc := "(I)I" } : Jvm.MethodName)) ∈ tw_G := tw_in (List.mem_of_getElem? (i := 879) (by decide +kernel)) rfl
theorem tq_569 : (Jvm.Cond.instanceMethod ({ cls := "LandBook$Register", name := "endEasement", desc := "(I)I" } : Jvm.MethodName)) ∈ tw_G := tw_in (List.mem_of_getElem? (i := 880) (by decide +kernel)) rfl
theorem tq_570 : (Jvm.Cond.selects "LandBook$Register" ({ cls := "LandBook$Register", name := "endEasement", desc := "(I)I" } : Jvm.MethodName) ({ cls := "LandBook$Register", name := "endEasement", desc := "(I)I" } : Jvm.MethodName)) ∈ tw_G := tw_in (List.mem_of_getElem? (i := 881) (by decide +kernel)) rfl
theorem tq_571 : (Jvm.Cond.code ({ cls := "LandBook$Register", name := "endEasement", desc := "(I)I" } : Jvm.MethodName) prog_10_method_23_code (2 : Nat) (Option.some Jvm.ClassFile.FieldType.int)) ∈ tw_G := tw_in (List.mem_of_getElem? (i := 882) (by decide +kernel)) rfl
abbrev y_BLB_release : MethodName := ⟨"LandBook", "release", "(II)I"⟩
theorem q_BLB_release : y_BLB_release.cls = "LandBook" ∧ y_BLB_release.cls ≠ "java/lang/invoke/MethodHandle" ∧ y_BLB_release.cls ≠ "java/lang/invoke/VarHandle" ∧ (parseMethodDescriptor y_BLB_release.desc).map (fun d => d.parameters.length) = some 2 := by decide +kernel
theorem d_BLB_release_0 : decode prog_1_method_8_code 0 = .ok (.aload_n 0, 1) := by decide +kernel
theorem d_BLB_release_1 : decode prog_1_method_8_code 1 = .ok (.invokevirtual 99, 3) := by decide +kernel
theorem d_BLB_release_4 : decode prog_1_method_8_code 4 = .ok (.iload_n 1, 1) := by decide +kernel
theorem d_BLB_release_5 : decode prog_1_method_8_code 5 = .ok (.iconst 1, 1) := by decide +kernel
theorem d_BLB_release_6 : decode prog_1_method_8_code 6 = .ok (.if_icmp .lt 14, 3) := by decide +kernel
theorem d_BLB_release_9 : decode prog_1_method_8_code 9 = .ok (.iload_n 1, 1) := by decide +kernel
theorem d_BLB_release_10 : decode prog_1_method_8_code 10 = .ok (.aload_n 0, 1) := by decide +kernel
theorem d_BLB_release_11 : decode prog_1_method_8_code 11 = .ok (.getfield 38, 3) := by decide +kernel
theorem d_BLB_release_14 : decode prog_1_method_8_code 14 = .ok (.invokevirtual 186, 3) := by decide +kernel
theorem d_BLB_release_17 : decode prog_1_method_8_code 17 = .ok (.if_icmp .le 13, 3) := by decide +kernel
theorem d_BLB_release_30 : decode prog_1_method_8_code 30 = .ok (.iload_n 2, 1) := by decide +kernel
theorem d_BLB_release_31 : decode prog_1_method_8_code 31 = .ok (.invokestatic 105, 3) := by decide +kernel
theorem d_BLB_release_34 : decode prog_1_method_8_code 34 = .ok (.aload_n 0, 1) := by decide +kernel
theorem d_BLB_release_35 : decode prog_1_method_8_code 35 = .ok (.getfield 38, 3) := by decide +kernel
theorem d_BLB_release_38 : decode prog_1_method_8_code 38 = .ok (.iload_n 1, 1) := by decide +kernel
theorem d_BLB_release_39 : decode prog_1_method_8_code 39 = .ok (.iload_n 2, 1) := by decide +kernel
theorem d_BLB_release_40 : decode prog_1_method_8_code 40 = .ok (.aload_n 0, 1) := by decide +kernel
theorem d_BLB_release_41 : decode prog_1_method_8_code 41 = .ok (.getfield 38, 3) := by decide +kernel
theorem d_BLB_release_44 : decode prog_1_method_8_code 44 = .ok (.invokevirtual 173, 3) := by decide +kernel
theorem d_BLB_release_47 : decode prog_1_method_8_code 47 = .ok (.invokevirtual 194, 3) := by decide +kernel
theorem d_BLB_release_50 : decode prog_1_method_8_code 50 = .ok (.ifCond .ne 5, 3) := by decide +kernel
theorem d_BLB_release_55 : decode prog_1_method_8_code 55 = .ok (.aload_n 0, 1) := by decide +kernel
theorem d_BLB_release_56 : decode prog_1_method_8_code 56 = .ok (.getfield 38, 3) := by decide +kernel
theorem d_BLB_release_59 : decode prog_1_method_8_code 59 = .ok (.iload_n 1, 1) := by decide +kernel
theorem d_BLB_release_60 : decode prog_1_method_8_code 60 = .ok (.iload_n 2, 1) := by decide +kernel
theorem d_BLB_release_61 : decode prog_1_method_8_code 61 = .ok (.invokevirtual 197, 3) := by decide +kernel
theorem d_BLB_release_64 : decode prog_1_method_8_code 64 = .ok (.astore_n 3, 1) := by decide +kernel
theorem d_BLB_release_65 : decode prog_1_method_8_code 65 = .ok (.aload_n 0, 1) := by decide +kernel
theorem d_BLB_release_66 : decode prog_1_method_8_code 66 = .ok (.getfield 38, 3) := by decide +kernel
theorem d_BLB_release_69 : decode prog_1_method_8_code 69 = .ok (.aload_n 3, 1) := by decide +kernel
theorem d_BLB_release_70 : decode prog_1_method_8_code 70 = .ok (.iload_n 2, 1) := by decide +kernel
theorem d_BLB_release_71 : decode prog_1_method_8_code 71 = .ok (.invokevirtual 201, 3) := by decide +kernel
theorem d_BLB_release_74 : decode prog_1_method_8_code 74 = .ok (.ifCond .eq 6, 3) := by decide +kernel
theorem d_BLB_release_80 : decode prog_1_method_8_code 80 = .ok (.iconst 1, 1) := by decide +kernel
theorem d_BLB_release_81 : decode prog_1_method_8_code 81 = .ok (.newarray .int, 2) := by decide +kernel
theorem d_BLB_release_83 : decode prog_1_method_8_code 83 = .ok (.dup, 1) := by decide +kernel
theorem d_BLB_release_84 : decode prog_1_method_8_code 84 = .ok (.iconst 0, 1) := by decide +kernel
theorem d_BLB_release_85 : decode prog_1_method_8_code 85 = .ok (.iload_n 1, 1) := by decide +kernel
theorem d_BLB_release_86 : decode prog_1_method_8_code 86 = .ok (.iastore, 1) := by decide +kernel
theorem d_BLB_release_87 : decode prog_1_method_8_code 87 = .ok (.astore 4, 2) := by decide +kernel
theorem d_BLB_release_89 : decode prog_1_method_8_code 89 = .ok (.aload_n 0, 1) := by decide +kernel
theorem d_BLB_release_90 : decode prog_1_method_8_code 90 = .ok (.iconst 0, 1) := by decide +kernel
theorem d_BLB_release_91 : decode prog_1_method_8_code 91 = .ok (.iconst 0, 1) := by decide +kernel
theorem d_BLB_release_92 : decode prog_1_method_8_code 92 = .ok (.aload 4, 2) := by decide +kernel
theorem d_BLB_release_94 : decode prog_1_method_8_code 94 = .ok (.invokevirtual 135, 3) := by decide +kernel
theorem d_BLB_release_97 : decode prog_1_method_8_code 97 = .ok (.ifCond .eq 6, 3) := by decide +kernel
theorem d_BLB_release_103 : decode prog_1_method_8_code 103 = .ok (.aload_n 0, 1) := by decide +kernel
theorem d_BLB_release_104 : decode prog_1_method_8_code 104 = .ok (.new 143, 3) := by decide +kernel
theorem d_BLB_release_107 : decode prog_1_method_8_code 107 = .ok (.dup, 1) := by decide +kernel
theorem d_BLB_release_108 : decode prog_1_method_8_code 108 = .ok (.iconst 5, 1) := by decide +kernel
theorem d_BLB_release_109 : decode prog_1_method_8_code 109 = .ok (.iload_n 2, 1) := by decide +kernel
theorem d_BLB_release_110 : decode prog_1_method_8_code 110 = .ok (.aload_n 3, 1) := by decide +kernel
theorem d_BLB_release_111 : decode prog_1_method_8_code 111 = .ok (.invokespecial 145, 3) := by decide +kernel
theorem d_BLB_release_114 : decode prog_1_method_8_code 114 = .ok (.aload 4, 2) := by decide +kernel
theorem d_BLB_release_116 : decode prog_1_method_8_code 116 = .ok (.invokevirtual 148, 3) := by decide +kernel
theorem d_BLB_release_119 : decode prog_1_method_8_code 119 = .ok (.pop, 1) := by decide +kernel
theorem d_BLB_release_120 : decode prog_1_method_8_code 120 = .ok (.aload_n 0, 1) := by decide +kernel
theorem d_BLB_release_121 : decode prog_1_method_8_code 121 = .ok (.getfield 38, 3) := by decide +kernel
theorem d_BLB_release_124 : decode prog_1_method_8_code 124 = .ok (.iload_n 1, 1) := by decide +kernel
theorem d_BLB_release_125 : decode prog_1_method_8_code 125 = .ok (.invokevirtual 205, 3) := by decide +kernel
theorem d_BLB_release_128 : decode prog_1_method_8_code 128 = .ok (.ireturn, 1) := by decide +kernel
theorem d_BLB_release_100 : decode prog_1_method_8_code 100 = .ok (.bipush (-4), 2) := by decide +kernel
theorem d_BLB_release_102 : decode prog_1_method_8_code 102 = .ok (.ireturn, 1) := by decide +kernel
theorem d_BLB_release_77 : decode prog_1_method_8_code 77 = .ok (.bipush (-2), 2) := by decide +kernel
theorem d_BLB_release_79 : decode prog_1_method_8_code 79 = .ok (.ireturn, 1) := by decide +kernel
theorem d_BLB_release_53 : decode prog_1_method_8_code 53 = .ok (.iconst (-1), 1) := by decide +kernel
theorem d_BLB_release_54 : decode prog_1_method_8_code 54 = .ok (.ireturn, 1) := by decide +kernel
theorem d_BLB_release_20 : decode prog_1_method_8_code 20 = .ok (.new 189, 3) := by decide +kernel
theorem d_BLB_release_23 : decode prog_1_method_8_code 23 = .ok (.dup, 1) := by decide +kernel
theorem d_BLB_release_24 : decode prog_1_method_8_code 24 = .ok (.ldc 191, 2) := by decide +kernel
theorem d_BLB_release_26 : decode prog_1_method_8_code 26 = .ok (.invokespecial 193, 3) := by decide +kernel
theorem d_BLB_release_29 : decode prog_1_method_8_code 29 = .ok (.athrow, 1) := by decide +kernel
def wp_BLB_release_20 (post : Int → CS → Prop) (pe : String → CS → Prop) (mc0 : Nat) (ms0 : Nat) (T : CS) : Prop := (1 ≤ mc0 ∧ 6 ≤ ms0) ∧ pe "java/lang/IndexOutOfBoundsException" T
def wp_BLB_release (post : Int → CS → Prop) (pe : String → CS → Prop) (mc0 ms0 : Nat) (v0 : Nat) (v1 : Int) (v2 : Int) (T : CS) : Prop := ∃ mc_3 ms_4 mc_5 ms_6 : Nat, (mc0 = mc_3 + mc_5 ∧ ms0 = ms_4 + ms_6) ∧ tg T v0 = 1 ∧ wp_BLB_checkUp (fun T_1 => inR v1 ∧ (v1 < 1 → wp_BLB_release_20 post pe mc_5 ms_6 T_1) ∧ (¬ (v1 < 1) → (tg T_1 v0 = 1 ∧ ∃ q_7 : Nat, fo T_1 v0 4 = some q_7 ∧ (tg T_1 q_7 = 5 ∧ wp_BRg_easementCount (fun r_9 T_8 => inR v1 ∧ inR r_9 ∧ (v1 ≤ r_9 → (∃ mc_12 ms_13 mc_14 ms_15 : Nat, (mc_5 = mc_12 + mc_14 ∧ ms_6 = ms_13 + ms_15) ∧ wp_BLB_checkDay (fun T_10 => tg T_10 v0 = 1 ∧ ∃ q_16 : Nat, fo T_10 v0 4 = some q_16 ∧ (tg T_10 v0 = 1 ∧ ∃ q_17 : Nat, fo T_10 v0 4 = some q_17 ∧ (tg T_10 q_17 = 5 ∧ wp_BRg_lastEntry (fun r_19 T_18 => tg T_18 q_16 = 5 ∧ wp_BRg_stands (fun r_21 T_20 => inR r_21 ∧ (¬ (r_21 = 0) → (tg T_20 v0 = 1 ∧ ∃ q_22 : Nat, fo T_20 v0 4 = some q_22 ∧ (∃ mc_25 ms_26 mc_27 ms_28 : Nat, (mc_14 = mc_25 + mc_27 ∧ ms_15 = ms_26 + ms_28) ∧ tg T_20 q_22 = 5 ∧ wp_BRg_lotsBurdened (fun r_24 T_23 => tg T_23 v0 = 1 ∧ ∃ q_29 : Nat, fo T_23 v0 4 = some q_29 ∧ (tg T_23 q_29 = 5 ∧ wp_BRg_isLate (fun r_31 T_30 => inR r_31 ∧ (r_31 = 0 → (((0 : Int) ≤ 1 ∧ (1 : Int) ≤ 134217728) ∧ ∃ mc_34 ms_35 : Nat, (mc_27 = 1 + mc_34 ∧ ms_28 = 1 + ms_35) ∧ (∀ (q_32 : Nat) (T_33 : CS), tg T_30 q_32 = 0 → T_33 = cs_new T_30 q_32 11 1 → tg T_33 q_32 = 11 ∧ ixR 0 (ln T_33 q_32) ∧ ((∀ T_36 : CS, T_36 = cs_i T_33 q_32 0 v1 → tg T_36 v0 = 1 ∧ wp_BLB_isFull (fun r_38 T_37 => inR r_38 ∧ (r_38 = 0 → (∃ mc_41 ms_42 : Nat, (mc_34 = 1 + mc_41 ∧ ms_35 = 6 + ms_42) ∧ (∀ (q_39 : Nat) (T_40 : CS), tg T_37 q_39 = 0 → T_40 = cs_new T_37 q_39 8 0 → wp_BDe_init3 (fun T_43 => ∃ mc_47 ms_48 mc_49 ms_50 : Nat, (mc_41 = mc_47 + mc_49 ∧ ms_42 = ms_48 + ms_50) ∧ tg T_43 v0 = 1 ∧ wp_BLB_enter (fun r_46 T_45 => tg T_45 v0 = 1 ∧ ∃ q_51 : Nat, fo T_45 v0 4 = some q_51 ∧ (tg T_45 q_51 = 5 ∧ wp_BRg_endEasement (fun r_53 T_52 => post r_53 T_52) q_51 v1 T_45)) mc_47 ms_48 v0 q_39 q_32 T_43) q_39 5 v2 r_24 T_40))) ∧ (¬ (r_38 = 0) → (post (-4) T_37))) v0 0 0 q_32 T_36))))) ∧ (¬ (r_31 = 0) → (post (-2) T_30))) q_29 r_24 v2 T_23)) mc_25 ms_26 q_22 v1 v2 T_20))) ∧ (r_21 = 0 → (post (-1) T_20))) q_16 v1 v2 r_19 T_18) q_17 T_10))) pe mc_12 ms_13 v2 T_8)) ∧ (¬ (v1 ≤ r_9) → wp_BLB_release_20 post pe mc_5 ms_6 T_8)) q_7 T_1)))) pe mc_3 ms_4 v0 T
set_option maxHeartbeats 4000000 in
set_option maxRecDepth 100000 in
theorem c_BLB_release (l : Launch) (hfl : l.flags = pinnedFlags ++ [noTraceFlag]) {D : va_G} {k : CK} {post : Int → CS → Prop} {pe : String → CS → Prop} {mc ms : Nat} {v0 : Nat} {v1 : Int} {v2 : Int} {T : CS} (hw : wp_BLB_release post pe mc ms v0 v1 v2 T) : jE l D k y_BLB_release prog_1_method_8_code 5 (some .int) 9 235 mc ms T [.ref v0, vi v1, vi v2] (rtI post) pe := by
  refine j_eo hfl (by decide) rfl (Nat.le_of_ble_eq_true rfl) (by decide) (by decide) (fun X F K E hT Pr hthr hri hrz hrv => ?_)
  have B20 : ∀ (mc0 : Nat) (ms0 : Nat) (T : CS) (c0 n0 : Nat), c0 + mc0 = mc → n0 + ms0 = ms → cs_ok k T → wp_BLB_release_20 post pe mc0 ms0 T → jat l D X 5 20 [] [] (cwd k T) c0 n0 := by
    intro mc0 ms0 T c0 n0 hc0 hn0 hT hw
    unfold wp_BLB_release_20 at hw
    obtain ⟨⟨hr1, hr2⟩, hw⟩ := hw
    exact hthr _ _ _ _ _ _ "no such easement" 189 191 193 2 hw hT (by decide) (by decide) (by decide) tq_467 tq_468 d_BLB_release_20 d_BLB_release_23 (Or.inl ⟨rfl, d_BLB_release_24⟩) d_BLB_release_26 d_BLB_release_29 (rm_t hc0 hr1) (rm_t hn0 hr2)
  unfold wp_BLB_release at hw
  have key : ∀ (mc0 ms0 c0 n0 : Nat), mc0 = mc → ms0 = ms → c0 = 0 → n0 = 0 → c0 + mc0 = mc → n0 + ms0 = ms → jat l D X 5 0 [(0, .ref v0), (1, vi v1), (2, vi v2)] [] (cwd k T) c0 n0 := by
    intro mc0 ms0 c0 n0 hm1 hm2 hz1 hz2 hc0 hn0
    subst hm1; subst hm2
    clear hz1 hz2
    refine j_aload_n F 0 d_BLB_release_0 rfl ?_
    obtain ⟨mc_3, ms_4, mc_5, ms_6, ⟨he1, he2⟩, hw⟩ := hw
    obtain ⟨hg1, hw⟩ := hw
    refine e_callV F K E Pr hT (c_BLB_checkUp l hfl hw) (tw_gV tq_495 tq_496 tq_497 tq_473 tq_498) hg1 q_BLB_checkUp rfl ⟨by decide, by decide⟩ ⟨rm_l hc0 he1, rm_l hn0 he2⟩ rfl (Nat.le_of_ble_eq_true rfl) d_BLB_release_1 (fun ov T_1 hw hT => ?_)
    obtain ⟨rfl, hw⟩ := hw
    have hc0 := rm_c hc0 he1
    have hn0 := rm_c hn0 he2
    refine j_iload_n F 1 d_BLB_release_4 rfl ?_
    refine j_iconst F d_BLB_release_5 ?_
    obtain ⟨hc1, hwt, hwf⟩ := hw
    refine j_icmp_lt F 20 hc1 ⟨by decide, by decide⟩ d_BLB_release_6 rfl (fun hh => ?_) (fun hh => ?_)
    · have hw := hwt hh
      refine j_sub [] rfl ?_
      exact B20 _ _ _ _ _ hc0 hn0 hT hw
    · have hw := hwf hh
      refine j_iload_n F 1 d_BLB_release_9 rfl ?_
      refine j_aload_n F 0 d_BLB_release_10 rfl ?_
      obtain ⟨hc1, q_7, hc2, hw⟩ := hw
      refine c_getr F K hT 1 4 rfl tu_LandBook (by decide) (by decide) rfl tq_441 (Or.inl rfl) hc1 hc2 d_BLB_release_11 ?_
      obtain ⟨hg1, hw⟩ := hw
      refine c_callVi F K hT (c_BRg_easementCount l hw) (tw_gV tq_447 tq_448 tq_449 tq_336 tq_450) 5 rfl (by decide) hg1 q_BRg_easementCount rfl ⟨by decide, by decide⟩ ⟨rm_z hc0, rm_z hn0⟩ rfl (Nat.le_of_ble_eq_true rfl) d_BLB_release_14 (fun r_9 T_8 hw hT => ?_)
      obtain ⟨hc1, hc2, hwt, hwf⟩ := hw
      refine j_icmp_le F 30 hc1 hc2 d_BLB_release_17 rfl (fun hh => ?_) (fun hh => ?_)
      · have hw := hwt hh
        refine j_iload_n F 2 d_BLB_release_30 rfl ?_
        obtain ⟨mc_12, ms_13, mc_14, ms_15, ⟨he1, he2⟩, hw⟩ := hw
        refine e_callS F K E Pr hT (c_BLB_checkDay l hfl hw) (tw_gS tq_471 tq_472 tq_473 tq_474) q_BLB_checkDay rfl ⟨by decide, by decide⟩ ⟨rm_l hc0 he1, rm_l hn0 he2⟩ rfl (Nat.le_of_ble_eq_true rfl) d_BLB_release_31 (fun ov T_10 hw hT => ?_)
        obtain ⟨rfl, hw⟩ := hw
        have hc0 := rm_c hc0 he1
        have hn0 := rm_c hn0 he2
        refine j_aload_n F 0 d_BLB_release_34 rfl ?_
        obtain ⟨hc1, q_16, hc2, hw⟩ := hw
        refine c_getr F K hT 1 4 rfl tu_LandBook (by decide) (by decide) rfl tq_441 (Or.inl rfl) hc1 hc2 d_BLB_release_35 ?_
        refine j_iload_n F 1 d_BLB_release_38 rfl ?_
        refine j_iload_n F 2 d_BLB_release_39 rfl ?_
        refine j_aload_n F 0 d_BLB_release_40 rfl ?_
        obtain ⟨hc1, q_17, hc2, hw⟩ := hw
        refine c_getr F K hT 1 4 rfl tu_LandBook (by decide) (by decide) rfl tq_441 (Or.inl rfl) hc1 hc2 d_BLB_release_41 ?_
        obtain ⟨hg1, hw⟩ := hw
        refine c_callVi F K hT (c_BRg_lastEntry l hw) (tw_gV tq_442 tq_363 tq_364 tq_336 tq_365) 5 rfl (by decide) hg1 q_BRg_lastEntry rfl ⟨by decide, by decide⟩ ⟨rm_z hc0, rm_z hn0⟩ rfl (Nat.le_of_ble_eq_true rfl) d_BLB_release_44 (fun r_19 T_18 hw hT => ?_)
        obtain ⟨hg1, hw⟩ := hw
        refine c_callVi F K hT (c_BRg_stands l hw) (tw_gV tq_562 tq_351 tq_352 tq_336 tq_353) 5 rfl (by decide) hg1 q_BRg_stands rfl ⟨by decide, by decide⟩ ⟨rm_z hc0, rm_z hn0⟩ rfl (Nat.le_of_ble_eq_true rfl) d_BLB_release_47 (fun r_21 T_20 hw hT => ?_)
        obtain ⟨hc1, hwt, hwf⟩ := hw
        refine j_if_ne F 55 hc1 d_BLB_release_50 rfl (fun hh => ?_) (fun hh => ?_)
        · have hw := hwt hh
          refine j_aload_n F 0 d_BLB_release_55 rfl ?_
          obtain ⟨hc1, q_22, hc2, hw⟩ := hw
          refine c_getr F K hT 1 4 rfl tu_LandBook (by decide) (by decide) rfl tq_441 (Or.inl rfl) hc1 hc2 d_BLB_release_56 ?_
          refine j_iload_n F 1 d_BLB_release_59 rfl ?_
          refine j_iload_n F 2 d_BLB_release_60 rfl ?_
          obtain ⟨mc_25, ms_26, mc_27, ms_28, ⟨he1, he2⟩, hw⟩ := hw
          obtain ⟨hg1, hw⟩ := hw
          refine c_callVr F K hT (c_BRg_lotsBurdened l hw) (tw_gV tq_563 tq_564 tq_565 tq_336 tq_566) 5 rfl (by decide) hg1 q_BRg_lotsBurdened rfl ⟨by decide, by decide⟩ ⟨rm_l hc0 he1, rm_l hn0 he2⟩ rfl (Nat.le_of_ble_eq_true rfl) d_BLB_release_61 (fun r_24 T_23 hw hT => ?_)
          have hc0 := rm_c hc0 he1
          have hn0 := rm_c hn0 he2
          refine j_astore_n F [(3, .ref r_24), (0, .ref v0), (1, vi v1), (2, vi v2)] d_BLB_release_64 (by decide) rfl ?_
          refine j_aload_n F 1 d_BLB_release_65 rfl ?_
          obtain ⟨hc1, q_29, hc2, hw⟩ := hw
          refine c_getr F K hT 1 4 rfl tu_LandBook (by decide) (by decide) rfl tq_441 (Or.inl rfl) hc1 hc2 d_BLB_release_66 ?_
          refine j_aload_n F 0 d_BLB_release_69 rfl ?_
          refine j_iload_n F 3 d_BLB_release_70 rfl ?_
          obtain ⟨hg1, hw⟩ := hw
          refine c_callVi F K hT (c_BRg_isLate l hw) (tw_gV tq_567 tq_383 tq_384 tq_336 tq_385) 5 rfl (by decide) hg1 q_BRg_isLate rfl ⟨by decide, by decide⟩ ⟨rm_z hc0, rm_z hn0⟩ rfl (Nat.le_of_ble_eq_true rfl) d_BLB_release_71 (fun r_31 T_30 hw hT => ?_)
          obtain ⟨hc1, hwt, hwf⟩ := hw
          refine j_if_eq F 80 hc1 d_BLB_release_74 rfl (fun hh => ?_) (fun hh => ?_)
          · have hw := hwt hh
            refine j_iconst F d_BLB_release_80 ?_
            obtain ⟨hr0, mc_34, ms_35, ⟨he1, he2⟩, hw⟩ := hw
            refine c_newa11 F K hT tq_118 hr0 (rm_l hc0 he1) (rm_l hn0 he2) d_BLB_release_81 (fun q_32 T_33 e_q_32 e_T_33 hT => ?_)
            have hw := hw q_32 T_33 e_q_32 e_T_33
            have hc0 := rm_c hc0 he1
            have hn0 := rm_c hn0 he2
            refine j_dup F rfl d_BLB_release_83 ?_
            refine j_iconst F d_BLB_release_84 ?_
            refine j_iload_n F 2 d_BLB_release_85 rfl ?_
            obtain ⟨hc1, hc2, hw⟩ := hw
            refine c_iast F K hT hc1 hc2 d_BLB_release_86 (fun T_36 e_T_36 hT => ?_)
            have hw := hw T_36 e_T_36
            refine j_astore F [(4, .ref q_32), (3, .ref r_24), (0, .ref v0), (1, vi v1), (2, vi v2)] d_BLB_release_87 (by decide) rfl ?_
            refine j_aload_n F 2 d_BLB_release_89 rfl ?_
            refine j_iconst F d_BLB_release_90 ?_
            refine j_iconst F d_BLB_release_91 ?_
            refine j_aload F 0 d_BLB_release_92 rfl ?_
            obtain ⟨hg1, hw⟩ := hw
            refine c_callVi F K hT (c_BLB_isFull l hw) (tw_gV tq_516 tq_517 tq_518 tq_473 tq_519) 1 rfl (by decide) hg1 q_BLB_isFull rfl ⟨by decide, by decide⟩ ⟨rm_z hc0, rm_z hn0⟩ rfl (Nat.le_of_ble_eq_true rfl) d_BLB_release_94 (fun r_38 T_37 hw hT => ?_)
            obtain ⟨hc1, hwt, hwf⟩ := hw
            refine j_if_eq F 103 hc1 d_BLB_release_97 rfl (fun hh => ?_) (fun hh => ?_)
            · have hw := hwt hh
              refine j_aload_n F 2 d_BLB_release_103 rfl ?_
              obtain ⟨mc_41, ms_42, ⟨he1, he2⟩, hw⟩ := hw
              refine c_new F K hT 8 rfl tu_Deed t_Deed t_Deed_ok (by decide) rfl (by decide) tq_523 tq_524 tq_293 (rm_l hc0 he1) (rm_l hn0 he2) d_BLB_release_104 (fun q_39 T_40 e_q_39 e_T_40 hT => ?_)
              have hw := hw q_39 T_40 e_q_39 e_T_40
              have hc0 := rm_c hc0 he1
              have hn0 := rm_c hn0 he2
              refine j_dup F rfl d_BLB_release_107 ?_
              refine j_iconst F d_BLB_release_108 ?_
              refine j_iload_n F 4 d_BLB_release_109 rfl ?_
              refine j_aload_n F 1 d_BLB_release_110 rfl ?_
              refine c_callIv F K hT (c_BDe_init3 l hw) tq_525 tq_293 tq_526 tq_527 rfl q_BDe_init3 rfl ⟨by decide, by decide⟩ ⟨rm_z hc0, rm_z hn0⟩ rfl (Nat.le_of_ble_eq_true rfl) d_BLB_release_111 (fun T_43 hw hT => ?_)
              refine j_aload F 0 d_BLB_release_114 rfl ?_
              obtain ⟨mc_47, ms_48, mc_49, ms_50, ⟨he1, he2⟩, hw⟩ := hw
              obtain ⟨hg1, hw⟩ := hw
              refine c_callVi F K hT (c_BLB_enter l hw) (tw_gV tq_528 tq_529 tq_530 tq_473 tq_531) 1 rfl (by decide) hg1 q_BLB_enter rfl ⟨by decide, by decide⟩ ⟨rm_l hc0 he1, rm_l hn0 he2⟩ rfl (Nat.le_of_ble_eq_true rfl) d_BLB_release_116 (fun r_46 T_45 hw hT => ?_)
              have hc0 := rm_c hc0 he1
              have hn0 := rm_c hn0 he2
              refine j_pop F rfl d_BLB_release_119 ?_
              refine j_aload_n F 2 d_BLB_release_120 rfl ?_
              obtain ⟨hc1, q_51, hc2, hw⟩ := hw
              refine c_getr F K hT 1 4 rfl tu_LandBook (by decide) (by decide) rfl tq_441 (Or.inl rfl) hc1 hc2 d_BLB_release_121 ?_
              refine j_iload_n F 3 d_BLB_release_124 rfl ?_
              obtain ⟨hg1, hw⟩ := hw
              refine c_callVi F K hT (c_BRg_endEasement l hw) (tw_gV tq_568 tq_569 tq_570 tq_336 tq_571) 5 rfl (by decide) hg1 q_BRg_endEasement rfl ⟨by decide, by decide⟩ ⟨rm_z hc0, rm_z hn0⟩ rfl (Nat.le_of_ble_eq_true rfl) d_BLB_release_125 (fun r_53 T_52 hw hT => ?_)
              exact hri _ _ _ _ _ _ rfl ⟨_, rfl, hw⟩ hT (rm_y hc0) (rm_y hn0) d_BLB_release_128
            · have hw := hwf hh
              refine j_bipush F d_BLB_release_100 (j_bip (by decide) (by decide)) ?_
              exact hri _ _ _ _ _ _ rfl ⟨_, rfl, hw⟩ hT (rm_y hc0) (rm_y hn0) d_BLB_release_102
          · have hw := hwf hh
            refine j_bipush F d_BLB_release_77 (j_bip (by decide) (by decide)) ?_
            exact hri _ _ _ _ _ _ rfl ⟨_, rfl, hw⟩ hT (rm_y hc0) (rm_y hn0) d_BLB_release_79
        · have hw := hwf hh
          refine j_iconst F d_BLB_release_53 ?_
          exact hri _ _ _ _ _ _ rfl ⟨_, rfl, hw⟩ hT (rm_y hc0) (rm_y hn0) d_BLB_release_54
      · have hw := hwf hh
        refine j_sub [] rfl ?_
        exact B20 _ _ _ _ _ hc0 hn0 hT hw
  exact key mc ms 0 0 rfl rfl rfl rfl (Nat.zero_add _) (Nat.zero_add _)
theorem tq_572 : (Jvm.Cond.methodLink "LandBook" (208 : Nat) ({ cls := "LandBook", name := "checkAsOf", desc := "(II)V" } : Jvm.MethodName)) ∈ tw_G := tw_in (List.mem_of_getElem? (i := 890) (by decide +kernel)) rfl
theorem tq_573 : (Jvm.Cond.static ({ cls := "LandBook", name := "checkAsOf", desc := "(II)V" } : Jvm.MethodName)) ∈ tw_G := tw_in (List.mem_of_getElem? (i := 891) (by decide +kernel)) rfl
theorem tq_574 : (Jvm.Cond.code ({ cls := "LandBook", name := "checkAsOf", desc := "(II)V" } : Jvm.MethodName) prog_1_method_29_code (2 : Nat) (Option.none : Option Jvm.ClassFile.FieldType)) ∈ tw_G := tw_in (List.mem_of_getElem? (i := 892) (by decide +kernel)) rfl
theorem tq_575 : (Jvm.Cond.methodLink "LandBook" (211 : Nat) ({ cls := "LandBook$Register", name := "isInBeing", desc := "(III)Z" } : Jvm.MethodName)) ∈ tw_G := tw_in (List.mem_of_getElem? (i := 894) (by decide +kernel)) rfl
theorem tq_576 : (Jvm.Cond.methodLink "LandBook" (214 : Nat) ({ cls := "LandBook$Rings", name := "where", desc := "(LLandBook$Points;II)I" } : Jvm.MethodName)) ∈ tw_G := tw_in (List.mem_of_getElem? (i := 895) (by decide +kernel)) rfl
abbrev y_BLB_lotAt : MethodName := ⟨"LandBook", "lotAt", "(IIII)I"⟩
theorem q_BLB_lotAt : y_BLB_lotAt.cls = "LandBook" ∧ y_BLB_lotAt.cls ≠ "java/lang/invoke/MethodHandle" ∧ y_BLB_lotAt.cls ≠ "java/lang/invoke/VarHandle" ∧ (parseMethodDescriptor y_BLB_lotAt.desc).map (fun d => d.parameters.length) = some 4 := by decide +kernel
theorem d_BLB_lotAt_0 : decode prog_1_method_9_code 0 = .ok (.aload_n 0, 1) := by decide +kernel
theorem d_BLB_lotAt_1 : decode prog_1_method_9_code 1 = .ok (.invokevirtual 99, 3) := by decide +kernel
theorem d_BLB_lotAt_4 : decode prog_1_method_9_code 4 = .ok (.iload_n 1, 1) := by decide +kernel
theorem d_BLB_lotAt_5 : decode prog_1_method_9_code 5 = .ok (.iload_n 2, 1) := by decide +kernel
theorem d_BLB_lotAt_6 : decode prog_1_method_9_code 6 = .ok (.invokestatic 49, 3) := by decide +kernel
theorem d_BLB_lotAt_9 : decode prog_1_method_9_code 9 = .ok (.iload_n 3, 1) := by decide +kernel
theorem d_BLB_lotAt_10 : decode prog_1_method_9_code 10 = .ok (.iload 4, 2) := by decide +kernel
theorem d_BLB_lotAt_12 : decode prog_1_method_9_code 12 = .ok (.invokestatic 208, 3) := by decide +kernel
theorem d_BLB_lotAt_15 : decode prog_1_method_9_code 15 = .ok (.iconst 1, 1) := by decide +kernel
theorem d_BLB_lotAt_16 : decode prog_1_method_9_code 16 = .ok (.istore 5, 2) := by decide +kernel
theorem d_BLB_lotAt_18 : decode prog_1_method_9_code 18 = .ok (.iload 5, 2) := by decide +kernel
theorem d_BLB_lotAt_20 : decode prog_1_method_9_code 20 = .ok (.aload_n 0, 1) := by decide +kernel
theorem d_BLB_lotAt_21 : decode prog_1_method_9_code 21 = .ok (.getfield 38, 3) := by decide +kernel
theorem d_BLB_lotAt_24 : decode prog_1_method_9_code 24 = .ok (.invokevirtual 76, 3) := by decide +kernel
theorem d_BLB_lotAt_27 : decode prog_1_method_9_code 27 = .ok (.if_icmp .gt 52, 3) := by decide +kernel
theorem d_BLB_lotAt_79 : decode prog_1_method_9_code 79 = .ok (.iconst 0, 1) := by decide +kernel
theorem d_BLB_lotAt_80 : decode prog_1_method_9_code 80 = .ok (.ireturn, 1) := by decide +kernel
theorem d_BLB_lotAt_30 : decode prog_1_method_9_code 30 = .ok (.aload_n 0, 1) := by decide +kernel
theorem d_BLB_lotAt_31 : decode prog_1_method_9_code 31 = .ok (.getfield 38, 3) := by decide +kernel
theorem d_BLB_lotAt_34 : decode prog_1_method_9_code 34 = .ok (.iload 5, 2) := by decide +kernel
theorem d_BLB_lotAt_36 : decode prog_1_method_9_code 36 = .ok (.iload_n 3, 1) := by decide +kernel
theorem d_BLB_lotAt_37 : decode prog_1_method_9_code 37 = .ok (.iload 4, 2) := by decide +kernel
theorem d_BLB_lotAt_39 : decode prog_1_method_9_code 39 = .ok (.invokevirtual 211, 3) := by decide +kernel
theorem d_BLB_lotAt_42 : decode prog_1_method_9_code 42 = .ok (.ifCond .eq 31, 3) := by decide +kernel
theorem d_BLB_lotAt_45 : decode prog_1_method_9_code 45 = .ok (.aload_n 0, 1) := by decide +kernel
theorem d_BLB_lotAt_46 : decode prog_1_method_9_code 46 = .ok (.getfield 38, 3) := by decide +kernel
theorem d_BLB_lotAt_49 : decode prog_1_method_9_code 49 = .ok (.iload 5, 2) := by decide +kernel
theorem d_BLB_lotAt_51 : decode prog_1_method_9_code 51 = .ok (.invokevirtual 112, 3) := by decide +kernel
theorem d_BLB_lotAt_54 : decode prog_1_method_9_code 54 = .ok (.getfield 116, 3) := by decide +kernel
theorem d_BLB_lotAt_57 : decode prog_1_method_9_code 57 = .ok (.iconst 2, 1) := by decide +kernel
theorem d_BLB_lotAt_58 : decode prog_1_method_9_code 58 = .ok (.iload_n 1, 1) := by decide +kernel
theorem d_BLB_lotAt_59 : decode prog_1_method_9_code 59 = .ok (.imul, 1) := by decide +kernel
theorem d_BLB_lotAt_60 : decode prog_1_method_9_code 60 = .ok (.iconst 2, 1) := by decide +kernel
theorem d_BLB_lotAt_61 : decode prog_1_method_9_code 61 = .ok (.iload_n 2, 1) := by decide +kernel
theorem d_BLB_lotAt_62 : decode prog_1_method_9_code 62 = .ok (.imul, 1) := by decide +kernel
theorem d_BLB_lotAt_63 : decode prog_1_method_9_code 63 = .ok (.invokestatic 214, 3) := by decide +kernel
theorem d_BLB_lotAt_66 : decode prog_1_method_9_code 66 = .ok (.iconst (-1), 1) := by decide +kernel
theorem d_BLB_lotAt_67 : decode prog_1_method_9_code 67 = .ok (.if_icmp .eq 6, 3) := by decide +kernel
theorem d_BLB_lotAt_70 : decode prog_1_method_9_code 70 = .ok (.iload 5, 2) := by decide +kernel
theorem d_BLB_lotAt_72 : decode prog_1_method_9_code 72 = .ok (.ireturn, 1) := by decide +kernel
theorem d_BLB_lotAt_73 : decode prog_1_method_9_code 73 = .ok (.iinc 5 1, 3) := by decide +kernel
theorem d_BLB_lotAt_76 : decode prog_1_method_9_code 76 = .ok (.goto (-58), 3) := by decide +kernel
def wp_BLB_lotAt_73 (post : Int → CS → Prop) (pe : String → CS → Prop) (k18 : Nat → Nat → Nat → Int → Int → Int → Int → Int → CS → Prop) (mc0 : Nat) (ms0 : Nat) (v0 : Nat) (v1 : Int) (v2 : Int) (v3 : Int) (v4 : Int) (v5 : Int) (T : CS) : Prop := k18 mc0 ms0 v0 v1 v2 v3 v4 (v5 + 1) T
def wp_BLB_lotAt_18 (post : Int → CS → Prop) (pe : String → CS → Prop) : Nat → Nat → Nat → Nat → Int → Int → Int → Int → Int → CS → Prop
  | 0, _, _, _, _, _, _, _, _, _ => False
  | n + 1, mc0, ms0, v0, v1, v2, v3, v4, v5, T => tg T v0 = 1 ∧ ∃ q_1 : Nat, fo T v0 4 = some q_1 ∧ (tg T q_1 = 5 ∧ wp_BRg_lotCount (fun r_3 T_2 => inR v5 ∧ inR r_3 ∧ (r_3 < v5 → post 0 T_2) ∧ (¬ (r_3 < v5) → (tg T_2 v0 = 1 ∧ ∃ q_4 : Nat, fo T_2 v0 4 = some q_4 ∧ (tg T_2 q_4 = 5 ∧ wp_BRg_isInBeing (fun r_6 T_5 => inR r_6 ∧ (r_6 = 0 → wp_BLB_lotAt_73 post pe (wp_BLB_lotAt_18 post pe n) mc0 ms0 v0 v1 v2 v3 v4 v5 T_5) ∧ (¬ (r_6 = 0) → (tg T_5 v0 = 1 ∧ ∃ q_7 : Nat, fo T_5 v0 4 = some q_7 ∧ (tg T_5 q_7 = 5 ∧ wp_BRg_lot (fun r_9 T_8 => tg T_8 r_9 = 9 ∧ ∃ q_10 : Nat, fo T_8 r_9 0 = some q_10 ∧ (wp_BRi_where (fun r_12 T_11 => inR r_12 ∧ (r_12 = (-1) → wp_BLB_lotAt_73 post pe (wp_BLB_lotAt_18 post pe n) mc0 ms0 v0 v1 v2 v3 v4 v5 T_11) ∧ (¬ (r_12 = (-1)) → post v5 T_11)) q_10 (2 * v1) (2 * v2) T_8)) q_7 v5 T_5)))) q_4 v5 v3 v4 T_2)))) q_1 T)
def wp_BLB_lotAt (post : Int → CS → Prop) (pe : String → CS → Prop) (mc0 ms0 : Nat) (v0 : Nat) (v1 : Int) (v2 : Int) (v3 : Int) (v4 : Int) (T : CS) : Prop := ∃ mc_3 ms_4 mc_5 ms_6 : Nat, (mc0 = mc_3 + mc_5 ∧ ms0 = ms_4 + ms_6) ∧ tg T v0 = 1 ∧ wp_BLB_checkUp (fun T_1 => ∃ mc_9 ms_10 mc_11 ms_12 : Nat, (mc_5 = mc_9 + mc_11 ∧ ms_6 = ms_10 + ms_12) ∧ wp_BLB_checkPoint (fun T_7 => ∃ mc_15 ms_16 mc_17 ms_18 : Nat, (mc_11 = mc_15 + mc_17 ∧ ms_12 = ms_16 + ms_18) ∧ wp_BLB_checkAsOf (fun T_13 => ∃ nn : Nat, wp_BLB_lotAt_18 post pe nn mc_17 ms_18 v0 v1 v2 v3 v4 1 T_13) pe mc_15 ms_16 v3 v4 T_7) pe mc_9 ms_10 v1 v2 T_1) pe mc_3 ms_4 v0 T
set_option maxHeartbeats 4000000 in
set_option maxRecDepth 100000 in
theorem c_BLB_lotAt (l : Launch) (hfl : l.flags = pinnedFlags ++ [noTraceFlag]) {D : va_G} {k : CK} {post : Int → CS → Prop} {pe : String → CS → Prop} {mc ms : Nat} {v0 : Nat} {v1 : Int} {v2 : Int} {v3 : Int} {v4 : Int} {T : CS} (hw : wp_BLB_lotAt post pe mc ms v0 v1 v2 v3 v4 T) : jE l D k y_BLB_lotAt prog_1_method_9_code 6 (some .int) 8 123 mc ms T [.ref v0, vi v1, vi v2, vi v3, vi v4] (rtI post) pe := by
  refine j_eo hfl (by decide) rfl (Nat.le_of_ble_eq_true rfl) (by decide) (by decide) (fun X F K E hT Pr hthr hri hrz hrv => ?_)
  have B18 : ∀ (nn : Nat) (mc0 : Nat) (ms0 : Nat) (v0 : Nat) (v1 : Int) (v2 : Int) (v3 : Int) (v4 : Int) (v5 : Int) (T : CS) (c0 n0 : Nat), c0 + mc0 = mc → n0 + ms0 = ms → cs_ok k T → wp_BLB_lotAt_18 post pe nn mc0 ms0 v0 v1 v2 v3 v4 v5 T → jat l D X 6 18 [(0, .ref v0), (1, vi v1), (2, vi v2), (3, vi v3), (4, vi v4), (5, vi v5)] [] (cwd k T) c0 n0 := by
    intro nn
    induction nn with
    | zero => intro mc0 ms0 v0 v1 v2 v3 v4 v5 T c0 n0 hc0 hn0 hT hw; exact hw.elim
    | succ n18 ih18 =>
      have B73 : ∀ (mc0 : Nat) (ms0 : Nat) (v0 : Nat) (v1 : Int) (v2 : Int) (v3 : Int) (v4 : Int) (v5 : Int) (T : CS) (c0 n0 : Nat), c0 + mc0 = mc → n0 + ms0 = ms → cs_ok k T → wp_BLB_lotAt_73 post pe (wp_BLB_lotAt_18 post pe n18) mc0 ms0 v0 v1 v2 v3 v4 v5 T → jat l D X 6 73 [(0, .ref v0), (1, vi v1), (2, vi v2), (3, vi v3), (4, vi v4), (5, vi v5)] [] (cwd k T) c0 n0 := by
        intro mc0 ms0 v0 v1 v2 v3 v4 v5 T c0 n0 hc0 hn0 hT hw
        unfold wp_BLB_lotAt_73 at hw
        refine j_iinc F 5 [(5, vi (v5 + 1)), (0, .ref v0), (1, vi v1), (2, vi v2), (3, vi v3), (4, vi v4)] d_BLB_lotAt_73 rfl (by decide) rfl ?_
        refine j_goto F 18 d_BLB_lotAt_76 rfl ?_
        refine j_sub [1, 2, 3, 4, 5, 0] rfl ?_
        exact ih18 _ _ _ _ _ _ _ _ _ _ _ hc0 hn0 hT hw
      intro mc0 ms0 v0 v1 v2 v3 v4 v5 T c0 n0 hc0 hn0 hT hw
      unfold wp_BLB_lotAt_18 at hw
      refine j_iload F 5 d_BLB_lotAt_18 rfl ?_
      refine j_aload_n F 0 d_BLB_lotAt_20 rfl ?_
      obtain ⟨hc1, q_1, hc2, hw⟩ := hw
      refine c_getr F K hT 1 4 rfl tu_LandBook (by decide) (by decide) rfl tq_441 (Or.inl rfl) hc1 hc2 d_BLB_lotAt_21 ?_
      obtain ⟨hg1, hw⟩ := hw
      refine c_callVi F K hT (c_BRg_lotCount l hw) (tw_gV tq_443 tq_444 tq_445 tq_336 tq_446) 5 rfl (by decide) hg1 q_BRg_lotCount rfl ⟨by decide, by decide⟩ ⟨rm_z hc0, rm_z hn0⟩ rfl (Nat.le_of_ble_eq_true rfl) d_BLB_lotAt_24 (fun r_3 T_2 hw hT => ?_)
      obtain ⟨hc1, hc2, hwt, hwf⟩ := hw
      refine j_icmp_gt F 79 hc1 hc2 d_BLB_lotAt_27 rfl (fun hh => ?_) (fun hh => ?_)
      · have hw := hwt hh
        refine j_iconst F d_BLB_lotAt_79 ?_
        exact hri _ _ _ _ _ _ rfl ⟨_, rfl, hw⟩ hT (rm_y hc0) (rm_y hn0) d_BLB_lotAt_80
      · have hw := hwf hh
        refine j_aload_n F 0 d_BLB_lotAt_30 rfl ?_
        obtain ⟨hc1, q_4, hc2, hw⟩ := hw
        refine c_getr F K hT 1 4 rfl tu_LandBook (by decide) (by decide) rfl tq_441 (Or.inl rfl) hc1 hc2 d_BLB_lotAt_31 ?_
        refine j_iload F 5 d_BLB_lotAt_34 rfl ?_
        refine j_iload_n F 3 d_BLB_lotAt_36 rfl ?_
        refine j_iload F 4 d_BLB_lotAt_37 rfl ?_
        obtain ⟨hg1, hw⟩ := hw
        refine c_callVi F K hT (c_BRg_isInBeing l hw) (tw_gV tq_575 tq_367 tq_368 tq_336 tq_369) 5 rfl (by decide) hg1 q_BRg_isInBeing rfl ⟨by decide, by decide⟩ ⟨rm_z hc0, rm_z hn0⟩ rfl (Nat.le_of_ble_eq_true rfl) d_BLB_lotAt_39 (fun r_6 T_5 hw hT => ?_)
        obtain ⟨hc1, hwt, hwf⟩ := hw
        refine j_if_eq F 73 hc1 d_BLB_lotAt_42 rfl (fun hh => ?_) (fun hh => ?_)
        · have hw := hwt hh
          exact B73 _ _ _ _ _ _ _ _ _ _ _ hc0 hn0 hT hw
        · have hw := hwf hh
          refine j_aload_n F 0 d_BLB_lotAt_45 rfl ?_
          obtain ⟨hc1, q_7, hc2, hw⟩ := hw
          refine c_getr F K hT 1 4 rfl tu_LandBook (by decide) (by decide) rfl tq_441 (Or.inl rfl) hc1 hc2 d_BLB_lotAt_46 ?_
          refine j_iload F 5 d_BLB_lotAt_49 rfl ?_
          obtain ⟨hg1, hw⟩ := hw
          refine c_callVr F K hT (c_BRg_lot l hw) (tw_gV tq_508 tq_334 tq_335 tq_336 tq_337) 5 rfl (by decide) hg1 q_BRg_lot rfl ⟨by decide, by decide⟩ ⟨rm_z hc0, rm_z hn0⟩ rfl (Nat.le_of_ble_eq_true rfl) d_BLB_lotAt_51 (fun r_9 T_8 hw hT => ?_)
          obtain ⟨hc1, q_10, hc2, hw⟩ := hw
          refine c_getr F K hT 9 0 rfl tu_Lot (by decide) (by decide) rfl tq_509 (Or.inl rfl) hc1 hc2 d_BLB_lotAt_54 ?_
          refine j_iconst F d_BLB_lotAt_57 ?_
          refine j_iload_n F 1 d_BLB_lotAt_58 rfl ?_
          refine j_imul F d_BLB_lotAt_59 ?_
          refine j_iconst F d_BLB_lotAt_60 ?_
          refine j_iload_n F 2 d_BLB_lotAt_61 rfl ?_
          refine j_imul F d_BLB_lotAt_62 ?_
          refine c_callSi F K hT (c_BRi_where l hw) (tw_gS tq_576 tq_163 tq_146 tq_164) q_BRi_where rfl ⟨by decide, by decide⟩ ⟨rm_z hc0, rm_z hn0⟩ rfl (Nat.le_of_ble_eq_true rfl) d_BLB_lotAt_63 (fun r_12 T_11 hw hT => ?_)
          refine j_iconst F d_BLB_lotAt_66 ?_
          obtain ⟨hc1, hwt, hwf⟩ := hw
          refine j_icmp_eq F 73 hc1 ⟨by decide, by decide⟩ d_BLB_lotAt_67 rfl (fun hh => ?_) (fun hh => ?_)
          · have hw := hwt hh
            exact B73 _ _ _ _ _ _ _ _ _ _ _ hc0 hn0 hT hw
          · have hw := hwf hh
            refine j_iload F 5 d_BLB_lotAt_70 rfl ?_
            exact hri _ _ _ _ _ _ rfl ⟨_, rfl, hw⟩ hT (rm_y hc0) (rm_y hn0) d_BLB_lotAt_72
  unfold wp_BLB_lotAt at hw
  have key : ∀ (mc0 ms0 c0 n0 : Nat), mc0 = mc → ms0 = ms → c0 = 0 → n0 = 0 → c0 + mc0 = mc → n0 + ms0 = ms → jat l D X 6 0 [(0, .ref v0), (1, vi v1), (2, vi v2), (3, vi v3), (4, vi v4)] [] (cwd k T) c0 n0 := by
    intro mc0 ms0 c0 n0 hm1 hm2 hz1 hz2 hc0 hn0
    subst hm1; subst hm2
    clear hz1 hz2
    refine j_aload_n F 0 d_BLB_lotAt_0 rfl ?_
    obtain ⟨mc_3, ms_4, mc_5, ms_6, ⟨he1, he2⟩, hw⟩ := hw
    obtain ⟨hg1, hw⟩ := hw
    refine e_callV F K E Pr hT (c_BLB_checkUp l hfl hw) (tw_gV tq_495 tq_496 tq_497 tq_473 tq_498) hg1 q_BLB_checkUp rfl ⟨by decide, by decide⟩ ⟨rm_l hc0 he1, rm_l hn0 he2⟩ rfl (Nat.le_of_ble_eq_true rfl) d_BLB_lotAt_1 (fun ov T_1 hw hT => ?_)
    obtain ⟨rfl, hw⟩ := hw
    have hc0 := rm_c hc0 he1
    have hn0 := rm_c hn0 he2
    refine j_iload_n F 1 d_BLB_lotAt_4 rfl ?_
    refine j_iload_n F 2 d_BLB_lotAt_5 rfl ?_
    obtain ⟨mc_9, ms_10, mc_11, ms_12, ⟨he1, he2⟩, hw⟩ := hw
    refine e_callS F K E Pr hT (c_BLB_checkPoint l hfl hw) (tw_gS tq_475 tq_476 tq_473 tq_477) q_BLB_checkPoint rfl ⟨by decide, by decide⟩ ⟨rm_l hc0 he1, rm_l hn0 he2⟩ rfl (Nat.le_of_ble_eq_true rfl) d_BLB_lotAt_6 (fun ov T_7 hw hT => ?_)
    obtain ⟨rfl, hw⟩ := hw
    have hc0 := rm_c hc0 he1
    have hn0 := rm_c hn0 he2
    refine j_iload_n F 3 d_BLB_lotAt_9 rfl ?_
    refine j_iload F 4 d_BLB_lotAt_10 rfl ?_
    obtain ⟨mc_15, ms_16, mc_17, ms_18, ⟨he1, he2⟩, hw⟩ := hw
    refine e_callS F K E Pr hT (c_BLB_checkAsOf l hfl hw) (tw_gS tq_572 tq_573 tq_473 tq_574) q_BLB_checkAsOf rfl ⟨by decide, by decide⟩ ⟨rm_l hc0 he1, rm_l hn0 he2⟩ rfl (Nat.le_of_ble_eq_true rfl) d_BLB_lotAt_12 (fun ov T_13 hw hT => ?_)
    obtain ⟨rfl, hw⟩ := hw
    have hc0 := rm_c hc0 he1
    have hn0 := rm_c hn0 he2
    refine j_iconst F d_BLB_lotAt_15 ?_
    refine j_istore F [(5, vi 1), (0, .ref v0), (1, vi v1), (2, vi v2), (3, vi v3), (4, vi v4)] d_BLB_lotAt_16 (by decide) rfl ?_
    refine j_sub [1, 2, 3, 4, 5, 0] rfl ?_
    obtain ⟨nn, hw⟩ := hw
    exact B18 nn _ _ _ _ _ _ _ _ _ _ _ hc0 hn0 hT hw
  exact key mc ms 0 0 rfl rfl rfl rfl (Nat.zero_add _) (Nat.zero_add _)
theorem tq_577 : (Jvm.Cond.methodLink "LandBook" (218 : Nat) ({ cls := "LandBook$Rings", name := "twiceArea", desc := "(LLandBook$Points;)J" } : Jvm.MethodName)) ∈ tw_G := tw_in (List.mem_of_getElem? (i := 903) (by decide +kernel)) rfl
abbrev y_BLB_area2 : MethodName := ⟨"LandBook", "area2", "(III)I"⟩
theorem q_BLB_area2 : y_BLB_area2.cls = "LandBook" ∧ y_BLB_area2.cls ≠ "java/lang/invoke/MethodHandle" ∧ y_BLB_area2.cls ≠ "java/lang/invoke/VarHandle" ∧ (parseMethodDescriptor y_BLB_area2.desc).map (fun d => d.parameters.length) = some 3 := by decide +kernel
theorem d_BLB_area2_0 : decode prog_1_method_10_code 0 = .ok (.aload_n 0, 1) := by decide +kernel
theorem d_BLB_area2_1 : decode prog_1_method_10_code 1 = .ok (.invokevirtual 99, 3) := by decide +kernel
theorem d_BLB_area2_4 : decode prog_1_method_10_code 4 = .ok (.aload_n 0, 1) := by decide +kernel
theorem d_BLB_area2_5 : decode prog_1_method_10_code 5 = .ok (.iload_n 1, 1) := by decide +kernel
theorem d_BLB_area2_6 : decode prog_1_method_10_code 6 = .ok (.invokevirtual 102, 3) := by decide +kernel
theorem d_BLB_area2_9 : decode prog_1_method_10_code 9 = .ok (.iload_n 2, 1) := by decide +kernel
theorem d_BLB_area2_10 : decode prog_1_method_10_code 10 = .ok (.iload_n 3, 1) := by decide +kernel
theorem d_BLB_area2_11 : decode prog_1_method_10_code 11 = .ok (.invokestatic 208, 3) := by decide +kernel
theorem d_BLB_area2_14 : decode prog_1_method_10_code 14 = .ok (.aload_n 0, 1) := by decide +kernel
theorem d_BLB_area2_15 : decode prog_1_method_10_code 15 = .ok (.getfield 38, 3) := by decide +kernel
theorem d_BLB_area2_18 : decode prog_1_method_10_code 18 = .ok (.iload_n 1, 1) := by decide +kernel
theorem d_BLB_area2_19 : decode prog_1_method_10_code 19 = .ok (.iload_n 2, 1) := by decide +kernel
theorem d_BLB_area2_20 : decode prog_1_method_10_code 20 = .ok (.iload_n 3, 1) := by decide +kernel
theorem d_BLB_area2_21 : decode prog_1_method_10_code 21 = .ok (.invokevirtual 211, 3) := by decide +kernel
theorem d_BLB_area2_24 : decode prog_1_method_10_code 24 = .ok (.ifCond .ne 5, 3) := by decide +kernel
theorem d_BLB_area2_29 : decode prog_1_method_10_code 29 = .ok (.aload_n 0, 1) := by decide +kernel
theorem d_BLB_area2_30 : decode prog_1_method_10_code 30 = .ok (.getfield 38, 3) := by decide +kernel
theorem d_BLB_area2_33 : decode prog_1_method_10_code 33 = .ok (.iload_n 1, 1) := by decide +kernel
theorem d_BLB_area2_34 : decode prog_1_method_10_code 34 = .ok (.invokevirtual 112, 3) := by decide +kernel
theorem d_BLB_area2_37 : decode prog_1_method_10_code 37 = .ok (.getfield 116, 3) := by decide +kernel
theorem d_BLB_area2_40 : decode prog_1_method_10_code 40 = .ok (.invokestatic 218, 3) := by decide +kernel
theorem d_BLB_area2_43 : decode prog_1_method_10_code 43 = .ok (.l2i, 1) := by decide +kernel
theorem d_BLB_area2_44 : decode prog_1_method_10_code 44 = .ok (.ireturn, 1) := by decide +kernel
theorem d_BLB_area2_27 : decode prog_1_method_10_code 27 = .ok (.iconst (-1), 1) := by decide +kernel
theorem d_BLB_area2_28 : decode prog_1_method_10_code 28 = .ok (.ireturn, 1) := by decide +kernel
def wp_BLB_area2 (post : Int → CS → Prop) (pe : String → CS → Prop) (mc0 ms0 : Nat) (v0 : Nat) (v1 : Int) (v2 : Int) (v3 : Int) (T : CS) : Prop := ∃ mc_3 ms_4 mc_5 ms_6 : Nat, (mc0 = mc_3 + mc_5 ∧ ms0 = ms_4 + ms_6) ∧ tg T v0 = 1 ∧ wp_BLB_checkUp (fun T_1 => ∃ mc_9 ms_10 mc_11 ms_12 : Nat, (mc_5 = mc_9 + mc_11 ∧ ms_6 = ms_10 + ms_12) ∧ tg T_1 v0 = 1 ∧ wp_BLB_checkLot (fun T_7 => ∃ mc_15 ms_16 mc_17 ms_18 : Nat, (mc_11 = mc_15 + mc_17 ∧ ms_12 = ms_16 + ms_18) ∧ wp_BLB_checkAsOf (fun T_13 => tg T_13 v0 = 1 ∧ ∃ q_19 : Nat, fo T_13 v0 4 = some q_19 ∧ (tg T_13 q_19 = 5 ∧ wp_BRg_isInBeing (fun r_21 T_20 => inR r_21 ∧ (¬ (r_21 = 0) → (tg T_20 v0 = 1 ∧ ∃ q_22 : Nat, fo T_20 v0 4 = some q_22 ∧ (tg T_20 q_22 = 5 ∧ wp_BRg_lot (fun r_24 T_23 => tg T_23 r_24 = 9 ∧ ∃ q_25 : Nat, fo T_23 r_24 0 = some q_25 ∧ (wp_BRi_twiceArea (fun r_27 T_26 => post r_27 T_26) q_25 T_23)) q_22 v1 T_20))) ∧ (r_21 = 0 → (post (-1) T_20))) q_19 v1 v2 v3 T_13)) pe mc_15 ms_16 v2 v3 T_7) pe mc_9 ms_10 v0 v1 T_1) pe mc_3 ms_4 v0 T
set_option maxHeartbeats 4000000 in
set_option maxRecDepth 100000 in
theorem c_BLB_area2 (l : Launch) (hfl : l.flags = pinnedFlags ++ [noTraceFlag]) {D : va_G} {k : CK} {post : Int → CS → Prop} {pe : String → CS → Prop} {mc ms : Nat} {v0 : Nat} {v1 : Int} {v2 : Int} {v3 : Int} {T : CS} (hw : wp_BLB_area2 post pe mc ms v0 v1 v2 v3 T) : jE l D k y_BLB_area2 prog_1_method_10_code 4 (some .int) 8 123 mc ms T [.ref v0, vi v1, vi v2, vi v3] (rtI post) pe := by
  refine j_eo hfl (by decide) rfl (Nat.le_of_ble_eq_true rfl) (by decide) (by decide) (fun X F K E hT Pr hthr hri hrz hrv => ?_)
  unfold wp_BLB_area2 at hw
  have key : ∀ (mc0 ms0 c0 n0 : Nat), mc0 = mc → ms0 = ms → c0 = 0 → n0 = 0 → c0 + mc0 = mc → n0 + ms0 = ms → jat l D X 4 0 [(0, .ref v0), (1, vi v1), (2, vi v2), (3, vi v3)] [] (cwd k T) c0 n0 := by
    intro mc0 ms0 c0 n0 hm1 hm2 hz1 hz2 hc0 hn0
    subst hm1; subst hm2
    clear hz1 hz2
    refine j_aload_n F 0 d_BLB_area2_0 rfl ?_
    obtain ⟨mc_3, ms_4, mc_5, ms_6, ⟨he1, he2⟩, hw⟩ := hw
    obtain ⟨hg1, hw⟩ := hw
    refine e_callV F K E Pr hT (c_BLB_checkUp l hfl hw) (tw_gV tq_495 tq_496 tq_497 tq_473 tq_498) hg1 q_BLB_checkUp rfl ⟨by decide, by decide⟩ ⟨rm_l hc0 he1, rm_l hn0 he2⟩ rfl (Nat.le_of_ble_eq_true rfl) d_BLB_area2_1 (fun ov T_1 hw hT => ?_)
    obtain ⟨rfl, hw⟩ := hw
    have hc0 := rm_c hc0 he1
    have hn0 := rm_c hn0 he2
    refine j_aload_n F 0 d_BLB_area2_4 rfl ?_
    refine j_iload_n F 1 d_BLB_area2_5 rfl ?_
    obtain ⟨mc_9, ms_10, mc_11, ms_12, ⟨he1, he2⟩, hw⟩ := hw
    obtain ⟨hg1, hw⟩ := hw
    refine e_callV F K E Pr hT (c_BLB_checkLot l hfl hw) (tw_gV tq_499 tq_500 tq_501 tq_473 tq_502) hg1 q_BLB_checkLot rfl ⟨by decide, by decide⟩ ⟨rm_l hc0 he1, rm_l hn0 he2⟩ rfl (Nat.le_of_ble_eq_true rfl) d_BLB_area2_6 (fun ov T_7 hw hT => ?_)
    obtain ⟨rfl, hw⟩ := hw
    have hc0 := rm_c hc0 he1
    have hn0 := rm_c hn0 he2
    refine j_iload_n F 2 d_BLB_area2_9 rfl ?_
    refine j_iload_n F 3 d_BLB_area2_10 rfl ?_
    obtain ⟨mc_15, ms_16, mc_17, ms_18, ⟨he1, he2⟩, hw⟩ := hw
    refine e_callS F K E Pr hT (c_BLB_checkAsOf l hfl hw) (tw_gS tq_572 tq_573 tq_473 tq_574) q_BLB_checkAsOf rfl ⟨by decide, by decide⟩ ⟨rm_l hc0 he1, rm_l hn0 he2⟩ rfl (Nat.le_of_ble_eq_true rfl) d_BLB_area2_11 (fun ov T_13 hw hT => ?_)
    obtain ⟨rfl, hw⟩ := hw
    have hc0 := rm_c hc0 he1
    have hn0 := rm_c hn0 he2
    refine j_aload_n F 0 d_BLB_area2_14 rfl ?_
    obtain ⟨hc1, q_19, hc2, hw⟩ := hw
    refine c_getr F K hT 1 4 rfl tu_LandBook (by decide) (by decide) rfl tq_441 (Or.inl rfl) hc1 hc2 d_BLB_area2_15 ?_
    refine j_iload_n F 1 d_BLB_area2_18 rfl ?_
    refine j_iload_n F 2 d_BLB_area2_19 rfl ?_
    refine j_iload_n F 3 d_BLB_area2_20 rfl ?_
    obtain ⟨hg1, hw⟩ := hw
    refine c_callVi F K hT (c_BRg_isInBeing l hw) (tw_gV tq_575 tq_367 tq_368 tq_336 tq_369) 5 rfl (by decide) hg1 q_BRg_isInBeing rfl ⟨by decide, by decide⟩ ⟨rm_z hc0, rm_z hn0⟩ rfl (Nat.le_of_ble_eq_true rfl) d_BLB_area2_21 (fun r_21 T_20 hw hT => ?_)
    obtain ⟨hc1, hwt, hwf⟩ := hw
    refine j_if_ne F 29 hc1 d_BLB_area2_24 rfl (fun hh => ?_) (fun hh => ?_)
    · have hw := hwt hh
      refine j_aload_n F 0 d_BLB_area2_29 rfl ?_
      obtain ⟨hc1, q_22, hc2, hw⟩ := hw
      refine c_getr F K hT 1 4 rfl tu_LandBook (by decide) (by decide) rfl tq_441 (Or.inl rfl) hc1 hc2 d_BLB_area2_30 ?_
      refine j_iload_n F 1 d_BLB_area2_33 rfl ?_
      obtain ⟨hg1, hw⟩ := hw
      refine c_callVr F K hT (c_BRg_lot l hw) (tw_gV tq_508 tq_334 tq_335 tq_336 tq_337) 5 rfl (by decide) hg1 q_BRg_lot rfl ⟨by decide, by decide⟩ ⟨rm_z hc0, rm_z hn0⟩ rfl (Nat.le_of_ble_eq_true rfl) d_BLB_area2_34 (fun r_24 T_23 hw hT => ?_)
      obtain ⟨hc1, q_25, hc2, hw⟩ := hw
      refine c_getr F K hT 9 0 rfl tu_Lot (by decide) (by decide) rfl tq_509 (Or.inl rfl) hc1 hc2 d_BLB_area2_37 ?_
      refine c_callSl F K hT (c_BRi_twiceArea l hw) (tw_gS tq_577 tq_145 tq_146 tq_147) q_BRi_twiceArea rfl ⟨by decide, by decide⟩ ⟨rm_z hc0, rm_z hn0⟩ rfl (Nat.le_of_ble_eq_true rfl) d_BLB_area2_40 (fun r_27 T_26 hw hT => ?_)
      refine j_l2i F d_BLB_area2_43 ?_
      exact hri _ _ _ _ _ _ rfl ⟨_, rfl, hw⟩ hT (rm_y hc0) (rm_y hn0) d_BLB_area2_44
    · have hw := hwf hh
      refine j_iconst F d_BLB_area2_27 ?_
      exact hri _ _ _ _ _ _ rfl ⟨_, rfl, hw⟩ hT (rm_y hc0) (rm_y hn0) d_BLB_area2_28
  exact key mc ms 0 0 rfl rfl rfl rfl (Nat.zero_add _) (Nat.zero_add _)
abbrev y_BLB_share : MethodName := ⟨"LandBook", "share", "(IIII)I"⟩
theorem q_BLB_share : y_BLB_share.cls = "LandBook" ∧ y_BLB_share.cls ≠ "java/lang/invoke/MethodHandle" ∧ y_BLB_share.cls ≠ "java/lang/invoke/VarHandle" ∧ (parseMethodDescriptor y_BLB_share.desc).map (fun d => d.parameters.length) = some 4 := by decide +kernel
theorem d_BLB_share_0 : decode prog_1_method_11_code 0 = .ok (.aload_n 0, 1) := by decide +kernel
theorem d_BLB_share_1 : decode prog_1_method_11_code 1 = .ok (.invokevirtual 99, 3) := by decide +kernel
theorem d_BLB_share_4 : decode prog_1_method_11_code 4 = .ok (.aload_n 0, 1) := by decide +kernel
theorem d_BLB_share_5 : decode prog_1_method_11_code 5 = .ok (.iload_n 1, 1) := by decide +kernel
theorem d_BLB_share_6 : decode prog_1_method_11_code 6 = .ok (.invokevirtual 102, 3) := by decide +kernel
theorem d_BLB_share_9 : decode prog_1_method_11_code 9 = .ok (.iload_n 2, 1) := by decide +kernel
theorem d_BLB_share_10 : decode prog_1_method_11_code 10 = .ok (.invokestatic 167, 3) := by decide +kernel
theorem d_BLB_share_13 : decode prog_1_method_11_code 13 = .ok (.iload_n 3, 1) := by decide +kernel
theorem d_BLB_share_14 : decode prog_1_method_11_code 14 = .ok (.iload 4, 2) := by decide +kernel
theorem d_BLB_share_16 : decode prog_1_method_11_code 16 = .ok (.invokestatic 208, 3) := by decide +kernel
theorem d_BLB_share_19 : decode prog_1_method_11_code 19 = .ok (.aload_n 0, 1) := by decide +kernel
theorem d_BLB_share_20 : decode prog_1_method_11_code 20 = .ok (.getfield 38, 3) := by decide +kernel
theorem d_BLB_share_23 : decode prog_1_method_11_code 23 = .ok (.iload_n 1, 1) := by decide +kernel
theorem d_BLB_share_24 : decode prog_1_method_11_code 24 = .ok (.iload_n 3, 1) := by decide +kernel
theorem d_BLB_share_25 : decode prog_1_method_11_code 25 = .ok (.iload 4, 2) := by decide +kernel
theorem d_BLB_share_27 : decode prog_1_method_11_code 27 = .ok (.invokevirtual 211, 3) := by decide +kernel
theorem d_BLB_share_30 : decode prog_1_method_11_code 30 = .ok (.ifCond .ne 5, 3) := by decide +kernel
theorem d_BLB_share_35 : decode prog_1_method_11_code 35 = .ok (.aload_n 0, 1) := by decide +kernel
theorem d_BLB_share_36 : decode prog_1_method_11_code 36 = .ok (.getfield 38, 3) := by decide +kernel
theorem d_BLB_share_39 : decode prog_1_method_11_code 39 = .ok (.iload_n 1, 1) := by decide +kernel
theorem d_BLB_share_40 : decode prog_1_method_11_code 40 = .ok (.iload_n 2, 1) := by decide +kernel
theorem d_BLB_share_41 : decode prog_1_method_11_code 41 = .ok (.iload_n 3, 1) := by decide +kernel
theorem d_BLB_share_42 : decode prog_1_method_11_code 42 = .ok (.iload 4, 2) := by decide +kernel
theorem d_BLB_share_44 : decode prog_1_method_11_code 44 = .ok (.invokevirtual 176, 3) := by decide +kernel
theorem d_BLB_share_47 : decode prog_1_method_11_code 47 = .ok (.ireturn, 1) := by decide +kernel
theorem d_BLB_share_33 : decode prog_1_method_11_code 33 = .ok (.iconst (-1), 1) := by decide +kernel
theorem d_BLB_share_34 : decode prog_1_method_11_code 34 = .ok (.ireturn, 1) := by decide +kernel
def wp_BLB_share (post : Int → CS → Prop) (pe : String → CS → Prop) (mc0 ms0 : Nat) (v0 : Nat) (v1 : Int) (v2 : Int) (v3 : Int) (v4 : Int) (T : CS) : Prop := ∃ mc_3 ms_4 mc_5 ms_6 : Nat, (mc0 = mc_3 + mc_5 ∧ ms0 = ms_4 + ms_6) ∧ tg T v0 = 1 ∧ wp_BLB_checkUp (fun T_1 => ∃ mc_9 ms_10 mc_11 ms_12 : Nat, (mc_5 = mc_9 + mc_11 ∧ ms_6 = ms_10 + ms_12) ∧ tg T_1 v0 = 1 ∧ wp_BLB_checkLot (fun T_7 => ∃ mc_15 ms_16 mc_17 ms_18 : Nat, (mc_11 = mc_15 + mc_17 ∧ ms_12 = ms_16 + ms_18) ∧ wp_BLB_checkPerson (fun T_13 => ∃ mc_21 ms_22 mc_23 ms_24 : Nat, (mc_17 = mc_21 + mc_23 ∧ ms_18 = ms_22 + ms_24) ∧ wp_BLB_checkAsOf (fun T_19 => tg T_19 v0 = 1 ∧ ∃ q_25 : Nat, fo T_19 v0 4 = some q_25 ∧ (tg T_19 q_25 = 5 ∧ wp_BRg_isInBeing (fun r_27 T_26 => inR r_27 ∧ (¬ (r_27 = 0) → (tg T_26 v0 = 1 ∧ ∃ q_28 : Nat, fo T_26 v0 4 = some q_28 ∧ (tg T_26 q_28 = 5 ∧ wp_BRg_shareOf (fun r_30 T_29 => post r_30 T_29) q_28 v1 v2 v3 v4 T_26))) ∧ (r_27 = 0 → (post (-1) T_26))) q_25 v1 v3 v4 T_19)) pe mc_21 ms_22 v3 v4 T_13) pe mc_15 ms_16 v2 T_7) pe mc_9 ms_10 v0 v1 T_1) pe mc_3 ms_4 v0 T
set_option maxHeartbeats 4000000 in
set_option maxRecDepth 100000 in
theorem c_BLB_share (l : Launch) (hfl : l.flags = pinnedFlags ++ [noTraceFlag]) {D : va_G} {k : CK} {post : Int → CS → Prop} {pe : String → CS → Prop} {mc ms : Nat} {v0 : Nat} {v1 : Int} {v2 : Int} {v3 : Int} {v4 : Int} {T : CS} (hw : wp_BLB_share post pe mc ms v0 v1 v2 v3 v4 T) : jE l D k y_BLB_share prog_1_method_11_code 5 (some .int) 8 137 mc ms T [.ref v0, vi v1, vi v2, vi v3, vi v4] (rtI post) pe := by
  refine j_eo hfl (by decide) rfl (Nat.le_of_ble_eq_true rfl) (by decide) (by decide) (fun X F K E hT Pr hthr hri hrz hrv => ?_)
  unfold wp_BLB_share at hw
  have key : ∀ (mc0 ms0 c0 n0 : Nat), mc0 = mc → ms0 = ms → c0 = 0 → n0 = 0 → c0 + mc0 = mc → n0 + ms0 = ms → jat l D X 5 0 [(0, .ref v0), (1, vi v1), (2, vi v2), (3, vi v3), (4, vi v4)] [] (cwd k T) c0 n0 := by
    intro mc0 ms0 c0 n0 hm1 hm2 hz1 hz2 hc0 hn0
    subst hm1; subst hm2
    clear hz1 hz2
    refine j_aload_n F 0 d_BLB_share_0 rfl ?_
    obtain ⟨mc_3, ms_4, mc_5, ms_6, ⟨he1, he2⟩, hw⟩ := hw
    obtain ⟨hg1, hw⟩ := hw
    refine e_callV F K E Pr hT (c_BLB_checkUp l hfl hw) (tw_gV tq_495 tq_496 tq_497 tq_473 tq_498) hg1 q_BLB_checkUp rfl ⟨by decide, by decide⟩ ⟨rm_l hc0 he1, rm_l hn0 he2⟩ rfl (Nat.le_of_ble_eq_true rfl) d_BLB_share_1 (fun ov T_1 hw hT => ?_)
    obtain ⟨rfl, hw⟩ := hw
    have hc0 := rm_c hc0 he1
    have hn0 := rm_c hn0 he2
    refine j_aload_n F 0 d_BLB_share_4 rfl ?_
    refine j_iload_n F 1 d_BLB_share_5 rfl ?_
    obtain ⟨mc_9, ms_10, mc_11, ms_12, ⟨he1, he2⟩, hw⟩ := hw
    obtain ⟨hg1, hw⟩ := hw
    refine e_callV F K E Pr hT (c_BLB_checkLot l hfl hw) (tw_gV tq_499 tq_500 tq_501 tq_473 tq_502) hg1 q_BLB_checkLot rfl ⟨by decide, by decide⟩ ⟨rm_l hc0 he1, rm_l hn0 he2⟩ rfl (Nat.le_of_ble_eq_true rfl) d_BLB_share_6 (fun ov T_7 hw hT => ?_)
    obtain ⟨rfl, hw⟩ := hw
    have hc0 := rm_c hc0 he1
    have hn0 := rm_c hn0 he2
    refine j_iload_n F 2 d_BLB_share_9 rfl ?_
    obtain ⟨mc_15, ms_16, mc_17, ms_18, ⟨he1, he2⟩, hw⟩ := hw
    refine e_callS F K E Pr hT (c_BLB_checkPerson l hfl hw) (tw_gS tq_547 tq_548 tq_473 tq_549) q_BLB_checkPerson rfl ⟨by decide, by decide⟩ ⟨rm_l hc0 he1, rm_l hn0 he2⟩ rfl (Nat.le_of_ble_eq_true rfl) d_BLB_share_10 (fun ov T_13 hw hT => ?_)
    obtain ⟨rfl, hw⟩ := hw
    have hc0 := rm_c hc0 he1
    have hn0 := rm_c hn0 he2
    refine j_iload_n F 3 d_BLB_share_13 rfl ?_
    refine j_iload F 4 d_BLB_share_14 rfl ?_
    obtain ⟨mc_21, ms_22, mc_23, ms_24, ⟨he1, he2⟩, hw⟩ := hw
    refine e_callS F K E Pr hT (c_BLB_checkAsOf l hfl hw) (tw_gS tq_572 tq_573 tq_473 tq_574) q_BLB_checkAsOf rfl ⟨by decide, by decide⟩ ⟨rm_l hc0 he1, rm_l hn0 he2⟩ rfl (Nat.le_of_ble_eq_true rfl) d_BLB_share_16 (fun ov T_19 hw hT => ?_)
    obtain ⟨rfl, hw⟩ := hw
    have hc0 := rm_c hc0 he1
    have hn0 := rm_c hn0 he2
    refine j_aload_n F 0 d_BLB_share_19 rfl ?_
    obtain ⟨hc1, q_25, hc2, hw⟩ := hw
    refine c_getr F K hT 1 4 rfl tu_LandBook (by decide) (by decide) rfl tq_441 (Or.inl rfl) hc1 hc2 d_BLB_share_20 ?_
    refine j_iload_n F 1 d_BLB_share_23 rfl ?_
    refine j_iload_n F 3 d_BLB_share_24 rfl ?_
    refine j_iload F 4 d_BLB_share_25 rfl ?_
    obtain ⟨hg1, hw⟩ := hw
    refine c_callVi F K hT (c_BRg_isInBeing l hw) (tw_gV tq_575 tq_367 tq_368 tq_336 tq_369) 5 rfl (by decide) hg1 q_BRg_isInBeing rfl ⟨by decide, by decide⟩ ⟨rm_z hc0, rm_z hn0⟩ rfl (Nat.le_of_ble_eq_true rfl) d_BLB_share_27 (fun r_27 T_26 hw hT => ?_)
    obtain ⟨hc1, hwt, hwf⟩ := hw
    refine j_if_ne F 35 hc1 d_BLB_share_30 rfl (fun hh => ?_) (fun hh => ?_)
    · have hw := hwt hh
      refine j_aload_n F 0 d_BLB_share_35 rfl ?_
      obtain ⟨hc1, q_28, hc2, hw⟩ := hw
      refine c_getr F K hT 1 4 rfl tu_LandBook (by decide) (by decide) rfl tq_441 (Or.inl rfl) hc1 hc2 d_BLB_share_36 ?_
      refine j_iload_n F 1 d_BLB_share_39 rfl ?_
      refine j_iload_n F 2 d_BLB_share_40 rfl ?_
      refine j_iload_n F 3 d_BLB_share_41 rfl ?_
      refine j_iload F 4 d_BLB_share_42 rfl ?_
      obtain ⟨hg1, hw⟩ := hw
      refine c_callVi F K hT (c_BRg_shareOf l hw) (tw_gV tq_553 tq_554 tq_555 tq_336 tq_556) 5 rfl (by decide) hg1 q_BRg_shareOf rfl ⟨by decide, by decide⟩ ⟨rm_z hc0, rm_z hn0⟩ rfl (Nat.le_of_ble_eq_true rfl) d_BLB_share_44 (fun r_30 T_29 hw hT => ?_)
      exact hri _ _ _ _ _ _ rfl ⟨_, rfl, hw⟩ hT (rm_y hc0) (rm_y hn0) d_BLB_share_47
    · have hw := hwf hh
      refine j_iconst F d_BLB_share_33 ?_
      exact hri _ _ _ _ _ _ rfl ⟨_, rfl, hw⟩ hT (rm_y hc0) (rm_y hn0) d_BLB_share_34
  exact key mc ms 0 0 rfl rfl rfl rfl (Nat.zero_add _) (Nat.zero_add _)
theorem tq_578 : (Jvm.Cond.methodLink "LandBook" (222 : Nat) ({ cls := "LandBook", name := "checkPlace", desc := "(I)V" } : Jvm.MethodName)) ∈ tw_G := tw_in (List.mem_of_getElem? (i := 918) (by decide +kernel)) rfl
theorem tq_579 : (Jvm.Cond.static ({ cls := "LandBook", name := "checkPlace", desc := "(I)V" } : Jvm.MethodName)) ∈ tw_G := tw_in (List.mem_of_getElem? (i := 919) (by decide +kernel)) rfl
theorem tq_580 : (Jvm.Cond.code ({ cls := "LandBook", name := "checkPlace", desc := "(I)V" } : Jvm.MethodName) prog_1_method_32_code (1 : Nat) (Option.none : Option Jvm.ClassFile.FieldType)) ∈ tw_G := tw_in (List.mem_of_getElem? (i := 920) (by decide +kernel)) rfl
theorem tq_581 : (Jvm.Cond.methodLink "LandBook" (225 : Nat) ({ cls := "LandBook$Rings", name := "haveLineInCommon", desc := "(LLandBook$Points;LLandBook$Points;)Z" } : Jvm.MethodName)) ∈ tw_G := tw_in (List.mem_of_getElem? (i := 922) (by decide +kernel)) rfl
theorem tq_582 : (Jvm.Cond.static ({ cls := "LandBook$Rings", name := "haveLineInCommon", desc := "(LLandBook$Points;LLandBook$Points;)Z" } : Jvm.MethodName)) ∈ tw_G := tw_in (List.mem_of_getElem? (i := 923) (by decide +kernel)) rfl
theorem tq_583 : (Jvm.Cond.code ({ cls := "LandBook$Rings", name := "haveLineInCommon", desc := "(LLandBook$Points;LLandBook$Points;)Z" } : Jvm.MethodName) prog_11_method_8_code (4 : Nat) (Option.some Jvm.ClassFile.FieldType.boolean)) ∈ tw_G := tw_in (List.mem_of_getElem? (i := 924) (by decide +kernel)) rfl
abbrev y_BLB_next : MethodName := ⟨"LandBook", "next", "(IIII)I"⟩
theorem q_BLB_next : y_BLB_next.cls = "LandBook" ∧ y_BLB_next.cls ≠ "java/lang/invoke/MethodHandle" ∧ y_BLB_next.cls ≠ "java/lang/invoke/VarHandle" ∧ (parseMethodDescriptor y_BLB_next.desc).map (fun d => d.parameters.length) = some 4 := by decide +kernel
theorem d_BLB_next_0 : decode prog_1_method_12_code 0 = .ok (.aload_n 0, 1) := by decide +kernel
theorem d_BLB_next_1 : decode prog_1_method_12_code 1 = .ok (.invokevirtual 99, 3) := by decide +kernel
theorem d_BLB_next_4 : decode prog_1_method_12_code 4 = .ok (.aload_n 0, 1) := by decide +kernel
theorem d_BLB_next_5 : decode prog_1_method_12_code 5 = .ok (.iload_n 1, 1) := by decide +kernel
theorem d_BLB_next_6 : decode prog_1_method_12_code 6 = .ok (.invokevirtual 102, 3) := by decide +kernel
theorem d_BLB_next_9 : decode prog_1_method_12_code 9 = .ok (.iload_n 2, 1) := by decide +kernel
theorem d_BLB_next_10 : decode prog_1_method_12_code 10 = .ok (.invokestatic 222, 3) := by decide +kernel
theorem d_BLB_next_13 : decode prog_1_method_12_code 13 = .ok (.iload_n 3, 1) := by decide +kernel
theorem d_BLB_next_14 : decode prog_1_method_12_code 14 = .ok (.iload 4, 2) := by decide +kernel
theorem d_BLB_next_16 : decode prog_1_method_12_code 16 = .ok (.invokestatic 208, 3) := by decide +kernel
theorem d_BLB_next_19 : decode prog_1_method_12_code 19 = .ok (.aload_n 0, 1) := by decide +kernel
theorem d_BLB_next_20 : decode prog_1_method_12_code 20 = .ok (.getfield 38, 3) := by decide +kernel
theorem d_BLB_next_23 : decode prog_1_method_12_code 23 = .ok (.iload_n 1, 1) := by decide +kernel
theorem d_BLB_next_24 : decode prog_1_method_12_code 24 = .ok (.iload_n 3, 1) := by decide +kernel
theorem d_BLB_next_25 : decode prog_1_method_12_code 25 = .ok (.iload 4, 2) := by decide +kernel
theorem d_BLB_next_27 : decode prog_1_method_12_code 27 = .ok (.invokevirtual 211, 3) := by decide +kernel
theorem d_BLB_next_30 : decode prog_1_method_12_code 30 = .ok (.ifCond .ne 5, 3) := by decide +kernel
theorem d_BLB_next_35 : decode prog_1_method_12_code 35 = .ok (.iconst 0, 1) := by decide +kernel
theorem d_BLB_next_36 : decode prog_1_method_12_code 36 = .ok (.istore 5, 2) := by decide +kernel
theorem d_BLB_next_38 : decode prog_1_method_12_code 38 = .ok (.iconst 1, 1) := by decide +kernel
theorem d_BLB_next_39 : decode prog_1_method_12_code 39 = .ok (.istore 6, 2) := by decide +kernel
theorem d_BLB_next_33 : decode prog_1_method_12_code 33 = .ok (.iconst (-1), 1) := by decide +kernel
theorem d_BLB_next_34 : decode prog_1_method_12_code 34 = .ok (.ireturn, 1) := by decide +kernel
theorem d_BLB_next_41 : decode prog_1_method_12_code 41 = .ok (.iload 6, 2) := by decide +kernel
theorem d_BLB_next_43 : decode prog_1_method_12_code 43 = .ok (.aload_n 0, 1) := by decide +kernel
theorem d_BLB_next_44 : decode prog_1_method_12_code 44 = .ok (.getfield 38, 3) := by decide +kernel
theorem d_BLB_next_47 : decode prog_1_method_12_code 47 = .ok (.invokevirtual 76, 3) := by decide +kernel
theorem d_BLB_next_50 : decode prog_1_method_12_code 50 = .ok (.if_icmp .gt 71, 3) := by decide +kernel
theorem d_BLB_next_121 : decode prog_1_method_12_code 121 = .ok (.iconst 0, 1) := by decide +kernel
theorem d_BLB_next_122 : decode prog_1_method_12_code 122 = .ok (.ireturn, 1) := by decide +kernel
theorem d_BLB_next_53 : decode prog_1_method_12_code 53 = .ok (.iload 6, 2) := by decide +kernel
theorem d_BLB_next_55 : decode prog_1_method_12_code 55 = .ok (.iload_n 1, 1) := by decide +kernel
theorem d_BLB_next_56 : decode prog_1_method_12_code 56 = .ok (.if_icmp .eq 59, 3) := by decide +kernel
theorem d_BLB_next_59 : decode prog_1_method_12_code 59 = .ok (.aload_n 0, 1) := by decide +kernel
theorem d_BLB_next_60 : decode prog_1_method_12_code 60 = .ok (.getfield 38, 3) := by decide +kernel
theorem d_BLB_next_63 : decode prog_1_method_12_code 63 = .ok (.iload 6, 2) := by decide +kernel
theorem d_BLB_next_65 : decode prog_1_method_12_code 65 = .ok (.iload_n 3, 1) := by decide +kernel
theorem d_BLB_next_66 : decode prog_1_method_12_code 66 = .ok (.iload 4, 2) := by decide +kernel
theorem d_BLB_next_68 : decode prog_1_method_12_code 68 = .ok (.invokevirtual 211, 3) := by decide +kernel
theorem d_BLB_next_71 : decode prog_1_method_12_code 71 = .ok (.ifCond .eq 44, 3) := by decide +kernel
theorem d_BLB_next_74 : decode prog_1_method_12_code 74 = .ok (.aload_n 0, 1) := by decide +kernel
theorem d_BLB_next_75 : decode prog_1_method_12_code 75 = .ok (.getfield 38, 3) := by decide +kernel
theorem d_BLB_next_78 : decode prog_1_method_12_code 78 = .ok (.iload_n 1, 1) := by decide +kernel
theorem d_BLB_next_79 : decode prog_1_method_12_code 79 = .ok (.invokevirtual 112, 3) := by decide +kernel
theorem d_BLB_next_82 : decode prog_1_method_12_code 82 = .ok (.getfield 116, 3) := by decide +kernel
theorem d_BLB_next_85 : decode prog_1_method_12_code 85 = .ok (.aload_n 0, 1) := by decide +kernel
theorem d_BLB_next_86 : decode prog_1_method_12_code 86 = .ok (.getfield 38, 3) := by decide +kernel
theorem d_BLB_next_89 : decode prog_1_method_12_code 89 = .ok (.iload 6, 2) := by decide +kernel
theorem d_BLB_next_91 : decode prog_1_method_12_code 91 = .ok (.invokevirtual 112, 3) := by decide +kernel
theorem d_BLB_next_94 : decode prog_1_method_12_code 94 = .ok (.getfield 116, 3) := by decide +kernel
theorem d_BLB_next_97 : decode prog_1_method_12_code 97 = .ok (.invokestatic 225, 3) := by decide +kernel
theorem d_BLB_next_100 : decode prog_1_method_12_code 100 = .ok (.ifCond .eq 15, 3) := by decide +kernel
theorem d_BLB_next_103 : decode prog_1_method_12_code 103 = .ok (.iload 5, 2) := by decide +kernel
theorem d_BLB_next_105 : decode prog_1_method_12_code 105 = .ok (.iload_n 2, 1) := by decide +kernel
theorem d_BLB_next_106 : decode prog_1_method_12_code 106 = .ok (.if_icmp .ne 6, 3) := by decide +kernel
theorem d_BLB_next_112 : decode prog_1_method_12_code 112 = .ok (.iinc 5 1, 3) := by decide +kernel
theorem d_BLB_next_109 : decode prog_1_method_12_code 109 = .ok (.iload 6, 2) := by decide +kernel
theorem d_BLB_next_111 : decode prog_1_method_12_code 111 = .ok (.ireturn, 1) := by decide +kernel
theorem d_BLB_next_115 : decode prog_1_method_12_code 115 = .ok (.iinc 6 1, 3) := by decide +kernel
theorem d_BLB_next_118 : decode prog_1_method_12_code 118 = .ok (.goto (-77), 3) := by decide +kernel
def wp_BLB_next_115 (post : Int → CS → Prop) (pe : String → CS → Prop) (k41 : Nat → Nat → Nat → Int → Int → Int → Int → Int → Int → CS → Prop) (mc0 : Nat) (ms0 : Nat) (v0 : Nat) (v1 : Int) (v2 : Int) (v3 : Int) (v4 : Int) (v5 : Int) (v6 : Int) (T : CS) : Prop := k41 mc0 ms0 v0 v1 v2 v3 v4 v5 (v6 + 1) T
def wp_BLB_next_41 (post : Int → CS → Prop) (pe : String → CS → Prop) : Nat → Nat → Nat → Nat → Int → Int → Int → Int → Int → Int → CS → Prop
  | 0, _, _, _, _, _, _, _, _, _, _ => False
  | n + 1, mc0, ms0, v0, v1, v2, v3, v4, v5, v6, T => tg T v0 = 1 ∧ ∃ q_1 : Nat, fo T v0 4 = some q_1 ∧ (tg T q_1 = 5 ∧ wp_BRg_lotCount (fun r_3 T_2 => inR v6 ∧ inR r_3 ∧ (r_3 < v6 → post 0 T_2) ∧ (¬ (r_3 < v6) → (inR v6 ∧ inR v1 ∧ (v6 = v1 → wp_BLB_next_115 post pe (wp_BLB_next_41 post pe n) mc0 ms0 v0 v1 v2 v3 v4 v5 v6 T_2) ∧ (¬ (v6 = v1) → (tg T_2 v0 = 1 ∧ ∃ q_4 : Nat, fo T_2 v0 4 = some q_4 ∧ (tg T_2 q_4 = 5 ∧ wp_BRg_isInBeing (fun r_6 T_5 => inR r_6 ∧ (r_6 = 0 → wp_BLB_next_115 post pe (wp_BLB_next_41 post pe n) mc0 ms0 v0 v1 v2 v3 v4 v5 v6 T_5) ∧ (¬ (r_6 = 0) → (tg T_5 v0 = 1 ∧ ∃ q_7 : Nat, fo T_5 v0 4 = some q_7 ∧ (tg T_5 q_7 = 5 ∧ wp_BRg_lot (fun r_9 T_8 => tg T_8 r_9 = 9 ∧ ∃ q_10 : Nat, fo T_8 r_9 0 = some q_10 ∧ (tg T_8 v0 = 1 ∧ ∃ q_11 : Nat, fo T_8 v0 4 = some q_11 ∧ (tg T_8 q_11 = 5 ∧ wp_BRg_lot (fun r_13 T_12 => tg T_12 r_13 = 9 ∧ ∃ q_14 : Nat, fo T_12 r_13 0 = some q_14 ∧ (wp_BRi_haveLineInCommon (fun r_16 T_15 => inR r_16 ∧ (r_16 = 0 → wp_BLB_next_115 post pe (wp_BLB_next_41 post pe n) mc0 ms0 v0 v1 v2 v3 v4 v5 v6 T_15) ∧ (¬ (r_16 = 0) → (inR v5 ∧ inR v2 ∧ (¬ (v5 = v2) → (wp_BLB_next_115 post pe (wp_BLB_next_41 post pe n) mc0 ms0 v0 v1 v2 v3 v4 (v5 + 1) v6 T_15)) ∧ (v5 = v2 → post v6 T_15)))) q_10 q_14 T_12)) q_11 v6 T_8))) q_7 v1 T_5)))) q_4 v6 v3 v4 T_2)))))) q_1 T)
def wp_BLB_next (post : Int → CS → Prop) (pe : String → CS → Prop) (mc0 ms0 : Nat) (v0 : Nat) (v1 : Int) (v2 : Int) (v3 : Int) (v4 : Int) (T : CS) : Prop := ∃ mc_3 ms_4 mc_5 ms_6 : Nat, (mc0 = mc_3 + mc_5 ∧ ms0 = ms_4 + ms_6) ∧ tg T v0 = 1 ∧ wp_BLB_checkUp (fun T_1 => ∃ mc_9 ms_10 mc_11 ms_12 : Nat, (mc_5 = mc_9 + mc_11 ∧ ms_6 = ms_10 + ms_12) ∧ tg T_1 v0 = 1 ∧ wp_BLB_checkLot (fun T_7 => ∃ mc_15 ms_16 mc_17 ms_18 : Nat, (mc_11 = mc_15 + mc_17 ∧ ms_12 = ms_16 + ms_18) ∧ wp_BLB_checkPlace (fun T_13 => ∃ mc_21 ms_22 mc_23 ms_24 : Nat, (mc_17 = mc_21 + mc_23 ∧ ms_18 = ms_22 + ms_24) ∧ wp_BLB_checkAsOf (fun T_19 => tg T_19 v0 = 1 ∧ ∃ q_25 : Nat, fo T_19 v0 4 = some q_25 ∧ (tg T_19 q_25 = 5 ∧ wp_BRg_isInBeing (fun r_27 T_26 => inR r_27 ∧ (¬ (r_27 = 0) → (∃ nn : Nat, wp_BLB_next_41 post pe nn mc_23 ms_24 v0 v1 v2 v3 v4 0 1 T_26)) ∧ (r_27 = 0 → (post (-1) T_26))) q_25 v1 v3 v4 T_19)) pe mc_21 ms_22 v3 v4 T_13) pe mc_15 ms_16 v2 T_7) pe mc_9 ms_10 v0 v1 T_1) pe mc_3 ms_4 v0 T
set_option maxHeartbeats 4000000 in
set_option maxRecDepth 100000 in
theorem c_BLB_next (l : Launch) (hfl : l.flags = pinnedFlags ++ [noTraceFlag]) {D : va_G} {k : CK} {post : Int → CS → Prop} {pe : String → CS → Prop} {mc ms : Nat} {v0 : Nat} {v1 : Int} {v2 : Int} {v3 : Int} {v4 : Int} {T : CS} (hw : wp_BLB_next post pe mc ms v0 v1 v2 v3 v4 T) : jE l D k y_BLB_next prog_1_method_12_code 7 (some .int) 8 123 mc ms T [.ref v0, vi v1, vi v2, vi v3, vi v4] (rtI post) pe := by
  refine j_eo hfl (by decide) rfl (Nat.le_of_ble_eq_true rfl) (by decide) (by decide) (fun X F K E hT Pr hthr hri hrz hrv => ?_)
  have B41 : ∀ (nn : Nat) (mc0 : Nat) (ms0 : Nat) (v0 : Nat) (v1 : Int) (v2 : Int) (v3 : Int) (v4 : Int) (v5 : Int) (v6 : Int) (T : CS) (c0 n0 : Nat), c0 + mc0 = mc → n0 + ms0 = ms → cs_ok k T → wp_BLB_next_41 post pe nn mc0 ms0 v0 v1 v2 v3 v4 v5 v6 T → jat l D X 7 41 [(0, .ref v0), (1, vi v1), (2, vi v2), (3, vi v3), (4, vi v4), (5, vi v5), (6, vi v6)] [] (cwd k T) c0 n0 := by
    intro nn
    induction nn with
    | zero => intro mc0 ms0 v0 v1 v2 v3 v4 v5 v6 T c0 n0 hc0 hn0 hT hw; exact hw.elim
    | succ n41 ih41 =>
      have B115 : ∀ (mc0 : Nat) (ms0 : Nat) (v0 : Nat) (v1 : Int) (v2 : Int) (v3 : Int) (v4 : Int) (v5 : Int) (v6 : Int) (T : CS) (c0 n0 : Nat), c0 + mc0 = mc → n0 + ms0 = ms → cs_ok k T → wp_BLB_next_115 post pe (wp_BLB_next_41 post pe n41) mc0 ms0 v0 v1 v2 v3 v4 v5 v6 T → jat l D X 7 115 [(0, .ref v0), (1, vi v1), (2, vi v2), (3, vi v3), (4, vi v4), (5, vi v5), (6, vi v6)] [] (cwd k T) c0 n0 := by
        intro mc0 ms0 v0 v1 v2 v3 v4 v5 v6 T c0 n0 hc0 hn0 hT hw
        unfold wp_BLB_next_115 at hw
        refine j_iinc F 6 [(6, vi (v6 + 1)), (0, .ref v0), (1, vi v1), (2, vi v2), (3, vi v3), (4, vi v4), (5, vi v5)] d_BLB_next_115 rfl (by decide) rfl ?_
        refine j_goto F 41 d_BLB_next_118 rfl ?_
        refine j_sub [1, 2, 3, 4, 5, 6, 0] rfl ?_
        exact ih41 _ _ _ _ _ _ _ _ _ _ _ _ hc0 hn0 hT hw
      intro mc0 ms0 v0 v1 v2 v3 v4 v5 v6 T c0 n0 hc0 hn0 hT hw
      unfold wp_BLB_next_41 at hw
      refine j_iload F 6 d_BLB_next_41 rfl ?_
      refine j_aload_n F 0 d_BLB_next_43 rfl ?_
      obtain ⟨hc1, q_1, hc2, hw⟩ := hw
      refine c_getr F K hT 1 4 rfl tu_LandBook (by decide) (by decide) rfl tq_441 (Or.inl rfl) hc1 hc2 d_BLB_next_44 ?_
      obtain ⟨hg1, hw⟩ := hw
      refine c_callVi F K hT (c_BRg_lotCount l hw) (tw_gV tq_443 tq_444 tq_445 tq_336 tq_446) 5 rfl (by decide) hg1 q_BRg_lotCount rfl ⟨by decide, by decide⟩ ⟨rm_z hc0, rm_z hn0⟩ rfl (Nat.le_of_ble_eq_true rfl) d_BLB_next_47 (fun r_3 T_2 hw hT => ?_)
      obtain ⟨hc1, hc2, hwt, hwf⟩ := hw
      refine j_icmp_gt F 121 hc1 hc2 d_BLB_next_50 rfl (fun hh => ?_) (fun hh => ?_)
      · have hw := hwt hh
        refine j_iconst F d_BLB_next_121 ?_
        exact hri _ _ _ _ _ _ rfl ⟨_, rfl, hw⟩ hT (rm_y hc0) (rm_y hn0) d_BLB_next_122
      · have hw := hwf hh
        refine j_iload F 6 d_BLB_next_53 rfl ?_
        refine j_iload_n F 1 d_BLB_next_55 rfl ?_
        obtain ⟨hc1, hc2, hwt, hwf⟩ := hw
        refine j_icmp_eq F 115 hc1 hc2 d_BLB_next_56 rfl (fun hh => ?_) (fun hh => ?_)
        · have hw := hwt hh
          exact B115 _ _ _ _ _ _ _ _ _ _ _ _ hc0 hn0 hT hw
        · have hw := hwf hh
          refine j_aload_n F 0 d_BLB_next_59 rfl ?_
          obtain ⟨hc1, q_4, hc2, hw⟩ := hw
          refine c_getr F K hT 1 4 rfl tu_LandBook (by decide) (by decide) rfl tq_441 (Or.inl rfl) hc1 hc2 d_BLB_next_60 ?_
          refine j_iload F 6 d_BLB_next_63 rfl ?_
          refine j_iload_n F 3 d_BLB_next_65 rfl ?_
          refine j_iload F 4 d_BLB_next_66 rfl ?_
          obtain ⟨hg1, hw⟩ := hw
          refine c_callVi F K hT (c_BRg_isInBeing l hw) (tw_gV tq_575 tq_367 tq_368 tq_336 tq_369) 5 rfl (by decide) hg1 q_BRg_isInBeing rfl ⟨by decide, by decide⟩ ⟨rm_z hc0, rm_z hn0⟩ rfl (Nat.le_of_ble_eq_true rfl) d_BLB_next_68 (fun r_6 T_5 hw hT => ?_)
          obtain ⟨hc1, hwt, hwf⟩ := hw
          refine j_if_eq F 115 hc1 d_BLB_next_71 rfl (fun hh => ?_) (fun hh => ?_)
          · have hw := hwt hh
            exact B115 _ _ _ _ _ _ _ _ _ _ _ _ hc0 hn0 hT hw
          · have hw := hwf hh
            refine j_aload_n F 0 d_BLB_next_74 rfl ?_
            obtain ⟨hc1, q_7, hc2, hw⟩ := hw
            refine c_getr F K hT 1 4 rfl tu_LandBook (by decide) (by decide) rfl tq_441 (Or.inl rfl) hc1 hc2 d_BLB_next_75 ?_
            refine j_iload_n F 1 d_BLB_next_78 rfl ?_
            obtain ⟨hg1, hw⟩ := hw
            refine c_callVr F K hT (c_BRg_lot l hw) (tw_gV tq_508 tq_334 tq_335 tq_336 tq_337) 5 rfl (by decide) hg1 q_BRg_lot rfl ⟨by decide, by decide⟩ ⟨rm_z hc0, rm_z hn0⟩ rfl (Nat.le_of_ble_eq_true rfl) d_BLB_next_79 (fun r_9 T_8 hw hT => ?_)
            obtain ⟨hc1, q_10, hc2, hw⟩ := hw
            refine c_getr F K hT 9 0 rfl tu_Lot (by decide) (by decide) rfl tq_509 (Or.inl rfl) hc1 hc2 d_BLB_next_82 ?_
            refine j_aload_n F 0 d_BLB_next_85 rfl ?_
            obtain ⟨hc1, q_11, hc2, hw⟩ := hw
            refine c_getr F K hT 1 4 rfl tu_LandBook (by decide) (by decide) rfl tq_441 (Or.inl rfl) hc1 hc2 d_BLB_next_86 ?_
            refine j_iload F 6 d_BLB_next_89 rfl ?_
            obtain ⟨hg1, hw⟩ := hw
            refine c_callVr F K hT (c_BRg_lot l hw) (tw_gV tq_508 tq_334 tq_335 tq_336 tq_337) 5 rfl (by decide) hg1 q_BRg_lot rfl ⟨by decide, by decide⟩ ⟨rm_z hc0, rm_z hn0⟩ rfl (Nat.le_of_ble_eq_true rfl) d_BLB_next_91 (fun r_13 T_12 hw hT => ?_)
            obtain ⟨hc1, q_14, hc2, hw⟩ := hw
            refine c_getr F K hT 9 0 rfl tu_Lot (by decide) (by decide) rfl tq_509 (Or.inl rfl) hc1 hc2 d_BLB_next_94 ?_
            refine c_callSi F K hT (c_BRi_haveLineInCommon l hw) (tw_gS tq_581 tq_582 tq_146 tq_583) q_BRi_haveLineInCommon rfl ⟨by decide, by decide⟩ ⟨rm_z hc0, rm_z hn0⟩ rfl (Nat.le_of_ble_eq_true rfl) d_BLB_next_97 (fun r_16 T_15 hw hT => ?_)
            obtain ⟨hc1, hwt, hwf⟩ := hw
            refine j_if_eq F 115 hc1 d_BLB_next_100 rfl (fun hh => ?_) (fun hh => ?_)
            · have hw := hwt hh
              exact B115 _ _ _ _ _ _ _ _ _ _ _ _ hc0 hn0 hT hw
            · have hw := hwf hh
              refine j_iload F 5 d_BLB_next_103 rfl ?_
              refine j_iload_n F 2 d_BLB_next_105 rfl ?_
              obtain ⟨hc1, hc2, hwt, hwf⟩ := hw
              refine j_icmp_ne F 112 hc1 hc2 d_BLB_next_106 rfl (fun hh => ?_) (fun hh => ?_)
              · have hw := hwt hh
                refine j_iinc F 5 [(5, vi (v5 + 1)), (0, .ref v0), (1, vi v1), (2, vi v2), (3, vi v3), (4, vi v4), (6, vi v6)] d_BLB_next_112 rfl (by decide) rfl ?_
                refine j_sub [1, 2, 3, 4, 5, 0, 6] rfl ?_
                exact B115 _ _ _ _ _ _ _ _ _ _ _ _ hc0 hn0 hT hw
              · have hw := hwf hh
                refine j_iload F 6 d_BLB_next_109 rfl ?_
                exact hri _ _ _ _ _ _ rfl ⟨_, rfl, hw⟩ hT (rm_y hc0) (rm_y hn0) d_BLB_next_111
  unfold wp_BLB_next at hw
  have key : ∀ (mc0 ms0 c0 n0 : Nat), mc0 = mc → ms0 = ms → c0 = 0 → n0 = 0 → c0 + mc0 = mc → n0 + ms0 = ms → jat l D X 7 0 [(0, .ref v0), (1, vi v1), (2, vi v2), (3, vi v3), (4, vi v4)] [] (cwd k T) c0 n0 := by
    intro mc0 ms0 c0 n0 hm1 hm2 hz1 hz2 hc0 hn0
    subst hm1; subst hm2
    clear hz1 hz2
    refine j_aload_n F 0 d_BLB_next_0 rfl ?_
    obtain ⟨mc_3, ms_4, mc_5, ms_6, ⟨he1, he2⟩, hw⟩ := hw
    obtain ⟨hg1, hw⟩ := hw
    refine e_callV F K E Pr hT (c_BLB_checkUp l hfl hw) (tw_gV tq_495 tq_496 tq_497 tq_473 tq_498) hg1 q_BLB_checkUp rfl ⟨by decide, by decide⟩ ⟨rm_l hc0 he1, rm_l hn0 he2⟩ rfl (Nat.le_of_ble_eq_true rfl) d_BLB_next_1 (fun ov T_1 hw hT => ?_)
    obtain ⟨rfl, hw⟩ := hw
    have hc0 := rm_c hc0 he1
    have hn0 := rm_c hn0 he2
    refine j_aload_n F 0 d_BLB_next_4 rfl ?_
    refine j_iload_n F 1 d_BLB_next_5 rfl ?_
    obtain ⟨mc_9, ms_10, mc_11, ms_12, ⟨he1, he2⟩, hw⟩ := hw
    obtain ⟨hg1, hw⟩ := hw
    refine e_callV F K E Pr hT (c_BLB_checkLot l hfl hw) (tw_gV tq_499 tq_500 tq_501 tq_473 tq_502) hg1 q_BLB_checkLot rfl ⟨by decide, by decide⟩ ⟨rm_l hc0 he1, rm_l hn0 he2⟩ rfl (Nat.le_of_ble_eq_true rfl) d_BLB_next_6 (fun ov T_7 hw hT => ?_)
    obtain ⟨rfl, hw⟩ := hw
    have hc0 := rm_c hc0 he1
    have hn0 := rm_c hn0 he2
    refine j_iload_n F 2 d_BLB_next_9 rfl ?_
    obtain ⟨mc_15, ms_16, mc_17, ms_18, ⟨he1, he2⟩, hw⟩ := hw
    refine e_callS F K E Pr hT (c_BLB_checkPlace l hfl hw) (tw_gS tq_578 tq_579 tq_473 tq_580) q_BLB_checkPlace rfl ⟨by decide, by decide⟩ ⟨rm_l hc0 he1, rm_l hn0 he2⟩ rfl (Nat.le_of_ble_eq_true rfl) d_BLB_next_10 (fun ov T_13 hw hT => ?_)
    obtain ⟨rfl, hw⟩ := hw
    have hc0 := rm_c hc0 he1
    have hn0 := rm_c hn0 he2
    refine j_iload_n F 3 d_BLB_next_13 rfl ?_
    refine j_iload F 4 d_BLB_next_14 rfl ?_
    obtain ⟨mc_21, ms_22, mc_23, ms_24, ⟨he1, he2⟩, hw⟩ := hw
    refine e_callS F K E Pr hT (c_BLB_checkAsOf l hfl hw) (tw_gS tq_572 tq_573 tq_473 tq_574) q_BLB_checkAsOf rfl ⟨by decide, by decide⟩ ⟨rm_l hc0 he1, rm_l hn0 he2⟩ rfl (Nat.le_of_ble_eq_true rfl) d_BLB_next_16 (fun ov T_19 hw hT => ?_)
    obtain ⟨rfl, hw⟩ := hw
    have hc0 := rm_c hc0 he1
    have hn0 := rm_c hn0 he2
    refine j_aload_n F 0 d_BLB_next_19 rfl ?_
    obtain ⟨hc1, q_25, hc2, hw⟩ := hw
    refine c_getr F K hT 1 4 rfl tu_LandBook (by decide) (by decide) rfl tq_441 (Or.inl rfl) hc1 hc2 d_BLB_next_20 ?_
    refine j_iload_n F 1 d_BLB_next_23 rfl ?_
    refine j_iload_n F 3 d_BLB_next_24 rfl ?_
    refine j_iload F 4 d_BLB_next_25 rfl ?_
    obtain ⟨hg1, hw⟩ := hw
    refine c_callVi F K hT (c_BRg_isInBeing l hw) (tw_gV tq_575 tq_367 tq_368 tq_336 tq_369) 5 rfl (by decide) hg1 q_BRg_isInBeing rfl ⟨by decide, by decide⟩ ⟨rm_z hc0, rm_z hn0⟩ rfl (Nat.le_of_ble_eq_true rfl) d_BLB_next_27 (fun r_27 T_26 hw hT => ?_)
    obtain ⟨hc1, hwt, hwf⟩ := hw
    refine j_if_ne F 35 hc1 d_BLB_next_30 rfl (fun hh => ?_) (fun hh => ?_)
    · have hw := hwt hh
      refine j_iconst F d_BLB_next_35 ?_
      refine j_istore F [(5, vi 0), (0, .ref v0), (1, vi v1), (2, vi v2), (3, vi v3), (4, vi v4)] d_BLB_next_36 (by decide) rfl ?_
      refine j_iconst F d_BLB_next_38 ?_
      refine j_istore F [(6, vi 1), (5, vi 0), (0, .ref v0), (1, vi v1), (2, vi v2), (3, vi v3), (4, vi v4)] d_BLB_next_39 (by decide) rfl ?_
      refine j_sub [2, 3, 4, 5, 6, 1, 0] rfl ?_
      obtain ⟨nn, hw⟩ := hw
      exact B41 nn _ _ _ _ _ _ _ _ _ _ _ _ hc0 hn0 hT hw
    · have hw := hwf hh
      refine j_iconst F d_BLB_next_33 ?_
      exact hri _ _ _ _ _ _ rfl ⟨_, rfl, hw⟩ hT (rm_y hc0) (rm_y hn0) d_BLB_next_34
  exact key mc ms 0 0 rfl rfl rfl rfl (Nat.zero_add _) (Nat.zero_add _)
theorem tq_584 : (Jvm.Cond.methodLink "LandBook" (228 : Nat) ({ cls := "LandBook$Register", name := "isBurdened", desc := "(IIII)Z" } : Jvm.MethodName)) ∈ tw_G := tw_in (List.mem_of_getElem? (i := 932) (by decide +kernel)) rfl
abbrev y_BLB_burden : MethodName := ⟨"LandBook", "burden", "(IIII)I"⟩
theorem q_BLB_burden : y_BLB_burden.cls = "LandBook" ∧ y_BLB_burden.cls ≠ "java/lang/invoke/MethodHandle" ∧ y_BLB_burden.cls ≠ "java/lang/invoke/VarHandle" ∧ (parseMethodDescriptor y_BLB_burden.desc).map (fun d => d.parameters.length) = some 4 := by decide +kernel
theorem d_BLB_burden_0 : decode prog_1_method_13_code 0 = .ok (.aload_n 0, 1) := by decide +kernel
theorem d_BLB_burden_1 : decode prog_1_method_13_code 1 = .ok (.invokevirtual 99, 3) := by decide +kernel
theorem d_BLB_burden_4 : decode prog_1_method_13_code 4 = .ok (.aload_n 0, 1) := by decide +kernel
theorem d_BLB_burden_5 : decode prog_1_method_13_code 5 = .ok (.iload_n 1, 1) := by decide +kernel
theorem d_BLB_burden_6 : decode prog_1_method_13_code 6 = .ok (.invokevirtual 102, 3) := by decide +kernel
theorem d_BLB_burden_9 : decode prog_1_method_13_code 9 = .ok (.iload_n 2, 1) := by decide +kernel
theorem d_BLB_burden_10 : decode prog_1_method_13_code 10 = .ok (.invokestatic 222, 3) := by decide +kernel
theorem d_BLB_burden_13 : decode prog_1_method_13_code 13 = .ok (.iload_n 3, 1) := by decide +kernel
theorem d_BLB_burden_14 : decode prog_1_method_13_code 14 = .ok (.iload 4, 2) := by decide +kernel
theorem d_BLB_burden_16 : decode prog_1_method_13_code 16 = .ok (.invokestatic 208, 3) := by decide +kernel
theorem d_BLB_burden_19 : decode prog_1_method_13_code 19 = .ok (.aload_n 0, 1) := by decide +kernel
theorem d_BLB_burden_20 : decode prog_1_method_13_code 20 = .ok (.getfield 38, 3) := by decide +kernel
theorem d_BLB_burden_23 : decode prog_1_method_13_code 23 = .ok (.iload_n 1, 1) := by decide +kernel
theorem d_BLB_burden_24 : decode prog_1_method_13_code 24 = .ok (.iload_n 3, 1) := by decide +kernel
theorem d_BLB_burden_25 : decode prog_1_method_13_code 25 = .ok (.iload 4, 2) := by decide +kernel
theorem d_BLB_burden_27 : decode prog_1_method_13_code 27 = .ok (.invokevirtual 211, 3) := by decide +kernel
theorem d_BLB_burden_30 : decode prog_1_method_13_code 30 = .ok (.ifCond .ne 5, 3) := by decide +kernel
theorem d_BLB_burden_35 : decode prog_1_method_13_code 35 = .ok (.iconst 0, 1) := by decide +kernel
theorem d_BLB_burden_36 : decode prog_1_method_13_code 36 = .ok (.istore 5, 2) := by decide +kernel
theorem d_BLB_burden_38 : decode prog_1_method_13_code 38 = .ok (.iconst 1, 1) := by decide +kernel
theorem d_BLB_burden_39 : decode prog_1_method_13_code 39 = .ok (.istore 6, 2) := by decide +kernel
theorem d_BLB_burden_33 : decode prog_1_method_13_code 33 = .ok (.iconst (-1), 1) := by decide +kernel
theorem d_BLB_burden_34 : decode prog_1_method_13_code 34 = .ok (.ireturn, 1) := by decide +kernel
theorem d_BLB_burden_41 : decode prog_1_method_13_code 41 = .ok (.iload 6, 2) := by decide +kernel
theorem d_BLB_burden_43 : decode prog_1_method_13_code 43 = .ok (.aload_n 0, 1) := by decide +kernel
theorem d_BLB_burden_44 : decode prog_1_method_13_code 44 = .ok (.getfield 38, 3) := by decide +kernel
theorem d_BLB_burden_47 : decode prog_1_method_13_code 47 = .ok (.invokevirtual 186, 3) := by decide +kernel
theorem d_BLB_burden_50 : decode prog_1_method_13_code 50 = .ok (.if_icmp .gt 37, 3) := by decide +kernel
theorem d_BLB_burden_87 : decode prog_1_method_13_code 87 = .ok (.iconst 0, 1) := by decide +kernel
theorem d_BLB_burden_88 : decode prog_1_method_13_code 88 = .ok (.ireturn, 1) := by decide +kernel
theorem d_BLB_burden_53 : decode prog_1_method_13_code 53 = .ok (.aload_n 0, 1) := by decide +kernel
theorem d_BLB_burden_54 : decode prog_1_method_13_code 54 = .ok (.getfield 38, 3) := by decide +kernel
theorem d_BLB_burden_57 : decode prog_1_method_13_code 57 = .ok (.iload_n 1, 1) := by decide +kernel
theorem d_BLB_burden_58 : decode prog_1_method_13_code 58 = .ok (.iload 6, 2) := by decide +kernel
theorem d_BLB_burden_60 : decode prog_1_method_13_code 60 = .ok (.iload_n 3, 1) := by decide +kernel
theorem d_BLB_burden_61 : decode prog_1_method_13_code 61 = .ok (.iload 4, 2) := by decide +kernel
theorem d_BLB_burden_63 : decode prog_1_method_13_code 63 = .ok (.invokevirtual 228, 3) := by decide +kernel
theorem d_BLB_burden_66 : decode prog_1_method_13_code 66 = .ok (.ifCond .eq 15, 3) := by decide +kernel
theorem d_BLB_burden_69 : decode prog_1_method_13_code 69 = .ok (.iload 5, 2) := by decide +kernel
theorem d_BLB_burden_71 : decode prog_1_method_13_code 71 = .ok (.iload_n 2, 1) := by decide +kernel
theorem d_BLB_burden_72 : decode prog_1_method_13_code 72 = .ok (.if_icmp .ne 6, 3) := by decide +kernel
theorem d_BLB_burden_78 : decode prog_1_method_13_code 78 = .ok (.iinc 5 1, 3) := by decide +kernel
theorem d_BLB_burden_75 : decode prog_1_method_13_code 75 = .ok (.iload 6, 2) := by decide +kernel
theorem d_BLB_burden_77 : decode prog_1_method_13_code 77 = .ok (.ireturn, 1) := by decide +kernel
theorem d_BLB_burden_81 : decode prog_1_method_13_code 81 = .ok (.iinc 6 1, 3) := by decide +kernel
theorem d_BLB_burden_84 : decode prog_1_method_13_code 84 = .ok (.goto (-43), 3) := by decide +kernel
def wp_BLB_burden_81 (post : Int → CS → Prop) (pe : String → CS → Prop) (k41 : Nat → Nat → Nat → Int → Int → Int → Int → Int → Int → CS → Prop) (mc0 : Nat) (ms0 : Nat) (v0 : Nat) (v1 : Int) (v2 : Int) (v3 : Int) (v4 : Int) (v5 : Int) (v6 : Int) (T : CS) : Prop := k41 mc0 ms0 v0 v1 v2 v3 v4 v5 (v6 + 1) T
def wp_BLB_burden_41 (post : Int → CS → Prop) (pe : String → CS → Prop) : Nat → Nat → Nat → Nat → Int → Int → Int → Int → Int → Int → CS → Prop
  | 0, _, _, _, _, _, _, _, _, _, _ => False
  | n + 1, mc0, ms0, v0, v1, v2, v3, v4, v5, v6, T => tg T v0 = 1 ∧ ∃ q_1 : Nat, fo T v0 4 = some q_1 ∧ (tg T q_1 = 5 ∧ wp_BRg_easementCount (fun r_3 T_2 => inR v6 ∧ inR r_3 ∧ (r_3 < v6 → post 0 T_2) ∧ (¬ (r_3 < v6) → (tg T_2 v0 = 1 ∧ ∃ q_4 : Nat, fo T_2 v0 4 = some q_4 ∧ (tg T_2 q_4 = 5 ∧ wp_BRg_isBurdened (fun r_6 T_5 => inR r_6 ∧ (r_6 = 0 → wp_BLB_burden_81 post pe (wp_BLB_burden_41 post pe n) mc0 ms0 v0 v1 v2 v3 v4 v5 v6 T_5) ∧ (¬ (r_6 = 0) → (inR v5 ∧ inR v2 ∧ (¬ (v5 = v2) → (wp_BLB_burden_81 post pe (wp_BLB_burden_41 post pe n) mc0 ms0 v0 v1 v2 v3 v4 (v5 + 1) v6 T_5)) ∧ (v5 = v2 → post v6 T_5)))) q_4 v1 v6 v3 v4 T_2)))) q_1 T)
def wp_BLB_burden (post : Int → CS → Prop) (pe : String → CS → Prop) (mc0 ms0 : Nat) (v0 : Nat) (v1 : Int) (v2 : Int) (v3 : Int) (v4 : Int) (T : CS) : Prop := ∃ mc_3 ms_4 mc_5 ms_6 : Nat, (mc0 = mc_3 + mc_5 ∧ ms0 = ms_4 + ms_6) ∧ tg T v0 = 1 ∧ wp_BLB_checkUp (fun T_1 => ∃ mc_9 ms_10 mc_11 ms_12 : Nat, (mc_5 = mc_9 + mc_11 ∧ ms_6 = ms_10 + ms_12) ∧ tg T_1 v0 = 1 ∧ wp_BLB_checkLot (fun T_7 => ∃ mc_15 ms_16 mc_17 ms_18 : Nat, (mc_11 = mc_15 + mc_17 ∧ ms_12 = ms_16 + ms_18) ∧ wp_BLB_checkPlace (fun T_13 => ∃ mc_21 ms_22 mc_23 ms_24 : Nat, (mc_17 = mc_21 + mc_23 ∧ ms_18 = ms_22 + ms_24) ∧ wp_BLB_checkAsOf (fun T_19 => tg T_19 v0 = 1 ∧ ∃ q_25 : Nat, fo T_19 v0 4 = some q_25 ∧ (tg T_19 q_25 = 5 ∧ wp_BRg_isInBeing (fun r_27 T_26 => inR r_27 ∧ (¬ (r_27 = 0) → (∃ nn : Nat, wp_BLB_burden_41 post pe nn mc_23 ms_24 v0 v1 v2 v3 v4 0 1 T_26)) ∧ (r_27 = 0 → (post (-1) T_26))) q_25 v1 v3 v4 T_19)) pe mc_21 ms_22 v3 v4 T_13) pe mc_15 ms_16 v2 T_7) pe mc_9 ms_10 v0 v1 T_1) pe mc_3 ms_4 v0 T
set_option maxHeartbeats 4000000 in
set_option maxRecDepth 100000 in
theorem c_BLB_burden (l : Launch) (hfl : l.flags = pinnedFlags ++ [noTraceFlag]) {D : va_G} {k : CK} {post : Int → CS → Prop} {pe : String → CS → Prop} {mc ms : Nat} {v0 : Nat} {v1 : Int} {v2 : Int} {v3 : Int} {v4 : Int} {T : CS} (hw : wp_BLB_burden post pe mc ms v0 v1 v2 v3 v4 T) : jE l D k y_BLB_burden prog_1_method_13_code 7 (some .int) 8 135 mc ms T [.ref v0, vi v1, vi v2, vi v3, vi v4] (rtI post) pe := by
  refine j_eo hfl (by decide) rfl (Nat.le_of_ble_eq_true rfl) (by decide) (by decide) (fun X F K E hT Pr hthr hri hrz hrv => ?_)
  have B41 : ∀ (nn : Nat) (mc0 : Nat) (ms0 : Nat) (v0 : Nat) (v1 : Int) (v2 : Int) (v3 : Int) (v4 : Int) (v5 : Int) (v6 : Int) (T : CS) (c0 n0 : Nat), c0 + mc0 = mc → n0 + ms0 = ms → cs_ok k T → wp_BLB_burden_41 post pe nn mc0 ms0 v0 v1 v2 v3 v4 v5 v6 T → jat l D X 7 41 [(0, .ref v0), (1, vi v1), (2, vi v2), (3, vi v3), (4, vi v4), (5, vi v5), (6, vi v6)] [] (cwd k T) c0 n0 := by
    intro nn
    induction nn with
    | zero => intro mc0 ms0 v0 v1 v2 v3 v4 v5 v6 T c0 n0 hc0 hn0 hT hw; exact hw.elim
    | succ n41 ih41 =>
      have B81 : ∀ (mc0 : Nat) (ms0 : Nat) (v0 : Nat) (v1 : Int) (v2 : Int) (v3 : Int) (v4 : Int) (v5 : Int) (v6 : Int) (T : CS) (c0 n0 : Nat), c0 + mc0 = mc → n0 + ms0 = ms → cs_ok k T → wp_BLB_burden_81 post pe (wp_BLB_burden_41 post pe n41) mc0 ms0 v0 v1 v2 v3 v4 v5 v6 T → jat l D X 7 81 [(0, .ref v0), (1, vi v1), (2, vi v2), (3, vi v3), (4, vi v4), (5, vi v5), (6, vi v6)] [] (cwd k T) c0 n0 := by
        intro mc0 ms0 v0 v1 v2 v3 v4 v5 v6 T c0 n0 hc0 hn0 hT hw
        unfold wp_BLB_burden_81 at hw
        refine j_iinc F 6 [(6, vi (v6 + 1)), (0, .ref v0), (1, vi v1), (2, vi v2), (3, vi v3), (4, vi v4), (5, vi v5)] d_BLB_burden_81 rfl (by decide) rfl ?_
        refine j_goto F 41 d_BLB_burden_84 rfl ?_
        refine j_sub [1, 2, 3, 4, 5, 6, 0] rfl ?_
        exact ih41 _ _ _ _ _ _ _ _ _ _ _ _ hc0 hn0 hT hw
      intro mc0 ms0 v0 v1 v2 v3 v4 v5 v6 T c0 n0 hc0 hn0 hT hw
      unfold wp_BLB_burden_41 at hw
      refine j_iload F 6 d_BLB_burden_41 rfl ?_
      refine j_aload_n F 0 d_BLB_burden_43 rfl ?_
      obtain ⟨hc1, q_1, hc2, hw⟩ := hw
      refine c_getr F K hT 1 4 rfl tu_LandBook (by decide) (by decide) rfl tq_441 (Or.inl rfl) hc1 hc2 d_BLB_burden_44 ?_
      obtain ⟨hg1, hw⟩ := hw
      refine c_callVi F K hT (c_BRg_easementCount l hw) (tw_gV tq_447 tq_448 tq_449 tq_336 tq_450) 5 rfl (by decide) hg1 q_BRg_easementCount rfl ⟨by decide, by decide⟩ ⟨rm_z hc0, rm_z hn0⟩ rfl (Nat.le_of_ble_eq_true rfl) d_BLB_burden_47 (fun r_3 T_2 hw hT => ?_)
      obtain ⟨hc1, hc2, hwt, hwf⟩ := hw
      refine j_icmp_gt F 87 hc1 hc2 d_BLB_burden_50 rfl (fun hh => ?_) (fun hh => ?_)
      · have hw := hwt hh
        refine j_iconst F d_BLB_burden_87 ?_
        exact hri _ _ _ _ _ _ rfl ⟨_, rfl, hw⟩ hT (rm_y hc0) (rm_y hn0) d_BLB_burden_88
      · have hw := hwf hh
        refine j_aload_n F 0 d_BLB_burden_53 rfl ?_
        obtain ⟨hc1, q_4, hc2, hw⟩ := hw
        refine c_getr F K hT 1 4 rfl tu_LandBook (by decide) (by decide) rfl tq_441 (Or.inl rfl) hc1 hc2 d_BLB_burden_54 ?_
        refine j_iload_n F 1 d_BLB_burden_57 rfl ?_
        refine j_iload F 6 d_BLB_burden_58 rfl ?_
        refine j_iload_n F 3 d_BLB_burden_60 rfl ?_
        refine j_iload F 4 d_BLB_burden_61 rfl ?_
        obtain ⟨hg1, hw⟩ := hw
        refine c_callVi F K hT (c_BRg_isBurdened l hw) (tw_gV tq_584 tq_371 tq_372 tq_336 tq_373) 5 rfl (by decide) hg1 q_BRg_isBurdened rfl ⟨by decide, by decide⟩ ⟨rm_z hc0, rm_z hn0⟩ rfl (Nat.le_of_ble_eq_true rfl) d_BLB_burden_63 (fun r_6 T_5 hw hT => ?_)
        obtain ⟨hc1, hwt, hwf⟩ := hw
        refine j_if_eq F 81 hc1 d_BLB_burden_66 rfl (fun hh => ?_) (fun hh => ?_)
        · have hw := hwt hh
          exact B81 _ _ _ _ _ _ _ _ _ _ _ _ hc0 hn0 hT hw
        · have hw := hwf hh
          refine j_iload F 5 d_BLB_burden_69 rfl ?_
          refine j_iload_n F 2 d_BLB_burden_71 rfl ?_
          obtain ⟨hc1, hc2, hwt, hwf⟩ := hw
          refine j_icmp_ne F 78 hc1 hc2 d_BLB_burden_72 rfl (fun hh => ?_) (fun hh => ?_)
          · have hw := hwt hh
            refine j_iinc F 5 [(5, vi (v5 + 1)), (0, .ref v0), (1, vi v1), (2, vi v2), (3, vi v3), (4, vi v4), (6, vi v6)] d_BLB_burden_78 rfl (by decide) rfl ?_
            refine j_sub [1, 2, 3, 4, 5, 0, 6] rfl ?_
            exact B81 _ _ _ _ _ _ _ _ _ _ _ _ hc0 hn0 hT hw
          · have hw := hwf hh
            refine j_iload F 6 d_BLB_burden_75 rfl ?_
            exact hri _ _ _ _ _ _ rfl ⟨_, rfl, hw⟩ hT (rm_y hc0) (rm_y hn0) d_BLB_burden_77
  unfold wp_BLB_burden at hw
  have key : ∀ (mc0 ms0 c0 n0 : Nat), mc0 = mc → ms0 = ms → c0 = 0 → n0 = 0 → c0 + mc0 = mc → n0 + ms0 = ms → jat l D X 7 0 [(0, .ref v0), (1, vi v1), (2, vi v2), (3, vi v3), (4, vi v4)] [] (cwd k T) c0 n0 := by
    intro mc0 ms0 c0 n0 hm1 hm2 hz1 hz2 hc0 hn0
    subst hm1; subst hm2
    clear hz1 hz2
    refine j_aload_n F 0 d_BLB_burden_0 rfl ?_
    obtain ⟨mc_3, ms_4, mc_5, ms_6, ⟨he1, he2⟩, hw⟩ := hw
    obtain ⟨hg1, hw⟩ := hw
    refine e_callV F K E Pr hT (c_BLB_checkUp l hfl hw) (tw_gV tq_495 tq_496 tq_497 tq_473 tq_498) hg1 q_BLB_checkUp rfl ⟨by decide, by decide⟩ ⟨rm_l hc0 he1, rm_l hn0 he2⟩ rfl (Nat.le_of_ble_eq_true rfl) d_BLB_burden_1 (fun ov T_1 hw hT => ?_)
    obtain ⟨rfl, hw⟩ := hw
    have hc0 := rm_c hc0 he1
    have hn0 := rm_c hn0 he2
    refine j_aload_n F 0 d_BLB_burden_4 rfl ?_
    refine j_iload_n F 1 d_BLB_burden_5 rfl ?_
    obtain ⟨mc_9, ms_10, mc_11, ms_12, ⟨he1, he2⟩, hw⟩ := hw
    obtain ⟨hg1, hw⟩ := hw
    refine e_callV F K E Pr hT (c_BLB_checkLot l hfl hw) (tw_gV tq_499 tq_500 tq_501 tq_473 tq_502) hg1 q_BLB_checkLot rfl ⟨by decide, by decide⟩ ⟨rm_l hc0 he1, rm_l hn0 he2⟩ rfl (Nat.le_of_ble_eq_true rfl) d_BLB_burden_6 (fun ov T_7 hw hT => ?_)
    obtain ⟨rfl, hw⟩ := hw
    have hc0 := rm_c hc0 he1
    have hn0 := rm_c hn0 he2
    refine j_iload_n F 2 d_BLB_burden_9 rfl ?_
    obtain ⟨mc_15, ms_16, mc_17, ms_18, ⟨he1, he2⟩, hw⟩ := hw
    refine e_callS F K E Pr hT (c_BLB_checkPlace l hfl hw) (tw_gS tq_578 tq_579 tq_473 tq_580) q_BLB_checkPlace rfl ⟨by decide, by decide⟩ ⟨rm_l hc0 he1, rm_l hn0 he2⟩ rfl (Nat.le_of_ble_eq_true rfl) d_BLB_burden_10 (fun ov T_13 hw hT => ?_)
    obtain ⟨rfl, hw⟩ := hw
    have hc0 := rm_c hc0 he1
    have hn0 := rm_c hn0 he2
    refine j_iload_n F 3 d_BLB_burden_13 rfl ?_
    refine j_iload F 4 d_BLB_burden_14 rfl ?_
    obtain ⟨mc_21, ms_22, mc_23, ms_24, ⟨he1, he2⟩, hw⟩ := hw
    refine e_callS F K E Pr hT (c_BLB_checkAsOf l hfl hw) (tw_gS tq_572 tq_573 tq_473 tq_574) q_BLB_checkAsOf rfl ⟨by decide, by decide⟩ ⟨rm_l hc0 he1, rm_l hn0 he2⟩ rfl (Nat.le_of_ble_eq_true rfl) d_BLB_burden_16 (fun ov T_19 hw hT => ?_)
    obtain ⟨rfl, hw⟩ := hw
    have hc0 := rm_c hc0 he1
    have hn0 := rm_c hn0 he2
    refine j_aload_n F 0 d_BLB_burden_19 rfl ?_
    obtain ⟨hc1, q_25, hc2, hw⟩ := hw
    refine c_getr F K hT 1 4 rfl tu_LandBook (by decide) (by decide) rfl tq_441 (Or.inl rfl) hc1 hc2 d_BLB_burden_20 ?_
    refine j_iload_n F 1 d_BLB_burden_23 rfl ?_
    refine j_iload_n F 3 d_BLB_burden_24 rfl ?_
    refine j_iload F 4 d_BLB_burden_25 rfl ?_
    obtain ⟨hg1, hw⟩ := hw
    refine c_callVi F K hT (c_BRg_isInBeing l hw) (tw_gV tq_575 tq_367 tq_368 tq_336 tq_369) 5 rfl (by decide) hg1 q_BRg_isInBeing rfl ⟨by decide, by decide⟩ ⟨rm_z hc0, rm_z hn0⟩ rfl (Nat.le_of_ble_eq_true rfl) d_BLB_burden_27 (fun r_27 T_26 hw hT => ?_)
    obtain ⟨hc1, hwt, hwf⟩ := hw
    refine j_if_ne F 35 hc1 d_BLB_burden_30 rfl (fun hh => ?_) (fun hh => ?_)
    · have hw := hwt hh
      refine j_iconst F d_BLB_burden_35 ?_
      refine j_istore F [(5, vi 0), (0, .ref v0), (1, vi v1), (2, vi v2), (3, vi v3), (4, vi v4)] d_BLB_burden_36 (by decide) rfl ?_
      refine j_iconst F d_BLB_burden_38 ?_
      refine j_istore F [(6, vi 1), (5, vi 0), (0, .ref v0), (1, vi v1), (2, vi v2), (3, vi v3), (4, vi v4)] d_BLB_burden_39 (by decide) rfl ?_
      refine j_sub [2, 3, 4, 5, 6, 1, 0] rfl ?_
      obtain ⟨nn, hw⟩ := hw
      exact B41 nn _ _ _ _ _ _ _ _ _ _ _ _ hc0 hn0 hT hw
    · have hw := hwf hh
      refine j_iconst F d_BLB_burden_33 ?_
      exact hri _ _ _ _ _ _ rfl ⟨_, rfl, hw⟩ hT (rm_y hc0) (rm_y hn0) d_BLB_burden_34
  exact key mc ms 0 0 rfl rfl rfl rfl (Nat.zero_add _) (Nat.zero_add _)
