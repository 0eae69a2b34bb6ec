abbrev y_Mo_isUp : MethodName := ⟨"LandBookModel", "isUp", "()Z"⟩
theorem q_Mo_isUp : y_Mo_isUp.cls = "LandBookModel" ∧ y_Mo_isUp.cls ≠ "java/lang/invoke/MethodHandle" ∧ y_Mo_isUp.cls ≠ "java/lang/invoke/VarHandle" ∧ (parseMethodDescriptor y_Mo_isUp.desc).map (fun d => d.parameters.length) = some 0 := by decide +kernel
theorem d_Mo_isUp_0 : decode prog_13_method_39_code 0 = .ok (.aload_n 0, 1) := by decide +kernel
theorem d_Mo_isUp_1 : decode prog_13_method_39_code 1 = .ok (.getfield 152, 3) := by decide +kernel
theorem d_Mo_isUp_4 : decode prog_13_method_39_code 4 = .ok (.ifCond .eq 14, 3) := by decide +kernel
theorem d_Mo_isUp_18 : decode prog_13_method_39_code 18 = .ok (.iconst 0, 1) := by decide +kernel
theorem d_Mo_isUp_19 : decode prog_13_method_39_code 19 = .ok (.ireturn, 1) := by decide +kernel
theorem d_Mo_isUp_7 : decode prog_13_method_39_code 7 = .ok (.aload_n 0, 1) := by decide +kernel
theorem d_Mo_isUp_8 : decode prog_13_method_39_code 8 = .ok (.getfield 156, 3) := by decide +kernel
theorem d_Mo_isUp_11 : decode prog_13_method_39_code 11 = .ok (.ifCond .ne 7, 3) := by decide +kernel
theorem d_Mo_isUp_14 : decode prog_13_method_39_code 14 = .ok (.iconst 1, 1) := by decide +kernel
theorem d_Mo_isUp_15 : decode prog_13_method_39_code 15 = .ok (.goto 4, 3) := by decide +kernel
def wp_Mo_isUp (post : Int → MS → Prop)  (S : MS) : Prop := inR (S.1 1) ∧ ((S.1 1) = 0 → post 0 S) ∧ (¬ ((S.1 1) = 0) → (inR (S.1 2) ∧ (¬ ((S.1 2) = 0) → post 0 S) ∧ ((S.1 2) = 0 → post 1 S)))
set_option maxHeartbeats 4000000 in
set_option maxRecDepth 100000 in
theorem c_Mo_isUp (l : Launch) {D : va_G} {h : Nat} {ad : Nat → Nat} {kc : Nat → ClassId} {post : Int → MS → Prop}  {S : MS} (hw : wp_Mo_isUp post  S) : jMi l D h ad kc y_Mo_isUp prog_13_method_39_code 1 (some .boolean) 0 0 S [] post := by
  refine j_moz (own := "LandBookModel") (by decide) rfl (Nat.le_of_ble_eq_true rfl) (fun X F K hret => ?_)
  unfold wp_Mo_isUp at hw
  show jat l D X 1 0 [(0, .ref h)] [] (mw h ad kc S) 0 0
  refine j_aload_n F 0 d_Mo_isUp_0 rfl ?_
  refine m_geti F K 1 (by decide) rfl tj_143 rfl d_Mo_isUp_1 ?_
  obtain ⟨hc1, hwt, hwf⟩ := hw
  refine j_if_eq F 18 hc1 d_Mo_isUp_4 rfl (fun hh => ?_) (fun hh => ?_)
  · have hw := hwt hh
    refine j_iconst F d_Mo_isUp_18 ?_
    exact hret _ _ _ _ hw (Or.inl rfl) d_Mo_isUp_19
  · have hw := hwf hh
    refine j_aload_n F 0 d_Mo_isUp_7 rfl ?_
    refine m_geti F K 2 (by decide) rfl tj_144 rfl d_Mo_isUp_8 ?_
    obtain ⟨hc1, hwt, hwf⟩ := hw
    refine j_if_ne F 18 hc1 d_Mo_isUp_11 rfl (fun hh => ?_) (fun hh => ?_)
    · have hw := hwt hh
      refine j_iconst F d_Mo_isUp_18 ?_
      exact hret _ _ _ _ hw (Or.inl rfl) d_Mo_isUp_19
    · have hw := hwf hh
      refine j_iconst F d_Mo_isUp_14 ?_
      refine j_goto F 19 d_Mo_isUp_15 rfl ?_
      exact hret _ _ _ _ hw (Or.inr rfl) d_Mo_isUp_19
theorem tj_218 : (Jvm.Cond.methodLink "LandBookModel" (214 : Nat) ({ cls := "LandBookModel", name := "overlap", desc := "(IIIIIIII)Z" } : Jvm.MethodName)) ∈ tw_G := tw_in (List.mem_of_getElem? (i := 1302) (by decide +kernel)) rfl
theorem tj_219 : (Jvm.Cond.static ({ cls := "LandBookModel", name := "overlap", desc := "(IIIIIIII)Z" } : Jvm.MethodName)) ∈ tw_G := tw_in (List.mem_of_getElem? (i := 1303) (by decide +kernel)) rfl
theorem tj_220 : (Jvm.Cond.code ({ cls := "LandBookModel", name := "overlap", desc := "(IIIIIIII)Z" } : Jvm.MethodName) prog_13_method_41_code (15 : Nat) (Option.some Jvm.ClassFile.FieldType.boolean)) ∈ tw_G := tw_in (List.mem_of_getElem? (i := 1304) (by decide +kernel)) rfl
abbrev y_Mo_touches : MethodName := ⟨"LandBookModel", "touches", "(II)Z"⟩
theorem q_Mo_touches : y_Mo_touches.cls = "LandBookModel" ∧ y_Mo_touches.cls ≠ "java/lang/invoke/MethodHandle" ∧ y_Mo_touches.cls ≠ "java/lang/invoke/VarHandle" ∧ (parseMethodDescriptor y_Mo_touches.desc).map (fun d => d.parameters.length) = some 2 := by decide +kernel
theorem d_Mo_touches_0 : decode prog_13_method_40_code 0 = .ok (.iconst 0, 1) := by decide +kernel
theorem d_Mo_touches_1 : decode prog_13_method_40_code 1 = .ok (.istore_n 3, 1) := by decide +kernel
theorem d_Mo_touches_2 : decode prog_13_method_40_code 2 = .ok (.aload_n 0, 1) := by decide +kernel
theorem d_Mo_touches_3 : decode prog_13_method_40_code 3 = .ok (.getfield 106, 3) := by decide +kernel
theorem d_Mo_touches_6 : decode prog_13_method_40_code 6 = .ok (.iconst 1, 1) := by decide +kernel
theorem d_Mo_touches_7 : decode prog_13_method_40_code 7 = .ok (.isub, 1) := by decide +kernel
theorem d_Mo_touches_8 : decode prog_13_method_40_code 8 = .ok (.istore 4, 2) := by decide +kernel
theorem d_Mo_touches_10 : decode prog_13_method_40_code 10 = .ok (.aload_n 0, 1) := by decide +kernel
theorem d_Mo_touches_11 : decode prog_13_method_40_code 11 = .ok (.getfield 7, 3) := by decide +kernel
theorem d_Mo_touches_14 : decode prog_13_method_40_code 14 = .ok (.iload_n 2, 1) := by decide +kernel
theorem d_Mo_touches_15 : decode prog_13_method_40_code 15 = .ok (.iaload, 1) := by decide +kernel
theorem d_Mo_touches_16 : decode prog_13_method_40_code 16 = .ok (.istore 5, 2) := by decide +kernel
theorem d_Mo_touches_18 : decode prog_13_method_40_code 18 = .ok (.aload_n 0, 1) := by decide +kernel
theorem d_Mo_touches_19 : decode prog_13_method_40_code 19 = .ok (.getfield 13, 3) := by decide +kernel
theorem d_Mo_touches_22 : decode prog_13_method_40_code 22 = .ok (.iload_n 2, 1) := by decide +kernel
theorem d_Mo_touches_23 : decode prog_13_method_40_code 23 = .ok (.iaload, 1) := by decide +kernel
theorem d_Mo_touches_24 : decode prog_13_method_40_code 24 = .ok (.istore 6, 2) := by decide +kernel
theorem d_Mo_touches_26 : decode prog_13_method_40_code 26 = .ok (.aload_n 0, 1) := by decide +kernel
theorem d_Mo_touches_27 : decode prog_13_method_40_code 27 = .ok (.getfield 7, 3) := by decide +kernel
theorem d_Mo_touches_30 : decode prog_13_method_40_code 30 = .ok (.iload_n 2, 1) := by decide +kernel
theorem d_Mo_touches_31 : decode prog_13_method_40_code 31 = .ok (.iconst 1, 1) := by decide +kernel
theorem d_Mo_touches_32 : decode prog_13_method_40_code 32 = .ok (.iadd, 1) := by decide +kernel
theorem d_Mo_touches_33 : decode prog_13_method_40_code 33 = .ok (.iaload, 1) := by decide +kernel
theorem d_Mo_touches_34 : decode prog_13_method_40_code 34 = .ok (.istore 7, 2) := by decide +kernel
theorem d_Mo_touches_36 : decode prog_13_method_40_code 36 = .ok (.aload_n 0, 1) := by decide +kernel
theorem d_Mo_touches_37 : decode prog_13_method_40_code 37 = .ok (.getfield 13, 3) := by decide +kernel
theorem d_Mo_touches_40 : decode prog_13_method_40_code 40 = .ok (.iload_n 2, 1) := by decide +kernel
theorem d_Mo_touches_41 : decode prog_13_method_40_code 41 = .ok (.iconst 1, 1) := by decide +kernel
theorem d_Mo_touches_42 : decode prog_13_method_40_code 42 = .ok (.iadd, 1) := by decide +kernel
theorem d_Mo_touches_43 : decode prog_13_method_40_code 43 = .ok (.iaload, 1) := by decide +kernel
theorem d_Mo_touches_44 : decode prog_13_method_40_code 44 = .ok (.istore 8, 2) := by decide +kernel
theorem d_Mo_touches_46 : decode prog_13_method_40_code 46 = .ok (.iconst 0, 1) := by decide +kernel
theorem d_Mo_touches_47 : decode prog_13_method_40_code 47 = .ok (.istore 9, 2) := by decide +kernel
theorem d_Mo_touches_49 : decode prog_13_method_40_code 49 = .ok (.iload 9, 2) := by decide +kernel
theorem d_Mo_touches_51 : decode prog_13_method_40_code 51 = .ok (.aload_n 0, 1) := by decide +kernel
theorem d_Mo_touches_52 : decode prog_13_method_40_code 52 = .ok (.getfield 22, 3) := by decide +kernel
theorem d_Mo_touches_55 : decode prog_13_method_40_code 55 = .ok (.iload_n 1, 1) := by decide +kernel
theorem d_Mo_touches_56 : decode prog_13_method_40_code 56 = .ok (.iaload, 1) := by decide +kernel
theorem d_Mo_touches_57 : decode prog_13_method_40_code 57 = .ok (.if_icmp .ge 235, 3) := by decide +kernel
theorem d_Mo_touches_292 : decode prog_13_method_40_code 292 = .ok (.iload_n 3, 1) := by decide +kernel
theorem d_Mo_touches_293 : decode prog_13_method_40_code 293 = .ok (.ireturn, 1) := by decide +kernel
theorem d_Mo_touches_60 : decode prog_13_method_40_code 60 = .ok (.aload_n 0, 1) := by decide +kernel
theorem d_Mo_touches_61 : decode prog_13_method_40_code 61 = .ok (.iload_n 1, 1) := by decide +kernel
theorem d_Mo_touches_62 : decode prog_13_method_40_code 62 = .ok (.iload 9, 2) := by decide +kernel
theorem d_Mo_touches_64 : decode prog_13_method_40_code 64 = .ok (.invokevirtual 143, 3) := by decide +kernel
theorem d_Mo_touches_67 : decode prog_13_method_40_code 67 = .ok (.istore 10, 2) := by decide +kernel
theorem d_Mo_touches_69 : decode prog_13_method_40_code 69 = .ok (.aload_n 0, 1) := by decide +kernel
theorem d_Mo_touches_70 : decode prog_13_method_40_code 70 = .ok (.iload_n 1, 1) := by decide +kernel
theorem d_Mo_touches_71 : decode prog_13_method_40_code 71 = .ok (.iload 9, 2) := by decide +kernel
theorem d_Mo_touches_73 : decode prog_13_method_40_code 73 = .ok (.invokevirtual 147, 3) := by decide +kernel
theorem d_Mo_touches_76 : decode prog_13_method_40_code 76 = .ok (.istore 11, 2) := by decide +kernel
theorem d_Mo_touches_78 : decode prog_13_method_40_code 78 = .ok (.aload_n 0, 1) := by decide +kernel
theorem d_Mo_touches_79 : decode prog_13_method_40_code 79 = .ok (.iload_n 1, 1) := by decide +kernel
theorem d_Mo_touches_80 : decode prog_13_method_40_code 80 = .ok (.iload 9, 2) := by decide +kernel
theorem d_Mo_touches_82 : decode prog_13_method_40_code 82 = .ok (.iconst 1, 1) := by decide +kernel
theorem d_Mo_touches_83 : decode prog_13_method_40_code 83 = .ok (.iadd, 1) := by decide +kernel
theorem d_Mo_touches_84 : decode prog_13_method_40_code 84 = .ok (.invokevirtual 143, 3) := by decide +kernel
theorem d_Mo_touches_87 : decode prog_13_method_40_code 87 = .ok (.istore 12, 2) := by decide +kernel
theorem d_Mo_touches_89 : decode prog_13_method_40_code 89 = .ok (.aload_n 0, 1) := by decide +kernel
theorem d_Mo_touches_90 : decode prog_13_method_40_code 90 = .ok (.iload_n 1, 1) := by decide +kernel
theorem d_Mo_touches_91 : decode prog_13_method_40_code 91 = .ok (.iload 9, 2) := by decide +kernel
theorem d_Mo_touches_93 : decode prog_13_method_40_code 93 = .ok (.iconst 1, 1) := by decide +kernel
theorem d_Mo_touches_94 : decode prog_13_method_40_code 94 = .ok (.iadd, 1) := by decide +kernel
theorem d_Mo_touches_95 : decode prog_13_method_40_code 95 = .ok (.invokevirtual 147, 3) := by decide +kernel
theorem d_Mo_touches_98 : decode prog_13_method_40_code 98 = .ok (.istore 13, 2) := by decide +kernel
theorem d_Mo_touches_100 : decode prog_13_method_40_code 100 = .ok (.iload 5, 2) := by decide +kernel
theorem d_Mo_touches_102 : decode prog_13_method_40_code 102 = .ok (.iload 6, 2) := by decide +kernel
theorem d_Mo_touches_104 : decode prog_13_method_40_code 104 = .ok (.iload 7, 2) := by decide +kernel
theorem d_Mo_touches_106 : decode prog_13_method_40_code 106 = .ok (.iload 8, 2) := by decide +kernel
theorem d_Mo_touches_108 : decode prog_13_method_40_code 108 = .ok (.iload 10, 2) := by decide +kernel
theorem d_Mo_touches_110 : decode prog_13_method_40_code 110 = .ok (.iload 11, 2) := by decide +kernel
theorem d_Mo_touches_112 : decode prog_13_method_40_code 112 = .ok (.iload 12, 2) := by decide +kernel
theorem d_Mo_touches_114 : decode prog_13_method_40_code 114 = .ok (.iload 13, 2) := by decide +kernel
theorem d_Mo_touches_116 : decode prog_13_method_40_code 116 = .ok (.invokestatic 128, 3) := by decide +kernel
theorem d_Mo_touches_119 : decode prog_13_method_40_code 119 = .ok (.ifCond .eq 167, 3) := by decide +kernel
theorem d_Mo_touches_122 : decode prog_13_method_40_code 122 = .ok (.iload_n 2, 1) := by decide +kernel
theorem d_Mo_touches_123 : decode prog_13_method_40_code 123 = .ok (.ifCond .ne 25, 3) := by decide +kernel
theorem d_Mo_touches_148 : decode prog_13_method_40_code 148 = .ok (.iconst 0, 1) := by decide +kernel
theorem d_Mo_touches_126 : decode prog_13_method_40_code 126 = .ok (.iload 10, 2) := by decide +kernel
theorem d_Mo_touches_128 : decode prog_13_method_40_code 128 = .ok (.iload 11, 2) := by decide +kernel
theorem d_Mo_touches_130 : decode prog_13_method_40_code 130 = .ok (.iload 12, 2) := by decide +kernel
theorem d_Mo_touches_132 : decode prog_13_method_40_code 132 = .ok (.iload 13, 2) := by decide +kernel
theorem d_Mo_touches_134 : decode prog_13_method_40_code 134 = .ok (.iload 5, 2) := by decide +kernel
theorem d_Mo_touches_136 : decode prog_13_method_40_code 136 = .ok (.iload 6, 2) := by decide +kernel
theorem d_Mo_touches_138 : decode prog_13_method_40_code 138 = .ok (.invokestatic 121, 3) := by decide +kernel
theorem d_Mo_touches_141 : decode prog_13_method_40_code 141 = .ok (.ifCond .eq 7, 3) := by decide +kernel
theorem d_Mo_touches_144 : decode prog_13_method_40_code 144 = .ok (.iconst 1, 1) := by decide +kernel
theorem d_Mo_touches_145 : decode prog_13_method_40_code 145 = .ok (.goto 4, 3) := by decide +kernel
theorem d_Mo_touches_286 : decode prog_13_method_40_code 286 = .ok (.iinc 9 1, 3) := by decide +kernel
theorem d_Mo_touches_289 : decode prog_13_method_40_code 289 = .ok (.goto (-240), 3) := by decide +kernel
theorem d_Mo_touches_149 : decode prog_13_method_40_code 149 = .ok (.istore 14, 2) := by decide +kernel
theorem d_Mo_touches_151 : decode prog_13_method_40_code 151 = .ok (.iload_n 2, 1) := by decide +kernel
theorem d_Mo_touches_152 : decode prog_13_method_40_code 152 = .ok (.iload 4, 2) := by decide +kernel
theorem d_Mo_touches_154 : decode prog_13_method_40_code 154 = .ok (.iconst 1, 1) := by decide +kernel
theorem d_Mo_touches_155 : decode prog_13_method_40_code 155 = .ok (.isub, 1) := by decide +kernel
theorem d_Mo_touches_156 : decode prog_13_method_40_code 156 = .ok (.if_icmp .ne 25, 3) := by decide +kernel
theorem d_Mo_touches_181 : decode prog_13_method_40_code 181 = .ok (.iconst 0, 1) := by decide +kernel
theorem d_Mo_touches_159 : decode prog_13_method_40_code 159 = .ok (.iload 10, 2) := by decide +kernel
theorem d_Mo_touches_161 : decode prog_13_method_40_code 161 = .ok (.iload 11, 2) := by decide +kernel
theorem d_Mo_touches_163 : decode prog_13_method_40_code 163 = .ok (.iload 12, 2) := by decide +kernel
theorem d_Mo_touches_165 : decode prog_13_method_40_code 165 = .ok (.iload 13, 2) := by decide +kernel
theorem d_Mo_touches_167 : decode prog_13_method_40_code 167 = .ok (.iload 7, 2) := by decide +kernel
theorem d_Mo_touches_169 : decode prog_13_method_40_code 169 = .ok (.iload 8, 2) := by decide +kernel
theorem d_Mo_touches_171 : decode prog_13_method_40_code 171 = .ok (.invokestatic 121, 3) := by decide +kernel
theorem d_Mo_touches_174 : decode prog_13_method_40_code 174 = .ok (.ifCond .eq 7, 3) := by decide +kernel
theorem d_Mo_touches_177 : decode prog_13_method_40_code 177 = .ok (.iconst 1, 1) := by decide +kernel
theorem d_Mo_touches_178 : decode prog_13_method_40_code 178 = .ok (.goto 4, 3) := by decide +kernel
theorem d_Mo_touches_182 : decode prog_13_method_40_code 182 = .ok (.istore 15, 2) := by decide +kernel
theorem d_Mo_touches_184 : decode prog_13_method_40_code 184 = .ok (.iload 5, 2) := by decide +kernel
theorem d_Mo_touches_186 : decode prog_13_method_40_code 186 = .ok (.iload 6, 2) := by decide +kernel
theorem d_Mo_touches_188 : decode prog_13_method_40_code 188 = .ok (.iload 7, 2) := by decide +kernel
theorem d_Mo_touches_190 : decode prog_13_method_40_code 190 = .ok (.iload 8, 2) := by decide +kernel
theorem d_Mo_touches_192 : decode prog_13_method_40_code 192 = .ok (.iload 10, 2) := by decide +kernel
theorem d_Mo_touches_194 : decode prog_13_method_40_code 194 = .ok (.iload 11, 2) := by decide +kernel
theorem d_Mo_touches_196 : decode prog_13_method_40_code 196 = .ok (.invokestatic 109, 3) := by decide +kernel
theorem d_Mo_touches_199 : decode prog_13_method_40_code 199 = .ok (.ifCond .ne 25, 3) := by decide +kernel
theorem d_Mo_touches_224 : decode prog_13_method_40_code 224 = .ok (.iconst 0, 1) := by decide +kernel
theorem d_Mo_touches_202 : decode prog_13_method_40_code 202 = .ok (.iload 5, 2) := by decide +kernel
theorem d_Mo_touches_204 : decode prog_13_method_40_code 204 = .ok (.iload 6, 2) := by decide +kernel
theorem d_Mo_touches_206 : decode prog_13_method_40_code 206 = .ok (.iload 7, 2) := by decide +kernel
theorem d_Mo_touches_208 : decode prog_13_method_40_code 208 = .ok (.iload 8, 2) := by decide +kernel
theorem d_Mo_touches_210 : decode prog_13_method_40_code 210 = .ok (.iload 12, 2) := by decide +kernel
theorem d_Mo_touches_212 : decode prog_13_method_40_code 212 = .ok (.iload 13, 2) := by decide +kernel
theorem d_Mo_touches_214 : decode prog_13_method_40_code 214 = .ok (.invokestatic 109, 3) := by decide +kernel
theorem d_Mo_touches_217 : decode prog_13_method_40_code 217 = .ok (.ifCond .ne 7, 3) := by decide +kernel
theorem d_Mo_touches_220 : decode prog_13_method_40_code 220 = .ok (.iconst 1, 1) := by decide +kernel
theorem d_Mo_touches_221 : decode prog_13_method_40_code 221 = .ok (.goto 4, 3) := by decide +kernel
theorem d_Mo_touches_225 : decode prog_13_method_40_code 225 = .ok (.istore 16, 2) := by decide +kernel
theorem d_Mo_touches_227 : decode prog_13_method_40_code 227 = .ok (.iload 16, 2) := by decide +kernel
theorem d_Mo_touches_229 : decode prog_13_method_40_code 229 = .ok (.ifCond .eq 29, 3) := by decide +kernel
theorem d_Mo_touches_258 : decode prog_13_method_40_code 258 = .ok (.iconst 0, 1) := by decide +kernel
theorem d_Mo_touches_232 : decode prog_13_method_40_code 232 = .ok (.iload 5, 2) := by decide +kernel
theorem d_Mo_touches_234 : decode prog_13_method_40_code 234 = .ok (.iload 6, 2) := by decide +kernel
theorem d_Mo_touches_236 : decode prog_13_method_40_code 236 = .ok (.iload 7, 2) := by decide +kernel
theorem d_Mo_touches_238 : decode prog_13_method_40_code 238 = .ok (.iload 8, 2) := by decide +kernel
theorem d_Mo_touches_240 : decode prog_13_method_40_code 240 = .ok (.iload 10, 2) := by decide +kernel
theorem d_Mo_touches_242 : decode prog_13_method_40_code 242 = .ok (.iload 11, 2) := by decide +kernel
theorem d_Mo_touches_244 : decode prog_13_method_40_code 244 = .ok (.iload 12, 2) := by decide +kernel
theorem d_Mo_touches_246 : decode prog_13_method_40_code 246 = .ok (.iload 13, 2) := by decide +kernel
theorem d_Mo_touches_248 : decode prog_13_method_40_code 248 = .ok (.invokestatic 214, 3) := by decide +kernel
theorem d_Mo_touches_251 : decode prog_13_method_40_code 251 = .ok (.ifCond .eq 7, 3) := by decide +kernel
theorem d_Mo_touches_254 : decode prog_13_method_40_code 254 = .ok (.iconst 1, 1) := by decide +kernel
theorem d_Mo_touches_255 : decode prog_13_method_40_code 255 = .ok (.goto 4, 3) := by decide +kernel
theorem d_Mo_touches_259 : decode prog_13_method_40_code 259 = .ok (.istore 17, 2) := by decide +kernel
theorem d_Mo_touches_261 : decode prog_13_method_40_code 261 = .ok (.iload_n 3, 1) := by decide +kernel
theorem d_Mo_touches_262 : decode prog_13_method_40_code 262 = .ok (.ifCond .ne 18, 3) := by decide +kernel
theorem d_Mo_touches_280 : decode prog_13_method_40_code 280 = .ok (.iconst 1, 1) := by decide +kernel
theorem d_Mo_touches_281 : decode prog_13_method_40_code 281 = .ok (.goto 4, 3) := by decide +kernel
theorem d_Mo_touches_265 : decode prog_13_method_40_code 265 = .ok (.iload 17, 2) := by decide +kernel
theorem d_Mo_touches_267 : decode prog_13_method_40_code 267 = .ok (.ifCond .ne 13, 3) := by decide +kernel
theorem d_Mo_touches_270 : decode prog_13_method_40_code 270 = .ok (.iload 14, 2) := by decide +kernel
theorem d_Mo_touches_272 : decode prog_13_method_40_code 272 = .ok (.ifCond .ne 12, 3) := by decide +kernel
theorem d_Mo_touches_284 : decode prog_13_method_40_code 284 = .ok (.iconst 0, 1) := by decide +kernel
theorem d_Mo_touches_275 : decode prog_13_method_40_code 275 = .ok (.iload 15, 2) := by decide +kernel
theorem d_Mo_touches_277 : decode prog_13_method_40_code 277 = .ok (.ifCond .ne 7, 3) := by decide +kernel
theorem d_Mo_touches_285 : decode prog_13_method_40_code 285 = .ok (.istore_n 3, 1) := by decide +kernel
def wp_Mo_touches_286 (post : Int → MS → Prop) (k49 : Int → Int → Int → Int → Int → Int → Int → Int → Int → MS → Prop) (v1 : Int) (v2 : Int) (v3 : Int) (v4 : Int) (v5 : Int) (v6 : Int) (v7 : Int) (v8 : Int) (v9 : Int) (S : MS) : Prop := k49 v1 v2 v3 v4 v5 v6 v7 v8 (v9 + 1) S
def wp_Mo_touches_285 (post : Int → MS → Prop) (k49 : Int → Int → Int → Int → Int → Int → Int → Int → Int → MS → Prop) (v1 : Int) (v2 : Int) (v4 : Int) (v5 : Int) (v6 : Int) (v7 : Int) (v8 : Int) (v9 : Int) (s0 : Int) (S : MS) : Prop := wp_Mo_touches_286 post k49 v1 v2 s0 v4 v5 v6 v7 v8 v9 S
def wp_Mo_touches_259 (post : Int → MS → Prop) (k49 : Int → Int → Int → Int → Int → Int → Int → Int → Int → MS → Prop) (v1 : Int) (v2 : Int) (v3 : Int) (v4 : Int) (v5 : Int) (v6 : Int) (v7 : Int) (v8 : Int) (v9 : Int) (v14 : Int) (v15 : Int) (s0 : Int) (S : MS) : Prop := inR v3 ∧ (¬ (v3 = 0) → wp_Mo_touches_285 post k49 v1 v2 v4 v5 v6 v7 v8 v9 1 S) ∧ (v3 = 0 → (inR s0 ∧ (¬ (s0 = 0) → wp_Mo_touches_285 post k49 v1 v2 v4 v5 v6 v7 v8 v9 1 S) ∧ (s0 = 0 → (inR v14 ∧ (¬ (v14 = 0) → wp_Mo_touches_285 post k49 v1 v2 v4 v5 v6 v7 v8 v9 0 S) ∧ (v14 = 0 → (inR v15 ∧ (¬ (v15 = 0) → wp_Mo_touches_285 post k49 v1 v2 v4 v5 v6 v7 v8 v9 0 S) ∧ (v15 = 0 → wp_Mo_touches_285 post k49 v1 v2 v4 v5 v6 v7 v8 v9 1 S)))))))
def wp_Mo_touches_225 (post : Int → MS → Prop) (k49 : Int → Int → Int → Int → Int → Int → Int → Int → Int → MS → Prop) (v1 : Int) (v2 : Int) (v3 : Int) (v4 : Int) (v5 : Int) (v6 : Int) (v7 : Int) (v8 : Int) (v9 : Int) (v10 : Int) (v11 : Int) (v12 : Int) (v13 : Int) (v14 : Int) (v15 : Int) (s0 : Int) (S : MS) : Prop := inR s0 ∧ (s0 = 0 → wp_Mo_touches_259 post k49 v1 v2 v3 v4 v5 v6 v7 v8 v9 v14 v15 0 S) ∧ (¬ (s0 = 0) → (wp_Mo_overlap (fun r_1 => inR r_1 ∧ (r_1 = 0 → wp_Mo_touches_259 post k49 v1 v2 v3 v4 v5 v6 v7 v8 v9 v14 v15 0 S) ∧ (¬ (r_1 = 0) → wp_Mo_touches_259 post k49 v1 v2 v3 v4 v5 v6 v7 v8 v9 v14 v15 1 S)) v5 v6 v7 v8 v10 v11 v12 v13))
def wp_Mo_touches_182 (post : Int → MS → Prop) (k49 : Int → Int → Int → Int → Int → Int → Int → Int → Int → MS → Prop) (v1 : Int) (v2 : Int) (v3 : Int) (v4 : Int) (v5 : Int) (v6 : Int) (v7 : Int) (v8 : Int) (v9 : Int) (v10 : Int) (v11 : Int) (v12 : Int) (v13 : Int) (v14 : Int) (s0 : Int) (S : MS) : Prop := wp_Mo_turn (fun r_1 => inR r_1 ∧ (¬ (r_1 = 0) → wp_Mo_touches_225 post k49 v1 v2 v3 v4 v5 v6 v7 v8 v9 v10 v11 v12 v13 v14 s0 0 S) ∧ (r_1 = 0 → (wp_Mo_turn (fun r_2 => inR r_2 ∧ (¬ (r_2 = 0) → wp_Mo_touches_225 post k49 v1 v2 v3 v4 v5 v6 v7 v8 v9 v10 v11 v12 v13 v14 s0 0 S) ∧ (r_2 = 0 → wp_Mo_touches_225 post k49 v1 v2 v3 v4 v5 v6 v7 v8 v9 v10 v11 v12 v13 v14 s0 1 S)) v5 v6 v7 v8 v12 v13))) v5 v6 v7 v8 v10 v11
def wp_Mo_touches_149 (post : Int → MS → Prop) (k49 : Int → Int → Int → Int → Int → Int → Int → Int → Int → MS → Prop) (v1 : Int) (v2 : Int) (v3 : Int) (v4 : Int) (v5 : Int) (v6 : Int) (v7 : Int) (v8 : Int) (v9 : Int) (v10 : Int) (v11 : Int) (v12 : Int) (v13 : Int) (s0 : Int) (S : MS) : Prop := inR v2 ∧ inR (v4 - 1) ∧ (¬ (v2 = (v4 - 1)) → wp_Mo_touches_182 post k49 v1 v2 v3 v4 v5 v6 v7 v8 v9 v10 v11 v12 v13 s0 0 S) ∧ (v2 = (v4 - 1) → (wp_Mo_isOn (fun r_1 => inR r_1 ∧ (r_1 = 0 → wp_Mo_touches_182 post k49 v1 v2 v3 v4 v5 v6 v7 v8 v9 v10 v11 v12 v13 s0 0 S) ∧ (¬ (r_1 = 0) → wp_Mo_touches_182 post k49 v1 v2 v3 v4 v5 v6 v7 v8 v9 v10 v11 v12 v13 s0 1 S)) v10 v11 v12 v13 v7 v8))
def wp_Mo_touches_49 (post : Int → MS → Prop) : Nat → Int → Int → Int → Int → Int → Int → Int → Int → Int → MS → Prop
  | 0, _, _, _, _, _, _, _, _, _, _ => False
  | n + 1, v1, v2, v3, v4, v5, v6, v7, v8, v9, S => ixR v1 302 ∧ (inR v9 ∧ inR (S.2 10 v1.toNat) ∧ ((S.2 10 v1.toNat) ≤ v9 → (b01 v3 ∧ post v3 S)) ∧ (¬ ((S.2 10 v1.toNat) ≤ v9) → (wp_Mo_cornerX (fun r_2 S_1 => wp_Mo_cornerY (fun r_4 S_3 => wp_Mo_cornerX (fun r_6 S_5 => wp_Mo_cornerY (fun r_8 S_7 => wp_Mo_meet (fun r_9 => inR r_9 ∧ (r_9 = 0 → wp_Mo_touches_286 post (wp_Mo_touches_49 post n) v1 v2 v3 v4 v5 v6 v7 v8 v9 S_7) ∧ (¬ (r_9 = 0) → (inR v2 ∧ (¬ (v2 = 0) → wp_Mo_touches_149 post (wp_Mo_touches_49 post n) v1 v2 v3 v4 v5 v6 v7 v8 v9 r_2 r_4 r_6 r_8 0 S_7) ∧ (v2 = 0 → (wp_Mo_isOn (fun r_10 => inR r_10 ∧ (r_10 = 0 → wp_Mo_touches_149 post (wp_Mo_touches_49 post n) v1 v2 v3 v4 v5 v6 v7 v8 v9 r_2 r_4 r_6 r_8 0 S_7) ∧ (¬ (r_10 = 0) → wp_Mo_touches_149 post (wp_Mo_touches_49 post n) v1 v2 v3 v4 v5 v6 v7 v8 v9 r_2 r_4 r_6 r_8 1 S_7)) r_2 r_4 r_6 r_8 v5 v6))))) v5 v6 v7 v8 r_2 r_4 r_6 r_8) v1 (v9 + 1) S_5) v1 (v9 + 1) S_3) v1 v9 S_1) v1 v9 S)))
def wp_Mo_touches (post : Int → MS → Prop) (v1 : Int) (v2 : Int) (S : MS) : Prop := ∀ v4_1 : Int, v4_1 = ((S.1 4) - 1) → ixR v2 32 ∧ (∀ v5_2 : Int, v5_2 = (S.2 5 v2.toNat) → ixR v2 32 ∧ (∀ v6_3 : Int, v6_3 = (S.2 6 v2.toNat) → ixR (v2 + 1) 32 ∧ (∀ v7_4 : Int, v7_4 = (S.2 5 (v2 + 1).toNat) → ixR (v2 + 1) 32 ∧ (∀ v8_5 : Int, v8_5 = (S.2 6 (v2 + 1).toNat) → ∃ n0 : Nat, wp_Mo_touches_49 post n0 v1 v2 0 v4_1 v5_2 v6_3 v7_4 v8_5 0 S))))
set_option maxHeartbeats 4000000 in
set_option maxRecDepth 100000 in
theorem c_Mo_touches (l : Launch) {D : va_G} {h : Nat} {ad : Nat → Nat} {kc : Nat → ClassId} {post : Int → MS → Prop} {v1 : Int} {v2 : Int} {S : MS} (hw : wp_Mo_touches post v1 v2 S) : jMi l D h ad kc y_Mo_touches prog_13_method_40_code 18 (some .boolean) 3 82 S [vi v1, vi v2] post := by
  refine j_moz (own := "LandBookModel") (by decide) rfl (Nat.le_of_ble_eq_true rfl) (fun X F K hret => ?_)
  have B49 : ∀ (n0 : Nat) (v1 : Int) (v2 : Int) (v3 : Int) (v4 : Int) (v5 : Int) (v6 : Int) (v7 : Int) (v8 : Int) (v9 : Int) (S : MS), wp_Mo_touches_49 post n0 v1 v2 v3 v4 v5 v6 v7 v8 v9 S → jat l D X 18 49 [(0, .ref h), (1, vi v1), (2, vi v2), (3, vi v3), (4, vi v4), (5, vi v5), (6, vi v6), (7, vi v7), (8, vi v8), (9, vi v9)] [] (mw h ad kc S) 0 0 := by
    intro n0
    induction n0 with
    | zero => intro v1 v2 v3 v4 v5 v6 v7 v8 v9 S hw; exact hw.elim
    | succ n49 ih49 =>
      have B286 : ∀ (v1 : Int) (v2 : Int) (v3 : Int) (v4 : Int) (v5 : Int) (v6 : Int) (v7 : Int) (v8 : Int) (v9 : Int) (S : MS), wp_Mo_touches_286 post (wp_Mo_touches_49 post n49) v1 v2 v3 v4 v5 v6 v7 v8 v9 S → jat l D X 18 286 [(0, .ref h), (1, vi v1), (2, vi v2), (3, vi v3), (4, vi v4), (5, vi v5), (6, vi v6), (7, vi v7), (8, vi v8), (9, vi v9)] [] (mw h ad kc S) 0 0 := by
        intro v1 v2 v3 v4 v5 v6 v7 v8 v9 S hw
        unfold wp_Mo_touches_286 at hw
        refine j_iinc F 9 [(9, vi (v9 + 1)), (0, .ref h), (1, vi v1), (2, vi v2), (3, vi v3), (4, vi v4), (5, vi v5), (6, vi v6), (7, vi v7), (8, vi v8)] d_Mo_touches_286 rfl (by decide) rfl ?_
        refine j_goto F 49 d_Mo_touches_289 rfl ?_
        refine j_sub [1, 2, 3, 4, 5, 6, 7, 8, 9, 0] rfl ?_
        exact ih49 _ _ _ _ _ _ _ _ _ _ hw
      have B285 : ∀ (v1 : Int) (v2 : Int) (v4 : Int) (v5 : Int) (v6 : Int) (v7 : Int) (v8 : Int) (v9 : Int) (s0 : Int) (S : MS), wp_Mo_touches_285 post (wp_Mo_touches_49 post n49) v1 v2 v4 v5 v6 v7 v8 v9 s0 S → jat l D X 18 285 [(0, .ref h), (1, vi v1), (2, vi v2), (4, vi v4), (5, vi v5), (6, vi v6), (7, vi v7), (8, vi v8), (9, vi v9)] [vi s0] (mw h ad kc S) 0 0 := by
        intro v1 v2 v4 v5 v6 v7 v8 v9 s0 S hw
        unfold wp_Mo_touches_285 at hw
        refine j_istore_n F [(3, vi s0), (0, .ref h), (1, vi v1), (2, vi v2), (4, vi v4), (5, vi v5), (6, vi v6), (7, vi v7), (8, vi v8), (9, vi v9)] d_Mo_touches_285 (by decide) rfl ?_
        refine j_sub [1, 2, 3, 0, 4, 5, 6, 7, 8, 9] rfl ?_
        exact B286 _ _ _ _ _ _ _ _ _ _ hw
      have B259 : ∀ (v1 : Int) (v2 : Int) (v3 : Int) (v4 : Int) (v5 : Int) (v6 : Int) (v7 : Int) (v8 : Int) (v9 : Int) (v14 : Int) (v15 : Int) (s0 : Int) (S : MS), wp_Mo_touches_259 post (wp_Mo_touches_49 post n49) v1 v2 v3 v4 v5 v6 v7 v8 v9 v14 v15 s0 S → jat l D X 18 259 [(0, .ref h), (1, vi v1), (2, vi v2), (3, vi v3), (4, vi v4), (5, vi v5), (6, vi v6), (7, vi v7), (8, vi v8), (9, vi v9), (14, vi v14), (15, vi v15)] [vi s0] (mw h ad kc S) 0 0 := by
        intro v1 v2 v3 v4 v5 v6 v7 v8 v9 v14 v15 s0 S hw
        unfold wp_Mo_touches_259 at hw
        refine j_istore F [(17, vi s0), (0, .ref h), (1, vi v1), (2, vi v2), (3, vi v3), (4, vi v4), (5, vi v5), (6, vi v6), (7, vi v7), (8, vi v8), (9, vi v9), (14, vi v14), (15, vi v15)] d_Mo_touches_259 (by decide) rfl ?_
        refine j_iload_n F 4 d_Mo_touches_261 rfl ?_
        obtain ⟨hc1, hwt, hwf⟩ := hw
        refine j_if_ne F 280 hc1 d_Mo_touches_262 rfl (fun hh => ?_) (fun hh => ?_)
        · have hw := hwt hh
          refine j_iconst F d_Mo_touches_280 ?_
          refine j_goto F 285 d_Mo_touches_281 rfl ?_
          refine j_sub [1, 2, 3, 5, 6, 7, 8, 9, 10] rfl ?_
          exact B285 _ _ _ _ _ _ _ _ _ _ hw
        · have hw := hwf hh
          refine j_iload F 0 d_Mo_touches_265 rfl ?_
          obtain ⟨hc1, hwt, hwf⟩ := hw
          refine j_if_ne F 280 hc1 d_Mo_touches_267 rfl (fun hh => ?_) (fun hh => ?_)
          · have hw := hwt hh
            refine j_iconst F d_Mo_touches_280 ?_
            refine j_goto F 285 d_Mo_touches_281 rfl ?_
            refine j_sub [1, 2, 3, 5, 6, 7, 8, 9, 10] rfl ?_
            exact B285 _ _ _ _ _ _ _ _ _ _ hw
          · have hw := hwf hh
            refine j_iload F 11 d_Mo_touches_270 rfl ?_
            obtain ⟨hc1, hwt, hwf⟩ := hw
            refine j_if_ne F 284 hc1 d_Mo_touches_272 rfl (fun hh => ?_) (fun hh => ?_)
            · have hw := hwt hh
              refine j_iconst F d_Mo_touches_284 ?_
              refine j_sub [1, 2, 3, 5, 6, 7, 8, 9, 10] rfl ?_
              exact B285 _ _ _ _ _ _ _ _ _ _ hw
            · have hw := hwf hh
              refine j_iload F 12 d_Mo_touches_275 rfl ?_
              obtain ⟨hc1, hwt, hwf⟩ := hw
              refine j_if_ne F 284 hc1 d_Mo_touches_277 rfl (fun hh => ?_) (fun hh => ?_)
              · have hw := hwt hh
                refine j_iconst F d_Mo_touches_284 ?_
                refine j_sub [1, 2, 3, 5, 6, 7, 8, 9, 10] rfl ?_
                exact B285 _ _ _ _ _ _ _ _ _ _ hw
              · have hw := hwf hh
                refine j_iconst F d_Mo_touches_280 ?_
                refine j_goto F 285 d_Mo_touches_281 rfl ?_
                refine j_sub [1, 2, 3, 5, 6, 7, 8, 9, 10] rfl ?_
                exact B285 _ _ _ _ _ _ _ _ _ _ hw
      have B225 : ∀ (v1 : Int) (v2 : Int) (v3 : Int) (v4 : Int) (v5 : Int) (v6 : Int) (v7 : Int) (v8 : Int) (v9 : Int) (v10 : Int) (v11 : Int) (v12 : Int) (v13 : Int) (v14 : Int) (v15 : Int) (s0 : Int) (S : MS), wp_Mo_touches_225 post (wp_Mo_touches_49 post n49) v1 v2 v3 v4 v5 v6 v7 v8 v9 v10 v11 v12 v13 v14 v15 s0 S → jat l D X 18 225 [(0, .ref h), (1, vi v1), (2, vi v2), (3, vi v3), (4, vi v4), (5, vi v5), (6, vi v6), (7, vi v7), (8, vi v8), (9, vi v9), (10, vi v10), (11, vi v11), (12, vi v12), (13, vi v13), (14, vi v14), (15, vi v15)] [vi s0] (mw h ad kc S) 0 0 := by
        intro v1 v2 v3 v4 v5 v6 v7 v8 v9 v10 v11 v12 v13 v14 v15 s0 S hw
        unfold wp_Mo_touches_225 at hw
        refine j_istore F [(16, vi s0), (0, .ref h), (1, vi v1), (2, vi v2), (3, vi v3), (4, vi v4), (5, vi v5), (6, vi v6), (7, vi v7), (8, vi v8), (9, vi v9), (10, vi v10), (11, vi v11), (12, vi v12), (13, vi v13), (14, vi v14), (15, vi v15)] d_Mo_touches_225 (by decide) rfl ?_
        refine j_iload F 0 d_Mo_touches_227 rfl ?_
        obtain ⟨hc1, hwt, hwf⟩ := hw
        refine j_if_eq F 258 hc1 d_Mo_touches_229 rfl (fun hh => ?_) (fun hh => ?_)
        · have hw := hwt hh
          refine j_iconst F d_Mo_touches_258 ?_
          refine j_sub [1, 2, 3, 4, 5, 6, 7, 8, 9, 10, 15, 16] rfl ?_
          exact B259 _ _ _ _ _ _ _ _ _ _ _ _ _ hw
        · have hw := hwf hh
          refine j_iload F 6 d_Mo_touches_232 rfl ?_
          refine j_iload F 7 d_Mo_touches_234 rfl ?_
          refine j_iload F 8 d_Mo_touches_236 rfl ?_
          refine j_iload F 9 d_Mo_touches_238 rfl ?_
          refine j_iload F 11 d_Mo_touches_240 rfl ?_
          refine j_iload F 12 d_Mo_touches_242 rfl ?_
          refine j_iload F 13 d_Mo_touches_244 rfl ?_
          refine j_iload F 14 d_Mo_touches_246 rfl ?_
          refine j_callS F (c_Mo_overlap l hw) (tw_gS tj_218 tj_219 tj_87 tj_220) q_Mo_overlap rfl ⟨by decide, by decide⟩ ⟨Nat.zero_le _, Nat.zero_le _⟩ rfl (Nat.le_of_ble_eq_true rfl) d_Mo_touches_248 (fun r_1 hw => ?_)
          obtain ⟨hc1, hwt, hwf⟩ := hw
          refine j_if_eq F 258 hc1 d_Mo_touches_251 rfl (fun hh => ?_) (fun hh => ?_)
          · have hw := hwt hh
            refine j_iconst F d_Mo_touches_258 ?_
            refine j_sub [1, 2, 3, 4, 5, 6, 7, 8, 9, 10, 15, 16] rfl ?_
            exact B259 _ _ _ _ _ _ _ _ _ _ _ _ _ hw
          · have hw := hwf hh
            refine j_iconst F d_Mo_touches_254 ?_
            refine j_goto F 259 d_Mo_touches_255 rfl ?_
            refine j_sub [1, 2, 3, 4, 5, 6, 7, 8, 9, 10, 15, 16] rfl ?_
            exact B259 _ _ _ _ _ _ _ _ _ _ _ _ _ hw
      have B182 : ∀ (v1 : Int) (v2 : Int) (v3 : Int) (v4 : Int) (v5 : Int) (v6 : Int) (v7 : Int) (v8 : Int) (v9 : Int) (v10 : Int) (v11 : Int) (v12 : Int) (v13 : Int) (v14 : Int) (s0 : Int) (S : MS), wp_Mo_touches_182 post (wp_Mo_touches_49 post n49) v1 v2 v3 v4 v5 v6 v7 v8 v9 v10 v11 v12 v13 v14 s0 S → jat l D X 18 182 [(0, .ref h), (1, vi v1), (2, vi v2), (3, vi v3), (4, vi v4), (5, vi v5), (6, vi v6), (7, vi v7), (8, vi v8), (9, vi v9), (10, vi v10), (11, vi v11), (12, vi v12), (13, vi v13), (14, vi v14)] [vi s0] (mw h ad kc S) 0 0 := by
        intro v1 v2 v3 v4 v5 v6 v7 v8 v9 v10 v11 v12 v13 v14 s0 S hw
        unfold wp_Mo_touches_182 at hw
        refine j_istore F [(15, vi s0), (0, .ref h), (1, vi v1), (2, vi v2), (3, vi v3), (4, vi v4), (5, vi v5), (6, vi v6), (7, vi v7), (8, vi v8), (9, vi v9), (10, vi v10), (11, vi v11), (12, vi v12), (13, vi v13), (14, vi v14)] d_Mo_touches_182 (by decide) rfl ?_
        refine j_iload F 6 d_Mo_touches_184 rfl ?_
        refine j_iload F 7 d_Mo_touches_186 rfl ?_
        refine j_iload F 8 d_Mo_touches_188 rfl ?_
        refine j_iload F 9 d_Mo_touches_190 rfl ?_
        refine j_iload F 11 d_Mo_touches_192 rfl ?_
        refine j_iload F 12 d_Mo_touches_194 rfl ?_
        refine j_callS F (c_Mo_turn l hw) (tw_gS tj_85 tj_86 tj_87 tj_88) q_Mo_turn rfl ⟨by decide, by decide⟩ ⟨Nat.zero_le _, Nat.zero_le _⟩ rfl (Nat.le_of_ble_eq_true rfl) d_Mo_touches_196 (fun r_1 hw => ?_)
        obtain ⟨hc1, hwt, hwf⟩ := hw
        refine j_if_ne F 224 hc1 d_Mo_touches_199 rfl (fun hh => ?_) (fun hh => ?_)
        · have hw := hwt hh
          refine j_iconst F d_Mo_touches_224 ?_
          refine j_sub [1, 2, 3, 4, 5, 6, 7, 8, 9, 10, 11, 12, 13, 14, 15, 0] rfl ?_
          exact B225 _ _ _ _ _ _ _ _ _ _ _ _ _ _ _ _ _ hw
        · have hw := hwf hh
          refine j_iload F 6 d_Mo_touches_202 rfl ?_
          refine j_iload F 7 d_Mo_touches_204 rfl ?_
          refine j_iload F 8 d_Mo_touches_206 rfl ?_
          refine j_iload F 9 d_Mo_touches_208 rfl ?_
          refine j_iload F 13 d_Mo_touches_210 rfl ?_
          refine j_iload F 14 d_Mo_touches_212 rfl ?_
          refine j_callS F (c_Mo_turn l hw) (tw_gS tj_85 tj_86 tj_87 tj_88) q_Mo_turn rfl ⟨by decide, by decide⟩ ⟨Nat.zero_le _, Nat.zero_le _⟩ rfl (Nat.le_of_ble_eq_true rfl) d_Mo_touches_214 (fun r_2 hw => ?_)
          obtain ⟨hc1, hwt, hwf⟩ := hw
          refine j_if_ne F 224 hc1 d_Mo_touches_217 rfl (fun hh => ?_) (fun hh => ?_)
          · have hw := hwt hh
            refine j_iconst F d_Mo_touches_224 ?_
            refine j_sub [1, 2, 3, 4, 5, 6, 7, 8, 9, 10, 11, 12, 13, 14, 15, 0] rfl ?_
            exact B225 _ _ _ _ _ _ _ _ _ _ _ _ _ _ _ _ _ hw
          · have hw := hwf hh
            refine j_iconst F d_Mo_touches_220 ?_
            refine j_goto F 225 d_Mo_touches_221 rfl ?_
            refine j_sub [1, 2, 3, 4, 5, 6, 7, 8, 9, 10, 11, 12, 13, 14, 15, 0] rfl ?_
            exact B225 _ _ _ _ _ _ _ _ _ _ _ _ _ _ _ _ _ hw
      have B149 : ∀ (v1 : Int) (v2 : Int) (v3 : Int) (v4 : Int) (v5 : Int) (v6 : Int) (v7 : Int) (v8 : Int) (v9 : Int) (v10 : Int) (v11 : Int) (v12 : Int) (v13 : Int) (s0 : Int) (S : MS), wp_Mo_touches_149 post (wp_Mo_touches_49 post n49) v1 v2 v3 v4 v5 v6 v7 v8 v9 v10 v11 v12 v13 s0 S → jat l D X 18 149 [(0, .ref h), (1, vi v1), (2, vi v2), (3, vi v3), (4, vi v4), (5, vi v5), (6, vi v6), (7, vi v7), (8, vi v8), (9, vi v9), (10, vi v10), (11, vi v11), (12, vi v12), (13, vi v13)] [vi s0] (mw h ad kc S) 0 0 := by
        intro v1 v2 v3 v4 v5 v6 v7 v8 v9 v10 v11 v12 v13 s0 S hw
        unfold wp_Mo_touches_149 at hw
        refine j_istore F [(14, vi s0), (0, .ref h), (1, vi v1), (2, vi v2), (3, vi v3), (4, vi v4), (5, vi v5), (6, vi v6), (7, vi v7), (8, vi v8), (9, vi v9), (10, vi v10), (11, vi v11), (12, vi v12), (13, vi v13)] d_Mo_touches_149 (by decide) rfl ?_
        refine j_iload_n F 3 d_Mo_touches_151 rfl ?_
        refine j_iload F 5 d_Mo_touches_152 rfl ?_
        refine j_iconst F d_Mo_touches_154 ?_
        refine j_isub F d_Mo_touches_155 ?_
        obtain ⟨hc1, hc2, hwt, hwf⟩ := hw
        refine j_icmp_ne F 181 hc1 hc2 d_Mo_touches_156 rfl (fun hh => ?_) (fun hh => ?_)
        · have hw := hwt hh
          refine j_iconst F d_Mo_touches_181 ?_
          refine j_sub [1, 2, 3, 4, 5, 6, 7, 8, 9, 10, 11, 12, 13, 14, 0] rfl ?_
          exact B182 _ _ _ _ _ _ _ _ _ _ _ _ _ _ _ _ hw
        · have hw := hwf hh
          refine j_iload F 11 d_Mo_touches_159 rfl ?_
          refine j_iload F 12 d_Mo_touches_161 rfl ?_
          refine j_iload F 13 d_Mo_touches_163 rfl ?_
          refine j_iload F 14 d_Mo_touches_165 rfl ?_
          refine j_iload F 8 d_Mo_touches_167 rfl ?_
          refine j_iload F 9 d_Mo_touches_169 rfl ?_
          refine j_callS F (c_Mo_isOn l hw) (tw_gS tj_95 tj_96 tj_87 tj_97) q_Mo_isOn rfl ⟨by decide, by decide⟩ ⟨Nat.zero_le _, Nat.zero_le _⟩ rfl (Nat.le_of_ble_eq_true rfl) d_Mo_touches_171 (fun r_1 hw => ?_)
          obtain ⟨hc1, hwt, hwf⟩ := hw
          refine j_if_eq F 181 hc1 d_Mo_touches_174 rfl (fun hh => ?_) (fun hh => ?_)
          · have hw := hwt hh
            refine j_iconst F d_Mo_touches_181 ?_
            refine j_sub [1, 2, 3, 4, 5, 6, 7, 8, 9, 10, 11, 12, 13, 14, 0] rfl ?_
            exact B182 _ _ _ _ _ _ _ _ _ _ _ _ _ _ _ _ hw
          · have hw := hwf hh
            refine j_iconst F d_Mo_touches_177 ?_
            refine j_goto F 182 d_Mo_touches_178 rfl ?_
            refine j_sub [1, 2, 3, 4, 5, 6, 7, 8, 9, 10, 11, 12, 13, 14, 0] rfl ?_
            exact B182 _ _ _ _ _ _ _ _ _ _ _ _ _ _ _ _ hw
      intro v1 v2 v3 v4 v5 v6 v7 v8 v9 S hw
      unfold wp_Mo_touches_49 at hw
      refine j_iload F 9 d_Mo_touches_49 rfl ?_
      refine j_aload_n F 0 d_Mo_touches_51 rfl ?_
      refine m_geta F K 10 (by decide) (by decide) tj_131 rfl d_Mo_touches_52 ?_
      refine j_iload_n F 1 d_Mo_touches_55 rfl ?_
      obtain ⟨hc1, hw⟩ := hw
      refine m_iald F K 10 4 rfl rfl hc1 d_Mo_touches_56 ?_
      obtain ⟨hc1, hc2, hwt, hwf⟩ := hw
      refine j_icmp_ge F 292 hc1 hc2 d_Mo_touches_57 rfl (fun hh => ?_) (fun hh => ?_)
      · have hw := hwt hh
        refine j_iload_n F 3 d_Mo_touches_292 rfl ?_
        exact hret _ _ _ _ hw.2 hw.1 d_Mo_touches_293
      · have hw := hwf hh
        refine j_aload_n F 0 d_Mo_touches_60 rfl ?_
        refine j_iload_n F 1 d_Mo_touches_61 rfl ?_
        refine j_iload F 9 d_Mo_touches_62 rfl ?_
        refine m_calli F K (c_Mo_cornerX l hw) (tw_gV tj_134 tj_135 tj_136 tj_87 tj_137) q_Mo_cornerX rfl ⟨by decide, by decide⟩ ⟨Nat.zero_le _, Nat.zero_le _⟩ rfl (Nat.le_of_ble_eq_true rfl) d_Mo_touches_64 (fun r_2 S_1 hw => ?_)
        refine j_istore F [(10, vi r_2), (0, .ref h), (1, vi v1), (2, vi v2), (3, vi v3), (4, vi v4), (5, vi v5), (6, vi v6), (7, vi v7), (8, vi v8), (9, vi v9)] d_Mo_touches_67 (by decide) rfl ?_
        refine j_aload_n F 1 d_Mo_touches_69 rfl ?_
        refine j_iload_n F 2 d_Mo_touches_70 rfl ?_
        refine j_iload F 10 d_Mo_touches_71 rfl ?_
        refine m_calli F K (c_Mo_cornerY l hw) (tw_gV tj_138 tj_139 tj_140 tj_87 tj_141) q_Mo_cornerY rfl ⟨by decide, by decide⟩ ⟨Nat.zero_le _, Nat.zero_le _⟩ rfl (Nat.le_of_ble_eq_true rfl) d_Mo_touches_73 (fun r_4 S_3 hw => ?_)
        refine j_istore F [(11, vi r_4), (10, vi r_2), (0, .ref h), (1, vi v1), (2, vi v2), (3, vi v3), (4, vi v4), (5, vi v5), (6, vi v6), (7, vi v7), (8, vi v8), (9, vi v9)] d_Mo_touches_76 (by decide) rfl ?_
        refine j_aload_n F 2 d_Mo_touches_78 rfl ?_
        refine j_iload_n F 3 d_Mo_touches_79 rfl ?_
        refine j_iload F 11 d_Mo_touches_80 rfl ?_
        refine j_iconst F d_Mo_touches_82 ?_
        refine j_iadd F d_Mo_touches_83 ?_
        refine m_calli F K (c_Mo_cornerX l hw) (tw_gV tj_134 tj_135 tj_136 tj_87 tj_137) q_Mo_cornerX rfl ⟨by decide, by decide⟩ ⟨Nat.zero_le _, Nat.zero_le _⟩ rfl (Nat.le_of_ble_eq_true rfl) d_Mo_touches_84 (fun r_6 S_5 hw => ?_)
        refine j_istore F [(12, vi r_6), (11, vi r_4), (10, vi r_2), (0, .ref h), (1, vi v1), (2, vi v2), (3, vi v3), (4, vi v4), (5, vi v5), (6, vi v6), (7, vi v7), (8, vi v8), (9, vi v9)] d_Mo_touches_87 (by decide) rfl ?_
        refine j_aload_n F 3 d_Mo_touches_89 rfl ?_
        refine j_iload_n F 4 d_Mo_touches_90 rfl ?_
        refine j_iload F 12 d_Mo_touches_91 rfl ?_
        refine j_iconst F d_Mo_touches_93 ?_
        refine j_iadd F d_Mo_touches_94 ?_
        refine m_calli F K (c_Mo_cornerY l hw) (tw_gV tj_138 tj_139 tj_140 tj_87 tj_141) q_Mo_cornerY rfl ⟨by decide, by decide⟩ ⟨Nat.zero_le _, Nat.zero_le _⟩ rfl (Nat.le_of_ble_eq_true rfl) d_Mo_touches_95 (fun r_8 S_7 hw => ?_)
        refine j_istore F [(13, vi r_8), (12, vi r_6), (11, vi r_4), (10, vi r_2), (0, .ref h), (1, vi v1), (2, vi v2), (3, vi v3), (4, vi v4), (5, vi v5), (6, vi v6), (7, vi v7), (8, vi v8), (9, vi v9)] d_Mo_touches_98 (by decide) rfl ?_
        refine j_iload F 9 d_Mo_touches_100 rfl ?_
        refine j_iload F 10 d_Mo_touches_102 rfl ?_
        refine j_iload F 11 d_Mo_touches_104 rfl ?_
        refine j_iload F 12 d_Mo_touches_106 rfl ?_
        refine j_iload F 3 d_Mo_touches_108 rfl ?_
        refine j_iload F 2 d_Mo_touches_110 rfl ?_
        refine j_iload F 1 d_Mo_touches_112 rfl ?_
        refine j_iload F 0 d_Mo_touches_114 rfl ?_
        refine j_callS F (c_Mo_meet l hw) (tw_gS tj_117 tj_118 tj_87 tj_119) q_Mo_meet rfl ⟨by decide, by decide⟩ ⟨Nat.zero_le _, Nat.zero_le _⟩ rfl (Nat.le_of_ble_eq_true rfl) d_Mo_touches_116 (fun r_9 hw => ?_)
        obtain ⟨hc1, hwt, hwf⟩ := hw
        refine j_if_eq F 286 hc1 d_Mo_touches_119 rfl (fun hh => ?_) (fun hh => ?_)
        · have hw := hwt hh
          refine j_sub [4, 5, 6, 7, 8, 9, 10, 11, 12, 13] rfl ?_
          exact B286 _ _ _ _ _ _ _ _ _ _ hw
        · have hw := hwf hh
          refine j_iload_n F 6 d_Mo_touches_122 rfl ?_
          obtain ⟨hc1, hwt, hwf⟩ := hw
          refine j_if_ne F 148 hc1 d_Mo_touches_123 rfl (fun hh => ?_) (fun hh => ?_)
          · have hw := hwt hh
            refine j_iconst F d_Mo_touches_148 ?_
            refine j_sub [4, 5, 6, 7, 8, 9, 10, 11, 12, 13, 3, 2, 1, 0] rfl ?_
            exact B149 _ _ _ _ _ _ _ _ _ _ _ _ _ _ _ hw
          · have hw := hwf hh
            refine j_iload F 3 d_Mo_touches_126 rfl ?_
            refine j_iload F 2 d_Mo_touches_128 rfl ?_
            refine j_iload F 1 d_Mo_touches_130 rfl ?_
            refine j_iload F 0 d_Mo_touches_132 rfl ?_
            refine j_iload F 9 d_Mo_touches_134 rfl ?_
            refine j_iload F 10 d_Mo_touches_136 rfl ?_
            refine j_callS F (c_Mo_isOn l hw) (tw_gS tj_95 tj_96 tj_87 tj_97) q_Mo_isOn rfl ⟨by decide, by decide⟩ ⟨Nat.zero_le _, Nat.zero_le _⟩ rfl (Nat.le_of_ble_eq_true rfl) d_Mo_touches_138 (fun r_10 hw => ?_)
            obtain ⟨hc1, hwt, hwf⟩ := hw
            refine j_if_eq F 148 hc1 d_Mo_touches_141 rfl (fun hh => ?_) (fun hh => ?_)
            · have hw := hwt hh
              refine j_iconst F d_Mo_touches_148 ?_
              refine j_sub [4, 5, 6, 7, 8, 9, 10, 11, 12, 13, 3, 2, 1, 0] rfl ?_
              exact B149 _ _ _ _ _ _ _ _ _ _ _ _ _ _ _ hw
            · have hw := hwf hh
              refine j_iconst F d_Mo_touches_144 ?_
              refine j_goto F 149 d_Mo_touches_145 rfl ?_
              refine j_sub [4, 5, 6, 7, 8, 9, 10, 11, 12, 13, 3, 2, 1, 0] rfl ?_
              exact B149 _ _ _ _ _ _ _ _ _ _ _ _ _ _ _ hw
  unfold wp_Mo_touches at hw
  show jat l D X 18 0 [(0, .ref h), (1, vi v1), (2, vi v2)] [] (mw h ad kc S) 0 0
  refine j_iconst F d_Mo_touches_0 ?_
  refine j_istore_n F [(3, vi 0), (0, .ref h), (1, vi v1), (2, vi v2)] d_Mo_touches_1 (by decide) rfl ?_
  refine j_aload_n F 1 d_Mo_touches_2 rfl ?_
  refine m_geti F K 4 (by decide) rfl tj_111 rfl d_Mo_touches_3 ?_
  refine j_iconst F d_Mo_touches_6 ?_
  refine j_isub F d_Mo_touches_7 ?_
  refine j_nmi (fun v4_1 e_v4_1 => ?_)
  have hw := hw v4_1 e_v4_1
  refine j_istore F [(4, vi v4_1), (3, vi 0), (0, .ref h), (1, vi v1), (2, vi v2)] d_Mo_touches_8 (by decide) rfl ?_
  refine j_aload_n F 2 d_Mo_touches_10 rfl ?_
  refine m_geta F K 5 (by decide) (by decide) tj_112 rfl d_Mo_touches_11 ?_
  refine j_iload_n F 4 d_Mo_touches_14 rfl ?_
  obtain ⟨hc1, hw⟩ := hw
  refine m_iald F K 5 0 rfl rfl hc1 d_Mo_touches_15 ?_
  refine j_nmi (fun v5_2 e_v5_2 => ?_)
  have hw := hw v5_2 e_v5_2
  refine j_istore F [(5, vi v5_2), (4, vi v4_1), (3, vi 0), (0, .ref h), (1, vi v1), (2, vi v2)] d_Mo_touches_16 (by decide) rfl ?_
  refine j_aload_n F 3 d_Mo_touches_18 rfl ?_
  refine m_geta F K 6 (by decide) (by decide) tj_113 rfl d_Mo_touches_19 ?_
  refine j_iload_n F 5 d_Mo_touches_22 rfl ?_
  obtain ⟨hc1, hw⟩ := hw
  refine m_iald F K 6 1 rfl rfl hc1 d_Mo_touches_23 ?_
  refine j_nmi (fun v6_3 e_v6_3 => ?_)
  have hw := hw v6_3 e_v6_3
  refine j_istore F [(6, vi v6_3), (5, vi v5_2), (4, vi v4_1), (3, vi 0), (0, .ref h), (1, vi v1), (2, vi v2)] d_Mo_touches_24 (by decide) rfl ?_
  refine j_aload_n F 4 d_Mo_touches_26 rfl ?_
  refine m_geta F K 5 (by decide) (by decide) tj_112 rfl d_Mo_touches_27 ?_
  refine j_iload_n F 6 d_Mo_touches_30 rfl ?_
  refine j_iconst F d_Mo_touches_31 ?_
  refine j_iadd F d_Mo_touches_32 ?_
  obtain ⟨hc1, hw⟩ := hw
  refine m_iald F K 5 0 rfl rfl hc1 d_Mo_touches_33 ?_
  refine j_nmi (fun v7_4 e_v7_4 => ?_)
  have hw := hw v7_4 e_v7_4
  refine j_istore F [(7, vi v7_4), (6, vi v6_3), (5, vi v5_2), (4, vi v4_1), (3, vi 0), (0, .ref h), (1, vi v1), (2, vi v2)] d_Mo_touches_34 (by decide) rfl ?_
  refine j_aload_n F 5 d_Mo_touches_36 rfl ?_
  refine m_geta F K 6 (by decide) (by decide) tj_113 rfl d_Mo_touches_37 ?_
  refine j_iload_n F 7 d_Mo_touches_40 rfl ?_
  refine j_iconst F d_Mo_touches_41 ?_
  refine j_iadd F d_Mo_touches_42 ?_
  obtain ⟨hc1, hw⟩ := hw
  refine m_iald F K 6 1 rfl rfl hc1 d_Mo_touches_43 ?_
  refine j_nmi (fun v8_5 e_v8_5 => ?_)
  have hw := hw v8_5 e_v8_5
  refine j_istore F [(8, vi v8_5), (7, vi v7_4), (6, vi v6_3), (5, vi v5_2), (4, vi v4_1), (3, vi 0), (0, .ref h), (1, vi v1), (2, vi v2)] d_Mo_touches_44 (by decide) rfl ?_
  refine j_iconst F d_Mo_touches_46 ?_
  refine j_istore F [(9, vi 0), (8, vi v8_5), (7, vi v7_4), (6, vi v6_3), (5, vi v5_2), (4, vi v4_1), (3, vi 0), (0, .ref h), (1, vi v1), (2, vi v2)] d_Mo_touches_47 (by decide) rfl ?_
  refine j_sub [7, 8, 9, 6, 5, 4, 3, 2, 1, 0] rfl ?_
  obtain ⟨n0, hw⟩ := hw
  exact B49 n0 _ _ _ _ _ _ _ _ _ _ hw
theorem tj_221 : (Jvm.Cond.methodLink "LandBookModel" (223 : Nat) ({ cls := "LandBookModel", name := "sideOf", desc := "(III)I" } : Jvm.MethodName)) ∈ tw_G := tw_in (List.mem_of_getElem? (i := 1281) (by decide +kernel)) rfl
theorem tj_222 : (Jvm.Cond.instanceMethod ({ cls := "LandBookModel", name := "sideOf", desc := "(III)I" } : Jvm.MethodName)) ∈ tw_G := tw_in (List.mem_of_getElem? (i := 1283) (by decide +kernel)) rfl
theorem tj_223 : (Jvm.Cond.selects "LandBookModel" ⟨"LandBookModel", "sideOf", "(III)I"⟩ ⟨"LandBookModel", "sideOf", "(III)I"⟩) ∈ tw_G := tw_in (List.mem_of_getElem? (i := 37) (by decide +kernel)) rfl
theorem tj_224 : (Jvm.Cond.code ({ cls := "LandBookModel", name := "sideOf", desc := "(III)I" } : Jvm.MethodName) prog_13_method_22_code (8 : Nat) (Option.some Jvm.ClassFile.FieldType.int)) ∈ tw_G := tw_in (List.mem_of_getElem? (i := 1284) (by decide +kernel)) rfl
theorem tj_225 : (Jvm.Cond.methodLink "LandBookModel" (227 : Nat) ({ cls := "LandBookModel", name := "isWithin", desc := "(III)Z" } : Jvm.MethodName)) ∈ tw_G := tw_in (List.mem_of_getElem? (i := 1293) (by decide +kernel)) rfl
theorem tj_226 : (Jvm.Cond.instanceMethod ({ cls := "LandBookModel", name := "isWithin", desc := "(III)Z" } : Jvm.MethodName)) ∈ tw_G := tw_in (List.mem_of_getElem? (i := 1295) (by decide +kernel)) rfl
theorem tj_227 : (Jvm.Cond.selects "LandBookModel" ⟨"LandBookModel", "isWithin", "(III)Z"⟩ ⟨"LandBookModel", "isWithin", "(III)Z"⟩) ∈ tw_G := tw_in (List.mem_of_getElem? (i := 40) (by decide +kernel)) rfl
theorem tj_228 : (Jvm.Cond.code ({ cls := "LandBookModel", name := "isWithin", desc := "(III)Z" } : Jvm.MethodName) prog_13_method_23_code (19 : Nat) (Option.some Jvm.ClassFile.FieldType.boolean)) ∈ tw_G := tw_in (List.mem_of_getElem? (i := 1296) (by decide +kernel)) rfl
theorem tj_229 : (Jvm.Cond.methodLink "LandBookModel" (230 : Nat) ({ cls := "LandBookModel", name := "touches", desc := "(II)Z" } : Jvm.MethodName)) ∈ tw_G := tw_in (List.mem_of_getElem? (i := 1298) (by decide +kernel)) rfl
theorem tj_230 : (Jvm.Cond.instanceMethod ({ cls := "LandBookModel", name := "touches", desc := "(II)Z" } : Jvm.MethodName)) ∈ tw_G := tw_in (List.mem_of_getElem? (i := 1300) (by decide +kernel)) rfl
theorem tj_231 : (Jvm.Cond.selects "LandBookModel" ⟨"LandBookModel", "touches", "(II)Z"⟩ ⟨"LandBookModel", "touches", "(II)Z"⟩) ∈ tw_G := tw_in (List.mem_of_getElem? (i := 41) (by decide +kernel)) rfl
theorem tj_232 : (Jvm.Cond.code ({ cls := "LandBookModel", name := "touches", desc := "(II)Z" } : Jvm.MethodName) prog_13_method_40_code (18 : Nat) (Option.some Jvm.ClassFile.FieldType.boolean)) ∈ tw_G := tw_in (List.mem_of_getElem? (i := 1301) (by decide +kernel)) rfl
abbrev y_Mo_isChain : MethodName := ⟨"LandBookModel", "isChain", "(I)Z"⟩
theorem q_Mo_isChain : y_Mo_isChain.cls = "LandBookModel" ∧ y_Mo_isChain.cls ≠ "java/lang/invoke/MethodHandle" ∧ y_Mo_isChain.cls ≠ "java/lang/invoke/VarHandle" ∧ (parseMethodDescriptor y_Mo_isChain.desc).map (fun d => d.parameters.length) = some 1 := by decide +kernel
theorem d_Mo_isChain_0 : decode prog_13_method_42_code 0 = .ok (.aload_n 0, 1) := by decide +kernel
theorem d_Mo_isChain_1 : decode prog_13_method_42_code 1 = .ok (.getfield 106, 3) := by decide +kernel
theorem d_Mo_isChain_4 : decode prog_13_method_42_code 4 = .ok (.istore_n 2, 1) := by decide +kernel
theorem d_Mo_isChain_5 : decode prog_13_method_42_code 5 = .ok (.iload_n 2, 1) := by decide +kernel
theorem d_Mo_isChain_6 : decode prog_13_method_42_code 6 = .ok (.iconst 2, 1) := by decide +kernel
theorem d_Mo_isChain_7 : decode prog_13_method_42_code 7 = .ok (.if_icmp .ge 5, 3) := by decide +kernel
theorem d_Mo_isChain_12 : decode prog_13_method_42_code 12 = .ok (.aload_n 0, 1) := by decide +kernel
theorem d_Mo_isChain_13 : decode prog_13_method_42_code 13 = .ok (.iload_n 1, 1) := by decide +kernel
theorem d_Mo_isChain_14 : decode prog_13_method_42_code 14 = .ok (.aload_n 0, 1) := by decide +kernel
theorem d_Mo_isChain_15 : decode prog_13_method_42_code 15 = .ok (.getfield 7, 3) := by decide +kernel
theorem d_Mo_isChain_18 : decode prog_13_method_42_code 18 = .ok (.iconst 0, 1) := by decide +kernel
theorem d_Mo_isChain_19 : decode prog_13_method_42_code 19 = .ok (.iaload, 1) := by decide +kernel
theorem d_Mo_isChain_20 : decode prog_13_method_42_code 20 = .ok (.aload_n 0, 1) := by decide +kernel
theorem d_Mo_isChain_21 : decode prog_13_method_42_code 21 = .ok (.getfield 13, 3) := by decide +kernel
theorem d_Mo_isChain_24 : decode prog_13_method_42_code 24 = .ok (.iconst 0, 1) := by decide +kernel
theorem d_Mo_isChain_25 : decode prog_13_method_42_code 25 = .ok (.iaload, 1) := by decide +kernel
theorem d_Mo_isChain_26 : decode prog_13_method_42_code 26 = .ok (.invokevirtual 223, 3) := by decide +kernel
theorem d_Mo_isChain_29 : decode prog_13_method_42_code 29 = .ok (.ifCond .lt 65, 3) := by decide +kernel
theorem d_Mo_isChain_94 : decode prog_13_method_42_code 94 = .ok (.iconst 0, 1) := by decide +kernel
theorem d_Mo_isChain_32 : decode prog_13_method_42_code 32 = .ok (.aload_n 0, 1) := by decide +kernel
theorem d_Mo_isChain_33 : decode prog_13_method_42_code 33 = .ok (.iload_n 1, 1) := by decide +kernel
theorem d_Mo_isChain_34 : decode prog_13_method_42_code 34 = .ok (.aload_n 0, 1) := by decide +kernel
theorem d_Mo_isChain_35 : decode prog_13_method_42_code 35 = .ok (.getfield 7, 3) := by decide +kernel
theorem d_Mo_isChain_38 : decode prog_13_method_42_code 38 = .ok (.iload_n 2, 1) := by decide +kernel
theorem d_Mo_isChain_39 : decode prog_13_method_42_code 39 = .ok (.iconst 1, 1) := by decide +kernel
theorem d_Mo_isChain_40 : decode prog_13_method_42_code 40 = .ok (.isub, 1) := by decide +kernel
theorem d_Mo_isChain_41 : decode prog_13_method_42_code 41 = .ok (.iaload, 1) := by decide +kernel
theorem d_Mo_isChain_42 : decode prog_13_method_42_code 42 = .ok (.aload_n 0, 1) := by decide +kernel
theorem d_Mo_isChain_43 : decode prog_13_method_42_code 43 = .ok (.getfield 13, 3) := by decide +kernel
theorem d_Mo_isChain_46 : decode prog_13_method_42_code 46 = .ok (.iload_n 2, 1) := by decide +kernel
theorem d_Mo_isChain_47 : decode prog_13_method_42_code 47 = .ok (.iconst 1, 1) := by decide +kernel
theorem d_Mo_isChain_48 : decode prog_13_method_42_code 48 = .ok (.isub, 1) := by decide +kernel
theorem d_Mo_isChain_49 : decode prog_13_method_42_code 49 = .ok (.iaload, 1) := by decide +kernel
theorem d_Mo_isChain_50 : decode prog_13_method_42_code 50 = .ok (.invokevirtual 223, 3) := by decide +kernel
theorem d_Mo_isChain_53 : decode prog_13_method_42_code 53 = .ok (.ifCond .lt 41, 3) := by decide +kernel
theorem d_Mo_isChain_56 : decode prog_13_method_42_code 56 = .ok (.aload_n 0, 1) := by decide +kernel
theorem d_Mo_isChain_57 : decode prog_13_method_42_code 57 = .ok (.getfield 7, 3) := by decide +kernel
theorem d_Mo_isChain_60 : decode prog_13_method_42_code 60 = .ok (.iconst 0, 1) := by decide +kernel
theorem d_Mo_isChain_61 : decode prog_13_method_42_code 61 = .ok (.iaload, 1) := by decide +kernel
theorem d_Mo_isChain_62 : decode prog_13_method_42_code 62 = .ok (.aload_n 0, 1) := by decide +kernel
theorem d_Mo_isChain_63 : decode prog_13_method_42_code 63 = .ok (.getfield 7, 3) := by decide +kernel
theorem d_Mo_isChain_66 : decode prog_13_method_42_code 66 = .ok (.iload_n 2, 1) := by decide +kernel
theorem d_Mo_isChain_67 : decode prog_13_method_42_code 67 = .ok (.iconst 1, 1) := by decide +kernel
theorem d_Mo_isChain_68 : decode prog_13_method_42_code 68 = .ok (.isub, 1) := by decide +kernel
theorem d_Mo_isChain_69 : decode prog_13_method_42_code 69 = .ok (.iaload, 1) := by decide +kernel
theorem d_Mo_isChain_70 : decode prog_13_method_42_code 70 = .ok (.if_icmp .ne 20, 3) := by decide +kernel
theorem d_Mo_isChain_90 : decode prog_13_method_42_code 90 = .ok (.iconst 1, 1) := by decide +kernel
theorem d_Mo_isChain_91 : decode prog_13_method_42_code 91 = .ok (.goto 4, 3) := by decide +kernel
theorem d_Mo_isChain_73 : decode prog_13_method_42_code 73 = .ok (.aload_n 0, 1) := by decide +kernel
theorem d_Mo_isChain_74 : decode prog_13_method_42_code 74 = .ok (.getfield 13, 3) := by decide +kernel
theorem d_Mo_isChain_77 : decode prog_13_method_42_code 77 = .ok (.iconst 0, 1) := by decide +kernel
theorem d_Mo_isChain_78 : decode prog_13_method_42_code 78 = .ok (.iaload, 1) := by decide +kernel
theorem d_Mo_isChain_79 : decode prog_13_method_42_code 79 = .ok (.aload_n 0, 1) := by decide +kernel
theorem d_Mo_isChain_80 : decode prog_13_method_42_code 80 = .ok (.getfield 13, 3) := by decide +kernel
theorem d_Mo_isChain_83 : decode prog_13_method_42_code 83 = .ok (.iload_n 2, 1) := by decide +kernel
theorem d_Mo_isChain_84 : decode prog_13_method_42_code 84 = .ok (.iconst 1, 1) := by decide +kernel
theorem d_Mo_isChain_85 : decode prog_13_method_42_code 85 = .ok (.isub, 1) := by decide +kernel
theorem d_Mo_isChain_86 : decode prog_13_method_42_code 86 = .ok (.iaload, 1) := by decide +kernel
theorem d_Mo_isChain_87 : decode prog_13_method_42_code 87 = .ok (.if_icmp .eq 7, 3) := by decide +kernel
theorem d_Mo_isChain_10 : decode prog_13_method_42_code 10 = .ok (.iconst 0, 1) := by decide +kernel
theorem d_Mo_isChain_11 : decode prog_13_method_42_code 11 = .ok (.ireturn, 1) := by decide +kernel
theorem d_Mo_isChain_95 : decode prog_13_method_42_code 95 = .ok (.istore_n 3, 1) := by decide +kernel
theorem d_Mo_isChain_96 : decode prog_13_method_42_code 96 = .ok (.iconst 1, 1) := by decide +kernel
theorem d_Mo_isChain_97 : decode prog_13_method_42_code 97 = .ok (.istore 4, 2) := by decide +kernel
theorem d_Mo_isChain_99 : decode prog_13_method_42_code 99 = .ok (.iload 4, 2) := by decide +kernel
theorem d_Mo_isChain_101 : decode prog_13_method_42_code 101 = .ok (.iload_n 2, 1) := by decide +kernel
theorem d_Mo_isChain_102 : decode prog_13_method_42_code 102 = .ok (.iconst 1, 1) := by decide +kernel
theorem d_Mo_isChain_103 : decode prog_13_method_42_code 103 = .ok (.isub, 1) := by decide +kernel
theorem d_Mo_isChain_104 : decode prog_13_method_42_code 104 = .ok (.if_icmp .ge 45, 3) := by decide +kernel
theorem d_Mo_isChain_149 : decode prog_13_method_42_code 149 = .ok (.iload_n 3, 1) := by decide +kernel
theorem d_Mo_isChain_150 : decode prog_13_method_42_code 150 = .ok (.ifCond .eq 15, 3) := by decide +kernel
theorem d_Mo_isChain_165 : decode prog_13_method_42_code 165 = .ok (.iconst 0, 1) := by decide +kernel
theorem d_Mo_isChain_153 : decode prog_13_method_42_code 153 = .ok (.aload_n 0, 1) := by decide +kernel
theorem d_Mo_isChain_154 : decode prog_13_method_42_code 154 = .ok (.iconst 0, 1) := by decide +kernel
theorem d_Mo_isChain_155 : decode prog_13_method_42_code 155 = .ok (.invokevirtual 159, 3) := by decide +kernel
theorem d_Mo_isChain_158 : decode prog_13_method_42_code 158 = .ok (.ifCond .eq 7, 3) := by decide +kernel
theorem d_Mo_isChain_161 : decode prog_13_method_42_code 161 = .ok (.iconst 1, 1) := by decide +kernel
theorem d_Mo_isChain_162 : decode prog_13_method_42_code 162 = .ok (.goto 4, 3) := by decide +kernel
theorem d_Mo_isChain_107 : decode prog_13_method_42_code 107 = .ok (.iload_n 3, 1) := by decide +kernel
theorem d_Mo_isChain_108 : decode prog_13_method_42_code 108 = .ok (.ifCond .eq 33, 3) := by decide +kernel
theorem d_Mo_isChain_141 : decode prog_13_method_42_code 141 = .ok (.iconst 0, 1) := by decide +kernel
theorem d_Mo_isChain_111 : decode prog_13_method_42_code 111 = .ok (.aload_n 0, 1) := by decide +kernel
theorem d_Mo_isChain_112 : decode prog_13_method_42_code 112 = .ok (.iload_n 1, 1) := by decide +kernel
theorem d_Mo_isChain_113 : decode prog_13_method_42_code 113 = .ok (.iconst 2, 1) := by decide +kernel
theorem d_Mo_isChain_114 : decode prog_13_method_42_code 114 = .ok (.aload_n 0, 1) := by decide +kernel
theorem d_Mo_isChain_115 : decode prog_13_method_42_code 115 = .ok (.getfield 7, 3) := by decide +kernel
theorem d_Mo_isChain_118 : decode prog_13_method_42_code 118 = .ok (.iload 4, 2) := by decide +kernel
theorem d_Mo_isChain_120 : decode prog_13_method_42_code 120 = .ok (.iaload, 1) := by decide +kernel
theorem d_Mo_isChain_121 : decode prog_13_method_42_code 121 = .ok (.imul, 1) := by decide +kernel
theorem d_Mo_isChain_122 : decode prog_13_method_42_code 122 = .ok (.iconst 2, 1) := by decide +kernel
theorem d_Mo_isChain_123 : decode prog_13_method_42_code 123 = .ok (.aload_n 0, 1) := by decide +kernel
theorem d_Mo_isChain_124 : decode prog_13_method_42_code 124 = .ok (.getfield 13, 3) := by decide +kernel
theorem d_Mo_isChain_127 : decode prog_13_method_42_code 127 = .ok (.iload 4, 2) := by decide +kernel
theorem d_Mo_isChain_129 : decode prog_13_method_42_code 129 = .ok (.iaload, 1) := by decide +kernel
theorem d_Mo_isChain_130 : decode prog_13_method_42_code 130 = .ok (.imul, 1) := by decide +kernel
theorem d_Mo_isChain_131 : decode prog_13_method_42_code 131 = .ok (.invokevirtual 227, 3) := by decide +kernel
theorem d_Mo_isChain_134 : decode prog_13_method_42_code 134 = .ok (.ifCond .eq 7, 3) := by decide +kernel
theorem d_Mo_isChain_137 : decode prog_13_method_42_code 137 = .ok (.iconst 1, 1) := by decide +kernel
theorem d_Mo_isChain_138 : decode prog_13_method_42_code 138 = .ok (.goto 4, 3) := by decide +kernel
theorem d_Mo_isChain_166 : decode prog_13_method_42_code 166 = .ok (.istore_n 3, 1) := by decide +kernel
theorem d_Mo_isChain_167 : decode prog_13_method_42_code 167 = .ok (.iconst 0, 1) := by decide +kernel
theorem d_Mo_isChain_168 : decode prog_13_method_42_code 168 = .ok (.istore 4, 2) := by decide +kernel
theorem d_Mo_isChain_142 : decode prog_13_method_42_code 142 = .ok (.istore_n 3, 1) := by decide +kernel
theorem d_Mo_isChain_143 : decode prog_13_method_42_code 143 = .ok (.iinc 4 1, 3) := by decide +kernel
theorem d_Mo_isChain_146 : decode prog_13_method_42_code 146 = .ok (.goto (-47), 3) := by decide +kernel
theorem d_Mo_isChain_170 : decode prog_13_method_42_code 170 = .ok (.iload 4, 2) := by decide +kernel
theorem d_Mo_isChain_172 : decode prog_13_method_42_code 172 = .ok (.iload_n 2, 1) := by decide +kernel
theorem d_Mo_isChain_173 : decode prog_13_method_42_code 173 = .ok (.iconst 1, 1) := by decide +kernel
theorem d_Mo_isChain_174 : decode prog_13_method_42_code 174 = .ok (.isub, 1) := by decide +kernel
theorem d_Mo_isChain_175 : decode prog_13_method_42_code 175 = .ok (.if_icmp .ge 29, 3) := by decide +kernel
theorem d_Mo_isChain_204 : decode prog_13_method_42_code 204 = .ok (.iload_n 3, 1) := by decide +kernel
theorem d_Mo_isChain_205 : decode prog_13_method_42_code 205 = .ok (.ifCond .eq 46, 3) := by decide +kernel
theorem d_Mo_isChain_251 : decode prog_13_method_42_code 251 = .ok (.iconst 0, 1) := by decide +kernel
theorem d_Mo_isChain_252 : decode prog_13_method_42_code 252 = .ok (.ireturn, 1) := by decide +kernel
theorem d_Mo_isChain_208 : decode prog_13_method_42_code 208 = .ok (.iload_n 2, 1) := by decide +kernel
theorem d_Mo_isChain_209 : decode prog_13_method_42_code 209 = .ok (.iconst 2, 1) := by decide +kernel
theorem d_Mo_isChain_210 : decode prog_13_method_42_code 210 = .ok (.if_icmp .gt 37, 3) := by decide +kernel
theorem d_Mo_isChain_247 : decode prog_13_method_42_code 247 = .ok (.iconst 1, 1) := by decide +kernel
theorem d_Mo_isChain_248 : decode prog_13_method_42_code 248 = .ok (.goto 4, 3) := by decide +kernel
theorem d_Mo_isChain_213 : decode prog_13_method_42_code 213 = .ok (.aload_n 0, 1) := by decide +kernel
theorem d_Mo_isChain_214 : decode prog_13_method_42_code 214 = .ok (.iload_n 1, 1) := by decide +kernel
theorem d_Mo_isChain_215 : decode prog_13_method_42_code 215 = .ok (.aload_n 0, 1) := by decide +kernel
theorem d_Mo_isChain_216 : decode prog_13_method_42_code 216 = .ok (.getfield 7, 3) := by decide +kernel
theorem d_Mo_isChain_219 : decode prog_13_method_42_code 219 = .ok (.iconst 0, 1) := by decide +kernel
theorem d_Mo_isChain_220 : decode prog_13_method_42_code 220 = .ok (.iaload, 1) := by decide +kernel
theorem d_Mo_isChain_221 : decode prog_13_method_42_code 221 = .ok (.aload_n 0, 1) := by decide +kernel
theorem d_Mo_isChain_222 : decode prog_13_method_42_code 222 = .ok (.getfield 7, 3) := by decide +kernel
theorem d_Mo_isChain_225 : decode prog_13_method_42_code 225 = .ok (.iconst 1, 1) := by decide +kernel
theorem d_Mo_isChain_226 : decode prog_13_method_42_code 226 = .ok (.iaload, 1) := by decide +kernel
theorem d_Mo_isChain_227 : decode prog_13_method_42_code 227 = .ok (.iadd, 1) := by decide +kernel
theorem d_Mo_isChain_228 : decode prog_13_method_42_code 228 = .ok (.aload_n 0, 1) := by decide +kernel
theorem d_Mo_isChain_229 : decode prog_13_method_42_code 229 = .ok (.getfield 13, 3) := by decide +kernel
theorem d_Mo_isChain_232 : decode prog_13_method_42_code 232 = .ok (.iconst 0, 1) := by decide +kernel
theorem d_Mo_isChain_233 : decode prog_13_method_42_code 233 = .ok (.iaload, 1) := by decide +kernel
theorem d_Mo_isChain_234 : decode prog_13_method_42_code 234 = .ok (.aload_n 0, 1) := by decide +kernel
theorem d_Mo_isChain_235 : decode prog_13_method_42_code 235 = .ok (.getfield 13, 3) := by decide +kernel
theorem d_Mo_isChain_238 : decode prog_13_method_42_code 238 = .ok (.iconst 1, 1) := by decide +kernel
theorem d_Mo_isChain_239 : decode prog_13_method_42_code 239 = .ok (.iaload, 1) := by decide +kernel
theorem d_Mo_isChain_240 : decode prog_13_method_42_code 240 = .ok (.iadd, 1) := by decide +kernel
theorem d_Mo_isChain_241 : decode prog_13_method_42_code 241 = .ok (.invokevirtual 227, 3) := by decide +kernel
theorem d_Mo_isChain_244 : decode prog_13_method_42_code 244 = .ok (.ifCond .eq 7, 3) := by decide +kernel
theorem d_Mo_isChain_178 : decode prog_13_method_42_code 178 = .ok (.iload_n 3, 1) := by decide +kernel
theorem d_Mo_isChain_179 : decode prog_13_method_42_code 179 = .ok (.ifCond .eq 17, 3) := by decide +kernel
theorem d_Mo_isChain_196 : decode prog_13_method_42_code 196 = .ok (.iconst 0, 1) := by decide +kernel
theorem d_Mo_isChain_182 : decode prog_13_method_42_code 182 = .ok (.aload_n 0, 1) := by decide +kernel
theorem d_Mo_isChain_183 : decode prog_13_method_42_code 183 = .ok (.iload_n 1, 1) := by decide +kernel
theorem d_Mo_isChain_184 : decode prog_13_method_42_code 184 = .ok (.iload 4, 2) := by decide +kernel
theorem d_Mo_isChain_186 : decode prog_13_method_42_code 186 = .ok (.invokevirtual 230, 3) := by decide +kernel
theorem d_Mo_isChain_189 : decode prog_13_method_42_code 189 = .ok (.ifCond .ne 7, 3) := by decide +kernel
theorem d_Mo_isChain_192 : decode prog_13_method_42_code 192 = .ok (.iconst 1, 1) := by decide +kernel
theorem d_Mo_isChain_193 : decode prog_13_method_42_code 193 = .ok (.goto 4, 3) := by decide +kernel
theorem d_Mo_isChain_197 : decode prog_13_method_42_code 197 = .ok (.istore_n 3, 1) := by decide +kernel
theorem d_Mo_isChain_198 : decode prog_13_method_42_code 198 = .ok (.iinc 4 1, 3) := by decide +kernel
theorem d_Mo_isChain_201 : decode prog_13_method_42_code 201 = .ok (.goto (-31), 3) := by decide +kernel
def wp_Mo_isChain_197 (post : Int → MS → Prop) (k170 : Int → Int → Int → Int → MS → Prop) (v1 : Int) (v2 : Int) (v4 : Int) (s0 : Int) (S : MS) : Prop := k170 v1 v2 s0 (v4 + 1) S
def wp_Mo_isChain_170 (post : Int → MS → Prop) : Nat → Int → Int → Int → Int → MS → Prop
  | 0, _, _, _, _, _ => False
  | n + 1, v1, v2, v3, v4, S => inR v4 ∧ inR (v2 - 1) ∧ ((v2 - 1) ≤ v4 → (inR v3 ∧ (v3 = 0 → post 0 S) ∧ (¬ (v3 = 0) → (inR v2 ∧ (2 < v2 → post 1 S) ∧ (¬ (2 < v2) → (ixR 0 32 ∧ (ixR 1 32 ∧ (ixR 0 32 ∧ (ixR 1 32 ∧ (wp_Mo_isWithin (fun r_2 S_1 => inR r_2 ∧ (r_2 = 0 → post 0 S_1) ∧ (¬ (r_2 = 0) → post 1 S_1)) v1 ((S.2 5 0) + (S.2 5 1)) ((S.2 6 0) + (S.2 6 1)) S)))))))))) ∧ (¬ ((v2 - 1) ≤ v4) → (inR v3 ∧ (v3 = 0 → wp_Mo_isChain_197 post (wp_Mo_isChain_170 post n) v1 v2 v4 0 S) ∧ (¬ (v3 = 0) → (wp_Mo_touches (fun r_4 S_3 => inR r_4 ∧ (¬ (r_4 = 0) → wp_Mo_isChain_197 post (wp_Mo_isChain_170 post n) v1 v2 v4 0 S_3) ∧ (r_4 = 0 → wp_Mo_isChain_197 post (wp_Mo_isChain_170 post n) v1 v2 v4 1 S_3)) v1 v4 S))))
def wp_Mo_isChain_166 (post : Int → MS → Prop) (v1 : Int) (v2 : Int) (s0 : Int) (S : MS) : Prop := ∃ n0 : Nat, wp_Mo_isChain_170 post n0 v1 v2 s0 0 S
def wp_Mo_isChain_142 (post : Int → MS → Prop) (k99 : Int → Int → Int → Int → MS → Prop) (v1 : Int) (v2 : Int) (v4 : Int) (s0 : Int) (S : MS) : Prop := k99 v1 v2 s0 (v4 + 1) S
def wp_Mo_isChain_99 (post : Int → MS → Prop) : Nat → Int → Int → Int → Int → MS → Prop
  | 0, _, _, _, _, _ => False
  | n + 1, v1, v2, v3, v4, S => inR v4 ∧ inR (v2 - 1) ∧ ((v2 - 1) ≤ v4 → (inR v3 ∧ (v3 = 0 → wp_Mo_isChain_166 post v1 v2 0 S) ∧ (¬ (v3 = 0) → (wp_Mo_isSimple (fun r_2 S_1 => inR r_2 ∧ (r_2 = 0 → wp_Mo_isChain_166 post v1 v2 0 S_1) ∧ (¬ (r_2 = 0) → wp_Mo_isChain_166 post v1 v2 1 S_1)) 0 S)))) ∧ (¬ ((v2 - 1) ≤ v4) → (inR v3 ∧ (v3 = 0 → wp_Mo_isChain_142 post (wp_Mo_isChain_99 post n) v1 v2 v4 0 S) ∧ (¬ (v3 = 0) → (ixR v4 32 ∧ (ixR v4 32 ∧ (wp_Mo_isWithin (fun r_4 S_3 => inR r_4 ∧ (r_4 = 0 → wp_Mo_isChain_142 post (wp_Mo_isChain_99 post n) v1 v2 v4 0 S_3) ∧ (¬ (r_4 = 0) → wp_Mo_isChain_142 post (wp_Mo_isChain_99 post n) v1 v2 v4 1 S_3)) v1 (2 * (S.2 5 v4.toNat)) (2 * (S.2 6 v4.toNat)) S))))))
def wp_Mo_isChain_95 (post : Int → MS → Prop) (v1 : Int) (v2 : Int) (s0 : Int) (S : MS) : Prop := ∃ n0 : Nat, wp_Mo_isChain_99 post n0 v1 v2 s0 1 S
def wp_Mo_isChain (post : Int → MS → Prop) (v1 : Int) (S : MS) : Prop := ∀ v2_1 : Int, v2_1 = (S.1 4) → inR v2_1 ∧ (2 ≤ v2_1 → (ixR 0 32 ∧ (ixR 0 32 ∧ (wp_Mo_sideOf (fun r_3 S_2 => inR r_3 ∧ (r_3 < 0 → wp_Mo_isChain_95 post v1 v2_1 0 S_2) ∧ (¬ (r_3 < 0) → (ixR (v2_1 - 1) 32 ∧ (ixR (v2_1 - 1) 32 ∧ (wp_Mo_sideOf (fun r_5 S_4 => inR r_5 ∧ (r_5 < 0 → wp_Mo_isChain_95 post v1 v2_1 0 S_4) ∧ (¬ (r_5 < 0) → (ixR 0 32 ∧ (ixR (v2_1 - 1) 32 ∧ (inR (S_4.2 5 0) ∧ inR (S_4.2 5 (v2_1 - 1).toNat) ∧ (¬ ((S_4.2 5 0) = (S_4.2 5 (v2_1 - 1).toNat)) → wp_Mo_isChain_95 post v1 v2_1 1 S_4) ∧ ((S_4.2 5 0) = (S_4.2 5 (v2_1 - 1).toNat) → (ixR 0 32 ∧ (ixR (v2_1 - 1) 32 ∧ (inR (S_4.2 6 0) ∧ inR (S_4.2 6 (v2_1 - 1).toNat) ∧ ((S_4.2 6 0) = (S_4.2 6 (v2_1 - 1).toNat) → wp_Mo_isChain_95 post v1 v2_1 0 S_4) ∧ (¬ ((S_4.2 6 0) = (S_4.2 6 (v2_1 - 1).toNat)) → wp_Mo_isChain_95 post v1 v2_1 1 S_4)))))))))) v1 (S_2.2 5 (v2_1 - 1).toNat) (S_2.2 6 (v2_1 - 1).toNat) S_2))))) v1 (S.2 5 0) (S.2 6 0) S)))) ∧ (¬ (2 ≤ v2_1) → post 0 S)
set_option maxHeartbeats 4000000 in
set_option maxRecDepth 100000 in
theorem c_Mo_isChain (l : Launch) {D : va_G} {h : Nat} {ad : Nat → Nat} {kc : Nat → ClassId} {post : Int → MS → Prop} {v1 : Int} {S : MS} (hw : wp_Mo_isChain post v1 S) : jMi l D h ad kc y_Mo_isChain prog_13_method_42_code 5 (some .boolean) 4 119 S [vi v1] post := by
  refine j_moz (own := "LandBookModel") (by decide) rfl (Nat.le_of_ble_eq_true rfl) (fun X F K hret => ?_)
  have B170 : ∀ (n0 : Nat) (v1 : Int) (v2 : Int) (v3 : Int) (v4 : Int) (S : MS), wp_Mo_isChain_170 post n0 v1 v2 v3 v4 S → jat l D X 5 170 [(0, .ref h), (1, vi v1), (2, vi v2), (3, vi v3), (4, vi v4)] [] (mw h ad kc S) 0 0 := by
    intro n0
    induction n0 with
    | zero => intro v1 v2 v3 v4 S hw; exact hw.elim
    | succ n170 ih170 =>
      have B197 : ∀ (v1 : Int) (v2 : Int) (v4 : Int) (s0 : Int) (S : MS), wp_Mo_isChain_197 post (wp_Mo_isChain_170 post n170) v1 v2 v4 s0 S → jat l D X 5 197 [(0, .ref h), (1, vi v1), (2, vi v2), (4, vi v4)] [vi s0] (mw h ad kc S) 0 0 := by
        intro v1 v2 v4 s0 S hw
        unfold wp_Mo_isChain_197 at hw
        refine j_istore_n F [(3, vi s0), (0, .ref h), (1, vi v1), (2, vi v2), (4, vi v4)] d_Mo_isChain_197 (by decide) rfl ?_
        refine j_iinc F 4 [(4, vi (v4 + 1)), (3, vi s0), (0, .ref h), (1, vi v1), (2, vi v2)] d_Mo_isChain_198 rfl (by decide) rfl ?_
        refine j_goto F 170 d_Mo_isChain_201 rfl ?_
        refine j_sub [2, 3, 4, 1, 0] rfl ?_
        exact ih170 _ _ _ _ _ hw
      intro v1 v2 v3 v4 S hw
      unfold wp_Mo_isChain_170 at hw
      refine j_iload F 4 d_Mo_isChain_170 rfl ?_
      refine j_iload_n F 2 d_Mo_isChain_172 rfl ?_
      refine j_iconst F d_Mo_isChain_173 ?_
      refine j_isub F d_Mo_isChain_174 ?_
      obtain ⟨hc1, hc2, hwt, hwf⟩ := hw
      refine j_icmp_ge F 204 hc1 hc2 d_Mo_isChain_175 rfl (fun hh => ?_) (fun hh => ?_)
      · have hw := hwt hh
        refine j_iload_n F 3 d_Mo_isChain_204 rfl ?_
        obtain ⟨hc1, hwt, hwf⟩ := hw
        refine j_if_eq F 251 hc1 d_Mo_isChain_205 rfl (fun hh => ?_) (fun hh => ?_)
        · have hw := hwt hh
          refine j_iconst F d_Mo_isChain_251 ?_
          exact hret _ _ _ _ hw (Or.inl rfl) d_Mo_isChain_252
        · have hw := hwf hh
          refine j_iload_n F 2 d_Mo_isChain_208 rfl ?_
          refine j_iconst F d_Mo_isChain_209 ?_
          obtain ⟨hc1, hwt, hwf⟩ := hw
          refine j_icmp_gt F 247 hc1 ⟨by decide, by decide⟩ d_Mo_isChain_210 rfl (fun hh => ?_) (fun hh => ?_)
          · have hw := hwt hh
            refine j_iconst F d_Mo_isChain_247 ?_
            refine j_goto F 252 d_Mo_isChain_248 rfl ?_
            exact hret _ _ _ _ hw (Or.inr rfl) d_Mo_isChain_252
          · have hw := hwf hh
            refine j_aload_n F 0 d_Mo_isChain_213 rfl ?_
            refine j_iload_n F 1 d_Mo_isChain_214 rfl ?_
            refine j_aload_n F 0 d_Mo_isChain_215 rfl ?_
            refine m_geta F K 5 (by decide) (by decide) tj_112 rfl d_Mo_isChain_216 ?_
            refine j_iconst F d_Mo_isChain_219 ?_
            obtain ⟨hc1, hw⟩ := hw
            refine m_iald F K 5 0 rfl rfl hc1 d_Mo_isChain_220 ?_
            refine j_aload_n F 0 d_Mo_isChain_221 rfl ?_
            refine m_geta F K 5 (by decide) (by decide) tj_112 rfl d_Mo_isChain_222 ?_
            refine j_iconst F d_Mo_isChain_225 ?_
            obtain ⟨hc1, hw⟩ := hw
            refine m_iald F K 5 0 rfl rfl hc1 d_Mo_isChain_226 ?_
            refine j_iadd F d_Mo_isChain_227 ?_
            refine j_aload_n F 0 d_Mo_isChain_228 rfl ?_
            refine m_geta F K 6 (by decide) (by decide) tj_113 rfl d_Mo_isChain_229 ?_
            refine j_iconst F d_Mo_isChain_232 ?_
            obtain ⟨hc1, hw⟩ := hw
            refine m_iald F K 6 1 rfl rfl hc1 d_Mo_isChain_233 ?_
            refine j_aload_n F 0 d_Mo_isChain_234 rfl ?_
            refine m_geta F K 6 (by decide) (by decide) tj_113 rfl d_Mo_isChain_235 ?_
            refine j_iconst F d_Mo_isChain_238 ?_
            obtain ⟨hc1, hw⟩ := hw
            refine m_iald F K 6 1 rfl rfl hc1 d_Mo_isChain_239 ?_
            refine j_iadd F d_Mo_isChain_240 ?_
            refine m_calli F K (c_Mo_isWithin l hw) (tw_gV tj_225 tj_226 tj_227 tj_87 tj_228) q_Mo_isWithin rfl ⟨by decide, by decide⟩ ⟨Nat.zero_le _, Nat.zero_le _⟩ rfl (Nat.le_of_ble_eq_true rfl) d_Mo_isChain_241 (fun r_2 S_1 hw => ?_)
            obtain ⟨hc1, hwt, hwf⟩ := hw
            refine j_if_eq F 251 hc1 d_Mo_isChain_244 rfl (fun hh => ?_) (fun hh => ?_)
            · have hw := hwt hh
              refine j_iconst F d_Mo_isChain_251 ?_
              exact hret _ _ _ _ hw (Or.inl rfl) d_Mo_isChain_252
            · have hw := hwf hh
              refine j_iconst F d_Mo_isChain_247 ?_
              refine j_goto F 252 d_Mo_isChain_248 rfl ?_
              exact hret _ _ _ _ hw (Or.inr rfl) d_Mo_isChain_252
      · have hw := hwf hh
        refine j_iload_n F 3 d_Mo_isChain_178 rfl ?_
        obtain ⟨hc1, hwt, hwf⟩ := hw
        refine j_if_eq F 196 hc1 d_Mo_isChain_179 rfl (fun hh => ?_) (fun hh => ?_)
        · have hw := hwt hh
          refine j_iconst F d_Mo_isChain_196 ?_
          refine j_sub [0, 1, 2, 4] rfl ?_
          exact B197 _ _ _ _ _ hw
        · have hw := hwf hh
          refine j_aload_n F 0 d_Mo_isChain_182 rfl ?_
          refine j_iload_n F 1 d_Mo_isChain_183 rfl ?_
          refine j_iload F 4 d_Mo_isChain_184 rfl ?_
          refine m_calli F K (c_Mo_touches l hw) (tw_gV tj_229 tj_230 tj_231 tj_87 tj_232) q_Mo_touches rfl ⟨by decide, by decide⟩ ⟨Nat.zero_le _, Nat.zero_le _⟩ rfl (Nat.le_of_ble_eq_true rfl) d_Mo_isChain_186 (fun r_4 S_3 hw => ?_)
          obtain ⟨hc1, hwt, hwf⟩ := hw
          refine j_if_ne F 196 hc1 d_Mo_isChain_189 rfl (fun hh => ?_) (fun hh => ?_)
          · have hw := hwt hh
            refine j_iconst F d_Mo_isChain_196 ?_
            refine j_sub [0, 1, 2, 4] rfl ?_
            exact B197 _ _ _ _ _ hw
          · have hw := hwf hh
            refine j_iconst F d_Mo_isChain_192 ?_
            refine j_goto F 197 d_Mo_isChain_193 rfl ?_
            refine j_sub [0, 1, 2, 4] rfl ?_
            exact B197 _ _ _ _ _ hw
  have B166 : ∀ (v1 : Int) (v2 : Int) (s0 : Int) (S : MS), wp_Mo_isChain_166 post v1 v2 s0 S → jat l D X 5 166 [(0, .ref h), (1, vi v1), (2, vi v2)] [vi s0] (mw h ad kc S) 0 0 := by
    intro v1 v2 s0 S hw
    unfold wp_Mo_isChain_166 at hw
    refine j_istore_n F [(3, vi s0), (0, .ref h), (1, vi v1), (2, vi v2)] d_Mo_isChain_166 (by decide) rfl ?_
    refine j_iconst F d_Mo_isChain_167 ?_
    refine j_istore F [(4, vi 0), (3, vi s0), (0, .ref h), (1, vi v1), (2, vi v2)] d_Mo_isChain_168 (by decide) rfl ?_
    refine j_sub [2, 3, 4, 1, 0] rfl ?_
    obtain ⟨n0, hw⟩ := hw
    exact B170 n0 _ _ _ _ _ hw
  have B99 : ∀ (n0 : Nat) (v1 : Int) (v2 : Int) (v3 : Int) (v4 : Int) (S : MS), wp_Mo_isChain_99 post n0 v1 v2 v3 v4 S → jat l D X 5 99 [(0, .ref h), (1, vi v1), (2, vi v2), (3, vi v3), (4, vi v4)] [] (mw h ad kc S) 0 0 := by
    intro n0
    induction n0 with
    | zero => intro v1 v2 v3 v4 S hw; exact hw.elim
    | succ n99 ih99 =>
      have B142 : ∀ (v1 : Int) (v2 : Int) (v4 : Int) (s0 : Int) (S : MS), wp_Mo_isChain_142 post (wp_Mo_isChain_99 post n99) v1 v2 v4 s0 S → jat l D X 5 142 [(0, .ref h), (1, vi v1), (2, vi v2), (4, vi v4)] [vi s0] (mw h ad kc S) 0 0 := by
        intro v1 v2 v4 s0 S hw
        unfold wp_Mo_isChain_142 at hw
        refine j_istore_n F [(3, vi s0), (0, .ref h), (1, vi v1), (2, vi v2), (4, vi v4)] d_Mo_isChain_142 (by decide) rfl ?_
        refine j_iinc F 4 [(4, vi (v4 + 1)), (3, vi s0), (0, .ref h), (1, vi v1), (2, vi v2)] d_Mo_isChain_143 rfl (by decide) rfl ?_
        refine j_goto F 99 d_Mo_isChain_146 rfl ?_
        refine j_sub [2, 3, 4, 1, 0] rfl ?_
        exact ih99 _ _ _ _ _ hw
      intro v1 v2 v3 v4 S hw
      unfold wp_Mo_isChain_99 at hw
      refine j_iload F 4 d_Mo_isChain_99 rfl ?_
      refine j_iload_n F 2 d_Mo_isChain_101 rfl ?_
      refine j_iconst F d_Mo_isChain_102 ?_
      refine j_isub F d_Mo_isChain_103 ?_
      obtain ⟨hc1, hc2, hwt, hwf⟩ := hw
      refine j_icmp_ge F 149 hc1 hc2 d_Mo_isChain_104 rfl (fun hh => ?_) (fun hh => ?_)
      · have hw := hwt hh
        refine j_iload_n F 3 d_Mo_isChain_149 rfl ?_
        obtain ⟨hc1, hwt, hwf⟩ := hw
        refine j_if_eq F 165 hc1 d_Mo_isChain_150 rfl (fun hh => ?_) (fun hh => ?_)
        · have hw := hwt hh
          refine j_iconst F d_Mo_isChain_165 ?_
          refine j_sub [0, 1, 2] rfl ?_
          exact B166 _ _ _ _ hw
        · have hw := hwf hh
          refine j_aload_n F 0 d_Mo_isChain_153 rfl ?_
          refine j_iconst F d_Mo_isChain_154 ?_
          refine m_calli F K (c_Mo_isSimple l hw) (tw_gV tj_145 tj_146 tj_147 tj_87 tj_148) q_Mo_isSimple rfl ⟨by decide, by decide⟩ ⟨Nat.zero_le _, Nat.zero_le _⟩ rfl (Nat.le_of_ble_eq_true rfl) d_Mo_isChain_155 (fun r_2 S_1 hw => ?_)
          obtain ⟨hc1, hwt, hwf⟩ := hw
          refine j_if_eq F 165 hc1 d_Mo_isChain_158 rfl (fun hh => ?_) (fun hh => ?_)
          · have hw := hwt hh
            refine j_iconst F d_Mo_isChain_165 ?_
            refine j_sub [0, 1, 2] rfl ?_
            exact B166 _ _ _ _ hw
          · have hw := hwf hh
            refine j_iconst F d_Mo_isChain_161 ?_
            refine j_goto F 166 d_Mo_isChain_162 rfl ?_
            refine j_sub [0, 1, 2] rfl ?_
            exact B166 _ _ _ _ hw
      · have hw := hwf hh
        refine j_iload_n F 3 d_Mo_isChain_107 rfl ?_
        obtain ⟨hc1, hwt, hwf⟩ := hw
        refine j_if_eq F 141 hc1 d_Mo_isChain_108 rfl (fun hh => ?_) (fun hh => ?_)
        · have hw := hwt hh
          refine j_iconst F d_Mo_isChain_141 ?_
          refine j_sub [0, 1, 2, 4] rfl ?_
          exact B142 _ _ _ _ _ hw
        · have hw := hwf hh
          refine j_aload_n F 0 d_Mo_isChain_111 rfl ?_
          refine j_iload_n F 1 d_Mo_isChain_112 rfl ?_
          refine j_iconst F d_Mo_isChain_113 ?_
          refine j_aload_n F 0 d_Mo_isChain_114 rfl ?_
          refine m_geta F K 5 (by decide) (by decide) tj_112 rfl d_Mo_isChain_115 ?_
          refine j_iload F 4 d_Mo_isChain_118 rfl ?_
          obtain ⟨hc1, hw⟩ := hw
          refine m_iald F K 5 0 rfl rfl hc1 d_Mo_isChain_120 ?_
          refine j_imul F d_Mo_isChain_121 ?_
          refine j_iconst F d_Mo_isChain_122 ?_
          refine j_aload_n F 0 d_Mo_isChain_123 rfl ?_
          refine m_geta F K 6 (by decide) (by decide) tj_113 rfl d_Mo_isChain_124 ?_
          refine j_iload F 4 d_Mo_isChain_127 rfl ?_
          obtain ⟨hc1, hw⟩ := hw
          refine m_iald F K 6 1 rfl rfl hc1 d_Mo_isChain_129 ?_
          refine j_imul F d_Mo_isChain_130 ?_
          refine m_calli F K (c_Mo_isWithin l hw) (tw_gV tj_225 tj_226 tj_227 tj_87 tj_228) q_Mo_isWithin rfl ⟨by decide, by decide⟩ ⟨Nat.zero_le _, Nat.zero_le _⟩ rfl (Nat.le_of_ble_eq_true rfl) d_Mo_isChain_131 (fun r_4 S_3 hw => ?_)
          obtain ⟨hc1, hwt, hwf⟩ := hw
          refine j_if_eq F 141 hc1 d_Mo_isChain_134 rfl (fun hh => ?_) (fun hh => ?_)
          · have hw := hwt hh
            refine j_iconst F d_Mo_isChain_141 ?_
            refine j_sub [0, 1, 2, 4] rfl ?_
            exact B142 _ _ _ _ _ hw
          · have hw := hwf hh
            refine j_iconst F d_Mo_isChain_137 ?_
            refine j_goto F 142 d_Mo_isChain_138 rfl ?_
            refine j_sub [0, 1, 2, 4] rfl ?_
            exact B142 _ _ _ _ _ hw
  have B95 : ∀ (v1 : Int) (v2 : Int) (s0 : Int) (S : MS), wp_Mo_isChain_95 post v1 v2 s0 S → jat l D X 5 95 [(0, .ref h), (1, vi v1), (2, vi v2)] [vi s0] (mw h ad kc S) 0 0 := by
    intro v1 v2 s0 S hw
    unfold wp_Mo_isChain_95 at hw
    refine j_istore_n F [(3, vi s0), (0, .ref h), (1, vi v1), (2, vi v2)] d_Mo_isChain_95 (by decide) rfl ?_
    refine j_iconst F d_Mo_isChain_96 ?_
    refine j_istore F [(4, vi 1), (3, vi s0), (0, .ref h), (1, vi v1), (2, vi v2)] d_Mo_isChain_97 (by decide) rfl ?_
    refine j_sub [2, 3, 4, 1, 0] rfl ?_
    obtain ⟨n0, hw⟩ := hw
    exact B99 n0 _ _ _ _ _ hw
  unfold wp_Mo_isChain at hw
  show jat l D X 5 0 [(0, .ref h), (1, vi v1)] [] (mw h ad kc S) 0 0
  refine j_aload_n F 0 d_Mo_isChain_0 rfl ?_
  refine m_geti F K 4 (by decide) rfl tj_111 rfl d_Mo_isChain_1 ?_
  refine j_nmi (fun v2_1 e_v2_1 => ?_)
  have hw := hw v2_1 e_v2_1
  refine j_istore_n F [(2, vi v2_1), (0, .ref h), (1, vi v1)] d_Mo_isChain_4 (by decide) rfl ?_
  refine j_iload_n F 0 d_Mo_isChain_5 rfl ?_
  refine j_iconst F d_Mo_isChain_6 ?_
  obtain ⟨hc1, hwt, hwf⟩ := hw
  refine j_icmp_ge F 12 hc1 ⟨by decide, by decide⟩ d_Mo_isChain_7 rfl (fun hh => ?_) (fun hh => ?_)
  · have hw := hwt hh
    refine j_aload_n F 1 d_Mo_isChain_12 rfl ?_
    refine j_iload_n F 2 d_Mo_isChain_13 rfl ?_
    refine j_aload_n F 1 d_Mo_isChain_14 rfl ?_
    refine m_geta F K 5 (by decide) (by decide) tj_112 rfl d_Mo_isChain_15 ?_
    refine j_iconst F d_Mo_isChain_18 ?_
    obtain ⟨hc1, hw⟩ := hw
    refine m_iald F K 5 0 rfl rfl hc1 d_Mo_isChain_19 ?_
    refine j_aload_n F 1 d_Mo_isChain_20 rfl ?_
    refine m_geta F K 6 (by decide) (by decide) tj_113 rfl d_Mo_isChain_21 ?_
    refine j_iconst F d_Mo_isChain_24 ?_
    obtain ⟨hc1, hw⟩ := hw
    refine m_iald F K 6 1 rfl rfl hc1 d_Mo_isChain_25 ?_
    refine m_calli F K (c_Mo_sideOf l hw) (tw_gV tj_221 tj_222 tj_223 tj_87 tj_224) q_Mo_sideOf rfl ⟨by decide, by decide⟩ ⟨Nat.zero_le _, Nat.zero_le _⟩ rfl (Nat.le_of_ble_eq_true rfl) d_Mo_isChain_26 (fun r_3 S_2 hw => ?_)
    obtain ⟨hc1, hwt, hwf⟩ := hw
    refine j_if_lt F 94 hc1 d_Mo_isChain_29 rfl (fun hh => ?_) (fun hh => ?_)
    · have hw := hwt hh
      refine j_iconst F d_Mo_isChain_94 ?_
      refine j_sub [1, 2, 0] rfl ?_
      exact B95 _ _ _ _ hw
    · have hw := hwf hh
      refine j_aload_n F 1 d_Mo_isChain_32 rfl ?_
      refine j_iload_n F 2 d_Mo_isChain_33 rfl ?_
      refine j_aload_n F 1 d_Mo_isChain_34 rfl ?_
      refine m_geta F K 5 (by decide) (by decide) tj_112 rfl d_Mo_isChain_35 ?_
      refine j_iload_n F 0 d_Mo_isChain_38 rfl ?_
      refine j_iconst F d_Mo_isChain_39 ?_
      refine j_isub F d_Mo_isChain_40 ?_
      obtain ⟨hc1, hw⟩ := hw
      refine m_iald F K 5 0 rfl rfl hc1 d_Mo_isChain_41 ?_
      refine j_aload_n F 1 d_Mo_isChain_42 rfl ?_
      refine m_geta F K 6 (by decide) (by decide) tj_113 rfl d_Mo_isChain_43 ?_
      refine j_iload_n F 0 d_Mo_isChain_46 rfl ?_
      refine j_iconst F d_Mo_isChain_47 ?_
      refine j_isub F d_Mo_isChain_48 ?_
      obtain ⟨hc1, hw⟩ := hw
      refine m_iald F K 6 1 rfl rfl hc1 d_Mo_isChain_49 ?_
      refine m_calli F K (c_Mo_sideOf l hw) (tw_gV tj_221 tj_222 tj_223 tj_87 tj_224) q_Mo_sideOf rfl ⟨by decide, by decide⟩ ⟨Nat.zero_le _, Nat.zero_le _⟩ rfl (Nat.le_of_ble_eq_true rfl) d_Mo_isChain_50 (fun r_5 S_4 hw => ?_)
      obtain ⟨hc1, hwt, hwf⟩ := hw
      refine j_if_lt F 94 hc1 d_Mo_isChain_53 rfl (fun hh => ?_) (fun hh => ?_)
      · have hw := hwt hh
        refine j_iconst F d_Mo_isChain_94 ?_
        refine j_sub [1, 2, 0] rfl ?_
        exact B95 _ _ _ _ hw
      · have hw := hwf hh
        refine j_aload_n F 1 d_Mo_isChain_56 rfl ?_
        refine m_geta F K 5 (by decide) (by decide) tj_112 rfl d_Mo_isChain_57 ?_
        refine j_iconst F d_Mo_isChain_60 ?_
        obtain ⟨hc1, hw⟩ := hw
        refine m_iald F K 5 0 rfl rfl hc1 d_Mo_isChain_61 ?_
        refine j_aload_n F 1 d_Mo_isChain_62 rfl ?_
        refine m_geta F K 5 (by decide) (by decide) tj_112 rfl d_Mo_isChain_63 ?_
        refine j_iload_n F 0 d_Mo_isChain_66 rfl ?_
        refine j_iconst F d_Mo_isChain_67 ?_
        refine j_isub F d_Mo_isChain_68 ?_
        obtain ⟨hc1, hw⟩ := hw
        refine m_iald F K 5 0 rfl rfl hc1 d_Mo_isChain_69 ?_
        obtain ⟨hc1, hc2, hwt, hwf⟩ := hw
        refine j_icmp_ne F 90 hc1 hc2 d_Mo_isChain_70 rfl (fun hh => ?_) (fun hh => ?_)
        · have hw := hwt hh
          refine j_iconst F d_Mo_isChain_90 ?_
          refine j_goto F 95 d_Mo_isChain_91 rfl ?_
          refine j_sub [1, 2, 0] rfl ?_
          exact B95 _ _ _ _ hw
        · have hw := hwf hh
          refine j_aload_n F 1 d_Mo_isChain_73 rfl ?_
          refine m_geta F K 6 (by decide) (by decide) tj_113 rfl d_Mo_isChain_74 ?_
          refine j_iconst F d_Mo_isChain_77 ?_
          obtain ⟨hc1, hw⟩ := hw
          refine m_iald F K 6 1 rfl rfl hc1 d_Mo_isChain_78 ?_
          refine j_aload_n F 1 d_Mo_isChain_79 rfl ?_
          refine m_geta F K 6 (by decide) (by decide) tj_113 rfl d_Mo_isChain_80 ?_
          refine j_iload_n F 0 d_Mo_isChain_83 rfl ?_
          refine j_iconst F d_Mo_isChain_84 ?_
          refine j_isub F d_Mo_isChain_85 ?_
          obtain ⟨hc1, hw⟩ := hw
          refine m_iald F K 6 1 rfl rfl hc1 d_Mo_isChain_86 ?_
          obtain ⟨hc1, hc2, hwt, hwf⟩ := hw
          refine j_icmp_eq F 94 hc1 hc2 d_Mo_isChain_87 rfl (fun hh => ?_) (fun hh => ?_)
          · have hw := hwt hh
            refine j_iconst F d_Mo_isChain_94 ?_
            refine j_sub [1, 2, 0] rfl ?_
            exact B95 _ _ _ _ hw
          · have hw := hwf hh
            refine j_iconst F d_Mo_isChain_90 ?_
            refine j_goto F 95 d_Mo_isChain_91 rfl ?_
            refine j_sub [1, 2, 0] rfl ?_
            exact B95 _ _ _ _ hw
  · have hw := hwf hh
    refine j_iconst F d_Mo_isChain_10 ?_
    exact hret _ _ _ _ hw (Or.inl rfl) d_Mo_isChain_11
theorem tj_233 : (Jvm.Cond.methodLink "LandBookModel" (233 : Nat) ({ cls := "LandBookModel", name := "apart", desc := "(IIII)J" } : Jvm.MethodName)) ∈ tw_G := tw_in (List.mem_of_getElem? (i := 1319) (by decide +kernel)) rfl
theorem tj_234 : (Jvm.Cond.static ({ cls := "LandBookModel", name := "apart", desc := "(IIII)J" } : Jvm.MethodName)) ∈ tw_G := tw_in (List.mem_of_getElem? (i := 1320) (by decide +kernel)) rfl
theorem tj_235 : (Jvm.Cond.code ({ cls := "LandBookModel", name := "apart", desc := "(IIII)J" } : Jvm.MethodName) prog_13_method_43_code (4 : Nat) (Option.some Jvm.ClassFile.FieldType.long)) ∈ tw_G := tw_in (List.mem_of_getElem? (i := 1321) (by decide +kernel)) rfl
abbrev y_Mo_goAlong : MethodName := ⟨"LandBookModel", "goAlong", "(IIIII)V"⟩
theorem q_Mo_goAlong : y_Mo_goAlong.cls = "LandBookModel" ∧ y_Mo_goAlong.cls ≠ "java/lang/invoke/MethodHandle" ∧ y_Mo_goAlong.cls ≠ "java/lang/invoke/VarHandle" ∧ (parseMethodDescriptor y_Mo_goAlong.desc).map (fun d => d.parameters.length) = some 5 := by decide +kernel
theorem d_Mo_goAlong_0 : decode prog_13_method_44_code 0 = .ok (.aload_n 0, 1) := by decide +kernel
theorem d_Mo_goAlong_1 : decode prog_13_method_44_code 1 = .ok (.getfield 22, 3) := by decide +kernel
theorem d_Mo_goAlong_4 : decode prog_13_method_44_code 4 = .ok (.iload_n 1, 1) := by decide +kernel
theorem d_Mo_goAlong_5 : decode prog_13_method_44_code 5 = .ok (.iaload, 1) := by decide +kernel
theorem d_Mo_goAlong_6 : decode prog_13_method_44_code 6 = .ok (.istore 6, 2) := by decide +kernel
theorem d_Mo_goAlong_8 : decode prog_13_method_44_code 8 = .ok (.aload_n 0, 1) := by decide +kernel
theorem d_Mo_goAlong_9 : decode prog_13_method_44_code 9 = .ok (.iload_n 1, 1) := by decide +kernel
theorem d_Mo_goAlong_10 : decode prog_13_method_44_code 10 = .ok (.iload_n 2, 1) := by decide +kernel
theorem d_Mo_goAlong_11 : decode prog_13_method_44_code 11 = .ok (.iload_n 3, 1) := by decide +kernel
theorem d_Mo_goAlong_12 : decode prog_13_method_44_code 12 = .ok (.invokevirtual 223, 3) := by decide +kernel
theorem d_Mo_goAlong_15 : decode prog_13_method_44_code 15 = .ok (.istore 7, 2) := by decide +kernel
theorem d_Mo_goAlong_17 : decode prog_13_method_44_code 17 = .ok (.aload_n 0, 1) := by decide +kernel
theorem d_Mo_goAlong_18 : decode prog_13_method_44_code 18 = .ok (.iload_n 1, 1) := by decide +kernel
theorem d_Mo_goAlong_19 : decode prog_13_method_44_code 19 = .ok (.iload 4, 2) := by decide +kernel
theorem d_Mo_goAlong_21 : decode prog_13_method_44_code 21 = .ok (.iload 5, 2) := by decide +kernel
theorem d_Mo_goAlong_23 : decode prog_13_method_44_code 23 = .ok (.invokevirtual 223, 3) := by decide +kernel
theorem d_Mo_goAlong_26 : decode prog_13_method_44_code 26 = .ok (.istore 8, 2) := by decide +kernel
theorem d_Mo_goAlong_28 : decode prog_13_method_44_code 28 = .ok (.aload_n 0, 1) := by decide +kernel
theorem d_Mo_goAlong_29 : decode prog_13_method_44_code 29 = .ok (.iload_n 2, 1) := by decide +kernel
theorem d_Mo_goAlong_30 : decode prog_13_method_44_code 30 = .ok (.iload_n 3, 1) := by decide +kernel
theorem d_Mo_goAlong_31 : decode prog_13_method_44_code 31 = .ok (.invokevirtual 163, 3) := by decide +kernel
theorem d_Mo_goAlong_34 : decode prog_13_method_44_code 34 = .ok (.aload_n 0, 1) := by decide +kernel
theorem d_Mo_goAlong_35 : decode prog_13_method_44_code 35 = .ok (.iload_n 1, 1) := by decide +kernel
theorem d_Mo_goAlong_36 : decode prog_13_method_44_code 36 = .ok (.iload 7, 2) := by decide +kernel
theorem d_Mo_goAlong_38 : decode prog_13_method_44_code 38 = .ok (.invokevirtual 143, 3) := by decide +kernel
theorem d_Mo_goAlong_41 : decode prog_13_method_44_code 41 = .ok (.istore 9, 2) := by decide +kernel
theorem d_Mo_goAlong_43 : decode prog_13_method_44_code 43 = .ok (.aload_n 0, 1) := by decide +kernel
theorem d_Mo_goAlong_44 : decode prog_13_method_44_code 44 = .ok (.iload_n 1, 1) := by decide +kernel
theorem d_Mo_goAlong_45 : decode prog_13_method_44_code 45 = .ok (.iload 7, 2) := by decide +kernel
theorem d_Mo_goAlong_47 : decode prog_13_method_44_code 47 = .ok (.invokevirtual 147, 3) := by decide +kernel
theorem d_Mo_goAlong_50 : decode prog_13_method_44_code 50 = .ok (.istore 10, 2) := by decide +kernel
theorem d_Mo_goAlong_52 : decode prog_13_method_44_code 52 = .ok (.iload 7, 2) := by decide +kernel
theorem d_Mo_goAlong_54 : decode prog_13_method_44_code 54 = .ok (.istore 11, 2) := by decide +kernel
theorem d_Mo_goAlong_56 : decode prog_13_method_44_code 56 = .ok (.iload 7, 2) := by decide +kernel
theorem d_Mo_goAlong_58 : decode prog_13_method_44_code 58 = .ok (.iload 8, 2) := by decide +kernel
theorem d_Mo_goAlong_60 : decode prog_13_method_44_code 60 = .ok (.if_icmp .ne 27, 3) := by decide +kernel
theorem d_Mo_goAlong_87 : decode prog_13_method_44_code 87 = .ok (.iconst 1, 1) := by decide +kernel
theorem d_Mo_goAlong_88 : decode prog_13_method_44_code 88 = .ok (.goto 4, 3) := by decide +kernel
theorem d_Mo_goAlong_63 : decode prog_13_method_44_code 63 = .ok (.iload 9, 2) := by decide +kernel
theorem d_Mo_goAlong_65 : decode prog_13_method_44_code 65 = .ok (.iload 10, 2) := by decide +kernel
theorem d_Mo_goAlong_67 : decode prog_13_method_44_code 67 = .ok (.iload_n 2, 1) := by decide +kernel
theorem d_Mo_goAlong_68 : decode prog_13_method_44_code 68 = .ok (.iload_n 3, 1) := by decide +kernel
theorem d_Mo_goAlong_69 : decode prog_13_method_44_code 69 = .ok (.invokestatic 233, 3) := by decide +kernel
theorem d_Mo_goAlong_72 : decode prog_13_method_44_code 72 = .ok (.iload 9, 2) := by decide +kernel
theorem d_Mo_goAlong_74 : decode prog_13_method_44_code 74 = .ok (.iload 10, 2) := by decide +kernel
theorem d_Mo_goAlong_76 : decode prog_13_method_44_code 76 = .ok (.iload 4, 2) := by decide +kernel
theorem d_Mo_goAlong_78 : decode prog_13_method_44_code 78 = .ok (.iload 5, 2) := by decide +kernel
theorem d_Mo_goAlong_80 : decode prog_13_method_44_code 80 = .ok (.invokestatic 233, 3) := by decide +kernel
theorem d_Mo_goAlong_83 : decode prog_13_method_44_code 83 = .ok (.lcmp, 1) := by decide +kernel
theorem d_Mo_goAlong_84 : decode prog_13_method_44_code 84 = .ok (.ifCond .le 7, 3) := by decide +kernel
theorem d_Mo_goAlong_91 : decode prog_13_method_44_code 91 = .ok (.iconst 0, 1) := by decide +kernel
theorem d_Mo_goAlong_92 : decode prog_13_method_44_code 92 = .ok (.istore 12, 2) := by decide +kernel
theorem d_Mo_goAlong_94 : decode prog_13_method_44_code 94 = .ok (.iload 12, 2) := by decide +kernel
theorem d_Mo_goAlong_96 : decode prog_13_method_44_code 96 = .ok (.ifCond .eq 47, 3) := by decide +kernel
theorem d_Mo_goAlong_143 : decode prog_13_method_44_code 143 = .ok (.aload_n 0, 1) := by decide +kernel
theorem d_Mo_goAlong_144 : decode prog_13_method_44_code 144 = .ok (.getfield 80, 3) := by decide +kernel
theorem d_Mo_goAlong_147 : decode prog_13_method_44_code 147 = .ok (.aload_n 0, 1) := by decide +kernel
theorem d_Mo_goAlong_148 : decode prog_13_method_44_code 148 = .ok (.getfield 132, 3) := by decide +kernel
theorem d_Mo_goAlong_151 : decode prog_13_method_44_code 151 = .ok (.iconst 1, 1) := by decide +kernel
theorem d_Mo_goAlong_152 : decode prog_13_method_44_code 152 = .ok (.isub, 1) := by decide +kernel
theorem d_Mo_goAlong_153 : decode prog_13_method_44_code 153 = .ok (.iaload, 1) := by decide +kernel
theorem d_Mo_goAlong_154 : decode prog_13_method_44_code 154 = .ok (.iload 4, 2) := by decide +kernel
theorem d_Mo_goAlong_156 : decode prog_13_method_44_code 156 = .ok (.if_icmp .ne 19, 3) := by decide +kernel
theorem d_Mo_goAlong_159 : decode prog_13_method_44_code 159 = .ok (.aload_n 0, 1) := by decide +kernel
theorem d_Mo_goAlong_160 : decode prog_13_method_44_code 160 = .ok (.getfield 83, 3) := by decide +kernel
theorem d_Mo_goAlong_163 : decode prog_13_method_44_code 163 = .ok (.aload_n 0, 1) := by decide +kernel
theorem d_Mo_goAlong_164 : decode prog_13_method_44_code 164 = .ok (.getfield 132, 3) := by decide +kernel
theorem d_Mo_goAlong_167 : decode prog_13_method_44_code 167 = .ok (.iconst 1, 1) := by decide +kernel
theorem d_Mo_goAlong_168 : decode prog_13_method_44_code 168 = .ok (.isub, 1) := by decide +kernel
theorem d_Mo_goAlong_169 : decode prog_13_method_44_code 169 = .ok (.iaload, 1) := by decide +kernel
theorem d_Mo_goAlong_170 : decode prog_13_method_44_code 170 = .ok (.iload 5, 2) := by decide +kernel
theorem d_Mo_goAlong_172 : decode prog_13_method_44_code 172 = .ok (.if_icmp .eq 11, 3) := by decide +kernel
theorem d_Mo_goAlong_183 : decode prog_13_method_44_code 183 = .ok (.return_, 1) := by decide +kernel
theorem d_Mo_goAlong_99 : decode prog_13_method_44_code 99 = .ok (.iload 11, 2) := by decide +kernel
theorem d_Mo_goAlong_101 : decode prog_13_method_44_code 101 = .ok (.iconst 1, 1) := by decide +kernel
theorem d_Mo_goAlong_102 : decode prog_13_method_44_code 102 = .ok (.iadd, 1) := by decide +kernel
theorem d_Mo_goAlong_103 : decode prog_13_method_44_code 103 = .ok (.iload 6, 2) := by decide +kernel
theorem d_Mo_goAlong_105 : decode prog_13_method_44_code 105 = .ok (.irem, 1) := by decide +kernel
theorem d_Mo_goAlong_106 : decode prog_13_method_44_code 106 = .ok (.istore 11, 2) := by decide +kernel
theorem d_Mo_goAlong_108 : decode prog_13_method_44_code 108 = .ok (.aload_n 0, 1) := by decide +kernel
theorem d_Mo_goAlong_109 : decode prog_13_method_44_code 109 = .ok (.aload_n 0, 1) := by decide +kernel
theorem d_Mo_goAlong_110 : decode prog_13_method_44_code 110 = .ok (.iload_n 1, 1) := by decide +kernel
theorem d_Mo_goAlong_111 : decode prog_13_method_44_code 111 = .ok (.iload 11, 2) := by decide +kernel
theorem d_Mo_goAlong_113 : decode prog_13_method_44_code 113 = .ok (.invokevirtual 143, 3) := by decide +kernel
theorem d_Mo_goAlong_116 : decode prog_13_method_44_code 116 = .ok (.aload_n 0, 1) := by decide +kernel
theorem d_Mo_goAlong_117 : decode prog_13_method_44_code 117 = .ok (.iload_n 1, 1) := by decide +kernel
theorem d_Mo_goAlong_118 : decode prog_13_method_44_code 118 = .ok (.iload 11, 2) := by decide +kernel
theorem d_Mo_goAlong_120 : decode prog_13_method_44_code 120 = .ok (.invokevirtual 147, 3) := by decide +kernel
theorem d_Mo_goAlong_123 : decode prog_13_method_44_code 123 = .ok (.invokevirtual 163, 3) := by decide +kernel
theorem d_Mo_goAlong_126 : decode prog_13_method_44_code 126 = .ok (.iload 11, 2) := by decide +kernel
theorem d_Mo_goAlong_128 : decode prog_13_method_44_code 128 = .ok (.iload 8, 2) := by decide +kernel
theorem d_Mo_goAlong_130 : decode prog_13_method_44_code 130 = .ok (.if_icmp .eq 7, 3) := by decide +kernel
theorem d_Mo_goAlong_137 : decode prog_13_method_44_code 137 = .ok (.iconst 0, 1) := by decide +kernel
theorem d_Mo_goAlong_133 : decode prog_13_method_44_code 133 = .ok (.iconst 1, 1) := by decide +kernel
theorem d_Mo_goAlong_134 : decode prog_13_method_44_code 134 = .ok (.goto 4, 3) := by decide +kernel
theorem d_Mo_goAlong_175 : decode prog_13_method_44_code 175 = .ok (.aload_n 0, 1) := by decide +kernel
theorem d_Mo_goAlong_176 : decode prog_13_method_44_code 176 = .ok (.iload 4, 2) := by decide +kernel
theorem d_Mo_goAlong_178 : decode prog_13_method_44_code 178 = .ok (.iload 5, 2) := by decide +kernel
theorem d_Mo_goAlong_180 : decode prog_13_method_44_code 180 = .ok (.invokevirtual 163, 3) := by decide +kernel
theorem d_Mo_goAlong_138 : decode prog_13_method_44_code 138 = .ok (.istore 12, 2) := by decide +kernel
theorem d_Mo_goAlong_140 : decode prog_13_method_44_code 140 = .ok (.goto (-46), 3) := by decide +kernel
def wp_Mo_goAlong_175 (post : MS → Prop) (v4 : Int) (v5 : Int) (S : MS) : Prop := wp_Mo_make (fun S_1 => post S_1) v4 v5 S
def wp_Mo_goAlong_138 (post : MS → Prop) (k94 : Int → Int → Int → Int → Int → Int → Int → MS → Prop) (v1 : Int) (v4 : Int) (v5 : Int) (v6 : Int) (v8 : Int) (v11 : Int) (s0 : Int) (S : MS) : Prop := k94 v1 v4 v5 v6 v8 v11 s0 S
def wp_Mo_goAlong_94 (post : MS → Prop) : Nat → Int → Int → Int → Int → Int → Int → Int → MS → Prop
  | 0, _, _, _, _, _, _, _, _ => False
  | n + 1, v1, v4, v5, v6, v8, v11, v12, S => inR v12 ∧ (v12 = 0 → (ixR ((S.1 33) - 1) 400 ∧ (inR (S.2 34 ((S.1 33) - 1).toNat) ∧ inR v4 ∧ (¬ ((S.2 34 ((S.1 33) - 1).toNat) = v4) → wp_Mo_goAlong_175 post v4 v5 S) ∧ ((S.2 34 ((S.1 33) - 1).toNat) = v4 → (ixR ((S.1 33) - 1) 400 ∧ (inR (S.2 35 ((S.1 33) - 1).toNat) ∧ inR v5 ∧ ((S.2 35 ((S.1 33) - 1).toNat) = v5 → post S) ∧ (¬ ((S.2 35 ((S.1 33) - 1).toNat) = v5) → wp_Mo_goAlong_175 post v4 v5 S))))))) ∧ (¬ (v12 = 0) → (dvR (v11 + 1) v6 ∧ (∀ v11_1 : Int, v11_1 = ((v11 + 1) % v6) → wp_Mo_cornerX (fun r_3 S_2 => wp_Mo_cornerY (fun r_5 S_4 => wp_Mo_make (fun S_6 => inR v11_1 ∧ inR v8 ∧ (v11_1 = v8 → wp_Mo_goAlong_138 post (wp_Mo_goAlong_94 post n) v1 v4 v5 v6 v8 v11_1 0 S_6) ∧ (¬ (v11_1 = v8) → wp_Mo_goAlong_138 post (wp_Mo_goAlong_94 post n) v1 v4 v5 v6 v8 v11_1 1 S_6)) r_3 r_5 S_4) v1 v11_1 S_2) v1 v11_1 S)))
def wp_Mo_goAlong_92 (post : MS → Prop) (v1 : Int) (v4 : Int) (v5 : Int) (v6 : Int) (v8 : Int) (v11 : Int) (s0 : Int) (S : MS) : Prop := ∃ n0 : Nat, wp_Mo_goAlong_94 post n0 v1 v4 v5 v6 v8 v11 s0 S
def wp_Mo_goAlong (post : MS → Prop) (v1 : Int) (v2 : Int) (v3 : Int) (v4 : Int) (v5 : Int) (S : MS) : Prop := ixR v1 302 ∧ (∀ v6_1 : Int, v6_1 = (S.2 10 v1.toNat) → wp_Mo_sideOf (fun r_3 S_2 => wp_Mo_sideOf (fun r_5 S_4 => wp_Mo_make (fun S_6 => wp_Mo_cornerX (fun r_9 S_8 => wp_Mo_cornerY (fun r_11 S_10 => inR r_3 ∧ inR r_5 ∧ (¬ (r_3 = r_5) → wp_Mo_goAlong_92 post v1 v4 v5 v6_1 r_5 r_3 1 S_10) ∧ (r_3 = r_5 → (wp_Mo_apart (fun r_12 => wp_Mo_apart (fun r_13 => inL r_12 ∧ inL r_13 ∧ (r_12 ≤ r_13 → wp_Mo_goAlong_92 post v1 v4 v5 v6_1 r_5 r_3 0 S_10) ∧ (¬ (r_12 ≤ r_13) → wp_Mo_goAlong_92 post v1 v4 v5 v6_1 r_5 r_3 1 S_10)) r_9 r_11 v4 v5) r_9 r_11 v2 v3))) v1 r_3 S_8) v1 r_3 S_6) v2 v3 S_4) v1 v4 v5 S_2) v1 v2 v3 S)
set_option maxHeartbeats 4000000 in
set_option maxRecDepth 100000 in
theorem c_Mo_goAlong (l : Launch) {D : va_G} {h : Nat} {ad : Nat → Nat} {kc : Nat → ClassId} {post : MS → Prop} {v1 : Int} {v2 : Int} {v3 : Int} {v4 : Int} {v5 : Int} {S : MS} (hw : wp_Mo_goAlong post v1 v2 v3 v4 v5 S) : jMv l D h ad kc y_Mo_goAlong prog_13_method_44_code 13 none 3 77 S [vi v1, vi v2, vi v3, vi v4, vi v5] post := by
  refine j_mov (own := "LandBookModel") (by decide) rfl (Nat.le_of_ble_eq_true rfl) (fun X F K hret => ?_)
  have B175 : ∀ (v4 : Int) (v5 : Int) (S : MS), wp_Mo_goAlong_175 post v4 v5 S → jat l D X 13 175 [(0, .ref h), (4, vi v4), (5, vi v5)] [] (mw h ad kc S) 0 0 := by
    intro v4 v5 S hw
    unfold wp_Mo_goAlong_175 at hw
    refine j_aload_n F 0 d_Mo_goAlong_175 rfl ?_
    refine j_iload F 1 d_Mo_goAlong_176 rfl ?_
    refine j_iload F 2 d_Mo_goAlong_178 rfl ?_
    refine m_callv F K (c_Mo_make l hw) (tw_gV tj_158 tj_159 tj_160 tj_87 tj_161) q_Mo_make rfl ⟨by decide, by decide⟩ ⟨Nat.zero_le _, Nat.zero_le _⟩ rfl (Nat.le_of_ble_eq_true rfl) d_Mo_goAlong_180 (fun S_1 hw => ?_)
    exact hret _ _ _ hw d_Mo_goAlong_183
  have B94 : ∀ (n0 : Nat) (v1 : Int) (v4 : Int) (v5 : Int) (v6 : Int) (v8 : Int) (v11 : Int) (v12 : Int) (S : MS), wp_Mo_goAlong_94 post n0 v1 v4 v5 v6 v8 v11 v12 S → jat l D X 13 94 [(0, .ref h), (1, vi v1), (4, vi v4), (5, vi v5), (6, vi v6), (8, vi v8), (11, vi v11), (12, vi v12)] [] (mw h ad kc S) 0 0 := by
    intro n0
    induction n0 with
    | zero => intro v1 v4 v5 v6 v8 v11 v12 S hw; exact hw.elim
    | succ n94 ih94 =>
      have B138 : ∀ (v1 : Int) (v4 : Int) (v5 : Int) (v6 : Int) (v8 : Int) (v11 : Int) (s0 : Int) (S : MS), wp_Mo_goAlong_138 post (wp_Mo_goAlong_94 post n94) v1 v4 v5 v6 v8 v11 s0 S → jat l D X 13 138 [(0, .ref h), (1, vi v1), (4, vi v4), (5, vi v5), (6, vi v6), (8, vi v8), (11, vi v11)] [vi s0] (mw h ad kc S) 0 0 := by
        intro v1 v4 v5 v6 v8 v11 s0 S hw
        unfold wp_Mo_goAlong_138 at hw
        refine j_istore F [(12, vi s0), (0, .ref h), (1, vi v1), (4, vi v4), (5, vi v5), (6, vi v6), (8, vi v8), (11, vi v11)] d_Mo_goAlong_138 (by decide) rfl ?_
        refine j_goto F 94 d_Mo_goAlong_140 rfl ?_
        refine j_sub [1, 2, 3, 4, 5, 6, 7, 0] rfl ?_
        exact ih94 _ _ _ _ _ _ _ _ hw
      intro v1 v4 v5 v6 v8 v11 v12 S hw
      unfold wp_Mo_goAlong_94 at hw
      refine j_iload F 7 d_Mo_goAlong_94 rfl ?_
      obtain ⟨hc1, hwt, hwf⟩ := hw
      refine j_if_eq F 143 hc1 d_Mo_goAlong_96 rfl (fun hh => ?_) (fun hh => ?_)
      · have hw := hwt hh
        refine j_aload_n F 0 d_Mo_goAlong_143 rfl ?_
        refine m_geta F K 34 (by decide) (by decide) tj_120 rfl d_Mo_goAlong_144 ?_
        refine j_aload_n F 0 d_Mo_goAlong_147 rfl ?_
        refine m_geti F K 33 (by decide) rfl tj_121 rfl d_Mo_goAlong_148 ?_
        refine j_iconst F d_Mo_goAlong_151 ?_
        refine j_isub F d_Mo_goAlong_152 ?_
        obtain ⟨hc1, hw⟩ := hw
        refine m_iald F K 34 23 rfl rfl hc1 d_Mo_goAlong_153 ?_
        refine j_iload F 2 d_Mo_goAlong_154 rfl ?_
        obtain ⟨hc1, hc2, hwt, hwf⟩ := hw
        refine j_icmp_ne F 175 hc1 hc2 d_Mo_goAlong_156 rfl (fun hh => ?_) (fun hh => ?_)
        · have hw := hwt hh
          refine j_sub [0, 2, 3] rfl ?_
          exact B175 _ _ _ hw
        · have hw := hwf hh
          refine j_aload_n F 0 d_Mo_goAlong_159 rfl ?_
          refine m_geta F K 35 (by decide) (by decide) tj_122 rfl d_Mo_goAlong_160 ?_
          refine j_aload_n F 0 d_Mo_goAlong_163 rfl ?_
          refine m_geti F K 33 (by decide) rfl tj_121 rfl d_Mo_goAlong_164 ?_
          refine j_iconst F d_Mo_goAlong_167 ?_
          refine j_isub F d_Mo_goAlong_168 ?_
          obtain ⟨hc1, hw⟩ := hw
          refine m_iald F K 35 24 rfl rfl hc1 d_Mo_goAlong_169 ?_
          refine j_iload F 3 d_Mo_goAlong_170 rfl ?_
          obtain ⟨hc1, hc2, hwt, hwf⟩ := hw
          refine j_icmp_eq F 183 hc1 hc2 d_Mo_goAlong_172 rfl (fun hh => ?_) (fun hh => ?_)
          · have hw := hwt hh
            exact hret _ _ _ hw d_Mo_goAlong_183
          · have hw := hwf hh
            refine j_sub [0, 2, 3] rfl ?_
            exact B175 _ _ _ hw
      · have hw := hwf hh
        refine j_iload F 6 d_Mo_goAlong_99 rfl ?_
        refine j_iconst F d_Mo_goAlong_101 ?_
        refine j_iadd F d_Mo_goAlong_102 ?_
        refine j_iload F 4 d_Mo_goAlong_103 rfl ?_
        obtain ⟨hc1, hw⟩ := hw
        refine j_irem F hc1 d_Mo_goAlong_105 ?_
        refine j_nmi (fun v11_1 e_v11_1 => ?_)
        have hw := hw v11_1 e_v11_1
        refine j_istore F [(11, vi v11_1), (0, .ref h), (1, vi v1), (4, vi v4), (5, vi v5), (6, vi v6), (8, vi v8), (12, vi v12)] d_Mo_goAlong_106 (by decide) rfl ?_
        refine j_aload_n F 1 d_Mo_goAlong_108 rfl ?_
        refine j_aload_n F 1 d_Mo_goAlong_109 rfl ?_
        refine j_iload_n F 2 d_Mo_goAlong_110 rfl ?_
        refine j_iload F 0 d_Mo_goAlong_111 rfl ?_
        refine m_calli F K (c_Mo_cornerX l hw) (tw_gV tj_134 tj_135 tj_136 tj_87 tj_137) q_Mo_cornerX rfl ⟨by decide, by decide⟩ ⟨Nat.zero_le _, Nat.zero_le _⟩ rfl (Nat.le_of_ble_eq_true rfl) d_Mo_goAlong_113 (fun r_3 S_2 hw => ?_)
        refine j_aload_n F 1 d_Mo_goAlong_116 rfl ?_
        refine j_iload_n F 2 d_Mo_goAlong_117 rfl ?_
        refine j_iload F 0 d_Mo_goAlong_118 rfl ?_
        refine m_calli F K (c_Mo_cornerY l hw) (tw_gV tj_138 tj_139 tj_140 tj_87 tj_141) q_Mo_cornerY rfl ⟨by decide, by decide⟩ ⟨Nat.zero_le _, Nat.zero_le _⟩ rfl (Nat.le_of_ble_eq_true rfl) d_Mo_goAlong_120 (fun r_5 S_4 hw => ?_)
        refine m_callv F K (c_Mo_make l hw) (tw_gV tj_158 tj_159 tj_160 tj_87 tj_161) q_Mo_make rfl ⟨by decide, by decide⟩ ⟨Nat.zero_le _, Nat.zero_le _⟩ rfl (Nat.le_of_ble_eq_true rfl) d_Mo_goAlong_123 (fun S_6 hw => ?_)
        refine j_iload F 0 d_Mo_goAlong_126 rfl ?_
        refine j_iload F 6 d_Mo_goAlong_128 rfl ?_
        obtain ⟨hc1, hc2, hwt, hwf⟩ := hw
        refine j_icmp_eq F 137 hc1 hc2 d_Mo_goAlong_130 rfl (fun hh => ?_) (fun hh => ?_)
        · have hw := hwt hh
          refine j_iconst F d_Mo_goAlong_137 ?_
          refine j_sub [1, 2, 3, 4, 5, 6, 0] rfl ?_
          exact B138 _ _ _ _ _ _ _ _ hw
        · have hw := hwf hh
          refine j_iconst F d_Mo_goAlong_133 ?_
          refine j_goto F 138 d_Mo_goAlong_134 rfl ?_
          refine j_sub [1, 2, 3, 4, 5, 6, 0] rfl ?_
          exact B138 _ _ _ _ _ _ _ _ hw
  have B92 : ∀ (v1 : Int) (v4 : Int) (v5 : Int) (v6 : Int) (v8 : Int) (v11 : Int) (s0 : Int) (S : MS), wp_Mo_goAlong_92 post v1 v4 v5 v6 v8 v11 s0 S → jat l D X 13 92 [(0, .ref h), (1, vi v1), (4, vi v4), (5, vi v5), (6, vi v6), (8, vi v8), (11, vi v11)] [vi s0] (mw h ad kc S) 0 0 := by
    intro v1 v4 v5 v6 v8 v11 s0 S hw
    unfold wp_Mo_goAlong_92 at hw
    refine j_istore F [(12, vi s0), (0, .ref h), (1, vi v1), (4, vi v4), (5, vi v5), (6, vi v6), (8, vi v8), (11, vi v11)] d_Mo_goAlong_92 (by decide) rfl ?_
    refine j_sub [1, 2, 3, 4, 5, 6, 7, 0] rfl ?_
    obtain ⟨n0, hw⟩ := hw
    exact B94 n0 _ _ _ _ _ _ _ _ hw
  unfold wp_Mo_goAlong at hw
  show jat l D X 13 0 [(0, .ref h), (1, vi v1), (2, vi v2), (3, vi v3), (4, vi v4), (5, vi v5)] [] (mw h ad kc S) 0 0
  refine j_aload_n F 0 d_Mo_goAlong_0 rfl ?_
  refine m_geta F K 10 (by decide) (by decide) tj_131 rfl d_Mo_goAlong_1 ?_
  refine j_iload_n F 1 d_Mo_goAlong_4 rfl ?_
  obtain ⟨hc1, hw⟩ := hw
  refine m_iald F K 10 4 rfl rfl hc1 d_Mo_goAlong_5 ?_
  refine j_nmi (fun v6_1 e_v6_1 => ?_)
  have hw := hw v6_1 e_v6_1
  refine j_istore F [(6, vi v6_1), (0, .ref h), (1, vi v1), (2, vi v2), (3, vi v3), (4, vi v4), (5, vi v5)] d_Mo_goAlong_6 (by decide) rfl ?_
  refine j_aload_n F 1 d_Mo_goAlong_8 rfl ?_
  refine j_iload_n F 2 d_Mo_goAlong_9 rfl ?_
  refine j_iload_n F 3 d_Mo_goAlong_10 rfl ?_
  refine j_iload_n F 4 d_Mo_goAlong_11 rfl ?_
  refine m_calli F K (c_Mo_sideOf l hw) (tw_gV tj_221 tj_222 tj_223 tj_87 tj_224) q_Mo_sideOf rfl ⟨by decide, by decide⟩ ⟨Nat.zero_le _, Nat.zero_le _⟩ rfl (Nat.le_of_ble_eq_true rfl) d_Mo_goAlong_12 (fun r_3 S_2 hw => ?_)
  refine j_istore F [(7, vi r_3), (6, vi v6_1), (0, .ref h), (1, vi v1), (2, vi v2), (3, vi v3), (4, vi v4), (5, vi v5)] d_Mo_goAlong_15 (by decide) rfl ?_
  refine j_aload_n F 2 d_Mo_goAlong_17 rfl ?_
  refine j_iload_n F 3 d_Mo_goAlong_18 rfl ?_
  refine j_iload F 6 d_Mo_goAlong_19 rfl ?_
  refine j_iload F 7 d_Mo_goAlong_21 rfl ?_
  refine m_calli F K (c_Mo_sideOf l hw) (tw_gV tj_221 tj_222 tj_223 tj_87 tj_224) q_Mo_sideOf rfl ⟨by decide, by decide⟩ ⟨Nat.zero_le _, Nat.zero_le _⟩ rfl (Nat.le_of_ble_eq_true rfl) d_Mo_goAlong_23 (fun r_5 S_4 hw => ?_)
  refine j_istore F [(8, vi r_5), (7, vi r_3), (6, vi v6_1), (0, .ref h), (1, vi v1), (2, vi v2), (3, vi v3), (4, vi v4), (5, vi v5)] d_Mo_goAlong_26 (by decide) rfl ?_
  refine j_aload_n F 3 d_Mo_goAlong_28 rfl ?_
  refine j_iload_n F 5 d_Mo_goAlong_29 rfl ?_
  refine j_iload_n F 6 d_Mo_goAlong_30 rfl ?_
  refine m_callv F K (c_Mo_make l hw) (tw_gV tj_158 tj_159 tj_160 tj_87 tj_161) q_Mo_make rfl ⟨by decide, by decide⟩ ⟨Nat.zero_le _, Nat.zero_le _⟩ rfl (Nat.le_of_ble_eq_true rfl) d_Mo_goAlong_31 (fun S_6 hw => ?_)
  refine j_aload_n F 3 d_Mo_goAlong_34 rfl ?_
  refine j_iload_n F 4 d_Mo_goAlong_35 rfl ?_
  refine j_iload F 1 d_Mo_goAlong_36 rfl ?_
  refine m_calli F K (c_Mo_cornerX l hw) (tw_gV tj_134 tj_135 tj_136 tj_87 tj_137) q_Mo_cornerX rfl ⟨by decide, by decide⟩ ⟨Nat.zero_le _, Nat.zero_le _⟩ rfl (Nat.le_of_ble_eq_true rfl) d_Mo_goAlong_38 (fun r_9 S_8 hw => ?_)
  refine j_istore F [(9, vi r_9), (8, vi r_5), (7, vi r_3), (6, vi v6_1), (0, .ref h), (1, vi v1), (2, vi v2), (3, vi v3), (4, vi v4), (5, vi v5)] d_Mo_goAlong_41 (by decide) rfl ?_
  refine j_aload_n F 4 d_Mo_goAlong_43 rfl ?_
  refine j_iload_n F 5 d_Mo_goAlong_44 rfl ?_
  refine j_iload F 2 d_Mo_goAlong_45 rfl ?_
  refine m_calli F K (c_Mo_cornerY l hw) (tw_gV tj_138 tj_139 tj_140 tj_87 tj_141) q_Mo_cornerY rfl ⟨by decide, by decide⟩ ⟨Nat.zero_le _, Nat.zero_le _⟩ rfl (Nat.le_of_ble_eq_true rfl) d_Mo_goAlong_47 (fun r_11 S_10 hw => ?_)
  refine j_istore F [(10, vi r_11), (9, vi r_9), (8, vi r_5), (7, vi r_3), (6, vi v6_1), (0, .ref h), (1, vi v1), (2, vi v2), (3, vi v3), (4, vi v4), (5, vi v5)] d_Mo_goAlong_50 (by decide) rfl ?_
  refine j_iload F 3 d_Mo_goAlong_52 rfl ?_
  refine j_istore F [(11, vi r_3), (10, vi r_11), (9, vi r_9), (8, vi r_5), (7, vi r_3), (6, vi v6_1), (0, .ref h), (1, vi v1), (2, vi v2), (3, vi v3), (4, vi v4), (5, vi v5)] d_Mo_goAlong_54 (by decide) rfl ?_
  refine j_iload F 4 d_Mo_goAlong_56 rfl ?_
  refine j_iload F 3 d_Mo_goAlong_58 rfl ?_
  obtain ⟨hc1, hc2, hwt, hwf⟩ := hw
  refine j_icmp_ne F 87 hc1 hc2 d_Mo_goAlong_60 rfl (fun hh => ?_) (fun hh => ?_)
  · have hw := hwt hh
    refine j_iconst F d_Mo_goAlong_87 ?_
    refine j_goto F 92 d_Mo_goAlong_88 rfl ?_
    refine j_sub [6, 7, 10, 11, 5, 3, 0] rfl ?_
    exact B92 _ _ _ _ _ _ _ _ hw
  · have hw := hwf hh
    refine j_iload F 2 d_Mo_goAlong_63 rfl ?_
    refine j_iload F 1 d_Mo_goAlong_65 rfl ?_
    refine j_iload_n F 8 d_Mo_goAlong_67 rfl ?_
    refine j_iload_n F 9 d_Mo_goAlong_68 rfl ?_
    refine j_callSl F (c_Mo_apart l hw) (tw_gS tj_233 tj_234 tj_87 tj_235) q_Mo_apart rfl ⟨by decide, by decide⟩ ⟨Nat.zero_le _, Nat.zero_le _⟩ rfl (Nat.le_of_ble_eq_true rfl) d_Mo_goAlong_69 (fun r_12 hw => ?_)
    refine j_iload F 2 d_Mo_goAlong_72 rfl ?_
    refine j_iload F 1 d_Mo_goAlong_74 rfl ?_
    refine j_iload F 10 d_Mo_goAlong_76 rfl ?_
    refine j_iload F 11 d_Mo_goAlong_78 rfl ?_
    refine j_callSl F (c_Mo_apart l hw) (tw_gS tj_233 tj_234 tj_87 tj_235) q_Mo_apart rfl ⟨by decide, by decide⟩ ⟨Nat.zero_le _, Nat.zero_le _⟩ rfl (Nat.le_of_ble_eq_true rfl) d_Mo_goAlong_80 (fun r_13 hw => ?_)
    obtain ⟨hc1, hc2, hwt, hwf⟩ := hw
    refine j_lcmp_le F 91 hc1 hc2 d_Mo_goAlong_83 d_Mo_goAlong_84 rfl (fun hh => ?_) (fun hh => ?_)
    · have hw := hwt hh
      refine j_iconst F d_Mo_goAlong_91 ?_
      refine j_sub [6, 7, 10, 11, 5, 3, 0] rfl ?_
      exact B92 _ _ _ _ _ _ _ _ hw
    · have hw := hwf hh
      refine j_iconst F d_Mo_goAlong_87 ?_
      refine j_goto F 92 d_Mo_goAlong_88 rfl ?_
      refine j_sub [6, 7, 10, 11, 5, 3, 0] rfl ?_
      exact B92 _ _ _ _ _ _ _ _ hw
theorem tj_236 : (Jvm.Cond.methodLink "LandBookModel" (237 : Nat) ({ cls := "LandBookModel", name := "goAlong", desc := "(IIIII)V" } : Jvm.MethodName)) ∈ tw_G := tw_in (List.mem_of_getElem? (i := 1315) (by decide +kernel)) rfl
theorem tj_237 : (Jvm.Cond.instanceMethod ({ cls := "LandBookModel", name := "goAlong", desc := "(IIIII)V" } : Jvm.MethodName)) ∈ tw_G := tw_in (List.mem_of_getElem? (i := 1317) (by decide +kernel)) rfl
theorem tj_238 : (Jvm.Cond.selects "LandBookModel" ⟨"LandBookModel", "goAlong", "(IIIII)V"⟩ ⟨"LandBookModel", "goAlong", "(IIIII)V"⟩) ∈ tw_G := tw_in (List.mem_of_getElem? (i := 43) (by decide +kernel)) rfl
theorem tj_239 : (Jvm.Cond.code ({ cls := "LandBookModel", name := "goAlong", desc := "(IIIII)V" } : Jvm.MethodName) prog_13_method_44_code (13 : Nat) (Option.none : Option Jvm.ClassFile.FieldType)) ∈ tw_G := tw_in (List.mem_of_getElem? (i := 1318) (by decide +kernel)) rfl
abbrev y_Mo_makePart : MethodName := ⟨"LandBookModel", "makePart", "(II)V"⟩
theorem q_Mo_makePart : y_Mo_makePart.cls = "LandBookModel" ∧ y_Mo_makePart.cls ≠ "java/lang/invoke/MethodHandle" ∧ y_Mo_makePart.cls ≠ "java/lang/invoke/VarHandle" ∧ (parseMethodDescriptor y_Mo_makePart.desc).map (fun d => d.parameters.length) = some 2 := by decide +kernel
theorem d_Mo_makePart_0 : decode prog_13_method_45_code 0 = .ok (.aload_n 0, 1) := by decide +kernel
theorem d_Mo_makePart_1 : decode prog_13_method_45_code 1 = .ok (.getfield 106, 3) := by decide +kernel
theorem d_Mo_makePart_4 : decode prog_13_method_45_code 4 = .ok (.iconst 1, 1) := by decide +kernel
theorem d_Mo_makePart_5 : decode prog_13_method_45_code 5 = .ok (.isub, 1) := by decide +kernel
theorem d_Mo_makePart_6 : decode prog_13_method_45_code 6 = .ok (.istore_n 3, 1) := by decide +kernel
theorem d_Mo_makePart_7 : decode prog_13_method_45_code 7 = .ok (.iload_n 2, 1) := by decide +kernel
theorem d_Mo_makePart_8 : decode prog_13_method_45_code 8 = .ok (.ifCond .ne 7, 3) := by decide +kernel
theorem d_Mo_makePart_15 : decode prog_13_method_45_code 15 = .ok (.iload_n 3, 1) := by decide +kernel
theorem d_Mo_makePart_11 : decode prog_13_method_45_code 11 = .ok (.iconst 0, 1) := by decide +kernel
theorem d_Mo_makePart_12 : decode prog_13_method_45_code 12 = .ok (.goto 4, 3) := by decide +kernel
theorem d_Mo_makePart_16 : decode prog_13_method_45_code 16 = .ok (.istore 4, 2) := by decide +kernel
theorem d_Mo_makePart_18 : decode prog_13_method_45_code 18 = .ok (.iload_n 3, 1) := by decide +kernel
theorem d_Mo_makePart_19 : decode prog_13_method_45_code 19 = .ok (.iload 4, 2) := by decide +kernel
theorem d_Mo_makePart_21 : decode prog_13_method_45_code 21 = .ok (.isub, 1) := by decide +kernel
theorem d_Mo_makePart_22 : decode prog_13_method_45_code 22 = .ok (.istore 5, 2) := by decide +kernel
theorem d_Mo_makePart_24 : decode prog_13_method_45_code 24 = .ok (.aload_n 0, 1) := by decide +kernel
theorem d_Mo_makePart_25 : decode prog_13_method_45_code 25 = .ok (.iconst 0, 1) := by decide +kernel
theorem d_Mo_makePart_26 : decode prog_13_method_45_code 26 = .ok (.putfield 132, 3) := by decide +kernel
theorem d_Mo_makePart_29 : decode prog_13_method_45_code 29 = .ok (.aload_n 0, 1) := by decide +kernel
theorem d_Mo_makePart_30 : decode prog_13_method_45_code 30 = .ok (.iload_n 1, 1) := by decide +kernel
theorem d_Mo_makePart_31 : decode prog_13_method_45_code 31 = .ok (.aload_n 0, 1) := by decide +kernel
theorem d_Mo_makePart_32 : decode prog_13_method_45_code 32 = .ok (.getfield 7, 3) := by decide +kernel
theorem d_Mo_makePart_35 : decode prog_13_method_45_code 35 = .ok (.iload 4, 2) := by decide +kernel
theorem d_Mo_makePart_37 : decode prog_13_method_45_code 37 = .ok (.iaload, 1) := by decide +kernel
theorem d_Mo_makePart_38 : decode prog_13_method_45_code 38 = .ok (.aload_n 0, 1) := by decide +kernel
theorem d_Mo_makePart_39 : decode prog_13_method_45_code 39 = .ok (.getfield 13, 3) := by decide +kernel
theorem d_Mo_makePart_42 : decode prog_13_method_45_code 42 = .ok (.iload 4, 2) := by decide +kernel
theorem d_Mo_makePart_44 : decode prog_13_method_45_code 44 = .ok (.iaload, 1) := by decide +kernel
theorem d_Mo_makePart_45 : decode prog_13_method_45_code 45 = .ok (.aload_n 0, 1) := by decide +kernel
theorem d_Mo_makePart_46 : decode prog_13_method_45_code 46 = .ok (.getfield 7, 3) := by decide +kernel
theorem d_Mo_makePart_49 : decode prog_13_method_45_code 49 = .ok (.iload 5, 2) := by decide +kernel
theorem d_Mo_makePart_51 : decode prog_13_method_45_code 51 = .ok (.iaload, 1) := by decide +kernel
theorem d_Mo_makePart_52 : decode prog_13_method_45_code 52 = .ok (.aload_n 0, 1) := by decide +kernel
theorem d_Mo_makePart_53 : decode prog_13_method_45_code 53 = .ok (.getfield 13, 3) := by decide +kernel
theorem d_Mo_makePart_56 : decode prog_13_method_45_code 56 = .ok (.iload 5, 2) := by decide +kernel
theorem d_Mo_makePart_58 : decode prog_13_method_45_code 58 = .ok (.iaload, 1) := by decide +kernel
theorem d_Mo_makePart_59 : decode prog_13_method_45_code 59 = .ok (.invokevirtual 237, 3) := by decide +kernel
theorem d_Mo_makePart_62 : decode prog_13_method_45_code 62 = .ok (.iconst 1, 1) := by decide +kernel
theorem d_Mo_makePart_63 : decode prog_13_method_45_code 63 = .ok (.istore 6, 2) := by decide +kernel
theorem d_Mo_makePart_65 : decode prog_13_method_45_code 65 = .ok (.iload 6, 2) := by decide +kernel
theorem d_Mo_makePart_67 : decode prog_13_method_45_code 67 = .ok (.iload_n 3, 1) := by decide +kernel
theorem d_Mo_makePart_68 : decode prog_13_method_45_code 68 = .ok (.if_icmp .ge 42, 3) := by decide +kernel
theorem d_Mo_makePart_110 : decode prog_13_method_45_code 110 = .ok (.aload_n 0, 1) := by decide +kernel
theorem d_Mo_makePart_111 : decode prog_13_method_45_code 111 = .ok (.invokevirtual 167, 3) := by decide +kernel
theorem d_Mo_makePart_114 : decode prog_13_method_45_code 114 = .ok (.return_, 1) := by decide +kernel
theorem d_Mo_makePart_71 : decode prog_13_method_45_code 71 = .ok (.iload_n 2, 1) := by decide +kernel
theorem d_Mo_makePart_72 : decode prog_13_method_45_code 72 = .ok (.ifCond .ne 10, 3) := by decide +kernel
theorem d_Mo_makePart_82 : decode prog_13_method_45_code 82 = .ok (.iload 6, 2) := by decide +kernel
theorem d_Mo_makePart_75 : decode prog_13_method_45_code 75 = .ok (.iload_n 3, 1) := by decide +kernel
theorem d_Mo_makePart_76 : decode prog_13_method_45_code 76 = .ok (.iload 6, 2) := by decide +kernel
theorem d_Mo_makePart_78 : decode prog_13_method_45_code 78 = .ok (.isub, 1) := by decide +kernel
theorem d_Mo_makePart_79 : decode prog_13_method_45_code 79 = .ok (.goto 5, 3) := by decide +kernel
theorem d_Mo_makePart_84 : decode prog_13_method_45_code 84 = .ok (.istore 7, 2) := by decide +kernel
theorem d_Mo_makePart_86 : decode prog_13_method_45_code 86 = .ok (.aload_n 0, 1) := by decide +kernel
theorem d_Mo_makePart_87 : decode prog_13_method_45_code 87 = .ok (.aload_n 0, 1) := by decide +kernel
theorem d_Mo_makePart_88 : decode prog_13_method_45_code 88 = .ok (.getfield 7, 3) := by decide +kernel
theorem d_Mo_makePart_91 : decode prog_13_method_45_code 91 = .ok (.iload 7, 2) := by decide +kernel
theorem d_Mo_makePart_93 : decode prog_13_method_45_code 93 = .ok (.iaload, 1) := by decide +kernel
theorem d_Mo_makePart_94 : decode prog_13_method_45_code 94 = .ok (.aload_n 0, 1) := by decide +kernel
theorem d_Mo_makePart_95 : decode prog_13_method_45_code 95 = .ok (.getfield 13, 3) := by decide +kernel
theorem d_Mo_makePart_98 : decode prog_13_method_45_code 98 = .ok (.iload 7, 2) := by decide +kernel
theorem d_Mo_makePart_100 : decode prog_13_method_45_code 100 = .ok (.iaload, 1) := by decide +kernel
theorem d_Mo_makePart_101 : decode prog_13_method_45_code 101 = .ok (.invokevirtual 163, 3) := by decide +kernel
theorem d_Mo_makePart_104 : decode prog_13_method_45_code 104 = .ok (.iinc 6 1, 3) := by decide +kernel
theorem d_Mo_makePart_107 : decode prog_13_method_45_code 107 = .ok (.goto (-42), 3) := by decide +kernel
def wp_Mo_makePart_84 (post : MS → Prop) (k65 : Int → Int → Int → MS → Prop) (v2 : Int) (v3 : Int) (v6 : Int) (s0 : Int) (S : MS) : Prop := ixR s0 32 ∧ (ixR s0 32 ∧ (wp_Mo_make (fun S_1 => k65 v2 v3 (v6 + 1) S_1) (S.2 5 s0.toNat) (S.2 6 s0.toNat) S))
def wp_Mo_makePart_65 (post : MS → Prop) : Nat → Int → Int → Int → MS → Prop
  | 0, _, _, _, _ => False
  | n + 1, v2, v3, v6, S => inR v6 ∧ inR v3 ∧ (v3 ≤ v6 → (wp_Mo_tidy (fun S_1 => post S_1)  S)) ∧ (¬ (v3 ≤ v6) → (inR v2 ∧ (¬ (v2 = 0) → wp_Mo_makePart_84 post (wp_Mo_makePart_65 post n) v2 v3 v6 v6 S) ∧ (v2 = 0 → (wp_Mo_makePart_84 post (wp_Mo_makePart_65 post n) v2 v3 v6 (v3 - v6) S))))
def wp_Mo_makePart_16 (post : MS → Prop) (v1 : Int) (v2 : Int) (v3 : Int) (s0 : Int) (S : MS) : Prop := ∀ v5_1 : Int, v5_1 = (v3 - s0) → (∀ S_2 : MS, S_2 = ms_i S 33 0 → ixR s0 32 ∧ (ixR s0 32 ∧ (ixR v5_1 32 ∧ (ixR v5_1 32 ∧ (wp_Mo_goAlong (fun S_3 => ∃ n0 : Nat, wp_Mo_makePart_65 post n0 v2 v3 1 S_3) v1 (S_2.2 5 s0.toNat) (S_2.2 6 s0.toNat) (S_2.2 5 v5_1.toNat) (S_2.2 6 v5_1.toNat) S_2)))))
def wp_Mo_makePart (post : MS → Prop) (v1 : Int) (v2 : Int) (S : MS) : Prop := ∀ v3_1 : Int, v3_1 = ((S.1 4) - 1) → inR v2 ∧ (¬ (v2 = 0) → wp_Mo_makePart_16 post v1 v2 v3_1 v3_1 S) ∧ (v2 = 0 → wp_Mo_makePart_16 post v1 v2 v3_1 0 S)
set_option maxHeartbeats 4000000 in
set_option maxRecDepth 100000 in
theorem c_Mo_makePart (l : Launch) {D : va_G} {h : Nat} {ad : Nat → Nat} {kc : Nat → ClassId} {post : MS → Prop} {v1 : Int} {v2 : Int} {S : MS} (hw : wp_Mo_makePart post v1 v2 S) : jMv l D h ad kc y_Mo_makePart prog_13_method_45_code 8 none 4 109 S [vi v1, vi v2] post := by
  refine j_mov (own := "LandBookModel") (by decide) rfl (Nat.le_of_ble_eq_true rfl) (fun X F K hret => ?_)
  have B65 : ∀ (n0 : Nat) (v2 : Int) (v3 : Int) (v6 : Int) (S : MS), wp_Mo_makePart_65 post n0 v2 v3 v6 S → jat l D X 8 65 [(0, .ref h), (2, vi v2), (3, vi v3), (6, vi v6)] [] (mw h ad kc S) 0 0 := by
    intro n0
    induction n0 with
    | zero => intro v2 v3 v6 S hw; exact hw.elim
    | succ n65 ih65 =>
      have B84 : ∀ (v2 : Int) (v3 : Int) (v6 : Int) (s0 : Int) (S : MS), wp_Mo_makePart_84 post (wp_Mo_makePart_65 post n65) v2 v3 v6 s0 S → jat l D X 8 84 [(0, .ref h), (2, vi v2), (3, vi v3), (6, vi v6)] [vi s0] (mw h ad kc S) 0 0 := by
        intro v2 v3 v6 s0 S hw
        unfold wp_Mo_makePart_84 at hw
        refine j_istore F [(7, vi s0), (0, .ref h), (2, vi v2), (3, vi v3), (6, vi v6)] d_Mo_makePart_84 (by decide) rfl ?_
        refine j_aload_n F 1 d_Mo_makePart_86 rfl ?_
        refine j_aload_n F 1 d_Mo_makePart_87 rfl ?_
        refine m_geta F K 5 (by decide) (by decide) tj_112 rfl d_Mo_makePart_88 ?_
        refine j_iload F 0 d_Mo_makePart_91 rfl ?_
        obtain ⟨hc1, hw⟩ := hw
        refine m_iald F K 5 0 rfl rfl hc1 d_Mo_makePart_93 ?_
        refine j_aload_n F 1 d_Mo_makePart_94 rfl ?_
        refine m_geta F K 6 (by decide) (by decide) tj_113 rfl d_Mo_makePart_95 ?_
        refine j_iload F 0 d_Mo_makePart_98 rfl ?_
        obtain ⟨hc1, hw⟩ := hw
        refine m_iald F K 6 1 rfl rfl hc1 d_Mo_makePart_100 ?_
        refine m_callv F K (c_Mo_make l hw) (tw_gV tj_158 tj_159 tj_160 tj_87 tj_161) q_Mo_make rfl ⟨by decide, by decide⟩ ⟨Nat.zero_le _, Nat.zero_le _⟩ rfl (Nat.le_of_ble_eq_true rfl) d_Mo_makePart_101 (fun S_1 hw => ?_)
        refine j_iinc F 4 [(6, vi (v6 + 1)), (7, vi s0), (0, .ref h), (2, vi v2), (3, vi v3)] d_Mo_makePart_104 rfl (by decide) rfl ?_
        refine j_goto F 65 d_Mo_makePart_107 rfl ?_
        refine j_sub [2, 3, 4, 0] rfl ?_
        exact ih65 _ _ _ _ hw
      intro v2 v3 v6 S hw
      unfold wp_Mo_makePart_65 at hw
      refine j_iload F 3 d_Mo_makePart_65 rfl ?_
      refine j_iload_n F 2 d_Mo_makePart_67 rfl ?_
      obtain ⟨hc1, hc2, hwt, hwf⟩ := hw
      refine j_icmp_ge F 110 hc1 hc2 d_Mo_makePart_68 rfl (fun hh => ?_) (fun hh => ?_)
      · have hw := hwt hh
        refine j_aload_n F 0 d_Mo_makePart_110 rfl ?_
        refine m_callv F K (c_Mo_tidy l hw) (tw_gV tj_149 tj_150 tj_151 tj_87 tj_152) q_Mo_tidy rfl ⟨by decide, by decide⟩ ⟨Nat.zero_le _, Nat.zero_le _⟩ rfl (Nat.le_of_ble_eq_true rfl) d_Mo_makePart_111 (fun S_1 hw => ?_)
        exact hret _ _ _ hw d_Mo_makePart_114
      · have hw := hwf hh
        refine j_iload_n F 1 d_Mo_makePart_71 rfl ?_
        obtain ⟨hc1, hwt, hwf⟩ := hw
        refine j_if_ne F 82 hc1 d_Mo_makePart_72 rfl (fun hh => ?_) (fun hh => ?_)
        · have hw := hwt hh
          refine j_iload F 3 d_Mo_makePart_82 rfl ?_
          exact B84 _ _ _ _ _ hw
        · have hw := hwf hh
          refine j_iload_n F 2 d_Mo_makePart_75 rfl ?_
          refine j_iload F 3 d_Mo_makePart_76 rfl ?_
          refine j_isub F d_Mo_makePart_78 ?_
          refine j_goto F 84 d_Mo_makePart_79 rfl ?_
          exact B84 _ _ _ _ _ hw
  have B16 : ∀ (v1 : Int) (v2 : Int) (v3 : Int) (s0 : Int) (S : MS), wp_Mo_makePart_16 post v1 v2 v3 s0 S → jat l D X 8 16 [(0, .ref h), (1, vi v1), (2, vi v2), (3, vi v3)] [vi s0] (mw h ad kc S) 0 0 := by
    intro v1 v2 v3 s0 S hw
    unfold wp_Mo_makePart_16 at hw
    refine j_istore F [(4, vi s0), (0, .ref h), (1, vi v1), (2, vi v2), (3, vi v3)] d_Mo_makePart_16 (by decide) rfl ?_
    refine j_iload_n F 4 d_Mo_makePart_18 rfl ?_
    refine j_iload F 0 d_Mo_makePart_19 rfl ?_
    refine j_isub F d_Mo_makePart_21 ?_
    refine j_nmi (fun v5_1 e_v5_1 => ?_)
    have hw := hw v5_1 e_v5_1
    refine j_istore F [(5, vi v5_1), (4, vi s0), (0, .ref h), (1, vi v1), (2, vi v2), (3, vi v3)] d_Mo_makePart_22 (by decide) rfl ?_
    refine j_aload_n F 2 d_Mo_makePart_24 rfl ?_
    refine j_iconst F d_Mo_makePart_25 ?_
    refine m_puti F K 33 (by decide) rfl tj_121 rfl rfl (ty := .int) (by decide +kernel) rfl rfl d_Mo_makePart_26 (fun S_2 e_S_2 => ?_)
    have hw := hw S_2 e_S_2
    refine j_aload_n F 2 d_Mo_makePart_29 rfl ?_
    refine j_iload_n F 3 d_Mo_makePart_30 rfl ?_
    refine j_aload_n F 2 d_Mo_makePart_31 rfl ?_
    refine m_geta F K 5 (by decide) (by decide) tj_112 rfl d_Mo_makePart_32 ?_
    refine j_iload F 1 d_Mo_makePart_35 rfl ?_
    obtain ⟨hc1, hw⟩ := hw
    refine m_iald F K 5 0 rfl rfl hc1 d_Mo_makePart_37 ?_
    refine j_aload_n F 2 d_Mo_makePart_38 rfl ?_
    refine m_geta F K 6 (by decide) (by decide) tj_113 rfl d_Mo_makePart_39 ?_
    refine j_iload F 1 d_Mo_makePart_42 rfl ?_
    obtain ⟨hc1, hw⟩ := hw
    refine m_iald F K 6 1 rfl rfl hc1 d_Mo_makePart_44 ?_
    refine j_aload_n F 2 d_Mo_makePart_45 rfl ?_
    refine m_geta F K 5 (by decide) (by decide) tj_112 rfl d_Mo_makePart_46 ?_
    refine j_iload F 0 d_Mo_makePart_49 rfl ?_
    obtain ⟨hc1, hw⟩ := hw
    refine m_iald F K 5 0 rfl rfl hc1 d_Mo_makePart_51 ?_
    refine j_aload_n F 2 d_Mo_makePart_52 rfl ?_
    refine m_geta F K 6 (by decide) (by decide) tj_113 rfl d_Mo_makePart_53 ?_
    refine j_iload F 0 d_Mo_makePart_56 rfl ?_
    obtain ⟨hc1, hw⟩ := hw
    refine m_iald F K 6 1 rfl rfl hc1 d_Mo_makePart_58 ?_
    refine m_callv F K (c_Mo_goAlong l hw) (tw_gV tj_236 tj_237 tj_238 tj_87 tj_239) q_Mo_goAlong rfl ⟨by decide, by decide⟩ ⟨Nat.zero_le _, Nat.zero_le _⟩ rfl (Nat.le_of_ble_eq_true rfl) d_Mo_makePart_59 (fun S_3 hw => ?_)
    refine j_iconst F d_Mo_makePart_62 ?_
    refine j_istore F [(6, vi 1), (5, vi v5_1), (4, vi s0), (0, .ref h), (1, vi v1), (2, vi v2), (3, vi v3)] d_Mo_makePart_63 (by decide) rfl ?_
    refine j_sub [3, 5, 6, 0] rfl ?_
    obtain ⟨n0, hw⟩ := hw
    exact B65 n0 _ _ _ _ hw
  unfold wp_Mo_makePart at hw
  show jat l D X 8 0 [(0, .ref h), (1, vi v1), (2, vi v2)] [] (mw h ad kc S) 0 0
  refine j_aload_n F 0 d_Mo_makePart_0 rfl ?_
  refine m_geti F K 4 (by decide) rfl tj_111 rfl d_Mo_makePart_1 ?_
  refine j_iconst F d_Mo_makePart_4 ?_
  refine j_isub F d_Mo_makePart_5 ?_
  refine j_nmi (fun v3_1 e_v3_1 => ?_)
  have hw := hw v3_1 e_v3_1
  refine j_istore_n F [(3, vi v3_1), (0, .ref h), (1, vi v1), (2, vi v2)] d_Mo_makePart_6 (by decide) rfl ?_
  refine j_iload_n F 3 d_Mo_makePart_7 rfl ?_
  obtain ⟨hc1, hwt, hwf⟩ := hw
  refine j_if_ne F 15 hc1 d_Mo_makePart_8 rfl (fun hh => ?_) (fun hh => ?_)
  · have hw := hwt hh
    refine j_iload_n F 0 d_Mo_makePart_15 rfl ?_
    refine j_sub [1, 2, 3, 0] rfl ?_
    exact B16 _ _ _ _ _ hw
  · have hw := hwf hh
    refine j_iconst F d_Mo_makePart_11 ?_
    refine j_goto F 16 d_Mo_makePart_12 rfl ?_
    refine j_sub [1, 2, 3, 0] rfl ?_
    exact B16 _ _ _ _ _ hw
abbrev y_Mo_beget : MethodName := ⟨"LandBookModel", "beget", "(III)V"⟩
theorem q_Mo_beget : y_Mo_beget.cls = "LandBookModel" ∧ y_Mo_beget.cls ≠ "java/lang/invoke/MethodHandle" ∧ y_Mo_beget.cls ≠ "java/lang/invoke/VarHandle" ∧ (parseMethodDescriptor y_Mo_beget.desc).map (fun d => d.parameters.length) = some 3 := by decide +kernel
theorem d_Mo_beget_0 : decode prog_13_method_46_code 0 = .ok (.aload_n 0, 1) := by decide +kernel
theorem d_Mo_beget_1 : decode prog_13_method_46_code 1 = .ok (.dup, 1) := by decide +kernel
theorem d_Mo_beget_2 : decode prog_13_method_46_code 2 = .ok (.getfield 173, 3) := by decide +kernel
theorem d_Mo_beget_5 : decode prog_13_method_46_code 5 = .ok (.iconst 1, 1) := by decide +kernel
theorem d_Mo_beget_6 : decode prog_13_method_46_code 6 = .ok (.iadd, 1) := by decide +kernel
theorem d_Mo_beget_7 : decode prog_13_method_46_code 7 = .ok (.putfield 173, 3) := by decide +kernel
theorem d_Mo_beget_10 : decode prog_13_method_46_code 10 = .ok (.aload_n 0, 1) := by decide +kernel
theorem d_Mo_beget_11 : decode prog_13_method_46_code 11 = .ok (.getfield 25, 3) := by decide +kernel
theorem d_Mo_beget_14 : decode prog_13_method_46_code 14 = .ok (.aload_n 0, 1) := by decide +kernel
theorem d_Mo_beget_15 : decode prog_13_method_46_code 15 = .ok (.getfield 173, 3) := by decide +kernel
theorem d_Mo_beget_18 : decode prog_13_method_46_code 18 = .ok (.iload_n 1, 1) := by decide +kernel
theorem d_Mo_beget_19 : decode prog_13_method_46_code 19 = .ok (.iastore, 1) := by decide +kernel
theorem d_Mo_beget_20 : decode prog_13_method_46_code 20 = .ok (.aload_n 0, 1) := by decide +kernel
theorem d_Mo_beget_21 : decode prog_13_method_46_code 21 = .ok (.getfield 28, 3) := by decide +kernel
theorem d_Mo_beget_24 : decode prog_13_method_46_code 24 = .ok (.aload_n 0, 1) := by decide +kernel
theorem d_Mo_beget_25 : decode prog_13_method_46_code 25 = .ok (.getfield 173, 3) := by decide +kernel
theorem d_Mo_beget_28 : decode prog_13_method_46_code 28 = .ok (.iconst 0, 1) := by decide +kernel
theorem d_Mo_beget_29 : decode prog_13_method_46_code 29 = .ok (.iastore, 1) := by decide +kernel
theorem d_Mo_beget_30 : decode prog_13_method_46_code 30 = .ok (.aload_n 0, 1) := by decide +kernel
theorem d_Mo_beget_31 : decode prog_13_method_46_code 31 = .ok (.getfield 31, 3) := by decide +kernel
theorem d_Mo_beget_34 : decode prog_13_method_46_code 34 = .ok (.aload_n 0, 1) := by decide +kernel
theorem d_Mo_beget_35 : decode prog_13_method_46_code 35 = .ok (.getfield 173, 3) := by decide +kernel
theorem d_Mo_beget_38 : decode prog_13_method_46_code 38 = .ok (.iload_n 2, 1) := by decide +kernel
theorem d_Mo_beget_39 : decode prog_13_method_46_code 39 = .ok (.iastore, 1) := by decide +kernel
theorem d_Mo_beget_40 : decode prog_13_method_46_code 40 = .ok (.aload_n 0, 1) := by decide +kernel
theorem d_Mo_beget_41 : decode prog_13_method_46_code 41 = .ok (.getfield 34, 3) := by decide +kernel
theorem d_Mo_beget_44 : decode prog_13_method_46_code 44 = .ok (.aload_n 0, 1) := by decide +kernel
theorem d_Mo_beget_45 : decode prog_13_method_46_code 45 = .ok (.getfield 173, 3) := by decide +kernel
theorem d_Mo_beget_48 : decode prog_13_method_46_code 48 = .ok (.iload_n 3, 1) := by decide +kernel
theorem d_Mo_beget_49 : decode prog_13_method_46_code 49 = .ok (.iastore, 1) := by decide +kernel
theorem d_Mo_beget_50 : decode prog_13_method_46_code 50 = .ok (.aload_n 0, 1) := by decide +kernel
theorem d_Mo_beget_51 : decode prog_13_method_46_code 51 = .ok (.aload_n 0, 1) := by decide +kernel
theorem d_Mo_beget_52 : decode prog_13_method_46_code 52 = .ok (.getfield 173, 3) := by decide +kernel
theorem d_Mo_beget_55 : decode prog_13_method_46_code 55 = .ok (.invokevirtual 170, 3) := by decide +kernel
theorem d_Mo_beget_58 : decode prog_13_method_46_code 58 = .ok (.return_, 1) := by decide +kernel
def wp_Mo_beget (post : MS → Prop) (v1 : Int) (v2 : Int) (v3 : Int) (S : MS) : Prop := (∀ S_1 : MS, S_1 = ms_i S 7 ((S.1 7) + 1) → ixR (S_1.1 7) 302 ∧ (∀ S_2 : MS, S_2 = ms_a S_1 11 (S_1.1 7) v1 → ixR (S_2.1 7) 302 ∧ (∀ S_3 : MS, S_3 = ms_a S_2 12 (S_2.1 7) 0 → ixR (S_3.1 7) 302 ∧ (∀ S_4 : MS, S_4 = ms_a S_3 13 (S_3.1 7) v2 → ixR (S_4.1 7) 302 ∧ (∀ S_5 : MS, S_5 = ms_a S_4 14 (S_4.1 7) v3 → wp_Mo_give (fun S_6 => post S_6) (S_5.1 7) S_5)))))
set_option maxHeartbeats 4000000 in
set_option maxRecDepth 100000 in
theorem c_Mo_beget (l : Launch) {D : va_G} {h : Nat} {ad : Nat → Nat} {kc : Nat → ClassId} {post : MS → Prop} {v1 : Int} {v2 : Int} {v3 : Int} {S : MS} (hw : wp_Mo_beget post v1 v2 v3 S) : jMv l D h ad kc y_Mo_beget prog_13_method_46_code 4 none 1 24 S [vi v1, vi v2, vi v3] post := by
  refine j_mov (own := "LandBookModel") (by decide) rfl (Nat.le_of_ble_eq_true rfl) (fun X F K hret => ?_)
  unfold wp_Mo_beget at hw
  show jat l D X 4 0 [(0, .ref h), (1, vi v1), (2, vi v2), (3, vi v3)] [] (mw h ad kc S) 0 0
  refine j_aload_n F 0 d_Mo_beget_0 rfl ?_
  refine j_dup F rfl d_Mo_beget_1 ?_
  refine m_geti F K 7 (by decide) rfl tj_157 rfl d_Mo_beget_2 ?_
  refine j_iconst F d_Mo_beget_5 ?_
  refine j_iadd F d_Mo_beget_6 ?_
  refine m_puti F K 7 (by decide) rfl tj_157 rfl rfl (ty := .int) (by decide +kernel) rfl rfl d_Mo_beget_7 (fun S_1 e_S_1 => ?_)
  have hw := hw S_1 e_S_1
  refine j_aload_n F 0 d_Mo_beget_10 rfl ?_
  refine m_geta F K 11 (by decide) (by decide) tj_163 rfl d_Mo_beget_11 ?_
  refine j_aload_n F 0 d_Mo_beget_14 rfl ?_
  refine m_geti F K 7 (by decide) rfl tj_157 rfl d_Mo_beget_15 ?_
  refine j_iload_n F 1 d_Mo_beget_18 rfl ?_
  obtain ⟨hc1, hw⟩ := hw
  refine m_iast F K 11 5 rfl rfl hc1 d_Mo_beget_19 (fun S_2 e_S_2 => ?_)
  have hw := hw S_2 e_S_2
  refine j_aload_n F 0 d_Mo_beget_20 rfl ?_
  refine m_geta F K 12 (by decide) (by decide) tj_168 rfl d_Mo_beget_21 ?_
  refine j_aload_n F 0 d_Mo_beget_24 rfl ?_
  refine m_geti F K 7 (by decide) rfl tj_157 rfl d_Mo_beget_25 ?_
  refine j_iconst F d_Mo_beget_28 ?_
  obtain ⟨hc1, hw⟩ := hw
  refine m_iast F K 12 6 rfl rfl hc1 d_Mo_beget_29 (fun S_3 e_S_3 => ?_)
  have hw := hw S_3 e_S_3
  refine j_aload_n F 0 d_Mo_beget_30 rfl ?_
  refine m_geta F K 13 (by decide) (by decide) tj_176 rfl d_Mo_beget_31 ?_
  refine j_aload_n F 0 d_Mo_beget_34 rfl ?_
  refine m_geti F K 7 (by decide) rfl tj_157 rfl d_Mo_beget_35 ?_
  refine j_iload_n F 2 d_Mo_beget_38 rfl ?_
  obtain ⟨hc1, hw⟩ := hw
  refine m_iast F K 13 7 rfl rfl hc1 d_Mo_beget_39 (fun S_4 e_S_4 => ?_)
  have hw := hw S_4 e_S_4
  refine j_aload_n F 0 d_Mo_beget_40 rfl ?_
  refine m_geta F K 14 (by decide) (by decide) tj_177 rfl d_Mo_beget_41 ?_
  refine j_aload_n F 0 d_Mo_beget_44 rfl ?_
  refine m_geti F K 7 (by decide) rfl tj_157 rfl d_Mo_beget_45 ?_
  refine j_iload_n F 3 d_Mo_beget_48 rfl ?_
  obtain ⟨hc1, hw⟩ := hw
  refine m_iast F K 14 8 rfl rfl hc1 d_Mo_beget_49 (fun S_5 e_S_5 => ?_)
  have hw := hw S_5 e_S_5
  refine j_aload_n F 0 d_Mo_beget_50 rfl ?_
  refine j_aload_n F 0 d_Mo_beget_51 rfl ?_
  refine m_geti F K 7 (by decide) rfl tj_157 rfl d_Mo_beget_52 ?_
  refine m_callv F K (c_Mo_give l hw) (tw_gV tj_153 tj_154 tj_155 tj_87 tj_156) q_Mo_give rfl ⟨by decide, by decide⟩ ⟨Nat.zero_le _, Nat.zero_le _⟩ rfl (Nat.le_of_ble_eq_true rfl) d_Mo_beget_55 (fun S_6 hw => ?_)
  exact hret _ _ _ hw d_Mo_beget_58
theorem tj_240 : (Jvm.Cond.methodLink "LandBookModel" (241 : Nat) ({ cls := "LandBookModel", name := "isLate", desc := "(II)Z" } : Jvm.MethodName)) ∈ tw_G := tw_in (List.mem_of_getElem? (i := 1257) (by decide +kernel)) rfl
theorem tj_241 : (Jvm.Cond.instanceMethod ({ cls := "LandBookModel", name := "isLate", desc := "(II)Z" } : Jvm.MethodName)) ∈ tw_G := tw_in (List.mem_of_getElem? (i := 1259) (by decide +kernel)) rfl
theorem tj_242 : (Jvm.Cond.selects "LandBookModel" ⟨"LandBookModel", "isLate", "(II)Z"⟩ ⟨"LandBookModel", "isLate", "(II)Z"⟩) ∈ tw_G := tw_in (List.mem_of_getElem? (i := 31) (by decide +kernel)) rfl
theorem tj_243 : (Jvm.Cond.code ({ cls := "LandBookModel", name := "isLate", desc := "(II)Z" } : Jvm.MethodName) prog_13_method_31_code (5 : Nat) (Option.some Jvm.ClassFile.FieldType.boolean)) ∈ tw_G := tw_in (List.mem_of_getElem? (i := 1260) (by decide +kernel)) rfl
theorem tj_244 : (Jvm.Cond.methodLink "LandBookModel" (244 : Nat) ({ cls := "LandBookModel", name := "isChain", desc := "(I)Z" } : Jvm.MethodName)) ∈ tw_G := tw_in (List.mem_of_getElem? (i := 1277) (by decide +kernel)) rfl
theorem tj_245 : (Jvm.Cond.instanceMethod ({ cls := "LandBookModel", name := "isChain", desc := "(I)Z" } : Jvm.MethodName)) ∈ tw_G := tw_in (List.mem_of_getElem? (i := 1279) (by decide +kernel)) rfl
theorem tj_246 : (Jvm.Cond.selects "LandBookModel" ⟨"LandBookModel", "isChain", "(I)Z"⟩ ⟨"LandBookModel", "isChain", "(I)Z"⟩) ∈ tw_G := tw_in (List.mem_of_getElem? (i := 36) (by decide +kernel)) rfl
theorem tj_247 : (Jvm.Cond.code ({ cls := "LandBookModel", name := "isChain", desc := "(I)Z" } : Jvm.MethodName) prog_13_method_42_code (5 : Nat) (Option.some Jvm.ClassFile.FieldType.boolean)) ∈ tw_G := tw_in (List.mem_of_getElem? (i := 1280) (by decide +kernel)) rfl
theorem tj_248 : (Jvm.Cond.methodLink "LandBookModel" (248 : Nat) ({ cls := "LandBookModel", name := "makePart", desc := "(II)V" } : Jvm.MethodName)) ∈ tw_G := tw_in (List.mem_of_getElem? (i := 1311) (by decide +kernel)) rfl
theorem tj_249 : (Jvm.Cond.instanceMethod ({ cls := "LandBookModel", name := "makePart", desc := "(II)V" } : Jvm.MethodName)) ∈ tw_G := tw_in (List.mem_of_getElem? (i := 1313) (by decide +kernel)) rfl
theorem tj_250 : (Jvm.Cond.selects "LandBookModel" ⟨"LandBookModel", "makePart", "(II)V"⟩ ⟨"LandBookModel", "makePart", "(II)V"⟩) ∈ tw_G := tw_in (List.mem_of_getElem? (i := 42) (by decide +kernel)) rfl
theorem tj_251 : (Jvm.Cond.code ({ cls := "LandBookModel", name := "makePart", desc := "(II)V" } : Jvm.MethodName) prog_13_method_45_code (8 : Nat) (Option.none : Option Jvm.ClassFile.FieldType)) ∈ tw_G := tw_in (List.mem_of_getElem? (i := 1314) (by decide +kernel)) rfl
theorem tj_252 : (Jvm.Cond.methodLink "LandBookModel" (251 : Nat) ({ cls := "LandBookModel", name := "isMuch", desc := "(IIII)Z" } : Jvm.MethodName)) ∈ tw_G := tw_in (List.mem_of_getElem? (i := 1322) (by decide +kernel)) rfl
theorem tj_253 : (Jvm.Cond.instanceMethod ({ cls := "LandBookModel", name := "isMuch", desc := "(IIII)Z" } : Jvm.MethodName)) ∈ tw_G := tw_in (List.mem_of_getElem? (i := 1324) (by decide +kernel)) rfl
theorem tj_254 : (Jvm.Cond.selects "LandBookModel" ⟨"LandBookModel", "isMuch", "(IIII)Z"⟩ ⟨"LandBookModel", "isMuch", "(IIII)Z"⟩) ∈ tw_G := tw_in (List.mem_of_getElem? (i := 44) (by decide +kernel)) rfl
theorem tj_255 : (Jvm.Cond.code ({ cls := "LandBookModel", name := "isMuch", desc := "(IIII)Z" } : Jvm.MethodName) prog_13_method_34_code (5 : Nat) (Option.some Jvm.ClassFile.FieldType.boolean)) ∈ tw_G := tw_in (List.mem_of_getElem? (i := 1325) (by decide +kernel)) rfl
theorem tj_256 : (Jvm.Cond.methodLink "LandBookModel" (254 : Nat) ({ cls := "LandBookModel", name := "accept", desc := "(IIIIII)I" } : Jvm.MethodName)) ∈ tw_G := tw_in (List.mem_of_getElem? (i := 1330) (by decide +kernel)) rfl
theorem tj_257 : (Jvm.Cond.instanceMethod ({ cls := "LandBookModel", name := "accept", desc := "(IIIIII)I" } : Jvm.MethodName)) ∈ tw_G := tw_in (List.mem_of_getElem? (i := 1332) (by decide +kernel)) rfl
theorem tj_258 : (Jvm.Cond.selects "LandBookModel" ⟨"LandBookModel", "accept", "(IIIIII)I"⟩ ⟨"LandBookModel", "accept", "(IIIIII)I"⟩) ∈ tw_G := tw_in (List.mem_of_getElem? (i := 46) (by decide +kernel)) rfl
theorem tj_259 : (Jvm.Cond.code ({ cls := "LandBookModel", name := "accept", desc := "(IIIIII)I" } : Jvm.MethodName) prog_13_method_36_code (12 : Nat) (Option.some Jvm.ClassFile.FieldType.int)) ∈ tw_G := tw_in (List.mem_of_getElem? (i := 1333) (by decide +kernel)) rfl
theorem tj_260 : (Jvm.Cond.methodLink "LandBookModel" (257 : Nat) ({ cls := "LandBookModel", name := "beget", desc := "(III)V" } : Jvm.MethodName)) ∈ tw_G := tw_in (List.mem_of_getElem? (i := 1341) (by decide +kernel)) rfl
theorem tj_261 : (Jvm.Cond.instanceMethod ({ cls := "LandBookModel", name := "beget", desc := "(III)V" } : Jvm.MethodName)) ∈ tw_G := tw_in (List.mem_of_getElem? (i := 1343) (by decide +kernel)) rfl
theorem tj_262 : (Jvm.Cond.selects "LandBookModel" ⟨"LandBookModel", "beget", "(III)V"⟩ ⟨"LandBookModel", "beget", "(III)V"⟩) ∈ tw_G := tw_in (List.mem_of_getElem? (i := 48) (by decide +kernel)) rfl
theorem tj_263 : (Jvm.Cond.code ({ cls := "LandBookModel", name := "beget", desc := "(III)V" } : Jvm.MethodName) prog_13_method_46_code (4 : Nat) (Option.none : Option Jvm.ClassFile.FieldType)) ∈ tw_G := tw_in (List.mem_of_getElem? (i := 1344) (by decide +kernel)) rfl
theorem tj_264 : (Jvm.Cond.methodLink "LandBookModel" (261 : Nat) ({ cls := "LandBookModel", name := "settle", desc := "()V" } : Jvm.MethodName)) ∈ tw_G := tw_in (List.mem_of_getElem? (i := 1345) (by decide +kernel)) rfl
theorem tj_265 : (Jvm.Cond.instanceMethod ({ cls := "LandBookModel", name := "settle", desc := "()V" } : Jvm.MethodName)) ∈ tw_G := tw_in (List.mem_of_getElem? (i := 1347) (by decide +kernel)) rfl
theorem tj_266 : (Jvm.Cond.selects "LandBookModel" ⟨"LandBookModel", "settle", "()V"⟩ ⟨"LandBookModel", "settle", "()V"⟩) ∈ tw_G := tw_in (List.mem_of_getElem? (i := 49) (by decide +kernel)) rfl
theorem tj_267 : (Jvm.Cond.code ({ cls := "LandBookModel", name := "settle", desc := "()V" } : Jvm.MethodName) prog_13_method_37_code (1 : Nat) (Option.none : Option Jvm.ClassFile.FieldType)) ∈ tw_G := tw_in (List.mem_of_getElem? (i := 1348) (by decide +kernel)) rfl
abbrev y_Mo_splitNow : MethodName := ⟨"LandBookModel", "splitNow", "(II)I"⟩
theorem q_Mo_splitNow : y_Mo_splitNow.cls = "LandBookModel" ∧ y_Mo_splitNow.cls ≠ "java/lang/invoke/MethodHandle" ∧ y_Mo_splitNow.cls ≠ "java/lang/invoke/VarHandle" ∧ (parseMethodDescriptor y_Mo_splitNow.desc).map (fun d => d.parameters.length) = some 2 := by decide +kernel
theorem d_Mo_splitNow_0 : decode prog_13_method_47_code 0 = .ok (.aload_n 0, 1) := by decide +kernel
theorem d_Mo_splitNow_1 : decode prog_13_method_47_code 1 = .ok (.iload_n 1, 1) := by decide +kernel
theorem d_Mo_splitNow_2 : decode prog_13_method_47_code 2 = .ok (.iload_n 2, 1) := by decide +kernel
theorem d_Mo_splitNow_3 : decode prog_13_method_47_code 3 = .ok (.aload_n 0, 1) := by decide +kernel
theorem d_Mo_splitNow_4 : decode prog_13_method_47_code 4 = .ok (.getfield 192, 3) := by decide +kernel
theorem d_Mo_splitNow_7 : decode prog_13_method_47_code 7 = .ok (.invokevirtual 185, 3) := by decide +kernel
theorem d_Mo_splitNow_10 : decode prog_13_method_47_code 10 = .ok (.ifCond .ne 5, 3) := by decide +kernel
theorem d_Mo_splitNow_15 : decode prog_13_method_47_code 15 = .ok (.aload_n 0, 1) := by decide +kernel
theorem d_Mo_splitNow_16 : decode prog_13_method_47_code 16 = .ok (.iload_n 1, 1) := by decide +kernel
theorem d_Mo_splitNow_17 : decode prog_13_method_47_code 17 = .ok (.iload_n 2, 1) := by decide +kernel
theorem d_Mo_splitNow_18 : decode prog_13_method_47_code 18 = .ok (.invokevirtual 241, 3) := by decide +kernel
theorem d_Mo_splitNow_21 : decode prog_13_method_47_code 21 = .ok (.ifCond .eq 6, 3) := by decide +kernel
theorem d_Mo_splitNow_27 : decode prog_13_method_47_code 27 = .ok (.aload_n 0, 1) := by decide +kernel
theorem d_Mo_splitNow_28 : decode prog_13_method_47_code 28 = .ok (.iload_n 1, 1) := by decide +kernel
theorem d_Mo_splitNow_29 : decode prog_13_method_47_code 29 = .ok (.invokevirtual 244, 3) := by decide +kernel
theorem d_Mo_splitNow_32 : decode prog_13_method_47_code 32 = .ok (.ifCond .ne 6, 3) := by decide +kernel
theorem d_Mo_splitNow_38 : decode prog_13_method_47_code 38 = .ok (.aload_n 0, 1) := by decide +kernel
theorem d_Mo_splitNow_39 : decode prog_13_method_47_code 39 = .ok (.iload_n 1, 1) := by decide +kernel
theorem d_Mo_splitNow_40 : decode prog_13_method_47_code 40 = .ok (.iconst 0, 1) := by decide +kernel
theorem d_Mo_splitNow_41 : decode prog_13_method_47_code 41 = .ok (.invokevirtual 248, 3) := by decide +kernel
theorem d_Mo_splitNow_44 : decode prog_13_method_47_code 44 = .ok (.aload_n 0, 1) := by decide +kernel
theorem d_Mo_splitNow_45 : decode prog_13_method_47_code 45 = .ok (.getfield 132, 3) := by decide +kernel
theorem d_Mo_splitNow_48 : decode prog_13_method_47_code 48 = .ok (.bipush 60, 2) := by decide +kernel
theorem d_Mo_splitNow_50 : decode prog_13_method_47_code 50 = .ok (.if_icmp .le 7, 3) := by decide +kernel
theorem d_Mo_splitNow_57 : decode prog_13_method_47_code 57 = .ok (.iconst 0, 1) := by decide +kernel
theorem d_Mo_splitNow_53 : decode prog_13_method_47_code 53 = .ok (.iconst 1, 1) := by decide +kernel
theorem d_Mo_splitNow_54 : decode prog_13_method_47_code 54 = .ok (.goto 4, 3) := by decide +kernel
theorem d_Mo_splitNow_35 : decode prog_13_method_47_code 35 = .ok (.bipush (-3), 2) := by decide +kernel
theorem d_Mo_splitNow_37 : decode prog_13_method_47_code 37 = .ok (.ireturn, 1) := by decide +kernel
theorem d_Mo_splitNow_24 : decode prog_13_method_47_code 24 = .ok (.bipush (-2), 2) := by decide +kernel
theorem d_Mo_splitNow_26 : decode prog_13_method_47_code 26 = .ok (.ireturn, 1) := by decide +kernel
theorem d_Mo_splitNow_13 : decode prog_13_method_47_code 13 = .ok (.iconst (-1), 1) := by decide +kernel
theorem d_Mo_splitNow_14 : decode prog_13_method_47_code 14 = .ok (.ireturn, 1) := by decide +kernel
theorem d_Mo_splitNow_58 : decode prog_13_method_47_code 58 = .ok (.istore_n 3, 1) := by decide +kernel
theorem d_Mo_splitNow_59 : decode prog_13_method_47_code 59 = .ok (.aload_n 0, 1) := by decide +kernel
theorem d_Mo_splitNow_60 : decode prog_13_method_47_code 60 = .ok (.iload_n 1, 1) := by decide +kernel
theorem d_Mo_splitNow_61 : decode prog_13_method_47_code 61 = .ok (.iconst 1, 1) := by decide +kernel
theorem d_Mo_splitNow_62 : decode prog_13_method_47_code 62 = .ok (.invokevirtual 248, 3) := by decide +kernel
theorem d_Mo_splitNow_65 : decode prog_13_method_47_code 65 = .ok (.iload_n 3, 1) := by decide +kernel
theorem d_Mo_splitNow_66 : decode prog_13_method_47_code 66 = .ok (.ifCond .ne 12, 3) := by decide +kernel
theorem d_Mo_splitNow_78 : decode prog_13_method_47_code 78 = .ok (.iconst 1, 1) := by decide +kernel
theorem d_Mo_splitNow_79 : decode prog_13_method_47_code 79 = .ok (.goto 4, 3) := by decide +kernel
theorem d_Mo_splitNow_69 : decode prog_13_method_47_code 69 = .ok (.aload_n 0, 1) := by decide +kernel
theorem d_Mo_splitNow_70 : decode prog_13_method_47_code 70 = .ok (.getfield 132, 3) := by decide +kernel
theorem d_Mo_splitNow_73 : decode prog_13_method_47_code 73 = .ok (.bipush 60, 2) := by decide +kernel
theorem d_Mo_splitNow_75 : decode prog_13_method_47_code 75 = .ok (.if_icmp .le 7, 3) := by decide +kernel
theorem d_Mo_splitNow_82 : decode prog_13_method_47_code 82 = .ok (.iconst 0, 1) := by decide +kernel
theorem d_Mo_splitNow_83 : decode prog_13_method_47_code 83 = .ok (.istore_n 3, 1) := by decide +kernel
theorem d_Mo_splitNow_84 : decode prog_13_method_47_code 84 = .ok (.iload_n 3, 1) := by decide +kernel
theorem d_Mo_splitNow_85 : decode prog_13_method_47_code 85 = .ok (.ifCond .ne 17, 3) := by decide +kernel
theorem d_Mo_splitNow_102 : decode prog_13_method_47_code 102 = .ok (.bipush (-4), 2) := by decide +kernel
theorem d_Mo_splitNow_104 : decode prog_13_method_47_code 104 = .ok (.ireturn, 1) := by decide +kernel
theorem d_Mo_splitNow_88 : decode prog_13_method_47_code 88 = .ok (.aload_n 0, 1) := by decide +kernel
theorem d_Mo_splitNow_89 : decode prog_13_method_47_code 89 = .ok (.iconst 2, 1) := by decide +kernel
theorem d_Mo_splitNow_90 : decode prog_13_method_47_code 90 = .ok (.iconst 0, 1) := by decide +kernel
theorem d_Mo_splitNow_91 : decode prog_13_method_47_code 91 = .ok (.iconst 1, 1) := by decide +kernel
theorem d_Mo_splitNow_92 : decode prog_13_method_47_code 92 = .ok (.aload_n 0, 1) := by decide +kernel
theorem d_Mo_splitNow_93 : decode prog_13_method_47_code 93 = .ok (.getfield 106, 3) := by decide +kernel
theorem d_Mo_splitNow_96 : decode prog_13_method_47_code 96 = .ok (.invokevirtual 251, 3) := by decide +kernel
theorem d_Mo_splitNow_99 : decode prog_13_method_47_code 99 = .ok (.ifCond .eq 6, 3) := by decide +kernel
theorem d_Mo_splitNow_105 : decode prog_13_method_47_code 105 = .ok (.aload_n 0, 1) := by decide +kernel
theorem d_Mo_splitNow_106 : decode prog_13_method_47_code 106 = .ok (.iconst 1, 1) := by decide +kernel
theorem d_Mo_splitNow_107 : decode prog_13_method_47_code 107 = .ok (.iload_n 2, 1) := by decide +kernel
theorem d_Mo_splitNow_108 : decode prog_13_method_47_code 108 = .ok (.iload_n 1, 1) := by decide +kernel
theorem d_Mo_splitNow_109 : decode prog_13_method_47_code 109 = .ok (.iconst 0, 1) := by decide +kernel
theorem d_Mo_splitNow_110 : decode prog_13_method_47_code 110 = .ok (.iconst 0, 1) := by decide +kernel
theorem d_Mo_splitNow_111 : decode prog_13_method_47_code 111 = .ok (.iconst 0, 1) := by decide +kernel
theorem d_Mo_splitNow_112 : decode prog_13_method_47_code 112 = .ok (.invokevirtual 254, 3) := by decide +kernel
theorem d_Mo_splitNow_115 : decode prog_13_method_47_code 115 = .ok (.istore 4, 2) := by decide +kernel
theorem d_Mo_splitNow_117 : decode prog_13_method_47_code 117 = .ok (.aload_n 0, 1) := by decide +kernel
theorem d_Mo_splitNow_118 : decode prog_13_method_47_code 118 = .ok (.getfield 28, 3) := by decide +kernel
theorem d_Mo_splitNow_121 : decode prog_13_method_47_code 121 = .ok (.iload_n 1, 1) := by decide +kernel
theorem d_Mo_splitNow_122 : decode prog_13_method_47_code 122 = .ok (.iload 4, 2) := by decide +kernel
theorem d_Mo_splitNow_124 : decode prog_13_method_47_code 124 = .ok (.iastore, 1) := by decide +kernel
theorem d_Mo_splitNow_125 : decode prog_13_method_47_code 125 = .ok (.aload_n 0, 1) := by decide +kernel
theorem d_Mo_splitNow_126 : decode prog_13_method_47_code 126 = .ok (.iload_n 1, 1) := by decide +kernel
theorem d_Mo_splitNow_127 : decode prog_13_method_47_code 127 = .ok (.iconst 0, 1) := by decide +kernel
theorem d_Mo_splitNow_128 : decode prog_13_method_47_code 128 = .ok (.invokevirtual 248, 3) := by decide +kernel
theorem d_Mo_splitNow_131 : decode prog_13_method_47_code 131 = .ok (.aload_n 0, 1) := by decide +kernel
theorem d_Mo_splitNow_132 : decode prog_13_method_47_code 132 = .ok (.iload 4, 2) := by decide +kernel
theorem d_Mo_splitNow_134 : decode prog_13_method_47_code 134 = .ok (.iload_n 1, 1) := by decide +kernel
theorem d_Mo_splitNow_135 : decode prog_13_method_47_code 135 = .ok (.iconst 0, 1) := by decide +kernel
theorem d_Mo_splitNow_136 : decode prog_13_method_47_code 136 = .ok (.invokevirtual 257, 3) := by decide +kernel
theorem d_Mo_splitNow_139 : decode prog_13_method_47_code 139 = .ok (.aload_n 0, 1) := by decide +kernel
theorem d_Mo_splitNow_140 : decode prog_13_method_47_code 140 = .ok (.iload_n 1, 1) := by decide +kernel
theorem d_Mo_splitNow_141 : decode prog_13_method_47_code 141 = .ok (.iconst 1, 1) := by decide +kernel
theorem d_Mo_splitNow_142 : decode prog_13_method_47_code 142 = .ok (.invokevirtual 248, 3) := by decide +kernel
theorem d_Mo_splitNow_145 : decode prog_13_method_47_code 145 = .ok (.aload_n 0, 1) := by decide +kernel
theorem d_Mo_splitNow_146 : decode prog_13_method_47_code 146 = .ok (.iload 4, 2) := by decide +kernel
theorem d_Mo_splitNow_148 : decode prog_13_method_47_code 148 = .ok (.iload_n 1, 1) := by decide +kernel
theorem d_Mo_splitNow_149 : decode prog_13_method_47_code 149 = .ok (.iconst 0, 1) := by decide +kernel
theorem d_Mo_splitNow_150 : decode prog_13_method_47_code 150 = .ok (.invokevirtual 257, 3) := by decide +kernel
theorem d_Mo_splitNow_153 : decode prog_13_method_47_code 153 = .ok (.aload_n 0, 1) := by decide +kernel
theorem d_Mo_splitNow_154 : decode prog_13_method_47_code 154 = .ok (.invokevirtual 261, 3) := by decide +kernel
theorem d_Mo_splitNow_157 : decode prog_13_method_47_code 157 = .ok (.aload_n 0, 1) := by decide +kernel
theorem d_Mo_splitNow_158 : decode prog_13_method_47_code 158 = .ok (.getfield 173, 3) := by decide +kernel
theorem d_Mo_splitNow_161 : decode prog_13_method_47_code 161 = .ok (.iconst 1, 1) := by decide +kernel
theorem d_Mo_splitNow_162 : decode prog_13_method_47_code 162 = .ok (.isub, 1) := by decide +kernel
theorem d_Mo_splitNow_163 : decode prog_13_method_47_code 163 = .ok (.ireturn, 1) := by decide +kernel
def wp_Mo_splitNow_83 (post : Int → MS → Prop) (v1 : Int) (v2 : Int) (s0 : Int) (S : MS) : Prop := inR s0 ∧ (¬ (s0 = 0) → (post (-4) S)) ∧ (s0 = 0 → (wp_Mo_isMuch (fun r_2 S_1 => inR r_2 ∧ (r_2 = 0 → (wp_Mo_accept (fun r_4 S_3 => ixR v1 302 ∧ (∀ S_5 : MS, S_5 = ms_a S_3 12 v1 r_4 → wp_Mo_makePart (fun S_6 => wp_Mo_beget (fun S_8 => wp_Mo_makePart (fun S_10 => wp_Mo_beget (fun S_12 => wp_Mo_settle (fun S_14 => post ((S_14.1 7) - 1) S_14)  S_12) r_4 v1 0 S_10) v1 1 S_8) r_4 v1 0 S_6) v1 0 S_5)) 1 v2 v1 0 0 0 S_1)) ∧ (¬ (r_2 = 0) → (post (-4) S_1))) 2 0 1 (S.1 4) S))
def wp_Mo_splitNow_58 (post : Int → MS → Prop) (v1 : Int) (v2 : Int) (s0 : Int) (S : MS) : Prop := wp_Mo_makePart (fun S_1 => inR s0 ∧ (¬ (s0 = 0) → wp_Mo_splitNow_83 post v1 v2 1 S_1) ∧ (s0 = 0 → (inR (S_1.1 33) ∧ ((S_1.1 33) ≤ 60 → wp_Mo_splitNow_83 post v1 v2 0 S_1) ∧ (¬ ((S_1.1 33) ≤ 60) → wp_Mo_splitNow_83 post v1 v2 1 S_1)))) v1 1 S
def wp_Mo_splitNow (post : Int → MS → Prop) (v1 : Int) (v2 : Int) (S : MS) : Prop := wp_Mo_isInBeing (fun r_2 S_1 => inR r_2 ∧ (¬ (r_2 = 0) → (wp_Mo_isLate (fun r_4 S_3 => inR r_4 ∧ (r_4 = 0 → (wp_Mo_isChain (fun r_6 S_5 => inR r_6 ∧ (¬ (r_6 = 0) → (wp_Mo_makePart (fun S_7 => inR (S_7.1 33) ∧ ((S_7.1 33) ≤ 60 → wp_Mo_splitNow_58 post v1 v2 0 S_7) ∧ (¬ ((S_7.1 33) ≤ 60) → wp_Mo_splitNow_58 post v1 v2 1 S_7)) v1 0 S_5)) ∧ (r_6 = 0 → (post (-3) S_5))) v1 S_3)) ∧ (¬ (r_4 = 0) → (post (-2) S_3))) v1 v2 S_1)) ∧ (r_2 = 0 → (post (-1) S_1))) v1 v2 (S.1 15) S
set_option maxHeartbeats 4000000 in
set_option maxRecDepth 100000 in
theorem c_Mo_splitNow (l : Launch) {D : va_G} {h : Nat} {ad : Nat → Nat} {kc : Nat → ClassId} {post : Int → MS → Prop} {v1 : Int} {v2 : Int} {S : MS} (hw : wp_Mo_splitNow post v1 v2 S) : jMi l D h ad kc y_Mo_splitNow prog_13_method_47_code 5 (some .int) 6 143 S [vi v1, vi v2] post := by
  refine j_moi (own := "LandBookModel") (by decide) rfl (Nat.le_of_ble_eq_true rfl) (fun X F K hret => ?_)
  have B83 : ∀ (v1 : Int) (v2 : Int) (s0 : Int) (S : MS), wp_Mo_splitNow_83 post v1 v2 s0 S → jat l D X 5 83 [(0, .ref h), (1, vi v1), (2, vi v2)] [vi s0] (mw h ad kc S) 0 0 := by
    intro v1 v2 s0 S hw
    unfold wp_Mo_splitNow_83 at hw
    refine j_istore_n F [(3, vi s0), (0, .ref h), (1, vi v1), (2, vi v2)] d_Mo_splitNow_83 (by decide) rfl ?_
    refine j_iload_n F 0 d_Mo_splitNow_84 rfl ?_
    obtain ⟨hc1, hwt, hwf⟩ := hw
    refine j_if_ne F 102 hc1 d_Mo_splitNow_85 rfl (fun hh => ?_) (fun hh => ?_)
    · have hw := hwt hh
      refine j_bipush F d_Mo_splitNow_102 (j_bip (by decide) (by decide)) ?_
      exact hret _ _ _ _ hw d_Mo_splitNow_104
    · have hw := hwf hh
      refine j_aload_n F 1 d_Mo_splitNow_88 rfl ?_
      refine j_iconst F d_Mo_splitNow_89 ?_
      refine j_iconst F d_Mo_splitNow_90 ?_
      refine j_iconst F d_Mo_splitNow_91 ?_
      refine j_aload_n F 1 d_Mo_splitNow_92 rfl ?_
      refine m_geti F K 4 (by decide) rfl tj_111 rfl d_Mo_splitNow_93 ?_
      refine m_calli F K (c_Mo_isMuch l hw) (tw_gV tj_252 tj_253 tj_254 tj_87 tj_255) q_Mo_isMuch rfl ⟨by decide, by decide⟩ ⟨Nat.zero_le _, Nat.zero_le _⟩ rfl (Nat.le_of_ble_eq_true rfl) d_Mo_splitNow_96 (fun r_2 S_1 hw => ?_)
      obtain ⟨hc1, hwt, hwf⟩ := hw
      refine j_if_eq F 105 hc1 d_Mo_splitNow_99 rfl (fun hh => ?_) (fun hh => ?_)
      · have hw := hwt hh
        refine j_aload_n F 1 d_Mo_splitNow_105 rfl ?_
        refine j_iconst F d_Mo_splitNow_106 ?_
        refine j_iload_n F 3 d_Mo_splitNow_107 rfl ?_
        refine j_iload_n F 2 d_Mo_splitNow_108 rfl ?_
        refine j_iconst F d_Mo_splitNow_109 ?_
        refine j_iconst F d_Mo_splitNow_110 ?_
        refine j_iconst F d_Mo_splitNow_111 ?_
        refine m_calli F K (c_Mo_accept l hw) (tw_gV tj_256 tj_257 tj_258 tj_87 tj_259) q_Mo_accept rfl ⟨by decide, by decide⟩ ⟨Nat.zero_le _, Nat.zero_le _⟩ rfl (Nat.le_of_ble_eq_true rfl) d_Mo_splitNow_112 (fun r_4 S_3 hw => ?_)
        refine j_istore F [(4, vi r_4), (3, vi s0), (0, .ref h), (1, vi v1), (2, vi v2)] d_Mo_splitNow_115 (by decide) rfl ?_
        refine j_aload_n F 2 d_Mo_splitNow_117 rfl ?_
        refine m_geta F K 12 (by decide) (by decide) tj_168 rfl d_Mo_splitNow_118 ?_
        refine j_iload_n F 3 d_Mo_splitNow_121 rfl ?_
        refine j_iload F 0 d_Mo_splitNow_122 rfl ?_
        obtain ⟨hc1, hw⟩ := hw
        refine m_iast F K 12 6 rfl rfl hc1 d_Mo_splitNow_124 (fun S_5 e_S_5 => ?_)
        have hw := hw S_5 e_S_5
        refine j_aload_n F 2 d_Mo_splitNow_125 rfl ?_
        refine j_iload_n F 3 d_Mo_splitNow_126 rfl ?_
        refine j_iconst F d_Mo_splitNow_127 ?_
        refine m_callv F K (c_Mo_makePart l hw) (tw_gV tj_248 tj_249 tj_250 tj_87 tj_251) q_Mo_makePart rfl ⟨by decide, by decide⟩ ⟨Nat.zero_le _, Nat.zero_le _⟩ rfl (Nat.le_of_ble_eq_true rfl) d_Mo_splitNow_128 (fun S_6 hw => ?_)
        refine j_aload_n F 2 d_Mo_splitNow_131 rfl ?_
        refine j_iload F 0 d_Mo_splitNow_132 rfl ?_
        refine j_iload_n F 3 d_Mo_splitNow_134 rfl ?_
        refine j_iconst F d_Mo_splitNow_135 ?_
        refine m_callv F K (c_Mo_beget l hw) (tw_gV tj_260 tj_261 tj_262 tj_87 tj_263) q_Mo_beget rfl ⟨by decide, by decide⟩ ⟨Nat.zero_le _, Nat.zero_le _⟩ rfl (Nat.le_of_ble_eq_true rfl) d_Mo_splitNow_136 (fun S_8 hw => ?_)
        refine j_aload_n F 2 d_Mo_splitNow_139 rfl ?_
        refine j_iload_n F 3 d_Mo_splitNow_140 rfl ?_
        refine j_iconst F d_Mo_splitNow_141 ?_
        refine m_callv F K (c_Mo_makePart l hw) (tw_gV tj_248 tj_249 tj_250 tj_87 tj_251) q_Mo_makePart rfl ⟨by decide, by decide⟩ ⟨Nat.zero_le _, Nat.zero_le _⟩ rfl (Nat.le_of_ble_eq_true rfl) d_Mo_splitNow_142 (fun S_10 hw => ?_)
        refine j_aload_n F 2 d_Mo_splitNow_145 rfl ?_
        refine j_iload F 0 d_Mo_splitNow_146 rfl ?_
        refine j_iload_n F 3 d_Mo_splitNow_148 rfl ?_
        refine j_iconst F d_Mo_splitNow_149 ?_
        refine m_callv F K (c_Mo_beget l hw) (tw_gV tj_260 tj_261 tj_262 tj_87 tj_263) q_Mo_beget rfl ⟨by decide, by decide⟩ ⟨Nat.zero_le _, Nat.zero_le _⟩ rfl (Nat.le_of_ble_eq_true rfl) d_Mo_splitNow_150 (fun S_12 hw => ?_)
        refine j_aload_n F 2 d_Mo_splitNow_153 rfl ?_
        refine m_callv F K (c_Mo_settle l hw) (tw_gV tj_264 tj_265 tj_266 tj_87 tj_267) q_Mo_settle rfl ⟨by decide, by decide⟩ ⟨Nat.zero_le _, Nat.zero_le _⟩ rfl (Nat.le_of_ble_eq_true rfl) d_Mo_splitNow_154 (fun S_14 hw => ?_)
        refine j_aload_n F 2 d_Mo_splitNow_157 rfl ?_
        refine m_geti F K 7 (by decide) rfl tj_157 rfl d_Mo_splitNow_158 ?_
        refine j_iconst F d_Mo_splitNow_161 ?_
        refine j_isub F d_Mo_splitNow_162 ?_
        exact hret _ _ _ _ hw d_Mo_splitNow_163
      · have hw := hwf hh
        refine j_bipush F d_Mo_splitNow_102 (j_bip (by decide) (by decide)) ?_
        exact hret _ _ _ _ hw d_Mo_splitNow_104
  have B58 : ∀ (v1 : Int) (v2 : Int) (s0 : Int) (S : MS), wp_Mo_splitNow_58 post v1 v2 s0 S → jat l D X 5 58 [(0, .ref h), (1, vi v1), (2, vi v2)] [vi s0] (mw h ad kc S) 0 0 := by
    intro v1 v2 s0 S hw
    unfold wp_Mo_splitNow_58 at hw
    refine j_istore_n F [(3, vi s0), (0, .ref h), (1, vi v1), (2, vi v2)] d_Mo_splitNow_58 (by decide) rfl ?_
    refine j_aload_n F 1 d_Mo_splitNow_59 rfl ?_
    refine j_iload_n F 2 d_Mo_splitNow_60 rfl ?_
    refine j_iconst F d_Mo_splitNow_61 ?_
    refine m_callv F K (c_Mo_makePart l hw) (tw_gV tj_248 tj_249 tj_250 tj_87 tj_251) q_Mo_makePart rfl ⟨by decide, by decide⟩ ⟨Nat.zero_le _, Nat.zero_le _⟩ rfl (Nat.le_of_ble_eq_true rfl) d_Mo_splitNow_62 (fun S_1 hw => ?_)
    refine j_iload_n F 0 d_Mo_splitNow_65 rfl ?_
    obtain ⟨hc1, hwt, hwf⟩ := hw
    refine j_if_ne F 78 hc1 d_Mo_splitNow_66 rfl (fun hh => ?_) (fun hh => ?_)
    · have hw := hwt hh
      refine j_iconst F d_Mo_splitNow_78 ?_
      refine j_goto F 83 d_Mo_splitNow_79 rfl ?_
      refine j_sub [1, 2, 3] rfl ?_
      exact B83 _ _ _ _ hw
    · have hw := hwf hh
      refine j_aload_n F 1 d_Mo_splitNow_69 rfl ?_
      refine m_geti F K 33 (by decide) rfl tj_121 rfl d_Mo_splitNow_70 ?_
      refine j_bipush F d_Mo_splitNow_73 (j_bip (by decide) (by decide)) ?_
      obtain ⟨hc1, hwt, hwf⟩ := hw
      refine j_icmp_le F 82 hc1 ⟨by decide, by decide⟩ d_Mo_splitNow_75 rfl (fun hh => ?_) (fun hh => ?_)
      · have hw := hwt hh
        refine j_iconst F d_Mo_splitNow_82 ?_
        refine j_sub [1, 2, 3] rfl ?_
        exact B83 _ _ _ _ hw
      · have hw := hwf hh
        refine j_iconst F d_Mo_splitNow_78 ?_
        refine j_goto F 83 d_Mo_splitNow_79 rfl ?_
        refine j_sub [1, 2, 3] rfl ?_
        exact B83 _ _ _ _ hw
  unfold wp_Mo_splitNow at hw
  show jat l D X 5 0 [(0, .ref h), (1, vi v1), (2, vi v2)] [] (mw h ad kc S) 0 0
  refine j_aload_n F 0 d_Mo_splitNow_0 rfl ?_
  refine j_iload_n F 1 d_Mo_splitNow_1 rfl ?_
  refine j_iload_n F 2 d_Mo_splitNow_2 rfl ?_
  refine j_aload_n F 0 d_Mo_splitNow_3 rfl ?_
  refine m_geti F K 15 (by decide) rfl tj_194 rfl d_Mo_splitNow_4 ?_
  refine m_calli F K (c_Mo_isInBeing l hw) (tw_gV tj_183 tj_184 tj_185 tj_87 tj_186) q_Mo_isInBeing rfl ⟨by decide, by decide⟩ ⟨Nat.zero_le _, Nat.zero_le _⟩ rfl (Nat.le_of_ble_eq_true rfl) d_Mo_splitNow_7 (fun r_2 S_1 hw => ?_)
  obtain ⟨hc1, hwt, hwf⟩ := hw
  refine j_if_ne F 15 hc1 d_Mo_splitNow_10 rfl (fun hh => ?_) (fun hh => ?_)
  · have hw := hwt hh
    refine j_aload_n F 0 d_Mo_splitNow_15 rfl ?_
    refine j_iload_n F 1 d_Mo_splitNow_16 rfl ?_
    refine j_iload_n F 2 d_Mo_splitNow_17 rfl ?_
    refine m_calli F K (c_Mo_isLate l hw) (tw_gV tj_240 tj_241 tj_242 tj_87 tj_243) q_Mo_isLate rfl ⟨by decide, by decide⟩ ⟨Nat.zero_le _, Nat.zero_le _⟩ rfl (Nat.le_of_ble_eq_true rfl) d_Mo_splitNow_18 (fun r_4 S_3 hw => ?_)
    obtain ⟨hc1, hwt, hwf⟩ := hw
    refine j_if_eq F 27 hc1 d_Mo_splitNow_21 rfl (fun hh => ?_) (fun hh => ?_)
    · have hw := hwt hh
      refine j_aload_n F 0 d_Mo_splitNow_27 rfl ?_
      refine j_iload_n F 1 d_Mo_splitNow_28 rfl ?_
      refine m_calli F K (c_Mo_isChain l hw) (tw_gV tj_244 tj_245 tj_246 tj_87 tj_247) q_Mo_isChain rfl ⟨by decide, by decide⟩ ⟨Nat.zero_le _, Nat.zero_le _⟩ rfl (Nat.le_of_ble_eq_true rfl) d_Mo_splitNow_29 (fun r_6 S_5 hw => ?_)
      obtain ⟨hc1, hwt, hwf⟩ := hw
      refine j_if_ne F 38 hc1 d_Mo_splitNow_32 rfl (fun hh => ?_) (fun hh => ?_)
      · have hw := hwt hh
        refine j_aload_n F 0 d_Mo_splitNow_38 rfl ?_
        refine j_iload_n F 1 d_Mo_splitNow_39 rfl ?_
        refine j_iconst F d_Mo_splitNow_40 ?_
        refine m_callv F K (c_Mo_makePart l hw) (tw_gV tj_248 tj_249 tj_250 tj_87 tj_251) q_Mo_makePart rfl ⟨by decide, by decide⟩ ⟨Nat.zero_le _, Nat.zero_le _⟩ rfl (Nat.le_of_ble_eq_true rfl) d_Mo_splitNow_41 (fun S_7 hw => ?_)
        refine j_aload_n F 0 d_Mo_splitNow_44 rfl ?_
        refine m_geti F K 33 (by decide) rfl tj_121 rfl d_Mo_splitNow_45 ?_
        refine j_bipush F d_Mo_splitNow_48 (j_bip (by decide) (by decide)) ?_
        obtain ⟨hc1, hwt, hwf⟩ := hw
        refine j_icmp_le F 57 hc1 ⟨by decide, by decide⟩ d_Mo_splitNow_50 rfl (fun hh => ?_) (fun hh => ?_)
        · have hw := hwt hh
          refine j_iconst F d_Mo_splitNow_57 ?_
          exact B58 _ _ _ _ hw
        · have hw := hwf hh
          refine j_iconst F d_Mo_splitNow_53 ?_
          refine j_goto F 58 d_Mo_splitNow_54 rfl ?_
          exact B58 _ _ _ _ hw
      · have hw := hwf hh
        refine j_bipush F d_Mo_splitNow_35 (j_bip (by decide) (by decide)) ?_
        exact hret _ _ _ _ hw d_Mo_splitNow_37
    · have hw := hwf hh
      refine j_bipush F d_Mo_splitNow_24 (j_bip (by decide) (by decide)) ?_
      exact hret _ _ _ _ hw d_Mo_splitNow_26
  · have hw := hwf hh
    refine j_iconst F d_Mo_splitNow_13 ?_
    exact hret _ _ _ _ hw d_Mo_splitNow_14
theorem tj_268 : (Jvm.Cond.methodLink "LandBookModel" (264 : Nat) ({ cls := "LandBookModel", name := "isUp", desc := "()Z" } : Jvm.MethodName)) ∈ tw_G := tw_in (List.mem_of_getElem? (i := 1234) (by decide +kernel)) rfl
theorem tj_269 : (Jvm.Cond.instanceMethod ({ cls := "LandBookModel", name := "isUp", desc := "()Z" } : Jvm.MethodName)) ∈ tw_G := tw_in (List.mem_of_getElem? (i := 1236) (by decide +kernel)) rfl
theorem tj_270 : (Jvm.Cond.selects "LandBookModel" ⟨"LandBookModel", "isUp", "()Z"⟩ ⟨"LandBookModel", "isUp", "()Z"⟩) ∈ tw_G := tw_in (List.mem_of_getElem? (i := 26) (by decide +kernel)) rfl
theorem tj_271 : (Jvm.Cond.code ({ cls := "LandBookModel", name := "isUp", desc := "()Z" } : Jvm.MethodName) prog_13_method_39_code (1 : Nat) (Option.some Jvm.ClassFile.FieldType.boolean)) ∈ tw_G := tw_in (List.mem_of_getElem? (i := 1237) (by decide +kernel)) rfl
theorem tj_272 : (Jvm.Cond.methodLink "LandBookModel" (268 : Nat) ({ cls := "LandBookModel", name := "isLot", desc := "(I)Z" } : Jvm.MethodName)) ∈ tw_G := tw_in (List.mem_of_getElem? (i := 1238) (by decide +kernel)) rfl
theorem tj_273 : (Jvm.Cond.instanceMethod ({ cls := "LandBookModel", name := "isLot", desc := "(I)Z" } : Jvm.MethodName)) ∈ tw_G := tw_in (List.mem_of_getElem? (i := 1240) (by decide +kernel)) rfl
theorem tj_274 : (Jvm.Cond.selects "LandBookModel" ⟨"LandBookModel", "isLot", "(I)Z"⟩ ⟨"LandBookModel", "isLot", "(I)Z"⟩) ∈ tw_G := tw_in (List.mem_of_getElem? (i := 27) (by decide +kernel)) rfl
theorem tj_275 : (Jvm.Cond.code ({ cls := "LandBookModel", name := "isLot", desc := "(I)Z" } : Jvm.MethodName) prog_13_method_38_code (2 : Nat) (Option.some Jvm.ClassFile.FieldType.boolean)) ∈ tw_G := tw_in (List.mem_of_getElem? (i := 1241) (by decide +kernel)) rfl
theorem tj_276 : (Jvm.Cond.methodLink "LandBookModel" (274 : Nat) ({ cls := "LandBookModel", name := "splitNow", desc := "(II)I" } : Jvm.MethodName)) ∈ tw_G := tw_in (List.mem_of_getElem? (i := 1245) (by decide +kernel)) rfl
theorem tj_277 : (Jvm.Cond.instanceMethod ({ cls := "LandBookModel", name := "splitNow", desc := "(II)I" } : Jvm.MethodName)) ∈ tw_G := tw_in (List.mem_of_getElem? (i := 1247) (by decide +kernel)) rfl
theorem tj_278 : (Jvm.Cond.selects "LandBookModel" ⟨"LandBookModel", "splitNow", "(II)I"⟩ ⟨"LandBookModel", "splitNow", "(II)I"⟩) ∈ tw_G := tw_in (List.mem_of_getElem? (i := 28) (by decide +kernel)) rfl
theorem tj_279 : (Jvm.Cond.code ({ cls := "LandBookModel", name := "splitNow", desc := "(II)I" } : Jvm.MethodName) prog_13_method_47_code (5 : Nat) (Option.some Jvm.ClassFile.FieldType.int)) ∈ tw_G := tw_in (List.mem_of_getElem? (i := 1248) (by decide +kernel)) rfl
abbrev y_Mo_split : MethodName := ⟨"LandBookModel", "split", "(II)I"⟩
theorem q_Mo_split : y_Mo_split.cls = "LandBookModel" ∧ y_Mo_split.cls ≠ "java/lang/invoke/MethodHandle" ∧ y_Mo_split.cls ≠ "java/lang/invoke/VarHandle" ∧ (parseMethodDescriptor y_Mo_split.desc).map (fun d => d.parameters.length) = some 2 := by decide +kernel
theorem d_Mo_split_0 : decode prog_13_method_48_code 0 = .ok (.aload_n 0, 1) := by decide +kernel
theorem d_Mo_split_1 : decode prog_13_method_48_code 1 = .ok (.aload_n 0, 1) := by decide +kernel
theorem d_Mo_split_2 : decode prog_13_method_48_code 2 = .ok (.invokevirtual 264, 3) := by decide +kernel
theorem d_Mo_split_5 : decode prog_13_method_48_code 5 = .ok (.ifCond .ne 7, 3) := by decide +kernel
theorem d_Mo_split_12 : decode prog_13_method_48_code 12 = .ok (.aload_n 0, 1) := by decide +kernel
theorem d_Mo_split_13 : decode prog_13_method_48_code 13 = .ok (.iload_n 1, 1) := by decide +kernel
theorem d_Mo_split_14 : decode prog_13_method_48_code 14 = .ok (.invokevirtual 268, 3) := by decide +kernel
theorem d_Mo_split_17 : decode prog_13_method_48_code 17 = .ok (.ifCond .ne 7, 3) := by decide +kernel
theorem d_Mo_split_24 : decode prog_13_method_48_code 24 = .ok (.iload_n 2, 1) := by decide +kernel
theorem d_Mo_split_25 : decode prog_13_method_48_code 25 = .ok (.invokestatic 271, 3) := by decide +kernel
theorem d_Mo_split_28 : decode prog_13_method_48_code 28 = .ok (.ifCond .ne 7, 3) := by decide +kernel
theorem d_Mo_split_35 : decode prog_13_method_48_code 35 = .ok (.iconst 0, 1) := by decide +kernel
theorem d_Mo_split_31 : decode prog_13_method_48_code 31 = .ok (.iconst 3, 1) := by decide +kernel
theorem d_Mo_split_32 : decode prog_13_method_48_code 32 = .ok (.goto 4, 3) := by decide +kernel
theorem d_Mo_split_20 : decode prog_13_method_48_code 20 = .ok (.iconst 2, 1) := by decide +kernel
theorem d_Mo_split_21 : decode prog_13_method_48_code 21 = .ok (.goto 15, 3) := by decide +kernel
theorem d_Mo_split_8 : decode prog_13_method_48_code 8 = .ok (.iconst 1, 1) := by decide +kernel
theorem d_Mo_split_9 : decode prog_13_method_48_code 9 = .ok (.goto 27, 3) := by decide +kernel
theorem d_Mo_split_36 : decode prog_13_method_48_code 36 = .ok (.putfield 98, 3) := by decide +kernel
theorem d_Mo_split_39 : decode prog_13_method_48_code 39 = .ok (.aload_n 0, 1) := by decide +kernel
theorem d_Mo_split_40 : decode prog_13_method_48_code 40 = .ok (.getfield 98, 3) := by decide +kernel
theorem d_Mo_split_43 : decode prog_13_method_48_code 43 = .ok (.ifCond .le 7, 3) := by decide +kernel
theorem d_Mo_split_50 : decode prog_13_method_48_code 50 = .ok (.aload_n 0, 1) := by decide +kernel
theorem d_Mo_split_51 : decode prog_13_method_48_code 51 = .ok (.iload_n 1, 1) := by decide +kernel
theorem d_Mo_split_52 : decode prog_13_method_48_code 52 = .ok (.iload_n 2, 1) := by decide +kernel
theorem d_Mo_split_53 : decode prog_13_method_48_code 53 = .ok (.invokevirtual 274, 3) := by decide +kernel
theorem d_Mo_split_46 : decode prog_13_method_48_code 46 = .ok (.iconst 0, 1) := by decide +kernel
theorem d_Mo_split_47 : decode prog_13_method_48_code 47 = .ok (.goto 9, 3) := by decide +kernel
theorem d_Mo_split_56 : decode prog_13_method_48_code 56 = .ok (.istore_n 3, 1) := by decide +kernel
theorem d_Mo_split_57 : decode prog_13_method_48_code 57 = .ok (.aload_n 0, 1) := by decide +kernel
theorem d_Mo_split_58 : decode prog_13_method_48_code 58 = .ok (.iconst 0, 1) := by decide +kernel
theorem d_Mo_split_59 : decode prog_13_method_48_code 59 = .ok (.putfield 106, 3) := by decide +kernel
theorem d_Mo_split_62 : decode prog_13_method_48_code 62 = .ok (.iload_n 3, 1) := by decide +kernel
theorem d_Mo_split_63 : decode prog_13_method_48_code 63 = .ok (.ireturn, 1) := by decide +kernel
def wp_Mo_split_56 (post : Int → MS → Prop) (s0 : Int) (S : MS) : Prop := (∀ S_1 : MS, S_1 = ms_i S 4 0 → post s0 S_1)
def wp_Mo_split_36 (post : Int → MS → Prop) (v1 : Int) (v2 : Int) (s0 : Int) (S : MS) : Prop := (∀ S_1 : MS, S_1 = ms_i S 0 s0 → inR (S_1.1 0) ∧ ((S_1.1 0) ≤ 0 → (wp_Mo_splitNow (fun r_3 S_2 => wp_Mo_split_56 post r_3 S_2) v1 v2 S_1)) ∧ (¬ ((S_1.1 0) ≤ 0) → wp_Mo_split_56 post 0 S_1))
def wp_Mo_split (post : Int → MS → Prop) (v1 : Int) (v2 : Int) (S : MS) : Prop := wp_Mo_isUp (fun r_2 S_1 => inR r_2 ∧ (¬ (r_2 = 0) → (wp_Mo_isLot (fun r_4 S_3 => inR r_4 ∧ (¬ (r_4 = 0) → (wp_Mo_isDay (fun r_5 => inR r_5 ∧ (¬ (r_5 = 0) → wp_Mo_split_36 post v1 v2 0 S_3) ∧ (r_5 = 0 → wp_Mo_split_36 post v1 v2 3 S_3)) v2)) ∧ (r_4 = 0 → wp_Mo_split_36 post v1 v2 2 S_3)) v1 S_1)) ∧ (r_2 = 0 → wp_Mo_split_36 post v1 v2 1 S_1))  S
set_option maxHeartbeats 4000000 in
set_option maxRecDepth 100000 in
theorem c_Mo_split (l : Launch) {D : va_G} {h : Nat} {ad : Nat → Nat} {kc : Nat → ClassId} {post : Int → MS → Prop} {v1 : Int} {v2 : Int} {S : MS} (hw : wp_Mo_split post v1 v2 S) : jMi l D h ad kc y_Mo_split prog_13_method_48_code 4 (some .int) 7 167 S [vi v1, vi v2] post := by
  refine j_moi (own := "LandBookModel") (by decide) rfl (Nat.le_of_ble_eq_true rfl) (fun X F K hret => ?_)
  have B56 : ∀ (s0 : Int) (S : MS), wp_Mo_split_56 post s0 S → jat l D X 4 56 [(0, .ref h)] [vi s0] (mw h ad kc S) 0 0 := by
    intro s0 S hw
    unfold wp_Mo_split_56 at hw
    refine j_istore_n F [(3, vi s0), (0, .ref h)] d_Mo_split_56 (by decide) rfl ?_
    refine j_aload_n F 1 d_Mo_split_57 rfl ?_
    refine j_iconst F d_Mo_split_58 ?_
    refine m_puti F K 4 (by decide) rfl tj_111 rfl rfl (ty := .int) (by decide +kernel) rfl rfl d_Mo_split_59 (fun S_1 e_S_1 => ?_)
    have hw := hw S_1 e_S_1
    refine j_iload_n F 0 d_Mo_split_62 rfl ?_
    exact hret _ _ _ _ hw d_Mo_split_63
  have B36 : ∀ (v1 : Int) (v2 : Int) (s0 : Int) (S : MS), wp_Mo_split_36 post v1 v2 s0 S → jat l D X 4 36 [(0, .ref h), (1, vi v1), (2, vi v2)] [vi s0, .ref h] (mw h ad kc S) 0 0 := by
    intro v1 v2 s0 S hw
    unfold wp_Mo_split_36 at hw
    refine m_puti F K 0 (by decide) rfl tj_107 rfl rfl (ty := .int) (by decide +kernel) rfl rfl d_Mo_split_36 (fun S_1 e_S_1 => ?_)
    have hw := hw S_1 e_S_1
    refine j_aload_n F 0 d_Mo_split_39 rfl ?_
    refine m_geti F K 0 (by decide) rfl tj_107 rfl d_Mo_split_40 ?_
    obtain ⟨hc1, hwt, hwf⟩ := hw
    refine j_if_le F 50 hc1 d_Mo_split_43 rfl (fun hh => ?_) (fun hh => ?_)
    · have hw := hwt hh
      refine j_aload_n F 0 d_Mo_split_50 rfl ?_
      refine j_iload_n F 1 d_Mo_split_51 rfl ?_
      refine j_iload_n F 2 d_Mo_split_52 rfl ?_
      refine m_calli F K (c_Mo_splitNow l hw) (tw_gV tj_276 tj_277 tj_278 tj_87 tj_279) q_Mo_splitNow rfl ⟨by decide, by decide⟩ ⟨Nat.zero_le _, Nat.zero_le _⟩ rfl (Nat.le_of_ble_eq_true rfl) d_Mo_split_53 (fun r_3 S_2 hw => ?_)
      refine j_sub [0] rfl ?_
      exact B56 _ _ hw
    · have hw := hwf hh
      refine j_iconst F d_Mo_split_46 ?_
      refine j_goto F 56 d_Mo_split_47 rfl ?_
      refine j_sub [0] rfl ?_
      exact B56 _ _ hw
  unfold wp_Mo_split at hw
  show jat l D X 4 0 [(0, .ref h), (1, vi v1), (2, vi v2)] [] (mw h ad kc S) 0 0
  refine j_aload_n F 0 d_Mo_split_0 rfl ?_
  refine j_aload_n F 0 d_Mo_split_1 rfl ?_
  refine m_calli F K (c_Mo_isUp l hw) (tw_gV tj_268 tj_269 tj_270 tj_87 tj_271) q_Mo_isUp rfl ⟨by decide, by decide⟩ ⟨Nat.zero_le _, Nat.zero_le _⟩ rfl (Nat.le_of_ble_eq_true rfl) d_Mo_split_2 (fun r_2 S_1 hw => ?_)
  obtain ⟨hc1, hwt, hwf⟩ := hw
  refine j_if_ne F 12 hc1 d_Mo_split_5 rfl (fun hh => ?_) (fun hh => ?_)
  · have hw := hwt hh
    refine j_aload_n F 0 d_Mo_split_12 rfl ?_
    refine j_iload_n F 1 d_Mo_split_13 rfl ?_
    refine m_calli F K (c_Mo_isLot l hw) (tw_gV tj_272 tj_273 tj_274 tj_87 tj_275) q_Mo_isLot rfl ⟨by decide, by decide⟩ ⟨Nat.zero_le _, Nat.zero_le _⟩ rfl (Nat.le_of_ble_eq_true rfl) d_Mo_split_14 (fun r_4 S_3 hw => ?_)
    obtain ⟨hc1, hwt, hwf⟩ := hw
    refine j_if_ne F 24 hc1 d_Mo_split_17 rfl (fun hh => ?_) (fun hh => ?_)
    · have hw := hwt hh
      refine j_iload_n F 2 d_Mo_split_24 rfl ?_
      refine j_callS F (c_Mo_isDay l hw) (tw_gS tj_104 tj_105 tj_87 tj_106) q_Mo_isDay rfl ⟨by decide, by decide⟩ ⟨Nat.zero_le _, Nat.zero_le _⟩ rfl (Nat.le_of_ble_eq_true rfl) d_Mo_split_25 (fun r_5 hw => ?_)
      obtain ⟨hc1, hwt, hwf⟩ := hw
      refine j_if_ne F 35 hc1 d_Mo_split_28 rfl (fun hh => ?_) (fun hh => ?_)
      · have hw := hwt hh
        refine j_iconst F d_Mo_split_35 ?_
        exact B36 _ _ _ _ hw
      · have hw := hwf hh
        refine j_iconst F d_Mo_split_31 ?_
        refine j_goto F 36 d_Mo_split_32 rfl ?_
        exact B36 _ _ _ _ hw
    · have hw := hwf hh
      refine j_iconst F d_Mo_split_20 ?_
      refine j_goto F 36 d_Mo_split_21 rfl ?_
      exact B36 _ _ _ _ hw
  · have hw := hwf hh
    refine j_iconst F d_Mo_split_8 ?_
    refine j_goto F 36 d_Mo_split_9 rfl ?_
    exact B36 _ _ _ _ hw
theorem tj_280 : (Jvm.Cond.fieldLink "LandBookModel" (282 : Nat) "LandBookModel" "sizeB" "I") ∈ tw_G := tw_in (List.mem_of_getElem? (i := 1085) (by decide +kernel)) rfl
theorem tj_281 : (Jvm.Cond.fieldLink "LandBookModel" (279 : Nat) "LandBookModel" "sizeA" "I") ∈ tw_G := tw_in (List.mem_of_getElem? (i := 1082) (by decide +kernel)) rfl
theorem tj_282 : (Jvm.Cond.constantLong "LandBookModel" (277 : Nat) (-1 : Int64)) ∈ tw_G := tw_in (List.mem_of_getElem? (i := 1365) (by decide +kernel)) rfl
theorem tj_283 : (Jvm.Cond.fieldLink "LandBookModel" (92 : Nat) "LandBookModel" "bX" "[I") ∈ tw_G := tw_in (List.mem_of_getElem? (i := 1086) (by decide +kernel)) rfl
theorem tj_284 : (Jvm.Cond.fieldLink "LandBookModel" (95 : Nat) "LandBookModel" "bY" "[I") ∈ tw_G := tw_in (List.mem_of_getElem? (i := 1087) (by decide +kernel)) rfl
theorem tj_285 : (Jvm.Cond.fieldLink "LandBookModel" (86 : Nat) "LandBookModel" "aX" "[I") ∈ tw_G := tw_in (List.mem_of_getElem? (i := 1083) (by decide +kernel)) rfl
theorem tj_286 : (Jvm.Cond.fieldLink "LandBookModel" (89 : Nat) "LandBookModel" "aY" "[I") ∈ tw_G := tw_in (List.mem_of_getElem? (i := 1084) (by decide +kernel)) rfl
abbrev y_Mo_refine : MethodName := ⟨"LandBookModel", "refine", "(IIZ)V"⟩
theorem q_Mo_refine : y_Mo_refine.cls = "LandBookModel" ∧ y_Mo_refine.cls ≠ "java/lang/invoke/MethodHandle" ∧ y_Mo_refine.cls ≠ "java/lang/invoke/VarHandle" ∧ (parseMethodDescriptor y_Mo_refine.desc).map (fun d => d.parameters.length) = some 3 := by decide +kernel
theorem d_Mo_refine_0 : decode prog_13_method_49_code 0 = .ok (.iconst 0, 1) := by decide +kernel
theorem d_Mo_refine_1 : decode prog_13_method_49_code 1 = .ok (.istore 4, 2) := by decide +kernel
theorem d_Mo_refine_3 : decode prog_13_method_49_code 3 = .ok (.iconst 0, 1) := by decide +kernel
theorem d_Mo_refine_4 : decode prog_13_method_49_code 4 = .ok (.istore 5, 2) := by decide +kernel
theorem d_Mo_refine_6 : decode prog_13_method_49_code 6 = .ok (.iload 5, 2) := by decide +kernel
theorem d_Mo_refine_8 : decode prog_13_method_49_code 8 = .ok (.aload_n 0, 1) := by decide +kernel
theorem d_Mo_refine_9 : decode prog_13_method_49_code 9 = .ok (.getfield 22, 3) := by decide +kernel
theorem d_Mo_refine_12 : decode prog_13_method_49_code 12 = .ok (.iload_n 1, 1) := by decide +kernel
theorem d_Mo_refine_13 : decode prog_13_method_49_code 13 = .ok (.iaload, 1) := by decide +kernel
theorem d_Mo_refine_14 : decode prog_13_method_49_code 14 = .ok (.if_icmp .ge 248, 3) := by decide +kernel
theorem d_Mo_refine_262 : decode prog_13_method_49_code 262 = .ok (.iload_n 3, 1) := by decide +kernel
theorem d_Mo_refine_263 : decode prog_13_method_49_code 263 = .ok (.ifCond .eq 12, 3) := by decide +kernel
theorem d_Mo_refine_275 : decode prog_13_method_49_code 275 = .ok (.aload_n 0, 1) := by decide +kernel
theorem d_Mo_refine_276 : decode prog_13_method_49_code 276 = .ok (.iload 4, 2) := by decide +kernel
theorem d_Mo_refine_278 : decode prog_13_method_49_code 278 = .ok (.putfield 282, 3) := by decide +kernel
theorem d_Mo_refine_281 : decode prog_13_method_49_code 281 = .ok (.return_, 1) := by decide +kernel
theorem d_Mo_refine_266 : decode prog_13_method_49_code 266 = .ok (.aload_n 0, 1) := by decide +kernel
theorem d_Mo_refine_267 : decode prog_13_method_49_code 267 = .ok (.iload 4, 2) := by decide +kernel
theorem d_Mo_refine_269 : decode prog_13_method_49_code 269 = .ok (.putfield 279, 3) := by decide +kernel
theorem d_Mo_refine_272 : decode prog_13_method_49_code 272 = .ok (.goto 9, 3) := by decide +kernel
theorem d_Mo_refine_17 : decode prog_13_method_49_code 17 = .ok (.aload_n 0, 1) := by decide +kernel
theorem d_Mo_refine_18 : decode prog_13_method_49_code 18 = .ok (.iload_n 1, 1) := by decide +kernel
theorem d_Mo_refine_19 : decode prog_13_method_49_code 19 = .ok (.iload 5, 2) := by decide +kernel
theorem d_Mo_refine_21 : decode prog_13_method_49_code 21 = .ok (.invokevirtual 143, 3) := by decide +kernel
theorem d_Mo_refine_24 : decode prog_13_method_49_code 24 = .ok (.istore 6, 2) := by decide +kernel
theorem d_Mo_refine_26 : decode prog_13_method_49_code 26 = .ok (.aload_n 0, 1) := by decide +kernel
theorem d_Mo_refine_27 : decode prog_13_method_49_code 27 = .ok (.iload_n 1, 1) := by decide +kernel
theorem d_Mo_refine_28 : decode prog_13_method_49_code 28 = .ok (.iload 5, 2) := by decide +kernel
theorem d_Mo_refine_30 : decode prog_13_method_49_code 30 = .ok (.invokevirtual 147, 3) := by decide +kernel
theorem d_Mo_refine_33 : decode prog_13_method_49_code 33 = .ok (.istore 7, 2) := by decide +kernel
theorem d_Mo_refine_35 : decode prog_13_method_49_code 35 = .ok (.aload_n 0, 1) := by decide +kernel
theorem d_Mo_refine_36 : decode prog_13_method_49_code 36 = .ok (.iload_n 1, 1) := by decide +kernel
theorem d_Mo_refine_37 : decode prog_13_method_49_code 37 = .ok (.iload 5, 2) := by decide +kernel
theorem d_Mo_refine_39 : decode prog_13_method_49_code 39 = .ok (.iconst 1, 1) := by decide +kernel
theorem d_Mo_refine_40 : decode prog_13_method_49_code 40 = .ok (.iadd, 1) := by decide +kernel
theorem d_Mo_refine_41 : decode prog_13_method_49_code 41 = .ok (.invokevirtual 143, 3) := by decide +kernel
theorem d_Mo_refine_44 : decode prog_13_method_49_code 44 = .ok (.istore 8, 2) := by decide +kernel
theorem d_Mo_refine_46 : decode prog_13_method_49_code 46 = .ok (.aload_n 0, 1) := by decide +kernel
theorem d_Mo_refine_47 : decode prog_13_method_49_code 47 = .ok (.iload_n 1, 1) := by decide +kernel
theorem d_Mo_refine_48 : decode prog_13_method_49_code 48 = .ok (.iload 5, 2) := by decide +kernel
theorem d_Mo_refine_50 : decode prog_13_method_49_code 50 = .ok (.iconst 1, 1) := by decide +kernel
theorem d_Mo_refine_51 : decode prog_13_method_49_code 51 = .ok (.iadd, 1) := by decide +kernel
theorem d_Mo_refine_52 : decode prog_13_method_49_code 52 = .ok (.invokevirtual 147, 3) := by decide +kernel
theorem d_Mo_refine_55 : decode prog_13_method_49_code 55 = .ok (.istore 9, 2) := by decide +kernel
theorem d_Mo_refine_57 : decode prog_13_method_49_code 57 = .ok (.ldc2_w 277, 3) := by decide +kernel
theorem d_Mo_refine_60 : decode prog_13_method_49_code 60 = .ok (.lstore 10, 2) := by decide +kernel
theorem d_Mo_refine_62 : decode prog_13_method_49_code 62 = .ok (.iconst 1, 1) := by decide +kernel
theorem d_Mo_refine_63 : decode prog_13_method_49_code 63 = .ok (.istore 12, 2) := by decide +kernel
theorem d_Mo_refine_65 : decode prog_13_method_49_code 65 = .ok (.iload 6, 2) := by decide +kernel
theorem d_Mo_refine_67 : decode prog_13_method_49_code 67 = .ok (.istore 13, 2) := by decide +kernel
theorem d_Mo_refine_69 : decode prog_13_method_49_code 69 = .ok (.iload 7, 2) := by decide +kernel
theorem d_Mo_refine_71 : decode prog_13_method_49_code 71 = .ok (.istore 14, 2) := by decide +kernel
theorem d_Mo_refine_73 : decode prog_13_method_49_code 73 = .ok (.iload 12, 2) := by decide +kernel
theorem d_Mo_refine_75 : decode prog_13_method_49_code 75 = .ok (.ifCond .eq 181, 3) := by decide +kernel
theorem d_Mo_refine_256 : decode prog_13_method_49_code 256 = .ok (.iinc 5 1, 3) := by decide +kernel
theorem d_Mo_refine_259 : decode prog_13_method_49_code 259 = .ok (.goto (-253), 3) := by decide +kernel
theorem d_Mo_refine_78 : decode prog_13_method_49_code 78 = .ok (.iload_n 3, 1) := by decide +kernel
theorem d_Mo_refine_79 : decode prog_13_method_49_code 79 = .ok (.ifCond .eq 24, 3) := by decide +kernel
theorem d_Mo_refine_103 : decode prog_13_method_49_code 103 = .ok (.aload_n 0, 1) := by decide +kernel
theorem d_Mo_refine_104 : decode prog_13_method_49_code 104 = .ok (.getfield 92, 3) := by decide +kernel
theorem d_Mo_refine_107 : decode prog_13_method_49_code 107 = .ok (.iload 4, 2) := by decide +kernel
theorem d_Mo_refine_109 : decode prog_13_method_49_code 109 = .ok (.iload 13, 2) := by decide +kernel
theorem d_Mo_refine_111 : decode prog_13_method_49_code 111 = .ok (.iastore, 1) := by decide +kernel
theorem d_Mo_refine_112 : decode prog_13_method_49_code 112 = .ok (.aload_n 0, 1) := by decide +kernel
theorem d_Mo_refine_113 : decode prog_13_method_49_code 113 = .ok (.getfield 95, 3) := by decide +kernel
theorem d_Mo_refine_116 : decode prog_13_method_49_code 116 = .ok (.iload 4, 2) := by decide +kernel
theorem d_Mo_refine_118 : decode prog_13_method_49_code 118 = .ok (.iload 14, 2) := by decide +kernel
theorem d_Mo_refine_120 : decode prog_13_method_49_code 120 = .ok (.iastore, 1) := by decide +kernel
theorem d_Mo_refine_82 : decode prog_13_method_49_code 82 = .ok (.aload_n 0, 1) := by decide +kernel
theorem d_Mo_refine_83 : decode prog_13_method_49_code 83 = .ok (.getfield 86, 3) := by decide +kernel
theorem d_Mo_refine_86 : decode prog_13_method_49_code 86 = .ok (.iload 4, 2) := by decide +kernel
theorem d_Mo_refine_88 : decode prog_13_method_49_code 88 = .ok (.iload 13, 2) := by decide +kernel
theorem d_Mo_refine_90 : decode prog_13_method_49_code 90 = .ok (.iastore, 1) := by decide +kernel
theorem d_Mo_refine_91 : decode prog_13_method_49_code 91 = .ok (.aload_n 0, 1) := by decide +kernel
theorem d_Mo_refine_92 : decode prog_13_method_49_code 92 = .ok (.getfield 89, 3) := by decide +kernel
theorem d_Mo_refine_95 : decode prog_13_method_49_code 95 = .ok (.iload 4, 2) := by decide +kernel
theorem d_Mo_refine_97 : decode prog_13_method_49_code 97 = .ok (.iload 14, 2) := by decide +kernel
theorem d_Mo_refine_99 : decode prog_13_method_49_code 99 = .ok (.iastore, 1) := by decide +kernel
theorem d_Mo_refine_100 : decode prog_13_method_49_code 100 = .ok (.goto 21, 3) := by decide +kernel
theorem d_Mo_refine_121 : decode prog_13_method_49_code 121 = .ok (.iinc 4 1, 3) := by decide +kernel
theorem d_Mo_refine_124 : decode prog_13_method_49_code 124 = .ok (.iload 6, 2) := by decide +kernel
theorem d_Mo_refine_126 : decode prog_13_method_49_code 126 = .ok (.iload 7, 2) := by decide +kernel
theorem d_Mo_refine_128 : decode prog_13_method_49_code 128 = .ok (.iload 13, 2) := by decide +kernel
theorem d_Mo_refine_130 : decode prog_13_method_49_code 130 = .ok (.iload 14, 2) := by decide +kernel
theorem d_Mo_refine_132 : decode prog_13_method_49_code 132 = .ok (.invokestatic 233, 3) := by decide +kernel
theorem d_Mo_refine_135 : decode prog_13_method_49_code 135 = .ok (.lstore 10, 2) := by decide +kernel
theorem d_Mo_refine_137 : decode prog_13_method_49_code 137 = .ok (.iload 6, 2) := by decide +kernel
theorem d_Mo_refine_139 : decode prog_13_method_49_code 139 = .ok (.iload 7, 2) := by decide +kernel
theorem d_Mo_refine_141 : decode prog_13_method_49_code 141 = .ok (.iload 8, 2) := by decide +kernel
theorem d_Mo_refine_143 : decode prog_13_method_49_code 143 = .ok (.iload 9, 2) := by decide +kernel
theorem d_Mo_refine_145 : decode prog_13_method_49_code 145 = .ok (.invokestatic 233, 3) := by decide +kernel
theorem d_Mo_refine_148 : decode prog_13_method_49_code 148 = .ok (.lstore 15, 2) := by decide +kernel
theorem d_Mo_refine_150 : decode prog_13_method_49_code 150 = .ok (.iconst 0, 1) := by decide +kernel
theorem d_Mo_refine_151 : decode prog_13_method_49_code 151 = .ok (.istore 12, 2) := by decide +kernel
theorem d_Mo_refine_153 : decode prog_13_method_49_code 153 = .ok (.iconst 0, 1) := by decide +kernel
theorem d_Mo_refine_154 : decode prog_13_method_49_code 154 = .ok (.istore 17, 2) := by decide +kernel
theorem d_Mo_refine_156 : decode prog_13_method_49_code 156 = .ok (.iload 17, 2) := by decide +kernel
theorem d_Mo_refine_158 : decode prog_13_method_49_code 158 = .ok (.aload_n 0, 1) := by decide +kernel
theorem d_Mo_refine_159 : decode prog_13_method_49_code 159 = .ok (.getfield 22, 3) := by decide +kernel
theorem d_Mo_refine_162 : decode prog_13_method_49_code 162 = .ok (.iload_n 2, 1) := by decide +kernel
theorem d_Mo_refine_163 : decode prog_13_method_49_code 163 = .ok (.iaload, 1) := by decide +kernel
theorem d_Mo_refine_164 : decode prog_13_method_49_code 164 = .ok (.if_icmp .ge 89, 3) := by decide +kernel
theorem d_Mo_refine_253 : decode prog_13_method_49_code 253 = .ok (.goto (-180), 3) := by decide +kernel
theorem d_Mo_refine_167 : decode prog_13_method_49_code 167 = .ok (.aload_n 0, 1) := by decide +kernel
theorem d_Mo_refine_168 : decode prog_13_method_49_code 168 = .ok (.iload_n 2, 1) := by decide +kernel
theorem d_Mo_refine_169 : decode prog_13_method_49_code 169 = .ok (.iload 17, 2) := by decide +kernel
theorem d_Mo_refine_171 : decode prog_13_method_49_code 171 = .ok (.invokevirtual 143, 3) := by decide +kernel
theorem d_Mo_refine_174 : decode prog_13_method_49_code 174 = .ok (.istore 18, 2) := by decide +kernel
theorem d_Mo_refine_176 : decode prog_13_method_49_code 176 = .ok (.aload_n 0, 1) := by decide +kernel
theorem d_Mo_refine_177 : decode prog_13_method_49_code 177 = .ok (.iload_n 2, 1) := by decide +kernel
theorem d_Mo_refine_178 : decode prog_13_method_49_code 178 = .ok (.iload 17, 2) := by decide +kernel
theorem d_Mo_refine_180 : decode prog_13_method_49_code 180 = .ok (.invokevirtual 147, 3) := by decide +kernel
theorem d_Mo_refine_183 : decode prog_13_method_49_code 183 = .ok (.istore 19, 2) := by decide +kernel
theorem d_Mo_refine_185 : decode prog_13_method_49_code 185 = .ok (.iload 6, 2) := by decide +kernel
theorem d_Mo_refine_187 : decode prog_13_method_49_code 187 = .ok (.iload 7, 2) := by decide +kernel
theorem d_Mo_refine_189 : decode prog_13_method_49_code 189 = .ok (.iload 18, 2) := by decide +kernel
theorem d_Mo_refine_191 : decode prog_13_method_49_code 191 = .ok (.iload 19, 2) := by decide +kernel
theorem d_Mo_refine_193 : decode prog_13_method_49_code 193 = .ok (.invokestatic 233, 3) := by decide +kernel
theorem d_Mo_refine_196 : decode prog_13_method_49_code 196 = .ok (.lstore 20, 2) := by decide +kernel
theorem d_Mo_refine_198 : decode prog_13_method_49_code 198 = .ok (.iload 6, 2) := by decide +kernel
theorem d_Mo_refine_200 : decode prog_13_method_49_code 200 = .ok (.iload 7, 2) := by decide +kernel
theorem d_Mo_refine_202 : decode prog_13_method_49_code 202 = .ok (.iload 8, 2) := by decide +kernel
theorem d_Mo_refine_204 : decode prog_13_method_49_code 204 = .ok (.iload 9, 2) := by decide +kernel
theorem d_Mo_refine_206 : decode prog_13_method_49_code 206 = .ok (.iload 18, 2) := by decide +kernel
theorem d_Mo_refine_208 : decode prog_13_method_49_code 208 = .ok (.iload 19, 2) := by decide +kernel
theorem d_Mo_refine_210 : decode prog_13_method_49_code 210 = .ok (.invokestatic 121, 3) := by decide +kernel
theorem d_Mo_refine_213 : decode prog_13_method_49_code 213 = .ok (.ifCond .eq 34, 3) := by decide +kernel
theorem d_Mo_refine_216 : decode prog_13_method_49_code 216 = .ok (.lload 20, 2) := by decide +kernel
theorem d_Mo_refine_218 : decode prog_13_method_49_code 218 = .ok (.lload 10, 2) := by decide +kernel
theorem d_Mo_refine_220 : decode prog_13_method_49_code 220 = .ok (.lcmp, 1) := by decide +kernel
theorem d_Mo_refine_221 : decode prog_13_method_49_code 221 = .ok (.ifCond .le 26, 3) := by decide +kernel
theorem d_Mo_refine_224 : decode prog_13_method_49_code 224 = .ok (.lload 20, 2) := by decide +kernel
theorem d_Mo_refine_226 : decode prog_13_method_49_code 226 = .ok (.lload 15, 2) := by decide +kernel
theorem d_Mo_refine_228 : decode prog_13_method_49_code 228 = .ok (.lcmp, 1) := by decide +kernel
theorem d_Mo_refine_229 : decode prog_13_method_49_code 229 = .ok (.ifCond .ge 18, 3) := by decide +kernel
theorem d_Mo_refine_232 : decode prog_13_method_49_code 232 = .ok (.lload 20, 2) := by decide +kernel
theorem d_Mo_refine_234 : decode prog_13_method_49_code 234 = .ok (.lstore 15, 2) := by decide +kernel
theorem d_Mo_refine_236 : decode prog_13_method_49_code 236 = .ok (.iload 18, 2) := by decide +kernel
theorem d_Mo_refine_238 : decode prog_13_method_49_code 238 = .ok (.istore 13, 2) := by decide +kernel
theorem d_Mo_refine_240 : decode prog_13_method_49_code 240 = .ok (.iload 19, 2) := by decide +kernel
theorem d_Mo_refine_242 : decode prog_13_method_49_code 242 = .ok (.istore 14, 2) := by decide +kernel
theorem d_Mo_refine_244 : decode prog_13_method_49_code 244 = .ok (.iconst 1, 1) := by decide +kernel
theorem d_Mo_refine_245 : decode prog_13_method_49_code 245 = .ok (.istore 12, 2) := by decide +kernel
theorem d_Mo_refine_247 : decode prog_13_method_49_code 247 = .ok (.iinc 17 1, 3) := by decide +kernel
theorem d_Mo_refine_250 : decode prog_13_method_49_code 250 = .ok (.goto (-94), 3) := by decide +kernel
def wp_Mo_refine_247 (post : MS → Prop) (k6 : Int → Int → Int → Int → Int → MS → Prop) (k73 : Int → Int → Int → Int → Int → Int → Int → Int → Int → Int → Int → Int → MS → Prop) (k156 : Int → Int → Int → Int → Int → Int → Int → Int → Int → Int → Int → Int → Int → Int → Int → MS → Prop) (v1 : Int) (v2 : Int) (v3 : Int) (v4 : Int) (v5 : Int) (v6 : Int) (v7 : Int) (v8 : Int) (v9 : Int) (v10 : Int) (v12 : Int) (v13 : Int) (v14 : Int) (v15 : Int) (v17 : Int) (S : MS) : Prop := k156 v1 v2 v3 v4 v5 v6 v7 v8 v9 v10 v12 v13 v14 v15 (v17 + 1) S
def wp_Mo_refine_156 (post : MS → Prop) (k6 : Int → Int → Int → Int → Int → MS → Prop) (k73 : Int → Int → Int → Int → Int → Int → Int → Int → Int → Int → Int → Int → MS → Prop) : Nat → Int → Int → Int → Int → Int → Int → Int → Int → Int → Int → Int → Int → Int → Int → Int → MS → Prop
  | 0, _, _, _, _, _, _, _, _, _, _, _, _, _, _, _, _ => False
  | n + 1, v1, v2, v3, v4, v5, v6, v7, v8, v9, v10, v12, v13, v14, v15, v17, S => ixR v2 302 ∧ (inR v17 ∧ inR (S.2 10 v2.toNat) ∧ ((S.2 10 v2.toNat) ≤ v17 → k73 v1 v2 v3 v4 v5 v6 v7 v8 v9 v12 v13 v14 S) ∧ (¬ ((S.2 10 v2.toNat) ≤ v17) → (wp_Mo_cornerX (fun r_2 S_1 => wp_Mo_cornerY (fun r_4 S_3 => wp_Mo_apart (fun r_5 => wp_Mo_isOn (fun r_6 => inR r_6 ∧ (r_6 = 0 → wp_Mo_refine_247 post k6 k73 (wp_Mo_refine_156 post k6 k73 n) v1 v2 v3 v4 v5 v6 v7 v8 v9 v10 v12 v13 v14 v15 v17 S_3) ∧ (¬ (r_6 = 0) → (inL r_5 ∧ inL v10 ∧ (r_5 ≤ v10 → wp_Mo_refine_247 post k6 k73 (wp_Mo_refine_156 post k6 k73 n) v1 v2 v3 v4 v5 v6 v7 v8 v9 v10 v12 v13 v14 v15 v17 S_3) ∧ (¬ (r_5 ≤ v10) → (inL r_5 ∧ inL v15 ∧ (v15 ≤ r_5 → wp_Mo_refine_247 post k6 k73 (wp_Mo_refine_156 post k6 k73 n) v1 v2 v3 v4 v5 v6 v7 v8 v9 v10 v12 v13 v14 v15 v17 S_3) ∧ (¬ (v15 ≤ r_5) → wp_Mo_refine_247 post k6 k73 (wp_Mo_refine_156 post k6 k73 n) v1 v2 v3 v4 v5 v6 v7 v8 v9 v10 1 r_2 r_4 r_5 v17 S_3)))))) v6 v7 v8 v9 r_2 r_4) v6 v7 r_2 r_4) v2 v17 S_1) v2 v17 S)))
def wp_Mo_refine_121 (post : MS → Prop) (k6 : Int → Int → Int → Int → Int → MS → Prop) (k73 : Int → Int → Int → Int → Int → Int → Int → Int → Int → Int → Int → Int → MS → Prop) (v1 : Int) (v2 : Int) (v3 : Int) (v4 : Int) (v5 : Int) (v6 : Int) (v7 : Int) (v8 : Int) (v9 : Int) (v13 : Int) (v14 : Int) (S : MS) : Prop := wp_Mo_apart (fun r_1 => wp_Mo_apart (fun r_2 => ∃ n0 : Nat, wp_Mo_refine_156 post k6 k73 n0 v1 v2 v3 (v4 + 1) v5 v6 v7 v8 v9 r_1 0 v13 v14 r_2 0 S) v6 v7 v8 v9) v6 v7 v13 v14
def wp_Mo_refine_73 (post : MS → Prop) (k6 : Int → Int → Int → Int → Int → MS → Prop) : Nat → Int → Int → Int → Int → Int → Int → Int → Int → Int → Int → Int → Int → MS → Prop
  | 0, _, _, _, _, _, _, _, _, _, _, _, _, _ => False
  | n + 1, v1, v2, v3, v4, v5, v6, v7, v8, v9, v12, v13, v14, S => inR v12 ∧ (v12 = 0 → (k6 v1 v2 v3 v4 (v5 + 1) S)) ∧ (¬ (v12 = 0) → (inR v3 ∧ (v3 = 0 → (ixR v4 400 ∧ (∀ S_1 : MS, S_1 = ms_a S 40 v4 v13 → ixR v4 400 ∧ (∀ S_2 : MS, S_2 = ms_a S_1 41 v4 v14 → wp_Mo_refine_121 post k6 (wp_Mo_refine_73 post k6 n) v1 v2 v3 v4 v5 v6 v7 v8 v9 v13 v14 S_2)))) ∧ (¬ (v3 = 0) → (ixR v4 400 ∧ (∀ S_3 : MS, S_3 = ms_a S 37 v4 v13 → ixR v4 400 ∧ (∀ S_4 : MS, S_4 = ms_a S_3 38 v4 v14 → wp_Mo_refine_121 post k6 (wp_Mo_refine_73 post k6 n) v1 v2 v3 v4 v5 v6 v7 v8 v9 v13 v14 S_4))))))
def wp_Mo_refine_6 (post : MS → Prop) : Nat → Int → Int → Int → Int → Int → MS → Prop
  | 0, _, _, _, _, _, _ => False
  | n + 1, v1, v2, v3, v4, v5, S => ixR v1 302 ∧ (inR v5 ∧ inR (S.2 10 v1.toNat) ∧ ((S.2 10 v1.toNat) ≤ v5 → (inR v3 ∧ (v3 = 0 → ((∀ S_1 : MS, S_1 = ms_i S 39 v4 → post S_1))) ∧ (¬ (v3 = 0) → ((∀ S_2 : MS, S_2 = ms_i S 36 v4 → post S_2))))) ∧ (¬ ((S.2 10 v1.toNat) ≤ v5) → (wp_Mo_cornerX (fun r_4 S_3 => wp_Mo_cornerY (fun r_6 S_5 => wp_Mo_cornerX (fun r_8 S_7 => wp_Mo_cornerY (fun r_10 S_9 => ∃ n0 : Nat, wp_Mo_refine_73 post (wp_Mo_refine_6 post n) n0 v1 v2 v3 v4 v5 r_4 r_6 r_8 r_10 1 r_4 r_6 S_9) v1 (v5 + 1) S_7) v1 (v5 + 1) S_5) v1 v5 S_3) v1 v5 S)))
def wp_Mo_refine (post : MS → Prop) (v1 : Int) (v2 : Int) (v3 : Int) (S : MS) : Prop := ∃ n0 : Nat, wp_Mo_refine_6 post n0 v1 v2 v3 0 0 S
set_option maxHeartbeats 4000000 in
set_option maxRecDepth 100000 in
theorem c_Mo_refine (l : Launch) {D : va_G} {h : Nat} {ad : Nat → Nat} {kc : Nat → ClassId} {post : MS → Prop} {v1 : Int} {v2 : Int} {v3 : Int} {S : MS} (hw : wp_Mo_refine post v1 v2 v3 S) : jMv l D h ad kc y_Mo_refine prog_13_method_49_code 22 none 2 50 S [vi v1, vi v2, vi v3] post := by
  refine j_mov (own := "LandBookModel") (by decide) rfl (Nat.le_of_ble_eq_true rfl) (fun X F K hret => ?_)
  have B6 : ∀ (n0 : Nat) (v1 : Int) (v2 : Int) (v3 : Int) (v4 : Int) (v5 : Int) (S : MS), wp_Mo_refine_6 post n0 v1 v2 v3 v4 v5 S → jat l D X 22 6 [(0, .ref h), (1, vi v1), (2, vi v2), (3, vi v3), (4, vi v4), (5, vi v5)] [] (mw h ad kc S) 0 0 := by
    intro n0
    induction n0 with
    | zero => intro v1 v2 v3 v4 v5 S hw; exact hw.elim
    | succ n6 ih6 =>
      have B73 : ∀ (n0 : Nat) (v1 : Int) (v2 : Int) (v3 : Int) (v4 : Int) (v5 : Int) (v6 : Int) (v7 : Int) (v8 : Int) (v9 : Int) (v12 : Int) (v13 : Int) (v14 : Int) (S : MS), wp_Mo_refine_73 post (wp_Mo_refine_6 post n6) n0 v1 v2 v3 v4 v5 v6 v7 v8 v9 v12 v13 v14 S → jat l D X 22 73 [(0, .ref h), (1, vi v1), (2, vi v2), (3, vi v3), (4, vi v4), (5, vi v5), (6, vi v6), (7, vi v7), (8, vi v8), (9, vi v9), (12, vi v12), (13, vi v13), (14, vi v14)] [] (mw h ad kc S) 0 0 := by
        intro n0
        induction n0 with
        | zero => intro v1 v2 v3 v4 v5 v6 v7 v8 v9 v12 v13 v14 S hw; exact hw.elim
        | succ n73 ih73 =>
          have B156 : ∀ (n0 : Nat) (v1 : Int) (v2 : Int) (v3 : Int) (v4 : Int) (v5 : Int) (v6 : Int) (v7 : Int) (v8 : Int) (v9 : Int) (v10 : Int) (v12 : Int) (v13 : Int) (v14 : Int) (v15 : Int) (v17 : Int) (S : MS), wp_Mo_refine_156 post (wp_Mo_refine_6 post n6) (wp_Mo_refine_73 post (wp_Mo_refine_6 post n6) n73) n0 v1 v2 v3 v4 v5 v6 v7 v8 v9 v10 v12 v13 v14 v15 v17 S → jat l D X 22 156 [(0, .ref h), (1, vi v1), (2, vi v2), (3, vi v3), (4, vi v4), (5, vi v5), (6, vi v6), (7, vi v7), (8, vi v8), (9, vi v9), (10, vl v10), (12, vi v12), (13, vi v13), (14, vi v14), (15, vl v15), (17, vi v17)] [] (mw h ad kc S) 0 0 := by
            intro n0
            induction n0 with
            | zero => intro v1 v2 v3 v4 v5 v6 v7 v8 v9 v10 v12 v13 v14 v15 v17 S hw; exact hw.elim
            | succ n156 ih156 =>
              have B247 : ∀ (v1 : Int) (v2 : Int) (v3 : Int) (v4 : Int) (v5 : Int) (v6 : Int) (v7 : Int) (v8 : Int) (v9 : Int) (v10 : Int) (v12 : Int) (v13 : Int) (v14 : Int) (v15 : Int) (v17 : Int) (S : MS), wp_Mo_refine_247 post (wp_Mo_refine_6 post n6) (wp_Mo_refine_73 post (wp_Mo_refine_6 post n6) n73) (wp_Mo_refine_156 post (wp_Mo_refine_6 post n6) (wp_Mo_refine_73 post (wp_Mo_refine_6 post n6) n73) n156) v1 v2 v3 v4 v5 v6 v7 v8 v9 v10 v12 v13 v14 v15 v17 S → jat l D X 22 247 [(0, .ref h), (1, vi v1), (2, vi v2), (3, vi v3), (4, vi v4), (5, vi v5), (6, vi v6), (7, vi v7), (8, vi v8), (9, vi v9), (10, vl v10), (12, vi v12), (13, vi v13), (14, vi v14), (15, vl v15), (17, vi v17)] [] (mw h ad kc S) 0 0 := by
                intro v1 v2 v3 v4 v5 v6 v7 v8 v9 v10 v12 v13 v14 v15 v17 S hw
                unfold wp_Mo_refine_247 at hw
                refine j_iinc F 15 [(17, vi (v17 + 1)), (0, .ref h), (1, vi v1), (2, vi v2), (3, vi v3), (4, vi v4), (5, vi v5), (6, vi v6), (7, vi v7), (8, vi v8), (9, vi v9), (10, vl v10), (12, vi v12), (13, vi v13), (14, vi v14), (15, vl v15)] d_Mo_refine_247 rfl (by decide) rfl ?_
                refine j_goto F 156 d_Mo_refine_250 rfl ?_
                refine j_sub [1, 2, 3, 4, 5, 6, 7, 8, 9, 10, 11, 12, 13, 14, 15, 0] rfl ?_
                exact ih156 _ _ _ _ _ _ _ _ _ _ _ _ _ _ _ _ hw
              intro v1 v2 v3 v4 v5 v6 v7 v8 v9 v10 v12 v13 v14 v15 v17 S hw
              unfold wp_Mo_refine_156 at hw
              refine j_iload F 15 d_Mo_refine_156 rfl ?_
              refine j_aload_n F 0 d_Mo_refine_158 rfl ?_
              refine m_geta F K 10 (by decide) (by decide) tj_131 rfl d_Mo_refine_159 ?_
              refine j_iload_n F 2 d_Mo_refine_162 rfl ?_
              obtain ⟨hc1, hw⟩ := hw
              refine m_iald F K 10 4 rfl rfl hc1 d_Mo_refine_163 ?_
              obtain ⟨hc1, hc2, hwt, hwf⟩ := hw
              refine j_icmp_ge F 253 hc1 hc2 d_Mo_refine_164 rfl (fun hh => ?_) (fun hh => ?_)
              · have hw := hwt hh
                refine j_goto F 73 d_Mo_refine_253 rfl ?_
                refine j_sub [0, 1, 2, 3, 4, 5, 6, 7, 8, 9, 11, 12, 13] rfl ?_
                exact ih73 _ _ _ _ _ _ _ _ _ _ _ _ _ hw
              · have hw := hwf hh
                refine j_aload_n F 0 d_Mo_refine_167 rfl ?_
                refine j_iload_n F 2 d_Mo_refine_168 rfl ?_
                refine j_iload F 15 d_Mo_refine_169 rfl ?_
                refine m_calli F K (c_Mo_cornerX l hw) (tw_gV tj_134 tj_135 tj_136 tj_87 tj_137) q_Mo_cornerX rfl ⟨by decide, by decide⟩ ⟨Nat.zero_le _, Nat.zero_le _⟩ rfl (Nat.le_of_ble_eq_true rfl) d_Mo_refine_171 (fun r_2 S_1 hw => ?_)
                refine j_istore F [(18, vi r_2), (0, .ref h), (1, vi v1), (2, vi v2), (3, vi v3), (4, vi v4), (5, vi v5), (6, vi v6), (7, vi v7), (8, vi v8), (9, vi v9), (10, vl v10), (12, vi v12), (13, vi v13), (14, vi v14), (15, vl v15), (17, vi v17)] d_Mo_refine_174 (by decide) rfl ?_
                refine j_aload_n F 1 d_Mo_refine_176 rfl ?_
                refine j_iload_n F 3 d_Mo_refine_177 rfl ?_
                refine j_iload F 16 d_Mo_refine_178 rfl ?_
                refine m_calli F K (c_Mo_cornerY l hw) (tw_gV tj_138 tj_139 tj_140 tj_87 tj_141) q_Mo_cornerY rfl ⟨by decide, by decide⟩ ⟨Nat.zero_le _, Nat.zero_le _⟩ rfl (Nat.le_of_ble_eq_true rfl) d_Mo_refine_180 (fun r_4 S_3 hw => ?_)
                refine j_istore F [(19, vi r_4), (18, vi r_2), (0, .ref h), (1, vi v1), (2, vi v2), (3, vi v3), (4, vi v4), (5, vi v5), (6, vi v6), (7, vi v7), (8, vi v8), (9, vi v9), (10, vl v10), (12, vi v12), (13, vi v13), (14, vi v14), (15, vl v15), (17, vi v17)] d_Mo_refine_183 (by decide) rfl ?_
                refine j_iload F 8 d_Mo_refine_185 rfl ?_
                refine j_iload F 9 d_Mo_refine_187 rfl ?_
                refine j_iload F 1 d_Mo_refine_189 rfl ?_
                refine j_iload F 0 d_Mo_refine_191 rfl ?_
                refine j_callSl F (c_Mo_apart l hw) (tw_gS tj_233 tj_234 tj_87 tj_235) q_Mo_apart rfl ⟨by decide, by decide⟩ ⟨Nat.zero_le _, Nat.zero_le _⟩ rfl (Nat.le_of_ble_eq_true rfl) d_Mo_refine_193 (fun r_5 hw => ?_)
                refine j_lstore F [(20, vl r_5), (19, vi r_4), (18, vi r_2), (0, .ref h), (1, vi v1), (2, vi v2), (3, vi v3), (4, vi v4), (5, vi v5), (6, vi v6), (7, vi v7), (8, vi v8), (9, vi v9), (10, vl v10), (12, vi v12), (13, vi v13), (14, vi v14), (15, vl v15), (17, vi v17)] d_Mo_refine_196 (by decide) rfl ?_
                refine j_iload F 9 d_Mo_refine_198 rfl ?_
                refine j_iload F 10 d_Mo_refine_200 rfl ?_
                refine j_iload F 11 d_Mo_refine_202 rfl ?_
                refine j_iload F 12 d_Mo_refine_204 rfl ?_
                refine j_iload F 2 d_Mo_refine_206 rfl ?_
                refine j_iload F 1 d_Mo_refine_208 rfl ?_
                refine j_callS F (c_Mo_isOn l hw) (tw_gS tj_95 tj_96 tj_87 tj_97) q_Mo_isOn rfl ⟨by decide, by decide⟩ ⟨Nat.zero_le _, Nat.zero_le _⟩ rfl (Nat.le_of_ble_eq_true rfl) d_Mo_refine_210 (fun r_6 hw => ?_)
                obtain ⟨hc1, hwt, hwf⟩ := hw
                refine j_if_eq F 247 hc1 d_Mo_refine_213 rfl (fun hh => ?_) (fun hh => ?_)
                · have hw := hwt hh
                  refine j_sub [3, 4, 5, 6, 7, 8, 9, 10, 11, 12, 13, 14, 15, 16, 17, 18] rfl ?_
                  exact B247 _ _ _ _ _ _ _ _ _ _ _ _ _ _ _ _ hw
                · have hw := hwf hh
                  refine j_lload F 0 d_Mo_refine_216 rfl ?_
                  refine j_lload F 13 d_Mo_refine_218 rfl ?_
                  obtain ⟨hc1, hc2, hwt, hwf⟩ := hw
                  refine j_lcmp_le F 247 hc1 hc2 d_Mo_refine_220 d_Mo_refine_221 rfl (fun hh => ?_) (fun hh => ?_)
                  · have hw := hwt hh
                    refine j_sub [3, 4, 5, 6, 7, 8, 9, 10, 11, 12, 13, 14, 15, 16, 17, 18] rfl ?_
                    exact B247 _ _ _ _ _ _ _ _ _ _ _ _ _ _ _ _ hw
                  · have hw := hwf hh
                    refine j_lload F 0 d_Mo_refine_224 rfl ?_
                    refine j_lload F 17 d_Mo_refine_226 rfl ?_
                    obtain ⟨hc1, hc2, hwt, hwf⟩ := hw
                    refine j_lcmp_ge F 247 hc1 hc2 d_Mo_refine_228 d_Mo_refine_229 rfl (fun hh => ?_) (fun hh => ?_)
                    · have hw := hwt hh
                      refine j_sub [3, 4, 5, 6, 7, 8, 9, 10, 11, 12, 13, 14, 15, 16, 17, 18] rfl ?_
                      exact B247 _ _ _ _ _ _ _ _ _ _ _ _ _ _ _ _ hw
                    · have hw := hwf hh
                      refine j_lload F 0 d_Mo_refine_232 rfl ?_
                      refine j_lstore F [(15, vl r_5), (20, vl r_5), (19, vi r_4), (18, vi r_2), (0, .ref h), (1, vi v1), (2, vi v2), (3, vi v3), (4, vi v4), (5, vi v5), (6, vi v6), (7, vi v7), (8, vi v8), (9, vi v9), (10, vl v10), (12, vi v12), (13, vi v13), (14, vi v14), (17, vi v17)] d_Mo_refine_234 (by decide) rfl ?_
                      refine j_iload F 3 d_Mo_refine_236 rfl ?_
                      refine j_istore F [(13, vi r_2), (15, vl r_5), (20, vl r_5), (19, vi r_4), (18, vi r_2), (0, .ref h), (1, vi v1), (2, vi v2), (3, vi v3), (4, vi v4), (5, vi v5), (6, vi v6), (7, vi v7), (8, vi v8), (9, vi v9), (10, vl v10), (12, vi v12), (14, vi v14), (17, vi v17)] d_Mo_refine_238 (by decide) rfl ?_
                      refine j_iload F 3 d_Mo_refine_240 rfl ?_
                      refine j_istore F [(14, vi r_4), (13, vi r_2), (15, vl r_5), (20, vl r_5), (19, vi r_4), (18, vi r_2), (0, .ref h), (1, vi v1), (2, vi v2), (3, vi v3), (4, vi v4), (5, vi v5), (6, vi v6), (7, vi v7), (8, vi v8), (9, vi v9), (10, vl v10), (12, vi v12), (17, vi v17)] d_Mo_refine_242 (by decide) rfl ?_
                      refine j_iconst F d_Mo_refine_244 ?_
                      refine j_istore F [(12, vi 1), (14, vi r_4), (13, vi r_2), (15, vl r_5), (20, vl r_5), (19, vi r_4), (18, vi r_2), (0, .ref h), (1, vi v1), (2, vi v2), (3, vi v3), (4, vi v4), (5, vi v5), (6, vi v6), (7, vi v7), (8, vi v8), (9, vi v9), (10, vl v10), (17, vi v17)] d_Mo_refine_245 (by decide) rfl ?_
                      refine j_sub [7, 8, 9, 10, 11, 12, 13, 14, 15, 16, 17, 0, 2, 1, 3, 18] rfl ?_
                      exact B247 _ _ _ _ _ _ _ _ _ _ _ _ _ _ _ _ hw
          have B121 : ∀ (v1 : Int) (v2 : Int) (v3 : Int) (v4 : Int) (v5 : Int) (v6 : Int) (v7 : Int) (v8 : Int) (v9 : Int) (v13 : Int) (v14 : Int) (S : MS), wp_Mo_refine_121 post (wp_Mo_refine_6 post n6) (wp_Mo_refine_73 post (wp_Mo_refine_6 post n6) n73) v1 v2 v3 v4 v5 v6 v7 v8 v9 v13 v14 S → jat l D X 22 121 [(0, .ref h), (1, vi v1), (2, vi v2), (3, vi v3), (4, vi v4), (5, vi v5), (6, vi v6), (7, vi v7), (8, vi v8), (9, vi v9), (13, vi v13), (14, vi v14)] [] (mw h ad kc S) 0 0 := by
            intro v1 v2 v3 v4 v5 v6 v7 v8 v9 v13 v14 S hw
            unfold wp_Mo_refine_121 at hw
            refine j_iinc F 4 [(4, vi (v4 + 1)), (0, .ref h), (1, vi v1), (2, vi v2), (3, vi v3), (5, vi v5), (6, vi v6), (7, vi v7), (8, vi v8), (9, vi v9), (13, vi v13), (14, vi v14)] d_Mo_refine_121 rfl (by decide) rfl ?_
            refine j_iload F 6 d_Mo_refine_124 rfl ?_
            refine j_iload F 7 d_Mo_refine_126 rfl ?_
            refine j_iload F 10 d_Mo_refine_128 rfl ?_
            refine j_iload F 11 d_Mo_refine_130 rfl ?_
            refine j_callSl F (c_Mo_apart l hw) (tw_gS tj_233 tj_234 tj_87 tj_235) q_Mo_apart rfl ⟨by decide, by decide⟩ ⟨Nat.zero_le _, Nat.zero_le _⟩ rfl (Nat.le_of_ble_eq_true rfl) d_Mo_refine_132 (fun r_1 hw => ?_)
            refine j_lstore F [(10, vl r_1), (4, vi (v4 + 1)), (0, .ref h), (1, vi v1), (2, vi v2), (3, vi v3), (5, vi v5), (6, vi v6), (7, vi v7), (8, vi v8), (9, vi v9), (13, vi v13), (14, vi v14)] d_Mo_refine_135 (by decide) rfl ?_
            refine j_iload F 7 d_Mo_refine_137 rfl ?_
            refine j_iload F 8 d_Mo_refine_139 rfl ?_
            refine j_iload F 9 d_Mo_refine_141 rfl ?_
            refine j_iload F 10 d_Mo_refine_143 rfl ?_
            refine j_callSl F (c_Mo_apart l hw) (tw_gS tj_233 tj_234 tj_87 tj_235) q_Mo_apart rfl ⟨by decide, by decide⟩ ⟨Nat.zero_le _, Nat.zero_le _⟩ rfl (Nat.le_of_ble_eq_true rfl) d_Mo_refine_145 (fun r_2 hw => ?_)
            refine j_lstore F [(15, vl r_2), (10, vl r_1), (4, vi (v4 + 1)), (0, .ref h), (1, vi v1), (2, vi v2), (3, vi v3), (5, vi v5), (6, vi v6), (7, vi v7), (8, vi v8), (9, vi v9), (13, vi v13), (14, vi v14)] d_Mo_refine_148 (by decide) rfl ?_
            refine j_iconst F d_Mo_refine_150 ?_
            refine j_istore F [(12, vi 0), (15, vl r_2), (10, vl r_1), (4, vi (v4 + 1)), (0, .ref h), (1, vi v1), (2, vi v2), (3, vi v3), (5, vi v5), (6, vi v6), (7, vi v7), (8, vi v8), (9, vi v9), (13, vi v13), (14, vi v14)] d_Mo_refine_151 (by decide) rfl ?_
            refine j_iconst F d_Mo_refine_153 ?_
            refine j_istore F [(17, vi 0), (12, vi 0), (15, vl r_2), (10, vl r_1), (4, vi (v4 + 1)), (0, .ref h), (1, vi v1), (2, vi v2), (3, vi v3), (5, vi v5), (6, vi v6), (7, vi v7), (8, vi v8), (9, vi v9), (13, vi v13), (14, vi v14)] d_Mo_refine_154 (by decide) rfl ?_
            refine j_sub [5, 6, 7, 8, 4, 9, 10, 11, 12, 13, 3, 1, 14, 15, 2, 0] rfl ?_
            obtain ⟨n0, hw⟩ := hw
            exact B156 n0 _ _ _ _ _ _ _ _ _ _ _ _ _ _ _ _ hw
          intro v1 v2 v3 v4 v5 v6 v7 v8 v9 v12 v13 v14 S hw
          unfold wp_Mo_refine_73 at hw
          refine j_iload F 10 d_Mo_refine_73 rfl ?_
          obtain ⟨hc1, hwt, hwf⟩ := hw
          refine j_if_eq F 256 hc1 d_Mo_refine_75 rfl (fun hh => ?_) (fun hh => ?_)
          · have hw := hwt hh
            refine j_iinc F 5 [(5, vi (v5 + 1)), (0, .ref h), (1, vi v1), (2, vi v2), (3, vi v3), (4, vi v4), (6, vi v6), (7, vi v7), (8, vi v8), (9, vi v9), (12, vi v12), (13, vi v13), (14, vi v14)] d_Mo_refine_256 rfl (by decide) rfl ?_
            refine j_goto F 6 d_Mo_refine_259 rfl ?_
            refine j_sub [1, 2, 3, 4, 5, 0] rfl ?_
            exact ih6 _ _ _ _ _ _ hw
          · have hw := hwf hh
            refine j_iload_n F 3 d_Mo_refine_78 rfl ?_
            obtain ⟨hc1, hwt, hwf⟩ := hw
            refine j_if_eq F 103 hc1 d_Mo_refine_79 rfl (fun hh => ?_) (fun hh => ?_)
            · have hw := hwt hh
              refine j_aload_n F 0 d_Mo_refine_103 rfl ?_
              refine m_geta F K 40 (by decide) (by decide) tj_283 rfl d_Mo_refine_104 ?_
              refine j_iload F 4 d_Mo_refine_107 rfl ?_
              refine j_iload F 11 d_Mo_refine_109 rfl ?_
              obtain ⟨hc1, hw⟩ := hw
              refine m_iast F K 40 27 rfl rfl hc1 d_Mo_refine_111 (fun S_1 e_S_1 => ?_)
              have hw := hw S_1 e_S_1
              refine j_aload_n F 0 d_Mo_refine_112 rfl ?_
              refine m_geta F K 41 (by decide) (by decide) tj_284 rfl d_Mo_refine_113 ?_
              refine j_iload F 4 d_Mo_refine_116 rfl ?_
              refine j_iload F 12 d_Mo_refine_118 rfl ?_
              obtain ⟨hc1, hw⟩ := hw
              refine m_iast F K 41 28 rfl rfl hc1 d_Mo_refine_120 (fun S_2 e_S_2 => ?_)
              have hw := hw S_2 e_S_2
              refine j_sub [0, 1, 2, 3, 4, 5, 6, 7, 8, 9, 11, 12] rfl ?_
              exact B121 _ _ _ _ _ _ _ _ _ _ _ _ hw
            · have hw := hwf hh
              refine j_aload_n F 0 d_Mo_refine_82 rfl ?_
              refine m_geta F K 37 (by decide) (by decide) tj_285 rfl d_Mo_refine_83 ?_
              refine j_iload F 4 d_Mo_refine_86 rfl ?_
              refine j_iload F 11 d_Mo_refine_88 rfl ?_
              obtain ⟨hc1, hw⟩ := hw
              refine m_iast F K 37 25 rfl rfl hc1 d_Mo_refine_90 (fun S_3 e_S_3 => ?_)
              have hw := hw S_3 e_S_3
              refine j_aload_n F 0 d_Mo_refine_91 rfl ?_
              refine m_geta F K 38 (by decide) (by decide) tj_286 rfl d_Mo_refine_92 ?_
              refine j_iload F 4 d_Mo_refine_95 rfl ?_
              refine j_iload F 12 d_Mo_refine_97 rfl ?_
              obtain ⟨hc1, hw⟩ := hw
              refine m_iast F K 38 26 rfl rfl hc1 d_Mo_refine_99 (fun S_4 e_S_4 => ?_)
              have hw := hw S_4 e_S_4
              refine j_goto F 121 d_Mo_refine_100 rfl ?_
              refine j_sub [0, 1, 2, 3, 4, 5, 6, 7, 8, 9, 11, 12] rfl ?_
              exact B121 _ _ _ _ _ _ _ _ _ _ _ _ hw
      intro v1 v2 v3 v4 v5 S hw
      unfold wp_Mo_refine_6 at hw
      refine j_iload F 5 d_Mo_refine_6 rfl ?_
      refine j_aload_n F 0 d_Mo_refine_8 rfl ?_
      refine m_geta F K 10 (by decide) (by decide) tj_131 rfl d_Mo_refine_9 ?_
      refine j_iload_n F 1 d_Mo_refine_12 rfl ?_
      obtain ⟨hc1, hw⟩ := hw
      refine m_iald F K 10 4 rfl rfl hc1 d_Mo_refine_13 ?_
      obtain ⟨hc1, hc2, hwt, hwf⟩ := hw
      refine j_icmp_ge F 262 hc1 hc2 d_Mo_refine_14 rfl (fun hh => ?_) (fun hh => ?_)
      · have hw := hwt hh
        refine j_iload_n F 3 d_Mo_refine_262 rfl ?_
        obtain ⟨hc1, hwt, hwf⟩ := hw
        refine j_if_eq F 275 hc1 d_Mo_refine_263 rfl (fun hh => ?_) (fun hh => ?_)
        · have hw := hwt hh
          refine j_aload_n F 0 d_Mo_refine_275 rfl ?_
          refine j_iload F 4 d_Mo_refine_276 rfl ?_
          refine m_puti F K 39 (by decide) rfl tj_280 rfl rfl (ty := .int) (by decide +kernel) rfl rfl d_Mo_refine_278 (fun S_1 e_S_1 => ?_)
          have hw := hw S_1 e_S_1
          exact hret _ _ _ hw d_Mo_refine_281
        · have hw := hwf hh
          refine j_aload_n F 0 d_Mo_refine_266 rfl ?_
          refine j_iload F 4 d_Mo_refine_267 rfl ?_
          refine m_puti F K 36 (by decide) rfl tj_281 rfl rfl (ty := .int) (by decide +kernel) rfl rfl d_Mo_refine_269 (fun S_2 e_S_2 => ?_)
          have hw := hw S_2 e_S_2
          refine j_goto F 281 d_Mo_refine_272 rfl ?_
          exact hret _ _ _ hw d_Mo_refine_281
      · have hw := hwf hh
        refine j_aload_n F 0 d_Mo_refine_17 rfl ?_
        refine j_iload_n F 1 d_Mo_refine_18 rfl ?_
        refine j_iload F 5 d_Mo_refine_19 rfl ?_
        refine m_calli F K (c_Mo_cornerX l hw) (tw_gV tj_134 tj_135 tj_136 tj_87 tj_137) q_Mo_cornerX rfl ⟨by decide, by decide⟩ ⟨Nat.zero_le _, Nat.zero_le _⟩ rfl (Nat.le_of_ble_eq_true rfl) d_Mo_refine_21 (fun r_4 S_3 hw => ?_)
        refine j_istore F [(6, vi r_4), (0, .ref h), (1, vi v1), (2, vi v2), (3, vi v3), (4, vi v4), (5, vi v5)] d_Mo_refine_24 (by decide) rfl ?_
        refine j_aload_n F 1 d_Mo_refine_26 rfl ?_
        refine j_iload_n F 2 d_Mo_refine_27 rfl ?_
        refine j_iload F 6 d_Mo_refine_28 rfl ?_
        refine m_calli F K (c_Mo_cornerY l hw) (tw_gV tj_138 tj_139 tj_140 tj_87 tj_141) q_Mo_cornerY rfl ⟨by decide, by decide⟩ ⟨Nat.zero_le _, Nat.zero_le _⟩ rfl (Nat.le_of_ble_eq_true rfl) d_Mo_refine_30 (fun r_6 S_5 hw => ?_)
        refine j_istore F [(7, vi r_6), (6, vi r_4), (0, .ref h), (1, vi v1), (2, vi v2), (3, vi v3), (4, vi v4), (5, vi v5)] d_Mo_refine_33 (by decide) rfl ?_
        refine j_aload_n F 2 d_Mo_refine_35 rfl ?_
        refine j_iload_n F 3 d_Mo_refine_36 rfl ?_
        refine j_iload F 7 d_Mo_refine_37 rfl ?_
        refine j_iconst F d_Mo_refine_39 ?_
        refine j_iadd F d_Mo_refine_40 ?_
        refine m_calli F K (c_Mo_cornerX l hw) (tw_gV tj_134 tj_135 tj_136 tj_87 tj_137) q_Mo_cornerX rfl ⟨by decide, by decide⟩ ⟨Nat.zero_le _, Nat.zero_le _⟩ rfl (Nat.le_of_ble_eq_true rfl) d_Mo_refine_41 (fun r_8 S_7 hw => ?_)
        refine j_istore F [(8, vi r_8), (7, vi r_6), (6, vi r_4), (0, .ref h), (1, vi v1), (2, vi v2), (3, vi v3), (4, vi v4), (5, vi v5)] d_Mo_refine_44 (by decide) rfl ?_
        refine j_aload_n F 3 d_Mo_refine_46 rfl ?_
        refine j_iload_n F 4 d_Mo_refine_47 rfl ?_
        refine j_iload F 8 d_Mo_refine_48 rfl ?_
        refine j_iconst F d_Mo_refine_50 ?_
        refine j_iadd F d_Mo_refine_51 ?_
        refine m_calli F K (c_Mo_cornerY l hw) (tw_gV tj_138 tj_139 tj_140 tj_87 tj_141) q_Mo_cornerY rfl ⟨by decide, by decide⟩ ⟨Nat.zero_le _, Nat.zero_le _⟩ rfl (Nat.le_of_ble_eq_true rfl) d_Mo_refine_52 (fun r_10 S_9 hw => ?_)
        refine j_istore F [(9, vi r_10), (8, vi r_8), (7, vi r_6), (6, vi r_4), (0, .ref h), (1, vi v1), (2, vi v2), (3, vi v3), (4, vi v4), (5, vi v5)] d_Mo_refine_55 (by decide) rfl ?_
        refine j_ldc2 (x := (-1)) F tj_282 (by decide) d_Mo_refine_57 ?_
        refine j_lstore F [(10, vl (-1)), (9, vi r_10), (8, vi r_8), (7, vi r_6), (6, vi r_4), (0, .ref h), (1, vi v1), (2, vi v2), (3, vi v3), (4, vi v4), (5, vi v5)] d_Mo_refine_60 (by decide) rfl ?_
        refine j_iconst F d_Mo_refine_62 ?_
        refine j_istore F [(12, vi 1), (10, vl (-1)), (9, vi r_10), (8, vi r_8), (7, vi r_6), (6, vi r_4), (0, .ref h), (1, vi v1), (2, vi v2), (3, vi v3), (4, vi v4), (5, vi v5)] d_Mo_refine_63 (by decide) rfl ?_
        refine j_iload F 5 d_Mo_refine_65 rfl ?_
        refine j_istore F [(13, vi r_4), (12, vi 1), (10, vl (-1)), (9, vi r_10), (8, vi r_8), (7, vi r_6), (6, vi r_4), (0, .ref h), (1, vi v1), (2, vi v2), (3, vi v3), (4, vi v4), (5, vi v5)] d_Mo_refine_67 (by decide) rfl ?_
        refine j_iload F 5 d_Mo_refine_69 rfl ?_
        refine j_istore F [(14, vi r_6), (13, vi r_4), (12, vi 1), (10, vl (-1)), (9, vi r_10), (8, vi r_8), (7, vi r_6), (6, vi r_4), (0, .ref h), (1, vi v1), (2, vi v2), (3, vi v3), (4, vi v4), (5, vi v5)] d_Mo_refine_71 (by decide) rfl ?_
        refine j_sub [8, 9, 10, 11, 12, 13, 7, 6, 5, 4, 2, 1, 0] rfl ?_
        obtain ⟨n0, hw⟩ := hw
        exact B73 n0 _ _ _ _ _ _ _ _ _ _ _ _ _ hw
  unfold wp_Mo_refine at hw
  show jat l D X 22 0 [(0, .ref h), (1, vi v1), (2, vi v2), (3, vi v3)] [] (mw h ad kc S) 0 0
  refine j_iconst F d_Mo_refine_0 ?_
  refine j_istore F [(4, vi 0), (0, .ref h), (1, vi v1), (2, vi v2), (3, vi v3)] d_Mo_refine_1 (by decide) rfl ?_
  refine j_iconst F d_Mo_refine_3 ?_
  refine j_istore F [(5, vi 0), (4, vi 0), (0, .ref h), (1, vi v1), (2, vi v2), (3, vi v3)] d_Mo_refine_4 (by decide) rfl ?_
  refine j_sub [2, 3, 4, 5, 1, 0] rfl ?_
  obtain ⟨n0, hw⟩ := hw
  exact B6 n0 _ _ _ _ _ _ hw
