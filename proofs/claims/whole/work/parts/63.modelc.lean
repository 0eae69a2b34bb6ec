theorem tj_187 : (Jvm.Cond.fieldLink "LandBookModel" (37 : Nat) "LandBookModel" "kinds" "[I") ∈ tw_G := tw_in (List.mem_of_getElem? (i := 1062) (by decide +kernel)) rfl
theorem tj_188 : (Jvm.Cond.fieldLink "LandBookModel" (43 : Nat) "LandBookModel" "one" "[I") ∈ tw_G := tw_in (List.mem_of_getElem? (i := 1064) (by decide +kernel)) rfl
theorem tj_189 : (Jvm.Cond.methodLink "LandBookModel" (188 : Nat) ({ cls := "LandBookModel", name := "burdens", desc := "(IIII)Z" } : Jvm.MethodName)) ∈ tw_G := tw_in (List.mem_of_getElem? (i := 1265) (by decide +kernel)) rfl
theorem tj_190 : (Jvm.Cond.instanceMethod ({ cls := "LandBookModel", name := "burdens", desc := "(IIII)Z" } : Jvm.MethodName)) ∈ tw_G := tw_in (List.mem_of_getElem? (i := 1267) (by decide +kernel)) rfl
theorem tj_191 : (Jvm.Cond.selects "LandBookModel" ⟨"LandBookModel", "burdens", "(IIII)Z"⟩ ⟨"LandBookModel", "burdens", "(IIII)Z"⟩) ∈ tw_G := tw_in (List.mem_of_getElem? (i := 33) (by decide +kernel)) rfl
theorem tj_192 : (Jvm.Cond.code ({ cls := "LandBookModel", name := "burdens", desc := "(IIII)Z" } : Jvm.MethodName) prog_13_method_29_code (5 : Nat) (Option.some Jvm.ClassFile.FieldType.boolean)) ∈ tw_G := tw_in (List.mem_of_getElem? (i := 1268) (by decide +kernel)) rfl
theorem tj_193 : (Jvm.Cond.fieldLink "LandBookModel" (46 : Nat) "LandBookModel" "two" "[I") ∈ tw_G := tw_in (List.mem_of_getElem? (i := 1065) (by decide +kernel)) rfl
abbrev y_Mo_names : MethodName := ⟨"LandBookModel", "names", "(II)Z"⟩
theorem q_Mo_names : y_Mo_names.cls = "LandBookModel" ∧ y_Mo_names.cls ≠ "java/lang/invoke/MethodHandle" ∧ y_Mo_names.cls ≠ "java/lang/invoke/VarHandle" ∧ (parseMethodDescriptor y_Mo_names.desc).map (fun d => d.parameters.length) = some 2 := by decide +kernel
theorem d_Mo_names_0 : decode prog_13_method_30_code 0 = .ok (.aload_n 0, 1) := by decide +kernel
theorem d_Mo_names_1 : decode prog_13_method_30_code 1 = .ok (.getfield 37, 3) := by decide +kernel
theorem d_Mo_names_4 : decode prog_13_method_30_code 4 = .ok (.iload_n 1, 1) := by decide +kernel
theorem d_Mo_names_5 : decode prog_13_method_30_code 5 = .ok (.iaload, 1) := by decide +kernel
theorem d_Mo_names_6 : decode prog_13_method_30_code 6 = .ok (.tableswitch 72 1 4 #[30, 46, 30, 46], 30) := by decide +kernel
theorem d_Mo_names_78 : decode prog_13_method_30_code 78 = .ok (.aload_n 0, 1) := by decide +kernel
theorem d_Mo_names_79 : decode prog_13_method_30_code 79 = .ok (.aload_n 0, 1) := by decide +kernel
theorem d_Mo_names_80 : decode prog_13_method_30_code 80 = .ok (.getfield 43, 3) := by decide +kernel
theorem d_Mo_names_83 : decode prog_13_method_30_code 83 = .ok (.iload_n 1, 1) := by decide +kernel
theorem d_Mo_names_84 : decode prog_13_method_30_code 84 = .ok (.iaload, 1) := by decide +kernel
theorem d_Mo_names_85 : decode prog_13_method_30_code 85 = .ok (.iload_n 2, 1) := by decide +kernel
theorem d_Mo_names_86 : decode prog_13_method_30_code 86 = .ok (.aload_n 0, 1) := by decide +kernel
theorem d_Mo_names_87 : decode prog_13_method_30_code 87 = .ok (.getfield 40, 3) := by decide +kernel
theorem d_Mo_names_90 : decode prog_13_method_30_code 90 = .ok (.iload_n 1, 1) := by decide +kernel
theorem d_Mo_names_91 : decode prog_13_method_30_code 91 = .ok (.iaload, 1) := by decide +kernel
theorem d_Mo_names_92 : decode prog_13_method_30_code 92 = .ok (.iload_n 1, 1) := by decide +kernel
theorem d_Mo_names_93 : decode prog_13_method_30_code 93 = .ok (.iconst 1, 1) := by decide +kernel
theorem d_Mo_names_94 : decode prog_13_method_30_code 94 = .ok (.isub, 1) := by decide +kernel
theorem d_Mo_names_95 : decode prog_13_method_30_code 95 = .ok (.invokevirtual 188, 3) := by decide +kernel
theorem d_Mo_names_98 : decode prog_13_method_30_code 98 = .ok (.ireturn, 1) := by decide +kernel
theorem d_Mo_names_36 : decode prog_13_method_30_code 36 = .ok (.aload_n 0, 1) := by decide +kernel
theorem d_Mo_names_37 : decode prog_13_method_30_code 37 = .ok (.getfield 43, 3) := by decide +kernel
theorem d_Mo_names_40 : decode prog_13_method_30_code 40 = .ok (.iload_n 1, 1) := by decide +kernel
theorem d_Mo_names_41 : decode prog_13_method_30_code 41 = .ok (.iaload, 1) := by decide +kernel
theorem d_Mo_names_42 : decode prog_13_method_30_code 42 = .ok (.iload_n 2, 1) := by decide +kernel
theorem d_Mo_names_43 : decode prog_13_method_30_code 43 = .ok (.if_icmp .ne 7, 3) := by decide +kernel
theorem d_Mo_names_50 : decode prog_13_method_30_code 50 = .ok (.iconst 0, 1) := by decide +kernel
theorem d_Mo_names_51 : decode prog_13_method_30_code 51 = .ok (.ireturn, 1) := by decide +kernel
theorem d_Mo_names_46 : decode prog_13_method_30_code 46 = .ok (.iconst 1, 1) := by decide +kernel
theorem d_Mo_names_47 : decode prog_13_method_30_code 47 = .ok (.goto 4, 3) := by decide +kernel
theorem d_Mo_names_52 : decode prog_13_method_30_code 52 = .ok (.aload_n 0, 1) := by decide +kernel
theorem d_Mo_names_53 : decode prog_13_method_30_code 53 = .ok (.getfield 43, 3) := by decide +kernel
theorem d_Mo_names_56 : decode prog_13_method_30_code 56 = .ok (.iload_n 1, 1) := by decide +kernel
theorem d_Mo_names_57 : decode prog_13_method_30_code 57 = .ok (.iaload, 1) := by decide +kernel
theorem d_Mo_names_58 : decode prog_13_method_30_code 58 = .ok (.iload_n 2, 1) := by decide +kernel
theorem d_Mo_names_59 : decode prog_13_method_30_code 59 = .ok (.if_icmp .eq 13, 3) := by decide +kernel
theorem d_Mo_names_72 : decode prog_13_method_30_code 72 = .ok (.iconst 1, 1) := by decide +kernel
theorem d_Mo_names_73 : decode prog_13_method_30_code 73 = .ok (.goto 4, 3) := by decide +kernel
theorem d_Mo_names_77 : decode prog_13_method_30_code 77 = .ok (.ireturn, 1) := by decide +kernel
theorem d_Mo_names_62 : decode prog_13_method_30_code 62 = .ok (.aload_n 0, 1) := by decide +kernel
theorem d_Mo_names_63 : decode prog_13_method_30_code 63 = .ok (.getfield 46, 3) := by decide +kernel
theorem d_Mo_names_66 : decode prog_13_method_30_code 66 = .ok (.iload_n 1, 1) := by decide +kernel
theorem d_Mo_names_67 : decode prog_13_method_30_code 67 = .ok (.iaload, 1) := by decide +kernel
theorem d_Mo_names_68 : decode prog_13_method_30_code 68 = .ok (.iload_n 2, 1) := by decide +kernel
theorem d_Mo_names_69 : decode prog_13_method_30_code 69 = .ok (.if_icmp .ne 7, 3) := by decide +kernel
theorem d_Mo_names_76 : decode prog_13_method_30_code 76 = .ok (.iconst 0, 1) := by decide +kernel
def wp_Mo_names_52 (post : Int → MS → Prop) (v1 : Int) (v2 : Int) (S : MS) : Prop := ixR v1 601 ∧ (inR (S.2 18 v1.toNat) ∧ inR v2 ∧ ((S.2 18 v1.toNat) = v2 → post 1 S) ∧ (¬ ((S.2 18 v1.toNat) = v2) → (ixR v1 601 ∧ (inR (S.2 19 v1.toNat) ∧ inR v2 ∧ (¬ ((S.2 19 v1.toNat) = v2) → post 0 S) ∧ ((S.2 19 v1.toNat) = v2 → post 1 S)))))
def wp_Mo_names_36 (post : Int → MS → Prop) (v1 : Int) (v2 : Int) (S : MS) : Prop := ixR v1 601 ∧ (inR (S.2 18 v1.toNat) ∧ inR v2 ∧ (¬ ((S.2 18 v1.toNat) = v2) → post 0 S) ∧ ((S.2 18 v1.toNat) = v2 → post 1 S))
def wp_Mo_names (post : Int → MS → Prop) (v1 : Int) (v2 : Int) (S : MS) : Prop := ixR v1 601 ∧ (inR (S.2 16 v1.toNat) ∧ ((S.2 16 v1.toNat) < 1 ∨ 4 < (S.2 16 v1.toNat) → (ixR v1 601 ∧ (ixR v1 601 ∧ (wp_Mo_burdens (fun r_2 S_1 => b01 r_2 ∧ post r_2 S_1) (S.2 18 v1.toNat) v2 (S.2 17 v1.toNat) (v1 - 1) S)))) ∧ ((S.2 16 v1.toNat) = 1 → wp_Mo_names_36 post v1 v2 S) ∧ ((S.2 16 v1.toNat) = 2 → wp_Mo_names_52 post v1 v2 S) ∧ ((S.2 16 v1.toNat) = 3 → wp_Mo_names_36 post v1 v2 S) ∧ ((S.2 16 v1.toNat) = 4 → wp_Mo_names_52 post v1 v2 S))
set_option maxHeartbeats 4000000 in
set_option maxRecDepth 100000 in
theorem c_Mo_names (l : Launch) {D : va_G} {h : Nat} {ad : Nat → Nat} {kc : Nat → ClassId} {post : Int → MS → Prop} {v1 : Int} {v2 : Int} {S : MS} (hw : wp_Mo_names post v1 v2 S) : jMi l D h ad kc y_Mo_names prog_13_method_30_code 3 (some .boolean) 4 94 S [vi v1, vi v2] post := by
  refine j_moz (own := "LandBookModel") (by decide) rfl (Nat.le_of_ble_eq_true rfl) (fun X F K hret => ?_)
  have B52 : ∀ (v1 : Int) (v2 : Int) (S : MS), wp_Mo_names_52 post v1 v2 S → jat l D X 3 52 [(0, .ref h), (1, vi v1), (2, vi v2)] [] (mw h ad kc S) 0 0 := by
    intro v1 v2 S hw
    unfold wp_Mo_names_52 at hw
    refine j_aload_n F 0 d_Mo_names_52 rfl ?_
    refine m_geta F K 18 (by decide) (by decide) tj_188 rfl d_Mo_names_53 ?_
    refine j_iload_n F 1 d_Mo_names_56 rfl ?_
    obtain ⟨hc1, hw⟩ := hw
    refine m_iald F K 18 11 rfl rfl hc1 d_Mo_names_57 ?_
    refine j_iload_n F 2 d_Mo_names_58 rfl ?_
    obtain ⟨hc1, hc2, hwt, hwf⟩ := hw
    refine j_icmp_eq F 72 hc1 hc2 d_Mo_names_59 rfl (fun hh => ?_) (fun hh => ?_)
    · have hw := hwt hh
      refine j_iconst F d_Mo_names_72 ?_
      refine j_goto F 77 d_Mo_names_73 rfl ?_
      exact hret _ _ _ _ hw (Or.inr rfl) d_Mo_names_77
    · have hw := hwf hh
      refine j_aload_n F 0 d_Mo_names_62 rfl ?_
      refine m_geta F K 19 (by decide) (by decide) tj_193 rfl d_Mo_names_63 ?_
      refine j_iload_n F 1 d_Mo_names_66 rfl ?_
      obtain ⟨hc1, hw⟩ := hw
      refine m_iald F K 19 12 rfl rfl hc1 d_Mo_names_67 ?_
      refine j_iload_n F 2 d_Mo_names_68 rfl ?_
      obtain ⟨hc1, hc2, hwt, hwf⟩ := hw
      refine j_icmp_ne F 76 hc1 hc2 d_Mo_names_69 rfl (fun hh => ?_) (fun hh => ?_)
      · have hw := hwt hh
        refine j_iconst F d_Mo_names_76 ?_
        exact hret _ _ _ _ hw (Or.inl rfl) d_Mo_names_77
      · have hw := hwf hh
        refine j_iconst F d_Mo_names_72 ?_
        refine j_goto F 77 d_Mo_names_73 rfl ?_
        exact hret _ _ _ _ hw (Or.inr rfl) d_Mo_names_77
  have B36 : ∀ (v1 : Int) (v2 : Int) (S : MS), wp_Mo_names_36 post v1 v2 S → jat l D X 3 36 [(0, .ref h), (1, vi v1), (2, vi v2)] [] (mw h ad kc S) 0 0 := by
    intro v1 v2 S hw
    unfold wp_Mo_names_36 at hw
    refine j_aload_n F 0 d_Mo_names_36 rfl ?_
    refine m_geta F K 18 (by decide) (by decide) tj_188 rfl d_Mo_names_37 ?_
    refine j_iload_n F 1 d_Mo_names_40 rfl ?_
    obtain ⟨hc1, hw⟩ := hw
    refine m_iald F K 18 11 rfl rfl hc1 d_Mo_names_41 ?_
    refine j_iload_n F 2 d_Mo_names_42 rfl ?_
    obtain ⟨hc1, hc2, hwt, hwf⟩ := hw
    refine j_icmp_ne F 50 hc1 hc2 d_Mo_names_43 rfl (fun hh => ?_) (fun hh => ?_)
    · have hw := hwt hh
      refine j_iconst F d_Mo_names_50 ?_
      exact hret _ _ _ _ hw (Or.inl rfl) d_Mo_names_51
    · have hw := hwf hh
      refine j_iconst F d_Mo_names_46 ?_
      refine j_goto F 51 d_Mo_names_47 rfl ?_
      exact hret _ _ _ _ hw (Or.inr rfl) d_Mo_names_51
  unfold wp_Mo_names at hw
  show jat l D X 3 0 [(0, .ref h), (1, vi v1), (2, vi v2)] [] (mw h ad kc S) 0 0
  refine j_aload_n F 0 d_Mo_names_0 rfl ?_
  refine m_geta F K 16 (by decide) (by decide) tj_187 rfl d_Mo_names_1 ?_
  refine j_iload_n F 1 d_Mo_names_4 rfl ?_
  obtain ⟨hc1, hw⟩ := hw
  refine m_iald F K 16 9 rfl rfl hc1 d_Mo_names_5 ?_
  obtain ⟨hc1, hw0, hw1, hw2, hw3, hw4⟩ := hw
  by_cases hz : (S.2 16 v1.toNat) < 1 ∨ 4 < (S.2 16 v1.toNat)
  · refine j_tableOut F 78 hc1 d_Mo_names_6 hz rfl ?_
    have hw := hw0 hz
    refine j_aload_n F 0 d_Mo_names_78 rfl ?_
    refine j_aload_n F 0 d_Mo_names_79 rfl ?_
    refine m_geta F K 18 (by decide) (by decide) tj_188 rfl d_Mo_names_80 ?_
    refine j_iload_n F 1 d_Mo_names_83 rfl ?_
    obtain ⟨hc1, hw⟩ := hw
    refine m_iald F K 18 11 rfl rfl hc1 d_Mo_names_84 ?_
    refine j_iload_n F 2 d_Mo_names_85 rfl ?_
    refine j_aload_n F 0 d_Mo_names_86 rfl ?_
    refine m_geta F K 17 (by decide) (by decide) tj_162 rfl d_Mo_names_87 ?_
    refine j_iload_n F 1 d_Mo_names_90 rfl ?_
    obtain ⟨hc1, hw⟩ := hw
    refine m_iald F K 17 10 rfl rfl hc1 d_Mo_names_91 ?_
    refine j_iload_n F 1 d_Mo_names_92 rfl ?_
    refine j_iconst F d_Mo_names_93 ?_
    refine j_isub F d_Mo_names_94 ?_
    refine m_calli F K (c_Mo_burdens l hw) (tw_gV tj_189 tj_190 tj_191 tj_87 tj_192) q_Mo_burdens rfl ⟨by decide, by decide⟩ ⟨Nat.zero_le _, Nat.zero_le _⟩ rfl (Nat.le_of_ble_eq_true rfl) d_Mo_names_95 (fun r_2 S_1 hw => ?_)
    exact hret _ _ _ _ hw.2 hw.1 d_Mo_names_98
  · rcases (show (S.2 16 v1.toNat) = 1 ∨ (S.2 16 v1.toNat) = 2 ∨ (S.2 16 v1.toNat) = 3 ∨ (S.2 16 v1.toNat) = 4 by omega) with hy | hy | hy | hy
    · refine j_tableIn F 36 hc1 d_Mo_names_6 hy (by decide) (by decide) rfl rfl ?_
      have hw := hw1 hy
      exact B36 _ _ _ hw
    · refine j_tableIn F 52 hc1 d_Mo_names_6 hy (by decide) (by decide) rfl rfl ?_
      have hw := hw2 hy
      exact B52 _ _ _ hw
    · refine j_tableIn F 36 hc1 d_Mo_names_6 hy (by decide) (by decide) rfl rfl ?_
      have hw := hw3 hy
      exact B36 _ _ _ hw
    · refine j_tableIn F 52 hc1 d_Mo_names_6 hy (by decide) (by decide) rfl rfl ?_
      have hw := hw4 hy
      exact B52 _ _ _ hw
theorem tj_194 : (Jvm.Cond.fieldLink "LandBookModel" (192 : Nat) "LandBookModel" "deeds" "I") ∈ tw_G := tw_in (List.mem_of_getElem? (i := 1061) (by decide +kernel)) rfl
theorem tj_195 : (Jvm.Cond.methodLink "LandBookModel" (195 : Nat) ({ cls := "LandBookModel", name := "names", desc := "(II)Z" } : Jvm.MethodName)) ∈ tw_G := tw_in (List.mem_of_getElem? (i := 1261) (by decide +kernel)) rfl
theorem tj_196 : (Jvm.Cond.instanceMethod ({ cls := "LandBookModel", name := "names", desc := "(II)Z" } : Jvm.MethodName)) ∈ tw_G := tw_in (List.mem_of_getElem? (i := 1263) (by decide +kernel)) rfl
theorem tj_197 : (Jvm.Cond.selects "LandBookModel" ⟨"LandBookModel", "names", "(II)Z"⟩ ⟨"LandBookModel", "names", "(II)Z"⟩) ∈ tw_G := tw_in (List.mem_of_getElem? (i := 32) (by decide +kernel)) rfl
theorem tj_198 : (Jvm.Cond.code ({ cls := "LandBookModel", name := "names", desc := "(II)Z" } : Jvm.MethodName) prog_13_method_30_code (3 : Nat) (Option.some Jvm.ClassFile.FieldType.boolean)) ∈ tw_G := tw_in (List.mem_of_getElem? (i := 1264) (by decide +kernel)) rfl
abbrev y_Mo_isLate : MethodName := ⟨"LandBookModel", "isLate", "(II)Z"⟩
theorem q_Mo_isLate : y_Mo_isLate.cls = "LandBookModel" ∧ y_Mo_isLate.cls ≠ "java/lang/invoke/MethodHandle" ∧ y_Mo_isLate.cls ≠ "java/lang/invoke/VarHandle" ∧ (parseMethodDescriptor y_Mo_isLate.desc).map (fun d => d.parameters.length) = some 2 := by decide +kernel
theorem d_Mo_isLate_0 : decode prog_13_method_31_code 0 = .ok (.iconst 0, 1) := by decide +kernel
theorem d_Mo_isLate_1 : decode prog_13_method_31_code 1 = .ok (.istore_n 3, 1) := by decide +kernel
theorem d_Mo_isLate_2 : decode prog_13_method_31_code 2 = .ok (.iconst 1, 1) := by decide +kernel
theorem d_Mo_isLate_3 : decode prog_13_method_31_code 3 = .ok (.istore 4, 2) := by decide +kernel
theorem d_Mo_isLate_5 : decode prog_13_method_31_code 5 = .ok (.iload 4, 2) := by decide +kernel
theorem d_Mo_isLate_7 : decode prog_13_method_31_code 7 = .ok (.aload_n 0, 1) := by decide +kernel
theorem d_Mo_isLate_8 : decode prog_13_method_31_code 8 = .ok (.getfield 192, 3) := by decide +kernel
theorem d_Mo_isLate_11 : decode prog_13_method_31_code 11 = .ok (.if_icmp .gt 40, 3) := by decide +kernel
theorem d_Mo_isLate_51 : decode prog_13_method_31_code 51 = .ok (.iload_n 3, 1) := by decide +kernel
theorem d_Mo_isLate_52 : decode prog_13_method_31_code 52 = .ok (.ireturn, 1) := by decide +kernel
theorem d_Mo_isLate_14 : decode prog_13_method_31_code 14 = .ok (.iload_n 3, 1) := by decide +kernel
theorem d_Mo_isLate_15 : decode prog_13_method_31_code 15 = .ok (.ifCond .ne 24, 3) := by decide +kernel
theorem d_Mo_isLate_39 : decode prog_13_method_31_code 39 = .ok (.iconst 1, 1) := by decide +kernel
theorem d_Mo_isLate_40 : decode prog_13_method_31_code 40 = .ok (.goto 4, 3) := by decide +kernel
theorem d_Mo_isLate_18 : decode prog_13_method_31_code 18 = .ok (.aload_n 0, 1) := by decide +kernel
theorem d_Mo_isLate_19 : decode prog_13_method_31_code 19 = .ok (.getfield 40, 3) := by decide +kernel
theorem d_Mo_isLate_22 : decode prog_13_method_31_code 22 = .ok (.iload 4, 2) := by decide +kernel
theorem d_Mo_isLate_24 : decode prog_13_method_31_code 24 = .ok (.iaload, 1) := by decide +kernel
theorem d_Mo_isLate_25 : decode prog_13_method_31_code 25 = .ok (.iload_n 2, 1) := by decide +kernel
theorem d_Mo_isLate_26 : decode prog_13_method_31_code 26 = .ok (.if_icmp .le 17, 3) := by decide +kernel
theorem d_Mo_isLate_43 : decode prog_13_method_31_code 43 = .ok (.iconst 0, 1) := by decide +kernel
theorem d_Mo_isLate_29 : decode prog_13_method_31_code 29 = .ok (.aload_n 0, 1) := by decide +kernel
theorem d_Mo_isLate_30 : decode prog_13_method_31_code 30 = .ok (.iload 4, 2) := by decide +kernel
theorem d_Mo_isLate_32 : decode prog_13_method_31_code 32 = .ok (.iload_n 1, 1) := by decide +kernel
theorem d_Mo_isLate_33 : decode prog_13_method_31_code 33 = .ok (.invokevirtual 195, 3) := by decide +kernel
theorem d_Mo_isLate_36 : decode prog_13_method_31_code 36 = .ok (.ifCond .eq 7, 3) := by decide +kernel
theorem d_Mo_isLate_44 : decode prog_13_method_31_code 44 = .ok (.istore_n 3, 1) := by decide +kernel
theorem d_Mo_isLate_45 : decode prog_13_method_31_code 45 = .ok (.iinc 4 1, 3) := by decide +kernel
theorem d_Mo_isLate_48 : decode prog_13_method_31_code 48 = .ok (.goto (-43), 3) := by decide +kernel
def wp_Mo_isLate_44 (post : Int → MS → Prop) (k5 : Int → Int → Int → Int → MS → Prop) (v1 : Int) (v2 : Int) (v4 : Int) (s0 : Int) (S : MS) : Prop := k5 v1 v2 s0 (v4 + 1) S
def wp_Mo_isLate_5 (post : Int → MS → Prop) : Nat → Int → Int → Int → Int → MS → Prop
  | 0, _, _, _, _, _ => False
  | n + 1, v1, v2, v3, v4, S => inR v4 ∧ inR (S.1 15) ∧ ((S.1 15) < v4 → (b01 v3 ∧ post v3 S)) ∧ (¬ ((S.1 15) < v4) → (inR v3 ∧ (¬ (v3 = 0) → wp_Mo_isLate_44 post (wp_Mo_isLate_5 post n) v1 v2 v4 1 S) ∧ (v3 = 0 → (ixR v4 601 ∧ (inR (S.2 17 v4.toNat) ∧ inR v2 ∧ ((S.2 17 v4.toNat) ≤ v2 → wp_Mo_isLate_44 post (wp_Mo_isLate_5 post n) v1 v2 v4 0 S) ∧ (¬ ((S.2 17 v4.toNat) ≤ v2) → (wp_Mo_names (fun r_2 S_1 => inR r_2 ∧ (r_2 = 0 → wp_Mo_isLate_44 post (wp_Mo_isLate_5 post n) v1 v2 v4 0 S_1) ∧ (¬ (r_2 = 0) → wp_Mo_isLate_44 post (wp_Mo_isLate_5 post n) v1 v2 v4 1 S_1)) v4 v1 S)))))))
def wp_Mo_isLate (post : Int → MS → Prop) (v1 : Int) (v2 : Int) (S : MS) : Prop := ∃ n0 : Nat, wp_Mo_isLate_5 post n0 v1 v2 0 1 S
set_option maxHeartbeats 4000000 in
set_option maxRecDepth 100000 in
theorem c_Mo_isLate (l : Launch) {D : va_G} {h : Nat} {ad : Nat → Nat} {kc : Nat → ClassId} {post : Int → MS → Prop} {v1 : Int} {v2 : Int} {S : MS} (hw : wp_Mo_isLate post v1 v2 S) : jMi l D h ad kc y_Mo_isLate prog_13_method_31_code 5 (some .boolean) 5 116 S [vi v1, vi v2] post := by
  refine j_moz (own := "LandBookModel") (by decide) rfl (Nat.le_of_ble_eq_true rfl) (fun X F K hret => ?_)
  have B5 : ∀ (n0 : Nat) (v1 : Int) (v2 : Int) (v3 : Int) (v4 : Int) (S : MS), wp_Mo_isLate_5 post n0 v1 v2 v3 v4 S → jat l D X 5 5 [(0, .ref h), (1, vi v1), (2, vi v2), (3, vi v3), (4, vi v4)] [] (mw h ad kc S) 0 0 := by
    intro n0
    induction n0 with
    | zero => intro v1 v2 v3 v4 S hw; exact hw.elim
    | succ n5 ih5 =>
      have B44 : ∀ (v1 : Int) (v2 : Int) (v4 : Int) (s0 : Int) (S : MS), wp_Mo_isLate_44 post (wp_Mo_isLate_5 post n5) v1 v2 v4 s0 S → jat l D X 5 44 [(0, .ref h), (1, vi v1), (2, vi v2), (4, vi v4)] [vi s0] (mw h ad kc S) 0 0 := by
        intro v1 v2 v4 s0 S hw
        unfold wp_Mo_isLate_44 at hw
        refine j_istore_n F [(3, vi s0), (0, .ref h), (1, vi v1), (2, vi v2), (4, vi v4)] d_Mo_isLate_44 (by decide) rfl ?_
        refine j_iinc F 4 [(4, vi (v4 + 1)), (3, vi s0), (0, .ref h), (1, vi v1), (2, vi v2)] d_Mo_isLate_45 rfl (by decide) rfl ?_
        refine j_goto F 5 d_Mo_isLate_48 rfl ?_
        refine j_sub [2, 3, 4, 1, 0] rfl ?_
        exact ih5 _ _ _ _ _ hw
      intro v1 v2 v3 v4 S hw
      unfold wp_Mo_isLate_5 at hw
      refine j_iload F 4 d_Mo_isLate_5 rfl ?_
      refine j_aload_n F 0 d_Mo_isLate_7 rfl ?_
      refine m_geti F K 15 (by decide) rfl tj_194 rfl d_Mo_isLate_8 ?_
      obtain ⟨hc1, hc2, hwt, hwf⟩ := hw
      refine j_icmp_gt F 51 hc1 hc2 d_Mo_isLate_11 rfl (fun hh => ?_) (fun hh => ?_)
      · have hw := hwt hh
        refine j_iload_n F 3 d_Mo_isLate_51 rfl ?_
        exact hret _ _ _ _ hw.2 hw.1 d_Mo_isLate_52
      · have hw := hwf hh
        refine j_iload_n F 3 d_Mo_isLate_14 rfl ?_
        obtain ⟨hc1, hwt, hwf⟩ := hw
        refine j_if_ne F 39 hc1 d_Mo_isLate_15 rfl (fun hh => ?_) (fun hh => ?_)
        · have hw := hwt hh
          refine j_iconst F d_Mo_isLate_39 ?_
          refine j_goto F 44 d_Mo_isLate_40 rfl ?_
          refine j_sub [0, 1, 2, 4] rfl ?_
          exact B44 _ _ _ _ _ hw
        · have hw := hwf hh
          refine j_aload_n F 0 d_Mo_isLate_18 rfl ?_
          refine m_geta F K 17 (by decide) (by decide) tj_162 rfl d_Mo_isLate_19 ?_
          refine j_iload F 4 d_Mo_isLate_22 rfl ?_
          obtain ⟨hc1, hw⟩ := hw
          refine m_iald F K 17 10 rfl rfl hc1 d_Mo_isLate_24 ?_
          refine j_iload_n F 2 d_Mo_isLate_25 rfl ?_
          obtain ⟨hc1, hc2, hwt, hwf⟩ := hw
          refine j_icmp_le F 43 hc1 hc2 d_Mo_isLate_26 rfl (fun hh => ?_) (fun hh => ?_)
          · have hw := hwt hh
            refine j_iconst F d_Mo_isLate_43 ?_
            refine j_sub [0, 1, 2, 4] rfl ?_
            exact B44 _ _ _ _ _ hw
          · have hw := hwf hh
            refine j_aload_n F 0 d_Mo_isLate_29 rfl ?_
            refine j_iload F 4 d_Mo_isLate_30 rfl ?_
            refine j_iload_n F 1 d_Mo_isLate_32 rfl ?_
            refine m_calli F K (c_Mo_names l hw) (tw_gV tj_195 tj_196 tj_197 tj_87 tj_198) q_Mo_names rfl ⟨by decide, by decide⟩ ⟨Nat.zero_le _, Nat.zero_le _⟩ rfl (Nat.le_of_ble_eq_true rfl) d_Mo_isLate_33 (fun r_2 S_1 hw => ?_)
            obtain ⟨hc1, hwt, hwf⟩ := hw
            refine j_if_eq F 43 hc1 d_Mo_isLate_36 rfl (fun hh => ?_) (fun hh => ?_)
            · have hw := hwt hh
              refine j_iconst F d_Mo_isLate_43 ?_
              refine j_sub [0, 1, 2, 4] rfl ?_
              exact B44 _ _ _ _ _ hw
            · have hw := hwf hh
              refine j_iconst F d_Mo_isLate_39 ?_
              refine j_goto F 44 d_Mo_isLate_40 rfl ?_
              refine j_sub [0, 1, 2, 4] rfl ?_
              exact B44 _ _ _ _ _ hw
  unfold wp_Mo_isLate at hw
  show jat l D X 5 0 [(0, .ref h), (1, vi v1), (2, vi v2)] [] (mw h ad kc S) 0 0
  refine j_iconst F d_Mo_isLate_0 ?_
  refine j_istore_n F [(3, vi 0), (0, .ref h), (1, vi v1), (2, vi v2)] d_Mo_isLate_1 (by decide) rfl ?_
  refine j_iconst F d_Mo_isLate_2 ?_
  refine j_istore F [(4, vi 1), (3, vi 0), (0, .ref h), (1, vi v1), (2, vi v2)] d_Mo_isLate_3 (by decide) rfl ?_
  refine j_sub [2, 3, 4, 1, 0] rfl ?_
  obtain ⟨n0, hw⟩ := hw
  exact B5 n0 _ _ _ _ _ hw
theorem tj_199 : (Jvm.Cond.fieldLink "LandBookModel" (52 : Nat) "LandBookModel" "parts" "[I") ∈ tw_G := tw_in (List.mem_of_getElem? (i := 1067) (by decide +kernel)) rfl
theorem tj_200 : (Jvm.Cond.fieldLink "LandBookModel" (49 : Nat) "LandBookModel" "three" "[I") ∈ tw_G := tw_in (List.mem_of_getElem? (i := 1066) (by decide +kernel)) rfl
abbrev y_Mo_shareOf : MethodName := ⟨"LandBookModel", "shareOf", "(IIII)I"⟩
theorem q_Mo_shareOf : y_Mo_shareOf.cls = "LandBookModel" ∧ y_Mo_shareOf.cls ≠ "java/lang/invoke/MethodHandle" ∧ y_Mo_shareOf.cls ≠ "java/lang/invoke/VarHandle" ∧ (parseMethodDescriptor y_Mo_shareOf.desc).map (fun d => d.parameters.length) = some 4 := by decide +kernel
theorem d_Mo_shareOf_0 : decode prog_13_method_32_code 0 = .ok (.iload_n 2, 1) := by decide +kernel
theorem d_Mo_shareOf_1 : decode prog_13_method_32_code 1 = .ok (.ifCond .ne 9, 3) := by decide +kernel
theorem d_Mo_shareOf_10 : decode prog_13_method_32_code 10 = .ok (.iconst 0, 1) := by decide +kernel
theorem d_Mo_shareOf_4 : decode prog_13_method_32_code 4 = .ok (.sipush 5040, 3) := by decide +kernel
theorem d_Mo_shareOf_7 : decode prog_13_method_32_code 7 = .ok (.goto 4, 3) := by decide +kernel
theorem d_Mo_shareOf_11 : decode prog_13_method_32_code 11 = .ok (.istore 5, 2) := by decide +kernel
theorem d_Mo_shareOf_13 : decode prog_13_method_32_code 13 = .ok (.iload_n 1, 1) := by decide +kernel
theorem d_Mo_shareOf_14 : decode prog_13_method_32_code 14 = .ok (.istore 6, 2) := by decide +kernel
theorem d_Mo_shareOf_16 : decode prog_13_method_32_code 16 = .ok (.iload 6, 2) := by decide +kernel
theorem d_Mo_shareOf_18 : decode prog_13_method_32_code 18 = .ok (.ifCond .le 124, 3) := by decide +kernel
theorem d_Mo_shareOf_142 : decode prog_13_method_32_code 142 = .ok (.iload 5, 2) := by decide +kernel
theorem d_Mo_shareOf_144 : decode prog_13_method_32_code 144 = .ok (.ireturn, 1) := by decide +kernel
theorem d_Mo_shareOf_21 : decode prog_13_method_32_code 21 = .ok (.iconst 1, 1) := by decide +kernel
theorem d_Mo_shareOf_22 : decode prog_13_method_32_code 22 = .ok (.istore 7, 2) := by decide +kernel
theorem d_Mo_shareOf_24 : decode prog_13_method_32_code 24 = .ok (.iload 7, 2) := by decide +kernel
theorem d_Mo_shareOf_26 : decode prog_13_method_32_code 26 = .ok (.aload_n 0, 1) := by decide +kernel
theorem d_Mo_shareOf_27 : decode prog_13_method_32_code 27 = .ok (.getfield 192, 3) := by decide +kernel
theorem d_Mo_shareOf_30 : decode prog_13_method_32_code 30 = .ok (.if_icmp .gt 100, 3) := by decide +kernel
theorem d_Mo_shareOf_130 : decode prog_13_method_32_code 130 = .ok (.aload_n 0, 1) := by decide +kernel
theorem d_Mo_shareOf_131 : decode prog_13_method_32_code 131 = .ok (.getfield 31, 3) := by decide +kernel
theorem d_Mo_shareOf_134 : decode prog_13_method_32_code 134 = .ok (.iload 6, 2) := by decide +kernel
theorem d_Mo_shareOf_136 : decode prog_13_method_32_code 136 = .ok (.iaload, 1) := by decide +kernel
theorem d_Mo_shareOf_137 : decode prog_13_method_32_code 137 = .ok (.istore 6, 2) := by decide +kernel
theorem d_Mo_shareOf_139 : decode prog_13_method_32_code 139 = .ok (.goto (-123), 3) := by decide +kernel
theorem d_Mo_shareOf_33 : decode prog_13_method_32_code 33 = .ok (.aload_n 0, 1) := by decide +kernel
theorem d_Mo_shareOf_34 : decode prog_13_method_32_code 34 = .ok (.getfield 37, 3) := by decide +kernel
theorem d_Mo_shareOf_37 : decode prog_13_method_32_code 37 = .ok (.iload 7, 2) := by decide +kernel
theorem d_Mo_shareOf_39 : decode prog_13_method_32_code 39 = .ok (.iaload, 1) := by decide +kernel
theorem d_Mo_shareOf_40 : decode prog_13_method_32_code 40 = .ok (.iconst 3, 1) := by decide +kernel
theorem d_Mo_shareOf_41 : decode prog_13_method_32_code 41 = .ok (.if_icmp .ne 83, 3) := by decide +kernel
theorem d_Mo_shareOf_44 : decode prog_13_method_32_code 44 = .ok (.aload_n 0, 1) := by decide +kernel
theorem d_Mo_shareOf_45 : decode prog_13_method_32_code 45 = .ok (.getfield 43, 3) := by decide +kernel
theorem d_Mo_shareOf_48 : decode prog_13_method_32_code 48 = .ok (.iload 7, 2) := by decide +kernel
theorem d_Mo_shareOf_50 : decode prog_13_method_32_code 50 = .ok (.iaload, 1) := by decide +kernel
theorem d_Mo_shareOf_51 : decode prog_13_method_32_code 51 = .ok (.iload 6, 2) := by decide +kernel
theorem d_Mo_shareOf_53 : decode prog_13_method_32_code 53 = .ok (.if_icmp .ne 71, 3) := by decide +kernel
theorem d_Mo_shareOf_56 : decode prog_13_method_32_code 56 = .ok (.aload_n 0, 1) := by decide +kernel
theorem d_Mo_shareOf_57 : decode prog_13_method_32_code 57 = .ok (.iload 7, 2) := by decide +kernel
theorem d_Mo_shareOf_59 : decode prog_13_method_32_code 59 = .ok (.iload_n 3, 1) := by decide +kernel
theorem d_Mo_shareOf_60 : decode prog_13_method_32_code 60 = .ok (.iload 4, 2) := by decide +kernel
theorem d_Mo_shareOf_62 : decode prog_13_method_32_code 62 = .ok (.invokevirtual 176, 3) := by decide +kernel
theorem d_Mo_shareOf_65 : decode prog_13_method_32_code 65 = .ok (.ifCond .eq 59, 3) := by decide +kernel
theorem d_Mo_shareOf_68 : decode prog_13_method_32_code 68 = .ok (.aload_n 0, 1) := by decide +kernel
theorem d_Mo_shareOf_69 : decode prog_13_method_32_code 69 = .ok (.getfield 46, 3) := by decide +kernel
theorem d_Mo_shareOf_72 : decode prog_13_method_32_code 72 = .ok (.iload 7, 2) := by decide +kernel
theorem d_Mo_shareOf_74 : decode prog_13_method_32_code 74 = .ok (.iaload, 1) := by decide +kernel
theorem d_Mo_shareOf_75 : decode prog_13_method_32_code 75 = .ok (.iload_n 2, 1) := by decide +kernel
theorem d_Mo_shareOf_76 : decode prog_13_method_32_code 76 = .ok (.if_icmp .ne 16, 3) := by decide +kernel
theorem d_Mo_shareOf_92 : decode prog_13_method_32_code 92 = .ok (.iload 5, 2) := by decide +kernel
theorem d_Mo_shareOf_79 : decode prog_13_method_32_code 79 = .ok (.iload 5, 2) := by decide +kernel
theorem d_Mo_shareOf_81 : decode prog_13_method_32_code 81 = .ok (.aload_n 0, 1) := by decide +kernel
theorem d_Mo_shareOf_82 : decode prog_13_method_32_code 82 = .ok (.getfield 52, 3) := by decide +kernel
theorem d_Mo_shareOf_85 : decode prog_13_method_32_code 85 = .ok (.iload 7, 2) := by decide +kernel
theorem d_Mo_shareOf_87 : decode prog_13_method_32_code 87 = .ok (.iaload, 1) := by decide +kernel
theorem d_Mo_shareOf_88 : decode prog_13_method_32_code 88 = .ok (.isub, 1) := by decide +kernel
theorem d_Mo_shareOf_89 : decode prog_13_method_32_code 89 = .ok (.goto 5, 3) := by decide +kernel
theorem d_Mo_shareOf_124 : decode prog_13_method_32_code 124 = .ok (.iinc 7 1, 3) := by decide +kernel
theorem d_Mo_shareOf_127 : decode prog_13_method_32_code 127 = .ok (.goto (-103), 3) := by decide +kernel
theorem d_Mo_shareOf_94 : decode prog_13_method_32_code 94 = .ok (.istore 5, 2) := by decide +kernel
theorem d_Mo_shareOf_96 : decode prog_13_method_32_code 96 = .ok (.aload_n 0, 1) := by decide +kernel
theorem d_Mo_shareOf_97 : decode prog_13_method_32_code 97 = .ok (.getfield 49, 3) := by decide +kernel
theorem d_Mo_shareOf_100 : decode prog_13_method_32_code 100 = .ok (.iload 7, 2) := by decide +kernel
theorem d_Mo_shareOf_102 : decode prog_13_method_32_code 102 = .ok (.iaload, 1) := by decide +kernel
theorem d_Mo_shareOf_103 : decode prog_13_method_32_code 103 = .ok (.iload_n 2, 1) := by decide +kernel
theorem d_Mo_shareOf_104 : decode prog_13_method_32_code 104 = .ok (.if_icmp .ne 16, 3) := by decide +kernel
theorem d_Mo_shareOf_120 : decode prog_13_method_32_code 120 = .ok (.iload 5, 2) := by decide +kernel
theorem d_Mo_shareOf_107 : decode prog_13_method_32_code 107 = .ok (.iload 5, 2) := by decide +kernel
theorem d_Mo_shareOf_109 : decode prog_13_method_32_code 109 = .ok (.aload_n 0, 1) := by decide +kernel
theorem d_Mo_shareOf_110 : decode prog_13_method_32_code 110 = .ok (.getfield 52, 3) := by decide +kernel
theorem d_Mo_shareOf_113 : decode prog_13_method_32_code 113 = .ok (.iload 7, 2) := by decide +kernel
theorem d_Mo_shareOf_115 : decode prog_13_method_32_code 115 = .ok (.iaload, 1) := by decide +kernel
theorem d_Mo_shareOf_116 : decode prog_13_method_32_code 116 = .ok (.iadd, 1) := by decide +kernel
theorem d_Mo_shareOf_117 : decode prog_13_method_32_code 117 = .ok (.goto 5, 3) := by decide +kernel
theorem d_Mo_shareOf_122 : decode prog_13_method_32_code 122 = .ok (.istore 5, 2) := by decide +kernel
def wp_Mo_shareOf_124 (post : Int → MS → Prop) (k16 : Int → Int → Int → Int → Int → MS → Prop) (k24 : Int → Int → Int → Int → Int → Int → MS → Prop) (v2 : Int) (v3 : Int) (v4 : Int) (v5 : Int) (v6 : Int) (v7 : Int) (S : MS) : Prop := k24 v2 v3 v4 v5 v6 (v7 + 1) S
def wp_Mo_shareOf_122 (post : Int → MS → Prop) (k16 : Int → Int → Int → Int → Int → MS → Prop) (k24 : Int → Int → Int → Int → Int → Int → MS → Prop) (v2 : Int) (v3 : Int) (v4 : Int) (v6 : Int) (v7 : Int) (s0 : Int) (S : MS) : Prop := wp_Mo_shareOf_124 post k16 k24 v2 v3 v4 s0 v6 v7 S
def wp_Mo_shareOf_94 (post : Int → MS → Prop) (k16 : Int → Int → Int → Int → Int → MS → Prop) (k24 : Int → Int → Int → Int → Int → Int → MS → Prop) (v2 : Int) (v3 : Int) (v4 : Int) (v6 : Int) (v7 : Int) (s0 : Int) (S : MS) : Prop := ixR v7 601 ∧ (inR (S.2 20 v7.toNat) ∧ inR v2 ∧ (¬ ((S.2 20 v7.toNat) = v2) → wp_Mo_shareOf_122 post k16 k24 v2 v3 v4 v6 v7 s0 S) ∧ ((S.2 20 v7.toNat) = v2 → (ixR v7 601 ∧ (wp_Mo_shareOf_122 post k16 k24 v2 v3 v4 v6 v7 (s0 + (S.2 21 v7.toNat)) S))))
def wp_Mo_shareOf_24 (post : Int → MS → Prop) (k16 : Int → Int → Int → Int → Int → MS → Prop) : Nat → Int → Int → Int → Int → Int → Int → MS → Prop
  | 0, _, _, _, _, _, _, _ => False
  | n + 1, v2, v3, v4, v5, v6, v7, S => inR v7 ∧ inR (S.1 15) ∧ ((S.1 15) < v7 → (ixR v6 302 ∧ (∀ v6_1 : Int, v6_1 = (S.2 13 v6.toNat) → k16 v2 v3 v4 v5 v6_1 S))) ∧ (¬ ((S.1 15) < v7) → (ixR v7 601 ∧ (inR (S.2 16 v7.toNat) ∧ (¬ ((S.2 16 v7.toNat) = 3) → wp_Mo_shareOf_124 post k16 (wp_Mo_shareOf_24 post k16 n) v2 v3 v4 v5 v6 v7 S) ∧ ((S.2 16 v7.toNat) = 3 → (ixR v7 601 ∧ (inR (S.2 18 v7.toNat) ∧ inR v6 ∧ (¬ ((S.2 18 v7.toNat) = v6) → wp_Mo_shareOf_124 post k16 (wp_Mo_shareOf_24 post k16 n) v2 v3 v4 v5 v6 v7 S) ∧ ((S.2 18 v7.toNat) = v6 → (wp_Mo_isInForce (fun r_3 S_2 => inR r_3 ∧ (r_3 = 0 → wp_Mo_shareOf_124 post k16 (wp_Mo_shareOf_24 post k16 n) v2 v3 v4 v5 v6 v7 S_2) ∧ (¬ (r_3 = 0) → (ixR v7 601 ∧ (inR (S_2.2 19 v7.toNat) ∧ inR v2 ∧ (¬ ((S_2.2 19 v7.toNat) = v2) → wp_Mo_shareOf_94 post k16 (wp_Mo_shareOf_24 post k16 n) v2 v3 v4 v6 v7 v5 S_2) ∧ ((S_2.2 19 v7.toNat) = v2 → (ixR v7 601 ∧ (wp_Mo_shareOf_94 post k16 (wp_Mo_shareOf_24 post k16 n) v2 v3 v4 v6 v7 (v5 - (S_2.2 21 v7.toNat)) S_2))))))) v7 v3 v4 S))))))))
def wp_Mo_shareOf_16 (post : Int → MS → Prop) : Nat → Int → Int → Int → Int → Int → MS → Prop
  | 0, _, _, _, _, _, _ => False
  | n + 1, v2, v3, v4, v5, v6, S => inR v6 ∧ (v6 ≤ 0 → post v5 S) ∧ (¬ (v6 ≤ 0) → (∃ n0 : Nat, wp_Mo_shareOf_24 post (wp_Mo_shareOf_16 post n) n0 v2 v3 v4 v5 v6 1 S))
def wp_Mo_shareOf_11 (post : Int → MS → Prop) (v1 : Int) (v2 : Int) (v3 : Int) (v4 : Int) (s0 : Int) (S : MS) : Prop := ∃ n0 : Nat, wp_Mo_shareOf_16 post n0 v2 v3 v4 s0 v1 S
def wp_Mo_shareOf (post : Int → MS → Prop) (v1 : Int) (v2 : Int) (v3 : Int) (v4 : Int) (S : MS) : Prop := inR v2 ∧ (¬ (v2 = 0) → wp_Mo_shareOf_11 post v1 v2 v3 v4 0 S) ∧ (v2 = 0 → wp_Mo_shareOf_11 post v1 v2 v3 v4 5040 S)
set_option maxHeartbeats 4000000 in
set_option maxRecDepth 100000 in
theorem c_Mo_shareOf (l : Launch) {D : va_G} {h : Nat} {ad : Nat → Nat} {kc : Nat → ClassId} {post : Int → MS → Prop} {v1 : Int} {v2 : Int} {v3 : Int} {v4 : Int} {S : MS} (hw : wp_Mo_shareOf post v1 v2 v3 v4 S) : jMi l D h ad kc y_Mo_shareOf prog_13_method_32_code 8 (some .int) 1 23 S [vi v1, vi v2, vi v3, vi v4] post := by
  refine j_moi (own := "LandBookModel") (by decide) rfl (Nat.le_of_ble_eq_true rfl) (fun X F K hret => ?_)
  have B16 : ∀ (n0 : Nat) (v2 : Int) (v3 : Int) (v4 : Int) (v5 : Int) (v6 : Int) (S : MS), wp_Mo_shareOf_16 post n0 v2 v3 v4 v5 v6 S → jat l D X 8 16 [(0, .ref h), (2, vi v2), (3, vi v3), (4, vi v4), (5, vi v5), (6, vi v6)] [] (mw h ad kc S) 0 0 := by
    intro n0
    induction n0 with
    | zero => intro v2 v3 v4 v5 v6 S hw; exact hw.elim
    | succ n16 ih16 =>
      have B24 : ∀ (n0 : Nat) (v2 : Int) (v3 : Int) (v4 : Int) (v5 : Int) (v6 : Int) (v7 : Int) (S : MS), wp_Mo_shareOf_24 post (wp_Mo_shareOf_16 post n16) n0 v2 v3 v4 v5 v6 v7 S → jat l D X 8 24 [(0, .ref h), (2, vi v2), (3, vi v3), (4, vi v4), (5, vi v5), (6, vi v6), (7, vi v7)] [] (mw h ad kc S) 0 0 := by
        intro n0
        induction n0 with
        | zero => intro v2 v3 v4 v5 v6 v7 S hw; exact hw.elim
        | succ n24 ih24 =>
          have B124 : ∀ (v2 : Int) (v3 : Int) (v4 : Int) (v5 : Int) (v6 : Int) (v7 : Int) (S : MS), wp_Mo_shareOf_124 post (wp_Mo_shareOf_16 post n16) (wp_Mo_shareOf_24 post (wp_Mo_shareOf_16 post n16) n24) v2 v3 v4 v5 v6 v7 S → jat l D X 8 124 [(0, .ref h), (2, vi v2), (3, vi v3), (4, vi v4), (5, vi v5), (6, vi v6), (7, vi v7)] [] (mw h ad kc S) 0 0 := by
            intro v2 v3 v4 v5 v6 v7 S hw
            unfold wp_Mo_shareOf_124 at hw
            refine j_iinc F 6 [(7, vi (v7 + 1)), (0, .ref h), (2, vi v2), (3, vi v3), (4, vi v4), (5, vi v5), (6, vi v6)] d_Mo_shareOf_124 rfl (by decide) rfl ?_
            refine j_goto F 24 d_Mo_shareOf_127 rfl ?_
            refine j_sub [1, 2, 3, 4, 5, 6, 0] rfl ?_
            exact ih24 _ _ _ _ _ _ _ hw
          have B122 : ∀ (v2 : Int) (v3 : Int) (v4 : Int) (v6 : Int) (v7 : Int) (s0 : Int) (S : MS), wp_Mo_shareOf_122 post (wp_Mo_shareOf_16 post n16) (wp_Mo_shareOf_24 post (wp_Mo_shareOf_16 post n16) n24) v2 v3 v4 v6 v7 s0 S → jat l D X 8 122 [(0, .ref h), (2, vi v2), (3, vi v3), (4, vi v4), (6, vi v6), (7, vi v7)] [vi s0] (mw h ad kc S) 0 0 := by
            intro v2 v3 v4 v6 v7 s0 S hw
            unfold wp_Mo_shareOf_122 at hw
            refine j_istore F [(5, vi s0), (0, .ref h), (2, vi v2), (3, vi v3), (4, vi v4), (6, vi v6), (7, vi v7)] d_Mo_shareOf_122 (by decide) rfl ?_
            refine j_sub [1, 2, 3, 4, 0, 5, 6] rfl ?_
            exact B124 _ _ _ _ _ _ _ hw
          have B94 : ∀ (v2 : Int) (v3 : Int) (v4 : Int) (v6 : Int) (v7 : Int) (s0 : Int) (S : MS), wp_Mo_shareOf_94 post (wp_Mo_shareOf_16 post n16) (wp_Mo_shareOf_24 post (wp_Mo_shareOf_16 post n16) n24) v2 v3 v4 v6 v7 s0 S → jat l D X 8 94 [(0, .ref h), (2, vi v2), (3, vi v3), (4, vi v4), (6, vi v6), (7, vi v7)] [vi s0] (mw h ad kc S) 0 0 := by
            intro v2 v3 v4 v6 v7 s0 S hw
            unfold wp_Mo_shareOf_94 at hw
            refine j_istore F [(5, vi s0), (0, .ref h), (2, vi v2), (3, vi v3), (4, vi v4), (6, vi v6), (7, vi v7)] d_Mo_shareOf_94 (by decide) rfl ?_
            refine j_aload_n F 1 d_Mo_shareOf_96 rfl ?_
            refine m_geta F K 20 (by decide) (by decide) tj_200 rfl d_Mo_shareOf_97 ?_
            refine j_iload F 6 d_Mo_shareOf_100 rfl ?_
            obtain ⟨hc1, hw⟩ := hw
            refine m_iald F K 20 13 rfl rfl hc1 d_Mo_shareOf_102 ?_
            refine j_iload_n F 2 d_Mo_shareOf_103 rfl ?_
            obtain ⟨hc1, hc2, hwt, hwf⟩ := hw
            refine j_icmp_ne F 120 hc1 hc2 d_Mo_shareOf_104 rfl (fun hh => ?_) (fun hh => ?_)
            · have hw := hwt hh
              refine j_iload F 0 d_Mo_shareOf_120 rfl ?_
              refine j_sub [1, 2, 3, 4, 5, 6] rfl ?_
              exact B122 _ _ _ _ _ _ _ hw
            · have hw := hwf hh
              refine j_iload F 0 d_Mo_shareOf_107 rfl ?_
              refine j_aload_n F 1 d_Mo_shareOf_109 rfl ?_
              refine m_geta F K 21 (by decide) (by decide) tj_199 rfl d_Mo_shareOf_110 ?_
              refine j_iload F 6 d_Mo_shareOf_113 rfl ?_
              obtain ⟨hc1, hw⟩ := hw
              refine m_iald F K 21 14 rfl rfl hc1 d_Mo_shareOf_115 ?_
              refine j_iadd F d_Mo_shareOf_116 ?_
              refine j_goto F 122 d_Mo_shareOf_117 rfl ?_
              refine j_sub [1, 2, 3, 4, 5, 6] rfl ?_
              exact B122 _ _ _ _ _ _ _ hw
          intro v2 v3 v4 v5 v6 v7 S hw
          unfold wp_Mo_shareOf_24 at hw
          refine j_iload F 6 d_Mo_shareOf_24 rfl ?_
          refine j_aload_n F 0 d_Mo_shareOf_26 rfl ?_
          refine m_geti F K 15 (by decide) rfl tj_194 rfl d_Mo_shareOf_27 ?_
          obtain ⟨hc1, hc2, hwt, hwf⟩ := hw
          refine j_icmp_gt F 130 hc1 hc2 d_Mo_shareOf_30 rfl (fun hh => ?_) (fun hh => ?_)
          · have hw := hwt hh
            refine j_aload_n F 0 d_Mo_shareOf_130 rfl ?_
            refine m_geta F K 13 (by decide) (by decide) tj_176 rfl d_Mo_shareOf_131 ?_
            refine j_iload F 5 d_Mo_shareOf_134 rfl ?_
            obtain ⟨hc1, hw⟩ := hw
            refine m_iald F K 13 7 rfl rfl hc1 d_Mo_shareOf_136 ?_
            refine j_nmi (fun v6_1 e_v6_1 => ?_)
            have hw := hw v6_1 e_v6_1
            refine j_istore F [(6, vi v6_1), (0, .ref h), (2, vi v2), (3, vi v3), (4, vi v4), (5, vi v5), (7, vi v7)] d_Mo_shareOf_137 (by decide) rfl ?_
            refine j_goto F 16 d_Mo_shareOf_139 rfl ?_
            refine j_sub [1, 2, 3, 4, 5, 0] rfl ?_
            exact ih16 _ _ _ _ _ _ hw
          · have hw := hwf hh
            refine j_aload_n F 0 d_Mo_shareOf_33 rfl ?_
            refine m_geta F K 16 (by decide) (by decide) tj_187 rfl d_Mo_shareOf_34 ?_
            refine j_iload F 6 d_Mo_shareOf_37 rfl ?_
            obtain ⟨hc1, hw⟩ := hw
            refine m_iald F K 16 9 rfl rfl hc1 d_Mo_shareOf_39 ?_
            refine j_iconst F d_Mo_shareOf_40 ?_
            obtain ⟨hc1, hwt, hwf⟩ := hw
            refine j_icmp_ne F 124 hc1 ⟨by decide, by decide⟩ d_Mo_shareOf_41 rfl (fun hh => ?_) (fun hh => ?_)
            · have hw := hwt hh
              exact B124 _ _ _ _ _ _ _ hw
            · have hw := hwf hh
              refine j_aload_n F 0 d_Mo_shareOf_44 rfl ?_
              refine m_geta F K 18 (by decide) (by decide) tj_188 rfl d_Mo_shareOf_45 ?_
              refine j_iload F 6 d_Mo_shareOf_48 rfl ?_
              obtain ⟨hc1, hw⟩ := hw
              refine m_iald F K 18 11 rfl rfl hc1 d_Mo_shareOf_50 ?_
              refine j_iload F 5 d_Mo_shareOf_51 rfl ?_
              obtain ⟨hc1, hc2, hwt, hwf⟩ := hw
              refine j_icmp_ne F 124 hc1 hc2 d_Mo_shareOf_53 rfl (fun hh => ?_) (fun hh => ?_)
              · have hw := hwt hh
                exact B124 _ _ _ _ _ _ _ hw
              · have hw := hwf hh
                refine j_aload_n F 0 d_Mo_shareOf_56 rfl ?_
                refine j_iload F 6 d_Mo_shareOf_57 rfl ?_
                refine j_iload_n F 2 d_Mo_shareOf_59 rfl ?_
                refine j_iload F 3 d_Mo_shareOf_60 rfl ?_
                refine m_calli F K (c_Mo_isInForce l hw) (tw_gV tj_164 tj_165 tj_166 tj_87 tj_167) q_Mo_isInForce rfl ⟨by decide, by decide⟩ ⟨Nat.zero_le _, Nat.zero_le _⟩ rfl (Nat.le_of_ble_eq_true rfl) d_Mo_shareOf_62 (fun r_3 S_2 hw => ?_)
                obtain ⟨hc1, hwt, hwf⟩ := hw
                refine j_if_eq F 124 hc1 d_Mo_shareOf_65 rfl (fun hh => ?_) (fun hh => ?_)
                · have hw := hwt hh
                  exact B124 _ _ _ _ _ _ _ hw
                · have hw := hwf hh
                  refine j_aload_n F 0 d_Mo_shareOf_68 rfl ?_
                  refine m_geta F K 19 (by decide) (by decide) tj_193 rfl d_Mo_shareOf_69 ?_
                  refine j_iload F 6 d_Mo_shareOf_72 rfl ?_
                  obtain ⟨hc1, hw⟩ := hw
                  refine m_iald F K 19 12 rfl rfl hc1 d_Mo_shareOf_74 ?_
                  refine j_iload_n F 1 d_Mo_shareOf_75 rfl ?_
                  obtain ⟨hc1, hc2, hwt, hwf⟩ := hw
                  refine j_icmp_ne F 92 hc1 hc2 d_Mo_shareOf_76 rfl (fun hh => ?_) (fun hh => ?_)
                  · have hw := hwt hh
                    refine j_iload F 4 d_Mo_shareOf_92 rfl ?_
                    refine j_sub [0, 1, 2, 3, 5, 6] rfl ?_
                    exact B94 _ _ _ _ _ _ _ hw
                  · have hw := hwf hh
                    refine j_iload F 4 d_Mo_shareOf_79 rfl ?_
                    refine j_aload_n F 0 d_Mo_shareOf_81 rfl ?_
                    refine m_geta F K 21 (by decide) (by decide) tj_199 rfl d_Mo_shareOf_82 ?_
                    refine j_iload F 6 d_Mo_shareOf_85 rfl ?_
                    obtain ⟨hc1, hw⟩ := hw
                    refine m_iald F K 21 14 rfl rfl hc1 d_Mo_shareOf_87 ?_
                    refine j_isub F d_Mo_shareOf_88 ?_
                    refine j_goto F 94 d_Mo_shareOf_89 rfl ?_
                    refine j_sub [0, 1, 2, 3, 5, 6] rfl ?_
                    exact B94 _ _ _ _ _ _ _ hw
      intro v2 v3 v4 v5 v6 S hw
      unfold wp_Mo_shareOf_16 at hw
      refine j_iload F 5 d_Mo_shareOf_16 rfl ?_
      obtain ⟨hc1, hwt, hwf⟩ := hw
      refine j_if_le F 142 hc1 d_Mo_shareOf_18 rfl (fun hh => ?_) (fun hh => ?_)
      · have hw := hwt hh
        refine j_iload F 4 d_Mo_shareOf_142 rfl ?_
        exact hret _ _ _ _ hw d_Mo_shareOf_144
      · have hw := hwf hh
        refine j_iconst F d_Mo_shareOf_21 ?_
        refine j_istore F [(7, vi 1), (0, .ref h), (2, vi v2), (3, vi v3), (4, vi v4), (5, vi v5), (6, vi v6)] d_Mo_shareOf_22 (by decide) rfl ?_
        refine j_sub [1, 2, 3, 4, 5, 6, 0] rfl ?_
        obtain ⟨n0, hw⟩ := hw
        exact B24 n0 _ _ _ _ _ _ _ hw
  have B11 : ∀ (v1 : Int) (v2 : Int) (v3 : Int) (v4 : Int) (s0 : Int) (S : MS), wp_Mo_shareOf_11 post v1 v2 v3 v4 s0 S → jat l D X 8 11 [(0, .ref h), (1, vi v1), (2, vi v2), (3, vi v3), (4, vi v4)] [vi s0] (mw h ad kc S) 0 0 := by
    intro v1 v2 v3 v4 s0 S hw
    unfold wp_Mo_shareOf_11 at hw
    refine j_istore F [(5, vi s0), (0, .ref h), (1, vi v1), (2, vi v2), (3, vi v3), (4, vi v4)] d_Mo_shareOf_11 (by decide) rfl ?_
    refine j_iload_n F 2 d_Mo_shareOf_13 rfl ?_
    refine j_istore F [(6, vi v1), (5, vi s0), (0, .ref h), (1, vi v1), (2, vi v2), (3, vi v3), (4, vi v4)] d_Mo_shareOf_14 (by decide) rfl ?_
    refine j_sub [2, 4, 5, 6, 1, 0] rfl ?_
    obtain ⟨n0, hw⟩ := hw
    exact B16 n0 _ _ _ _ _ _ hw
  unfold wp_Mo_shareOf at hw
  show jat l D X 8 0 [(0, .ref h), (1, vi v1), (2, vi v2), (3, vi v3), (4, vi v4)] [] (mw h ad kc S) 0 0
  refine j_iload_n F 2 d_Mo_shareOf_0 rfl ?_
  obtain ⟨hc1, hwt, hwf⟩ := hw
  refine j_if_ne F 10 hc1 d_Mo_shareOf_1 rfl (fun hh => ?_) (fun hh => ?_)
  · have hw := hwt hh
    refine j_iconst F d_Mo_shareOf_10 ?_
    exact B11 _ _ _ _ _ _ hw
  · have hw := hwf hh
    refine j_sipush F d_Mo_shareOf_4 (j_sip (by decide) (by decide)) ?_
    refine j_goto F 11 d_Mo_shareOf_7 rfl ?_
    exact B11 _ _ _ _ _ _ hw
abbrev y_Mo_recordSize : MethodName := ⟨"LandBookModel", "recordSize", "(II)I"⟩
theorem q_Mo_recordSize : y_Mo_recordSize.cls = "LandBookModel" ∧ y_Mo_recordSize.cls ≠ "java/lang/invoke/MethodHandle" ∧ y_Mo_recordSize.cls ≠ "java/lang/invoke/VarHandle" ∧ (parseMethodDescriptor y_Mo_recordSize.desc).map (fun d => d.parameters.length) = some 2 := by decide +kernel
theorem d_Mo_recordSize_0 : decode prog_13_method_33_code 0 = .ok (.iload_n 1, 1) := by decide +kernel
theorem d_Mo_recordSize_1 : decode prog_13_method_33_code 1 = .ok (.iconst 1, 1) := by decide +kernel
theorem d_Mo_recordSize_2 : decode prog_13_method_33_code 2 = .ok (.if_icmp .ne 9, 3) := by decide +kernel
theorem d_Mo_recordSize_11 : decode prog_13_method_33_code 11 = .ok (.iload_n 1, 1) := by decide +kernel
theorem d_Mo_recordSize_12 : decode prog_13_method_33_code 12 = .ok (.iconst 3, 1) := by decide +kernel
theorem d_Mo_recordSize_13 : decode prog_13_method_33_code 13 = .ok (.if_icmp .ne 7, 3) := by decide +kernel
theorem d_Mo_recordSize_20 : decode prog_13_method_33_code 20 = .ok (.iconst 3, 1) := by decide +kernel
theorem d_Mo_recordSize_16 : decode prog_13_method_33_code 16 = .ok (.iconst 4, 1) := by decide +kernel
theorem d_Mo_recordSize_17 : decode prog_13_method_33_code 17 = .ok (.goto 4, 3) := by decide +kernel
theorem d_Mo_recordSize_5 : decode prog_13_method_33_code 5 = .ok (.iconst 3, 1) := by decide +kernel
theorem d_Mo_recordSize_6 : decode prog_13_method_33_code 6 = .ok (.iload_n 2, 1) := by decide +kernel
theorem d_Mo_recordSize_7 : decode prog_13_method_33_code 7 = .ok (.iadd, 1) := by decide +kernel
theorem d_Mo_recordSize_8 : decode prog_13_method_33_code 8 = .ok (.goto 13, 3) := by decide +kernel
theorem d_Mo_recordSize_21 : decode prog_13_method_33_code 21 = .ok (.iconst 2, 1) := by decide +kernel
theorem d_Mo_recordSize_22 : decode prog_13_method_33_code 22 = .ok (.iadd, 1) := by decide +kernel
theorem d_Mo_recordSize_23 : decode prog_13_method_33_code 23 = .ok (.ireturn, 1) := by decide +kernel
def wp_Mo_recordSize_21 (post : Int → MS → Prop) (s0 : Int) (S : MS) : Prop := post (s0 + 2) S
def wp_Mo_recordSize (post : Int → MS → Prop) (v1 : Int) (v2 : Int) (S : MS) : Prop := inR v1 ∧ (¬ (v1 = 1) → (inR v1 ∧ (¬ (v1 = 3) → wp_Mo_recordSize_21 post 3 S) ∧ (v1 = 3 → wp_Mo_recordSize_21 post 4 S))) ∧ (v1 = 1 → (wp_Mo_recordSize_21 post (3 + v2) S))
set_option maxHeartbeats 4000000 in
set_option maxRecDepth 100000 in
theorem c_Mo_recordSize (l : Launch) {D : va_G} {h : Nat} {ad : Nat → Nat} {kc : Nat → ClassId} {post : Int → MS → Prop} {v1 : Int} {v2 : Int} {S : MS} (hw : wp_Mo_recordSize post v1 v2 S) : jMi l D h ad kc y_Mo_recordSize prog_13_method_33_code 3 (some .int) 0 0 S [vi v1, vi v2] post := by
  refine j_moi (own := "LandBookModel") (by decide) rfl (Nat.le_of_ble_eq_true rfl) (fun X F K hret => ?_)
  have B21 : ∀ (s0 : Int) (S : MS), wp_Mo_recordSize_21 post s0 S → jat l D X 3 21 [] [vi s0] (mw h ad kc S) 0 0 := by
    intro s0 S hw
    unfold wp_Mo_recordSize_21 at hw
    refine j_iconst F d_Mo_recordSize_21 ?_
    refine j_iadd F d_Mo_recordSize_22 ?_
    exact hret _ _ _ _ hw d_Mo_recordSize_23
  unfold wp_Mo_recordSize at hw
  show jat l D X 3 0 [(0, .ref h), (1, vi v1), (2, vi v2)] [] (mw h ad kc S) 0 0
  refine j_iload_n F 1 d_Mo_recordSize_0 rfl ?_
  refine j_iconst F d_Mo_recordSize_1 ?_
  obtain ⟨hc1, hwt, hwf⟩ := hw
  refine j_icmp_ne F 11 hc1 ⟨by decide, by decide⟩ d_Mo_recordSize_2 rfl (fun hh => ?_) (fun hh => ?_)
  · have hw := hwt hh
    refine j_iload_n F 1 d_Mo_recordSize_11 rfl ?_
    refine j_iconst F d_Mo_recordSize_12 ?_
    obtain ⟨hc1, hwt, hwf⟩ := hw
    refine j_icmp_ne F 20 hc1 ⟨by decide, by decide⟩ d_Mo_recordSize_13 rfl (fun hh => ?_) (fun hh => ?_)
    · have hw := hwt hh
      refine j_iconst F d_Mo_recordSize_20 ?_
      refine j_sub [] rfl ?_
      exact B21 _ _ hw
    · have hw := hwf hh
      refine j_iconst F d_Mo_recordSize_16 ?_
      refine j_goto F 21 d_Mo_recordSize_17 rfl ?_
      refine j_sub [] rfl ?_
      exact B21 _ _ hw
  · have hw := hwf hh
    refine j_iconst F d_Mo_recordSize_5 ?_
    refine j_iload_n F 2 d_Mo_recordSize_6 rfl ?_
    refine j_iadd F d_Mo_recordSize_7 ?_
    refine j_goto F 21 d_Mo_recordSize_8 rfl ?_
    refine j_sub [] rfl ?_
    exact B21 _ _ hw
theorem tj_201 : (Jvm.Cond.fieldLink "LandBookModel" (198 : Nat) "LandBookModel" "easements" "I") ∈ tw_G := tw_in (List.mem_of_getElem? (i := 1071) (by decide +kernel)) rfl
theorem tj_202 : (Jvm.Cond.fieldLink "LandBookModel" (201 : Nat) "LandBookModel" "words" "I") ∈ tw_G := tw_in (List.mem_of_getElem? (i := 1076) (by decide +kernel)) rfl
theorem tj_203 : (Jvm.Cond.methodLink "LandBookModel" (204 : Nat) ({ cls := "LandBookModel", name := "recordSize", desc := "(II)I" } : Jvm.MethodName)) ∈ tw_G := tw_in (List.mem_of_getElem? (i := 1326) (by decide +kernel)) rfl
theorem tj_204 : (Jvm.Cond.instanceMethod ({ cls := "LandBookModel", name := "recordSize", desc := "(II)I" } : Jvm.MethodName)) ∈ tw_G := tw_in (List.mem_of_getElem? (i := 1328) (by decide +kernel)) rfl
theorem tj_205 : (Jvm.Cond.selects "LandBookModel" ⟨"LandBookModel", "recordSize", "(II)I"⟩ ⟨"LandBookModel", "recordSize", "(II)I"⟩) ∈ tw_G := tw_in (List.mem_of_getElem? (i := 45) (by decide +kernel)) rfl
theorem tj_206 : (Jvm.Cond.code ({ cls := "LandBookModel", name := "recordSize", desc := "(II)I" } : Jvm.MethodName) prog_13_method_33_code (3 : Nat) (Option.some Jvm.ClassFile.FieldType.int)) ∈ tw_G := tw_in (List.mem_of_getElem? (i := 1329) (by decide +kernel)) rfl
abbrev y_Mo_isMuch : MethodName := ⟨"LandBookModel", "isMuch", "(IIII)Z"⟩
theorem q_Mo_isMuch : y_Mo_isMuch.cls = "LandBookModel" ∧ y_Mo_isMuch.cls ≠ "java/lang/invoke/MethodHandle" ∧ y_Mo_isMuch.cls ≠ "java/lang/invoke/VarHandle" ∧ (parseMethodDescriptor y_Mo_isMuch.desc).map (fun d => d.parameters.length) = some 4 := by decide +kernel
theorem d_Mo_isMuch_0 : decode prog_13_method_34_code 0 = .ok (.aload_n 0, 1) := by decide +kernel
theorem d_Mo_isMuch_1 : decode prog_13_method_34_code 1 = .ok (.getfield 192, 3) := by decide +kernel
theorem d_Mo_isMuch_4 : decode prog_13_method_34_code 4 = .ok (.sipush 600, 3) := by decide +kernel
theorem d_Mo_isMuch_7 : decode prog_13_method_34_code 7 = .ok (.if_icmp .eq 45, 3) := by decide +kernel
theorem d_Mo_isMuch_52 : decode prog_13_method_34_code 52 = .ok (.iconst 1, 1) := by decide +kernel
theorem d_Mo_isMuch_53 : decode prog_13_method_34_code 53 = .ok (.goto 4, 3) := by decide +kernel
theorem d_Mo_isMuch_57 : decode prog_13_method_34_code 57 = .ok (.ireturn, 1) := by decide +kernel
theorem d_Mo_isMuch_10 : decode prog_13_method_34_code 10 = .ok (.aload_n 0, 1) := by decide +kernel
theorem d_Mo_isMuch_11 : decode prog_13_method_34_code 11 = .ok (.getfield 173, 3) := by decide +kernel
theorem d_Mo_isMuch_14 : decode prog_13_method_34_code 14 = .ok (.iload_n 1, 1) := by decide +kernel
theorem d_Mo_isMuch_15 : decode prog_13_method_34_code 15 = .ok (.iadd, 1) := by decide +kernel
theorem d_Mo_isMuch_16 : decode prog_13_method_34_code 16 = .ok (.sipush 300, 3) := by decide +kernel
theorem d_Mo_isMuch_19 : decode prog_13_method_34_code 19 = .ok (.if_icmp .gt 33, 3) := by decide +kernel
theorem d_Mo_isMuch_22 : decode prog_13_method_34_code 22 = .ok (.aload_n 0, 1) := by decide +kernel
theorem d_Mo_isMuch_23 : decode prog_13_method_34_code 23 = .ok (.getfield 198, 3) := by decide +kernel
theorem d_Mo_isMuch_26 : decode prog_13_method_34_code 26 = .ok (.iload_n 2, 1) := by decide +kernel
theorem d_Mo_isMuch_27 : decode prog_13_method_34_code 27 = .ok (.iadd, 1) := by decide +kernel
theorem d_Mo_isMuch_28 : decode prog_13_method_34_code 28 = .ok (.sipush 200, 3) := by decide +kernel
theorem d_Mo_isMuch_31 : decode prog_13_method_34_code 31 = .ok (.if_icmp .gt 21, 3) := by decide +kernel
theorem d_Mo_isMuch_34 : decode prog_13_method_34_code 34 = .ok (.aload_n 0, 1) := by decide +kernel
theorem d_Mo_isMuch_35 : decode prog_13_method_34_code 35 = .ok (.getfield 201, 3) := by decide +kernel
theorem d_Mo_isMuch_38 : decode prog_13_method_34_code 38 = .ok (.aload_n 0, 1) := by decide +kernel
theorem d_Mo_isMuch_39 : decode prog_13_method_34_code 39 = .ok (.iload_n 3, 1) := by decide +kernel
theorem d_Mo_isMuch_40 : decode prog_13_method_34_code 40 = .ok (.iload 4, 2) := by decide +kernel
theorem d_Mo_isMuch_42 : decode prog_13_method_34_code 42 = .ok (.invokevirtual 204, 3) := by decide +kernel
theorem d_Mo_isMuch_45 : decode prog_13_method_34_code 45 = .ok (.iadd, 1) := by decide +kernel
theorem d_Mo_isMuch_46 : decode prog_13_method_34_code 46 = .ok (.sipush 12000, 3) := by decide +kernel
theorem d_Mo_isMuch_49 : decode prog_13_method_34_code 49 = .ok (.if_icmp .le 7, 3) := by decide +kernel
theorem d_Mo_isMuch_56 : decode prog_13_method_34_code 56 = .ok (.iconst 0, 1) := by decide +kernel
def wp_Mo_isMuch (post : Int → MS → Prop) (v1 : Int) (v2 : Int) (v3 : Int) (v4 : Int) (S : MS) : Prop := inR (S.1 15) ∧ ((S.1 15) = 600 → post 1 S) ∧ (¬ ((S.1 15) = 600) → (inR ((S.1 7) + v1) ∧ (300 < ((S.1 7) + v1) → post 1 S) ∧ (¬ (300 < ((S.1 7) + v1)) → (inR ((S.1 25) + v2) ∧ (200 < ((S.1 25) + v2) → post 1 S) ∧ (¬ (200 < ((S.1 25) + v2)) → (wp_Mo_recordSize (fun r_2 S_1 => inR ((S.1 30) + r_2) ∧ (((S.1 30) + r_2) ≤ 12000 → post 0 S_1) ∧ (¬ (((S.1 30) + r_2) ≤ 12000) → post 1 S_1)) v3 v4 S))))))
set_option maxHeartbeats 4000000 in
set_option maxRecDepth 100000 in
theorem c_Mo_isMuch (l : Launch) {D : va_G} {h : Nat} {ad : Nat → Nat} {kc : Nat → ClassId} {post : Int → MS → Prop} {v1 : Int} {v2 : Int} {v3 : Int} {v4 : Int} {S : MS} (hw : wp_Mo_isMuch post v1 v2 v3 v4 S) : jMi l D h ad kc y_Mo_isMuch prog_13_method_34_code 5 (some .boolean) 1 22 S [vi v1, vi v2, vi v3, vi v4] post := by
  refine j_moz (own := "LandBookModel") (by decide) rfl (Nat.le_of_ble_eq_true rfl) (fun X F K hret => ?_)
  unfold wp_Mo_isMuch at hw
  show jat l D X 5 0 [(0, .ref h), (1, vi v1), (2, vi v2), (3, vi v3), (4, vi v4)] [] (mw h ad kc S) 0 0
  refine j_aload_n F 0 d_Mo_isMuch_0 rfl ?_
  refine m_geti F K 15 (by decide) rfl tj_194 rfl d_Mo_isMuch_1 ?_
  refine j_sipush F d_Mo_isMuch_4 (j_sip (by decide) (by decide)) ?_
  obtain ⟨hc1, hwt, hwf⟩ := hw
  refine j_icmp_eq F 52 hc1 ⟨by decide, by decide⟩ d_Mo_isMuch_7 rfl (fun hh => ?_) (fun hh => ?_)
  · have hw := hwt hh
    refine j_iconst F d_Mo_isMuch_52 ?_
    refine j_goto F 57 d_Mo_isMuch_53 rfl ?_
    exact hret _ _ _ _ hw (Or.inr rfl) d_Mo_isMuch_57
  · have hw := hwf hh
    refine j_aload_n F 0 d_Mo_isMuch_10 rfl ?_
    refine m_geti F K 7 (by decide) rfl tj_157 rfl d_Mo_isMuch_11 ?_
    refine j_iload_n F 1 d_Mo_isMuch_14 rfl ?_
    refine j_iadd F d_Mo_isMuch_15 ?_
    refine j_sipush F d_Mo_isMuch_16 (j_sip (by decide) (by decide)) ?_
    obtain ⟨hc1, hwt, hwf⟩ := hw
    refine j_icmp_gt F 52 hc1 ⟨by decide, by decide⟩ d_Mo_isMuch_19 rfl (fun hh => ?_) (fun hh => ?_)
    · have hw := hwt hh
      refine j_iconst F d_Mo_isMuch_52 ?_
      refine j_goto F 57 d_Mo_isMuch_53 rfl ?_
      exact hret _ _ _ _ hw (Or.inr rfl) d_Mo_isMuch_57
    · have hw := hwf hh
      refine j_aload_n F 0 d_Mo_isMuch_22 rfl ?_
      refine m_geti F K 25 (by decide) rfl tj_201 rfl d_Mo_isMuch_23 ?_
      refine j_iload_n F 2 d_Mo_isMuch_26 rfl ?_
      refine j_iadd F d_Mo_isMuch_27 ?_
      refine j_sipush F d_Mo_isMuch_28 (j_sip (by decide) (by decide)) ?_
      obtain ⟨hc1, hwt, hwf⟩ := hw
      refine j_icmp_gt F 52 hc1 ⟨by decide, by decide⟩ d_Mo_isMuch_31 rfl (fun hh => ?_) (fun hh => ?_)
      · have hw := hwt hh
        refine j_iconst F d_Mo_isMuch_52 ?_
        refine j_goto F 57 d_Mo_isMuch_53 rfl ?_
        exact hret _ _ _ _ hw (Or.inr rfl) d_Mo_isMuch_57
      · have hw := hwf hh
        refine j_aload_n F 0 d_Mo_isMuch_34 rfl ?_
        refine m_geti F K 30 (by decide) rfl tj_202 rfl d_Mo_isMuch_35 ?_
        refine j_aload_n F 0 d_Mo_isMuch_38 rfl ?_
        refine j_iload_n F 3 d_Mo_isMuch_39 rfl ?_
        refine j_iload F 4 d_Mo_isMuch_40 rfl ?_
        refine m_calli F K (c_Mo_recordSize l hw) (tw_gV tj_203 tj_204 tj_205 tj_87 tj_206) q_Mo_recordSize rfl ⟨by decide, by decide⟩ ⟨Nat.zero_le _, Nat.zero_le _⟩ rfl (Nat.le_of_ble_eq_true rfl) d_Mo_isMuch_42 (fun r_2 S_1 hw => ?_)
        refine j_iadd F d_Mo_isMuch_45 ?_
        refine j_sipush F d_Mo_isMuch_46 (j_sip (by decide) (by decide)) ?_
        obtain ⟨hc1, hwt, hwf⟩ := hw
        refine j_icmp_le F 56 hc1 ⟨by decide, by decide⟩ d_Mo_isMuch_49 rfl (fun hh => ?_) (fun hh => ?_)
        · have hw := hwt hh
          refine j_iconst F d_Mo_isMuch_56 ?_
          exact hret _ _ _ _ hw (Or.inl rfl) d_Mo_isMuch_57
        · have hw := hwf hh
          refine j_iconst F d_Mo_isMuch_52 ?_
          refine j_goto F 57 d_Mo_isMuch_53 rfl ?_
          exact hret _ _ _ _ hw (Or.inr rfl) d_Mo_isMuch_57
theorem tj_207 : (Jvm.Cond.fieldLink "LandBookModel" (77 : Nat) "LandBookModel" "log" "[I") ∈ tw_G := tw_in (List.mem_of_getElem? (i := 1078) (by decide +kernel)) rfl
abbrev y_Mo_write : MethodName := ⟨"LandBookModel", "write", "(I)V"⟩
theorem q_Mo_write : y_Mo_write.cls = "LandBookModel" ∧ y_Mo_write.cls ≠ "java/lang/invoke/MethodHandle" ∧ y_Mo_write.cls ≠ "java/lang/invoke/VarHandle" ∧ (parseMethodDescriptor y_Mo_write.desc).map (fun d => d.parameters.length) = some 1 := by decide +kernel
theorem d_Mo_write_0 : decode prog_13_method_35_code 0 = .ok (.aload_n 0, 1) := by decide +kernel
theorem d_Mo_write_1 : decode prog_13_method_35_code 1 = .ok (.getfield 77, 3) := by decide +kernel
theorem d_Mo_write_4 : decode prog_13_method_35_code 4 = .ok (.aload_n 0, 1) := by decide +kernel
theorem d_Mo_write_5 : decode prog_13_method_35_code 5 = .ok (.getfield 201, 3) := by decide +kernel
theorem d_Mo_write_8 : decode prog_13_method_35_code 8 = .ok (.iload_n 1, 1) := by decide +kernel
theorem d_Mo_write_9 : decode prog_13_method_35_code 9 = .ok (.iastore, 1) := by decide +kernel
theorem d_Mo_write_10 : decode prog_13_method_35_code 10 = .ok (.aload_n 0, 1) := by decide +kernel
theorem d_Mo_write_11 : decode prog_13_method_35_code 11 = .ok (.dup, 1) := by decide +kernel
theorem d_Mo_write_12 : decode prog_13_method_35_code 12 = .ok (.getfield 201, 3) := by decide +kernel
theorem d_Mo_write_15 : decode prog_13_method_35_code 15 = .ok (.iconst 1, 1) := by decide +kernel
theorem d_Mo_write_16 : decode prog_13_method_35_code 16 = .ok (.iadd, 1) := by decide +kernel
theorem d_Mo_write_17 : decode prog_13_method_35_code 17 = .ok (.putfield 201, 3) := by decide +kernel
theorem d_Mo_write_20 : decode prog_13_method_35_code 20 = .ok (.return_, 1) := by decide +kernel
def wp_Mo_write (post : MS → Prop) (v1 : Int) (S : MS) : Prop := ixR (S.1 30) 12100 ∧ (∀ S_1 : MS, S_1 = ms_a S 32 (S.1 30) v1 → (∀ S_2 : MS, S_2 = ms_i S_1 30 ((S_1.1 30) + 1) → post S_2))
set_option maxHeartbeats 4000000 in
set_option maxRecDepth 100000 in
theorem c_Mo_write (l : Launch) {D : va_G} {h : Nat} {ad : Nat → Nat} {kc : Nat → ClassId} {post : MS → Prop} {v1 : Int} {S : MS} (hw : wp_Mo_write post v1 S) : jMv l D h ad kc y_Mo_write prog_13_method_35_code 2 none 0 0 S [vi v1] post := by
  refine j_mov (own := "LandBookModel") (by decide) rfl (Nat.le_of_ble_eq_true rfl) (fun X F K hret => ?_)
  unfold wp_Mo_write at hw
  show jat l D X 2 0 [(0, .ref h), (1, vi v1)] [] (mw h ad kc S) 0 0
  refine j_aload_n F 0 d_Mo_write_0 rfl ?_
  refine m_geta F K 32 (by decide) (by decide) tj_207 rfl d_Mo_write_1 ?_
  refine j_aload_n F 0 d_Mo_write_4 rfl ?_
  refine m_geti F K 30 (by decide) rfl tj_202 rfl d_Mo_write_5 ?_
  refine j_iload_n F 1 d_Mo_write_8 rfl ?_
  obtain ⟨hc1, hw⟩ := hw
  refine m_iast F K 32 22 rfl rfl hc1 d_Mo_write_9 (fun S_1 e_S_1 => ?_)
  have hw := hw S_1 e_S_1
  refine j_aload_n F 0 d_Mo_write_10 rfl ?_
  refine j_dup F rfl d_Mo_write_11 ?_
  refine m_geti F K 30 (by decide) rfl tj_202 rfl d_Mo_write_12 ?_
  refine j_iconst F d_Mo_write_15 ?_
  refine j_iadd F d_Mo_write_16 ?_
  refine m_puti F K 30 (by decide) rfl tj_202 rfl rfl (ty := .int) (by decide +kernel) rfl rfl d_Mo_write_17 (fun S_2 e_S_2 => ?_)
  have hw := hw S_2 e_S_2
  exact hret _ _ _ hw d_Mo_write_20
theorem tj_208 : (Jvm.Cond.constant "LandBookModel" (207 : Nat) (65536 : Int32)) ∈ tw_G := tw_in (List.mem_of_getElem? (i := 1334) (by decide +kernel)) rfl
theorem tj_209 : (Jvm.Cond.methodLink "LandBookModel" (208 : Nat) ({ cls := "LandBookModel", name := "write", desc := "(I)V" } : Jvm.MethodName)) ∈ tw_G := tw_in (List.mem_of_getElem? (i := 1335) (by decide +kernel)) rfl
theorem tj_210 : (Jvm.Cond.instanceMethod ({ cls := "LandBookModel", name := "write", desc := "(I)V" } : Jvm.MethodName)) ∈ tw_G := tw_in (List.mem_of_getElem? (i := 1337) (by decide +kernel)) rfl
theorem tj_211 : (Jvm.Cond.selects "LandBookModel" ⟨"LandBookModel", "write", "(I)V"⟩ ⟨"LandBookModel", "write", "(I)V"⟩) ∈ tw_G := tw_in (List.mem_of_getElem? (i := 47) (by decide +kernel)) rfl
theorem tj_212 : (Jvm.Cond.code ({ cls := "LandBookModel", name := "write", desc := "(I)V" } : Jvm.MethodName) prog_13_method_35_code (2 : Nat) (Option.none : Option Jvm.ClassFile.FieldType)) ∈ tw_G := tw_in (List.mem_of_getElem? (i := 1338) (by decide +kernel)) rfl
theorem tj_213 : (Jvm.Cond.constant "LandBookModel" (211 : Nat) (32768 : Int32)) ∈ tw_G := tw_in (List.mem_of_getElem? (i := 1339) (by decide +kernel)) rfl
theorem tj_214 : (Jvm.Cond.constantLong "LandBookModel" (212 : Nat) (2147483648 : Int64)) ∈ tw_G := tw_in (List.mem_of_getElem? (i := 1340) (by decide +kernel)) rfl
abbrev y_Mo_accept : MethodName := ⟨"LandBookModel", "accept", "(IIIIII)I"⟩
theorem q_Mo_accept : y_Mo_accept.cls = "LandBookModel" ∧ y_Mo_accept.cls ≠ "java/lang/invoke/MethodHandle" ∧ y_Mo_accept.cls ≠ "java/lang/invoke/VarHandle" ∧ (parseMethodDescriptor y_Mo_accept.desc).map (fun d => d.parameters.length) = some 6 := by decide +kernel
theorem d_Mo_accept_0 : decode prog_13_method_36_code 0 = .ok (.aload_n 0, 1) := by decide +kernel
theorem d_Mo_accept_1 : decode prog_13_method_36_code 1 = .ok (.dup, 1) := by decide +kernel
theorem d_Mo_accept_2 : decode prog_13_method_36_code 2 = .ok (.getfield 192, 3) := by decide +kernel
theorem d_Mo_accept_5 : decode prog_13_method_36_code 5 = .ok (.iconst 1, 1) := by decide +kernel
theorem d_Mo_accept_6 : decode prog_13_method_36_code 6 = .ok (.iadd, 1) := by decide +kernel
theorem d_Mo_accept_7 : decode prog_13_method_36_code 7 = .ok (.putfield 192, 3) := by decide +kernel
theorem d_Mo_accept_10 : decode prog_13_method_36_code 10 = .ok (.aload_n 0, 1) := by decide +kernel
theorem d_Mo_accept_11 : decode prog_13_method_36_code 11 = .ok (.getfield 37, 3) := by decide +kernel
theorem d_Mo_accept_14 : decode prog_13_method_36_code 14 = .ok (.aload_n 0, 1) := by decide +kernel
theorem d_Mo_accept_15 : decode prog_13_method_36_code 15 = .ok (.getfield 192, 3) := by decide +kernel
theorem d_Mo_accept_18 : decode prog_13_method_36_code 18 = .ok (.iload_n 1, 1) := by decide +kernel
theorem d_Mo_accept_19 : decode prog_13_method_36_code 19 = .ok (.iastore, 1) := by decide +kernel
theorem d_Mo_accept_20 : decode prog_13_method_36_code 20 = .ok (.aload_n 0, 1) := by decide +kernel
theorem d_Mo_accept_21 : decode prog_13_method_36_code 21 = .ok (.getfield 40, 3) := by decide +kernel
theorem d_Mo_accept_24 : decode prog_13_method_36_code 24 = .ok (.aload_n 0, 1) := by decide +kernel
theorem d_Mo_accept_25 : decode prog_13_method_36_code 25 = .ok (.getfield 192, 3) := by decide +kernel
theorem d_Mo_accept_28 : decode prog_13_method_36_code 28 = .ok (.iload_n 2, 1) := by decide +kernel
theorem d_Mo_accept_29 : decode prog_13_method_36_code 29 = .ok (.iastore, 1) := by decide +kernel
theorem d_Mo_accept_30 : decode prog_13_method_36_code 30 = .ok (.aload_n 0, 1) := by decide +kernel
theorem d_Mo_accept_31 : decode prog_13_method_36_code 31 = .ok (.getfield 43, 3) := by decide +kernel
theorem d_Mo_accept_34 : decode prog_13_method_36_code 34 = .ok (.aload_n 0, 1) := by decide +kernel
theorem d_Mo_accept_35 : decode prog_13_method_36_code 35 = .ok (.getfield 192, 3) := by decide +kernel
theorem d_Mo_accept_38 : decode prog_13_method_36_code 38 = .ok (.iload_n 3, 1) := by decide +kernel
theorem d_Mo_accept_39 : decode prog_13_method_36_code 39 = .ok (.iastore, 1) := by decide +kernel
theorem d_Mo_accept_40 : decode prog_13_method_36_code 40 = .ok (.aload_n 0, 1) := by decide +kernel
theorem d_Mo_accept_41 : decode prog_13_method_36_code 41 = .ok (.getfield 46, 3) := by decide +kernel
theorem d_Mo_accept_44 : decode prog_13_method_36_code 44 = .ok (.aload_n 0, 1) := by decide +kernel
theorem d_Mo_accept_45 : decode prog_13_method_36_code 45 = .ok (.getfield 192, 3) := by decide +kernel
theorem d_Mo_accept_48 : decode prog_13_method_36_code 48 = .ok (.iload 4, 2) := by decide +kernel
theorem d_Mo_accept_50 : decode prog_13_method_36_code 50 = .ok (.iastore, 1) := by decide +kernel
theorem d_Mo_accept_51 : decode prog_13_method_36_code 51 = .ok (.aload_n 0, 1) := by decide +kernel
theorem d_Mo_accept_52 : decode prog_13_method_36_code 52 = .ok (.getfield 49, 3) := by decide +kernel
theorem d_Mo_accept_55 : decode prog_13_method_36_code 55 = .ok (.aload_n 0, 1) := by decide +kernel
theorem d_Mo_accept_56 : decode prog_13_method_36_code 56 = .ok (.getfield 192, 3) := by decide +kernel
theorem d_Mo_accept_59 : decode prog_13_method_36_code 59 = .ok (.iload 5, 2) := by decide +kernel
theorem d_Mo_accept_61 : decode prog_13_method_36_code 61 = .ok (.iastore, 1) := by decide +kernel
theorem d_Mo_accept_62 : decode prog_13_method_36_code 62 = .ok (.aload_n 0, 1) := by decide +kernel
theorem d_Mo_accept_63 : decode prog_13_method_36_code 63 = .ok (.getfield 52, 3) := by decide +kernel
theorem d_Mo_accept_66 : decode prog_13_method_36_code 66 = .ok (.aload_n 0, 1) := by decide +kernel
theorem d_Mo_accept_67 : decode prog_13_method_36_code 67 = .ok (.getfield 192, 3) := by decide +kernel
theorem d_Mo_accept_70 : decode prog_13_method_36_code 70 = .ok (.iload 6, 2) := by decide +kernel
theorem d_Mo_accept_72 : decode prog_13_method_36_code 72 = .ok (.iastore, 1) := by decide +kernel
theorem d_Mo_accept_73 : decode prog_13_method_36_code 73 = .ok (.aload_n 0, 1) := by decide +kernel
theorem d_Mo_accept_74 : decode prog_13_method_36_code 74 = .ok (.getfield 201, 3) := by decide +kernel
theorem d_Mo_accept_77 : decode prog_13_method_36_code 77 = .ok (.istore 7, 2) := by decide +kernel
theorem d_Mo_accept_79 : decode prog_13_method_36_code 79 = .ok (.aload_n 0, 1) := by decide +kernel
theorem d_Mo_accept_80 : decode prog_13_method_36_code 80 = .ok (.iload_n 1, 1) := by decide +kernel
theorem d_Mo_accept_81 : decode prog_13_method_36_code 81 = .ok (.aload_n 0, 1) := by decide +kernel
theorem d_Mo_accept_82 : decode prog_13_method_36_code 82 = .ok (.getfield 106, 3) := by decide +kernel
theorem d_Mo_accept_85 : decode prog_13_method_36_code 85 = .ok (.invokevirtual 204, 3) := by decide +kernel
theorem d_Mo_accept_88 : decode prog_13_method_36_code 88 = .ok (.iconst 2, 1) := by decide +kernel
theorem d_Mo_accept_89 : decode prog_13_method_36_code 89 = .ok (.isub, 1) := by decide +kernel
theorem d_Mo_accept_90 : decode prog_13_method_36_code 90 = .ok (.istore 8, 2) := by decide +kernel
theorem d_Mo_accept_92 : decode prog_13_method_36_code 92 = .ok (.aload_n 0, 1) := by decide +kernel
theorem d_Mo_accept_93 : decode prog_13_method_36_code 93 = .ok (.iload_n 1, 1) := by decide +kernel
theorem d_Mo_accept_94 : decode prog_13_method_36_code 94 = .ok (.ldc 207, 2) := by decide +kernel
theorem d_Mo_accept_96 : decode prog_13_method_36_code 96 = .ok (.imul, 1) := by decide +kernel
theorem d_Mo_accept_97 : decode prog_13_method_36_code 97 = .ok (.iload 8, 2) := by decide +kernel
theorem d_Mo_accept_99 : decode prog_13_method_36_code 99 = .ok (.iadd, 1) := by decide +kernel
theorem d_Mo_accept_100 : decode prog_13_method_36_code 100 = .ok (.invokevirtual 208, 3) := by decide +kernel
theorem d_Mo_accept_103 : decode prog_13_method_36_code 103 = .ok (.aload_n 0, 1) := by decide +kernel
theorem d_Mo_accept_104 : decode prog_13_method_36_code 104 = .ok (.aload_n 0, 1) := by decide +kernel
theorem d_Mo_accept_105 : decode prog_13_method_36_code 105 = .ok (.getfield 192, 3) := by decide +kernel
theorem d_Mo_accept_108 : decode prog_13_method_36_code 108 = .ok (.ldc 211, 2) := by decide +kernel
theorem d_Mo_accept_110 : decode prog_13_method_36_code 110 = .ok (.imul, 1) := by decide +kernel
theorem d_Mo_accept_111 : decode prog_13_method_36_code 111 = .ok (.iload_n 2, 1) := by decide +kernel
theorem d_Mo_accept_112 : decode prog_13_method_36_code 112 = .ok (.iadd, 1) := by decide +kernel
theorem d_Mo_accept_113 : decode prog_13_method_36_code 113 = .ok (.invokevirtual 208, 3) := by decide +kernel
theorem d_Mo_accept_116 : decode prog_13_method_36_code 116 = .ok (.aload_n 0, 1) := by decide +kernel
theorem d_Mo_accept_117 : decode prog_13_method_36_code 117 = .ok (.iload_n 1, 1) := by decide +kernel
theorem d_Mo_accept_118 : decode prog_13_method_36_code 118 = .ok (.iconst 2, 1) := by decide +kernel
theorem d_Mo_accept_119 : decode prog_13_method_36_code 119 = .ok (.if_icmp .eq 8, 3) := by decide +kernel
theorem d_Mo_accept_122 : decode prog_13_method_36_code 122 = .ok (.iload_n 1, 1) := by decide +kernel
theorem d_Mo_accept_123 : decode prog_13_method_36_code 123 = .ok (.iconst 4, 1) := by decide +kernel
theorem d_Mo_accept_124 : decode prog_13_method_36_code 124 = .ok (.if_icmp .ne 13, 3) := by decide +kernel
theorem d_Mo_accept_137 : decode prog_13_method_36_code 137 = .ok (.iload_n 1, 1) := by decide +kernel
theorem d_Mo_accept_138 : decode prog_13_method_36_code 138 = .ok (.iconst 3, 1) := by decide +kernel
theorem d_Mo_accept_139 : decode prog_13_method_36_code 139 = .ok (.if_icmp .ne 21, 3) := by decide +kernel
theorem d_Mo_accept_160 : decode prog_13_method_36_code 160 = .ok (.iload_n 3, 1) := by decide +kernel
theorem d_Mo_accept_142 : decode prog_13_method_36_code 142 = .ok (.iload_n 3, 1) := by decide +kernel
theorem d_Mo_accept_143 : decode prog_13_method_36_code 143 = .ok (.sipush 16384, 3) := by decide +kernel
theorem d_Mo_accept_146 : decode prog_13_method_36_code 146 = .ok (.imul, 1) := by decide +kernel
theorem d_Mo_accept_147 : decode prog_13_method_36_code 147 = .ok (.iload 4, 2) := by decide +kernel
theorem d_Mo_accept_149 : decode prog_13_method_36_code 149 = .ok (.sipush 128, 3) := by decide +kernel
theorem d_Mo_accept_152 : decode prog_13_method_36_code 152 = .ok (.imul, 1) := by decide +kernel
theorem d_Mo_accept_153 : decode prog_13_method_36_code 153 = .ok (.iadd, 1) := by decide +kernel
theorem d_Mo_accept_154 : decode prog_13_method_36_code 154 = .ok (.iload 5, 2) := by decide +kernel
theorem d_Mo_accept_156 : decode prog_13_method_36_code 156 = .ok (.iadd, 1) := by decide +kernel
theorem d_Mo_accept_157 : decode prog_13_method_36_code 157 = .ok (.goto 4, 3) := by decide +kernel
theorem d_Mo_accept_127 : decode prog_13_method_36_code 127 = .ok (.iload_n 3, 1) := by decide +kernel
theorem d_Mo_accept_128 : decode prog_13_method_36_code 128 = .ok (.ldc 207, 2) := by decide +kernel
theorem d_Mo_accept_130 : decode prog_13_method_36_code 130 = .ok (.imul, 1) := by decide +kernel
theorem d_Mo_accept_131 : decode prog_13_method_36_code 131 = .ok (.iload 4, 2) := by decide +kernel
theorem d_Mo_accept_133 : decode prog_13_method_36_code 133 = .ok (.iadd, 1) := by decide +kernel
theorem d_Mo_accept_134 : decode prog_13_method_36_code 134 = .ok (.goto 27, 3) := by decide +kernel
theorem d_Mo_accept_161 : decode prog_13_method_36_code 161 = .ok (.invokevirtual 208, 3) := by decide +kernel
theorem d_Mo_accept_164 : decode prog_13_method_36_code 164 = .ok (.iload_n 1, 1) := by decide +kernel
theorem d_Mo_accept_165 : decode prog_13_method_36_code 165 = .ok (.iconst 3, 1) := by decide +kernel
theorem d_Mo_accept_166 : decode prog_13_method_36_code 166 = .ok (.if_icmp .ne 9, 3) := by decide +kernel
theorem d_Mo_accept_169 : decode prog_13_method_36_code 169 = .ok (.aload_n 0, 1) := by decide +kernel
theorem d_Mo_accept_170 : decode prog_13_method_36_code 170 = .ok (.iload 6, 2) := by decide +kernel
theorem d_Mo_accept_172 : decode prog_13_method_36_code 172 = .ok (.invokevirtual 208, 3) := by decide +kernel
theorem d_Mo_accept_175 : decode prog_13_method_36_code 175 = .ok (.iconst 0, 1) := by decide +kernel
theorem d_Mo_accept_176 : decode prog_13_method_36_code 176 = .ok (.istore 9, 2) := by decide +kernel
theorem d_Mo_accept_178 : decode prog_13_method_36_code 178 = .ok (.iload 9, 2) := by decide +kernel
theorem d_Mo_accept_180 : decode prog_13_method_36_code 180 = .ok (.aload_n 0, 1) := by decide +kernel
theorem d_Mo_accept_181 : decode prog_13_method_36_code 181 = .ok (.getfield 106, 3) := by decide +kernel
theorem d_Mo_accept_184 : decode prog_13_method_36_code 184 = .ok (.if_icmp .ge 36, 3) := by decide +kernel
theorem d_Mo_accept_187 : decode prog_13_method_36_code 187 = .ok (.iload_n 1, 1) := by decide +kernel
theorem d_Mo_accept_188 : decode prog_13_method_36_code 188 = .ok (.iconst 1, 1) := by decide +kernel
theorem d_Mo_accept_189 : decode prog_13_method_36_code 189 = .ok (.if_icmp .ne 31, 3) := by decide +kernel
theorem d_Mo_accept_192 : decode prog_13_method_36_code 192 = .ok (.aload_n 0, 1) := by decide +kernel
theorem d_Mo_accept_193 : decode prog_13_method_36_code 193 = .ok (.aload_n 0, 1) := by decide +kernel
theorem d_Mo_accept_194 : decode prog_13_method_36_code 194 = .ok (.getfield 7, 3) := by decide +kernel
theorem d_Mo_accept_197 : decode prog_13_method_36_code 197 = .ok (.iload 9, 2) := by decide +kernel
theorem d_Mo_accept_199 : decode prog_13_method_36_code 199 = .ok (.iaload, 1) := by decide +kernel
theorem d_Mo_accept_200 : decode prog_13_method_36_code 200 = .ok (.ldc 211, 2) := by decide +kernel
theorem d_Mo_accept_202 : decode prog_13_method_36_code 202 = .ok (.imul, 1) := by decide +kernel
theorem d_Mo_accept_203 : decode prog_13_method_36_code 203 = .ok (.aload_n 0, 1) := by decide +kernel
theorem d_Mo_accept_204 : decode prog_13_method_36_code 204 = .ok (.getfield 13, 3) := by decide +kernel
theorem d_Mo_accept_207 : decode prog_13_method_36_code 207 = .ok (.iload 9, 2) := by decide +kernel
theorem d_Mo_accept_209 : decode prog_13_method_36_code 209 = .ok (.iaload, 1) := by decide +kernel
theorem d_Mo_accept_210 : decode prog_13_method_36_code 210 = .ok (.iadd, 1) := by decide +kernel
theorem d_Mo_accept_211 : decode prog_13_method_36_code 211 = .ok (.invokevirtual 208, 3) := by decide +kernel
theorem d_Mo_accept_214 : decode prog_13_method_36_code 214 = .ok (.iinc 9 1, 3) := by decide +kernel
theorem d_Mo_accept_217 : decode prog_13_method_36_code 217 = .ok (.goto (-39), 3) := by decide +kernel
theorem d_Mo_accept_220 : decode prog_13_method_36_code 220 = .ok (.lconst 0, 1) := by decide +kernel
theorem d_Mo_accept_221 : decode prog_13_method_36_code 221 = .ok (.lstore 9, 2) := by decide +kernel
theorem d_Mo_accept_223 : decode prog_13_method_36_code 223 = .ok (.iconst 0, 1) := by decide +kernel
theorem d_Mo_accept_224 : decode prog_13_method_36_code 224 = .ok (.istore 11, 2) := by decide +kernel
theorem d_Mo_accept_226 : decode prog_13_method_36_code 226 = .ok (.iload 11, 2) := by decide +kernel
theorem d_Mo_accept_228 : decode prog_13_method_36_code 228 = .ok (.iload 8, 2) := by decide +kernel
theorem d_Mo_accept_230 : decode prog_13_method_36_code 230 = .ok (.if_icmp .ge 31, 3) := by decide +kernel
theorem d_Mo_accept_261 : decode prog_13_method_36_code 261 = .ok (.aload_n 0, 1) := by decide +kernel
theorem d_Mo_accept_262 : decode prog_13_method_36_code 262 = .ok (.iload 8, 2) := by decide +kernel
theorem d_Mo_accept_264 : decode prog_13_method_36_code 264 = .ok (.i2l, 1) := by decide +kernel
theorem d_Mo_accept_265 : decode prog_13_method_36_code 265 = .ok (.ldc2_w 212, 3) := by decide +kernel
theorem d_Mo_accept_268 : decode prog_13_method_36_code 268 = .ok (.lsub, 1) := by decide +kernel
theorem d_Mo_accept_269 : decode prog_13_method_36_code 269 = .ok (.l2i, 1) := by decide +kernel
theorem d_Mo_accept_270 : decode prog_13_method_36_code 270 = .ok (.invokevirtual 208, 3) := by decide +kernel
theorem d_Mo_accept_273 : decode prog_13_method_36_code 273 = .ok (.aload_n 0, 1) := by decide +kernel
theorem d_Mo_accept_274 : decode prog_13_method_36_code 274 = .ok (.lload 9, 2) := by decide +kernel
theorem d_Mo_accept_276 : decode prog_13_method_36_code 276 = .ok (.ldc2_w 212, 3) := by decide +kernel
theorem d_Mo_accept_279 : decode prog_13_method_36_code 279 = .ok (.lrem, 1) := by decide +kernel
theorem d_Mo_accept_280 : decode prog_13_method_36_code 280 = .ok (.ldc2_w 212, 3) := by decide +kernel
theorem d_Mo_accept_283 : decode prog_13_method_36_code 283 = .ok (.lsub, 1) := by decide +kernel
theorem d_Mo_accept_284 : decode prog_13_method_36_code 284 = .ok (.l2i, 1) := by decide +kernel
theorem d_Mo_accept_285 : decode prog_13_method_36_code 285 = .ok (.invokevirtual 208, 3) := by decide +kernel
theorem d_Mo_accept_288 : decode prog_13_method_36_code 288 = .ok (.aload_n 0, 1) := by decide +kernel
theorem d_Mo_accept_289 : decode prog_13_method_36_code 289 = .ok (.getfield 192, 3) := by decide +kernel
theorem d_Mo_accept_292 : decode prog_13_method_36_code 292 = .ok (.ireturn, 1) := by decide +kernel
theorem d_Mo_accept_233 : decode prog_13_method_36_code 233 = .ok (.lload 9, 2) := by decide +kernel
theorem d_Mo_accept_235 : decode prog_13_method_36_code 235 = .ok (.aload_n 0, 1) := by decide +kernel
theorem d_Mo_accept_236 : decode prog_13_method_36_code 236 = .ok (.getfield 77, 3) := by decide +kernel
theorem d_Mo_accept_239 : decode prog_13_method_36_code 239 = .ok (.iload 7, 2) := by decide +kernel
theorem d_Mo_accept_241 : decode prog_13_method_36_code 241 = .ok (.iload 11, 2) := by decide +kernel
theorem d_Mo_accept_243 : decode prog_13_method_36_code 243 = .ok (.iadd, 1) := by decide +kernel
theorem d_Mo_accept_244 : decode prog_13_method_36_code 244 = .ok (.iaload, 1) := by decide +kernel
theorem d_Mo_accept_245 : decode prog_13_method_36_code 245 = .ok (.i2l, 1) := by decide +kernel
theorem d_Mo_accept_246 : decode prog_13_method_36_code 246 = .ok (.iload 11, 2) := by decide +kernel
theorem d_Mo_accept_248 : decode prog_13_method_36_code 248 = .ok (.iconst 1, 1) := by decide +kernel
theorem d_Mo_accept_249 : decode prog_13_method_36_code 249 = .ok (.iadd, 1) := by decide +kernel
theorem d_Mo_accept_250 : decode prog_13_method_36_code 250 = .ok (.i2l, 1) := by decide +kernel
theorem d_Mo_accept_251 : decode prog_13_method_36_code 251 = .ok (.lmul, 1) := by decide +kernel
theorem d_Mo_accept_252 : decode prog_13_method_36_code 252 = .ok (.ladd, 1) := by decide +kernel
theorem d_Mo_accept_253 : decode prog_13_method_36_code 253 = .ok (.lstore 9, 2) := by decide +kernel
theorem d_Mo_accept_255 : decode prog_13_method_36_code 255 = .ok (.iinc 11 1, 3) := by decide +kernel
theorem d_Mo_accept_258 : decode prog_13_method_36_code 258 = .ok (.goto (-32), 3) := by decide +kernel
def wp_Mo_accept_226 (post : Int → MS → Prop) : Nat → Int → Int → Int → Int → MS → Prop
  | 0, _, _, _, _, _ => False
  | n + 1, v7, v8, v9, v11, S => inR v11 ∧ inR v8 ∧ (v8 ≤ v11 → (inR v8 ∧ (wp_Mo_write (fun S_1 => dvL v9 2147483648 ∧ (wp_Mo_write (fun S_3 => post (S_3.1 15) S_3) ((v9 % 2147483648) - 2147483648) S_1)) (v8 - 2147483648) S))) ∧ (¬ (v8 ≤ v11) → (ixR (v7 + v11) 12100 ∧ (inR (S.2 32 (v7 + v11).toNat) ∧ (inR (v11 + 1) ∧ (∀ v9_5 : Int, v9_5 = (v9 + ((S.2 32 (v7 + v11).toNat) * (v11 + 1))) → (wp_Mo_accept_226 post n) v7 v8 v9_5 (v11 + 1) S)))))
def wp_Mo_accept_220 (post : Int → MS → Prop) (v7 : Int) (v8 : Int) (S : MS) : Prop := ∃ n0 : Nat, wp_Mo_accept_226 post n0 v7 v8 0 0 S
def wp_Mo_accept_178 (post : Int → MS → Prop) : Nat → Int → Int → Int → Int → MS → Prop
  | 0, _, _, _, _, _ => False
  | n + 1, v1, v7, v8, v9, S => inR v9 ∧ inR (S.1 4) ∧ ((S.1 4) ≤ v9 → wp_Mo_accept_220 post v7 v8 S) ∧ (¬ ((S.1 4) ≤ v9) → (inR v1 ∧ (¬ (v1 = 1) → wp_Mo_accept_220 post v7 v8 S) ∧ (v1 = 1 → (ixR v9 32 ∧ (ixR v9 32 ∧ (wp_Mo_write (fun S_1 => (wp_Mo_accept_178 post n) v1 v7 v8 (v9 + 1) S_1) (((S.2 5 v9.toNat) * 32768) + (S.2 6 v9.toNat)) S))))))
def wp_Mo_accept_175 (post : Int → MS → Prop) (v1 : Int) (v7 : Int) (v8 : Int) (S : MS) : Prop := ∃ n0 : Nat, wp_Mo_accept_178 post n0 v1 v7 v8 0 S
def wp_Mo_accept_161 (post : Int → MS → Prop) (v1 : Int) (v6 : Int) (v7 : Int) (v8 : Int) (s0 : Int) (S : MS) : Prop := wp_Mo_write (fun S_1 => inR v1 ∧ (¬ (v1 = 3) → wp_Mo_accept_175 post v1 v7 v8 S_1) ∧ (v1 = 3 → (wp_Mo_write (fun S_3 => wp_Mo_accept_175 post v1 v7 v8 S_3) v6 S_1))) s0 S
def wp_Mo_accept_127 (post : Int → MS → Prop) (v1 : Int) (v3 : Int) (v4 : Int) (v6 : Int) (v7 : Int) (v8 : Int) (S : MS) : Prop := wp_Mo_accept_161 post v1 v6 v7 v8 ((v3 * 65536) + v4) S
def wp_Mo_accept (post : Int → MS → Prop) (v1 : Int) (v2 : Int) (v3 : Int) (v4 : Int) (v5 : Int) (v6 : Int) (S : MS) : Prop := (∀ S_1 : MS, S_1 = ms_i S 15 ((S.1 15) + 1) → ixR (S_1.1 15) 601 ∧ (∀ S_2 : MS, S_2 = ms_a S_1 16 (S_1.1 15) v1 → ixR (S_2.1 15) 601 ∧ (∀ S_3 : MS, S_3 = ms_a S_2 17 (S_2.1 15) v2 → ixR (S_3.1 15) 601 ∧ (∀ S_4 : MS, S_4 = ms_a S_3 18 (S_3.1 15) v3 → ixR (S_4.1 15) 601 ∧ (∀ S_5 : MS, S_5 = ms_a S_4 19 (S_4.1 15) v4 → ixR (S_5.1 15) 601 ∧ (∀ S_6 : MS, S_6 = ms_a S_5 20 (S_5.1 15) v5 → ixR (S_6.1 15) 601 ∧ (∀ S_7 : MS, S_7 = ms_a S_6 21 (S_6.1 15) v6 → ∀ v7_8 : Int, v7_8 = (S_7.1 30) → wp_Mo_recordSize (fun r_10 S_9 => wp_Mo_write (fun S_11 => wp_Mo_write (fun S_13 => inR v1 ∧ (v1 = 2 → (wp_Mo_accept_127 post v1 v3 v4 v6 v7_8 (r_10 - 2) S_13)) ∧ (¬ (v1 = 2) → (inR v1 ∧ (¬ (v1 = 4) → (inR v1 ∧ (¬ (v1 = 3) → (wp_Mo_accept_161 post v1 v6 v7_8 (r_10 - 2) v3 S_13)) ∧ (v1 = 3 → (wp_Mo_accept_161 post v1 v6 v7_8 (r_10 - 2) (((v3 * 16384) + (v4 * 128)) + v5) S_13)))) ∧ (v1 = 4 → (wp_Mo_accept_127 post v1 v3 v4 v6 v7_8 (r_10 - 2) S_13))))) (((S_11.1 15) * 32768) + v2) S_11) ((v1 * 65536) + (r_10 - 2)) S_9) v1 (S_7.1 4) S_7)))))))
set_option maxHeartbeats 4000000 in
set_option maxRecDepth 100000 in
theorem c_Mo_accept (l : Launch) {D : va_G} {h : Nat} {ad : Nat → Nat} {kc : Nat → ClassId} {post : Int → MS → Prop} {v1 : Int} {v2 : Int} {v3 : Int} {v4 : Int} {v5 : Int} {v6 : Int} {S : MS} (hw : wp_Mo_accept post v1 v2 v3 v4 v5 v6 S) : jMi l D h ad kc y_Mo_accept prog_13_method_36_code 12 (some .int) 1 22 S [vi v1, vi v2, vi v3, vi v4, vi v5, vi v6] post := by
  refine j_moi (own := "LandBookModel") (by decide) rfl (Nat.le_of_ble_eq_true rfl) (fun X F K hret => ?_)
  have B226 : ∀ (n0 : Nat) (v7 : Int) (v8 : Int) (v9 : Int) (v11 : Int) (S : MS), wp_Mo_accept_226 post n0 v7 v8 v9 v11 S → jat l D X 12 226 [(0, .ref h), (7, vi v7), (8, vi v8), (9, vl v9), (11, vi v11)] [] (mw h ad kc S) 0 0 := by
    intro n0
    induction n0 with
    | zero => intro v7 v8 v9 v11 S hw; exact hw.elim
    | succ n226 ih226 =>
      intro v7 v8 v9 v11 S hw
      unfold wp_Mo_accept_226 at hw
      refine j_iload F 4 d_Mo_accept_226 rfl ?_
      refine j_iload F 2 d_Mo_accept_228 rfl ?_
      obtain ⟨hc1, hc2, hwt, hwf⟩ := hw
      refine j_icmp_ge F 261 hc1 hc2 d_Mo_accept_230 rfl (fun hh => ?_) (fun hh => ?_)
      · have hw := hwt hh
        refine j_aload_n F 0 d_Mo_accept_261 rfl ?_
        refine j_iload F 2 d_Mo_accept_262 rfl ?_
        obtain ⟨hc1, hw⟩ := hw
        refine j_i2l F hc1 d_Mo_accept_264 ?_
        refine j_ldc2 (x := 2147483648) F tj_214 (by decide) d_Mo_accept_265 ?_
        refine j_lsub F d_Mo_accept_268 ?_
        refine j_l2i F d_Mo_accept_269 ?_
        refine m_callv F K (c_Mo_write l hw) (tw_gV tj_209 tj_210 tj_211 tj_87 tj_212) q_Mo_write rfl ⟨by decide, by decide⟩ ⟨Nat.zero_le _, Nat.zero_le _⟩ rfl (Nat.le_of_ble_eq_true rfl) d_Mo_accept_270 (fun S_1 hw => ?_)
        refine j_aload_n F 0 d_Mo_accept_273 rfl ?_
        refine j_lload F 3 d_Mo_accept_274 rfl ?_
        refine j_ldc2 (x := 2147483648) F tj_214 (by decide) d_Mo_accept_276 ?_
        obtain ⟨hc1, hw⟩ := hw
        refine j_lrem F hc1 d_Mo_accept_279 ?_
        refine j_ldc2 (x := 2147483648) F tj_214 (by decide) d_Mo_accept_280 ?_
        refine j_lsub F d_Mo_accept_283 ?_
        refine j_l2i F d_Mo_accept_284 ?_
        refine m_callv F K (c_Mo_write l hw) (tw_gV tj_209 tj_210 tj_211 tj_87 tj_212) q_Mo_write rfl ⟨by decide, by decide⟩ ⟨Nat.zero_le _, Nat.zero_le _⟩ rfl (Nat.le_of_ble_eq_true rfl) d_Mo_accept_285 (fun S_3 hw => ?_)
        refine j_aload_n F 0 d_Mo_accept_288 rfl ?_
        refine m_geti F K 15 (by decide) rfl tj_194 rfl d_Mo_accept_289 ?_
        exact hret _ _ _ _ hw d_Mo_accept_292
      · have hw := hwf hh
        refine j_lload F 3 d_Mo_accept_233 rfl ?_
        refine j_aload_n F 0 d_Mo_accept_235 rfl ?_
        refine m_geta F K 32 (by decide) (by decide) tj_207 rfl d_Mo_accept_236 ?_
        refine j_iload F 1 d_Mo_accept_239 rfl ?_
        refine j_iload F 4 d_Mo_accept_241 rfl ?_
        refine j_iadd F d_Mo_accept_243 ?_
        obtain ⟨hc1, hw⟩ := hw
        refine m_iald F K 32 22 rfl rfl hc1 d_Mo_accept_244 ?_
        obtain ⟨hc1, hw⟩ := hw
        refine j_i2l F hc1 d_Mo_accept_245 ?_
        refine j_iload F 4 d_Mo_accept_246 rfl ?_
        refine j_iconst F d_Mo_accept_248 ?_
        refine j_iadd F d_Mo_accept_249 ?_
        obtain ⟨hc1, hw⟩ := hw
        refine j_i2l F hc1 d_Mo_accept_250 ?_
        refine j_lmul F d_Mo_accept_251 ?_
        refine j_ladd F d_Mo_accept_252 ?_
        refine j_nml (fun v9_5 e_v9_5 => ?_)
        have hw := hw v9_5 e_v9_5
        refine j_lstore F [(9, vl v9_5), (0, .ref h), (7, vi v7), (8, vi v8), (11, vi v11)] d_Mo_accept_253 (by decide) rfl ?_
        refine j_iinc F 4 [(11, vi (v11 + 1)), (9, vl v9_5), (0, .ref h), (7, vi v7), (8, vi v8)] d_Mo_accept_255 rfl (by decide) rfl ?_
        refine j_goto F 226 d_Mo_accept_258 rfl ?_
        refine j_sub [2, 3, 4, 1, 0] rfl ?_
        exact ih226 _ _ _ _ _ hw
  have B220 : ∀ (v7 : Int) (v8 : Int) (S : MS), wp_Mo_accept_220 post v7 v8 S → jat l D X 12 220 [(0, .ref h), (7, vi v7), (8, vi v8)] [] (mw h ad kc S) 0 0 := by
    intro v7 v8 S hw
    unfold wp_Mo_accept_220 at hw
    refine j_lconst (x := 0) F d_Mo_accept_220 (by decide) ?_
    refine j_lstore F [(9, vl 0), (0, .ref h), (7, vi v7), (8, vi v8)] d_Mo_accept_221 (by decide) rfl ?_
    refine j_iconst F d_Mo_accept_223 ?_
    refine j_istore F [(11, vi 0), (9, vl 0), (0, .ref h), (7, vi v7), (8, vi v8)] d_Mo_accept_224 (by decide) rfl ?_
    refine j_sub [2, 3, 4, 1, 0] rfl ?_
    obtain ⟨n0, hw⟩ := hw
    exact B226 n0 _ _ _ _ _ hw
  have B178 : ∀ (n0 : Nat) (v1 : Int) (v7 : Int) (v8 : Int) (v9 : Int) (S : MS), wp_Mo_accept_178 post n0 v1 v7 v8 v9 S → jat l D X 12 178 [(0, .ref h), (1, vi v1), (7, vi v7), (8, vi v8), (9, vi v9)] [] (mw h ad kc S) 0 0 := by
    intro n0
    induction n0 with
    | zero => intro v1 v7 v8 v9 S hw; exact hw.elim
    | succ n178 ih178 =>
      intro v1 v7 v8 v9 S hw
      unfold wp_Mo_accept_178 at hw
      refine j_iload F 4 d_Mo_accept_178 rfl ?_
      refine j_aload_n F 0 d_Mo_accept_180 rfl ?_
      refine m_geti F K 4 (by decide) rfl tj_111 rfl d_Mo_accept_181 ?_
      obtain ⟨hc1, hc2, hwt, hwf⟩ := hw
      refine j_icmp_ge F 220 hc1 hc2 d_Mo_accept_184 rfl (fun hh => ?_) (fun hh => ?_)
      · have hw := hwt hh
        refine j_sub [0, 2, 3] rfl ?_
        exact B220 _ _ _ hw
      · have hw := hwf hh
        refine j_iload_n F 1 d_Mo_accept_187 rfl ?_
        refine j_iconst F d_Mo_accept_188 ?_
        obtain ⟨hc1, hwt, hwf⟩ := hw
        refine j_icmp_ne F 220 hc1 ⟨by decide, by decide⟩ d_Mo_accept_189 rfl (fun hh => ?_) (fun hh => ?_)
        · have hw := hwt hh
          refine j_sub [0, 2, 3] rfl ?_
          exact B220 _ _ _ hw
        · have hw := hwf hh
          refine j_aload_n F 0 d_Mo_accept_192 rfl ?_
          refine j_aload_n F 0 d_Mo_accept_193 rfl ?_
          refine m_geta F K 5 (by decide) (by decide) tj_112 rfl d_Mo_accept_194 ?_
          refine j_iload F 4 d_Mo_accept_197 rfl ?_
          obtain ⟨hc1, hw⟩ := hw
          refine m_iald F K 5 0 rfl rfl hc1 d_Mo_accept_199 ?_
          refine j_ldc (x := 32768) F tj_213 (by decide) d_Mo_accept_200 ?_
          refine j_imul F d_Mo_accept_202 ?_
          refine j_aload_n F 0 d_Mo_accept_203 rfl ?_
          refine m_geta F K 6 (by decide) (by decide) tj_113 rfl d_Mo_accept_204 ?_
          refine j_iload F 4 d_Mo_accept_207 rfl ?_
          obtain ⟨hc1, hw⟩ := hw
          refine m_iald F K 6 1 rfl rfl hc1 d_Mo_accept_209 ?_
          refine j_iadd F d_Mo_accept_210 ?_
          refine m_callv F K (c_Mo_write l hw) (tw_gV tj_209 tj_210 tj_211 tj_87 tj_212) q_Mo_write rfl ⟨by decide, by decide⟩ ⟨Nat.zero_le _, Nat.zero_le _⟩ rfl (Nat.le_of_ble_eq_true rfl) d_Mo_accept_211 (fun S_1 hw => ?_)
          refine j_iinc F 4 [(9, vi (v9 + 1)), (0, .ref h), (1, vi v1), (7, vi v7), (8, vi v8)] d_Mo_accept_214 rfl (by decide) rfl ?_
          refine j_goto F 178 d_Mo_accept_217 rfl ?_
          refine j_sub [1, 2, 3, 4, 0] rfl ?_
          exact ih178 _ _ _ _ _ hw
  have B175 : ∀ (v1 : Int) (v7 : Int) (v8 : Int) (S : MS), wp_Mo_accept_175 post v1 v7 v8 S → jat l D X 12 175 [(0, .ref h), (1, vi v1), (7, vi v7), (8, vi v8)] [] (mw h ad kc S) 0 0 := by
    intro v1 v7 v8 S hw
    unfold wp_Mo_accept_175 at hw
    refine j_iconst F d_Mo_accept_175 ?_
    refine j_istore F [(9, vi 0), (0, .ref h), (1, vi v1), (7, vi v7), (8, vi v8)] d_Mo_accept_176 (by decide) rfl ?_
    refine j_sub [1, 2, 3, 4, 0] rfl ?_
    obtain ⟨n0, hw⟩ := hw
    exact B178 n0 _ _ _ _ _ hw
  have B161 : ∀ (v1 : Int) (v6 : Int) (v7 : Int) (v8 : Int) (s0 : Int) (S : MS), wp_Mo_accept_161 post v1 v6 v7 v8 s0 S → jat l D X 12 161 [(0, .ref h), (1, vi v1), (6, vi v6), (7, vi v7), (8, vi v8)] [vi s0, .ref h] (mw h ad kc S) 0 0 := by
    intro v1 v6 v7 v8 s0 S hw
    unfold wp_Mo_accept_161 at hw
    refine m_callv F K (c_Mo_write l hw) (tw_gV tj_209 tj_210 tj_211 tj_87 tj_212) q_Mo_write rfl ⟨by decide, by decide⟩ ⟨Nat.zero_le _, Nat.zero_le _⟩ rfl (Nat.le_of_ble_eq_true rfl) d_Mo_accept_161 (fun S_1 hw => ?_)
    refine j_iload_n F 1 d_Mo_accept_164 rfl ?_
    refine j_iconst F d_Mo_accept_165 ?_
    obtain ⟨hc1, hwt, hwf⟩ := hw
    refine j_icmp_ne F 175 hc1 ⟨by decide, by decide⟩ d_Mo_accept_166 rfl (fun hh => ?_) (fun hh => ?_)
    · have hw := hwt hh
      refine j_sub [0, 1, 3, 4] rfl ?_
      exact B175 _ _ _ _ hw
    · have hw := hwf hh
      refine j_aload_n F 0 d_Mo_accept_169 rfl ?_
      refine j_iload F 2 d_Mo_accept_170 rfl ?_
      refine m_callv F K (c_Mo_write l hw) (tw_gV tj_209 tj_210 tj_211 tj_87 tj_212) q_Mo_write rfl ⟨by decide, by decide⟩ ⟨Nat.zero_le _, Nat.zero_le _⟩ rfl (Nat.le_of_ble_eq_true rfl) d_Mo_accept_172 (fun S_3 hw => ?_)
      refine j_sub [0, 1, 3, 4] rfl ?_
      exact B175 _ _ _ _ hw
  have B127 : ∀ (v1 : Int) (v3 : Int) (v4 : Int) (v6 : Int) (v7 : Int) (v8 : Int) (S : MS), wp_Mo_accept_127 post v1 v3 v4 v6 v7 v8 S → jat l D X 12 127 [(0, .ref h), (1, vi v1), (3, vi v3), (4, vi v4), (6, vi v6), (7, vi v7), (8, vi v8)] [.ref h] (mw h ad kc S) 0 0 := by
    intro v1 v3 v4 v6 v7 v8 S hw
    unfold wp_Mo_accept_127 at hw
    refine j_iload_n F 2 d_Mo_accept_127 rfl ?_
    refine j_ldc (x := 65536) F tj_208 (by decide) d_Mo_accept_128 ?_
    refine j_imul F d_Mo_accept_130 ?_
    refine j_iload F 3 d_Mo_accept_131 rfl ?_
    refine j_iadd F d_Mo_accept_133 ?_
    refine j_goto F 161 d_Mo_accept_134 rfl ?_
    refine j_sub [0, 1, 4, 5, 6] rfl ?_
    exact B161 _ _ _ _ _ _ hw
  unfold wp_Mo_accept at hw
  show jat l D X 12 0 [(0, .ref h), (1, vi v1), (2, vi v2), (3, vi v3), (4, vi v4), (5, vi v5), (6, vi v6)] [] (mw h ad kc S) 0 0
  refine j_aload_n F 0 d_Mo_accept_0 rfl ?_
  refine j_dup F rfl d_Mo_accept_1 ?_
  refine m_geti F K 15 (by decide) rfl tj_194 rfl d_Mo_accept_2 ?_
  refine j_iconst F d_Mo_accept_5 ?_
  refine j_iadd F d_Mo_accept_6 ?_
  refine m_puti F K 15 (by decide) rfl tj_194 rfl rfl (ty := .int) (by decide +kernel) rfl rfl d_Mo_accept_7 (fun S_1 e_S_1 => ?_)
  have hw := hw S_1 e_S_1
  refine j_aload_n F 0 d_Mo_accept_10 rfl ?_
  refine m_geta F K 16 (by decide) (by decide) tj_187 rfl d_Mo_accept_11 ?_
  refine j_aload_n F 0 d_Mo_accept_14 rfl ?_
  refine m_geti F K 15 (by decide) rfl tj_194 rfl d_Mo_accept_15 ?_
  refine j_iload_n F 1 d_Mo_accept_18 rfl ?_
  obtain ⟨hc1, hw⟩ := hw
  refine m_iast F K 16 9 rfl rfl hc1 d_Mo_accept_19 (fun S_2 e_S_2 => ?_)
  have hw := hw S_2 e_S_2
  refine j_aload_n F 0 d_Mo_accept_20 rfl ?_
  refine m_geta F K 17 (by decide) (by decide) tj_162 rfl d_Mo_accept_21 ?_
  refine j_aload_n F 0 d_Mo_accept_24 rfl ?_
  refine m_geti F K 15 (by decide) rfl tj_194 rfl d_Mo_accept_25 ?_
  refine j_iload_n F 2 d_Mo_accept_28 rfl ?_
  obtain ⟨hc1, hw⟩ := hw
  refine m_iast F K 17 10 rfl rfl hc1 d_Mo_accept_29 (fun S_3 e_S_3 => ?_)
  have hw := hw S_3 e_S_3
  refine j_aload_n F 0 d_Mo_accept_30 rfl ?_
  refine m_geta F K 18 (by decide) (by decide) tj_188 rfl d_Mo_accept_31 ?_
  refine j_aload_n F 0 d_Mo_accept_34 rfl ?_
  refine m_geti F K 15 (by decide) rfl tj_194 rfl d_Mo_accept_35 ?_
  refine j_iload_n F 3 d_Mo_accept_38 rfl ?_
  obtain ⟨hc1, hw⟩ := hw
  refine m_iast F K 18 11 rfl rfl hc1 d_Mo_accept_39 (fun S_4 e_S_4 => ?_)
  have hw := hw S_4 e_S_4
  refine j_aload_n F 0 d_Mo_accept_40 rfl ?_
  refine m_geta F K 19 (by decide) (by decide) tj_193 rfl d_Mo_accept_41 ?_
  refine j_aload_n F 0 d_Mo_accept_44 rfl ?_
  refine m_geti F K 15 (by decide) rfl tj_194 rfl d_Mo_accept_45 ?_
  refine j_iload F 4 d_Mo_accept_48 rfl ?_
  obtain ⟨hc1, hw⟩ := hw
  refine m_iast F K 19 12 rfl rfl hc1 d_Mo_accept_50 (fun S_5 e_S_5 => ?_)
  have hw := hw S_5 e_S_5
  refine j_aload_n F 0 d_Mo_accept_51 rfl ?_
  refine m_geta F K 20 (by decide) (by decide) tj_200 rfl d_Mo_accept_52 ?_
  refine j_aload_n F 0 d_Mo_accept_55 rfl ?_
  refine m_geti F K 15 (by decide) rfl tj_194 rfl d_Mo_accept_56 ?_
  refine j_iload F 5 d_Mo_accept_59 rfl ?_
  obtain ⟨hc1, hw⟩ := hw
  refine m_iast F K 20 13 rfl rfl hc1 d_Mo_accept_61 (fun S_6 e_S_6 => ?_)
  have hw := hw S_6 e_S_6
  refine j_aload_n F 0 d_Mo_accept_62 rfl ?_
  refine m_geta F K 21 (by decide) (by decide) tj_199 rfl d_Mo_accept_63 ?_
  refine j_aload_n F 0 d_Mo_accept_66 rfl ?_
  refine m_geti F K 15 (by decide) rfl tj_194 rfl d_Mo_accept_67 ?_
  refine j_iload F 6 d_Mo_accept_70 rfl ?_
  obtain ⟨hc1, hw⟩ := hw
  refine m_iast F K 21 14 rfl rfl hc1 d_Mo_accept_72 (fun S_7 e_S_7 => ?_)
  have hw := hw S_7 e_S_7
  refine j_aload_n F 0 d_Mo_accept_73 rfl ?_
  refine m_geti F K 30 (by decide) rfl tj_202 rfl d_Mo_accept_74 ?_
  refine j_nmi (fun v7_8 e_v7_8 => ?_)
  have hw := hw v7_8 e_v7_8
  refine j_istore F [(7, vi v7_8), (0, .ref h), (1, vi v1), (2, vi v2), (3, vi v3), (4, vi v4), (5, vi v5), (6, vi v6)] d_Mo_accept_77 (by decide) rfl ?_
  refine j_aload_n F 1 d_Mo_accept_79 rfl ?_
  refine j_iload_n F 2 d_Mo_accept_80 rfl ?_
  refine j_aload_n F 1 d_Mo_accept_81 rfl ?_
  refine m_geti F K 4 (by decide) rfl tj_111 rfl d_Mo_accept_82 ?_
  refine m_calli F K (c_Mo_recordSize l hw) (tw_gV tj_203 tj_204 tj_205 tj_87 tj_206) q_Mo_recordSize rfl ⟨by decide, by decide⟩ ⟨Nat.zero_le _, Nat.zero_le _⟩ rfl (Nat.le_of_ble_eq_true rfl) d_Mo_accept_85 (fun r_10 S_9 hw => ?_)
  refine j_iconst F d_Mo_accept_88 ?_
  refine j_isub F d_Mo_accept_89 ?_
  refine j_istore F [(8, vi (r_10 - 2)), (7, vi v7_8), (0, .ref h), (1, vi v1), (2, vi v2), (3, vi v3), (4, vi v4), (5, vi v5), (6, vi v6)] d_Mo_accept_90 (by decide) rfl ?_
  refine j_aload_n F 2 d_Mo_accept_92 rfl ?_
  refine j_iload_n F 3 d_Mo_accept_93 rfl ?_
  refine j_ldc (x := 65536) F tj_208 (by decide) d_Mo_accept_94 ?_
  refine j_imul F d_Mo_accept_96 ?_
  refine j_iload F 0 d_Mo_accept_97 rfl ?_
  refine j_iadd F d_Mo_accept_99 ?_
  refine m_callv F K (c_Mo_write l hw) (tw_gV tj_209 tj_210 tj_211 tj_87 tj_212) q_Mo_write rfl ⟨by decide, by decide⟩ ⟨Nat.zero_le _, Nat.zero_le _⟩ rfl (Nat.le_of_ble_eq_true rfl) d_Mo_accept_100 (fun S_11 hw => ?_)
  refine j_aload_n F 2 d_Mo_accept_103 rfl ?_
  refine j_aload_n F 2 d_Mo_accept_104 rfl ?_
  refine m_geti F K 15 (by decide) rfl tj_194 rfl d_Mo_accept_105 ?_
  refine j_ldc (x := 32768) F tj_213 (by decide) d_Mo_accept_108 ?_
  refine j_imul F d_Mo_accept_110 ?_
  refine j_iload_n F 4 d_Mo_accept_111 rfl ?_
  refine j_iadd F d_Mo_accept_112 ?_
  refine m_callv F K (c_Mo_write l hw) (tw_gV tj_209 tj_210 tj_211 tj_87 tj_212) q_Mo_write rfl ⟨by decide, by decide⟩ ⟨Nat.zero_le _, Nat.zero_le _⟩ rfl (Nat.le_of_ble_eq_true rfl) d_Mo_accept_113 (fun S_13 hw => ?_)
  refine j_aload_n F 2 d_Mo_accept_116 rfl ?_
  refine j_iload_n F 3 d_Mo_accept_117 rfl ?_
  refine j_iconst F d_Mo_accept_118 ?_
  obtain ⟨hc1, hwt, hwf⟩ := hw
  refine j_icmp_eq F 127 hc1 ⟨by decide, by decide⟩ d_Mo_accept_119 rfl (fun hh => ?_) (fun hh => ?_)
  · have hw := hwt hh
    refine j_sub [2, 3, 5, 6, 8, 1, 0] rfl ?_
    exact B127 _ _ _ _ _ _ _ hw
  · have hw := hwf hh
    refine j_iload_n F 3 d_Mo_accept_122 rfl ?_
    refine j_iconst F d_Mo_accept_123 ?_
    obtain ⟨hc1, hwt, hwf⟩ := hw
    refine j_icmp_ne F 137 hc1 ⟨by decide, by decide⟩ d_Mo_accept_124 rfl (fun hh => ?_) (fun hh => ?_)
    · have hw := hwt hh
      refine j_iload_n F 3 d_Mo_accept_137 rfl ?_
      refine j_iconst F d_Mo_accept_138 ?_
      obtain ⟨hc1, hwt, hwf⟩ := hw
      refine j_icmp_ne F 160 hc1 ⟨by decide, by decide⟩ d_Mo_accept_139 rfl (fun hh => ?_) (fun hh => ?_)
      · have hw := hwt hh
        refine j_iload_n F 5 d_Mo_accept_160 rfl ?_
        refine j_sub [2, 3, 8, 1, 0] rfl ?_
        exact B161 _ _ _ _ _ _ hw
      · have hw := hwf hh
        refine j_iload_n F 5 d_Mo_accept_142 rfl ?_
        refine j_sipush F d_Mo_accept_143 (j_sip (by decide) (by decide)) ?_
        refine j_imul F d_Mo_accept_146 ?_
        refine j_iload F 6 d_Mo_accept_147 rfl ?_
        refine j_sipush F d_Mo_accept_149 (j_sip (by decide) (by decide)) ?_
        refine j_imul F d_Mo_accept_152 ?_
        refine j_iadd F d_Mo_accept_153 ?_
        refine j_iload F 7 d_Mo_accept_154 rfl ?_
        refine j_iadd F d_Mo_accept_156 ?_
        refine j_goto F 161 d_Mo_accept_157 rfl ?_
        refine j_sub [2, 3, 8, 1, 0] rfl ?_
        exact B161 _ _ _ _ _ _ hw
    · have hw := hwf hh
      refine j_sub [2, 3, 5, 6, 8, 1, 0] rfl ?_
      exact B127 _ _ _ _ _ _ _ hw
theorem tj_215 : (Jvm.Cond.fieldLink "LandBookModel" (55 : Nat) "LandBookModel" "lotsThen" "[I") ∈ tw_G := tw_in (List.mem_of_getElem? (i := 1068) (by decide +kernel)) rfl
theorem tj_216 : (Jvm.Cond.fieldLink "LandBookModel" (58 : Nat) "LandBookModel" "easementsThen" "[I") ∈ tw_G := tw_in (List.mem_of_getElem? (i := 1069) (by decide +kernel)) rfl
theorem tj_217 : (Jvm.Cond.fieldLink "LandBookModel" (61 : Nat) "LandBookModel" "wordsThen" "[I") ∈ tw_G := tw_in (List.mem_of_getElem? (i := 1070) (by decide +kernel)) rfl
abbrev y_Mo_settle : MethodName := ⟨"LandBookModel", "settle", "()V"⟩
theorem q_Mo_settle : y_Mo_settle.cls = "LandBookModel" ∧ y_Mo_settle.cls ≠ "java/lang/invoke/MethodHandle" ∧ y_Mo_settle.cls ≠ "java/lang/invoke/VarHandle" ∧ (parseMethodDescriptor y_Mo_settle.desc).map (fun d => d.parameters.length) = some 0 := by decide +kernel
theorem d_Mo_settle_0 : decode prog_13_method_37_code 0 = .ok (.aload_n 0, 1) := by decide +kernel
theorem d_Mo_settle_1 : decode prog_13_method_37_code 1 = .ok (.getfield 55, 3) := by decide +kernel
theorem d_Mo_settle_4 : decode prog_13_method_37_code 4 = .ok (.aload_n 0, 1) := by decide +kernel
theorem d_Mo_settle_5 : decode prog_13_method_37_code 5 = .ok (.getfield 192, 3) := by decide +kernel
theorem d_Mo_settle_8 : decode prog_13_method_37_code 8 = .ok (.aload_n 0, 1) := by decide +kernel
theorem d_Mo_settle_9 : decode prog_13_method_37_code 9 = .ok (.getfield 173, 3) := by decide +kernel
theorem d_Mo_settle_12 : decode prog_13_method_37_code 12 = .ok (.iastore, 1) := by decide +kernel
theorem d_Mo_settle_13 : decode prog_13_method_37_code 13 = .ok (.aload_n 0, 1) := by decide +kernel
theorem d_Mo_settle_14 : decode prog_13_method_37_code 14 = .ok (.getfield 58, 3) := by decide +kernel
theorem d_Mo_settle_17 : decode prog_13_method_37_code 17 = .ok (.aload_n 0, 1) := by decide +kernel
theorem d_Mo_settle_18 : decode prog_13_method_37_code 18 = .ok (.getfield 192, 3) := by decide +kernel
theorem d_Mo_settle_21 : decode prog_13_method_37_code 21 = .ok (.aload_n 0, 1) := by decide +kernel
theorem d_Mo_settle_22 : decode prog_13_method_37_code 22 = .ok (.getfield 198, 3) := by decide +kernel
theorem d_Mo_settle_25 : decode prog_13_method_37_code 25 = .ok (.iastore, 1) := by decide +kernel
theorem d_Mo_settle_26 : decode prog_13_method_37_code 26 = .ok (.aload_n 0, 1) := by decide +kernel
theorem d_Mo_settle_27 : decode prog_13_method_37_code 27 = .ok (.getfield 61, 3) := by decide +kernel
theorem d_Mo_settle_30 : decode prog_13_method_37_code 30 = .ok (.aload_n 0, 1) := by decide +kernel
theorem d_Mo_settle_31 : decode prog_13_method_37_code 31 = .ok (.getfield 192, 3) := by decide +kernel
theorem d_Mo_settle_34 : decode prog_13_method_37_code 34 = .ok (.aload_n 0, 1) := by decide +kernel
theorem d_Mo_settle_35 : decode prog_13_method_37_code 35 = .ok (.getfield 201, 3) := by decide +kernel
theorem d_Mo_settle_38 : decode prog_13_method_37_code 38 = .ok (.iastore, 1) := by decide +kernel
theorem d_Mo_settle_39 : decode prog_13_method_37_code 39 = .ok (.return_, 1) := by decide +kernel
def wp_Mo_settle (post : MS → Prop)  (S : MS) : Prop := ixR (S.1 15) 601 ∧ (∀ S_1 : MS, S_1 = ms_a S 22 (S.1 15) (S.1 7) → ixR (S_1.1 15) 601 ∧ (∀ S_2 : MS, S_2 = ms_a S_1 23 (S_1.1 15) (S_1.1 25) → ixR (S_2.1 15) 601 ∧ (∀ S_3 : MS, S_3 = ms_a S_2 24 (S_2.1 15) (S_2.1 30) → post S_3)))
set_option maxHeartbeats 4000000 in
set_option maxRecDepth 100000 in
theorem c_Mo_settle (l : Launch) {D : va_G} {h : Nat} {ad : Nat → Nat} {kc : Nat → ClassId} {post : MS → Prop}  {S : MS} (hw : wp_Mo_settle post  S) : jMv l D h ad kc y_Mo_settle prog_13_method_37_code 1 none 0 0 S [] post := by
  refine j_mov (own := "LandBookModel") (by decide) rfl (Nat.le_of_ble_eq_true rfl) (fun X F K hret => ?_)
  unfold wp_Mo_settle at hw
  show jat l D X 1 0 [(0, .ref h)] [] (mw h ad kc S) 0 0
  refine j_aload_n F 0 d_Mo_settle_0 rfl ?_
  refine m_geta F K 22 (by decide) (by decide) tj_215 rfl d_Mo_settle_1 ?_
  refine j_aload_n F 0 d_Mo_settle_4 rfl ?_
  refine m_geti F K 15 (by decide) rfl tj_194 rfl d_Mo_settle_5 ?_
  refine j_aload_n F 0 d_Mo_settle_8 rfl ?_
  refine m_geti F K 7 (by decide) rfl tj_157 rfl d_Mo_settle_9 ?_
  obtain ⟨hc1, hw⟩ := hw
  refine m_iast F K 22 15 rfl rfl hc1 d_Mo_settle_12 (fun S_1 e_S_1 => ?_)
  have hw := hw S_1 e_S_1
  refine j_aload_n F 0 d_Mo_settle_13 rfl ?_
  refine m_geta F K 23 (by decide) (by decide) tj_216 rfl d_Mo_settle_14 ?_
  refine j_aload_n F 0 d_Mo_settle_17 rfl ?_
  refine m_geti F K 15 (by decide) rfl tj_194 rfl d_Mo_settle_18 ?_
  refine j_aload_n F 0 d_Mo_settle_21 rfl ?_
  refine m_geti F K 25 (by decide) rfl tj_201 rfl d_Mo_settle_22 ?_
  obtain ⟨hc1, hw⟩ := hw
  refine m_iast F K 23 16 rfl rfl hc1 d_Mo_settle_25 (fun S_2 e_S_2 => ?_)
  have hw := hw S_2 e_S_2
  refine j_aload_n F 0 d_Mo_settle_26 rfl ?_
  refine m_geta F K 24 (by decide) (by decide) tj_217 rfl d_Mo_settle_27 ?_
  refine j_aload_n F 0 d_Mo_settle_30 rfl ?_
  refine m_geti F K 15 (by decide) rfl tj_194 rfl d_Mo_settle_31 ?_
  refine j_aload_n F 0 d_Mo_settle_34 rfl ?_
  refine m_geti F K 30 (by decide) rfl tj_202 rfl d_Mo_settle_35 ?_
  obtain ⟨hc1, hw⟩ := hw
  refine m_iast F K 24 17 rfl rfl hc1 d_Mo_settle_38 (fun S_3 e_S_3 => ?_)
  have hw := hw S_3 e_S_3
  exact hret _ _ _ hw d_Mo_settle_39
abbrev y_Mo_isLot : MethodName := ⟨"LandBookModel", "isLot", "(I)Z"⟩
theorem q_Mo_isLot : y_Mo_isLot.cls = "LandBookModel" ∧ y_Mo_isLot.cls ≠ "java/lang/invoke/MethodHandle" ∧ y_Mo_isLot.cls ≠ "java/lang/invoke/VarHandle" ∧ (parseMethodDescriptor y_Mo_isLot.desc).map (fun d => d.parameters.length) = some 1 := by decide +kernel
theorem d_Mo_isLot_0 : decode prog_13_method_38_code 0 = .ok (.iload_n 1, 1) := by decide +kernel
theorem d_Mo_isLot_1 : decode prog_13_method_38_code 1 = .ok (.iconst 1, 1) := by decide +kernel
theorem d_Mo_isLot_2 : decode prog_13_method_38_code 2 = .ok (.if_icmp .lt 15, 3) := by decide +kernel
theorem d_Mo_isLot_17 : decode prog_13_method_38_code 17 = .ok (.iconst 0, 1) := by decide +kernel
theorem d_Mo_isLot_18 : decode prog_13_method_38_code 18 = .ok (.ireturn, 1) := by decide +kernel
theorem d_Mo_isLot_5 : decode prog_13_method_38_code 5 = .ok (.iload_n 1, 1) := by decide +kernel
theorem d_Mo_isLot_6 : decode prog_13_method_38_code 6 = .ok (.aload_n 0, 1) := by decide +kernel
theorem d_Mo_isLot_7 : decode prog_13_method_38_code 7 = .ok (.getfield 173, 3) := by decide +kernel
theorem d_Mo_isLot_10 : decode prog_13_method_38_code 10 = .ok (.if_icmp .gt 7, 3) := by decide +kernel
theorem d_Mo_isLot_13 : decode prog_13_method_38_code 13 = .ok (.iconst 1, 1) := by decide +kernel
theorem d_Mo_isLot_14 : decode prog_13_method_38_code 14 = .ok (.goto 4, 3) := by decide +kernel
def wp_Mo_isLot (post : Int → MS → Prop) (v1 : Int) (S : MS) : Prop := inR v1 ∧ (v1 < 1 → post 0 S) ∧ (¬ (v1 < 1) → (inR v1 ∧ inR (S.1 7) ∧ ((S.1 7) < v1 → post 0 S) ∧ (¬ ((S.1 7) < v1) → post 1 S)))
set_option maxHeartbeats 4000000 in
set_option maxRecDepth 100000 in
theorem c_Mo_isLot (l : Launch) {D : va_G} {h : Nat} {ad : Nat → Nat} {kc : Nat → ClassId} {post : Int → MS → Prop} {v1 : Int} {S : MS} (hw : wp_Mo_isLot post v1 S) : jMi l D h ad kc y_Mo_isLot prog_13_method_38_code 2 (some .boolean) 0 0 S [vi v1] post := by
  refine j_moz (own := "LandBookModel") (by decide) rfl (Nat.le_of_ble_eq_true rfl) (fun X F K hret => ?_)
  unfold wp_Mo_isLot at hw
  show jat l D X 2 0 [(0, .ref h), (1, vi v1)] [] (mw h ad kc S) 0 0
  refine j_iload_n F 1 d_Mo_isLot_0 rfl ?_
  refine j_iconst F d_Mo_isLot_1 ?_
  obtain ⟨hc1, hwt, hwf⟩ := hw
  refine j_icmp_lt F 17 hc1 ⟨by decide, by decide⟩ d_Mo_isLot_2 rfl (fun hh => ?_) (fun hh => ?_)
  · have hw := hwt hh
    refine j_iconst F d_Mo_isLot_17 ?_
    exact hret _ _ _ _ hw (Or.inl rfl) d_Mo_isLot_18
  · have hw := hwf hh
    refine j_iload_n F 1 d_Mo_isLot_5 rfl ?_
    refine j_aload_n F 0 d_Mo_isLot_6 rfl ?_
    refine m_geti F K 7 (by decide) rfl tj_157 rfl d_Mo_isLot_7 ?_
    obtain ⟨hc1, hc2, hwt, hwf⟩ := hw
    refine j_icmp_gt F 17 hc1 hc2 d_Mo_isLot_10 rfl (fun hh => ?_) (fun hh => ?_)
    · have hw := hwt hh
      refine j_iconst F d_Mo_isLot_17 ?_
      exact hret _ _ _ _ hw (Or.inl rfl) d_Mo_isLot_18
    · have hw := hwf hh
      refine j_iconst F d_Mo_isLot_13 ?_
      refine j_goto F 18 d_Mo_isLot_14 rfl ?_
      exact hret _ _ _ _ hw (Or.inr rfl) d_Mo_isLot_18
