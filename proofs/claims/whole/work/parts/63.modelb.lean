abbrev y_Mo_cornerY : MethodName := ⟨"LandBookModel", "cornerY", "(II)I"⟩
theorem q_Mo_cornerY : y_Mo_cornerY.cls = "LandBookModel" ∧ y_Mo_cornerY.cls ≠ "java/lang/invoke/MethodHandle" ∧ y_Mo_cornerY.cls ≠ "java/lang/invoke/VarHandle" ∧ (parseMethodDescriptor y_Mo_cornerY.desc).map (fun d => d.parameters.length) = some 2 := by decide +kernel
theorem d_Mo_cornerY_0 : decode prog_13_method_21_code 0 = .ok (.aload_n 0, 1) := by decide +kernel
theorem d_Mo_cornerY_1 : decode prog_13_method_21_code 1 = .ok (.getfield 19, 3) := by decide +kernel
theorem d_Mo_cornerY_4 : decode prog_13_method_21_code 4 = .ok (.bipush 60, 2) := by decide +kernel
theorem d_Mo_cornerY_6 : decode prog_13_method_21_code 6 = .ok (.iload_n 1, 1) := by decide +kernel
theorem d_Mo_cornerY_7 : decode prog_13_method_21_code 7 = .ok (.imul, 1) := by decide +kernel
theorem d_Mo_cornerY_8 : decode prog_13_method_21_code 8 = .ok (.iload_n 2, 1) := by decide +kernel
theorem d_Mo_cornerY_9 : decode prog_13_method_21_code 9 = .ok (.aload_n 0, 1) := by decide +kernel
theorem d_Mo_cornerY_10 : decode prog_13_method_21_code 10 = .ok (.getfield 22, 3) := by decide +kernel
theorem d_Mo_cornerY_13 : decode prog_13_method_21_code 13 = .ok (.iload_n 1, 1) := by decide +kernel
theorem d_Mo_cornerY_14 : decode prog_13_method_21_code 14 = .ok (.iaload, 1) := by decide +kernel
theorem d_Mo_cornerY_15 : decode prog_13_method_21_code 15 = .ok (.irem, 1) := by decide +kernel
theorem d_Mo_cornerY_16 : decode prog_13_method_21_code 16 = .ok (.iadd, 1) := by decide +kernel
theorem d_Mo_cornerY_17 : decode prog_13_method_21_code 17 = .ok (.iaload, 1) := by decide +kernel
theorem d_Mo_cornerY_18 : decode prog_13_method_21_code 18 = .ok (.ireturn, 1) := by decide +kernel
def wp_Mo_cornerY (post : Int → MS → Prop) (v1 : Int) (v2 : Int) (S : MS) : Prop := ixR v1 302 ∧ (dvR v2 (S.2 10 v1.toNat) ∧ (ixR ((60 * v1) + (v2 % (S.2 10 v1.toNat))) 18120 ∧ (post (S.2 9 ((60 * v1) + (v2 % (S.2 10 v1.toNat))).toNat) S)))
set_option maxHeartbeats 4000000 in
set_option maxRecDepth 100000 in
theorem c_Mo_cornerY (l : Launch) {D : va_G} {h : Nat} {ad : Nat → Nat} {kc : Nat → ClassId} {post : Int → MS → Prop} {v1 : Int} {v2 : Int} {S : MS} (hw : wp_Mo_cornerY post v1 v2 S) : jMi l D h ad kc y_Mo_cornerY prog_13_method_21_code 3 (some .int) 0 0 S [vi v1, vi v2] post := by
  refine j_moi (own := "LandBookModel") (by decide) rfl (Nat.le_of_ble_eq_true rfl) (fun X F K hret => ?_)
  unfold wp_Mo_cornerY at hw
  show jat l D X 3 0 [(0, .ref h), (1, vi v1), (2, vi v2)] [] (mw h ad kc S) 0 0
  refine j_aload_n F 0 d_Mo_cornerY_0 rfl ?_
  refine m_geta F K 9 (by decide) (by decide) tj_133 rfl d_Mo_cornerY_1 ?_
  refine j_bipush F d_Mo_cornerY_4 (j_bip (by decide) (by decide)) ?_
  refine j_iload_n F 1 d_Mo_cornerY_6 rfl ?_
  refine j_imul F d_Mo_cornerY_7 ?_
  refine j_iload_n F 2 d_Mo_cornerY_8 rfl ?_
  refine j_aload_n F 0 d_Mo_cornerY_9 rfl ?_
  refine m_geta F K 10 (by decide) (by decide) tj_131 rfl d_Mo_cornerY_10 ?_
  refine j_iload_n F 1 d_Mo_cornerY_13 rfl ?_
  obtain ⟨hc1, hw⟩ := hw
  refine m_iald F K 10 4 rfl rfl hc1 d_Mo_cornerY_14 ?_
  obtain ⟨hc1, hw⟩ := hw
  refine j_irem F hc1 d_Mo_cornerY_15 ?_
  refine j_iadd F d_Mo_cornerY_16 ?_
  obtain ⟨hc1, hw⟩ := hw
  refine m_iald F K 9 3 rfl rfl hc1 d_Mo_cornerY_17 ?_
  exact hret _ _ _ _ hw d_Mo_cornerY_18
theorem tj_134 : (Jvm.Cond.methodLink "LandBookModel" (143 : Nat) ({ cls := "LandBookModel", name := "cornerX", desc := "(II)I" } : Jvm.MethodName)) ∈ tw_G := tw_in (List.mem_of_getElem? (i := 1285) (by decide +kernel)) rfl
theorem tj_135 : (Jvm.Cond.instanceMethod ({ cls := "LandBookModel", name := "cornerX", desc := "(II)I" } : Jvm.MethodName)) ∈ tw_G := tw_in (List.mem_of_getElem? (i := 1287) (by decide +kernel)) rfl
theorem tj_136 : (Jvm.Cond.selects "LandBookModel" ⟨"LandBookModel", "cornerX", "(II)I"⟩ ⟨"LandBookModel", "cornerX", "(II)I"⟩) ∈ tw_G := tw_in (List.mem_of_getElem? (i := 38) (by decide +kernel)) rfl
theorem tj_137 : (Jvm.Cond.code ({ cls := "LandBookModel", name := "cornerX", desc := "(II)I" } : Jvm.MethodName) prog_13_method_20_code (3 : Nat) (Option.some Jvm.ClassFile.FieldType.int)) ∈ tw_G := tw_in (List.mem_of_getElem? (i := 1288) (by decide +kernel)) rfl
theorem tj_138 : (Jvm.Cond.methodLink "LandBookModel" (147 : Nat) ({ cls := "LandBookModel", name := "cornerY", desc := "(II)I" } : Jvm.MethodName)) ∈ tw_G := tw_in (List.mem_of_getElem? (i := 1289) (by decide +kernel)) rfl
theorem tj_139 : (Jvm.Cond.instanceMethod ({ cls := "LandBookModel", name := "cornerY", desc := "(II)I" } : Jvm.MethodName)) ∈ tw_G := tw_in (List.mem_of_getElem? (i := 1291) (by decide +kernel)) rfl
theorem tj_140 : (Jvm.Cond.selects "LandBookModel" ⟨"LandBookModel", "cornerY", "(II)I"⟩ ⟨"LandBookModel", "cornerY", "(II)I"⟩) ∈ tw_G := tw_in (List.mem_of_getElem? (i := 39) (by decide +kernel)) rfl
theorem tj_141 : (Jvm.Cond.code ({ cls := "LandBookModel", name := "cornerY", desc := "(II)I" } : Jvm.MethodName) prog_13_method_21_code (3 : Nat) (Option.some Jvm.ClassFile.FieldType.int)) ∈ tw_G := tw_in (List.mem_of_getElem? (i := 1292) (by decide +kernel)) rfl
abbrev y_Mo_sideOf : MethodName := ⟨"LandBookModel", "sideOf", "(III)I"⟩
theorem q_Mo_sideOf : y_Mo_sideOf.cls = "LandBookModel" ∧ y_Mo_sideOf.cls ≠ "java/lang/invoke/MethodHandle" ∧ y_Mo_sideOf.cls ≠ "java/lang/invoke/VarHandle" ∧ (parseMethodDescriptor y_Mo_sideOf.desc).map (fun d => d.parameters.length) = some 3 := by decide +kernel
theorem d_Mo_sideOf_0 : decode prog_13_method_22_code 0 = .ok (.iconst (-1), 1) := by decide +kernel
theorem d_Mo_sideOf_1 : decode prog_13_method_22_code 1 = .ok (.istore 4, 2) := by decide +kernel
theorem d_Mo_sideOf_3 : decode prog_13_method_22_code 3 = .ok (.iconst 0, 1) := by decide +kernel
theorem d_Mo_sideOf_4 : decode prog_13_method_22_code 4 = .ok (.istore 5, 2) := by decide +kernel
theorem d_Mo_sideOf_6 : decode prog_13_method_22_code 6 = .ok (.iload 5, 2) := by decide +kernel
theorem d_Mo_sideOf_8 : decode prog_13_method_22_code 8 = .ok (.aload_n 0, 1) := by decide +kernel
theorem d_Mo_sideOf_9 : decode prog_13_method_22_code 9 = .ok (.getfield 22, 3) := by decide +kernel
theorem d_Mo_sideOf_12 : decode prog_13_method_22_code 12 = .ok (.iload_n 1, 1) := by decide +kernel
theorem d_Mo_sideOf_13 : decode prog_13_method_22_code 13 = .ok (.iaload, 1) := by decide +kernel
theorem d_Mo_sideOf_14 : decode prog_13_method_22_code 14 = .ok (.if_icmp .ge 100, 3) := by decide +kernel
theorem d_Mo_sideOf_114 : decode prog_13_method_22_code 114 = .ok (.iload 4, 2) := by decide +kernel
theorem d_Mo_sideOf_116 : decode prog_13_method_22_code 116 = .ok (.ireturn, 1) := by decide +kernel
theorem d_Mo_sideOf_17 : decode prog_13_method_22_code 17 = .ok (.aload_n 0, 1) := by decide +kernel
theorem d_Mo_sideOf_18 : decode prog_13_method_22_code 18 = .ok (.iload_n 1, 1) := by decide +kernel
theorem d_Mo_sideOf_19 : decode prog_13_method_22_code 19 = .ok (.iload 5, 2) := by decide +kernel
theorem d_Mo_sideOf_21 : decode prog_13_method_22_code 21 = .ok (.iconst 1, 1) := by decide +kernel
theorem d_Mo_sideOf_22 : decode prog_13_method_22_code 22 = .ok (.iadd, 1) := by decide +kernel
theorem d_Mo_sideOf_23 : decode prog_13_method_22_code 23 = .ok (.invokevirtual 143, 3) := by decide +kernel
theorem d_Mo_sideOf_26 : decode prog_13_method_22_code 26 = .ok (.iload_n 2, 1) := by decide +kernel
theorem d_Mo_sideOf_27 : decode prog_13_method_22_code 27 = .ok (.if_icmp .ne 20, 3) := by decide +kernel
theorem d_Mo_sideOf_47 : decode prog_13_method_22_code 47 = .ok (.iconst 0, 1) := by decide +kernel
theorem d_Mo_sideOf_30 : decode prog_13_method_22_code 30 = .ok (.aload_n 0, 1) := by decide +kernel
theorem d_Mo_sideOf_31 : decode prog_13_method_22_code 31 = .ok (.iload_n 1, 1) := by decide +kernel
theorem d_Mo_sideOf_32 : decode prog_13_method_22_code 32 = .ok (.iload 5, 2) := by decide +kernel
theorem d_Mo_sideOf_34 : decode prog_13_method_22_code 34 = .ok (.iconst 1, 1) := by decide +kernel
theorem d_Mo_sideOf_35 : decode prog_13_method_22_code 35 = .ok (.iadd, 1) := by decide +kernel
theorem d_Mo_sideOf_36 : decode prog_13_method_22_code 36 = .ok (.invokevirtual 147, 3) := by decide +kernel
theorem d_Mo_sideOf_39 : decode prog_13_method_22_code 39 = .ok (.iload_n 3, 1) := by decide +kernel
theorem d_Mo_sideOf_40 : decode prog_13_method_22_code 40 = .ok (.if_icmp .ne 7, 3) := by decide +kernel
theorem d_Mo_sideOf_43 : decode prog_13_method_22_code 43 = .ok (.iconst 1, 1) := by decide +kernel
theorem d_Mo_sideOf_44 : decode prog_13_method_22_code 44 = .ok (.goto 4, 3) := by decide +kernel
theorem d_Mo_sideOf_48 : decode prog_13_method_22_code 48 = .ok (.istore 6, 2) := by decide +kernel
theorem d_Mo_sideOf_50 : decode prog_13_method_22_code 50 = .ok (.aload_n 0, 1) := by decide +kernel
theorem d_Mo_sideOf_51 : decode prog_13_method_22_code 51 = .ok (.iload_n 1, 1) := by decide +kernel
theorem d_Mo_sideOf_52 : decode prog_13_method_22_code 52 = .ok (.iload 5, 2) := by decide +kernel
theorem d_Mo_sideOf_54 : decode prog_13_method_22_code 54 = .ok (.invokevirtual 143, 3) := by decide +kernel
theorem d_Mo_sideOf_57 : decode prog_13_method_22_code 57 = .ok (.aload_n 0, 1) := by decide +kernel
theorem d_Mo_sideOf_58 : decode prog_13_method_22_code 58 = .ok (.iload_n 1, 1) := by decide +kernel
theorem d_Mo_sideOf_59 : decode prog_13_method_22_code 59 = .ok (.iload 5, 2) := by decide +kernel
theorem d_Mo_sideOf_61 : decode prog_13_method_22_code 61 = .ok (.invokevirtual 147, 3) := by decide +kernel
theorem d_Mo_sideOf_64 : decode prog_13_method_22_code 64 = .ok (.aload_n 0, 1) := by decide +kernel
theorem d_Mo_sideOf_65 : decode prog_13_method_22_code 65 = .ok (.iload_n 1, 1) := by decide +kernel
theorem d_Mo_sideOf_66 : decode prog_13_method_22_code 66 = .ok (.iload 5, 2) := by decide +kernel
theorem d_Mo_sideOf_68 : decode prog_13_method_22_code 68 = .ok (.iconst 1, 1) := by decide +kernel
theorem d_Mo_sideOf_69 : decode prog_13_method_22_code 69 = .ok (.iadd, 1) := by decide +kernel
theorem d_Mo_sideOf_70 : decode prog_13_method_22_code 70 = .ok (.invokevirtual 143, 3) := by decide +kernel
theorem d_Mo_sideOf_73 : decode prog_13_method_22_code 73 = .ok (.aload_n 0, 1) := by decide +kernel
theorem d_Mo_sideOf_74 : decode prog_13_method_22_code 74 = .ok (.iload_n 1, 1) := by decide +kernel
theorem d_Mo_sideOf_75 : decode prog_13_method_22_code 75 = .ok (.iload 5, 2) := by decide +kernel
theorem d_Mo_sideOf_77 : decode prog_13_method_22_code 77 = .ok (.iconst 1, 1) := by decide +kernel
theorem d_Mo_sideOf_78 : decode prog_13_method_22_code 78 = .ok (.iadd, 1) := by decide +kernel
theorem d_Mo_sideOf_79 : decode prog_13_method_22_code 79 = .ok (.invokevirtual 147, 3) := by decide +kernel
theorem d_Mo_sideOf_82 : decode prog_13_method_22_code 82 = .ok (.iload_n 2, 1) := by decide +kernel
theorem d_Mo_sideOf_83 : decode prog_13_method_22_code 83 = .ok (.iload_n 3, 1) := by decide +kernel
theorem d_Mo_sideOf_84 : decode prog_13_method_22_code 84 = .ok (.invokestatic 121, 3) := by decide +kernel
theorem d_Mo_sideOf_87 : decode prog_13_method_22_code 87 = .ok (.istore 7, 2) := by decide +kernel
theorem d_Mo_sideOf_89 : decode prog_13_method_22_code 89 = .ok (.iload 7, 2) := by decide +kernel
theorem d_Mo_sideOf_91 : decode prog_13_method_22_code 91 = .ok (.ifCond .eq 13, 3) := by decide +kernel
theorem d_Mo_sideOf_104 : decode prog_13_method_22_code 104 = .ok (.iload 4, 2) := by decide +kernel
theorem d_Mo_sideOf_94 : decode prog_13_method_22_code 94 = .ok (.iload 6, 2) := by decide +kernel
theorem d_Mo_sideOf_96 : decode prog_13_method_22_code 96 = .ok (.ifCond .ne 8, 3) := by decide +kernel
theorem d_Mo_sideOf_99 : decode prog_13_method_22_code 99 = .ok (.iload 5, 2) := by decide +kernel
theorem d_Mo_sideOf_101 : decode prog_13_method_22_code 101 = .ok (.goto 5, 3) := by decide +kernel
theorem d_Mo_sideOf_106 : decode prog_13_method_22_code 106 = .ok (.istore 4, 2) := by decide +kernel
theorem d_Mo_sideOf_108 : decode prog_13_method_22_code 108 = .ok (.iinc 5 1, 3) := by decide +kernel
theorem d_Mo_sideOf_111 : decode prog_13_method_22_code 111 = .ok (.goto (-105), 3) := by decide +kernel
def wp_Mo_sideOf_106 (post : Int → MS → Prop) (k6 : Int → Int → Int → Int → Int → MS → Prop) (v1 : Int) (v2 : Int) (v3 : Int) (v5 : Int) (s0 : Int) (S : MS) : Prop := k6 v1 v2 v3 s0 (v5 + 1) S
def wp_Mo_sideOf_48 (post : Int → MS → Prop) (k6 : Int → Int → Int → Int → Int → MS → Prop) (v1 : Int) (v2 : Int) (v3 : Int) (v4 : Int) (v5 : Int) (s0 : Int) (S : MS) : Prop := wp_Mo_cornerX (fun r_2 S_1 => wp_Mo_cornerY (fun r_4 S_3 => wp_Mo_cornerX (fun r_6 S_5 => wp_Mo_cornerY (fun r_8 S_7 => wp_Mo_isOn (fun r_9 => inR r_9 ∧ (r_9 = 0 → wp_Mo_sideOf_106 post k6 v1 v2 v3 v5 v4 S_7) ∧ (¬ (r_9 = 0) → (inR s0 ∧ (¬ (s0 = 0) → wp_Mo_sideOf_106 post k6 v1 v2 v3 v5 v4 S_7) ∧ (s0 = 0 → wp_Mo_sideOf_106 post k6 v1 v2 v3 v5 v5 S_7)))) r_2 r_4 r_6 r_8 v2 v3) v1 (v5 + 1) S_5) v1 (v5 + 1) S_3) v1 v5 S_1) v1 v5 S
def wp_Mo_sideOf_6 (post : Int → MS → Prop) : Nat → Int → Int → Int → Int → Int → MS → Prop
  | 0, _, _, _, _, _, _ => False
  | n + 1, v1, v2, v3, v4, v5, S => ixR v1 302 ∧ (inR v5 ∧ inR (S.2 10 v1.toNat) ∧ ((S.2 10 v1.toNat) ≤ v5 → post v4 S) ∧ (¬ ((S.2 10 v1.toNat) ≤ v5) → (wp_Mo_cornerX (fun r_2 S_1 => inR r_2 ∧ inR v2 ∧ (¬ (r_2 = v2) → wp_Mo_sideOf_48 post (wp_Mo_sideOf_6 post n) v1 v2 v3 v4 v5 0 S_1) ∧ (r_2 = v2 → (wp_Mo_cornerY (fun r_4 S_3 => inR r_4 ∧ inR v3 ∧ (¬ (r_4 = v3) → wp_Mo_sideOf_48 post (wp_Mo_sideOf_6 post n) v1 v2 v3 v4 v5 0 S_3) ∧ (r_4 = v3 → wp_Mo_sideOf_48 post (wp_Mo_sideOf_6 post n) v1 v2 v3 v4 v5 1 S_3)) v1 (v5 + 1) S_1))) v1 (v5 + 1) S)))
def wp_Mo_sideOf (post : Int → MS → Prop) (v1 : Int) (v2 : Int) (v3 : Int) (S : MS) : Prop := ∃ n0 : Nat, wp_Mo_sideOf_6 post n0 v1 v2 v3 (-1) 0 S
set_option maxHeartbeats 4000000 in
set_option maxRecDepth 100000 in
theorem c_Mo_sideOf (l : Launch) {D : va_G} {h : Nat} {ad : Nat → Nat} {kc : Nat → ClassId} {post : Int → MS → Prop} {v1 : Int} {v2 : Int} {v3 : Int} {S : MS} (hw : wp_Mo_sideOf post v1 v2 v3 S) : jMi l D h ad kc y_Mo_sideOf prog_13_method_22_code 8 (some .int) 2 50 S [vi v1, vi v2, vi v3] post := by
  refine j_moi (own := "LandBookModel") (by decide) rfl (Nat.le_of_ble_eq_true rfl) (fun X F K hret => ?_)
  have B6 : ∀ (n0 : Nat) (v1 : Int) (v2 : Int) (v3 : Int) (v4 : Int) (v5 : Int) (S : MS), wp_Mo_sideOf_6 post n0 v1 v2 v3 v4 v5 S → jat l D X 8 6 [(0, .ref h), (1, vi v1), (2, vi v2), (3, vi v3), (4, vi v4), (5, vi v5)] [] (mw h ad kc S) 0 0 := by
    intro n0
    induction n0 with
    | zero => intro v1 v2 v3 v4 v5 S hw; exact hw.elim
    | succ n6 ih6 =>
      have B106 : ∀ (v1 : Int) (v2 : Int) (v3 : Int) (v5 : Int) (s0 : Int) (S : MS), wp_Mo_sideOf_106 post (wp_Mo_sideOf_6 post n6) v1 v2 v3 v5 s0 S → jat l D X 8 106 [(0, .ref h), (1, vi v1), (2, vi v2), (3, vi v3), (5, vi v5)] [vi s0] (mw h ad kc S) 0 0 := by
        intro v1 v2 v3 v5 s0 S hw
        unfold wp_Mo_sideOf_106 at hw
        refine j_istore F [(4, vi s0), (0, .ref h), (1, vi v1), (2, vi v2), (3, vi v3), (5, vi v5)] d_Mo_sideOf_106 (by decide) rfl ?_
        refine j_iinc F 5 [(5, vi (v5 + 1)), (4, vi s0), (0, .ref h), (1, vi v1), (2, vi v2), (3, vi v3)] d_Mo_sideOf_108 rfl (by decide) rfl ?_
        refine j_goto F 6 d_Mo_sideOf_111 rfl ?_
        refine j_sub [2, 3, 4, 5, 1, 0] rfl ?_
        exact ih6 _ _ _ _ _ _ hw
      have B48 : ∀ (v1 : Int) (v2 : Int) (v3 : Int) (v4 : Int) (v5 : Int) (s0 : Int) (S : MS), wp_Mo_sideOf_48 post (wp_Mo_sideOf_6 post n6) v1 v2 v3 v4 v5 s0 S → jat l D X 8 48 [(0, .ref h), (1, vi v1), (2, vi v2), (3, vi v3), (4, vi v4), (5, vi v5)] [vi s0] (mw h ad kc S) 0 0 := by
        intro v1 v2 v3 v4 v5 s0 S hw
        unfold wp_Mo_sideOf_48 at hw
        refine j_istore F [(6, vi s0), (0, .ref h), (1, vi v1), (2, vi v2), (3, vi v3), (4, vi v4), (5, vi v5)] d_Mo_sideOf_48 (by decide) rfl ?_
        refine j_aload_n F 1 d_Mo_sideOf_50 rfl ?_
        refine j_iload_n F 2 d_Mo_sideOf_51 rfl ?_
        refine j_iload F 6 d_Mo_sideOf_52 rfl ?_
        refine m_calli F K (c_Mo_cornerX l hw) (tw_gV tj_134 tj_135 tj_136 tj_87 tj_137) q_Mo_cornerX rfl ⟨by decide, by decide⟩ ⟨Nat.zero_le _, Nat.zero_le _⟩ rfl (Nat.le_of_ble_eq_true rfl) d_Mo_sideOf_54 (fun r_2 S_1 hw => ?_)
        refine j_aload_n F 1 d_Mo_sideOf_57 rfl ?_
        refine j_iload_n F 2 d_Mo_sideOf_58 rfl ?_
        refine j_iload F 6 d_Mo_sideOf_59 rfl ?_
        refine m_calli F K (c_Mo_cornerY l hw) (tw_gV tj_138 tj_139 tj_140 tj_87 tj_141) q_Mo_cornerY rfl ⟨by decide, by decide⟩ ⟨Nat.zero_le _, Nat.zero_le _⟩ rfl (Nat.le_of_ble_eq_true rfl) d_Mo_sideOf_61 (fun r_4 S_3 hw => ?_)
        refine j_aload_n F 1 d_Mo_sideOf_64 rfl ?_
        refine j_iload_n F 2 d_Mo_sideOf_65 rfl ?_
        refine j_iload F 6 d_Mo_sideOf_66 rfl ?_
        refine j_iconst F d_Mo_sideOf_68 ?_
        refine j_iadd F d_Mo_sideOf_69 ?_
        refine m_calli F K (c_Mo_cornerX l hw) (tw_gV tj_134 tj_135 tj_136 tj_87 tj_137) q_Mo_cornerX rfl ⟨by decide, by decide⟩ ⟨Nat.zero_le _, Nat.zero_le _⟩ rfl (Nat.le_of_ble_eq_true rfl) d_Mo_sideOf_70 (fun r_6 S_5 hw => ?_)
        refine j_aload_n F 1 d_Mo_sideOf_73 rfl ?_
        refine j_iload_n F 2 d_Mo_sideOf_74 rfl ?_
        refine j_iload F 6 d_Mo_sideOf_75 rfl ?_
        refine j_iconst F d_Mo_sideOf_77 ?_
        refine j_iadd F d_Mo_sideOf_78 ?_
        refine m_calli F K (c_Mo_cornerY l hw) (tw_gV tj_138 tj_139 tj_140 tj_87 tj_141) q_Mo_cornerY rfl ⟨by decide, by decide⟩ ⟨Nat.zero_le _, Nat.zero_le _⟩ rfl (Nat.le_of_ble_eq_true rfl) d_Mo_sideOf_79 (fun r_8 S_7 hw => ?_)
        refine j_iload_n F 3 d_Mo_sideOf_82 rfl ?_
        refine j_iload_n F 4 d_Mo_sideOf_83 rfl ?_
        refine j_callS F (c_Mo_isOn l hw) (tw_gS tj_95 tj_96 tj_87 tj_97) q_Mo_isOn rfl ⟨by decide, by decide⟩ ⟨Nat.zero_le _, Nat.zero_le _⟩ rfl (Nat.le_of_ble_eq_true rfl) d_Mo_sideOf_84 (fun r_9 hw => ?_)
        refine j_istore F [(7, vi r_9), (6, vi s0), (0, .ref h), (1, vi v1), (2, vi v2), (3, vi v3), (4, vi v4), (5, vi v5)] d_Mo_sideOf_87 (by decide) rfl ?_
        refine j_iload F 0 d_Mo_sideOf_89 rfl ?_
        obtain ⟨hc1, hwt, hwf⟩ := hw
        refine j_if_eq F 104 hc1 d_Mo_sideOf_91 rfl (fun hh => ?_) (fun hh => ?_)
        · have hw := hwt hh
          refine j_iload F 6 d_Mo_sideOf_104 rfl ?_
          refine j_sub [2, 3, 4, 5, 7] rfl ?_
          exact B106 _ _ _ _ _ _ hw
        · have hw := hwf hh
          refine j_iload F 1 d_Mo_sideOf_94 rfl ?_
          obtain ⟨hc1, hwt, hwf⟩ := hw
          refine j_if_ne F 104 hc1 d_Mo_sideOf_96 rfl (fun hh => ?_) (fun hh => ?_)
          · have hw := hwt hh
            refine j_iload F 6 d_Mo_sideOf_104 rfl ?_
            refine j_sub [2, 3, 4, 5, 7] rfl ?_
            exact B106 _ _ _ _ _ _ hw
          · have hw := hwf hh
            refine j_iload F 7 d_Mo_sideOf_99 rfl ?_
            refine j_goto F 106 d_Mo_sideOf_101 rfl ?_
            refine j_sub [2, 3, 4, 5, 7] rfl ?_
            exact B106 _ _ _ _ _ _ hw
      intro v1 v2 v3 v4 v5 S hw
      unfold wp_Mo_sideOf_6 at hw
      refine j_iload F 5 d_Mo_sideOf_6 rfl ?_
      refine j_aload_n F 0 d_Mo_sideOf_8 rfl ?_
      refine m_geta F K 10 (by decide) (by decide) tj_131 rfl d_Mo_sideOf_9 ?_
      refine j_iload_n F 1 d_Mo_sideOf_12 rfl ?_
      obtain ⟨hc1, hw⟩ := hw
      refine m_iald F K 10 4 rfl rfl hc1 d_Mo_sideOf_13 ?_
      obtain ⟨hc1, hc2, hwt, hwf⟩ := hw
      refine j_icmp_ge F 114 hc1 hc2 d_Mo_sideOf_14 rfl (fun hh => ?_) (fun hh => ?_)
      · have hw := hwt hh
        refine j_iload F 4 d_Mo_sideOf_114 rfl ?_
        exact hret _ _ _ _ hw d_Mo_sideOf_116
      · have hw := hwf hh
        refine j_aload_n F 0 d_Mo_sideOf_17 rfl ?_
        refine j_iload_n F 1 d_Mo_sideOf_18 rfl ?_
        refine j_iload F 5 d_Mo_sideOf_19 rfl ?_
        refine j_iconst F d_Mo_sideOf_21 ?_
        refine j_iadd F d_Mo_sideOf_22 ?_
        refine m_calli F K (c_Mo_cornerX l hw) (tw_gV tj_134 tj_135 tj_136 tj_87 tj_137) q_Mo_cornerX rfl ⟨by decide, by decide⟩ ⟨Nat.zero_le _, Nat.zero_le _⟩ rfl (Nat.le_of_ble_eq_true rfl) d_Mo_sideOf_23 (fun r_2 S_1 hw => ?_)
        refine j_iload_n F 2 d_Mo_sideOf_26 rfl ?_
        obtain ⟨hc1, hc2, hwt, hwf⟩ := hw
        refine j_icmp_ne F 47 hc1 hc2 d_Mo_sideOf_27 rfl (fun hh => ?_) (fun hh => ?_)
        · have hw := hwt hh
          refine j_iconst F d_Mo_sideOf_47 ?_
          exact B48 _ _ _ _ _ _ _ hw
        · have hw := hwf hh
          refine j_aload_n F 0 d_Mo_sideOf_30 rfl ?_
          refine j_iload_n F 1 d_Mo_sideOf_31 rfl ?_
          refine j_iload F 5 d_Mo_sideOf_32 rfl ?_
          refine j_iconst F d_Mo_sideOf_34 ?_
          refine j_iadd F d_Mo_sideOf_35 ?_
          refine m_calli F K (c_Mo_cornerY l hw) (tw_gV tj_138 tj_139 tj_140 tj_87 tj_141) q_Mo_cornerY rfl ⟨by decide, by decide⟩ ⟨Nat.zero_le _, Nat.zero_le _⟩ rfl (Nat.le_of_ble_eq_true rfl) d_Mo_sideOf_36 (fun r_4 S_3 hw => ?_)
          refine j_iload_n F 3 d_Mo_sideOf_39 rfl ?_
          obtain ⟨hc1, hc2, hwt, hwf⟩ := hw
          refine j_icmp_ne F 47 hc1 hc2 d_Mo_sideOf_40 rfl (fun hh => ?_) (fun hh => ?_)
          · have hw := hwt hh
            refine j_iconst F d_Mo_sideOf_47 ?_
            exact B48 _ _ _ _ _ _ _ hw
          · have hw := hwf hh
            refine j_iconst F d_Mo_sideOf_43 ?_
            refine j_goto F 48 d_Mo_sideOf_44 rfl ?_
            exact B48 _ _ _ _ _ _ _ hw
  unfold wp_Mo_sideOf at hw
  show jat l D X 8 0 [(0, .ref h), (1, vi v1), (2, vi v2), (3, vi v3)] [] (mw h ad kc S) 0 0
  refine j_iconst F d_Mo_sideOf_0 ?_
  refine j_istore F [(4, vi (-1)), (0, .ref h), (1, vi v1), (2, vi v2), (3, vi v3)] d_Mo_sideOf_1 (by decide) rfl ?_
  refine j_iconst F d_Mo_sideOf_3 ?_
  refine j_istore F [(5, vi 0), (4, vi (-1)), (0, .ref h), (1, vi v1), (2, vi v2), (3, vi v3)] d_Mo_sideOf_4 (by decide) rfl ?_
  refine j_sub [2, 3, 4, 5, 1, 0] rfl ?_
  obtain ⟨n0, hw⟩ := hw
  exact B6 n0 _ _ _ _ _ _ hw
theorem tj_142 : (Jvm.Cond.constantLong "LandBookModel" (150 : Nat) (2 : Int64)) ∈ tw_G := tw_in (List.mem_of_getElem? (i := 1297) (by decide +kernel)) rfl
abbrev y_Mo_isWithin : MethodName := ⟨"LandBookModel", "isWithin", "(III)Z"⟩
theorem q_Mo_isWithin : y_Mo_isWithin.cls = "LandBookModel" ∧ y_Mo_isWithin.cls ≠ "java/lang/invoke/MethodHandle" ∧ y_Mo_isWithin.cls ≠ "java/lang/invoke/VarHandle" ∧ (parseMethodDescriptor y_Mo_isWithin.desc).map (fun d => d.parameters.length) = some 3 := by decide +kernel
theorem d_Mo_isWithin_0 : decode prog_13_method_23_code 0 = .ok (.iconst 0, 1) := by decide +kernel
theorem d_Mo_isWithin_1 : decode prog_13_method_23_code 1 = .ok (.istore 4, 2) := by decide +kernel
theorem d_Mo_isWithin_3 : decode prog_13_method_23_code 3 = .ok (.iconst 0, 1) := by decide +kernel
theorem d_Mo_isWithin_4 : decode prog_13_method_23_code 4 = .ok (.istore 5, 2) := by decide +kernel
theorem d_Mo_isWithin_6 : decode prog_13_method_23_code 6 = .ok (.iconst 0, 1) := by decide +kernel
theorem d_Mo_isWithin_7 : decode prog_13_method_23_code 7 = .ok (.istore 6, 2) := by decide +kernel
theorem d_Mo_isWithin_9 : decode prog_13_method_23_code 9 = .ok (.iload 6, 2) := by decide +kernel
theorem d_Mo_isWithin_11 : decode prog_13_method_23_code 11 = .ok (.aload_n 0, 1) := by decide +kernel
theorem d_Mo_isWithin_12 : decode prog_13_method_23_code 12 = .ok (.getfield 22, 3) := by decide +kernel
theorem d_Mo_isWithin_15 : decode prog_13_method_23_code 15 = .ok (.iload_n 1, 1) := by decide +kernel
theorem d_Mo_isWithin_16 : decode prog_13_method_23_code 16 = .ok (.iaload, 1) := by decide +kernel
theorem d_Mo_isWithin_17 : decode prog_13_method_23_code 17 = .ok (.if_icmp .ge 291, 3) := by decide +kernel
theorem d_Mo_isWithin_308 : decode prog_13_method_23_code 308 = .ok (.iload 4, 2) := by decide +kernel
theorem d_Mo_isWithin_310 : decode prog_13_method_23_code 310 = .ok (.ifCond .eq 12, 3) := by decide +kernel
theorem d_Mo_isWithin_322 : decode prog_13_method_23_code 322 = .ok (.iconst 0, 1) := by decide +kernel
theorem d_Mo_isWithin_323 : decode prog_13_method_23_code 323 = .ok (.ireturn, 1) := by decide +kernel
theorem d_Mo_isWithin_313 : decode prog_13_method_23_code 313 = .ok (.iload 5, 2) := by decide +kernel
theorem d_Mo_isWithin_315 : decode prog_13_method_23_code 315 = .ok (.ifCond .ne 7, 3) := by decide +kernel
theorem d_Mo_isWithin_318 : decode prog_13_method_23_code 318 = .ok (.iconst 1, 1) := by decide +kernel
theorem d_Mo_isWithin_319 : decode prog_13_method_23_code 319 = .ok (.goto 4, 3) := by decide +kernel
theorem d_Mo_isWithin_20 : decode prog_13_method_23_code 20 = .ok (.ldc2_w 150, 3) := by decide +kernel
theorem d_Mo_isWithin_23 : decode prog_13_method_23_code 23 = .ok (.aload_n 0, 1) := by decide +kernel
theorem d_Mo_isWithin_24 : decode prog_13_method_23_code 24 = .ok (.iload_n 1, 1) := by decide +kernel
theorem d_Mo_isWithin_25 : decode prog_13_method_23_code 25 = .ok (.iload 6, 2) := by decide +kernel
theorem d_Mo_isWithin_27 : decode prog_13_method_23_code 27 = .ok (.invokevirtual 143, 3) := by decide +kernel
theorem d_Mo_isWithin_30 : decode prog_13_method_23_code 30 = .ok (.i2l, 1) := by decide +kernel
theorem d_Mo_isWithin_31 : decode prog_13_method_23_code 31 = .ok (.lmul, 1) := by decide +kernel
theorem d_Mo_isWithin_32 : decode prog_13_method_23_code 32 = .ok (.lstore 7, 2) := by decide +kernel
theorem d_Mo_isWithin_34 : decode prog_13_method_23_code 34 = .ok (.ldc2_w 150, 3) := by decide +kernel
theorem d_Mo_isWithin_37 : decode prog_13_method_23_code 37 = .ok (.aload_n 0, 1) := by decide +kernel
theorem d_Mo_isWithin_38 : decode prog_13_method_23_code 38 = .ok (.iload_n 1, 1) := by decide +kernel
theorem d_Mo_isWithin_39 : decode prog_13_method_23_code 39 = .ok (.iload 6, 2) := by decide +kernel
theorem d_Mo_isWithin_41 : decode prog_13_method_23_code 41 = .ok (.invokevirtual 147, 3) := by decide +kernel
theorem d_Mo_isWithin_44 : decode prog_13_method_23_code 44 = .ok (.i2l, 1) := by decide +kernel
theorem d_Mo_isWithin_45 : decode prog_13_method_23_code 45 = .ok (.lmul, 1) := by decide +kernel
theorem d_Mo_isWithin_46 : decode prog_13_method_23_code 46 = .ok (.lstore 9, 2) := by decide +kernel
theorem d_Mo_isWithin_48 : decode prog_13_method_23_code 48 = .ok (.ldc2_w 150, 3) := by decide +kernel
theorem d_Mo_isWithin_51 : decode prog_13_method_23_code 51 = .ok (.aload_n 0, 1) := by decide +kernel
theorem d_Mo_isWithin_52 : decode prog_13_method_23_code 52 = .ok (.iload_n 1, 1) := by decide +kernel
theorem d_Mo_isWithin_53 : decode prog_13_method_23_code 53 = .ok (.iload 6, 2) := by decide +kernel
theorem d_Mo_isWithin_55 : decode prog_13_method_23_code 55 = .ok (.iconst 1, 1) := by decide +kernel
theorem d_Mo_isWithin_56 : decode prog_13_method_23_code 56 = .ok (.iadd, 1) := by decide +kernel
theorem d_Mo_isWithin_57 : decode prog_13_method_23_code 57 = .ok (.invokevirtual 143, 3) := by decide +kernel
theorem d_Mo_isWithin_60 : decode prog_13_method_23_code 60 = .ok (.i2l, 1) := by decide +kernel
theorem d_Mo_isWithin_61 : decode prog_13_method_23_code 61 = .ok (.lmul, 1) := by decide +kernel
theorem d_Mo_isWithin_62 : decode prog_13_method_23_code 62 = .ok (.lstore 11, 2) := by decide +kernel
theorem d_Mo_isWithin_64 : decode prog_13_method_23_code 64 = .ok (.ldc2_w 150, 3) := by decide +kernel
theorem d_Mo_isWithin_67 : decode prog_13_method_23_code 67 = .ok (.aload_n 0, 1) := by decide +kernel
theorem d_Mo_isWithin_68 : decode prog_13_method_23_code 68 = .ok (.iload_n 1, 1) := by decide +kernel
theorem d_Mo_isWithin_69 : decode prog_13_method_23_code 69 = .ok (.iload 6, 2) := by decide +kernel
theorem d_Mo_isWithin_71 : decode prog_13_method_23_code 71 = .ok (.iconst 1, 1) := by decide +kernel
theorem d_Mo_isWithin_72 : decode prog_13_method_23_code 72 = .ok (.iadd, 1) := by decide +kernel
theorem d_Mo_isWithin_73 : decode prog_13_method_23_code 73 = .ok (.invokevirtual 147, 3) := by decide +kernel
theorem d_Mo_isWithin_76 : decode prog_13_method_23_code 76 = .ok (.i2l, 1) := by decide +kernel
theorem d_Mo_isWithin_77 : decode prog_13_method_23_code 77 = .ok (.lmul, 1) := by decide +kernel
theorem d_Mo_isWithin_78 : decode prog_13_method_23_code 78 = .ok (.lstore 13, 2) := by decide +kernel
theorem d_Mo_isWithin_80 : decode prog_13_method_23_code 80 = .ok (.lload 11, 2) := by decide +kernel
theorem d_Mo_isWithin_82 : decode prog_13_method_23_code 82 = .ok (.lload 7, 2) := by decide +kernel
theorem d_Mo_isWithin_84 : decode prog_13_method_23_code 84 = .ok (.lsub, 1) := by decide +kernel
theorem d_Mo_isWithin_85 : decode prog_13_method_23_code 85 = .ok (.iload_n 3, 1) := by decide +kernel
theorem d_Mo_isWithin_86 : decode prog_13_method_23_code 86 = .ok (.i2l, 1) := by decide +kernel
theorem d_Mo_isWithin_87 : decode prog_13_method_23_code 87 = .ok (.lload 9, 2) := by decide +kernel
theorem d_Mo_isWithin_89 : decode prog_13_method_23_code 89 = .ok (.lsub, 1) := by decide +kernel
theorem d_Mo_isWithin_90 : decode prog_13_method_23_code 90 = .ok (.lmul, 1) := by decide +kernel
theorem d_Mo_isWithin_91 : decode prog_13_method_23_code 91 = .ok (.lload 13, 2) := by decide +kernel
theorem d_Mo_isWithin_93 : decode prog_13_method_23_code 93 = .ok (.lload 9, 2) := by decide +kernel
theorem d_Mo_isWithin_95 : decode prog_13_method_23_code 95 = .ok (.lsub, 1) := by decide +kernel
theorem d_Mo_isWithin_96 : decode prog_13_method_23_code 96 = .ok (.iload_n 2, 1) := by decide +kernel
theorem d_Mo_isWithin_97 : decode prog_13_method_23_code 97 = .ok (.i2l, 1) := by decide +kernel
theorem d_Mo_isWithin_98 : decode prog_13_method_23_code 98 = .ok (.lload 7, 2) := by decide +kernel
theorem d_Mo_isWithin_100 : decode prog_13_method_23_code 100 = .ok (.lsub, 1) := by decide +kernel
theorem d_Mo_isWithin_101 : decode prog_13_method_23_code 101 = .ok (.lmul, 1) := by decide +kernel
theorem d_Mo_isWithin_102 : decode prog_13_method_23_code 102 = .ok (.lsub, 1) := by decide +kernel
theorem d_Mo_isWithin_103 : decode prog_13_method_23_code 103 = .ok (.lstore 15, 2) := by decide +kernel
theorem d_Mo_isWithin_105 : decode prog_13_method_23_code 105 = .ok (.lload 7, 2) := by decide +kernel
theorem d_Mo_isWithin_107 : decode prog_13_method_23_code 107 = .ok (.lload 11, 2) := by decide +kernel
theorem d_Mo_isWithin_109 : decode prog_13_method_23_code 109 = .ok (.lcmp, 1) := by decide +kernel
theorem d_Mo_isWithin_110 : decode prog_13_method_23_code 110 = .ok (.ifCond .gt 27, 3) := by decide +kernel
theorem d_Mo_isWithin_137 : decode prog_13_method_23_code 137 = .ok (.lload 11, 2) := by decide +kernel
theorem d_Mo_isWithin_139 : decode prog_13_method_23_code 139 = .ok (.iload_n 2, 1) := by decide +kernel
theorem d_Mo_isWithin_140 : decode prog_13_method_23_code 140 = .ok (.i2l, 1) := by decide +kernel
theorem d_Mo_isWithin_141 : decode prog_13_method_23_code 141 = .ok (.lcmp, 1) := by decide +kernel
theorem d_Mo_isWithin_142 : decode prog_13_method_23_code 142 = .ok (.ifCond .gt 15, 3) := by decide +kernel
theorem d_Mo_isWithin_157 : decode prog_13_method_23_code 157 = .ok (.iconst 0, 1) := by decide +kernel
theorem d_Mo_isWithin_145 : decode prog_13_method_23_code 145 = .ok (.iload_n 2, 1) := by decide +kernel
theorem d_Mo_isWithin_146 : decode prog_13_method_23_code 146 = .ok (.i2l, 1) := by decide +kernel
theorem d_Mo_isWithin_147 : decode prog_13_method_23_code 147 = .ok (.lload 7, 2) := by decide +kernel
theorem d_Mo_isWithin_149 : decode prog_13_method_23_code 149 = .ok (.lcmp, 1) := by decide +kernel
theorem d_Mo_isWithin_150 : decode prog_13_method_23_code 150 = .ok (.ifCond .gt 7, 3) := by decide +kernel
theorem d_Mo_isWithin_153 : decode prog_13_method_23_code 153 = .ok (.iconst 1, 1) := by decide +kernel
theorem d_Mo_isWithin_154 : decode prog_13_method_23_code 154 = .ok (.goto 4, 3) := by decide +kernel
theorem d_Mo_isWithin_113 : decode prog_13_method_23_code 113 = .ok (.lload 7, 2) := by decide +kernel
theorem d_Mo_isWithin_115 : decode prog_13_method_23_code 115 = .ok (.iload_n 2, 1) := by decide +kernel
theorem d_Mo_isWithin_116 : decode prog_13_method_23_code 116 = .ok (.i2l, 1) := by decide +kernel
theorem d_Mo_isWithin_117 : decode prog_13_method_23_code 117 = .ok (.lcmp, 1) := by decide +kernel
theorem d_Mo_isWithin_118 : decode prog_13_method_23_code 118 = .ok (.ifCond .gt 15, 3) := by decide +kernel
theorem d_Mo_isWithin_133 : decode prog_13_method_23_code 133 = .ok (.iconst 0, 1) := by decide +kernel
theorem d_Mo_isWithin_134 : decode prog_13_method_23_code 134 = .ok (.goto 24, 3) := by decide +kernel
theorem d_Mo_isWithin_121 : decode prog_13_method_23_code 121 = .ok (.iload_n 2, 1) := by decide +kernel
theorem d_Mo_isWithin_122 : decode prog_13_method_23_code 122 = .ok (.i2l, 1) := by decide +kernel
theorem d_Mo_isWithin_123 : decode prog_13_method_23_code 123 = .ok (.lload 11, 2) := by decide +kernel
theorem d_Mo_isWithin_125 : decode prog_13_method_23_code 125 = .ok (.lcmp, 1) := by decide +kernel
theorem d_Mo_isWithin_126 : decode prog_13_method_23_code 126 = .ok (.ifCond .gt 7, 3) := by decide +kernel
theorem d_Mo_isWithin_129 : decode prog_13_method_23_code 129 = .ok (.iconst 1, 1) := by decide +kernel
theorem d_Mo_isWithin_130 : decode prog_13_method_23_code 130 = .ok (.goto 28, 3) := by decide +kernel
theorem d_Mo_isWithin_158 : decode prog_13_method_23_code 158 = .ok (.istore 17, 2) := by decide +kernel
theorem d_Mo_isWithin_160 : decode prog_13_method_23_code 160 = .ok (.lload 9, 2) := by decide +kernel
theorem d_Mo_isWithin_162 : decode prog_13_method_23_code 162 = .ok (.lload 13, 2) := by decide +kernel
theorem d_Mo_isWithin_164 : decode prog_13_method_23_code 164 = .ok (.lcmp, 1) := by decide +kernel
theorem d_Mo_isWithin_165 : decode prog_13_method_23_code 165 = .ok (.ifCond .gt 27, 3) := by decide +kernel
theorem d_Mo_isWithin_192 : decode prog_13_method_23_code 192 = .ok (.lload 13, 2) := by decide +kernel
theorem d_Mo_isWithin_194 : decode prog_13_method_23_code 194 = .ok (.iload_n 3, 1) := by decide +kernel
theorem d_Mo_isWithin_195 : decode prog_13_method_23_code 195 = .ok (.i2l, 1) := by decide +kernel
theorem d_Mo_isWithin_196 : decode prog_13_method_23_code 196 = .ok (.lcmp, 1) := by decide +kernel
theorem d_Mo_isWithin_197 : decode prog_13_method_23_code 197 = .ok (.ifCond .gt 15, 3) := by decide +kernel
theorem d_Mo_isWithin_212 : decode prog_13_method_23_code 212 = .ok (.iconst 0, 1) := by decide +kernel
theorem d_Mo_isWithin_200 : decode prog_13_method_23_code 200 = .ok (.iload_n 3, 1) := by decide +kernel
theorem d_Mo_isWithin_201 : decode prog_13_method_23_code 201 = .ok (.i2l, 1) := by decide +kernel
theorem d_Mo_isWithin_202 : decode prog_13_method_23_code 202 = .ok (.lload 9, 2) := by decide +kernel
theorem d_Mo_isWithin_204 : decode prog_13_method_23_code 204 = .ok (.lcmp, 1) := by decide +kernel
theorem d_Mo_isWithin_205 : decode prog_13_method_23_code 205 = .ok (.ifCond .gt 7, 3) := by decide +kernel
theorem d_Mo_isWithin_208 : decode prog_13_method_23_code 208 = .ok (.iconst 1, 1) := by decide +kernel
theorem d_Mo_isWithin_209 : decode prog_13_method_23_code 209 = .ok (.goto 4, 3) := by decide +kernel
theorem d_Mo_isWithin_168 : decode prog_13_method_23_code 168 = .ok (.lload 9, 2) := by decide +kernel
theorem d_Mo_isWithin_170 : decode prog_13_method_23_code 170 = .ok (.iload_n 3, 1) := by decide +kernel
theorem d_Mo_isWithin_171 : decode prog_13_method_23_code 171 = .ok (.i2l, 1) := by decide +kernel
theorem d_Mo_isWithin_172 : decode prog_13_method_23_code 172 = .ok (.lcmp, 1) := by decide +kernel
theorem d_Mo_isWithin_173 : decode prog_13_method_23_code 173 = .ok (.ifCond .gt 15, 3) := by decide +kernel
theorem d_Mo_isWithin_188 : decode prog_13_method_23_code 188 = .ok (.iconst 0, 1) := by decide +kernel
theorem d_Mo_isWithin_189 : decode prog_13_method_23_code 189 = .ok (.goto 24, 3) := by decide +kernel
theorem d_Mo_isWithin_176 : decode prog_13_method_23_code 176 = .ok (.iload_n 3, 1) := by decide +kernel
theorem d_Mo_isWithin_177 : decode prog_13_method_23_code 177 = .ok (.i2l, 1) := by decide +kernel
theorem d_Mo_isWithin_178 : decode prog_13_method_23_code 178 = .ok (.lload 13, 2) := by decide +kernel
theorem d_Mo_isWithin_180 : decode prog_13_method_23_code 180 = .ok (.lcmp, 1) := by decide +kernel
theorem d_Mo_isWithin_181 : decode prog_13_method_23_code 181 = .ok (.ifCond .gt 7, 3) := by decide +kernel
theorem d_Mo_isWithin_184 : decode prog_13_method_23_code 184 = .ok (.iconst 1, 1) := by decide +kernel
theorem d_Mo_isWithin_185 : decode prog_13_method_23_code 185 = .ok (.goto 28, 3) := by decide +kernel
theorem d_Mo_isWithin_213 : decode prog_13_method_23_code 213 = .ok (.istore 18, 2) := by decide +kernel
theorem d_Mo_isWithin_215 : decode prog_13_method_23_code 215 = .ok (.iload 5, 2) := by decide +kernel
theorem d_Mo_isWithin_217 : decode prog_13_method_23_code 217 = .ok (.ifCond .ne 20, 3) := by decide +kernel
theorem d_Mo_isWithin_237 : decode prog_13_method_23_code 237 = .ok (.iconst 1, 1) := by decide +kernel
theorem d_Mo_isWithin_238 : decode prog_13_method_23_code 238 = .ok (.goto 4, 3) := by decide +kernel
theorem d_Mo_isWithin_220 : decode prog_13_method_23_code 220 = .ok (.lload 15, 2) := by decide +kernel
theorem d_Mo_isWithin_222 : decode prog_13_method_23_code 222 = .ok (.lconst 0, 1) := by decide +kernel
theorem d_Mo_isWithin_223 : decode prog_13_method_23_code 223 = .ok (.lcmp, 1) := by decide +kernel
theorem d_Mo_isWithin_224 : decode prog_13_method_23_code 224 = .ok (.ifCond .ne 17, 3) := by decide +kernel
theorem d_Mo_isWithin_241 : decode prog_13_method_23_code 241 = .ok (.iconst 0, 1) := by decide +kernel
theorem d_Mo_isWithin_227 : decode prog_13_method_23_code 227 = .ok (.iload 17, 2) := by decide +kernel
theorem d_Mo_isWithin_229 : decode prog_13_method_23_code 229 = .ok (.ifCond .eq 12, 3) := by decide +kernel
theorem d_Mo_isWithin_232 : decode prog_13_method_23_code 232 = .ok (.iload 18, 2) := by decide +kernel
theorem d_Mo_isWithin_234 : decode prog_13_method_23_code 234 = .ok (.ifCond .eq 7, 3) := by decide +kernel
theorem d_Mo_isWithin_242 : decode prog_13_method_23_code 242 = .ok (.istore 5, 2) := by decide +kernel
theorem d_Mo_isWithin_244 : decode prog_13_method_23_code 244 = .ok (.lload 9, 2) := by decide +kernel
theorem d_Mo_isWithin_246 : decode prog_13_method_23_code 246 = .ok (.iload_n 3, 1) := by decide +kernel
theorem d_Mo_isWithin_247 : decode prog_13_method_23_code 247 = .ok (.i2l, 1) := by decide +kernel
theorem d_Mo_isWithin_248 : decode prog_13_method_23_code 248 = .ok (.lcmp, 1) := by decide +kernel
theorem d_Mo_isWithin_249 : decode prog_13_method_23_code 249 = .ok (.ifCond .gt 18, 3) := by decide +kernel
theorem d_Mo_isWithin_252 : decode prog_13_method_23_code 252 = .ok (.iload_n 3, 1) := by decide +kernel
theorem d_Mo_isWithin_253 : decode prog_13_method_23_code 253 = .ok (.i2l, 1) := by decide +kernel
theorem d_Mo_isWithin_254 : decode prog_13_method_23_code 254 = .ok (.lload 13, 2) := by decide +kernel
theorem d_Mo_isWithin_256 : decode prog_13_method_23_code 256 = .ok (.lcmp, 1) := by decide +kernel
theorem d_Mo_isWithin_257 : decode prog_13_method_23_code 257 = .ok (.ifCond .ge 10, 3) := by decide +kernel
theorem d_Mo_isWithin_260 : decode prog_13_method_23_code 260 = .ok (.lload 15, 2) := by decide +kernel
theorem d_Mo_isWithin_262 : decode prog_13_method_23_code 262 = .ok (.lconst 0, 1) := by decide +kernel
theorem d_Mo_isWithin_263 : decode prog_13_method_23_code 263 = .ok (.lcmp, 1) := by decide +kernel
theorem d_Mo_isWithin_264 : decode prog_13_method_23_code 264 = .ok (.ifCond .gt 26, 3) := by decide +kernel
theorem d_Mo_isWithin_267 : decode prog_13_method_23_code 267 = .ok (.lload 13, 2) := by decide +kernel
theorem d_Mo_isWithin_269 : decode prog_13_method_23_code 269 = .ok (.iload_n 3, 1) := by decide +kernel
theorem d_Mo_isWithin_270 : decode prog_13_method_23_code 270 = .ok (.i2l, 1) := by decide +kernel
theorem d_Mo_isWithin_271 : decode prog_13_method_23_code 271 = .ok (.lcmp, 1) := by decide +kernel
theorem d_Mo_isWithin_272 : decode prog_13_method_23_code 272 = .ok (.ifCond .gt 30, 3) := by decide +kernel
theorem d_Mo_isWithin_275 : decode prog_13_method_23_code 275 = .ok (.iload_n 3, 1) := by decide +kernel
theorem d_Mo_isWithin_276 : decode prog_13_method_23_code 276 = .ok (.i2l, 1) := by decide +kernel
theorem d_Mo_isWithin_277 : decode prog_13_method_23_code 277 = .ok (.lload 9, 2) := by decide +kernel
theorem d_Mo_isWithin_279 : decode prog_13_method_23_code 279 = .ok (.lcmp, 1) := by decide +kernel
theorem d_Mo_isWithin_280 : decode prog_13_method_23_code 280 = .ok (.ifCond .ge 22, 3) := by decide +kernel
theorem d_Mo_isWithin_283 : decode prog_13_method_23_code 283 = .ok (.lload 15, 2) := by decide +kernel
theorem d_Mo_isWithin_285 : decode prog_13_method_23_code 285 = .ok (.lconst 0, 1) := by decide +kernel
theorem d_Mo_isWithin_286 : decode prog_13_method_23_code 286 = .ok (.lcmp, 1) := by decide +kernel
theorem d_Mo_isWithin_287 : decode prog_13_method_23_code 287 = .ok (.ifCond .ge 15, 3) := by decide +kernel
theorem d_Mo_isWithin_290 : decode prog_13_method_23_code 290 = .ok (.iload 4, 2) := by decide +kernel
theorem d_Mo_isWithin_292 : decode prog_13_method_23_code 292 = .ok (.ifCond .ne 7, 3) := by decide +kernel
theorem d_Mo_isWithin_299 : decode prog_13_method_23_code 299 = .ok (.iconst 0, 1) := by decide +kernel
theorem d_Mo_isWithin_295 : decode prog_13_method_23_code 295 = .ok (.iconst 1, 1) := by decide +kernel
theorem d_Mo_isWithin_296 : decode prog_13_method_23_code 296 = .ok (.goto 4, 3) := by decide +kernel
theorem d_Mo_isWithin_302 : decode prog_13_method_23_code 302 = .ok (.iinc 6 1, 3) := by decide +kernel
theorem d_Mo_isWithin_305 : decode prog_13_method_23_code 305 = .ok (.goto (-296), 3) := by decide +kernel
theorem d_Mo_isWithin_300 : decode prog_13_method_23_code 300 = .ok (.istore 4, 2) := by decide +kernel
def wp_Mo_isWithin_302 (post : Int → MS → Prop) (k9 : Int → Int → Int → Int → Int → Int → MS → Prop) (v1 : Int) (v2 : Int) (v3 : Int) (v4 : Int) (v5 : Int) (v6 : Int) (S : MS) : Prop := k9 v1 v2 v3 v4 v5 (v6 + 1) S
def wp_Mo_isWithin_300 (post : Int → MS → Prop) (k9 : Int → Int → Int → Int → Int → Int → MS → Prop) (v1 : Int) (v2 : Int) (v3 : Int) (v5 : Int) (v6 : Int) (s0 : Int) (S : MS) : Prop := wp_Mo_isWithin_302 post k9 v1 v2 v3 s0 v5 v6 S
def wp_Mo_isWithin_290 (post : Int → MS → Prop) (k9 : Int → Int → Int → Int → Int → Int → MS → Prop) (v1 : Int) (v2 : Int) (v3 : Int) (v4 : Int) (v5 : Int) (v6 : Int) (S : MS) : Prop := inR v4 ∧ (¬ (v4 = 0) → wp_Mo_isWithin_300 post k9 v1 v2 v3 v5 v6 0 S) ∧ (v4 = 0 → wp_Mo_isWithin_300 post k9 v1 v2 v3 v5 v6 1 S)
def wp_Mo_isWithin_267 (post : Int → MS → Prop) (k9 : Int → Int → Int → Int → Int → Int → MS → Prop) (v1 : Int) (v2 : Int) (v3 : Int) (v4 : Int) (v5 : Int) (v6 : Int) (v9 : Int) (v13 : Int) (v15 : Int) (S : MS) : Prop := inR v3 ∧ (inL v13 ∧ inL v3 ∧ (v3 < v13 → wp_Mo_isWithin_302 post k9 v1 v2 v3 v4 v5 v6 S) ∧ (¬ (v3 < v13) → (inR v3 ∧ (inL v3 ∧ inL v9 ∧ (v9 ≤ v3 → wp_Mo_isWithin_302 post k9 v1 v2 v3 v4 v5 v6 S) ∧ (¬ (v9 ≤ v3) → (inL v15 ∧ (0 ≤ v15 → wp_Mo_isWithin_302 post k9 v1 v2 v3 v4 v5 v6 S) ∧ (¬ (0 ≤ v15) → wp_Mo_isWithin_290 post k9 v1 v2 v3 v4 v5 v6 S)))))))
def wp_Mo_isWithin_242 (post : Int → MS → Prop) (k9 : Int → Int → Int → Int → Int → Int → MS → Prop) (v1 : Int) (v2 : Int) (v3 : Int) (v4 : Int) (v6 : Int) (v9 : Int) (v13 : Int) (v15 : Int) (s0 : Int) (S : MS) : Prop := inR v3 ∧ (inL v9 ∧ inL v3 ∧ (v3 < v9 → wp_Mo_isWithin_267 post k9 v1 v2 v3 v4 s0 v6 v9 v13 v15 S) ∧ (¬ (v3 < v9) → (inR v3 ∧ (inL v3 ∧ inL v13 ∧ (v13 ≤ v3 → wp_Mo_isWithin_267 post k9 v1 v2 v3 v4 s0 v6 v9 v13 v15 S) ∧ (¬ (v13 ≤ v3) → (inL v15 ∧ (0 < v15 → wp_Mo_isWithin_290 post k9 v1 v2 v3 v4 s0 v6 S) ∧ (¬ (0 < v15) → wp_Mo_isWithin_267 post k9 v1 v2 v3 v4 s0 v6 v9 v13 v15 S)))))))
def wp_Mo_isWithin_213 (post : Int → MS → Prop) (k9 : Int → Int → Int → Int → Int → Int → MS → Prop) (v1 : Int) (v2 : Int) (v3 : Int) (v4 : Int) (v5 : Int) (v6 : Int) (v9 : Int) (v13 : Int) (v15 : Int) (v17 : Int) (s0 : Int) (S : MS) : Prop := inR v5 ∧ (¬ (v5 = 0) → wp_Mo_isWithin_242 post k9 v1 v2 v3 v4 v6 v9 v13 v15 1 S) ∧ (v5 = 0 → (inL v15 ∧ (¬ (v15 = 0) → wp_Mo_isWithin_242 post k9 v1 v2 v3 v4 v6 v9 v13 v15 0 S) ∧ (v15 = 0 → (inR v17 ∧ (v17 = 0 → wp_Mo_isWithin_242 post k9 v1 v2 v3 v4 v6 v9 v13 v15 0 S) ∧ (¬ (v17 = 0) → (inR s0 ∧ (s0 = 0 → wp_Mo_isWithin_242 post k9 v1 v2 v3 v4 v6 v9 v13 v15 0 S) ∧ (¬ (s0 = 0) → wp_Mo_isWithin_242 post k9 v1 v2 v3 v4 v6 v9 v13 v15 1 S)))))))
def wp_Mo_isWithin_158 (post : Int → MS → Prop) (k9 : Int → Int → Int → Int → Int → Int → MS → Prop) (v1 : Int) (v2 : Int) (v3 : Int) (v4 : Int) (v5 : Int) (v6 : Int) (v9 : Int) (v13 : Int) (v15 : Int) (s0 : Int) (S : MS) : Prop := inL v9 ∧ inL v13 ∧ (v13 < v9 → (inR v3 ∧ (inL v13 ∧ inL v3 ∧ (v3 < v13 → wp_Mo_isWithin_213 post k9 v1 v2 v3 v4 v5 v6 v9 v13 v15 s0 0 S) ∧ (¬ (v3 < v13) → (inR v3 ∧ (inL v3 ∧ inL v9 ∧ (v9 < v3 → wp_Mo_isWithin_213 post k9 v1 v2 v3 v4 v5 v6 v9 v13 v15 s0 0 S) ∧ (¬ (v9 < v3) → wp_Mo_isWithin_213 post k9 v1 v2 v3 v4 v5 v6 v9 v13 v15 s0 1 S))))))) ∧ (¬ (v13 < v9) → (inR v3 ∧ (inL v9 ∧ inL v3 ∧ (v3 < v9 → wp_Mo_isWithin_213 post k9 v1 v2 v3 v4 v5 v6 v9 v13 v15 s0 0 S) ∧ (¬ (v3 < v9) → (inR v3 ∧ (inL v3 ∧ inL v13 ∧ (v13 < v3 → wp_Mo_isWithin_213 post k9 v1 v2 v3 v4 v5 v6 v9 v13 v15 s0 0 S) ∧ (¬ (v13 < v3) → wp_Mo_isWithin_213 post k9 v1 v2 v3 v4 v5 v6 v9 v13 v15 s0 1 S)))))))
def wp_Mo_isWithin_9 (post : Int → MS → Prop) : Nat → Int → Int → Int → Int → Int → Int → MS → Prop
  | 0, _, _, _, _, _, _, _ => False
  | n + 1, v1, v2, v3, v4, v5, v6, S => ixR v1 302 ∧ (inR v6 ∧ inR (S.2 10 v1.toNat) ∧ ((S.2 10 v1.toNat) ≤ v6 → (inR v4 ∧ (v4 = 0 → post 0 S) ∧ (¬ (v4 = 0) → (inR v5 ∧ (¬ (v5 = 0) → post 0 S) ∧ (v5 = 0 → post 1 S))))) ∧ (¬ ((S.2 10 v1.toNat) ≤ v6) → (wp_Mo_cornerX (fun r_2 S_1 => inR r_2 ∧ (∀ v7_3 : Int, v7_3 = (2 * r_2) → wp_Mo_cornerY (fun r_5 S_4 => inR r_5 ∧ (∀ v9_6 : Int, v9_6 = (2 * r_5) → wp_Mo_cornerX (fun r_8 S_7 => inR r_8 ∧ (∀ v11_9 : Int, v11_9 = (2 * r_8) → wp_Mo_cornerY (fun r_11 S_10 => inR r_11 ∧ (∀ v13_12 : Int, v13_12 = (2 * r_11) → inR v3 ∧ (inR v2 ∧ (∀ v15_13 : Int, v15_13 = (((v11_9 - v7_3) * (v3 - v9_6)) - ((v13_12 - v9_6) * (v2 - v7_3))) → inL v7_3 ∧ inL v11_9 ∧ (v11_9 < v7_3 → (inR v2 ∧ (inL v11_9 ∧ inL v2 ∧ (v2 < v11_9 → wp_Mo_isWithin_158 post (wp_Mo_isWithin_9 post n) v1 v2 v3 v4 v5 v6 v9_6 v13_12 v15_13 0 S_10) ∧ (¬ (v2 < v11_9) → (inR v2 ∧ (inL v2 ∧ inL v7_3 ∧ (v7_3 < v2 → wp_Mo_isWithin_158 post (wp_Mo_isWithin_9 post n) v1 v2 v3 v4 v5 v6 v9_6 v13_12 v15_13 0 S_10) ∧ (¬ (v7_3 < v2) → wp_Mo_isWithin_158 post (wp_Mo_isWithin_9 post n) v1 v2 v3 v4 v5 v6 v9_6 v13_12 v15_13 1 S_10))))))) ∧ (¬ (v11_9 < v7_3) → (inR v2 ∧ (inL v7_3 ∧ inL v2 ∧ (v2 < v7_3 → wp_Mo_isWithin_158 post (wp_Mo_isWithin_9 post n) v1 v2 v3 v4 v5 v6 v9_6 v13_12 v15_13 0 S_10) ∧ (¬ (v2 < v7_3) → (inR v2 ∧ (inL v2 ∧ inL v11_9 ∧ (v11_9 < v2 → wp_Mo_isWithin_158 post (wp_Mo_isWithin_9 post n) v1 v2 v3 v4 v5 v6 v9_6 v13_12 v15_13 0 S_10) ∧ (¬ (v11_9 < v2) → wp_Mo_isWithin_158 post (wp_Mo_isWithin_9 post n) v1 v2 v3 v4 v5 v6 v9_6 v13_12 v15_13 1 S_10))))))))))) v1 (v6 + 1) S_7)) v1 (v6 + 1) S_4)) v1 v6 S_1)) v1 v6 S)))
def wp_Mo_isWithin (post : Int → MS → Prop) (v1 : Int) (v2 : Int) (v3 : Int) (S : MS) : Prop := ∃ n0 : Nat, wp_Mo_isWithin_9 post n0 v1 v2 v3 0 0 0 S
set_option maxHeartbeats 4000000 in
set_option maxRecDepth 100000 in
theorem c_Mo_isWithin (l : Launch) {D : va_G} {h : Nat} {ad : Nat → Nat} {kc : Nat → ClassId} {post : Int → MS → Prop} {v1 : Int} {v2 : Int} {v3 : Int} {S : MS} (hw : wp_Mo_isWithin post v1 v2 v3 S) : jMi l D h ad kc y_Mo_isWithin prog_13_method_23_code 19 (some .boolean) 1 22 S [vi v1, vi v2, vi v3] post := by
  refine j_moz (own := "LandBookModel") (by decide) rfl (Nat.le_of_ble_eq_true rfl) (fun X F K hret => ?_)
  have B9 : ∀ (n0 : Nat) (v1 : Int) (v2 : Int) (v3 : Int) (v4 : Int) (v5 : Int) (v6 : Int) (S : MS), wp_Mo_isWithin_9 post n0 v1 v2 v3 v4 v5 v6 S → jat l D X 19 9 [(0, .ref h), (1, vi v1), (2, vi v2), (3, vi v3), (4, vi v4), (5, vi v5), (6, vi v6)] [] (mw h ad kc S) 0 0 := by
    intro n0
    induction n0 with
    | zero => intro v1 v2 v3 v4 v5 v6 S hw; exact hw.elim
    | succ n9 ih9 =>
      have B302 : ∀ (v1 : Int) (v2 : Int) (v3 : Int) (v4 : Int) (v5 : Int) (v6 : Int) (S : MS), wp_Mo_isWithin_302 post (wp_Mo_isWithin_9 post n9) v1 v2 v3 v4 v5 v6 S → jat l D X 19 302 [(0, .ref h), (1, vi v1), (2, vi v2), (3, vi v3), (4, vi v4), (5, vi v5), (6, vi v6)] [] (mw h ad kc S) 0 0 := by
        intro v1 v2 v3 v4 v5 v6 S hw
        unfold wp_Mo_isWithin_302 at hw
        refine j_iinc F 6 [(6, vi (v6 + 1)), (0, .ref h), (1, vi v1), (2, vi v2), (3, vi v3), (4, vi v4), (5, vi v5)] d_Mo_isWithin_302 rfl (by decide) rfl ?_
        refine j_goto F 9 d_Mo_isWithin_305 rfl ?_
        refine j_sub [1, 2, 3, 4, 5, 6, 0] rfl ?_
        exact ih9 _ _ _ _ _ _ _ hw
      have B300 : ∀ (v1 : Int) (v2 : Int) (v3 : Int) (v5 : Int) (v6 : Int) (s0 : Int) (S : MS), wp_Mo_isWithin_300 post (wp_Mo_isWithin_9 post n9) v1 v2 v3 v5 v6 s0 S → jat l D X 19 300 [(0, .ref h), (1, vi v1), (2, vi v2), (3, vi v3), (5, vi v5), (6, vi v6)] [vi s0] (mw h ad kc S) 0 0 := by
        intro v1 v2 v3 v5 v6 s0 S hw
        unfold wp_Mo_isWithin_300 at hw
        refine j_istore F [(4, vi s0), (0, .ref h), (1, vi v1), (2, vi v2), (3, vi v3), (5, vi v5), (6, vi v6)] d_Mo_isWithin_300 (by decide) rfl ?_
        refine j_sub [1, 2, 3, 4, 0, 5, 6] rfl ?_
        exact B302 _ _ _ _ _ _ _ hw
      have B290 : ∀ (v1 : Int) (v2 : Int) (v3 : Int) (v4 : Int) (v5 : Int) (v6 : Int) (S : MS), wp_Mo_isWithin_290 post (wp_Mo_isWithin_9 post n9) v1 v2 v3 v4 v5 v6 S → jat l D X 19 290 [(0, .ref h), (1, vi v1), (2, vi v2), (3, vi v3), (4, vi v4), (5, vi v5), (6, vi v6)] [] (mw h ad kc S) 0 0 := by
        intro v1 v2 v3 v4 v5 v6 S hw
        unfold wp_Mo_isWithin_290 at hw
        refine j_iload F 4 d_Mo_isWithin_290 rfl ?_
        obtain ⟨hc1, hwt, hwf⟩ := hw
        refine j_if_ne F 299 hc1 d_Mo_isWithin_292 rfl (fun hh => ?_) (fun hh => ?_)
        · have hw := hwt hh
          refine j_iconst F d_Mo_isWithin_299 ?_
          refine j_sub [0, 1, 2, 3, 5, 6] rfl ?_
          exact B300 _ _ _ _ _ _ _ hw
        · have hw := hwf hh
          refine j_iconst F d_Mo_isWithin_295 ?_
          refine j_goto F 300 d_Mo_isWithin_296 rfl ?_
          refine j_sub [0, 1, 2, 3, 5, 6] rfl ?_
          exact B300 _ _ _ _ _ _ _ hw
      have B267 : ∀ (v1 : Int) (v2 : Int) (v3 : Int) (v4 : Int) (v5 : Int) (v6 : Int) (v9 : Int) (v13 : Int) (v15 : Int) (S : MS), wp_Mo_isWithin_267 post (wp_Mo_isWithin_9 post n9) v1 v2 v3 v4 v5 v6 v9 v13 v15 S → jat l D X 19 267 [(0, .ref h), (1, vi v1), (2, vi v2), (3, vi v3), (4, vi v4), (5, vi v5), (6, vi v6), (9, vl v9), (13, vl v13), (15, vl v15)] [] (mw h ad kc S) 0 0 := by
        intro v1 v2 v3 v4 v5 v6 v9 v13 v15 S hw
        unfold wp_Mo_isWithin_267 at hw
        refine j_lload F 8 d_Mo_isWithin_267 rfl ?_
        refine j_iload_n F 3 d_Mo_isWithin_269 rfl ?_
        obtain ⟨hc1, hw⟩ := hw
        refine j_i2l F hc1 d_Mo_isWithin_270 ?_
        obtain ⟨hc1, hc2, hwt, hwf⟩ := hw
        refine j_lcmp_gt F 302 hc1 hc2 d_Mo_isWithin_271 d_Mo_isWithin_272 rfl (fun hh => ?_) (fun hh => ?_)
        · have hw := hwt hh
          refine j_sub [0, 1, 2, 3, 4, 5, 6] rfl ?_
          exact B302 _ _ _ _ _ _ _ hw
        · have hw := hwf hh
          refine j_iload_n F 3 d_Mo_isWithin_275 rfl ?_
          obtain ⟨hc1, hw⟩ := hw
          refine j_i2l F hc1 d_Mo_isWithin_276 ?_
          refine j_lload F 7 d_Mo_isWithin_277 rfl ?_
          obtain ⟨hc1, hc2, hwt, hwf⟩ := hw
          refine j_lcmp_ge F 302 hc1 hc2 d_Mo_isWithin_279 d_Mo_isWithin_280 rfl (fun hh => ?_) (fun hh => ?_)
          · have hw := hwt hh
            refine j_sub [0, 1, 2, 3, 4, 5, 6] rfl ?_
            exact B302 _ _ _ _ _ _ _ hw
          · have hw := hwf hh
            refine j_lload F 9 d_Mo_isWithin_283 rfl ?_
            refine j_lconst (x := 0) F d_Mo_isWithin_285 (by decide) ?_
            obtain ⟨hc1, hwt, hwf⟩ := hw
            refine j_lcmp_ge F 302 hc1 ⟨by decide, by decide⟩ d_Mo_isWithin_286 d_Mo_isWithin_287 rfl (fun hh => ?_) (fun hh => ?_)
            · have hw := hwt hh
              refine j_sub [0, 1, 2, 3, 4, 5, 6] rfl ?_
              exact B302 _ _ _ _ _ _ _ hw
            · have hw := hwf hh
              refine j_sub [0, 1, 2, 3, 4, 5, 6] rfl ?_
              exact B290 _ _ _ _ _ _ _ hw
      have B242 : ∀ (v1 : Int) (v2 : Int) (v3 : Int) (v4 : Int) (v6 : Int) (v9 : Int) (v13 : Int) (v15 : Int) (s0 : Int) (S : MS), wp_Mo_isWithin_242 post (wp_Mo_isWithin_9 post n9) v1 v2 v3 v4 v6 v9 v13 v15 s0 S → jat l D X 19 242 [(0, .ref h), (1, vi v1), (2, vi v2), (3, vi v3), (4, vi v4), (6, vi v6), (9, vl v9), (13, vl v13), (15, vl v15)] [vi s0] (mw h ad kc S) 0 0 := by
        intro v1 v2 v3 v4 v6 v9 v13 v15 s0 S hw
        unfold wp_Mo_isWithin_242 at hw
        refine j_istore F [(5, vi s0), (0, .ref h), (1, vi v1), (2, vi v2), (3, vi v3), (4, vi v4), (6, vi v6), (9, vl v9), (13, vl v13), (15, vl v15)] d_Mo_isWithin_242 (by decide) rfl ?_
        refine j_lload F 7 d_Mo_isWithin_244 rfl ?_
        refine j_iload_n F 4 d_Mo_isWithin_246 rfl ?_
        obtain ⟨hc1, hw⟩ := hw
        refine j_i2l F hc1 d_Mo_isWithin_247 ?_
        obtain ⟨hc1, hc2, hwt, hwf⟩ := hw
        refine j_lcmp_gt F 267 hc1 hc2 d_Mo_isWithin_248 d_Mo_isWithin_249 rfl (fun hh => ?_) (fun hh => ?_)
        · have hw := hwt hh
          refine j_sub [1, 2, 3, 4, 5, 0, 6, 7, 8, 9] rfl ?_
          exact B267 _ _ _ _ _ _ _ _ _ _ hw
        · have hw := hwf hh
          refine j_iload_n F 4 d_Mo_isWithin_252 rfl ?_
          obtain ⟨hc1, hw⟩ := hw
          refine j_i2l F hc1 d_Mo_isWithin_253 ?_
          refine j_lload F 8 d_Mo_isWithin_254 rfl ?_
          obtain ⟨hc1, hc2, hwt, hwf⟩ := hw
          refine j_lcmp_ge F 267 hc1 hc2 d_Mo_isWithin_256 d_Mo_isWithin_257 rfl (fun hh => ?_) (fun hh => ?_)
          · have hw := hwt hh
            refine j_sub [1, 2, 3, 4, 5, 0, 6, 7, 8, 9] rfl ?_
            exact B267 _ _ _ _ _ _ _ _ _ _ hw
          · have hw := hwf hh
            refine j_lload F 9 d_Mo_isWithin_260 rfl ?_
            refine j_lconst (x := 0) F d_Mo_isWithin_262 (by decide) ?_
            obtain ⟨hc1, hwt, hwf⟩ := hw
            refine j_lcmp_gt F 290 hc1 ⟨by decide, by decide⟩ d_Mo_isWithin_263 d_Mo_isWithin_264 rfl (fun hh => ?_) (fun hh => ?_)
            · have hw := hwt hh
              refine j_sub [1, 2, 3, 4, 5, 0, 6] rfl ?_
              exact B290 _ _ _ _ _ _ _ hw
            · have hw := hwf hh
              refine j_sub [1, 2, 3, 4, 5, 0, 6, 7, 8, 9] rfl ?_
              exact B267 _ _ _ _ _ _ _ _ _ _ hw
      have B213 : ∀ (v1 : Int) (v2 : Int) (v3 : Int) (v4 : Int) (v5 : Int) (v6 : Int) (v9 : Int) (v13 : Int) (v15 : Int) (v17 : Int) (s0 : Int) (S : MS), wp_Mo_isWithin_213 post (wp_Mo_isWithin_9 post n9) v1 v2 v3 v4 v5 v6 v9 v13 v15 v17 s0 S → jat l D X 19 213 [(0, .ref h), (1, vi v1), (2, vi v2), (3, vi v3), (4, vi v4), (5, vi v5), (6, vi v6), (9, vl v9), (13, vl v13), (15, vl v15), (17, vi v17)] [vi s0] (mw h ad kc S) 0 0 := by
        intro v1 v2 v3 v4 v5 v6 v9 v13 v15 v17 s0 S hw
        unfold wp_Mo_isWithin_213 at hw
        refine j_istore F [(18, vi s0), (0, .ref h), (1, vi v1), (2, vi v2), (3, vi v3), (4, vi v4), (5, vi v5), (6, vi v6), (9, vl v9), (13, vl v13), (15, vl v15), (17, vi v17)] d_Mo_isWithin_213 (by decide) rfl ?_
        refine j_iload F 6 d_Mo_isWithin_215 rfl ?_
        obtain ⟨hc1, hwt, hwf⟩ := hw
        refine j_if_ne F 237 hc1 d_Mo_isWithin_217 rfl (fun hh => ?_) (fun hh => ?_)
        · have hw := hwt hh
          refine j_iconst F d_Mo_isWithin_237 ?_
          refine j_goto F 242 d_Mo_isWithin_238 rfl ?_
          refine j_sub [1, 2, 3, 4, 5, 7, 8, 9, 10] rfl ?_
          exact B242 _ _ _ _ _ _ _ _ _ _ hw
        · have hw := hwf hh
          refine j_lload F 10 d_Mo_isWithin_220 rfl ?_
          refine j_lconst (x := 0) F d_Mo_isWithin_222 (by decide) ?_
          obtain ⟨hc1, hwt, hwf⟩ := hw
          refine j_lcmp_ne F 241 hc1 ⟨by decide, by decide⟩ d_Mo_isWithin_223 d_Mo_isWithin_224 rfl (fun hh => ?_) (fun hh => ?_)
          · have hw := hwt hh
            refine j_iconst F d_Mo_isWithin_241 ?_
            refine j_sub [1, 2, 3, 4, 5, 7, 8, 9, 10] rfl ?_
            exact B242 _ _ _ _ _ _ _ _ _ _ hw
          · have hw := hwf hh
            refine j_iload F 11 d_Mo_isWithin_227 rfl ?_
            obtain ⟨hc1, hwt, hwf⟩ := hw
            refine j_if_eq F 241 hc1 d_Mo_isWithin_229 rfl (fun hh => ?_) (fun hh => ?_)
            · have hw := hwt hh
              refine j_iconst F d_Mo_isWithin_241 ?_
              refine j_sub [1, 2, 3, 4, 5, 7, 8, 9, 10] rfl ?_
              exact B242 _ _ _ _ _ _ _ _ _ _ hw
            · have hw := hwf hh
              refine j_iload F 0 d_Mo_isWithin_232 rfl ?_
              obtain ⟨hc1, hwt, hwf⟩ := hw
              refine j_if_eq F 241 hc1 d_Mo_isWithin_234 rfl (fun hh => ?_) (fun hh => ?_)
              · have hw := hwt hh
                refine j_iconst F d_Mo_isWithin_241 ?_
                refine j_sub [1, 2, 3, 4, 5, 7, 8, 9, 10] rfl ?_
                exact B242 _ _ _ _ _ _ _ _ _ _ hw
              · have hw := hwf hh
                refine j_iconst F d_Mo_isWithin_237 ?_
                refine j_goto F 242 d_Mo_isWithin_238 rfl ?_
                refine j_sub [1, 2, 3, 4, 5, 7, 8, 9, 10] rfl ?_
                exact B242 _ _ _ _ _ _ _ _ _ _ hw
      have B158 : ∀ (v1 : Int) (v2 : Int) (v3 : Int) (v4 : Int) (v5 : Int) (v6 : Int) (v9 : Int) (v13 : Int) (v15 : Int) (s0 : Int) (S : MS), wp_Mo_isWithin_158 post (wp_Mo_isWithin_9 post n9) v1 v2 v3 v4 v5 v6 v9 v13 v15 s0 S → jat l D X 19 158 [(0, .ref h), (1, vi v1), (2, vi v2), (3, vi v3), (4, vi v4), (5, vi v5), (6, vi v6), (9, vl v9), (13, vl v13), (15, vl v15)] [vi s0] (mw h ad kc S) 0 0 := by
        intro v1 v2 v3 v4 v5 v6 v9 v13 v15 s0 S hw
        unfold wp_Mo_isWithin_158 at hw
        refine j_istore F [(17, vi s0), (0, .ref h), (1, vi v1), (2, vi v2), (3, vi v3), (4, vi v4), (5, vi v5), (6, vi v6), (9, vl v9), (13, vl v13), (15, vl v15)] d_Mo_isWithin_158 (by decide) rfl ?_
        refine j_lload F 8 d_Mo_isWithin_160 rfl ?_
        refine j_lload F 9 d_Mo_isWithin_162 rfl ?_
        obtain ⟨hc1, hc2, hwt, hwf⟩ := hw
        refine j_lcmp_gt F 192 hc1 hc2 d_Mo_isWithin_164 d_Mo_isWithin_165 rfl (fun hh => ?_) (fun hh => ?_)
        · have hw := hwt hh
          refine j_lload F 9 d_Mo_isWithin_192 rfl ?_
          refine j_iload_n F 4 d_Mo_isWithin_194 rfl ?_
          obtain ⟨hc1, hw⟩ := hw
          refine j_i2l F hc1 d_Mo_isWithin_195 ?_
          obtain ⟨hc1, hc2, hwt, hwf⟩ := hw
          refine j_lcmp_gt F 212 hc1 hc2 d_Mo_isWithin_196 d_Mo_isWithin_197 rfl (fun hh => ?_) (fun hh => ?_)
          · have hw := hwt hh
            refine j_iconst F d_Mo_isWithin_212 ?_
            refine j_sub [1, 2, 3, 4, 5, 6, 7, 8, 9, 10, 0] rfl ?_
            exact B213 _ _ _ _ _ _ _ _ _ _ _ _ hw
          · have hw := hwf hh
            refine j_iload_n F 4 d_Mo_isWithin_200 rfl ?_
            obtain ⟨hc1, hw⟩ := hw
            refine j_i2l F hc1 d_Mo_isWithin_201 ?_
            refine j_lload F 8 d_Mo_isWithin_202 rfl ?_
            obtain ⟨hc1, hc2, hwt, hwf⟩ := hw
            refine j_lcmp_gt F 212 hc1 hc2 d_Mo_isWithin_204 d_Mo_isWithin_205 rfl (fun hh => ?_) (fun hh => ?_)
            · have hw := hwt hh
              refine j_iconst F d_Mo_isWithin_212 ?_
              refine j_sub [1, 2, 3, 4, 5, 6, 7, 8, 9, 10, 0] rfl ?_
              exact B213 _ _ _ _ _ _ _ _ _ _ _ _ hw
            · have hw := hwf hh
              refine j_iconst F d_Mo_isWithin_208 ?_
              refine j_goto F 213 d_Mo_isWithin_209 rfl ?_
              refine j_sub [1, 2, 3, 4, 5, 6, 7, 8, 9, 10, 0] rfl ?_
              exact B213 _ _ _ _ _ _ _ _ _ _ _ _ hw
        · have hw := hwf hh
          refine j_lload F 8 d_Mo_isWithin_168 rfl ?_
          refine j_iload_n F 4 d_Mo_isWithin_170 rfl ?_
          obtain ⟨hc1, hw⟩ := hw
          refine j_i2l F hc1 d_Mo_isWithin_171 ?_
          obtain ⟨hc1, hc2, hwt, hwf⟩ := hw
          refine j_lcmp_gt F 188 hc1 hc2 d_Mo_isWithin_172 d_Mo_isWithin_173 rfl (fun hh => ?_) (fun hh => ?_)
          · have hw := hwt hh
            refine j_iconst F d_Mo_isWithin_188 ?_
            refine j_goto F 213 d_Mo_isWithin_189 rfl ?_
            refine j_sub [1, 2, 3, 4, 5, 6, 7, 8, 9, 10, 0] rfl ?_
            exact B213 _ _ _ _ _ _ _ _ _ _ _ _ hw
          · have hw := hwf hh
            refine j_iload_n F 4 d_Mo_isWithin_176 rfl ?_
            obtain ⟨hc1, hw⟩ := hw
            refine j_i2l F hc1 d_Mo_isWithin_177 ?_
            refine j_lload F 9 d_Mo_isWithin_178 rfl ?_
            obtain ⟨hc1, hc2, hwt, hwf⟩ := hw
            refine j_lcmp_gt F 188 hc1 hc2 d_Mo_isWithin_180 d_Mo_isWithin_181 rfl (fun hh => ?_) (fun hh => ?_)
            · have hw := hwt hh
              refine j_iconst F d_Mo_isWithin_188 ?_
              refine j_goto F 213 d_Mo_isWithin_189 rfl ?_
              refine j_sub [1, 2, 3, 4, 5, 6, 7, 8, 9, 10, 0] rfl ?_
              exact B213 _ _ _ _ _ _ _ _ _ _ _ _ hw
            · have hw := hwf hh
              refine j_iconst F d_Mo_isWithin_184 ?_
              refine j_goto F 213 d_Mo_isWithin_185 rfl ?_
              refine j_sub [1, 2, 3, 4, 5, 6, 7, 8, 9, 10, 0] rfl ?_
              exact B213 _ _ _ _ _ _ _ _ _ _ _ _ hw
      intro v1 v2 v3 v4 v5 v6 S hw
      unfold wp_Mo_isWithin_9 at hw
      refine j_iload F 6 d_Mo_isWithin_9 rfl ?_
      refine j_aload_n F 0 d_Mo_isWithin_11 rfl ?_
      refine m_geta F K 10 (by decide) (by decide) tj_131 rfl d_Mo_isWithin_12 ?_
      refine j_iload_n F 1 d_Mo_isWithin_15 rfl ?_
      obtain ⟨hc1, hw⟩ := hw
      refine m_iald F K 10 4 rfl rfl hc1 d_Mo_isWithin_16 ?_
      obtain ⟨hc1, hc2, hwt, hwf⟩ := hw
      refine j_icmp_ge F 308 hc1 hc2 d_Mo_isWithin_17 rfl (fun hh => ?_) (fun hh => ?_)
      · have hw := hwt hh
        refine j_iload F 4 d_Mo_isWithin_308 rfl ?_
        obtain ⟨hc1, hwt, hwf⟩ := hw
        refine j_if_eq F 322 hc1 d_Mo_isWithin_310 rfl (fun hh => ?_) (fun hh => ?_)
        · have hw := hwt hh
          refine j_iconst F d_Mo_isWithin_322 ?_
          exact hret _ _ _ _ hw (Or.inl rfl) d_Mo_isWithin_323
        · have hw := hwf hh
          refine j_iload F 5 d_Mo_isWithin_313 rfl ?_
          obtain ⟨hc1, hwt, hwf⟩ := hw
          refine j_if_ne F 322 hc1 d_Mo_isWithin_315 rfl (fun hh => ?_) (fun hh => ?_)
          · have hw := hwt hh
            refine j_iconst F d_Mo_isWithin_322 ?_
            exact hret _ _ _ _ hw (Or.inl rfl) d_Mo_isWithin_323
          · have hw := hwf hh
            refine j_iconst F d_Mo_isWithin_318 ?_
            refine j_goto F 323 d_Mo_isWithin_319 rfl ?_
            exact hret _ _ _ _ hw (Or.inr rfl) d_Mo_isWithin_323
      · have hw := hwf hh
        refine j_ldc2 (x := 2) F tj_142 (by decide) d_Mo_isWithin_20 ?_
        refine j_aload_n F 0 d_Mo_isWithin_23 rfl ?_
        refine j_iload_n F 1 d_Mo_isWithin_24 rfl ?_
        refine j_iload F 6 d_Mo_isWithin_25 rfl ?_
        refine m_calli F K (c_Mo_cornerX l hw) (tw_gV tj_134 tj_135 tj_136 tj_87 tj_137) q_Mo_cornerX rfl ⟨by decide, by decide⟩ ⟨Nat.zero_le _, Nat.zero_le _⟩ rfl (Nat.le_of_ble_eq_true rfl) d_Mo_isWithin_27 (fun r_2 S_1 hw => ?_)
        obtain ⟨hc1, hw⟩ := hw
        refine j_i2l F hc1 d_Mo_isWithin_30 ?_
        refine j_lmul F d_Mo_isWithin_31 ?_
        refine j_nml (fun v7_3 e_v7_3 => ?_)
        have hw := hw v7_3 e_v7_3
        refine j_lstore F [(7, vl v7_3), (0, .ref h), (1, vi v1), (2, vi v2), (3, vi v3), (4, vi v4), (5, vi v5), (6, vi v6)] d_Mo_isWithin_32 (by decide) rfl ?_
        refine j_ldc2 (x := 2) F tj_142 (by decide) d_Mo_isWithin_34 ?_
        refine j_aload_n F 1 d_Mo_isWithin_37 rfl ?_
        refine j_iload_n F 2 d_Mo_isWithin_38 rfl ?_
        refine j_iload F 7 d_Mo_isWithin_39 rfl ?_
        refine m_calli F K (c_Mo_cornerY l hw) (tw_gV tj_138 tj_139 tj_140 tj_87 tj_141) q_Mo_cornerY rfl ⟨by decide, by decide⟩ ⟨Nat.zero_le _, Nat.zero_le _⟩ rfl (Nat.le_of_ble_eq_true rfl) d_Mo_isWithin_41 (fun r_5 S_4 hw => ?_)
        obtain ⟨hc1, hw⟩ := hw
        refine j_i2l F hc1 d_Mo_isWithin_44 ?_
        refine j_lmul F d_Mo_isWithin_45 ?_
        refine j_nml (fun v9_6 e_v9_6 => ?_)
        have hw := hw v9_6 e_v9_6
        refine j_lstore F [(9, vl v9_6), (7, vl v7_3), (0, .ref h), (1, vi v1), (2, vi v2), (3, vi v3), (4, vi v4), (5, vi v5), (6, vi v6)] d_Mo_isWithin_46 (by decide) rfl ?_
        refine j_ldc2 (x := 2) F tj_142 (by decide) d_Mo_isWithin_48 ?_
        refine j_aload_n F 2 d_Mo_isWithin_51 rfl ?_
        refine j_iload_n F 3 d_Mo_isWithin_52 rfl ?_
        refine j_iload F 8 d_Mo_isWithin_53 rfl ?_
        refine j_iconst F d_Mo_isWithin_55 ?_
        refine j_iadd F d_Mo_isWithin_56 ?_
        refine m_calli F K (c_Mo_cornerX l hw) (tw_gV tj_134 tj_135 tj_136 tj_87 tj_137) q_Mo_cornerX rfl ⟨by decide, by decide⟩ ⟨Nat.zero_le _, Nat.zero_le _⟩ rfl (Nat.le_of_ble_eq_true rfl) d_Mo_isWithin_57 (fun r_8 S_7 hw => ?_)
        obtain ⟨hc1, hw⟩ := hw
        refine j_i2l F hc1 d_Mo_isWithin_60 ?_
        refine j_lmul F d_Mo_isWithin_61 ?_
        refine j_nml (fun v11_9 e_v11_9 => ?_)
        have hw := hw v11_9 e_v11_9
        refine j_lstore F [(11, vl v11_9), (9, vl v9_6), (7, vl v7_3), (0, .ref h), (1, vi v1), (2, vi v2), (3, vi v3), (4, vi v4), (5, vi v5), (6, vi v6)] d_Mo_isWithin_62 (by decide) rfl ?_
        refine j_ldc2 (x := 2) F tj_142 (by decide) d_Mo_isWithin_64 ?_
        refine j_aload_n F 3 d_Mo_isWithin_67 rfl ?_
        refine j_iload_n F 4 d_Mo_isWithin_68 rfl ?_
        refine j_iload F 9 d_Mo_isWithin_69 rfl ?_
        refine j_iconst F d_Mo_isWithin_71 ?_
        refine j_iadd F d_Mo_isWithin_72 ?_
        refine m_calli F K (c_Mo_cornerY l hw) (tw_gV tj_138 tj_139 tj_140 tj_87 tj_141) q_Mo_cornerY rfl ⟨by decide, by decide⟩ ⟨Nat.zero_le _, Nat.zero_le _⟩ rfl (Nat.le_of_ble_eq_true rfl) d_Mo_isWithin_73 (fun r_11 S_10 hw => ?_)
        obtain ⟨hc1, hw⟩ := hw
        refine j_i2l F hc1 d_Mo_isWithin_76 ?_
        refine j_lmul F d_Mo_isWithin_77 ?_
        refine j_nml (fun v13_12 e_v13_12 => ?_)
        have hw := hw v13_12 e_v13_12
        refine j_lstore F [(13, vl v13_12), (11, vl v11_9), (9, vl v9_6), (7, vl v7_3), (0, .ref h), (1, vi v1), (2, vi v2), (3, vi v3), (4, vi v4), (5, vi v5), (6, vi v6)] d_Mo_isWithin_78 (by decide) rfl ?_
        refine j_lload F 1 d_Mo_isWithin_80 rfl ?_
        refine j_lload F 3 d_Mo_isWithin_82 rfl ?_
        refine j_lsub F d_Mo_isWithin_84 ?_
        refine j_iload_n F 7 d_Mo_isWithin_85 rfl ?_
        obtain ⟨hc1, hw⟩ := hw
        refine j_i2l F hc1 d_Mo_isWithin_86 ?_
        refine j_lload F 2 d_Mo_isWithin_87 rfl ?_
        refine j_lsub F d_Mo_isWithin_89 ?_
        refine j_lmul F d_Mo_isWithin_90 ?_
        refine j_lload F 0 d_Mo_isWithin_91 rfl ?_
        refine j_lload F 2 d_Mo_isWithin_93 rfl ?_
        refine j_lsub F d_Mo_isWithin_95 ?_
        refine j_iload_n F 6 d_Mo_isWithin_96 rfl ?_
        obtain ⟨hc1, hw⟩ := hw
        refine j_i2l F hc1 d_Mo_isWithin_97 ?_
        refine j_lload F 3 d_Mo_isWithin_98 rfl ?_
        refine j_lsub F d_Mo_isWithin_100 ?_
        refine j_lmul F d_Mo_isWithin_101 ?_
        refine j_lsub F d_Mo_isWithin_102 ?_
        refine j_nml (fun v15_13 e_v15_13 => ?_)
        have hw := hw v15_13 e_v15_13
        refine j_lstore F [(15, vl v15_13), (13, vl v13_12), (11, vl v11_9), (9, vl v9_6), (7, vl v7_3), (0, .ref h), (1, vi v1), (2, vi v2), (3, vi v3), (4, vi v4), (5, vi v5), (6, vi v6)] d_Mo_isWithin_103 (by decide) rfl ?_
        refine j_lload F 4 d_Mo_isWithin_105 rfl ?_
        refine j_lload F 2 d_Mo_isWithin_107 rfl ?_
        obtain ⟨hc1, hc2, hwt, hwf⟩ := hw
        refine j_lcmp_gt F 137 hc1 hc2 d_Mo_isWithin_109 d_Mo_isWithin_110 rfl (fun hh => ?_) (fun hh => ?_)
        · have hw := hwt hh
          refine j_lload F 2 d_Mo_isWithin_137 rfl ?_
          refine j_iload_n F 7 d_Mo_isWithin_139 rfl ?_
          obtain ⟨hc1, hw⟩ := hw
          refine j_i2l F hc1 d_Mo_isWithin_140 ?_
          obtain ⟨hc1, hc2, hwt, hwf⟩ := hw
          refine j_lcmp_gt F 157 hc1 hc2 d_Mo_isWithin_141 d_Mo_isWithin_142 rfl (fun hh => ?_) (fun hh => ?_)
          · have hw := hwt hh
            refine j_iconst F d_Mo_isWithin_157 ?_
            refine j_sub [5, 6, 7, 8, 9, 10, 11, 3, 1, 0] rfl ?_
            exact B158 _ _ _ _ _ _ _ _ _ _ _ hw
          · have hw := hwf hh
            refine j_iload_n F 7 d_Mo_isWithin_145 rfl ?_
            obtain ⟨hc1, hw⟩ := hw
            refine j_i2l F hc1 d_Mo_isWithin_146 ?_
            refine j_lload F 4 d_Mo_isWithin_147 rfl ?_
            obtain ⟨hc1, hc2, hwt, hwf⟩ := hw
            refine j_lcmp_gt F 157 hc1 hc2 d_Mo_isWithin_149 d_Mo_isWithin_150 rfl (fun hh => ?_) (fun hh => ?_)
            · have hw := hwt hh
              refine j_iconst F d_Mo_isWithin_157 ?_
              refine j_sub [5, 6, 7, 8, 9, 10, 11, 3, 1, 0] rfl ?_
              exact B158 _ _ _ _ _ _ _ _ _ _ _ hw
            · have hw := hwf hh
              refine j_iconst F d_Mo_isWithin_153 ?_
              refine j_goto F 158 d_Mo_isWithin_154 rfl ?_
              refine j_sub [5, 6, 7, 8, 9, 10, 11, 3, 1, 0] rfl ?_
              exact B158 _ _ _ _ _ _ _ _ _ _ _ hw
        · have hw := hwf hh
          refine j_lload F 4 d_Mo_isWithin_113 rfl ?_
          refine j_iload_n F 7 d_Mo_isWithin_115 rfl ?_
          obtain ⟨hc1, hw⟩ := hw
          refine j_i2l F hc1 d_Mo_isWithin_116 ?_
          obtain ⟨hc1, hc2, hwt, hwf⟩ := hw
          refine j_lcmp_gt F 133 hc1 hc2 d_Mo_isWithin_117 d_Mo_isWithin_118 rfl (fun hh => ?_) (fun hh => ?_)
          · have hw := hwt hh
            refine j_iconst F d_Mo_isWithin_133 ?_
            refine j_goto F 158 d_Mo_isWithin_134 rfl ?_
            refine j_sub [5, 6, 7, 8, 9, 10, 11, 3, 1, 0] rfl ?_
            exact B158 _ _ _ _ _ _ _ _ _ _ _ hw
          · have hw := hwf hh
            refine j_iload_n F 7 d_Mo_isWithin_121 rfl ?_
            obtain ⟨hc1, hw⟩ := hw
            refine j_i2l F hc1 d_Mo_isWithin_122 ?_
            refine j_lload F 2 d_Mo_isWithin_123 rfl ?_
            obtain ⟨hc1, hc2, hwt, hwf⟩ := hw
            refine j_lcmp_gt F 133 hc1 hc2 d_Mo_isWithin_125 d_Mo_isWithin_126 rfl (fun hh => ?_) (fun hh => ?_)
            · have hw := hwt hh
              refine j_iconst F d_Mo_isWithin_133 ?_
              refine j_goto F 158 d_Mo_isWithin_134 rfl ?_
              refine j_sub [5, 6, 7, 8, 9, 10, 11, 3, 1, 0] rfl ?_
              exact B158 _ _ _ _ _ _ _ _ _ _ _ hw
            · have hw := hwf hh
              refine j_iconst F d_Mo_isWithin_129 ?_
              refine j_goto F 158 d_Mo_isWithin_130 rfl ?_
              refine j_sub [5, 6, 7, 8, 9, 10, 11, 3, 1, 0] rfl ?_
              exact B158 _ _ _ _ _ _ _ _ _ _ _ hw
  unfold wp_Mo_isWithin at hw
  show jat l D X 19 0 [(0, .ref h), (1, vi v1), (2, vi v2), (3, vi v3)] [] (mw h ad kc S) 0 0
  refine j_iconst F d_Mo_isWithin_0 ?_
  refine j_istore F [(4, vi 0), (0, .ref h), (1, vi v1), (2, vi v2), (3, vi v3)] d_Mo_isWithin_1 (by decide) rfl ?_
  refine j_iconst F d_Mo_isWithin_3 ?_
  refine j_istore F [(5, vi 0), (4, vi 0), (0, .ref h), (1, vi v1), (2, vi v2), (3, vi v3)] d_Mo_isWithin_4 (by decide) rfl ?_
  refine j_iconst F d_Mo_isWithin_6 ?_
  refine j_istore F [(6, vi 0), (5, vi 0), (4, vi 0), (0, .ref h), (1, vi v1), (2, vi v2), (3, vi v3)] d_Mo_isWithin_7 (by decide) rfl ?_
  refine j_sub [3, 4, 5, 6, 2, 1, 0] rfl ?_
  obtain ⟨n0, hw⟩ := hw
  exact B9 n0 _ _ _ _ _ _ _ hw
theorem tj_143 : (Jvm.Cond.fieldLink "LandBookModel" (152 : Nat) "LandBookModel" "opened" "Z") ∈ tw_G := tw_in (List.mem_of_getElem? (i := 1047) (by decide +kernel)) rfl
theorem tj_144 : (Jvm.Cond.fieldLink "LandBookModel" (156 : Nat) "LandBookModel" "down" "Z") ∈ tw_G := tw_in (List.mem_of_getElem? (i := 1048) (by decide +kernel)) rfl
theorem tj_145 : (Jvm.Cond.methodLink "LandBookModel" (159 : Nat) ({ cls := "LandBookModel", name := "isSimple", desc := "(Z)Z" } : Jvm.MethodName)) ∈ tw_G := tw_in (List.mem_of_getElem? (i := 1188) (by decide +kernel)) rfl
theorem tj_146 : (Jvm.Cond.instanceMethod ({ cls := "LandBookModel", name := "isSimple", desc := "(Z)Z" } : Jvm.MethodName)) ∈ tw_G := tw_in (List.mem_of_getElem? (i := 1190) (by decide +kernel)) rfl
theorem tj_147 : (Jvm.Cond.selects "LandBookModel" ⟨"LandBookModel", "isSimple", "(Z)Z"⟩ ⟨"LandBookModel", "isSimple", "(Z)Z"⟩) ∈ tw_G := tw_in (List.mem_of_getElem? (i := 20) (by decide +kernel)) rfl
theorem tj_148 : (Jvm.Cond.code ({ cls := "LandBookModel", name := "isSimple", desc := "(Z)Z" } : Jvm.MethodName) prog_13_method_14_code (11 : Nat) (Option.some Jvm.ClassFile.FieldType.boolean)) ∈ tw_G := tw_in (List.mem_of_getElem? (i := 1191) (by decide +kernel)) rfl
theorem tj_149 : (Jvm.Cond.methodLink "LandBookModel" (167 : Nat) ({ cls := "LandBookModel", name := "tidy", desc := "()V" } : Jvm.MethodName)) ∈ tw_G := tw_in (List.mem_of_getElem? (i := 1214) (by decide +kernel)) rfl
theorem tj_150 : (Jvm.Cond.instanceMethod ({ cls := "LandBookModel", name := "tidy", desc := "()V" } : Jvm.MethodName)) ∈ tw_G := tw_in (List.mem_of_getElem? (i := 1216) (by decide +kernel)) rfl
theorem tj_151 : (Jvm.Cond.selects "LandBookModel" ⟨"LandBookModel", "tidy", "()V"⟩ ⟨"LandBookModel", "tidy", "()V"⟩) ∈ tw_G := tw_in (List.mem_of_getElem? (i := 22) (by decide +kernel)) rfl
theorem tj_152 : (Jvm.Cond.code ({ cls := "LandBookModel", name := "tidy", desc := "()V" } : Jvm.MethodName) prog_13_method_18_code (5 : Nat) (Option.none : Option Jvm.ClassFile.FieldType)) ∈ tw_G := tw_in (List.mem_of_getElem? (i := 1217) (by decide +kernel)) rfl
theorem tj_153 : (Jvm.Cond.methodLink "LandBookModel" (170 : Nat) ({ cls := "LandBookModel", name := "give", desc := "(I)V" } : Jvm.MethodName)) ∈ tw_G := tw_in (List.mem_of_getElem? (i := 1226) (by decide +kernel)) rfl
theorem tj_154 : (Jvm.Cond.instanceMethod ({ cls := "LandBookModel", name := "give", desc := "(I)V" } : Jvm.MethodName)) ∈ tw_G := tw_in (List.mem_of_getElem? (i := 1228) (by decide +kernel)) rfl
theorem tj_155 : (Jvm.Cond.selects "LandBookModel" ⟨"LandBookModel", "give", "(I)V"⟩ ⟨"LandBookModel", "give", "(I)V"⟩) ∈ tw_G := tw_in (List.mem_of_getElem? (i := 25) (by decide +kernel)) rfl
theorem tj_156 : (Jvm.Cond.code ({ cls := "LandBookModel", name := "give", desc := "(I)V" } : Jvm.MethodName) prog_13_method_19_code (5 : Nat) (Option.none : Option Jvm.ClassFile.FieldType)) ∈ tw_G := tw_in (List.mem_of_getElem? (i := 1229) (by decide +kernel)) rfl
theorem tj_157 : (Jvm.Cond.fieldLink "LandBookModel" (173 : Nat) "LandBookModel" "lots" "I") ∈ tw_G := tw_in (List.mem_of_getElem? (i := 1053) (by decide +kernel)) rfl
theorem tj_158 : (Jvm.Cond.methodLink "LandBookModel" (163 : Nat) ({ cls := "LandBookModel", name := "make", desc := "(II)V" } : Jvm.MethodName)) ∈ tw_G := tw_in (List.mem_of_getElem? (i := 1210) (by decide +kernel)) rfl
theorem tj_159 : (Jvm.Cond.instanceMethod ({ cls := "LandBookModel", name := "make", desc := "(II)V" } : Jvm.MethodName)) ∈ tw_G := tw_in (List.mem_of_getElem? (i := 1212) (by decide +kernel)) rfl
theorem tj_160 : (Jvm.Cond.selects "LandBookModel" ⟨"LandBookModel", "make", "(II)V"⟩ ⟨"LandBookModel", "make", "(II)V"⟩) ∈ tw_G := tw_in (List.mem_of_getElem? (i := 21) (by decide +kernel)) rfl
theorem tj_161 : (Jvm.Cond.code ({ cls := "LandBookModel", name := "make", desc := "(II)V" } : Jvm.MethodName) prog_13_method_15_code (3 : Nat) (Option.none : Option Jvm.ClassFile.FieldType)) ∈ tw_G := tw_in (List.mem_of_getElem? (i := 1213) (by decide +kernel)) rfl
abbrev y_Mo_open : MethodName := ⟨"LandBookModel", "open", "()Z"⟩
theorem q_Mo_open : y_Mo_open.cls = "LandBookModel" ∧ y_Mo_open.cls ≠ "java/lang/invoke/MethodHandle" ∧ y_Mo_open.cls ≠ "java/lang/invoke/VarHandle" ∧ (parseMethodDescriptor y_Mo_open.desc).map (fun d => d.parameters.length) = some 0 := by decide +kernel
theorem d_Mo_open_0 : decode prog_13_method_24_code 0 = .ok (.aload_n 0, 1) := by decide +kernel
theorem d_Mo_open_1 : decode prog_13_method_24_code 1 = .ok (.aload_n 0, 1) := by decide +kernel
theorem d_Mo_open_2 : decode prog_13_method_24_code 2 = .ok (.getfield 152, 3) := by decide +kernel
theorem d_Mo_open_5 : decode prog_13_method_24_code 5 = .ok (.ifCond .ne 10, 3) := by decide +kernel
theorem d_Mo_open_15 : decode prog_13_method_24_code 15 = .ok (.iconst 1, 1) := by decide +kernel
theorem d_Mo_open_16 : decode prog_13_method_24_code 16 = .ok (.goto 4, 3) := by decide +kernel
theorem d_Mo_open_8 : decode prog_13_method_24_code 8 = .ok (.aload_n 0, 1) := by decide +kernel
theorem d_Mo_open_9 : decode prog_13_method_24_code 9 = .ok (.getfield 156, 3) := by decide +kernel
theorem d_Mo_open_12 : decode prog_13_method_24_code 12 = .ok (.ifCond .eq 7, 3) := by decide +kernel
theorem d_Mo_open_19 : decode prog_13_method_24_code 19 = .ok (.iconst 0, 1) := by decide +kernel
theorem d_Mo_open_20 : decode prog_13_method_24_code 20 = .ok (.putfield 98, 3) := by decide +kernel
theorem d_Mo_open_23 : decode prog_13_method_24_code 23 = .ok (.aload_n 0, 1) := by decide +kernel
theorem d_Mo_open_24 : decode prog_13_method_24_code 24 = .ok (.getfield 98, 3) := by decide +kernel
theorem d_Mo_open_27 : decode prog_13_method_24_code 27 = .ok (.ifCond .ne 23, 3) := by decide +kernel
theorem d_Mo_open_50 : decode prog_13_method_24_code 50 = .ok (.iconst 0, 1) := by decide +kernel
theorem d_Mo_open_30 : decode prog_13_method_24_code 30 = .ok (.aload_n 0, 1) := by decide +kernel
theorem d_Mo_open_31 : decode prog_13_method_24_code 31 = .ok (.getfield 106, 3) := by decide +kernel
theorem d_Mo_open_34 : decode prog_13_method_24_code 34 = .ok (.iconst 3, 1) := by decide +kernel
theorem d_Mo_open_35 : decode prog_13_method_24_code 35 = .ok (.if_icmp .lt 15, 3) := by decide +kernel
theorem d_Mo_open_38 : decode prog_13_method_24_code 38 = .ok (.aload_n 0, 1) := by decide +kernel
theorem d_Mo_open_39 : decode prog_13_method_24_code 39 = .ok (.iconst 1, 1) := by decide +kernel
theorem d_Mo_open_40 : decode prog_13_method_24_code 40 = .ok (.invokevirtual 159, 3) := by decide +kernel
theorem d_Mo_open_43 : decode prog_13_method_24_code 43 = .ok (.ifCond .eq 7, 3) := by decide +kernel
theorem d_Mo_open_46 : decode prog_13_method_24_code 46 = .ok (.iconst 1, 1) := by decide +kernel
theorem d_Mo_open_47 : decode prog_13_method_24_code 47 = .ok (.goto 4, 3) := by decide +kernel
theorem d_Mo_open_51 : decode prog_13_method_24_code 51 = .ok (.istore_n 1, 1) := by decide +kernel
theorem d_Mo_open_52 : decode prog_13_method_24_code 52 = .ok (.iload_n 1, 1) := by decide +kernel
theorem d_Mo_open_53 : decode prog_13_method_24_code 53 = .ok (.ifCond .eq 59, 3) := by decide +kernel
theorem d_Mo_open_56 : decode prog_13_method_24_code 56 = .ok (.aload_n 0, 1) := by decide +kernel
theorem d_Mo_open_57 : decode prog_13_method_24_code 57 = .ok (.iconst 0, 1) := by decide +kernel
theorem d_Mo_open_58 : decode prog_13_method_24_code 58 = .ok (.putfield 132, 3) := by decide +kernel
theorem d_Mo_open_61 : decode prog_13_method_24_code 61 = .ok (.iconst 0, 1) := by decide +kernel
theorem d_Mo_open_62 : decode prog_13_method_24_code 62 = .ok (.istore_n 2, 1) := by decide +kernel
theorem d_Mo_open_112 : decode prog_13_method_24_code 112 = .ok (.aload_n 0, 1) := by decide +kernel
theorem d_Mo_open_113 : decode prog_13_method_24_code 113 = .ok (.iconst 0, 1) := by decide +kernel
theorem d_Mo_open_114 : decode prog_13_method_24_code 114 = .ok (.putfield 106, 3) := by decide +kernel
theorem d_Mo_open_117 : decode prog_13_method_24_code 117 = .ok (.iload_n 1, 1) := by decide +kernel
theorem d_Mo_open_118 : decode prog_13_method_24_code 118 = .ok (.ireturn, 1) := by decide +kernel
theorem d_Mo_open_63 : decode prog_13_method_24_code 63 = .ok (.iload_n 2, 1) := by decide +kernel
theorem d_Mo_open_64 : decode prog_13_method_24_code 64 = .ok (.aload_n 0, 1) := by decide +kernel
theorem d_Mo_open_65 : decode prog_13_method_24_code 65 = .ok (.getfield 106, 3) := by decide +kernel
theorem d_Mo_open_68 : decode prog_13_method_24_code 68 = .ok (.if_icmp .ge 25, 3) := by decide +kernel
theorem d_Mo_open_93 : decode prog_13_method_24_code 93 = .ok (.aload_n 0, 1) := by decide +kernel
theorem d_Mo_open_94 : decode prog_13_method_24_code 94 = .ok (.invokevirtual 167, 3) := by decide +kernel
theorem d_Mo_open_97 : decode prog_13_method_24_code 97 = .ok (.aload_n 0, 1) := by decide +kernel
theorem d_Mo_open_98 : decode prog_13_method_24_code 98 = .ok (.iconst 1, 1) := by decide +kernel
theorem d_Mo_open_99 : decode prog_13_method_24_code 99 = .ok (.invokevirtual 170, 3) := by decide +kernel
theorem d_Mo_open_102 : decode prog_13_method_24_code 102 = .ok (.aload_n 0, 1) := by decide +kernel
theorem d_Mo_open_103 : decode prog_13_method_24_code 103 = .ok (.iconst 1, 1) := by decide +kernel
theorem d_Mo_open_104 : decode prog_13_method_24_code 104 = .ok (.putfield 173, 3) := by decide +kernel
theorem d_Mo_open_107 : decode prog_13_method_24_code 107 = .ok (.aload_n 0, 1) := by decide +kernel
theorem d_Mo_open_108 : decode prog_13_method_24_code 108 = .ok (.iconst 1, 1) := by decide +kernel
theorem d_Mo_open_109 : decode prog_13_method_24_code 109 = .ok (.putfield 152, 3) := by decide +kernel
theorem d_Mo_open_71 : decode prog_13_method_24_code 71 = .ok (.aload_n 0, 1) := by decide +kernel
theorem d_Mo_open_72 : decode prog_13_method_24_code 72 = .ok (.aload_n 0, 1) := by decide +kernel
theorem d_Mo_open_73 : decode prog_13_method_24_code 73 = .ok (.getfield 7, 3) := by decide +kernel
theorem d_Mo_open_76 : decode prog_13_method_24_code 76 = .ok (.iload_n 2, 1) := by decide +kernel
theorem d_Mo_open_77 : decode prog_13_method_24_code 77 = .ok (.iaload, 1) := by decide +kernel
theorem d_Mo_open_78 : decode prog_13_method_24_code 78 = .ok (.aload_n 0, 1) := by decide +kernel
theorem d_Mo_open_79 : decode prog_13_method_24_code 79 = .ok (.getfield 13, 3) := by decide +kernel
theorem d_Mo_open_82 : decode prog_13_method_24_code 82 = .ok (.iload_n 2, 1) := by decide +kernel
theorem d_Mo_open_83 : decode prog_13_method_24_code 83 = .ok (.iaload, 1) := by decide +kernel
theorem d_Mo_open_84 : decode prog_13_method_24_code 84 = .ok (.invokevirtual 163, 3) := by decide +kernel
theorem d_Mo_open_87 : decode prog_13_method_24_code 87 = .ok (.iinc 2 1, 3) := by decide +kernel
theorem d_Mo_open_90 : decode prog_13_method_24_code 90 = .ok (.goto (-27), 3) := by decide +kernel
def wp_Mo_open_112 (post : Int → MS → Prop) (v1 : Int) (S : MS) : Prop := (∀ S_1 : MS, S_1 = ms_i S 4 0 → b01 v1 ∧ post v1 S_1)
def wp_Mo_open_63 (post : Int → MS → Prop) : Nat → Int → Int → MS → Prop
  | 0, _, _, _ => False
  | n + 1, v1, v2, S => inR v2 ∧ inR (S.1 4) ∧ ((S.1 4) ≤ v2 → (wp_Mo_tidy (fun S_1 => wp_Mo_give (fun S_3 => (∀ S_5 : MS, S_5 = ms_i S_3 7 1 → (∀ S_6 : MS, S_6 = ms_i S_5 1 1 → wp_Mo_open_112 post v1 S_6))) 1 S_1)  S)) ∧ (¬ ((S.1 4) ≤ v2) → (ixR v2 32 ∧ (ixR v2 32 ∧ (wp_Mo_make (fun S_7 => (wp_Mo_open_63 post n) v1 (v2 + 1) S_7) (S.2 5 v2.toNat) (S.2 6 v2.toNat) S))))
def wp_Mo_open_51 (post : Int → MS → Prop) (s0 : Int) (S : MS) : Prop := inR s0 ∧ (s0 = 0 → wp_Mo_open_112 post s0 S) ∧ (¬ (s0 = 0) → ((∀ S_1 : MS, S_1 = ms_i S 33 0 → ∃ n0 : Nat, wp_Mo_open_63 post n0 s0 0 S_1)))
def wp_Mo_open_20 (post : Int → MS → Prop) (s0 : Int) (S : MS) : Prop := (∀ S_1 : MS, S_1 = ms_i S 0 s0 → inR (S_1.1 0) ∧ (¬ ((S_1.1 0) = 0) → wp_Mo_open_51 post 0 S_1) ∧ ((S_1.1 0) = 0 → (inR (S_1.1 4) ∧ ((S_1.1 4) < 3 → wp_Mo_open_51 post 0 S_1) ∧ (¬ ((S_1.1 4) < 3) → (wp_Mo_isSimple (fun r_3 S_2 => inR r_3 ∧ (r_3 = 0 → wp_Mo_open_51 post 0 S_2) ∧ (¬ (r_3 = 0) → wp_Mo_open_51 post 1 S_2)) 1 S_1)))))
def wp_Mo_open (post : Int → MS → Prop)  (S : MS) : Prop := inR (S.1 1) ∧ (¬ ((S.1 1) = 0) → wp_Mo_open_20 post 1 S) ∧ ((S.1 1) = 0 → (inR (S.1 2) ∧ ((S.1 2) = 0 → wp_Mo_open_20 post 0 S) ∧ (¬ ((S.1 2) = 0) → wp_Mo_open_20 post 1 S)))
set_option maxHeartbeats 4000000 in
set_option maxRecDepth 100000 in
theorem c_Mo_open (l : Launch) {D : va_G} {h : Nat} {ad : Nat → Nat} {kc : Nat → ClassId} {post : Int → MS → Prop}  {S : MS} (hw : wp_Mo_open post  S) : jMi l D h ad kc y_Mo_open prog_13_method_24_code 3 (some .boolean) 4 112 S [] post := by
  refine j_moz (own := "LandBookModel") (by decide) rfl (Nat.le_of_ble_eq_true rfl) (fun X F K hret => ?_)
  have B112 : ∀ (v1 : Int) (S : MS), wp_Mo_open_112 post v1 S → jat l D X 3 112 [(0, .ref h), (1, vi v1)] [] (mw h ad kc S) 0 0 := by
    intro v1 S hw
    unfold wp_Mo_open_112 at hw
    refine j_aload_n F 0 d_Mo_open_112 rfl ?_
    refine j_iconst F d_Mo_open_113 ?_
    refine m_puti F K 4 (by decide) rfl tj_111 rfl rfl (ty := .int) (by decide +kernel) rfl rfl d_Mo_open_114 (fun S_1 e_S_1 => ?_)
    have hw := hw S_1 e_S_1
    refine j_iload_n F 1 d_Mo_open_117 rfl ?_
    exact hret _ _ _ _ hw.2 hw.1 d_Mo_open_118
  have B63 : ∀ (n0 : Nat) (v1 : Int) (v2 : Int) (S : MS), wp_Mo_open_63 post n0 v1 v2 S → jat l D X 3 63 [(0, .ref h), (1, vi v1), (2, vi v2)] [] (mw h ad kc S) 0 0 := by
    intro n0
    induction n0 with
    | zero => intro v1 v2 S hw; exact hw.elim
    | succ n63 ih63 =>
      intro v1 v2 S hw
      unfold wp_Mo_open_63 at hw
      refine j_iload_n F 2 d_Mo_open_63 rfl ?_
      refine j_aload_n F 0 d_Mo_open_64 rfl ?_
      refine m_geti F K 4 (by decide) rfl tj_111 rfl d_Mo_open_65 ?_
      obtain ⟨hc1, hc2, hwt, hwf⟩ := hw
      refine j_icmp_ge F 93 hc1 hc2 d_Mo_open_68 rfl (fun hh => ?_) (fun hh => ?_)
      · have hw := hwt hh
        refine j_aload_n F 0 d_Mo_open_93 rfl ?_
        refine m_callv F K (c_Mo_tidy l hw) (tw_gV tj_149 tj_150 tj_151 tj_87 tj_152) q_Mo_tidy rfl ⟨by decide, by decide⟩ ⟨Nat.zero_le _, Nat.zero_le _⟩ rfl (Nat.le_of_ble_eq_true rfl) d_Mo_open_94 (fun S_1 hw => ?_)
        refine j_aload_n F 0 d_Mo_open_97 rfl ?_
        refine j_iconst F d_Mo_open_98 ?_
        refine m_callv F K (c_Mo_give l hw) (tw_gV tj_153 tj_154 tj_155 tj_87 tj_156) q_Mo_give rfl ⟨by decide, by decide⟩ ⟨Nat.zero_le _, Nat.zero_le _⟩ rfl (Nat.le_of_ble_eq_true rfl) d_Mo_open_99 (fun S_3 hw => ?_)
        refine j_aload_n F 0 d_Mo_open_102 rfl ?_
        refine j_iconst F d_Mo_open_103 ?_
        refine m_puti F K 7 (by decide) rfl tj_157 rfl rfl (ty := .int) (by decide +kernel) rfl rfl d_Mo_open_104 (fun S_5 e_S_5 => ?_)
        have hw := hw S_5 e_S_5
        refine j_aload_n F 0 d_Mo_open_107 rfl ?_
        refine j_iconst F d_Mo_open_108 ?_
        refine m_puti F K 1 (by decide) rfl tj_143 rfl rfl (ty := .boolean) (by decide +kernel) rfl rfl d_Mo_open_109 (fun S_6 e_S_6 => ?_)
        have hw := hw S_6 e_S_6
        refine j_sub [0, 1] rfl ?_
        exact B112 _ _ hw
      · have hw := hwf hh
        refine j_aload_n F 0 d_Mo_open_71 rfl ?_
        refine j_aload_n F 0 d_Mo_open_72 rfl ?_
        refine m_geta F K 5 (by decide) (by decide) tj_112 rfl d_Mo_open_73 ?_
        refine j_iload_n F 2 d_Mo_open_76 rfl ?_
        obtain ⟨hc1, hw⟩ := hw
        refine m_iald F K 5 0 rfl rfl hc1 d_Mo_open_77 ?_
        refine j_aload_n F 0 d_Mo_open_78 rfl ?_
        refine m_geta F K 6 (by decide) (by decide) tj_113 rfl d_Mo_open_79 ?_
        refine j_iload_n F 2 d_Mo_open_82 rfl ?_
        obtain ⟨hc1, hw⟩ := hw
        refine m_iald F K 6 1 rfl rfl hc1 d_Mo_open_83 ?_
        refine m_callv F K (c_Mo_make l hw) (tw_gV tj_158 tj_159 tj_160 tj_87 tj_161) q_Mo_make rfl ⟨by decide, by decide⟩ ⟨Nat.zero_le _, Nat.zero_le _⟩ rfl (Nat.le_of_ble_eq_true rfl) d_Mo_open_84 (fun S_7 hw => ?_)
        refine j_iinc F 2 [(2, vi (v2 + 1)), (0, .ref h), (1, vi v1)] d_Mo_open_87 rfl (by decide) rfl ?_
        refine j_goto F 63 d_Mo_open_90 rfl ?_
        refine j_sub [1, 2, 0] rfl ?_
        exact ih63 _ _ _ hw
  have B51 : ∀ (s0 : Int) (S : MS), wp_Mo_open_51 post s0 S → jat l D X 3 51 [(0, .ref h)] [vi s0] (mw h ad kc S) 0 0 := by
    intro s0 S hw
    unfold wp_Mo_open_51 at hw
    refine j_istore_n F [(1, vi s0), (0, .ref h)] d_Mo_open_51 (by decide) rfl ?_
    refine j_iload_n F 0 d_Mo_open_52 rfl ?_
    obtain ⟨hc1, hwt, hwf⟩ := hw
    refine j_if_eq F 112 hc1 d_Mo_open_53 rfl (fun hh => ?_) (fun hh => ?_)
    · have hw := hwt hh
      refine j_sub [1, 0] rfl ?_
      exact B112 _ _ hw
    · have hw := hwf hh
      refine j_aload_n F 1 d_Mo_open_56 rfl ?_
      refine j_iconst F d_Mo_open_57 ?_
      refine m_puti F K 33 (by decide) rfl tj_121 rfl rfl (ty := .int) (by decide +kernel) rfl rfl d_Mo_open_58 (fun S_1 e_S_1 => ?_)
      have hw := hw S_1 e_S_1
      refine j_iconst F d_Mo_open_61 ?_
      refine j_istore_n F [(2, vi 0), (1, vi s0), (0, .ref h)] d_Mo_open_62 (by decide) rfl ?_
      refine j_sub [2, 1, 0] rfl ?_
      obtain ⟨n0, hw⟩ := hw
      exact B63 n0 _ _ _ hw
  have B20 : ∀ (s0 : Int) (S : MS), wp_Mo_open_20 post s0 S → jat l D X 3 20 [(0, .ref h)] [vi s0, .ref h] (mw h ad kc S) 0 0 := by
    intro s0 S hw
    unfold wp_Mo_open_20 at hw
    refine m_puti F K 0 (by decide) rfl tj_107 rfl rfl (ty := .int) (by decide +kernel) rfl rfl d_Mo_open_20 (fun S_1 e_S_1 => ?_)
    have hw := hw S_1 e_S_1
    refine j_aload_n F 0 d_Mo_open_23 rfl ?_
    refine m_geti F K 0 (by decide) rfl tj_107 rfl d_Mo_open_24 ?_
    obtain ⟨hc1, hwt, hwf⟩ := hw
    refine j_if_ne F 50 hc1 d_Mo_open_27 rfl (fun hh => ?_) (fun hh => ?_)
    · have hw := hwt hh
      refine j_iconst F d_Mo_open_50 ?_
      exact B51 _ _ hw
    · have hw := hwf hh
      refine j_aload_n F 0 d_Mo_open_30 rfl ?_
      refine m_geti F K 4 (by decide) rfl tj_111 rfl d_Mo_open_31 ?_
      refine j_iconst F d_Mo_open_34 ?_
      obtain ⟨hc1, hwt, hwf⟩ := hw
      refine j_icmp_lt F 50 hc1 ⟨by decide, by decide⟩ d_Mo_open_35 rfl (fun hh => ?_) (fun hh => ?_)
      · have hw := hwt hh
        refine j_iconst F d_Mo_open_50 ?_
        exact B51 _ _ hw
      · have hw := hwf hh
        refine j_aload_n F 0 d_Mo_open_38 rfl ?_
        refine j_iconst F d_Mo_open_39 ?_
        refine m_calli F K (c_Mo_isSimple l hw) (tw_gV tj_145 tj_146 tj_147 tj_87 tj_148) q_Mo_isSimple rfl ⟨by decide, by decide⟩ ⟨Nat.zero_le _, Nat.zero_le _⟩ rfl (Nat.le_of_ble_eq_true rfl) d_Mo_open_40 (fun r_3 S_2 hw => ?_)
        obtain ⟨hc1, hwt, hwf⟩ := hw
        refine j_if_eq F 50 hc1 d_Mo_open_43 rfl (fun hh => ?_) (fun hh => ?_)
        · have hw := hwt hh
          refine j_iconst F d_Mo_open_50 ?_
          exact B51 _ _ hw
        · have hw := hwf hh
          refine j_iconst F d_Mo_open_46 ?_
          refine j_goto F 51 d_Mo_open_47 rfl ?_
          exact B51 _ _ hw
  unfold wp_Mo_open at hw
  show jat l D X 3 0 [(0, .ref h)] [] (mw h ad kc S) 0 0
  refine j_aload_n F 0 d_Mo_open_0 rfl ?_
  refine j_aload_n F 0 d_Mo_open_1 rfl ?_
  refine m_geti F K 1 (by decide) rfl tj_143 rfl d_Mo_open_2 ?_
  obtain ⟨hc1, hwt, hwf⟩ := hw
  refine j_if_ne F 15 hc1 d_Mo_open_5 rfl (fun hh => ?_) (fun hh => ?_)
  · have hw := hwt hh
    refine j_iconst F d_Mo_open_15 ?_
    refine j_goto F 20 d_Mo_open_16 rfl ?_
    exact B20 _ _ hw
  · have hw := hwf hh
    refine j_aload_n F 0 d_Mo_open_8 rfl ?_
    refine m_geti F K 2 (by decide) rfl tj_144 rfl d_Mo_open_9 ?_
    obtain ⟨hc1, hwt, hwf⟩ := hw
    refine j_if_eq F 19 hc1 d_Mo_open_12 rfl (fun hh => ?_) (fun hh => ?_)
    · have hw := hwt hh
      refine j_iconst F d_Mo_open_19 ?_
      exact B20 _ _ hw
    · have hw := hwf hh
      refine j_iconst F d_Mo_open_15 ?_
      refine j_goto F 20 d_Mo_open_16 rfl ?_
      exact B20 _ _ hw
theorem tj_162 : (Jvm.Cond.fieldLink "LandBookModel" (40 : Nat) "LandBookModel" "days" "[I") ∈ tw_G := tw_in (List.mem_of_getElem? (i := 1063) (by decide +kernel)) rfl
abbrev y_Mo_isInForce : MethodName := ⟨"LandBookModel", "isInForce", "(III)Z"⟩
theorem q_Mo_isInForce : y_Mo_isInForce.cls = "LandBookModel" ∧ y_Mo_isInForce.cls ≠ "java/lang/invoke/MethodHandle" ∧ y_Mo_isInForce.cls ≠ "java/lang/invoke/VarHandle" ∧ (parseMethodDescriptor y_Mo_isInForce.desc).map (fun d => d.parameters.length) = some 3 := by decide +kernel
theorem d_Mo_isInForce_0 : decode prog_13_method_25_code 0 = .ok (.aload_n 0, 1) := by decide +kernel
theorem d_Mo_isInForce_1 : decode prog_13_method_25_code 1 = .ok (.getfield 40, 3) := by decide +kernel
theorem d_Mo_isInForce_4 : decode prog_13_method_25_code 4 = .ok (.iload_n 1, 1) := by decide +kernel
theorem d_Mo_isInForce_5 : decode prog_13_method_25_code 5 = .ok (.iaload, 1) := by decide +kernel
theorem d_Mo_isInForce_6 : decode prog_13_method_25_code 6 = .ok (.iload_n 2, 1) := by decide +kernel
theorem d_Mo_isInForce_7 : decode prog_13_method_25_code 7 = .ok (.if_icmp .gt 12, 3) := by decide +kernel
theorem d_Mo_isInForce_19 : decode prog_13_method_25_code 19 = .ok (.iconst 0, 1) := by decide +kernel
theorem d_Mo_isInForce_20 : decode prog_13_method_25_code 20 = .ok (.ireturn, 1) := by decide +kernel
theorem d_Mo_isInForce_10 : decode prog_13_method_25_code 10 = .ok (.iload_n 1, 1) := by decide +kernel
theorem d_Mo_isInForce_11 : decode prog_13_method_25_code 11 = .ok (.iload_n 3, 1) := by decide +kernel
theorem d_Mo_isInForce_12 : decode prog_13_method_25_code 12 = .ok (.if_icmp .gt 7, 3) := by decide +kernel
theorem d_Mo_isInForce_15 : decode prog_13_method_25_code 15 = .ok (.iconst 1, 1) := by decide +kernel
theorem d_Mo_isInForce_16 : decode prog_13_method_25_code 16 = .ok (.goto 4, 3) := by decide +kernel
def wp_Mo_isInForce (post : Int → MS → Prop) (v1 : Int) (v2 : Int) (v3 : Int) (S : MS) : Prop := ixR v1 601 ∧ (inR (S.2 17 v1.toNat) ∧ inR v2 ∧ (v2 < (S.2 17 v1.toNat) → post 0 S) ∧ (¬ (v2 < (S.2 17 v1.toNat)) → (inR v1 ∧ inR v3 ∧ (v3 < v1 → post 0 S) ∧ (¬ (v3 < v1) → post 1 S))))
set_option maxHeartbeats 4000000 in
set_option maxRecDepth 100000 in
theorem c_Mo_isInForce (l : Launch) {D : va_G} {h : Nat} {ad : Nat → Nat} {kc : Nat → ClassId} {post : Int → MS → Prop} {v1 : Int} {v2 : Int} {v3 : Int} {S : MS} (hw : wp_Mo_isInForce post v1 v2 v3 S) : jMi l D h ad kc y_Mo_isInForce prog_13_method_25_code 4 (some .boolean) 0 0 S [vi v1, vi v2, vi v3] post := by
  refine j_moz (own := "LandBookModel") (by decide) rfl (Nat.le_of_ble_eq_true rfl) (fun X F K hret => ?_)
  unfold wp_Mo_isInForce at hw
  show jat l D X 4 0 [(0, .ref h), (1, vi v1), (2, vi v2), (3, vi v3)] [] (mw h ad kc S) 0 0
  refine j_aload_n F 0 d_Mo_isInForce_0 rfl ?_
  refine m_geta F K 17 (by decide) (by decide) tj_162 rfl d_Mo_isInForce_1 ?_
  refine j_iload_n F 1 d_Mo_isInForce_4 rfl ?_
  obtain ⟨hc1, hw⟩ := hw
  refine m_iald F K 17 10 rfl rfl hc1 d_Mo_isInForce_5 ?_
  refine j_iload_n F 2 d_Mo_isInForce_6 rfl ?_
  obtain ⟨hc1, hc2, hwt, hwf⟩ := hw
  refine j_icmp_gt F 19 hc1 hc2 d_Mo_isInForce_7 rfl (fun hh => ?_) (fun hh => ?_)
  · have hw := hwt hh
    refine j_iconst F d_Mo_isInForce_19 ?_
    exact hret _ _ _ _ hw (Or.inl rfl) d_Mo_isInForce_20
  · have hw := hwf hh
    refine j_iload_n F 1 d_Mo_isInForce_10 rfl ?_
    refine j_iload_n F 3 d_Mo_isInForce_11 rfl ?_
    obtain ⟨hc1, hc2, hwt, hwf⟩ := hw
    refine j_icmp_gt F 19 hc1 hc2 d_Mo_isInForce_12 rfl (fun hh => ?_) (fun hh => ?_)
    · have hw := hwt hh
      refine j_iconst F d_Mo_isInForce_19 ?_
      exact hret _ _ _ _ hw (Or.inl rfl) d_Mo_isInForce_20
    · have hw := hwf hh
      refine j_iconst F d_Mo_isInForce_15 ?_
      refine j_goto F 20 d_Mo_isInForce_16 rfl ?_
      exact hret _ _ _ _ hw (Or.inr rfl) d_Mo_isInForce_20
theorem tj_163 : (Jvm.Cond.fieldLink "LandBookModel" (25 : Nat) "LandBookModel" "began" "[I") ∈ tw_G := tw_in (List.mem_of_getElem? (i := 1057) (by decide +kernel)) rfl
theorem tj_164 : (Jvm.Cond.methodLink "LandBookModel" (176 : Nat) ({ cls := "LandBookModel", name := "isInForce", desc := "(III)Z" } : Jvm.MethodName)) ∈ tw_G := tw_in (List.mem_of_getElem? (i := 1253) (by decide +kernel)) rfl
theorem tj_165 : (Jvm.Cond.instanceMethod ({ cls := "LandBookModel", name := "isInForce", desc := "(III)Z" } : Jvm.MethodName)) ∈ tw_G := tw_in (List.mem_of_getElem? (i := 1255) (by decide +kernel)) rfl
theorem tj_166 : (Jvm.Cond.selects "LandBookModel" ⟨"LandBookModel", "isInForce", "(III)Z"⟩ ⟨"LandBookModel", "isInForce", "(III)Z"⟩) ∈ tw_G := tw_in (List.mem_of_getElem? (i := 30) (by decide +kernel)) rfl
theorem tj_167 : (Jvm.Cond.code ({ cls := "LandBookModel", name := "isInForce", desc := "(III)Z" } : Jvm.MethodName) prog_13_method_25_code (4 : Nat) (Option.some Jvm.ClassFile.FieldType.boolean)) ∈ tw_G := tw_in (List.mem_of_getElem? (i := 1256) (by decide +kernel)) rfl
theorem tj_168 : (Jvm.Cond.fieldLink "LandBookModel" (28 : Nat) "LandBookModel" "ended" "[I") ∈ tw_G := tw_in (List.mem_of_getElem? (i := 1058) (by decide +kernel)) rfl
abbrev y_Mo_isInBeing : MethodName := ⟨"LandBookModel", "isInBeing", "(III)Z"⟩
theorem q_Mo_isInBeing : y_Mo_isInBeing.cls = "LandBookModel" ∧ y_Mo_isInBeing.cls ≠ "java/lang/invoke/MethodHandle" ∧ y_Mo_isInBeing.cls ≠ "java/lang/invoke/VarHandle" ∧ (parseMethodDescriptor y_Mo_isInBeing.desc).map (fun d => d.parameters.length) = some 3 := by decide +kernel
theorem d_Mo_isInBeing_0 : decode prog_13_method_26_code 0 = .ok (.aload_n 0, 1) := by decide +kernel
theorem d_Mo_isInBeing_1 : decode prog_13_method_26_code 1 = .ok (.getfield 25, 3) := by decide +kernel
theorem d_Mo_isInBeing_4 : decode prog_13_method_26_code 4 = .ok (.iload_n 1, 1) := by decide +kernel
theorem d_Mo_isInBeing_5 : decode prog_13_method_26_code 5 = .ok (.iaload, 1) := by decide +kernel
theorem d_Mo_isInBeing_6 : decode prog_13_method_26_code 6 = .ok (.ifCond .eq 18, 3) := by decide +kernel
theorem d_Mo_isInBeing_24 : decode prog_13_method_26_code 24 = .ok (.iconst 1, 1) := by decide +kernel
theorem d_Mo_isInBeing_25 : decode prog_13_method_26_code 25 = .ok (.goto 4, 3) := by decide +kernel
theorem d_Mo_isInBeing_9 : decode prog_13_method_26_code 9 = .ok (.aload_n 0, 1) := by decide +kernel
theorem d_Mo_isInBeing_10 : decode prog_13_method_26_code 10 = .ok (.aload_n 0, 1) := by decide +kernel
theorem d_Mo_isInBeing_11 : decode prog_13_method_26_code 11 = .ok (.getfield 25, 3) := by decide +kernel
theorem d_Mo_isInBeing_14 : decode prog_13_method_26_code 14 = .ok (.iload_n 1, 1) := by decide +kernel
theorem d_Mo_isInBeing_15 : decode prog_13_method_26_code 15 = .ok (.iaload, 1) := by decide +kernel
theorem d_Mo_isInBeing_16 : decode prog_13_method_26_code 16 = .ok (.iload_n 2, 1) := by decide +kernel
theorem d_Mo_isInBeing_17 : decode prog_13_method_26_code 17 = .ok (.iload_n 3, 1) := by decide +kernel
theorem d_Mo_isInBeing_18 : decode prog_13_method_26_code 18 = .ok (.invokevirtual 176, 3) := by decide +kernel
theorem d_Mo_isInBeing_21 : decode prog_13_method_26_code 21 = .ok (.ifCond .eq 7, 3) := by decide +kernel
theorem d_Mo_isInBeing_28 : decode prog_13_method_26_code 28 = .ok (.iconst 0, 1) := by decide +kernel
theorem d_Mo_isInBeing_29 : decode prog_13_method_26_code 29 = .ok (.istore 4, 2) := by decide +kernel
theorem d_Mo_isInBeing_31 : decode prog_13_method_26_code 31 = .ok (.iload 4, 2) := by decide +kernel
theorem d_Mo_isInBeing_33 : decode prog_13_method_26_code 33 = .ok (.ifCond .eq 31, 3) := by decide +kernel
theorem d_Mo_isInBeing_64 : decode prog_13_method_26_code 64 = .ok (.iconst 0, 1) := by decide +kernel
theorem d_Mo_isInBeing_65 : decode prog_13_method_26_code 65 = .ok (.ireturn, 1) := by decide +kernel
theorem d_Mo_isInBeing_36 : decode prog_13_method_26_code 36 = .ok (.aload_n 0, 1) := by decide +kernel
theorem d_Mo_isInBeing_37 : decode prog_13_method_26_code 37 = .ok (.getfield 28, 3) := by decide +kernel
theorem d_Mo_isInBeing_40 : decode prog_13_method_26_code 40 = .ok (.iload_n 1, 1) := by decide +kernel
theorem d_Mo_isInBeing_41 : decode prog_13_method_26_code 41 = .ok (.iaload, 1) := by decide +kernel
theorem d_Mo_isInBeing_42 : decode prog_13_method_26_code 42 = .ok (.ifCond .eq 18, 3) := by decide +kernel
theorem d_Mo_isInBeing_60 : decode prog_13_method_26_code 60 = .ok (.iconst 1, 1) := by decide +kernel
theorem d_Mo_isInBeing_61 : decode prog_13_method_26_code 61 = .ok (.goto 4, 3) := by decide +kernel
theorem d_Mo_isInBeing_45 : decode prog_13_method_26_code 45 = .ok (.aload_n 0, 1) := by decide +kernel
theorem d_Mo_isInBeing_46 : decode prog_13_method_26_code 46 = .ok (.aload_n 0, 1) := by decide +kernel
theorem d_Mo_isInBeing_47 : decode prog_13_method_26_code 47 = .ok (.getfield 28, 3) := by decide +kernel
theorem d_Mo_isInBeing_50 : decode prog_13_method_26_code 50 = .ok (.iload_n 1, 1) := by decide +kernel
theorem d_Mo_isInBeing_51 : decode prog_13_method_26_code 51 = .ok (.iaload, 1) := by decide +kernel
theorem d_Mo_isInBeing_52 : decode prog_13_method_26_code 52 = .ok (.iload_n 2, 1) := by decide +kernel
theorem d_Mo_isInBeing_53 : decode prog_13_method_26_code 53 = .ok (.iload_n 3, 1) := by decide +kernel
theorem d_Mo_isInBeing_54 : decode prog_13_method_26_code 54 = .ok (.invokevirtual 176, 3) := by decide +kernel
theorem d_Mo_isInBeing_57 : decode prog_13_method_26_code 57 = .ok (.ifCond .ne 7, 3) := by decide +kernel
def wp_Mo_isInBeing_29 (post : Int → MS → Prop) (v1 : Int) (v2 : Int) (v3 : Int) (s0 : Int) (S : MS) : Prop := inR s0 ∧ (s0 = 0 → post 0 S) ∧ (¬ (s0 = 0) → (ixR v1 302 ∧ (inR (S.2 12 v1.toNat) ∧ ((S.2 12 v1.toNat) = 0 → post 1 S) ∧ (¬ ((S.2 12 v1.toNat) = 0) → (ixR v1 302 ∧ (wp_Mo_isInForce (fun r_2 S_1 => inR r_2 ∧ (¬ (r_2 = 0) → post 0 S_1) ∧ (r_2 = 0 → post 1 S_1)) (S.2 12 v1.toNat) v2 v3 S))))))
def wp_Mo_isInBeing (post : Int → MS → Prop) (v1 : Int) (v2 : Int) (v3 : Int) (S : MS) : Prop := ixR v1 302 ∧ (inR (S.2 11 v1.toNat) ∧ ((S.2 11 v1.toNat) = 0 → wp_Mo_isInBeing_29 post v1 v2 v3 1 S) ∧ (¬ ((S.2 11 v1.toNat) = 0) → (ixR v1 302 ∧ (wp_Mo_isInForce (fun r_2 S_1 => inR r_2 ∧ (r_2 = 0 → wp_Mo_isInBeing_29 post v1 v2 v3 0 S_1) ∧ (¬ (r_2 = 0) → wp_Mo_isInBeing_29 post v1 v2 v3 1 S_1)) (S.2 11 v1.toNat) v2 v3 S))))
set_option maxHeartbeats 4000000 in
set_option maxRecDepth 100000 in
theorem c_Mo_isInBeing (l : Launch) {D : va_G} {h : Nat} {ad : Nat → Nat} {kc : Nat → ClassId} {post : Int → MS → Prop} {v1 : Int} {v2 : Int} {v3 : Int} {S : MS} (hw : wp_Mo_isInBeing post v1 v2 v3 S) : jMi l D h ad kc y_Mo_isInBeing prog_13_method_26_code 5 (some .boolean) 1 23 S [vi v1, vi v2, vi v3] post := by
  refine j_moz (own := "LandBookModel") (by decide) rfl (Nat.le_of_ble_eq_true rfl) (fun X F K hret => ?_)
  have B29 : ∀ (v1 : Int) (v2 : Int) (v3 : Int) (s0 : Int) (S : MS), wp_Mo_isInBeing_29 post v1 v2 v3 s0 S → jat l D X 5 29 [(0, .ref h), (1, vi v1), (2, vi v2), (3, vi v3)] [vi s0] (mw h ad kc S) 0 0 := by
    intro v1 v2 v3 s0 S hw
    unfold wp_Mo_isInBeing_29 at hw
    refine j_istore F [(4, vi s0), (0, .ref h), (1, vi v1), (2, vi v2), (3, vi v3)] d_Mo_isInBeing_29 (by decide) rfl ?_
    refine j_iload F 0 d_Mo_isInBeing_31 rfl ?_
    obtain ⟨hc1, hwt, hwf⟩ := hw
    refine j_if_eq F 64 hc1 d_Mo_isInBeing_33 rfl (fun hh => ?_) (fun hh => ?_)
    · have hw := hwt hh
      refine j_iconst F d_Mo_isInBeing_64 ?_
      exact hret _ _ _ _ hw (Or.inl rfl) d_Mo_isInBeing_65
    · have hw := hwf hh
      refine j_aload_n F 1 d_Mo_isInBeing_36 rfl ?_
      refine m_geta F K 12 (by decide) (by decide) tj_168 rfl d_Mo_isInBeing_37 ?_
      refine j_iload_n F 2 d_Mo_isInBeing_40 rfl ?_
      obtain ⟨hc1, hw⟩ := hw
      refine m_iald F K 12 6 rfl rfl hc1 d_Mo_isInBeing_41 ?_
      obtain ⟨hc1, hwt, hwf⟩ := hw
      refine j_if_eq F 60 hc1 d_Mo_isInBeing_42 rfl (fun hh => ?_) (fun hh => ?_)
      · have hw := hwt hh
        refine j_iconst F d_Mo_isInBeing_60 ?_
        refine j_goto F 65 d_Mo_isInBeing_61 rfl ?_
        exact hret _ _ _ _ hw (Or.inr rfl) d_Mo_isInBeing_65
      · have hw := hwf hh
        refine j_aload_n F 1 d_Mo_isInBeing_45 rfl ?_
        refine j_aload_n F 1 d_Mo_isInBeing_46 rfl ?_
        refine m_geta F K 12 (by decide) (by decide) tj_168 rfl d_Mo_isInBeing_47 ?_
        refine j_iload_n F 2 d_Mo_isInBeing_50 rfl ?_
        obtain ⟨hc1, hw⟩ := hw
        refine m_iald F K 12 6 rfl rfl hc1 d_Mo_isInBeing_51 ?_
        refine j_iload_n F 3 d_Mo_isInBeing_52 rfl ?_
        refine j_iload_n F 4 d_Mo_isInBeing_53 rfl ?_
        refine m_calli F K (c_Mo_isInForce l hw) (tw_gV tj_164 tj_165 tj_166 tj_87 tj_167) q_Mo_isInForce rfl ⟨by decide, by decide⟩ ⟨Nat.zero_le _, Nat.zero_le _⟩ rfl (Nat.le_of_ble_eq_true rfl) d_Mo_isInBeing_54 (fun r_2 S_1 hw => ?_)
        obtain ⟨hc1, hwt, hwf⟩ := hw
        refine j_if_ne F 64 hc1 d_Mo_isInBeing_57 rfl (fun hh => ?_) (fun hh => ?_)
        · have hw := hwt hh
          refine j_iconst F d_Mo_isInBeing_64 ?_
          exact hret _ _ _ _ hw (Or.inl rfl) d_Mo_isInBeing_65
        · have hw := hwf hh
          refine j_iconst F d_Mo_isInBeing_60 ?_
          refine j_goto F 65 d_Mo_isInBeing_61 rfl ?_
          exact hret _ _ _ _ hw (Or.inr rfl) d_Mo_isInBeing_65
  unfold wp_Mo_isInBeing at hw
  show jat l D X 5 0 [(0, .ref h), (1, vi v1), (2, vi v2), (3, vi v3)] [] (mw h ad kc S) 0 0
  refine j_aload_n F 0 d_Mo_isInBeing_0 rfl ?_
  refine m_geta F K 11 (by decide) (by decide) tj_163 rfl d_Mo_isInBeing_1 ?_
  refine j_iload_n F 1 d_Mo_isInBeing_4 rfl ?_
  obtain ⟨hc1, hw⟩ := hw
  refine m_iald F K 11 5 rfl rfl hc1 d_Mo_isInBeing_5 ?_
  obtain ⟨hc1, hwt, hwf⟩ := hw
  refine j_if_eq F 24 hc1 d_Mo_isInBeing_6 rfl (fun hh => ?_) (fun hh => ?_)
  · have hw := hwt hh
    refine j_iconst F d_Mo_isInBeing_24 ?_
    refine j_goto F 29 d_Mo_isInBeing_25 rfl ?_
    exact B29 _ _ _ _ _ hw
  · have hw := hwf hh
    refine j_aload_n F 0 d_Mo_isInBeing_9 rfl ?_
    refine j_aload_n F 0 d_Mo_isInBeing_10 rfl ?_
    refine m_geta F K 11 (by decide) (by decide) tj_163 rfl d_Mo_isInBeing_11 ?_
    refine j_iload_n F 1 d_Mo_isInBeing_14 rfl ?_
    obtain ⟨hc1, hw⟩ := hw
    refine m_iald F K 11 5 rfl rfl hc1 d_Mo_isInBeing_15 ?_
    refine j_iload_n F 2 d_Mo_isInBeing_16 rfl ?_
    refine j_iload_n F 3 d_Mo_isInBeing_17 rfl ?_
    refine m_calli F K (c_Mo_isInForce l hw) (tw_gV tj_164 tj_165 tj_166 tj_87 tj_167) q_Mo_isInForce rfl ⟨by decide, by decide⟩ ⟨Nat.zero_le _, Nat.zero_le _⟩ rfl (Nat.le_of_ble_eq_true rfl) d_Mo_isInBeing_18 (fun r_2 S_1 hw => ?_)
    obtain ⟨hc1, hwt, hwf⟩ := hw
    refine j_if_eq F 28 hc1 d_Mo_isInBeing_21 rfl (fun hh => ?_) (fun hh => ?_)
    · have hw := hwt hh
      refine j_iconst F d_Mo_isInBeing_28 ?_
      exact B29 _ _ _ _ _ hw
    · have hw := hwf hh
      refine j_iconst F d_Mo_isInBeing_24 ?_
      refine j_goto F 29 d_Mo_isInBeing_25 rfl ?_
      exact B29 _ _ _ _ _ hw
theorem tj_169 : (Jvm.Cond.fieldLink "LandBookModel" (64 : Nat) "LandBookModel" "granted" "[I") ∈ tw_G := tw_in (List.mem_of_getElem? (i := 1072) (by decide +kernel)) rfl
theorem tj_170 : (Jvm.Cond.fieldLink "LandBookModel" (67 : Nat) "LandBookModel" "released" "[I") ∈ tw_G := tw_in (List.mem_of_getElem? (i := 1073) (by decide +kernel)) rfl
abbrev y_Mo_stands : MethodName := ⟨"LandBookModel", "stands", "(III)Z"⟩
theorem q_Mo_stands : y_Mo_stands.cls = "LandBookModel" ∧ y_Mo_stands.cls ≠ "java/lang/invoke/MethodHandle" ∧ y_Mo_stands.cls ≠ "java/lang/invoke/VarHandle" ∧ (parseMethodDescriptor y_Mo_stands.desc).map (fun d => d.parameters.length) = some 3 := by decide +kernel
theorem d_Mo_stands_0 : decode prog_13_method_27_code 0 = .ok (.aload_n 0, 1) := by decide +kernel
theorem d_Mo_stands_1 : decode prog_13_method_27_code 1 = .ok (.aload_n 0, 1) := by decide +kernel
theorem d_Mo_stands_2 : decode prog_13_method_27_code 2 = .ok (.getfield 64, 3) := by decide +kernel
theorem d_Mo_stands_5 : decode prog_13_method_27_code 5 = .ok (.iload_n 1, 1) := by decide +kernel
theorem d_Mo_stands_6 : decode prog_13_method_27_code 6 = .ok (.iaload, 1) := by decide +kernel
theorem d_Mo_stands_7 : decode prog_13_method_27_code 7 = .ok (.iload_n 2, 1) := by decide +kernel
theorem d_Mo_stands_8 : decode prog_13_method_27_code 8 = .ok (.iload_n 3, 1) := by decide +kernel
theorem d_Mo_stands_9 : decode prog_13_method_27_code 9 = .ok (.invokevirtual 176, 3) := by decide +kernel
theorem d_Mo_stands_12 : decode prog_13_method_27_code 12 = .ok (.ifCond .eq 31, 3) := by decide +kernel
theorem d_Mo_stands_43 : decode prog_13_method_27_code 43 = .ok (.iconst 0, 1) := by decide +kernel
theorem d_Mo_stands_44 : decode prog_13_method_27_code 44 = .ok (.ireturn, 1) := by decide +kernel
theorem d_Mo_stands_15 : decode prog_13_method_27_code 15 = .ok (.aload_n 0, 1) := by decide +kernel
theorem d_Mo_stands_16 : decode prog_13_method_27_code 16 = .ok (.getfield 67, 3) := by decide +kernel
theorem d_Mo_stands_19 : decode prog_13_method_27_code 19 = .ok (.iload_n 1, 1) := by decide +kernel
theorem d_Mo_stands_20 : decode prog_13_method_27_code 20 = .ok (.iaload, 1) := by decide +kernel
theorem d_Mo_stands_21 : decode prog_13_method_27_code 21 = .ok (.ifCond .eq 18, 3) := by decide +kernel
theorem d_Mo_stands_39 : decode prog_13_method_27_code 39 = .ok (.iconst 1, 1) := by decide +kernel
theorem d_Mo_stands_40 : decode prog_13_method_27_code 40 = .ok (.goto 4, 3) := by decide +kernel
theorem d_Mo_stands_24 : decode prog_13_method_27_code 24 = .ok (.aload_n 0, 1) := by decide +kernel
theorem d_Mo_stands_25 : decode prog_13_method_27_code 25 = .ok (.aload_n 0, 1) := by decide +kernel
theorem d_Mo_stands_26 : decode prog_13_method_27_code 26 = .ok (.getfield 67, 3) := by decide +kernel
theorem d_Mo_stands_29 : decode prog_13_method_27_code 29 = .ok (.iload_n 1, 1) := by decide +kernel
theorem d_Mo_stands_30 : decode prog_13_method_27_code 30 = .ok (.iaload, 1) := by decide +kernel
theorem d_Mo_stands_31 : decode prog_13_method_27_code 31 = .ok (.iload_n 2, 1) := by decide +kernel
theorem d_Mo_stands_32 : decode prog_13_method_27_code 32 = .ok (.iload_n 3, 1) := by decide +kernel
theorem d_Mo_stands_33 : decode prog_13_method_27_code 33 = .ok (.invokevirtual 176, 3) := by decide +kernel
theorem d_Mo_stands_36 : decode prog_13_method_27_code 36 = .ok (.ifCond .ne 7, 3) := by decide +kernel
def wp_Mo_stands (post : Int → MS → Prop) (v1 : Int) (v2 : Int) (v3 : Int) (S : MS) : Prop := ixR v1 202 ∧ (wp_Mo_isInForce (fun r_2 S_1 => inR r_2 ∧ (r_2 = 0 → post 0 S_1) ∧ (¬ (r_2 = 0) → (ixR v1 202 ∧ (inR (S_1.2 27 v1.toNat) ∧ ((S_1.2 27 v1.toNat) = 0 → post 1 S_1) ∧ (¬ ((S_1.2 27 v1.toNat) = 0) → (ixR v1 202 ∧ (wp_Mo_isInForce (fun r_4 S_3 => inR r_4 ∧ (¬ (r_4 = 0) → post 0 S_3) ∧ (r_4 = 0 → post 1 S_3)) (S_1.2 27 v1.toNat) v2 v3 S_1))))))) (S.2 26 v1.toNat) v2 v3 S)
set_option maxHeartbeats 4000000 in
set_option maxRecDepth 100000 in
theorem c_Mo_stands (l : Launch) {D : va_G} {h : Nat} {ad : Nat → Nat} {kc : Nat → ClassId} {post : Int → MS → Prop} {v1 : Int} {v2 : Int} {v3 : Int} {S : MS} (hw : wp_Mo_stands post v1 v2 v3 S) : jMi l D h ad kc y_Mo_stands prog_13_method_27_code 4 (some .boolean) 1 23 S [vi v1, vi v2, vi v3] post := by
  refine j_moz (own := "LandBookModel") (by decide) rfl (Nat.le_of_ble_eq_true rfl) (fun X F K hret => ?_)
  unfold wp_Mo_stands at hw
  show jat l D X 4 0 [(0, .ref h), (1, vi v1), (2, vi v2), (3, vi v3)] [] (mw h ad kc S) 0 0
  refine j_aload_n F 0 d_Mo_stands_0 rfl ?_
  refine j_aload_n F 0 d_Mo_stands_1 rfl ?_
  refine m_geta F K 26 (by decide) (by decide) tj_169 rfl d_Mo_stands_2 ?_
  refine j_iload_n F 1 d_Mo_stands_5 rfl ?_
  obtain ⟨hc1, hw⟩ := hw
  refine m_iald F K 26 18 rfl rfl hc1 d_Mo_stands_6 ?_
  refine j_iload_n F 2 d_Mo_stands_7 rfl ?_
  refine j_iload_n F 3 d_Mo_stands_8 rfl ?_
  refine m_calli F K (c_Mo_isInForce l hw) (tw_gV tj_164 tj_165 tj_166 tj_87 tj_167) q_Mo_isInForce rfl ⟨by decide, by decide⟩ ⟨Nat.zero_le _, Nat.zero_le _⟩ rfl (Nat.le_of_ble_eq_true rfl) d_Mo_stands_9 (fun r_2 S_1 hw => ?_)
  obtain ⟨hc1, hwt, hwf⟩ := hw
  refine j_if_eq F 43 hc1 d_Mo_stands_12 rfl (fun hh => ?_) (fun hh => ?_)
  · have hw := hwt hh
    refine j_iconst F d_Mo_stands_43 ?_
    exact hret _ _ _ _ hw (Or.inl rfl) d_Mo_stands_44
  · have hw := hwf hh
    refine j_aload_n F 0 d_Mo_stands_15 rfl ?_
    refine m_geta F K 27 (by decide) (by decide) tj_170 rfl d_Mo_stands_16 ?_
    refine j_iload_n F 1 d_Mo_stands_19 rfl ?_
    obtain ⟨hc1, hw⟩ := hw
    refine m_iald F K 27 19 rfl rfl hc1 d_Mo_stands_20 ?_
    obtain ⟨hc1, hwt, hwf⟩ := hw
    refine j_if_eq F 39 hc1 d_Mo_stands_21 rfl (fun hh => ?_) (fun hh => ?_)
    · have hw := hwt hh
      refine j_iconst F d_Mo_stands_39 ?_
      refine j_goto F 44 d_Mo_stands_40 rfl ?_
      exact hret _ _ _ _ hw (Or.inr rfl) d_Mo_stands_44
    · have hw := hwf hh
      refine j_aload_n F 0 d_Mo_stands_24 rfl ?_
      refine j_aload_n F 0 d_Mo_stands_25 rfl ?_
      refine m_geta F K 27 (by decide) (by decide) tj_170 rfl d_Mo_stands_26 ?_
      refine j_iload_n F 1 d_Mo_stands_29 rfl ?_
      obtain ⟨hc1, hw⟩ := hw
      refine m_iald F K 27 19 rfl rfl hc1 d_Mo_stands_30 ?_
      refine j_iload_n F 2 d_Mo_stands_31 rfl ?_
      refine j_iload_n F 3 d_Mo_stands_32 rfl ?_
      refine m_calli F K (c_Mo_isInForce l hw) (tw_gV tj_164 tj_165 tj_166 tj_87 tj_167) q_Mo_isInForce rfl ⟨by decide, by decide⟩ ⟨Nat.zero_le _, Nat.zero_le _⟩ rfl (Nat.le_of_ble_eq_true rfl) d_Mo_stands_33 (fun r_4 S_3 hw => ?_)
      obtain ⟨hc1, hwt, hwf⟩ := hw
      refine j_if_ne F 43 hc1 d_Mo_stands_36 rfl (fun hh => ?_) (fun hh => ?_)
      · have hw := hwt hh
        refine j_iconst F d_Mo_stands_43 ?_
        exact hret _ _ _ _ hw (Or.inl rfl) d_Mo_stands_44
      · have hw := hwf hh
        refine j_iconst F d_Mo_stands_39 ?_
        refine j_goto F 44 d_Mo_stands_40 rfl ?_
        exact hret _ _ _ _ hw (Or.inr rfl) d_Mo_stands_44
theorem tj_171 : (Jvm.Cond.methodLink "LandBookModel" (179 : Nat) ({ cls := "LandBookModel", name := "stands", desc := "(III)Z" } : Jvm.MethodName)) ∈ tw_G := tw_in (List.mem_of_getElem? (i := 1273) (by decide +kernel)) rfl
theorem tj_172 : (Jvm.Cond.instanceMethod ({ cls := "LandBookModel", name := "stands", desc := "(III)Z" } : Jvm.MethodName)) ∈ tw_G := tw_in (List.mem_of_getElem? (i := 1275) (by decide +kernel)) rfl
theorem tj_173 : (Jvm.Cond.selects "LandBookModel" ⟨"LandBookModel", "stands", "(III)Z"⟩ ⟨"LandBookModel", "stands", "(III)Z"⟩) ∈ tw_G := tw_in (List.mem_of_getElem? (i := 35) (by decide +kernel)) rfl
theorem tj_174 : (Jvm.Cond.code ({ cls := "LandBookModel", name := "stands", desc := "(III)Z" } : Jvm.MethodName) prog_13_method_27_code (4 : Nat) (Option.some Jvm.ClassFile.FieldType.boolean)) ∈ tw_G := tw_in (List.mem_of_getElem? (i := 1276) (by decide +kernel)) rfl
theorem tj_175 : (Jvm.Cond.fieldLink "LandBookModel" (73 : Nat) "LandBookModel" "inherits" "[Z") ∈ tw_G := tw_in (List.mem_of_getElem? (i := 1075) (by decide +kernel)) rfl
theorem tj_176 : (Jvm.Cond.fieldLink "LandBookModel" (31 : Nat) "LandBookModel" "parentA" "[I") ∈ tw_G := tw_in (List.mem_of_getElem? (i := 1059) (by decide +kernel)) rfl
theorem tj_177 : (Jvm.Cond.fieldLink "LandBookModel" (34 : Nat) "LandBookModel" "parentB" "[I") ∈ tw_G := tw_in (List.mem_of_getElem? (i := 1060) (by decide +kernel)) rfl
theorem tj_178 : (Jvm.Cond.fieldLink "LandBookModel" (70 : Nat) "LandBookModel" "over" "[I") ∈ tw_G := tw_in (List.mem_of_getElem? (i := 1074) (by decide +kernel)) rfl
abbrev y_Mo_follow : MethodName := ⟨"LandBookModel", "follow", "(I)V"⟩
theorem q_Mo_follow : y_Mo_follow.cls = "LandBookModel" ∧ y_Mo_follow.cls ≠ "java/lang/invoke/MethodHandle" ∧ y_Mo_follow.cls ≠ "java/lang/invoke/VarHandle" ∧ (parseMethodDescriptor y_Mo_follow.desc).map (fun d => d.parameters.length) = some 1 := by decide +kernel
theorem d_Mo_follow_0 : decode prog_13_method_28_code 0 = .ok (.iconst 1, 1) := by decide +kernel
theorem d_Mo_follow_1 : decode prog_13_method_28_code 1 = .ok (.istore_n 2, 1) := by decide +kernel
theorem d_Mo_follow_2 : decode prog_13_method_28_code 2 = .ok (.iload_n 2, 1) := by decide +kernel
theorem d_Mo_follow_3 : decode prog_13_method_28_code 3 = .ok (.aload_n 0, 1) := by decide +kernel
theorem d_Mo_follow_4 : decode prog_13_method_28_code 4 = .ok (.getfield 173, 3) := by decide +kernel
theorem d_Mo_follow_7 : decode prog_13_method_28_code 7 = .ok (.if_icmp .gt 105, 3) := by decide +kernel
theorem d_Mo_follow_112 : decode prog_13_method_28_code 112 = .ok (.return_, 1) := by decide +kernel
theorem d_Mo_follow_10 : decode prog_13_method_28_code 10 = .ok (.aload_n 0, 1) := by decide +kernel
theorem d_Mo_follow_11 : decode prog_13_method_28_code 11 = .ok (.getfield 25, 3) := by decide +kernel
theorem d_Mo_follow_14 : decode prog_13_method_28_code 14 = .ok (.iload_n 2, 1) := by decide +kernel
theorem d_Mo_follow_15 : decode prog_13_method_28_code 15 = .ok (.iaload, 1) := by decide +kernel
theorem d_Mo_follow_16 : decode prog_13_method_28_code 16 = .ok (.istore_n 3, 1) := by decide +kernel
theorem d_Mo_follow_17 : decode prog_13_method_28_code 17 = .ok (.iload_n 3, 1) := by decide +kernel
theorem d_Mo_follow_18 : decode prog_13_method_28_code 18 = .ok (.ifCond .le 59, 3) := by decide +kernel
theorem d_Mo_follow_77 : decode prog_13_method_28_code 77 = .ok (.iconst 0, 1) := by decide +kernel
theorem d_Mo_follow_21 : decode prog_13_method_28_code 21 = .ok (.aload_n 0, 1) := by decide +kernel
theorem d_Mo_follow_22 : decode prog_13_method_28_code 22 = .ok (.iload_n 1, 1) := by decide +kernel
theorem d_Mo_follow_23 : decode prog_13_method_28_code 23 = .ok (.aload_n 0, 1) := by decide +kernel
theorem d_Mo_follow_24 : decode prog_13_method_28_code 24 = .ok (.getfield 40, 3) := by decide +kernel
theorem d_Mo_follow_27 : decode prog_13_method_28_code 27 = .ok (.iload_n 3, 1) := by decide +kernel
theorem d_Mo_follow_28 : decode prog_13_method_28_code 28 = .ok (.iaload, 1) := by decide +kernel
theorem d_Mo_follow_29 : decode prog_13_method_28_code 29 = .ok (.iload_n 3, 1) := by decide +kernel
theorem d_Mo_follow_30 : decode prog_13_method_28_code 30 = .ok (.invokevirtual 179, 3) := by decide +kernel
theorem d_Mo_follow_33 : decode prog_13_method_28_code 33 = .ok (.ifCond .eq 44, 3) := by decide +kernel
theorem d_Mo_follow_36 : decode prog_13_method_28_code 36 = .ok (.aload_n 0, 1) := by decide +kernel
theorem d_Mo_follow_37 : decode prog_13_method_28_code 37 = .ok (.getfield 73, 3) := by decide +kernel
theorem d_Mo_follow_40 : decode prog_13_method_28_code 40 = .ok (.aload_n 0, 1) := by decide +kernel
theorem d_Mo_follow_41 : decode prog_13_method_28_code 41 = .ok (.getfield 31, 3) := by decide +kernel
theorem d_Mo_follow_44 : decode prog_13_method_28_code 44 = .ok (.iload_n 2, 1) := by decide +kernel
theorem d_Mo_follow_45 : decode prog_13_method_28_code 45 = .ok (.iaload, 1) := by decide +kernel
theorem d_Mo_follow_46 : decode prog_13_method_28_code 46 = .ok (.baload, 1) := by decide +kernel
theorem d_Mo_follow_47 : decode prog_13_method_28_code 47 = .ok (.ifCond .ne 26, 3) := by decide +kernel
theorem d_Mo_follow_73 : decode prog_13_method_28_code 73 = .ok (.iconst 1, 1) := by decide +kernel
theorem d_Mo_follow_74 : decode prog_13_method_28_code 74 = .ok (.goto 4, 3) := by decide +kernel
theorem d_Mo_follow_50 : decode prog_13_method_28_code 50 = .ok (.aload_n 0, 1) := by decide +kernel
theorem d_Mo_follow_51 : decode prog_13_method_28_code 51 = .ok (.getfield 34, 3) := by decide +kernel
theorem d_Mo_follow_54 : decode prog_13_method_28_code 54 = .ok (.iload_n 2, 1) := by decide +kernel
theorem d_Mo_follow_55 : decode prog_13_method_28_code 55 = .ok (.iaload, 1) := by decide +kernel
theorem d_Mo_follow_56 : decode prog_13_method_28_code 56 = .ok (.ifCond .le 21, 3) := by decide +kernel
theorem d_Mo_follow_59 : decode prog_13_method_28_code 59 = .ok (.aload_n 0, 1) := by decide +kernel
theorem d_Mo_follow_60 : decode prog_13_method_28_code 60 = .ok (.getfield 73, 3) := by decide +kernel
theorem d_Mo_follow_63 : decode prog_13_method_28_code 63 = .ok (.aload_n 0, 1) := by decide +kernel
theorem d_Mo_follow_64 : decode prog_13_method_28_code 64 = .ok (.getfield 34, 3) := by decide +kernel
theorem d_Mo_follow_67 : decode prog_13_method_28_code 67 = .ok (.iload_n 2, 1) := by decide +kernel
theorem d_Mo_follow_68 : decode prog_13_method_28_code 68 = .ok (.iaload, 1) := by decide +kernel
theorem d_Mo_follow_69 : decode prog_13_method_28_code 69 = .ok (.baload, 1) := by decide +kernel
theorem d_Mo_follow_70 : decode prog_13_method_28_code 70 = .ok (.ifCond .eq 7, 3) := by decide +kernel
theorem d_Mo_follow_78 : decode prog_13_method_28_code 78 = .ok (.istore 4, 2) := by decide +kernel
theorem d_Mo_follow_80 : decode prog_13_method_28_code 80 = .ok (.aload_n 0, 1) := by decide +kernel
theorem d_Mo_follow_81 : decode prog_13_method_28_code 81 = .ok (.getfield 73, 3) := by decide +kernel
theorem d_Mo_follow_84 : decode prog_13_method_28_code 84 = .ok (.iload_n 2, 1) := by decide +kernel
theorem d_Mo_follow_85 : decode prog_13_method_28_code 85 = .ok (.iload_n 2, 1) := by decide +kernel
theorem d_Mo_follow_86 : decode prog_13_method_28_code 86 = .ok (.aload_n 0, 1) := by decide +kernel
theorem d_Mo_follow_87 : decode prog_13_method_28_code 87 = .ok (.getfield 70, 3) := by decide +kernel
theorem d_Mo_follow_90 : decode prog_13_method_28_code 90 = .ok (.iload_n 1, 1) := by decide +kernel
theorem d_Mo_follow_91 : decode prog_13_method_28_code 91 = .ok (.iaload, 1) := by decide +kernel
theorem d_Mo_follow_92 : decode prog_13_method_28_code 92 = .ok (.if_icmp .eq 8, 3) := by decide +kernel
theorem d_Mo_follow_100 : decode prog_13_method_28_code 100 = .ok (.iconst 1, 1) := by decide +kernel
theorem d_Mo_follow_101 : decode prog_13_method_28_code 101 = .ok (.goto 4, 3) := by decide +kernel
theorem d_Mo_follow_95 : decode prog_13_method_28_code 95 = .ok (.iload 4, 2) := by decide +kernel
theorem d_Mo_follow_97 : decode prog_13_method_28_code 97 = .ok (.ifCond .eq 7, 3) := by decide +kernel
theorem d_Mo_follow_104 : decode prog_13_method_28_code 104 = .ok (.iconst 0, 1) := by decide +kernel
theorem d_Mo_follow_105 : decode prog_13_method_28_code 105 = .ok (.bastore, 1) := by decide +kernel
theorem d_Mo_follow_106 : decode prog_13_method_28_code 106 = .ok (.iinc 2 1, 3) := by decide +kernel
theorem d_Mo_follow_109 : decode prog_13_method_28_code 109 = .ok (.goto (-107), 3) := by decide +kernel
def wp_Mo_follow_105 (post : MS → Prop) (k2 : Int → Int → MS → Prop) (v1 : Int) (v2 : Int) (s0 : Int) (s1 : Int) (S : MS) : Prop := ixR s1 302 ∧ b01 s0 ∧ (∀ S_1 : MS, S_1 = ms_a S 29 s1 s0 → k2 v1 (v2 + 1) S_1)
def wp_Mo_follow_78 (post : MS → Prop) (k2 : Int → Int → MS → Prop) (v1 : Int) (v2 : Int) (s0 : Int) (S : MS) : Prop := ixR v1 202 ∧ (inR v2 ∧ inR (S.2 28 v1.toNat) ∧ (v2 = (S.2 28 v1.toNat) → wp_Mo_follow_105 post k2 v1 v2 1 v2 S) ∧ (¬ (v2 = (S.2 28 v1.toNat)) → (inR s0 ∧ (s0 = 0 → wp_Mo_follow_105 post k2 v1 v2 0 v2 S) ∧ (¬ (s0 = 0) → wp_Mo_follow_105 post k2 v1 v2 1 v2 S))))
def wp_Mo_follow_2 (post : MS → Prop) : Nat → Int → Int → MS → Prop
  | 0, _, _, _ => False
  | n + 1, v1, v2, S => inR v2 ∧ inR (S.1 7) ∧ ((S.1 7) < v2 → post S) ∧ (¬ ((S.1 7) < v2) → (ixR v2 302 ∧ (∀ v3_1 : Int, v3_1 = (S.2 11 v2.toNat) → inR v3_1 ∧ (v3_1 ≤ 0 → wp_Mo_follow_78 post (wp_Mo_follow_2 post n) v1 v2 0 S) ∧ (¬ (v3_1 ≤ 0) → (ixR v3_1 601 ∧ (wp_Mo_stands (fun r_3 S_2 => inR r_3 ∧ (r_3 = 0 → wp_Mo_follow_78 post (wp_Mo_follow_2 post n) v1 v2 0 S_2) ∧ (¬ (r_3 = 0) → (ixR v2 302 ∧ (ixR (S_2.2 13 v2.toNat) 302 ∧ (inR (S_2.2 29 (S_2.2 13 v2.toNat).toNat) ∧ (¬ ((S_2.2 29 (S_2.2 13 v2.toNat).toNat) = 0) → wp_Mo_follow_78 post (wp_Mo_follow_2 post n) v1 v2 1 S_2) ∧ ((S_2.2 29 (S_2.2 13 v2.toNat).toNat) = 0 → (ixR v2 302 ∧ (inR (S_2.2 14 v2.toNat) ∧ ((S_2.2 14 v2.toNat) ≤ 0 → wp_Mo_follow_78 post (wp_Mo_follow_2 post n) v1 v2 0 S_2) ∧ (¬ ((S_2.2 14 v2.toNat) ≤ 0) → (ixR v2 302 ∧ (ixR (S_2.2 14 v2.toNat) 302 ∧ (inR (S_2.2 29 (S_2.2 14 v2.toNat).toNat) ∧ ((S_2.2 29 (S_2.2 14 v2.toNat).toNat) = 0 → wp_Mo_follow_78 post (wp_Mo_follow_2 post n) v1 v2 0 S_2) ∧ (¬ ((S_2.2 29 (S_2.2 14 v2.toNat).toNat) = 0) → wp_Mo_follow_78 post (wp_Mo_follow_2 post n) v1 v2 1 S_2))))))))))))) v1 (S.2 17 v3_1.toNat) v3_1 S))))))
def wp_Mo_follow (post : MS → Prop) (v1 : Int) (S : MS) : Prop := ∃ n0 : Nat, wp_Mo_follow_2 post n0 v1 1 S
set_option maxHeartbeats 4000000 in
set_option maxRecDepth 100000 in
theorem c_Mo_follow (l : Launch) {D : va_G} {h : Nat} {ad : Nat → Nat} {kc : Nat → ClassId} {post : MS → Prop} {v1 : Int} {S : MS} (hw : wp_Mo_follow post v1 S) : jMv l D h ad kc y_Mo_follow prog_13_method_28_code 5 none 2 46 S [vi v1] post := by
  refine j_mov (own := "LandBookModel") (by decide) rfl (Nat.le_of_ble_eq_true rfl) (fun X F K hret => ?_)
  have B2 : ∀ (n0 : Nat) (v1 : Int) (v2 : Int) (S : MS), wp_Mo_follow_2 post n0 v1 v2 S → jat l D X 5 2 [(0, .ref h), (1, vi v1), (2, vi v2)] [] (mw h ad kc S) 0 0 := by
    intro n0
    induction n0 with
    | zero => intro v1 v2 S hw; exact hw.elim
    | succ n2 ih2 =>
      have B105 : ∀ (v1 : Int) (v2 : Int) (s0 : Int) (s1 : Int) (S : MS), wp_Mo_follow_105 post (wp_Mo_follow_2 post n2) v1 v2 s0 s1 S → jat l D X 5 105 [(0, .ref h), (1, vi v1), (2, vi v2)] [vi s0, vi s1, .ref (ad 29)] (mw h ad kc S) 0 0 := by
        intro v1 v2 s0 s1 S hw
        unfold wp_Mo_follow_105 at hw
        obtain ⟨hc1, hz, hw⟩ := hw
        refine m_zast F K 29 21 rfl rfl hc1 hz d_Mo_follow_105 (fun S_1 e_S_1 => ?_)
        have hw := hw S_1 e_S_1
        refine j_iinc F 2 [(2, vi (v2 + 1)), (0, .ref h), (1, vi v1)] d_Mo_follow_106 rfl (by decide) rfl ?_
        refine j_goto F 2 d_Mo_follow_109 rfl ?_
        refine j_sub [1, 2, 0] rfl ?_
        exact ih2 _ _ _ hw
      have B78 : ∀ (v1 : Int) (v2 : Int) (s0 : Int) (S : MS), wp_Mo_follow_78 post (wp_Mo_follow_2 post n2) v1 v2 s0 S → jat l D X 5 78 [(0, .ref h), (1, vi v1), (2, vi v2)] [vi s0] (mw h ad kc S) 0 0 := by
        intro v1 v2 s0 S hw
        unfold wp_Mo_follow_78 at hw
        refine j_istore F [(4, vi s0), (0, .ref h), (1, vi v1), (2, vi v2)] d_Mo_follow_78 (by decide) rfl ?_
        refine j_aload_n F 1 d_Mo_follow_80 rfl ?_
        refine m_geta F K 29 (by decide) (by decide) tj_175 rfl d_Mo_follow_81 ?_
        refine j_iload_n F 3 d_Mo_follow_84 rfl ?_
        refine j_iload_n F 3 d_Mo_follow_85 rfl ?_
        refine j_aload_n F 1 d_Mo_follow_86 rfl ?_
        refine m_geta F K 28 (by decide) (by decide) tj_178 rfl d_Mo_follow_87 ?_
        refine j_iload_n F 2 d_Mo_follow_90 rfl ?_
        obtain ⟨hc1, hw⟩ := hw
        refine m_iald F K 28 20 rfl rfl hc1 d_Mo_follow_91 ?_
        obtain ⟨hc1, hc2, hwt, hwf⟩ := hw
        refine j_icmp_eq F 100 hc1 hc2 d_Mo_follow_92 rfl (fun hh => ?_) (fun hh => ?_)
        · have hw := hwt hh
          refine j_iconst F d_Mo_follow_100 ?_
          refine j_goto F 105 d_Mo_follow_101 rfl ?_
          refine j_sub [1, 2, 3] rfl ?_
          exact B105 _ _ _ _ _ hw
        · have hw := hwf hh
          refine j_iload F 0 d_Mo_follow_95 rfl ?_
          obtain ⟨hc1, hwt, hwf⟩ := hw
          refine j_if_eq F 104 hc1 d_Mo_follow_97 rfl (fun hh => ?_) (fun hh => ?_)
          · have hw := hwt hh
            refine j_iconst F d_Mo_follow_104 ?_
            refine j_sub [1, 2, 3] rfl ?_
            exact B105 _ _ _ _ _ hw
          · have hw := hwf hh
            refine j_iconst F d_Mo_follow_100 ?_
            refine j_goto F 105 d_Mo_follow_101 rfl ?_
            refine j_sub [1, 2, 3] rfl ?_
            exact B105 _ _ _ _ _ hw
      intro v1 v2 S hw
      unfold wp_Mo_follow_2 at hw
      refine j_iload_n F 2 d_Mo_follow_2 rfl ?_
      refine j_aload_n F 0 d_Mo_follow_3 rfl ?_
      refine m_geti F K 7 (by decide) rfl tj_157 rfl d_Mo_follow_4 ?_
      obtain ⟨hc1, hc2, hwt, hwf⟩ := hw
      refine j_icmp_gt F 112 hc1 hc2 d_Mo_follow_7 rfl (fun hh => ?_) (fun hh => ?_)
      · have hw := hwt hh
        exact hret _ _ _ hw d_Mo_follow_112
      · have hw := hwf hh
        refine j_aload_n F 0 d_Mo_follow_10 rfl ?_
        refine m_geta F K 11 (by decide) (by decide) tj_163 rfl d_Mo_follow_11 ?_
        refine j_iload_n F 2 d_Mo_follow_14 rfl ?_
        obtain ⟨hc1, hw⟩ := hw
        refine m_iald F K 11 5 rfl rfl hc1 d_Mo_follow_15 ?_
        refine j_nmi (fun v3_1 e_v3_1 => ?_)
        have hw := hw v3_1 e_v3_1
        refine j_istore_n F [(3, vi v3_1), (0, .ref h), (1, vi v1), (2, vi v2)] d_Mo_follow_16 (by decide) rfl ?_
        refine j_iload_n F 0 d_Mo_follow_17 rfl ?_
        obtain ⟨hc1, hwt, hwf⟩ := hw
        refine j_if_le F 77 hc1 d_Mo_follow_18 rfl (fun hh => ?_) (fun hh => ?_)
        · have hw := hwt hh
          refine j_iconst F d_Mo_follow_77 ?_
          refine j_sub [1, 2, 3] rfl ?_
          exact B78 _ _ _ _ hw
        · have hw := hwf hh
          refine j_aload_n F 1 d_Mo_follow_21 rfl ?_
          refine j_iload_n F 2 d_Mo_follow_22 rfl ?_
          refine j_aload_n F 1 d_Mo_follow_23 rfl ?_
          refine m_geta F K 17 (by decide) (by decide) tj_162 rfl d_Mo_follow_24 ?_
          refine j_iload_n F 0 d_Mo_follow_27 rfl ?_
          obtain ⟨hc1, hw⟩ := hw
          refine m_iald F K 17 10 rfl rfl hc1 d_Mo_follow_28 ?_
          refine j_iload_n F 0 d_Mo_follow_29 rfl ?_
          refine m_calli F K (c_Mo_stands l hw) (tw_gV tj_171 tj_172 tj_173 tj_87 tj_174) q_Mo_stands rfl ⟨by decide, by decide⟩ ⟨Nat.zero_le _, Nat.zero_le _⟩ rfl (Nat.le_of_ble_eq_true rfl) d_Mo_follow_30 (fun r_3 S_2 hw => ?_)
          obtain ⟨hc1, hwt, hwf⟩ := hw
          refine j_if_eq F 77 hc1 d_Mo_follow_33 rfl (fun hh => ?_) (fun hh => ?_)
          · have hw := hwt hh
            refine j_iconst F d_Mo_follow_77 ?_
            refine j_sub [1, 2, 3] rfl ?_
            exact B78 _ _ _ _ hw
          · have hw := hwf hh
            refine j_aload_n F 1 d_Mo_follow_36 rfl ?_
            refine m_geta F K 29 (by decide) (by decide) tj_175 rfl d_Mo_follow_37 ?_
            refine j_aload_n F 1 d_Mo_follow_40 rfl ?_
            refine m_geta F K 13 (by decide) (by decide) tj_176 rfl d_Mo_follow_41 ?_
            refine j_iload_n F 3 d_Mo_follow_44 rfl ?_
            obtain ⟨hc1, hw⟩ := hw
            refine m_iald F K 13 7 rfl rfl hc1 d_Mo_follow_45 ?_
            obtain ⟨hc1, hw⟩ := hw
            refine m_zald F K 29 21 rfl rfl hc1 d_Mo_follow_46 ?_
            obtain ⟨hc1, hwt, hwf⟩ := hw
            refine j_if_ne F 73 hc1 d_Mo_follow_47 rfl (fun hh => ?_) (fun hh => ?_)
            · have hw := hwt hh
              refine j_iconst F d_Mo_follow_73 ?_
              refine j_goto F 78 d_Mo_follow_74 rfl ?_
              refine j_sub [1, 2, 3] rfl ?_
              exact B78 _ _ _ _ hw
            · have hw := hwf hh
              refine j_aload_n F 1 d_Mo_follow_50 rfl ?_
              refine m_geta F K 14 (by decide) (by decide) tj_177 rfl d_Mo_follow_51 ?_
              refine j_iload_n F 3 d_Mo_follow_54 rfl ?_
              obtain ⟨hc1, hw⟩ := hw
              refine m_iald F K 14 8 rfl rfl hc1 d_Mo_follow_55 ?_
              obtain ⟨hc1, hwt, hwf⟩ := hw
              refine j_if_le F 77 hc1 d_Mo_follow_56 rfl (fun hh => ?_) (fun hh => ?_)
              · have hw := hwt hh
                refine j_iconst F d_Mo_follow_77 ?_
                refine j_sub [1, 2, 3] rfl ?_
                exact B78 _ _ _ _ hw
              · have hw := hwf hh
                refine j_aload_n F 1 d_Mo_follow_59 rfl ?_
                refine m_geta F K 29 (by decide) (by decide) tj_175 rfl d_Mo_follow_60 ?_
                refine j_aload_n F 1 d_Mo_follow_63 rfl ?_
                refine m_geta F K 14 (by decide) (by decide) tj_177 rfl d_Mo_follow_64 ?_
                refine j_iload_n F 3 d_Mo_follow_67 rfl ?_
                obtain ⟨hc1, hw⟩ := hw
                refine m_iald F K 14 8 rfl rfl hc1 d_Mo_follow_68 ?_
                obtain ⟨hc1, hw⟩ := hw
                refine m_zald F K 29 21 rfl rfl hc1 d_Mo_follow_69 ?_
                obtain ⟨hc1, hwt, hwf⟩ := hw
                refine j_if_eq F 77 hc1 d_Mo_follow_70 rfl (fun hh => ?_) (fun hh => ?_)
                · have hw := hwt hh
                  refine j_iconst F d_Mo_follow_77 ?_
                  refine j_sub [1, 2, 3] rfl ?_
                  exact B78 _ _ _ _ hw
                · have hw := hwf hh
                  refine j_iconst F d_Mo_follow_73 ?_
                  refine j_goto F 78 d_Mo_follow_74 rfl ?_
                  refine j_sub [1, 2, 3] rfl ?_
                  exact B78 _ _ _ _ hw
  unfold wp_Mo_follow at hw
  show jat l D X 5 0 [(0, .ref h), (1, vi v1)] [] (mw h ad kc S) 0 0
  refine j_iconst F d_Mo_follow_0 ?_
  refine j_istore_n F [(2, vi 1), (0, .ref h), (1, vi v1)] d_Mo_follow_1 (by decide) rfl ?_
  refine j_sub [1, 2, 0] rfl ?_
  obtain ⟨n0, hw⟩ := hw
  exact B2 n0 _ _ _ hw
theorem tj_179 : (Jvm.Cond.methodLink "LandBookModel" (182 : Nat) ({ cls := "LandBookModel", name := "follow", desc := "(I)V" } : Jvm.MethodName)) ∈ tw_G := tw_in (List.mem_of_getElem? (i := 1269) (by decide +kernel)) rfl
theorem tj_180 : (Jvm.Cond.instanceMethod ({ cls := "LandBookModel", name := "follow", desc := "(I)V" } : Jvm.MethodName)) ∈ tw_G := tw_in (List.mem_of_getElem? (i := 1271) (by decide +kernel)) rfl
theorem tj_181 : (Jvm.Cond.selects "LandBookModel" ⟨"LandBookModel", "follow", "(I)V"⟩ ⟨"LandBookModel", "follow", "(I)V"⟩) ∈ tw_G := tw_in (List.mem_of_getElem? (i := 34) (by decide +kernel)) rfl
theorem tj_182 : (Jvm.Cond.code ({ cls := "LandBookModel", name := "follow", desc := "(I)V" } : Jvm.MethodName) prog_13_method_28_code (5 : Nat) (Option.none : Option Jvm.ClassFile.FieldType)) ∈ tw_G := tw_in (List.mem_of_getElem? (i := 1272) (by decide +kernel)) rfl
theorem tj_183 : (Jvm.Cond.methodLink "LandBookModel" (185 : Nat) ({ cls := "LandBookModel", name := "isInBeing", desc := "(III)Z" } : Jvm.MethodName)) ∈ tw_G := tw_in (List.mem_of_getElem? (i := 1249) (by decide +kernel)) rfl
theorem tj_184 : (Jvm.Cond.instanceMethod ({ cls := "LandBookModel", name := "isInBeing", desc := "(III)Z" } : Jvm.MethodName)) ∈ tw_G := tw_in (List.mem_of_getElem? (i := 1251) (by decide +kernel)) rfl
theorem tj_185 : (Jvm.Cond.selects "LandBookModel" ⟨"LandBookModel", "isInBeing", "(III)Z"⟩ ⟨"LandBookModel", "isInBeing", "(III)Z"⟩) ∈ tw_G := tw_in (List.mem_of_getElem? (i := 29) (by decide +kernel)) rfl
theorem tj_186 : (Jvm.Cond.code ({ cls := "LandBookModel", name := "isInBeing", desc := "(III)Z" } : Jvm.MethodName) prog_13_method_26_code (5 : Nat) (Option.some Jvm.ClassFile.FieldType.boolean)) ∈ tw_G := tw_in (List.mem_of_getElem? (i := 1252) (by decide +kernel)) rfl
abbrev y_Mo_burdens : MethodName := ⟨"LandBookModel", "burdens", "(IIII)Z"⟩
theorem q_Mo_burdens : y_Mo_burdens.cls = "LandBookModel" ∧ y_Mo_burdens.cls ≠ "java/lang/invoke/MethodHandle" ∧ y_Mo_burdens.cls ≠ "java/lang/invoke/VarHandle" ∧ (parseMethodDescriptor y_Mo_burdens.desc).map (fun d => d.parameters.length) = some 4 := by decide +kernel
theorem d_Mo_burdens_0 : decode prog_13_method_29_code 0 = .ok (.aload_n 0, 1) := by decide +kernel
theorem d_Mo_burdens_1 : decode prog_13_method_29_code 1 = .ok (.iload_n 1, 1) := by decide +kernel
theorem d_Mo_burdens_2 : decode prog_13_method_29_code 2 = .ok (.invokevirtual 182, 3) := by decide +kernel
theorem d_Mo_burdens_5 : decode prog_13_method_29_code 5 = .ok (.aload_n 0, 1) := by decide +kernel
theorem d_Mo_burdens_6 : decode prog_13_method_29_code 6 = .ok (.getfield 73, 3) := by decide +kernel
theorem d_Mo_burdens_9 : decode prog_13_method_29_code 9 = .ok (.iload_n 2, 1) := by decide +kernel
theorem d_Mo_burdens_10 : decode prog_13_method_29_code 10 = .ok (.baload, 1) := by decide +kernel
theorem d_Mo_burdens_11 : decode prog_13_method_29_code 11 = .ok (.ifCond .eq 29, 3) := by decide +kernel
theorem d_Mo_burdens_40 : decode prog_13_method_29_code 40 = .ok (.iconst 0, 1) := by decide +kernel
theorem d_Mo_burdens_41 : decode prog_13_method_29_code 41 = .ok (.ireturn, 1) := by decide +kernel
theorem d_Mo_burdens_14 : decode prog_13_method_29_code 14 = .ok (.aload_n 0, 1) := by decide +kernel
theorem d_Mo_burdens_15 : decode prog_13_method_29_code 15 = .ok (.iload_n 1, 1) := by decide +kernel
theorem d_Mo_burdens_16 : decode prog_13_method_29_code 16 = .ok (.iload_n 3, 1) := by decide +kernel
theorem d_Mo_burdens_17 : decode prog_13_method_29_code 17 = .ok (.iload 4, 2) := by decide +kernel
theorem d_Mo_burdens_19 : decode prog_13_method_29_code 19 = .ok (.invokevirtual 179, 3) := by decide +kernel
theorem d_Mo_burdens_22 : decode prog_13_method_29_code 22 = .ok (.ifCond .eq 18, 3) := by decide +kernel
theorem d_Mo_burdens_25 : decode prog_13_method_29_code 25 = .ok (.aload_n 0, 1) := by decide +kernel
theorem d_Mo_burdens_26 : decode prog_13_method_29_code 26 = .ok (.iload_n 2, 1) := by decide +kernel
theorem d_Mo_burdens_27 : decode prog_13_method_29_code 27 = .ok (.iload_n 3, 1) := by decide +kernel
theorem d_Mo_burdens_28 : decode prog_13_method_29_code 28 = .ok (.iload 4, 2) := by decide +kernel
theorem d_Mo_burdens_30 : decode prog_13_method_29_code 30 = .ok (.invokevirtual 185, 3) := by decide +kernel
theorem d_Mo_burdens_33 : decode prog_13_method_29_code 33 = .ok (.ifCond .eq 7, 3) := by decide +kernel
theorem d_Mo_burdens_36 : decode prog_13_method_29_code 36 = .ok (.iconst 1, 1) := by decide +kernel
theorem d_Mo_burdens_37 : decode prog_13_method_29_code 37 = .ok (.goto 4, 3) := by decide +kernel
def wp_Mo_burdens (post : Int → MS → Prop) (v1 : Int) (v2 : Int) (v3 : Int) (v4 : Int) (S : MS) : Prop := wp_Mo_follow (fun S_1 => ixR v2 302 ∧ (inR (S_1.2 29 v2.toNat) ∧ ((S_1.2 29 v2.toNat) = 0 → post 0 S_1) ∧ (¬ ((S_1.2 29 v2.toNat) = 0) → (wp_Mo_stands (fun r_4 S_3 => inR r_4 ∧ (r_4 = 0 → post 0 S_3) ∧ (¬ (r_4 = 0) → (wp_Mo_isInBeing (fun r_6 S_5 => inR r_6 ∧ (r_6 = 0 → post 0 S_5) ∧ (¬ (r_6 = 0) → post 1 S_5)) v2 v3 v4 S_3))) v1 v3 v4 S_1)))) v1 S
set_option maxHeartbeats 4000000 in
set_option maxRecDepth 100000 in
theorem c_Mo_burdens (l : Launch) {D : va_G} {h : Nat} {ad : Nat → Nat} {kc : Nat → ClassId} {post : Int → MS → Prop} {v1 : Int} {v2 : Int} {v3 : Int} {v4 : Int} {S : MS} (hw : wp_Mo_burdens post v1 v2 v3 v4 S) : jMi l D h ad kc y_Mo_burdens prog_13_method_29_code 5 (some .boolean) 3 70 S [vi v1, vi v2, vi v3, vi v4] post := by
  refine j_moz (own := "LandBookModel") (by decide) rfl (Nat.le_of_ble_eq_true rfl) (fun X F K hret => ?_)
  unfold wp_Mo_burdens at hw
  show jat l D X 5 0 [(0, .ref h), (1, vi v1), (2, vi v2), (3, vi v3), (4, vi v4)] [] (mw h ad kc S) 0 0
  refine j_aload_n F 0 d_Mo_burdens_0 rfl ?_
  refine j_iload_n F 1 d_Mo_burdens_1 rfl ?_
  refine m_callv F K (c_Mo_follow l hw) (tw_gV tj_179 tj_180 tj_181 tj_87 tj_182) q_Mo_follow rfl ⟨by decide, by decide⟩ ⟨Nat.zero_le _, Nat.zero_le _⟩ rfl (Nat.le_of_ble_eq_true rfl) d_Mo_burdens_2 (fun S_1 hw => ?_)
  refine j_aload_n F 0 d_Mo_burdens_5 rfl ?_
  refine m_geta F K 29 (by decide) (by decide) tj_175 rfl d_Mo_burdens_6 ?_
  refine j_iload_n F 2 d_Mo_burdens_9 rfl ?_
  obtain ⟨hc1, hw⟩ := hw
  refine m_zald F K 29 21 rfl rfl hc1 d_Mo_burdens_10 ?_
  obtain ⟨hc1, hwt, hwf⟩ := hw
  refine j_if_eq F 40 hc1 d_Mo_burdens_11 rfl (fun hh => ?_) (fun hh => ?_)
  · have hw := hwt hh
    refine j_iconst F d_Mo_burdens_40 ?_
    exact hret _ _ _ _ hw (Or.inl rfl) d_Mo_burdens_41
  · have hw := hwf hh
    refine j_aload_n F 0 d_Mo_burdens_14 rfl ?_
    refine j_iload_n F 1 d_Mo_burdens_15 rfl ?_
    refine j_iload_n F 3 d_Mo_burdens_16 rfl ?_
    refine j_iload F 4 d_Mo_burdens_17 rfl ?_
    refine m_calli F K (c_Mo_stands l hw) (tw_gV tj_171 tj_172 tj_173 tj_87 tj_174) q_Mo_stands rfl ⟨by decide, by decide⟩ ⟨Nat.zero_le _, Nat.zero_le _⟩ rfl (Nat.le_of_ble_eq_true rfl) d_Mo_burdens_19 (fun r_4 S_3 hw => ?_)
    obtain ⟨hc1, hwt, hwf⟩ := hw
    refine j_if_eq F 40 hc1 d_Mo_burdens_22 rfl (fun hh => ?_) (fun hh => ?_)
    · have hw := hwt hh
      refine j_iconst F d_Mo_burdens_40 ?_
      exact hret _ _ _ _ hw (Or.inl rfl) d_Mo_burdens_41
    · have hw := hwf hh
      refine j_aload_n F 0 d_Mo_burdens_25 rfl ?_
      refine j_iload_n F 2 d_Mo_burdens_26 rfl ?_
      refine j_iload_n F 3 d_Mo_burdens_27 rfl ?_
      refine j_iload F 4 d_Mo_burdens_28 rfl ?_
      refine m_calli F K (c_Mo_isInBeing l hw) (tw_gV tj_183 tj_184 tj_185 tj_87 tj_186) q_Mo_isInBeing rfl ⟨by decide, by decide⟩ ⟨Nat.zero_le _, Nat.zero_le _⟩ rfl (Nat.le_of_ble_eq_true rfl) d_Mo_burdens_30 (fun r_6 S_5 hw => ?_)
      obtain ⟨hc1, hwt, hwf⟩ := hw
      refine j_if_eq F 40 hc1 d_Mo_burdens_33 rfl (fun hh => ?_) (fun hh => ?_)
      · have hw := hwt hh
        refine j_iconst F d_Mo_burdens_40 ?_
        exact hret _ _ _ _ hw (Or.inl rfl) d_Mo_burdens_41
      · have hw := hwf hh
        refine j_iconst F d_Mo_burdens_36 ?_
        refine j_goto F 41 d_Mo_burdens_37 rfl ?_
        exact hret _ _ _ _ hw (Or.inr rfl) d_Mo_burdens_41
