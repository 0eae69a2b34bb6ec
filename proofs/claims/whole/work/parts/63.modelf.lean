theorem tj_318 : (Jvm.Cond.methodLink "LandBookModel" (311 : Nat) ({ cls := "LandBookModel", name := "isWhen", desc := "(II)Z" } : Jvm.MethodName)) ∈ tw_G := tw_in (List.mem_of_getElem? (i := 1401) (by decide +kernel)) rfl
theorem tj_319 : (Jvm.Cond.static ({ cls := "LandBookModel", name := "isWhen", desc := "(II)Z" } : Jvm.MethodName)) ∈ tw_G := tw_in (List.mem_of_getElem? (i := 1402) (by decide +kernel)) rfl
theorem tj_320 : (Jvm.Cond.code ({ cls := "LandBookModel", name := "isWhen", desc := "(II)Z" } : Jvm.MethodName) prog_13_method_60_code (2 : Nat) (Option.some Jvm.ClassFile.FieldType.boolean)) ∈ tw_G := tw_in (List.mem_of_getElem? (i := 1403) (by decide +kernel)) rfl
abbrev y_Mo_lotAt : MethodName := ⟨"LandBookModel", "lotAt", "(IIII)I"⟩
theorem q_Mo_lotAt : y_Mo_lotAt.cls = "LandBookModel" ∧ y_Mo_lotAt.cls ≠ "java/lang/invoke/MethodHandle" ∧ y_Mo_lotAt.cls ≠ "java/lang/invoke/VarHandle" ∧ (parseMethodDescriptor y_Mo_lotAt.desc).map (fun d => d.parameters.length) = some 4 := by decide +kernel
theorem d_Mo_lotAt_0 : decode prog_13_method_61_code 0 = .ok (.aload_n 0, 1) := by decide +kernel
theorem d_Mo_lotAt_1 : decode prog_13_method_61_code 1 = .ok (.aload_n 0, 1) := by decide +kernel
theorem d_Mo_lotAt_2 : decode prog_13_method_61_code 2 = .ok (.invokevirtual 264, 3) := by decide +kernel
theorem d_Mo_lotAt_5 : decode prog_13_method_61_code 5 = .ok (.ifCond .ne 7, 3) := by decide +kernel
theorem d_Mo_lotAt_12 : decode prog_13_method_61_code 12 = .ok (.iload_n 1, 1) := by decide +kernel
theorem d_Mo_lotAt_13 : decode prog_13_method_61_code 13 = .ok (.iload_n 2, 1) := by decide +kernel
theorem d_Mo_lotAt_14 : decode prog_13_method_61_code 14 = .ok (.invokestatic 102, 3) := by decide +kernel
theorem d_Mo_lotAt_17 : decode prog_13_method_61_code 17 = .ok (.ifCond .eq 12, 3) := by decide +kernel
theorem d_Mo_lotAt_29 : decode prog_13_method_61_code 29 = .ok (.iconst 2, 1) := by decide +kernel
theorem d_Mo_lotAt_30 : decode prog_13_method_61_code 30 = .ok (.goto 4, 3) := by decide +kernel
theorem d_Mo_lotAt_20 : decode prog_13_method_61_code 20 = .ok (.iload_n 3, 1) := by decide +kernel
theorem d_Mo_lotAt_21 : decode prog_13_method_61_code 21 = .ok (.iload 4, 2) := by decide +kernel
theorem d_Mo_lotAt_23 : decode prog_13_method_61_code 23 = .ok (.invokestatic 311, 3) := by decide +kernel
theorem d_Mo_lotAt_26 : decode prog_13_method_61_code 26 = .ok (.ifCond .ne 7, 3) := by decide +kernel
theorem d_Mo_lotAt_33 : decode prog_13_method_61_code 33 = .ok (.iconst 0, 1) := by decide +kernel
theorem d_Mo_lotAt_8 : decode prog_13_method_61_code 8 = .ok (.iconst 1, 1) := by decide +kernel
theorem d_Mo_lotAt_9 : decode prog_13_method_61_code 9 = .ok (.goto 25, 3) := by decide +kernel
theorem d_Mo_lotAt_34 : decode prog_13_method_61_code 34 = .ok (.putfield 98, 3) := by decide +kernel
theorem d_Mo_lotAt_37 : decode prog_13_method_61_code 37 = .ok (.iconst 1, 1) := by decide +kernel
theorem d_Mo_lotAt_38 : decode prog_13_method_61_code 38 = .ok (.istore 5, 2) := by decide +kernel
theorem d_Mo_lotAt_40 : decode prog_13_method_61_code 40 = .ok (.iload 5, 2) := by decide +kernel
theorem d_Mo_lotAt_42 : decode prog_13_method_61_code 42 = .ok (.aload_n 0, 1) := by decide +kernel
theorem d_Mo_lotAt_43 : decode prog_13_method_61_code 43 = .ok (.getfield 173, 3) := by decide +kernel
theorem d_Mo_lotAt_46 : decode prog_13_method_61_code 46 = .ok (.if_icmp .gt 57, 3) := by decide +kernel
theorem d_Mo_lotAt_103 : decode prog_13_method_61_code 103 = .ok (.iconst 0, 1) := by decide +kernel
theorem d_Mo_lotAt_104 : decode prog_13_method_61_code 104 = .ok (.ireturn, 1) := by decide +kernel
theorem d_Mo_lotAt_49 : decode prog_13_method_61_code 49 = .ok (.aload_n 0, 1) := by decide +kernel
theorem d_Mo_lotAt_50 : decode prog_13_method_61_code 50 = .ok (.getfield 98, 3) := by decide +kernel
theorem d_Mo_lotAt_53 : decode prog_13_method_61_code 53 = .ok (.ifCond .ne 50, 3) := by decide +kernel
theorem d_Mo_lotAt_56 : decode prog_13_method_61_code 56 = .ok (.aload_n 0, 1) := by decide +kernel
theorem d_Mo_lotAt_57 : decode prog_13_method_61_code 57 = .ok (.iload 5, 2) := by decide +kernel
theorem d_Mo_lotAt_59 : decode prog_13_method_61_code 59 = .ok (.iload_n 3, 1) := by decide +kernel
theorem d_Mo_lotAt_60 : decode prog_13_method_61_code 60 = .ok (.iload 4, 2) := by decide +kernel
theorem d_Mo_lotAt_62 : decode prog_13_method_61_code 62 = .ok (.invokevirtual 185, 3) := by decide +kernel
theorem d_Mo_lotAt_65 : decode prog_13_method_61_code 65 = .ok (.ifCond .eq 32, 3) := by decide +kernel
theorem d_Mo_lotAt_68 : decode prog_13_method_61_code 68 = .ok (.aload_n 0, 1) := by decide +kernel
theorem d_Mo_lotAt_69 : decode prog_13_method_61_code 69 = .ok (.iload 5, 2) := by decide +kernel
theorem d_Mo_lotAt_71 : decode prog_13_method_61_code 71 = .ok (.iload_n 1, 1) := by decide +kernel
theorem d_Mo_lotAt_72 : decode prog_13_method_61_code 72 = .ok (.iload_n 2, 1) := by decide +kernel
theorem d_Mo_lotAt_73 : decode prog_13_method_61_code 73 = .ok (.invokevirtual 223, 3) := by decide +kernel
theorem d_Mo_lotAt_76 : decode prog_13_method_61_code 76 = .ok (.ifCond .ge 18, 3) := by decide +kernel
theorem d_Mo_lotAt_94 : decode prog_13_method_61_code 94 = .ok (.iload 5, 2) := by decide +kernel
theorem d_Mo_lotAt_96 : decode prog_13_method_61_code 96 = .ok (.ireturn, 1) := by decide +kernel
theorem d_Mo_lotAt_79 : decode prog_13_method_61_code 79 = .ok (.aload_n 0, 1) := by decide +kernel
theorem d_Mo_lotAt_80 : decode prog_13_method_61_code 80 = .ok (.iload 5, 2) := by decide +kernel
theorem d_Mo_lotAt_82 : decode prog_13_method_61_code 82 = .ok (.iconst 2, 1) := by decide +kernel
theorem d_Mo_lotAt_83 : decode prog_13_method_61_code 83 = .ok (.iload_n 1, 1) := by decide +kernel
theorem d_Mo_lotAt_84 : decode prog_13_method_61_code 84 = .ok (.imul, 1) := by decide +kernel
theorem d_Mo_lotAt_85 : decode prog_13_method_61_code 85 = .ok (.iconst 2, 1) := by decide +kernel
theorem d_Mo_lotAt_86 : decode prog_13_method_61_code 86 = .ok (.iload_n 2, 1) := by decide +kernel
theorem d_Mo_lotAt_87 : decode prog_13_method_61_code 87 = .ok (.imul, 1) := by decide +kernel
theorem d_Mo_lotAt_88 : decode prog_13_method_61_code 88 = .ok (.invokevirtual 227, 3) := by decide +kernel
theorem d_Mo_lotAt_91 : decode prog_13_method_61_code 91 = .ok (.ifCond .eq 6, 3) := by decide +kernel
theorem d_Mo_lotAt_97 : decode prog_13_method_61_code 97 = .ok (.iinc 5 1, 3) := by decide +kernel
theorem d_Mo_lotAt_100 : decode prog_13_method_61_code 100 = .ok (.goto (-60), 3) := by decide +kernel
def wp_Mo_lotAt_97 (post : Int → MS → Prop) (k40 : Int → Int → Int → Int → Int → MS → Prop) (v1 : Int) (v2 : Int) (v3 : Int) (v4 : Int) (v5 : Int) (S : MS) : Prop := k40 v1 v2 v3 v4 (v5 + 1) S
def wp_Mo_lotAt_40 (post : Int → MS → Prop) : Nat → Int → Int → Int → Int → Int → MS → Prop
  | 0, _, _, _, _, _, _ => False
  | n + 1, v1, v2, v3, v4, v5, S => inR v5 ∧ inR (S.1 7) ∧ ((S.1 7) < v5 → post 0 S) ∧ (¬ ((S.1 7) < v5) → (inR (S.1 0) ∧ (¬ ((S.1 0) = 0) → post 0 S) ∧ ((S.1 0) = 0 → (wp_Mo_isInBeing (fun r_2 S_1 => inR r_2 ∧ (r_2 = 0 → wp_Mo_lotAt_97 post (wp_Mo_lotAt_40 post n) v1 v2 v3 v4 v5 S_1) ∧ (¬ (r_2 = 0) → (wp_Mo_sideOf (fun r_4 S_3 => inR r_4 ∧ (0 ≤ r_4 → post v5 S_3) ∧ (¬ (0 ≤ r_4) → (wp_Mo_isWithin (fun r_6 S_5 => inR r_6 ∧ (r_6 = 0 → wp_Mo_lotAt_97 post (wp_Mo_lotAt_40 post n) v1 v2 v3 v4 v5 S_5) ∧ (¬ (r_6 = 0) → post v5 S_5)) v5 (2 * v1) (2 * v2) S_3))) v5 v1 v2 S_1))) v5 v3 v4 S))))
def wp_Mo_lotAt_34 (post : Int → MS → Prop) (v1 : Int) (v2 : Int) (v3 : Int) (v4 : Int) (s0 : Int) (S : MS) : Prop := (∀ S_1 : MS, S_1 = ms_i S 0 s0 → ∃ n0 : Nat, wp_Mo_lotAt_40 post n0 v1 v2 v3 v4 1 S_1)
def wp_Mo_lotAt (post : Int → MS → Prop) (v1 : Int) (v2 : Int) (v3 : Int) (v4 : Int) (S : MS) : Prop := wp_Mo_isUp (fun r_2 S_1 => inR r_2 ∧ (¬ (r_2 = 0) → (wp_Mo_isPoint (fun r_3 => inR r_3 ∧ (r_3 = 0 → wp_Mo_lotAt_34 post v1 v2 v3 v4 2 S_1) ∧ (¬ (r_3 = 0) → (wp_Mo_isWhen (fun r_4 => inR r_4 ∧ (¬ (r_4 = 0) → wp_Mo_lotAt_34 post v1 v2 v3 v4 0 S_1) ∧ (r_4 = 0 → wp_Mo_lotAt_34 post v1 v2 v3 v4 2 S_1)) v3 v4))) v1 v2)) ∧ (r_2 = 0 → wp_Mo_lotAt_34 post v1 v2 v3 v4 1 S_1))  S
set_option maxHeartbeats 4000000 in
set_option maxRecDepth 100000 in
theorem c_Mo_lotAt (l : Launch) {D : va_G} {h : Nat} {ad : Nat → Nat} {kc : Nat → ClassId} {post : Int → MS → Prop} {v1 : Int} {v2 : Int} {v3 : Int} {v4 : Int} {S : MS} (hw : wp_Mo_lotAt post v1 v2 v3 v4 S) : jMi l D h ad kc y_Mo_lotAt prog_13_method_61_code 6 (some .int) 3 77 S [vi v1, vi v2, vi v3, vi v4] post := by
  refine j_moi (own := "LandBookModel") (by decide) rfl (Nat.le_of_ble_eq_true rfl) (fun X F K hret => ?_)
  have B40 : ∀ (n0 : Nat) (v1 : Int) (v2 : Int) (v3 : Int) (v4 : Int) (v5 : Int) (S : MS), wp_Mo_lotAt_40 post n0 v1 v2 v3 v4 v5 S → jat l D X 6 40 [(0, .ref h), (1, vi v1), (2, vi v2), (3, vi v3), (4, vi v4), (5, vi v5)] [] (mw h ad kc S) 0 0 := by
    intro n0
    induction n0 with
    | zero => intro v1 v2 v3 v4 v5 S hw; exact hw.elim
    | succ n40 ih40 =>
      have B97 : ∀ (v1 : Int) (v2 : Int) (v3 : Int) (v4 : Int) (v5 : Int) (S : MS), wp_Mo_lotAt_97 post (wp_Mo_lotAt_40 post n40) v1 v2 v3 v4 v5 S → jat l D X 6 97 [(0, .ref h), (1, vi v1), (2, vi v2), (3, vi v3), (4, vi v4), (5, vi v5)] [] (mw h ad kc S) 0 0 := by
        intro v1 v2 v3 v4 v5 S hw
        unfold wp_Mo_lotAt_97 at hw
        refine j_iinc F 5 [(5, vi (v5 + 1)), (0, .ref h), (1, vi v1), (2, vi v2), (3, vi v3), (4, vi v4)] d_Mo_lotAt_97 rfl (by decide) rfl ?_
        refine j_goto F 40 d_Mo_lotAt_100 rfl ?_
        refine j_sub [1, 2, 3, 4, 5, 0] rfl ?_
        exact ih40 _ _ _ _ _ _ hw
      intro v1 v2 v3 v4 v5 S hw
      unfold wp_Mo_lotAt_40 at hw
      refine j_iload F 5 d_Mo_lotAt_40 rfl ?_
      refine j_aload_n F 0 d_Mo_lotAt_42 rfl ?_
      refine m_geti F K 7 (by decide) rfl tj_157 rfl d_Mo_lotAt_43 ?_
      obtain ⟨hc1, hc2, hwt, hwf⟩ := hw
      refine j_icmp_gt F 103 hc1 hc2 d_Mo_lotAt_46 rfl (fun hh => ?_) (fun hh => ?_)
      · have hw := hwt hh
        refine j_iconst F d_Mo_lotAt_103 ?_
        exact hret _ _ _ _ hw d_Mo_lotAt_104
      · have hw := hwf hh
        refine j_aload_n F 0 d_Mo_lotAt_49 rfl ?_
        refine m_geti F K 0 (by decide) rfl tj_107 rfl d_Mo_lotAt_50 ?_
        obtain ⟨hc1, hwt, hwf⟩ := hw
        refine j_if_ne F 103 hc1 d_Mo_lotAt_53 rfl (fun hh => ?_) (fun hh => ?_)
        · have hw := hwt hh
          refine j_iconst F d_Mo_lotAt_103 ?_
          exact hret _ _ _ _ hw d_Mo_lotAt_104
        · have hw := hwf hh
          refine j_aload_n F 0 d_Mo_lotAt_56 rfl ?_
          refine j_iload F 5 d_Mo_lotAt_57 rfl ?_
          refine j_iload_n F 3 d_Mo_lotAt_59 rfl ?_
          refine j_iload F 4 d_Mo_lotAt_60 rfl ?_
          refine m_calli F K (c_Mo_isInBeing l hw) (tw_gV tj_183 tj_184 tj_185 tj_87 tj_186) q_Mo_isInBeing rfl ⟨by decide, by decide⟩ ⟨Nat.zero_le _, Nat.zero_le _⟩ rfl (Nat.le_of_ble_eq_true rfl) d_Mo_lotAt_62 (fun r_2 S_1 hw => ?_)
          obtain ⟨hc1, hwt, hwf⟩ := hw
          refine j_if_eq F 97 hc1 d_Mo_lotAt_65 rfl (fun hh => ?_) (fun hh => ?_)
          · have hw := hwt hh
            exact B97 _ _ _ _ _ _ hw
          · have hw := hwf hh
            refine j_aload_n F 0 d_Mo_lotAt_68 rfl ?_
            refine j_iload F 5 d_Mo_lotAt_69 rfl ?_
            refine j_iload_n F 1 d_Mo_lotAt_71 rfl ?_
            refine j_iload_n F 2 d_Mo_lotAt_72 rfl ?_
            refine m_calli F K (c_Mo_sideOf l hw) (tw_gV tj_221 tj_222 tj_223 tj_87 tj_224) q_Mo_sideOf rfl ⟨by decide, by decide⟩ ⟨Nat.zero_le _, Nat.zero_le _⟩ rfl (Nat.le_of_ble_eq_true rfl) d_Mo_lotAt_73 (fun r_4 S_3 hw => ?_)
            obtain ⟨hc1, hwt, hwf⟩ := hw
            refine j_if_ge F 94 hc1 d_Mo_lotAt_76 rfl (fun hh => ?_) (fun hh => ?_)
            · have hw := hwt hh
              refine j_iload F 5 d_Mo_lotAt_94 rfl ?_
              exact hret _ _ _ _ hw d_Mo_lotAt_96
            · have hw := hwf hh
              refine j_aload_n F 0 d_Mo_lotAt_79 rfl ?_
              refine j_iload F 5 d_Mo_lotAt_80 rfl ?_
              refine j_iconst F d_Mo_lotAt_82 ?_
              refine j_iload_n F 1 d_Mo_lotAt_83 rfl ?_
              refine j_imul F d_Mo_lotAt_84 ?_
              refine j_iconst F d_Mo_lotAt_85 ?_
              refine j_iload_n F 2 d_Mo_lotAt_86 rfl ?_
              refine j_imul F d_Mo_lotAt_87 ?_
              refine m_calli F K (c_Mo_isWithin l hw) (tw_gV tj_225 tj_226 tj_227 tj_87 tj_228) q_Mo_isWithin rfl ⟨by decide, by decide⟩ ⟨Nat.zero_le _, Nat.zero_le _⟩ rfl (Nat.le_of_ble_eq_true rfl) d_Mo_lotAt_88 (fun r_6 S_5 hw => ?_)
              obtain ⟨hc1, hwt, hwf⟩ := hw
              refine j_if_eq F 97 hc1 d_Mo_lotAt_91 rfl (fun hh => ?_) (fun hh => ?_)
              · have hw := hwt hh
                exact B97 _ _ _ _ _ _ hw
              · have hw := hwf hh
                refine j_iload F 5 d_Mo_lotAt_94 rfl ?_
                exact hret _ _ _ _ hw d_Mo_lotAt_96
  have B34 : ∀ (v1 : Int) (v2 : Int) (v3 : Int) (v4 : Int) (s0 : Int) (S : MS), wp_Mo_lotAt_34 post v1 v2 v3 v4 s0 S → jat l D X 6 34 [(0, .ref h), (1, vi v1), (2, vi v2), (3, vi v3), (4, vi v4)] [vi s0, .ref h] (mw h ad kc S) 0 0 := by
    intro v1 v2 v3 v4 s0 S hw
    unfold wp_Mo_lotAt_34 at hw
    refine m_puti F K 0 (by decide) rfl tj_107 rfl rfl (ty := .int) (by decide +kernel) rfl rfl d_Mo_lotAt_34 (fun S_1 e_S_1 => ?_)
    have hw := hw S_1 e_S_1
    refine j_iconst F d_Mo_lotAt_37 ?_
    refine j_istore F [(5, vi 1), (0, .ref h), (1, vi v1), (2, vi v2), (3, vi v3), (4, vi v4)] d_Mo_lotAt_38 (by decide) rfl ?_
    refine j_sub [1, 2, 3, 4, 5, 0] rfl ?_
    obtain ⟨n0, hw⟩ := hw
    exact B40 n0 _ _ _ _ _ _ hw
  unfold wp_Mo_lotAt at hw
  show jat l D X 6 0 [(0, .ref h), (1, vi v1), (2, vi v2), (3, vi v3), (4, vi v4)] [] (mw h ad kc S) 0 0
  refine j_aload_n F 0 d_Mo_lotAt_0 rfl ?_
  refine j_aload_n F 0 d_Mo_lotAt_1 rfl ?_
  refine m_calli F K (c_Mo_isUp l hw) (tw_gV tj_268 tj_269 tj_270 tj_87 tj_271) q_Mo_isUp rfl ⟨by decide, by decide⟩ ⟨Nat.zero_le _, Nat.zero_le _⟩ rfl (Nat.le_of_ble_eq_true rfl) d_Mo_lotAt_2 (fun r_2 S_1 hw => ?_)
  obtain ⟨hc1, hwt, hwf⟩ := hw
  refine j_if_ne F 12 hc1 d_Mo_lotAt_5 rfl (fun hh => ?_) (fun hh => ?_)
  · have hw := hwt hh
    refine j_iload_n F 1 d_Mo_lotAt_12 rfl ?_
    refine j_iload_n F 2 d_Mo_lotAt_13 rfl ?_
    refine j_callS F (c_Mo_isPoint l hw) (tw_gS tj_108 tj_109 tj_87 tj_110) q_Mo_isPoint rfl ⟨by decide, by decide⟩ ⟨Nat.zero_le _, Nat.zero_le _⟩ rfl (Nat.le_of_ble_eq_true rfl) d_Mo_lotAt_14 (fun r_3 hw => ?_)
    obtain ⟨hc1, hwt, hwf⟩ := hw
    refine j_if_eq F 29 hc1 d_Mo_lotAt_17 rfl (fun hh => ?_) (fun hh => ?_)
    · have hw := hwt hh
      refine j_iconst F d_Mo_lotAt_29 ?_
      refine j_goto F 34 d_Mo_lotAt_30 rfl ?_
      exact B34 _ _ _ _ _ _ hw
    · have hw := hwf hh
      refine j_iload_n F 3 d_Mo_lotAt_20 rfl ?_
      refine j_iload F 4 d_Mo_lotAt_21 rfl ?_
      refine j_callS F (c_Mo_isWhen l hw) (tw_gS tj_318 tj_319 tj_87 tj_320) q_Mo_isWhen rfl ⟨by decide, by decide⟩ ⟨Nat.zero_le _, Nat.zero_le _⟩ rfl (Nat.le_of_ble_eq_true rfl) d_Mo_lotAt_23 (fun r_4 hw => ?_)
      obtain ⟨hc1, hwt, hwf⟩ := hw
      refine j_if_ne F 33 hc1 d_Mo_lotAt_26 rfl (fun hh => ?_) (fun hh => ?_)
      · have hw := hwt hh
        refine j_iconst F d_Mo_lotAt_33 ?_
        exact B34 _ _ _ _ _ _ hw
      · have hw := hwf hh
        refine j_iconst F d_Mo_lotAt_29 ?_
        refine j_goto F 34 d_Mo_lotAt_30 rfl ?_
        exact B34 _ _ _ _ _ _ hw
  · have hw := hwf hh
    refine j_iconst F d_Mo_lotAt_8 ?_
    refine j_goto F 34 d_Mo_lotAt_9 rfl ?_
    exact B34 _ _ _ _ _ _ hw
abbrev y_Mo_wrong : MethodName := ⟨"LandBookModel", "wrong", "(IIIZ)I"⟩
theorem q_Mo_wrong : y_Mo_wrong.cls = "LandBookModel" ∧ y_Mo_wrong.cls ≠ "java/lang/invoke/MethodHandle" ∧ y_Mo_wrong.cls ≠ "java/lang/invoke/VarHandle" ∧ (parseMethodDescriptor y_Mo_wrong.desc).map (fun d => d.parameters.length) = some 4 := by decide +kernel
theorem d_Mo_wrong_0 : decode prog_13_method_62_code 0 = .ok (.aload_n 0, 1) := by decide +kernel
theorem d_Mo_wrong_1 : decode prog_13_method_62_code 1 = .ok (.invokevirtual 264, 3) := by decide +kernel
theorem d_Mo_wrong_4 : decode prog_13_method_62_code 4 = .ok (.ifCond .ne 7, 3) := by decide +kernel
theorem d_Mo_wrong_11 : decode prog_13_method_62_code 11 = .ok (.aload_n 0, 1) := by decide +kernel
theorem d_Mo_wrong_12 : decode prog_13_method_62_code 12 = .ok (.iload_n 1, 1) := by decide +kernel
theorem d_Mo_wrong_13 : decode prog_13_method_62_code 13 = .ok (.invokevirtual 268, 3) := by decide +kernel
theorem d_Mo_wrong_16 : decode prog_13_method_62_code 16 = .ok (.ifCond .ne 7, 3) := by decide +kernel
theorem d_Mo_wrong_23 : decode prog_13_method_62_code 23 = .ok (.iload_n 2, 1) := by decide +kernel
theorem d_Mo_wrong_24 : decode prog_13_method_62_code 24 = .ok (.iload_n 3, 1) := by decide +kernel
theorem d_Mo_wrong_25 : decode prog_13_method_62_code 25 = .ok (.invokestatic 311, 3) := by decide +kernel
theorem d_Mo_wrong_28 : decode prog_13_method_62_code 28 = .ok (.ifCond .eq 8, 3) := by decide +kernel
theorem d_Mo_wrong_36 : decode prog_13_method_62_code 36 = .ok (.iconst 3, 1) := by decide +kernel
theorem d_Mo_wrong_37 : decode prog_13_method_62_code 37 = .ok (.goto 4, 3) := by decide +kernel
theorem d_Mo_wrong_41 : decode prog_13_method_62_code 41 = .ok (.ireturn, 1) := by decide +kernel
theorem d_Mo_wrong_31 : decode prog_13_method_62_code 31 = .ok (.iload 4, 2) := by decide +kernel
theorem d_Mo_wrong_33 : decode prog_13_method_62_code 33 = .ok (.ifCond .ne 7, 3) := by decide +kernel
theorem d_Mo_wrong_40 : decode prog_13_method_62_code 40 = .ok (.iconst 0, 1) := by decide +kernel
theorem d_Mo_wrong_19 : decode prog_13_method_62_code 19 = .ok (.iconst 2, 1) := by decide +kernel
theorem d_Mo_wrong_20 : decode prog_13_method_62_code 20 = .ok (.goto 21, 3) := by decide +kernel
theorem d_Mo_wrong_7 : decode prog_13_method_62_code 7 = .ok (.iconst 1, 1) := by decide +kernel
theorem d_Mo_wrong_8 : decode prog_13_method_62_code 8 = .ok (.goto 33, 3) := by decide +kernel
def wp_Mo_wrong (post : Int → MS → Prop) (v1 : Int) (v2 : Int) (v3 : Int) (v4 : Int) (S : MS) : Prop := wp_Mo_isUp (fun r_2 S_1 => inR r_2 ∧ (¬ (r_2 = 0) → (wp_Mo_isLot (fun r_4 S_3 => inR r_4 ∧ (¬ (r_4 = 0) → (wp_Mo_isWhen (fun r_5 => inR r_5 ∧ (r_5 = 0 → post 3 S_3) ∧ (¬ (r_5 = 0) → (inR v4 ∧ (¬ (v4 = 0) → post 0 S_3) ∧ (v4 = 0 → post 3 S_3)))) v2 v3)) ∧ (r_4 = 0 → post 2 S_3)) v1 S_1)) ∧ (r_2 = 0 → post 1 S_1))  S
set_option maxHeartbeats 4000000 in
set_option maxRecDepth 100000 in
theorem c_Mo_wrong (l : Launch) {D : va_G} {h : Nat} {ad : Nat → Nat} {kc : Nat → ClassId} {post : Int → MS → Prop} {v1 : Int} {v2 : Int} {v3 : Int} {v4 : Int} {S : MS} (hw : wp_Mo_wrong post v1 v2 v3 v4 S) : jMi l D h ad kc y_Mo_wrong prog_13_method_62_code 5 (some .int) 2 41 S [vi v1, vi v2, vi v3, vi v4] post := by
  refine j_moi (own := "LandBookModel") (by decide) rfl (Nat.le_of_ble_eq_true rfl) (fun X F K hret => ?_)
  unfold wp_Mo_wrong at hw
  show jat l D X 5 0 [(0, .ref h), (1, vi v1), (2, vi v2), (3, vi v3), (4, vi v4)] [] (mw h ad kc S) 0 0
  refine j_aload_n F 0 d_Mo_wrong_0 rfl ?_
  refine m_calli F K (c_Mo_isUp l hw) (tw_gV tj_268 tj_269 tj_270 tj_87 tj_271) q_Mo_isUp rfl ⟨by decide, by decide⟩ ⟨Nat.zero_le _, Nat.zero_le _⟩ rfl (Nat.le_of_ble_eq_true rfl) d_Mo_wrong_1 (fun r_2 S_1 hw => ?_)
  obtain ⟨hc1, hwt, hwf⟩ := hw
  refine j_if_ne F 11 hc1 d_Mo_wrong_4 rfl (fun hh => ?_) (fun hh => ?_)
  · have hw := hwt hh
    refine j_aload_n F 0 d_Mo_wrong_11 rfl ?_
    refine j_iload_n F 1 d_Mo_wrong_12 rfl ?_
    refine m_calli F K (c_Mo_isLot l hw) (tw_gV tj_272 tj_273 tj_274 tj_87 tj_275) q_Mo_isLot rfl ⟨by decide, by decide⟩ ⟨Nat.zero_le _, Nat.zero_le _⟩ rfl (Nat.le_of_ble_eq_true rfl) d_Mo_wrong_13 (fun r_4 S_3 hw => ?_)
    obtain ⟨hc1, hwt, hwf⟩ := hw
    refine j_if_ne F 23 hc1 d_Mo_wrong_16 rfl (fun hh => ?_) (fun hh => ?_)
    · have hw := hwt hh
      refine j_iload_n F 2 d_Mo_wrong_23 rfl ?_
      refine j_iload_n F 3 d_Mo_wrong_24 rfl ?_
      refine j_callS F (c_Mo_isWhen l hw) (tw_gS tj_318 tj_319 tj_87 tj_320) q_Mo_isWhen rfl ⟨by decide, by decide⟩ ⟨Nat.zero_le _, Nat.zero_le _⟩ rfl (Nat.le_of_ble_eq_true rfl) d_Mo_wrong_25 (fun r_5 hw => ?_)
      obtain ⟨hc1, hwt, hwf⟩ := hw
      refine j_if_eq F 36 hc1 d_Mo_wrong_28 rfl (fun hh => ?_) (fun hh => ?_)
      · have hw := hwt hh
        refine j_iconst F d_Mo_wrong_36 ?_
        refine j_goto F 41 d_Mo_wrong_37 rfl ?_
        exact hret _ _ _ _ hw d_Mo_wrong_41
      · have hw := hwf hh
        refine j_iload F 4 d_Mo_wrong_31 rfl ?_
        obtain ⟨hc1, hwt, hwf⟩ := hw
        refine j_if_ne F 40 hc1 d_Mo_wrong_33 rfl (fun hh => ?_) (fun hh => ?_)
        · have hw := hwt hh
          refine j_iconst F d_Mo_wrong_40 ?_
          exact hret _ _ _ _ hw d_Mo_wrong_41
        · have hw := hwf hh
          refine j_iconst F d_Mo_wrong_36 ?_
          refine j_goto F 41 d_Mo_wrong_37 rfl ?_
          exact hret _ _ _ _ hw d_Mo_wrong_41
    · have hw := hwf hh
      refine j_iconst F d_Mo_wrong_19 ?_
      refine j_goto F 41 d_Mo_wrong_20 rfl ?_
      exact hret _ _ _ _ hw d_Mo_wrong_41
  · have hw := hwf hh
    refine j_iconst F d_Mo_wrong_7 ?_
    refine j_goto F 41 d_Mo_wrong_8 rfl ?_
    exact hret _ _ _ _ hw d_Mo_wrong_41
theorem tj_321 : (Jvm.Cond.methodLink "LandBookModel" (314 : Nat) ({ cls := "LandBookModel", name := "wrong", desc := "(IIIZ)I" } : Jvm.MethodName)) ∈ tw_G := tw_in (List.mem_of_getElem? (i := 1408) (by decide +kernel)) rfl
theorem tj_322 : (Jvm.Cond.instanceMethod ({ cls := "LandBookModel", name := "wrong", desc := "(IIIZ)I" } : Jvm.MethodName)) ∈ tw_G := tw_in (List.mem_of_getElem? (i := 1410) (by decide +kernel)) rfl
theorem tj_323 : (Jvm.Cond.selects "LandBookModel" ⟨"LandBookModel", "wrong", "(IIIZ)I"⟩ ⟨"LandBookModel", "wrong", "(IIIZ)I"⟩) ∈ tw_G := tw_in (List.mem_of_getElem? (i := 57) (by decide +kernel)) rfl
theorem tj_324 : (Jvm.Cond.code ({ cls := "LandBookModel", name := "wrong", desc := "(IIIZ)I" } : Jvm.MethodName) prog_13_method_62_code (5 : Nat) (Option.some Jvm.ClassFile.FieldType.int)) ∈ tw_G := tw_in (List.mem_of_getElem? (i := 1411) (by decide +kernel)) rfl
abbrev y_Mo_area2 : MethodName := ⟨"LandBookModel", "area2", "(III)I"⟩
theorem q_Mo_area2 : y_Mo_area2.cls = "LandBookModel" ∧ y_Mo_area2.cls ≠ "java/lang/invoke/MethodHandle" ∧ y_Mo_area2.cls ≠ "java/lang/invoke/VarHandle" ∧ (parseMethodDescriptor y_Mo_area2.desc).map (fun d => d.parameters.length) = some 3 := by decide +kernel
theorem d_Mo_area2_0 : decode prog_13_method_63_code 0 = .ok (.aload_n 0, 1) := by decide +kernel
theorem d_Mo_area2_1 : decode prog_13_method_63_code 1 = .ok (.aload_n 0, 1) := by decide +kernel
theorem d_Mo_area2_2 : decode prog_13_method_63_code 2 = .ok (.iload_n 1, 1) := by decide +kernel
theorem d_Mo_area2_3 : decode prog_13_method_63_code 3 = .ok (.iload_n 2, 1) := by decide +kernel
theorem d_Mo_area2_4 : decode prog_13_method_63_code 4 = .ok (.iload_n 3, 1) := by decide +kernel
theorem d_Mo_area2_5 : decode prog_13_method_63_code 5 = .ok (.iconst 1, 1) := by decide +kernel
theorem d_Mo_area2_6 : decode prog_13_method_63_code 6 = .ok (.invokevirtual 314, 3) := by decide +kernel
theorem d_Mo_area2_9 : decode prog_13_method_63_code 9 = .ok (.putfield 98, 3) := by decide +kernel
theorem d_Mo_area2_12 : decode prog_13_method_63_code 12 = .ok (.aload_n 0, 1) := by decide +kernel
theorem d_Mo_area2_13 : decode prog_13_method_63_code 13 = .ok (.getfield 98, 3) := by decide +kernel
theorem d_Mo_area2_16 : decode prog_13_method_63_code 16 = .ok (.ifCond .gt 13, 3) := by decide +kernel
theorem d_Mo_area2_19 : decode prog_13_method_63_code 19 = .ok (.aload_n 0, 1) := by decide +kernel
theorem d_Mo_area2_20 : decode prog_13_method_63_code 20 = .ok (.iload_n 1, 1) := by decide +kernel
theorem d_Mo_area2_21 : decode prog_13_method_63_code 21 = .ok (.iload_n 2, 1) := by decide +kernel
theorem d_Mo_area2_22 : decode prog_13_method_63_code 22 = .ok (.iload_n 3, 1) := by decide +kernel
theorem d_Mo_area2_23 : decode prog_13_method_63_code 23 = .ok (.invokevirtual 185, 3) := by decide +kernel
theorem d_Mo_area2_26 : decode prog_13_method_63_code 26 = .ok (.ifCond .ne 16, 3) := by decide +kernel
theorem d_Mo_area2_42 : decode prog_13_method_63_code 42 = .ok (.lconst 0, 1) := by decide +kernel
theorem d_Mo_area2_43 : decode prog_13_method_63_code 43 = .ok (.lstore 4, 2) := by decide +kernel
theorem d_Mo_area2_45 : decode prog_13_method_63_code 45 = .ok (.iconst 0, 1) := by decide +kernel
theorem d_Mo_area2_46 : decode prog_13_method_63_code 46 = .ok (.istore 6, 2) := by decide +kernel
theorem d_Mo_area2_29 : decode prog_13_method_63_code 29 = .ok (.aload_n 0, 1) := by decide +kernel
theorem d_Mo_area2_30 : decode prog_13_method_63_code 30 = .ok (.getfield 98, 3) := by decide +kernel
theorem d_Mo_area2_33 : decode prog_13_method_63_code 33 = .ok (.ifCond .le 7, 3) := by decide +kernel
theorem d_Mo_area2_40 : decode prog_13_method_63_code 40 = .ok (.iconst (-1), 1) := by decide +kernel
theorem d_Mo_area2_41 : decode prog_13_method_63_code 41 = .ok (.ireturn, 1) := by decide +kernel
theorem d_Mo_area2_36 : decode prog_13_method_63_code 36 = .ok (.iconst 0, 1) := by decide +kernel
theorem d_Mo_area2_37 : decode prog_13_method_63_code 37 = .ok (.goto 4, 3) := by decide +kernel
theorem d_Mo_area2_48 : decode prog_13_method_63_code 48 = .ok (.iload 6, 2) := by decide +kernel
theorem d_Mo_area2_50 : decode prog_13_method_63_code 50 = .ok (.aload_n 0, 1) := by decide +kernel
theorem d_Mo_area2_51 : decode prog_13_method_63_code 51 = .ok (.getfield 22, 3) := by decide +kernel
theorem d_Mo_area2_54 : decode prog_13_method_63_code 54 = .ok (.iload_n 1, 1) := by decide +kernel
theorem d_Mo_area2_55 : decode prog_13_method_63_code 55 = .ok (.iaload, 1) := by decide +kernel
theorem d_Mo_area2_56 : decode prog_13_method_63_code 56 = .ok (.if_icmp .ge 53, 3) := by decide +kernel
theorem d_Mo_area2_109 : decode prog_13_method_63_code 109 = .ok (.lload 4, 2) := by decide +kernel
theorem d_Mo_area2_111 : decode prog_13_method_63_code 111 = .ok (.l2i, 1) := by decide +kernel
theorem d_Mo_area2_112 : decode prog_13_method_63_code 112 = .ok (.ireturn, 1) := by decide +kernel
theorem d_Mo_area2_59 : decode prog_13_method_63_code 59 = .ok (.lload 4, 2) := by decide +kernel
theorem d_Mo_area2_61 : decode prog_13_method_63_code 61 = .ok (.aload_n 0, 1) := by decide +kernel
theorem d_Mo_area2_62 : decode prog_13_method_63_code 62 = .ok (.iload_n 1, 1) := by decide +kernel
theorem d_Mo_area2_63 : decode prog_13_method_63_code 63 = .ok (.iload 6, 2) := by decide +kernel
theorem d_Mo_area2_65 : decode prog_13_method_63_code 65 = .ok (.invokevirtual 143, 3) := by decide +kernel
theorem d_Mo_area2_68 : decode prog_13_method_63_code 68 = .ok (.i2l, 1) := by decide +kernel
theorem d_Mo_area2_69 : decode prog_13_method_63_code 69 = .ok (.aload_n 0, 1) := by decide +kernel
theorem d_Mo_area2_70 : decode prog_13_method_63_code 70 = .ok (.iload_n 1, 1) := by decide +kernel
theorem d_Mo_area2_71 : decode prog_13_method_63_code 71 = .ok (.iload 6, 2) := by decide +kernel
theorem d_Mo_area2_73 : decode prog_13_method_63_code 73 = .ok (.iconst 1, 1) := by decide +kernel
theorem d_Mo_area2_74 : decode prog_13_method_63_code 74 = .ok (.iadd, 1) := by decide +kernel
theorem d_Mo_area2_75 : decode prog_13_method_63_code 75 = .ok (.invokevirtual 147, 3) := by decide +kernel
theorem d_Mo_area2_78 : decode prog_13_method_63_code 78 = .ok (.i2l, 1) := by decide +kernel
theorem d_Mo_area2_79 : decode prog_13_method_63_code 79 = .ok (.lmul, 1) := by decide +kernel
theorem d_Mo_area2_80 : decode prog_13_method_63_code 80 = .ok (.ladd, 1) := by decide +kernel
theorem d_Mo_area2_81 : decode prog_13_method_63_code 81 = .ok (.aload_n 0, 1) := by decide +kernel
theorem d_Mo_area2_82 : decode prog_13_method_63_code 82 = .ok (.iload_n 1, 1) := by decide +kernel
theorem d_Mo_area2_83 : decode prog_13_method_63_code 83 = .ok (.iload 6, 2) := by decide +kernel
theorem d_Mo_area2_85 : decode prog_13_method_63_code 85 = .ok (.iconst 1, 1) := by decide +kernel
theorem d_Mo_area2_86 : decode prog_13_method_63_code 86 = .ok (.iadd, 1) := by decide +kernel
theorem d_Mo_area2_87 : decode prog_13_method_63_code 87 = .ok (.invokevirtual 143, 3) := by decide +kernel
theorem d_Mo_area2_90 : decode prog_13_method_63_code 90 = .ok (.i2l, 1) := by decide +kernel
theorem d_Mo_area2_91 : decode prog_13_method_63_code 91 = .ok (.aload_n 0, 1) := by decide +kernel
theorem d_Mo_area2_92 : decode prog_13_method_63_code 92 = .ok (.iload_n 1, 1) := by decide +kernel
theorem d_Mo_area2_93 : decode prog_13_method_63_code 93 = .ok (.iload 6, 2) := by decide +kernel
theorem d_Mo_area2_95 : decode prog_13_method_63_code 95 = .ok (.invokevirtual 147, 3) := by decide +kernel
theorem d_Mo_area2_98 : decode prog_13_method_63_code 98 = .ok (.i2l, 1) := by decide +kernel
theorem d_Mo_area2_99 : decode prog_13_method_63_code 99 = .ok (.lmul, 1) := by decide +kernel
theorem d_Mo_area2_100 : decode prog_13_method_63_code 100 = .ok (.lsub, 1) := by decide +kernel
theorem d_Mo_area2_101 : decode prog_13_method_63_code 101 = .ok (.lstore 4, 2) := by decide +kernel
theorem d_Mo_area2_103 : decode prog_13_method_63_code 103 = .ok (.iinc 6 1, 3) := by decide +kernel
theorem d_Mo_area2_106 : decode prog_13_method_63_code 106 = .ok (.goto (-58), 3) := by decide +kernel
def wp_Mo_area2_48 (post : Int → MS → Prop) : Nat → Int → Int → Int → MS → Prop
  | 0, _, _, _, _ => False
  | n + 1, v1, v4, v6, S => ixR v1 302 ∧ (inR v6 ∧ inR (S.2 10 v1.toNat) ∧ ((S.2 10 v1.toNat) ≤ v6 → post v4 S) ∧ (¬ ((S.2 10 v1.toNat) ≤ v6) → (wp_Mo_cornerX (fun r_2 S_1 => inR r_2 ∧ (wp_Mo_cornerY (fun r_4 S_3 => inR r_4 ∧ (wp_Mo_cornerX (fun r_6 S_5 => inR r_6 ∧ (wp_Mo_cornerY (fun r_8 S_7 => inR r_8 ∧ (∀ v4_9 : Int, v4_9 = ((v4 + (r_2 * r_4)) - (r_6 * r_8)) → (wp_Mo_area2_48 post n) v1 v4_9 (v6 + 1) S_7)) v1 v6 S_5)) v1 (v6 + 1) S_3)) v1 (v6 + 1) S_1)) v1 v6 S)))
def wp_Mo_area2_29 (post : Int → MS → Prop) (S : MS) : Prop := inR (S.1 0) ∧ ((S.1 0) ≤ 0 → (post (-1) S)) ∧ (¬ ((S.1 0) ≤ 0) → post 0 S)
def wp_Mo_area2 (post : Int → MS → Prop) (v1 : Int) (v2 : Int) (v3 : Int) (S : MS) : Prop := wp_Mo_wrong (fun r_2 S_1 => (∀ S_3 : MS, S_3 = ms_i S_1 0 r_2 → inR (S_3.1 0) ∧ (0 < (S_3.1 0) → wp_Mo_area2_29 post S_3) ∧ (¬ (0 < (S_3.1 0)) → (wp_Mo_isInBeing (fun r_5 S_4 => inR r_5 ∧ (¬ (r_5 = 0) → (∃ n0 : Nat, wp_Mo_area2_48 post n0 v1 0 0 S_4)) ∧ (r_5 = 0 → wp_Mo_area2_29 post S_4)) v1 v2 v3 S_3)))) v1 v2 v3 1 S
set_option maxHeartbeats 4000000 in
set_option maxRecDepth 100000 in
theorem c_Mo_area2 (l : Launch) {D : va_G} {h : Nat} {ad : Nat → Nat} {kc : Nat → ClassId} {post : Int → MS → Prop} {v1 : Int} {v2 : Int} {v3 : Int} {S : MS} (hw : wp_Mo_area2 post v1 v2 v3 S) : jMi l D h ad kc y_Mo_area2 prog_13_method_63_code 7 (some .int) 3 65 S [vi v1, vi v2, vi v3] post := by
  refine j_moi (own := "LandBookModel") (by decide) rfl (Nat.le_of_ble_eq_true rfl) (fun X F K hret => ?_)
  have B48 : ∀ (n0 : Nat) (v1 : Int) (v4 : Int) (v6 : Int) (S : MS), wp_Mo_area2_48 post n0 v1 v4 v6 S → jat l D X 7 48 [(0, .ref h), (1, vi v1), (4, vl v4), (6, vi v6)] [] (mw h ad kc S) 0 0 := by
    intro n0
    induction n0 with
    | zero => intro v1 v4 v6 S hw; exact hw.elim
    | succ n48 ih48 =>
      intro v1 v4 v6 S hw
      unfold wp_Mo_area2_48 at hw
      refine j_iload F 3 d_Mo_area2_48 rfl ?_
      refine j_aload_n F 0 d_Mo_area2_50 rfl ?_
      refine m_geta F K 10 (by decide) (by decide) tj_131 rfl d_Mo_area2_51 ?_
      refine j_iload_n F 1 d_Mo_area2_54 rfl ?_
      obtain ⟨hc1, hw⟩ := hw
      refine m_iald F K 10 4 rfl rfl hc1 d_Mo_area2_55 ?_
      obtain ⟨hc1, hc2, hwt, hwf⟩ := hw
      refine j_icmp_ge F 109 hc1 hc2 d_Mo_area2_56 rfl (fun hh => ?_) (fun hh => ?_)
      · have hw := hwt hh
        refine j_lload F 2 d_Mo_area2_109 rfl ?_
        refine j_l2i F d_Mo_area2_111 ?_
        exact hret _ _ _ _ hw d_Mo_area2_112
      · have hw := hwf hh
        refine j_lload F 2 d_Mo_area2_59 rfl ?_
        refine j_aload_n F 0 d_Mo_area2_61 rfl ?_
        refine j_iload_n F 1 d_Mo_area2_62 rfl ?_
        refine j_iload F 3 d_Mo_area2_63 rfl ?_
        refine m_calli F K (c_Mo_cornerX l hw) (tw_gV tj_134 tj_135 tj_136 tj_87 tj_137) q_Mo_cornerX rfl ⟨by decide, by decide⟩ ⟨Nat.zero_le _, Nat.zero_le _⟩ rfl (Nat.le_of_ble_eq_true rfl) d_Mo_area2_65 (fun r_2 S_1 hw => ?_)
        obtain ⟨hc1, hw⟩ := hw
        refine j_i2l F hc1 d_Mo_area2_68 ?_
        refine j_aload_n F 0 d_Mo_area2_69 rfl ?_
        refine j_iload_n F 1 d_Mo_area2_70 rfl ?_
        refine j_iload F 3 d_Mo_area2_71 rfl ?_
        refine j_iconst F d_Mo_area2_73 ?_
        refine j_iadd F d_Mo_area2_74 ?_
        refine m_calli F K (c_Mo_cornerY l hw) (tw_gV tj_138 tj_139 tj_140 tj_87 tj_141) q_Mo_cornerY rfl ⟨by decide, by decide⟩ ⟨Nat.zero_le _, Nat.zero_le _⟩ rfl (Nat.le_of_ble_eq_true rfl) d_Mo_area2_75 (fun r_4 S_3 hw => ?_)
        obtain ⟨hc1, hw⟩ := hw
        refine j_i2l F hc1 d_Mo_area2_78 ?_
        refine j_lmul F d_Mo_area2_79 ?_
        refine j_ladd F d_Mo_area2_80 ?_
        refine j_aload_n F 0 d_Mo_area2_81 rfl ?_
        refine j_iload_n F 1 d_Mo_area2_82 rfl ?_
        refine j_iload F 3 d_Mo_area2_83 rfl ?_
        refine j_iconst F d_Mo_area2_85 ?_
        refine j_iadd F d_Mo_area2_86 ?_
        refine m_calli F K (c_Mo_cornerX l hw) (tw_gV tj_134 tj_135 tj_136 tj_87 tj_137) q_Mo_cornerX rfl ⟨by decide, by decide⟩ ⟨Nat.zero_le _, Nat.zero_le _⟩ rfl (Nat.le_of_ble_eq_true rfl) d_Mo_area2_87 (fun r_6 S_5 hw => ?_)
        obtain ⟨hc1, hw⟩ := hw
        refine j_i2l F hc1 d_Mo_area2_90 ?_
        refine j_aload_n F 0 d_Mo_area2_91 rfl ?_
        refine j_iload_n F 1 d_Mo_area2_92 rfl ?_
        refine j_iload F 3 d_Mo_area2_93 rfl ?_
        refine m_calli F K (c_Mo_cornerY l hw) (tw_gV tj_138 tj_139 tj_140 tj_87 tj_141) q_Mo_cornerY rfl ⟨by decide, by decide⟩ ⟨Nat.zero_le _, Nat.zero_le _⟩ rfl (Nat.le_of_ble_eq_true rfl) d_Mo_area2_95 (fun r_8 S_7 hw => ?_)
        obtain ⟨hc1, hw⟩ := hw
        refine j_i2l F hc1 d_Mo_area2_98 ?_
        refine j_lmul F d_Mo_area2_99 ?_
        refine j_lsub F d_Mo_area2_100 ?_
        refine j_nml (fun v4_9 e_v4_9 => ?_)
        have hw := hw v4_9 e_v4_9
        refine j_lstore F [(4, vl v4_9), (0, .ref h), (1, vi v1), (6, vi v6)] d_Mo_area2_101 (by decide) rfl ?_
        refine j_iinc F 3 [(6, vi (v6 + 1)), (4, vl v4_9), (0, .ref h), (1, vi v1)] d_Mo_area2_103 rfl (by decide) rfl ?_
        refine j_goto F 48 d_Mo_area2_106 rfl ?_
        refine j_sub [2, 3, 1, 0] rfl ?_
        exact ih48 _ _ _ _ hw
  have B29 : ∀ (S : MS), wp_Mo_area2_29 post S → jat l D X 7 29 [(0, .ref h)] [] (mw h ad kc S) 0 0 := by
    intro S hw
    unfold wp_Mo_area2_29 at hw
    refine j_aload_n F 0 d_Mo_area2_29 rfl ?_
    refine m_geti F K 0 (by decide) rfl tj_107 rfl d_Mo_area2_30 ?_
    obtain ⟨hc1, hwt, hwf⟩ := hw
    refine j_if_le F 40 hc1 d_Mo_area2_33 rfl (fun hh => ?_) (fun hh => ?_)
    · have hw := hwt hh
      refine j_iconst F d_Mo_area2_40 ?_
      exact hret _ _ _ _ hw d_Mo_area2_41
    · have hw := hwf hh
      refine j_iconst F d_Mo_area2_36 ?_
      refine j_goto F 41 d_Mo_area2_37 rfl ?_
      exact hret _ _ _ _ hw d_Mo_area2_41
  unfold wp_Mo_area2 at hw
  show jat l D X 7 0 [(0, .ref h), (1, vi v1), (2, vi v2), (3, vi v3)] [] (mw h ad kc S) 0 0
  refine j_aload_n F 0 d_Mo_area2_0 rfl ?_
  refine j_aload_n F 0 d_Mo_area2_1 rfl ?_
  refine j_iload_n F 1 d_Mo_area2_2 rfl ?_
  refine j_iload_n F 2 d_Mo_area2_3 rfl ?_
  refine j_iload_n F 3 d_Mo_area2_4 rfl ?_
  refine j_iconst F d_Mo_area2_5 ?_
  refine m_calli F K (c_Mo_wrong l hw) (tw_gV tj_321 tj_322 tj_323 tj_87 tj_324) q_Mo_wrong rfl ⟨by decide, by decide⟩ ⟨Nat.zero_le _, Nat.zero_le _⟩ rfl (Nat.le_of_ble_eq_true rfl) d_Mo_area2_6 (fun r_2 S_1 hw => ?_)
  refine m_puti F K 0 (by decide) rfl tj_107 rfl rfl (ty := .int) (by decide +kernel) rfl rfl d_Mo_area2_9 (fun S_3 e_S_3 => ?_)
  have hw := hw S_3 e_S_3
  refine j_aload_n F 0 d_Mo_area2_12 rfl ?_
  refine m_geti F K 0 (by decide) rfl tj_107 rfl d_Mo_area2_13 ?_
  obtain ⟨hc1, hwt, hwf⟩ := hw
  refine j_if_gt F 29 hc1 d_Mo_area2_16 rfl (fun hh => ?_) (fun hh => ?_)
  · have hw := hwt hh
    refine j_sub [0] rfl ?_
    exact B29 _ hw
  · have hw := hwf hh
    refine j_aload_n F 0 d_Mo_area2_19 rfl ?_
    refine j_iload_n F 1 d_Mo_area2_20 rfl ?_
    refine j_iload_n F 2 d_Mo_area2_21 rfl ?_
    refine j_iload_n F 3 d_Mo_area2_22 rfl ?_
    refine m_calli F K (c_Mo_isInBeing l hw) (tw_gV tj_183 tj_184 tj_185 tj_87 tj_186) q_Mo_isInBeing rfl ⟨by decide, by decide⟩ ⟨Nat.zero_le _, Nat.zero_le _⟩ rfl (Nat.le_of_ble_eq_true rfl) d_Mo_area2_23 (fun r_5 S_4 hw => ?_)
    obtain ⟨hc1, hwt, hwf⟩ := hw
    refine j_if_ne F 42 hc1 d_Mo_area2_26 rfl (fun hh => ?_) (fun hh => ?_)
    · have hw := hwt hh
      refine j_lconst (x := 0) F d_Mo_area2_42 (by decide) ?_
      refine j_lstore F [(4, vl 0), (0, .ref h), (1, vi v1), (2, vi v2), (3, vi v3)] d_Mo_area2_43 (by decide) rfl ?_
      refine j_iconst F d_Mo_area2_45 ?_
      refine j_istore F [(6, vi 0), (4, vl 0), (0, .ref h), (1, vi v1), (2, vi v2), (3, vi v3)] d_Mo_area2_46 (by decide) rfl ?_
      refine j_sub [2, 3, 1, 0] rfl ?_
      obtain ⟨n0, hw⟩ := hw
      exact B48 n0 _ _ _ _ hw
    · have hw := hwf hh
      refine j_sub [0] rfl ?_
      exact B29 _ hw
abbrev y_Mo_share : MethodName := ⟨"LandBookModel", "share", "(IIII)I"⟩
theorem q_Mo_share : y_Mo_share.cls = "LandBookModel" ∧ y_Mo_share.cls ≠ "java/lang/invoke/MethodHandle" ∧ y_Mo_share.cls ≠ "java/lang/invoke/VarHandle" ∧ (parseMethodDescriptor y_Mo_share.desc).map (fun d => d.parameters.length) = some 4 := by decide +kernel
theorem d_Mo_share_0 : decode prog_13_method_64_code 0 = .ok (.aload_n 0, 1) := by decide +kernel
theorem d_Mo_share_1 : decode prog_13_method_64_code 1 = .ok (.aload_n 0, 1) := by decide +kernel
theorem d_Mo_share_2 : decode prog_13_method_64_code 2 = .ok (.iload_n 1, 1) := by decide +kernel
theorem d_Mo_share_3 : decode prog_13_method_64_code 3 = .ok (.iload_n 3, 1) := by decide +kernel
theorem d_Mo_share_4 : decode prog_13_method_64_code 4 = .ok (.iload 4, 2) := by decide +kernel
theorem d_Mo_share_6 : decode prog_13_method_64_code 6 = .ok (.iload_n 2, 1) := by decide +kernel
theorem d_Mo_share_7 : decode prog_13_method_64_code 7 = .ok (.invokestatic 308, 3) := by decide +kernel
theorem d_Mo_share_10 : decode prog_13_method_64_code 10 = .ok (.invokevirtual 314, 3) := by decide +kernel
theorem d_Mo_share_13 : decode prog_13_method_64_code 13 = .ok (.putfield 98, 3) := by decide +kernel
theorem d_Mo_share_16 : decode prog_13_method_64_code 16 = .ok (.aload_n 0, 1) := by decide +kernel
theorem d_Mo_share_17 : decode prog_13_method_64_code 17 = .ok (.getfield 98, 3) := by decide +kernel
theorem d_Mo_share_20 : decode prog_13_method_64_code 20 = .ok (.ifCond .gt 14, 3) := by decide +kernel
theorem d_Mo_share_23 : decode prog_13_method_64_code 23 = .ok (.aload_n 0, 1) := by decide +kernel
theorem d_Mo_share_24 : decode prog_13_method_64_code 24 = .ok (.iload_n 1, 1) := by decide +kernel
theorem d_Mo_share_25 : decode prog_13_method_64_code 25 = .ok (.iload_n 3, 1) := by decide +kernel
theorem d_Mo_share_26 : decode prog_13_method_64_code 26 = .ok (.iload 4, 2) := by decide +kernel
theorem d_Mo_share_28 : decode prog_13_method_64_code 28 = .ok (.invokevirtual 185, 3) := by decide +kernel
theorem d_Mo_share_31 : decode prog_13_method_64_code 31 = .ok (.ifCond .ne 16, 3) := by decide +kernel
theorem d_Mo_share_47 : decode prog_13_method_64_code 47 = .ok (.aload_n 0, 1) := by decide +kernel
theorem d_Mo_share_48 : decode prog_13_method_64_code 48 = .ok (.iload_n 1, 1) := by decide +kernel
theorem d_Mo_share_49 : decode prog_13_method_64_code 49 = .ok (.iload_n 2, 1) := by decide +kernel
theorem d_Mo_share_50 : decode prog_13_method_64_code 50 = .ok (.iload_n 3, 1) := by decide +kernel
theorem d_Mo_share_51 : decode prog_13_method_64_code 51 = .ok (.iload 4, 2) := by decide +kernel
theorem d_Mo_share_53 : decode prog_13_method_64_code 53 = .ok (.invokevirtual 295, 3) := by decide +kernel
theorem d_Mo_share_56 : decode prog_13_method_64_code 56 = .ok (.ireturn, 1) := by decide +kernel
theorem d_Mo_share_34 : decode prog_13_method_64_code 34 = .ok (.aload_n 0, 1) := by decide +kernel
theorem d_Mo_share_35 : decode prog_13_method_64_code 35 = .ok (.getfield 98, 3) := by decide +kernel
theorem d_Mo_share_38 : decode prog_13_method_64_code 38 = .ok (.ifCond .le 7, 3) := by decide +kernel
theorem d_Mo_share_45 : decode prog_13_method_64_code 45 = .ok (.iconst (-1), 1) := by decide +kernel
theorem d_Mo_share_46 : decode prog_13_method_64_code 46 = .ok (.ireturn, 1) := by decide +kernel
theorem d_Mo_share_41 : decode prog_13_method_64_code 41 = .ok (.iconst 0, 1) := by decide +kernel
theorem d_Mo_share_42 : decode prog_13_method_64_code 42 = .ok (.goto 4, 3) := by decide +kernel
def wp_Mo_share_34 (post : Int → MS → Prop) (S : MS) : Prop := inR (S.1 0) ∧ ((S.1 0) ≤ 0 → (post (-1) S)) ∧ (¬ ((S.1 0) ≤ 0) → post 0 S)
def wp_Mo_share (post : Int → MS → Prop) (v1 : Int) (v2 : Int) (v3 : Int) (v4 : Int) (S : MS) : Prop := wp_Mo_isPerson (fun r_1 => wp_Mo_wrong (fun r_3 S_2 => (∀ S_4 : MS, S_4 = ms_i S_2 0 r_3 → inR (S_4.1 0) ∧ (0 < (S_4.1 0) → wp_Mo_share_34 post S_4) ∧ (¬ (0 < (S_4.1 0)) → (wp_Mo_isInBeing (fun r_6 S_5 => inR r_6 ∧ (¬ (r_6 = 0) → (wp_Mo_shareOf (fun r_8 S_7 => post r_8 S_7) v1 v2 v3 v4 S_5)) ∧ (r_6 = 0 → wp_Mo_share_34 post S_5)) v1 v3 v4 S_4)))) v1 v3 v4 r_1 S) v2
set_option maxHeartbeats 4000000 in
set_option maxRecDepth 100000 in
theorem c_Mo_share (l : Launch) {D : va_G} {h : Nat} {ad : Nat → Nat} {kc : Nat → ClassId} {post : Int → MS → Prop} {v1 : Int} {v2 : Int} {v3 : Int} {v4 : Int} {S : MS} (hw : wp_Mo_share post v1 v2 v3 v4 S) : jMi l D h ad kc y_Mo_share prog_13_method_64_code 5 (some .int) 3 65 S [vi v1, vi v2, vi v3, vi v4] post := by
  refine j_moi (own := "LandBookModel") (by decide) rfl (Nat.le_of_ble_eq_true rfl) (fun X F K hret => ?_)
  have B34 : ∀ (S : MS), wp_Mo_share_34 post S → jat l D X 5 34 [(0, .ref h)] [] (mw h ad kc S) 0 0 := by
    intro S hw
    unfold wp_Mo_share_34 at hw
    refine j_aload_n F 0 d_Mo_share_34 rfl ?_
    refine m_geti F K 0 (by decide) rfl tj_107 rfl d_Mo_share_35 ?_
    obtain ⟨hc1, hwt, hwf⟩ := hw
    refine j_if_le F 45 hc1 d_Mo_share_38 rfl (fun hh => ?_) (fun hh => ?_)
    · have hw := hwt hh
      refine j_iconst F d_Mo_share_45 ?_
      exact hret _ _ _ _ hw d_Mo_share_46
    · have hw := hwf hh
      refine j_iconst F d_Mo_share_41 ?_
      refine j_goto F 46 d_Mo_share_42 rfl ?_
      exact hret _ _ _ _ hw d_Mo_share_46
  unfold wp_Mo_share at hw
  show jat l D X 5 0 [(0, .ref h), (1, vi v1), (2, vi v2), (3, vi v3), (4, vi v4)] [] (mw h ad kc S) 0 0
  refine j_aload_n F 0 d_Mo_share_0 rfl ?_
  refine j_aload_n F 0 d_Mo_share_1 rfl ?_
  refine j_iload_n F 1 d_Mo_share_2 rfl ?_
  refine j_iload_n F 3 d_Mo_share_3 rfl ?_
  refine j_iload F 4 d_Mo_share_4 rfl ?_
  refine j_iload_n F 2 d_Mo_share_6 rfl ?_
  refine j_callS F (c_Mo_isPerson l hw) (tw_gS tj_315 tj_316 tj_87 tj_317) q_Mo_isPerson rfl ⟨by decide, by decide⟩ ⟨Nat.zero_le _, Nat.zero_le _⟩ rfl (Nat.le_of_ble_eq_true rfl) d_Mo_share_7 (fun r_1 hw => ?_)
  refine m_calli F K (c_Mo_wrong l hw) (tw_gV tj_321 tj_322 tj_323 tj_87 tj_324) q_Mo_wrong rfl ⟨by decide, by decide⟩ ⟨Nat.zero_le _, Nat.zero_le _⟩ rfl (Nat.le_of_ble_eq_true rfl) d_Mo_share_10 (fun r_3 S_2 hw => ?_)
  refine m_puti F K 0 (by decide) rfl tj_107 rfl rfl (ty := .int) (by decide +kernel) rfl rfl d_Mo_share_13 (fun S_4 e_S_4 => ?_)
  have hw := hw S_4 e_S_4
  refine j_aload_n F 0 d_Mo_share_16 rfl ?_
  refine m_geti F K 0 (by decide) rfl tj_107 rfl d_Mo_share_17 ?_
  obtain ⟨hc1, hwt, hwf⟩ := hw
  refine j_if_gt F 34 hc1 d_Mo_share_20 rfl (fun hh => ?_) (fun hh => ?_)
  · have hw := hwt hh
    refine j_sub [0] rfl ?_
    exact B34 _ hw
  · have hw := hwf hh
    refine j_aload_n F 0 d_Mo_share_23 rfl ?_
    refine j_iload_n F 1 d_Mo_share_24 rfl ?_
    refine j_iload_n F 3 d_Mo_share_25 rfl ?_
    refine j_iload F 4 d_Mo_share_26 rfl ?_
    refine m_calli F K (c_Mo_isInBeing l hw) (tw_gV tj_183 tj_184 tj_185 tj_87 tj_186) q_Mo_isInBeing rfl ⟨by decide, by decide⟩ ⟨Nat.zero_le _, Nat.zero_le _⟩ rfl (Nat.le_of_ble_eq_true rfl) d_Mo_share_28 (fun r_6 S_5 hw => ?_)
    obtain ⟨hc1, hwt, hwf⟩ := hw
    refine j_if_ne F 47 hc1 d_Mo_share_31 rfl (fun hh => ?_) (fun hh => ?_)
    · have hw := hwt hh
      refine j_aload_n F 0 d_Mo_share_47 rfl ?_
      refine j_iload_n F 1 d_Mo_share_48 rfl ?_
      refine j_iload_n F 2 d_Mo_share_49 rfl ?_
      refine j_iload_n F 3 d_Mo_share_50 rfl ?_
      refine j_iload F 4 d_Mo_share_51 rfl ?_
      refine m_calli F K (c_Mo_shareOf l hw) (tw_gV tj_299 tj_300 tj_301 tj_87 tj_302) q_Mo_shareOf rfl ⟨by decide, by decide⟩ ⟨Nat.zero_le _, Nat.zero_le _⟩ rfl (Nat.le_of_ble_eq_true rfl) d_Mo_share_53 (fun r_8 S_7 hw => ?_)
      exact hret _ _ _ _ hw d_Mo_share_56
    · have hw := hwf hh
      refine j_sub [0] rfl ?_
      exact B34 _ hw
abbrev y_Mo_areNext : MethodName := ⟨"LandBookModel", "areNext", "(II)Z"⟩
theorem q_Mo_areNext : y_Mo_areNext.cls = "LandBookModel" ∧ y_Mo_areNext.cls ≠ "java/lang/invoke/MethodHandle" ∧ y_Mo_areNext.cls ≠ "java/lang/invoke/VarHandle" ∧ (parseMethodDescriptor y_Mo_areNext.desc).map (fun d => d.parameters.length) = some 2 := by decide +kernel
theorem d_Mo_areNext_0 : decode prog_13_method_65_code 0 = .ok (.iconst 0, 1) := by decide +kernel
theorem d_Mo_areNext_1 : decode prog_13_method_65_code 1 = .ok (.istore_n 3, 1) := by decide +kernel
theorem d_Mo_areNext_2 : decode prog_13_method_65_code 2 = .ok (.iconst 0, 1) := by decide +kernel
theorem d_Mo_areNext_3 : decode prog_13_method_65_code 3 = .ok (.istore 4, 2) := by decide +kernel
theorem d_Mo_areNext_5 : decode prog_13_method_65_code 5 = .ok (.iload 4, 2) := by decide +kernel
theorem d_Mo_areNext_7 : decode prog_13_method_65_code 7 = .ok (.aload_n 0, 1) := by decide +kernel
theorem d_Mo_areNext_8 : decode prog_13_method_65_code 8 = .ok (.getfield 22, 3) := by decide +kernel
theorem d_Mo_areNext_11 : decode prog_13_method_65_code 11 = .ok (.iload_n 1, 1) := by decide +kernel
theorem d_Mo_areNext_12 : decode prog_13_method_65_code 12 = .ok (.iaload, 1) := by decide +kernel
theorem d_Mo_areNext_13 : decode prog_13_method_65_code 13 = .ok (.if_icmp .ge 189, 3) := by decide +kernel
theorem d_Mo_areNext_202 : decode prog_13_method_65_code 202 = .ok (.iload_n 3, 1) := by decide +kernel
theorem d_Mo_areNext_203 : decode prog_13_method_65_code 203 = .ok (.ireturn, 1) := by decide +kernel
theorem d_Mo_areNext_16 : decode prog_13_method_65_code 16 = .ok (.iconst 0, 1) := by decide +kernel
theorem d_Mo_areNext_17 : decode prog_13_method_65_code 17 = .ok (.istore 5, 2) := by decide +kernel
theorem d_Mo_areNext_19 : decode prog_13_method_65_code 19 = .ok (.iload 5, 2) := by decide +kernel
theorem d_Mo_areNext_21 : decode prog_13_method_65_code 21 = .ok (.aload_n 0, 1) := by decide +kernel
theorem d_Mo_areNext_22 : decode prog_13_method_65_code 22 = .ok (.getfield 22, 3) := by decide +kernel
theorem d_Mo_areNext_25 : decode prog_13_method_65_code 25 = .ok (.iload_n 2, 1) := by decide +kernel
theorem d_Mo_areNext_26 : decode prog_13_method_65_code 26 = .ok (.iaload, 1) := by decide +kernel
theorem d_Mo_areNext_27 : decode prog_13_method_65_code 27 = .ok (.if_icmp .ge 169, 3) := by decide +kernel
theorem d_Mo_areNext_196 : decode prog_13_method_65_code 196 = .ok (.iinc 4 1, 3) := by decide +kernel
theorem d_Mo_areNext_199 : decode prog_13_method_65_code 199 = .ok (.goto (-194), 3) := by decide +kernel
theorem d_Mo_areNext_30 : decode prog_13_method_65_code 30 = .ok (.aload_n 0, 1) := by decide +kernel
theorem d_Mo_areNext_31 : decode prog_13_method_65_code 31 = .ok (.iload_n 1, 1) := by decide +kernel
theorem d_Mo_areNext_32 : decode prog_13_method_65_code 32 = .ok (.iload 4, 2) := by decide +kernel
theorem d_Mo_areNext_34 : decode prog_13_method_65_code 34 = .ok (.invokevirtual 143, 3) := by decide +kernel
theorem d_Mo_areNext_37 : decode prog_13_method_65_code 37 = .ok (.istore 6, 2) := by decide +kernel
theorem d_Mo_areNext_39 : decode prog_13_method_65_code 39 = .ok (.aload_n 0, 1) := by decide +kernel
theorem d_Mo_areNext_40 : decode prog_13_method_65_code 40 = .ok (.iload_n 1, 1) := by decide +kernel
theorem d_Mo_areNext_41 : decode prog_13_method_65_code 41 = .ok (.iload 4, 2) := by decide +kernel
theorem d_Mo_areNext_43 : decode prog_13_method_65_code 43 = .ok (.invokevirtual 147, 3) := by decide +kernel
theorem d_Mo_areNext_46 : decode prog_13_method_65_code 46 = .ok (.istore 7, 2) := by decide +kernel
theorem d_Mo_areNext_48 : decode prog_13_method_65_code 48 = .ok (.aload_n 0, 1) := by decide +kernel
theorem d_Mo_areNext_49 : decode prog_13_method_65_code 49 = .ok (.iload_n 1, 1) := by decide +kernel
theorem d_Mo_areNext_50 : decode prog_13_method_65_code 50 = .ok (.iload 4, 2) := by decide +kernel
theorem d_Mo_areNext_52 : decode prog_13_method_65_code 52 = .ok (.iconst 1, 1) := by decide +kernel
theorem d_Mo_areNext_53 : decode prog_13_method_65_code 53 = .ok (.iadd, 1) := by decide +kernel
theorem d_Mo_areNext_54 : decode prog_13_method_65_code 54 = .ok (.invokevirtual 143, 3) := by decide +kernel
theorem d_Mo_areNext_57 : decode prog_13_method_65_code 57 = .ok (.istore 8, 2) := by decide +kernel
theorem d_Mo_areNext_59 : decode prog_13_method_65_code 59 = .ok (.aload_n 0, 1) := by decide +kernel
theorem d_Mo_areNext_60 : decode prog_13_method_65_code 60 = .ok (.iload_n 1, 1) := by decide +kernel
theorem d_Mo_areNext_61 : decode prog_13_method_65_code 61 = .ok (.iload 4, 2) := by decide +kernel
theorem d_Mo_areNext_63 : decode prog_13_method_65_code 63 = .ok (.iconst 1, 1) := by decide +kernel
theorem d_Mo_areNext_64 : decode prog_13_method_65_code 64 = .ok (.iadd, 1) := by decide +kernel
theorem d_Mo_areNext_65 : decode prog_13_method_65_code 65 = .ok (.invokevirtual 147, 3) := by decide +kernel
theorem d_Mo_areNext_68 : decode prog_13_method_65_code 68 = .ok (.istore 9, 2) := by decide +kernel
theorem d_Mo_areNext_70 : decode prog_13_method_65_code 70 = .ok (.aload_n 0, 1) := by decide +kernel
theorem d_Mo_areNext_71 : decode prog_13_method_65_code 71 = .ok (.iload_n 2, 1) := by decide +kernel
theorem d_Mo_areNext_72 : decode prog_13_method_65_code 72 = .ok (.iload 5, 2) := by decide +kernel
theorem d_Mo_areNext_74 : decode prog_13_method_65_code 74 = .ok (.invokevirtual 143, 3) := by decide +kernel
theorem d_Mo_areNext_77 : decode prog_13_method_65_code 77 = .ok (.istore 10, 2) := by decide +kernel
theorem d_Mo_areNext_79 : decode prog_13_method_65_code 79 = .ok (.aload_n 0, 1) := by decide +kernel
theorem d_Mo_areNext_80 : decode prog_13_method_65_code 80 = .ok (.iload_n 2, 1) := by decide +kernel
theorem d_Mo_areNext_81 : decode prog_13_method_65_code 81 = .ok (.iload 5, 2) := by decide +kernel
theorem d_Mo_areNext_83 : decode prog_13_method_65_code 83 = .ok (.invokevirtual 147, 3) := by decide +kernel
theorem d_Mo_areNext_86 : decode prog_13_method_65_code 86 = .ok (.istore 11, 2) := by decide +kernel
theorem d_Mo_areNext_88 : decode prog_13_method_65_code 88 = .ok (.aload_n 0, 1) := by decide +kernel
theorem d_Mo_areNext_89 : decode prog_13_method_65_code 89 = .ok (.iload_n 2, 1) := by decide +kernel
theorem d_Mo_areNext_90 : decode prog_13_method_65_code 90 = .ok (.iload 5, 2) := by decide +kernel
theorem d_Mo_areNext_92 : decode prog_13_method_65_code 92 = .ok (.iconst 1, 1) := by decide +kernel
theorem d_Mo_areNext_93 : decode prog_13_method_65_code 93 = .ok (.iadd, 1) := by decide +kernel
theorem d_Mo_areNext_94 : decode prog_13_method_65_code 94 = .ok (.invokevirtual 143, 3) := by decide +kernel
theorem d_Mo_areNext_97 : decode prog_13_method_65_code 97 = .ok (.istore 12, 2) := by decide +kernel
theorem d_Mo_areNext_99 : decode prog_13_method_65_code 99 = .ok (.aload_n 0, 1) := by decide +kernel
theorem d_Mo_areNext_100 : decode prog_13_method_65_code 100 = .ok (.iload_n 2, 1) := by decide +kernel
theorem d_Mo_areNext_101 : decode prog_13_method_65_code 101 = .ok (.iload 5, 2) := by decide +kernel
theorem d_Mo_areNext_103 : decode prog_13_method_65_code 103 = .ok (.iconst 1, 1) := by decide +kernel
theorem d_Mo_areNext_104 : decode prog_13_method_65_code 104 = .ok (.iadd, 1) := by decide +kernel
theorem d_Mo_areNext_105 : decode prog_13_method_65_code 105 = .ok (.invokevirtual 147, 3) := by decide +kernel
theorem d_Mo_areNext_108 : decode prog_13_method_65_code 108 = .ok (.istore 13, 2) := by decide +kernel
theorem d_Mo_areNext_110 : decode prog_13_method_65_code 110 = .ok (.iload 6, 2) := by decide +kernel
theorem d_Mo_areNext_112 : decode prog_13_method_65_code 112 = .ok (.iload 7, 2) := by decide +kernel
theorem d_Mo_areNext_114 : decode prog_13_method_65_code 114 = .ok (.iload 8, 2) := by decide +kernel
theorem d_Mo_areNext_116 : decode prog_13_method_65_code 116 = .ok (.iload 9, 2) := by decide +kernel
theorem d_Mo_areNext_118 : decode prog_13_method_65_code 118 = .ok (.iload 10, 2) := by decide +kernel
theorem d_Mo_areNext_120 : decode prog_13_method_65_code 120 = .ok (.iload 11, 2) := by decide +kernel
theorem d_Mo_areNext_122 : decode prog_13_method_65_code 122 = .ok (.invokestatic 109, 3) := by decide +kernel
theorem d_Mo_areNext_125 : decode prog_13_method_65_code 125 = .ok (.ifCond .ne 25, 3) := by decide +kernel
theorem d_Mo_areNext_150 : decode prog_13_method_65_code 150 = .ok (.iconst 0, 1) := by decide +kernel
theorem d_Mo_areNext_128 : decode prog_13_method_65_code 128 = .ok (.iload 6, 2) := by decide +kernel
theorem d_Mo_areNext_130 : decode prog_13_method_65_code 130 = .ok (.iload 7, 2) := by decide +kernel
theorem d_Mo_areNext_132 : decode prog_13_method_65_code 132 = .ok (.iload 8, 2) := by decide +kernel
theorem d_Mo_areNext_134 : decode prog_13_method_65_code 134 = .ok (.iload 9, 2) := by decide +kernel
theorem d_Mo_areNext_136 : decode prog_13_method_65_code 136 = .ok (.iload 12, 2) := by decide +kernel
theorem d_Mo_areNext_138 : decode prog_13_method_65_code 138 = .ok (.iload 13, 2) := by decide +kernel
theorem d_Mo_areNext_140 : decode prog_13_method_65_code 140 = .ok (.invokestatic 109, 3) := by decide +kernel
theorem d_Mo_areNext_143 : decode prog_13_method_65_code 143 = .ok (.ifCond .ne 7, 3) := by decide +kernel
theorem d_Mo_areNext_146 : decode prog_13_method_65_code 146 = .ok (.iconst 1, 1) := by decide +kernel
theorem d_Mo_areNext_147 : decode prog_13_method_65_code 147 = .ok (.goto 4, 3) := by decide +kernel
theorem d_Mo_areNext_151 : decode prog_13_method_65_code 151 = .ok (.istore 14, 2) := by decide +kernel
theorem d_Mo_areNext_153 : decode prog_13_method_65_code 153 = .ok (.iload_n 3, 1) := by decide +kernel
theorem d_Mo_areNext_154 : decode prog_13_method_65_code 154 = .ok (.ifCond .ne 30, 3) := by decide +kernel
theorem d_Mo_areNext_184 : decode prog_13_method_65_code 184 = .ok (.iconst 1, 1) := by decide +kernel
theorem d_Mo_areNext_185 : decode prog_13_method_65_code 185 = .ok (.goto 4, 3) := by decide +kernel
theorem d_Mo_areNext_157 : decode prog_13_method_65_code 157 = .ok (.iload 14, 2) := by decide +kernel
theorem d_Mo_areNext_159 : decode prog_13_method_65_code 159 = .ok (.ifCond .eq 29, 3) := by decide +kernel
theorem d_Mo_areNext_188 : decode prog_13_method_65_code 188 = .ok (.iconst 0, 1) := by decide +kernel
theorem d_Mo_areNext_162 : decode prog_13_method_65_code 162 = .ok (.iload 6, 2) := by decide +kernel
theorem d_Mo_areNext_164 : decode prog_13_method_65_code 164 = .ok (.iload 7, 2) := by decide +kernel
theorem d_Mo_areNext_166 : decode prog_13_method_65_code 166 = .ok (.iload 8, 2) := by decide +kernel
theorem d_Mo_areNext_168 : decode prog_13_method_65_code 168 = .ok (.iload 9, 2) := by decide +kernel
theorem d_Mo_areNext_170 : decode prog_13_method_65_code 170 = .ok (.iload 10, 2) := by decide +kernel
theorem d_Mo_areNext_172 : decode prog_13_method_65_code 172 = .ok (.iload 11, 2) := by decide +kernel
theorem d_Mo_areNext_174 : decode prog_13_method_65_code 174 = .ok (.iload 12, 2) := by decide +kernel
theorem d_Mo_areNext_176 : decode prog_13_method_65_code 176 = .ok (.iload 13, 2) := by decide +kernel
theorem d_Mo_areNext_178 : decode prog_13_method_65_code 178 = .ok (.invokestatic 214, 3) := by decide +kernel
theorem d_Mo_areNext_181 : decode prog_13_method_65_code 181 = .ok (.ifCond .eq 7, 3) := by decide +kernel
theorem d_Mo_areNext_189 : decode prog_13_method_65_code 189 = .ok (.istore_n 3, 1) := by decide +kernel
theorem d_Mo_areNext_190 : decode prog_13_method_65_code 190 = .ok (.iinc 5 1, 3) := by decide +kernel
theorem d_Mo_areNext_193 : decode prog_13_method_65_code 193 = .ok (.goto (-174), 3) := by decide +kernel
def wp_Mo_areNext_189 (post : Int → MS → Prop) (k5 : Int → Int → Int → Int → MS → Prop) (k19 : Int → Int → Int → Int → Int → MS → Prop) (v1 : Int) (v2 : Int) (v4 : Int) (v5 : Int) (s0 : Int) (S : MS) : Prop := k19 v1 v2 s0 v4 (v5 + 1) S
def wp_Mo_areNext_151 (post : Int → MS → Prop) (k5 : Int → Int → Int → Int → MS → Prop) (k19 : Int → Int → Int → Int → Int → MS → Prop) (v1 : Int) (v2 : Int) (v3 : Int) (v4 : Int) (v5 : Int) (v6 : Int) (v7 : Int) (v8 : Int) (v9 : Int) (v10 : Int) (v11 : Int) (v12 : Int) (v13 : Int) (s0 : Int) (S : MS) : Prop := inR v3 ∧ (¬ (v3 = 0) → wp_Mo_areNext_189 post k5 k19 v1 v2 v4 v5 1 S) ∧ (v3 = 0 → (inR s0 ∧ (s0 = 0 → wp_Mo_areNext_189 post k5 k19 v1 v2 v4 v5 0 S) ∧ (¬ (s0 = 0) → (wp_Mo_overlap (fun r_1 => inR r_1 ∧ (r_1 = 0 → wp_Mo_areNext_189 post k5 k19 v1 v2 v4 v5 0 S) ∧ (¬ (r_1 = 0) → wp_Mo_areNext_189 post k5 k19 v1 v2 v4 v5 1 S)) v6 v7 v8 v9 v10 v11 v12 v13))))
def wp_Mo_areNext_19 (post : Int → MS → Prop) (k5 : Int → Int → Int → Int → MS → Prop) : Nat → Int → Int → Int → Int → Int → MS → Prop
  | 0, _, _, _, _, _, _ => False
  | n + 1, v1, v2, v3, v4, v5, S => ixR v2 302 ∧ (inR v5 ∧ inR (S.2 10 v2.toNat) ∧ ((S.2 10 v2.toNat) ≤ v5 → (k5 v1 v2 v3 (v4 + 1) S)) ∧ (¬ ((S.2 10 v2.toNat) ≤ v5) → (wp_Mo_cornerX (fun r_2 S_1 => wp_Mo_cornerY (fun r_4 S_3 => wp_Mo_cornerX (fun r_6 S_5 => wp_Mo_cornerY (fun r_8 S_7 => wp_Mo_cornerX (fun r_10 S_9 => wp_Mo_cornerY (fun r_12 S_11 => wp_Mo_cornerX (fun r_14 S_13 => wp_Mo_cornerY (fun r_16 S_15 => wp_Mo_turn (fun r_17 => inR r_17 ∧ (¬ (r_17 = 0) → wp_Mo_areNext_151 post k5 (wp_Mo_areNext_19 post k5 n) v1 v2 v3 v4 v5 r_2 r_4 r_6 r_8 r_10 r_12 r_14 r_16 0 S_15) ∧ (r_17 = 0 → (wp_Mo_turn (fun r_18 => inR r_18 ∧ (¬ (r_18 = 0) → wp_Mo_areNext_151 post k5 (wp_Mo_areNext_19 post k5 n) v1 v2 v3 v4 v5 r_2 r_4 r_6 r_8 r_10 r_12 r_14 r_16 0 S_15) ∧ (r_18 = 0 → wp_Mo_areNext_151 post k5 (wp_Mo_areNext_19 post k5 n) v1 v2 v3 v4 v5 r_2 r_4 r_6 r_8 r_10 r_12 r_14 r_16 1 S_15)) r_2 r_4 r_6 r_8 r_14 r_16))) r_2 r_4 r_6 r_8 r_10 r_12) v2 (v5 + 1) S_13) v2 (v5 + 1) S_11) v2 v5 S_9) v2 v5 S_7) v1 (v4 + 1) S_5) v1 (v4 + 1) S_3) v1 v4 S_1) v1 v4 S)))
def wp_Mo_areNext_5 (post : Int → MS → Prop) : Nat → Int → Int → Int → Int → MS → Prop
  | 0, _, _, _, _, _ => False
  | n + 1, v1, v2, v3, v4, S => ixR v1 302 ∧ (inR v4 ∧ inR (S.2 10 v1.toNat) ∧ ((S.2 10 v1.toNat) ≤ v4 → (b01 v3 ∧ post v3 S)) ∧ (¬ ((S.2 10 v1.toNat) ≤ v4) → (∃ n0 : Nat, wp_Mo_areNext_19 post (wp_Mo_areNext_5 post n) n0 v1 v2 v3 v4 0 S)))
def wp_Mo_areNext (post : Int → MS → Prop) (v1 : Int) (v2 : Int) (S : MS) : Prop := ∃ n0 : Nat, wp_Mo_areNext_5 post n0 v1 v2 0 0 S
set_option maxHeartbeats 4000000 in
set_option maxRecDepth 100000 in
theorem c_Mo_areNext (l : Launch) {D : va_G} {h : Nat} {ad : Nat → Nat} {kc : Nat → ClassId} {post : Int → MS → Prop} {v1 : Int} {v2 : Int} {S : MS} (hw : wp_Mo_areNext post v1 v2 S) : jMi l D h ad kc y_Mo_areNext prog_13_method_65_code 15 (some .boolean) 2 55 S [vi v1, vi v2] post := by
  refine j_moz (own := "LandBookModel") (by decide) rfl (Nat.le_of_ble_eq_true rfl) (fun X F K hret => ?_)
  have B5 : ∀ (n0 : Nat) (v1 : Int) (v2 : Int) (v3 : Int) (v4 : Int) (S : MS), wp_Mo_areNext_5 post n0 v1 v2 v3 v4 S → jat l D X 15 5 [(0, .ref h), (1, vi v1), (2, vi v2), (3, vi v3), (4, vi v4)] [] (mw h ad kc S) 0 0 := by
    intro n0
    induction n0 with
    | zero => intro v1 v2 v3 v4 S hw; exact hw.elim
    | succ n5 ih5 =>
      have B19 : ∀ (n0 : Nat) (v1 : Int) (v2 : Int) (v3 : Int) (v4 : Int) (v5 : Int) (S : MS), wp_Mo_areNext_19 post (wp_Mo_areNext_5 post n5) n0 v1 v2 v3 v4 v5 S → jat l D X 15 19 [(0, .ref h), (1, vi v1), (2, vi v2), (3, vi v3), (4, vi v4), (5, vi v5)] [] (mw h ad kc S) 0 0 := by
        intro n0
        induction n0 with
        | zero => intro v1 v2 v3 v4 v5 S hw; exact hw.elim
        | succ n19 ih19 =>
          have B189 : ∀ (v1 : Int) (v2 : Int) (v4 : Int) (v5 : Int) (s0 : Int) (S : MS), wp_Mo_areNext_189 post (wp_Mo_areNext_5 post n5) (wp_Mo_areNext_19 post (wp_Mo_areNext_5 post n5) n19) v1 v2 v4 v5 s0 S → jat l D X 15 189 [(0, .ref h), (1, vi v1), (2, vi v2), (4, vi v4), (5, vi v5)] [vi s0] (mw h ad kc S) 0 0 := by
            intro v1 v2 v4 v5 s0 S hw
            unfold wp_Mo_areNext_189 at hw
            refine j_istore_n F [(3, vi s0), (0, .ref h), (1, vi v1), (2, vi v2), (4, vi v4), (5, vi v5)] d_Mo_areNext_189 (by decide) rfl ?_
            refine j_iinc F 5 [(5, vi (v5 + 1)), (3, vi s0), (0, .ref h), (1, vi v1), (2, vi v2), (4, vi v4)] d_Mo_areNext_190 rfl (by decide) rfl ?_
            refine j_goto F 19 d_Mo_areNext_193 rfl ?_
            refine j_sub [2, 3, 4, 1, 5, 0] rfl ?_
            exact ih19 _ _ _ _ _ _ hw
          have B151 : ∀ (v1 : Int) (v2 : Int) (v3 : Int) (v4 : Int) (v5 : Int) (v6 : Int) (v7 : Int) (v8 : Int) (v9 : Int) (v10 : Int) (v11 : Int) (v12 : Int) (v13 : Int) (s0 : Int) (S : MS), wp_Mo_areNext_151 post (wp_Mo_areNext_5 post n5) (wp_Mo_areNext_19 post (wp_Mo_areNext_5 post n5) n19) v1 v2 v3 v4 v5 v6 v7 v8 v9 v10 v11 v12 v13 s0 S → jat l D X 15 151 [(0, .ref h), (1, vi v1), (2, vi v2), (3, vi v3), (4, vi v4), (5, vi v5), (6, vi v6), (7, vi v7), (8, vi v8), (9, vi v9), (10, vi v10), (11, vi v11), (12, vi v12), (13, vi v13)] [vi s0] (mw h ad kc S) 0 0 := by
            intro v1 v2 v3 v4 v5 v6 v7 v8 v9 v10 v11 v12 v13 s0 S hw
            unfold wp_Mo_areNext_151 at hw
            refine j_istore F [(14, vi s0), (0, .ref h), (1, vi v1), (2, vi v2), (3, vi v3), (4, vi v4), (5, vi v5), (6, vi v6), (7, vi v7), (8, vi v8), (9, vi v9), (10, vi v10), (11, vi v11), (12, vi v12), (13, vi v13)] d_Mo_areNext_151 (by decide) rfl ?_
            refine j_iload_n F 4 d_Mo_areNext_153 rfl ?_
            obtain ⟨hc1, hwt, hwf⟩ := hw
            refine j_if_ne F 184 hc1 d_Mo_areNext_154 rfl (fun hh => ?_) (fun hh => ?_)
            · have hw := hwt hh
              refine j_iconst F d_Mo_areNext_184 ?_
              refine j_goto F 189 d_Mo_areNext_185 rfl ?_
              refine j_sub [1, 2, 3, 5, 6] rfl ?_
              exact B189 _ _ _ _ _ _ hw
            · have hw := hwf hh
              refine j_iload F 0 d_Mo_areNext_157 rfl ?_
              obtain ⟨hc1, hwt, hwf⟩ := hw
              refine j_if_eq F 188 hc1 d_Mo_areNext_159 rfl (fun hh => ?_) (fun hh => ?_)
              · have hw := hwt hh
                refine j_iconst F d_Mo_areNext_188 ?_
                refine j_sub [1, 2, 3, 5, 6] rfl ?_
                exact B189 _ _ _ _ _ _ hw
              · have hw := hwf hh
                refine j_iload F 7 d_Mo_areNext_162 rfl ?_
                refine j_iload F 8 d_Mo_areNext_164 rfl ?_
                refine j_iload F 9 d_Mo_areNext_166 rfl ?_
                refine j_iload F 10 d_Mo_areNext_168 rfl ?_
                refine j_iload F 11 d_Mo_areNext_170 rfl ?_
                refine j_iload F 12 d_Mo_areNext_172 rfl ?_
                refine j_iload F 13 d_Mo_areNext_174 rfl ?_
                refine j_iload F 14 d_Mo_areNext_176 rfl ?_
                refine j_callS F (c_Mo_overlap l hw) (tw_gS tj_218 tj_219 tj_87 tj_220) q_Mo_overlap rfl ⟨by decide, by decide⟩ ⟨Nat.zero_le _, Nat.zero_le _⟩ rfl (Nat.le_of_ble_eq_true rfl) d_Mo_areNext_178 (fun r_1 hw => ?_)
                obtain ⟨hc1, hwt, hwf⟩ := hw
                refine j_if_eq F 188 hc1 d_Mo_areNext_181 rfl (fun hh => ?_) (fun hh => ?_)
                · have hw := hwt hh
                  refine j_iconst F d_Mo_areNext_188 ?_
                  refine j_sub [1, 2, 3, 5, 6] rfl ?_
                  exact B189 _ _ _ _ _ _ hw
                · have hw := hwf hh
                  refine j_iconst F d_Mo_areNext_184 ?_
                  refine j_goto F 189 d_Mo_areNext_185 rfl ?_
                  refine j_sub [1, 2, 3, 5, 6] rfl ?_
                  exact B189 _ _ _ _ _ _ hw
          intro v1 v2 v3 v4 v5 S hw
          unfold wp_Mo_areNext_19 at hw
          refine j_iload F 5 d_Mo_areNext_19 rfl ?_
          refine j_aload_n F 0 d_Mo_areNext_21 rfl ?_
          refine m_geta F K 10 (by decide) (by decide) tj_131 rfl d_Mo_areNext_22 ?_
          refine j_iload_n F 2 d_Mo_areNext_25 rfl ?_
          obtain ⟨hc1, hw⟩ := hw
          refine m_iald F K 10 4 rfl rfl hc1 d_Mo_areNext_26 ?_
          obtain ⟨hc1, hc2, hwt, hwf⟩ := hw
          refine j_icmp_ge F 196 hc1 hc2 d_Mo_areNext_27 rfl (fun hh => ?_) (fun hh => ?_)
          · have hw := hwt hh
            refine j_iinc F 4 [(4, vi (v4 + 1)), (0, .ref h), (1, vi v1), (2, vi v2), (3, vi v3), (5, vi v5)] d_Mo_areNext_196 rfl (by decide) rfl ?_
            refine j_goto F 5 d_Mo_areNext_199 rfl ?_
            refine j_sub [1, 2, 3, 4, 0] rfl ?_
            exact ih5 _ _ _ _ _ hw
          · have hw := hwf hh
            refine j_aload_n F 0 d_Mo_areNext_30 rfl ?_
            refine j_iload_n F 1 d_Mo_areNext_31 rfl ?_
            refine j_iload F 4 d_Mo_areNext_32 rfl ?_
            refine m_calli F K (c_Mo_cornerX l hw) (tw_gV tj_134 tj_135 tj_136 tj_87 tj_137) q_Mo_cornerX rfl ⟨by decide, by decide⟩ ⟨Nat.zero_le _, Nat.zero_le _⟩ rfl (Nat.le_of_ble_eq_true rfl) d_Mo_areNext_34 (fun r_2 S_1 hw => ?_)
            refine j_istore F [(6, vi r_2), (0, .ref h), (1, vi v1), (2, vi v2), (3, vi v3), (4, vi v4), (5, vi v5)] d_Mo_areNext_37 (by decide) rfl ?_
            refine j_aload_n F 1 d_Mo_areNext_39 rfl ?_
            refine j_iload_n F 2 d_Mo_areNext_40 rfl ?_
            refine j_iload F 5 d_Mo_areNext_41 rfl ?_
            refine m_calli F K (c_Mo_cornerY l hw) (tw_gV tj_138 tj_139 tj_140 tj_87 tj_141) q_Mo_cornerY rfl ⟨by decide, by decide⟩ ⟨Nat.zero_le _, Nat.zero_le _⟩ rfl (Nat.le_of_ble_eq_true rfl) d_Mo_areNext_43 (fun r_4 S_3 hw => ?_)
            refine j_istore F [(7, vi r_4), (6, vi r_2), (0, .ref h), (1, vi v1), (2, vi v2), (3, vi v3), (4, vi v4), (5, vi v5)] d_Mo_areNext_46 (by decide) rfl ?_
            refine j_aload_n F 2 d_Mo_areNext_48 rfl ?_
            refine j_iload_n F 3 d_Mo_areNext_49 rfl ?_
            refine j_iload F 6 d_Mo_areNext_50 rfl ?_
            refine j_iconst F d_Mo_areNext_52 ?_
            refine j_iadd F d_Mo_areNext_53 ?_
            refine m_calli F K (c_Mo_cornerX l hw) (tw_gV tj_134 tj_135 tj_136 tj_87 tj_137) q_Mo_cornerX rfl ⟨by decide, by decide⟩ ⟨Nat.zero_le _, Nat.zero_le _⟩ rfl (Nat.le_of_ble_eq_true rfl) d_Mo_areNext_54 (fun r_6 S_5 hw => ?_)
            refine j_istore F [(8, vi r_6), (7, vi r_4), (6, vi r_2), (0, .ref h), (1, vi v1), (2, vi v2), (3, vi v3), (4, vi v4), (5, vi v5)] d_Mo_areNext_57 (by decide) rfl ?_
            refine j_aload_n F 3 d_Mo_areNext_59 rfl ?_
            refine j_iload_n F 4 d_Mo_areNext_60 rfl ?_
            refine j_iload F 7 d_Mo_areNext_61 rfl ?_
            refine j_iconst F d_Mo_areNext_63 ?_
            refine j_iadd F d_Mo_areNext_64 ?_
            refine m_calli F K (c_Mo_cornerY l hw) (tw_gV tj_138 tj_139 tj_140 tj_87 tj_141) q_Mo_cornerY rfl ⟨by decide, by decide⟩ ⟨Nat.zero_le _, Nat.zero_le _⟩ rfl (Nat.le_of_ble_eq_true rfl) d_Mo_areNext_65 (fun r_8 S_7 hw => ?_)
            refine j_istore F [(9, vi r_8), (8, vi r_6), (7, vi r_4), (6, vi r_2), (0, .ref h), (1, vi v1), (2, vi v2), (3, vi v3), (4, vi v4), (5, vi v5)] d_Mo_areNext_68 (by decide) rfl ?_
            refine j_aload_n F 4 d_Mo_areNext_70 rfl ?_
            refine j_iload_n F 6 d_Mo_areNext_71 rfl ?_
            refine j_iload F 9 d_Mo_areNext_72 rfl ?_
            refine m_calli F K (c_Mo_cornerX l hw) (tw_gV tj_134 tj_135 tj_136 tj_87 tj_137) q_Mo_cornerX rfl ⟨by decide, by decide⟩ ⟨Nat.zero_le _, Nat.zero_le _⟩ rfl (Nat.le_of_ble_eq_true rfl) d_Mo_areNext_74 (fun r_10 S_9 hw => ?_)
            refine j_istore F [(10, vi r_10), (9, vi r_8), (8, vi r_6), (7, vi r_4), (6, vi r_2), (0, .ref h), (1, vi v1), (2, vi v2), (3, vi v3), (4, vi v4), (5, vi v5)] d_Mo_areNext_77 (by decide) rfl ?_
            refine j_aload_n F 5 d_Mo_areNext_79 rfl ?_
            refine j_iload_n F 7 d_Mo_areNext_80 rfl ?_
            refine j_iload F 10 d_Mo_areNext_81 rfl ?_
            refine m_calli F K (c_Mo_cornerY l hw) (tw_gV tj_138 tj_139 tj_140 tj_87 tj_141) q_Mo_cornerY rfl ⟨by decide, by decide⟩ ⟨Nat.zero_le _, Nat.zero_le _⟩ rfl (Nat.le_of_ble_eq_true rfl) d_Mo_areNext_83 (fun r_12 S_11 hw => ?_)
            refine j_istore F [(11, vi r_12), (10, vi r_10), (9, vi r_8), (8, vi r_6), (7, vi r_4), (6, vi r_2), (0, .ref h), (1, vi v1), (2, vi v2), (3, vi v3), (4, vi v4), (5, vi v5)] d_Mo_areNext_86 (by decide) rfl ?_
            refine j_aload_n F 6 d_Mo_areNext_88 rfl ?_
            refine j_iload_n F 8 d_Mo_areNext_89 rfl ?_
            refine j_iload F 11 d_Mo_areNext_90 rfl ?_
            refine j_iconst F d_Mo_areNext_92 ?_
            refine j_iadd F d_Mo_areNext_93 ?_
            refine m_calli F K (c_Mo_cornerX l hw) (tw_gV tj_134 tj_135 tj_136 tj_87 tj_137) q_Mo_cornerX rfl ⟨by decide, by decide⟩ ⟨Nat.zero_le _, Nat.zero_le _⟩ rfl (Nat.le_of_ble_eq_true rfl) d_Mo_areNext_94 (fun r_14 S_13 hw => ?_)
            refine j_istore F [(12, vi r_14), (11, vi r_12), (10, vi r_10), (9, vi r_8), (8, vi r_6), (7, vi r_4), (6, vi r_2), (0, .ref h), (1, vi v1), (2, vi v2), (3, vi v3), (4, vi v4), (5, vi v5)] d_Mo_areNext_97 (by decide) rfl ?_
            refine j_aload_n F 7 d_Mo_areNext_99 rfl ?_
            refine j_iload_n F 9 d_Mo_areNext_100 rfl ?_
            refine j_iload F 12 d_Mo_areNext_101 rfl ?_
            refine j_iconst F d_Mo_areNext_103 ?_
            refine j_iadd F d_Mo_areNext_104 ?_
            refine m_calli F K (c_Mo_cornerY l hw) (tw_gV tj_138 tj_139 tj_140 tj_87 tj_141) q_Mo_cornerY rfl ⟨by decide, by decide⟩ ⟨Nat.zero_le _, Nat.zero_le _⟩ rfl (Nat.le_of_ble_eq_true rfl) d_Mo_areNext_105 (fun r_16 S_15 hw => ?_)
            refine j_istore F [(13, vi r_16), (12, vi r_14), (11, vi r_12), (10, vi r_10), (9, vi r_8), (8, vi r_6), (7, vi r_4), (6, vi r_2), (0, .ref h), (1, vi v1), (2, vi v2), (3, vi v3), (4, vi v4), (5, vi v5)] d_Mo_areNext_108 (by decide) rfl ?_
            refine j_iload F 7 d_Mo_areNext_110 rfl ?_
            refine j_iload F 6 d_Mo_areNext_112 rfl ?_
            refine j_iload F 5 d_Mo_areNext_114 rfl ?_
            refine j_iload F 4 d_Mo_areNext_116 rfl ?_
            refine j_iload F 3 d_Mo_areNext_118 rfl ?_
            refine j_iload F 2 d_Mo_areNext_120 rfl ?_
            refine j_callS F (c_Mo_turn l hw) (tw_gS tj_85 tj_86 tj_87 tj_88) q_Mo_turn rfl ⟨by decide, by decide⟩ ⟨Nat.zero_le _, Nat.zero_le _⟩ rfl (Nat.le_of_ble_eq_true rfl) d_Mo_areNext_122 (fun r_17 hw => ?_)
            obtain ⟨hc1, hwt, hwf⟩ := hw
            refine j_if_ne F 150 hc1 d_Mo_areNext_125 rfl (fun hh => ?_) (fun hh => ?_)
            · have hw := hwt hh
              refine j_iconst F d_Mo_areNext_150 ?_
              refine j_sub [8, 9, 10, 11, 12, 13, 7, 6, 5, 4, 3, 2, 1, 0] rfl ?_
              exact B151 _ _ _ _ _ _ _ _ _ _ _ _ _ _ _ hw
            · have hw := hwf hh
              refine j_iload F 7 d_Mo_areNext_128 rfl ?_
              refine j_iload F 6 d_Mo_areNext_130 rfl ?_
              refine j_iload F 5 d_Mo_areNext_132 rfl ?_
              refine j_iload F 4 d_Mo_areNext_134 rfl ?_
              refine j_iload F 1 d_Mo_areNext_136 rfl ?_
              refine j_iload F 0 d_Mo_areNext_138 rfl ?_
              refine j_callS F (c_Mo_turn l hw) (tw_gS tj_85 tj_86 tj_87 tj_88) q_Mo_turn rfl ⟨by decide, by decide⟩ ⟨Nat.zero_le _, Nat.zero_le _⟩ rfl (Nat.le_of_ble_eq_true rfl) d_Mo_areNext_140 (fun r_18 hw => ?_)
              obtain ⟨hc1, hwt, hwf⟩ := hw
              refine j_if_ne F 150 hc1 d_Mo_areNext_143 rfl (fun hh => ?_) (fun hh => ?_)
              · have hw := hwt hh
                refine j_iconst F d_Mo_areNext_150 ?_
                refine j_sub [8, 9, 10, 11, 12, 13, 7, 6, 5, 4, 3, 2, 1, 0] rfl ?_
                exact B151 _ _ _ _ _ _ _ _ _ _ _ _ _ _ _ hw
              · have hw := hwf hh
                refine j_iconst F d_Mo_areNext_146 ?_
                refine j_goto F 151 d_Mo_areNext_147 rfl ?_
                refine j_sub [8, 9, 10, 11, 12, 13, 7, 6, 5, 4, 3, 2, 1, 0] rfl ?_
                exact B151 _ _ _ _ _ _ _ _ _ _ _ _ _ _ _ hw
      intro v1 v2 v3 v4 S hw
      unfold wp_Mo_areNext_5 at hw
      refine j_iload F 4 d_Mo_areNext_5 rfl ?_
      refine j_aload_n F 0 d_Mo_areNext_7 rfl ?_
      refine m_geta F K 10 (by decide) (by decide) tj_131 rfl d_Mo_areNext_8 ?_
      refine j_iload_n F 1 d_Mo_areNext_11 rfl ?_
      obtain ⟨hc1, hw⟩ := hw
      refine m_iald F K 10 4 rfl rfl hc1 d_Mo_areNext_12 ?_
      obtain ⟨hc1, hc2, hwt, hwf⟩ := hw
      refine j_icmp_ge F 202 hc1 hc2 d_Mo_areNext_13 rfl (fun hh => ?_) (fun hh => ?_)
      · have hw := hwt hh
        refine j_iload_n F 3 d_Mo_areNext_202 rfl ?_
        exact hret _ _ _ _ hw.2 hw.1 d_Mo_areNext_203
      · have hw := hwf hh
        refine j_iconst F d_Mo_areNext_16 ?_
        refine j_istore F [(5, vi 0), (0, .ref h), (1, vi v1), (2, vi v2), (3, vi v3), (4, vi v4)] d_Mo_areNext_17 (by decide) rfl ?_
        refine j_sub [1, 2, 3, 4, 5, 0] rfl ?_
        obtain ⟨n0, hw⟩ := hw
        exact B19 n0 _ _ _ _ _ _ hw
  unfold wp_Mo_areNext at hw
  show jat l D X 15 0 [(0, .ref h), (1, vi v1), (2, vi v2)] [] (mw h ad kc S) 0 0
  refine j_iconst F d_Mo_areNext_0 ?_
  refine j_istore_n F [(3, vi 0), (0, .ref h), (1, vi v1), (2, vi v2)] d_Mo_areNext_1 (by decide) rfl ?_
  refine j_iconst F d_Mo_areNext_2 ?_
  refine j_istore F [(4, vi 0), (3, vi 0), (0, .ref h), (1, vi v1), (2, vi v2)] d_Mo_areNext_3 (by decide) rfl ?_
  refine j_sub [2, 3, 4, 1, 0] rfl ?_
  obtain ⟨n0, hw⟩ := hw
  exact B5 n0 _ _ _ _ _ hw
theorem tj_325 : (Jvm.Cond.methodLink "LandBookModel" (318 : Nat) ({ cls := "LandBookModel", name := "areNext", desc := "(II)Z" } : Jvm.MethodName)) ∈ tw_G := tw_in (List.mem_of_getElem? (i := 1420) (by decide +kernel)) rfl
theorem tj_326 : (Jvm.Cond.instanceMethod ({ cls := "LandBookModel", name := "areNext", desc := "(II)Z" } : Jvm.MethodName)) ∈ tw_G := tw_in (List.mem_of_getElem? (i := 1422) (by decide +kernel)) rfl
theorem tj_327 : (Jvm.Cond.selects "LandBookModel" ⟨"LandBookModel", "areNext", "(II)Z"⟩ ⟨"LandBookModel", "areNext", "(II)Z"⟩) ∈ tw_G := tw_in (List.mem_of_getElem? (i := 58) (by decide +kernel)) rfl
theorem tj_328 : (Jvm.Cond.code ({ cls := "LandBookModel", name := "areNext", desc := "(II)Z" } : Jvm.MethodName) prog_13_method_65_code (15 : Nat) (Option.some Jvm.ClassFile.FieldType.boolean)) ∈ tw_G := tw_in (List.mem_of_getElem? (i := 1423) (by decide +kernel)) rfl
abbrev y_Mo_next : MethodName := ⟨"LandBookModel", "next", "(IIII)I"⟩
theorem q_Mo_next : y_Mo_next.cls = "LandBookModel" ∧ y_Mo_next.cls ≠ "java/lang/invoke/MethodHandle" ∧ y_Mo_next.cls ≠ "java/lang/invoke/VarHandle" ∧ (parseMethodDescriptor y_Mo_next.desc).map (fun d => d.parameters.length) = some 4 := by decide +kernel
theorem d_Mo_next_0 : decode prog_13_method_66_code 0 = .ok (.aload_n 0, 1) := by decide +kernel
theorem d_Mo_next_1 : decode prog_13_method_66_code 1 = .ok (.aload_n 0, 1) := by decide +kernel
theorem d_Mo_next_2 : decode prog_13_method_66_code 2 = .ok (.iload_n 1, 1) := by decide +kernel
theorem d_Mo_next_3 : decode prog_13_method_66_code 3 = .ok (.iload_n 3, 1) := by decide +kernel
theorem d_Mo_next_4 : decode prog_13_method_66_code 4 = .ok (.iload 4, 2) := by decide +kernel
theorem d_Mo_next_6 : decode prog_13_method_66_code 6 = .ok (.iload_n 2, 1) := by decide +kernel
theorem d_Mo_next_7 : decode prog_13_method_66_code 7 = .ok (.ifCond .lt 7, 3) := by decide +kernel
theorem d_Mo_next_14 : decode prog_13_method_66_code 14 = .ok (.iconst 0, 1) := by decide +kernel
theorem d_Mo_next_10 : decode prog_13_method_66_code 10 = .ok (.iconst 1, 1) := by decide +kernel
theorem d_Mo_next_11 : decode prog_13_method_66_code 11 = .ok (.goto 4, 3) := by decide +kernel
theorem d_Mo_next_15 : decode prog_13_method_66_code 15 = .ok (.invokevirtual 314, 3) := by decide +kernel
theorem d_Mo_next_18 : decode prog_13_method_66_code 18 = .ok (.putfield 98, 3) := by decide +kernel
theorem d_Mo_next_21 : decode prog_13_method_66_code 21 = .ok (.aload_n 0, 1) := by decide +kernel
theorem d_Mo_next_22 : decode prog_13_method_66_code 22 = .ok (.getfield 98, 3) := by decide +kernel
theorem d_Mo_next_25 : decode prog_13_method_66_code 25 = .ok (.ifCond .gt 14, 3) := by decide +kernel
theorem d_Mo_next_28 : decode prog_13_method_66_code 28 = .ok (.aload_n 0, 1) := by decide +kernel
theorem d_Mo_next_29 : decode prog_13_method_66_code 29 = .ok (.iload_n 1, 1) := by decide +kernel
theorem d_Mo_next_30 : decode prog_13_method_66_code 30 = .ok (.iload_n 3, 1) := by decide +kernel
theorem d_Mo_next_31 : decode prog_13_method_66_code 31 = .ok (.iload 4, 2) := by decide +kernel
theorem d_Mo_next_33 : decode prog_13_method_66_code 33 = .ok (.invokevirtual 185, 3) := by decide +kernel
theorem d_Mo_next_36 : decode prog_13_method_66_code 36 = .ok (.ifCond .ne 16, 3) := by decide +kernel
theorem d_Mo_next_52 : decode prog_13_method_66_code 52 = .ok (.iconst 0, 1) := by decide +kernel
theorem d_Mo_next_53 : decode prog_13_method_66_code 53 = .ok (.istore 5, 2) := by decide +kernel
theorem d_Mo_next_55 : decode prog_13_method_66_code 55 = .ok (.iconst 1, 1) := by decide +kernel
theorem d_Mo_next_56 : decode prog_13_method_66_code 56 = .ok (.istore 6, 2) := by decide +kernel
theorem d_Mo_next_39 : decode prog_13_method_66_code 39 = .ok (.aload_n 0, 1) := by decide +kernel
theorem d_Mo_next_40 : decode prog_13_method_66_code 40 = .ok (.getfield 98, 3) := by decide +kernel
theorem d_Mo_next_43 : decode prog_13_method_66_code 43 = .ok (.ifCond .le 7, 3) := by decide +kernel
theorem d_Mo_next_50 : decode prog_13_method_66_code 50 = .ok (.iconst (-1), 1) := by decide +kernel
theorem d_Mo_next_51 : decode prog_13_method_66_code 51 = .ok (.ireturn, 1) := by decide +kernel
theorem d_Mo_next_46 : decode prog_13_method_66_code 46 = .ok (.iconst 0, 1) := by decide +kernel
theorem d_Mo_next_47 : decode prog_13_method_66_code 47 = .ok (.goto 4, 3) := by decide +kernel
theorem d_Mo_next_58 : decode prog_13_method_66_code 58 = .ok (.iload 6, 2) := by decide +kernel
theorem d_Mo_next_60 : decode prog_13_method_66_code 60 = .ok (.aload_n 0, 1) := by decide +kernel
theorem d_Mo_next_61 : decode prog_13_method_66_code 61 = .ok (.getfield 173, 3) := by decide +kernel
theorem d_Mo_next_64 : decode prog_13_method_66_code 64 = .ok (.if_icmp .gt 49, 3) := by decide +kernel
theorem d_Mo_next_113 : decode prog_13_method_66_code 113 = .ok (.iconst 0, 1) := by decide +kernel
theorem d_Mo_next_114 : decode prog_13_method_66_code 114 = .ok (.ireturn, 1) := by decide +kernel
theorem d_Mo_next_67 : decode prog_13_method_66_code 67 = .ok (.iload 6, 2) := by decide +kernel
theorem d_Mo_next_69 : decode prog_13_method_66_code 69 = .ok (.iload_n 1, 1) := by decide +kernel
theorem d_Mo_next_70 : decode prog_13_method_66_code 70 = .ok (.if_icmp .eq 37, 3) := by decide +kernel
theorem d_Mo_next_73 : decode prog_13_method_66_code 73 = .ok (.aload_n 0, 1) := by decide +kernel
theorem d_Mo_next_74 : decode prog_13_method_66_code 74 = .ok (.iload 6, 2) := by decide +kernel
theorem d_Mo_next_76 : decode prog_13_method_66_code 76 = .ok (.iload_n 3, 1) := by decide +kernel
theorem d_Mo_next_77 : decode prog_13_method_66_code 77 = .ok (.iload 4, 2) := by decide +kernel
theorem d_Mo_next_79 : decode prog_13_method_66_code 79 = .ok (.invokevirtual 185, 3) := by decide +kernel
theorem d_Mo_next_82 : decode prog_13_method_66_code 82 = .ok (.ifCond .eq 25, 3) := by decide +kernel
theorem d_Mo_next_85 : decode prog_13_method_66_code 85 = .ok (.aload_n 0, 1) := by decide +kernel
theorem d_Mo_next_86 : decode prog_13_method_66_code 86 = .ok (.iload_n 1, 1) := by decide +kernel
theorem d_Mo_next_87 : decode prog_13_method_66_code 87 = .ok (.iload 6, 2) := by decide +kernel
theorem d_Mo_next_89 : decode prog_13_method_66_code 89 = .ok (.invokevirtual 318, 3) := by decide +kernel
theorem d_Mo_next_92 : decode prog_13_method_66_code 92 = .ok (.ifCond .eq 15, 3) := by decide +kernel
theorem d_Mo_next_95 : decode prog_13_method_66_code 95 = .ok (.iload 5, 2) := by decide +kernel
theorem d_Mo_next_97 : decode prog_13_method_66_code 97 = .ok (.iload_n 2, 1) := by decide +kernel
theorem d_Mo_next_98 : decode prog_13_method_66_code 98 = .ok (.if_icmp .ne 6, 3) := by decide +kernel
theorem d_Mo_next_104 : decode prog_13_method_66_code 104 = .ok (.iinc 5 1, 3) := by decide +kernel
theorem d_Mo_next_101 : decode prog_13_method_66_code 101 = .ok (.iload 6, 2) := by decide +kernel
theorem d_Mo_next_103 : decode prog_13_method_66_code 103 = .ok (.ireturn, 1) := by decide +kernel
theorem d_Mo_next_107 : decode prog_13_method_66_code 107 = .ok (.iinc 6 1, 3) := by decide +kernel
theorem d_Mo_next_110 : decode prog_13_method_66_code 110 = .ok (.goto (-52), 3) := by decide +kernel
def wp_Mo_next_107 (post : Int → MS → Prop) (k58 : Int → Int → Int → Int → Int → Int → MS → Prop) (v1 : Int) (v2 : Int) (v3 : Int) (v4 : Int) (v5 : Int) (v6 : Int) (S : MS) : Prop := k58 v1 v2 v3 v4 v5 (v6 + 1) S
def wp_Mo_next_58 (post : Int → MS → Prop) : Nat → Int → Int → Int → Int → Int → Int → MS → Prop
  | 0, _, _, _, _, _, _, _ => False
  | n + 1, v1, v2, v3, v4, v5, v6, S => inR v6 ∧ inR (S.1 7) ∧ ((S.1 7) < v6 → post 0 S) ∧ (¬ ((S.1 7) < v6) → (inR v6 ∧ inR v1 ∧ (v6 = v1 → wp_Mo_next_107 post (wp_Mo_next_58 post n) v1 v2 v3 v4 v5 v6 S) ∧ (¬ (v6 = v1) → (wp_Mo_isInBeing (fun r_2 S_1 => inR r_2 ∧ (r_2 = 0 → wp_Mo_next_107 post (wp_Mo_next_58 post n) v1 v2 v3 v4 v5 v6 S_1) ∧ (¬ (r_2 = 0) → (wp_Mo_areNext (fun r_4 S_3 => inR r_4 ∧ (r_4 = 0 → wp_Mo_next_107 post (wp_Mo_next_58 post n) v1 v2 v3 v4 v5 v6 S_3) ∧ (¬ (r_4 = 0) → (inR v5 ∧ inR v2 ∧ (¬ (v5 = v2) → (wp_Mo_next_107 post (wp_Mo_next_58 post n) v1 v2 v3 v4 (v5 + 1) v6 S_3)) ∧ (v5 = v2 → post v6 S_3)))) v1 v6 S_1))) v6 v3 v4 S))))
def wp_Mo_next_39 (post : Int → MS → Prop) (S : MS) : Prop := inR (S.1 0) ∧ ((S.1 0) ≤ 0 → (post (-1) S)) ∧ (¬ ((S.1 0) ≤ 0) → post 0 S)
def wp_Mo_next_15 (post : Int → MS → Prop) (v1 : Int) (v2 : Int) (v3 : Int) (v4 : Int) (s0 : Int) (s1 : Int) (s2 : Int) (s3 : Int) (S : MS) : Prop := wp_Mo_wrong (fun r_2 S_1 => (∀ S_3 : MS, S_3 = ms_i S_1 0 r_2 → inR (S_3.1 0) ∧ (0 < (S_3.1 0) → wp_Mo_next_39 post S_3) ∧ (¬ (0 < (S_3.1 0)) → (wp_Mo_isInBeing (fun r_5 S_4 => inR r_5 ∧ (¬ (r_5 = 0) → (∃ n0 : Nat, wp_Mo_next_58 post n0 v1 v2 v3 v4 0 1 S_4)) ∧ (r_5 = 0 → wp_Mo_next_39 post S_4)) v1 v3 v4 S_3)))) s3 s2 s1 s0 S
def wp_Mo_next (post : Int → MS → Prop) (v1 : Int) (v2 : Int) (v3 : Int) (v4 : Int) (S : MS) : Prop := inR v2 ∧ (v2 < 0 → wp_Mo_next_15 post v1 v2 v3 v4 0 v4 v3 v1 S) ∧ (¬ (v2 < 0) → wp_Mo_next_15 post v1 v2 v3 v4 1 v4 v3 v1 S)
set_option maxHeartbeats 4000000 in
set_option maxRecDepth 100000 in
theorem c_Mo_next (l : Launch) {D : va_G} {h : Nat} {ad : Nat → Nat} {kc : Nat → ClassId} {post : Int → MS → Prop} {v1 : Int} {v2 : Int} {v3 : Int} {v4 : Int} {S : MS} (hw : wp_Mo_next post v1 v2 v3 v4 S) : jMi l D h ad kc y_Mo_next prog_13_method_66_code 7 (some .int) 3 89 S [vi v1, vi v2, vi v3, vi v4] post := by
  refine j_moi (own := "LandBookModel") (by decide) rfl (Nat.le_of_ble_eq_true rfl) (fun X F K hret => ?_)
  have B58 : ∀ (n0 : Nat) (v1 : Int) (v2 : Int) (v3 : Int) (v4 : Int) (v5 : Int) (v6 : Int) (S : MS), wp_Mo_next_58 post n0 v1 v2 v3 v4 v5 v6 S → jat l D X 7 58 [(0, .ref h), (1, vi v1), (2, vi v2), (3, vi v3), (4, vi v4), (5, vi v5), (6, vi v6)] [] (mw h ad kc S) 0 0 := by
    intro n0
    induction n0 with
    | zero => intro v1 v2 v3 v4 v5 v6 S hw; exact hw.elim
    | succ n58 ih58 =>
      have B107 : ∀ (v1 : Int) (v2 : Int) (v3 : Int) (v4 : Int) (v5 : Int) (v6 : Int) (S : MS), wp_Mo_next_107 post (wp_Mo_next_58 post n58) v1 v2 v3 v4 v5 v6 S → jat l D X 7 107 [(0, .ref h), (1, vi v1), (2, vi v2), (3, vi v3), (4, vi v4), (5, vi v5), (6, vi v6)] [] (mw h ad kc S) 0 0 := by
        intro v1 v2 v3 v4 v5 v6 S hw
        unfold wp_Mo_next_107 at hw
        refine j_iinc F 6 [(6, vi (v6 + 1)), (0, .ref h), (1, vi v1), (2, vi v2), (3, vi v3), (4, vi v4), (5, vi v5)] d_Mo_next_107 rfl (by decide) rfl ?_
        refine j_goto F 58 d_Mo_next_110 rfl ?_
        refine j_sub [1, 2, 3, 4, 5, 6, 0] rfl ?_
        exact ih58 _ _ _ _ _ _ _ hw
      intro v1 v2 v3 v4 v5 v6 S hw
      unfold wp_Mo_next_58 at hw
      refine j_iload F 6 d_Mo_next_58 rfl ?_
      refine j_aload_n F 0 d_Mo_next_60 rfl ?_
      refine m_geti F K 7 (by decide) rfl tj_157 rfl d_Mo_next_61 ?_
      obtain ⟨hc1, hc2, hwt, hwf⟩ := hw
      refine j_icmp_gt F 113 hc1 hc2 d_Mo_next_64 rfl (fun hh => ?_) (fun hh => ?_)
      · have hw := hwt hh
        refine j_iconst F d_Mo_next_113 ?_
        exact hret _ _ _ _ hw d_Mo_next_114
      · have hw := hwf hh
        refine j_iload F 6 d_Mo_next_67 rfl ?_
        refine j_iload_n F 1 d_Mo_next_69 rfl ?_
        obtain ⟨hc1, hc2, hwt, hwf⟩ := hw
        refine j_icmp_eq F 107 hc1 hc2 d_Mo_next_70 rfl (fun hh => ?_) (fun hh => ?_)
        · have hw := hwt hh
          exact B107 _ _ _ _ _ _ _ hw
        · have hw := hwf hh
          refine j_aload_n F 0 d_Mo_next_73 rfl ?_
          refine j_iload F 6 d_Mo_next_74 rfl ?_
          refine j_iload_n F 3 d_Mo_next_76 rfl ?_
          refine j_iload F 4 d_Mo_next_77 rfl ?_
          refine m_calli F K (c_Mo_isInBeing l hw) (tw_gV tj_183 tj_184 tj_185 tj_87 tj_186) q_Mo_isInBeing rfl ⟨by decide, by decide⟩ ⟨Nat.zero_le _, Nat.zero_le _⟩ rfl (Nat.le_of_ble_eq_true rfl) d_Mo_next_79 (fun r_2 S_1 hw => ?_)
          obtain ⟨hc1, hwt, hwf⟩ := hw
          refine j_if_eq F 107 hc1 d_Mo_next_82 rfl (fun hh => ?_) (fun hh => ?_)
          · have hw := hwt hh
            exact B107 _ _ _ _ _ _ _ hw
          · have hw := hwf hh
            refine j_aload_n F 0 d_Mo_next_85 rfl ?_
            refine j_iload_n F 1 d_Mo_next_86 rfl ?_
            refine j_iload F 6 d_Mo_next_87 rfl ?_
            refine m_calli F K (c_Mo_areNext l hw) (tw_gV tj_325 tj_326 tj_327 tj_87 tj_328) q_Mo_areNext rfl ⟨by decide, by decide⟩ ⟨Nat.zero_le _, Nat.zero_le _⟩ rfl (Nat.le_of_ble_eq_true rfl) d_Mo_next_89 (fun r_4 S_3 hw => ?_)
            obtain ⟨hc1, hwt, hwf⟩ := hw
            refine j_if_eq F 107 hc1 d_Mo_next_92 rfl (fun hh => ?_) (fun hh => ?_)
            · have hw := hwt hh
              exact B107 _ _ _ _ _ _ _ hw
            · have hw := hwf hh
              refine j_iload F 5 d_Mo_next_95 rfl ?_
              refine j_iload_n F 2 d_Mo_next_97 rfl ?_
              obtain ⟨hc1, hc2, hwt, hwf⟩ := hw
              refine j_icmp_ne F 104 hc1 hc2 d_Mo_next_98 rfl (fun hh => ?_) (fun hh => ?_)
              · have hw := hwt hh
                refine j_iinc F 5 [(5, vi (v5 + 1)), (0, .ref h), (1, vi v1), (2, vi v2), (3, vi v3), (4, vi v4), (6, vi v6)] d_Mo_next_104 rfl (by decide) rfl ?_
                refine j_sub [1, 2, 3, 4, 5, 0, 6] rfl ?_
                exact B107 _ _ _ _ _ _ _ hw
              · have hw := hwf hh
                refine j_iload F 6 d_Mo_next_101 rfl ?_
                exact hret _ _ _ _ hw d_Mo_next_103
  have B39 : ∀ (S : MS), wp_Mo_next_39 post S → jat l D X 7 39 [(0, .ref h)] [] (mw h ad kc S) 0 0 := by
    intro S hw
    unfold wp_Mo_next_39 at hw
    refine j_aload_n F 0 d_Mo_next_39 rfl ?_
    refine m_geti F K 0 (by decide) rfl tj_107 rfl d_Mo_next_40 ?_
    obtain ⟨hc1, hwt, hwf⟩ := hw
    refine j_if_le F 50 hc1 d_Mo_next_43 rfl (fun hh => ?_) (fun hh => ?_)
    · have hw := hwt hh
      refine j_iconst F d_Mo_next_50 ?_
      exact hret _ _ _ _ hw d_Mo_next_51
    · have hw := hwf hh
      refine j_iconst F d_Mo_next_46 ?_
      refine j_goto F 51 d_Mo_next_47 rfl ?_
      exact hret _ _ _ _ hw d_Mo_next_51
  have B15 : ∀ (v1 : Int) (v2 : Int) (v3 : Int) (v4 : Int) (s0 : Int) (s1 : Int) (s2 : Int) (s3 : Int) (S : MS), wp_Mo_next_15 post v1 v2 v3 v4 s0 s1 s2 s3 S → jat l D X 7 15 [(0, .ref h), (1, vi v1), (2, vi v2), (3, vi v3), (4, vi v4)] [vi s0, vi s1, vi s2, vi s3, .ref h, .ref h] (mw h ad kc S) 0 0 := by
    intro v1 v2 v3 v4 s0 s1 s2 s3 S hw
    unfold wp_Mo_next_15 at hw
    refine m_calli F K (c_Mo_wrong l hw) (tw_gV tj_321 tj_322 tj_323 tj_87 tj_324) q_Mo_wrong rfl ⟨by decide, by decide⟩ ⟨Nat.zero_le _, Nat.zero_le _⟩ rfl (Nat.le_of_ble_eq_true rfl) d_Mo_next_15 (fun r_2 S_1 hw => ?_)
    refine m_puti F K 0 (by decide) rfl tj_107 rfl rfl (ty := .int) (by decide +kernel) rfl rfl d_Mo_next_18 (fun S_3 e_S_3 => ?_)
    have hw := hw S_3 e_S_3
    refine j_aload_n F 0 d_Mo_next_21 rfl ?_
    refine m_geti F K 0 (by decide) rfl tj_107 rfl d_Mo_next_22 ?_
    obtain ⟨hc1, hwt, hwf⟩ := hw
    refine j_if_gt F 39 hc1 d_Mo_next_25 rfl (fun hh => ?_) (fun hh => ?_)
    · have hw := hwt hh
      refine j_sub [0] rfl ?_
      exact B39 _ hw
    · have hw := hwf hh
      refine j_aload_n F 0 d_Mo_next_28 rfl ?_
      refine j_iload_n F 1 d_Mo_next_29 rfl ?_
      refine j_iload_n F 3 d_Mo_next_30 rfl ?_
      refine j_iload F 4 d_Mo_next_31 rfl ?_
      refine m_calli F K (c_Mo_isInBeing l hw) (tw_gV tj_183 tj_184 tj_185 tj_87 tj_186) q_Mo_isInBeing rfl ⟨by decide, by decide⟩ ⟨Nat.zero_le _, Nat.zero_le _⟩ rfl (Nat.le_of_ble_eq_true rfl) d_Mo_next_33 (fun r_5 S_4 hw => ?_)
      obtain ⟨hc1, hwt, hwf⟩ := hw
      refine j_if_ne F 52 hc1 d_Mo_next_36 rfl (fun hh => ?_) (fun hh => ?_)
      · have hw := hwt hh
        refine j_iconst F d_Mo_next_52 ?_
        refine j_istore F [(5, vi 0), (0, .ref h), (1, vi v1), (2, vi v2), (3, vi v3), (4, vi v4)] d_Mo_next_53 (by decide) rfl ?_
        refine j_iconst F d_Mo_next_55 ?_
        refine j_istore F [(6, vi 1), (5, vi 0), (0, .ref h), (1, vi v1), (2, vi v2), (3, vi v3), (4, vi v4)] d_Mo_next_56 (by decide) rfl ?_
        refine j_sub [2, 3, 4, 5, 6, 1, 0] rfl ?_
        obtain ⟨n0, hw⟩ := hw
        exact B58 n0 _ _ _ _ _ _ _ hw
      · have hw := hwf hh
        refine j_sub [0] rfl ?_
        exact B39 _ hw
  unfold wp_Mo_next at hw
  show jat l D X 7 0 [(0, .ref h), (1, vi v1), (2, vi v2), (3, vi v3), (4, vi v4)] [] (mw h ad kc S) 0 0
  refine j_aload_n F 0 d_Mo_next_0 rfl ?_
  refine j_aload_n F 0 d_Mo_next_1 rfl ?_
  refine j_iload_n F 1 d_Mo_next_2 rfl ?_
  refine j_iload_n F 3 d_Mo_next_3 rfl ?_
  refine j_iload F 4 d_Mo_next_4 rfl ?_
  refine j_iload_n F 2 d_Mo_next_6 rfl ?_
  obtain ⟨hc1, hwt, hwf⟩ := hw
  refine j_if_lt F 14 hc1 d_Mo_next_7 rfl (fun hh => ?_) (fun hh => ?_)
  · have hw := hwt hh
    refine j_iconst F d_Mo_next_14 ?_
    exact B15 _ _ _ _ _ _ _ _ _ hw
  · have hw := hwf hh
    refine j_iconst F d_Mo_next_10 ?_
    refine j_goto F 15 d_Mo_next_11 rfl ?_
    exact B15 _ _ _ _ _ _ _ _ _ hw
abbrev y_Mo_burden : MethodName := ⟨"LandBookModel", "burden", "(IIII)I"⟩
theorem q_Mo_burden : y_Mo_burden.cls = "LandBookModel" ∧ y_Mo_burden.cls ≠ "java/lang/invoke/MethodHandle" ∧ y_Mo_burden.cls ≠ "java/lang/invoke/VarHandle" ∧ (parseMethodDescriptor y_Mo_burden.desc).map (fun d => d.parameters.length) = some 4 := by decide +kernel
theorem d_Mo_burden_0 : decode prog_13_method_67_code 0 = .ok (.aload_n 0, 1) := by decide +kernel
theorem d_Mo_burden_1 : decode prog_13_method_67_code 1 = .ok (.aload_n 0, 1) := by decide +kernel
theorem d_Mo_burden_2 : decode prog_13_method_67_code 2 = .ok (.iload_n 1, 1) := by decide +kernel
theorem d_Mo_burden_3 : decode prog_13_method_67_code 3 = .ok (.iload_n 3, 1) := by decide +kernel
theorem d_Mo_burden_4 : decode prog_13_method_67_code 4 = .ok (.iload 4, 2) := by decide +kernel
theorem d_Mo_burden_6 : decode prog_13_method_67_code 6 = .ok (.iload_n 2, 1) := by decide +kernel
theorem d_Mo_burden_7 : decode prog_13_method_67_code 7 = .ok (.ifCond .lt 7, 3) := by decide +kernel
theorem d_Mo_burden_14 : decode prog_13_method_67_code 14 = .ok (.iconst 0, 1) := by decide +kernel
theorem d_Mo_burden_10 : decode prog_13_method_67_code 10 = .ok (.iconst 1, 1) := by decide +kernel
theorem d_Mo_burden_11 : decode prog_13_method_67_code 11 = .ok (.goto 4, 3) := by decide +kernel
theorem d_Mo_burden_15 : decode prog_13_method_67_code 15 = .ok (.invokevirtual 314, 3) := by decide +kernel
theorem d_Mo_burden_18 : decode prog_13_method_67_code 18 = .ok (.putfield 98, 3) := by decide +kernel
theorem d_Mo_burden_21 : decode prog_13_method_67_code 21 = .ok (.aload_n 0, 1) := by decide +kernel
theorem d_Mo_burden_22 : decode prog_13_method_67_code 22 = .ok (.getfield 98, 3) := by decide +kernel
theorem d_Mo_burden_25 : decode prog_13_method_67_code 25 = .ok (.ifCond .gt 14, 3) := by decide +kernel
theorem d_Mo_burden_28 : decode prog_13_method_67_code 28 = .ok (.aload_n 0, 1) := by decide +kernel
theorem d_Mo_burden_29 : decode prog_13_method_67_code 29 = .ok (.iload_n 1, 1) := by decide +kernel
theorem d_Mo_burden_30 : decode prog_13_method_67_code 30 = .ok (.iload_n 3, 1) := by decide +kernel
theorem d_Mo_burden_31 : decode prog_13_method_67_code 31 = .ok (.iload 4, 2) := by decide +kernel
theorem d_Mo_burden_33 : decode prog_13_method_67_code 33 = .ok (.invokevirtual 185, 3) := by decide +kernel
theorem d_Mo_burden_36 : decode prog_13_method_67_code 36 = .ok (.ifCond .ne 16, 3) := by decide +kernel
theorem d_Mo_burden_52 : decode prog_13_method_67_code 52 = .ok (.iconst 0, 1) := by decide +kernel
theorem d_Mo_burden_53 : decode prog_13_method_67_code 53 = .ok (.istore 5, 2) := by decide +kernel
theorem d_Mo_burden_55 : decode prog_13_method_67_code 55 = .ok (.iconst 1, 1) := by decide +kernel
theorem d_Mo_burden_56 : decode prog_13_method_67_code 56 = .ok (.istore 6, 2) := by decide +kernel
theorem d_Mo_burden_39 : decode prog_13_method_67_code 39 = .ok (.aload_n 0, 1) := by decide +kernel
theorem d_Mo_burden_40 : decode prog_13_method_67_code 40 = .ok (.getfield 98, 3) := by decide +kernel
theorem d_Mo_burden_43 : decode prog_13_method_67_code 43 = .ok (.ifCond .le 7, 3) := by decide +kernel
theorem d_Mo_burden_50 : decode prog_13_method_67_code 50 = .ok (.iconst (-1), 1) := by decide +kernel
theorem d_Mo_burden_51 : decode prog_13_method_67_code 51 = .ok (.ireturn, 1) := by decide +kernel
theorem d_Mo_burden_46 : decode prog_13_method_67_code 46 = .ok (.iconst 0, 1) := by decide +kernel
theorem d_Mo_burden_47 : decode prog_13_method_67_code 47 = .ok (.goto 4, 3) := by decide +kernel
theorem d_Mo_burden_58 : decode prog_13_method_67_code 58 = .ok (.iload 6, 2) := by decide +kernel
theorem d_Mo_burden_60 : decode prog_13_method_67_code 60 = .ok (.aload_n 0, 1) := by decide +kernel
theorem d_Mo_burden_61 : decode prog_13_method_67_code 61 = .ok (.getfield 198, 3) := by decide +kernel
theorem d_Mo_burden_64 : decode prog_13_method_67_code 64 = .ok (.if_icmp .gt 34, 3) := by decide +kernel
theorem d_Mo_burden_98 : decode prog_13_method_67_code 98 = .ok (.iconst 0, 1) := by decide +kernel
theorem d_Mo_burden_99 : decode prog_13_method_67_code 99 = .ok (.ireturn, 1) := by decide +kernel
theorem d_Mo_burden_67 : decode prog_13_method_67_code 67 = .ok (.aload_n 0, 1) := by decide +kernel
theorem d_Mo_burden_68 : decode prog_13_method_67_code 68 = .ok (.iload 6, 2) := by decide +kernel
theorem d_Mo_burden_70 : decode prog_13_method_67_code 70 = .ok (.iload_n 1, 1) := by decide +kernel
theorem d_Mo_burden_71 : decode prog_13_method_67_code 71 = .ok (.iload_n 3, 1) := by decide +kernel
theorem d_Mo_burden_72 : decode prog_13_method_67_code 72 = .ok (.iload 4, 2) := by decide +kernel
theorem d_Mo_burden_74 : decode prog_13_method_67_code 74 = .ok (.invokevirtual 188, 3) := by decide +kernel
theorem d_Mo_burden_77 : decode prog_13_method_67_code 77 = .ok (.ifCond .eq 15, 3) := by decide +kernel
theorem d_Mo_burden_80 : decode prog_13_method_67_code 80 = .ok (.iload 5, 2) := by decide +kernel
theorem d_Mo_burden_82 : decode prog_13_method_67_code 82 = .ok (.iload_n 2, 1) := by decide +kernel
theorem d_Mo_burden_83 : decode prog_13_method_67_code 83 = .ok (.if_icmp .ne 6, 3) := by decide +kernel
theorem d_Mo_burden_89 : decode prog_13_method_67_code 89 = .ok (.iinc 5 1, 3) := by decide +kernel
theorem d_Mo_burden_86 : decode prog_13_method_67_code 86 = .ok (.iload 6, 2) := by decide +kernel
theorem d_Mo_burden_88 : decode prog_13_method_67_code 88 = .ok (.ireturn, 1) := by decide +kernel
theorem d_Mo_burden_92 : decode prog_13_method_67_code 92 = .ok (.iinc 6 1, 3) := by decide +kernel
theorem d_Mo_burden_95 : decode prog_13_method_67_code 95 = .ok (.goto (-37), 3) := by decide +kernel
def wp_Mo_burden_92 (post : Int → MS → Prop) (k58 : Int → Int → Int → Int → Int → Int → MS → Prop) (v1 : Int) (v2 : Int) (v3 : Int) (v4 : Int) (v5 : Int) (v6 : Int) (S : MS) : Prop := k58 v1 v2 v3 v4 v5 (v6 + 1) S
def wp_Mo_burden_58 (post : Int → MS → Prop) : Nat → Int → Int → Int → Int → Int → Int → MS → Prop
  | 0, _, _, _, _, _, _, _ => False
  | n + 1, v1, v2, v3, v4, v5, v6, S => inR v6 ∧ inR (S.1 25) ∧ ((S.1 25) < v6 → post 0 S) ∧ (¬ ((S.1 25) < v6) → (wp_Mo_burdens (fun r_2 S_1 => inR r_2 ∧ (r_2 = 0 → wp_Mo_burden_92 post (wp_Mo_burden_58 post n) v1 v2 v3 v4 v5 v6 S_1) ∧ (¬ (r_2 = 0) → (inR v5 ∧ inR v2 ∧ (¬ (v5 = v2) → (wp_Mo_burden_92 post (wp_Mo_burden_58 post n) v1 v2 v3 v4 (v5 + 1) v6 S_1)) ∧ (v5 = v2 → post v6 S_1)))) v6 v1 v3 v4 S))
def wp_Mo_burden_39 (post : Int → MS → Prop) (S : MS) : Prop := inR (S.1 0) ∧ ((S.1 0) ≤ 0 → (post (-1) S)) ∧ (¬ ((S.1 0) ≤ 0) → post 0 S)
def wp_Mo_burden_15 (post : Int → MS → Prop) (v1 : Int) (v2 : Int) (v3 : Int) (v4 : Int) (s0 : Int) (s1 : Int) (s2 : Int) (s3 : Int) (S : MS) : Prop := wp_Mo_wrong (fun r_2 S_1 => (∀ S_3 : MS, S_3 = ms_i S_1 0 r_2 → inR (S_3.1 0) ∧ (0 < (S_3.1 0) → wp_Mo_burden_39 post S_3) ∧ (¬ (0 < (S_3.1 0)) → (wp_Mo_isInBeing (fun r_5 S_4 => inR r_5 ∧ (¬ (r_5 = 0) → (∃ n0 : Nat, wp_Mo_burden_58 post n0 v1 v2 v3 v4 0 1 S_4)) ∧ (r_5 = 0 → wp_Mo_burden_39 post S_4)) v1 v3 v4 S_3)))) s3 s2 s1 s0 S
def wp_Mo_burden (post : Int → MS → Prop) (v1 : Int) (v2 : Int) (v3 : Int) (v4 : Int) (S : MS) : Prop := inR v2 ∧ (v2 < 0 → wp_Mo_burden_15 post v1 v2 v3 v4 0 v4 v3 v1 S) ∧ (¬ (v2 < 0) → wp_Mo_burden_15 post v1 v2 v3 v4 1 v4 v3 v1 S)
set_option maxHeartbeats 4000000 in
set_option maxRecDepth 100000 in
theorem c_Mo_burden (l : Launch) {D : va_G} {h : Nat} {ad : Nat → Nat} {kc : Nat → ClassId} {post : Int → MS → Prop} {v1 : Int} {v2 : Int} {v3 : Int} {v4 : Int} {S : MS} (hw : wp_Mo_burden post v1 v2 v3 v4 S) : jMi l D h ad kc y_Mo_burden prog_13_method_67_code 7 (some .int) 4 94 S [vi v1, vi v2, vi v3, vi v4] post := by
  refine j_moi (own := "LandBookModel") (by decide) rfl (Nat.le_of_ble_eq_true rfl) (fun X F K hret => ?_)
  have B58 : ∀ (n0 : Nat) (v1 : Int) (v2 : Int) (v3 : Int) (v4 : Int) (v5 : Int) (v6 : Int) (S : MS), wp_Mo_burden_58 post n0 v1 v2 v3 v4 v5 v6 S → jat l D X 7 58 [(0, .ref h), (1, vi v1), (2, vi v2), (3, vi v3), (4, vi v4), (5, vi v5), (6, vi v6)] [] (mw h ad kc S) 0 0 := by
    intro n0
    induction n0 with
    | zero => intro v1 v2 v3 v4 v5 v6 S hw; exact hw.elim
    | succ n58 ih58 =>
      have B92 : ∀ (v1 : Int) (v2 : Int) (v3 : Int) (v4 : Int) (v5 : Int) (v6 : Int) (S : MS), wp_Mo_burden_92 post (wp_Mo_burden_58 post n58) v1 v2 v3 v4 v5 v6 S → jat l D X 7 92 [(0, .ref h), (1, vi v1), (2, vi v2), (3, vi v3), (4, vi v4), (5, vi v5), (6, vi v6)] [] (mw h ad kc S) 0 0 := by
        intro v1 v2 v3 v4 v5 v6 S hw
        unfold wp_Mo_burden_92 at hw
        refine j_iinc F 6 [(6, vi (v6 + 1)), (0, .ref h), (1, vi v1), (2, vi v2), (3, vi v3), (4, vi v4), (5, vi v5)] d_Mo_burden_92 rfl (by decide) rfl ?_
        refine j_goto F 58 d_Mo_burden_95 rfl ?_
        refine j_sub [1, 2, 3, 4, 5, 6, 0] rfl ?_
        exact ih58 _ _ _ _ _ _ _ hw
      intro v1 v2 v3 v4 v5 v6 S hw
      unfold wp_Mo_burden_58 at hw
      refine j_iload F 6 d_Mo_burden_58 rfl ?_
      refine j_aload_n F 0 d_Mo_burden_60 rfl ?_
      refine m_geti F K 25 (by decide) rfl tj_201 rfl d_Mo_burden_61 ?_
      obtain ⟨hc1, hc2, hwt, hwf⟩ := hw
      refine j_icmp_gt F 98 hc1 hc2 d_Mo_burden_64 rfl (fun hh => ?_) (fun hh => ?_)
      · have hw := hwt hh
        refine j_iconst F d_Mo_burden_98 ?_
        exact hret _ _ _ _ hw d_Mo_burden_99
      · have hw := hwf hh
        refine j_aload_n F 0 d_Mo_burden_67 rfl ?_
        refine j_iload F 6 d_Mo_burden_68 rfl ?_
        refine j_iload_n F 1 d_Mo_burden_70 rfl ?_
        refine j_iload_n F 3 d_Mo_burden_71 rfl ?_
        refine j_iload F 4 d_Mo_burden_72 rfl ?_
        refine m_calli F K (c_Mo_burdens l hw) (tw_gV tj_189 tj_190 tj_191 tj_87 tj_192) q_Mo_burdens rfl ⟨by decide, by decide⟩ ⟨Nat.zero_le _, Nat.zero_le _⟩ rfl (Nat.le_of_ble_eq_true rfl) d_Mo_burden_74 (fun r_2 S_1 hw => ?_)
        obtain ⟨hc1, hwt, hwf⟩ := hw
        refine j_if_eq F 92 hc1 d_Mo_burden_77 rfl (fun hh => ?_) (fun hh => ?_)
        · have hw := hwt hh
          exact B92 _ _ _ _ _ _ _ hw
        · have hw := hwf hh
          refine j_iload F 5 d_Mo_burden_80 rfl ?_
          refine j_iload_n F 2 d_Mo_burden_82 rfl ?_
          obtain ⟨hc1, hc2, hwt, hwf⟩ := hw
          refine j_icmp_ne F 89 hc1 hc2 d_Mo_burden_83 rfl (fun hh => ?_) (fun hh => ?_)
          · have hw := hwt hh
            refine j_iinc F 5 [(5, vi (v5 + 1)), (0, .ref h), (1, vi v1), (2, vi v2), (3, vi v3), (4, vi v4), (6, vi v6)] d_Mo_burden_89 rfl (by decide) rfl ?_
            refine j_sub [1, 2, 3, 4, 5, 0, 6] rfl ?_
            exact B92 _ _ _ _ _ _ _ hw
          · have hw := hwf hh
            refine j_iload F 6 d_Mo_burden_86 rfl ?_
            exact hret _ _ _ _ hw d_Mo_burden_88
  have B39 : ∀ (S : MS), wp_Mo_burden_39 post S → jat l D X 7 39 [(0, .ref h)] [] (mw h ad kc S) 0 0 := by
    intro S hw
    unfold wp_Mo_burden_39 at hw
    refine j_aload_n F 0 d_Mo_burden_39 rfl ?_
    refine m_geti F K 0 (by decide) rfl tj_107 rfl d_Mo_burden_40 ?_
    obtain ⟨hc1, hwt, hwf⟩ := hw
    refine j_if_le F 50 hc1 d_Mo_burden_43 rfl (fun hh => ?_) (fun hh => ?_)
    · have hw := hwt hh
      refine j_iconst F d_Mo_burden_50 ?_
      exact hret _ _ _ _ hw d_Mo_burden_51
    · have hw := hwf hh
      refine j_iconst F d_Mo_burden_46 ?_
      refine j_goto F 51 d_Mo_burden_47 rfl ?_
      exact hret _ _ _ _ hw d_Mo_burden_51
  have B15 : ∀ (v1 : Int) (v2 : Int) (v3 : Int) (v4 : Int) (s0 : Int) (s1 : Int) (s2 : Int) (s3 : Int) (S : MS), wp_Mo_burden_15 post v1 v2 v3 v4 s0 s1 s2 s3 S → jat l D X 7 15 [(0, .ref h), (1, vi v1), (2, vi v2), (3, vi v3), (4, vi v4)] [vi s0, vi s1, vi s2, vi s3, .ref h, .ref h] (mw h ad kc S) 0 0 := by
    intro v1 v2 v3 v4 s0 s1 s2 s3 S hw
    unfold wp_Mo_burden_15 at hw
    refine m_calli F K (c_Mo_wrong l hw) (tw_gV tj_321 tj_322 tj_323 tj_87 tj_324) q_Mo_wrong rfl ⟨by decide, by decide⟩ ⟨Nat.zero_le _, Nat.zero_le _⟩ rfl (Nat.le_of_ble_eq_true rfl) d_Mo_burden_15 (fun r_2 S_1 hw => ?_)
    refine m_puti F K 0 (by decide) rfl tj_107 rfl rfl (ty := .int) (by decide +kernel) rfl rfl d_Mo_burden_18 (fun S_3 e_S_3 => ?_)
    have hw := hw S_3 e_S_3
    refine j_aload_n F 0 d_Mo_burden_21 rfl ?_
    refine m_geti F K 0 (by decide) rfl tj_107 rfl d_Mo_burden_22 ?_
    obtain ⟨hc1, hwt, hwf⟩ := hw
    refine j_if_gt F 39 hc1 d_Mo_burden_25 rfl (fun hh => ?_) (fun hh => ?_)
    · have hw := hwt hh
      refine j_sub [0] rfl ?_
      exact B39 _ hw
    · have hw := hwf hh
      refine j_aload_n F 0 d_Mo_burden_28 rfl ?_
      refine j_iload_n F 1 d_Mo_burden_29 rfl ?_
      refine j_iload_n F 3 d_Mo_burden_30 rfl ?_
      refine j_iload F 4 d_Mo_burden_31 rfl ?_
      refine m_calli F K (c_Mo_isInBeing l hw) (tw_gV tj_183 tj_184 tj_185 tj_87 tj_186) q_Mo_isInBeing rfl ⟨by decide, by decide⟩ ⟨Nat.zero_le _, Nat.zero_le _⟩ rfl (Nat.le_of_ble_eq_true rfl) d_Mo_burden_33 (fun r_5 S_4 hw => ?_)
      obtain ⟨hc1, hwt, hwf⟩ := hw
      refine j_if_ne F 52 hc1 d_Mo_burden_36 rfl (fun hh => ?_) (fun hh => ?_)
      · have hw := hwt hh
        refine j_iconst F d_Mo_burden_52 ?_
        refine j_istore F [(5, vi 0), (0, .ref h), (1, vi v1), (2, vi v2), (3, vi v3), (4, vi v4)] d_Mo_burden_53 (by decide) rfl ?_
        refine j_iconst F d_Mo_burden_55 ?_
        refine j_istore F [(6, vi 1), (5, vi 0), (0, .ref h), (1, vi v1), (2, vi v2), (3, vi v3), (4, vi v4)] d_Mo_burden_56 (by decide) rfl ?_
        refine j_sub [2, 3, 4, 5, 6, 1, 0] rfl ?_
        obtain ⟨n0, hw⟩ := hw
        exact B58 n0 _ _ _ _ _ _ _ hw
      · have hw := hwf hh
        refine j_sub [0] rfl ?_
        exact B39 _ hw
  unfold wp_Mo_burden at hw
  show jat l D X 7 0 [(0, .ref h), (1, vi v1), (2, vi v2), (3, vi v3), (4, vi v4)] [] (mw h ad kc S) 0 0
  refine j_aload_n F 0 d_Mo_burden_0 rfl ?_
  refine j_aload_n F 0 d_Mo_burden_1 rfl ?_
  refine j_iload_n F 1 d_Mo_burden_2 rfl ?_
  refine j_iload_n F 3 d_Mo_burden_3 rfl ?_
  refine j_iload F 4 d_Mo_burden_4 rfl ?_
  refine j_iload_n F 2 d_Mo_burden_6 rfl ?_
  obtain ⟨hc1, hwt, hwf⟩ := hw
  refine j_if_lt F 14 hc1 d_Mo_burden_7 rfl (fun hh => ?_) (fun hh => ?_)
  · have hw := hwt hh
    refine j_iconst F d_Mo_burden_14 ?_
    exact B15 _ _ _ _ _ _ _ _ _ hw
  · have hw := hwf hh
    refine j_iconst F d_Mo_burden_10 ?_
    refine j_goto F 15 d_Mo_burden_11 rfl ?_
    exact B15 _ _ _ _ _ _ _ _ _ hw
abbrev y_Mo_parent : MethodName := ⟨"LandBookModel", "parent", "(II)I"⟩
theorem q_Mo_parent : y_Mo_parent.cls = "LandBookModel" ∧ y_Mo_parent.cls ≠ "java/lang/invoke/MethodHandle" ∧ y_Mo_parent.cls ≠ "java/lang/invoke/VarHandle" ∧ (parseMethodDescriptor y_Mo_parent.desc).map (fun d => d.parameters.length) = some 2 := by decide +kernel
theorem d_Mo_parent_0 : decode prog_13_method_68_code 0 = .ok (.aload_n 0, 1) := by decide +kernel
theorem d_Mo_parent_1 : decode prog_13_method_68_code 1 = .ok (.aload_n 0, 1) := by decide +kernel
theorem d_Mo_parent_2 : decode prog_13_method_68_code 2 = .ok (.invokevirtual 264, 3) := by decide +kernel
theorem d_Mo_parent_5 : decode prog_13_method_68_code 5 = .ok (.ifCond .ne 7, 3) := by decide +kernel
theorem d_Mo_parent_12 : decode prog_13_method_68_code 12 = .ok (.aload_n 0, 1) := by decide +kernel
theorem d_Mo_parent_13 : decode prog_13_method_68_code 13 = .ok (.iload_n 1, 1) := by decide +kernel
theorem d_Mo_parent_14 : decode prog_13_method_68_code 14 = .ok (.invokevirtual 268, 3) := by decide +kernel
theorem d_Mo_parent_17 : decode prog_13_method_68_code 17 = .ok (.ifCond .eq 12, 3) := by decide +kernel
theorem d_Mo_parent_29 : decode prog_13_method_68_code 29 = .ok (.iconst 2, 1) := by decide +kernel
theorem d_Mo_parent_30 : decode prog_13_method_68_code 30 = .ok (.goto 4, 3) := by decide +kernel
theorem d_Mo_parent_20 : decode prog_13_method_68_code 20 = .ok (.iload_n 2, 1) := by decide +kernel
theorem d_Mo_parent_21 : decode prog_13_method_68_code 21 = .ok (.ifCond .lt 8, 3) := by decide +kernel
theorem d_Mo_parent_24 : decode prog_13_method_68_code 24 = .ok (.iload_n 2, 1) := by decide +kernel
theorem d_Mo_parent_25 : decode prog_13_method_68_code 25 = .ok (.iconst 1, 1) := by decide +kernel
theorem d_Mo_parent_26 : decode prog_13_method_68_code 26 = .ok (.if_icmp .le 7, 3) := by decide +kernel
theorem d_Mo_parent_33 : decode prog_13_method_68_code 33 = .ok (.iconst 0, 1) := by decide +kernel
theorem d_Mo_parent_8 : decode prog_13_method_68_code 8 = .ok (.iconst 1, 1) := by decide +kernel
theorem d_Mo_parent_9 : decode prog_13_method_68_code 9 = .ok (.goto 25, 3) := by decide +kernel
theorem d_Mo_parent_34 : decode prog_13_method_68_code 34 = .ok (.putfield 98, 3) := by decide +kernel
theorem d_Mo_parent_37 : decode prog_13_method_68_code 37 = .ok (.aload_n 0, 1) := by decide +kernel
theorem d_Mo_parent_38 : decode prog_13_method_68_code 38 = .ok (.getfield 98, 3) := by decide +kernel
theorem d_Mo_parent_41 : decode prog_13_method_68_code 41 = .ok (.ifCond .le 7, 3) := by decide +kernel
theorem d_Mo_parent_48 : decode prog_13_method_68_code 48 = .ok (.iload_n 2, 1) := by decide +kernel
theorem d_Mo_parent_49 : decode prog_13_method_68_code 49 = .ok (.ifCond .ne 12, 3) := by decide +kernel
theorem d_Mo_parent_61 : decode prog_13_method_68_code 61 = .ok (.aload_n 0, 1) := by decide +kernel
theorem d_Mo_parent_62 : decode prog_13_method_68_code 62 = .ok (.getfield 34, 3) := by decide +kernel
theorem d_Mo_parent_65 : decode prog_13_method_68_code 65 = .ok (.iload_n 1, 1) := by decide +kernel
theorem d_Mo_parent_66 : decode prog_13_method_68_code 66 = .ok (.iaload, 1) := by decide +kernel
theorem d_Mo_parent_67 : decode prog_13_method_68_code 67 = .ok (.ireturn, 1) := by decide +kernel
theorem d_Mo_parent_52 : decode prog_13_method_68_code 52 = .ok (.aload_n 0, 1) := by decide +kernel
theorem d_Mo_parent_53 : decode prog_13_method_68_code 53 = .ok (.getfield 31, 3) := by decide +kernel
theorem d_Mo_parent_56 : decode prog_13_method_68_code 56 = .ok (.iload_n 1, 1) := by decide +kernel
theorem d_Mo_parent_57 : decode prog_13_method_68_code 57 = .ok (.iaload, 1) := by decide +kernel
theorem d_Mo_parent_58 : decode prog_13_method_68_code 58 = .ok (.goto 9, 3) := by decide +kernel
theorem d_Mo_parent_44 : decode prog_13_method_68_code 44 = .ok (.iconst 0, 1) := by decide +kernel
theorem d_Mo_parent_45 : decode prog_13_method_68_code 45 = .ok (.goto 22, 3) := by decide +kernel
def wp_Mo_parent_34 (post : Int → MS → Prop) (v1 : Int) (v2 : Int) (s0 : Int) (S : MS) : Prop := (∀ S_1 : MS, S_1 = ms_i S 0 s0 → inR (S_1.1 0) ∧ ((S_1.1 0) ≤ 0 → (inR v2 ∧ (¬ (v2 = 0) → (ixR v1 302 ∧ (post (S_1.2 14 v1.toNat) S_1))) ∧ (v2 = 0 → (ixR v1 302 ∧ (post (S_1.2 13 v1.toNat) S_1))))) ∧ (¬ ((S_1.1 0) ≤ 0) → post 0 S_1))
def wp_Mo_parent (post : Int → MS → Prop) (v1 : Int) (v2 : Int) (S : MS) : Prop := wp_Mo_isUp (fun r_2 S_1 => inR r_2 ∧ (¬ (r_2 = 0) → (wp_Mo_isLot (fun r_4 S_3 => inR r_4 ∧ (r_4 = 0 → wp_Mo_parent_34 post v1 v2 2 S_3) ∧ (¬ (r_4 = 0) → (inR v2 ∧ (v2 < 0 → wp_Mo_parent_34 post v1 v2 2 S_3) ∧ (¬ (v2 < 0) → (inR v2 ∧ (v2 ≤ 1 → wp_Mo_parent_34 post v1 v2 0 S_3) ∧ (¬ (v2 ≤ 1) → wp_Mo_parent_34 post v1 v2 2 S_3)))))) v1 S_1)) ∧ (r_2 = 0 → wp_Mo_parent_34 post v1 v2 1 S_1))  S
set_option maxHeartbeats 4000000 in
set_option maxRecDepth 100000 in
theorem c_Mo_parent (l : Launch) {D : va_G} {h : Nat} {ad : Nat → Nat} {kc : Nat → ClassId} {post : Int → MS → Prop} {v1 : Int} {v2 : Int} {S : MS} (hw : wp_Mo_parent post v1 v2 S) : jMi l D h ad kc y_Mo_parent prog_13_method_68_code 3 (some .int) 1 21 S [vi v1, vi v2] post := by
  refine j_moi (own := "LandBookModel") (by decide) rfl (Nat.le_of_ble_eq_true rfl) (fun X F K hret => ?_)
  have B34 : ∀ (v1 : Int) (v2 : Int) (s0 : Int) (S : MS), wp_Mo_parent_34 post v1 v2 s0 S → jat l D X 3 34 [(0, .ref h), (1, vi v1), (2, vi v2)] [vi s0, .ref h] (mw h ad kc S) 0 0 := by
    intro v1 v2 s0 S hw
    unfold wp_Mo_parent_34 at hw
    refine m_puti F K 0 (by decide) rfl tj_107 rfl rfl (ty := .int) (by decide +kernel) rfl rfl d_Mo_parent_34 (fun S_1 e_S_1 => ?_)
    have hw := hw S_1 e_S_1
    refine j_aload_n F 0 d_Mo_parent_37 rfl ?_
    refine m_geti F K 0 (by decide) rfl tj_107 rfl d_Mo_parent_38 ?_
    obtain ⟨hc1, hwt, hwf⟩ := hw
    refine j_if_le F 48 hc1 d_Mo_parent_41 rfl (fun hh => ?_) (fun hh => ?_)
    · have hw := hwt hh
      refine j_iload_n F 2 d_Mo_parent_48 rfl ?_
      obtain ⟨hc1, hwt, hwf⟩ := hw
      refine j_if_ne F 61 hc1 d_Mo_parent_49 rfl (fun hh => ?_) (fun hh => ?_)
      · have hw := hwt hh
        refine j_aload_n F 0 d_Mo_parent_61 rfl ?_
        refine m_geta F K 14 (by decide) (by decide) tj_177 rfl d_Mo_parent_62 ?_
        refine j_iload_n F 1 d_Mo_parent_65 rfl ?_
        obtain ⟨hc1, hw⟩ := hw
        refine m_iald F K 14 8 rfl rfl hc1 d_Mo_parent_66 ?_
        exact hret _ _ _ _ hw d_Mo_parent_67
      · have hw := hwf hh
        refine j_aload_n F 0 d_Mo_parent_52 rfl ?_
        refine m_geta F K 13 (by decide) (by decide) tj_176 rfl d_Mo_parent_53 ?_
        refine j_iload_n F 1 d_Mo_parent_56 rfl ?_
        obtain ⟨hc1, hw⟩ := hw
        refine m_iald F K 13 7 rfl rfl hc1 d_Mo_parent_57 ?_
        refine j_goto F 67 d_Mo_parent_58 rfl ?_
        exact hret _ _ _ _ hw d_Mo_parent_67
    · have hw := hwf hh
      refine j_iconst F d_Mo_parent_44 ?_
      refine j_goto F 67 d_Mo_parent_45 rfl ?_
      exact hret _ _ _ _ hw d_Mo_parent_67
  unfold wp_Mo_parent at hw
  show jat l D X 3 0 [(0, .ref h), (1, vi v1), (2, vi v2)] [] (mw h ad kc S) 0 0
  refine j_aload_n F 0 d_Mo_parent_0 rfl ?_
  refine j_aload_n F 0 d_Mo_parent_1 rfl ?_
  refine m_calli F K (c_Mo_isUp l hw) (tw_gV tj_268 tj_269 tj_270 tj_87 tj_271) q_Mo_isUp rfl ⟨by decide, by decide⟩ ⟨Nat.zero_le _, Nat.zero_le _⟩ rfl (Nat.le_of_ble_eq_true rfl) d_Mo_parent_2 (fun r_2 S_1 hw => ?_)
  obtain ⟨hc1, hwt, hwf⟩ := hw
  refine j_if_ne F 12 hc1 d_Mo_parent_5 rfl (fun hh => ?_) (fun hh => ?_)
  · have hw := hwt hh
    refine j_aload_n F 0 d_Mo_parent_12 rfl ?_
    refine j_iload_n F 1 d_Mo_parent_13 rfl ?_
    refine m_calli F K (c_Mo_isLot l hw) (tw_gV tj_272 tj_273 tj_274 tj_87 tj_275) q_Mo_isLot rfl ⟨by decide, by decide⟩ ⟨Nat.zero_le _, Nat.zero_le _⟩ rfl (Nat.le_of_ble_eq_true rfl) d_Mo_parent_14 (fun r_4 S_3 hw => ?_)
    obtain ⟨hc1, hwt, hwf⟩ := hw
    refine j_if_eq F 29 hc1 d_Mo_parent_17 rfl (fun hh => ?_) (fun hh => ?_)
    · have hw := hwt hh
      refine j_iconst F d_Mo_parent_29 ?_
      refine j_goto F 34 d_Mo_parent_30 rfl ?_
      exact B34 _ _ _ _ hw
    · have hw := hwf hh
      refine j_iload_n F 2 d_Mo_parent_20 rfl ?_
      obtain ⟨hc1, hwt, hwf⟩ := hw
      refine j_if_lt F 29 hc1 d_Mo_parent_21 rfl (fun hh => ?_) (fun hh => ?_)
      · have hw := hwt hh
        refine j_iconst F d_Mo_parent_29 ?_
        refine j_goto F 34 d_Mo_parent_30 rfl ?_
        exact B34 _ _ _ _ hw
      · have hw := hwf hh
        refine j_iload_n F 2 d_Mo_parent_24 rfl ?_
        refine j_iconst F d_Mo_parent_25 ?_
        obtain ⟨hc1, hwt, hwf⟩ := hw
        refine j_icmp_le F 33 hc1 ⟨by decide, by decide⟩ d_Mo_parent_26 rfl (fun hh => ?_) (fun hh => ?_)
        · have hw := hwt hh
          refine j_iconst F d_Mo_parent_33 ?_
          exact B34 _ _ _ _ hw
        · have hw := hwf hh
          refine j_iconst F d_Mo_parent_29 ?_
          refine j_goto F 34 d_Mo_parent_30 rfl ?_
          exact B34 _ _ _ _ hw
  · have hw := hwf hh
    refine j_iconst F d_Mo_parent_8 ?_
    refine j_goto F 34 d_Mo_parent_9 rfl ?_
    exact B34 _ _ _ _ hw
abbrev y_Mo_child : MethodName := ⟨"LandBookModel", "child", "(II)I"⟩
theorem q_Mo_child : y_Mo_child.cls = "LandBookModel" ∧ y_Mo_child.cls ≠ "java/lang/invoke/MethodHandle" ∧ y_Mo_child.cls ≠ "java/lang/invoke/VarHandle" ∧ (parseMethodDescriptor y_Mo_child.desc).map (fun d => d.parameters.length) = some 2 := by decide +kernel
theorem d_Mo_child_0 : decode prog_13_method_69_code 0 = .ok (.aload_n 0, 1) := by decide +kernel
theorem d_Mo_child_1 : decode prog_13_method_69_code 1 = .ok (.aload_n 0, 1) := by decide +kernel
theorem d_Mo_child_2 : decode prog_13_method_69_code 2 = .ok (.invokevirtual 264, 3) := by decide +kernel
theorem d_Mo_child_5 : decode prog_13_method_69_code 5 = .ok (.ifCond .ne 7, 3) := by decide +kernel
theorem d_Mo_child_12 : decode prog_13_method_69_code 12 = .ok (.aload_n 0, 1) := by decide +kernel
theorem d_Mo_child_13 : decode prog_13_method_69_code 13 = .ok (.iload_n 1, 1) := by decide +kernel
theorem d_Mo_child_14 : decode prog_13_method_69_code 14 = .ok (.invokevirtual 268, 3) := by decide +kernel
theorem d_Mo_child_17 : decode prog_13_method_69_code 17 = .ok (.ifCond .eq 12, 3) := by decide +kernel
theorem d_Mo_child_29 : decode prog_13_method_69_code 29 = .ok (.iconst 2, 1) := by decide +kernel
theorem d_Mo_child_30 : decode prog_13_method_69_code 30 = .ok (.goto 4, 3) := by decide +kernel
theorem d_Mo_child_20 : decode prog_13_method_69_code 20 = .ok (.iload_n 2, 1) := by decide +kernel
theorem d_Mo_child_21 : decode prog_13_method_69_code 21 = .ok (.ifCond .lt 8, 3) := by decide +kernel
theorem d_Mo_child_24 : decode prog_13_method_69_code 24 = .ok (.iload_n 2, 1) := by decide +kernel
theorem d_Mo_child_25 : decode prog_13_method_69_code 25 = .ok (.iconst 1, 1) := by decide +kernel
theorem d_Mo_child_26 : decode prog_13_method_69_code 26 = .ok (.if_icmp .le 7, 3) := by decide +kernel
theorem d_Mo_child_33 : decode prog_13_method_69_code 33 = .ok (.iconst 0, 1) := by decide +kernel
theorem d_Mo_child_8 : decode prog_13_method_69_code 8 = .ok (.iconst 1, 1) := by decide +kernel
theorem d_Mo_child_9 : decode prog_13_method_69_code 9 = .ok (.goto 25, 3) := by decide +kernel
theorem d_Mo_child_34 : decode prog_13_method_69_code 34 = .ok (.putfield 98, 3) := by decide +kernel
theorem d_Mo_child_37 : decode prog_13_method_69_code 37 = .ok (.iconst 0, 1) := by decide +kernel
theorem d_Mo_child_38 : decode prog_13_method_69_code 38 = .ok (.istore_n 3, 1) := by decide +kernel
theorem d_Mo_child_39 : decode prog_13_method_69_code 39 = .ok (.iconst 1, 1) := by decide +kernel
theorem d_Mo_child_40 : decode prog_13_method_69_code 40 = .ok (.istore 4, 2) := by decide +kernel
theorem d_Mo_child_42 : decode prog_13_method_69_code 42 = .ok (.iload 4, 2) := by decide +kernel
theorem d_Mo_child_44 : decode prog_13_method_69_code 44 = .ok (.aload_n 0, 1) := by decide +kernel
theorem d_Mo_child_45 : decode prog_13_method_69_code 45 = .ok (.getfield 173, 3) := by decide +kernel
theorem d_Mo_child_48 : decode prog_13_method_69_code 48 = .ok (.if_icmp .gt 52, 3) := by decide +kernel
theorem d_Mo_child_100 : decode prog_13_method_69_code 100 = .ok (.iconst 0, 1) := by decide +kernel
theorem d_Mo_child_101 : decode prog_13_method_69_code 101 = .ok (.ireturn, 1) := by decide +kernel
theorem d_Mo_child_51 : decode prog_13_method_69_code 51 = .ok (.aload_n 0, 1) := by decide +kernel
theorem d_Mo_child_52 : decode prog_13_method_69_code 52 = .ok (.getfield 98, 3) := by decide +kernel
theorem d_Mo_child_55 : decode prog_13_method_69_code 55 = .ok (.ifCond .ne 45, 3) := by decide +kernel
theorem d_Mo_child_58 : decode prog_13_method_69_code 58 = .ok (.aload_n 0, 1) := by decide +kernel
theorem d_Mo_child_59 : decode prog_13_method_69_code 59 = .ok (.getfield 28, 3) := by decide +kernel
theorem d_Mo_child_62 : decode prog_13_method_69_code 62 = .ok (.iload_n 1, 1) := by decide +kernel
theorem d_Mo_child_63 : decode prog_13_method_69_code 63 = .ok (.iaload, 1) := by decide +kernel
theorem d_Mo_child_64 : decode prog_13_method_69_code 64 = .ok (.ifCond .le 36, 3) := by decide +kernel
theorem d_Mo_child_67 : decode prog_13_method_69_code 67 = .ok (.aload_n 0, 1) := by decide +kernel
theorem d_Mo_child_68 : decode prog_13_method_69_code 68 = .ok (.getfield 25, 3) := by decide +kernel
theorem d_Mo_child_71 : decode prog_13_method_69_code 71 = .ok (.iload 4, 2) := by decide +kernel
theorem d_Mo_child_73 : decode prog_13_method_69_code 73 = .ok (.iaload, 1) := by decide +kernel
theorem d_Mo_child_74 : decode prog_13_method_69_code 74 = .ok (.aload_n 0, 1) := by decide +kernel
theorem d_Mo_child_75 : decode prog_13_method_69_code 75 = .ok (.getfield 28, 3) := by decide +kernel
theorem d_Mo_child_78 : decode prog_13_method_69_code 78 = .ok (.iload_n 1, 1) := by decide +kernel
theorem d_Mo_child_79 : decode prog_13_method_69_code 79 = .ok (.iaload, 1) := by decide +kernel
theorem d_Mo_child_80 : decode prog_13_method_69_code 80 = .ok (.if_icmp .ne 14, 3) := by decide +kernel
theorem d_Mo_child_83 : decode prog_13_method_69_code 83 = .ok (.iload_n 3, 1) := by decide +kernel
theorem d_Mo_child_84 : decode prog_13_method_69_code 84 = .ok (.iload_n 2, 1) := by decide +kernel
theorem d_Mo_child_85 : decode prog_13_method_69_code 85 = .ok (.if_icmp .ne 6, 3) := by decide +kernel
theorem d_Mo_child_91 : decode prog_13_method_69_code 91 = .ok (.iinc 3 1, 3) := by decide +kernel
theorem d_Mo_child_88 : decode prog_13_method_69_code 88 = .ok (.iload 4, 2) := by decide +kernel
theorem d_Mo_child_90 : decode prog_13_method_69_code 90 = .ok (.ireturn, 1) := by decide +kernel
theorem d_Mo_child_94 : decode prog_13_method_69_code 94 = .ok (.iinc 4 1, 3) := by decide +kernel
theorem d_Mo_child_97 : decode prog_13_method_69_code 97 = .ok (.goto (-55), 3) := by decide +kernel
def wp_Mo_child_94 (post : Int → MS → Prop) (k42 : Int → Int → Int → Int → MS → Prop) (v1 : Int) (v2 : Int) (v3 : Int) (v4 : Int) (S : MS) : Prop := k42 v1 v2 v3 (v4 + 1) S
def wp_Mo_child_42 (post : Int → MS → Prop) : Nat → Int → Int → Int → Int → MS → Prop
  | 0, _, _, _, _, _ => False
  | n + 1, v1, v2, v3, v4, S => inR v4 ∧ inR (S.1 7) ∧ ((S.1 7) < v4 → post 0 S) ∧ (¬ ((S.1 7) < v4) → (inR (S.1 0) ∧ (¬ ((S.1 0) = 0) → post 0 S) ∧ ((S.1 0) = 0 → (ixR v1 302 ∧ (inR (S.2 12 v1.toNat) ∧ ((S.2 12 v1.toNat) ≤ 0 → post 0 S) ∧ (¬ ((S.2 12 v1.toNat) ≤ 0) → (ixR v4 302 ∧ (ixR v1 302 ∧ (inR (S.2 11 v4.toNat) ∧ inR (S.2 12 v1.toNat) ∧ (¬ ((S.2 11 v4.toNat) = (S.2 12 v1.toNat)) → wp_Mo_child_94 post (wp_Mo_child_42 post n) v1 v2 v3 v4 S) ∧ ((S.2 11 v4.toNat) = (S.2 12 v1.toNat) → (inR v3 ∧ inR v2 ∧ (¬ (v3 = v2) → (wp_Mo_child_94 post (wp_Mo_child_42 post n) v1 v2 (v3 + 1) v4 S)) ∧ (v3 = v2 → post v4 S))))))))))))
def wp_Mo_child_34 (post : Int → MS → Prop) (v1 : Int) (v2 : Int) (s0 : Int) (S : MS) : Prop := (∀ S_1 : MS, S_1 = ms_i S 0 s0 → ∃ n0 : Nat, wp_Mo_child_42 post n0 v1 v2 0 1 S_1)
def wp_Mo_child (post : Int → MS → Prop) (v1 : Int) (v2 : Int) (S : MS) : Prop := wp_Mo_isUp (fun r_2 S_1 => inR r_2 ∧ (¬ (r_2 = 0) → (wp_Mo_isLot (fun r_4 S_3 => inR r_4 ∧ (r_4 = 0 → wp_Mo_child_34 post v1 v2 2 S_3) ∧ (¬ (r_4 = 0) → (inR v2 ∧ (v2 < 0 → wp_Mo_child_34 post v1 v2 2 S_3) ∧ (¬ (v2 < 0) → (inR v2 ∧ (v2 ≤ 1 → wp_Mo_child_34 post v1 v2 0 S_3) ∧ (¬ (v2 ≤ 1) → wp_Mo_child_34 post v1 v2 2 S_3)))))) v1 S_1)) ∧ (r_2 = 0 → wp_Mo_child_34 post v1 v2 1 S_1))  S
set_option maxHeartbeats 4000000 in
set_option maxRecDepth 100000 in
theorem c_Mo_child (l : Launch) {D : va_G} {h : Nat} {ad : Nat → Nat} {kc : Nat → ClassId} {post : Int → MS → Prop} {v1 : Int} {v2 : Int} {S : MS} (hw : wp_Mo_child post v1 v2 S) : jMi l D h ad kc y_Mo_child prog_13_method_69_code 5 (some .int) 1 21 S [vi v1, vi v2] post := by
  refine j_moi (own := "LandBookModel") (by decide) rfl (Nat.le_of_ble_eq_true rfl) (fun X F K hret => ?_)
  have B42 : ∀ (n0 : Nat) (v1 : Int) (v2 : Int) (v3 : Int) (v4 : Int) (S : MS), wp_Mo_child_42 post n0 v1 v2 v3 v4 S → jat l D X 5 42 [(0, .ref h), (1, vi v1), (2, vi v2), (3, vi v3), (4, vi v4)] [] (mw h ad kc S) 0 0 := by
    intro n0
    induction n0 with
    | zero => intro v1 v2 v3 v4 S hw; exact hw.elim
    | succ n42 ih42 =>
      have B94 : ∀ (v1 : Int) (v2 : Int) (v3 : Int) (v4 : Int) (S : MS), wp_Mo_child_94 post (wp_Mo_child_42 post n42) v1 v2 v3 v4 S → jat l D X 5 94 [(0, .ref h), (1, vi v1), (2, vi v2), (3, vi v3), (4, vi v4)] [] (mw h ad kc S) 0 0 := by
        intro v1 v2 v3 v4 S hw
        unfold wp_Mo_child_94 at hw
        refine j_iinc F 4 [(4, vi (v4 + 1)), (0, .ref h), (1, vi v1), (2, vi v2), (3, vi v3)] d_Mo_child_94 rfl (by decide) rfl ?_
        refine j_goto F 42 d_Mo_child_97 rfl ?_
        refine j_sub [1, 2, 3, 4, 0] rfl ?_
        exact ih42 _ _ _ _ _ hw
      intro v1 v2 v3 v4 S hw
      unfold wp_Mo_child_42 at hw
      refine j_iload F 4 d_Mo_child_42 rfl ?_
      refine j_aload_n F 0 d_Mo_child_44 rfl ?_
      refine m_geti F K 7 (by decide) rfl tj_157 rfl d_Mo_child_45 ?_
      obtain ⟨hc1, hc2, hwt, hwf⟩ := hw
      refine j_icmp_gt F 100 hc1 hc2 d_Mo_child_48 rfl (fun hh => ?_) (fun hh => ?_)
      · have hw := hwt hh
        refine j_iconst F d_Mo_child_100 ?_
        exact hret _ _ _ _ hw d_Mo_child_101
      · have hw := hwf hh
        refine j_aload_n F 0 d_Mo_child_51 rfl ?_
        refine m_geti F K 0 (by decide) rfl tj_107 rfl d_Mo_child_52 ?_
        obtain ⟨hc1, hwt, hwf⟩ := hw
        refine j_if_ne F 100 hc1 d_Mo_child_55 rfl (fun hh => ?_) (fun hh => ?_)
        · have hw := hwt hh
          refine j_iconst F d_Mo_child_100 ?_
          exact hret _ _ _ _ hw d_Mo_child_101
        · have hw := hwf hh
          refine j_aload_n F 0 d_Mo_child_58 rfl ?_
          refine m_geta F K 12 (by decide) (by decide) tj_168 rfl d_Mo_child_59 ?_
          refine j_iload_n F 1 d_Mo_child_62 rfl ?_
          obtain ⟨hc1, hw⟩ := hw
          refine m_iald F K 12 6 rfl rfl hc1 d_Mo_child_63 ?_
          obtain ⟨hc1, hwt, hwf⟩ := hw
          refine j_if_le F 100 hc1 d_Mo_child_64 rfl (fun hh => ?_) (fun hh => ?_)
          · have hw := hwt hh
            refine j_iconst F d_Mo_child_100 ?_
            exact hret _ _ _ _ hw d_Mo_child_101
          · have hw := hwf hh
            refine j_aload_n F 0 d_Mo_child_67 rfl ?_
            refine m_geta F K 11 (by decide) (by decide) tj_163 rfl d_Mo_child_68 ?_
            refine j_iload F 4 d_Mo_child_71 rfl ?_
            obtain ⟨hc1, hw⟩ := hw
            refine m_iald F K 11 5 rfl rfl hc1 d_Mo_child_73 ?_
            refine j_aload_n F 0 d_Mo_child_74 rfl ?_
            refine m_geta F K 12 (by decide) (by decide) tj_168 rfl d_Mo_child_75 ?_
            refine j_iload_n F 1 d_Mo_child_78 rfl ?_
            obtain ⟨hc1, hw⟩ := hw
            refine m_iald F K 12 6 rfl rfl hc1 d_Mo_child_79 ?_
            obtain ⟨hc1, hc2, hwt, hwf⟩ := hw
            refine j_icmp_ne F 94 hc1 hc2 d_Mo_child_80 rfl (fun hh => ?_) (fun hh => ?_)
            · have hw := hwt hh
              exact B94 _ _ _ _ _ hw
            · have hw := hwf hh
              refine j_iload_n F 3 d_Mo_child_83 rfl ?_
              refine j_iload_n F 2 d_Mo_child_84 rfl ?_
              obtain ⟨hc1, hc2, hwt, hwf⟩ := hw
              refine j_icmp_ne F 91 hc1 hc2 d_Mo_child_85 rfl (fun hh => ?_) (fun hh => ?_)
              · have hw := hwt hh
                refine j_iinc F 3 [(3, vi (v3 + 1)), (0, .ref h), (1, vi v1), (2, vi v2), (4, vi v4)] d_Mo_child_91 rfl (by decide) rfl ?_
                refine j_sub [1, 2, 3, 0, 4] rfl ?_
                exact B94 _ _ _ _ _ hw
              · have hw := hwf hh
                refine j_iload F 4 d_Mo_child_88 rfl ?_
                exact hret _ _ _ _ hw d_Mo_child_90
  have B34 : ∀ (v1 : Int) (v2 : Int) (s0 : Int) (S : MS), wp_Mo_child_34 post v1 v2 s0 S → jat l D X 5 34 [(0, .ref h), (1, vi v1), (2, vi v2)] [vi s0, .ref h] (mw h ad kc S) 0 0 := by
    intro v1 v2 s0 S hw
    unfold wp_Mo_child_34 at hw
    refine m_puti F K 0 (by decide) rfl tj_107 rfl rfl (ty := .int) (by decide +kernel) rfl rfl d_Mo_child_34 (fun S_1 e_S_1 => ?_)
    have hw := hw S_1 e_S_1
    refine j_iconst F d_Mo_child_37 ?_
    refine j_istore_n F [(3, vi 0), (0, .ref h), (1, vi v1), (2, vi v2)] d_Mo_child_38 (by decide) rfl ?_
    refine j_iconst F d_Mo_child_39 ?_
    refine j_istore F [(4, vi 1), (3, vi 0), (0, .ref h), (1, vi v1), (2, vi v2)] d_Mo_child_40 (by decide) rfl ?_
    refine j_sub [2, 3, 4, 1, 0] rfl ?_
    obtain ⟨n0, hw⟩ := hw
    exact B42 n0 _ _ _ _ _ hw
  unfold wp_Mo_child at hw
  show jat l D X 5 0 [(0, .ref h), (1, vi v1), (2, vi v2)] [] (mw h ad kc S) 0 0
  refine j_aload_n F 0 d_Mo_child_0 rfl ?_
  refine j_aload_n F 0 d_Mo_child_1 rfl ?_
  refine m_calli F K (c_Mo_isUp l hw) (tw_gV tj_268 tj_269 tj_270 tj_87 tj_271) q_Mo_isUp rfl ⟨by decide, by decide⟩ ⟨Nat.zero_le _, Nat.zero_le _⟩ rfl (Nat.le_of_ble_eq_true rfl) d_Mo_child_2 (fun r_2 S_1 hw => ?_)
  obtain ⟨hc1, hwt, hwf⟩ := hw
  refine j_if_ne F 12 hc1 d_Mo_child_5 rfl (fun hh => ?_) (fun hh => ?_)
  · have hw := hwt hh
    refine j_aload_n F 0 d_Mo_child_12 rfl ?_
    refine j_iload_n F 1 d_Mo_child_13 rfl ?_
    refine m_calli F K (c_Mo_isLot l hw) (tw_gV tj_272 tj_273 tj_274 tj_87 tj_275) q_Mo_isLot rfl ⟨by decide, by decide⟩ ⟨Nat.zero_le _, Nat.zero_le _⟩ rfl (Nat.le_of_ble_eq_true rfl) d_Mo_child_14 (fun r_4 S_3 hw => ?_)
    obtain ⟨hc1, hwt, hwf⟩ := hw
    refine j_if_eq F 29 hc1 d_Mo_child_17 rfl (fun hh => ?_) (fun hh => ?_)
    · have hw := hwt hh
      refine j_iconst F d_Mo_child_29 ?_
      refine j_goto F 34 d_Mo_child_30 rfl ?_
      exact B34 _ _ _ _ hw
    · have hw := hwf hh
      refine j_iload_n F 2 d_Mo_child_20 rfl ?_
      obtain ⟨hc1, hwt, hwf⟩ := hw
      refine j_if_lt F 29 hc1 d_Mo_child_21 rfl (fun hh => ?_) (fun hh => ?_)
      · have hw := hwt hh
        refine j_iconst F d_Mo_child_29 ?_
        refine j_goto F 34 d_Mo_child_30 rfl ?_
        exact B34 _ _ _ _ hw
      · have hw := hwf hh
        refine j_iload_n F 2 d_Mo_child_24 rfl ?_
        refine j_iconst F d_Mo_child_25 ?_
        obtain ⟨hc1, hwt, hwf⟩ := hw
        refine j_icmp_le F 33 hc1 ⟨by decide, by decide⟩ d_Mo_child_26 rfl (fun hh => ?_) (fun hh => ?_)
        · have hw := hwt hh
          refine j_iconst F d_Mo_child_33 ?_
          exact B34 _ _ _ _ hw
        · have hw := hwf hh
          refine j_iconst F d_Mo_child_29 ?_
          refine j_goto F 34 d_Mo_child_30 rfl ?_
          exact B34 _ _ _ _ hw
  · have hw := hwf hh
    refine j_iconst F d_Mo_child_8 ?_
    refine j_goto F 34 d_Mo_child_9 rfl ?_
    exact B34 _ _ _ _ hw
