abbrev y_Mo_corners : MethodName := ⟨"LandBookModel", "corners", "(I)I"⟩
theorem q_Mo_corners : y_Mo_corners.cls = "LandBookModel" ∧ y_Mo_corners.cls ≠ "java/lang/invoke/MethodHandle" ∧ y_Mo_corners.cls ≠ "java/lang/invoke/VarHandle" ∧ (parseMethodDescriptor y_Mo_corners.desc).map (fun d => d.parameters.length) = some 1 := by decide +kernel
theorem d_Mo_corners_0 : decode prog_13_method_70_code 0 = .ok (.aload_n 0, 1) := by decide +kernel
theorem d_Mo_corners_1 : decode prog_13_method_70_code 1 = .ok (.aload_n 0, 1) := by decide +kernel
theorem d_Mo_corners_2 : decode prog_13_method_70_code 2 = .ok (.invokevirtual 264, 3) := by decide +kernel
theorem d_Mo_corners_5 : decode prog_13_method_70_code 5 = .ok (.ifCond .ne 7, 3) := by decide +kernel
theorem d_Mo_corners_12 : decode prog_13_method_70_code 12 = .ok (.aload_n 0, 1) := by decide +kernel
theorem d_Mo_corners_13 : decode prog_13_method_70_code 13 = .ok (.iload_n 1, 1) := by decide +kernel
theorem d_Mo_corners_14 : decode prog_13_method_70_code 14 = .ok (.invokevirtual 268, 3) := by decide +kernel
theorem d_Mo_corners_17 : decode prog_13_method_70_code 17 = .ok (.ifCond .ne 7, 3) := by decide +kernel
theorem d_Mo_corners_24 : decode prog_13_method_70_code 24 = .ok (.iconst 0, 1) := by decide +kernel
theorem d_Mo_corners_20 : decode prog_13_method_70_code 20 = .ok (.iconst 2, 1) := by decide +kernel
theorem d_Mo_corners_21 : decode prog_13_method_70_code 21 = .ok (.goto 4, 3) := by decide +kernel
theorem d_Mo_corners_8 : decode prog_13_method_70_code 8 = .ok (.iconst 1, 1) := by decide +kernel
theorem d_Mo_corners_9 : decode prog_13_method_70_code 9 = .ok (.goto 16, 3) := by decide +kernel
theorem d_Mo_corners_25 : decode prog_13_method_70_code 25 = .ok (.putfield 98, 3) := by decide +kernel
theorem d_Mo_corners_28 : decode prog_13_method_70_code 28 = .ok (.aload_n 0, 1) := by decide +kernel
theorem d_Mo_corners_29 : decode prog_13_method_70_code 29 = .ok (.getfield 98, 3) := by decide +kernel
theorem d_Mo_corners_32 : decode prog_13_method_70_code 32 = .ok (.ifCond .le 7, 3) := by decide +kernel
theorem d_Mo_corners_39 : decode prog_13_method_70_code 39 = .ok (.aload_n 0, 1) := by decide +kernel
theorem d_Mo_corners_40 : decode prog_13_method_70_code 40 = .ok (.getfield 22, 3) := by decide +kernel
theorem d_Mo_corners_43 : decode prog_13_method_70_code 43 = .ok (.iload_n 1, 1) := by decide +kernel
theorem d_Mo_corners_44 : decode prog_13_method_70_code 44 = .ok (.iaload, 1) := by decide +kernel
theorem d_Mo_corners_45 : decode prog_13_method_70_code 45 = .ok (.ireturn, 1) := by decide +kernel
theorem d_Mo_corners_35 : decode prog_13_method_70_code 35 = .ok (.iconst 0, 1) := by decide +kernel
theorem d_Mo_corners_36 : decode prog_13_method_70_code 36 = .ok (.goto 9, 3) := by decide +kernel
def wp_Mo_corners_25 (post : Int → MS → Prop) (v1 : Int) (s0 : Int) (S : MS) : Prop := (∀ S_1 : MS, S_1 = ms_i S 0 s0 → inR (S_1.1 0) ∧ ((S_1.1 0) ≤ 0 → (ixR v1 302 ∧ (post (S_1.2 10 v1.toNat) S_1))) ∧ (¬ ((S_1.1 0) ≤ 0) → post 0 S_1))
def wp_Mo_corners (post : Int → MS → Prop) (v1 : Int) (S : MS) : Prop := wp_Mo_isUp (fun r_2 S_1 => inR r_2 ∧ (¬ (r_2 = 0) → (wp_Mo_isLot (fun r_4 S_3 => inR r_4 ∧ (¬ (r_4 = 0) → wp_Mo_corners_25 post v1 0 S_3) ∧ (r_4 = 0 → wp_Mo_corners_25 post v1 2 S_3)) v1 S_1)) ∧ (r_2 = 0 → wp_Mo_corners_25 post v1 1 S_1))  S
set_option maxHeartbeats 4000000 in
set_option maxRecDepth 100000 in
theorem c_Mo_corners (l : Launch) {D : va_G} {h : Nat} {ad : Nat → Nat} {kc : Nat → ClassId} {post : Int → MS → Prop} {v1 : Int} {S : MS} (hw : wp_Mo_corners post v1 S) : jMi l D h ad kc y_Mo_corners prog_13_method_70_code 2 (some .int) 1 21 S [vi v1] post := by
  refine j_moi (own := "LandBookModel") (by decide) rfl (Nat.le_of_ble_eq_true rfl) (fun X F K hret => ?_)
  have B25 : ∀ (v1 : Int) (s0 : Int) (S : MS), wp_Mo_corners_25 post v1 s0 S → jat l D X 2 25 [(0, .ref h), (1, vi v1)] [vi s0, .ref h] (mw h ad kc S) 0 0 := by
    intro v1 s0 S hw
    unfold wp_Mo_corners_25 at hw
    refine m_puti F K 0 (by decide) rfl tj_107 rfl rfl (ty := .int) (by decide +kernel) rfl rfl d_Mo_corners_25 (fun S_1 e_S_1 => ?_)
    have hw := hw S_1 e_S_1
    refine j_aload_n F 0 d_Mo_corners_28 rfl ?_
    refine m_geti F K 0 (by decide) rfl tj_107 rfl d_Mo_corners_29 ?_
    obtain ⟨hc1, hwt, hwf⟩ := hw
    refine j_if_le F 39 hc1 d_Mo_corners_32 rfl (fun hh => ?_) (fun hh => ?_)
    · have hw := hwt hh
      refine j_aload_n F 0 d_Mo_corners_39 rfl ?_
      refine m_geta F K 10 (by decide) (by decide) tj_131 rfl d_Mo_corners_40 ?_
      refine j_iload_n F 1 d_Mo_corners_43 rfl ?_
      obtain ⟨hc1, hw⟩ := hw
      refine m_iald F K 10 4 rfl rfl hc1 d_Mo_corners_44 ?_
      exact hret _ _ _ _ hw d_Mo_corners_45
    · have hw := hwf hh
      refine j_iconst F d_Mo_corners_35 ?_
      refine j_goto F 45 d_Mo_corners_36 rfl ?_
      exact hret _ _ _ _ hw d_Mo_corners_45
  unfold wp_Mo_corners at hw
  show jat l D X 2 0 [(0, .ref h), (1, vi v1)] [] (mw h ad kc S) 0 0
  refine j_aload_n F 0 d_Mo_corners_0 rfl ?_
  refine j_aload_n F 0 d_Mo_corners_1 rfl ?_
  refine m_calli F K (c_Mo_isUp l hw) (tw_gV tj_268 tj_269 tj_270 tj_87 tj_271) q_Mo_isUp rfl ⟨by decide, by decide⟩ ⟨Nat.zero_le _, Nat.zero_le _⟩ rfl (Nat.le_of_ble_eq_true rfl) d_Mo_corners_2 (fun r_2 S_1 hw => ?_)
  obtain ⟨hc1, hwt, hwf⟩ := hw
  refine j_if_ne F 12 hc1 d_Mo_corners_5 rfl (fun hh => ?_) (fun hh => ?_)
  · have hw := hwt hh
    refine j_aload_n F 0 d_Mo_corners_12 rfl ?_
    refine j_iload_n F 1 d_Mo_corners_13 rfl ?_
    refine m_calli F K (c_Mo_isLot l hw) (tw_gV tj_272 tj_273 tj_274 tj_87 tj_275) q_Mo_isLot rfl ⟨by decide, by decide⟩ ⟨Nat.zero_le _, Nat.zero_le _⟩ rfl (Nat.le_of_ble_eq_true rfl) d_Mo_corners_14 (fun r_4 S_3 hw => ?_)
    obtain ⟨hc1, hwt, hwf⟩ := hw
    refine j_if_ne F 24 hc1 d_Mo_corners_17 rfl (fun hh => ?_) (fun hh => ?_)
    · have hw := hwt hh
      refine j_iconst F d_Mo_corners_24 ?_
      exact B25 _ _ _ hw
    · have hw := hwf hh
      refine j_iconst F d_Mo_corners_20 ?_
      refine j_goto F 25 d_Mo_corners_21 rfl ?_
      exact B25 _ _ _ hw
  · have hw := hwf hh
    refine j_iconst F d_Mo_corners_8 ?_
    refine j_goto F 25 d_Mo_corners_9 rfl ?_
    exact B25 _ _ _ hw
abbrev y_Mo_corner : MethodName := ⟨"LandBookModel", "corner", "(II)I"⟩
theorem q_Mo_corner : y_Mo_corner.cls = "LandBookModel" ∧ y_Mo_corner.cls ≠ "java/lang/invoke/MethodHandle" ∧ y_Mo_corner.cls ≠ "java/lang/invoke/VarHandle" ∧ (parseMethodDescriptor y_Mo_corner.desc).map (fun d => d.parameters.length) = some 2 := by decide +kernel
theorem d_Mo_corner_0 : decode prog_13_method_71_code 0 = .ok (.aload_n 0, 1) := by decide +kernel
theorem d_Mo_corner_1 : decode prog_13_method_71_code 1 = .ok (.aload_n 0, 1) := by decide +kernel
theorem d_Mo_corner_2 : decode prog_13_method_71_code 2 = .ok (.invokevirtual 264, 3) := by decide +kernel
theorem d_Mo_corner_5 : decode prog_13_method_71_code 5 = .ok (.ifCond .ne 7, 3) := by decide +kernel
theorem d_Mo_corner_12 : decode prog_13_method_71_code 12 = .ok (.aload_n 0, 1) := by decide +kernel
theorem d_Mo_corner_13 : decode prog_13_method_71_code 13 = .ok (.iload_n 1, 1) := by decide +kernel
theorem d_Mo_corner_14 : decode prog_13_method_71_code 14 = .ok (.invokevirtual 268, 3) := by decide +kernel
theorem d_Mo_corner_17 : decode prog_13_method_71_code 17 = .ok (.ifCond .eq 17, 3) := by decide +kernel
theorem d_Mo_corner_34 : decode prog_13_method_71_code 34 = .ok (.iconst 2, 1) := by decide +kernel
theorem d_Mo_corner_35 : decode prog_13_method_71_code 35 = .ok (.goto 4, 3) := by decide +kernel
theorem d_Mo_corner_20 : decode prog_13_method_71_code 20 = .ok (.iload_n 2, 1) := by decide +kernel
theorem d_Mo_corner_21 : decode prog_13_method_71_code 21 = .ok (.ifCond .lt 13, 3) := by decide +kernel
theorem d_Mo_corner_24 : decode prog_13_method_71_code 24 = .ok (.iload_n 2, 1) := by decide +kernel
theorem d_Mo_corner_25 : decode prog_13_method_71_code 25 = .ok (.aload_n 0, 1) := by decide +kernel
theorem d_Mo_corner_26 : decode prog_13_method_71_code 26 = .ok (.getfield 22, 3) := by decide +kernel
theorem d_Mo_corner_29 : decode prog_13_method_71_code 29 = .ok (.iload_n 1, 1) := by decide +kernel
theorem d_Mo_corner_30 : decode prog_13_method_71_code 30 = .ok (.iaload, 1) := by decide +kernel
theorem d_Mo_corner_31 : decode prog_13_method_71_code 31 = .ok (.if_icmp .lt 7, 3) := by decide +kernel
theorem d_Mo_corner_38 : decode prog_13_method_71_code 38 = .ok (.iconst 0, 1) := by decide +kernel
theorem d_Mo_corner_8 : decode prog_13_method_71_code 8 = .ok (.iconst 1, 1) := by decide +kernel
theorem d_Mo_corner_9 : decode prog_13_method_71_code 9 = .ok (.goto 30, 3) := by decide +kernel
theorem d_Mo_corner_39 : decode prog_13_method_71_code 39 = .ok (.putfield 98, 3) := by decide +kernel
theorem d_Mo_corner_42 : decode prog_13_method_71_code 42 = .ok (.aload_n 0, 1) := by decide +kernel
theorem d_Mo_corner_43 : decode prog_13_method_71_code 43 = .ok (.getfield 98, 3) := by decide +kernel
theorem d_Mo_corner_46 : decode prog_13_method_71_code 46 = .ok (.ifCond .le 7, 3) := by decide +kernel
theorem d_Mo_corner_53 : decode prog_13_method_71_code 53 = .ok (.aload_n 0, 1) := by decide +kernel
theorem d_Mo_corner_54 : decode prog_13_method_71_code 54 = .ok (.iload_n 1, 1) := by decide +kernel
theorem d_Mo_corner_55 : decode prog_13_method_71_code 55 = .ok (.iload_n 2, 1) := by decide +kernel
theorem d_Mo_corner_56 : decode prog_13_method_71_code 56 = .ok (.invokevirtual 143, 3) := by decide +kernel
theorem d_Mo_corner_59 : decode prog_13_method_71_code 59 = .ok (.ldc 211, 2) := by decide +kernel
theorem d_Mo_corner_61 : decode prog_13_method_71_code 61 = .ok (.imul, 1) := by decide +kernel
theorem d_Mo_corner_62 : decode prog_13_method_71_code 62 = .ok (.aload_n 0, 1) := by decide +kernel
theorem d_Mo_corner_63 : decode prog_13_method_71_code 63 = .ok (.iload_n 1, 1) := by decide +kernel
theorem d_Mo_corner_64 : decode prog_13_method_71_code 64 = .ok (.iload_n 2, 1) := by decide +kernel
theorem d_Mo_corner_65 : decode prog_13_method_71_code 65 = .ok (.invokevirtual 147, 3) := by decide +kernel
theorem d_Mo_corner_68 : decode prog_13_method_71_code 68 = .ok (.iadd, 1) := by decide +kernel
theorem d_Mo_corner_69 : decode prog_13_method_71_code 69 = .ok (.ireturn, 1) := by decide +kernel
theorem d_Mo_corner_49 : decode prog_13_method_71_code 49 = .ok (.iconst 0, 1) := by decide +kernel
theorem d_Mo_corner_50 : decode prog_13_method_71_code 50 = .ok (.goto 19, 3) := by decide +kernel
def wp_Mo_corner_39 (post : Int → MS → Prop) (v1 : Int) (v2 : Int) (s0 : Int) (S : MS) : Prop := (∀ S_1 : MS, S_1 = ms_i S 0 s0 → inR (S_1.1 0) ∧ ((S_1.1 0) ≤ 0 → (wp_Mo_cornerX (fun r_3 S_2 => wp_Mo_cornerY (fun r_5 S_4 => post ((r_3 * 32768) + r_5) S_4) v1 v2 S_2) v1 v2 S_1)) ∧ (¬ ((S_1.1 0) ≤ 0) → post 0 S_1))
def wp_Mo_corner (post : Int → MS → Prop) (v1 : Int) (v2 : Int) (S : MS) : Prop := wp_Mo_isUp (fun r_2 S_1 => inR r_2 ∧ (¬ (r_2 = 0) → (wp_Mo_isLot (fun r_4 S_3 => inR r_4 ∧ (r_4 = 0 → wp_Mo_corner_39 post v1 v2 2 S_3) ∧ (¬ (r_4 = 0) → (inR v2 ∧ (v2 < 0 → wp_Mo_corner_39 post v1 v2 2 S_3) ∧ (¬ (v2 < 0) → (ixR v1 302 ∧ (inR v2 ∧ inR (S_3.2 10 v1.toNat) ∧ (v2 < (S_3.2 10 v1.toNat) → wp_Mo_corner_39 post v1 v2 0 S_3) ∧ (¬ (v2 < (S_3.2 10 v1.toNat)) → wp_Mo_corner_39 post v1 v2 2 S_3))))))) v1 S_1)) ∧ (r_2 = 0 → wp_Mo_corner_39 post v1 v2 1 S_1))  S
set_option maxHeartbeats 4000000 in
set_option maxRecDepth 100000 in
theorem c_Mo_corner (l : Launch) {D : va_G} {h : Nat} {ad : Nat → Nat} {kc : Nat → ClassId} {post : Int → MS → Prop} {v1 : Int} {v2 : Int} {S : MS} (hw : wp_Mo_corner post v1 v2 S) : jMi l D h ad kc y_Mo_corner prog_13_method_71_code 3 (some .int) 1 22 S [vi v1, vi v2] post := by
  refine j_moi (own := "LandBookModel") (by decide) rfl (Nat.le_of_ble_eq_true rfl) (fun X F K hret => ?_)
  have B39 : ∀ (v1 : Int) (v2 : Int) (s0 : Int) (S : MS), wp_Mo_corner_39 post v1 v2 s0 S → jat l D X 3 39 [(0, .ref h), (1, vi v1), (2, vi v2)] [vi s0, .ref h] (mw h ad kc S) 0 0 := by
    intro v1 v2 s0 S hw
    unfold wp_Mo_corner_39 at hw
    refine m_puti F K 0 (by decide) rfl tj_107 rfl rfl (ty := .int) (by decide +kernel) rfl rfl d_Mo_corner_39 (fun S_1 e_S_1 => ?_)
    have hw := hw S_1 e_S_1
    refine j_aload_n F 0 d_Mo_corner_42 rfl ?_
    refine m_geti F K 0 (by decide) rfl tj_107 rfl d_Mo_corner_43 ?_
    obtain ⟨hc1, hwt, hwf⟩ := hw
    refine j_if_le F 53 hc1 d_Mo_corner_46 rfl (fun hh => ?_) (fun hh => ?_)
    · have hw := hwt hh
      refine j_aload_n F 0 d_Mo_corner_53 rfl ?_
      refine j_iload_n F 1 d_Mo_corner_54 rfl ?_
      refine j_iload_n F 2 d_Mo_corner_55 rfl ?_
      refine m_calli F K (c_Mo_cornerX l hw) (tw_gV tj_134 tj_135 tj_136 tj_87 tj_137) q_Mo_cornerX rfl ⟨by decide, by decide⟩ ⟨Nat.zero_le _, Nat.zero_le _⟩ rfl (Nat.le_of_ble_eq_true rfl) d_Mo_corner_56 (fun r_3 S_2 hw => ?_)
      refine j_ldc (x := 32768) F tj_213 (by decide) d_Mo_corner_59 ?_
      refine j_imul F d_Mo_corner_61 ?_
      refine j_aload_n F 0 d_Mo_corner_62 rfl ?_
      refine j_iload_n F 1 d_Mo_corner_63 rfl ?_
      refine j_iload_n F 2 d_Mo_corner_64 rfl ?_
      refine m_calli F K (c_Mo_cornerY l hw) (tw_gV tj_138 tj_139 tj_140 tj_87 tj_141) q_Mo_cornerY rfl ⟨by decide, by decide⟩ ⟨Nat.zero_le _, Nat.zero_le _⟩ rfl (Nat.le_of_ble_eq_true rfl) d_Mo_corner_65 (fun r_5 S_4 hw => ?_)
      refine j_iadd F d_Mo_corner_68 ?_
      exact hret _ _ _ _ hw d_Mo_corner_69
    · have hw := hwf hh
      refine j_iconst F d_Mo_corner_49 ?_
      refine j_goto F 69 d_Mo_corner_50 rfl ?_
      exact hret _ _ _ _ hw d_Mo_corner_69
  unfold wp_Mo_corner at hw
  show jat l D X 3 0 [(0, .ref h), (1, vi v1), (2, vi v2)] [] (mw h ad kc S) 0 0
  refine j_aload_n F 0 d_Mo_corner_0 rfl ?_
  refine j_aload_n F 0 d_Mo_corner_1 rfl ?_
  refine m_calli F K (c_Mo_isUp l hw) (tw_gV tj_268 tj_269 tj_270 tj_87 tj_271) q_Mo_isUp rfl ⟨by decide, by decide⟩ ⟨Nat.zero_le _, Nat.zero_le _⟩ rfl (Nat.le_of_ble_eq_true rfl) d_Mo_corner_2 (fun r_2 S_1 hw => ?_)
  obtain ⟨hc1, hwt, hwf⟩ := hw
  refine j_if_ne F 12 hc1 d_Mo_corner_5 rfl (fun hh => ?_) (fun hh => ?_)
  · have hw := hwt hh
    refine j_aload_n F 0 d_Mo_corner_12 rfl ?_
    refine j_iload_n F 1 d_Mo_corner_13 rfl ?_
    refine m_calli F K (c_Mo_isLot l hw) (tw_gV tj_272 tj_273 tj_274 tj_87 tj_275) q_Mo_isLot rfl ⟨by decide, by decide⟩ ⟨Nat.zero_le _, Nat.zero_le _⟩ rfl (Nat.le_of_ble_eq_true rfl) d_Mo_corner_14 (fun r_4 S_3 hw => ?_)
    obtain ⟨hc1, hwt, hwf⟩ := hw
    refine j_if_eq F 34 hc1 d_Mo_corner_17 rfl (fun hh => ?_) (fun hh => ?_)
    · have hw := hwt hh
      refine j_iconst F d_Mo_corner_34 ?_
      refine j_goto F 39 d_Mo_corner_35 rfl ?_
      exact B39 _ _ _ _ hw
    · have hw := hwf hh
      refine j_iload_n F 2 d_Mo_corner_20 rfl ?_
      obtain ⟨hc1, hwt, hwf⟩ := hw
      refine j_if_lt F 34 hc1 d_Mo_corner_21 rfl (fun hh => ?_) (fun hh => ?_)
      · have hw := hwt hh
        refine j_iconst F d_Mo_corner_34 ?_
        refine j_goto F 39 d_Mo_corner_35 rfl ?_
        exact B39 _ _ _ _ hw
      · have hw := hwf hh
        refine j_iload_n F 2 d_Mo_corner_24 rfl ?_
        refine j_aload_n F 0 d_Mo_corner_25 rfl ?_
        refine m_geta F K 10 (by decide) (by decide) tj_131 rfl d_Mo_corner_26 ?_
        refine j_iload_n F 1 d_Mo_corner_29 rfl ?_
        obtain ⟨hc1, hw⟩ := hw
        refine m_iald F K 10 4 rfl rfl hc1 d_Mo_corner_30 ?_
        obtain ⟨hc1, hc2, hwt, hwf⟩ := hw
        refine j_icmp_lt F 38 hc1 hc2 d_Mo_corner_31 rfl (fun hh => ?_) (fun hh => ?_)
        · have hw := hwt hh
          refine j_iconst F d_Mo_corner_38 ?_
          exact B39 _ _ _ _ hw
        · have hw := hwf hh
          refine j_iconst F d_Mo_corner_34 ?_
          refine j_goto F 39 d_Mo_corner_35 rfl ?_
          exact B39 _ _ _ _ hw
  · have hw := hwf hh
    refine j_iconst F d_Mo_corner_8 ?_
    refine j_goto F 39 d_Mo_corner_9 rfl ?_
    exact B39 _ _ _ _ hw
theorem tj_329 : (Jvm.Cond.fieldLink "LandBookModel" (321 : Nat) "LandBookModel" "synced" "I") ∈ tw_G := tw_in (List.mem_of_getElem? (i := 1077) (by decide +kernel)) rfl
abbrev y_Mo_many : MethodName := ⟨"LandBookModel", "many", "(I)I"⟩
theorem q_Mo_many : y_Mo_many.cls = "LandBookModel" ∧ y_Mo_many.cls ≠ "java/lang/invoke/MethodHandle" ∧ y_Mo_many.cls ≠ "java/lang/invoke/VarHandle" ∧ (parseMethodDescriptor y_Mo_many.desc).map (fun d => d.parameters.length) = some 1 := by decide +kernel
theorem d_Mo_many_0 : decode prog_13_method_72_code 0 = .ok (.aload_n 0, 1) := by decide +kernel
theorem d_Mo_many_1 : decode prog_13_method_72_code 1 = .ok (.iload_n 1, 1) := by decide +kernel
theorem d_Mo_many_2 : decode prog_13_method_72_code 2 = .ok (.ifCond .lt 8, 3) := by decide +kernel
theorem d_Mo_many_10 : decode prog_13_method_72_code 10 = .ok (.iconst 1, 1) := by decide +kernel
theorem d_Mo_many_11 : decode prog_13_method_72_code 11 = .ok (.goto 4, 3) := by decide +kernel
theorem d_Mo_many_5 : decode prog_13_method_72_code 5 = .ok (.iload_n 1, 1) := by decide +kernel
theorem d_Mo_many_6 : decode prog_13_method_72_code 6 = .ok (.iconst 4, 1) := by decide +kernel
theorem d_Mo_many_7 : decode prog_13_method_72_code 7 = .ok (.if_icmp .le 7, 3) := by decide +kernel
theorem d_Mo_many_14 : decode prog_13_method_72_code 14 = .ok (.iconst 0, 1) := by decide +kernel
theorem d_Mo_many_15 : decode prog_13_method_72_code 15 = .ok (.putfield 98, 3) := by decide +kernel
theorem d_Mo_many_18 : decode prog_13_method_72_code 18 = .ok (.iload_n 1, 1) := by decide +kernel
theorem d_Mo_many_19 : decode prog_13_method_72_code 19 = .ok (.tableswitch 58 0 4 #[33, 38, 43, 48, 53], 33) := by decide +kernel
theorem d_Mo_many_77 : decode prog_13_method_72_code 77 = .ok (.iconst 0, 1) := by decide +kernel
theorem d_Mo_many_78 : decode prog_13_method_72_code 78 = .ok (.ireturn, 1) := by decide +kernel
theorem d_Mo_many_52 : decode prog_13_method_72_code 52 = .ok (.aload_n 0, 1) := by decide +kernel
theorem d_Mo_many_53 : decode prog_13_method_72_code 53 = .ok (.getfield 173, 3) := by decide +kernel
theorem d_Mo_many_56 : decode prog_13_method_72_code 56 = .ok (.ireturn, 1) := by decide +kernel
theorem d_Mo_many_57 : decode prog_13_method_72_code 57 = .ok (.aload_n 0, 1) := by decide +kernel
theorem d_Mo_many_58 : decode prog_13_method_72_code 58 = .ok (.getfield 192, 3) := by decide +kernel
theorem d_Mo_many_61 : decode prog_13_method_72_code 61 = .ok (.ireturn, 1) := by decide +kernel
theorem d_Mo_many_62 : decode prog_13_method_72_code 62 = .ok (.aload_n 0, 1) := by decide +kernel
theorem d_Mo_many_63 : decode prog_13_method_72_code 63 = .ok (.getfield 198, 3) := by decide +kernel
theorem d_Mo_many_66 : decode prog_13_method_72_code 66 = .ok (.ireturn, 1) := by decide +kernel
theorem d_Mo_many_67 : decode prog_13_method_72_code 67 = .ok (.aload_n 0, 1) := by decide +kernel
theorem d_Mo_many_68 : decode prog_13_method_72_code 68 = .ok (.getfield 201, 3) := by decide +kernel
theorem d_Mo_many_71 : decode prog_13_method_72_code 71 = .ok (.ireturn, 1) := by decide +kernel
theorem d_Mo_many_72 : decode prog_13_method_72_code 72 = .ok (.aload_n 0, 1) := by decide +kernel
theorem d_Mo_many_73 : decode prog_13_method_72_code 73 = .ok (.getfield 321, 3) := by decide +kernel
theorem d_Mo_many_76 : decode prog_13_method_72_code 76 = .ok (.ireturn, 1) := by decide +kernel
def wp_Mo_many_15 (post : Int → MS → Prop) (v1 : Int) (s0 : Int) (S : MS) : Prop := (∀ S_1 : MS, S_1 = ms_i S 0 s0 → inR v1 ∧ (v1 < 0 ∨ 4 < v1 → post 0 S_1) ∧ (v1 = 0 → (post (S_1.1 7) S_1)) ∧ (v1 = 1 → (post (S_1.1 15) S_1)) ∧ (v1 = 2 → (post (S_1.1 25) S_1)) ∧ (v1 = 3 → (post (S_1.1 30) S_1)) ∧ (v1 = 4 → (post (S_1.1 31) S_1)))
def wp_Mo_many (post : Int → MS → Prop) (v1 : Int) (S : MS) : Prop := inR v1 ∧ (v1 < 0 → wp_Mo_many_15 post v1 1 S) ∧ (¬ (v1 < 0) → (inR v1 ∧ (v1 ≤ 4 → wp_Mo_many_15 post v1 0 S) ∧ (¬ (v1 ≤ 4) → wp_Mo_many_15 post v1 1 S)))
set_option maxHeartbeats 4000000 in
set_option maxRecDepth 100000 in
theorem c_Mo_many (l : Launch) {D : va_G} {h : Nat} {ad : Nat → Nat} {kc : Nat → ClassId} {post : Int → MS → Prop} {v1 : Int} {S : MS} (hw : wp_Mo_many post v1 S) : jMi l D h ad kc y_Mo_many prog_13_method_72_code 2 (some .int) 0 0 S [vi v1] post := by
  refine j_moi (own := "LandBookModel") (by decide) rfl (Nat.le_of_ble_eq_true rfl) (fun X F K hret => ?_)
  have B15 : ∀ (v1 : Int) (s0 : Int) (S : MS), wp_Mo_many_15 post v1 s0 S → jat l D X 2 15 [(0, .ref h), (1, vi v1)] [vi s0, .ref h] (mw h ad kc S) 0 0 := by
    intro v1 s0 S hw
    unfold wp_Mo_many_15 at hw
    refine m_puti F K 0 (by decide) rfl tj_107 rfl rfl (ty := .int) (by decide +kernel) rfl rfl d_Mo_many_15 (fun S_1 e_S_1 => ?_)
    have hw := hw S_1 e_S_1
    refine j_iload_n F 1 d_Mo_many_18 rfl ?_
    obtain ⟨hc1, hw0, hw1, hw2, hw3, hw4, hw5⟩ := hw
    by_cases hz : v1 < 0 ∨ 4 < v1
    · refine j_tableOut F 77 hc1 d_Mo_many_19 hz rfl ?_
      have hw := hw0 hz
      refine j_iconst F d_Mo_many_77 ?_
      exact hret _ _ _ _ hw d_Mo_many_78
    · rcases (show v1 = 0 ∨ v1 = 1 ∨ v1 = 2 ∨ v1 = 3 ∨ v1 = 4 by omega) with hy | hy | hy | hy | hy
      · refine j_tableIn F 52 hc1 d_Mo_many_19 hy (by decide) (by decide) rfl rfl ?_
        have hw := hw1 hy
        refine j_aload_n F 0 d_Mo_many_52 rfl ?_
        refine m_geti F K 7 (by decide) rfl tj_157 rfl d_Mo_many_53 ?_
        exact hret _ _ _ _ hw d_Mo_many_56
      · refine j_tableIn F 57 hc1 d_Mo_many_19 hy (by decide) (by decide) rfl rfl ?_
        have hw := hw2 hy
        refine j_aload_n F 0 d_Mo_many_57 rfl ?_
        refine m_geti F K 15 (by decide) rfl tj_194 rfl d_Mo_many_58 ?_
        exact hret _ _ _ _ hw d_Mo_many_61
      · refine j_tableIn F 62 hc1 d_Mo_many_19 hy (by decide) (by decide) rfl rfl ?_
        have hw := hw3 hy
        refine j_aload_n F 0 d_Mo_many_62 rfl ?_
        refine m_geti F K 25 (by decide) rfl tj_201 rfl d_Mo_many_63 ?_
        exact hret _ _ _ _ hw d_Mo_many_66
      · refine j_tableIn F 67 hc1 d_Mo_many_19 hy (by decide) (by decide) rfl rfl ?_
        have hw := hw4 hy
        refine j_aload_n F 0 d_Mo_many_67 rfl ?_
        refine m_geti F K 30 (by decide) rfl tj_202 rfl d_Mo_many_68 ?_
        exact hret _ _ _ _ hw d_Mo_many_71
      · refine j_tableIn F 72 hc1 d_Mo_many_19 hy (by decide) (by decide) rfl rfl ?_
        have hw := hw5 hy
        refine j_aload_n F 0 d_Mo_many_72 rfl ?_
        refine m_geti F K 31 (by decide) rfl tj_329 rfl d_Mo_many_73 ?_
        exact hret _ _ _ _ hw d_Mo_many_76
  unfold wp_Mo_many at hw
  show jat l D X 2 0 [(0, .ref h), (1, vi v1)] [] (mw h ad kc S) 0 0
  refine j_aload_n F 0 d_Mo_many_0 rfl ?_
  refine j_iload_n F 1 d_Mo_many_1 rfl ?_
  obtain ⟨hc1, hwt, hwf⟩ := hw
  refine j_if_lt F 10 hc1 d_Mo_many_2 rfl (fun hh => ?_) (fun hh => ?_)
  · have hw := hwt hh
    refine j_iconst F d_Mo_many_10 ?_
    refine j_goto F 15 d_Mo_many_11 rfl ?_
    exact B15 _ _ _ hw
  · have hw := hwf hh
    refine j_iload_n F 1 d_Mo_many_5 rfl ?_
    refine j_iconst F d_Mo_many_6 ?_
    obtain ⟨hc1, hwt, hwf⟩ := hw
    refine j_icmp_le F 14 hc1 ⟨by decide, by decide⟩ d_Mo_many_7 rfl (fun hh => ?_) (fun hh => ?_)
    · have hw := hwt hh
      refine j_iconst F d_Mo_many_14 ?_
      exact B15 _ _ _ hw
    · have hw := hwf hh
      refine j_iconst F d_Mo_many_10 ?_
      refine j_goto F 15 d_Mo_many_11 rfl ?_
      exact B15 _ _ _ hw
abbrev y_Mo_word : MethodName := ⟨"LandBookModel", "word", "(I)I"⟩
theorem q_Mo_word : y_Mo_word.cls = "LandBookModel" ∧ y_Mo_word.cls ≠ "java/lang/invoke/MethodHandle" ∧ y_Mo_word.cls ≠ "java/lang/invoke/VarHandle" ∧ (parseMethodDescriptor y_Mo_word.desc).map (fun d => d.parameters.length) = some 1 := by decide +kernel
theorem d_Mo_word_0 : decode prog_13_method_73_code 0 = .ok (.aload_n 0, 1) := by decide +kernel
theorem d_Mo_word_1 : decode prog_13_method_73_code 1 = .ok (.iload_n 1, 1) := by decide +kernel
theorem d_Mo_word_2 : decode prog_13_method_73_code 2 = .ok (.ifCond .lt 11, 3) := by decide +kernel
theorem d_Mo_word_13 : decode prog_13_method_73_code 13 = .ok (.iconst 1, 1) := by decide +kernel
theorem d_Mo_word_14 : decode prog_13_method_73_code 14 = .ok (.goto 4, 3) := by decide +kernel
theorem d_Mo_word_5 : decode prog_13_method_73_code 5 = .ok (.iload_n 1, 1) := by decide +kernel
theorem d_Mo_word_6 : decode prog_13_method_73_code 6 = .ok (.aload_n 0, 1) := by decide +kernel
theorem d_Mo_word_7 : decode prog_13_method_73_code 7 = .ok (.getfield 201, 3) := by decide +kernel
theorem d_Mo_word_10 : decode prog_13_method_73_code 10 = .ok (.if_icmp .lt 7, 3) := by decide +kernel
theorem d_Mo_word_17 : decode prog_13_method_73_code 17 = .ok (.iconst 0, 1) := by decide +kernel
theorem d_Mo_word_18 : decode prog_13_method_73_code 18 = .ok (.putfield 98, 3) := by decide +kernel
theorem d_Mo_word_21 : decode prog_13_method_73_code 21 = .ok (.aload_n 0, 1) := by decide +kernel
theorem d_Mo_word_22 : decode prog_13_method_73_code 22 = .ok (.getfield 98, 3) := by decide +kernel
theorem d_Mo_word_25 : decode prog_13_method_73_code 25 = .ok (.ifCond .le 7, 3) := by decide +kernel
theorem d_Mo_word_32 : decode prog_13_method_73_code 32 = .ok (.aload_n 0, 1) := by decide +kernel
theorem d_Mo_word_33 : decode prog_13_method_73_code 33 = .ok (.getfield 77, 3) := by decide +kernel
theorem d_Mo_word_36 : decode prog_13_method_73_code 36 = .ok (.iload_n 1, 1) := by decide +kernel
theorem d_Mo_word_37 : decode prog_13_method_73_code 37 = .ok (.iaload, 1) := by decide +kernel
theorem d_Mo_word_38 : decode prog_13_method_73_code 38 = .ok (.ireturn, 1) := by decide +kernel
theorem d_Mo_word_28 : decode prog_13_method_73_code 28 = .ok (.iconst 0, 1) := by decide +kernel
theorem d_Mo_word_29 : decode prog_13_method_73_code 29 = .ok (.goto 9, 3) := by decide +kernel
def wp_Mo_word_18 (post : Int → MS → Prop) (v1 : Int) (s0 : Int) (S : MS) : Prop := (∀ S_1 : MS, S_1 = ms_i S 0 s0 → inR (S_1.1 0) ∧ ((S_1.1 0) ≤ 0 → (ixR v1 12100 ∧ (post (S_1.2 32 v1.toNat) S_1))) ∧ (¬ ((S_1.1 0) ≤ 0) → post 0 S_1))
def wp_Mo_word (post : Int → MS → Prop) (v1 : Int) (S : MS) : Prop := inR v1 ∧ (v1 < 0 → wp_Mo_word_18 post v1 1 S) ∧ (¬ (v1 < 0) → (inR v1 ∧ inR (S.1 30) ∧ (v1 < (S.1 30) → wp_Mo_word_18 post v1 0 S) ∧ (¬ (v1 < (S.1 30)) → wp_Mo_word_18 post v1 1 S)))
set_option maxHeartbeats 4000000 in
set_option maxRecDepth 100000 in
theorem c_Mo_word (l : Launch) {D : va_G} {h : Nat} {ad : Nat → Nat} {kc : Nat → ClassId} {post : Int → MS → Prop} {v1 : Int} {S : MS} (hw : wp_Mo_word post v1 S) : jMi l D h ad kc y_Mo_word prog_13_method_73_code 2 (some .int) 0 0 S [vi v1] post := by
  refine j_moi (own := "LandBookModel") (by decide) rfl (Nat.le_of_ble_eq_true rfl) (fun X F K hret => ?_)
  have B18 : ∀ (v1 : Int) (s0 : Int) (S : MS), wp_Mo_word_18 post v1 s0 S → jat l D X 2 18 [(0, .ref h), (1, vi v1)] [vi s0, .ref h] (mw h ad kc S) 0 0 := by
    intro v1 s0 S hw
    unfold wp_Mo_word_18 at hw
    refine m_puti F K 0 (by decide) rfl tj_107 rfl rfl (ty := .int) (by decide +kernel) rfl rfl d_Mo_word_18 (fun S_1 e_S_1 => ?_)
    have hw := hw S_1 e_S_1
    refine j_aload_n F 0 d_Mo_word_21 rfl ?_
    refine m_geti F K 0 (by decide) rfl tj_107 rfl d_Mo_word_22 ?_
    obtain ⟨hc1, hwt, hwf⟩ := hw
    refine j_if_le F 32 hc1 d_Mo_word_25 rfl (fun hh => ?_) (fun hh => ?_)
    · have hw := hwt hh
      refine j_aload_n F 0 d_Mo_word_32 rfl ?_
      refine m_geta F K 32 (by decide) (by decide) tj_207 rfl d_Mo_word_33 ?_
      refine j_iload_n F 1 d_Mo_word_36 rfl ?_
      obtain ⟨hc1, hw⟩ := hw
      refine m_iald F K 32 22 rfl rfl hc1 d_Mo_word_37 ?_
      exact hret _ _ _ _ hw d_Mo_word_38
    · have hw := hwf hh
      refine j_iconst F d_Mo_word_28 ?_
      refine j_goto F 38 d_Mo_word_29 rfl ?_
      exact hret _ _ _ _ hw d_Mo_word_38
  unfold wp_Mo_word at hw
  show jat l D X 2 0 [(0, .ref h), (1, vi v1)] [] (mw h ad kc S) 0 0
  refine j_aload_n F 0 d_Mo_word_0 rfl ?_
  refine j_iload_n F 1 d_Mo_word_1 rfl ?_
  obtain ⟨hc1, hwt, hwf⟩ := hw
  refine j_if_lt F 13 hc1 d_Mo_word_2 rfl (fun hh => ?_) (fun hh => ?_)
  · have hw := hwt hh
    refine j_iconst F d_Mo_word_13 ?_
    refine j_goto F 18 d_Mo_word_14 rfl ?_
    exact B18 _ _ _ hw
  · have hw := hwf hh
    refine j_iload_n F 1 d_Mo_word_5 rfl ?_
    refine j_aload_n F 0 d_Mo_word_6 rfl ?_
    refine m_geti F K 30 (by decide) rfl tj_202 rfl d_Mo_word_7 ?_
    obtain ⟨hc1, hc2, hwt, hwf⟩ := hw
    refine j_icmp_lt F 17 hc1 hc2 d_Mo_word_10 rfl (fun hh => ?_) (fun hh => ?_)
    · have hw := hwt hh
      refine j_iconst F d_Mo_word_17 ?_
      exact B18 _ _ _ hw
    · have hw := hwf hh
      refine j_iconst F d_Mo_word_13 ?_
      refine j_goto F 18 d_Mo_word_14 rfl ?_
      exact B18 _ _ _ hw
abbrev y_Mo_sync : MethodName := ⟨"LandBookModel", "sync", "()I"⟩
theorem q_Mo_sync : y_Mo_sync.cls = "LandBookModel" ∧ y_Mo_sync.cls ≠ "java/lang/invoke/MethodHandle" ∧ y_Mo_sync.cls ≠ "java/lang/invoke/VarHandle" ∧ (parseMethodDescriptor y_Mo_sync.desc).map (fun d => d.parameters.length) = some 0 := by decide +kernel
theorem d_Mo_sync_0 : decode prog_13_method_74_code 0 = .ok (.aload_n 0, 1) := by decide +kernel
theorem d_Mo_sync_1 : decode prog_13_method_74_code 1 = .ok (.aload_n 0, 1) := by decide +kernel
theorem d_Mo_sync_2 : decode prog_13_method_74_code 2 = .ok (.invokevirtual 264, 3) := by decide +kernel
theorem d_Mo_sync_5 : decode prog_13_method_74_code 5 = .ok (.ifCond .ne 7, 3) := by decide +kernel
theorem d_Mo_sync_12 : decode prog_13_method_74_code 12 = .ok (.iconst 0, 1) := by decide +kernel
theorem d_Mo_sync_8 : decode prog_13_method_74_code 8 = .ok (.iconst 1, 1) := by decide +kernel
theorem d_Mo_sync_9 : decode prog_13_method_74_code 9 = .ok (.goto 4, 3) := by decide +kernel
theorem d_Mo_sync_13 : decode prog_13_method_74_code 13 = .ok (.putfield 98, 3) := by decide +kernel
theorem d_Mo_sync_16 : decode prog_13_method_74_code 16 = .ok (.aload_n 0, 1) := by decide +kernel
theorem d_Mo_sync_17 : decode prog_13_method_74_code 17 = .ok (.getfield 201, 3) := by decide +kernel
theorem d_Mo_sync_20 : decode prog_13_method_74_code 20 = .ok (.aload_n 0, 1) := by decide +kernel
theorem d_Mo_sync_21 : decode prog_13_method_74_code 21 = .ok (.getfield 321, 3) := by decide +kernel
theorem d_Mo_sync_24 : decode prog_13_method_74_code 24 = .ok (.isub, 1) := by decide +kernel
theorem d_Mo_sync_25 : decode prog_13_method_74_code 25 = .ok (.istore_n 1, 1) := by decide +kernel
theorem d_Mo_sync_26 : decode prog_13_method_74_code 26 = .ok (.aload_n 0, 1) := by decide +kernel
theorem d_Mo_sync_27 : decode prog_13_method_74_code 27 = .ok (.getfield 98, 3) := by decide +kernel
theorem d_Mo_sync_30 : decode prog_13_method_74_code 30 = .ok (.ifCond .le 5, 3) := by decide +kernel
theorem d_Mo_sync_35 : decode prog_13_method_74_code 35 = .ok (.aload_n 0, 1) := by decide +kernel
theorem d_Mo_sync_36 : decode prog_13_method_74_code 36 = .ok (.aload_n 0, 1) := by decide +kernel
theorem d_Mo_sync_37 : decode prog_13_method_74_code 37 = .ok (.getfield 201, 3) := by decide +kernel
theorem d_Mo_sync_40 : decode prog_13_method_74_code 40 = .ok (.putfield 321, 3) := by decide +kernel
theorem d_Mo_sync_43 : decode prog_13_method_74_code 43 = .ok (.iload_n 1, 1) := by decide +kernel
theorem d_Mo_sync_44 : decode prog_13_method_74_code 44 = .ok (.ireturn, 1) := by decide +kernel
theorem d_Mo_sync_33 : decode prog_13_method_74_code 33 = .ok (.iconst 0, 1) := by decide +kernel
theorem d_Mo_sync_34 : decode prog_13_method_74_code 34 = .ok (.ireturn, 1) := by decide +kernel
def wp_Mo_sync_13 (post : Int → MS → Prop) (s0 : Int) (S : MS) : Prop := (∀ S_1 : MS, S_1 = ms_i S 0 s0 → ∀ v1_2 : Int, v1_2 = ((S_1.1 30) - (S_1.1 31)) → inR (S_1.1 0) ∧ ((S_1.1 0) ≤ 0 → ((∀ S_3 : MS, S_3 = ms_i S_1 31 (S_1.1 30) → post v1_2 S_3))) ∧ (¬ ((S_1.1 0) ≤ 0) → post 0 S_1))
def wp_Mo_sync (post : Int → MS → Prop)  (S : MS) : Prop := wp_Mo_isUp (fun r_2 S_1 => inR r_2 ∧ (¬ (r_2 = 0) → wp_Mo_sync_13 post 0 S_1) ∧ (r_2 = 0 → wp_Mo_sync_13 post 1 S_1))  S
set_option maxHeartbeats 4000000 in
set_option maxRecDepth 100000 in
theorem c_Mo_sync (l : Launch) {D : va_G} {h : Nat} {ad : Nat → Nat} {kc : Nat → ClassId} {post : Int → MS → Prop}  {S : MS} (hw : wp_Mo_sync post  S) : jMi l D h ad kc y_Mo_sync prog_13_method_74_code 2 (some .int) 1 20 S [] post := by
  refine j_moi (own := "LandBookModel") (by decide) rfl (Nat.le_of_ble_eq_true rfl) (fun X F K hret => ?_)
  have B13 : ∀ (s0 : Int) (S : MS), wp_Mo_sync_13 post s0 S → jat l D X 2 13 [(0, .ref h)] [vi s0, .ref h] (mw h ad kc S) 0 0 := by
    intro s0 S hw
    unfold wp_Mo_sync_13 at hw
    refine m_puti F K 0 (by decide) rfl tj_107 rfl rfl (ty := .int) (by decide +kernel) rfl rfl d_Mo_sync_13 (fun S_1 e_S_1 => ?_)
    have hw := hw S_1 e_S_1
    refine j_aload_n F 0 d_Mo_sync_16 rfl ?_
    refine m_geti F K 30 (by decide) rfl tj_202 rfl d_Mo_sync_17 ?_
    refine j_aload_n F 0 d_Mo_sync_20 rfl ?_
    refine m_geti F K 31 (by decide) rfl tj_329 rfl d_Mo_sync_21 ?_
    refine j_isub F d_Mo_sync_24 ?_
    refine j_nmi (fun v1_2 e_v1_2 => ?_)
    have hw := hw v1_2 e_v1_2
    refine j_istore_n F [(1, vi v1_2), (0, .ref h)] d_Mo_sync_25 (by decide) rfl ?_
    refine j_aload_n F 1 d_Mo_sync_26 rfl ?_
    refine m_geti F K 0 (by decide) rfl tj_107 rfl d_Mo_sync_27 ?_
    obtain ⟨hc1, hwt, hwf⟩ := hw
    refine j_if_le F 35 hc1 d_Mo_sync_30 rfl (fun hh => ?_) (fun hh => ?_)
    · have hw := hwt hh
      refine j_aload_n F 1 d_Mo_sync_35 rfl ?_
      refine j_aload_n F 1 d_Mo_sync_36 rfl ?_
      refine m_geti F K 30 (by decide) rfl tj_202 rfl d_Mo_sync_37 ?_
      refine m_puti F K 31 (by decide) rfl tj_329 rfl rfl (ty := .int) (by decide +kernel) rfl rfl d_Mo_sync_40 (fun S_3 e_S_3 => ?_)
      have hw := hw S_3 e_S_3
      refine j_iload_n F 0 d_Mo_sync_43 rfl ?_
      exact hret _ _ _ _ hw d_Mo_sync_44
    · have hw := hwf hh
      refine j_iconst F d_Mo_sync_33 ?_
      exact hret _ _ _ _ hw d_Mo_sync_34
  unfold wp_Mo_sync at hw
  show jat l D X 2 0 [(0, .ref h)] [] (mw h ad kc S) 0 0
  refine j_aload_n F 0 d_Mo_sync_0 rfl ?_
  refine j_aload_n F 0 d_Mo_sync_1 rfl ?_
  refine m_calli F K (c_Mo_isUp l hw) (tw_gV tj_268 tj_269 tj_270 tj_87 tj_271) q_Mo_isUp rfl ⟨by decide, by decide⟩ ⟨Nat.zero_le _, Nat.zero_le _⟩ rfl (Nat.le_of_ble_eq_true rfl) d_Mo_sync_2 (fun r_2 S_1 hw => ?_)
  obtain ⟨hc1, hwt, hwf⟩ := hw
  refine j_if_ne F 12 hc1 d_Mo_sync_5 rfl (fun hh => ?_) (fun hh => ?_)
  · have hw := hwt hh
    refine j_iconst F d_Mo_sync_12 ?_
    exact B13 _ _ hw
  · have hw := hwf hh
    refine j_iconst F d_Mo_sync_8 ?_
    refine j_goto F 13 d_Mo_sync_9 rfl ?_
    exact B13 _ _ hw
abbrev y_Mo_crash : MethodName := ⟨"LandBookModel", "crash", "(I)I"⟩
theorem q_Mo_crash : y_Mo_crash.cls = "LandBookModel" ∧ y_Mo_crash.cls ≠ "java/lang/invoke/MethodHandle" ∧ y_Mo_crash.cls ≠ "java/lang/invoke/VarHandle" ∧ (parseMethodDescriptor y_Mo_crash.desc).map (fun d => d.parameters.length) = some 1 := by decide +kernel
theorem d_Mo_crash_0 : decode prog_13_method_75_code 0 = .ok (.aload_n 0, 1) := by decide +kernel
theorem d_Mo_crash_1 : decode prog_13_method_75_code 1 = .ok (.aload_n 0, 1) := by decide +kernel
theorem d_Mo_crash_2 : decode prog_13_method_75_code 2 = .ok (.invokevirtual 264, 3) := by decide +kernel
theorem d_Mo_crash_5 : decode prog_13_method_75_code 5 = .ok (.ifCond .ne 7, 3) := by decide +kernel
theorem d_Mo_crash_12 : decode prog_13_method_75_code 12 = .ok (.iload_n 1, 1) := by decide +kernel
theorem d_Mo_crash_13 : decode prog_13_method_75_code 13 = .ok (.ifCond .ge 7, 3) := by decide +kernel
theorem d_Mo_crash_20 : decode prog_13_method_75_code 20 = .ok (.iconst 0, 1) := by decide +kernel
theorem d_Mo_crash_16 : decode prog_13_method_75_code 16 = .ok (.iconst 2, 1) := by decide +kernel
theorem d_Mo_crash_17 : decode prog_13_method_75_code 17 = .ok (.goto 4, 3) := by decide +kernel
theorem d_Mo_crash_8 : decode prog_13_method_75_code 8 = .ok (.iconst 1, 1) := by decide +kernel
theorem d_Mo_crash_9 : decode prog_13_method_75_code 9 = .ok (.goto 12, 3) := by decide +kernel
theorem d_Mo_crash_21 : decode prog_13_method_75_code 21 = .ok (.putfield 98, 3) := by decide +kernel
theorem d_Mo_crash_24 : decode prog_13_method_75_code 24 = .ok (.aload_n 0, 1) := by decide +kernel
theorem d_Mo_crash_25 : decode prog_13_method_75_code 25 = .ok (.getfield 98, 3) := by decide +kernel
theorem d_Mo_crash_28 : decode prog_13_method_75_code 28 = .ok (.ifCond .le 5, 3) := by decide +kernel
theorem d_Mo_crash_33 : decode prog_13_method_75_code 33 = .ok (.aload_n 0, 1) := by decide +kernel
theorem d_Mo_crash_34 : decode prog_13_method_75_code 34 = .ok (.iconst 1, 1) := by decide +kernel
theorem d_Mo_crash_35 : decode prog_13_method_75_code 35 = .ok (.putfield 156, 3) := by decide +kernel
theorem d_Mo_crash_38 : decode prog_13_method_75_code 38 = .ok (.aload_n 0, 1) := by decide +kernel
theorem d_Mo_crash_39 : decode prog_13_method_75_code 39 = .ok (.getfield 201, 3) := by decide +kernel
theorem d_Mo_crash_42 : decode prog_13_method_75_code 42 = .ok (.aload_n 0, 1) := by decide +kernel
theorem d_Mo_crash_43 : decode prog_13_method_75_code 43 = .ok (.getfield 321, 3) := by decide +kernel
theorem d_Mo_crash_46 : decode prog_13_method_75_code 46 = .ok (.isub, 1) := by decide +kernel
theorem d_Mo_crash_47 : decode prog_13_method_75_code 47 = .ok (.istore_n 2, 1) := by decide +kernel
theorem d_Mo_crash_48 : decode prog_13_method_75_code 48 = .ok (.aload_n 0, 1) := by decide +kernel
theorem d_Mo_crash_49 : decode prog_13_method_75_code 49 = .ok (.iload_n 1, 1) := by decide +kernel
theorem d_Mo_crash_50 : decode prog_13_method_75_code 50 = .ok (.iload_n 2, 1) := by decide +kernel
theorem d_Mo_crash_51 : decode prog_13_method_75_code 51 = .ok (.if_icmp .ge 12, 3) := by decide +kernel
theorem d_Mo_crash_63 : decode prog_13_method_75_code 63 = .ok (.aload_n 0, 1) := by decide +kernel
theorem d_Mo_crash_64 : decode prog_13_method_75_code 64 = .ok (.getfield 201, 3) := by decide +kernel
theorem d_Mo_crash_54 : decode prog_13_method_75_code 54 = .ok (.aload_n 0, 1) := by decide +kernel
theorem d_Mo_crash_55 : decode prog_13_method_75_code 55 = .ok (.getfield 321, 3) := by decide +kernel
theorem d_Mo_crash_58 : decode prog_13_method_75_code 58 = .ok (.iload_n 1, 1) := by decide +kernel
theorem d_Mo_crash_59 : decode prog_13_method_75_code 59 = .ok (.iadd, 1) := by decide +kernel
theorem d_Mo_crash_60 : decode prog_13_method_75_code 60 = .ok (.goto 7, 3) := by decide +kernel
theorem d_Mo_crash_31 : decode prog_13_method_75_code 31 = .ok (.iconst 0, 1) := by decide +kernel
theorem d_Mo_crash_32 : decode prog_13_method_75_code 32 = .ok (.ireturn, 1) := by decide +kernel
theorem d_Mo_crash_67 : decode prog_13_method_75_code 67 = .ok (.putfield 201, 3) := by decide +kernel
theorem d_Mo_crash_70 : decode prog_13_method_75_code 70 = .ok (.aload_n 0, 1) := by decide +kernel
theorem d_Mo_crash_71 : decode prog_13_method_75_code 71 = .ok (.getfield 201, 3) := by decide +kernel
theorem d_Mo_crash_74 : decode prog_13_method_75_code 74 = .ok (.ireturn, 1) := by decide +kernel
def wp_Mo_crash_67 (post : Int → MS → Prop) (s0 : Int) (S : MS) : Prop := (∀ S_1 : MS, S_1 = ms_i S 30 s0 → post (S_1.1 30) S_1)
def wp_Mo_crash_21 (post : Int → MS → Prop) (v1 : Int) (s0 : Int) (S : MS) : Prop := (∀ S_1 : MS, S_1 = ms_i S 0 s0 → inR (S_1.1 0) ∧ ((S_1.1 0) ≤ 0 → ((∀ S_2 : MS, S_2 = ms_i S_1 2 1 → ∀ v2_3 : Int, v2_3 = ((S_2.1 30) - (S_2.1 31)) → inR v1 ∧ inR v2_3 ∧ (v2_3 ≤ v1 → (wp_Mo_crash_67 post (S_2.1 30) S_2)) ∧ (¬ (v2_3 ≤ v1) → (wp_Mo_crash_67 post ((S_2.1 31) + v1) S_2))))) ∧ (¬ ((S_1.1 0) ≤ 0) → post 0 S_1))
def wp_Mo_crash (post : Int → MS → Prop) (v1 : Int) (S : MS) : Prop := wp_Mo_isUp (fun r_2 S_1 => inR r_2 ∧ (¬ (r_2 = 0) → (inR v1 ∧ (0 ≤ v1 → wp_Mo_crash_21 post v1 0 S_1) ∧ (¬ (0 ≤ v1) → wp_Mo_crash_21 post v1 2 S_1))) ∧ (r_2 = 0 → wp_Mo_crash_21 post v1 1 S_1))  S
set_option maxHeartbeats 4000000 in
set_option maxRecDepth 100000 in
theorem c_Mo_crash (l : Launch) {D : va_G} {h : Nat} {ad : Nat → Nat} {kc : Nat → ClassId} {post : Int → MS → Prop} {v1 : Int} {S : MS} (hw : wp_Mo_crash post v1 S) : jMi l D h ad kc y_Mo_crash prog_13_method_75_code 3 (some .int) 1 20 S [vi v1] post := by
  refine j_moi (own := "LandBookModel") (by decide) rfl (Nat.le_of_ble_eq_true rfl) (fun X F K hret => ?_)
  have B67 : ∀ (s0 : Int) (S : MS), wp_Mo_crash_67 post s0 S → jat l D X 3 67 [(0, .ref h)] [vi s0, .ref h] (mw h ad kc S) 0 0 := by
    intro s0 S hw
    unfold wp_Mo_crash_67 at hw
    refine m_puti F K 30 (by decide) rfl tj_202 rfl rfl (ty := .int) (by decide +kernel) rfl rfl d_Mo_crash_67 (fun S_1 e_S_1 => ?_)
    have hw := hw S_1 e_S_1
    refine j_aload_n F 0 d_Mo_crash_70 rfl ?_
    refine m_geti F K 30 (by decide) rfl tj_202 rfl d_Mo_crash_71 ?_
    exact hret _ _ _ _ hw d_Mo_crash_74
  have B21 : ∀ (v1 : Int) (s0 : Int) (S : MS), wp_Mo_crash_21 post v1 s0 S → jat l D X 3 21 [(0, .ref h), (1, vi v1)] [vi s0, .ref h] (mw h ad kc S) 0 0 := by
    intro v1 s0 S hw
    unfold wp_Mo_crash_21 at hw
    refine m_puti F K 0 (by decide) rfl tj_107 rfl rfl (ty := .int) (by decide +kernel) rfl rfl d_Mo_crash_21 (fun S_1 e_S_1 => ?_)
    have hw := hw S_1 e_S_1
    refine j_aload_n F 0 d_Mo_crash_24 rfl ?_
    refine m_geti F K 0 (by decide) rfl tj_107 rfl d_Mo_crash_25 ?_
    obtain ⟨hc1, hwt, hwf⟩ := hw
    refine j_if_le F 33 hc1 d_Mo_crash_28 rfl (fun hh => ?_) (fun hh => ?_)
    · have hw := hwt hh
      refine j_aload_n F 0 d_Mo_crash_33 rfl ?_
      refine j_iconst F d_Mo_crash_34 ?_
      refine m_puti F K 2 (by decide) rfl tj_144 rfl rfl (ty := .boolean) (by decide +kernel) rfl rfl d_Mo_crash_35 (fun S_2 e_S_2 => ?_)
      have hw := hw S_2 e_S_2
      refine j_aload_n F 0 d_Mo_crash_38 rfl ?_
      refine m_geti F K 30 (by decide) rfl tj_202 rfl d_Mo_crash_39 ?_
      refine j_aload_n F 0 d_Mo_crash_42 rfl ?_
      refine m_geti F K 31 (by decide) rfl tj_329 rfl d_Mo_crash_43 ?_
      refine j_isub F d_Mo_crash_46 ?_
      refine j_nmi (fun v2_3 e_v2_3 => ?_)
      have hw := hw v2_3 e_v2_3
      refine j_istore_n F [(2, vi v2_3), (0, .ref h), (1, vi v1)] d_Mo_crash_47 (by decide) rfl ?_
      refine j_aload_n F 1 d_Mo_crash_48 rfl ?_
      refine j_iload_n F 2 d_Mo_crash_49 rfl ?_
      refine j_iload_n F 0 d_Mo_crash_50 rfl ?_
      obtain ⟨hc1, hc2, hwt, hwf⟩ := hw
      refine j_icmp_ge F 63 hc1 hc2 d_Mo_crash_51 rfl (fun hh => ?_) (fun hh => ?_)
      · have hw := hwt hh
        refine j_aload_n F 1 d_Mo_crash_63 rfl ?_
        refine m_geti F K 30 (by decide) rfl tj_202 rfl d_Mo_crash_64 ?_
        refine j_sub [1] rfl ?_
        exact B67 _ _ hw
      · have hw := hwf hh
        refine j_aload_n F 1 d_Mo_crash_54 rfl ?_
        refine m_geti F K 31 (by decide) rfl tj_329 rfl d_Mo_crash_55 ?_
        refine j_iload_n F 2 d_Mo_crash_58 rfl ?_
        refine j_iadd F d_Mo_crash_59 ?_
        refine j_goto F 67 d_Mo_crash_60 rfl ?_
        refine j_sub [1] rfl ?_
        exact B67 _ _ hw
    · have hw := hwf hh
      refine j_iconst F d_Mo_crash_31 ?_
      exact hret _ _ _ _ hw d_Mo_crash_32
  unfold wp_Mo_crash at hw
  show jat l D X 3 0 [(0, .ref h), (1, vi v1)] [] (mw h ad kc S) 0 0
  refine j_aload_n F 0 d_Mo_crash_0 rfl ?_
  refine j_aload_n F 0 d_Mo_crash_1 rfl ?_
  refine m_calli F K (c_Mo_isUp l hw) (tw_gV tj_268 tj_269 tj_270 tj_87 tj_271) q_Mo_isUp rfl ⟨by decide, by decide⟩ ⟨Nat.zero_le _, Nat.zero_le _⟩ rfl (Nat.le_of_ble_eq_true rfl) d_Mo_crash_2 (fun r_2 S_1 hw => ?_)
  obtain ⟨hc1, hwt, hwf⟩ := hw
  refine j_if_ne F 12 hc1 d_Mo_crash_5 rfl (fun hh => ?_) (fun hh => ?_)
  · have hw := hwt hh
    refine j_iload_n F 1 d_Mo_crash_12 rfl ?_
    obtain ⟨hc1, hwt, hwf⟩ := hw
    refine j_if_ge F 20 hc1 d_Mo_crash_13 rfl (fun hh => ?_) (fun hh => ?_)
    · have hw := hwt hh
      refine j_iconst F d_Mo_crash_20 ?_
      exact B21 _ _ _ hw
    · have hw := hwf hh
      refine j_iconst F d_Mo_crash_16 ?_
      refine j_goto F 21 d_Mo_crash_17 rfl ?_
      exact B21 _ _ _ hw
  · have hw := hwf hh
    refine j_iconst F d_Mo_crash_8 ?_
    refine j_goto F 21 d_Mo_crash_9 rfl ?_
    exact B21 _ _ _ hw
theorem tj_330 : (Jvm.Cond.fieldLink "LandBookModel" (324 : Nat) "LandBookModel" "mounts" "I") ∈ tw_G := tw_in (List.mem_of_getElem? (i := 1049) (by decide +kernel)) rfl
abbrev y_Mo_mount : MethodName := ⟨"LandBookModel", "mount", "()I"⟩
theorem q_Mo_mount : y_Mo_mount.cls = "LandBookModel" ∧ y_Mo_mount.cls ≠ "java/lang/invoke/MethodHandle" ∧ y_Mo_mount.cls ≠ "java/lang/invoke/VarHandle" ∧ (parseMethodDescriptor y_Mo_mount.desc).map (fun d => d.parameters.length) = some 0 := by decide +kernel
theorem d_Mo_mount_0 : decode prog_13_method_76_code 0 = .ok (.aload_n 0, 1) := by decide +kernel
theorem d_Mo_mount_1 : decode prog_13_method_76_code 1 = .ok (.aload_n 0, 1) := by decide +kernel
theorem d_Mo_mount_2 : decode prog_13_method_76_code 2 = .ok (.getfield 152, 3) := by decide +kernel
theorem d_Mo_mount_5 : decode prog_13_method_76_code 5 = .ok (.ifCond .ne 7, 3) := by decide +kernel
theorem d_Mo_mount_12 : decode prog_13_method_76_code 12 = .ok (.aload_n 0, 1) := by decide +kernel
theorem d_Mo_mount_13 : decode prog_13_method_76_code 13 = .ok (.getfield 324, 3) := by decide +kernel
theorem d_Mo_mount_16 : decode prog_13_method_76_code 16 = .ok (.bipush 40, 2) := by decide +kernel
theorem d_Mo_mount_18 : decode prog_13_method_76_code 18 = .ok (.if_icmp .ne 7, 3) := by decide +kernel
theorem d_Mo_mount_25 : decode prog_13_method_76_code 25 = .ok (.iconst 0, 1) := by decide +kernel
theorem d_Mo_mount_21 : decode prog_13_method_76_code 21 = .ok (.iconst 2, 1) := by decide +kernel
theorem d_Mo_mount_22 : decode prog_13_method_76_code 22 = .ok (.goto 4, 3) := by decide +kernel
theorem d_Mo_mount_8 : decode prog_13_method_76_code 8 = .ok (.iconst 1, 1) := by decide +kernel
theorem d_Mo_mount_9 : decode prog_13_method_76_code 9 = .ok (.goto 17, 3) := by decide +kernel
theorem d_Mo_mount_26 : decode prog_13_method_76_code 26 = .ok (.putfield 98, 3) := by decide +kernel
theorem d_Mo_mount_29 : decode prog_13_method_76_code 29 = .ok (.aload_n 0, 1) := by decide +kernel
theorem d_Mo_mount_30 : decode prog_13_method_76_code 30 = .ok (.getfield 98, 3) := by decide +kernel
theorem d_Mo_mount_33 : decode prog_13_method_76_code 33 = .ok (.ifCond .le 5, 3) := by decide +kernel
theorem d_Mo_mount_38 : decode prog_13_method_76_code 38 = .ok (.aload_n 0, 1) := by decide +kernel
theorem d_Mo_mount_39 : decode prog_13_method_76_code 39 = .ok (.dup, 1) := by decide +kernel
theorem d_Mo_mount_40 : decode prog_13_method_76_code 40 = .ok (.getfield 324, 3) := by decide +kernel
theorem d_Mo_mount_43 : decode prog_13_method_76_code 43 = .ok (.iconst 1, 1) := by decide +kernel
theorem d_Mo_mount_44 : decode prog_13_method_76_code 44 = .ok (.iadd, 1) := by decide +kernel
theorem d_Mo_mount_45 : decode prog_13_method_76_code 45 = .ok (.putfield 324, 3) := by decide +kernel
theorem d_Mo_mount_48 : decode prog_13_method_76_code 48 = .ok (.iconst 0, 1) := by decide +kernel
theorem d_Mo_mount_49 : decode prog_13_method_76_code 49 = .ok (.istore_n 1, 1) := by decide +kernel
theorem d_Mo_mount_50 : decode prog_13_method_76_code 50 = .ok (.iconst 1, 1) := by decide +kernel
theorem d_Mo_mount_51 : decode prog_13_method_76_code 51 = .ok (.istore_n 2, 1) := by decide +kernel
theorem d_Mo_mount_36 : decode prog_13_method_76_code 36 = .ok (.iconst 0, 1) := by decide +kernel
theorem d_Mo_mount_37 : decode prog_13_method_76_code 37 = .ok (.ireturn, 1) := by decide +kernel
theorem d_Mo_mount_52 : decode prog_13_method_76_code 52 = .ok (.iload_n 2, 1) := by decide +kernel
theorem d_Mo_mount_53 : decode prog_13_method_76_code 53 = .ok (.aload_n 0, 1) := by decide +kernel
theorem d_Mo_mount_54 : decode prog_13_method_76_code 54 = .ok (.getfield 192, 3) := by decide +kernel
theorem d_Mo_mount_57 : decode prog_13_method_76_code 57 = .ok (.if_icmp .gt 28, 3) := by decide +kernel
theorem d_Mo_mount_85 : decode prog_13_method_76_code 85 = .ok (.aload_n 0, 1) := by decide +kernel
theorem d_Mo_mount_86 : decode prog_13_method_76_code 86 = .ok (.iload_n 1, 1) := by decide +kernel
theorem d_Mo_mount_87 : decode prog_13_method_76_code 87 = .ok (.putfield 192, 3) := by decide +kernel
theorem d_Mo_mount_90 : decode prog_13_method_76_code 90 = .ok (.aload_n 0, 1) := by decide +kernel
theorem d_Mo_mount_91 : decode prog_13_method_76_code 91 = .ok (.iload_n 1, 1) := by decide +kernel
theorem d_Mo_mount_92 : decode prog_13_method_76_code 92 = .ok (.ifCond .ne 7, 3) := by decide +kernel
theorem d_Mo_mount_99 : decode prog_13_method_76_code 99 = .ok (.aload_n 0, 1) := by decide +kernel
theorem d_Mo_mount_100 : decode prog_13_method_76_code 100 = .ok (.getfield 55, 3) := by decide +kernel
theorem d_Mo_mount_103 : decode prog_13_method_76_code 103 = .ok (.iload_n 1, 1) := by decide +kernel
theorem d_Mo_mount_104 : decode prog_13_method_76_code 104 = .ok (.iaload, 1) := by decide +kernel
theorem d_Mo_mount_95 : decode prog_13_method_76_code 95 = .ok (.iconst 1, 1) := by decide +kernel
theorem d_Mo_mount_96 : decode prog_13_method_76_code 96 = .ok (.goto 9, 3) := by decide +kernel
theorem d_Mo_mount_60 : decode prog_13_method_76_code 60 = .ok (.aload_n 0, 1) := by decide +kernel
theorem d_Mo_mount_61 : decode prog_13_method_76_code 61 = .ok (.getfield 61, 3) := by decide +kernel
theorem d_Mo_mount_64 : decode prog_13_method_76_code 64 = .ok (.iload_n 2, 1) := by decide +kernel
theorem d_Mo_mount_65 : decode prog_13_method_76_code 65 = .ok (.iaload, 1) := by decide +kernel
theorem d_Mo_mount_66 : decode prog_13_method_76_code 66 = .ok (.aload_n 0, 1) := by decide +kernel
theorem d_Mo_mount_67 : decode prog_13_method_76_code 67 = .ok (.getfield 201, 3) := by decide +kernel
theorem d_Mo_mount_70 : decode prog_13_method_76_code 70 = .ok (.if_icmp .gt 7, 3) := by decide +kernel
theorem d_Mo_mount_77 : decode prog_13_method_76_code 77 = .ok (.iload_n 1, 1) := by decide +kernel
theorem d_Mo_mount_73 : decode prog_13_method_76_code 73 = .ok (.iload_n 2, 1) := by decide +kernel
theorem d_Mo_mount_74 : decode prog_13_method_76_code 74 = .ok (.goto 4, 3) := by decide +kernel
theorem d_Mo_mount_105 : decode prog_13_method_76_code 105 = .ok (.putfield 173, 3) := by decide +kernel
theorem d_Mo_mount_108 : decode prog_13_method_76_code 108 = .ok (.aload_n 0, 1) := by decide +kernel
theorem d_Mo_mount_109 : decode prog_13_method_76_code 109 = .ok (.iload_n 1, 1) := by decide +kernel
theorem d_Mo_mount_110 : decode prog_13_method_76_code 110 = .ok (.ifCond .ne 7, 3) := by decide +kernel
theorem d_Mo_mount_117 : decode prog_13_method_76_code 117 = .ok (.aload_n 0, 1) := by decide +kernel
theorem d_Mo_mount_118 : decode prog_13_method_76_code 118 = .ok (.getfield 58, 3) := by decide +kernel
theorem d_Mo_mount_121 : decode prog_13_method_76_code 121 = .ok (.iload_n 1, 1) := by decide +kernel
theorem d_Mo_mount_122 : decode prog_13_method_76_code 122 = .ok (.iaload, 1) := by decide +kernel
theorem d_Mo_mount_113 : decode prog_13_method_76_code 113 = .ok (.iconst 0, 1) := by decide +kernel
theorem d_Mo_mount_114 : decode prog_13_method_76_code 114 = .ok (.goto 9, 3) := by decide +kernel
theorem d_Mo_mount_78 : decode prog_13_method_76_code 78 = .ok (.istore_n 1, 1) := by decide +kernel
theorem d_Mo_mount_79 : decode prog_13_method_76_code 79 = .ok (.iinc 2 1, 3) := by decide +kernel
theorem d_Mo_mount_82 : decode prog_13_method_76_code 82 = .ok (.goto (-30), 3) := by decide +kernel
theorem d_Mo_mount_123 : decode prog_13_method_76_code 123 = .ok (.putfield 198, 3) := by decide +kernel
theorem d_Mo_mount_126 : decode prog_13_method_76_code 126 = .ok (.aload_n 0, 1) := by decide +kernel
theorem d_Mo_mount_127 : decode prog_13_method_76_code 127 = .ok (.iload_n 1, 1) := by decide +kernel
theorem d_Mo_mount_128 : decode prog_13_method_76_code 128 = .ok (.ifCond .ne 7, 3) := by decide +kernel
theorem d_Mo_mount_135 : decode prog_13_method_76_code 135 = .ok (.aload_n 0, 1) := by decide +kernel
theorem d_Mo_mount_136 : decode prog_13_method_76_code 136 = .ok (.getfield 61, 3) := by decide +kernel
theorem d_Mo_mount_139 : decode prog_13_method_76_code 139 = .ok (.iload_n 1, 1) := by decide +kernel
theorem d_Mo_mount_140 : decode prog_13_method_76_code 140 = .ok (.iaload, 1) := by decide +kernel
theorem d_Mo_mount_131 : decode prog_13_method_76_code 131 = .ok (.iconst 0, 1) := by decide +kernel
theorem d_Mo_mount_132 : decode prog_13_method_76_code 132 = .ok (.goto 9, 3) := by decide +kernel
theorem d_Mo_mount_141 : decode prog_13_method_76_code 141 = .ok (.putfield 201, 3) := by decide +kernel
theorem d_Mo_mount_144 : decode prog_13_method_76_code 144 = .ok (.iconst 1, 1) := by decide +kernel
theorem d_Mo_mount_145 : decode prog_13_method_76_code 145 = .ok (.istore_n 2, 1) := by decide +kernel
theorem d_Mo_mount_146 : decode prog_13_method_76_code 146 = .ok (.iload_n 2, 1) := by decide +kernel
theorem d_Mo_mount_147 : decode prog_13_method_76_code 147 = .ok (.aload_n 0, 1) := by decide +kernel
theorem d_Mo_mount_148 : decode prog_13_method_76_code 148 = .ok (.getfield 173, 3) := by decide +kernel
theorem d_Mo_mount_151 : decode prog_13_method_76_code 151 = .ok (.if_icmp .gt 38, 3) := by decide +kernel
theorem d_Mo_mount_189 : decode prog_13_method_76_code 189 = .ok (.iconst 1, 1) := by decide +kernel
theorem d_Mo_mount_190 : decode prog_13_method_76_code 190 = .ok (.istore_n 2, 1) := by decide +kernel
theorem d_Mo_mount_154 : decode prog_13_method_76_code 154 = .ok (.aload_n 0, 1) := by decide +kernel
theorem d_Mo_mount_155 : decode prog_13_method_76_code 155 = .ok (.getfield 28, 3) := by decide +kernel
theorem d_Mo_mount_158 : decode prog_13_method_76_code 158 = .ok (.iload_n 2, 1) := by decide +kernel
theorem d_Mo_mount_159 : decode prog_13_method_76_code 159 = .ok (.aload_n 0, 1) := by decide +kernel
theorem d_Mo_mount_160 : decode prog_13_method_76_code 160 = .ok (.getfield 28, 3) := by decide +kernel
theorem d_Mo_mount_163 : decode prog_13_method_76_code 163 = .ok (.iload_n 2, 1) := by decide +kernel
theorem d_Mo_mount_164 : decode prog_13_method_76_code 164 = .ok (.iaload, 1) := by decide +kernel
theorem d_Mo_mount_165 : decode prog_13_method_76_code 165 = .ok (.aload_n 0, 1) := by decide +kernel
theorem d_Mo_mount_166 : decode prog_13_method_76_code 166 = .ok (.getfield 192, 3) := by decide +kernel
theorem d_Mo_mount_169 : decode prog_13_method_76_code 169 = .ok (.if_icmp .le 7, 3) := by decide +kernel
theorem d_Mo_mount_176 : decode prog_13_method_76_code 176 = .ok (.aload_n 0, 1) := by decide +kernel
theorem d_Mo_mount_177 : decode prog_13_method_76_code 177 = .ok (.getfield 28, 3) := by decide +kernel
theorem d_Mo_mount_180 : decode prog_13_method_76_code 180 = .ok (.iload_n 2, 1) := by decide +kernel
theorem d_Mo_mount_181 : decode prog_13_method_76_code 181 = .ok (.iaload, 1) := by decide +kernel
theorem d_Mo_mount_172 : decode prog_13_method_76_code 172 = .ok (.iconst 0, 1) := by decide +kernel
theorem d_Mo_mount_173 : decode prog_13_method_76_code 173 = .ok (.goto 9, 3) := by decide +kernel
theorem d_Mo_mount_191 : decode prog_13_method_76_code 191 = .ok (.iload_n 2, 1) := by decide +kernel
theorem d_Mo_mount_192 : decode prog_13_method_76_code 192 = .ok (.aload_n 0, 1) := by decide +kernel
theorem d_Mo_mount_193 : decode prog_13_method_76_code 193 = .ok (.getfield 198, 3) := by decide +kernel
theorem d_Mo_mount_196 : decode prog_13_method_76_code 196 = .ok (.if_icmp .gt 38, 3) := by decide +kernel
theorem d_Mo_mount_234 : decode prog_13_method_76_code 234 = .ok (.aload_n 0, 1) := by decide +kernel
theorem d_Mo_mount_235 : decode prog_13_method_76_code 235 = .ok (.aload_n 0, 1) := by decide +kernel
theorem d_Mo_mount_236 : decode prog_13_method_76_code 236 = .ok (.getfield 201, 3) := by decide +kernel
theorem d_Mo_mount_239 : decode prog_13_method_76_code 239 = .ok (.putfield 321, 3) := by decide +kernel
theorem d_Mo_mount_242 : decode prog_13_method_76_code 242 = .ok (.aload_n 0, 1) := by decide +kernel
theorem d_Mo_mount_243 : decode prog_13_method_76_code 243 = .ok (.iconst 0, 1) := by decide +kernel
theorem d_Mo_mount_244 : decode prog_13_method_76_code 244 = .ok (.putfield 156, 3) := by decide +kernel
theorem d_Mo_mount_247 : decode prog_13_method_76_code 247 = .ok (.aload_n 0, 1) := by decide +kernel
theorem d_Mo_mount_248 : decode prog_13_method_76_code 248 = .ok (.getfield 192, 3) := by decide +kernel
theorem d_Mo_mount_251 : decode prog_13_method_76_code 251 = .ok (.ireturn, 1) := by decide +kernel
theorem d_Mo_mount_199 : decode prog_13_method_76_code 199 = .ok (.aload_n 0, 1) := by decide +kernel
theorem d_Mo_mount_200 : decode prog_13_method_76_code 200 = .ok (.getfield 67, 3) := by decide +kernel
theorem d_Mo_mount_203 : decode prog_13_method_76_code 203 = .ok (.iload_n 2, 1) := by decide +kernel
theorem d_Mo_mount_204 : decode prog_13_method_76_code 204 = .ok (.aload_n 0, 1) := by decide +kernel
theorem d_Mo_mount_205 : decode prog_13_method_76_code 205 = .ok (.getfield 67, 3) := by decide +kernel
theorem d_Mo_mount_208 : decode prog_13_method_76_code 208 = .ok (.iload_n 2, 1) := by decide +kernel
theorem d_Mo_mount_209 : decode prog_13_method_76_code 209 = .ok (.iaload, 1) := by decide +kernel
theorem d_Mo_mount_210 : decode prog_13_method_76_code 210 = .ok (.aload_n 0, 1) := by decide +kernel
theorem d_Mo_mount_211 : decode prog_13_method_76_code 211 = .ok (.getfield 192, 3) := by decide +kernel
theorem d_Mo_mount_214 : decode prog_13_method_76_code 214 = .ok (.if_icmp .le 7, 3) := by decide +kernel
theorem d_Mo_mount_221 : decode prog_13_method_76_code 221 = .ok (.aload_n 0, 1) := by decide +kernel
theorem d_Mo_mount_222 : decode prog_13_method_76_code 222 = .ok (.getfield 67, 3) := by decide +kernel
theorem d_Mo_mount_225 : decode prog_13_method_76_code 225 = .ok (.iload_n 2, 1) := by decide +kernel
theorem d_Mo_mount_226 : decode prog_13_method_76_code 226 = .ok (.iaload, 1) := by decide +kernel
theorem d_Mo_mount_217 : decode prog_13_method_76_code 217 = .ok (.iconst 0, 1) := by decide +kernel
theorem d_Mo_mount_218 : decode prog_13_method_76_code 218 = .ok (.goto 9, 3) := by decide +kernel
theorem d_Mo_mount_182 : decode prog_13_method_76_code 182 = .ok (.iastore, 1) := by decide +kernel
theorem d_Mo_mount_183 : decode prog_13_method_76_code 183 = .ok (.iinc 2 1, 3) := by decide +kernel
theorem d_Mo_mount_186 : decode prog_13_method_76_code 186 = .ok (.goto (-40), 3) := by decide +kernel
theorem d_Mo_mount_227 : decode prog_13_method_76_code 227 = .ok (.iastore, 1) := by decide +kernel
theorem d_Mo_mount_228 : decode prog_13_method_76_code 228 = .ok (.iinc 2 1, 3) := by decide +kernel
theorem d_Mo_mount_231 : decode prog_13_method_76_code 231 = .ok (.goto (-40), 3) := by decide +kernel
def wp_Mo_mount_227 (post : Int → MS → Prop) (k191 : Int → MS → Prop) (v2 : Int) (s0 : Int) (s1 : Int) (S : MS) : Prop := ixR s1 202 ∧ (∀ S_1 : MS, S_1 = ms_a S 27 s1 s0 → k191 (v2 + 1) S_1)
def wp_Mo_mount_191 (post : Int → MS → Prop) : Nat → Int → MS → Prop
  | 0, _, _ => False
  | n + 1, v2, S => inR v2 ∧ inR (S.1 25) ∧ ((S.1 25) < v2 → ((∀ S_1 : MS, S_1 = ms_i S 31 (S.1 30) → (∀ S_2 : MS, S_2 = ms_i S_1 2 0 → post (S_2.1 15) S_2)))) ∧ (¬ ((S.1 25) < v2) → (ixR v2 202 ∧ (inR (S.2 27 v2.toNat) ∧ inR (S.1 15) ∧ ((S.2 27 v2.toNat) ≤ (S.1 15) → (ixR v2 202 ∧ (wp_Mo_mount_227 post (wp_Mo_mount_191 post n) v2 (S.2 27 v2.toNat) v2 S))) ∧ (¬ ((S.2 27 v2.toNat) ≤ (S.1 15)) → wp_Mo_mount_227 post (wp_Mo_mount_191 post n) v2 0 v2 S))))
def wp_Mo_mount_182 (post : Int → MS → Prop) (k146 : Int → MS → Prop) (v2 : Int) (s0 : Int) (s1 : Int) (S : MS) : Prop := ixR s1 302 ∧ (∀ S_1 : MS, S_1 = ms_a S 12 s1 s0 → k146 (v2 + 1) S_1)
def wp_Mo_mount_146 (post : Int → MS → Prop) : Nat → Int → MS → Prop
  | 0, _, _ => False
  | n + 1, v2, S => inR v2 ∧ inR (S.1 7) ∧ ((S.1 7) < v2 → (∃ n0 : Nat, wp_Mo_mount_191 post n0 1 S)) ∧ (¬ ((S.1 7) < v2) → (ixR v2 302 ∧ (inR (S.2 12 v2.toNat) ∧ inR (S.1 15) ∧ ((S.2 12 v2.toNat) ≤ (S.1 15) → (ixR v2 302 ∧ (wp_Mo_mount_182 post (wp_Mo_mount_146 post n) v2 (S.2 12 v2.toNat) v2 S))) ∧ (¬ ((S.2 12 v2.toNat) ≤ (S.1 15)) → wp_Mo_mount_182 post (wp_Mo_mount_146 post n) v2 0 v2 S))))
def wp_Mo_mount_141 (post : Int → MS → Prop) (s0 : Int) (S : MS) : Prop := (∀ S_1 : MS, S_1 = ms_i S 30 s0 → ∃ n0 : Nat, wp_Mo_mount_146 post n0 1 S_1)
def wp_Mo_mount_123 (post : Int → MS → Prop) (v1 : Int) (s0 : Int) (S : MS) : Prop := (∀ S_1 : MS, S_1 = ms_i S 25 s0 → inR v1 ∧ (¬ (v1 = 0) → (ixR v1 601 ∧ (wp_Mo_mount_141 post (S_1.2 24 v1.toNat) S_1))) ∧ (v1 = 0 → wp_Mo_mount_141 post 0 S_1))
def wp_Mo_mount_105 (post : Int → MS → Prop) (v1 : Int) (s0 : Int) (S : MS) : Prop := (∀ S_1 : MS, S_1 = ms_i S 7 s0 → inR v1 ∧ (¬ (v1 = 0) → (ixR v1 601 ∧ (wp_Mo_mount_123 post v1 (S_1.2 23 v1.toNat) S_1))) ∧ (v1 = 0 → wp_Mo_mount_123 post v1 0 S_1))
def wp_Mo_mount_78 (post : Int → MS → Prop) (k52 : Int → Int → MS → Prop) (v2 : Int) (s0 : Int) (S : MS) : Prop := k52 s0 (v2 + 1) S
def wp_Mo_mount_52 (post : Int → MS → Prop) : Nat → Int → Int → MS → Prop
  | 0, _, _, _ => False
  | n + 1, v1, v2, S => inR v2 ∧ inR (S.1 15) ∧ ((S.1 15) < v2 → ((∀ S_1 : MS, S_1 = ms_i S 15 v1 → inR v1 ∧ (¬ (v1 = 0) → (ixR v1 601 ∧ (wp_Mo_mount_105 post v1 (S_1.2 22 v1.toNat) S_1))) ∧ (v1 = 0 → wp_Mo_mount_105 post v1 1 S_1)))) ∧ (¬ ((S.1 15) < v2) → (ixR v2 601 ∧ (inR (S.2 24 v2.toNat) ∧ inR (S.1 30) ∧ ((S.1 30) < (S.2 24 v2.toNat) → wp_Mo_mount_78 post (wp_Mo_mount_52 post n) v2 v1 S) ∧ (¬ ((S.1 30) < (S.2 24 v2.toNat)) → wp_Mo_mount_78 post (wp_Mo_mount_52 post n) v2 v2 S))))
def wp_Mo_mount_26 (post : Int → MS → Prop) (s0 : Int) (S : MS) : Prop := (∀ S_1 : MS, S_1 = ms_i S 0 s0 → inR (S_1.1 0) ∧ ((S_1.1 0) ≤ 0 → ((∀ S_2 : MS, S_2 = ms_i S_1 3 ((S_1.1 3) + 1) → ∃ n0 : Nat, wp_Mo_mount_52 post n0 0 1 S_2))) ∧ (¬ ((S_1.1 0) ≤ 0) → post 0 S_1))
def wp_Mo_mount (post : Int → MS → Prop)  (S : MS) : Prop := inR (S.1 1) ∧ (¬ ((S.1 1) = 0) → (inR (S.1 3) ∧ (¬ ((S.1 3) = 40) → wp_Mo_mount_26 post 0 S) ∧ ((S.1 3) = 40 → wp_Mo_mount_26 post 2 S))) ∧ ((S.1 1) = 0 → wp_Mo_mount_26 post 1 S)
set_option maxHeartbeats 4000000 in
set_option maxRecDepth 100000 in
theorem c_Mo_mount (l : Launch) {D : va_G} {h : Nat} {ad : Nat → Nat} {kc : Nat → ClassId} {post : Int → MS → Prop}  {S : MS} (hw : wp_Mo_mount post  S) : jMi l D h ad kc y_Mo_mount prog_13_method_76_code 3 (some .int) 0 0 S [] post := by
  refine j_moi (own := "LandBookModel") (by decide) rfl (Nat.le_of_ble_eq_true rfl) (fun X F K hret => ?_)
  have B191 : ∀ (n0 : Nat) (v2 : Int) (S : MS), wp_Mo_mount_191 post n0 v2 S → jat l D X 3 191 [(0, .ref h), (2, vi v2)] [] (mw h ad kc S) 0 0 := by
    intro n0
    induction n0 with
    | zero => intro v2 S hw; exact hw.elim
    | succ n191 ih191 =>
      have B227 : ∀ (v2 : Int) (s0 : Int) (s1 : Int) (S : MS), wp_Mo_mount_227 post (wp_Mo_mount_191 post n191) v2 s0 s1 S → jat l D X 3 227 [(0, .ref h), (2, vi v2)] [vi s0, vi s1, .ref (ad 27)] (mw h ad kc S) 0 0 := by
        intro v2 s0 s1 S hw
        unfold wp_Mo_mount_227 at hw
        obtain ⟨hc1, hw⟩ := hw
        refine m_iast F K 27 19 rfl rfl hc1 d_Mo_mount_227 (fun S_1 e_S_1 => ?_)
        have hw := hw S_1 e_S_1
        refine j_iinc F 1 [(2, vi (v2 + 1)), (0, .ref h)] d_Mo_mount_228 rfl (by decide) rfl ?_
        refine j_goto F 191 d_Mo_mount_231 rfl ?_
        refine j_sub [1, 0] rfl ?_
        exact ih191 _ _ hw
      intro v2 S hw
      unfold wp_Mo_mount_191 at hw
      refine j_iload_n F 1 d_Mo_mount_191 rfl ?_
      refine j_aload_n F 0 d_Mo_mount_192 rfl ?_
      refine m_geti F K 25 (by decide) rfl tj_201 rfl d_Mo_mount_193 ?_
      obtain ⟨hc1, hc2, hwt, hwf⟩ := hw
      refine j_icmp_gt F 234 hc1 hc2 d_Mo_mount_196 rfl (fun hh => ?_) (fun hh => ?_)
      · have hw := hwt hh
        refine j_aload_n F 0 d_Mo_mount_234 rfl ?_
        refine j_aload_n F 0 d_Mo_mount_235 rfl ?_
        refine m_geti F K 30 (by decide) rfl tj_202 rfl d_Mo_mount_236 ?_
        refine m_puti F K 31 (by decide) rfl tj_329 rfl rfl (ty := .int) (by decide +kernel) rfl rfl d_Mo_mount_239 (fun S_1 e_S_1 => ?_)
        have hw := hw S_1 e_S_1
        refine j_aload_n F 0 d_Mo_mount_242 rfl ?_
        refine j_iconst F d_Mo_mount_243 ?_
        refine m_puti F K 2 (by decide) rfl tj_144 rfl rfl (ty := .boolean) (by decide +kernel) rfl rfl d_Mo_mount_244 (fun S_2 e_S_2 => ?_)
        have hw := hw S_2 e_S_2
        refine j_aload_n F 0 d_Mo_mount_247 rfl ?_
        refine m_geti F K 15 (by decide) rfl tj_194 rfl d_Mo_mount_248 ?_
        exact hret _ _ _ _ hw d_Mo_mount_251
      · have hw := hwf hh
        refine j_aload_n F 0 d_Mo_mount_199 rfl ?_
        refine m_geta F K 27 (by decide) (by decide) tj_170 rfl d_Mo_mount_200 ?_
        refine j_iload_n F 1 d_Mo_mount_203 rfl ?_
        refine j_aload_n F 0 d_Mo_mount_204 rfl ?_
        refine m_geta F K 27 (by decide) (by decide) tj_170 rfl d_Mo_mount_205 ?_
        refine j_iload_n F 1 d_Mo_mount_208 rfl ?_
        obtain ⟨hc1, hw⟩ := hw
        refine m_iald F K 27 19 rfl rfl hc1 d_Mo_mount_209 ?_
        refine j_aload_n F 0 d_Mo_mount_210 rfl ?_
        refine m_geti F K 15 (by decide) rfl tj_194 rfl d_Mo_mount_211 ?_
        obtain ⟨hc1, hc2, hwt, hwf⟩ := hw
        refine j_icmp_le F 221 hc1 hc2 d_Mo_mount_214 rfl (fun hh => ?_) (fun hh => ?_)
        · have hw := hwt hh
          refine j_aload_n F 0 d_Mo_mount_221 rfl ?_
          refine m_geta F K 27 (by decide) (by decide) tj_170 rfl d_Mo_mount_222 ?_
          refine j_iload_n F 1 d_Mo_mount_225 rfl ?_
          obtain ⟨hc1, hw⟩ := hw
          refine m_iald F K 27 19 rfl rfl hc1 d_Mo_mount_226 ?_
          exact B227 _ _ _ _ hw
        · have hw := hwf hh
          refine j_iconst F d_Mo_mount_217 ?_
          refine j_goto F 227 d_Mo_mount_218 rfl ?_
          exact B227 _ _ _ _ hw
  have B146 : ∀ (n0 : Nat) (v2 : Int) (S : MS), wp_Mo_mount_146 post n0 v2 S → jat l D X 3 146 [(0, .ref h), (2, vi v2)] [] (mw h ad kc S) 0 0 := by
    intro n0
    induction n0 with
    | zero => intro v2 S hw; exact hw.elim
    | succ n146 ih146 =>
      have B182 : ∀ (v2 : Int) (s0 : Int) (s1 : Int) (S : MS), wp_Mo_mount_182 post (wp_Mo_mount_146 post n146) v2 s0 s1 S → jat l D X 3 182 [(0, .ref h), (2, vi v2)] [vi s0, vi s1, .ref (ad 12)] (mw h ad kc S) 0 0 := by
        intro v2 s0 s1 S hw
        unfold wp_Mo_mount_182 at hw
        obtain ⟨hc1, hw⟩ := hw
        refine m_iast F K 12 6 rfl rfl hc1 d_Mo_mount_182 (fun S_1 e_S_1 => ?_)
        have hw := hw S_1 e_S_1
        refine j_iinc F 1 [(2, vi (v2 + 1)), (0, .ref h)] d_Mo_mount_183 rfl (by decide) rfl ?_
        refine j_goto F 146 d_Mo_mount_186 rfl ?_
        refine j_sub [1, 0] rfl ?_
        exact ih146 _ _ hw
      intro v2 S hw
      unfold wp_Mo_mount_146 at hw
      refine j_iload_n F 1 d_Mo_mount_146 rfl ?_
      refine j_aload_n F 0 d_Mo_mount_147 rfl ?_
      refine m_geti F K 7 (by decide) rfl tj_157 rfl d_Mo_mount_148 ?_
      obtain ⟨hc1, hc2, hwt, hwf⟩ := hw
      refine j_icmp_gt F 189 hc1 hc2 d_Mo_mount_151 rfl (fun hh => ?_) (fun hh => ?_)
      · have hw := hwt hh
        refine j_iconst F d_Mo_mount_189 ?_
        refine j_istore_n F [(2, vi 1), (0, .ref h)] d_Mo_mount_190 (by decide) rfl ?_
        refine j_sub [1, 0] rfl ?_
        obtain ⟨n0, hw⟩ := hw
        exact B191 n0 _ _ hw
      · have hw := hwf hh
        refine j_aload_n F 0 d_Mo_mount_154 rfl ?_
        refine m_geta F K 12 (by decide) (by decide) tj_168 rfl d_Mo_mount_155 ?_
        refine j_iload_n F 1 d_Mo_mount_158 rfl ?_
        refine j_aload_n F 0 d_Mo_mount_159 rfl ?_
        refine m_geta F K 12 (by decide) (by decide) tj_168 rfl d_Mo_mount_160 ?_
        refine j_iload_n F 1 d_Mo_mount_163 rfl ?_
        obtain ⟨hc1, hw⟩ := hw
        refine m_iald F K 12 6 rfl rfl hc1 d_Mo_mount_164 ?_
        refine j_aload_n F 0 d_Mo_mount_165 rfl ?_
        refine m_geti F K 15 (by decide) rfl tj_194 rfl d_Mo_mount_166 ?_
        obtain ⟨hc1, hc2, hwt, hwf⟩ := hw
        refine j_icmp_le F 176 hc1 hc2 d_Mo_mount_169 rfl (fun hh => ?_) (fun hh => ?_)
        · have hw := hwt hh
          refine j_aload_n F 0 d_Mo_mount_176 rfl ?_
          refine m_geta F K 12 (by decide) (by decide) tj_168 rfl d_Mo_mount_177 ?_
          refine j_iload_n F 1 d_Mo_mount_180 rfl ?_
          obtain ⟨hc1, hw⟩ := hw
          refine m_iald F K 12 6 rfl rfl hc1 d_Mo_mount_181 ?_
          exact B182 _ _ _ _ hw
        · have hw := hwf hh
          refine j_iconst F d_Mo_mount_172 ?_
          refine j_goto F 182 d_Mo_mount_173 rfl ?_
          exact B182 _ _ _ _ hw
  have B141 : ∀ (s0 : Int) (S : MS), wp_Mo_mount_141 post s0 S → jat l D X 3 141 [(0, .ref h)] [vi s0, .ref h] (mw h ad kc S) 0 0 := by
    intro s0 S hw
    unfold wp_Mo_mount_141 at hw
    refine m_puti F K 30 (by decide) rfl tj_202 rfl rfl (ty := .int) (by decide +kernel) rfl rfl d_Mo_mount_141 (fun S_1 e_S_1 => ?_)
    have hw := hw S_1 e_S_1
    refine j_iconst F d_Mo_mount_144 ?_
    refine j_istore_n F [(2, vi 1), (0, .ref h)] d_Mo_mount_145 (by decide) rfl ?_
    refine j_sub [1, 0] rfl ?_
    obtain ⟨n0, hw⟩ := hw
    exact B146 n0 _ _ hw
  have B123 : ∀ (v1 : Int) (s0 : Int) (S : MS), wp_Mo_mount_123 post v1 s0 S → jat l D X 3 123 [(0, .ref h), (1, vi v1)] [vi s0, .ref h] (mw h ad kc S) 0 0 := by
    intro v1 s0 S hw
    unfold wp_Mo_mount_123 at hw
    refine m_puti F K 25 (by decide) rfl tj_201 rfl rfl (ty := .int) (by decide +kernel) rfl rfl d_Mo_mount_123 (fun S_1 e_S_1 => ?_)
    have hw := hw S_1 e_S_1
    refine j_aload_n F 0 d_Mo_mount_126 rfl ?_
    refine j_iload_n F 1 d_Mo_mount_127 rfl ?_
    obtain ⟨hc1, hwt, hwf⟩ := hw
    refine j_if_ne F 135 hc1 d_Mo_mount_128 rfl (fun hh => ?_) (fun hh => ?_)
    · have hw := hwt hh
      refine j_aload_n F 0 d_Mo_mount_135 rfl ?_
      refine m_geta F K 24 (by decide) (by decide) tj_217 rfl d_Mo_mount_136 ?_
      refine j_iload_n F 1 d_Mo_mount_139 rfl ?_
      obtain ⟨hc1, hw⟩ := hw
      refine m_iald F K 24 17 rfl rfl hc1 d_Mo_mount_140 ?_
      refine j_sub [0] rfl ?_
      exact B141 _ _ hw
    · have hw := hwf hh
      refine j_iconst F d_Mo_mount_131 ?_
      refine j_goto F 141 d_Mo_mount_132 rfl ?_
      refine j_sub [0] rfl ?_
      exact B141 _ _ hw
  have B105 : ∀ (v1 : Int) (s0 : Int) (S : MS), wp_Mo_mount_105 post v1 s0 S → jat l D X 3 105 [(0, .ref h), (1, vi v1)] [vi s0, .ref h] (mw h ad kc S) 0 0 := by
    intro v1 s0 S hw
    unfold wp_Mo_mount_105 at hw
    refine m_puti F K 7 (by decide) rfl tj_157 rfl rfl (ty := .int) (by decide +kernel) rfl rfl d_Mo_mount_105 (fun S_1 e_S_1 => ?_)
    have hw := hw S_1 e_S_1
    refine j_aload_n F 0 d_Mo_mount_108 rfl ?_
    refine j_iload_n F 1 d_Mo_mount_109 rfl ?_
    obtain ⟨hc1, hwt, hwf⟩ := hw
    refine j_if_ne F 117 hc1 d_Mo_mount_110 rfl (fun hh => ?_) (fun hh => ?_)
    · have hw := hwt hh
      refine j_aload_n F 0 d_Mo_mount_117 rfl ?_
      refine m_geta F K 23 (by decide) (by decide) tj_216 rfl d_Mo_mount_118 ?_
      refine j_iload_n F 1 d_Mo_mount_121 rfl ?_
      obtain ⟨hc1, hw⟩ := hw
      refine m_iald F K 23 16 rfl rfl hc1 d_Mo_mount_122 ?_
      exact B123 _ _ _ hw
    · have hw := hwf hh
      refine j_iconst F d_Mo_mount_113 ?_
      refine j_goto F 123 d_Mo_mount_114 rfl ?_
      exact B123 _ _ _ hw
  have B52 : ∀ (n0 : Nat) (v1 : Int) (v2 : Int) (S : MS), wp_Mo_mount_52 post n0 v1 v2 S → jat l D X 3 52 [(0, .ref h), (1, vi v1), (2, vi v2)] [] (mw h ad kc S) 0 0 := by
    intro n0
    induction n0 with
    | zero => intro v1 v2 S hw; exact hw.elim
    | succ n52 ih52 =>
      have B78 : ∀ (v2 : Int) (s0 : Int) (S : MS), wp_Mo_mount_78 post (wp_Mo_mount_52 post n52) v2 s0 S → jat l D X 3 78 [(0, .ref h), (2, vi v2)] [vi s0] (mw h ad kc S) 0 0 := by
        intro v2 s0 S hw
        unfold wp_Mo_mount_78 at hw
        refine j_istore_n F [(1, vi s0), (0, .ref h), (2, vi v2)] d_Mo_mount_78 (by decide) rfl ?_
        refine j_iinc F 2 [(2, vi (v2 + 1)), (1, vi s0), (0, .ref h)] d_Mo_mount_79 rfl (by decide) rfl ?_
        refine j_goto F 52 d_Mo_mount_82 rfl ?_
        refine j_sub [2, 1, 0] rfl ?_
        exact ih52 _ _ _ hw
      intro v1 v2 S hw
      unfold wp_Mo_mount_52 at hw
      refine j_iload_n F 2 d_Mo_mount_52 rfl ?_
      refine j_aload_n F 0 d_Mo_mount_53 rfl ?_
      refine m_geti F K 15 (by decide) rfl tj_194 rfl d_Mo_mount_54 ?_
      obtain ⟨hc1, hc2, hwt, hwf⟩ := hw
      refine j_icmp_gt F 85 hc1 hc2 d_Mo_mount_57 rfl (fun hh => ?_) (fun hh => ?_)
      · have hw := hwt hh
        refine j_aload_n F 0 d_Mo_mount_85 rfl ?_
        refine j_iload_n F 1 d_Mo_mount_86 rfl ?_
        refine m_puti F K 15 (by decide) rfl tj_194 rfl rfl (ty := .int) (by decide +kernel) rfl rfl d_Mo_mount_87 (fun S_1 e_S_1 => ?_)
        have hw := hw S_1 e_S_1
        refine j_aload_n F 0 d_Mo_mount_90 rfl ?_
        refine j_iload_n F 1 d_Mo_mount_91 rfl ?_
        obtain ⟨hc1, hwt, hwf⟩ := hw
        refine j_if_ne F 99 hc1 d_Mo_mount_92 rfl (fun hh => ?_) (fun hh => ?_)
        · have hw := hwt hh
          refine j_aload_n F 0 d_Mo_mount_99 rfl ?_
          refine m_geta F K 22 (by decide) (by decide) tj_215 rfl d_Mo_mount_100 ?_
          refine j_iload_n F 1 d_Mo_mount_103 rfl ?_
          obtain ⟨hc1, hw⟩ := hw
          refine m_iald F K 22 15 rfl rfl hc1 d_Mo_mount_104 ?_
          refine j_sub [0, 1] rfl ?_
          exact B105 _ _ _ hw
        · have hw := hwf hh
          refine j_iconst F d_Mo_mount_95 ?_
          refine j_goto F 105 d_Mo_mount_96 rfl ?_
          refine j_sub [0, 1] rfl ?_
          exact B105 _ _ _ hw
      · have hw := hwf hh
        refine j_aload_n F 0 d_Mo_mount_60 rfl ?_
        refine m_geta F K 24 (by decide) (by decide) tj_217 rfl d_Mo_mount_61 ?_
        refine j_iload_n F 2 d_Mo_mount_64 rfl ?_
        obtain ⟨hc1, hw⟩ := hw
        refine m_iald F K 24 17 rfl rfl hc1 d_Mo_mount_65 ?_
        refine j_aload_n F 0 d_Mo_mount_66 rfl ?_
        refine m_geti F K 30 (by decide) rfl tj_202 rfl d_Mo_mount_67 ?_
        obtain ⟨hc1, hc2, hwt, hwf⟩ := hw
        refine j_icmp_gt F 77 hc1 hc2 d_Mo_mount_70 rfl (fun hh => ?_) (fun hh => ?_)
        · have hw := hwt hh
          refine j_iload_n F 1 d_Mo_mount_77 rfl ?_
          refine j_sub [0, 2] rfl ?_
          exact B78 _ _ _ hw
        · have hw := hwf hh
          refine j_iload_n F 2 d_Mo_mount_73 rfl ?_
          refine j_goto F 78 d_Mo_mount_74 rfl ?_
          refine j_sub [0, 2] rfl ?_
          exact B78 _ _ _ hw
  have B26 : ∀ (s0 : Int) (S : MS), wp_Mo_mount_26 post s0 S → jat l D X 3 26 [(0, .ref h)] [vi s0, .ref h] (mw h ad kc S) 0 0 := by
    intro s0 S hw
    unfold wp_Mo_mount_26 at hw
    refine m_puti F K 0 (by decide) rfl tj_107 rfl rfl (ty := .int) (by decide +kernel) rfl rfl d_Mo_mount_26 (fun S_1 e_S_1 => ?_)
    have hw := hw S_1 e_S_1
    refine j_aload_n F 0 d_Mo_mount_29 rfl ?_
    refine m_geti F K 0 (by decide) rfl tj_107 rfl d_Mo_mount_30 ?_
    obtain ⟨hc1, hwt, hwf⟩ := hw
    refine j_if_le F 38 hc1 d_Mo_mount_33 rfl (fun hh => ?_) (fun hh => ?_)
    · have hw := hwt hh
      refine j_aload_n F 0 d_Mo_mount_38 rfl ?_
      refine j_dup F rfl d_Mo_mount_39 ?_
      refine m_geti F K 3 (by decide) rfl tj_330 rfl d_Mo_mount_40 ?_
      refine j_iconst F d_Mo_mount_43 ?_
      refine j_iadd F d_Mo_mount_44 ?_
      refine m_puti F K 3 (by decide) rfl tj_330 rfl rfl (ty := .int) (by decide +kernel) rfl rfl d_Mo_mount_45 (fun S_2 e_S_2 => ?_)
      have hw := hw S_2 e_S_2
      refine j_iconst F d_Mo_mount_48 ?_
      refine j_istore_n F [(1, vi 0), (0, .ref h)] d_Mo_mount_49 (by decide) rfl ?_
      refine j_iconst F d_Mo_mount_50 ?_
      refine j_istore_n F [(2, vi 1), (1, vi 0), (0, .ref h)] d_Mo_mount_51 (by decide) rfl ?_
      refine j_sub [2, 1, 0] rfl ?_
      obtain ⟨n0, hw⟩ := hw
      exact B52 n0 _ _ _ hw
    · have hw := hwf hh
      refine j_iconst F d_Mo_mount_36 ?_
      exact hret _ _ _ _ hw d_Mo_mount_37
  unfold wp_Mo_mount at hw
  show jat l D X 3 0 [(0, .ref h)] [] (mw h ad kc S) 0 0
  refine j_aload_n F 0 d_Mo_mount_0 rfl ?_
  refine j_aload_n F 0 d_Mo_mount_1 rfl ?_
  refine m_geti F K 1 (by decide) rfl tj_143 rfl d_Mo_mount_2 ?_
  obtain ⟨hc1, hwt, hwf⟩ := hw
  refine j_if_ne F 12 hc1 d_Mo_mount_5 rfl (fun hh => ?_) (fun hh => ?_)
  · have hw := hwt hh
    refine j_aload_n F 0 d_Mo_mount_12 rfl ?_
    refine m_geti F K 3 (by decide) rfl tj_330 rfl d_Mo_mount_13 ?_
    refine j_bipush F d_Mo_mount_16 (j_bip (by decide) (by decide)) ?_
    obtain ⟨hc1, hwt, hwf⟩ := hw
    refine j_icmp_ne F 25 hc1 ⟨by decide, by decide⟩ d_Mo_mount_18 rfl (fun hh => ?_) (fun hh => ?_)
    · have hw := hwt hh
      refine j_iconst F d_Mo_mount_25 ?_
      exact B26 _ _ hw
    · have hw := hwf hh
      refine j_iconst F d_Mo_mount_21 ?_
      refine j_goto F 26 d_Mo_mount_22 rfl ?_
      exact B26 _ _ hw
  · have hw := hwf hh
    refine j_iconst F d_Mo_mount_8 ?_
    refine j_goto F 26 d_Mo_mount_9 rfl ?_
    exact B26 _ _ hw
