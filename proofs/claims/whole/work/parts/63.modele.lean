abbrev y_Mo_inB : MethodName := ⟨"LandBookModel", "inB", "(II)I"⟩
theorem q_Mo_inB : y_Mo_inB.cls = "LandBookModel" ∧ y_Mo_inB.cls ≠ "java/lang/invoke/MethodHandle" ∧ y_Mo_inB.cls ≠ "java/lang/invoke/VarHandle" ∧ (parseMethodDescriptor y_Mo_inB.desc).map (fun d => d.parameters.length) = some 2 := by decide +kernel
theorem d_Mo_inB_0 : decode prog_13_method_50_code 0 = .ok (.iconst (-1), 1) := by decide +kernel
theorem d_Mo_inB_1 : decode prog_13_method_50_code 1 = .ok (.istore_n 3, 1) := by decide +kernel
theorem d_Mo_inB_2 : decode prog_13_method_50_code 2 = .ok (.iconst 0, 1) := by decide +kernel
theorem d_Mo_inB_3 : decode prog_13_method_50_code 3 = .ok (.istore 4, 2) := by decide +kernel
theorem d_Mo_inB_5 : decode prog_13_method_50_code 5 = .ok (.iload 4, 2) := by decide +kernel
theorem d_Mo_inB_7 : decode prog_13_method_50_code 7 = .ok (.aload_n 0, 1) := by decide +kernel
theorem d_Mo_inB_8 : decode prog_13_method_50_code 8 = .ok (.getfield 282, 3) := by decide +kernel
theorem d_Mo_inB_11 : decode prog_13_method_50_code 11 = .ok (.if_icmp .ge 38, 3) := by decide +kernel
theorem d_Mo_inB_49 : decode prog_13_method_50_code 49 = .ok (.iload_n 3, 1) := by decide +kernel
theorem d_Mo_inB_50 : decode prog_13_method_50_code 50 = .ok (.ireturn, 1) := by decide +kernel
theorem d_Mo_inB_14 : decode prog_13_method_50_code 14 = .ok (.aload_n 0, 1) := by decide +kernel
theorem d_Mo_inB_15 : decode prog_13_method_50_code 15 = .ok (.getfield 92, 3) := by decide +kernel
theorem d_Mo_inB_18 : decode prog_13_method_50_code 18 = .ok (.iload 4, 2) := by decide +kernel
theorem d_Mo_inB_20 : decode prog_13_method_50_code 20 = .ok (.iaload, 1) := by decide +kernel
theorem d_Mo_inB_21 : decode prog_13_method_50_code 21 = .ok (.iload_n 1, 1) := by decide +kernel
theorem d_Mo_inB_22 : decode prog_13_method_50_code 22 = .ok (.if_icmp .ne 19, 3) := by decide +kernel
theorem d_Mo_inB_41 : decode prog_13_method_50_code 41 = .ok (.iload_n 3, 1) := by decide +kernel
theorem d_Mo_inB_25 : decode prog_13_method_50_code 25 = .ok (.aload_n 0, 1) := by decide +kernel
theorem d_Mo_inB_26 : decode prog_13_method_50_code 26 = .ok (.getfield 95, 3) := by decide +kernel
theorem d_Mo_inB_29 : decode prog_13_method_50_code 29 = .ok (.iload 4, 2) := by decide +kernel
theorem d_Mo_inB_31 : decode prog_13_method_50_code 31 = .ok (.iaload, 1) := by decide +kernel
theorem d_Mo_inB_32 : decode prog_13_method_50_code 32 = .ok (.iload_n 2, 1) := by decide +kernel
theorem d_Mo_inB_33 : decode prog_13_method_50_code 33 = .ok (.if_icmp .ne 8, 3) := by decide +kernel
theorem d_Mo_inB_36 : decode prog_13_method_50_code 36 = .ok (.iload 4, 2) := by decide +kernel
theorem d_Mo_inB_38 : decode prog_13_method_50_code 38 = .ok (.goto 4, 3) := by decide +kernel
theorem d_Mo_inB_42 : decode prog_13_method_50_code 42 = .ok (.istore_n 3, 1) := by decide +kernel
theorem d_Mo_inB_43 : decode prog_13_method_50_code 43 = .ok (.iinc 4 1, 3) := by decide +kernel
theorem d_Mo_inB_46 : decode prog_13_method_50_code 46 = .ok (.goto (-41), 3) := by decide +kernel
def wp_Mo_inB_42 (post : Int → MS → Prop) (k5 : Int → Int → Int → Int → MS → Prop) (v1 : Int) (v2 : Int) (v4 : Int) (s0 : Int) (S : MS) : Prop := k5 v1 v2 s0 (v4 + 1) S
def wp_Mo_inB_5 (post : Int → MS → Prop) : Nat → Int → Int → Int → Int → MS → Prop
  | 0, _, _, _, _, _ => False
  | n + 1, v1, v2, v3, v4, S => inR v4 ∧ inR (S.1 39) ∧ ((S.1 39) ≤ v4 → post v3 S) ∧ (¬ ((S.1 39) ≤ v4) → (ixR v4 400 ∧ (inR (S.2 40 v4.toNat) ∧ inR v1 ∧ (¬ ((S.2 40 v4.toNat) = v1) → wp_Mo_inB_42 post (wp_Mo_inB_5 post n) v1 v2 v4 v3 S) ∧ ((S.2 40 v4.toNat) = v1 → (ixR v4 400 ∧ (inR (S.2 41 v4.toNat) ∧ inR v2 ∧ (¬ ((S.2 41 v4.toNat) = v2) → wp_Mo_inB_42 post (wp_Mo_inB_5 post n) v1 v2 v4 v3 S) ∧ ((S.2 41 v4.toNat) = v2 → wp_Mo_inB_42 post (wp_Mo_inB_5 post n) v1 v2 v4 v4 S)))))))
def wp_Mo_inB (post : Int → MS → Prop) (v1 : Int) (v2 : Int) (S : MS) : Prop := ∃ n0 : Nat, wp_Mo_inB_5 post n0 v1 v2 (-1) 0 S
set_option maxHeartbeats 4000000 in
set_option maxRecDepth 100000 in
theorem c_Mo_inB (l : Launch) {D : va_G} {h : Nat} {ad : Nat → Nat} {kc : Nat → ClassId} {post : Int → MS → Prop} {v1 : Int} {v2 : Int} {S : MS} (hw : wp_Mo_inB post v1 v2 S) : jMi l D h ad kc y_Mo_inB prog_13_method_50_code 5 (some .int) 0 0 S [vi v1, vi v2] post := by
  refine j_moi (own := "LandBookModel") (by decide) rfl (Nat.le_of_ble_eq_true rfl) (fun X F K hret => ?_)
  have B5 : ∀ (n0 : Nat) (v1 : Int) (v2 : Int) (v3 : Int) (v4 : Int) (S : MS), wp_Mo_inB_5 post n0 v1 v2 v3 v4 S → jat l D X 5 5 [(0, .ref h), (1, vi v1), (2, vi v2), (3, vi v3), (4, vi v4)] [] (mw h ad kc S) 0 0 := by
    intro n0
    induction n0 with
    | zero => intro v1 v2 v3 v4 S hw; exact hw.elim
    | succ n5 ih5 =>
      have B42 : ∀ (v1 : Int) (v2 : Int) (v4 : Int) (s0 : Int) (S : MS), wp_Mo_inB_42 post (wp_Mo_inB_5 post n5) v1 v2 v4 s0 S → jat l D X 5 42 [(0, .ref h), (1, vi v1), (2, vi v2), (4, vi v4)] [vi s0] (mw h ad kc S) 0 0 := by
        intro v1 v2 v4 s0 S hw
        unfold wp_Mo_inB_42 at hw
        refine j_istore_n F [(3, vi s0), (0, .ref h), (1, vi v1), (2, vi v2), (4, vi v4)] d_Mo_inB_42 (by decide) rfl ?_
        refine j_iinc F 4 [(4, vi (v4 + 1)), (3, vi s0), (0, .ref h), (1, vi v1), (2, vi v2)] d_Mo_inB_43 rfl (by decide) rfl ?_
        refine j_goto F 5 d_Mo_inB_46 rfl ?_
        refine j_sub [2, 3, 4, 1, 0] rfl ?_
        exact ih5 _ _ _ _ _ hw
      intro v1 v2 v3 v4 S hw
      unfold wp_Mo_inB_5 at hw
      refine j_iload F 4 d_Mo_inB_5 rfl ?_
      refine j_aload_n F 0 d_Mo_inB_7 rfl ?_
      refine m_geti F K 39 (by decide) rfl tj_280 rfl d_Mo_inB_8 ?_
      obtain ⟨hc1, hc2, hwt, hwf⟩ := hw
      refine j_icmp_ge F 49 hc1 hc2 d_Mo_inB_11 rfl (fun hh => ?_) (fun hh => ?_)
      · have hw := hwt hh
        refine j_iload_n F 3 d_Mo_inB_49 rfl ?_
        exact hret _ _ _ _ hw d_Mo_inB_50
      · have hw := hwf hh
        refine j_aload_n F 0 d_Mo_inB_14 rfl ?_
        refine m_geta F K 40 (by decide) (by decide) tj_283 rfl d_Mo_inB_15 ?_
        refine j_iload F 4 d_Mo_inB_18 rfl ?_
        obtain ⟨hc1, hw⟩ := hw
        refine m_iald F K 40 27 rfl rfl hc1 d_Mo_inB_20 ?_
        refine j_iload_n F 1 d_Mo_inB_21 rfl ?_
        obtain ⟨hc1, hc2, hwt, hwf⟩ := hw
        refine j_icmp_ne F 41 hc1 hc2 d_Mo_inB_22 rfl (fun hh => ?_) (fun hh => ?_)
        · have hw := hwt hh
          refine j_iload_n F 3 d_Mo_inB_41 rfl ?_
          refine j_sub [0, 1, 2, 4] rfl ?_
          exact B42 _ _ _ _ _ hw
        · have hw := hwf hh
          refine j_aload_n F 0 d_Mo_inB_25 rfl ?_
          refine m_geta F K 41 (by decide) (by decide) tj_284 rfl d_Mo_inB_26 ?_
          refine j_iload F 4 d_Mo_inB_29 rfl ?_
          obtain ⟨hc1, hw⟩ := hw
          refine m_iald F K 41 28 rfl rfl hc1 d_Mo_inB_31 ?_
          refine j_iload_n F 2 d_Mo_inB_32 rfl ?_
          obtain ⟨hc1, hc2, hwt, hwf⟩ := hw
          refine j_icmp_ne F 41 hc1 hc2 d_Mo_inB_33 rfl (fun hh => ?_) (fun hh => ?_)
          · have hw := hwt hh
            refine j_iload_n F 3 d_Mo_inB_41 rfl ?_
            refine j_sub [0, 1, 2, 4] rfl ?_
            exact B42 _ _ _ _ _ hw
          · have hw := hwf hh
            refine j_iload F 4 d_Mo_inB_36 rfl ?_
            refine j_goto F 42 d_Mo_inB_38 rfl ?_
            refine j_sub [0, 1, 2, 4] rfl ?_
            exact B42 _ _ _ _ _ hw
  unfold wp_Mo_inB at hw
  show jat l D X 5 0 [(0, .ref h), (1, vi v1), (2, vi v2)] [] (mw h ad kc S) 0 0
  refine j_iconst F d_Mo_inB_0 ?_
  refine j_istore_n F [(3, vi (-1)), (0, .ref h), (1, vi v1), (2, vi v2)] d_Mo_inB_1 (by decide) rfl ?_
  refine j_iconst F d_Mo_inB_2 ?_
  refine j_istore F [(4, vi 0), (3, vi (-1)), (0, .ref h), (1, vi v1), (2, vi v2)] d_Mo_inB_3 (by decide) rfl ?_
  refine j_sub [2, 3, 4, 1, 0] rfl ?_
  obtain ⟨n0, hw⟩ := hw
  exact B5 n0 _ _ _ _ _ hw
theorem tj_287 : (Jvm.Cond.methodLink "LandBookModel" (285 : Nat) ({ cls := "LandBookModel", name := "inB", desc := "(II)I" } : Jvm.MethodName)) ∈ tw_G := tw_in (List.mem_of_getElem? (i := 1370) (by decide +kernel)) rfl
theorem tj_288 : (Jvm.Cond.instanceMethod ({ cls := "LandBookModel", name := "inB", desc := "(II)I" } : Jvm.MethodName)) ∈ tw_G := tw_in (List.mem_of_getElem? (i := 1372) (by decide +kernel)) rfl
theorem tj_289 : (Jvm.Cond.selects "LandBookModel" ⟨"LandBookModel", "inB", "(II)I"⟩ ⟨"LandBookModel", "inB", "(II)I"⟩) ∈ tw_G := tw_in (List.mem_of_getElem? (i := 54) (by decide +kernel)) rfl
theorem tj_290 : (Jvm.Cond.code ({ cls := "LandBookModel", name := "inB", desc := "(II)I" } : Jvm.MethodName) prog_13_method_50_code (5 : Nat) (Option.some Jvm.ClassFile.FieldType.int)) ∈ tw_G := tw_in (List.mem_of_getElem? (i := 1373) (by decide +kernel)) rfl
abbrev y_Mo_isCommon : MethodName := ⟨"LandBookModel", "isCommon", "(I)Z"⟩
theorem q_Mo_isCommon : y_Mo_isCommon.cls = "LandBookModel" ∧ y_Mo_isCommon.cls ≠ "java/lang/invoke/MethodHandle" ∧ y_Mo_isCommon.cls ≠ "java/lang/invoke/VarHandle" ∧ (parseMethodDescriptor y_Mo_isCommon.desc).map (fun d => d.parameters.length) = some 1 := by decide +kernel
theorem d_Mo_isCommon_0 : decode prog_13_method_51_code 0 = .ok (.iload_n 1, 1) := by decide +kernel
theorem d_Mo_isCommon_1 : decode prog_13_method_51_code 1 = .ok (.iconst 1, 1) := by decide +kernel
theorem d_Mo_isCommon_2 : decode prog_13_method_51_code 2 = .ok (.iadd, 1) := by decide +kernel
theorem d_Mo_isCommon_3 : decode prog_13_method_51_code 3 = .ok (.aload_n 0, 1) := by decide +kernel
theorem d_Mo_isCommon_4 : decode prog_13_method_51_code 4 = .ok (.getfield 279, 3) := by decide +kernel
theorem d_Mo_isCommon_7 : decode prog_13_method_51_code 7 = .ok (.irem, 1) := by decide +kernel
theorem d_Mo_isCommon_8 : decode prog_13_method_51_code 8 = .ok (.istore_n 2, 1) := by decide +kernel
theorem d_Mo_isCommon_9 : decode prog_13_method_51_code 9 = .ok (.aload_n 0, 1) := by decide +kernel
theorem d_Mo_isCommon_10 : decode prog_13_method_51_code 10 = .ok (.aload_n 0, 1) := by decide +kernel
theorem d_Mo_isCommon_11 : decode prog_13_method_51_code 11 = .ok (.getfield 86, 3) := by decide +kernel
theorem d_Mo_isCommon_14 : decode prog_13_method_51_code 14 = .ok (.iload_n 2, 1) := by decide +kernel
theorem d_Mo_isCommon_15 : decode prog_13_method_51_code 15 = .ok (.iaload, 1) := by decide +kernel
theorem d_Mo_isCommon_16 : decode prog_13_method_51_code 16 = .ok (.aload_n 0, 1) := by decide +kernel
theorem d_Mo_isCommon_17 : decode prog_13_method_51_code 17 = .ok (.getfield 89, 3) := by decide +kernel
theorem d_Mo_isCommon_20 : decode prog_13_method_51_code 20 = .ok (.iload_n 2, 1) := by decide +kernel
theorem d_Mo_isCommon_21 : decode prog_13_method_51_code 21 = .ok (.iaload, 1) := by decide +kernel
theorem d_Mo_isCommon_22 : decode prog_13_method_51_code 22 = .ok (.invokevirtual 285, 3) := by decide +kernel
theorem d_Mo_isCommon_25 : decode prog_13_method_51_code 25 = .ok (.istore_n 3, 1) := by decide +kernel
theorem d_Mo_isCommon_26 : decode prog_13_method_51_code 26 = .ok (.iload_n 3, 1) := by decide +kernel
theorem d_Mo_isCommon_27 : decode prog_13_method_51_code 27 = .ok (.ifCond .ge 7, 3) := by decide +kernel
theorem d_Mo_isCommon_34 : decode prog_13_method_51_code 34 = .ok (.iload_n 3, 1) := by decide +kernel
theorem d_Mo_isCommon_35 : decode prog_13_method_51_code 35 = .ok (.iconst 1, 1) := by decide +kernel
theorem d_Mo_isCommon_36 : decode prog_13_method_51_code 36 = .ok (.iadd, 1) := by decide +kernel
theorem d_Mo_isCommon_37 : decode prog_13_method_51_code 37 = .ok (.aload_n 0, 1) := by decide +kernel
theorem d_Mo_isCommon_38 : decode prog_13_method_51_code 38 = .ok (.getfield 282, 3) := by decide +kernel
theorem d_Mo_isCommon_41 : decode prog_13_method_51_code 41 = .ok (.irem, 1) := by decide +kernel
theorem d_Mo_isCommon_30 : decode prog_13_method_51_code 30 = .ok (.iconst 0, 1) := by decide +kernel
theorem d_Mo_isCommon_31 : decode prog_13_method_51_code 31 = .ok (.goto 11, 3) := by decide +kernel
theorem d_Mo_isCommon_42 : decode prog_13_method_51_code 42 = .ok (.istore 4, 2) := by decide +kernel
theorem d_Mo_isCommon_44 : decode prog_13_method_51_code 44 = .ok (.iload_n 3, 1) := by decide +kernel
theorem d_Mo_isCommon_45 : decode prog_13_method_51_code 45 = .ok (.ifCond .lt 39, 3) := by decide +kernel
theorem d_Mo_isCommon_84 : decode prog_13_method_51_code 84 = .ok (.iconst 0, 1) := by decide +kernel
theorem d_Mo_isCommon_85 : decode prog_13_method_51_code 85 = .ok (.ireturn, 1) := by decide +kernel
theorem d_Mo_isCommon_48 : decode prog_13_method_51_code 48 = .ok (.aload_n 0, 1) := by decide +kernel
theorem d_Mo_isCommon_49 : decode prog_13_method_51_code 49 = .ok (.getfield 92, 3) := by decide +kernel
theorem d_Mo_isCommon_52 : decode prog_13_method_51_code 52 = .ok (.iload 4, 2) := by decide +kernel
theorem d_Mo_isCommon_54 : decode prog_13_method_51_code 54 = .ok (.iaload, 1) := by decide +kernel
theorem d_Mo_isCommon_55 : decode prog_13_method_51_code 55 = .ok (.aload_n 0, 1) := by decide +kernel
theorem d_Mo_isCommon_56 : decode prog_13_method_51_code 56 = .ok (.getfield 86, 3) := by decide +kernel
theorem d_Mo_isCommon_59 : decode prog_13_method_51_code 59 = .ok (.iload_n 1, 1) := by decide +kernel
theorem d_Mo_isCommon_60 : decode prog_13_method_51_code 60 = .ok (.iaload, 1) := by decide +kernel
theorem d_Mo_isCommon_61 : decode prog_13_method_51_code 61 = .ok (.if_icmp .ne 23, 3) := by decide +kernel
theorem d_Mo_isCommon_64 : decode prog_13_method_51_code 64 = .ok (.aload_n 0, 1) := by decide +kernel
theorem d_Mo_isCommon_65 : decode prog_13_method_51_code 65 = .ok (.getfield 95, 3) := by decide +kernel
theorem d_Mo_isCommon_68 : decode prog_13_method_51_code 68 = .ok (.iload 4, 2) := by decide +kernel
theorem d_Mo_isCommon_70 : decode prog_13_method_51_code 70 = .ok (.iaload, 1) := by decide +kernel
theorem d_Mo_isCommon_71 : decode prog_13_method_51_code 71 = .ok (.aload_n 0, 1) := by decide +kernel
theorem d_Mo_isCommon_72 : decode prog_13_method_51_code 72 = .ok (.getfield 89, 3) := by decide +kernel
theorem d_Mo_isCommon_75 : decode prog_13_method_51_code 75 = .ok (.iload_n 1, 1) := by decide +kernel
theorem d_Mo_isCommon_76 : decode prog_13_method_51_code 76 = .ok (.iaload, 1) := by decide +kernel
theorem d_Mo_isCommon_77 : decode prog_13_method_51_code 77 = .ok (.if_icmp .ne 7, 3) := by decide +kernel
theorem d_Mo_isCommon_80 : decode prog_13_method_51_code 80 = .ok (.iconst 1, 1) := by decide +kernel
theorem d_Mo_isCommon_81 : decode prog_13_method_51_code 81 = .ok (.goto 4, 3) := by decide +kernel
def wp_Mo_isCommon_42 (post : Int → MS → Prop) (v1 : Int) (v3 : Int) (s0 : Int) (S : MS) : Prop := inR v3 ∧ (v3 < 0 → post 0 S) ∧ (¬ (v3 < 0) → (ixR s0 400 ∧ (ixR v1 400 ∧ (inR (S.2 40 s0.toNat) ∧ inR (S.2 37 v1.toNat) ∧ (¬ ((S.2 40 s0.toNat) = (S.2 37 v1.toNat)) → post 0 S) ∧ ((S.2 40 s0.toNat) = (S.2 37 v1.toNat) → (ixR s0 400 ∧ (ixR v1 400 ∧ (inR (S.2 41 s0.toNat) ∧ inR (S.2 38 v1.toNat) ∧ (¬ ((S.2 41 s0.toNat) = (S.2 38 v1.toNat)) → post 0 S) ∧ ((S.2 41 s0.toNat) = (S.2 38 v1.toNat) → post 1 S)))))))))
def wp_Mo_isCommon (post : Int → MS → Prop) (v1 : Int) (S : MS) : Prop := dvR (v1 + 1) (S.1 36) ∧ (∀ v2_1 : Int, v2_1 = ((v1 + 1) % (S.1 36)) → ixR v2_1 400 ∧ (ixR v2_1 400 ∧ (wp_Mo_inB (fun r_3 S_2 => inR r_3 ∧ (0 ≤ r_3 → (dvR (r_3 + 1) (S_2.1 39) ∧ (wp_Mo_isCommon_42 post v1 r_3 ((r_3 + 1) % (S_2.1 39)) S_2))) ∧ (¬ (0 ≤ r_3) → wp_Mo_isCommon_42 post v1 r_3 0 S_2)) (S.2 37 v2_1.toNat) (S.2 38 v2_1.toNat) S)))
set_option maxHeartbeats 4000000 in
set_option maxRecDepth 100000 in
theorem c_Mo_isCommon (l : Launch) {D : va_G} {h : Nat} {ad : Nat → Nat} {kc : Nat → ClassId} {post : Int → MS → Prop} {v1 : Int} {S : MS} (hw : wp_Mo_isCommon post v1 S) : jMi l D h ad kc y_Mo_isCommon prog_13_method_51_code 5 (some .boolean) 1 24 S [vi v1] post := by
  refine j_moz (own := "LandBookModel") (by decide) rfl (Nat.le_of_ble_eq_true rfl) (fun X F K hret => ?_)
  have B42 : ∀ (v1 : Int) (v3 : Int) (s0 : Int) (S : MS), wp_Mo_isCommon_42 post v1 v3 s0 S → jat l D X 5 42 [(0, .ref h), (1, vi v1), (3, vi v3)] [vi s0] (mw h ad kc S) 0 0 := by
    intro v1 v3 s0 S hw
    unfold wp_Mo_isCommon_42 at hw
    refine j_istore F [(4, vi s0), (0, .ref h), (1, vi v1), (3, vi v3)] d_Mo_isCommon_42 (by decide) rfl ?_
    refine j_iload_n F 3 d_Mo_isCommon_44 rfl ?_
    obtain ⟨hc1, hwt, hwf⟩ := hw
    refine j_if_lt F 84 hc1 d_Mo_isCommon_45 rfl (fun hh => ?_) (fun hh => ?_)
    · have hw := hwt hh
      refine j_iconst F d_Mo_isCommon_84 ?_
      exact hret _ _ _ _ hw (Or.inl rfl) d_Mo_isCommon_85
    · have hw := hwf hh
      refine j_aload_n F 1 d_Mo_isCommon_48 rfl ?_
      refine m_geta F K 40 (by decide) (by decide) tj_283 rfl d_Mo_isCommon_49 ?_
      refine j_iload F 0 d_Mo_isCommon_52 rfl ?_
      obtain ⟨hc1, hw⟩ := hw
      refine m_iald F K 40 27 rfl rfl hc1 d_Mo_isCommon_54 ?_
      refine j_aload_n F 1 d_Mo_isCommon_55 rfl ?_
      refine m_geta F K 37 (by decide) (by decide) tj_285 rfl d_Mo_isCommon_56 ?_
      refine j_iload_n F 2 d_Mo_isCommon_59 rfl ?_
      obtain ⟨hc1, hw⟩ := hw
      refine m_iald F K 37 25 rfl rfl hc1 d_Mo_isCommon_60 ?_
      obtain ⟨hc1, hc2, hwt, hwf⟩ := hw
      refine j_icmp_ne F 84 hc1 hc2 d_Mo_isCommon_61 rfl (fun hh => ?_) (fun hh => ?_)
      · have hw := hwt hh
        refine j_iconst F d_Mo_isCommon_84 ?_
        exact hret _ _ _ _ hw (Or.inl rfl) d_Mo_isCommon_85
      · have hw := hwf hh
        refine j_aload_n F 1 d_Mo_isCommon_64 rfl ?_
        refine m_geta F K 41 (by decide) (by decide) tj_284 rfl d_Mo_isCommon_65 ?_
        refine j_iload F 0 d_Mo_isCommon_68 rfl ?_
        obtain ⟨hc1, hw⟩ := hw
        refine m_iald F K 41 28 rfl rfl hc1 d_Mo_isCommon_70 ?_
        refine j_aload_n F 1 d_Mo_isCommon_71 rfl ?_
        refine m_geta F K 38 (by decide) (by decide) tj_286 rfl d_Mo_isCommon_72 ?_
        refine j_iload_n F 2 d_Mo_isCommon_75 rfl ?_
        obtain ⟨hc1, hw⟩ := hw
        refine m_iald F K 38 26 rfl rfl hc1 d_Mo_isCommon_76 ?_
        obtain ⟨hc1, hc2, hwt, hwf⟩ := hw
        refine j_icmp_ne F 84 hc1 hc2 d_Mo_isCommon_77 rfl (fun hh => ?_) (fun hh => ?_)
        · have hw := hwt hh
          refine j_iconst F d_Mo_isCommon_84 ?_
          exact hret _ _ _ _ hw (Or.inl rfl) d_Mo_isCommon_85
        · have hw := hwf hh
          refine j_iconst F d_Mo_isCommon_80 ?_
          refine j_goto F 85 d_Mo_isCommon_81 rfl ?_
          exact hret _ _ _ _ hw (Or.inr rfl) d_Mo_isCommon_85
  unfold wp_Mo_isCommon at hw
  show jat l D X 5 0 [(0, .ref h), (1, vi v1)] [] (mw h ad kc S) 0 0
  refine j_iload_n F 1 d_Mo_isCommon_0 rfl ?_
  refine j_iconst F d_Mo_isCommon_1 ?_
  refine j_iadd F d_Mo_isCommon_2 ?_
  refine j_aload_n F 0 d_Mo_isCommon_3 rfl ?_
  refine m_geti F K 36 (by decide) rfl tj_281 rfl d_Mo_isCommon_4 ?_
  obtain ⟨hc1, hw⟩ := hw
  refine j_irem F hc1 d_Mo_isCommon_7 ?_
  refine j_nmi (fun v2_1 e_v2_1 => ?_)
  have hw := hw v2_1 e_v2_1
  refine j_istore_n F [(2, vi v2_1), (0, .ref h), (1, vi v1)] d_Mo_isCommon_8 (by decide) rfl ?_
  refine j_aload_n F 1 d_Mo_isCommon_9 rfl ?_
  refine j_aload_n F 1 d_Mo_isCommon_10 rfl ?_
  refine m_geta F K 37 (by decide) (by decide) tj_285 rfl d_Mo_isCommon_11 ?_
  refine j_iload_n F 0 d_Mo_isCommon_14 rfl ?_
  obtain ⟨hc1, hw⟩ := hw
  refine m_iald F K 37 25 rfl rfl hc1 d_Mo_isCommon_15 ?_
  refine j_aload_n F 1 d_Mo_isCommon_16 rfl ?_
  refine m_geta F K 38 (by decide) (by decide) tj_286 rfl d_Mo_isCommon_17 ?_
  refine j_iload_n F 0 d_Mo_isCommon_20 rfl ?_
  obtain ⟨hc1, hw⟩ := hw
  refine m_iald F K 38 26 rfl rfl hc1 d_Mo_isCommon_21 ?_
  refine m_calli F K (c_Mo_inB l hw) (tw_gV tj_287 tj_288 tj_289 tj_87 tj_290) q_Mo_inB rfl ⟨by decide, by decide⟩ ⟨Nat.zero_le _, Nat.zero_le _⟩ rfl (Nat.le_of_ble_eq_true rfl) d_Mo_isCommon_22 (fun r_3 S_2 hw => ?_)
  refine j_istore_n F [(3, vi r_3), (2, vi v2_1), (0, .ref h), (1, vi v1)] d_Mo_isCommon_25 (by decide) rfl ?_
  refine j_iload_n F 0 d_Mo_isCommon_26 rfl ?_
  obtain ⟨hc1, hwt, hwf⟩ := hw
  refine j_if_ge F 34 hc1 d_Mo_isCommon_27 rfl (fun hh => ?_) (fun hh => ?_)
  · have hw := hwt hh
    refine j_iload_n F 0 d_Mo_isCommon_34 rfl ?_
    refine j_iconst F d_Mo_isCommon_35 ?_
    refine j_iadd F d_Mo_isCommon_36 ?_
    refine j_aload_n F 2 d_Mo_isCommon_37 rfl ?_
    refine m_geti F K 39 (by decide) rfl tj_280 rfl d_Mo_isCommon_38 ?_
    obtain ⟨hc1, hw⟩ := hw
    refine j_irem F hc1 d_Mo_isCommon_41 ?_
    refine j_sub [2, 3, 0] rfl ?_
    exact B42 _ _ _ _ hw
  · have hw := hwf hh
    refine j_iconst F d_Mo_isCommon_30 ?_
    refine j_goto F 42 d_Mo_isCommon_31 rfl ?_
    refine j_sub [2, 3, 0] rfl ?_
    exact B42 _ _ _ _ hw
theorem tj_291 : (Jvm.Cond.methodLink "LandBookModel" (288 : Nat) ({ cls := "LandBookModel", name := "refine", desc := "(IIZ)V" } : Jvm.MethodName)) ∈ tw_G := tw_in (List.mem_of_getElem? (i := 1361) (by decide +kernel)) rfl
theorem tj_292 : (Jvm.Cond.instanceMethod ({ cls := "LandBookModel", name := "refine", desc := "(IIZ)V" } : Jvm.MethodName)) ∈ tw_G := tw_in (List.mem_of_getElem? (i := 1363) (by decide +kernel)) rfl
theorem tj_293 : (Jvm.Cond.selects "LandBookModel" ⟨"LandBookModel", "refine", "(IIZ)V"⟩ ⟨"LandBookModel", "refine", "(IIZ)V"⟩) ∈ tw_G := tw_in (List.mem_of_getElem? (i := 52) (by decide +kernel)) rfl
theorem tj_294 : (Jvm.Cond.code ({ cls := "LandBookModel", name := "refine", desc := "(IIZ)V" } : Jvm.MethodName) prog_13_method_49_code (22 : Nat) (Option.none : Option Jvm.ClassFile.FieldType)) ∈ tw_G := tw_in (List.mem_of_getElem? (i := 1364) (by decide +kernel)) rfl
theorem tj_295 : (Jvm.Cond.methodLink "LandBookModel" (292 : Nat) ({ cls := "LandBookModel", name := "isCommon", desc := "(I)Z" } : Jvm.MethodName)) ∈ tw_G := tw_in (List.mem_of_getElem? (i := 1366) (by decide +kernel)) rfl
theorem tj_296 : (Jvm.Cond.instanceMethod ({ cls := "LandBookModel", name := "isCommon", desc := "(I)Z" } : Jvm.MethodName)) ∈ tw_G := tw_in (List.mem_of_getElem? (i := 1368) (by decide +kernel)) rfl
theorem tj_297 : (Jvm.Cond.selects "LandBookModel" ⟨"LandBookModel", "isCommon", "(I)Z"⟩ ⟨"LandBookModel", "isCommon", "(I)Z"⟩) ∈ tw_G := tw_in (List.mem_of_getElem? (i := 53) (by decide +kernel)) rfl
theorem tj_298 : (Jvm.Cond.code ({ cls := "LandBookModel", name := "isCommon", desc := "(I)Z" } : Jvm.MethodName) prog_13_method_51_code (5 : Nat) (Option.some Jvm.ClassFile.FieldType.boolean)) ∈ tw_G := tw_in (List.mem_of_getElem? (i := 1369) (by decide +kernel)) rfl
abbrev y_Mo_makeBoth : MethodName := ⟨"LandBookModel", "makeBoth", "(II)Z"⟩
theorem q_Mo_makeBoth : y_Mo_makeBoth.cls = "LandBookModel" ∧ y_Mo_makeBoth.cls ≠ "java/lang/invoke/MethodHandle" ∧ y_Mo_makeBoth.cls ≠ "java/lang/invoke/VarHandle" ∧ (parseMethodDescriptor y_Mo_makeBoth.desc).map (fun d => d.parameters.length) = some 2 := by decide +kernel
theorem d_Mo_makeBoth_0 : decode prog_13_method_52_code 0 = .ok (.aload_n 0, 1) := by decide +kernel
theorem d_Mo_makeBoth_1 : decode prog_13_method_52_code 1 = .ok (.iload_n 1, 1) := by decide +kernel
theorem d_Mo_makeBoth_2 : decode prog_13_method_52_code 2 = .ok (.iload_n 2, 1) := by decide +kernel
theorem d_Mo_makeBoth_3 : decode prog_13_method_52_code 3 = .ok (.iconst 1, 1) := by decide +kernel
theorem d_Mo_makeBoth_4 : decode prog_13_method_52_code 4 = .ok (.invokevirtual 288, 3) := by decide +kernel
theorem d_Mo_makeBoth_7 : decode prog_13_method_52_code 7 = .ok (.aload_n 0, 1) := by decide +kernel
theorem d_Mo_makeBoth_8 : decode prog_13_method_52_code 8 = .ok (.iload_n 2, 1) := by decide +kernel
theorem d_Mo_makeBoth_9 : decode prog_13_method_52_code 9 = .ok (.iload_n 1, 1) := by decide +kernel
theorem d_Mo_makeBoth_10 : decode prog_13_method_52_code 10 = .ok (.iconst 0, 1) := by decide +kernel
theorem d_Mo_makeBoth_11 : decode prog_13_method_52_code 11 = .ok (.invokevirtual 288, 3) := by decide +kernel
theorem d_Mo_makeBoth_14 : decode prog_13_method_52_code 14 = .ok (.iconst 0, 1) := by decide +kernel
theorem d_Mo_makeBoth_15 : decode prog_13_method_52_code 15 = .ok (.istore_n 3, 1) := by decide +kernel
theorem d_Mo_makeBoth_16 : decode prog_13_method_52_code 16 = .ok (.iconst 0, 1) := by decide +kernel
theorem d_Mo_makeBoth_17 : decode prog_13_method_52_code 17 = .ok (.istore 4, 2) := by decide +kernel
theorem d_Mo_makeBoth_19 : decode prog_13_method_52_code 19 = .ok (.iconst 0, 1) := by decide +kernel
theorem d_Mo_makeBoth_20 : decode prog_13_method_52_code 20 = .ok (.istore 5, 2) := by decide +kernel
theorem d_Mo_makeBoth_22 : decode prog_13_method_52_code 22 = .ok (.iconst 0, 1) := by decide +kernel
theorem d_Mo_makeBoth_23 : decode prog_13_method_52_code 23 = .ok (.istore 6, 2) := by decide +kernel
theorem d_Mo_makeBoth_25 : decode prog_13_method_52_code 25 = .ok (.iconst 0, 1) := by decide +kernel
theorem d_Mo_makeBoth_26 : decode prog_13_method_52_code 26 = .ok (.istore 7, 2) := by decide +kernel
theorem d_Mo_makeBoth_28 : decode prog_13_method_52_code 28 = .ok (.iload 7, 2) := by decide +kernel
theorem d_Mo_makeBoth_30 : decode prog_13_method_52_code 30 = .ok (.aload_n 0, 1) := by decide +kernel
theorem d_Mo_makeBoth_31 : decode prog_13_method_52_code 31 = .ok (.getfield 279, 3) := by decide +kernel
theorem d_Mo_makeBoth_34 : decode prog_13_method_52_code 34 = .ok (.if_icmp .ge 124, 3) := by decide +kernel
theorem d_Mo_makeBoth_158 : decode prog_13_method_52_code 158 = .ok (.iload 4, 2) := by decide +kernel
theorem d_Mo_makeBoth_160 : decode prog_13_method_52_code 160 = .ok (.iconst 1, 1) := by decide +kernel
theorem d_Mo_makeBoth_161 : decode prog_13_method_52_code 161 = .ok (.if_icmp .ne 11, 3) := by decide +kernel
theorem d_Mo_makeBoth_172 : decode prog_13_method_52_code 172 = .ok (.iconst 0, 1) := by decide +kernel
theorem d_Mo_makeBoth_173 : decode prog_13_method_52_code 173 = .ok (.ireturn, 1) := by decide +kernel
theorem d_Mo_makeBoth_164 : decode prog_13_method_52_code 164 = .ok (.iload 5, 2) := by decide +kernel
theorem d_Mo_makeBoth_166 : decode prog_13_method_52_code 166 = .ok (.iload_n 3, 1) := by decide +kernel
theorem d_Mo_makeBoth_167 : decode prog_13_method_52_code 167 = .ok (.iconst 1, 1) := by decide +kernel
theorem d_Mo_makeBoth_168 : decode prog_13_method_52_code 168 = .ok (.iadd, 1) := by decide +kernel
theorem d_Mo_makeBoth_169 : decode prog_13_method_52_code 169 = .ok (.if_icmp .eq 5, 3) := by decide +kernel
theorem d_Mo_makeBoth_174 : decode prog_13_method_52_code 174 = .ok (.aload_n 0, 1) := by decide +kernel
theorem d_Mo_makeBoth_175 : decode prog_13_method_52_code 175 = .ok (.iconst 0, 1) := by decide +kernel
theorem d_Mo_makeBoth_176 : decode prog_13_method_52_code 176 = .ok (.putfield 132, 3) := by decide +kernel
theorem d_Mo_makeBoth_179 : decode prog_13_method_52_code 179 = .ok (.iload 6, 2) := by decide +kernel
theorem d_Mo_makeBoth_181 : decode prog_13_method_52_code 181 = .ok (.istore 7, 2) := by decide +kernel
theorem d_Mo_makeBoth_183 : decode prog_13_method_52_code 183 = .ok (.iconst 0, 1) := by decide +kernel
theorem d_Mo_makeBoth_184 : decode prog_13_method_52_code 184 = .ok (.istore 8, 2) := by decide +kernel
theorem d_Mo_makeBoth_37 : decode prog_13_method_52_code 37 = .ok (.aload_n 0, 1) := by decide +kernel
theorem d_Mo_makeBoth_38 : decode prog_13_method_52_code 38 = .ok (.iload 7, 2) := by decide +kernel
theorem d_Mo_makeBoth_40 : decode prog_13_method_52_code 40 = .ok (.invokevirtual 292, 3) := by decide +kernel
theorem d_Mo_makeBoth_43 : decode prog_13_method_52_code 43 = .ok (.istore 8, 2) := by decide +kernel
theorem d_Mo_makeBoth_45 : decode prog_13_method_52_code 45 = .ok (.aload_n 0, 1) := by decide +kernel
theorem d_Mo_makeBoth_46 : decode prog_13_method_52_code 46 = .ok (.iload 7, 2) := by decide +kernel
theorem d_Mo_makeBoth_48 : decode prog_13_method_52_code 48 = .ok (.iconst 1, 1) := by decide +kernel
theorem d_Mo_makeBoth_49 : decode prog_13_method_52_code 49 = .ok (.iadd, 1) := by decide +kernel
theorem d_Mo_makeBoth_50 : decode prog_13_method_52_code 50 = .ok (.aload_n 0, 1) := by decide +kernel
theorem d_Mo_makeBoth_51 : decode prog_13_method_52_code 51 = .ok (.getfield 279, 3) := by decide +kernel
theorem d_Mo_makeBoth_54 : decode prog_13_method_52_code 54 = .ok (.irem, 1) := by decide +kernel
theorem d_Mo_makeBoth_55 : decode prog_13_method_52_code 55 = .ok (.invokevirtual 292, 3) := by decide +kernel
theorem d_Mo_makeBoth_58 : decode prog_13_method_52_code 58 = .ok (.istore 9, 2) := by decide +kernel
theorem d_Mo_makeBoth_60 : decode prog_13_method_52_code 60 = .ok (.iload 8, 2) := by decide +kernel
theorem d_Mo_makeBoth_62 : decode prog_13_method_52_code 62 = .ok (.ifCond .eq 9, 3) := by decide +kernel
theorem d_Mo_makeBoth_71 : decode prog_13_method_52_code 71 = .ok (.iload_n 3, 1) := by decide +kernel
theorem d_Mo_makeBoth_65 : decode prog_13_method_52_code 65 = .ok (.iload_n 3, 1) := by decide +kernel
theorem d_Mo_makeBoth_66 : decode prog_13_method_52_code 66 = .ok (.iconst 1, 1) := by decide +kernel
theorem d_Mo_makeBoth_67 : decode prog_13_method_52_code 67 = .ok (.iadd, 1) := by decide +kernel
theorem d_Mo_makeBoth_68 : decode prog_13_method_52_code 68 = .ok (.goto 4, 3) := by decide +kernel
theorem d_Mo_makeBoth_186 : decode prog_13_method_52_code 186 = .ok (.iload 8, 2) := by decide +kernel
theorem d_Mo_makeBoth_188 : decode prog_13_method_52_code 188 = .ok (.aload_n 0, 1) := by decide +kernel
theorem d_Mo_makeBoth_189 : decode prog_13_method_52_code 189 = .ok (.getfield 279, 3) := by decide +kernel
theorem d_Mo_makeBoth_192 : decode prog_13_method_52_code 192 = .ok (.iload_n 3, 1) := by decide +kernel
theorem d_Mo_makeBoth_193 : decode prog_13_method_52_code 193 = .ok (.isub, 1) := by decide +kernel
theorem d_Mo_makeBoth_194 : decode prog_13_method_52_code 194 = .ok (.if_icmp .ge 38, 3) := by decide +kernel
theorem d_Mo_makeBoth_232 : decode prog_13_method_52_code 232 = .ok (.aload_n 0, 1) := by decide +kernel
theorem d_Mo_makeBoth_233 : decode prog_13_method_52_code 233 = .ok (.aload_n 0, 1) := by decide +kernel
theorem d_Mo_makeBoth_234 : decode prog_13_method_52_code 234 = .ok (.getfield 86, 3) := by decide +kernel
theorem d_Mo_makeBoth_237 : decode prog_13_method_52_code 237 = .ok (.iload 7, 2) := by decide +kernel
theorem d_Mo_makeBoth_239 : decode prog_13_method_52_code 239 = .ok (.iaload, 1) := by decide +kernel
theorem d_Mo_makeBoth_240 : decode prog_13_method_52_code 240 = .ok (.aload_n 0, 1) := by decide +kernel
theorem d_Mo_makeBoth_241 : decode prog_13_method_52_code 241 = .ok (.getfield 89, 3) := by decide +kernel
theorem d_Mo_makeBoth_244 : decode prog_13_method_52_code 244 = .ok (.iload 7, 2) := by decide +kernel
theorem d_Mo_makeBoth_246 : decode prog_13_method_52_code 246 = .ok (.iaload, 1) := by decide +kernel
theorem d_Mo_makeBoth_247 : decode prog_13_method_52_code 247 = .ok (.invokevirtual 285, 3) := by decide +kernel
theorem d_Mo_makeBoth_250 : decode prog_13_method_52_code 250 = .ok (.istore 7, 2) := by decide +kernel
theorem d_Mo_makeBoth_252 : decode prog_13_method_52_code 252 = .ok (.iconst 0, 1) := by decide +kernel
theorem d_Mo_makeBoth_253 : decode prog_13_method_52_code 253 = .ok (.istore 8, 2) := by decide +kernel
theorem d_Mo_makeBoth_197 : decode prog_13_method_52_code 197 = .ok (.aload_n 0, 1) := by decide +kernel
theorem d_Mo_makeBoth_198 : decode prog_13_method_52_code 198 = .ok (.aload_n 0, 1) := by decide +kernel
theorem d_Mo_makeBoth_199 : decode prog_13_method_52_code 199 = .ok (.getfield 86, 3) := by decide +kernel
theorem d_Mo_makeBoth_202 : decode prog_13_method_52_code 202 = .ok (.iload 7, 2) := by decide +kernel
theorem d_Mo_makeBoth_204 : decode prog_13_method_52_code 204 = .ok (.iaload, 1) := by decide +kernel
theorem d_Mo_makeBoth_205 : decode prog_13_method_52_code 205 = .ok (.aload_n 0, 1) := by decide +kernel
theorem d_Mo_makeBoth_206 : decode prog_13_method_52_code 206 = .ok (.getfield 89, 3) := by decide +kernel
theorem d_Mo_makeBoth_209 : decode prog_13_method_52_code 209 = .ok (.iload 7, 2) := by decide +kernel
theorem d_Mo_makeBoth_211 : decode prog_13_method_52_code 211 = .ok (.iaload, 1) := by decide +kernel
theorem d_Mo_makeBoth_212 : decode prog_13_method_52_code 212 = .ok (.invokevirtual 163, 3) := by decide +kernel
theorem d_Mo_makeBoth_215 : decode prog_13_method_52_code 215 = .ok (.iload 7, 2) := by decide +kernel
theorem d_Mo_makeBoth_217 : decode prog_13_method_52_code 217 = .ok (.iconst 1, 1) := by decide +kernel
theorem d_Mo_makeBoth_218 : decode prog_13_method_52_code 218 = .ok (.iadd, 1) := by decide +kernel
theorem d_Mo_makeBoth_219 : decode prog_13_method_52_code 219 = .ok (.aload_n 0, 1) := by decide +kernel
theorem d_Mo_makeBoth_220 : decode prog_13_method_52_code 220 = .ok (.getfield 279, 3) := by decide +kernel
theorem d_Mo_makeBoth_223 : decode prog_13_method_52_code 223 = .ok (.irem, 1) := by decide +kernel
theorem d_Mo_makeBoth_224 : decode prog_13_method_52_code 224 = .ok (.istore 7, 2) := by decide +kernel
theorem d_Mo_makeBoth_226 : decode prog_13_method_52_code 226 = .ok (.iinc 8 1, 3) := by decide +kernel
theorem d_Mo_makeBoth_229 : decode prog_13_method_52_code 229 = .ok (.goto (-43), 3) := by decide +kernel
theorem d_Mo_makeBoth_72 : decode prog_13_method_52_code 72 = .ok (.istore_n 3, 1) := by decide +kernel
theorem d_Mo_makeBoth_73 : decode prog_13_method_52_code 73 = .ok (.iload 8, 2) := by decide +kernel
theorem d_Mo_makeBoth_75 : decode prog_13_method_52_code 75 = .ok (.ifCond .eq 15, 3) := by decide +kernel
theorem d_Mo_makeBoth_90 : decode prog_13_method_52_code 90 = .ok (.iload 4, 2) := by decide +kernel
theorem d_Mo_makeBoth_78 : decode prog_13_method_52_code 78 = .ok (.iload 9, 2) := by decide +kernel
theorem d_Mo_makeBoth_80 : decode prog_13_method_52_code 80 = .ok (.ifCond .ne 10, 3) := by decide +kernel
theorem d_Mo_makeBoth_83 : decode prog_13_method_52_code 83 = .ok (.iload 4, 2) := by decide +kernel
theorem d_Mo_makeBoth_85 : decode prog_13_method_52_code 85 = .ok (.iconst 1, 1) := by decide +kernel
theorem d_Mo_makeBoth_86 : decode prog_13_method_52_code 86 = .ok (.iadd, 1) := by decide +kernel
theorem d_Mo_makeBoth_87 : decode prog_13_method_52_code 87 = .ok (.goto 5, 3) := by decide +kernel
theorem d_Mo_makeBoth_255 : decode prog_13_method_52_code 255 = .ok (.iload 8, 2) := by decide +kernel
theorem d_Mo_makeBoth_257 : decode prog_13_method_52_code 257 = .ok (.aload_n 0, 1) := by decide +kernel
theorem d_Mo_makeBoth_258 : decode prog_13_method_52_code 258 = .ok (.getfield 282, 3) := by decide +kernel
theorem d_Mo_makeBoth_261 : decode prog_13_method_52_code 261 = .ok (.iload_n 3, 1) := by decide +kernel
theorem d_Mo_makeBoth_262 : decode prog_13_method_52_code 262 = .ok (.isub, 1) := by decide +kernel
theorem d_Mo_makeBoth_263 : decode prog_13_method_52_code 263 = .ok (.if_icmp .ge 38, 3) := by decide +kernel
theorem d_Mo_makeBoth_301 : decode prog_13_method_52_code 301 = .ok (.aload_n 0, 1) := by decide +kernel
theorem d_Mo_makeBoth_302 : decode prog_13_method_52_code 302 = .ok (.invokevirtual 167, 3) := by decide +kernel
theorem d_Mo_makeBoth_305 : decode prog_13_method_52_code 305 = .ok (.iconst 1, 1) := by decide +kernel
theorem d_Mo_makeBoth_306 : decode prog_13_method_52_code 306 = .ok (.ireturn, 1) := by decide +kernel
theorem d_Mo_makeBoth_266 : decode prog_13_method_52_code 266 = .ok (.aload_n 0, 1) := by decide +kernel
theorem d_Mo_makeBoth_267 : decode prog_13_method_52_code 267 = .ok (.aload_n 0, 1) := by decide +kernel
theorem d_Mo_makeBoth_268 : decode prog_13_method_52_code 268 = .ok (.getfield 92, 3) := by decide +kernel
theorem d_Mo_makeBoth_271 : decode prog_13_method_52_code 271 = .ok (.iload 7, 2) := by decide +kernel
theorem d_Mo_makeBoth_273 : decode prog_13_method_52_code 273 = .ok (.iaload, 1) := by decide +kernel
theorem d_Mo_makeBoth_274 : decode prog_13_method_52_code 274 = .ok (.aload_n 0, 1) := by decide +kernel
theorem d_Mo_makeBoth_275 : decode prog_13_method_52_code 275 = .ok (.getfield 95, 3) := by decide +kernel
theorem d_Mo_makeBoth_278 : decode prog_13_method_52_code 278 = .ok (.iload 7, 2) := by decide +kernel
theorem d_Mo_makeBoth_280 : decode prog_13_method_52_code 280 = .ok (.iaload, 1) := by decide +kernel
theorem d_Mo_makeBoth_281 : decode prog_13_method_52_code 281 = .ok (.invokevirtual 163, 3) := by decide +kernel
theorem d_Mo_makeBoth_284 : decode prog_13_method_52_code 284 = .ok (.iload 7, 2) := by decide +kernel
theorem d_Mo_makeBoth_286 : decode prog_13_method_52_code 286 = .ok (.iconst 1, 1) := by decide +kernel
theorem d_Mo_makeBoth_287 : decode prog_13_method_52_code 287 = .ok (.iadd, 1) := by decide +kernel
theorem d_Mo_makeBoth_288 : decode prog_13_method_52_code 288 = .ok (.aload_n 0, 1) := by decide +kernel
theorem d_Mo_makeBoth_289 : decode prog_13_method_52_code 289 = .ok (.getfield 282, 3) := by decide +kernel
theorem d_Mo_makeBoth_292 : decode prog_13_method_52_code 292 = .ok (.irem, 1) := by decide +kernel
theorem d_Mo_makeBoth_293 : decode prog_13_method_52_code 293 = .ok (.istore 7, 2) := by decide +kernel
theorem d_Mo_makeBoth_295 : decode prog_13_method_52_code 295 = .ok (.iinc 8 1, 3) := by decide +kernel
theorem d_Mo_makeBoth_298 : decode prog_13_method_52_code 298 = .ok (.goto (-43), 3) := by decide +kernel
theorem d_Mo_makeBoth_92 : decode prog_13_method_52_code 92 = .ok (.istore 4, 2) := by decide +kernel
theorem d_Mo_makeBoth_94 : decode prog_13_method_52_code 94 = .ok (.iload 8, 2) := by decide +kernel
theorem d_Mo_makeBoth_96 : decode prog_13_method_52_code 96 = .ok (.ifCond .eq 20, 3) := by decide +kernel
theorem d_Mo_makeBoth_116 : decode prog_13_method_52_code 116 = .ok (.iload 6, 2) := by decide +kernel
theorem d_Mo_makeBoth_99 : decode prog_13_method_52_code 99 = .ok (.iload 9, 2) := by decide +kernel
theorem d_Mo_makeBoth_101 : decode prog_13_method_52_code 101 = .ok (.ifCond .ne 15, 3) := by decide +kernel
theorem d_Mo_makeBoth_104 : decode prog_13_method_52_code 104 = .ok (.iload 7, 2) := by decide +kernel
theorem d_Mo_makeBoth_106 : decode prog_13_method_52_code 106 = .ok (.iconst 1, 1) := by decide +kernel
theorem d_Mo_makeBoth_107 : decode prog_13_method_52_code 107 = .ok (.iadd, 1) := by decide +kernel
theorem d_Mo_makeBoth_108 : decode prog_13_method_52_code 108 = .ok (.aload_n 0, 1) := by decide +kernel
theorem d_Mo_makeBoth_109 : decode prog_13_method_52_code 109 = .ok (.getfield 279, 3) := by decide +kernel
theorem d_Mo_makeBoth_112 : decode prog_13_method_52_code 112 = .ok (.irem, 1) := by decide +kernel
theorem d_Mo_makeBoth_113 : decode prog_13_method_52_code 113 = .ok (.goto 5, 3) := by decide +kernel
theorem d_Mo_makeBoth_118 : decode prog_13_method_52_code 118 = .ok (.istore 6, 2) := by decide +kernel
theorem d_Mo_makeBoth_120 : decode prog_13_method_52_code 120 = .ok (.aload_n 0, 1) := by decide +kernel
theorem d_Mo_makeBoth_121 : decode prog_13_method_52_code 121 = .ok (.aload_n 0, 1) := by decide +kernel
theorem d_Mo_makeBoth_122 : decode prog_13_method_52_code 122 = .ok (.getfield 86, 3) := by decide +kernel
theorem d_Mo_makeBoth_125 : decode prog_13_method_52_code 125 = .ok (.iload 7, 2) := by decide +kernel
theorem d_Mo_makeBoth_127 : decode prog_13_method_52_code 127 = .ok (.iaload, 1) := by decide +kernel
theorem d_Mo_makeBoth_128 : decode prog_13_method_52_code 128 = .ok (.aload_n 0, 1) := by decide +kernel
theorem d_Mo_makeBoth_129 : decode prog_13_method_52_code 129 = .ok (.getfield 89, 3) := by decide +kernel
theorem d_Mo_makeBoth_132 : decode prog_13_method_52_code 132 = .ok (.iload 7, 2) := by decide +kernel
theorem d_Mo_makeBoth_134 : decode prog_13_method_52_code 134 = .ok (.iaload, 1) := by decide +kernel
theorem d_Mo_makeBoth_135 : decode prog_13_method_52_code 135 = .ok (.invokevirtual 285, 3) := by decide +kernel
theorem d_Mo_makeBoth_138 : decode prog_13_method_52_code 138 = .ok (.ifCond .lt 10, 3) := by decide +kernel
theorem d_Mo_makeBoth_148 : decode prog_13_method_52_code 148 = .ok (.iload 5, 2) := by decide +kernel
theorem d_Mo_makeBoth_141 : decode prog_13_method_52_code 141 = .ok (.iload 5, 2) := by decide +kernel
theorem d_Mo_makeBoth_143 : decode prog_13_method_52_code 143 = .ok (.iconst 1, 1) := by decide +kernel
theorem d_Mo_makeBoth_144 : decode prog_13_method_52_code 144 = .ok (.iadd, 1) := by decide +kernel
theorem d_Mo_makeBoth_145 : decode prog_13_method_52_code 145 = .ok (.goto 5, 3) := by decide +kernel
theorem d_Mo_makeBoth_150 : decode prog_13_method_52_code 150 = .ok (.istore 5, 2) := by decide +kernel
theorem d_Mo_makeBoth_152 : decode prog_13_method_52_code 152 = .ok (.iinc 7 1, 3) := by decide +kernel
theorem d_Mo_makeBoth_155 : decode prog_13_method_52_code 155 = .ok (.goto (-127), 3) := by decide +kernel
def wp_Mo_makeBoth_255 (post : Int → MS → Prop) : Nat → Int → Int → Int → MS → Prop
  | 0, _, _, _, _ => False
  | n + 1, v3, v7, v8, S => inR v8 ∧ inR ((S.1 39) - v3) ∧ (((S.1 39) - v3) ≤ v8 → (wp_Mo_tidy (fun S_1 => post 1 S_1)  S)) ∧ (¬ (((S.1 39) - v3) ≤ v8) → (ixR v7 400 ∧ (ixR v7 400 ∧ (wp_Mo_make (fun S_3 => dvR (v7 + 1) (S_3.1 39) ∧ (∀ v7_5 : Int, v7_5 = ((v7 + 1) % (S_3.1 39)) → (wp_Mo_makeBoth_255 post n) v3 v7_5 (v8 + 1) S_3)) (S.2 40 v7.toNat) (S.2 41 v7.toNat) S))))
def wp_Mo_makeBoth_186 (post : Int → MS → Prop) : Nat → Int → Int → Int → MS → Prop
  | 0, _, _, _, _ => False
  | n + 1, v3, v7, v8, S => inR v8 ∧ inR ((S.1 36) - v3) ∧ (((S.1 36) - v3) ≤ v8 → (ixR v7 400 ∧ (ixR v7 400 ∧ (wp_Mo_inB (fun r_2 S_1 => ∃ n0 : Nat, wp_Mo_makeBoth_255 post n0 v3 r_2 0 S_1) (S.2 37 v7.toNat) (S.2 38 v7.toNat) S)))) ∧ (¬ (((S.1 36) - v3) ≤ v8) → (ixR v7 400 ∧ (ixR v7 400 ∧ (wp_Mo_make (fun S_3 => dvR (v7 + 1) (S_3.1 36) ∧ (∀ v7_5 : Int, v7_5 = ((v7 + 1) % (S_3.1 36)) → (wp_Mo_makeBoth_186 post n) v3 v7_5 (v8 + 1) S_3)) (S.2 37 v7.toNat) (S.2 38 v7.toNat) S))))
def wp_Mo_makeBoth_150 (post : Int → MS → Prop) (k28 : Int → Int → Int → Int → Int → MS → Prop) (v3 : Int) (v4 : Int) (v6 : Int) (v7 : Int) (s0 : Int) (S : MS) : Prop := k28 v3 v4 s0 v6 (v7 + 1) S
def wp_Mo_makeBoth_118 (post : Int → MS → Prop) (k28 : Int → Int → Int → Int → Int → MS → Prop) (v3 : Int) (v4 : Int) (v5 : Int) (v7 : Int) (s0 : Int) (S : MS) : Prop := ixR v7 400 ∧ (ixR v7 400 ∧ (wp_Mo_inB (fun r_2 S_1 => inR r_2 ∧ (r_2 < 0 → wp_Mo_makeBoth_150 post k28 v3 v4 s0 v7 v5 S_1) ∧ (¬ (r_2 < 0) → (wp_Mo_makeBoth_150 post k28 v3 v4 s0 v7 (v5 + 1) S_1))) (S.2 37 v7.toNat) (S.2 38 v7.toNat) S))
def wp_Mo_makeBoth_92 (post : Int → MS → Prop) (k28 : Int → Int → Int → Int → Int → MS → Prop) (v3 : Int) (v5 : Int) (v6 : Int) (v7 : Int) (v8 : Int) (v9 : Int) (s0 : Int) (S : MS) : Prop := inR v8 ∧ (v8 = 0 → wp_Mo_makeBoth_118 post k28 v3 s0 v5 v7 v6 S) ∧ (¬ (v8 = 0) → (inR v9 ∧ (¬ (v9 = 0) → wp_Mo_makeBoth_118 post k28 v3 s0 v5 v7 v6 S) ∧ (v9 = 0 → (dvR (v7 + 1) (S.1 36) ∧ (wp_Mo_makeBoth_118 post k28 v3 s0 v5 v7 ((v7 + 1) % (S.1 36)) S)))))
def wp_Mo_makeBoth_72 (post : Int → MS → Prop) (k28 : Int → Int → Int → Int → Int → MS → Prop) (v4 : Int) (v5 : Int) (v6 : Int) (v7 : Int) (v8 : Int) (v9 : Int) (s0 : Int) (S : MS) : Prop := inR v8 ∧ (v8 = 0 → wp_Mo_makeBoth_92 post k28 s0 v5 v6 v7 v8 v9 v4 S) ∧ (¬ (v8 = 0) → (inR v9 ∧ (¬ (v9 = 0) → wp_Mo_makeBoth_92 post k28 s0 v5 v6 v7 v8 v9 v4 S) ∧ (v9 = 0 → (wp_Mo_makeBoth_92 post k28 s0 v5 v6 v7 v8 v9 (v4 + 1) S))))
def wp_Mo_makeBoth_28 (post : Int → MS → Prop) : Nat → Int → Int → Int → Int → Int → MS → Prop
  | 0, _, _, _, _, _, _ => False
  | n + 1, v3, v4, v5, v6, v7, S => inR v7 ∧ inR (S.1 36) ∧ ((S.1 36) ≤ v7 → (inR v4 ∧ (¬ (v4 = 1) → post 0 S) ∧ (v4 = 1 → (inR v5 ∧ inR (v3 + 1) ∧ (v5 = (v3 + 1) → ((∀ S_1 : MS, S_1 = ms_i S 33 0 → ∃ n0 : Nat, wp_Mo_makeBoth_186 post n0 v3 v6 0 S_1))) ∧ (¬ (v5 = (v3 + 1)) → post 0 S))))) ∧ (¬ ((S.1 36) ≤ v7) → (wp_Mo_isCommon (fun r_3 S_2 => dvR (v7 + 1) (S_2.1 36) ∧ (wp_Mo_isCommon (fun r_5 S_4 => inR r_3 ∧ (r_3 = 0 → wp_Mo_makeBoth_72 post (wp_Mo_makeBoth_28 post n) v4 v5 v6 v7 r_3 r_5 v3 S_4) ∧ (¬ (r_3 = 0) → (wp_Mo_makeBoth_72 post (wp_Mo_makeBoth_28 post n) v4 v5 v6 v7 r_3 r_5 (v3 + 1) S_4))) ((v7 + 1) % (S_2.1 36)) S_2)) v7 S))
def wp_Mo_makeBoth (post : Int → MS → Prop) (v1 : Int) (v2 : Int) (S : MS) : Prop := wp_Mo_refine (fun S_1 => wp_Mo_refine (fun S_3 => ∃ n0 : Nat, wp_Mo_makeBoth_28 post n0 0 0 0 0 0 S_3) v2 v1 0 S_1) v1 v2 1 S
set_option maxHeartbeats 4000000 in
set_option maxRecDepth 100000 in
theorem c_Mo_makeBoth (l : Launch) {D : va_G} {h : Nat} {ad : Nat → Nat} {kc : Nat → ClassId} {post : Int → MS → Prop} {v1 : Int} {v2 : Int} {S : MS} (hw : wp_Mo_makeBoth post v1 v2 S) : jMi l D h ad kc y_Mo_makeBoth prog_13_method_52_code 10 (some .boolean) 3 91 S [vi v1, vi v2] post := by
  refine j_moz (own := "LandBookModel") (by decide) rfl (Nat.le_of_ble_eq_true rfl) (fun X F K hret => ?_)
  have B255 : ∀ (n0 : Nat) (v3 : Int) (v7 : Int) (v8 : Int) (S : MS), wp_Mo_makeBoth_255 post n0 v3 v7 v8 S → jat l D X 10 255 [(0, .ref h), (3, vi v3), (7, vi v7), (8, vi v8)] [] (mw h ad kc S) 0 0 := by
    intro n0
    induction n0 with
    | zero => intro v3 v7 v8 S hw; exact hw.elim
    | succ n255 ih255 =>
      intro v3 v7 v8 S hw
      unfold wp_Mo_makeBoth_255 at hw
      refine j_iload F 3 d_Mo_makeBoth_255 rfl ?_
      refine j_aload_n F 0 d_Mo_makeBoth_257 rfl ?_
      refine m_geti F K 39 (by decide) rfl tj_280 rfl d_Mo_makeBoth_258 ?_
      refine j_iload_n F 1 d_Mo_makeBoth_261 rfl ?_
      refine j_isub F d_Mo_makeBoth_262 ?_
      obtain ⟨hc1, hc2, hwt, hwf⟩ := hw
      refine j_icmp_ge F 301 hc1 hc2 d_Mo_makeBoth_263 rfl (fun hh => ?_) (fun hh => ?_)
      · have hw := hwt hh
        refine j_aload_n F 0 d_Mo_makeBoth_301 rfl ?_
        refine m_callv F K (c_Mo_tidy l hw) (tw_gV tj_149 tj_150 tj_151 tj_87 tj_152) q_Mo_tidy rfl ⟨by decide, by decide⟩ ⟨Nat.zero_le _, Nat.zero_le _⟩ rfl (Nat.le_of_ble_eq_true rfl) d_Mo_makeBoth_302 (fun S_1 hw => ?_)
        refine j_iconst F d_Mo_makeBoth_305 ?_
        exact hret _ _ _ _ hw (Or.inr rfl) d_Mo_makeBoth_306
      · have hw := hwf hh
        refine j_aload_n F 0 d_Mo_makeBoth_266 rfl ?_
        refine j_aload_n F 0 d_Mo_makeBoth_267 rfl ?_
        refine m_geta F K 40 (by decide) (by decide) tj_283 rfl d_Mo_makeBoth_268 ?_
        refine j_iload F 2 d_Mo_makeBoth_271 rfl ?_
        obtain ⟨hc1, hw⟩ := hw
        refine m_iald F K 40 27 rfl rfl hc1 d_Mo_makeBoth_273 ?_
        refine j_aload_n F 0 d_Mo_makeBoth_274 rfl ?_
        refine m_geta F K 41 (by decide) (by decide) tj_284 rfl d_Mo_makeBoth_275 ?_
        refine j_iload F 2 d_Mo_makeBoth_278 rfl ?_
        obtain ⟨hc1, hw⟩ := hw
        refine m_iald F K 41 28 rfl rfl hc1 d_Mo_makeBoth_280 ?_
        refine m_callv F K (c_Mo_make l hw) (tw_gV tj_158 tj_159 tj_160 tj_87 tj_161) q_Mo_make rfl ⟨by decide, by decide⟩ ⟨Nat.zero_le _, Nat.zero_le _⟩ rfl (Nat.le_of_ble_eq_true rfl) d_Mo_makeBoth_281 (fun S_3 hw => ?_)
        refine j_iload F 2 d_Mo_makeBoth_284 rfl ?_
        refine j_iconst F d_Mo_makeBoth_286 ?_
        refine j_iadd F d_Mo_makeBoth_287 ?_
        refine j_aload_n F 0 d_Mo_makeBoth_288 rfl ?_
        refine m_geti F K 39 (by decide) rfl tj_280 rfl d_Mo_makeBoth_289 ?_
        obtain ⟨hc1, hw⟩ := hw
        refine j_irem F hc1 d_Mo_makeBoth_292 ?_
        refine j_nmi (fun v7_5 e_v7_5 => ?_)
        have hw := hw v7_5 e_v7_5
        refine j_istore F [(7, vi v7_5), (0, .ref h), (3, vi v3), (8, vi v8)] d_Mo_makeBoth_293 (by decide) rfl ?_
        refine j_iinc F 3 [(8, vi (v8 + 1)), (7, vi v7_5), (0, .ref h), (3, vi v3)] d_Mo_makeBoth_295 rfl (by decide) rfl ?_
        refine j_goto F 255 d_Mo_makeBoth_298 rfl ?_
        refine j_sub [2, 3, 1, 0] rfl ?_
        exact ih255 _ _ _ _ hw
  have B186 : ∀ (n0 : Nat) (v3 : Int) (v7 : Int) (v8 : Int) (S : MS), wp_Mo_makeBoth_186 post n0 v3 v7 v8 S → jat l D X 10 186 [(0, .ref h), (3, vi v3), (7, vi v7), (8, vi v8)] [] (mw h ad kc S) 0 0 := by
    intro n0
    induction n0 with
    | zero => intro v3 v7 v8 S hw; exact hw.elim
    | succ n186 ih186 =>
      intro v3 v7 v8 S hw
      unfold wp_Mo_makeBoth_186 at hw
      refine j_iload F 3 d_Mo_makeBoth_186 rfl ?_
      refine j_aload_n F 0 d_Mo_makeBoth_188 rfl ?_
      refine m_geti F K 36 (by decide) rfl tj_281 rfl d_Mo_makeBoth_189 ?_
      refine j_iload_n F 1 d_Mo_makeBoth_192 rfl ?_
      refine j_isub F d_Mo_makeBoth_193 ?_
      obtain ⟨hc1, hc2, hwt, hwf⟩ := hw
      refine j_icmp_ge F 232 hc1 hc2 d_Mo_makeBoth_194 rfl (fun hh => ?_) (fun hh => ?_)
      · have hw := hwt hh
        refine j_aload_n F 0 d_Mo_makeBoth_232 rfl ?_
        refine j_aload_n F 0 d_Mo_makeBoth_233 rfl ?_
        refine m_geta F K 37 (by decide) (by decide) tj_285 rfl d_Mo_makeBoth_234 ?_
        refine j_iload F 2 d_Mo_makeBoth_237 rfl ?_
        obtain ⟨hc1, hw⟩ := hw
        refine m_iald F K 37 25 rfl rfl hc1 d_Mo_makeBoth_239 ?_
        refine j_aload_n F 0 d_Mo_makeBoth_240 rfl ?_
        refine m_geta F K 38 (by decide) (by decide) tj_286 rfl d_Mo_makeBoth_241 ?_
        refine j_iload F 2 d_Mo_makeBoth_244 rfl ?_
        obtain ⟨hc1, hw⟩ := hw
        refine m_iald F K 38 26 rfl rfl hc1 d_Mo_makeBoth_246 ?_
        refine m_calli F K (c_Mo_inB l hw) (tw_gV tj_287 tj_288 tj_289 tj_87 tj_290) q_Mo_inB rfl ⟨by decide, by decide⟩ ⟨Nat.zero_le _, Nat.zero_le _⟩ rfl (Nat.le_of_ble_eq_true rfl) d_Mo_makeBoth_247 (fun r_2 S_1 hw => ?_)
        refine j_istore F [(7, vi r_2), (0, .ref h), (3, vi v3), (8, vi v8)] d_Mo_makeBoth_250 (by decide) rfl ?_
        refine j_iconst F d_Mo_makeBoth_252 ?_
        refine j_istore F [(8, vi 0), (7, vi r_2), (0, .ref h), (3, vi v3)] d_Mo_makeBoth_253 (by decide) rfl ?_
        refine j_sub [2, 3, 1, 0] rfl ?_
        obtain ⟨n0, hw⟩ := hw
        exact B255 n0 _ _ _ _ hw
      · have hw := hwf hh
        refine j_aload_n F 0 d_Mo_makeBoth_197 rfl ?_
        refine j_aload_n F 0 d_Mo_makeBoth_198 rfl ?_
        refine m_geta F K 37 (by decide) (by decide) tj_285 rfl d_Mo_makeBoth_199 ?_
        refine j_iload F 2 d_Mo_makeBoth_202 rfl ?_
        obtain ⟨hc1, hw⟩ := hw
        refine m_iald F K 37 25 rfl rfl hc1 d_Mo_makeBoth_204 ?_
        refine j_aload_n F 0 d_Mo_makeBoth_205 rfl ?_
        refine m_geta F K 38 (by decide) (by decide) tj_286 rfl d_Mo_makeBoth_206 ?_
        refine j_iload F 2 d_Mo_makeBoth_209 rfl ?_
        obtain ⟨hc1, hw⟩ := hw
        refine m_iald F K 38 26 rfl rfl hc1 d_Mo_makeBoth_211 ?_
        refine m_callv F K (c_Mo_make l hw) (tw_gV tj_158 tj_159 tj_160 tj_87 tj_161) q_Mo_make rfl ⟨by decide, by decide⟩ ⟨Nat.zero_le _, Nat.zero_le _⟩ rfl (Nat.le_of_ble_eq_true rfl) d_Mo_makeBoth_212 (fun S_3 hw => ?_)
        refine j_iload F 2 d_Mo_makeBoth_215 rfl ?_
        refine j_iconst F d_Mo_makeBoth_217 ?_
        refine j_iadd F d_Mo_makeBoth_218 ?_
        refine j_aload_n F 0 d_Mo_makeBoth_219 rfl ?_
        refine m_geti F K 36 (by decide) rfl tj_281 rfl d_Mo_makeBoth_220 ?_
        obtain ⟨hc1, hw⟩ := hw
        refine j_irem F hc1 d_Mo_makeBoth_223 ?_
        refine j_nmi (fun v7_5 e_v7_5 => ?_)
        have hw := hw v7_5 e_v7_5
        refine j_istore F [(7, vi v7_5), (0, .ref h), (3, vi v3), (8, vi v8)] d_Mo_makeBoth_224 (by decide) rfl ?_
        refine j_iinc F 3 [(8, vi (v8 + 1)), (7, vi v7_5), (0, .ref h), (3, vi v3)] d_Mo_makeBoth_226 rfl (by decide) rfl ?_
        refine j_goto F 186 d_Mo_makeBoth_229 rfl ?_
        refine j_sub [2, 3, 1, 0] rfl ?_
        exact ih186 _ _ _ _ hw
  have B28 : ∀ (n0 : Nat) (v3 : Int) (v4 : Int) (v5 : Int) (v6 : Int) (v7 : Int) (S : MS), wp_Mo_makeBoth_28 post n0 v3 v4 v5 v6 v7 S → jat l D X 10 28 [(0, .ref h), (3, vi v3), (4, vi v4), (5, vi v5), (6, vi v6), (7, vi v7)] [] (mw h ad kc S) 0 0 := by
    intro n0
    induction n0 with
    | zero => intro v3 v4 v5 v6 v7 S hw; exact hw.elim
    | succ n28 ih28 =>
      have B150 : ∀ (v3 : Int) (v4 : Int) (v6 : Int) (v7 : Int) (s0 : Int) (S : MS), wp_Mo_makeBoth_150 post (wp_Mo_makeBoth_28 post n28) v3 v4 v6 v7 s0 S → jat l D X 10 150 [(0, .ref h), (3, vi v3), (4, vi v4), (6, vi v6), (7, vi v7)] [vi s0] (mw h ad kc S) 0 0 := by
        intro v3 v4 v6 v7 s0 S hw
        unfold wp_Mo_makeBoth_150 at hw
        refine j_istore F [(5, vi s0), (0, .ref h), (3, vi v3), (4, vi v4), (6, vi v6), (7, vi v7)] d_Mo_makeBoth_150 (by decide) rfl ?_
        refine j_iinc F 5 [(7, vi (v7 + 1)), (5, vi s0), (0, .ref h), (3, vi v3), (4, vi v4), (6, vi v6)] d_Mo_makeBoth_152 rfl (by decide) rfl ?_
        refine j_goto F 28 d_Mo_makeBoth_155 rfl ?_
        refine j_sub [2, 3, 4, 1, 5, 0] rfl ?_
        exact ih28 _ _ _ _ _ _ hw
      have B118 : ∀ (v3 : Int) (v4 : Int) (v5 : Int) (v7 : Int) (s0 : Int) (S : MS), wp_Mo_makeBoth_118 post (wp_Mo_makeBoth_28 post n28) v3 v4 v5 v7 s0 S → jat l D X 10 118 [(0, .ref h), (3, vi v3), (4, vi v4), (5, vi v5), (7, vi v7)] [vi s0] (mw h ad kc S) 0 0 := by
        intro v3 v4 v5 v7 s0 S hw
        unfold wp_Mo_makeBoth_118 at hw
        refine j_istore F [(6, vi s0), (0, .ref h), (3, vi v3), (4, vi v4), (5, vi v5), (7, vi v7)] d_Mo_makeBoth_118 (by decide) rfl ?_
        refine j_aload_n F 1 d_Mo_makeBoth_120 rfl ?_
        refine j_aload_n F 1 d_Mo_makeBoth_121 rfl ?_
        refine m_geta F K 37 (by decide) (by decide) tj_285 rfl d_Mo_makeBoth_122 ?_
        refine j_iload F 5 d_Mo_makeBoth_125 rfl ?_
        obtain ⟨hc1, hw⟩ := hw
        refine m_iald F K 37 25 rfl rfl hc1 d_Mo_makeBoth_127 ?_
        refine j_aload_n F 1 d_Mo_makeBoth_128 rfl ?_
        refine m_geta F K 38 (by decide) (by decide) tj_286 rfl d_Mo_makeBoth_129 ?_
        refine j_iload F 5 d_Mo_makeBoth_132 rfl ?_
        obtain ⟨hc1, hw⟩ := hw
        refine m_iald F K 38 26 rfl rfl hc1 d_Mo_makeBoth_134 ?_
        refine m_calli F K (c_Mo_inB l hw) (tw_gV tj_287 tj_288 tj_289 tj_87 tj_290) q_Mo_inB rfl ⟨by decide, by decide⟩ ⟨Nat.zero_le _, Nat.zero_le _⟩ rfl (Nat.le_of_ble_eq_true rfl) d_Mo_makeBoth_135 (fun r_2 S_1 hw => ?_)
        obtain ⟨hc1, hwt, hwf⟩ := hw
        refine j_if_lt F 148 hc1 d_Mo_makeBoth_138 rfl (fun hh => ?_) (fun hh => ?_)
        · have hw := hwt hh
          refine j_iload F 4 d_Mo_makeBoth_148 rfl ?_
          refine j_sub [1, 2, 3, 0, 5] rfl ?_
          exact B150 _ _ _ _ _ _ hw
        · have hw := hwf hh
          refine j_iload F 4 d_Mo_makeBoth_141 rfl ?_
          refine j_iconst F d_Mo_makeBoth_143 ?_
          refine j_iadd F d_Mo_makeBoth_144 ?_
          refine j_goto F 150 d_Mo_makeBoth_145 rfl ?_
          refine j_sub [1, 2, 3, 0, 5] rfl ?_
          exact B150 _ _ _ _ _ _ hw
      have B92 : ∀ (v3 : Int) (v5 : Int) (v6 : Int) (v7 : Int) (v8 : Int) (v9 : Int) (s0 : Int) (S : MS), wp_Mo_makeBoth_92 post (wp_Mo_makeBoth_28 post n28) v3 v5 v6 v7 v8 v9 s0 S → jat l D X 10 92 [(0, .ref h), (3, vi v3), (5, vi v5), (6, vi v6), (7, vi v7), (8, vi v8), (9, vi v9)] [vi s0] (mw h ad kc S) 0 0 := by
        intro v3 v5 v6 v7 v8 v9 s0 S hw
        unfold wp_Mo_makeBoth_92 at hw
        refine j_istore F [(4, vi s0), (0, .ref h), (3, vi v3), (5, vi v5), (6, vi v6), (7, vi v7), (8, vi v8), (9, vi v9)] d_Mo_makeBoth_92 (by decide) rfl ?_
        refine j_iload F 6 d_Mo_makeBoth_94 rfl ?_
        obtain ⟨hc1, hwt, hwf⟩ := hw
        refine j_if_eq F 116 hc1 d_Mo_makeBoth_96 rfl (fun hh => ?_) (fun hh => ?_)
        · have hw := hwt hh
          refine j_iload F 4 d_Mo_makeBoth_116 rfl ?_
          refine j_sub [1, 2, 0, 3, 5] rfl ?_
          exact B118 _ _ _ _ _ _ hw
        · have hw := hwf hh
          refine j_iload F 7 d_Mo_makeBoth_99 rfl ?_
          obtain ⟨hc1, hwt, hwf⟩ := hw
          refine j_if_ne F 116 hc1 d_Mo_makeBoth_101 rfl (fun hh => ?_) (fun hh => ?_)
          · have hw := hwt hh
            refine j_iload F 4 d_Mo_makeBoth_116 rfl ?_
            refine j_sub [1, 2, 0, 3, 5] rfl ?_
            exact B118 _ _ _ _ _ _ hw
          · have hw := hwf hh
            refine j_iload F 5 d_Mo_makeBoth_104 rfl ?_
            refine j_iconst F d_Mo_makeBoth_106 ?_
            refine j_iadd F d_Mo_makeBoth_107 ?_
            refine j_aload_n F 1 d_Mo_makeBoth_108 rfl ?_
            refine m_geti F K 36 (by decide) rfl tj_281 rfl d_Mo_makeBoth_109 ?_
            obtain ⟨hc1, hw⟩ := hw
            refine j_irem F hc1 d_Mo_makeBoth_112 ?_
            refine j_goto F 118 d_Mo_makeBoth_113 rfl ?_
            refine j_sub [1, 2, 0, 3, 5] rfl ?_
            exact B118 _ _ _ _ _ _ hw
      have B72 : ∀ (v4 : Int) (v5 : Int) (v6 : Int) (v7 : Int) (v8 : Int) (v9 : Int) (s0 : Int) (S : MS), wp_Mo_makeBoth_72 post (wp_Mo_makeBoth_28 post n28) v4 v5 v6 v7 v8 v9 s0 S → jat l D X 10 72 [(0, .ref h), (4, vi v4), (5, vi v5), (6, vi v6), (7, vi v7), (8, vi v8), (9, vi v9)] [vi s0] (mw h ad kc S) 0 0 := by
        intro v4 v5 v6 v7 v8 v9 s0 S hw
        unfold wp_Mo_makeBoth_72 at hw
        refine j_istore_n F [(3, vi s0), (0, .ref h), (4, vi v4), (5, vi v5), (6, vi v6), (7, vi v7), (8, vi v8), (9, vi v9)] d_Mo_makeBoth_72 (by decide) rfl ?_
        refine j_iload F 6 d_Mo_makeBoth_73 rfl ?_
        obtain ⟨hc1, hwt, hwf⟩ := hw
        refine j_if_eq F 90 hc1 d_Mo_makeBoth_75 rfl (fun hh => ?_) (fun hh => ?_)
        · have hw := hwt hh
          refine j_iload F 2 d_Mo_makeBoth_90 rfl ?_
          refine j_sub [1, 0, 3, 4, 5, 6, 7] rfl ?_
          exact B92 _ _ _ _ _ _ _ _ hw
        · have hw := hwf hh
          refine j_iload F 7 d_Mo_makeBoth_78 rfl ?_
          obtain ⟨hc1, hwt, hwf⟩ := hw
          refine j_if_ne F 90 hc1 d_Mo_makeBoth_80 rfl (fun hh => ?_) (fun hh => ?_)
          · have hw := hwt hh
            refine j_iload F 2 d_Mo_makeBoth_90 rfl ?_
            refine j_sub [1, 0, 3, 4, 5, 6, 7] rfl ?_
            exact B92 _ _ _ _ _ _ _ _ hw
          · have hw := hwf hh
            refine j_iload F 2 d_Mo_makeBoth_83 rfl ?_
            refine j_iconst F d_Mo_makeBoth_85 ?_
            refine j_iadd F d_Mo_makeBoth_86 ?_
            refine j_goto F 92 d_Mo_makeBoth_87 rfl ?_
            refine j_sub [1, 0, 3, 4, 5, 6, 7] rfl ?_
            exact B92 _ _ _ _ _ _ _ _ hw
      intro v3 v4 v5 v6 v7 S hw
      unfold wp_Mo_makeBoth_28 at hw
      refine j_iload F 5 d_Mo_makeBoth_28 rfl ?_
      refine j_aload_n F 0 d_Mo_makeBoth_30 rfl ?_
      refine m_geti F K 36 (by decide) rfl tj_281 rfl d_Mo_makeBoth_31 ?_
      obtain ⟨hc1, hc2, hwt, hwf⟩ := hw
      refine j_icmp_ge F 158 hc1 hc2 d_Mo_makeBoth_34 rfl (fun hh => ?_) (fun hh => ?_)
      · have hw := hwt hh
        refine j_iload F 2 d_Mo_makeBoth_158 rfl ?_
        refine j_iconst F d_Mo_makeBoth_160 ?_
        obtain ⟨hc1, hwt, hwf⟩ := hw
        refine j_icmp_ne F 172 hc1 ⟨by decide, by decide⟩ d_Mo_makeBoth_161 rfl (fun hh => ?_) (fun hh => ?_)
        · have hw := hwt hh
          refine j_iconst F d_Mo_makeBoth_172 ?_
          exact hret _ _ _ _ hw (Or.inl rfl) d_Mo_makeBoth_173
        · have hw := hwf hh
          refine j_iload F 3 d_Mo_makeBoth_164 rfl ?_
          refine j_iload_n F 1 d_Mo_makeBoth_166 rfl ?_
          refine j_iconst F d_Mo_makeBoth_167 ?_
          refine j_iadd F d_Mo_makeBoth_168 ?_
          obtain ⟨hc1, hc2, hwt, hwf⟩ := hw
          refine j_icmp_eq F 174 hc1 hc2 d_Mo_makeBoth_169 rfl (fun hh => ?_) (fun hh => ?_)
          · have hw := hwt hh
            refine j_aload_n F 0 d_Mo_makeBoth_174 rfl ?_
            refine j_iconst F d_Mo_makeBoth_175 ?_
            refine m_puti F K 33 (by decide) rfl tj_121 rfl rfl (ty := .int) (by decide +kernel) rfl rfl d_Mo_makeBoth_176 (fun S_1 e_S_1 => ?_)
            have hw := hw S_1 e_S_1
            refine j_iload F 4 d_Mo_makeBoth_179 rfl ?_
            refine j_istore F [(7, vi v6), (0, .ref h), (3, vi v3), (4, vi v4), (5, vi v5), (6, vi v6)] d_Mo_makeBoth_181 (by decide) rfl ?_
            refine j_iconst F d_Mo_makeBoth_183 ?_
            refine j_istore F [(8, vi 0), (7, vi v6), (0, .ref h), (3, vi v3), (4, vi v4), (5, vi v5), (6, vi v6)] d_Mo_makeBoth_184 (by decide) rfl ?_
            refine j_sub [2, 3, 1, 0] rfl ?_
            obtain ⟨n0, hw⟩ := hw
            exact B186 n0 _ _ _ _ hw
          · have hw := hwf hh
            refine j_iconst F d_Mo_makeBoth_172 ?_
            exact hret _ _ _ _ hw (Or.inl rfl) d_Mo_makeBoth_173
      · have hw := hwf hh
        refine j_aload_n F 0 d_Mo_makeBoth_37 rfl ?_
        refine j_iload F 5 d_Mo_makeBoth_38 rfl ?_
        refine m_calli F K (c_Mo_isCommon l hw) (tw_gV tj_295 tj_296 tj_297 tj_87 tj_298) q_Mo_isCommon rfl ⟨by decide, by decide⟩ ⟨Nat.zero_le _, Nat.zero_le _⟩ rfl (Nat.le_of_ble_eq_true rfl) d_Mo_makeBoth_40 (fun r_3 S_2 hw => ?_)
        refine j_istore F [(8, vi r_3), (0, .ref h), (3, vi v3), (4, vi v4), (5, vi v5), (6, vi v6), (7, vi v7)] d_Mo_makeBoth_43 (by decide) rfl ?_
        refine j_aload_n F 1 d_Mo_makeBoth_45 rfl ?_
        refine j_iload F 6 d_Mo_makeBoth_46 rfl ?_
        refine j_iconst F d_Mo_makeBoth_48 ?_
        refine j_iadd F d_Mo_makeBoth_49 ?_
        refine j_aload_n F 1 d_Mo_makeBoth_50 rfl ?_
        refine m_geti F K 36 (by decide) rfl tj_281 rfl d_Mo_makeBoth_51 ?_
        obtain ⟨hc1, hw⟩ := hw
        refine j_irem F hc1 d_Mo_makeBoth_54 ?_
        refine m_calli F K (c_Mo_isCommon l hw) (tw_gV tj_295 tj_296 tj_297 tj_87 tj_298) q_Mo_isCommon rfl ⟨by decide, by decide⟩ ⟨Nat.zero_le _, Nat.zero_le _⟩ rfl (Nat.le_of_ble_eq_true rfl) d_Mo_makeBoth_55 (fun r_5 S_4 hw => ?_)
        refine j_istore F [(9, vi r_5), (8, vi r_3), (0, .ref h), (3, vi v3), (4, vi v4), (5, vi v5), (6, vi v6), (7, vi v7)] d_Mo_makeBoth_58 (by decide) rfl ?_
        refine j_iload F 1 d_Mo_makeBoth_60 rfl ?_
        obtain ⟨hc1, hwt, hwf⟩ := hw
        refine j_if_eq F 71 hc1 d_Mo_makeBoth_62 rfl (fun hh => ?_) (fun hh => ?_)
        · have hw := hwt hh
          refine j_iload_n F 3 d_Mo_makeBoth_71 rfl ?_
          refine j_sub [2, 4, 5, 6, 7, 1, 0] rfl ?_
          exact B72 _ _ _ _ _ _ _ _ hw
        · have hw := hwf hh
          refine j_iload_n F 3 d_Mo_makeBoth_65 rfl ?_
          refine j_iconst F d_Mo_makeBoth_66 ?_
          refine j_iadd F d_Mo_makeBoth_67 ?_
          refine j_goto F 72 d_Mo_makeBoth_68 rfl ?_
          refine j_sub [2, 4, 5, 6, 7, 1, 0] rfl ?_
          exact B72 _ _ _ _ _ _ _ _ hw
  unfold wp_Mo_makeBoth at hw
  show jat l D X 10 0 [(0, .ref h), (1, vi v1), (2, vi v2)] [] (mw h ad kc S) 0 0
  refine j_aload_n F 0 d_Mo_makeBoth_0 rfl ?_
  refine j_iload_n F 1 d_Mo_makeBoth_1 rfl ?_
  refine j_iload_n F 2 d_Mo_makeBoth_2 rfl ?_
  refine j_iconst F d_Mo_makeBoth_3 ?_
  refine m_callv F K (c_Mo_refine l hw) (tw_gV tj_291 tj_292 tj_293 tj_87 tj_294) q_Mo_refine rfl ⟨by decide, by decide⟩ ⟨Nat.zero_le _, Nat.zero_le _⟩ rfl (Nat.le_of_ble_eq_true rfl) d_Mo_makeBoth_4 (fun S_1 hw => ?_)
  refine j_aload_n F 0 d_Mo_makeBoth_7 rfl ?_
  refine j_iload_n F 2 d_Mo_makeBoth_8 rfl ?_
  refine j_iload_n F 1 d_Mo_makeBoth_9 rfl ?_
  refine j_iconst F d_Mo_makeBoth_10 ?_
  refine m_callv F K (c_Mo_refine l hw) (tw_gV tj_291 tj_292 tj_293 tj_87 tj_294) q_Mo_refine rfl ⟨by decide, by decide⟩ ⟨Nat.zero_le _, Nat.zero_le _⟩ rfl (Nat.le_of_ble_eq_true rfl) d_Mo_makeBoth_11 (fun S_3 hw => ?_)
  refine j_iconst F d_Mo_makeBoth_14 ?_
  refine j_istore_n F [(3, vi 0), (0, .ref h), (1, vi v1), (2, vi v2)] d_Mo_makeBoth_15 (by decide) rfl ?_
  refine j_iconst F d_Mo_makeBoth_16 ?_
  refine j_istore F [(4, vi 0), (3, vi 0), (0, .ref h), (1, vi v1), (2, vi v2)] d_Mo_makeBoth_17 (by decide) rfl ?_
  refine j_iconst F d_Mo_makeBoth_19 ?_
  refine j_istore F [(5, vi 0), (4, vi 0), (3, vi 0), (0, .ref h), (1, vi v1), (2, vi v2)] d_Mo_makeBoth_20 (by decide) rfl ?_
  refine j_iconst F d_Mo_makeBoth_22 ?_
  refine j_istore F [(6, vi 0), (5, vi 0), (4, vi 0), (3, vi 0), (0, .ref h), (1, vi v1), (2, vi v2)] d_Mo_makeBoth_23 (by decide) rfl ?_
  refine j_iconst F d_Mo_makeBoth_25 ?_
  refine j_istore F [(7, vi 0), (6, vi 0), (5, vi 0), (4, vi 0), (3, vi 0), (0, .ref h), (1, vi v1), (2, vi v2)] d_Mo_makeBoth_26 (by decide) rfl ?_
  refine j_sub [5, 4, 3, 2, 1, 0] rfl ?_
  obtain ⟨n0, hw⟩ := hw
  exact B28 n0 _ _ _ _ _ _ hw
theorem tj_299 : (Jvm.Cond.methodLink "LandBookModel" (295 : Nat) ({ cls := "LandBookModel", name := "shareOf", desc := "(IIII)I" } : Jvm.MethodName)) ∈ tw_G := tw_in (List.mem_of_getElem? (i := 1378) (by decide +kernel)) rfl
theorem tj_300 : (Jvm.Cond.instanceMethod ({ cls := "LandBookModel", name := "shareOf", desc := "(IIII)I" } : Jvm.MethodName)) ∈ tw_G := tw_in (List.mem_of_getElem? (i := 1380) (by decide +kernel)) rfl
theorem tj_301 : (Jvm.Cond.selects "LandBookModel" ⟨"LandBookModel", "shareOf", "(IIII)I"⟩ ⟨"LandBookModel", "shareOf", "(IIII)I"⟩) ∈ tw_G := tw_in (List.mem_of_getElem? (i := 56) (by decide +kernel)) rfl
theorem tj_302 : (Jvm.Cond.code ({ cls := "LandBookModel", name := "shareOf", desc := "(IIII)I" } : Jvm.MethodName) prog_13_method_32_code (8 : Nat) (Option.some Jvm.ClassFile.FieldType.int)) ∈ tw_G := tw_in (List.mem_of_getElem? (i := 1381) (by decide +kernel)) rfl
abbrev y_Mo_haveSameShares : MethodName := ⟨"LandBookModel", "haveSameShares", "(III)Z"⟩
theorem q_Mo_haveSameShares : y_Mo_haveSameShares.cls = "LandBookModel" ∧ y_Mo_haveSameShares.cls ≠ "java/lang/invoke/MethodHandle" ∧ y_Mo_haveSameShares.cls ≠ "java/lang/invoke/VarHandle" ∧ (parseMethodDescriptor y_Mo_haveSameShares.desc).map (fun d => d.parameters.length) = some 3 := by decide +kernel
theorem d_Mo_haveSameShares_0 : decode prog_13_method_53_code 0 = .ok (.iconst 1, 1) := by decide +kernel
theorem d_Mo_haveSameShares_1 : decode prog_13_method_53_code 1 = .ok (.istore 4, 2) := by decide +kernel
theorem d_Mo_haveSameShares_3 : decode prog_13_method_53_code 3 = .ok (.iconst 0, 1) := by decide +kernel
theorem d_Mo_haveSameShares_4 : decode prog_13_method_53_code 4 = .ok (.istore 5, 2) := by decide +kernel
theorem d_Mo_haveSameShares_6 : decode prog_13_method_53_code 6 = .ok (.iload 5, 2) := by decide +kernel
theorem d_Mo_haveSameShares_8 : decode prog_13_method_53_code 8 = .ok (.bipush 100, 2) := by decide +kernel
theorem d_Mo_haveSameShares_10 : decode prog_13_method_53_code 10 = .ok (.if_icmp .ge 48, 3) := by decide +kernel
theorem d_Mo_haveSameShares_58 : decode prog_13_method_53_code 58 = .ok (.iload 4, 2) := by decide +kernel
theorem d_Mo_haveSameShares_60 : decode prog_13_method_53_code 60 = .ok (.ireturn, 1) := by decide +kernel
theorem d_Mo_haveSameShares_13 : decode prog_13_method_53_code 13 = .ok (.iload 4, 2) := by decide +kernel
theorem d_Mo_haveSameShares_15 : decode prog_13_method_53_code 15 = .ok (.ifCond .eq 34, 3) := by decide +kernel
theorem d_Mo_haveSameShares_49 : decode prog_13_method_53_code 49 = .ok (.iconst 0, 1) := by decide +kernel
theorem d_Mo_haveSameShares_18 : decode prog_13_method_53_code 18 = .ok (.aload_n 0, 1) := by decide +kernel
theorem d_Mo_haveSameShares_19 : decode prog_13_method_53_code 19 = .ok (.iload_n 1, 1) := by decide +kernel
theorem d_Mo_haveSameShares_20 : decode prog_13_method_53_code 20 = .ok (.iload 5, 2) := by decide +kernel
theorem d_Mo_haveSameShares_22 : decode prog_13_method_53_code 22 = .ok (.iload_n 3, 1) := by decide +kernel
theorem d_Mo_haveSameShares_23 : decode prog_13_method_53_code 23 = .ok (.aload_n 0, 1) := by decide +kernel
theorem d_Mo_haveSameShares_24 : decode prog_13_method_53_code 24 = .ok (.getfield 192, 3) := by decide +kernel
theorem d_Mo_haveSameShares_27 : decode prog_13_method_53_code 27 = .ok (.invokevirtual 295, 3) := by decide +kernel
theorem d_Mo_haveSameShares_30 : decode prog_13_method_53_code 30 = .ok (.aload_n 0, 1) := by decide +kernel
theorem d_Mo_haveSameShares_31 : decode prog_13_method_53_code 31 = .ok (.iload_n 2, 1) := by decide +kernel
theorem d_Mo_haveSameShares_32 : decode prog_13_method_53_code 32 = .ok (.iload 5, 2) := by decide +kernel
theorem d_Mo_haveSameShares_34 : decode prog_13_method_53_code 34 = .ok (.iload_n 3, 1) := by decide +kernel
theorem d_Mo_haveSameShares_35 : decode prog_13_method_53_code 35 = .ok (.aload_n 0, 1) := by decide +kernel
theorem d_Mo_haveSameShares_36 : decode prog_13_method_53_code 36 = .ok (.getfield 192, 3) := by decide +kernel
theorem d_Mo_haveSameShares_39 : decode prog_13_method_53_code 39 = .ok (.invokevirtual 295, 3) := by decide +kernel
theorem d_Mo_haveSameShares_42 : decode prog_13_method_53_code 42 = .ok (.if_icmp .ne 7, 3) := by decide +kernel
theorem d_Mo_haveSameShares_45 : decode prog_13_method_53_code 45 = .ok (.iconst 1, 1) := by decide +kernel
theorem d_Mo_haveSameShares_46 : decode prog_13_method_53_code 46 = .ok (.goto 4, 3) := by decide +kernel
theorem d_Mo_haveSameShares_50 : decode prog_13_method_53_code 50 = .ok (.istore 4, 2) := by decide +kernel
theorem d_Mo_haveSameShares_52 : decode prog_13_method_53_code 52 = .ok (.iinc 5 1, 3) := by decide +kernel
theorem d_Mo_haveSameShares_55 : decode prog_13_method_53_code 55 = .ok (.goto (-49), 3) := by decide +kernel
def wp_Mo_haveSameShares_50 (post : Int → MS → Prop) (k6 : Int → Int → Int → Int → Int → MS → Prop) (v1 : Int) (v2 : Int) (v3 : Int) (v5 : Int) (s0 : Int) (S : MS) : Prop := k6 v1 v2 v3 s0 (v5 + 1) S
def wp_Mo_haveSameShares_6 (post : Int → MS → Prop) : Nat → Int → Int → Int → Int → Int → MS → Prop
  | 0, _, _, _, _, _, _ => False
  | n + 1, v1, v2, v3, v4, v5, S => inR v5 ∧ (100 ≤ v5 → (b01 v4 ∧ post v4 S)) ∧ (¬ (100 ≤ v5) → (inR v4 ∧ (v4 = 0 → wp_Mo_haveSameShares_50 post (wp_Mo_haveSameShares_6 post n) v1 v2 v3 v5 0 S) ∧ (¬ (v4 = 0) → (wp_Mo_shareOf (fun r_2 S_1 => wp_Mo_shareOf (fun r_4 S_3 => inR r_2 ∧ inR r_4 ∧ (¬ (r_2 = r_4) → wp_Mo_haveSameShares_50 post (wp_Mo_haveSameShares_6 post n) v1 v2 v3 v5 0 S_3) ∧ (r_2 = r_4 → wp_Mo_haveSameShares_50 post (wp_Mo_haveSameShares_6 post n) v1 v2 v3 v5 1 S_3)) v2 v5 v3 (S_1.1 15) S_1) v1 v5 v3 (S.1 15) S))))
def wp_Mo_haveSameShares (post : Int → MS → Prop) (v1 : Int) (v2 : Int) (v3 : Int) (S : MS) : Prop := ∃ n0 : Nat, wp_Mo_haveSameShares_6 post n0 v1 v2 v3 1 0 S
set_option maxHeartbeats 4000000 in
set_option maxRecDepth 100000 in
theorem c_Mo_haveSameShares (l : Launch) {D : va_G} {h : Nat} {ad : Nat → Nat} {kc : Nat → ClassId} {post : Int → MS → Prop} {v1 : Int} {v2 : Int} {v3 : Int} {S : MS} (hw : wp_Mo_haveSameShares post v1 v2 v3 S) : jMi l D h ad kc y_Mo_haveSameShares prog_13_method_53_code 6 (some .boolean) 2 50 S [vi v1, vi v2, vi v3] post := by
  refine j_moz (own := "LandBookModel") (by decide) rfl (Nat.le_of_ble_eq_true rfl) (fun X F K hret => ?_)
  have B6 : ∀ (n0 : Nat) (v1 : Int) (v2 : Int) (v3 : Int) (v4 : Int) (v5 : Int) (S : MS), wp_Mo_haveSameShares_6 post n0 v1 v2 v3 v4 v5 S → jat l D X 6 6 [(0, .ref h), (1, vi v1), (2, vi v2), (3, vi v3), (4, vi v4), (5, vi v5)] [] (mw h ad kc S) 0 0 := by
    intro n0
    induction n0 with
    | zero => intro v1 v2 v3 v4 v5 S hw; exact hw.elim
    | succ n6 ih6 =>
      have B50 : ∀ (v1 : Int) (v2 : Int) (v3 : Int) (v5 : Int) (s0 : Int) (S : MS), wp_Mo_haveSameShares_50 post (wp_Mo_haveSameShares_6 post n6) v1 v2 v3 v5 s0 S → jat l D X 6 50 [(0, .ref h), (1, vi v1), (2, vi v2), (3, vi v3), (5, vi v5)] [vi s0] (mw h ad kc S) 0 0 := by
        intro v1 v2 v3 v5 s0 S hw
        unfold wp_Mo_haveSameShares_50 at hw
        refine j_istore F [(4, vi s0), (0, .ref h), (1, vi v1), (2, vi v2), (3, vi v3), (5, vi v5)] d_Mo_haveSameShares_50 (by decide) rfl ?_
        refine j_iinc F 5 [(5, vi (v5 + 1)), (4, vi s0), (0, .ref h), (1, vi v1), (2, vi v2), (3, vi v3)] d_Mo_haveSameShares_52 rfl (by decide) rfl ?_
        refine j_goto F 6 d_Mo_haveSameShares_55 rfl ?_
        refine j_sub [2, 3, 4, 5, 1, 0] rfl ?_
        exact ih6 _ _ _ _ _ _ hw
      intro v1 v2 v3 v4 v5 S hw
      unfold wp_Mo_haveSameShares_6 at hw
      refine j_iload F 5 d_Mo_haveSameShares_6 rfl ?_
      refine j_bipush F d_Mo_haveSameShares_8 (j_bip (by decide) (by decide)) ?_
      obtain ⟨hc1, hwt, hwf⟩ := hw
      refine j_icmp_ge F 58 hc1 ⟨by decide, by decide⟩ d_Mo_haveSameShares_10 rfl (fun hh => ?_) (fun hh => ?_)
      · have hw := hwt hh
        refine j_iload F 4 d_Mo_haveSameShares_58 rfl ?_
        exact hret _ _ _ _ hw.2 hw.1 d_Mo_haveSameShares_60
      · have hw := hwf hh
        refine j_iload F 4 d_Mo_haveSameShares_13 rfl ?_
        obtain ⟨hc1, hwt, hwf⟩ := hw
        refine j_if_eq F 49 hc1 d_Mo_haveSameShares_15 rfl (fun hh => ?_) (fun hh => ?_)
        · have hw := hwt hh
          refine j_iconst F d_Mo_haveSameShares_49 ?_
          refine j_sub [0, 1, 2, 3, 5] rfl ?_
          exact B50 _ _ _ _ _ _ hw
        · have hw := hwf hh
          refine j_aload_n F 0 d_Mo_haveSameShares_18 rfl ?_
          refine j_iload_n F 1 d_Mo_haveSameShares_19 rfl ?_
          refine j_iload F 5 d_Mo_haveSameShares_20 rfl ?_
          refine j_iload_n F 3 d_Mo_haveSameShares_22 rfl ?_
          refine j_aload_n F 0 d_Mo_haveSameShares_23 rfl ?_
          refine m_geti F K 15 (by decide) rfl tj_194 rfl d_Mo_haveSameShares_24 ?_
          refine m_calli F K (c_Mo_shareOf l hw) (tw_gV tj_299 tj_300 tj_301 tj_87 tj_302) q_Mo_shareOf rfl ⟨by decide, by decide⟩ ⟨Nat.zero_le _, Nat.zero_le _⟩ rfl (Nat.le_of_ble_eq_true rfl) d_Mo_haveSameShares_27 (fun r_2 S_1 hw => ?_)
          refine j_aload_n F 0 d_Mo_haveSameShares_30 rfl ?_
          refine j_iload_n F 2 d_Mo_haveSameShares_31 rfl ?_
          refine j_iload F 5 d_Mo_haveSameShares_32 rfl ?_
          refine j_iload_n F 3 d_Mo_haveSameShares_34 rfl ?_
          refine j_aload_n F 0 d_Mo_haveSameShares_35 rfl ?_
          refine m_geti F K 15 (by decide) rfl tj_194 rfl d_Mo_haveSameShares_36 ?_
          refine m_calli F K (c_Mo_shareOf l hw) (tw_gV tj_299 tj_300 tj_301 tj_87 tj_302) q_Mo_shareOf rfl ⟨by decide, by decide⟩ ⟨Nat.zero_le _, Nat.zero_le _⟩ rfl (Nat.le_of_ble_eq_true rfl) d_Mo_haveSameShares_39 (fun r_4 S_3 hw => ?_)
          obtain ⟨hc1, hc2, hwt, hwf⟩ := hw
          refine j_icmp_ne F 49 hc1 hc2 d_Mo_haveSameShares_42 rfl (fun hh => ?_) (fun hh => ?_)
          · have hw := hwt hh
            refine j_iconst F d_Mo_haveSameShares_49 ?_
            refine j_sub [0, 1, 2, 3, 5] rfl ?_
            exact B50 _ _ _ _ _ _ hw
          · have hw := hwf hh
            refine j_iconst F d_Mo_haveSameShares_45 ?_
            refine j_goto F 50 d_Mo_haveSameShares_46 rfl ?_
            refine j_sub [0, 1, 2, 3, 5] rfl ?_
            exact B50 _ _ _ _ _ _ hw
  unfold wp_Mo_haveSameShares at hw
  show jat l D X 6 0 [(0, .ref h), (1, vi v1), (2, vi v2), (3, vi v3)] [] (mw h ad kc S) 0 0
  refine j_iconst F d_Mo_haveSameShares_0 ?_
  refine j_istore F [(4, vi 1), (0, .ref h), (1, vi v1), (2, vi v2), (3, vi v3)] d_Mo_haveSameShares_1 (by decide) rfl ?_
  refine j_iconst F d_Mo_haveSameShares_3 ?_
  refine j_istore F [(5, vi 0), (4, vi 1), (0, .ref h), (1, vi v1), (2, vi v2), (3, vi v3)] d_Mo_haveSameShares_4 (by decide) rfl ?_
  refine j_sub [2, 3, 4, 5, 1, 0] rfl ?_
  obtain ⟨n0, hw⟩ := hw
  exact B6 n0 _ _ _ _ _ _ hw
theorem tj_303 : (Jvm.Cond.methodLink "LandBookModel" (299 : Nat) ({ cls := "LandBookModel", name := "makeBoth", desc := "(II)Z" } : Jvm.MethodName)) ∈ tw_G := tw_in (List.mem_of_getElem? (i := 1357) (by decide +kernel)) rfl
theorem tj_304 : (Jvm.Cond.instanceMethod ({ cls := "LandBookModel", name := "makeBoth", desc := "(II)Z" } : Jvm.MethodName)) ∈ tw_G := tw_in (List.mem_of_getElem? (i := 1359) (by decide +kernel)) rfl
theorem tj_305 : (Jvm.Cond.selects "LandBookModel" ⟨"LandBookModel", "makeBoth", "(II)Z"⟩ ⟨"LandBookModel", "makeBoth", "(II)Z"⟩) ∈ tw_G := tw_in (List.mem_of_getElem? (i := 51) (by decide +kernel)) rfl
theorem tj_306 : (Jvm.Cond.code ({ cls := "LandBookModel", name := "makeBoth", desc := "(II)Z" } : Jvm.MethodName) prog_13_method_52_code (10 : Nat) (Option.some Jvm.ClassFile.FieldType.boolean)) ∈ tw_G := tw_in (List.mem_of_getElem? (i := 1360) (by decide +kernel)) rfl
theorem tj_307 : (Jvm.Cond.methodLink "LandBookModel" (302 : Nat) ({ cls := "LandBookModel", name := "haveSameShares", desc := "(III)Z" } : Jvm.MethodName)) ∈ tw_G := tw_in (List.mem_of_getElem? (i := 1374) (by decide +kernel)) rfl
theorem tj_308 : (Jvm.Cond.instanceMethod ({ cls := "LandBookModel", name := "haveSameShares", desc := "(III)Z" } : Jvm.MethodName)) ∈ tw_G := tw_in (List.mem_of_getElem? (i := 1376) (by decide +kernel)) rfl
theorem tj_309 : (Jvm.Cond.selects "LandBookModel" ⟨"LandBookModel", "haveSameShares", "(III)Z"⟩ ⟨"LandBookModel", "haveSameShares", "(III)Z"⟩) ∈ tw_G := tw_in (List.mem_of_getElem? (i := 55) (by decide +kernel)) rfl
theorem tj_310 : (Jvm.Cond.code ({ cls := "LandBookModel", name := "haveSameShares", desc := "(III)Z" } : Jvm.MethodName) prog_13_method_53_code (6 : Nat) (Option.some Jvm.ClassFile.FieldType.boolean)) ∈ tw_G := tw_in (List.mem_of_getElem? (i := 1377) (by decide +kernel)) rfl
abbrev y_Mo_mergeNow : MethodName := ⟨"LandBookModel", "mergeNow", "(III)I"⟩
theorem q_Mo_mergeNow : y_Mo_mergeNow.cls = "LandBookModel" ∧ y_Mo_mergeNow.cls ≠ "java/lang/invoke/MethodHandle" ∧ y_Mo_mergeNow.cls ≠ "java/lang/invoke/VarHandle" ∧ (parseMethodDescriptor y_Mo_mergeNow.desc).map (fun d => d.parameters.length) = some 3 := by decide +kernel
theorem d_Mo_mergeNow_0 : decode prog_13_method_54_code 0 = .ok (.aload_n 0, 1) := by decide +kernel
theorem d_Mo_mergeNow_1 : decode prog_13_method_54_code 1 = .ok (.iload_n 1, 1) := by decide +kernel
theorem d_Mo_mergeNow_2 : decode prog_13_method_54_code 2 = .ok (.iload_n 3, 1) := by decide +kernel
theorem d_Mo_mergeNow_3 : decode prog_13_method_54_code 3 = .ok (.aload_n 0, 1) := by decide +kernel
theorem d_Mo_mergeNow_4 : decode prog_13_method_54_code 4 = .ok (.getfield 192, 3) := by decide +kernel
theorem d_Mo_mergeNow_7 : decode prog_13_method_54_code 7 = .ok (.invokevirtual 185, 3) := by decide +kernel
theorem d_Mo_mergeNow_10 : decode prog_13_method_54_code 10 = .ok (.ifCond .eq 16, 3) := by decide +kernel
theorem d_Mo_mergeNow_26 : decode prog_13_method_54_code 26 = .ok (.iconst (-1), 1) := by decide +kernel
theorem d_Mo_mergeNow_27 : decode prog_13_method_54_code 27 = .ok (.ireturn, 1) := by decide +kernel
theorem d_Mo_mergeNow_13 : decode prog_13_method_54_code 13 = .ok (.aload_n 0, 1) := by decide +kernel
theorem d_Mo_mergeNow_14 : decode prog_13_method_54_code 14 = .ok (.iload_n 2, 1) := by decide +kernel
theorem d_Mo_mergeNow_15 : decode prog_13_method_54_code 15 = .ok (.iload_n 3, 1) := by decide +kernel
theorem d_Mo_mergeNow_16 : decode prog_13_method_54_code 16 = .ok (.aload_n 0, 1) := by decide +kernel
theorem d_Mo_mergeNow_17 : decode prog_13_method_54_code 17 = .ok (.getfield 192, 3) := by decide +kernel
theorem d_Mo_mergeNow_20 : decode prog_13_method_54_code 20 = .ok (.invokevirtual 185, 3) := by decide +kernel
theorem d_Mo_mergeNow_23 : decode prog_13_method_54_code 23 = .ok (.ifCond .ne 5, 3) := by decide +kernel
theorem d_Mo_mergeNow_28 : decode prog_13_method_54_code 28 = .ok (.aload_n 0, 1) := by decide +kernel
theorem d_Mo_mergeNow_29 : decode prog_13_method_54_code 29 = .ok (.iload_n 1, 1) := by decide +kernel
theorem d_Mo_mergeNow_30 : decode prog_13_method_54_code 30 = .ok (.iload_n 3, 1) := by decide +kernel
theorem d_Mo_mergeNow_31 : decode prog_13_method_54_code 31 = .ok (.invokevirtual 241, 3) := by decide +kernel
theorem d_Mo_mergeNow_34 : decode prog_13_method_54_code 34 = .ok (.ifCond .ne 12, 3) := by decide +kernel
theorem d_Mo_mergeNow_46 : decode prog_13_method_54_code 46 = .ok (.bipush (-2), 2) := by decide +kernel
theorem d_Mo_mergeNow_48 : decode prog_13_method_54_code 48 = .ok (.ireturn, 1) := by decide +kernel
theorem d_Mo_mergeNow_37 : decode prog_13_method_54_code 37 = .ok (.aload_n 0, 1) := by decide +kernel
theorem d_Mo_mergeNow_38 : decode prog_13_method_54_code 38 = .ok (.iload_n 2, 1) := by decide +kernel
theorem d_Mo_mergeNow_39 : decode prog_13_method_54_code 39 = .ok (.iload_n 3, 1) := by decide +kernel
theorem d_Mo_mergeNow_40 : decode prog_13_method_54_code 40 = .ok (.invokevirtual 241, 3) := by decide +kernel
theorem d_Mo_mergeNow_43 : decode prog_13_method_54_code 43 = .ok (.ifCond .eq 6, 3) := by decide +kernel
theorem d_Mo_mergeNow_49 : decode prog_13_method_54_code 49 = .ok (.iload_n 1, 1) := by decide +kernel
theorem d_Mo_mergeNow_50 : decode prog_13_method_54_code 50 = .ok (.iload_n 2, 1) := by decide +kernel
theorem d_Mo_mergeNow_51 : decode prog_13_method_54_code 51 = .ok (.if_icmp .eq 22, 3) := by decide +kernel
theorem d_Mo_mergeNow_73 : decode prog_13_method_54_code 73 = .ok (.bipush (-3), 2) := by decide +kernel
theorem d_Mo_mergeNow_75 : decode prog_13_method_54_code 75 = .ok (.ireturn, 1) := by decide +kernel
theorem d_Mo_mergeNow_54 : decode prog_13_method_54_code 54 = .ok (.aload_n 0, 1) := by decide +kernel
theorem d_Mo_mergeNow_55 : decode prog_13_method_54_code 55 = .ok (.iload_n 1, 1) := by decide +kernel
theorem d_Mo_mergeNow_56 : decode prog_13_method_54_code 56 = .ok (.iload_n 2, 1) := by decide +kernel
theorem d_Mo_mergeNow_57 : decode prog_13_method_54_code 57 = .ok (.invokevirtual 299, 3) := by decide +kernel
theorem d_Mo_mergeNow_60 : decode prog_13_method_54_code 60 = .ok (.ifCond .eq 13, 3) := by decide +kernel
theorem d_Mo_mergeNow_63 : decode prog_13_method_54_code 63 = .ok (.aload_n 0, 1) := by decide +kernel
theorem d_Mo_mergeNow_64 : decode prog_13_method_54_code 64 = .ok (.iload_n 1, 1) := by decide +kernel
theorem d_Mo_mergeNow_65 : decode prog_13_method_54_code 65 = .ok (.iload_n 2, 1) := by decide +kernel
theorem d_Mo_mergeNow_66 : decode prog_13_method_54_code 66 = .ok (.iload_n 3, 1) := by decide +kernel
theorem d_Mo_mergeNow_67 : decode prog_13_method_54_code 67 = .ok (.invokevirtual 302, 3) := by decide +kernel
theorem d_Mo_mergeNow_70 : decode prog_13_method_54_code 70 = .ok (.ifCond .ne 6, 3) := by decide +kernel
theorem d_Mo_mergeNow_76 : decode prog_13_method_54_code 76 = .ok (.aload_n 0, 1) := by decide +kernel
theorem d_Mo_mergeNow_77 : decode prog_13_method_54_code 77 = .ok (.getfield 132, 3) := by decide +kernel
theorem d_Mo_mergeNow_80 : decode prog_13_method_54_code 80 = .ok (.bipush 60, 2) := by decide +kernel
theorem d_Mo_mergeNow_82 : decode prog_13_method_54_code 82 = .ok (.if_icmp .gt 14, 3) := by decide +kernel
theorem d_Mo_mergeNow_96 : decode prog_13_method_54_code 96 = .ok (.bipush (-4), 2) := by decide +kernel
theorem d_Mo_mergeNow_98 : decode prog_13_method_54_code 98 = .ok (.ireturn, 1) := by decide +kernel
theorem d_Mo_mergeNow_85 : decode prog_13_method_54_code 85 = .ok (.aload_n 0, 1) := by decide +kernel
theorem d_Mo_mergeNow_86 : decode prog_13_method_54_code 86 = .ok (.iconst 1, 1) := by decide +kernel
theorem d_Mo_mergeNow_87 : decode prog_13_method_54_code 87 = .ok (.iconst 0, 1) := by decide +kernel
theorem d_Mo_mergeNow_88 : decode prog_13_method_54_code 88 = .ok (.iconst 2, 1) := by decide +kernel
theorem d_Mo_mergeNow_89 : decode prog_13_method_54_code 89 = .ok (.iconst 0, 1) := by decide +kernel
theorem d_Mo_mergeNow_90 : decode prog_13_method_54_code 90 = .ok (.invokevirtual 251, 3) := by decide +kernel
theorem d_Mo_mergeNow_93 : decode prog_13_method_54_code 93 = .ok (.ifCond .eq 6, 3) := by decide +kernel
theorem d_Mo_mergeNow_99 : decode prog_13_method_54_code 99 = .ok (.aload_n 0, 1) := by decide +kernel
theorem d_Mo_mergeNow_100 : decode prog_13_method_54_code 100 = .ok (.iconst 2, 1) := by decide +kernel
theorem d_Mo_mergeNow_101 : decode prog_13_method_54_code 101 = .ok (.iload_n 3, 1) := by decide +kernel
theorem d_Mo_mergeNow_102 : decode prog_13_method_54_code 102 = .ok (.iload_n 1, 1) := by decide +kernel
theorem d_Mo_mergeNow_103 : decode prog_13_method_54_code 103 = .ok (.iload_n 2, 1) := by decide +kernel
theorem d_Mo_mergeNow_104 : decode prog_13_method_54_code 104 = .ok (.iconst 0, 1) := by decide +kernel
theorem d_Mo_mergeNow_105 : decode prog_13_method_54_code 105 = .ok (.iconst 0, 1) := by decide +kernel
theorem d_Mo_mergeNow_106 : decode prog_13_method_54_code 106 = .ok (.invokevirtual 254, 3) := by decide +kernel
theorem d_Mo_mergeNow_109 : decode prog_13_method_54_code 109 = .ok (.istore 4, 2) := by decide +kernel
theorem d_Mo_mergeNow_111 : decode prog_13_method_54_code 111 = .ok (.aload_n 0, 1) := by decide +kernel
theorem d_Mo_mergeNow_112 : decode prog_13_method_54_code 112 = .ok (.getfield 28, 3) := by decide +kernel
theorem d_Mo_mergeNow_115 : decode prog_13_method_54_code 115 = .ok (.iload_n 1, 1) := by decide +kernel
theorem d_Mo_mergeNow_116 : decode prog_13_method_54_code 116 = .ok (.iload 4, 2) := by decide +kernel
theorem d_Mo_mergeNow_118 : decode prog_13_method_54_code 118 = .ok (.iastore, 1) := by decide +kernel
theorem d_Mo_mergeNow_119 : decode prog_13_method_54_code 119 = .ok (.aload_n 0, 1) := by decide +kernel
theorem d_Mo_mergeNow_120 : decode prog_13_method_54_code 120 = .ok (.getfield 28, 3) := by decide +kernel
theorem d_Mo_mergeNow_123 : decode prog_13_method_54_code 123 = .ok (.iload_n 2, 1) := by decide +kernel
theorem d_Mo_mergeNow_124 : decode prog_13_method_54_code 124 = .ok (.iload 4, 2) := by decide +kernel
theorem d_Mo_mergeNow_126 : decode prog_13_method_54_code 126 = .ok (.iastore, 1) := by decide +kernel
theorem d_Mo_mergeNow_127 : decode prog_13_method_54_code 127 = .ok (.aload_n 0, 1) := by decide +kernel
theorem d_Mo_mergeNow_128 : decode prog_13_method_54_code 128 = .ok (.iload 4, 2) := by decide +kernel
theorem d_Mo_mergeNow_130 : decode prog_13_method_54_code 130 = .ok (.iload_n 1, 1) := by decide +kernel
theorem d_Mo_mergeNow_131 : decode prog_13_method_54_code 131 = .ok (.iload_n 2, 1) := by decide +kernel
theorem d_Mo_mergeNow_132 : decode prog_13_method_54_code 132 = .ok (.invokestatic 217, 3) := by decide +kernel
theorem d_Mo_mergeNow_135 : decode prog_13_method_54_code 135 = .ok (.iload_n 1, 1) := by decide +kernel
theorem d_Mo_mergeNow_136 : decode prog_13_method_54_code 136 = .ok (.iload_n 2, 1) := by decide +kernel
theorem d_Mo_mergeNow_137 : decode prog_13_method_54_code 137 = .ok (.invokestatic 220, 3) := by decide +kernel
theorem d_Mo_mergeNow_140 : decode prog_13_method_54_code 140 = .ok (.invokevirtual 257, 3) := by decide +kernel
theorem d_Mo_mergeNow_143 : decode prog_13_method_54_code 143 = .ok (.aload_n 0, 1) := by decide +kernel
theorem d_Mo_mergeNow_144 : decode prog_13_method_54_code 144 = .ok (.invokevirtual 261, 3) := by decide +kernel
theorem d_Mo_mergeNow_147 : decode prog_13_method_54_code 147 = .ok (.aload_n 0, 1) := by decide +kernel
theorem d_Mo_mergeNow_148 : decode prog_13_method_54_code 148 = .ok (.getfield 173, 3) := by decide +kernel
theorem d_Mo_mergeNow_151 : decode prog_13_method_54_code 151 = .ok (.ireturn, 1) := by decide +kernel
def wp_Mo_mergeNow (post : Int → MS → Prop) (v1 : Int) (v2 : Int) (v3 : Int) (S : MS) : Prop := wp_Mo_isInBeing (fun r_2 S_1 => inR r_2 ∧ (r_2 = 0 → (post (-1) S_1)) ∧ (¬ (r_2 = 0) → (wp_Mo_isInBeing (fun r_4 S_3 => inR r_4 ∧ (¬ (r_4 = 0) → (wp_Mo_isLate (fun r_6 S_5 => inR r_6 ∧ (¬ (r_6 = 0) → (post (-2) S_5)) ∧ (r_6 = 0 → (wp_Mo_isLate (fun r_8 S_7 => inR r_8 ∧ (r_8 = 0 → (inR v1 ∧ inR v2 ∧ (v1 = v2 → (post (-3) S_7)) ∧ (¬ (v1 = v2) → (wp_Mo_makeBoth (fun r_10 S_9 => inR r_10 ∧ (r_10 = 0 → (post (-3) S_9)) ∧ (¬ (r_10 = 0) → (wp_Mo_haveSameShares (fun r_12 S_11 => inR r_12 ∧ (¬ (r_12 = 0) → (inR (S_11.1 33) ∧ (60 < (S_11.1 33) → (post (-4) S_11)) ∧ (¬ (60 < (S_11.1 33)) → (wp_Mo_isMuch (fun r_14 S_13 => inR r_14 ∧ (r_14 = 0 → (wp_Mo_accept (fun r_16 S_15 => ixR v1 302 ∧ (∀ S_17 : MS, S_17 = ms_a S_15 12 v1 r_16 → ixR v2 302 ∧ (∀ S_18 : MS, S_18 = ms_a S_17 12 v2 r_16 → wp_Mo_least (fun r_19 => wp_Mo_most (fun r_20 => wp_Mo_beget (fun S_21 => wp_Mo_settle (fun S_23 => post (S_23.1 7) S_23)  S_21) r_16 r_19 r_20 S_18) v1 v2) v1 v2))) 2 v3 v1 v2 0 0 S_13)) ∧ (¬ (r_14 = 0) → (post (-4) S_13))) 1 0 2 0 S_11)))) ∧ (r_12 = 0 → (post (-3) S_11))) v1 v2 v3 S_9))) v1 v2 S_7)))) ∧ (¬ (r_8 = 0) → (post (-2) S_7))) v2 v3 S_5))) v1 v3 S_3)) ∧ (r_4 = 0 → (post (-1) S_3))) v2 v3 (S_1.1 15) S_1))) v1 v3 (S.1 15) S
set_option maxHeartbeats 4000000 in
set_option maxRecDepth 100000 in
theorem c_Mo_mergeNow (l : Launch) {D : va_G} {h : Nat} {ad : Nat → Nat} {kc : Nat → ClassId} {post : Int → MS → Prop} {v1 : Int} {v2 : Int} {v3 : Int} {S : MS} (hw : wp_Mo_mergeNow post v1 v2 v3 S) : jMi l D h ad kc y_Mo_mergeNow prog_13_method_54_code 5 (some .int) 6 140 S [vi v1, vi v2, vi v3] post := by
  refine j_moi (own := "LandBookModel") (by decide) rfl (Nat.le_of_ble_eq_true rfl) (fun X F K hret => ?_)
  unfold wp_Mo_mergeNow at hw
  show jat l D X 5 0 [(0, .ref h), (1, vi v1), (2, vi v2), (3, vi v3)] [] (mw h ad kc S) 0 0
  refine j_aload_n F 0 d_Mo_mergeNow_0 rfl ?_
  refine j_iload_n F 1 d_Mo_mergeNow_1 rfl ?_
  refine j_iload_n F 3 d_Mo_mergeNow_2 rfl ?_
  refine j_aload_n F 0 d_Mo_mergeNow_3 rfl ?_
  refine m_geti F K 15 (by decide) rfl tj_194 rfl d_Mo_mergeNow_4 ?_
  refine m_calli F K (c_Mo_isInBeing l hw) (tw_gV tj_183 tj_184 tj_185 tj_87 tj_186) q_Mo_isInBeing rfl ⟨by decide, by decide⟩ ⟨Nat.zero_le _, Nat.zero_le _⟩ rfl (Nat.le_of_ble_eq_true rfl) d_Mo_mergeNow_7 (fun r_2 S_1 hw => ?_)
  obtain ⟨hc1, hwt, hwf⟩ := hw
  refine j_if_eq F 26 hc1 d_Mo_mergeNow_10 rfl (fun hh => ?_) (fun hh => ?_)
  · have hw := hwt hh
    refine j_iconst F d_Mo_mergeNow_26 ?_
    exact hret _ _ _ _ hw d_Mo_mergeNow_27
  · have hw := hwf hh
    refine j_aload_n F 0 d_Mo_mergeNow_13 rfl ?_
    refine j_iload_n F 2 d_Mo_mergeNow_14 rfl ?_
    refine j_iload_n F 3 d_Mo_mergeNow_15 rfl ?_
    refine j_aload_n F 0 d_Mo_mergeNow_16 rfl ?_
    refine m_geti F K 15 (by decide) rfl tj_194 rfl d_Mo_mergeNow_17 ?_
    refine m_calli F K (c_Mo_isInBeing l hw) (tw_gV tj_183 tj_184 tj_185 tj_87 tj_186) q_Mo_isInBeing rfl ⟨by decide, by decide⟩ ⟨Nat.zero_le _, Nat.zero_le _⟩ rfl (Nat.le_of_ble_eq_true rfl) d_Mo_mergeNow_20 (fun r_4 S_3 hw => ?_)
    obtain ⟨hc1, hwt, hwf⟩ := hw
    refine j_if_ne F 28 hc1 d_Mo_mergeNow_23 rfl (fun hh => ?_) (fun hh => ?_)
    · have hw := hwt hh
      refine j_aload_n F 0 d_Mo_mergeNow_28 rfl ?_
      refine j_iload_n F 1 d_Mo_mergeNow_29 rfl ?_
      refine j_iload_n F 3 d_Mo_mergeNow_30 rfl ?_
      refine m_calli F K (c_Mo_isLate l hw) (tw_gV tj_240 tj_241 tj_242 tj_87 tj_243) q_Mo_isLate rfl ⟨by decide, by decide⟩ ⟨Nat.zero_le _, Nat.zero_le _⟩ rfl (Nat.le_of_ble_eq_true rfl) d_Mo_mergeNow_31 (fun r_6 S_5 hw => ?_)
      obtain ⟨hc1, hwt, hwf⟩ := hw
      refine j_if_ne F 46 hc1 d_Mo_mergeNow_34 rfl (fun hh => ?_) (fun hh => ?_)
      · have hw := hwt hh
        refine j_bipush F d_Mo_mergeNow_46 (j_bip (by decide) (by decide)) ?_
        exact hret _ _ _ _ hw d_Mo_mergeNow_48
      · have hw := hwf hh
        refine j_aload_n F 0 d_Mo_mergeNow_37 rfl ?_
        refine j_iload_n F 2 d_Mo_mergeNow_38 rfl ?_
        refine j_iload_n F 3 d_Mo_mergeNow_39 rfl ?_
        refine m_calli F K (c_Mo_isLate l hw) (tw_gV tj_240 tj_241 tj_242 tj_87 tj_243) q_Mo_isLate rfl ⟨by decide, by decide⟩ ⟨Nat.zero_le _, Nat.zero_le _⟩ rfl (Nat.le_of_ble_eq_true rfl) d_Mo_mergeNow_40 (fun r_8 S_7 hw => ?_)
        obtain ⟨hc1, hwt, hwf⟩ := hw
        refine j_if_eq F 49 hc1 d_Mo_mergeNow_43 rfl (fun hh => ?_) (fun hh => ?_)
        · have hw := hwt hh
          refine j_iload_n F 1 d_Mo_mergeNow_49 rfl ?_
          refine j_iload_n F 2 d_Mo_mergeNow_50 rfl ?_
          obtain ⟨hc1, hc2, hwt, hwf⟩ := hw
          refine j_icmp_eq F 73 hc1 hc2 d_Mo_mergeNow_51 rfl (fun hh => ?_) (fun hh => ?_)
          · have hw := hwt hh
            refine j_bipush F d_Mo_mergeNow_73 (j_bip (by decide) (by decide)) ?_
            exact hret _ _ _ _ hw d_Mo_mergeNow_75
          · have hw := hwf hh
            refine j_aload_n F 0 d_Mo_mergeNow_54 rfl ?_
            refine j_iload_n F 1 d_Mo_mergeNow_55 rfl ?_
            refine j_iload_n F 2 d_Mo_mergeNow_56 rfl ?_
            refine m_calli F K (c_Mo_makeBoth l hw) (tw_gV tj_303 tj_304 tj_305 tj_87 tj_306) q_Mo_makeBoth rfl ⟨by decide, by decide⟩ ⟨Nat.zero_le _, Nat.zero_le _⟩ rfl (Nat.le_of_ble_eq_true rfl) d_Mo_mergeNow_57 (fun r_10 S_9 hw => ?_)
            obtain ⟨hc1, hwt, hwf⟩ := hw
            refine j_if_eq F 73 hc1 d_Mo_mergeNow_60 rfl (fun hh => ?_) (fun hh => ?_)
            · have hw := hwt hh
              refine j_bipush F d_Mo_mergeNow_73 (j_bip (by decide) (by decide)) ?_
              exact hret _ _ _ _ hw d_Mo_mergeNow_75
            · have hw := hwf hh
              refine j_aload_n F 0 d_Mo_mergeNow_63 rfl ?_
              refine j_iload_n F 1 d_Mo_mergeNow_64 rfl ?_
              refine j_iload_n F 2 d_Mo_mergeNow_65 rfl ?_
              refine j_iload_n F 3 d_Mo_mergeNow_66 rfl ?_
              refine m_calli F K (c_Mo_haveSameShares l hw) (tw_gV tj_307 tj_308 tj_309 tj_87 tj_310) q_Mo_haveSameShares rfl ⟨by decide, by decide⟩ ⟨Nat.zero_le _, Nat.zero_le _⟩ rfl (Nat.le_of_ble_eq_true rfl) d_Mo_mergeNow_67 (fun r_12 S_11 hw => ?_)
              obtain ⟨hc1, hwt, hwf⟩ := hw
              refine j_if_ne F 76 hc1 d_Mo_mergeNow_70 rfl (fun hh => ?_) (fun hh => ?_)
              · have hw := hwt hh
                refine j_aload_n F 0 d_Mo_mergeNow_76 rfl ?_
                refine m_geti F K 33 (by decide) rfl tj_121 rfl d_Mo_mergeNow_77 ?_
                refine j_bipush F d_Mo_mergeNow_80 (j_bip (by decide) (by decide)) ?_
                obtain ⟨hc1, hwt, hwf⟩ := hw
                refine j_icmp_gt F 96 hc1 ⟨by decide, by decide⟩ d_Mo_mergeNow_82 rfl (fun hh => ?_) (fun hh => ?_)
                · have hw := hwt hh
                  refine j_bipush F d_Mo_mergeNow_96 (j_bip (by decide) (by decide)) ?_
                  exact hret _ _ _ _ hw d_Mo_mergeNow_98
                · have hw := hwf hh
                  refine j_aload_n F 0 d_Mo_mergeNow_85 rfl ?_
                  refine j_iconst F d_Mo_mergeNow_86 ?_
                  refine j_iconst F d_Mo_mergeNow_87 ?_
                  refine j_iconst F d_Mo_mergeNow_88 ?_
                  refine j_iconst F d_Mo_mergeNow_89 ?_
                  refine m_calli F K (c_Mo_isMuch l hw) (tw_gV tj_252 tj_253 tj_254 tj_87 tj_255) q_Mo_isMuch rfl ⟨by decide, by decide⟩ ⟨Nat.zero_le _, Nat.zero_le _⟩ rfl (Nat.le_of_ble_eq_true rfl) d_Mo_mergeNow_90 (fun r_14 S_13 hw => ?_)
                  obtain ⟨hc1, hwt, hwf⟩ := hw
                  refine j_if_eq F 99 hc1 d_Mo_mergeNow_93 rfl (fun hh => ?_) (fun hh => ?_)
                  · have hw := hwt hh
                    refine j_aload_n F 0 d_Mo_mergeNow_99 rfl ?_
                    refine j_iconst F d_Mo_mergeNow_100 ?_
                    refine j_iload_n F 3 d_Mo_mergeNow_101 rfl ?_
                    refine j_iload_n F 1 d_Mo_mergeNow_102 rfl ?_
                    refine j_iload_n F 2 d_Mo_mergeNow_103 rfl ?_
                    refine j_iconst F d_Mo_mergeNow_104 ?_
                    refine j_iconst F d_Mo_mergeNow_105 ?_
                    refine m_calli F K (c_Mo_accept l hw) (tw_gV tj_256 tj_257 tj_258 tj_87 tj_259) q_Mo_accept rfl ⟨by decide, by decide⟩ ⟨Nat.zero_le _, Nat.zero_le _⟩ rfl (Nat.le_of_ble_eq_true rfl) d_Mo_mergeNow_106 (fun r_16 S_15 hw => ?_)
                    refine j_istore F [(4, vi r_16), (0, .ref h), (1, vi v1), (2, vi v2), (3, vi v3)] d_Mo_mergeNow_109 (by decide) rfl ?_
                    refine j_aload_n F 1 d_Mo_mergeNow_111 rfl ?_
                    refine m_geta F K 12 (by decide) (by decide) tj_168 rfl d_Mo_mergeNow_112 ?_
                    refine j_iload_n F 2 d_Mo_mergeNow_115 rfl ?_
                    refine j_iload F 0 d_Mo_mergeNow_116 rfl ?_
                    obtain ⟨hc1, hw⟩ := hw
                    refine m_iast F K 12 6 rfl rfl hc1 d_Mo_mergeNow_118 (fun S_17 e_S_17 => ?_)
                    have hw := hw S_17 e_S_17
                    refine j_aload_n F 1 d_Mo_mergeNow_119 rfl ?_
                    refine m_geta F K 12 (by decide) (by decide) tj_168 rfl d_Mo_mergeNow_120 ?_
                    refine j_iload_n F 3 d_Mo_mergeNow_123 rfl ?_
                    refine j_iload F 0 d_Mo_mergeNow_124 rfl ?_
                    obtain ⟨hc1, hw⟩ := hw
                    refine m_iast F K 12 6 rfl rfl hc1 d_Mo_mergeNow_126 (fun S_18 e_S_18 => ?_)
                    have hw := hw S_18 e_S_18
                    refine j_aload_n F 1 d_Mo_mergeNow_127 rfl ?_
                    refine j_iload F 0 d_Mo_mergeNow_128 rfl ?_
                    refine j_iload_n F 2 d_Mo_mergeNow_130 rfl ?_
                    refine j_iload_n F 3 d_Mo_mergeNow_131 rfl ?_
                    refine j_callS F (c_Mo_least l hw) (tw_gS tj_98 tj_99 tj_87 tj_100) q_Mo_least rfl ⟨by decide, by decide⟩ ⟨Nat.zero_le _, Nat.zero_le _⟩ rfl (Nat.le_of_ble_eq_true rfl) d_Mo_mergeNow_132 (fun r_19 hw => ?_)
                    refine j_iload_n F 2 d_Mo_mergeNow_135 rfl ?_
                    refine j_iload_n F 3 d_Mo_mergeNow_136 rfl ?_
                    refine j_callS F (c_Mo_most l hw) (tw_gS tj_101 tj_102 tj_87 tj_103) q_Mo_most rfl ⟨by decide, by decide⟩ ⟨Nat.zero_le _, Nat.zero_le _⟩ rfl (Nat.le_of_ble_eq_true rfl) d_Mo_mergeNow_137 (fun r_20 hw => ?_)
                    refine m_callv F K (c_Mo_beget l hw) (tw_gV tj_260 tj_261 tj_262 tj_87 tj_263) q_Mo_beget rfl ⟨by decide, by decide⟩ ⟨Nat.zero_le _, Nat.zero_le _⟩ rfl (Nat.le_of_ble_eq_true rfl) d_Mo_mergeNow_140 (fun S_21 hw => ?_)
                    refine j_aload_n F 1 d_Mo_mergeNow_143 rfl ?_
                    refine m_callv F K (c_Mo_settle l hw) (tw_gV tj_264 tj_265 tj_266 tj_87 tj_267) q_Mo_settle rfl ⟨by decide, by decide⟩ ⟨Nat.zero_le _, Nat.zero_le _⟩ rfl (Nat.le_of_ble_eq_true rfl) d_Mo_mergeNow_144 (fun S_23 hw => ?_)
                    refine j_aload_n F 1 d_Mo_mergeNow_147 rfl ?_
                    refine m_geti F K 7 (by decide) rfl tj_157 rfl d_Mo_mergeNow_148 ?_
                    exact hret _ _ _ _ hw d_Mo_mergeNow_151
                  · have hw := hwf hh
                    refine j_bipush F d_Mo_mergeNow_96 (j_bip (by decide) (by decide)) ?_
                    exact hret _ _ _ _ hw d_Mo_mergeNow_98
              · have hw := hwf hh
                refine j_bipush F d_Mo_mergeNow_73 (j_bip (by decide) (by decide)) ?_
                exact hret _ _ _ _ hw d_Mo_mergeNow_75
        · have hw := hwf hh
          refine j_bipush F d_Mo_mergeNow_46 (j_bip (by decide) (by decide)) ?_
          exact hret _ _ _ _ hw d_Mo_mergeNow_48
    · have hw := hwf hh
      refine j_iconst F d_Mo_mergeNow_26 ?_
      exact hret _ _ _ _ hw d_Mo_mergeNow_27
theorem tj_311 : (Jvm.Cond.methodLink "LandBookModel" (305 : Nat) ({ cls := "LandBookModel", name := "mergeNow", desc := "(III)I" } : Jvm.MethodName)) ∈ tw_G := tw_in (List.mem_of_getElem? (i := 1353) (by decide +kernel)) rfl
theorem tj_312 : (Jvm.Cond.instanceMethod ({ cls := "LandBookModel", name := "mergeNow", desc := "(III)I" } : Jvm.MethodName)) ∈ tw_G := tw_in (List.mem_of_getElem? (i := 1355) (by decide +kernel)) rfl
theorem tj_313 : (Jvm.Cond.selects "LandBookModel" ⟨"LandBookModel", "mergeNow", "(III)I"⟩ ⟨"LandBookModel", "mergeNow", "(III)I"⟩) ∈ tw_G := tw_in (List.mem_of_getElem? (i := 50) (by decide +kernel)) rfl
theorem tj_314 : (Jvm.Cond.code ({ cls := "LandBookModel", name := "mergeNow", desc := "(III)I" } : Jvm.MethodName) prog_13_method_54_code (5 : Nat) (Option.some Jvm.ClassFile.FieldType.int)) ∈ tw_G := tw_in (List.mem_of_getElem? (i := 1356) (by decide +kernel)) rfl
abbrev y_Mo_merge : MethodName := ⟨"LandBookModel", "merge", "(III)I"⟩
theorem q_Mo_merge : y_Mo_merge.cls = "LandBookModel" ∧ y_Mo_merge.cls ≠ "java/lang/invoke/MethodHandle" ∧ y_Mo_merge.cls ≠ "java/lang/invoke/VarHandle" ∧ (parseMethodDescriptor y_Mo_merge.desc).map (fun d => d.parameters.length) = some 3 := by decide +kernel
theorem d_Mo_merge_0 : decode prog_13_method_55_code 0 = .ok (.aload_n 0, 1) := by decide +kernel
theorem d_Mo_merge_1 : decode prog_13_method_55_code 1 = .ok (.aload_n 0, 1) := by decide +kernel
theorem d_Mo_merge_2 : decode prog_13_method_55_code 2 = .ok (.invokevirtual 264, 3) := by decide +kernel
theorem d_Mo_merge_5 : decode prog_13_method_55_code 5 = .ok (.ifCond .ne 7, 3) := by decide +kernel
theorem d_Mo_merge_12 : decode prog_13_method_55_code 12 = .ok (.aload_n 0, 1) := by decide +kernel
theorem d_Mo_merge_13 : decode prog_13_method_55_code 13 = .ok (.iload_n 1, 1) := by decide +kernel
theorem d_Mo_merge_14 : decode prog_13_method_55_code 14 = .ok (.invokevirtual 268, 3) := by decide +kernel
theorem d_Mo_merge_17 : decode prog_13_method_55_code 17 = .ok (.ifCond .eq 11, 3) := by decide +kernel
theorem d_Mo_merge_28 : decode prog_13_method_55_code 28 = .ok (.iconst 2, 1) := by decide +kernel
theorem d_Mo_merge_29 : decode prog_13_method_55_code 29 = .ok (.goto 15, 3) := by decide +kernel
theorem d_Mo_merge_20 : decode prog_13_method_55_code 20 = .ok (.aload_n 0, 1) := by decide +kernel
theorem d_Mo_merge_21 : decode prog_13_method_55_code 21 = .ok (.iload_n 2, 1) := by decide +kernel
theorem d_Mo_merge_22 : decode prog_13_method_55_code 22 = .ok (.invokevirtual 268, 3) := by decide +kernel
theorem d_Mo_merge_25 : decode prog_13_method_55_code 25 = .ok (.ifCond .ne 7, 3) := by decide +kernel
theorem d_Mo_merge_32 : decode prog_13_method_55_code 32 = .ok (.iload_n 3, 1) := by decide +kernel
theorem d_Mo_merge_33 : decode prog_13_method_55_code 33 = .ok (.invokestatic 271, 3) := by decide +kernel
theorem d_Mo_merge_36 : decode prog_13_method_55_code 36 = .ok (.ifCond .ne 7, 3) := by decide +kernel
theorem d_Mo_merge_43 : decode prog_13_method_55_code 43 = .ok (.iconst 0, 1) := by decide +kernel
theorem d_Mo_merge_39 : decode prog_13_method_55_code 39 = .ok (.iconst 3, 1) := by decide +kernel
theorem d_Mo_merge_40 : decode prog_13_method_55_code 40 = .ok (.goto 4, 3) := by decide +kernel
theorem d_Mo_merge_8 : decode prog_13_method_55_code 8 = .ok (.iconst 1, 1) := by decide +kernel
theorem d_Mo_merge_9 : decode prog_13_method_55_code 9 = .ok (.goto 35, 3) := by decide +kernel
theorem d_Mo_merge_44 : decode prog_13_method_55_code 44 = .ok (.putfield 98, 3) := by decide +kernel
theorem d_Mo_merge_47 : decode prog_13_method_55_code 47 = .ok (.aload_n 0, 1) := by decide +kernel
theorem d_Mo_merge_48 : decode prog_13_method_55_code 48 = .ok (.getfield 98, 3) := by decide +kernel
theorem d_Mo_merge_51 : decode prog_13_method_55_code 51 = .ok (.ifCond .le 7, 3) := by decide +kernel
theorem d_Mo_merge_58 : decode prog_13_method_55_code 58 = .ok (.aload_n 0, 1) := by decide +kernel
theorem d_Mo_merge_59 : decode prog_13_method_55_code 59 = .ok (.iload_n 1, 1) := by decide +kernel
theorem d_Mo_merge_60 : decode prog_13_method_55_code 60 = .ok (.iload_n 2, 1) := by decide +kernel
theorem d_Mo_merge_61 : decode prog_13_method_55_code 61 = .ok (.iload_n 3, 1) := by decide +kernel
theorem d_Mo_merge_62 : decode prog_13_method_55_code 62 = .ok (.invokevirtual 305, 3) := by decide +kernel
theorem d_Mo_merge_65 : decode prog_13_method_55_code 65 = .ok (.ireturn, 1) := by decide +kernel
theorem d_Mo_merge_54 : decode prog_13_method_55_code 54 = .ok (.iconst 0, 1) := by decide +kernel
theorem d_Mo_merge_55 : decode prog_13_method_55_code 55 = .ok (.goto 10, 3) := by decide +kernel
def wp_Mo_merge_44 (post : Int → MS → Prop) (v1 : Int) (v2 : Int) (v3 : Int) (s0 : Int) (S : MS) : Prop := (∀ S_1 : MS, S_1 = ms_i S 0 s0 → inR (S_1.1 0) ∧ ((S_1.1 0) ≤ 0 → (wp_Mo_mergeNow (fun r_3 S_2 => post r_3 S_2) v1 v2 v3 S_1)) ∧ (¬ ((S_1.1 0) ≤ 0) → post 0 S_1))
def wp_Mo_merge (post : Int → MS → Prop) (v1 : Int) (v2 : Int) (v3 : Int) (S : MS) : Prop := wp_Mo_isUp (fun r_2 S_1 => inR r_2 ∧ (¬ (r_2 = 0) → (wp_Mo_isLot (fun r_4 S_3 => inR r_4 ∧ (r_4 = 0 → wp_Mo_merge_44 post v1 v2 v3 2 S_3) ∧ (¬ (r_4 = 0) → (wp_Mo_isLot (fun r_6 S_5 => inR r_6 ∧ (¬ (r_6 = 0) → (wp_Mo_isDay (fun r_7 => inR r_7 ∧ (¬ (r_7 = 0) → wp_Mo_merge_44 post v1 v2 v3 0 S_5) ∧ (r_7 = 0 → wp_Mo_merge_44 post v1 v2 v3 3 S_5)) v3)) ∧ (r_6 = 0 → wp_Mo_merge_44 post v1 v2 v3 2 S_5)) v2 S_3))) v1 S_1)) ∧ (r_2 = 0 → wp_Mo_merge_44 post v1 v2 v3 1 S_1))  S
set_option maxHeartbeats 4000000 in
set_option maxRecDepth 100000 in
theorem c_Mo_merge (l : Launch) {D : va_G} {h : Nat} {ad : Nat → Nat} {kc : Nat → ClassId} {post : Int → MS → Prop} {v1 : Int} {v2 : Int} {v3 : Int} {S : MS} (hw : wp_Mo_merge post v1 v2 v3 S) : jMi l D h ad kc y_Mo_merge prog_13_method_55_code 4 (some .int) 7 164 S [vi v1, vi v2, vi v3] post := by
  refine j_moi (own := "LandBookModel") (by decide) rfl (Nat.le_of_ble_eq_true rfl) (fun X F K hret => ?_)
  have B44 : ∀ (v1 : Int) (v2 : Int) (v3 : Int) (s0 : Int) (S : MS), wp_Mo_merge_44 post v1 v2 v3 s0 S → jat l D X 4 44 [(0, .ref h), (1, vi v1), (2, vi v2), (3, vi v3)] [vi s0, .ref h] (mw h ad kc S) 0 0 := by
    intro v1 v2 v3 s0 S hw
    unfold wp_Mo_merge_44 at hw
    refine m_puti F K 0 (by decide) rfl tj_107 rfl rfl (ty := .int) (by decide +kernel) rfl rfl d_Mo_merge_44 (fun S_1 e_S_1 => ?_)
    have hw := hw S_1 e_S_1
    refine j_aload_n F 0 d_Mo_merge_47 rfl ?_
    refine m_geti F K 0 (by decide) rfl tj_107 rfl d_Mo_merge_48 ?_
    obtain ⟨hc1, hwt, hwf⟩ := hw
    refine j_if_le F 58 hc1 d_Mo_merge_51 rfl (fun hh => ?_) (fun hh => ?_)
    · have hw := hwt hh
      refine j_aload_n F 0 d_Mo_merge_58 rfl ?_
      refine j_iload_n F 1 d_Mo_merge_59 rfl ?_
      refine j_iload_n F 2 d_Mo_merge_60 rfl ?_
      refine j_iload_n F 3 d_Mo_merge_61 rfl ?_
      refine m_calli F K (c_Mo_mergeNow l hw) (tw_gV tj_311 tj_312 tj_313 tj_87 tj_314) q_Mo_mergeNow rfl ⟨by decide, by decide⟩ ⟨Nat.zero_le _, Nat.zero_le _⟩ rfl (Nat.le_of_ble_eq_true rfl) d_Mo_merge_62 (fun r_3 S_2 hw => ?_)
      exact hret _ _ _ _ hw d_Mo_merge_65
    · have hw := hwf hh
      refine j_iconst F d_Mo_merge_54 ?_
      refine j_goto F 65 d_Mo_merge_55 rfl ?_
      exact hret _ _ _ _ hw d_Mo_merge_65
  unfold wp_Mo_merge at hw
  show jat l D X 4 0 [(0, .ref h), (1, vi v1), (2, vi v2), (3, vi v3)] [] (mw h ad kc S) 0 0
  refine j_aload_n F 0 d_Mo_merge_0 rfl ?_
  refine j_aload_n F 0 d_Mo_merge_1 rfl ?_
  refine m_calli F K (c_Mo_isUp l hw) (tw_gV tj_268 tj_269 tj_270 tj_87 tj_271) q_Mo_isUp rfl ⟨by decide, by decide⟩ ⟨Nat.zero_le _, Nat.zero_le _⟩ rfl (Nat.le_of_ble_eq_true rfl) d_Mo_merge_2 (fun r_2 S_1 hw => ?_)
  obtain ⟨hc1, hwt, hwf⟩ := hw
  refine j_if_ne F 12 hc1 d_Mo_merge_5 rfl (fun hh => ?_) (fun hh => ?_)
  · have hw := hwt hh
    refine j_aload_n F 0 d_Mo_merge_12 rfl ?_
    refine j_iload_n F 1 d_Mo_merge_13 rfl ?_
    refine m_calli F K (c_Mo_isLot l hw) (tw_gV tj_272 tj_273 tj_274 tj_87 tj_275) q_Mo_isLot rfl ⟨by decide, by decide⟩ ⟨Nat.zero_le _, Nat.zero_le _⟩ rfl (Nat.le_of_ble_eq_true rfl) d_Mo_merge_14 (fun r_4 S_3 hw => ?_)
    obtain ⟨hc1, hwt, hwf⟩ := hw
    refine j_if_eq F 28 hc1 d_Mo_merge_17 rfl (fun hh => ?_) (fun hh => ?_)
    · have hw := hwt hh
      refine j_iconst F d_Mo_merge_28 ?_
      refine j_goto F 44 d_Mo_merge_29 rfl ?_
      exact B44 _ _ _ _ _ hw
    · have hw := hwf hh
      refine j_aload_n F 0 d_Mo_merge_20 rfl ?_
      refine j_iload_n F 2 d_Mo_merge_21 rfl ?_
      refine m_calli F K (c_Mo_isLot l hw) (tw_gV tj_272 tj_273 tj_274 tj_87 tj_275) q_Mo_isLot rfl ⟨by decide, by decide⟩ ⟨Nat.zero_le _, Nat.zero_le _⟩ rfl (Nat.le_of_ble_eq_true rfl) d_Mo_merge_22 (fun r_6 S_5 hw => ?_)
      obtain ⟨hc1, hwt, hwf⟩ := hw
      refine j_if_ne F 32 hc1 d_Mo_merge_25 rfl (fun hh => ?_) (fun hh => ?_)
      · have hw := hwt hh
        refine j_iload_n F 3 d_Mo_merge_32 rfl ?_
        refine j_callS F (c_Mo_isDay l hw) (tw_gS tj_104 tj_105 tj_87 tj_106) q_Mo_isDay rfl ⟨by decide, by decide⟩ ⟨Nat.zero_le _, Nat.zero_le _⟩ rfl (Nat.le_of_ble_eq_true rfl) d_Mo_merge_33 (fun r_7 hw => ?_)
        obtain ⟨hc1, hwt, hwf⟩ := hw
        refine j_if_ne F 43 hc1 d_Mo_merge_36 rfl (fun hh => ?_) (fun hh => ?_)
        · have hw := hwt hh
          refine j_iconst F d_Mo_merge_43 ?_
          exact B44 _ _ _ _ _ hw
        · have hw := hwf hh
          refine j_iconst F d_Mo_merge_39 ?_
          refine j_goto F 44 d_Mo_merge_40 rfl ?_
          exact B44 _ _ _ _ _ hw
      · have hw := hwf hh
        refine j_iconst F d_Mo_merge_28 ?_
        refine j_goto F 44 d_Mo_merge_29 rfl ?_
        exact B44 _ _ _ _ _ hw
  · have hw := hwf hh
    refine j_iconst F d_Mo_merge_8 ?_
    refine j_goto F 44 d_Mo_merge_9 rfl ?_
    exact B44 _ _ _ _ _ hw
theorem tj_315 : (Jvm.Cond.methodLink "LandBookModel" (308 : Nat) ({ cls := "LandBookModel", name := "isPerson", desc := "(I)Z" } : Jvm.MethodName)) ∈ tw_G := tw_in (List.mem_of_getElem? (i := 1386) (by decide +kernel)) rfl
theorem tj_316 : (Jvm.Cond.static ({ cls := "LandBookModel", name := "isPerson", desc := "(I)Z" } : Jvm.MethodName)) ∈ tw_G := tw_in (List.mem_of_getElem? (i := 1387) (by decide +kernel)) rfl
theorem tj_317 : (Jvm.Cond.code ({ cls := "LandBookModel", name := "isPerson", desc := "(I)Z" } : Jvm.MethodName) prog_13_method_56_code (1 : Nat) (Option.some Jvm.ClassFile.FieldType.boolean)) ∈ tw_G := tw_in (List.mem_of_getElem? (i := 1388) (by decide +kernel)) rfl
abbrev y_Mo_transfer : MethodName := ⟨"LandBookModel", "transfer", "(IIIIII)I"⟩
theorem q_Mo_transfer : y_Mo_transfer.cls = "LandBookModel" ∧ y_Mo_transfer.cls ≠ "java/lang/invoke/MethodHandle" ∧ y_Mo_transfer.cls ≠ "java/lang/invoke/VarHandle" ∧ (parseMethodDescriptor y_Mo_transfer.desc).map (fun d => d.parameters.length) = some 6 := by decide +kernel
theorem d_Mo_transfer_0 : decode prog_13_method_57_code 0 = .ok (.iload 6, 2) := by decide +kernel
theorem d_Mo_transfer_2 : decode prog_13_method_57_code 2 = .ok (.invokestatic 271, 3) := by decide +kernel
theorem d_Mo_transfer_5 : decode prog_13_method_57_code 5 = .ok (.ifCond .eq 49, 3) := by decide +kernel
theorem d_Mo_transfer_54 : decode prog_13_method_57_code 54 = .ok (.iconst 0, 1) := by decide +kernel
theorem d_Mo_transfer_8 : decode prog_13_method_57_code 8 = .ok (.iload_n 2, 1) := by decide +kernel
theorem d_Mo_transfer_9 : decode prog_13_method_57_code 9 = .ok (.invokestatic 308, 3) := by decide +kernel
theorem d_Mo_transfer_12 : decode prog_13_method_57_code 12 = .ok (.ifCond .eq 42, 3) := by decide +kernel
theorem d_Mo_transfer_15 : decode prog_13_method_57_code 15 = .ok (.iload_n 3, 1) := by decide +kernel
theorem d_Mo_transfer_16 : decode prog_13_method_57_code 16 = .ok (.invokestatic 308, 3) := by decide +kernel
theorem d_Mo_transfer_19 : decode prog_13_method_57_code 19 = .ok (.ifCond .eq 35, 3) := by decide +kernel
theorem d_Mo_transfer_22 : decode prog_13_method_57_code 22 = .ok (.iload 4, 2) := by decide +kernel
theorem d_Mo_transfer_24 : decode prog_13_method_57_code 24 = .ok (.iconst 1, 1) := by decide +kernel
theorem d_Mo_transfer_25 : decode prog_13_method_57_code 25 = .ok (.if_icmp .lt 29, 3) := by decide +kernel
theorem d_Mo_transfer_28 : decode prog_13_method_57_code 28 = .ok (.iload 4, 2) := by decide +kernel
theorem d_Mo_transfer_30 : decode prog_13_method_57_code 30 = .ok (.sipush 5040, 3) := by decide +kernel
theorem d_Mo_transfer_33 : decode prog_13_method_57_code 33 = .ok (.if_icmp .gt 21, 3) := by decide +kernel
theorem d_Mo_transfer_36 : decode prog_13_method_57_code 36 = .ok (.iload 5, 2) := by decide +kernel
theorem d_Mo_transfer_38 : decode prog_13_method_57_code 38 = .ok (.iconst 1, 1) := by decide +kernel
theorem d_Mo_transfer_39 : decode prog_13_method_57_code 39 = .ok (.if_icmp .lt 15, 3) := by decide +kernel
theorem d_Mo_transfer_42 : decode prog_13_method_57_code 42 = .ok (.iload 5, 2) := by decide +kernel
theorem d_Mo_transfer_44 : decode prog_13_method_57_code 44 = .ok (.sipush 5040, 3) := by decide +kernel
theorem d_Mo_transfer_47 : decode prog_13_method_57_code 47 = .ok (.if_icmp .gt 7, 3) := by decide +kernel
theorem d_Mo_transfer_50 : decode prog_13_method_57_code 50 = .ok (.iconst 1, 1) := by decide +kernel
theorem d_Mo_transfer_51 : decode prog_13_method_57_code 51 = .ok (.goto 4, 3) := by decide +kernel
theorem d_Mo_transfer_55 : decode prog_13_method_57_code 55 = .ok (.istore 7, 2) := by decide +kernel
theorem d_Mo_transfer_57 : decode prog_13_method_57_code 57 = .ok (.aload_n 0, 1) := by decide +kernel
theorem d_Mo_transfer_58 : decode prog_13_method_57_code 58 = .ok (.aload_n 0, 1) := by decide +kernel
theorem d_Mo_transfer_59 : decode prog_13_method_57_code 59 = .ok (.invokevirtual 264, 3) := by decide +kernel
theorem d_Mo_transfer_62 : decode prog_13_method_57_code 62 = .ok (.ifCond .ne 7, 3) := by decide +kernel
theorem d_Mo_transfer_69 : decode prog_13_method_57_code 69 = .ok (.aload_n 0, 1) := by decide +kernel
theorem d_Mo_transfer_70 : decode prog_13_method_57_code 70 = .ok (.iload_n 1, 1) := by decide +kernel
theorem d_Mo_transfer_71 : decode prog_13_method_57_code 71 = .ok (.invokevirtual 268, 3) := by decide +kernel
theorem d_Mo_transfer_74 : decode prog_13_method_57_code 74 = .ok (.ifCond .ne 7, 3) := by decide +kernel
theorem d_Mo_transfer_81 : decode prog_13_method_57_code 81 = .ok (.iload 7, 2) := by decide +kernel
theorem d_Mo_transfer_83 : decode prog_13_method_57_code 83 = .ok (.ifCond .ne 7, 3) := by decide +kernel
theorem d_Mo_transfer_90 : decode prog_13_method_57_code 90 = .ok (.iconst 0, 1) := by decide +kernel
theorem d_Mo_transfer_86 : decode prog_13_method_57_code 86 = .ok (.iconst 3, 1) := by decide +kernel
theorem d_Mo_transfer_87 : decode prog_13_method_57_code 87 = .ok (.goto 4, 3) := by decide +kernel
theorem d_Mo_transfer_77 : decode prog_13_method_57_code 77 = .ok (.iconst 2, 1) := by decide +kernel
theorem d_Mo_transfer_78 : decode prog_13_method_57_code 78 = .ok (.goto 13, 3) := by decide +kernel
theorem d_Mo_transfer_65 : decode prog_13_method_57_code 65 = .ok (.iconst 1, 1) := by decide +kernel
theorem d_Mo_transfer_66 : decode prog_13_method_57_code 66 = .ok (.goto 25, 3) := by decide +kernel
theorem d_Mo_transfer_91 : decode prog_13_method_57_code 91 = .ok (.putfield 98, 3) := by decide +kernel
theorem d_Mo_transfer_94 : decode prog_13_method_57_code 94 = .ok (.aload_n 0, 1) := by decide +kernel
theorem d_Mo_transfer_95 : decode prog_13_method_57_code 95 = .ok (.getfield 98, 3) := by decide +kernel
theorem d_Mo_transfer_98 : decode prog_13_method_57_code 98 = .ok (.ifCond .le 5, 3) := by decide +kernel
theorem d_Mo_transfer_103 : decode prog_13_method_57_code 103 = .ok (.aload_n 0, 1) := by decide +kernel
theorem d_Mo_transfer_104 : decode prog_13_method_57_code 104 = .ok (.iload_n 1, 1) := by decide +kernel
theorem d_Mo_transfer_105 : decode prog_13_method_57_code 105 = .ok (.iload 6, 2) := by decide +kernel
theorem d_Mo_transfer_107 : decode prog_13_method_57_code 107 = .ok (.aload_n 0, 1) := by decide +kernel
theorem d_Mo_transfer_108 : decode prog_13_method_57_code 108 = .ok (.getfield 192, 3) := by decide +kernel
theorem d_Mo_transfer_111 : decode prog_13_method_57_code 111 = .ok (.invokevirtual 185, 3) := by decide +kernel
theorem d_Mo_transfer_114 : decode prog_13_method_57_code 114 = .ok (.ifCond .ne 5, 3) := by decide +kernel
theorem d_Mo_transfer_119 : decode prog_13_method_57_code 119 = .ok (.aload_n 0, 1) := by decide +kernel
theorem d_Mo_transfer_120 : decode prog_13_method_57_code 120 = .ok (.iload_n 1, 1) := by decide +kernel
theorem d_Mo_transfer_121 : decode prog_13_method_57_code 121 = .ok (.iload 6, 2) := by decide +kernel
theorem d_Mo_transfer_123 : decode prog_13_method_57_code 123 = .ok (.invokevirtual 241, 3) := by decide +kernel
theorem d_Mo_transfer_126 : decode prog_13_method_57_code 126 = .ok (.ifCond .eq 6, 3) := by decide +kernel
theorem d_Mo_transfer_132 : decode prog_13_method_57_code 132 = .ok (.iload 4, 2) := by decide +kernel
theorem d_Mo_transfer_134 : decode prog_13_method_57_code 134 = .ok (.sipush 5040, 3) := by decide +kernel
theorem d_Mo_transfer_137 : decode prog_13_method_57_code 137 = .ok (.iload 5, 2) := by decide +kernel
theorem d_Mo_transfer_139 : decode prog_13_method_57_code 139 = .ok (.idiv, 1) := by decide +kernel
theorem d_Mo_transfer_140 : decode prog_13_method_57_code 140 = .ok (.imul, 1) := by decide +kernel
theorem d_Mo_transfer_141 : decode prog_13_method_57_code 141 = .ok (.istore 8, 2) := by decide +kernel
theorem d_Mo_transfer_143 : decode prog_13_method_57_code 143 = .ok (.iload_n 2, 1) := by decide +kernel
theorem d_Mo_transfer_144 : decode prog_13_method_57_code 144 = .ok (.iload_n 3, 1) := by decide +kernel
theorem d_Mo_transfer_145 : decode prog_13_method_57_code 145 = .ok (.if_icmp .eq 29, 3) := by decide +kernel
theorem d_Mo_transfer_174 : decode prog_13_method_57_code 174 = .ok (.bipush (-3), 2) := by decide +kernel
theorem d_Mo_transfer_176 : decode prog_13_method_57_code 176 = .ok (.ireturn, 1) := by decide +kernel
theorem d_Mo_transfer_148 : decode prog_13_method_57_code 148 = .ok (.sipush 5040, 3) := by decide +kernel
theorem d_Mo_transfer_151 : decode prog_13_method_57_code 151 = .ok (.iload 5, 2) := by decide +kernel
theorem d_Mo_transfer_153 : decode prog_13_method_57_code 153 = .ok (.irem, 1) := by decide +kernel
theorem d_Mo_transfer_154 : decode prog_13_method_57_code 154 = .ok (.ifCond .ne 20, 3) := by decide +kernel
theorem d_Mo_transfer_157 : decode prog_13_method_57_code 157 = .ok (.aload_n 0, 1) := by decide +kernel
theorem d_Mo_transfer_158 : decode prog_13_method_57_code 158 = .ok (.iload_n 1, 1) := by decide +kernel
theorem d_Mo_transfer_159 : decode prog_13_method_57_code 159 = .ok (.iload_n 2, 1) := by decide +kernel
theorem d_Mo_transfer_160 : decode prog_13_method_57_code 160 = .ok (.iload 6, 2) := by decide +kernel
theorem d_Mo_transfer_162 : decode prog_13_method_57_code 162 = .ok (.aload_n 0, 1) := by decide +kernel
theorem d_Mo_transfer_163 : decode prog_13_method_57_code 163 = .ok (.getfield 192, 3) := by decide +kernel
theorem d_Mo_transfer_166 : decode prog_13_method_57_code 166 = .ok (.invokevirtual 295, 3) := by decide +kernel
theorem d_Mo_transfer_169 : decode prog_13_method_57_code 169 = .ok (.iload 8, 2) := by decide +kernel
theorem d_Mo_transfer_171 : decode prog_13_method_57_code 171 = .ok (.if_icmp .ge 6, 3) := by decide +kernel
theorem d_Mo_transfer_177 : decode prog_13_method_57_code 177 = .ok (.aload_n 0, 1) := by decide +kernel
theorem d_Mo_transfer_178 : decode prog_13_method_57_code 178 = .ok (.iconst 0, 1) := by decide +kernel
theorem d_Mo_transfer_179 : decode prog_13_method_57_code 179 = .ok (.iconst 0, 1) := by decide +kernel
theorem d_Mo_transfer_180 : decode prog_13_method_57_code 180 = .ok (.iconst 3, 1) := by decide +kernel
theorem d_Mo_transfer_181 : decode prog_13_method_57_code 181 = .ok (.iconst 0, 1) := by decide +kernel
theorem d_Mo_transfer_182 : decode prog_13_method_57_code 182 = .ok (.invokevirtual 251, 3) := by decide +kernel
theorem d_Mo_transfer_185 : decode prog_13_method_57_code 185 = .ok (.ifCond .eq 6, 3) := by decide +kernel
theorem d_Mo_transfer_191 : decode prog_13_method_57_code 191 = .ok (.aload_n 0, 1) := by decide +kernel
theorem d_Mo_transfer_192 : decode prog_13_method_57_code 192 = .ok (.iconst 3, 1) := by decide +kernel
theorem d_Mo_transfer_193 : decode prog_13_method_57_code 193 = .ok (.iload 6, 2) := by decide +kernel
theorem d_Mo_transfer_195 : decode prog_13_method_57_code 195 = .ok (.iload_n 1, 1) := by decide +kernel
theorem d_Mo_transfer_196 : decode prog_13_method_57_code 196 = .ok (.iload_n 2, 1) := by decide +kernel
theorem d_Mo_transfer_197 : decode prog_13_method_57_code 197 = .ok (.iload_n 3, 1) := by decide +kernel
theorem d_Mo_transfer_198 : decode prog_13_method_57_code 198 = .ok (.iload 8, 2) := by decide +kernel
theorem d_Mo_transfer_200 : decode prog_13_method_57_code 200 = .ok (.invokevirtual 254, 3) := by decide +kernel
theorem d_Mo_transfer_203 : decode prog_13_method_57_code 203 = .ok (.istore 9, 2) := by decide +kernel
theorem d_Mo_transfer_205 : decode prog_13_method_57_code 205 = .ok (.aload_n 0, 1) := by decide +kernel
theorem d_Mo_transfer_206 : decode prog_13_method_57_code 206 = .ok (.invokevirtual 261, 3) := by decide +kernel
theorem d_Mo_transfer_209 : decode prog_13_method_57_code 209 = .ok (.iload 9, 2) := by decide +kernel
theorem d_Mo_transfer_211 : decode prog_13_method_57_code 211 = .ok (.ireturn, 1) := by decide +kernel
theorem d_Mo_transfer_188 : decode prog_13_method_57_code 188 = .ok (.bipush (-4), 2) := by decide +kernel
theorem d_Mo_transfer_190 : decode prog_13_method_57_code 190 = .ok (.ireturn, 1) := by decide +kernel
theorem d_Mo_transfer_129 : decode prog_13_method_57_code 129 = .ok (.bipush (-2), 2) := by decide +kernel
theorem d_Mo_transfer_131 : decode prog_13_method_57_code 131 = .ok (.ireturn, 1) := by decide +kernel
theorem d_Mo_transfer_117 : decode prog_13_method_57_code 117 = .ok (.iconst (-1), 1) := by decide +kernel
theorem d_Mo_transfer_118 : decode prog_13_method_57_code 118 = .ok (.ireturn, 1) := by decide +kernel
theorem d_Mo_transfer_101 : decode prog_13_method_57_code 101 = .ok (.iconst 0, 1) := by decide +kernel
theorem d_Mo_transfer_102 : decode prog_13_method_57_code 102 = .ok (.ireturn, 1) := by decide +kernel
def wp_Mo_transfer_91 (post : Int → MS → Prop) (v1 : Int) (v2 : Int) (v3 : Int) (v4 : Int) (v5 : Int) (v6 : Int) (s0 : Int) (S : MS) : Prop := (∀ S_1 : MS, S_1 = ms_i S 0 s0 → inR (S_1.1 0) ∧ ((S_1.1 0) ≤ 0 → (wp_Mo_isInBeing (fun r_3 S_2 => inR r_3 ∧ (¬ (r_3 = 0) → (wp_Mo_isLate (fun r_5 S_4 => inR r_5 ∧ (r_5 = 0 → (dvR 5040 v5 ∧ (∀ v8_6 : Int, v8_6 = (v4 * (5040 / v5)) → inR v2 ∧ inR v3 ∧ (v2 = v3 → (post (-3) S_4)) ∧ (¬ (v2 = v3) → (dvR 5040 v5 ∧ (inR (5040 % v5) ∧ (¬ ((5040 % v5) = 0) → (post (-3) S_4)) ∧ ((5040 % v5) = 0 → (wp_Mo_shareOf (fun r_8 S_7 => inR r_8 ∧ inR v8_6 ∧ (v8_6 ≤ r_8 → (wp_Mo_isMuch (fun r_10 S_9 => inR r_10 ∧ (r_10 = 0 → (wp_Mo_accept (fun r_12 S_11 => wp_Mo_settle (fun S_13 => post r_12 S_13)  S_11) 3 v6 v1 v2 v3 v8_6 S_9)) ∧ (¬ (r_10 = 0) → (post (-4) S_9))) 0 0 3 0 S_7)) ∧ (¬ (v8_6 ≤ r_8) → (post (-3) S_7))) v1 v2 v6 (S_4.1 15) S_4)))))))) ∧ (¬ (r_5 = 0) → (post (-2) S_4))) v1 v6 S_2)) ∧ (r_3 = 0 → (post (-1) S_2))) v1 v6 (S_1.1 15) S_1)) ∧ (¬ ((S_1.1 0) ≤ 0) → post 0 S_1))
def wp_Mo_transfer_55 (post : Int → MS → Prop) (v1 : Int) (v2 : Int) (v3 : Int) (v4 : Int) (v5 : Int) (v6 : Int) (s0 : Int) (S : MS) : Prop := wp_Mo_isUp (fun r_2 S_1 => inR r_2 ∧ (¬ (r_2 = 0) → (wp_Mo_isLot (fun r_4 S_3 => inR r_4 ∧ (¬ (r_4 = 0) → (inR s0 ∧ (¬ (s0 = 0) → wp_Mo_transfer_91 post v1 v2 v3 v4 v5 v6 0 S_3) ∧ (s0 = 0 → wp_Mo_transfer_91 post v1 v2 v3 v4 v5 v6 3 S_3))) ∧ (r_4 = 0 → wp_Mo_transfer_91 post v1 v2 v3 v4 v5 v6 2 S_3)) v1 S_1)) ∧ (r_2 = 0 → wp_Mo_transfer_91 post v1 v2 v3 v4 v5 v6 1 S_1))  S
def wp_Mo_transfer (post : Int → MS → Prop) (v1 : Int) (v2 : Int) (v3 : Int) (v4 : Int) (v5 : Int) (v6 : Int) (S : MS) : Prop := wp_Mo_isDay (fun r_1 => inR r_1 ∧ (r_1 = 0 → wp_Mo_transfer_55 post v1 v2 v3 v4 v5 v6 0 S) ∧ (¬ (r_1 = 0) → (wp_Mo_isPerson (fun r_2 => inR r_2 ∧ (r_2 = 0 → wp_Mo_transfer_55 post v1 v2 v3 v4 v5 v6 0 S) ∧ (¬ (r_2 = 0) → (wp_Mo_isPerson (fun r_3 => inR r_3 ∧ (r_3 = 0 → wp_Mo_transfer_55 post v1 v2 v3 v4 v5 v6 0 S) ∧ (¬ (r_3 = 0) → (inR v4 ∧ (v4 < 1 → wp_Mo_transfer_55 post v1 v2 v3 v4 v5 v6 0 S) ∧ (¬ (v4 < 1) → (inR v4 ∧ (5040 < v4 → wp_Mo_transfer_55 post v1 v2 v3 v4 v5 v6 0 S) ∧ (¬ (5040 < v4) → (inR v5 ∧ (v5 < 1 → wp_Mo_transfer_55 post v1 v2 v3 v4 v5 v6 0 S) ∧ (¬ (v5 < 1) → (inR v5 ∧ (5040 < v5 → wp_Mo_transfer_55 post v1 v2 v3 v4 v5 v6 0 S) ∧ (¬ (5040 < v5) → wp_Mo_transfer_55 post v1 v2 v3 v4 v5 v6 1 S)))))))))) v3))) v2))) v6
set_option maxHeartbeats 4000000 in
set_option maxRecDepth 100000 in
theorem c_Mo_transfer (l : Launch) {D : va_G} {h : Nat} {ad : Nat → Nat} {kc : Nat → ClassId} {post : Int → MS → Prop} {v1 : Int} {v2 : Int} {v3 : Int} {v4 : Int} {v5 : Int} {v6 : Int} {S : MS} (hw : wp_Mo_transfer post v1 v2 v3 v4 v5 v6 S) : jMi l D h ad kc y_Mo_transfer prog_13_method_57_code 10 (some .int) 6 140 S [vi v1, vi v2, vi v3, vi v4, vi v5, vi v6] post := by
  refine j_moi (own := "LandBookModel") (by decide) rfl (Nat.le_of_ble_eq_true rfl) (fun X F K hret => ?_)
  have B91 : ∀ (v1 : Int) (v2 : Int) (v3 : Int) (v4 : Int) (v5 : Int) (v6 : Int) (s0 : Int) (S : MS), wp_Mo_transfer_91 post v1 v2 v3 v4 v5 v6 s0 S → jat l D X 10 91 [(0, .ref h), (1, vi v1), (2, vi v2), (3, vi v3), (4, vi v4), (5, vi v5), (6, vi v6)] [vi s0, .ref h] (mw h ad kc S) 0 0 := by
    intro v1 v2 v3 v4 v5 v6 s0 S hw
    unfold wp_Mo_transfer_91 at hw
    refine m_puti F K 0 (by decide) rfl tj_107 rfl rfl (ty := .int) (by decide +kernel) rfl rfl d_Mo_transfer_91 (fun S_1 e_S_1 => ?_)
    have hw := hw S_1 e_S_1
    refine j_aload_n F 0 d_Mo_transfer_94 rfl ?_
    refine m_geti F K 0 (by decide) rfl tj_107 rfl d_Mo_transfer_95 ?_
    obtain ⟨hc1, hwt, hwf⟩ := hw
    refine j_if_le F 103 hc1 d_Mo_transfer_98 rfl (fun hh => ?_) (fun hh => ?_)
    · have hw := hwt hh
      refine j_aload_n F 0 d_Mo_transfer_103 rfl ?_
      refine j_iload_n F 1 d_Mo_transfer_104 rfl ?_
      refine j_iload F 6 d_Mo_transfer_105 rfl ?_
      refine j_aload_n F 0 d_Mo_transfer_107 rfl ?_
      refine m_geti F K 15 (by decide) rfl tj_194 rfl d_Mo_transfer_108 ?_
      refine m_calli F K (c_Mo_isInBeing l hw) (tw_gV tj_183 tj_184 tj_185 tj_87 tj_186) q_Mo_isInBeing rfl ⟨by decide, by decide⟩ ⟨Nat.zero_le _, Nat.zero_le _⟩ rfl (Nat.le_of_ble_eq_true rfl) d_Mo_transfer_111 (fun r_3 S_2 hw => ?_)
      obtain ⟨hc1, hwt, hwf⟩ := hw
      refine j_if_ne F 119 hc1 d_Mo_transfer_114 rfl (fun hh => ?_) (fun hh => ?_)
      · have hw := hwt hh
        refine j_aload_n F 0 d_Mo_transfer_119 rfl ?_
        refine j_iload_n F 1 d_Mo_transfer_120 rfl ?_
        refine j_iload F 6 d_Mo_transfer_121 rfl ?_
        refine m_calli F K (c_Mo_isLate l hw) (tw_gV tj_240 tj_241 tj_242 tj_87 tj_243) q_Mo_isLate rfl ⟨by decide, by decide⟩ ⟨Nat.zero_le _, Nat.zero_le _⟩ rfl (Nat.le_of_ble_eq_true rfl) d_Mo_transfer_123 (fun r_5 S_4 hw => ?_)
        obtain ⟨hc1, hwt, hwf⟩ := hw
        refine j_if_eq F 132 hc1 d_Mo_transfer_126 rfl (fun hh => ?_) (fun hh => ?_)
        · have hw := hwt hh
          refine j_iload F 4 d_Mo_transfer_132 rfl ?_
          refine j_sipush F d_Mo_transfer_134 (j_sip (by decide) (by decide)) ?_
          refine j_iload F 5 d_Mo_transfer_137 rfl ?_
          obtain ⟨hc1, hw⟩ := hw
          refine j_idiv F hc1 d_Mo_transfer_139 ?_
          refine j_imul F d_Mo_transfer_140 ?_
          refine j_nmi (fun v8_6 e_v8_6 => ?_)
          have hw := hw v8_6 e_v8_6
          refine j_istore F [(8, vi v8_6), (0, .ref h), (1, vi v1), (2, vi v2), (3, vi v3), (4, vi v4), (5, vi v5), (6, vi v6)] d_Mo_transfer_141 (by decide) rfl ?_
          refine j_iload_n F 3 d_Mo_transfer_143 rfl ?_
          refine j_iload_n F 4 d_Mo_transfer_144 rfl ?_
          obtain ⟨hc1, hc2, hwt, hwf⟩ := hw
          refine j_icmp_eq F 174 hc1 hc2 d_Mo_transfer_145 rfl (fun hh => ?_) (fun hh => ?_)
          · have hw := hwt hh
            refine j_bipush F d_Mo_transfer_174 (j_bip (by decide) (by decide)) ?_
            exact hret _ _ _ _ hw d_Mo_transfer_176
          · have hw := hwf hh
            refine j_sipush F d_Mo_transfer_148 (j_sip (by decide) (by decide)) ?_
            refine j_iload F 6 d_Mo_transfer_151 rfl ?_
            obtain ⟨hc1, hw⟩ := hw
            refine j_irem F hc1 d_Mo_transfer_153 ?_
            obtain ⟨hc1, hwt, hwf⟩ := hw
            refine j_if_ne F 174 hc1 d_Mo_transfer_154 rfl (fun hh => ?_) (fun hh => ?_)
            · have hw := hwt hh
              refine j_bipush F d_Mo_transfer_174 (j_bip (by decide) (by decide)) ?_
              exact hret _ _ _ _ hw d_Mo_transfer_176
            · have hw := hwf hh
              refine j_aload_n F 1 d_Mo_transfer_157 rfl ?_
              refine j_iload_n F 2 d_Mo_transfer_158 rfl ?_
              refine j_iload_n F 3 d_Mo_transfer_159 rfl ?_
              refine j_iload F 7 d_Mo_transfer_160 rfl ?_
              refine j_aload_n F 1 d_Mo_transfer_162 rfl ?_
              refine m_geti F K 15 (by decide) rfl tj_194 rfl d_Mo_transfer_163 ?_
              refine m_calli F K (c_Mo_shareOf l hw) (tw_gV tj_299 tj_300 tj_301 tj_87 tj_302) q_Mo_shareOf rfl ⟨by decide, by decide⟩ ⟨Nat.zero_le _, Nat.zero_le _⟩ rfl (Nat.le_of_ble_eq_true rfl) d_Mo_transfer_166 (fun r_8 S_7 hw => ?_)
              refine j_iload F 0 d_Mo_transfer_169 rfl ?_
              obtain ⟨hc1, hc2, hwt, hwf⟩ := hw
              refine j_icmp_ge F 177 hc1 hc2 d_Mo_transfer_171 rfl (fun hh => ?_) (fun hh => ?_)
              · have hw := hwt hh
                refine j_aload_n F 1 d_Mo_transfer_177 rfl ?_
                refine j_iconst F d_Mo_transfer_178 ?_
                refine j_iconst F d_Mo_transfer_179 ?_
                refine j_iconst F d_Mo_transfer_180 ?_
                refine j_iconst F d_Mo_transfer_181 ?_
                refine m_calli F K (c_Mo_isMuch l hw) (tw_gV tj_252 tj_253 tj_254 tj_87 tj_255) q_Mo_isMuch rfl ⟨by decide, by decide⟩ ⟨Nat.zero_le _, Nat.zero_le _⟩ rfl (Nat.le_of_ble_eq_true rfl) d_Mo_transfer_182 (fun r_10 S_9 hw => ?_)
                obtain ⟨hc1, hwt, hwf⟩ := hw
                refine j_if_eq F 191 hc1 d_Mo_transfer_185 rfl (fun hh => ?_) (fun hh => ?_)
                · have hw := hwt hh
                  refine j_aload_n F 1 d_Mo_transfer_191 rfl ?_
                  refine j_iconst F d_Mo_transfer_192 ?_
                  refine j_iload F 7 d_Mo_transfer_193 rfl ?_
                  refine j_iload_n F 2 d_Mo_transfer_195 rfl ?_
                  refine j_iload_n F 3 d_Mo_transfer_196 rfl ?_
                  refine j_iload_n F 4 d_Mo_transfer_197 rfl ?_
                  refine j_iload F 0 d_Mo_transfer_198 rfl ?_
                  refine m_calli F K (c_Mo_accept l hw) (tw_gV tj_256 tj_257 tj_258 tj_87 tj_259) q_Mo_accept rfl ⟨by decide, by decide⟩ ⟨Nat.zero_le _, Nat.zero_le _⟩ rfl (Nat.le_of_ble_eq_true rfl) d_Mo_transfer_200 (fun r_12 S_11 hw => ?_)
                  refine j_istore F [(9, vi r_12), (8, vi v8_6), (0, .ref h), (1, vi v1), (2, vi v2), (3, vi v3), (4, vi v4), (5, vi v5), (6, vi v6)] d_Mo_transfer_203 (by decide) rfl ?_
                  refine j_aload_n F 2 d_Mo_transfer_205 rfl ?_
                  refine m_callv F K (c_Mo_settle l hw) (tw_gV tj_264 tj_265 tj_266 tj_87 tj_267) q_Mo_settle rfl ⟨by decide, by decide⟩ ⟨Nat.zero_le _, Nat.zero_le _⟩ rfl (Nat.le_of_ble_eq_true rfl) d_Mo_transfer_206 (fun S_13 hw => ?_)
                  refine j_iload F 0 d_Mo_transfer_209 rfl ?_
                  exact hret _ _ _ _ hw d_Mo_transfer_211
                · have hw := hwf hh
                  refine j_bipush F d_Mo_transfer_188 (j_bip (by decide) (by decide)) ?_
                  exact hret _ _ _ _ hw d_Mo_transfer_190
              · have hw := hwf hh
                refine j_bipush F d_Mo_transfer_174 (j_bip (by decide) (by decide)) ?_
                exact hret _ _ _ _ hw d_Mo_transfer_176
        · have hw := hwf hh
          refine j_bipush F d_Mo_transfer_129 (j_bip (by decide) (by decide)) ?_
          exact hret _ _ _ _ hw d_Mo_transfer_131
      · have hw := hwf hh
        refine j_iconst F d_Mo_transfer_117 ?_
        exact hret _ _ _ _ hw d_Mo_transfer_118
    · have hw := hwf hh
      refine j_iconst F d_Mo_transfer_101 ?_
      exact hret _ _ _ _ hw d_Mo_transfer_102
  have B55 : ∀ (v1 : Int) (v2 : Int) (v3 : Int) (v4 : Int) (v5 : Int) (v6 : Int) (s0 : Int) (S : MS), wp_Mo_transfer_55 post v1 v2 v3 v4 v5 v6 s0 S → jat l D X 10 55 [(0, .ref h), (1, vi v1), (2, vi v2), (3, vi v3), (4, vi v4), (5, vi v5), (6, vi v6)] [vi s0] (mw h ad kc S) 0 0 := by
    intro v1 v2 v3 v4 v5 v6 s0 S hw
    unfold wp_Mo_transfer_55 at hw
    refine j_istore F [(7, vi s0), (0, .ref h), (1, vi v1), (2, vi v2), (3, vi v3), (4, vi v4), (5, vi v5), (6, vi v6)] d_Mo_transfer_55 (by decide) rfl ?_
    refine j_aload_n F 1 d_Mo_transfer_57 rfl ?_
    refine j_aload_n F 1 d_Mo_transfer_58 rfl ?_
    refine m_calli F K (c_Mo_isUp l hw) (tw_gV tj_268 tj_269 tj_270 tj_87 tj_271) q_Mo_isUp rfl ⟨by decide, by decide⟩ ⟨Nat.zero_le _, Nat.zero_le _⟩ rfl (Nat.le_of_ble_eq_true rfl) d_Mo_transfer_59 (fun r_2 S_1 hw => ?_)
    obtain ⟨hc1, hwt, hwf⟩ := hw
    refine j_if_ne F 69 hc1 d_Mo_transfer_62 rfl (fun hh => ?_) (fun hh => ?_)
    · have hw := hwt hh
      refine j_aload_n F 1 d_Mo_transfer_69 rfl ?_
      refine j_iload_n F 2 d_Mo_transfer_70 rfl ?_
      refine m_calli F K (c_Mo_isLot l hw) (tw_gV tj_272 tj_273 tj_274 tj_87 tj_275) q_Mo_isLot rfl ⟨by decide, by decide⟩ ⟨Nat.zero_le _, Nat.zero_le _⟩ rfl (Nat.le_of_ble_eq_true rfl) d_Mo_transfer_71 (fun r_4 S_3 hw => ?_)
      obtain ⟨hc1, hwt, hwf⟩ := hw
      refine j_if_ne F 81 hc1 d_Mo_transfer_74 rfl (fun hh => ?_) (fun hh => ?_)
      · have hw := hwt hh
        refine j_iload F 0 d_Mo_transfer_81 rfl ?_
        obtain ⟨hc1, hwt, hwf⟩ := hw
        refine j_if_ne F 90 hc1 d_Mo_transfer_83 rfl (fun hh => ?_) (fun hh => ?_)
        · have hw := hwt hh
          refine j_iconst F d_Mo_transfer_90 ?_
          refine j_sub [1, 2, 3, 4, 5, 6, 7] rfl ?_
          exact B91 _ _ _ _ _ _ _ _ hw
        · have hw := hwf hh
          refine j_iconst F d_Mo_transfer_86 ?_
          refine j_goto F 91 d_Mo_transfer_87 rfl ?_
          refine j_sub [1, 2, 3, 4, 5, 6, 7] rfl ?_
          exact B91 _ _ _ _ _ _ _ _ hw
      · have hw := hwf hh
        refine j_iconst F d_Mo_transfer_77 ?_
        refine j_goto F 91 d_Mo_transfer_78 rfl ?_
        refine j_sub [1, 2, 3, 4, 5, 6, 7] rfl ?_
        exact B91 _ _ _ _ _ _ _ _ hw
    · have hw := hwf hh
      refine j_iconst F d_Mo_transfer_65 ?_
      refine j_goto F 91 d_Mo_transfer_66 rfl ?_
      refine j_sub [1, 2, 3, 4, 5, 6, 7] rfl ?_
      exact B91 _ _ _ _ _ _ _ _ hw
  unfold wp_Mo_transfer at hw
  show jat l D X 10 0 [(0, .ref h), (1, vi v1), (2, vi v2), (3, vi v3), (4, vi v4), (5, vi v5), (6, vi v6)] [] (mw h ad kc S) 0 0
  refine j_iload F 6 d_Mo_transfer_0 rfl ?_
  refine j_callS F (c_Mo_isDay l hw) (tw_gS tj_104 tj_105 tj_87 tj_106) q_Mo_isDay rfl ⟨by decide, by decide⟩ ⟨Nat.zero_le _, Nat.zero_le _⟩ rfl (Nat.le_of_ble_eq_true rfl) d_Mo_transfer_2 (fun r_1 hw => ?_)
  obtain ⟨hc1, hwt, hwf⟩ := hw
  refine j_if_eq F 54 hc1 d_Mo_transfer_5 rfl (fun hh => ?_) (fun hh => ?_)
  · have hw := hwt hh
    refine j_iconst F d_Mo_transfer_54 ?_
    exact B55 _ _ _ _ _ _ _ _ hw
  · have hw := hwf hh
    refine j_iload_n F 2 d_Mo_transfer_8 rfl ?_
    refine j_callS F (c_Mo_isPerson l hw) (tw_gS tj_315 tj_316 tj_87 tj_317) q_Mo_isPerson rfl ⟨by decide, by decide⟩ ⟨Nat.zero_le _, Nat.zero_le _⟩ rfl (Nat.le_of_ble_eq_true rfl) d_Mo_transfer_9 (fun r_2 hw => ?_)
    obtain ⟨hc1, hwt, hwf⟩ := hw
    refine j_if_eq F 54 hc1 d_Mo_transfer_12 rfl (fun hh => ?_) (fun hh => ?_)
    · have hw := hwt hh
      refine j_iconst F d_Mo_transfer_54 ?_
      exact B55 _ _ _ _ _ _ _ _ hw
    · have hw := hwf hh
      refine j_iload_n F 3 d_Mo_transfer_15 rfl ?_
      refine j_callS F (c_Mo_isPerson l hw) (tw_gS tj_315 tj_316 tj_87 tj_317) q_Mo_isPerson rfl ⟨by decide, by decide⟩ ⟨Nat.zero_le _, Nat.zero_le _⟩ rfl (Nat.le_of_ble_eq_true rfl) d_Mo_transfer_16 (fun r_3 hw => ?_)
      obtain ⟨hc1, hwt, hwf⟩ := hw
      refine j_if_eq F 54 hc1 d_Mo_transfer_19 rfl (fun hh => ?_) (fun hh => ?_)
      · have hw := hwt hh
        refine j_iconst F d_Mo_transfer_54 ?_
        exact B55 _ _ _ _ _ _ _ _ hw
      · have hw := hwf hh
        refine j_iload F 4 d_Mo_transfer_22 rfl ?_
        refine j_iconst F d_Mo_transfer_24 ?_
        obtain ⟨hc1, hwt, hwf⟩ := hw
        refine j_icmp_lt F 54 hc1 ⟨by decide, by decide⟩ d_Mo_transfer_25 rfl (fun hh => ?_) (fun hh => ?_)
        · have hw := hwt hh
          refine j_iconst F d_Mo_transfer_54 ?_
          exact B55 _ _ _ _ _ _ _ _ hw
        · have hw := hwf hh
          refine j_iload F 4 d_Mo_transfer_28 rfl ?_
          refine j_sipush F d_Mo_transfer_30 (j_sip (by decide) (by decide)) ?_
          obtain ⟨hc1, hwt, hwf⟩ := hw
          refine j_icmp_gt F 54 hc1 ⟨by decide, by decide⟩ d_Mo_transfer_33 rfl (fun hh => ?_) (fun hh => ?_)
          · have hw := hwt hh
            refine j_iconst F d_Mo_transfer_54 ?_
            exact B55 _ _ _ _ _ _ _ _ hw
          · have hw := hwf hh
            refine j_iload F 5 d_Mo_transfer_36 rfl ?_
            refine j_iconst F d_Mo_transfer_38 ?_
            obtain ⟨hc1, hwt, hwf⟩ := hw
            refine j_icmp_lt F 54 hc1 ⟨by decide, by decide⟩ d_Mo_transfer_39 rfl (fun hh => ?_) (fun hh => ?_)
            · have hw := hwt hh
              refine j_iconst F d_Mo_transfer_54 ?_
              exact B55 _ _ _ _ _ _ _ _ hw
            · have hw := hwf hh
              refine j_iload F 5 d_Mo_transfer_42 rfl ?_
              refine j_sipush F d_Mo_transfer_44 (j_sip (by decide) (by decide)) ?_
              obtain ⟨hc1, hwt, hwf⟩ := hw
              refine j_icmp_gt F 54 hc1 ⟨by decide, by decide⟩ d_Mo_transfer_47 rfl (fun hh => ?_) (fun hh => ?_)
              · have hw := hwt hh
                refine j_iconst F d_Mo_transfer_54 ?_
                exact B55 _ _ _ _ _ _ _ _ hw
              · have hw := hwf hh
                refine j_iconst F d_Mo_transfer_50 ?_
                refine j_goto F 55 d_Mo_transfer_51 rfl ?_
                exact B55 _ _ _ _ _ _ _ _ hw
abbrev y_Mo_ease : MethodName := ⟨"LandBookModel", "ease", "(III)I"⟩
theorem q_Mo_ease : y_Mo_ease.cls = "LandBookModel" ∧ y_Mo_ease.cls ≠ "java/lang/invoke/MethodHandle" ∧ y_Mo_ease.cls ≠ "java/lang/invoke/VarHandle" ∧ (parseMethodDescriptor y_Mo_ease.desc).map (fun d => d.parameters.length) = some 3 := by decide +kernel
theorem d_Mo_ease_0 : decode prog_13_method_58_code 0 = .ok (.aload_n 0, 1) := by decide +kernel
theorem d_Mo_ease_1 : decode prog_13_method_58_code 1 = .ok (.aload_n 0, 1) := by decide +kernel
theorem d_Mo_ease_2 : decode prog_13_method_58_code 2 = .ok (.invokevirtual 264, 3) := by decide +kernel
theorem d_Mo_ease_5 : decode prog_13_method_58_code 5 = .ok (.ifCond .ne 7, 3) := by decide +kernel
theorem d_Mo_ease_12 : decode prog_13_method_58_code 12 = .ok (.aload_n 0, 1) := by decide +kernel
theorem d_Mo_ease_13 : decode prog_13_method_58_code 13 = .ok (.iload_n 1, 1) := by decide +kernel
theorem d_Mo_ease_14 : decode prog_13_method_58_code 14 = .ok (.invokevirtual 268, 3) := by decide +kernel
theorem d_Mo_ease_17 : decode prog_13_method_58_code 17 = .ok (.ifCond .eq 11, 3) := by decide +kernel
theorem d_Mo_ease_28 : decode prog_13_method_58_code 28 = .ok (.iconst 2, 1) := by decide +kernel
theorem d_Mo_ease_29 : decode prog_13_method_58_code 29 = .ok (.goto 15, 3) := by decide +kernel
theorem d_Mo_ease_20 : decode prog_13_method_58_code 20 = .ok (.aload_n 0, 1) := by decide +kernel
theorem d_Mo_ease_21 : decode prog_13_method_58_code 21 = .ok (.iload_n 2, 1) := by decide +kernel
theorem d_Mo_ease_22 : decode prog_13_method_58_code 22 = .ok (.invokevirtual 268, 3) := by decide +kernel
theorem d_Mo_ease_25 : decode prog_13_method_58_code 25 = .ok (.ifCond .ne 7, 3) := by decide +kernel
theorem d_Mo_ease_32 : decode prog_13_method_58_code 32 = .ok (.iload_n 3, 1) := by decide +kernel
theorem d_Mo_ease_33 : decode prog_13_method_58_code 33 = .ok (.invokestatic 271, 3) := by decide +kernel
theorem d_Mo_ease_36 : decode prog_13_method_58_code 36 = .ok (.ifCond .ne 7, 3) := by decide +kernel
theorem d_Mo_ease_43 : decode prog_13_method_58_code 43 = .ok (.iconst 0, 1) := by decide +kernel
theorem d_Mo_ease_39 : decode prog_13_method_58_code 39 = .ok (.iconst 3, 1) := by decide +kernel
theorem d_Mo_ease_40 : decode prog_13_method_58_code 40 = .ok (.goto 4, 3) := by decide +kernel
theorem d_Mo_ease_8 : decode prog_13_method_58_code 8 = .ok (.iconst 1, 1) := by decide +kernel
theorem d_Mo_ease_9 : decode prog_13_method_58_code 9 = .ok (.goto 35, 3) := by decide +kernel
theorem d_Mo_ease_44 : decode prog_13_method_58_code 44 = .ok (.putfield 98, 3) := by decide +kernel
theorem d_Mo_ease_47 : decode prog_13_method_58_code 47 = .ok (.aload_n 0, 1) := by decide +kernel
theorem d_Mo_ease_48 : decode prog_13_method_58_code 48 = .ok (.getfield 98, 3) := by decide +kernel
theorem d_Mo_ease_51 : decode prog_13_method_58_code 51 = .ok (.ifCond .le 5, 3) := by decide +kernel
theorem d_Mo_ease_56 : decode prog_13_method_58_code 56 = .ok (.aload_n 0, 1) := by decide +kernel
theorem d_Mo_ease_57 : decode prog_13_method_58_code 57 = .ok (.iload_n 1, 1) := by decide +kernel
theorem d_Mo_ease_58 : decode prog_13_method_58_code 58 = .ok (.iload_n 3, 1) := by decide +kernel
theorem d_Mo_ease_59 : decode prog_13_method_58_code 59 = .ok (.aload_n 0, 1) := by decide +kernel
theorem d_Mo_ease_60 : decode prog_13_method_58_code 60 = .ok (.getfield 192, 3) := by decide +kernel
theorem d_Mo_ease_63 : decode prog_13_method_58_code 63 = .ok (.invokevirtual 185, 3) := by decide +kernel
theorem d_Mo_ease_66 : decode prog_13_method_58_code 66 = .ok (.ifCond .eq 16, 3) := by decide +kernel
theorem d_Mo_ease_82 : decode prog_13_method_58_code 82 = .ok (.iconst (-1), 1) := by decide +kernel
theorem d_Mo_ease_83 : decode prog_13_method_58_code 83 = .ok (.ireturn, 1) := by decide +kernel
theorem d_Mo_ease_69 : decode prog_13_method_58_code 69 = .ok (.aload_n 0, 1) := by decide +kernel
theorem d_Mo_ease_70 : decode prog_13_method_58_code 70 = .ok (.iload_n 2, 1) := by decide +kernel
theorem d_Mo_ease_71 : decode prog_13_method_58_code 71 = .ok (.iload_n 3, 1) := by decide +kernel
theorem d_Mo_ease_72 : decode prog_13_method_58_code 72 = .ok (.aload_n 0, 1) := by decide +kernel
theorem d_Mo_ease_73 : decode prog_13_method_58_code 73 = .ok (.getfield 192, 3) := by decide +kernel
theorem d_Mo_ease_76 : decode prog_13_method_58_code 76 = .ok (.invokevirtual 185, 3) := by decide +kernel
theorem d_Mo_ease_79 : decode prog_13_method_58_code 79 = .ok (.ifCond .ne 5, 3) := by decide +kernel
theorem d_Mo_ease_84 : decode prog_13_method_58_code 84 = .ok (.aload_n 0, 1) := by decide +kernel
theorem d_Mo_ease_85 : decode prog_13_method_58_code 85 = .ok (.iload_n 1, 1) := by decide +kernel
theorem d_Mo_ease_86 : decode prog_13_method_58_code 86 = .ok (.iload_n 3, 1) := by decide +kernel
theorem d_Mo_ease_87 : decode prog_13_method_58_code 87 = .ok (.invokevirtual 241, 3) := by decide +kernel
theorem d_Mo_ease_90 : decode prog_13_method_58_code 90 = .ok (.ifCond .ne 12, 3) := by decide +kernel
theorem d_Mo_ease_102 : decode prog_13_method_58_code 102 = .ok (.bipush (-2), 2) := by decide +kernel
theorem d_Mo_ease_104 : decode prog_13_method_58_code 104 = .ok (.ireturn, 1) := by decide +kernel
theorem d_Mo_ease_93 : decode prog_13_method_58_code 93 = .ok (.aload_n 0, 1) := by decide +kernel
theorem d_Mo_ease_94 : decode prog_13_method_58_code 94 = .ok (.iload_n 2, 1) := by decide +kernel
theorem d_Mo_ease_95 : decode prog_13_method_58_code 95 = .ok (.iload_n 3, 1) := by decide +kernel
theorem d_Mo_ease_96 : decode prog_13_method_58_code 96 = .ok (.invokevirtual 241, 3) := by decide +kernel
theorem d_Mo_ease_99 : decode prog_13_method_58_code 99 = .ok (.ifCond .eq 6, 3) := by decide +kernel
theorem d_Mo_ease_105 : decode prog_13_method_58_code 105 = .ok (.iload_n 1, 1) := by decide +kernel
theorem d_Mo_ease_106 : decode prog_13_method_58_code 106 = .ok (.iload_n 2, 1) := by decide +kernel
theorem d_Mo_ease_107 : decode prog_13_method_58_code 107 = .ok (.if_icmp .ne 6, 3) := by decide +kernel
theorem d_Mo_ease_113 : decode prog_13_method_58_code 113 = .ok (.aload_n 0, 1) := by decide +kernel
theorem d_Mo_ease_114 : decode prog_13_method_58_code 114 = .ok (.iconst 0, 1) := by decide +kernel
theorem d_Mo_ease_115 : decode prog_13_method_58_code 115 = .ok (.iconst 1, 1) := by decide +kernel
theorem d_Mo_ease_116 : decode prog_13_method_58_code 116 = .ok (.iconst 4, 1) := by decide +kernel
theorem d_Mo_ease_117 : decode prog_13_method_58_code 117 = .ok (.iconst 0, 1) := by decide +kernel
theorem d_Mo_ease_118 : decode prog_13_method_58_code 118 = .ok (.invokevirtual 251, 3) := by decide +kernel
theorem d_Mo_ease_121 : decode prog_13_method_58_code 121 = .ok (.ifCond .eq 6, 3) := by decide +kernel
theorem d_Mo_ease_127 : decode prog_13_method_58_code 127 = .ok (.aload_n 0, 1) := by decide +kernel
theorem d_Mo_ease_128 : decode prog_13_method_58_code 128 = .ok (.iconst 4, 1) := by decide +kernel
theorem d_Mo_ease_129 : decode prog_13_method_58_code 129 = .ok (.iload_n 3, 1) := by decide +kernel
theorem d_Mo_ease_130 : decode prog_13_method_58_code 130 = .ok (.iload_n 1, 1) := by decide +kernel
theorem d_Mo_ease_131 : decode prog_13_method_58_code 131 = .ok (.iload_n 2, 1) := by decide +kernel
theorem d_Mo_ease_132 : decode prog_13_method_58_code 132 = .ok (.iconst 0, 1) := by decide +kernel
theorem d_Mo_ease_133 : decode prog_13_method_58_code 133 = .ok (.iconst 0, 1) := by decide +kernel
theorem d_Mo_ease_134 : decode prog_13_method_58_code 134 = .ok (.invokevirtual 254, 3) := by decide +kernel
theorem d_Mo_ease_137 : decode prog_13_method_58_code 137 = .ok (.istore 4, 2) := by decide +kernel
theorem d_Mo_ease_139 : decode prog_13_method_58_code 139 = .ok (.aload_n 0, 1) := by decide +kernel
theorem d_Mo_ease_140 : decode prog_13_method_58_code 140 = .ok (.dup, 1) := by decide +kernel
theorem d_Mo_ease_141 : decode prog_13_method_58_code 141 = .ok (.getfield 198, 3) := by decide +kernel
theorem d_Mo_ease_144 : decode prog_13_method_58_code 144 = .ok (.iconst 1, 1) := by decide +kernel
theorem d_Mo_ease_145 : decode prog_13_method_58_code 145 = .ok (.iadd, 1) := by decide +kernel
theorem d_Mo_ease_146 : decode prog_13_method_58_code 146 = .ok (.putfield 198, 3) := by decide +kernel
theorem d_Mo_ease_149 : decode prog_13_method_58_code 149 = .ok (.aload_n 0, 1) := by decide +kernel
theorem d_Mo_ease_150 : decode prog_13_method_58_code 150 = .ok (.getfield 64, 3) := by decide +kernel
theorem d_Mo_ease_153 : decode prog_13_method_58_code 153 = .ok (.aload_n 0, 1) := by decide +kernel
theorem d_Mo_ease_154 : decode prog_13_method_58_code 154 = .ok (.getfield 198, 3) := by decide +kernel
theorem d_Mo_ease_157 : decode prog_13_method_58_code 157 = .ok (.iload 4, 2) := by decide +kernel
theorem d_Mo_ease_159 : decode prog_13_method_58_code 159 = .ok (.iastore, 1) := by decide +kernel
theorem d_Mo_ease_160 : decode prog_13_method_58_code 160 = .ok (.aload_n 0, 1) := by decide +kernel
theorem d_Mo_ease_161 : decode prog_13_method_58_code 161 = .ok (.getfield 67, 3) := by decide +kernel
theorem d_Mo_ease_164 : decode prog_13_method_58_code 164 = .ok (.aload_n 0, 1) := by decide +kernel
theorem d_Mo_ease_165 : decode prog_13_method_58_code 165 = .ok (.getfield 198, 3) := by decide +kernel
theorem d_Mo_ease_168 : decode prog_13_method_58_code 168 = .ok (.iconst 0, 1) := by decide +kernel
theorem d_Mo_ease_169 : decode prog_13_method_58_code 169 = .ok (.iastore, 1) := by decide +kernel
theorem d_Mo_ease_170 : decode prog_13_method_58_code 170 = .ok (.aload_n 0, 1) := by decide +kernel
theorem d_Mo_ease_171 : decode prog_13_method_58_code 171 = .ok (.getfield 70, 3) := by decide +kernel
theorem d_Mo_ease_174 : decode prog_13_method_58_code 174 = .ok (.aload_n 0, 1) := by decide +kernel
theorem d_Mo_ease_175 : decode prog_13_method_58_code 175 = .ok (.getfield 198, 3) := by decide +kernel
theorem d_Mo_ease_178 : decode prog_13_method_58_code 178 = .ok (.iload_n 1, 1) := by decide +kernel
theorem d_Mo_ease_179 : decode prog_13_method_58_code 179 = .ok (.iastore, 1) := by decide +kernel
theorem d_Mo_ease_180 : decode prog_13_method_58_code 180 = .ok (.aload_n 0, 1) := by decide +kernel
theorem d_Mo_ease_181 : decode prog_13_method_58_code 181 = .ok (.invokevirtual 261, 3) := by decide +kernel
theorem d_Mo_ease_184 : decode prog_13_method_58_code 184 = .ok (.aload_n 0, 1) := by decide +kernel
theorem d_Mo_ease_185 : decode prog_13_method_58_code 185 = .ok (.getfield 198, 3) := by decide +kernel
theorem d_Mo_ease_188 : decode prog_13_method_58_code 188 = .ok (.ireturn, 1) := by decide +kernel
theorem d_Mo_ease_124 : decode prog_13_method_58_code 124 = .ok (.bipush (-4), 2) := by decide +kernel
theorem d_Mo_ease_126 : decode prog_13_method_58_code 126 = .ok (.ireturn, 1) := by decide +kernel
theorem d_Mo_ease_110 : decode prog_13_method_58_code 110 = .ok (.bipush (-3), 2) := by decide +kernel
theorem d_Mo_ease_112 : decode prog_13_method_58_code 112 = .ok (.ireturn, 1) := by decide +kernel
theorem d_Mo_ease_54 : decode prog_13_method_58_code 54 = .ok (.iconst 0, 1) := by decide +kernel
theorem d_Mo_ease_55 : decode prog_13_method_58_code 55 = .ok (.ireturn, 1) := by decide +kernel
def wp_Mo_ease_44 (post : Int → MS → Prop) (v1 : Int) (v2 : Int) (v3 : Int) (s0 : Int) (S : MS) : Prop := (∀ S_1 : MS, S_1 = ms_i S 0 s0 → inR (S_1.1 0) ∧ ((S_1.1 0) ≤ 0 → (wp_Mo_isInBeing (fun r_3 S_2 => inR r_3 ∧ (r_3 = 0 → (post (-1) S_2)) ∧ (¬ (r_3 = 0) → (wp_Mo_isInBeing (fun r_5 S_4 => inR r_5 ∧ (¬ (r_5 = 0) → (wp_Mo_isLate (fun r_7 S_6 => inR r_7 ∧ (¬ (r_7 = 0) → (post (-2) S_6)) ∧ (r_7 = 0 → (wp_Mo_isLate (fun r_9 S_8 => inR r_9 ∧ (r_9 = 0 → (inR v1 ∧ inR v2 ∧ (¬ (v1 = v2) → (wp_Mo_isMuch (fun r_11 S_10 => inR r_11 ∧ (r_11 = 0 → (wp_Mo_accept (fun r_13 S_12 => (∀ S_14 : MS, S_14 = ms_i S_12 25 ((S_12.1 25) + 1) → ixR (S_14.1 25) 202 ∧ (∀ S_15 : MS, S_15 = ms_a S_14 26 (S_14.1 25) r_13 → ixR (S_15.1 25) 202 ∧ (∀ S_16 : MS, S_16 = ms_a S_15 27 (S_15.1 25) 0 → ixR (S_16.1 25) 202 ∧ (∀ S_17 : MS, S_17 = ms_a S_16 28 (S_16.1 25) v1 → wp_Mo_settle (fun S_18 => post (S_18.1 25) S_18)  S_17))))) 4 v3 v1 v2 0 0 S_10)) ∧ (¬ (r_11 = 0) → (post (-4) S_10))) 0 1 4 0 S_8)) ∧ (v1 = v2 → (post (-3) S_8)))) ∧ (¬ (r_9 = 0) → (post (-2) S_8))) v2 v3 S_6))) v1 v3 S_4)) ∧ (r_5 = 0 → (post (-1) S_4))) v2 v3 (S_2.1 15) S_2))) v1 v3 (S_1.1 15) S_1)) ∧ (¬ ((S_1.1 0) ≤ 0) → post 0 S_1))
def wp_Mo_ease (post : Int → MS → Prop) (v1 : Int) (v2 : Int) (v3 : Int) (S : MS) : Prop := wp_Mo_isUp (fun r_2 S_1 => inR r_2 ∧ (¬ (r_2 = 0) → (wp_Mo_isLot (fun r_4 S_3 => inR r_4 ∧ (r_4 = 0 → wp_Mo_ease_44 post v1 v2 v3 2 S_3) ∧ (¬ (r_4 = 0) → (wp_Mo_isLot (fun r_6 S_5 => inR r_6 ∧ (¬ (r_6 = 0) → (wp_Mo_isDay (fun r_7 => inR r_7 ∧ (¬ (r_7 = 0) → wp_Mo_ease_44 post v1 v2 v3 0 S_5) ∧ (r_7 = 0 → wp_Mo_ease_44 post v1 v2 v3 3 S_5)) v3)) ∧ (r_6 = 0 → wp_Mo_ease_44 post v1 v2 v3 2 S_5)) v2 S_3))) v1 S_1)) ∧ (r_2 = 0 → wp_Mo_ease_44 post v1 v2 v3 1 S_1))  S
set_option maxHeartbeats 4000000 in
set_option maxRecDepth 100000 in
theorem c_Mo_ease (l : Launch) {D : va_G} {h : Nat} {ad : Nat → Nat} {kc : Nat → ClassId} {post : Int → MS → Prop} {v1 : Int} {v2 : Int} {v3 : Int} {S : MS} (hw : wp_Mo_ease post v1 v2 v3 S) : jMi l D h ad kc y_Mo_ease prog_13_method_58_code 5 (some .int) 6 140 S [vi v1, vi v2, vi v3] post := by
  refine j_moi (own := "LandBookModel") (by decide) rfl (Nat.le_of_ble_eq_true rfl) (fun X F K hret => ?_)
  have B44 : ∀ (v1 : Int) (v2 : Int) (v3 : Int) (s0 : Int) (S : MS), wp_Mo_ease_44 post v1 v2 v3 s0 S → jat l D X 5 44 [(0, .ref h), (1, vi v1), (2, vi v2), (3, vi v3)] [vi s0, .ref h] (mw h ad kc S) 0 0 := by
    intro v1 v2 v3 s0 S hw
    unfold wp_Mo_ease_44 at hw
    refine m_puti F K 0 (by decide) rfl tj_107 rfl rfl (ty := .int) (by decide +kernel) rfl rfl d_Mo_ease_44 (fun S_1 e_S_1 => ?_)
    have hw := hw S_1 e_S_1
    refine j_aload_n F 0 d_Mo_ease_47 rfl ?_
    refine m_geti F K 0 (by decide) rfl tj_107 rfl d_Mo_ease_48 ?_
    obtain ⟨hc1, hwt, hwf⟩ := hw
    refine j_if_le F 56 hc1 d_Mo_ease_51 rfl (fun hh => ?_) (fun hh => ?_)
    · have hw := hwt hh
      refine j_aload_n F 0 d_Mo_ease_56 rfl ?_
      refine j_iload_n F 1 d_Mo_ease_57 rfl ?_
      refine j_iload_n F 3 d_Mo_ease_58 rfl ?_
      refine j_aload_n F 0 d_Mo_ease_59 rfl ?_
      refine m_geti F K 15 (by decide) rfl tj_194 rfl d_Mo_ease_60 ?_
      refine m_calli F K (c_Mo_isInBeing l hw) (tw_gV tj_183 tj_184 tj_185 tj_87 tj_186) q_Mo_isInBeing rfl ⟨by decide, by decide⟩ ⟨Nat.zero_le _, Nat.zero_le _⟩ rfl (Nat.le_of_ble_eq_true rfl) d_Mo_ease_63 (fun r_3 S_2 hw => ?_)
      obtain ⟨hc1, hwt, hwf⟩ := hw
      refine j_if_eq F 82 hc1 d_Mo_ease_66 rfl (fun hh => ?_) (fun hh => ?_)
      · have hw := hwt hh
        refine j_iconst F d_Mo_ease_82 ?_
        exact hret _ _ _ _ hw d_Mo_ease_83
      · have hw := hwf hh
        refine j_aload_n F 0 d_Mo_ease_69 rfl ?_
        refine j_iload_n F 2 d_Mo_ease_70 rfl ?_
        refine j_iload_n F 3 d_Mo_ease_71 rfl ?_
        refine j_aload_n F 0 d_Mo_ease_72 rfl ?_
        refine m_geti F K 15 (by decide) rfl tj_194 rfl d_Mo_ease_73 ?_
        refine m_calli F K (c_Mo_isInBeing l hw) (tw_gV tj_183 tj_184 tj_185 tj_87 tj_186) q_Mo_isInBeing rfl ⟨by decide, by decide⟩ ⟨Nat.zero_le _, Nat.zero_le _⟩ rfl (Nat.le_of_ble_eq_true rfl) d_Mo_ease_76 (fun r_5 S_4 hw => ?_)
        obtain ⟨hc1, hwt, hwf⟩ := hw
        refine j_if_ne F 84 hc1 d_Mo_ease_79 rfl (fun hh => ?_) (fun hh => ?_)
        · have hw := hwt hh
          refine j_aload_n F 0 d_Mo_ease_84 rfl ?_
          refine j_iload_n F 1 d_Mo_ease_85 rfl ?_
          refine j_iload_n F 3 d_Mo_ease_86 rfl ?_
          refine m_calli F K (c_Mo_isLate l hw) (tw_gV tj_240 tj_241 tj_242 tj_87 tj_243) q_Mo_isLate rfl ⟨by decide, by decide⟩ ⟨Nat.zero_le _, Nat.zero_le _⟩ rfl (Nat.le_of_ble_eq_true rfl) d_Mo_ease_87 (fun r_7 S_6 hw => ?_)
          obtain ⟨hc1, hwt, hwf⟩ := hw
          refine j_if_ne F 102 hc1 d_Mo_ease_90 rfl (fun hh => ?_) (fun hh => ?_)
          · have hw := hwt hh
            refine j_bipush F d_Mo_ease_102 (j_bip (by decide) (by decide)) ?_
            exact hret _ _ _ _ hw d_Mo_ease_104
          · have hw := hwf hh
            refine j_aload_n F 0 d_Mo_ease_93 rfl ?_
            refine j_iload_n F 2 d_Mo_ease_94 rfl ?_
            refine j_iload_n F 3 d_Mo_ease_95 rfl ?_
            refine m_calli F K (c_Mo_isLate l hw) (tw_gV tj_240 tj_241 tj_242 tj_87 tj_243) q_Mo_isLate rfl ⟨by decide, by decide⟩ ⟨Nat.zero_le _, Nat.zero_le _⟩ rfl (Nat.le_of_ble_eq_true rfl) d_Mo_ease_96 (fun r_9 S_8 hw => ?_)
            obtain ⟨hc1, hwt, hwf⟩ := hw
            refine j_if_eq F 105 hc1 d_Mo_ease_99 rfl (fun hh => ?_) (fun hh => ?_)
            · have hw := hwt hh
              refine j_iload_n F 1 d_Mo_ease_105 rfl ?_
              refine j_iload_n F 2 d_Mo_ease_106 rfl ?_
              obtain ⟨hc1, hc2, hwt, hwf⟩ := hw
              refine j_icmp_ne F 113 hc1 hc2 d_Mo_ease_107 rfl (fun hh => ?_) (fun hh => ?_)
              · have hw := hwt hh
                refine j_aload_n F 0 d_Mo_ease_113 rfl ?_
                refine j_iconst F d_Mo_ease_114 ?_
                refine j_iconst F d_Mo_ease_115 ?_
                refine j_iconst F d_Mo_ease_116 ?_
                refine j_iconst F d_Mo_ease_117 ?_
                refine m_calli F K (c_Mo_isMuch l hw) (tw_gV tj_252 tj_253 tj_254 tj_87 tj_255) q_Mo_isMuch rfl ⟨by decide, by decide⟩ ⟨Nat.zero_le _, Nat.zero_le _⟩ rfl (Nat.le_of_ble_eq_true rfl) d_Mo_ease_118 (fun r_11 S_10 hw => ?_)
                obtain ⟨hc1, hwt, hwf⟩ := hw
                refine j_if_eq F 127 hc1 d_Mo_ease_121 rfl (fun hh => ?_) (fun hh => ?_)
                · have hw := hwt hh
                  refine j_aload_n F 0 d_Mo_ease_127 rfl ?_
                  refine j_iconst F d_Mo_ease_128 ?_
                  refine j_iload_n F 3 d_Mo_ease_129 rfl ?_
                  refine j_iload_n F 1 d_Mo_ease_130 rfl ?_
                  refine j_iload_n F 2 d_Mo_ease_131 rfl ?_
                  refine j_iconst F d_Mo_ease_132 ?_
                  refine j_iconst F d_Mo_ease_133 ?_
                  refine m_calli F K (c_Mo_accept l hw) (tw_gV tj_256 tj_257 tj_258 tj_87 tj_259) q_Mo_accept rfl ⟨by decide, by decide⟩ ⟨Nat.zero_le _, Nat.zero_le _⟩ rfl (Nat.le_of_ble_eq_true rfl) d_Mo_ease_134 (fun r_13 S_12 hw => ?_)
                  refine j_istore F [(4, vi r_13), (0, .ref h), (1, vi v1), (2, vi v2), (3, vi v3)] d_Mo_ease_137 (by decide) rfl ?_
                  refine j_aload_n F 1 d_Mo_ease_139 rfl ?_
                  refine j_dup F rfl d_Mo_ease_140 ?_
                  refine m_geti F K 25 (by decide) rfl tj_201 rfl d_Mo_ease_141 ?_
                  refine j_iconst F d_Mo_ease_144 ?_
                  refine j_iadd F d_Mo_ease_145 ?_
                  refine m_puti F K 25 (by decide) rfl tj_201 rfl rfl (ty := .int) (by decide +kernel) rfl rfl d_Mo_ease_146 (fun S_14 e_S_14 => ?_)
                  have hw := hw S_14 e_S_14
                  refine j_aload_n F 1 d_Mo_ease_149 rfl ?_
                  refine m_geta F K 26 (by decide) (by decide) tj_169 rfl d_Mo_ease_150 ?_
                  refine j_aload_n F 1 d_Mo_ease_153 rfl ?_
                  refine m_geti F K 25 (by decide) rfl tj_201 rfl d_Mo_ease_154 ?_
                  refine j_iload F 0 d_Mo_ease_157 rfl ?_
                  obtain ⟨hc1, hw⟩ := hw
                  refine m_iast F K 26 18 rfl rfl hc1 d_Mo_ease_159 (fun S_15 e_S_15 => ?_)
                  have hw := hw S_15 e_S_15
                  refine j_aload_n F 1 d_Mo_ease_160 rfl ?_
                  refine m_geta F K 27 (by decide) (by decide) tj_170 rfl d_Mo_ease_161 ?_
                  refine j_aload_n F 1 d_Mo_ease_164 rfl ?_
                  refine m_geti F K 25 (by decide) rfl tj_201 rfl d_Mo_ease_165 ?_
                  refine j_iconst F d_Mo_ease_168 ?_
                  obtain ⟨hc1, hw⟩ := hw
                  refine m_iast F K 27 19 rfl rfl hc1 d_Mo_ease_169 (fun S_16 e_S_16 => ?_)
                  have hw := hw S_16 e_S_16
                  refine j_aload_n F 1 d_Mo_ease_170 rfl ?_
                  refine m_geta F K 28 (by decide) (by decide) tj_178 rfl d_Mo_ease_171 ?_
                  refine j_aload_n F 1 d_Mo_ease_174 rfl ?_
                  refine m_geti F K 25 (by decide) rfl tj_201 rfl d_Mo_ease_175 ?_
                  refine j_iload_n F 2 d_Mo_ease_178 rfl ?_
                  obtain ⟨hc1, hw⟩ := hw
                  refine m_iast F K 28 20 rfl rfl hc1 d_Mo_ease_179 (fun S_17 e_S_17 => ?_)
                  have hw := hw S_17 e_S_17
                  refine j_aload_n F 1 d_Mo_ease_180 rfl ?_
                  refine m_callv F K (c_Mo_settle l hw) (tw_gV tj_264 tj_265 tj_266 tj_87 tj_267) q_Mo_settle rfl ⟨by decide, by decide⟩ ⟨Nat.zero_le _, Nat.zero_le _⟩ rfl (Nat.le_of_ble_eq_true rfl) d_Mo_ease_181 (fun S_18 hw => ?_)
                  refine j_aload_n F 1 d_Mo_ease_184 rfl ?_
                  refine m_geti F K 25 (by decide) rfl tj_201 rfl d_Mo_ease_185 ?_
                  exact hret _ _ _ _ hw d_Mo_ease_188
                · have hw := hwf hh
                  refine j_bipush F d_Mo_ease_124 (j_bip (by decide) (by decide)) ?_
                  exact hret _ _ _ _ hw d_Mo_ease_126
              · have hw := hwf hh
                refine j_bipush F d_Mo_ease_110 (j_bip (by decide) (by decide)) ?_
                exact hret _ _ _ _ hw d_Mo_ease_112
            · have hw := hwf hh
              refine j_bipush F d_Mo_ease_102 (j_bip (by decide) (by decide)) ?_
              exact hret _ _ _ _ hw d_Mo_ease_104
        · have hw := hwf hh
          refine j_iconst F d_Mo_ease_82 ?_
          exact hret _ _ _ _ hw d_Mo_ease_83
    · have hw := hwf hh
      refine j_iconst F d_Mo_ease_54 ?_
      exact hret _ _ _ _ hw d_Mo_ease_55
  unfold wp_Mo_ease at hw
  show jat l D X 5 0 [(0, .ref h), (1, vi v1), (2, vi v2), (3, vi v3)] [] (mw h ad kc S) 0 0
  refine j_aload_n F 0 d_Mo_ease_0 rfl ?_
  refine j_aload_n F 0 d_Mo_ease_1 rfl ?_
  refine m_calli F K (c_Mo_isUp l hw) (tw_gV tj_268 tj_269 tj_270 tj_87 tj_271) q_Mo_isUp rfl ⟨by decide, by decide⟩ ⟨Nat.zero_le _, Nat.zero_le _⟩ rfl (Nat.le_of_ble_eq_true rfl) d_Mo_ease_2 (fun r_2 S_1 hw => ?_)
  obtain ⟨hc1, hwt, hwf⟩ := hw
  refine j_if_ne F 12 hc1 d_Mo_ease_5 rfl (fun hh => ?_) (fun hh => ?_)
  · have hw := hwt hh
    refine j_aload_n F 0 d_Mo_ease_12 rfl ?_
    refine j_iload_n F 1 d_Mo_ease_13 rfl ?_
    refine m_calli F K (c_Mo_isLot l hw) (tw_gV tj_272 tj_273 tj_274 tj_87 tj_275) q_Mo_isLot rfl ⟨by decide, by decide⟩ ⟨Nat.zero_le _, Nat.zero_le _⟩ rfl (Nat.le_of_ble_eq_true rfl) d_Mo_ease_14 (fun r_4 S_3 hw => ?_)
    obtain ⟨hc1, hwt, hwf⟩ := hw
    refine j_if_eq F 28 hc1 d_Mo_ease_17 rfl (fun hh => ?_) (fun hh => ?_)
    · have hw := hwt hh
      refine j_iconst F d_Mo_ease_28 ?_
      refine j_goto F 44 d_Mo_ease_29 rfl ?_
      exact B44 _ _ _ _ _ hw
    · have hw := hwf hh
      refine j_aload_n F 0 d_Mo_ease_20 rfl ?_
      refine j_iload_n F 2 d_Mo_ease_21 rfl ?_
      refine m_calli F K (c_Mo_isLot l hw) (tw_gV tj_272 tj_273 tj_274 tj_87 tj_275) q_Mo_isLot rfl ⟨by decide, by decide⟩ ⟨Nat.zero_le _, Nat.zero_le _⟩ rfl (Nat.le_of_ble_eq_true rfl) d_Mo_ease_22 (fun r_6 S_5 hw => ?_)
      obtain ⟨hc1, hwt, hwf⟩ := hw
      refine j_if_ne F 32 hc1 d_Mo_ease_25 rfl (fun hh => ?_) (fun hh => ?_)
      · have hw := hwt hh
        refine j_iload_n F 3 d_Mo_ease_32 rfl ?_
        refine j_callS F (c_Mo_isDay l hw) (tw_gS tj_104 tj_105 tj_87 tj_106) q_Mo_isDay rfl ⟨by decide, by decide⟩ ⟨Nat.zero_le _, Nat.zero_le _⟩ rfl (Nat.le_of_ble_eq_true rfl) d_Mo_ease_33 (fun r_7 hw => ?_)
        obtain ⟨hc1, hwt, hwf⟩ := hw
        refine j_if_ne F 43 hc1 d_Mo_ease_36 rfl (fun hh => ?_) (fun hh => ?_)
        · have hw := hwt hh
          refine j_iconst F d_Mo_ease_43 ?_
          exact B44 _ _ _ _ _ hw
        · have hw := hwf hh
          refine j_iconst F d_Mo_ease_39 ?_
          refine j_goto F 44 d_Mo_ease_40 rfl ?_
          exact B44 _ _ _ _ _ hw
      · have hw := hwf hh
        refine j_iconst F d_Mo_ease_28 ?_
        refine j_goto F 44 d_Mo_ease_29 rfl ?_
        exact B44 _ _ _ _ _ hw
  · have hw := hwf hh
    refine j_iconst F d_Mo_ease_8 ?_
    refine j_goto F 44 d_Mo_ease_9 rfl ?_
    exact B44 _ _ _ _ _ hw
abbrev y_Mo_release : MethodName := ⟨"LandBookModel", "release", "(II)I"⟩
theorem q_Mo_release : y_Mo_release.cls = "LandBookModel" ∧ y_Mo_release.cls ≠ "java/lang/invoke/MethodHandle" ∧ y_Mo_release.cls ≠ "java/lang/invoke/VarHandle" ∧ (parseMethodDescriptor y_Mo_release.desc).map (fun d => d.parameters.length) = some 2 := by decide +kernel
theorem d_Mo_release_0 : decode prog_13_method_59_code 0 = .ok (.aload_n 0, 1) := by decide +kernel
theorem d_Mo_release_1 : decode prog_13_method_59_code 1 = .ok (.aload_n 0, 1) := by decide +kernel
theorem d_Mo_release_2 : decode prog_13_method_59_code 2 = .ok (.invokevirtual 264, 3) := by decide +kernel
theorem d_Mo_release_5 : decode prog_13_method_59_code 5 = .ok (.ifCond .ne 7, 3) := by decide +kernel
theorem d_Mo_release_12 : decode prog_13_method_59_code 12 = .ok (.iload_n 1, 1) := by decide +kernel
theorem d_Mo_release_13 : decode prog_13_method_59_code 13 = .ok (.iconst 1, 1) := by decide +kernel
theorem d_Mo_release_14 : decode prog_13_method_59_code 14 = .ok (.if_icmp .lt 11, 3) := by decide +kernel
theorem d_Mo_release_25 : decode prog_13_method_59_code 25 = .ok (.iconst 2, 1) := by decide +kernel
theorem d_Mo_release_26 : decode prog_13_method_59_code 26 = .ok (.goto 15, 3) := by decide +kernel
theorem d_Mo_release_17 : decode prog_13_method_59_code 17 = .ok (.iload_n 1, 1) := by decide +kernel
theorem d_Mo_release_18 : decode prog_13_method_59_code 18 = .ok (.aload_n 0, 1) := by decide +kernel
theorem d_Mo_release_19 : decode prog_13_method_59_code 19 = .ok (.getfield 198, 3) := by decide +kernel
theorem d_Mo_release_22 : decode prog_13_method_59_code 22 = .ok (.if_icmp .le 7, 3) := by decide +kernel
theorem d_Mo_release_29 : decode prog_13_method_59_code 29 = .ok (.iload_n 2, 1) := by decide +kernel
theorem d_Mo_release_30 : decode prog_13_method_59_code 30 = .ok (.invokestatic 271, 3) := by decide +kernel
theorem d_Mo_release_33 : decode prog_13_method_59_code 33 = .ok (.ifCond .ne 7, 3) := by decide +kernel
theorem d_Mo_release_40 : decode prog_13_method_59_code 40 = .ok (.iconst 0, 1) := by decide +kernel
theorem d_Mo_release_36 : decode prog_13_method_59_code 36 = .ok (.iconst 3, 1) := by decide +kernel
theorem d_Mo_release_37 : decode prog_13_method_59_code 37 = .ok (.goto 4, 3) := by decide +kernel
theorem d_Mo_release_8 : decode prog_13_method_59_code 8 = .ok (.iconst 1, 1) := by decide +kernel
theorem d_Mo_release_9 : decode prog_13_method_59_code 9 = .ok (.goto 32, 3) := by decide +kernel
theorem d_Mo_release_41 : decode prog_13_method_59_code 41 = .ok (.putfield 98, 3) := by decide +kernel
theorem d_Mo_release_44 : decode prog_13_method_59_code 44 = .ok (.aload_n 0, 1) := by decide +kernel
theorem d_Mo_release_45 : decode prog_13_method_59_code 45 = .ok (.getfield 98, 3) := by decide +kernel
theorem d_Mo_release_48 : decode prog_13_method_59_code 48 = .ok (.ifCond .le 5, 3) := by decide +kernel
theorem d_Mo_release_53 : decode prog_13_method_59_code 53 = .ok (.aload_n 0, 1) := by decide +kernel
theorem d_Mo_release_54 : decode prog_13_method_59_code 54 = .ok (.iload_n 1, 1) := by decide +kernel
theorem d_Mo_release_55 : decode prog_13_method_59_code 55 = .ok (.iload_n 2, 1) := by decide +kernel
theorem d_Mo_release_56 : decode prog_13_method_59_code 56 = .ok (.aload_n 0, 1) := by decide +kernel
theorem d_Mo_release_57 : decode prog_13_method_59_code 57 = .ok (.getfield 192, 3) := by decide +kernel
theorem d_Mo_release_60 : decode prog_13_method_59_code 60 = .ok (.invokevirtual 179, 3) := by decide +kernel
theorem d_Mo_release_63 : decode prog_13_method_59_code 63 = .ok (.ifCond .ne 5, 3) := by decide +kernel
theorem d_Mo_release_68 : decode prog_13_method_59_code 68 = .ok (.iconst 0, 1) := by decide +kernel
theorem d_Mo_release_69 : decode prog_13_method_59_code 69 = .ok (.istore_n 3, 1) := by decide +kernel
theorem d_Mo_release_70 : decode prog_13_method_59_code 70 = .ok (.iconst 1, 1) := by decide +kernel
theorem d_Mo_release_71 : decode prog_13_method_59_code 71 = .ok (.istore 4, 2) := by decide +kernel
theorem d_Mo_release_66 : decode prog_13_method_59_code 66 = .ok (.iconst (-1), 1) := by decide +kernel
theorem d_Mo_release_67 : decode prog_13_method_59_code 67 = .ok (.ireturn, 1) := by decide +kernel
theorem d_Mo_release_51 : decode prog_13_method_59_code 51 = .ok (.iconst 0, 1) := by decide +kernel
theorem d_Mo_release_52 : decode prog_13_method_59_code 52 = .ok (.ireturn, 1) := by decide +kernel
theorem d_Mo_release_73 : decode prog_13_method_59_code 73 = .ok (.iload 4, 2) := by decide +kernel
theorem d_Mo_release_75 : decode prog_13_method_59_code 75 = .ok (.aload_n 0, 1) := by decide +kernel
theorem d_Mo_release_76 : decode prog_13_method_59_code 76 = .ok (.getfield 173, 3) := by decide +kernel
theorem d_Mo_release_79 : decode prog_13_method_59_code 79 = .ok (.if_icmp .gt 44, 3) := by decide +kernel
theorem d_Mo_release_82 : decode prog_13_method_59_code 82 = .ok (.iload_n 3, 1) := by decide +kernel
theorem d_Mo_release_83 : decode prog_13_method_59_code 83 = .ok (.ifCond .ne 40, 3) := by decide +kernel
theorem d_Mo_release_86 : decode prog_13_method_59_code 86 = .ok (.aload_n 0, 1) := by decide +kernel
theorem d_Mo_release_87 : decode prog_13_method_59_code 87 = .ok (.iload_n 1, 1) := by decide +kernel
theorem d_Mo_release_88 : decode prog_13_method_59_code 88 = .ok (.iload 4, 2) := by decide +kernel
theorem d_Mo_release_90 : decode prog_13_method_59_code 90 = .ok (.iload_n 2, 1) := by decide +kernel
theorem d_Mo_release_91 : decode prog_13_method_59_code 91 = .ok (.aload_n 0, 1) := by decide +kernel
theorem d_Mo_release_92 : decode prog_13_method_59_code 92 = .ok (.getfield 192, 3) := by decide +kernel
theorem d_Mo_release_95 : decode prog_13_method_59_code 95 = .ok (.invokevirtual 188, 3) := by decide +kernel
theorem d_Mo_release_98 : decode prog_13_method_59_code 98 = .ok (.ifCond .eq 17, 3) := by decide +kernel
theorem d_Mo_release_115 : decode prog_13_method_59_code 115 = .ok (.iconst 0, 1) := by decide +kernel
theorem d_Mo_release_101 : decode prog_13_method_59_code 101 = .ok (.aload_n 0, 1) := by decide +kernel
theorem d_Mo_release_102 : decode prog_13_method_59_code 102 = .ok (.iload 4, 2) := by decide +kernel
theorem d_Mo_release_104 : decode prog_13_method_59_code 104 = .ok (.iload_n 2, 1) := by decide +kernel
theorem d_Mo_release_105 : decode prog_13_method_59_code 105 = .ok (.invokevirtual 241, 3) := by decide +kernel
theorem d_Mo_release_108 : decode prog_13_method_59_code 108 = .ok (.ifCond .eq 7, 3) := by decide +kernel
theorem d_Mo_release_111 : decode prog_13_method_59_code 111 = .ok (.iconst 1, 1) := by decide +kernel
theorem d_Mo_release_112 : decode prog_13_method_59_code 112 = .ok (.goto 4, 3) := by decide +kernel
theorem d_Mo_release_123 : decode prog_13_method_59_code 123 = .ok (.iload_n 3, 1) := by decide +kernel
theorem d_Mo_release_124 : decode prog_13_method_59_code 124 = .ok (.ifCond .eq 6, 3) := by decide +kernel
theorem d_Mo_release_130 : decode prog_13_method_59_code 130 = .ok (.aload_n 0, 1) := by decide +kernel
theorem d_Mo_release_131 : decode prog_13_method_59_code 131 = .ok (.iconst 0, 1) := by decide +kernel
theorem d_Mo_release_132 : decode prog_13_method_59_code 132 = .ok (.iconst 0, 1) := by decide +kernel
theorem d_Mo_release_133 : decode prog_13_method_59_code 133 = .ok (.iconst 5, 1) := by decide +kernel
theorem d_Mo_release_134 : decode prog_13_method_59_code 134 = .ok (.iconst 0, 1) := by decide +kernel
theorem d_Mo_release_135 : decode prog_13_method_59_code 135 = .ok (.invokevirtual 251, 3) := by decide +kernel
theorem d_Mo_release_138 : decode prog_13_method_59_code 138 = .ok (.ifCond .eq 6, 3) := by decide +kernel
theorem d_Mo_release_144 : decode prog_13_method_59_code 144 = .ok (.aload_n 0, 1) := by decide +kernel
theorem d_Mo_release_145 : decode prog_13_method_59_code 145 = .ok (.iconst 5, 1) := by decide +kernel
theorem d_Mo_release_146 : decode prog_13_method_59_code 146 = .ok (.iload_n 2, 1) := by decide +kernel
theorem d_Mo_release_147 : decode prog_13_method_59_code 147 = .ok (.iload_n 1, 1) := by decide +kernel
theorem d_Mo_release_148 : decode prog_13_method_59_code 148 = .ok (.iconst 0, 1) := by decide +kernel
theorem d_Mo_release_149 : decode prog_13_method_59_code 149 = .ok (.iconst 0, 1) := by decide +kernel
theorem d_Mo_release_150 : decode prog_13_method_59_code 150 = .ok (.iconst 0, 1) := by decide +kernel
theorem d_Mo_release_151 : decode prog_13_method_59_code 151 = .ok (.invokevirtual 254, 3) := by decide +kernel
theorem d_Mo_release_154 : decode prog_13_method_59_code 154 = .ok (.istore 4, 2) := by decide +kernel
theorem d_Mo_release_156 : decode prog_13_method_59_code 156 = .ok (.aload_n 0, 1) := by decide +kernel
theorem d_Mo_release_157 : decode prog_13_method_59_code 157 = .ok (.getfield 67, 3) := by decide +kernel
theorem d_Mo_release_160 : decode prog_13_method_59_code 160 = .ok (.iload_n 1, 1) := by decide +kernel
theorem d_Mo_release_161 : decode prog_13_method_59_code 161 = .ok (.iload 4, 2) := by decide +kernel
theorem d_Mo_release_163 : decode prog_13_method_59_code 163 = .ok (.iastore, 1) := by decide +kernel
theorem d_Mo_release_164 : decode prog_13_method_59_code 164 = .ok (.aload_n 0, 1) := by decide +kernel
theorem d_Mo_release_165 : decode prog_13_method_59_code 165 = .ok (.invokevirtual 261, 3) := by decide +kernel
theorem d_Mo_release_168 : decode prog_13_method_59_code 168 = .ok (.iload 4, 2) := by decide +kernel
theorem d_Mo_release_170 : decode prog_13_method_59_code 170 = .ok (.ireturn, 1) := by decide +kernel
theorem d_Mo_release_141 : decode prog_13_method_59_code 141 = .ok (.bipush (-4), 2) := by decide +kernel
theorem d_Mo_release_143 : decode prog_13_method_59_code 143 = .ok (.ireturn, 1) := by decide +kernel
theorem d_Mo_release_127 : decode prog_13_method_59_code 127 = .ok (.bipush (-2), 2) := by decide +kernel
theorem d_Mo_release_129 : decode prog_13_method_59_code 129 = .ok (.ireturn, 1) := by decide +kernel
theorem d_Mo_release_116 : decode prog_13_method_59_code 116 = .ok (.istore_n 3, 1) := by decide +kernel
theorem d_Mo_release_117 : decode prog_13_method_59_code 117 = .ok (.iinc 4 1, 3) := by decide +kernel
theorem d_Mo_release_120 : decode prog_13_method_59_code 120 = .ok (.goto (-47), 3) := by decide +kernel
def wp_Mo_release_123 (post : Int → MS → Prop) (v1 : Int) (v2 : Int) (v3 : Int) (S : MS) : Prop := inR v3 ∧ (v3 = 0 → (wp_Mo_isMuch (fun r_2 S_1 => inR r_2 ∧ (r_2 = 0 → (wp_Mo_accept (fun r_4 S_3 => ixR v1 202 ∧ (∀ S_5 : MS, S_5 = ms_a S_3 27 v1 r_4 → wp_Mo_settle (fun S_6 => post r_4 S_6)  S_5)) 5 v2 v1 0 0 0 S_1)) ∧ (¬ (r_2 = 0) → (post (-4) S_1))) 0 0 5 0 S)) ∧ (¬ (v3 = 0) → (post (-2) S))
def wp_Mo_release_116 (post : Int → MS → Prop) (k73 : Int → Int → Int → Int → MS → Prop) (v1 : Int) (v2 : Int) (v4 : Int) (s0 : Int) (S : MS) : Prop := k73 v1 v2 s0 (v4 + 1) S
def wp_Mo_release_73 (post : Int → MS → Prop) : Nat → Int → Int → Int → Int → MS → Prop
  | 0, _, _, _, _, _ => False
  | n + 1, v1, v2, v3, v4, S => inR v4 ∧ inR (S.1 7) ∧ ((S.1 7) < v4 → wp_Mo_release_123 post v1 v2 v3 S) ∧ (¬ ((S.1 7) < v4) → (inR v3 ∧ (¬ (v3 = 0) → wp_Mo_release_123 post v1 v2 v3 S) ∧ (v3 = 0 → (wp_Mo_burdens (fun r_2 S_1 => inR r_2 ∧ (r_2 = 0 → wp_Mo_release_116 post (wp_Mo_release_73 post n) v1 v2 v4 0 S_1) ∧ (¬ (r_2 = 0) → (wp_Mo_isLate (fun r_4 S_3 => inR r_4 ∧ (r_4 = 0 → wp_Mo_release_116 post (wp_Mo_release_73 post n) v1 v2 v4 0 S_3) ∧ (¬ (r_4 = 0) → wp_Mo_release_116 post (wp_Mo_release_73 post n) v1 v2 v4 1 S_3)) v4 v2 S_1))) v1 v4 v2 (S.1 15) S))))
def wp_Mo_release_41 (post : Int → MS → Prop) (v1 : Int) (v2 : Int) (s0 : Int) (S : MS) : Prop := (∀ S_1 : MS, S_1 = ms_i S 0 s0 → inR (S_1.1 0) ∧ ((S_1.1 0) ≤ 0 → (wp_Mo_stands (fun r_3 S_2 => inR r_3 ∧ (¬ (r_3 = 0) → (∃ n0 : Nat, wp_Mo_release_73 post n0 v1 v2 0 1 S_2)) ∧ (r_3 = 0 → (post (-1) S_2))) v1 v2 (S_1.1 15) S_1)) ∧ (¬ ((S_1.1 0) ≤ 0) → post 0 S_1))
def wp_Mo_release (post : Int → MS → Prop) (v1 : Int) (v2 : Int) (S : MS) : Prop := wp_Mo_isUp (fun r_2 S_1 => inR r_2 ∧ (¬ (r_2 = 0) → (inR v1 ∧ (v1 < 1 → wp_Mo_release_41 post v1 v2 2 S_1) ∧ (¬ (v1 < 1) → (inR v1 ∧ inR (S_1.1 25) ∧ (v1 ≤ (S_1.1 25) → (wp_Mo_isDay (fun r_3 => inR r_3 ∧ (¬ (r_3 = 0) → wp_Mo_release_41 post v1 v2 0 S_1) ∧ (r_3 = 0 → wp_Mo_release_41 post v1 v2 3 S_1)) v2)) ∧ (¬ (v1 ≤ (S_1.1 25)) → wp_Mo_release_41 post v1 v2 2 S_1))))) ∧ (r_2 = 0 → wp_Mo_release_41 post v1 v2 1 S_1))  S
set_option maxHeartbeats 4000000 in
set_option maxRecDepth 100000 in
theorem c_Mo_release (l : Launch) {D : va_G} {h : Nat} {ad : Nat → Nat} {kc : Nat → ClassId} {post : Int → MS → Prop} {v1 : Int} {v2 : Int} {S : MS} (hw : wp_Mo_release post v1 v2 S) : jMi l D h ad kc y_Mo_release prog_13_method_59_code 5 (some .int) 6 140 S [vi v1, vi v2] post := by
  refine j_moi (own := "LandBookModel") (by decide) rfl (Nat.le_of_ble_eq_true rfl) (fun X F K hret => ?_)
  have B123 : ∀ (v1 : Int) (v2 : Int) (v3 : Int) (S : MS), wp_Mo_release_123 post v1 v2 v3 S → jat l D X 5 123 [(0, .ref h), (1, vi v1), (2, vi v2), (3, vi v3)] [] (mw h ad kc S) 0 0 := by
    intro v1 v2 v3 S hw
    unfold wp_Mo_release_123 at hw
    refine j_iload_n F 3 d_Mo_release_123 rfl ?_
    obtain ⟨hc1, hwt, hwf⟩ := hw
    refine j_if_eq F 130 hc1 d_Mo_release_124 rfl (fun hh => ?_) (fun hh => ?_)
    · have hw := hwt hh
      refine j_aload_n F 0 d_Mo_release_130 rfl ?_
      refine j_iconst F d_Mo_release_131 ?_
      refine j_iconst F d_Mo_release_132 ?_
      refine j_iconst F d_Mo_release_133 ?_
      refine j_iconst F d_Mo_release_134 ?_
      refine m_calli F K (c_Mo_isMuch l hw) (tw_gV tj_252 tj_253 tj_254 tj_87 tj_255) q_Mo_isMuch rfl ⟨by decide, by decide⟩ ⟨Nat.zero_le _, Nat.zero_le _⟩ rfl (Nat.le_of_ble_eq_true rfl) d_Mo_release_135 (fun r_2 S_1 hw => ?_)
      obtain ⟨hc1, hwt, hwf⟩ := hw
      refine j_if_eq F 144 hc1 d_Mo_release_138 rfl (fun hh => ?_) (fun hh => ?_)
      · have hw := hwt hh
        refine j_aload_n F 0 d_Mo_release_144 rfl ?_
        refine j_iconst F d_Mo_release_145 ?_
        refine j_iload_n F 2 d_Mo_release_146 rfl ?_
        refine j_iload_n F 1 d_Mo_release_147 rfl ?_
        refine j_iconst F d_Mo_release_148 ?_
        refine j_iconst F d_Mo_release_149 ?_
        refine j_iconst F d_Mo_release_150 ?_
        refine m_calli F K (c_Mo_accept l hw) (tw_gV tj_256 tj_257 tj_258 tj_87 tj_259) q_Mo_accept rfl ⟨by decide, by decide⟩ ⟨Nat.zero_le _, Nat.zero_le _⟩ rfl (Nat.le_of_ble_eq_true rfl) d_Mo_release_151 (fun r_4 S_3 hw => ?_)
        refine j_istore F [(4, vi r_4), (0, .ref h), (1, vi v1), (2, vi v2), (3, vi v3)] d_Mo_release_154 (by decide) rfl ?_
        refine j_aload_n F 1 d_Mo_release_156 rfl ?_
        refine m_geta F K 27 (by decide) (by decide) tj_170 rfl d_Mo_release_157 ?_
        refine j_iload_n F 2 d_Mo_release_160 rfl ?_
        refine j_iload F 0 d_Mo_release_161 rfl ?_
        obtain ⟨hc1, hw⟩ := hw
        refine m_iast F K 27 19 rfl rfl hc1 d_Mo_release_163 (fun S_5 e_S_5 => ?_)
        have hw := hw S_5 e_S_5
        refine j_aload_n F 1 d_Mo_release_164 rfl ?_
        refine m_callv F K (c_Mo_settle l hw) (tw_gV tj_264 tj_265 tj_266 tj_87 tj_267) q_Mo_settle rfl ⟨by decide, by decide⟩ ⟨Nat.zero_le _, Nat.zero_le _⟩ rfl (Nat.le_of_ble_eq_true rfl) d_Mo_release_165 (fun S_6 hw => ?_)
        refine j_iload F 0 d_Mo_release_168 rfl ?_
        exact hret _ _ _ _ hw d_Mo_release_170
      · have hw := hwf hh
        refine j_bipush F d_Mo_release_141 (j_bip (by decide) (by decide)) ?_
        exact hret _ _ _ _ hw d_Mo_release_143
    · have hw := hwf hh
      refine j_bipush F d_Mo_release_127 (j_bip (by decide) (by decide)) ?_
      exact hret _ _ _ _ hw d_Mo_release_129
  have B73 : ∀ (n0 : Nat) (v1 : Int) (v2 : Int) (v3 : Int) (v4 : Int) (S : MS), wp_Mo_release_73 post n0 v1 v2 v3 v4 S → jat l D X 5 73 [(0, .ref h), (1, vi v1), (2, vi v2), (3, vi v3), (4, vi v4)] [] (mw h ad kc S) 0 0 := by
    intro n0
    induction n0 with
    | zero => intro v1 v2 v3 v4 S hw; exact hw.elim
    | succ n73 ih73 =>
      have B116 : ∀ (v1 : Int) (v2 : Int) (v4 : Int) (s0 : Int) (S : MS), wp_Mo_release_116 post (wp_Mo_release_73 post n73) v1 v2 v4 s0 S → jat l D X 5 116 [(0, .ref h), (1, vi v1), (2, vi v2), (4, vi v4)] [vi s0] (mw h ad kc S) 0 0 := by
        intro v1 v2 v4 s0 S hw
        unfold wp_Mo_release_116 at hw
        refine j_istore_n F [(3, vi s0), (0, .ref h), (1, vi v1), (2, vi v2), (4, vi v4)] d_Mo_release_116 (by decide) rfl ?_
        refine j_iinc F 4 [(4, vi (v4 + 1)), (3, vi s0), (0, .ref h), (1, vi v1), (2, vi v2)] d_Mo_release_117 rfl (by decide) rfl ?_
        refine j_goto F 73 d_Mo_release_120 rfl ?_
        refine j_sub [2, 3, 4, 1, 0] rfl ?_
        exact ih73 _ _ _ _ _ hw
      intro v1 v2 v3 v4 S hw
      unfold wp_Mo_release_73 at hw
      refine j_iload F 4 d_Mo_release_73 rfl ?_
      refine j_aload_n F 0 d_Mo_release_75 rfl ?_
      refine m_geti F K 7 (by decide) rfl tj_157 rfl d_Mo_release_76 ?_
      obtain ⟨hc1, hc2, hwt, hwf⟩ := hw
      refine j_icmp_gt F 123 hc1 hc2 d_Mo_release_79 rfl (fun hh => ?_) (fun hh => ?_)
      · have hw := hwt hh
        refine j_sub [0, 1, 2, 3] rfl ?_
        exact B123 _ _ _ _ hw
      · have hw := hwf hh
        refine j_iload_n F 3 d_Mo_release_82 rfl ?_
        obtain ⟨hc1, hwt, hwf⟩ := hw
        refine j_if_ne F 123 hc1 d_Mo_release_83 rfl (fun hh => ?_) (fun hh => ?_)
        · have hw := hwt hh
          refine j_sub [0, 1, 2, 3] rfl ?_
          exact B123 _ _ _ _ hw
        · have hw := hwf hh
          refine j_aload_n F 0 d_Mo_release_86 rfl ?_
          refine j_iload_n F 1 d_Mo_release_87 rfl ?_
          refine j_iload F 4 d_Mo_release_88 rfl ?_
          refine j_iload_n F 2 d_Mo_release_90 rfl ?_
          refine j_aload_n F 0 d_Mo_release_91 rfl ?_
          refine m_geti F K 15 (by decide) rfl tj_194 rfl d_Mo_release_92 ?_
          refine m_calli F K (c_Mo_burdens l hw) (tw_gV tj_189 tj_190 tj_191 tj_87 tj_192) q_Mo_burdens rfl ⟨by decide, by decide⟩ ⟨Nat.zero_le _, Nat.zero_le _⟩ rfl (Nat.le_of_ble_eq_true rfl) d_Mo_release_95 (fun r_2 S_1 hw => ?_)
          obtain ⟨hc1, hwt, hwf⟩ := hw
          refine j_if_eq F 115 hc1 d_Mo_release_98 rfl (fun hh => ?_) (fun hh => ?_)
          · have hw := hwt hh
            refine j_iconst F d_Mo_release_115 ?_
            refine j_sub [0, 1, 2, 4] rfl ?_
            exact B116 _ _ _ _ _ hw
          · have hw := hwf hh
            refine j_aload_n F 0 d_Mo_release_101 rfl ?_
            refine j_iload F 4 d_Mo_release_102 rfl ?_
            refine j_iload_n F 2 d_Mo_release_104 rfl ?_
            refine m_calli F K (c_Mo_isLate l hw) (tw_gV tj_240 tj_241 tj_242 tj_87 tj_243) q_Mo_isLate rfl ⟨by decide, by decide⟩ ⟨Nat.zero_le _, Nat.zero_le _⟩ rfl (Nat.le_of_ble_eq_true rfl) d_Mo_release_105 (fun r_4 S_3 hw => ?_)
            obtain ⟨hc1, hwt, hwf⟩ := hw
            refine j_if_eq F 115 hc1 d_Mo_release_108 rfl (fun hh => ?_) (fun hh => ?_)
            · have hw := hwt hh
              refine j_iconst F d_Mo_release_115 ?_
              refine j_sub [0, 1, 2, 4] rfl ?_
              exact B116 _ _ _ _ _ hw
            · have hw := hwf hh
              refine j_iconst F d_Mo_release_111 ?_
              refine j_goto F 116 d_Mo_release_112 rfl ?_
              refine j_sub [0, 1, 2, 4] rfl ?_
              exact B116 _ _ _ _ _ hw
  have B41 : ∀ (v1 : Int) (v2 : Int) (s0 : Int) (S : MS), wp_Mo_release_41 post v1 v2 s0 S → jat l D X 5 41 [(0, .ref h), (1, vi v1), (2, vi v2)] [vi s0, .ref h] (mw h ad kc S) 0 0 := by
    intro v1 v2 s0 S hw
    unfold wp_Mo_release_41 at hw
    refine m_puti F K 0 (by decide) rfl tj_107 rfl rfl (ty := .int) (by decide +kernel) rfl rfl d_Mo_release_41 (fun S_1 e_S_1 => ?_)
    have hw := hw S_1 e_S_1
    refine j_aload_n F 0 d_Mo_release_44 rfl ?_
    refine m_geti F K 0 (by decide) rfl tj_107 rfl d_Mo_release_45 ?_
    obtain ⟨hc1, hwt, hwf⟩ := hw
    refine j_if_le F 53 hc1 d_Mo_release_48 rfl (fun hh => ?_) (fun hh => ?_)
    · have hw := hwt hh
      refine j_aload_n F 0 d_Mo_release_53 rfl ?_
      refine j_iload_n F 1 d_Mo_release_54 rfl ?_
      refine j_iload_n F 2 d_Mo_release_55 rfl ?_
      refine j_aload_n F 0 d_Mo_release_56 rfl ?_
      refine m_geti F K 15 (by decide) rfl tj_194 rfl d_Mo_release_57 ?_
      refine m_calli F K (c_Mo_stands l hw) (tw_gV tj_171 tj_172 tj_173 tj_87 tj_174) q_Mo_stands rfl ⟨by decide, by decide⟩ ⟨Nat.zero_le _, Nat.zero_le _⟩ rfl (Nat.le_of_ble_eq_true rfl) d_Mo_release_60 (fun r_3 S_2 hw => ?_)
      obtain ⟨hc1, hwt, hwf⟩ := hw
      refine j_if_ne F 68 hc1 d_Mo_release_63 rfl (fun hh => ?_) (fun hh => ?_)
      · have hw := hwt hh
        refine j_iconst F d_Mo_release_68 ?_
        refine j_istore_n F [(3, vi 0), (0, .ref h), (1, vi v1), (2, vi v2)] d_Mo_release_69 (by decide) rfl ?_
        refine j_iconst F d_Mo_release_70 ?_
        refine j_istore F [(4, vi 1), (3, vi 0), (0, .ref h), (1, vi v1), (2, vi v2)] d_Mo_release_71 (by decide) rfl ?_
        refine j_sub [2, 3, 4, 1, 0] rfl ?_
        obtain ⟨n0, hw⟩ := hw
        exact B73 n0 _ _ _ _ _ hw
      · have hw := hwf hh
        refine j_iconst F d_Mo_release_66 ?_
        exact hret _ _ _ _ hw d_Mo_release_67
    · have hw := hwf hh
      refine j_iconst F d_Mo_release_51 ?_
      exact hret _ _ _ _ hw d_Mo_release_52
  unfold wp_Mo_release at hw
  show jat l D X 5 0 [(0, .ref h), (1, vi v1), (2, vi v2)] [] (mw h ad kc S) 0 0
  refine j_aload_n F 0 d_Mo_release_0 rfl ?_
  refine j_aload_n F 0 d_Mo_release_1 rfl ?_
  refine m_calli F K (c_Mo_isUp l hw) (tw_gV tj_268 tj_269 tj_270 tj_87 tj_271) q_Mo_isUp rfl ⟨by decide, by decide⟩ ⟨Nat.zero_le _, Nat.zero_le _⟩ rfl (Nat.le_of_ble_eq_true rfl) d_Mo_release_2 (fun r_2 S_1 hw => ?_)
  obtain ⟨hc1, hwt, hwf⟩ := hw
  refine j_if_ne F 12 hc1 d_Mo_release_5 rfl (fun hh => ?_) (fun hh => ?_)
  · have hw := hwt hh
    refine j_iload_n F 1 d_Mo_release_12 rfl ?_
    refine j_iconst F d_Mo_release_13 ?_
    obtain ⟨hc1, hwt, hwf⟩ := hw
    refine j_icmp_lt F 25 hc1 ⟨by decide, by decide⟩ d_Mo_release_14 rfl (fun hh => ?_) (fun hh => ?_)
    · have hw := hwt hh
      refine j_iconst F d_Mo_release_25 ?_
      refine j_goto F 41 d_Mo_release_26 rfl ?_
      exact B41 _ _ _ _ hw
    · have hw := hwf hh
      refine j_iload_n F 1 d_Mo_release_17 rfl ?_
      refine j_aload_n F 0 d_Mo_release_18 rfl ?_
      refine m_geti F K 25 (by decide) rfl tj_201 rfl d_Mo_release_19 ?_
      obtain ⟨hc1, hc2, hwt, hwf⟩ := hw
      refine j_icmp_le F 29 hc1 hc2 d_Mo_release_22 rfl (fun hh => ?_) (fun hh => ?_)
      · have hw := hwt hh
        refine j_iload_n F 2 d_Mo_release_29 rfl ?_
        refine j_callS F (c_Mo_isDay l hw) (tw_gS tj_104 tj_105 tj_87 tj_106) q_Mo_isDay rfl ⟨by decide, by decide⟩ ⟨Nat.zero_le _, Nat.zero_le _⟩ rfl (Nat.le_of_ble_eq_true rfl) d_Mo_release_30 (fun r_3 hw => ?_)
        obtain ⟨hc1, hwt, hwf⟩ := hw
        refine j_if_ne F 40 hc1 d_Mo_release_33 rfl (fun hh => ?_) (fun hh => ?_)
        · have hw := hwt hh
          refine j_iconst F d_Mo_release_40 ?_
          exact B41 _ _ _ _ hw
        · have hw := hwf hh
          refine j_iconst F d_Mo_release_36 ?_
          refine j_goto F 41 d_Mo_release_37 rfl ?_
          exact B41 _ _ _ _ hw
      · have hw := hwf hh
        refine j_iconst F d_Mo_release_25 ?_
        refine j_goto F 41 d_Mo_release_26 rfl ?_
        exact B41 _ _ _ _ hw
  · have hw := hwf hh
    refine j_iconst F d_Mo_release_8 ?_
    refine j_goto F 41 d_Mo_release_9 rfl ?_
    exact B41 _ _ _ _ hw
