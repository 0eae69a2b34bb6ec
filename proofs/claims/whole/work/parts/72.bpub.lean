theorem tq_475 : (Jvm.Cond.methodLink "LandBook" (49 : Nat) ({ cls := "LandBook", name := "checkPoint", desc := "(II)V" } : Jvm.MethodName)) ∈ tw_G := tw_in (List.mem_of_getElem? (i := 260) (by decide +kernel)) rfl
theorem tq_476 : (Jvm.Cond.static ({ cls := "LandBook", name := "checkPoint", desc := "(II)V" } : Jvm.MethodName)) ∈ tw_G := tw_in (List.mem_of_getElem? (i := 261) (by decide +kernel)) rfl
theorem tq_477 : (Jvm.Cond.code ({ cls := "LandBook", name := "checkPoint", desc := "(II)V" } : Jvm.MethodName) prog_1_method_27_code (2 : Nat) (Option.none : Option Jvm.ClassFile.FieldType)) ∈ tw_G := tw_in (List.mem_of_getElem? (i := 262) (by decide +kernel)) rfl
theorem tq_478 : (Jvm.Cond.methodLink "LandBook" (64 : Nat) ({ cls := "LandBook$Plane", name := "pack", desc := "(II)I" } : Jvm.MethodName)) ∈ tw_G := tw_in (List.mem_of_getElem? (i := 348) (by decide +kernel)) rfl
theorem tq_479 : (Jvm.Cond.static ({ cls := "LandBook$Plane", name := "pack", desc := "(II)I" } : Jvm.MethodName)) ∈ tw_G := tw_in (List.mem_of_getElem? (i := 349) (by decide +kernel)) rfl
theorem tq_480 : (Jvm.Cond.code ({ cls := "LandBook$Plane", name := "pack", desc := "(II)I" } : Jvm.MethodName) prog_8_method_2_code (2 : Nat) (Option.some Jvm.ClassFile.FieldType.int)) ∈ tw_G := tw_in (List.mem_of_getElem? (i := 350) (by decide +kernel)) rfl
theorem tq_481 : (Jvm.Cond.classLink "LandBook" (57 : Nat) "java/lang/UnsupportedOperationException") ∈ tw_G := tw_in (List.mem_of_getElem? (i := 332) (by decide +kernel)) rfl
theorem tq_482 : (Jvm.Cond.initialized "java/lang/UnsupportedOperationException") ∈ tw_G := tw_in (List.mem_of_getElem? (i := 74) (by decide +kernel)) rfl
abbrev y_BLB_point : MethodName := ⟨"LandBook", "point", "(II)I"⟩
theorem q_BLB_point : y_BLB_point.cls = "LandBook" ∧ y_BLB_point.cls ≠ "java/lang/invoke/MethodHandle" ∧ y_BLB_point.cls ≠ "java/lang/invoke/VarHandle" ∧ (parseMethodDescriptor y_BLB_point.desc).map (fun d => d.parameters.length) = some 2 := by decide +kernel
theorem d_BLB_point_0 : decode prog_1_method_2_code 0 = .ok (.iload_n 1, 1) := by decide +kernel
theorem d_BLB_point_1 : decode prog_1_method_2_code 1 = .ok (.iload_n 2, 1) := by decide +kernel
theorem d_BLB_point_2 : decode prog_1_method_2_code 2 = .ok (.invokestatic 49, 3) := by decide +kernel
theorem d_BLB_point_5 : decode prog_1_method_2_code 5 = .ok (.aload_n 0, 1) := by decide +kernel
theorem d_BLB_point_6 : decode prog_1_method_2_code 6 = .ok (.getfield 14, 3) := by decide +kernel
theorem d_BLB_point_9 : decode prog_1_method_2_code 9 = .ok (.getfield 53, 3) := by decide +kernel
theorem d_BLB_point_12 : decode prog_1_method_2_code 12 = .ok (.bipush 32, 2) := by decide +kernel
theorem d_BLB_point_14 : decode prog_1_method_2_code 14 = .ok (.if_icmp .lt 13, 3) := by decide +kernel
theorem d_BLB_point_27 : decode prog_1_method_2_code 27 = .ok (.aload_n 0, 1) := by decide +kernel
theorem d_BLB_point_28 : decode prog_1_method_2_code 28 = .ok (.getfield 14, 3) := by decide +kernel
theorem d_BLB_point_31 : decode prog_1_method_2_code 31 = .ok (.iload_n 1, 1) := by decide +kernel
theorem d_BLB_point_32 : decode prog_1_method_2_code 32 = .ok (.iload_n 2, 1) := by decide +kernel
theorem d_BLB_point_33 : decode prog_1_method_2_code 33 = .ok (.invokestatic 64, 3) := by decide +kernel
theorem d_BLB_point_36 : decode prog_1_method_2_code 36 = .ok (.invokevirtual 70, 3) := by decide +kernel
theorem d_BLB_point_39 : decode prog_1_method_2_code 39 = .ok (.aload_n 0, 1) := by decide +kernel
theorem d_BLB_point_40 : decode prog_1_method_2_code 40 = .ok (.getfield 14, 3) := by decide +kernel
theorem d_BLB_point_43 : decode prog_1_method_2_code 43 = .ok (.getfield 53, 3) := by decide +kernel
theorem d_BLB_point_46 : decode prog_1_method_2_code 46 = .ok (.ireturn, 1) := by decide +kernel
theorem d_BLB_point_17 : decode prog_1_method_2_code 17 = .ok (.new 57, 3) := by decide +kernel
theorem d_BLB_point_20 : decode prog_1_method_2_code 20 = .ok (.dup, 1) := by decide +kernel
theorem d_BLB_point_21 : decode prog_1_method_2_code 21 = .ok (.ldc 59, 2) := by decide +kernel
theorem d_BLB_point_23 : decode prog_1_method_2_code 23 = .ok (.invokespecial 61, 3) := by decide +kernel
theorem d_BLB_point_26 : decode prog_1_method_2_code 26 = .ok (.athrow, 1) := by decide +kernel
def wp_BLB_point (post : Int → CS → Prop) (pe : String → CS → Prop) (mc0 ms0 : Nat) (v0 : Nat) (v1 : Int) (v2 : Int) (T : CS) : Prop := ∃ mc_3 ms_4 mc_5 ms_6 : Nat, (mc0 = mc_3 + mc_5 ∧ ms0 = ms_4 + ms_6) ∧ wp_BLB_checkPoint (fun T_1 => tg T_1 v0 = 1 ∧ ∃ q_7 : Nat, fo T_1 v0 0 = some q_7 ∧ (tg T_1 q_7 = 2 ∧ (inR (fi T_1 q_7 1) ∧ ((fi T_1 q_7 1) < 32 → (tg T_1 v0 = 1 ∧ ∃ q_8 : Nat, fo T_1 v0 0 = some q_8 ∧ (wp_BPl_pack (fun r_9 => tg T_1 q_8 = 2 ∧ wp_BPt_add (fun T_10 => tg T_10 v0 = 1 ∧ ∃ q_12 : Nat, fo T_10 v0 0 = some q_12 ∧ (tg T_10 q_12 = 2 ∧ (post (fi T_10 q_12 1) T_10))) q_8 r_9 T_1) v1 v2))) ∧ (¬ ((fi T_1 q_7 1) < 32) → ((1 ≤ mc_5 ∧ 6 ≤ ms_6) ∧ pe "java/lang/UnsupportedOperationException" T_1))))) pe mc_3 ms_4 v1 v2 T
set_option maxHeartbeats 4000000 in
set_option maxRecDepth 100000 in
theorem c_BLB_point (l : Launch) (hfl : l.flags = pinnedFlags ++ [noTraceFlag]) {D : va_G} {k : CK} {post : Int → CS → Prop} {pe : String → CS → Prop} {mc ms : Nat} {v0 : Nat} {v1 : Int} {v2 : Int} {T : CS} (hw : wp_BLB_point post pe mc ms v0 v1 v2 T) : jE l D k y_BLB_point prog_1_method_2_code 3 (some .int) 7 103 mc ms T [.ref v0, vi v1, vi v2] (rtI post) pe := by
  refine j_eo hfl (by decide) rfl (Nat.le_of_ble_eq_true rfl) (by decide) (by decide) (fun X F K E hT Pr hthr hri hrz hrv => ?_)
  unfold wp_BLB_point at hw
  have key : ∀ (mc0 ms0 c0 n0 : Nat), mc0 = mc → ms0 = ms → c0 = 0 → n0 = 0 → c0 + mc0 = mc → n0 + ms0 = ms → jat l D X 3 0 [(0, .ref v0), (1, vi v1), (2, vi v2)] [] (cwd k T) c0 n0 := by
    intro mc0 ms0 c0 n0 hm1 hm2 hz1 hz2 hc0 hn0
    subst hm1; subst hm2
    clear hz1 hz2
    refine j_iload_n F 1 d_BLB_point_0 rfl ?_
    refine j_iload_n F 2 d_BLB_point_1 rfl ?_
    obtain ⟨mc_3, ms_4, mc_5, ms_6, ⟨he1, he2⟩, hw⟩ := hw
    refine e_callS F K E Pr hT (c_BLB_checkPoint l hfl hw) (tw_gS tq_475 tq_476 tq_473 tq_477) q_BLB_checkPoint rfl ⟨by decide, by decide⟩ ⟨rm_l hc0 he1, rm_l hn0 he2⟩ rfl (Nat.le_of_ble_eq_true rfl) d_BLB_point_2 (fun ov T_1 hw hT => ?_)
    obtain ⟨rfl, hw⟩ := hw
    have hc0 := rm_c hc0 he1
    have hn0 := rm_c hn0 he2
    refine j_aload_n F 0 d_BLB_point_5 rfl ?_
    obtain ⟨hc1, q_7, hc2, hw⟩ := hw
    refine c_getr F K hT 1 0 rfl tu_LandBook (by decide) (by decide) rfl tq_437 (Or.inl rfl) hc1 hc2 d_BLB_point_6 ?_
    obtain ⟨hc1, hw⟩ := hw
    refine c_geti F K hT 2 1 rfl tu_Points (by decide) (by decide) rfl tq_438 (Or.inl rfl) hc1 d_BLB_point_9 ?_
    refine j_bipush F d_BLB_point_12 (j_bip (by decide) (by decide)) ?_
    obtain ⟨hc1, hwt, hwf⟩ := hw
    refine j_icmp_lt F 27 hc1 ⟨by decide, by decide⟩ d_BLB_point_14 rfl (fun hh => ?_) (fun hh => ?_)
    · have hw := hwt hh
      refine j_aload_n F 0 d_BLB_point_27 rfl ?_
      obtain ⟨hc1, q_8, hc2, hw⟩ := hw
      refine c_getr F K hT 1 0 rfl tu_LandBook (by decide) (by decide) rfl tq_437 (Or.inl rfl) hc1 hc2 d_BLB_point_28 ?_
      refine j_iload_n F 1 d_BLB_point_31 rfl ?_
      refine j_iload_n F 2 d_BLB_point_32 rfl ?_
      refine j_callS F (c_BPl_pack l hw) (tw_gS tq_478 tq_479 tq_88 tq_480) q_BPl_pack rfl ⟨by decide, by decide⟩ ⟨rm_y hc0, rm_y hn0⟩ rfl (Nat.le_of_ble_eq_true rfl) d_BLB_point_33 (fun r_9 hw => ?_)
      obtain ⟨hg1, hw⟩ := hw
      refine c_callVv F K hT (c_BPt_add l hw) (tw_gV tq_440 tq_131 tq_132 tq_126 tq_133) 2 rfl (by decide) hg1 q_BPt_add rfl ⟨by decide, by decide⟩ ⟨rm_z hc0, rm_z hn0⟩ rfl (Nat.le_of_ble_eq_true rfl) d_BLB_point_36 (fun T_10 hw hT => ?_)
      refine j_aload_n F 0 d_BLB_point_39 rfl ?_
      obtain ⟨hc1, q_12, hc2, hw⟩ := hw
      refine c_getr F K hT 1 0 rfl tu_LandBook (by decide) (by decide) rfl tq_437 (Or.inl rfl) hc1 hc2 d_BLB_point_40 ?_
      obtain ⟨hc1, hw⟩ := hw
      refine c_geti F K hT 2 1 rfl tu_Points (by decide) (by decide) rfl tq_438 (Or.inl rfl) hc1 d_BLB_point_43 ?_
      exact hri _ _ _ _ _ _ rfl ⟨_, rfl, hw⟩ hT (rm_y hc0) (rm_y hn0) d_BLB_point_46
    · have hw := hwf hh
      obtain ⟨⟨hr1, hr2⟩, hw⟩ := hw
      exact hthr _ _ _ _ _ _ "the row is full" 57 59 61 2 hw hT (by decide) (by decide) (by decide) tq_481 tq_482 d_BLB_point_17 d_BLB_point_20 (Or.inl ⟨rfl, d_BLB_point_21⟩) d_BLB_point_23 d_BLB_point_26 (rm_t hc0 hr1) (rm_t hn0 hr2)
  exact key mc ms 0 0 rfl rfl rfl rfl (Nat.zero_add _) (Nat.zero_add _)
theorem tq_483 : (Jvm.Cond.methodLink "LandBook" (73 : Nat) ({ cls := "LandBook", name := "takeRow", desc := "()V" } : Jvm.MethodName)) ∈ tw_G := tw_in (List.mem_of_getElem? (i := 364) (by decide +kernel)) rfl
theorem tq_484 : (Jvm.Cond.instanceMethod ({ cls := "LandBook", name := "takeRow", desc := "()V" } : Jvm.MethodName)) ∈ tw_G := tw_in (List.mem_of_getElem? (i := 366) (by decide +kernel)) rfl
theorem tq_485 : (Jvm.Cond.selects "LandBook" ⟨"LandBook", "takeRow", "()V"⟩ ⟨"LandBook", "takeRow", "()V"⟩) ∈ tw_G := tw_in (List.mem_of_getElem? (i := 1) (by decide +kernel)) rfl
theorem tq_486 : (Jvm.Cond.code ({ cls := "LandBook", name := "takeRow", desc := "()V" } : Jvm.MethodName) prog_1_method_23_code (2 : Nat) (Option.none : Option Jvm.ClassFile.FieldType)) ∈ tw_G := tw_in (List.mem_of_getElem? (i := 367) (by decide +kernel)) rfl
theorem tq_487 : (Jvm.Cond.methodLink "LandBook" (85 : Nat) ({ cls := "LandBook$Rings", name := "isSimple", desc := "(LLandBook$Points;Z)Z" } : Jvm.MethodName)) ∈ tw_G := tw_in (List.mem_of_getElem? (i := 403) (by decide +kernel)) rfl
theorem tq_488 : (Jvm.Cond.classLink "LandBook" (7 : Nat) "LandBook$Points") ∈ tw_G := tw_in (List.mem_of_getElem? (i := 97) (by decide +kernel)) rfl
theorem tq_489 : (Jvm.Cond.methodLink "LandBook" (11 : Nat) ({ cls := "LandBook$Points", name := "<init>", desc := "(I)V" } : Jvm.MethodName)) ∈ tw_G := tw_in (List.mem_of_getElem? (i := 99) (by decide +kernel)) rfl
theorem tq_490 : (Jvm.Cond.methodLink "LandBook" (91 : Nat) ({ cls := "LandBook$Rings", name := "keep", desc := "(LLandBook$Points;LLandBook$Points;)V" } : Jvm.MethodName)) ∈ tw_G := tw_in (List.mem_of_getElem? (i := 428) (by decide +kernel)) rfl
theorem tq_491 : (Jvm.Cond.methodLink "LandBook" (95 : Nat) ({ cls := "LandBook$Register", name := "found", desc := "(LLandBook$Points;)V" } : Jvm.MethodName)) ∈ tw_G := tw_in (List.mem_of_getElem? (i := 439) (by decide +kernel)) rfl
theorem tq_492 : (Jvm.Cond.instanceMethod ({ cls := "LandBook$Register", name := "found", desc := "(LLandBook$Points;)V" } : Jvm.MethodName)) ∈ tw_G := tw_in (List.mem_of_getElem? (i := 440) (by decide +kernel)) rfl
theorem tq_493 : (Jvm.Cond.selects "LandBook$Register" ({ cls := "LandBook$Register", name := "found", desc := "(LLandBook$Points;)V" } : Jvm.MethodName) ({ cls := "LandBook$Register", name := "found", desc := "(LLandBook$Points;)V" } : Jvm.MethodName)) ∈ tw_G := tw_in (List.mem_of_getElem? (i := 441) (by decide +kernel)) rfl
theorem tq_494 : (Jvm.Cond.code ({ cls := "LandBook$Register", name := "found", desc := "(LLandBook$Points;)V" } : Jvm.MethodName) prog_10_method_8_code (3 : Nat) (Option.none : Option Jvm.ClassFile.FieldType)) ∈ tw_G := tw_in (List.mem_of_getElem? (i := 442) (by decide +kernel)) rfl
abbrev y_BLB_open : MethodName := ⟨"LandBook", "open", "()Z"⟩
theorem q_BLB_open : y_BLB_open.cls = "LandBook" ∧ y_BLB_open.cls ≠ "java/lang/invoke/MethodHandle" ∧ y_BLB_open.cls ≠ "java/lang/invoke/VarHandle" ∧ (parseMethodDescriptor y_BLB_open.desc).map (fun d => d.parameters.length) = some 0 := by decide +kernel
theorem d_BLB_open_0 : decode prog_1_method_3_code 0 = .ok (.aload_n 0, 1) := by decide +kernel
theorem d_BLB_open_1 : decode prog_1_method_3_code 1 = .ok (.invokevirtual 73, 3) := by decide +kernel
theorem d_BLB_open_4 : decode prog_1_method_3_code 4 = .ok (.aload_n 0, 1) := by decide +kernel
theorem d_BLB_open_5 : decode prog_1_method_3_code 5 = .ok (.getfield 38, 3) := by decide +kernel
theorem d_BLB_open_8 : decode prog_1_method_3_code 8 = .ok (.invokevirtual 76, 3) := by decide +kernel
theorem d_BLB_open_11 : decode prog_1_method_3_code 11 = .ok (.ifCond .le 13, 3) := by decide +kernel
theorem d_BLB_open_24 : decode prog_1_method_3_code 24 = .ok (.aload_n 0, 1) := by decide +kernel
theorem d_BLB_open_25 : decode prog_1_method_3_code 25 = .ok (.getfield 18, 3) := by decide +kernel
theorem d_BLB_open_28 : decode prog_1_method_3_code 28 = .ok (.getfield 53, 3) := by decide +kernel
theorem d_BLB_open_31 : decode prog_1_method_3_code 31 = .ok (.iconst 3, 1) := by decide +kernel
theorem d_BLB_open_32 : decode prog_1_method_3_code 32 = .ok (.if_icmp .lt 14, 3) := by decide +kernel
theorem d_BLB_open_46 : decode prog_1_method_3_code 46 = .ok (.iconst 0, 1) := by decide +kernel
theorem d_BLB_open_47 : decode prog_1_method_3_code 47 = .ok (.ireturn, 1) := by decide +kernel
theorem d_BLB_open_35 : decode prog_1_method_3_code 35 = .ok (.aload_n 0, 1) := by decide +kernel
theorem d_BLB_open_36 : decode prog_1_method_3_code 36 = .ok (.getfield 18, 3) := by decide +kernel
theorem d_BLB_open_39 : decode prog_1_method_3_code 39 = .ok (.iconst 1, 1) := by decide +kernel
theorem d_BLB_open_40 : decode prog_1_method_3_code 40 = .ok (.invokestatic 85, 3) := by decide +kernel
theorem d_BLB_open_43 : decode prog_1_method_3_code 43 = .ok (.ifCond .ne 5, 3) := by decide +kernel
theorem d_BLB_open_48 : decode prog_1_method_3_code 48 = .ok (.new 7, 3) := by decide +kernel
theorem d_BLB_open_51 : decode prog_1_method_3_code 51 = .ok (.dup, 1) := by decide +kernel
theorem d_BLB_open_52 : decode prog_1_method_3_code 52 = .ok (.bipush 32, 2) := by decide +kernel
theorem d_BLB_open_54 : decode prog_1_method_3_code 54 = .ok (.invokespecial 11, 3) := by decide +kernel
theorem d_BLB_open_57 : decode prog_1_method_3_code 57 = .ok (.astore_n 1, 1) := by decide +kernel
theorem d_BLB_open_58 : decode prog_1_method_3_code 58 = .ok (.aload_n 0, 1) := by decide +kernel
theorem d_BLB_open_59 : decode prog_1_method_3_code 59 = .ok (.getfield 18, 3) := by decide +kernel
theorem d_BLB_open_62 : decode prog_1_method_3_code 62 = .ok (.aload_n 1, 1) := by decide +kernel
theorem d_BLB_open_63 : decode prog_1_method_3_code 63 = .ok (.invokestatic 91, 3) := by decide +kernel
theorem d_BLB_open_66 : decode prog_1_method_3_code 66 = .ok (.aload_n 0, 1) := by decide +kernel
theorem d_BLB_open_67 : decode prog_1_method_3_code 67 = .ok (.getfield 38, 3) := by decide +kernel
theorem d_BLB_open_70 : decode prog_1_method_3_code 70 = .ok (.aload_n 1, 1) := by decide +kernel
theorem d_BLB_open_71 : decode prog_1_method_3_code 71 = .ok (.invokevirtual 95, 3) := by decide +kernel
theorem d_BLB_open_74 : decode prog_1_method_3_code 74 = .ok (.iconst 1, 1) := by decide +kernel
theorem d_BLB_open_75 : decode prog_1_method_3_code 75 = .ok (.ireturn, 1) := by decide +kernel
theorem d_BLB_open_14 : decode prog_1_method_3_code 14 = .ok (.new 80, 3) := by decide +kernel
theorem d_BLB_open_17 : decode prog_1_method_3_code 17 = .ok (.dup, 1) := by decide +kernel
theorem d_BLB_open_18 : decode prog_1_method_3_code 18 = .ok (.ldc 82, 2) := by decide +kernel
theorem d_BLB_open_20 : decode prog_1_method_3_code 20 = .ok (.invokespecial 84, 3) := by decide +kernel
theorem d_BLB_open_23 : decode prog_1_method_3_code 23 = .ok (.athrow, 1) := by decide +kernel
def wp_BLB_open (post : Int → CS → Prop) (pe : String → CS → Prop) (mc0 ms0 : Nat) (v0 : Nat) (T : CS) : Prop := tg T v0 = 1 ∧ wp_BLB_takeRow (fun T_1 => tg T_1 v0 = 1 ∧ ∃ q_3 : Nat, fo T_1 v0 4 = some q_3 ∧ (tg T_1 q_3 = 5 ∧ wp_BRg_lotCount (fun r_5 T_4 => inR r_5 ∧ (r_5 ≤ 0 → (tg T_4 v0 = 1 ∧ ∃ q_6 : Nat, fo T_4 v0 1 = some q_6 ∧ (tg T_4 q_6 = 2 ∧ (inR (fi T_4 q_6 1) ∧ ((fi T_4 q_6 1) < 3 → post 0 T_4) ∧ (¬ ((fi T_4 q_6 1) < 3) → (tg T_4 v0 = 1 ∧ ∃ q_7 : Nat, fo T_4 v0 1 = some q_7 ∧ (wp_BRi_isSimple (fun r_9 T_8 => inR r_9 ∧ (¬ (r_9 = 0) → (∃ mc_12 ms_13 : Nat, (mc0 = 1 + mc_12 ∧ ms0 = 2 + ms_13) ∧ (∀ (q_10 : Nat) (T_11 : CS), tg T_8 q_10 = 0 → T_11 = cs_new T_8 q_10 2 0 → ∃ mc_16 ms_17 mc_18 ms_19 : Nat, (mc_12 = mc_16 + mc_18 ∧ ms_13 = ms_17 + ms_19) ∧ wp_BPt_init (fun T_14 => tg T_14 v0 = 1 ∧ ∃ q_20 : Nat, fo T_14 v0 1 = some q_20 ∧ (wp_BRi_keep (fun T_21 => tg T_21 v0 = 1 ∧ ∃ q_23 : Nat, fo T_21 v0 4 = some q_23 ∧ (∃ mc_26 ms_27 mc_28 ms_29 : Nat, (mc_18 = mc_26 + mc_28 ∧ ms_19 = ms_27 + ms_29) ∧ tg T_21 q_23 = 5 ∧ wp_BRg_found (fun T_24 => post 1 T_24) mc_26 ms_27 q_23 q_10 T_21)) q_20 q_10 T_14)) mc_16 ms_17 q_10 32 T_11))) ∧ (r_9 = 0 → post 0 T_8)) q_7 1 T_4))))))) ∧ (¬ (r_5 ≤ 0) → ((1 ≤ mc0 ∧ 6 ≤ ms0) ∧ pe "java/lang/IllegalStateException" T_4))) q_3 T_1)) v0 T
set_option maxHeartbeats 4000000 in
set_option maxRecDepth 100000 in
theorem c_BLB_open (l : Launch) (hfl : l.flags = pinnedFlags ++ [noTraceFlag]) {D : va_G} {k : CK} {post : Int → CS → Prop} {pe : String → CS → Prop} {mc ms : Nat} {v0 : Nat} {T : CS} (hw : wp_BLB_open post pe mc ms v0 T) : jE l D k y_BLB_open prog_1_method_3_code 2 (some .boolean) 8 213 mc ms T [.ref v0] (rtI post) pe := by
  refine j_eo hfl (by decide) rfl (Nat.le_of_ble_eq_true rfl) (by decide) (by decide) (fun X F K E hT Pr hthr hri hrz hrv => ?_)
  unfold wp_BLB_open at hw
  have key : ∀ (mc0 ms0 c0 n0 : Nat), mc0 = mc → ms0 = ms → c0 = 0 → n0 = 0 → c0 + mc0 = mc → n0 + ms0 = ms → jat l D X 2 0 [(0, .ref v0)] [] (cwd k T) c0 n0 := by
    intro mc0 ms0 c0 n0 hm1 hm2 hz1 hz2 hc0 hn0
    subst hm1; subst hm2
    clear hz1 hz2
    refine j_aload_n F 0 d_BLB_open_0 rfl ?_
    obtain ⟨hg1, hw⟩ := hw
    refine c_callVv F K hT (c_BLB_takeRow l hw) (tw_gV tq_483 tq_484 tq_485 tq_473 tq_486) 1 rfl (by decide) hg1 q_BLB_takeRow rfl ⟨by decide, by decide⟩ ⟨rm_z hc0, rm_z hn0⟩ rfl (Nat.le_of_ble_eq_true rfl) d_BLB_open_1 (fun T_1 hw hT => ?_)
    refine j_aload_n F 0 d_BLB_open_4 rfl ?_
    obtain ⟨hc1, q_3, hc2, hw⟩ := hw
    refine c_getr F K hT 1 4 rfl tu_LandBook (by decide) (by decide) rfl tq_441 (Or.inl rfl) hc1 hc2 d_BLB_open_5 ?_
    obtain ⟨hg1, hw⟩ := hw
    refine c_callVi F K hT (c_BRg_lotCount l hw) (tw_gV tq_443 tq_444 tq_445 tq_336 tq_446) 5 rfl (by decide) hg1 q_BRg_lotCount rfl ⟨by decide, by decide⟩ ⟨rm_z hc0, rm_z hn0⟩ rfl (Nat.le_of_ble_eq_true rfl) d_BLB_open_8 (fun r_5 T_4 hw hT => ?_)
    obtain ⟨hc1, hwt, hwf⟩ := hw
    refine j_if_le F 24 hc1 d_BLB_open_11 rfl (fun hh => ?_) (fun hh => ?_)
    · have hw := hwt hh
      refine j_aload_n F 0 d_BLB_open_24 rfl ?_
      obtain ⟨hc1, q_6, hc2, hw⟩ := hw
      refine c_getr F K hT 1 1 rfl tu_LandBook (by decide) (by decide) rfl tq_435 (Or.inl rfl) hc1 hc2 d_BLB_open_25 ?_
      obtain ⟨hc1, hw⟩ := hw
      refine c_geti F K hT 2 1 rfl tu_Points (by decide) (by decide) rfl tq_438 (Or.inl rfl) hc1 d_BLB_open_28 ?_
      refine j_iconst F d_BLB_open_31 ?_
      obtain ⟨hc1, hwt, hwf⟩ := hw
      refine j_icmp_lt F 46 hc1 ⟨by decide, by decide⟩ d_BLB_open_32 rfl (fun hh => ?_) (fun hh => ?_)
      · have hw := hwt hh
        refine j_iconst F d_BLB_open_46 ?_
        exact hrz _ _ _ _ _ _ rfl ⟨_, rfl, hw⟩ hT (rm_y hc0) (rm_y hn0) (Or.inl rfl) d_BLB_open_47
      · have hw := hwf hh
        refine j_aload_n F 0 d_BLB_open_35 rfl ?_
        obtain ⟨hc1, q_7, hc2, hw⟩ := hw
        refine c_getr F K hT 1 1 rfl tu_LandBook (by decide) (by decide) rfl tq_435 (Or.inl rfl) hc1 hc2 d_BLB_open_36 ?_
        refine j_iconst F d_BLB_open_39 ?_
        refine c_callSi F K hT (c_BRi_isSimple l hw) (tw_gS tq_487 tq_173 tq_146 tq_174) q_BRi_isSimple rfl ⟨by decide, by decide⟩ ⟨rm_z hc0, rm_z hn0⟩ rfl (Nat.le_of_ble_eq_true rfl) d_BLB_open_40 (fun r_9 T_8 hw hT => ?_)
        obtain ⟨hc1, hwt, hwf⟩ := hw
        refine j_if_ne F 48 hc1 d_BLB_open_43 rfl (fun hh => ?_) (fun hh => ?_)
        · have hw := hwt hh
          obtain ⟨mc_12, ms_13, ⟨he1, he2⟩, hw⟩ := hw
          refine c_new F K hT 2 rfl tu_Points t_Points t_Points_ok (by decide) rfl (by decide) tq_488 tq_125 tq_126 (rm_l hc0 he1) (rm_l hn0 he2) d_BLB_open_48 (fun q_10 T_11 e_q_10 e_T_11 hT => ?_)
          have hw := hw q_10 T_11 e_q_10 e_T_11
          have hc0 := rm_c hc0 he1
          have hn0 := rm_c hn0 he2
          refine j_dup F rfl d_BLB_open_51 ?_
          refine j_bipush F d_BLB_open_52 (j_bip (by decide) (by decide)) ?_
          obtain ⟨mc_16, ms_17, mc_18, ms_19, ⟨he1, he2⟩, hw⟩ := hw
          refine c_callIv F K hT (c_BPt_init l hw) tq_127 tq_126 tq_489 tq_129 rfl q_BPt_init rfl ⟨by decide, by decide⟩ ⟨rm_l hc0 he1, rm_l hn0 he2⟩ rfl (Nat.le_of_ble_eq_true rfl) d_BLB_open_54 (fun T_14 hw hT => ?_)
          have hc0 := rm_c hc0 he1
          have hn0 := rm_c hn0 he2
          refine j_astore_n F [(1, .ref q_10), (0, .ref v0)] d_BLB_open_57 (by decide) rfl ?_
          refine j_aload_n F 1 d_BLB_open_58 rfl ?_
          obtain ⟨hc1, q_20, hc2, hw⟩ := hw
          refine c_getr F K hT 1 1 rfl tu_LandBook (by decide) (by decide) rfl tq_435 (Or.inl rfl) hc1 hc2 d_BLB_open_59 ?_
          refine j_aload_n F 0 d_BLB_open_62 rfl ?_
          refine c_callSv F K hT (c_BRi_keep l hw) (tw_gS tq_490 tq_194 tq_146 tq_195) q_BRi_keep rfl ⟨by decide, by decide⟩ ⟨rm_z hc0, rm_z hn0⟩ rfl (Nat.le_of_ble_eq_true rfl) d_BLB_open_63 (fun T_21 hw hT => ?_)
          refine j_aload_n F 1 d_BLB_open_66 rfl ?_
          obtain ⟨hc1, q_23, hc2, hw⟩ := hw
          refine c_getr F K hT 1 4 rfl tu_LandBook (by decide) (by decide) rfl tq_441 (Or.inl rfl) hc1 hc2 d_BLB_open_67 ?_
          refine j_aload_n F 0 d_BLB_open_70 rfl ?_
          obtain ⟨mc_26, ms_27, mc_28, ms_29, ⟨he1, he2⟩, hw⟩ := hw
          obtain ⟨hg1, hw⟩ := hw
          refine c_callVv F K hT (c_BRg_found l hw) (tw_gV tq_491 tq_492 tq_493 tq_336 tq_494) 5 rfl (by decide) hg1 q_BRg_found rfl ⟨by decide, by decide⟩ ⟨rm_l hc0 he1, rm_l hn0 he2⟩ rfl (Nat.le_of_ble_eq_true rfl) d_BLB_open_71 (fun T_24 hw hT => ?_)
          have hc0 := rm_c hc0 he1
          have hn0 := rm_c hn0 he2
          refine j_iconst F d_BLB_open_74 ?_
          exact hrz _ _ _ _ _ _ rfl ⟨_, rfl, hw⟩ hT (rm_y hc0) (rm_y hn0) (Or.inr rfl) d_BLB_open_75
        · have hw := hwf hh
          refine j_iconst F d_BLB_open_46 ?_
          exact hrz _ _ _ _ _ _ rfl ⟨_, rfl, hw⟩ hT (rm_y hc0) (rm_y hn0) (Or.inl rfl) d_BLB_open_47
    · have hw := hwf hh
      obtain ⟨⟨hr1, hr2⟩, hw⟩ := hw
      exact hthr _ _ _ _ _ _ "there is a district" 80 82 84 2 hw hT (by decide) (by decide) (by decide) tq_465 tq_466 d_BLB_open_14 d_BLB_open_17 (Or.inl ⟨rfl, d_BLB_open_18⟩) d_BLB_open_20 d_BLB_open_23 (rm_t hc0 hr1) (rm_t hn0 hr2)
  exact key mc ms 0 0 rfl rfl rfl rfl (Nat.zero_add _) (Nat.zero_add _)
theorem tq_495 : (Jvm.Cond.methodLink "LandBook" (99 : Nat) ({ cls := "LandBook", name := "checkUp", desc := "()V" } : Jvm.MethodName)) ∈ tw_G := tw_in (List.mem_of_getElem? (i := 544) (by decide +kernel)) rfl
theorem tq_496 : (Jvm.Cond.instanceMethod ({ cls := "LandBook", name := "checkUp", desc := "()V" } : Jvm.MethodName)) ∈ tw_G := tw_in (List.mem_of_getElem? (i := 546) (by decide +kernel)) rfl
theorem tq_497 : (Jvm.Cond.selects "LandBook" ⟨"LandBook", "checkUp", "()V"⟩ ⟨"LandBook", "checkUp", "()V"⟩) ∈ tw_G := tw_in (List.mem_of_getElem? (i := 5) (by decide +kernel)) rfl
theorem tq_498 : (Jvm.Cond.code ({ cls := "LandBook", name := "checkUp", desc := "()V" } : Jvm.MethodName) prog_1_method_24_code (1 : Nat) (Option.none : Option Jvm.ClassFile.FieldType)) ∈ tw_G := tw_in (List.mem_of_getElem? (i := 547) (by decide +kernel)) rfl
theorem tq_499 : (Jvm.Cond.methodLink "LandBook" (102 : Nat) ({ cls := "LandBook", name := "checkLot", desc := "(I)V" } : Jvm.MethodName)) ∈ tw_G := tw_in (List.mem_of_getElem? (i := 549) (by decide +kernel)) rfl
theorem tq_500 : (Jvm.Cond.instanceMethod ({ cls := "LandBook", name := "checkLot", desc := "(I)V" } : Jvm.MethodName)) ∈ tw_G := tw_in (List.mem_of_getElem? (i := 551) (by decide +kernel)) rfl
theorem tq_501 : (Jvm.Cond.selects "LandBook" ⟨"LandBook", "checkLot", "(I)V"⟩ ⟨"LandBook", "checkLot", "(I)V"⟩) ∈ tw_G := tw_in (List.mem_of_getElem? (i := 6) (by decide +kernel)) rfl
theorem tq_502 : (Jvm.Cond.code ({ cls := "LandBook", name := "checkLot", desc := "(I)V" } : Jvm.MethodName) prog_1_method_25_code (2 : Nat) (Option.none : Option Jvm.ClassFile.FieldType)) ∈ tw_G := tw_in (List.mem_of_getElem? (i := 552) (by decide +kernel)) rfl
theorem tq_503 : (Jvm.Cond.methodLink "LandBook" (108 : Nat) ({ cls := "LandBook$Register", name := "objection", desc := "([II)I" } : Jvm.MethodName)) ∈ tw_G := tw_in (List.mem_of_getElem? (i := 573) (by decide +kernel)) rfl
theorem tq_504 : (Jvm.Cond.instanceMethod ({ cls := "LandBook$Register", name := "objection", desc := "([II)I" } : Jvm.MethodName)) ∈ tw_G := tw_in (List.mem_of_getElem? (i := 574) (by decide +kernel)) rfl
theorem tq_505 : (Jvm.Cond.selects "LandBook$Register" ({ cls := "LandBook$Register", name := "objection", desc := "([II)I" } : Jvm.MethodName) ({ cls := "LandBook$Register", name := "objection", desc := "([II)I" } : Jvm.MethodName)) ∈ tw_G := tw_in (List.mem_of_getElem? (i := 575) (by decide +kernel)) rfl
theorem tq_506 : (Jvm.Cond.code ({ cls := "LandBook$Register", name := "objection", desc := "([II)I" } : Jvm.MethodName) prog_10_method_14_code (7 : Nat) (Option.some Jvm.ClassFile.FieldType.int)) ∈ tw_G := tw_in (List.mem_of_getElem? (i := 576) (by decide +kernel)) rfl
theorem tq_507 : (Jvm.Cond.fieldLink "LandBook" (24 : Nat) "LandBook" "cutter" "LLandBook$Cutter;") ∈ tw_G := tw_in (List.mem_of_getElem? (i := 228) (by decide +kernel)) rfl
theorem tq_508 : (Jvm.Cond.methodLink "LandBook" (112 : Nat) ({ cls := "LandBook$Register", name := "lot", desc := "(I)LLandBook$Lot;" } : Jvm.MethodName)) ∈ tw_G := tw_in (List.mem_of_getElem? (i := 620) (by decide +kernel)) rfl
theorem tq_509 : (Jvm.Cond.fieldLink "LandBook" (116 : Nat) "LandBook$Lot" "ring" "LLandBook$Points;") ∈ tw_G := tw_in (List.mem_of_getElem? (i := 457) (by decide +kernel)) rfl
theorem tq_510 : (Jvm.Cond.methodLink "LandBook" (121 : Nat) ({ cls := "LandBook$Cutter", name := "cut", desc := "(LLandBook$Points;LLandBook$Points;)Z" } : Jvm.MethodName)) ∈ tw_G := tw_in (List.mem_of_getElem? (i := 621) (by decide +kernel)) rfl
theorem tq_511 : (Jvm.Cond.instanceMethod ({ cls := "LandBook$Cutter", name := "cut", desc := "(LLandBook$Points;LLandBook$Points;)Z" } : Jvm.MethodName)) ∈ tw_G := tw_in (List.mem_of_getElem? (i := 622) (by decide +kernel)) rfl
theorem tq_512 : (Jvm.Cond.selects "LandBook$Cutter" ({ cls := "LandBook$Cutter", name := "cut", desc := "(LLandBook$Points;LLandBook$Points;)Z" } : Jvm.MethodName) ({ cls := "LandBook$Cutter", name := "cut", desc := "(LLandBook$Points;LLandBook$Points;)Z" } : Jvm.MethodName)) ∈ tw_G := tw_in (List.mem_of_getElem? (i := 623) (by decide +kernel)) rfl
theorem tq_513 : (Jvm.Cond.code ({ cls := "LandBook$Cutter", name := "cut", desc := "(LLandBook$Points;LLandBook$Points;)Z" } : Jvm.MethodName) prog_2_method_2_code (5 : Nat) (Option.some Jvm.ClassFile.FieldType.boolean)) ∈ tw_G := tw_in (List.mem_of_getElem? (i := 624) (by decide +kernel)) rfl
theorem tq_514 : (Jvm.Cond.fieldLink "LandBook" (129 : Nat) "LandBook$Cutter" "first" "LLandBook$Points;") ∈ tw_G := tw_in (List.mem_of_getElem? (i := 125) (by decide +kernel)) rfl
theorem tq_515 : (Jvm.Cond.fieldLink "LandBook" (132 : Nat) "LandBook$Cutter" "second" "LLandBook$Points;") ∈ tw_G := tw_in (List.mem_of_getElem? (i := 127) (by decide +kernel)) rfl
theorem tq_516 : (Jvm.Cond.methodLink "LandBook" (135 : Nat) ({ cls := "LandBook", name := "isFull", desc := "(II[I)Z" } : Jvm.MethodName)) ∈ tw_G := tw_in (List.mem_of_getElem? (i := 662) (by decide +kernel)) rfl
theorem tq_517 : (Jvm.Cond.instanceMethod ({ cls := "LandBook", name := "isFull", desc := "(II[I)Z" } : Jvm.MethodName)) ∈ tw_G := tw_in (List.mem_of_getElem? (i := 664) (by decide +kernel)) rfl
theorem tq_518 : (Jvm.Cond.selects "LandBook" ⟨"LandBook", "isFull", "(II[I)Z"⟩ ⟨"LandBook", "isFull", "(II[I)Z"⟩) ∈ tw_G := tw_in (List.mem_of_getElem? (i := 10) (by decide +kernel)) rfl
theorem tq_519 : (Jvm.Cond.code ({ cls := "LandBook", name := "isFull", desc := "(II[I)Z" } : Jvm.MethodName) prog_1_method_33_code (4 : Nat) (Option.some Jvm.ClassFile.FieldType.boolean)) ∈ tw_G := tw_in (List.mem_of_getElem? (i := 665) (by decide +kernel)) rfl
theorem tq_520 : (Jvm.Cond.methodLink "LandBook" (139 : Nat) ({ cls := "LandBook", name := "haveTooManyCorners", desc := "([LLandBook$Points;)Z" } : Jvm.MethodName)) ∈ tw_G := tw_in (List.mem_of_getElem? (i := 674) (by decide +kernel)) rfl
theorem tq_521 : (Jvm.Cond.static ({ cls := "LandBook", name := "haveTooManyCorners", desc := "([LLandBook$Points;)Z" } : Jvm.MethodName)) ∈ tw_G := tw_in (List.mem_of_getElem? (i := 675) (by decide +kernel)) rfl
theorem tq_522 : (Jvm.Cond.code ({ cls := "LandBook", name := "haveTooManyCorners", desc := "([LLandBook$Points;)Z" } : Jvm.MethodName) prog_1_method_34_code (5 : Nat) (Option.some Jvm.ClassFile.FieldType.boolean)) ∈ tw_G := tw_in (List.mem_of_getElem? (i := 676) (by decide +kernel)) rfl
theorem tq_523 : (Jvm.Cond.classLink "LandBook" (143 : Nat) "LandBook$Deed") ∈ tw_G := tw_in (List.mem_of_getElem? (i := 677) (by decide +kernel)) rfl
theorem tq_524 : (Jvm.Cond.instantiable "LandBook$Deed" (6 : Nat)) ∈ tw_G := tw_in (List.mem_of_getElem? (i := 678) (by decide +kernel)) rfl
theorem tq_525 : (Jvm.Cond.code ({ cls := "LandBook$Deed", name := "<init>", desc := "(II[I)V" } : Jvm.MethodName) prog_3_method_1_code (4 : Nat) (Option.none : Option Jvm.ClassFile.FieldType)) ∈ tw_G := tw_in (List.mem_of_getElem? (i := 681) (by decide +kernel)) rfl
theorem tq_526 : (Jvm.Cond.methodLink "LandBook" (145 : Nat) ({ cls := "LandBook$Deed", name := "<init>", desc := "(II[I)V" } : Jvm.MethodName)) ∈ tw_G := tw_in (List.mem_of_getElem? (i := 679) (by decide +kernel)) rfl
theorem tq_527 : (Jvm.Cond.instanceMethod ({ cls := "LandBook$Deed", name := "<init>", desc := "(II[I)V" } : Jvm.MethodName)) ∈ tw_G := tw_in (List.mem_of_getElem? (i := 680) (by decide +kernel)) rfl
theorem tq_528 : (Jvm.Cond.methodLink "LandBook" (148 : Nat) ({ cls := "LandBook", name := "enter", desc := "(LLandBook$Deed;[I)I" } : Jvm.MethodName)) ∈ tw_G := tw_in (List.mem_of_getElem? (i := 713) (by decide +kernel)) rfl
theorem tq_529 : (Jvm.Cond.instanceMethod ({ cls := "LandBook", name := "enter", desc := "(LLandBook$Deed;[I)I" } : Jvm.MethodName)) ∈ tw_G := tw_in (List.mem_of_getElem? (i := 715) (by decide +kernel)) rfl
theorem tq_530 : (Jvm.Cond.selects "LandBook" ⟨"LandBook", "enter", "(LLandBook$Deed;[I)I"⟩ ⟨"LandBook", "enter", "(LLandBook$Deed;[I)I"⟩) ∈ tw_G := tw_in (List.mem_of_getElem? (i := 11) (by decide +kernel)) rfl
theorem tq_531 : (Jvm.Cond.code ({ cls := "LandBook", name := "enter", desc := "(LLandBook$Deed;[I)I" } : Jvm.MethodName) prog_1_method_35_code (4 : Nat) (Option.some Jvm.ClassFile.FieldType.int)) ∈ tw_G := tw_in (List.mem_of_getElem? (i := 716) (by decide +kernel)) rfl
theorem tq_532 : (Jvm.Cond.methodLink "LandBook" (152 : Nat) ({ cls := "LandBook$Register", name := "replaceLots", desc := "([LLandBook$Points;)I" } : Jvm.MethodName)) ∈ tw_G := tw_in (List.mem_of_getElem? (i := 750) (by decide +kernel)) rfl
theorem tq_533 : (Jvm.Cond.instanceMethod ({ cls := "LandBook$Register", name := "replaceLots", desc := "([LLandBook$Points;)I" } : Jvm.MethodName)) ∈ tw_G := tw_in (List.mem_of_getElem? (i := 751) (by decide +kernel)) rfl
theorem tq_534 : (Jvm.Cond.selects "LandBook$Register" ({ cls := "LandBook$Register", name := "replaceLots", desc := "([LLandBook$Points;)I" } : Jvm.MethodName) ({ cls := "LandBook$Register", name := "replaceLots", desc := "([LLandBook$Points;)I" } : Jvm.MethodName)) ∈ tw_G := tw_in (List.mem_of_getElem? (i := 752) (by decide +kernel)) rfl
theorem tq_535 : (Jvm.Cond.code ({ cls := "LandBook$Register", name := "replaceLots", desc := "([LLandBook$Points;)I" } : Jvm.MethodName) prog_10_method_20_code (11 : Nat) (Option.some Jvm.ClassFile.FieldType.int)) ∈ tw_G := tw_in (List.mem_of_getElem? (i := 753) (by decide +kernel)) rfl
abbrev y_BLB_split : MethodName := ⟨"LandBook", "split", "(II)I"⟩
theorem q_BLB_split : y_BLB_split.cls = "LandBook" ∧ y_BLB_split.cls ≠ "java/lang/invoke/MethodHandle" ∧ y_BLB_split.cls ≠ "java/lang/invoke/VarHandle" ∧ (parseMethodDescriptor y_BLB_split.desc).map (fun d => d.parameters.length) = some 2 := by decide +kernel
theorem d_BLB_split_0 : decode prog_1_method_4_code 0 = .ok (.aload_n 0, 1) := by decide +kernel
theorem d_BLB_split_1 : decode prog_1_method_4_code 1 = .ok (.invokevirtual 73, 3) := by decide +kernel
theorem d_BLB_split_4 : decode prog_1_method_4_code 4 = .ok (.aload_n 0, 1) := by decide +kernel
theorem d_BLB_split_5 : decode prog_1_method_4_code 5 = .ok (.invokevirtual 99, 3) := by decide +kernel
theorem d_BLB_split_8 : decode prog_1_method_4_code 8 = .ok (.aload_n 0, 1) := by decide +kernel
theorem d_BLB_split_9 : decode prog_1_method_4_code 9 = .ok (.iload_n 1, 1) := by decide +kernel
theorem d_BLB_split_10 : decode prog_1_method_4_code 10 = .ok (.invokevirtual 102, 3) := by decide +kernel
theorem d_BLB_split_13 : decode prog_1_method_4_code 13 = .ok (.iload_n 2, 1) := by decide +kernel
theorem d_BLB_split_14 : decode prog_1_method_4_code 14 = .ok (.invokestatic 105, 3) := by decide +kernel
theorem d_BLB_split_17 : decode prog_1_method_4_code 17 = .ok (.iconst 1, 1) := by decide +kernel
theorem d_BLB_split_18 : decode prog_1_method_4_code 18 = .ok (.newarray .int, 2) := by decide +kernel
theorem d_BLB_split_20 : decode prog_1_method_4_code 20 = .ok (.dup, 1) := by decide +kernel
theorem d_BLB_split_21 : decode prog_1_method_4_code 21 = .ok (.iconst 0, 1) := by decide +kernel
theorem d_BLB_split_22 : decode prog_1_method_4_code 22 = .ok (.iload_n 1, 1) := by decide +kernel
theorem d_BLB_split_23 : decode prog_1_method_4_code 23 = .ok (.iastore, 1) := by decide +kernel
theorem d_BLB_split_24 : decode prog_1_method_4_code 24 = .ok (.astore_n 3, 1) := by decide +kernel
theorem d_BLB_split_25 : decode prog_1_method_4_code 25 = .ok (.aload_n 0, 1) := by decide +kernel
theorem d_BLB_split_26 : decode prog_1_method_4_code 26 = .ok (.getfield 38, 3) := by decide +kernel
theorem d_BLB_split_29 : decode prog_1_method_4_code 29 = .ok (.aload_n 3, 1) := by decide +kernel
theorem d_BLB_split_30 : decode prog_1_method_4_code 30 = .ok (.iload_n 2, 1) := by decide +kernel
theorem d_BLB_split_31 : decode prog_1_method_4_code 31 = .ok (.invokevirtual 108, 3) := by decide +kernel
theorem d_BLB_split_34 : decode prog_1_method_4_code 34 = .ok (.istore 4, 2) := by decide +kernel
theorem d_BLB_split_36 : decode prog_1_method_4_code 36 = .ok (.iload 4, 2) := by decide +kernel
theorem d_BLB_split_38 : decode prog_1_method_4_code 38 = .ok (.ifCond .eq 6, 3) := by decide +kernel
theorem d_BLB_split_44 : decode prog_1_method_4_code 44 = .ok (.aload_n 0, 1) := by decide +kernel
theorem d_BLB_split_45 : decode prog_1_method_4_code 45 = .ok (.getfield 24, 3) := by decide +kernel
theorem d_BLB_split_48 : decode prog_1_method_4_code 48 = .ok (.aload_n 0, 1) := by decide +kernel
theorem d_BLB_split_49 : decode prog_1_method_4_code 49 = .ok (.getfield 38, 3) := by decide +kernel
theorem d_BLB_split_52 : decode prog_1_method_4_code 52 = .ok (.iload_n 1, 1) := by decide +kernel
theorem d_BLB_split_53 : decode prog_1_method_4_code 53 = .ok (.invokevirtual 112, 3) := by decide +kernel
theorem d_BLB_split_56 : decode prog_1_method_4_code 56 = .ok (.getfield 116, 3) := by decide +kernel
theorem d_BLB_split_59 : decode prog_1_method_4_code 59 = .ok (.aload_n 0, 1) := by decide +kernel
theorem d_BLB_split_60 : decode prog_1_method_4_code 60 = .ok (.getfield 18, 3) := by decide +kernel
theorem d_BLB_split_63 : decode prog_1_method_4_code 63 = .ok (.invokevirtual 121, 3) := by decide +kernel
theorem d_BLB_split_66 : decode prog_1_method_4_code 66 = .ok (.ifCond .ne 6, 3) := by decide +kernel
theorem d_BLB_split_72 : decode prog_1_method_4_code 72 = .ok (.iconst 1, 1) := by decide +kernel
theorem d_BLB_split_73 : decode prog_1_method_4_code 73 = .ok (.aload_n 0, 1) := by decide +kernel
theorem d_BLB_split_74 : decode prog_1_method_4_code 74 = .ok (.getfield 18, 3) := by decide +kernel
theorem d_BLB_split_77 : decode prog_1_method_4_code 77 = .ok (.getfield 53, 3) := by decide +kernel
theorem d_BLB_split_80 : decode prog_1_method_4_code 80 = .ok (.iadd, 1) := by decide +kernel
theorem d_BLB_split_81 : decode prog_1_method_4_code 81 = .ok (.newarray .int, 2) := by decide +kernel
theorem d_BLB_split_83 : decode prog_1_method_4_code 83 = .ok (.astore 5, 2) := by decide +kernel
theorem d_BLB_split_85 : decode prog_1_method_4_code 85 = .ok (.aload 5, 2) := by decide +kernel
theorem d_BLB_split_87 : decode prog_1_method_4_code 87 = .ok (.iconst 0, 1) := by decide +kernel
theorem d_BLB_split_88 : decode prog_1_method_4_code 88 = .ok (.iload_n 1, 1) := by decide +kernel
theorem d_BLB_split_89 : decode prog_1_method_4_code 89 = .ok (.iastore, 1) := by decide +kernel
theorem d_BLB_split_90 : decode prog_1_method_4_code 90 = .ok (.iconst 0, 1) := by decide +kernel
theorem d_BLB_split_91 : decode prog_1_method_4_code 91 = .ok (.istore 6, 2) := by decide +kernel
theorem d_BLB_split_69 : decode prog_1_method_4_code 69 = .ok (.bipush (-3), 2) := by decide +kernel
theorem d_BLB_split_71 : decode prog_1_method_4_code 71 = .ok (.ireturn, 1) := by decide +kernel
theorem d_BLB_split_41 : decode prog_1_method_4_code 41 = .ok (.iload 4, 2) := by decide +kernel
theorem d_BLB_split_43 : decode prog_1_method_4_code 43 = .ok (.ireturn, 1) := by decide +kernel
theorem d_BLB_split_93 : decode prog_1_method_4_code 93 = .ok (.iload 6, 2) := by decide +kernel
theorem d_BLB_split_95 : decode prog_1_method_4_code 95 = .ok (.aload_n 0, 1) := by decide +kernel
theorem d_BLB_split_96 : decode prog_1_method_4_code 96 = .ok (.getfield 18, 3) := by decide +kernel
theorem d_BLB_split_99 : decode prog_1_method_4_code 99 = .ok (.getfield 53, 3) := by decide +kernel
theorem d_BLB_split_102 : decode prog_1_method_4_code 102 = .ok (.if_icmp .ge 25, 3) := by decide +kernel
theorem d_BLB_split_127 : decode prog_1_method_4_code 127 = .ok (.iconst 2, 1) := by decide +kernel
theorem d_BLB_split_128 : decode prog_1_method_4_code 128 = .ok (.anewarray 7, 3) := by decide +kernel
theorem d_BLB_split_131 : decode prog_1_method_4_code 131 = .ok (.dup, 1) := by decide +kernel
theorem d_BLB_split_132 : decode prog_1_method_4_code 132 = .ok (.iconst 0, 1) := by decide +kernel
theorem d_BLB_split_133 : decode prog_1_method_4_code 133 = .ok (.aload_n 0, 1) := by decide +kernel
theorem d_BLB_split_134 : decode prog_1_method_4_code 134 = .ok (.getfield 24, 3) := by decide +kernel
theorem d_BLB_split_137 : decode prog_1_method_4_code 137 = .ok (.getfield 129, 3) := by decide +kernel
theorem d_BLB_split_140 : decode prog_1_method_4_code 140 = .ok (.aastore, 1) := by decide +kernel
theorem d_BLB_split_141 : decode prog_1_method_4_code 141 = .ok (.dup, 1) := by decide +kernel
theorem d_BLB_split_142 : decode prog_1_method_4_code 142 = .ok (.iconst 1, 1) := by decide +kernel
theorem d_BLB_split_143 : decode prog_1_method_4_code 143 = .ok (.aload_n 0, 1) := by decide +kernel
theorem d_BLB_split_144 : decode prog_1_method_4_code 144 = .ok (.getfield 24, 3) := by decide +kernel
theorem d_BLB_split_147 : decode prog_1_method_4_code 147 = .ok (.getfield 132, 3) := by decide +kernel
theorem d_BLB_split_150 : decode prog_1_method_4_code 150 = .ok (.aastore, 1) := by decide +kernel
theorem d_BLB_split_151 : decode prog_1_method_4_code 151 = .ok (.astore 6, 2) := by decide +kernel
theorem d_BLB_split_153 : decode prog_1_method_4_code 153 = .ok (.aload_n 0, 1) := by decide +kernel
theorem d_BLB_split_154 : decode prog_1_method_4_code 154 = .ok (.aload 6, 2) := by decide +kernel
theorem d_BLB_split_156 : decode prog_1_method_4_code 156 = .ok (.arraylength, 1) := by decide +kernel
theorem d_BLB_split_157 : decode prog_1_method_4_code 157 = .ok (.iconst 0, 1) := by decide +kernel
theorem d_BLB_split_158 : decode prog_1_method_4_code 158 = .ok (.aload 5, 2) := by decide +kernel
theorem d_BLB_split_160 : decode prog_1_method_4_code 160 = .ok (.invokevirtual 135, 3) := by decide +kernel
theorem d_BLB_split_163 : decode prog_1_method_4_code 163 = .ok (.ifCond .ne 11, 3) := by decide +kernel
theorem d_BLB_split_174 : decode prog_1_method_4_code 174 = .ok (.bipush (-4), 2) := by decide +kernel
theorem d_BLB_split_176 : decode prog_1_method_4_code 176 = .ok (.ireturn, 1) := by decide +kernel
theorem d_BLB_split_166 : decode prog_1_method_4_code 166 = .ok (.aload 6, 2) := by decide +kernel
theorem d_BLB_split_168 : decode prog_1_method_4_code 168 = .ok (.invokestatic 139, 3) := by decide +kernel
theorem d_BLB_split_171 : decode prog_1_method_4_code 171 = .ok (.ifCond .eq 6, 3) := by decide +kernel
theorem d_BLB_split_177 : decode prog_1_method_4_code 177 = .ok (.aload_n 0, 1) := by decide +kernel
theorem d_BLB_split_178 : decode prog_1_method_4_code 178 = .ok (.new 143, 3) := by decide +kernel
theorem d_BLB_split_181 : decode prog_1_method_4_code 181 = .ok (.dup, 1) := by decide +kernel
theorem d_BLB_split_182 : decode prog_1_method_4_code 182 = .ok (.iconst 1, 1) := by decide +kernel
theorem d_BLB_split_183 : decode prog_1_method_4_code 183 = .ok (.iload_n 2, 1) := by decide +kernel
theorem d_BLB_split_184 : decode prog_1_method_4_code 184 = .ok (.aload_n 3, 1) := by decide +kernel
theorem d_BLB_split_185 : decode prog_1_method_4_code 185 = .ok (.invokespecial 145, 3) := by decide +kernel
theorem d_BLB_split_188 : decode prog_1_method_4_code 188 = .ok (.aload 5, 2) := by decide +kernel
theorem d_BLB_split_190 : decode prog_1_method_4_code 190 = .ok (.invokevirtual 148, 3) := by decide +kernel
theorem d_BLB_split_193 : decode prog_1_method_4_code 193 = .ok (.pop, 1) := by decide +kernel
theorem d_BLB_split_194 : decode prog_1_method_4_code 194 = .ok (.aload_n 0, 1) := by decide +kernel
theorem d_BLB_split_195 : decode prog_1_method_4_code 195 = .ok (.getfield 38, 3) := by decide +kernel
theorem d_BLB_split_198 : decode prog_1_method_4_code 198 = .ok (.aload 6, 2) := by decide +kernel
theorem d_BLB_split_200 : decode prog_1_method_4_code 200 = .ok (.invokevirtual 152, 3) := by decide +kernel
theorem d_BLB_split_203 : decode prog_1_method_4_code 203 = .ok (.ireturn, 1) := by decide +kernel
theorem d_BLB_split_105 : decode prog_1_method_4_code 105 = .ok (.aload 5, 2) := by decide +kernel
theorem d_BLB_split_107 : decode prog_1_method_4_code 107 = .ok (.iconst 1, 1) := by decide +kernel
theorem d_BLB_split_108 : decode prog_1_method_4_code 108 = .ok (.iload 6, 2) := by decide +kernel
theorem d_BLB_split_110 : decode prog_1_method_4_code 110 = .ok (.iadd, 1) := by decide +kernel
theorem d_BLB_split_111 : decode prog_1_method_4_code 111 = .ok (.aload_n 0, 1) := by decide +kernel
theorem d_BLB_split_112 : decode prog_1_method_4_code 112 = .ok (.getfield 18, 3) := by decide +kernel
theorem d_BLB_split_115 : decode prog_1_method_4_code 115 = .ok (.iload 6, 2) := by decide +kernel
theorem d_BLB_split_117 : decode prog_1_method_4_code 117 = .ok (.invokevirtual 125, 3) := by decide +kernel
theorem d_BLB_split_120 : decode prog_1_method_4_code 120 = .ok (.iastore, 1) := by decide +kernel
theorem d_BLB_split_121 : decode prog_1_method_4_code 121 = .ok (.iinc 6 1, 3) := by decide +kernel
theorem d_BLB_split_124 : decode prog_1_method_4_code 124 = .ok (.goto (-31), 3) := by decide +kernel
def wp_BLB_split_93 (post : Int → CS → Prop) (pe : String → CS → Prop) : Nat → Nat → Nat → Nat → Int → Nat → Nat → Int → CS → Prop
  | 0, _, _, _, _, _, _, _, _ => False
  | n + 1, mc0, ms0, v0, v2, v3, v5, v6, T => tg T v0 = 1 ∧ ∃ q_1 : Nat, fo T v0 1 = some q_1 ∧ (tg T q_1 = 2 ∧ (inR v6 ∧ inR (fi T q_1 1) ∧ ((fi T q_1 1) ≤ v6 → (((0 : Int) ≤ 2 ∧ (2 : Int) ≤ 134217728) ∧ ∃ mc_4 ms_5 : Nat, (mc0 = 1 + mc_4 ∧ ms0 = 2 + ms_5) ∧ (∀ (q_2 : Nat) (T_3 : CS), tg T q_2 = 0 → T_3 = cs_new T q_2 14 2 → tg T_3 v0 = 1 ∧ ∃ q_6 : Nat, fo T_3 v0 2 = some q_6 ∧ (tg T_3 q_6 = 3 ∧ ∃ q_7 : Nat, fo T_3 q_6 1 = some q_7 ∧ (tg T_3 q_2 = 14 ∧ ixR 0 (ln T_3 q_2) ∧ tg T_3 q_7 = 2 ∧ ((∀ T_8 : CS, T_8 = cs_o T_3 q_2 0 (some q_7) → tg T_8 v0 = 1 ∧ ∃ q_9 : Nat, fo T_8 v0 2 = some q_9 ∧ (tg T_8 q_9 = 3 ∧ ∃ q_10 : Nat, fo T_8 q_9 2 = some q_10 ∧ (tg T_8 q_2 = 14 ∧ ixR 1 (ln T_8 q_2) ∧ tg T_8 q_10 = 2 ∧ ((∀ T_11 : CS, T_11 = cs_o T_8 q_2 1 (some q_10) → tg T_11 q_2 = 14 ∧ (tg T_11 v0 = 1 ∧ wp_BLB_isFull (fun r_13 T_12 => inR r_13 ∧ (¬ (r_13 = 0) → (post (-4) T_12)) ∧ (r_13 = 0 → (wp_BLB_haveTooManyCorners (fun r_15 T_14 => inR r_15 ∧ (r_15 = 0 → (∃ mc_18 ms_19 : Nat, (mc_4 = 1 + mc_18 ∧ ms_5 = 6 + ms_19) ∧ (∀ (q_16 : Nat) (T_17 : CS), tg T_14 q_16 = 0 → T_17 = cs_new T_14 q_16 8 0 → wp_BDe_init3 (fun T_20 => ∃ mc_24 ms_25 mc_26 ms_27 : Nat, (mc_18 = mc_24 + mc_26 ∧ ms_19 = ms_25 + ms_27) ∧ tg T_20 v0 = 1 ∧ wp_BLB_enter (fun r_23 T_22 => tg T_22 v0 = 1 ∧ ∃ q_28 : Nat, fo T_22 v0 4 = some q_28 ∧ (∃ mc_31 ms_32 mc_33 ms_34 : Nat, (mc_26 = mc_31 + mc_33 ∧ ms_27 = ms_32 + ms_34) ∧ tg T_22 q_28 = 5 ∧ wp_BRg_replaceLots (fun r_30 T_29 => post r_30 T_29) mc_31 ms_32 q_28 q_2 T_22)) mc_24 ms_25 v0 q_16 v5 T_20) q_16 1 v2 v3 T_17))) ∧ (¬ (r_15 = 0) → (post (-4) T_14))) q_2 T_12))) v0 (ln T_11 q_2 : Int) 0 v5 T_11)))))))))))) ∧ (¬ ((fi T q_1 1) ≤ v6) → (tg T v0 = 1 ∧ ∃ q_35 : Nat, fo T v0 1 = some q_35 ∧ (tg T q_35 = 2 ∧ wp_BPt_at (fun r_37 T_36 => tg T_36 v5 = 11 ∧ ixR (1 + v6) (ln T_36 v5) ∧ ((∀ T_38 : CS, T_38 = cs_i T_36 v5 (1 + v6).toNat r_37 → (wp_BLB_split_93 post pe n) mc0 ms0 v0 v2 v3 v5 (v6 + 1) T_38))) q_35 v6 T)))))
def wp_BLB_split (post : Int → CS → Prop) (pe : String → CS → Prop) (mc0 ms0 : Nat) (v0 : Nat) (v1 : Int) (v2 : Int) (T : CS) : Prop := tg T v0 = 1 ∧ wp_BLB_takeRow (fun T_1 => ∃ mc_5 ms_6 mc_7 ms_8 : Nat, (mc0 = mc_5 + mc_7 ∧ ms0 = ms_6 + ms_8) ∧ tg T_1 v0 = 1 ∧ wp_BLB_checkUp (fun T_3 => ∃ mc_11 ms_12 mc_13 ms_14 : Nat, (mc_7 = mc_11 + mc_13 ∧ ms_8 = ms_12 + ms_14) ∧ tg T_3 v0 = 1 ∧ wp_BLB_checkLot (fun T_9 => ∃ mc_17 ms_18 mc_19 ms_20 : Nat, (mc_13 = mc_17 + mc_19 ∧ ms_14 = ms_18 + ms_20) ∧ wp_BLB_checkDay (fun T_15 => ((0 : Int) ≤ 1 ∧ (1 : Int) ≤ 134217728) ∧ ∃ mc_23 ms_24 : Nat, (mc_19 = 1 + mc_23 ∧ ms_20 = 1 + ms_24) ∧ (∀ (q_21 : Nat) (T_22 : CS), tg T_15 q_21 = 0 → T_22 = cs_new T_15 q_21 11 1 → tg T_22 q_21 = 11 ∧ ixR 0 (ln T_22 q_21) ∧ ((∀ T_25 : CS, T_25 = cs_i T_22 q_21 0 v1 → tg T_25 v0 = 1 ∧ ∃ q_26 : Nat, fo T_25 v0 4 = some q_26 ∧ (tg T_25 q_26 = 5 ∧ wp_BRg_objection (fun r_28 T_27 => inR r_28 ∧ (r_28 = 0 → (tg T_27 v0 = 1 ∧ ∃ q_29 : Nat, fo T_27 v0 2 = some q_29 ∧ (tg T_27 v0 = 1 ∧ ∃ q_30 : Nat, fo T_27 v0 4 = some q_30 ∧ (tg T_27 q_30 = 5 ∧ wp_BRg_lot (fun r_32 T_31 => tg T_31 r_32 = 9 ∧ ∃ q_33 : Nat, fo T_31 r_32 0 = some q_33 ∧ (tg T_31 v0 = 1 ∧ ∃ q_34 : Nat, fo T_31 v0 1 = some q_34 ∧ (tg T_31 q_29 = 3 ∧ wp_BCu_cut (fun r_36 T_35 => inR r_36 ∧ (¬ (r_36 = 0) → (tg T_35 v0 = 1 ∧ ∃ q_37 : Nat, fo T_35 v0 1 = some q_37 ∧ (tg T_35 q_37 = 2 ∧ (((0 : Int) ≤ (1 + (fi T_35 q_37 1)) ∧ ((1 + (fi T_35 q_37 1)) : Int) ≤ 134217728) ∧ ∃ mc_40 ms_41 : Nat, (mc_23 = 1 + mc_40 ∧ ms_24 = (1 + (fi T_35 q_37 1)).toNat + ms_41) ∧ (∀ (q_38 : Nat) (T_39 : CS), tg T_35 q_38 = 0 → T_39 = cs_new T_35 q_38 11 (1 + (fi T_35 q_37 1)).toNat → tg T_39 q_38 = 11 ∧ ixR 0 (ln T_39 q_38) ∧ ((∀ T_42 : CS, T_42 = cs_i T_39 q_38 0 v1 → ∃ nn : Nat, wp_BLB_split_93 post pe nn mc_40 ms_41 v0 v2 q_21 q_38 0 T_42))))))) ∧ (r_36 = 0 → (post (-3) T_35))) q_29 q_33 q_34 T_31))) q_30 v1 T_27)))) ∧ (¬ (r_28 = 0) → post r_28 T_27)) q_26 q_21 v2 T_25))))) pe mc_17 ms_18 v2 T_9) pe mc_11 ms_12 v0 v1 T_3) pe mc_5 ms_6 v0 T_1) v0 T
set_option maxHeartbeats 4000000 in
set_option maxRecDepth 100000 in
theorem c_BLB_split (l : Launch) (hfl : l.flags = pinnedFlags ++ [noTraceFlag]) {D : va_G} {k : CK} {post : Int → CS → Prop} {pe : String → CS → Prop} {mc ms : Nat} {v0 : Nat} {v1 : Int} {v2 : Int} {T : CS} (hw : wp_BLB_split post pe mc ms v0 v1 v2 T) : jE l D k y_BLB_split prog_1_method_4_code 7 (some .int) 9 235 mc ms T [.ref v0, vi v1, vi v2] (rtI post) pe := by
  refine j_eo hfl (by decide) rfl (Nat.le_of_ble_eq_true rfl) (by decide) (by decide) (fun X F K E hT Pr hthr hri hrz hrv => ?_)
  have B93 : ∀ (nn : Nat) (mc0 : Nat) (ms0 : Nat) (v0 : Nat) (v2 : Int) (v3 : Nat) (v5 : Nat) (v6 : Int) (T : CS) (c0 n0 : Nat), c0 + mc0 = mc → n0 + ms0 = ms → cs_ok k T → wp_BLB_split_93 post pe nn mc0 ms0 v0 v2 v3 v5 v6 T → jat l D X 7 93 [(0, .ref v0), (2, vi v2), (3, .ref v3), (5, .ref v5), (6, vi v6)] [] (cwd k T) c0 n0 := by
    intro nn
    induction nn with
    | zero => intro mc0 ms0 v0 v2 v3 v5 v6 T c0 n0 hc0 hn0 hT hw; exact hw.elim
    | succ n93 ih93 =>
      intro mc0 ms0 v0 v2 v3 v5 v6 T c0 n0 hc0 hn0 hT hw
      unfold wp_BLB_split_93 at hw
      refine j_iload F 4 d_BLB_split_93 rfl ?_
      refine j_aload_n F 0 d_BLB_split_95 rfl ?_
      obtain ⟨hc1, q_1, hc2, hw⟩ := hw
      refine c_getr F K hT 1 1 rfl tu_LandBook (by decide) (by decide) rfl tq_435 (Or.inl rfl) hc1 hc2 d_BLB_split_96 ?_
      obtain ⟨hc1, hw⟩ := hw
      refine c_geti F K hT 2 1 rfl tu_Points (by decide) (by decide) rfl tq_438 (Or.inl rfl) hc1 d_BLB_split_99 ?_
      obtain ⟨hc1, hc2, hwt, hwf⟩ := hw
      refine j_icmp_ge F 127 hc1 hc2 d_BLB_split_102 rfl (fun hh => ?_) (fun hh => ?_)
      · have hw := hwt hh
        refine j_iconst F d_BLB_split_127 ?_
        obtain ⟨hr0, mc_4, ms_5, ⟨he1, he2⟩, hw⟩ := hw
        refine c_newa14 F K hT tq_488 hr0 (rm_l hc0 he1) (rm_l hn0 he2) d_BLB_split_128 (fun q_2 T_3 e_q_2 e_T_3 hT => ?_)
        have hw := hw q_2 T_3 e_q_2 e_T_3
        have hc0 := rm_c hc0 he1
        have hn0 := rm_c hn0 he2
        refine j_dup F rfl d_BLB_split_131 ?_
        refine j_iconst F d_BLB_split_132 ?_
        refine j_aload_n F 0 d_BLB_split_133 rfl ?_
        obtain ⟨hc1, q_6, hc2, hw⟩ := hw
        refine c_getr F K hT 1 2 rfl tu_LandBook (by decide) (by decide) rfl tq_507 (Or.inl rfl) hc1 hc2 d_BLB_split_134 ?_
        obtain ⟨hc1, q_7, hc2, hw⟩ := hw
        refine c_getr F K hT 3 1 rfl tu_Cutter (by decide) (by decide) rfl tq_514 (Or.inl rfl) hc1 hc2 d_BLB_split_137 ?_
        obtain ⟨hc1, hc2, hc3, hw⟩ := hw
        refine c_aast14 F K hT hc1 hc2 2 hc3 (by decide) rfl rfl d_BLB_split_140 (fun T_8 e_T_8 hT => ?_)
        have hw := hw T_8 e_T_8
        refine j_dup F rfl d_BLB_split_141 ?_
        refine j_iconst F d_BLB_split_142 ?_
        refine j_aload_n F 0 d_BLB_split_143 rfl ?_
        obtain ⟨hc1, q_9, hc2, hw⟩ := hw
        refine c_getr F K hT 1 2 rfl tu_LandBook (by decide) (by decide) rfl tq_507 (Or.inl rfl) hc1 hc2 d_BLB_split_144 ?_
        obtain ⟨hc1, q_10, hc2, hw⟩ := hw
        refine c_getr F K hT 3 2 rfl tu_Cutter (by decide) (by decide) rfl tq_515 (Or.inl rfl) hc1 hc2 d_BLB_split_147 ?_
        obtain ⟨hc1, hc2, hc3, hw⟩ := hw
        refine c_aast14 F K hT hc1 hc2 2 hc3 (by decide) rfl rfl d_BLB_split_150 (fun T_11 e_T_11 hT => ?_)
        have hw := hw T_11 e_T_11
        refine j_astore F [(6, .ref q_2), (0, .ref v0), (2, vi v2), (3, .ref v3), (5, .ref v5)] d_BLB_split_151 (by decide) rfl ?_
        refine j_aload_n F 1 d_BLB_split_153 rfl ?_
        refine j_aload F 0 d_BLB_split_154 rfl ?_
        obtain ⟨hc1, hw⟩ := hw
        refine c_alen14 F K hT hc1 d_BLB_split_156 ?_
        refine j_iconst F d_BLB_split_157 ?_
        refine j_aload F 4 d_BLB_split_158 rfl ?_
        obtain ⟨hg1, hw⟩ := hw
        refine c_callVi F K hT (c_BLB_isFull l hw) (tw_gV tq_516 tq_517 tq_518 tq_473 tq_519) 1 rfl (by decide) hg1 q_BLB_isFull rfl ⟨by decide, by decide⟩ ⟨rm_z hc0, rm_z hn0⟩ rfl (Nat.le_of_ble_eq_true rfl) d_BLB_split_160 (fun r_13 T_12 hw hT => ?_)
        obtain ⟨hc1, hwt, hwf⟩ := hw
        refine j_if_ne F 174 hc1 d_BLB_split_163 rfl (fun hh => ?_) (fun hh => ?_)
        · have hw := hwt hh
          refine j_bipush F d_BLB_split_174 (j_bip (by decide) (by decide)) ?_
          exact hri _ _ _ _ _ _ rfl ⟨_, rfl, hw⟩ hT (rm_y hc0) (rm_y hn0) d_BLB_split_176
        · have hw := hwf hh
          refine j_aload F 0 d_BLB_split_166 rfl ?_
          refine c_callSi F K hT (c_BLB_haveTooManyCorners l hw) (tw_gS tq_520 tq_521 tq_473 tq_522) q_BLB_haveTooManyCorners rfl ⟨by decide, by decide⟩ ⟨rm_z hc0, rm_z hn0⟩ rfl (Nat.le_of_ble_eq_true rfl) d_BLB_split_168 (fun r_15 T_14 hw hT => ?_)
          obtain ⟨hc1, hwt, hwf⟩ := hw
          refine j_if_eq F 177 hc1 d_BLB_split_171 rfl (fun hh => ?_) (fun hh => ?_)
          · have hw := hwt hh
            refine j_aload_n F 1 d_BLB_split_177 rfl ?_
            obtain ⟨mc_18, ms_19, ⟨he1, he2⟩, hw⟩ := hw
            refine c_new F K hT 8 rfl tu_Deed t_Deed t_Deed_ok (by decide) rfl (by decide) tq_523 tq_524 tq_293 (rm_l hc0 he1) (rm_l hn0 he2) d_BLB_split_178 (fun q_16 T_17 e_q_16 e_T_17 hT => ?_)
            have hw := hw q_16 T_17 e_q_16 e_T_17
            have hc0 := rm_c hc0 he1
            have hn0 := rm_c hn0 he2
            refine j_dup F rfl d_BLB_split_181 ?_
            refine j_iconst F d_BLB_split_182 ?_
            refine j_iload_n F 2 d_BLB_split_183 rfl ?_
            refine j_aload_n F 3 d_BLB_split_184 rfl ?_
            refine c_callIv F K hT (c_BDe_init3 l hw) tq_525 tq_293 tq_526 tq_527 rfl q_BDe_init3 rfl ⟨by decide, by decide⟩ ⟨rm_z hc0, rm_z hn0⟩ rfl (Nat.le_of_ble_eq_true rfl) d_BLB_split_185 (fun T_20 hw hT => ?_)
            refine j_aload F 4 d_BLB_split_188 rfl ?_
            obtain ⟨mc_24, ms_25, mc_26, ms_27, ⟨he1, he2⟩, hw⟩ := hw
            obtain ⟨hg1, hw⟩ := hw
            refine c_callVi F K hT (c_BLB_enter l hw) (tw_gV tq_528 tq_529 tq_530 tq_473 tq_531) 1 rfl (by decide) hg1 q_BLB_enter rfl ⟨by decide, by decide⟩ ⟨rm_l hc0 he1, rm_l hn0 he2⟩ rfl (Nat.le_of_ble_eq_true rfl) d_BLB_split_190 (fun r_23 T_22 hw hT => ?_)
            have hc0 := rm_c hc0 he1
            have hn0 := rm_c hn0 he2
            refine j_pop F rfl d_BLB_split_193 ?_
            refine j_aload_n F 1 d_BLB_split_194 rfl ?_
            obtain ⟨hc1, q_28, hc2, hw⟩ := hw
            refine c_getr F K hT 1 4 rfl tu_LandBook (by decide) (by decide) rfl tq_441 (Or.inl rfl) hc1 hc2 d_BLB_split_195 ?_
            refine j_aload F 0 d_BLB_split_198 rfl ?_
            obtain ⟨mc_31, ms_32, mc_33, ms_34, ⟨he1, he2⟩, hw⟩ := hw
            obtain ⟨hg1, hw⟩ := hw
            refine c_callVi F K hT (c_BRg_replaceLots l hw) (tw_gV tq_532 tq_533 tq_534 tq_336 tq_535) 5 rfl (by decide) hg1 q_BRg_replaceLots rfl ⟨by decide, by decide⟩ ⟨rm_l hc0 he1, rm_l hn0 he2⟩ rfl (Nat.le_of_ble_eq_true rfl) d_BLB_split_200 (fun r_30 T_29 hw hT => ?_)
            have hc0 := rm_c hc0 he1
            have hn0 := rm_c hn0 he2
            exact hri _ _ _ _ _ _ rfl ⟨_, rfl, hw⟩ hT (rm_y hc0) (rm_y hn0) d_BLB_split_203
          · have hw := hwf hh
            refine j_bipush F d_BLB_split_174 (j_bip (by decide) (by decide)) ?_
            exact hri _ _ _ _ _ _ rfl ⟨_, rfl, hw⟩ hT (rm_y hc0) (rm_y hn0) d_BLB_split_176
      · have hw := hwf hh
        refine j_aload F 3 d_BLB_split_105 rfl ?_
        refine j_iconst F d_BLB_split_107 ?_
        refine j_iload F 4 d_BLB_split_108 rfl ?_
        refine j_iadd F d_BLB_split_110 ?_
        refine j_aload_n F 0 d_BLB_split_111 rfl ?_
        obtain ⟨hc1, q_35, hc2, hw⟩ := hw
        refine c_getr F K hT 1 1 rfl tu_LandBook (by decide) (by decide) rfl tq_435 (Or.inl rfl) hc1 hc2 d_BLB_split_112 ?_
        refine j_iload F 4 d_BLB_split_115 rfl ?_
        obtain ⟨hg1, hw⟩ := hw
        refine c_callVi F K hT (c_BPt_at l hw) (tw_gV tq_439 tq_136 tq_137 tq_126 tq_138) 2 rfl (by decide) hg1 q_BPt_at rfl ⟨by decide, by decide⟩ ⟨rm_z hc0, rm_z hn0⟩ rfl (Nat.le_of_ble_eq_true rfl) d_BLB_split_117 (fun r_37 T_36 hw hT => ?_)
        obtain ⟨hc1, hc2, hw⟩ := hw
        refine c_iast F K hT hc1 hc2 d_BLB_split_120 (fun T_38 e_T_38 hT => ?_)
        have hw := hw T_38 e_T_38
        refine j_iinc F 4 [(6, vi (v6 + 1)), (0, .ref v0), (2, vi v2), (3, .ref v3), (5, .ref v5)] d_BLB_split_121 rfl (by decide) rfl ?_
        refine j_goto F 93 d_BLB_split_124 rfl ?_
        refine j_sub [1, 2, 3, 4, 0] rfl ?_
        exact ih93 _ _ _ _ _ _ _ _ _ _ hc0 hn0 hT hw
  unfold wp_BLB_split at hw
  have key : ∀ (mc0 ms0 c0 n0 : Nat), mc0 = mc → ms0 = ms → c0 = 0 → n0 = 0 → c0 + mc0 = mc → n0 + ms0 = ms → jat l D X 7 0 [(0, .ref v0), (1, vi v1), (2, vi v2)] [] (cwd k T) c0 n0 := by
    intro mc0 ms0 c0 n0 hm1 hm2 hz1 hz2 hc0 hn0
    subst hm1; subst hm2
    clear hz1 hz2
    refine j_aload_n F 0 d_BLB_split_0 rfl ?_
    obtain ⟨hg1, hw⟩ := hw
    refine c_callVv F K hT (c_BLB_takeRow l hw) (tw_gV tq_483 tq_484 tq_485 tq_473 tq_486) 1 rfl (by decide) hg1 q_BLB_takeRow rfl ⟨by decide, by decide⟩ ⟨rm_z hc0, rm_z hn0⟩ rfl (Nat.le_of_ble_eq_true rfl) d_BLB_split_1 (fun T_1 hw hT => ?_)
    refine j_aload_n F 0 d_BLB_split_4 rfl ?_
    obtain ⟨mc_5, ms_6, mc_7, ms_8, ⟨he1, he2⟩, hw⟩ := hw
    obtain ⟨hg1, hw⟩ := hw
    refine e_callV F K E Pr hT (c_BLB_checkUp l hfl hw) (tw_gV tq_495 tq_496 tq_497 tq_473 tq_498) hg1 q_BLB_checkUp rfl ⟨by decide, by decide⟩ ⟨rm_l hc0 he1, rm_l hn0 he2⟩ rfl (Nat.le_of_ble_eq_true rfl) d_BLB_split_5 (fun ov T_3 hw hT => ?_)
    obtain ⟨rfl, hw⟩ := hw
    have hc0 := rm_c hc0 he1
    have hn0 := rm_c hn0 he2
    refine j_aload_n F 0 d_BLB_split_8 rfl ?_
    refine j_iload_n F 1 d_BLB_split_9 rfl ?_
    obtain ⟨mc_11, ms_12, mc_13, ms_14, ⟨he1, he2⟩, hw⟩ := hw
    obtain ⟨hg1, hw⟩ := hw
    refine e_callV F K E Pr hT (c_BLB_checkLot l hfl hw) (tw_gV tq_499 tq_500 tq_501 tq_473 tq_502) hg1 q_BLB_checkLot rfl ⟨by decide, by decide⟩ ⟨rm_l hc0 he1, rm_l hn0 he2⟩ rfl (Nat.le_of_ble_eq_true rfl) d_BLB_split_10 (fun ov T_9 hw hT => ?_)
    obtain ⟨rfl, hw⟩ := hw
    have hc0 := rm_c hc0 he1
    have hn0 := rm_c hn0 he2
    refine j_iload_n F 2 d_BLB_split_13 rfl ?_
    obtain ⟨mc_17, ms_18, mc_19, ms_20, ⟨he1, he2⟩, hw⟩ := hw
    refine e_callS F K E Pr hT (c_BLB_checkDay l hfl hw) (tw_gS tq_471 tq_472 tq_473 tq_474) q_BLB_checkDay rfl ⟨by decide, by decide⟩ ⟨rm_l hc0 he1, rm_l hn0 he2⟩ rfl (Nat.le_of_ble_eq_true rfl) d_BLB_split_14 (fun ov T_15 hw hT => ?_)
    obtain ⟨rfl, hw⟩ := hw
    have hc0 := rm_c hc0 he1
    have hn0 := rm_c hn0 he2
    refine j_iconst F d_BLB_split_17 ?_
    obtain ⟨hr0, mc_23, ms_24, ⟨he1, he2⟩, hw⟩ := hw
    refine c_newa11 F K hT tq_118 hr0 (rm_l hc0 he1) (rm_l hn0 he2) d_BLB_split_18 (fun q_21 T_22 e_q_21 e_T_22 hT => ?_)
    have hw := hw q_21 T_22 e_q_21 e_T_22
    have hc0 := rm_c hc0 he1
    have hn0 := rm_c hn0 he2
    refine j_dup F rfl d_BLB_split_20 ?_
    refine j_iconst F d_BLB_split_21 ?_
    refine j_iload_n F 1 d_BLB_split_22 rfl ?_
    obtain ⟨hc1, hc2, hw⟩ := hw
    refine c_iast F K hT hc1 hc2 d_BLB_split_23 (fun T_25 e_T_25 hT => ?_)
    have hw := hw T_25 e_T_25
    refine j_astore_n F [(3, .ref q_21), (0, .ref v0), (1, vi v1), (2, vi v2)] d_BLB_split_24 (by decide) rfl ?_
    refine j_aload_n F 1 d_BLB_split_25 rfl ?_
    obtain ⟨hc1, q_26, hc2, hw⟩ := hw
    refine c_getr F K hT 1 4 rfl tu_LandBook (by decide) (by decide) rfl tq_441 (Or.inl rfl) hc1 hc2 d_BLB_split_26 ?_
    refine j_aload_n F 0 d_BLB_split_29 rfl ?_
    refine j_iload_n F 3 d_BLB_split_30 rfl ?_
    obtain ⟨hg1, hw⟩ := hw
    refine c_callVi F K hT (c_BRg_objection l hw) (tw_gV tq_503 tq_504 tq_505 tq_336 tq_506) 5 rfl (by decide) hg1 q_BRg_objection rfl ⟨by decide, by decide⟩ ⟨rm_z hc0, rm_z hn0⟩ rfl (Nat.le_of_ble_eq_true rfl) d_BLB_split_31 (fun r_28 T_27 hw hT => ?_)
    refine j_istore F [(4, vi r_28), (3, .ref q_21), (0, .ref v0), (1, vi v1), (2, vi v2)] d_BLB_split_34 (by decide) rfl ?_
    refine j_iload F 0 d_BLB_split_36 rfl ?_
    obtain ⟨hc1, hwt, hwf⟩ := hw
    refine j_if_eq F 44 hc1 d_BLB_split_38 rfl (fun hh => ?_) (fun hh => ?_)
    · have hw := hwt hh
      refine j_aload_n F 2 d_BLB_split_44 rfl ?_
      obtain ⟨hc1, q_29, hc2, hw⟩ := hw
      refine c_getr F K hT 1 2 rfl tu_LandBook (by decide) (by decide) rfl tq_507 (Or.inl rfl) hc1 hc2 d_BLB_split_45 ?_
      refine j_aload_n F 2 d_BLB_split_48 rfl ?_
      obtain ⟨hc1, q_30, hc2, hw⟩ := hw
      refine c_getr F K hT 1 4 rfl tu_LandBook (by decide) (by decide) rfl tq_441 (Or.inl rfl) hc1 hc2 d_BLB_split_49 ?_
      refine j_iload_n F 3 d_BLB_split_52 rfl ?_
      obtain ⟨hg1, hw⟩ := hw
      refine c_callVr F K hT (c_BRg_lot l hw) (tw_gV tq_508 tq_334 tq_335 tq_336 tq_337) 5 rfl (by decide) hg1 q_BRg_lot rfl ⟨by decide, by decide⟩ ⟨rm_z hc0, rm_z hn0⟩ rfl (Nat.le_of_ble_eq_true rfl) d_BLB_split_53 (fun r_32 T_31 hw hT => ?_)
      obtain ⟨hc1, q_33, hc2, hw⟩ := hw
      refine c_getr F K hT 9 0 rfl tu_Lot (by decide) (by decide) rfl tq_509 (Or.inl rfl) hc1 hc2 d_BLB_split_56 ?_
      refine j_aload_n F 2 d_BLB_split_59 rfl ?_
      obtain ⟨hc1, q_34, hc2, hw⟩ := hw
      refine c_getr F K hT 1 1 rfl tu_LandBook (by decide) (by decide) rfl tq_435 (Or.inl rfl) hc1 hc2 d_BLB_split_60 ?_
      obtain ⟨hg1, hw⟩ := hw
      refine c_callVi F K hT (c_BCu_cut l hw) (tw_gV tq_510 tq_511 tq_512 tq_177 tq_513) 3 rfl (by decide) hg1 q_BCu_cut rfl ⟨by decide, by decide⟩ ⟨rm_z hc0, rm_z hn0⟩ rfl (Nat.le_of_ble_eq_true rfl) d_BLB_split_63 (fun r_36 T_35 hw hT => ?_)
      obtain ⟨hc1, hwt, hwf⟩ := hw
      refine j_if_ne F 72 hc1 d_BLB_split_66 rfl (fun hh => ?_) (fun hh => ?_)
      · have hw := hwt hh
        refine j_iconst F d_BLB_split_72 ?_
        refine j_aload_n F 2 d_BLB_split_73 rfl ?_
        obtain ⟨hc1, q_37, hc2, hw⟩ := hw
        refine c_getr F K hT 1 1 rfl tu_LandBook (by decide) (by decide) rfl tq_435 (Or.inl rfl) hc1 hc2 d_BLB_split_74 ?_
        obtain ⟨hc1, hw⟩ := hw
        refine c_geti F K hT 2 1 rfl tu_Points (by decide) (by decide) rfl tq_438 (Or.inl rfl) hc1 d_BLB_split_77 ?_
        refine j_iadd F d_BLB_split_80 ?_
        obtain ⟨hr0, mc_40, ms_41, ⟨he1, he2⟩, hw⟩ := hw
        refine c_newa11 F K hT tq_118 hr0 (rm_l hc0 he1) (rm_l hn0 he2) d_BLB_split_81 (fun q_38 T_39 e_q_38 e_T_39 hT => ?_)
        have hw := hw q_38 T_39 e_q_38 e_T_39
        have hc0 := rm_c hc0 he1
        have hn0 := rm_c hn0 he2
        refine j_astore F [(5, .ref q_38), (4, vi r_28), (3, .ref q_21), (0, .ref v0), (1, vi v1), (2, vi v2)] d_BLB_split_83 (by decide) rfl ?_
        refine j_aload F 0 d_BLB_split_85 rfl ?_
        refine j_iconst F d_BLB_split_87 ?_
        refine j_iload_n F 4 d_BLB_split_88 rfl ?_
        obtain ⟨hc1, hc2, hw⟩ := hw
        refine c_iast F K hT hc1 hc2 d_BLB_split_89 (fun T_42 e_T_42 hT => ?_)
        have hw := hw T_42 e_T_42
        refine j_iconst F d_BLB_split_90 ?_
        refine j_istore F [(6, vi 0), (5, .ref q_38), (4, vi r_28), (3, .ref q_21), (0, .ref v0), (1, vi v1), (2, vi v2)] d_BLB_split_91 (by decide) rfl ?_
        refine j_sub [4, 6, 3, 1, 0] rfl ?_
        obtain ⟨nn, hw⟩ := hw
        exact B93 nn _ _ _ _ _ _ _ _ _ _ hc0 hn0 hT hw
      · have hw := hwf hh
        refine j_bipush F d_BLB_split_69 (j_bip (by decide) (by decide)) ?_
        exact hri _ _ _ _ _ _ rfl ⟨_, rfl, hw⟩ hT (rm_y hc0) (rm_y hn0) d_BLB_split_71
    · have hw := hwf hh
      refine j_iload F 0 d_BLB_split_41 rfl ?_
      exact hri _ _ _ _ _ _ rfl ⟨_, rfl, hw⟩ hT (rm_y hc0) (rm_y hn0) d_BLB_split_43
  exact key mc ms 0 0 rfl rfl rfl rfl (Nat.zero_add _) (Nat.zero_add _)
theorem tq_536 : (Jvm.Cond.fieldLink "LandBook" (31 : Nat) "LandBook" "joiner" "LLandBook$Joiner;") ∈ tw_G := tw_in (List.mem_of_getElem? (i := 229) (by decide +kernel)) rfl
theorem tq_537 : (Jvm.Cond.methodLink "LandBook" (156 : Nat) ({ cls := "LandBook$Joiner", name := "join", desc := "(LLandBook$Points;LLandBook$Points;)Z" } : Jvm.MethodName)) ∈ tw_G := tw_in (List.mem_of_getElem? (i := 787) (by decide +kernel)) rfl
theorem tq_538 : (Jvm.Cond.instanceMethod ({ cls := "LandBook$Joiner", name := "join", desc := "(LLandBook$Points;LLandBook$Points;)Z" } : Jvm.MethodName)) ∈ tw_G := tw_in (List.mem_of_getElem? (i := 788) (by decide +kernel)) rfl
theorem tq_539 : (Jvm.Cond.selects "LandBook$Joiner" ({ cls := "LandBook$Joiner", name := "join", desc := "(LLandBook$Points;LLandBook$Points;)Z" } : Jvm.MethodName) ({ cls := "LandBook$Joiner", name := "join", desc := "(LLandBook$Points;LLandBook$Points;)Z" } : Jvm.MethodName)) ∈ tw_G := tw_in (List.mem_of_getElem? (i := 789) (by decide +kernel)) rfl
theorem tq_540 : (Jvm.Cond.code ({ cls := "LandBook$Joiner", name := "join", desc := "(LLandBook$Points;LLandBook$Points;)Z" } : Jvm.MethodName) prog_5_method_2_code (8 : Nat) (Option.some Jvm.ClassFile.FieldType.boolean)) ∈ tw_G := tw_in (List.mem_of_getElem? (i := 790) (by decide +kernel)) rfl
theorem tq_541 : (Jvm.Cond.methodLink "LandBook" (159 : Nat) ({ cls := "LandBook$Register", name := "haveEqualShares", desc := "(III)Z" } : Jvm.MethodName)) ∈ tw_G := tw_in (List.mem_of_getElem? (i := 811) (by decide +kernel)) rfl
theorem tq_542 : (Jvm.Cond.instanceMethod ({ cls := "LandBook$Register", name := "haveEqualShares", desc := "(III)Z" } : Jvm.MethodName)) ∈ tw_G := tw_in (List.mem_of_getElem? (i := 812) (by decide +kernel)) rfl
theorem tq_543 : (Jvm.Cond.selects "LandBook$Register" ({ cls := "LandBook$Register", name := "haveEqualShares", desc := "(III)Z" } : Jvm.MethodName) ({ cls := "LandBook$Register", name := "haveEqualShares", desc := "(III)Z" } : Jvm.MethodName)) ∈ tw_G := tw_in (List.mem_of_getElem? (i := 813) (by decide +kernel)) rfl
theorem tq_544 : (Jvm.Cond.code ({ cls := "LandBook$Register", name := "haveEqualShares", desc := "(III)Z" } : Jvm.MethodName) prog_10_method_17_code (5 : Nat) (Option.some Jvm.ClassFile.FieldType.boolean)) ∈ tw_G := tw_in (List.mem_of_getElem? (i := 814) (by decide +kernel)) rfl
theorem tq_545 : (Jvm.Cond.constant "LandBook" (163 : Nat) (65536 : Int32)) ∈ tw_G := tw_in (List.mem_of_getElem? (i := 815) (by decide +kernel)) rfl
theorem tq_546 : (Jvm.Cond.fieldLink "LandBook" (164 : Nat) "LandBook$Joiner" "joined" "LLandBook$Points;") ∈ tw_G := tw_in (List.mem_of_getElem? (i := 148) (by decide +kernel)) rfl
abbrev y_BLB_merge : MethodName := ⟨"LandBook", "merge", "(III)I"⟩
theorem q_BLB_merge : y_BLB_merge.cls = "LandBook" ∧ y_BLB_merge.cls ≠ "java/lang/invoke/MethodHandle" ∧ y_BLB_merge.cls ≠ "java/lang/invoke/VarHandle" ∧ (parseMethodDescriptor y_BLB_merge.desc).map (fun d => d.parameters.length) = some 3 := by decide +kernel
theorem d_BLB_merge_0 : decode prog_1_method_5_code 0 = .ok (.aload_n 0, 1) := by decide +kernel
theorem d_BLB_merge_1 : decode prog_1_method_5_code 1 = .ok (.invokevirtual 99, 3) := by decide +kernel
theorem d_BLB_merge_4 : decode prog_1_method_5_code 4 = .ok (.aload_n 0, 1) := by decide +kernel
theorem d_BLB_merge_5 : decode prog_1_method_5_code 5 = .ok (.iload_n 1, 1) := by decide +kernel
theorem d_BLB_merge_6 : decode prog_1_method_5_code 6 = .ok (.invokevirtual 102, 3) := by decide +kernel
theorem d_BLB_merge_9 : decode prog_1_method_5_code 9 = .ok (.aload_n 0, 1) := by decide +kernel
theorem d_BLB_merge_10 : decode prog_1_method_5_code 10 = .ok (.iload_n 2, 1) := by decide +kernel
theorem d_BLB_merge_11 : decode prog_1_method_5_code 11 = .ok (.invokevirtual 102, 3) := by decide +kernel
theorem d_BLB_merge_14 : decode prog_1_method_5_code 14 = .ok (.iload_n 3, 1) := by decide +kernel
theorem d_BLB_merge_15 : decode prog_1_method_5_code 15 = .ok (.invokestatic 105, 3) := by decide +kernel
theorem d_BLB_merge_18 : decode prog_1_method_5_code 18 = .ok (.iconst 2, 1) := by decide +kernel
theorem d_BLB_merge_19 : decode prog_1_method_5_code 19 = .ok (.newarray .int, 2) := by decide +kernel
theorem d_BLB_merge_21 : decode prog_1_method_5_code 21 = .ok (.dup, 1) := by decide +kernel
theorem d_BLB_merge_22 : decode prog_1_method_5_code 22 = .ok (.iconst 0, 1) := by decide +kernel
theorem d_BLB_merge_23 : decode prog_1_method_5_code 23 = .ok (.iload_n 1, 1) := by decide +kernel
theorem d_BLB_merge_24 : decode prog_1_method_5_code 24 = .ok (.iastore, 1) := by decide +kernel
theorem d_BLB_merge_25 : decode prog_1_method_5_code 25 = .ok (.dup, 1) := by decide +kernel
theorem d_BLB_merge_26 : decode prog_1_method_5_code 26 = .ok (.iconst 1, 1) := by decide +kernel
theorem d_BLB_merge_27 : decode prog_1_method_5_code 27 = .ok (.iload_n 2, 1) := by decide +kernel
theorem d_BLB_merge_28 : decode prog_1_method_5_code 28 = .ok (.iastore, 1) := by decide +kernel
theorem d_BLB_merge_29 : decode prog_1_method_5_code 29 = .ok (.astore 4, 2) := by decide +kernel
theorem d_BLB_merge_31 : decode prog_1_method_5_code 31 = .ok (.aload_n 0, 1) := by decide +kernel
theorem d_BLB_merge_32 : decode prog_1_method_5_code 32 = .ok (.getfield 38, 3) := by decide +kernel
theorem d_BLB_merge_35 : decode prog_1_method_5_code 35 = .ok (.aload 4, 2) := by decide +kernel
theorem d_BLB_merge_37 : decode prog_1_method_5_code 37 = .ok (.iload_n 3, 1) := by decide +kernel
theorem d_BLB_merge_38 : decode prog_1_method_5_code 38 = .ok (.invokevirtual 108, 3) := by decide +kernel
theorem d_BLB_merge_41 : decode prog_1_method_5_code 41 = .ok (.istore 5, 2) := by decide +kernel
theorem d_BLB_merge_43 : decode prog_1_method_5_code 43 = .ok (.iload 5, 2) := by decide +kernel
theorem d_BLB_merge_45 : decode prog_1_method_5_code 45 = .ok (.ifCond .eq 6, 3) := by decide +kernel
theorem d_BLB_merge_51 : decode prog_1_method_5_code 51 = .ok (.iload_n 1, 1) := by decide +kernel
theorem d_BLB_merge_52 : decode prog_1_method_5_code 52 = .ok (.iload_n 2, 1) := by decide +kernel
theorem d_BLB_merge_53 : decode prog_1_method_5_code 53 = .ok (.if_icmp .eq 48, 3) := by decide +kernel
theorem d_BLB_merge_101 : decode prog_1_method_5_code 101 = .ok (.bipush (-3), 2) := by decide +kernel
theorem d_BLB_merge_103 : decode prog_1_method_5_code 103 = .ok (.ireturn, 1) := by decide +kernel
theorem d_BLB_merge_56 : decode prog_1_method_5_code 56 = .ok (.aload_n 0, 1) := by decide +kernel
theorem d_BLB_merge_57 : decode prog_1_method_5_code 57 = .ok (.getfield 31, 3) := by decide +kernel
theorem d_BLB_merge_60 : decode prog_1_method_5_code 60 = .ok (.aload_n 0, 1) := by decide +kernel
theorem d_BLB_merge_61 : decode prog_1_method_5_code 61 = .ok (.getfield 38, 3) := by decide +kernel
theorem d_BLB_merge_64 : decode prog_1_method_5_code 64 = .ok (.iload_n 1, 1) := by decide +kernel
theorem d_BLB_merge_65 : decode prog_1_method_5_code 65 = .ok (.invokevirtual 112, 3) := by decide +kernel
theorem d_BLB_merge_68 : decode prog_1_method_5_code 68 = .ok (.getfield 116, 3) := by decide +kernel
theorem d_BLB_merge_71 : decode prog_1_method_5_code 71 = .ok (.aload_n 0, 1) := by decide +kernel
theorem d_BLB_merge_72 : decode prog_1_method_5_code 72 = .ok (.getfield 38, 3) := by decide +kernel
theorem d_BLB_merge_75 : decode prog_1_method_5_code 75 = .ok (.iload_n 2, 1) := by decide +kernel
theorem d_BLB_merge_76 : decode prog_1_method_5_code 76 = .ok (.invokevirtual 112, 3) := by decide +kernel
theorem d_BLB_merge_79 : decode prog_1_method_5_code 79 = .ok (.getfield 116, 3) := by decide +kernel
theorem d_BLB_merge_82 : decode prog_1_method_5_code 82 = .ok (.invokevirtual 156, 3) := by decide +kernel
theorem d_BLB_merge_85 : decode prog_1_method_5_code 85 = .ok (.ifCond .eq 16, 3) := by decide +kernel
theorem d_BLB_merge_88 : decode prog_1_method_5_code 88 = .ok (.aload_n 0, 1) := by decide +kernel
theorem d_BLB_merge_89 : decode prog_1_method_5_code 89 = .ok (.getfield 38, 3) := by decide +kernel
theorem d_BLB_merge_92 : decode prog_1_method_5_code 92 = .ok (.iload_n 1, 1) := by decide +kernel
theorem d_BLB_merge_93 : decode prog_1_method_5_code 93 = .ok (.iload_n 2, 1) := by decide +kernel
theorem d_BLB_merge_94 : decode prog_1_method_5_code 94 = .ok (.iload_n 3, 1) := by decide +kernel
theorem d_BLB_merge_95 : decode prog_1_method_5_code 95 = .ok (.invokevirtual 159, 3) := by decide +kernel
theorem d_BLB_merge_98 : decode prog_1_method_5_code 98 = .ok (.ifCond .ne 6, 3) := by decide +kernel
theorem d_BLB_merge_104 : decode prog_1_method_5_code 104 = .ok (.iconst 1, 1) := by decide +kernel
theorem d_BLB_merge_105 : decode prog_1_method_5_code 105 = .ok (.newarray .int, 2) := by decide +kernel
theorem d_BLB_merge_107 : decode prog_1_method_5_code 107 = .ok (.dup, 1) := by decide +kernel
theorem d_BLB_merge_108 : decode prog_1_method_5_code 108 = .ok (.iconst 0, 1) := by decide +kernel
theorem d_BLB_merge_109 : decode prog_1_method_5_code 109 = .ok (.iload_n 1, 1) := by decide +kernel
theorem d_BLB_merge_110 : decode prog_1_method_5_code 110 = .ok (.ldc 163, 2) := by decide +kernel
theorem d_BLB_merge_112 : decode prog_1_method_5_code 112 = .ok (.imul, 1) := by decide +kernel
theorem d_BLB_merge_113 : decode prog_1_method_5_code 113 = .ok (.iload_n 2, 1) := by decide +kernel
theorem d_BLB_merge_114 : decode prog_1_method_5_code 114 = .ok (.iadd, 1) := by decide +kernel
theorem d_BLB_merge_115 : decode prog_1_method_5_code 115 = .ok (.iastore, 1) := by decide +kernel
theorem d_BLB_merge_116 : decode prog_1_method_5_code 116 = .ok (.astore 6, 2) := by decide +kernel
theorem d_BLB_merge_118 : decode prog_1_method_5_code 118 = .ok (.iconst 1, 1) := by decide +kernel
theorem d_BLB_merge_119 : decode prog_1_method_5_code 119 = .ok (.anewarray 7, 3) := by decide +kernel
theorem d_BLB_merge_122 : decode prog_1_method_5_code 122 = .ok (.dup, 1) := by decide +kernel
theorem d_BLB_merge_123 : decode prog_1_method_5_code 123 = .ok (.iconst 0, 1) := by decide +kernel
theorem d_BLB_merge_124 : decode prog_1_method_5_code 124 = .ok (.aload_n 0, 1) := by decide +kernel
theorem d_BLB_merge_125 : decode prog_1_method_5_code 125 = .ok (.getfield 31, 3) := by decide +kernel
theorem d_BLB_merge_128 : decode prog_1_method_5_code 128 = .ok (.getfield 164, 3) := by decide +kernel
theorem d_BLB_merge_131 : decode prog_1_method_5_code 131 = .ok (.aastore, 1) := by decide +kernel
theorem d_BLB_merge_132 : decode prog_1_method_5_code 132 = .ok (.astore 7, 2) := by decide +kernel
theorem d_BLB_merge_134 : decode prog_1_method_5_code 134 = .ok (.aload_n 0, 1) := by decide +kernel
theorem d_BLB_merge_135 : decode prog_1_method_5_code 135 = .ok (.aload 7, 2) := by decide +kernel
theorem d_BLB_merge_137 : decode prog_1_method_5_code 137 = .ok (.arraylength, 1) := by decide +kernel
theorem d_BLB_merge_138 : decode prog_1_method_5_code 138 = .ok (.iconst 0, 1) := by decide +kernel
theorem d_BLB_merge_139 : decode prog_1_method_5_code 139 = .ok (.aload 6, 2) := by decide +kernel
theorem d_BLB_merge_141 : decode prog_1_method_5_code 141 = .ok (.invokevirtual 135, 3) := by decide +kernel
theorem d_BLB_merge_144 : decode prog_1_method_5_code 144 = .ok (.ifCond .ne 11, 3) := by decide +kernel
theorem d_BLB_merge_155 : decode prog_1_method_5_code 155 = .ok (.bipush (-4), 2) := by decide +kernel
theorem d_BLB_merge_157 : decode prog_1_method_5_code 157 = .ok (.ireturn, 1) := by decide +kernel
theorem d_BLB_merge_147 : decode prog_1_method_5_code 147 = .ok (.aload 7, 2) := by decide +kernel
theorem d_BLB_merge_149 : decode prog_1_method_5_code 149 = .ok (.invokestatic 139, 3) := by decide +kernel
theorem d_BLB_merge_152 : decode prog_1_method_5_code 152 = .ok (.ifCond .eq 6, 3) := by decide +kernel
theorem d_BLB_merge_158 : decode prog_1_method_5_code 158 = .ok (.aload_n 0, 1) := by decide +kernel
theorem d_BLB_merge_159 : decode prog_1_method_5_code 159 = .ok (.new 143, 3) := by decide +kernel
theorem d_BLB_merge_162 : decode prog_1_method_5_code 162 = .ok (.dup, 1) := by decide +kernel
theorem d_BLB_merge_163 : decode prog_1_method_5_code 163 = .ok (.iconst 2, 1) := by decide +kernel
theorem d_BLB_merge_164 : decode prog_1_method_5_code 164 = .ok (.iload_n 3, 1) := by decide +kernel
theorem d_BLB_merge_165 : decode prog_1_method_5_code 165 = .ok (.aload 4, 2) := by decide +kernel
theorem d_BLB_merge_167 : decode prog_1_method_5_code 167 = .ok (.invokespecial 145, 3) := by decide +kernel
theorem d_BLB_merge_170 : decode prog_1_method_5_code 170 = .ok (.aload 6, 2) := by decide +kernel
theorem d_BLB_merge_172 : decode prog_1_method_5_code 172 = .ok (.invokevirtual 148, 3) := by decide +kernel
theorem d_BLB_merge_175 : decode prog_1_method_5_code 175 = .ok (.pop, 1) := by decide +kernel
theorem d_BLB_merge_176 : decode prog_1_method_5_code 176 = .ok (.aload_n 0, 1) := by decide +kernel
theorem d_BLB_merge_177 : decode prog_1_method_5_code 177 = .ok (.getfield 38, 3) := by decide +kernel
theorem d_BLB_merge_180 : decode prog_1_method_5_code 180 = .ok (.aload 7, 2) := by decide +kernel
theorem d_BLB_merge_182 : decode prog_1_method_5_code 182 = .ok (.invokevirtual 152, 3) := by decide +kernel
theorem d_BLB_merge_185 : decode prog_1_method_5_code 185 = .ok (.ireturn, 1) := by decide +kernel
theorem d_BLB_merge_48 : decode prog_1_method_5_code 48 = .ok (.iload 5, 2) := by decide +kernel
theorem d_BLB_merge_50 : decode prog_1_method_5_code 50 = .ok (.ireturn, 1) := by decide +kernel
def wp_BLB_merge (post : Int → CS → Prop) (pe : String → CS → Prop) (mc0 ms0 : Nat) (v0 : Nat) (v1 : Int) (v2 : Int) (v3 : Int) (T : CS) : Prop := ∃ mc_3 ms_4 mc_5 ms_6 : Nat, (mc0 = mc_3 + mc_5 ∧ ms0 = ms_4 + ms_6) ∧ tg T v0 = 1 ∧ wp_BLB_checkUp (fun T_1 => ∃ mc_9 ms_10 mc_11 ms_12 : Nat, (mc_5 = mc_9 + mc_11 ∧ ms_6 = ms_10 + ms_12) ∧ tg T_1 v0 = 1 ∧ wp_BLB_checkLot (fun T_7 => ∃ mc_15 ms_16 mc_17 ms_18 : Nat, (mc_11 = mc_15 + mc_17 ∧ ms_12 = ms_16 + ms_18) ∧ tg T_7 v0 = 1 ∧ wp_BLB_checkLot (fun T_13 => ∃ mc_21 ms_22 mc_23 ms_24 : Nat, (mc_17 = mc_21 + mc_23 ∧ ms_18 = ms_22 + ms_24) ∧ wp_BLB_checkDay (fun T_19 => ((0 : Int) ≤ 2 ∧ (2 : Int) ≤ 134217728) ∧ ∃ mc_27 ms_28 : Nat, (mc_23 = 1 + mc_27 ∧ ms_24 = 2 + ms_28) ∧ (∀ (q_25 : Nat) (T_26 : CS), tg T_19 q_25 = 0 → T_26 = cs_new T_19 q_25 11 2 → tg T_26 q_25 = 11 ∧ ixR 0 (ln T_26 q_25) ∧ ((∀ T_29 : CS, T_29 = cs_i T_26 q_25 0 v1 → tg T_29 q_25 = 11 ∧ ixR 1 (ln T_29 q_25) ∧ ((∀ T_30 : CS, T_30 = cs_i T_29 q_25 1 v2 → tg T_30 v0 = 1 ∧ ∃ q_31 : Nat, fo T_30 v0 4 = some q_31 ∧ (tg T_30 q_31 = 5 ∧ wp_BRg_objection (fun r_33 T_32 => inR r_33 ∧ (r_33 = 0 → (inR v1 ∧ inR v2 ∧ (v1 = v2 → (post (-3) T_32)) ∧ (¬ (v1 = v2) → (tg T_32 v0 = 1 ∧ ∃ q_34 : Nat, fo T_32 v0 3 = some q_34 ∧ (tg T_32 v0 = 1 ∧ ∃ q_35 : Nat, fo T_32 v0 4 = some q_35 ∧ (tg T_32 q_35 = 5 ∧ wp_BRg_lot (fun r_37 T_36 => tg T_36 r_37 = 9 ∧ ∃ q_38 : Nat, fo T_36 r_37 0 = some q_38 ∧ (tg T_36 v0 = 1 ∧ ∃ q_39 : Nat, fo T_36 v0 4 = some q_39 ∧ (tg T_36 q_39 = 5 ∧ wp_BRg_lot (fun r_41 T_40 => tg T_40 r_41 = 9 ∧ ∃ q_42 : Nat, fo T_40 r_41 0 = some q_42 ∧ (tg T_40 q_34 = 4 ∧ wp_BJo_join (fun r_44 T_43 => inR r_44 ∧ (r_44 = 0 → (post (-3) T_43)) ∧ (¬ (r_44 = 0) → (tg T_43 v0 = 1 ∧ ∃ q_45 : Nat, fo T_43 v0 4 = some q_45 ∧ (tg T_43 q_45 = 5 ∧ wp_BRg_haveEqualShares (fun r_47 T_46 => inR r_47 ∧ (¬ (r_47 = 0) → (((0 : Int) ≤ 1 ∧ (1 : Int) ≤ 134217728) ∧ ∃ mc_50 ms_51 : Nat, (mc_27 = 1 + mc_50 ∧ ms_28 = 1 + ms_51) ∧ (∀ (q_48 : Nat) (T_49 : CS), tg T_46 q_48 = 0 → T_49 = cs_new T_46 q_48 11 1 → tg T_49 q_48 = 11 ∧ ixR 0 (ln T_49 q_48) ∧ ((∀ T_52 : CS, T_52 = cs_i T_49 q_48 0 ((v1 * 65536) + v2) → ((0 : Int) ≤ 1 ∧ (1 : Int) ≤ 134217728) ∧ ∃ mc_55 ms_56 : Nat, (mc_50 = 1 + mc_55 ∧ ms_51 = 1 + ms_56) ∧ (∀ (q_53 : Nat) (T_54 : CS), tg T_52 q_53 = 0 → T_54 = cs_new T_52 q_53 14 1 → tg T_54 v0 = 1 ∧ ∃ q_57 : Nat, fo T_54 v0 3 = some q_57 ∧ (tg T_54 q_57 = 4 ∧ ∃ q_58 : Nat, fo T_54 q_57 4 = some q_58 ∧ (tg T_54 q_53 = 14 ∧ ixR 0 (ln T_54 q_53) ∧ tg T_54 q_58 = 2 ∧ ((∀ T_59 : CS, T_59 = cs_o T_54 q_53 0 (some q_58) → tg T_59 q_53 = 14 ∧ (tg T_59 v0 = 1 ∧ wp_BLB_isFull (fun r_61 T_60 => inR r_61 ∧ (¬ (r_61 = 0) → (post (-4) T_60)) ∧ (r_61 = 0 → (wp_BLB_haveTooManyCorners (fun r_63 T_62 => inR r_63 ∧ (r_63 = 0 → (∃ mc_66 ms_67 : Nat, (mc_55 = 1 + mc_66 ∧ ms_56 = 6 + ms_67) ∧ (∀ (q_64 : Nat) (T_65 : CS), tg T_62 q_64 = 0 → T_65 = cs_new T_62 q_64 8 0 → wp_BDe_init3 (fun T_68 => ∃ mc_72 ms_73 mc_74 ms_75 : Nat, (mc_66 = mc_72 + mc_74 ∧ ms_67 = ms_73 + ms_75) ∧ tg T_68 v0 = 1 ∧ wp_BLB_enter (fun r_71 T_70 => tg T_70 v0 = 1 ∧ ∃ q_76 : Nat, fo T_70 v0 4 = some q_76 ∧ (∃ mc_79 ms_80 mc_81 ms_82 : Nat, (mc_74 = mc_79 + mc_81 ∧ ms_75 = ms_80 + ms_82) ∧ tg T_70 q_76 = 5 ∧ wp_BRg_replaceLots (fun r_78 T_77 => post r_78 T_77) mc_79 ms_80 q_76 q_53 T_70)) mc_72 ms_73 v0 q_64 q_48 T_68) q_64 2 v3 q_25 T_65))) ∧ (¬ (r_63 = 0) → (post (-4) T_62))) q_53 T_60))) v0 (ln T_59 q_53 : Int) 0 q_48 T_59))))))))))) ∧ (r_47 = 0 → (post (-3) T_46))) q_45 v1 v2 v3 T_43)))) q_34 q_38 q_42 T_40)) q_39 v2 T_36))) q_35 v1 T_32)))))) ∧ (¬ (r_33 = 0) → post r_33 T_32)) q_31 q_25 v3 T_30))))))) pe mc_21 ms_22 v3 T_13) pe mc_15 ms_16 v0 v2 T_7) pe mc_9 ms_10 v0 v1 T_1) pe mc_3 ms_4 v0 T
set_option maxHeartbeats 4000000 in
set_option maxRecDepth 100000 in
theorem c_BLB_merge (l : Launch) (hfl : l.flags = pinnedFlags ++ [noTraceFlag]) {D : va_G} {k : CK} {post : Int → CS → Prop} {pe : String → CS → Prop} {mc ms : Nat} {v0 : Nat} {v1 : Int} {v2 : Int} {v3 : Int} {T : CS} (hw : wp_BLB_merge post pe mc ms v0 v1 v2 v3 T) : jE l D k y_BLB_merge prog_1_method_5_code 8 (some .int) 9 235 mc ms T [.ref v0, vi v1, vi v2, vi v3] (rtI post) pe := by
  refine j_eo hfl (by decide) rfl (Nat.le_of_ble_eq_true rfl) (by decide) (by decide) (fun X F K E hT Pr hthr hri hrz hrv => ?_)
  unfold wp_BLB_merge at hw
  have key : ∀ (mc0 ms0 c0 n0 : Nat), mc0 = mc → ms0 = ms → c0 = 0 → n0 = 0 → c0 + mc0 = mc → n0 + ms0 = ms → jat l D X 8 0 [(0, .ref v0), (1, vi v1), (2, vi v2), (3, vi v3)] [] (cwd k T) c0 n0 := by
    intro mc0 ms0 c0 n0 hm1 hm2 hz1 hz2 hc0 hn0
    subst hm1; subst hm2
    clear hz1 hz2
    refine j_aload_n F 0 d_BLB_merge_0 rfl ?_
    obtain ⟨mc_3, ms_4, mc_5, ms_6, ⟨he1, he2⟩, hw⟩ := hw
    obtain ⟨hg1, hw⟩ := hw
    refine e_callV F K E Pr hT (c_BLB_checkUp l hfl hw) (tw_gV tq_495 tq_496 tq_497 tq_473 tq_498) hg1 q_BLB_checkUp rfl ⟨by decide, by decide⟩ ⟨rm_l hc0 he1, rm_l hn0 he2⟩ rfl (Nat.le_of_ble_eq_true rfl) d_BLB_merge_1 (fun ov T_1 hw hT => ?_)
    obtain ⟨rfl, hw⟩ := hw
    have hc0 := rm_c hc0 he1
    have hn0 := rm_c hn0 he2
    refine j_aload_n F 0 d_BLB_merge_4 rfl ?_
    refine j_iload_n F 1 d_BLB_merge_5 rfl ?_
    obtain ⟨mc_9, ms_10, mc_11, ms_12, ⟨he1, he2⟩, hw⟩ := hw
    obtain ⟨hg1, hw⟩ := hw
    refine e_callV F K E Pr hT (c_BLB_checkLot l hfl hw) (tw_gV tq_499 tq_500 tq_501 tq_473 tq_502) hg1 q_BLB_checkLot rfl ⟨by decide, by decide⟩ ⟨rm_l hc0 he1, rm_l hn0 he2⟩ rfl (Nat.le_of_ble_eq_true rfl) d_BLB_merge_6 (fun ov T_7 hw hT => ?_)
    obtain ⟨rfl, hw⟩ := hw
    have hc0 := rm_c hc0 he1
    have hn0 := rm_c hn0 he2
    refine j_aload_n F 0 d_BLB_merge_9 rfl ?_
    refine j_iload_n F 2 d_BLB_merge_10 rfl ?_
    obtain ⟨mc_15, ms_16, mc_17, ms_18, ⟨he1, he2⟩, hw⟩ := hw
    obtain ⟨hg1, hw⟩ := hw
    refine e_callV F K E Pr hT (c_BLB_checkLot l hfl hw) (tw_gV tq_499 tq_500 tq_501 tq_473 tq_502) hg1 q_BLB_checkLot rfl ⟨by decide, by decide⟩ ⟨rm_l hc0 he1, rm_l hn0 he2⟩ rfl (Nat.le_of_ble_eq_true rfl) d_BLB_merge_11 (fun ov T_13 hw hT => ?_)
    obtain ⟨rfl, hw⟩ := hw
    have hc0 := rm_c hc0 he1
    have hn0 := rm_c hn0 he2
    refine j_iload_n F 3 d_BLB_merge_14 rfl ?_
    obtain ⟨mc_21, ms_22, mc_23, ms_24, ⟨he1, he2⟩, hw⟩ := hw
    refine e_callS F K E Pr hT (c_BLB_checkDay l hfl hw) (tw_gS tq_471 tq_472 tq_473 tq_474) q_BLB_checkDay rfl ⟨by decide, by decide⟩ ⟨rm_l hc0 he1, rm_l hn0 he2⟩ rfl (Nat.le_of_ble_eq_true rfl) d_BLB_merge_15 (fun ov T_19 hw hT => ?_)
    obtain ⟨rfl, hw⟩ := hw
    have hc0 := rm_c hc0 he1
    have hn0 := rm_c hn0 he2
    refine j_iconst F d_BLB_merge_18 ?_
    obtain ⟨hr0, mc_27, ms_28, ⟨he1, he2⟩, hw⟩ := hw
    refine c_newa11 F K hT tq_118 hr0 (rm_l hc0 he1) (rm_l hn0 he2) d_BLB_merge_19 (fun q_25 T_26 e_q_25 e_T_26 hT => ?_)
    have hw := hw q_25 T_26 e_q_25 e_T_26
    have hc0 := rm_c hc0 he1
    have hn0 := rm_c hn0 he2
    refine j_dup F rfl d_BLB_merge_21 ?_
    refine j_iconst F d_BLB_merge_22 ?_
    refine j_iload_n F 1 d_BLB_merge_23 rfl ?_
    obtain ⟨hc1, hc2, hw⟩ := hw
    refine c_iast F K hT hc1 hc2 d_BLB_merge_24 (fun T_29 e_T_29 hT => ?_)
    have hw := hw T_29 e_T_29
    refine j_dup F rfl d_BLB_merge_25 ?_
    refine j_iconst F d_BLB_merge_26 ?_
    refine j_iload_n F 2 d_BLB_merge_27 rfl ?_
    obtain ⟨hc1, hc2, hw⟩ := hw
    refine c_iast F K hT hc1 hc2 d_BLB_merge_28 (fun T_30 e_T_30 hT => ?_)
    have hw := hw T_30 e_T_30
    refine j_astore F [(4, .ref q_25), (0, .ref v0), (1, vi v1), (2, vi v2), (3, vi v3)] d_BLB_merge_29 (by decide) rfl ?_
    refine j_aload_n F 1 d_BLB_merge_31 rfl ?_
    obtain ⟨hc1, q_31, hc2, hw⟩ := hw
    refine c_getr F K hT 1 4 rfl tu_LandBook (by decide) (by decide) rfl tq_441 (Or.inl rfl) hc1 hc2 d_BLB_merge_32 ?_
    refine j_aload F 0 d_BLB_merge_35 rfl ?_
    refine j_iload_n F 4 d_BLB_merge_37 rfl ?_
    obtain ⟨hg1, hw⟩ := hw
    refine c_callVi F K hT (c_BRg_objection l hw) (tw_gV tq_503 tq_504 tq_505 tq_336 tq_506) 5 rfl (by decide) hg1 q_BRg_objection rfl ⟨by decide, by decide⟩ ⟨rm_z hc0, rm_z hn0⟩ rfl (Nat.le_of_ble_eq_true rfl) d_BLB_merge_38 (fun r_33 T_32 hw hT => ?_)
    refine j_istore F [(5, vi r_33), (4, .ref q_25), (0, .ref v0), (1, vi v1), (2, vi v2), (3, vi v3)] d_BLB_merge_41 (by decide) rfl ?_
    refine j_iload F 0 d_BLB_merge_43 rfl ?_
    obtain ⟨hc1, hwt, hwf⟩ := hw
    refine j_if_eq F 51 hc1 d_BLB_merge_45 rfl (fun hh => ?_) (fun hh => ?_)
    · have hw := hwt hh
      refine j_iload_n F 3 d_BLB_merge_51 rfl ?_
      refine j_iload_n F 4 d_BLB_merge_52 rfl ?_
      obtain ⟨hc1, hc2, hwt, hwf⟩ := hw
      refine j_icmp_eq F 101 hc1 hc2 d_BLB_merge_53 rfl (fun hh => ?_) (fun hh => ?_)
      · have hw := hwt hh
        refine j_bipush F d_BLB_merge_101 (j_bip (by decide) (by decide)) ?_
        exact hri _ _ _ _ _ _ rfl ⟨_, rfl, hw⟩ hT (rm_y hc0) (rm_y hn0) d_BLB_merge_103
      · have hw := hwf hh
        refine j_aload_n F 2 d_BLB_merge_56 rfl ?_
        obtain ⟨hc1, q_34, hc2, hw⟩ := hw
        refine c_getr F K hT 1 3 rfl tu_LandBook (by decide) (by decide) rfl tq_536 (Or.inl rfl) hc1 hc2 d_BLB_merge_57 ?_
        refine j_aload_n F 2 d_BLB_merge_60 rfl ?_
        obtain ⟨hc1, q_35, hc2, hw⟩ := hw
        refine c_getr F K hT 1 4 rfl tu_LandBook (by decide) (by decide) rfl tq_441 (Or.inl rfl) hc1 hc2 d_BLB_merge_61 ?_
        refine j_iload_n F 3 d_BLB_merge_64 rfl ?_
        obtain ⟨hg1, hw⟩ := hw
        refine c_callVr F K hT (c_BRg_lot l hw) (tw_gV tq_508 tq_334 tq_335 tq_336 tq_337) 5 rfl (by decide) hg1 q_BRg_lot rfl ⟨by decide, by decide⟩ ⟨rm_z hc0, rm_z hn0⟩ rfl (Nat.le_of_ble_eq_true rfl) d_BLB_merge_65 (fun r_37 T_36 hw hT => ?_)
        obtain ⟨hc1, q_38, hc2, hw⟩ := hw
        refine c_getr F K hT 9 0 rfl tu_Lot (by decide) (by decide) rfl tq_509 (Or.inl rfl) hc1 hc2 d_BLB_merge_68 ?_
        refine j_aload_n F 2 d_BLB_merge_71 rfl ?_
        obtain ⟨hc1, q_39, hc2, hw⟩ := hw
        refine c_getr F K hT 1 4 rfl tu_LandBook (by decide) (by decide) rfl tq_441 (Or.inl rfl) hc1 hc2 d_BLB_merge_72 ?_
        refine j_iload_n F 4 d_BLB_merge_75 rfl ?_
        obtain ⟨hg1, hw⟩ := hw
        refine c_callVr F K hT (c_BRg_lot l hw) (tw_gV tq_508 tq_334 tq_335 tq_336 tq_337) 5 rfl (by decide) hg1 q_BRg_lot rfl ⟨by decide, by decide⟩ ⟨rm_z hc0, rm_z hn0⟩ rfl (Nat.le_of_ble_eq_true rfl) d_BLB_merge_76 (fun r_41 T_40 hw hT => ?_)
        obtain ⟨hc1, q_42, hc2, hw⟩ := hw
        refine c_getr F K hT 9 0 rfl tu_Lot (by decide) (by decide) rfl tq_509 (Or.inl rfl) hc1 hc2 d_BLB_merge_79 ?_
        obtain ⟨hg1, hw⟩ := hw
        refine c_callVi F K hT (c_BJo_join l hw) (tw_gV tq_537 tq_538 tq_539 tq_204 tq_540) 4 rfl (by decide) hg1 q_BJo_join rfl ⟨by decide, by decide⟩ ⟨rm_z hc0, rm_z hn0⟩ rfl (Nat.le_of_ble_eq_true rfl) d_BLB_merge_82 (fun r_44 T_43 hw hT => ?_)
        obtain ⟨hc1, hwt, hwf⟩ := hw
        refine j_if_eq F 101 hc1 d_BLB_merge_85 rfl (fun hh => ?_) (fun hh => ?_)
        · have hw := hwt hh
          refine j_bipush F d_BLB_merge_101 (j_bip (by decide) (by decide)) ?_
          exact hri _ _ _ _ _ _ rfl ⟨_, rfl, hw⟩ hT (rm_y hc0) (rm_y hn0) d_BLB_merge_103
        · have hw := hwf hh
          refine j_aload_n F 2 d_BLB_merge_88 rfl ?_
          obtain ⟨hc1, q_45, hc2, hw⟩ := hw
          refine c_getr F K hT 1 4 rfl tu_LandBook (by decide) (by decide) rfl tq_441 (Or.inl rfl) hc1 hc2 d_BLB_merge_89 ?_
          refine j_iload_n F 3 d_BLB_merge_92 rfl ?_
          refine j_iload_n F 4 d_BLB_merge_93 rfl ?_
          refine j_iload_n F 5 d_BLB_merge_94 rfl ?_
          obtain ⟨hg1, hw⟩ := hw
          refine c_callVi F K hT (c_BRg_haveEqualShares l hw) (tw_gV tq_541 tq_542 tq_543 tq_336 tq_544) 5 rfl (by decide) hg1 q_BRg_haveEqualShares rfl ⟨by decide, by decide⟩ ⟨rm_z hc0, rm_z hn0⟩ rfl (Nat.le_of_ble_eq_true rfl) d_BLB_merge_95 (fun r_47 T_46 hw hT => ?_)
          obtain ⟨hc1, hwt, hwf⟩ := hw
          refine j_if_ne F 104 hc1 d_BLB_merge_98 rfl (fun hh => ?_) (fun hh => ?_)
          · have hw := hwt hh
            refine j_iconst F d_BLB_merge_104 ?_
            obtain ⟨hr0, mc_50, ms_51, ⟨he1, he2⟩, hw⟩ := hw
            refine c_newa11 F K hT tq_118 hr0 (rm_l hc0 he1) (rm_l hn0 he2) d_BLB_merge_105 (fun q_48 T_49 e_q_48 e_T_49 hT => ?_)
            have hw := hw q_48 T_49 e_q_48 e_T_49
            have hc0 := rm_c hc0 he1
            have hn0 := rm_c hn0 he2
            refine j_dup F rfl d_BLB_merge_107 ?_
            refine j_iconst F d_BLB_merge_108 ?_
            refine j_iload_n F 3 d_BLB_merge_109 rfl ?_
            refine j_ldc (x := 65536) F tq_545 (by decide) d_BLB_merge_110 ?_
            refine j_imul F d_BLB_merge_112 ?_
            refine j_iload_n F 4 d_BLB_merge_113 rfl ?_
            refine j_iadd F d_BLB_merge_114 ?_
            obtain ⟨hc1, hc2, hw⟩ := hw
            refine c_iast F K hT hc1 hc2 d_BLB_merge_115 (fun T_52 e_T_52 hT => ?_)
            have hw := hw T_52 e_T_52
            refine j_astore F [(6, .ref q_48), (5, vi r_33), (4, .ref q_25), (0, .ref v0), (1, vi v1), (2, vi v2), (3, vi v3)] d_BLB_merge_116 (by decide) rfl ?_
            refine j_iconst F d_BLB_merge_118 ?_
            obtain ⟨hr0, mc_55, ms_56, ⟨he1, he2⟩, hw⟩ := hw
            refine c_newa14 F K hT tq_488 hr0 (rm_l hc0 he1) (rm_l hn0 he2) d_BLB_merge_119 (fun q_53 T_54 e_q_53 e_T_54 hT => ?_)
            have hw := hw q_53 T_54 e_q_53 e_T_54
            have hc0 := rm_c hc0 he1
            have hn0 := rm_c hn0 he2
            refine j_dup F rfl d_BLB_merge_122 ?_
            refine j_iconst F d_BLB_merge_123 ?_
            refine j_aload_n F 3 d_BLB_merge_124 rfl ?_
            obtain ⟨hc1, q_57, hc2, hw⟩ := hw
            refine c_getr F K hT 1 3 rfl tu_LandBook (by decide) (by decide) rfl tq_536 (Or.inl rfl) hc1 hc2 d_BLB_merge_125 ?_
            obtain ⟨hc1, q_58, hc2, hw⟩ := hw
            refine c_getr F K hT 4 4 rfl tu_Joiner (by decide) (by decide) rfl tq_546 (Or.inl rfl) hc1 hc2 d_BLB_merge_128 ?_
            obtain ⟨hc1, hc2, hc3, hw⟩ := hw
            refine c_aast14 F K hT hc1 hc2 2 hc3 (by decide) rfl rfl d_BLB_merge_131 (fun T_59 e_T_59 hT => ?_)
            have hw := hw T_59 e_T_59
            refine j_astore F [(7, .ref q_53), (6, .ref q_48), (5, vi r_33), (4, .ref q_25), (0, .ref v0), (1, vi v1), (2, vi v2), (3, vi v3)] d_BLB_merge_132 (by decide) rfl ?_
            refine j_aload_n F 4 d_BLB_merge_134 rfl ?_
            refine j_aload F 0 d_BLB_merge_135 rfl ?_
            obtain ⟨hc1, hw⟩ := hw
            refine c_alen14 F K hT hc1 d_BLB_merge_137 ?_
            refine j_iconst F d_BLB_merge_138 ?_
            refine j_aload F 1 d_BLB_merge_139 rfl ?_
            obtain ⟨hg1, hw⟩ := hw
            refine c_callVi F K hT (c_BLB_isFull l hw) (tw_gV tq_516 tq_517 tq_518 tq_473 tq_519) 1 rfl (by decide) hg1 q_BLB_isFull rfl ⟨by decide, by decide⟩ ⟨rm_z hc0, rm_z hn0⟩ rfl (Nat.le_of_ble_eq_true rfl) d_BLB_merge_141 (fun r_61 T_60 hw hT => ?_)
            obtain ⟨hc1, hwt, hwf⟩ := hw
            refine j_if_ne F 155 hc1 d_BLB_merge_144 rfl (fun hh => ?_) (fun hh => ?_)
            · have hw := hwt hh
              refine j_bipush F d_BLB_merge_155 (j_bip (by decide) (by decide)) ?_
              exact hri _ _ _ _ _ _ rfl ⟨_, rfl, hw⟩ hT (rm_y hc0) (rm_y hn0) d_BLB_merge_157
            · have hw := hwf hh
              refine j_aload F 0 d_BLB_merge_147 rfl ?_
              refine c_callSi F K hT (c_BLB_haveTooManyCorners l hw) (tw_gS tq_520 tq_521 tq_473 tq_522) q_BLB_haveTooManyCorners rfl ⟨by decide, by decide⟩ ⟨rm_z hc0, rm_z hn0⟩ rfl (Nat.le_of_ble_eq_true rfl) d_BLB_merge_149 (fun r_63 T_62 hw hT => ?_)
              obtain ⟨hc1, hwt, hwf⟩ := hw
              refine j_if_eq F 158 hc1 d_BLB_merge_152 rfl (fun hh => ?_) (fun hh => ?_)
              · have hw := hwt hh
                refine j_aload_n F 4 d_BLB_merge_158 rfl ?_
                obtain ⟨mc_66, ms_67, ⟨he1, he2⟩, hw⟩ := hw
                refine c_new F K hT 8 rfl tu_Deed t_Deed t_Deed_ok (by decide) rfl (by decide) tq_523 tq_524 tq_293 (rm_l hc0 he1) (rm_l hn0 he2) d_BLB_merge_159 (fun q_64 T_65 e_q_64 e_T_65 hT => ?_)
                have hw := hw q_64 T_65 e_q_64 e_T_65
                have hc0 := rm_c hc0 he1
                have hn0 := rm_c hn0 he2
                refine j_dup F rfl d_BLB_merge_162 ?_
                refine j_iconst F d_BLB_merge_163 ?_
                refine j_iload_n F 7 d_BLB_merge_164 rfl ?_
                refine j_aload F 3 d_BLB_merge_165 rfl ?_
                refine c_callIv F K hT (c_BDe_init3 l hw) tq_525 tq_293 tq_526 tq_527 rfl q_BDe_init3 rfl ⟨by decide, by decide⟩ ⟨rm_z hc0, rm_z hn0⟩ rfl (Nat.le_of_ble_eq_true rfl) d_BLB_merge_167 (fun T_68 hw hT => ?_)
                refine j_aload F 1 d_BLB_merge_170 rfl ?_
                obtain ⟨mc_72, ms_73, mc_74, ms_75, ⟨he1, he2⟩, hw⟩ := hw
                obtain ⟨hg1, hw⟩ := hw
                refine c_callVi F K hT (c_BLB_enter l hw) (tw_gV tq_528 tq_529 tq_530 tq_473 tq_531) 1 rfl (by decide) hg1 q_BLB_enter rfl ⟨by decide, by decide⟩ ⟨rm_l hc0 he1, rm_l hn0 he2⟩ rfl (Nat.le_of_ble_eq_true rfl) d_BLB_merge_172 (fun r_71 T_70 hw hT => ?_)
                have hc0 := rm_c hc0 he1
                have hn0 := rm_c hn0 he2
                refine j_pop F rfl d_BLB_merge_175 ?_
                refine j_aload_n F 4 d_BLB_merge_176 rfl ?_
                obtain ⟨hc1, q_76, hc2, hw⟩ := hw
                refine c_getr F K hT 1 4 rfl tu_LandBook (by decide) (by decide) rfl tq_441 (Or.inl rfl) hc1 hc2 d_BLB_merge_177 ?_
                refine j_aload F 0 d_BLB_merge_180 rfl ?_
                obtain ⟨mc_79, ms_80, mc_81, ms_82, ⟨he1, he2⟩, hw⟩ := hw
                obtain ⟨hg1, hw⟩ := hw
                refine c_callVi F K hT (c_BRg_replaceLots l hw) (tw_gV tq_532 tq_533 tq_534 tq_336 tq_535) 5 rfl (by decide) hg1 q_BRg_replaceLots rfl ⟨by decide, by decide⟩ ⟨rm_l hc0 he1, rm_l hn0 he2⟩ rfl (Nat.le_of_ble_eq_true rfl) d_BLB_merge_182 (fun r_78 T_77 hw hT => ?_)
                have hc0 := rm_c hc0 he1
                have hn0 := rm_c hn0 he2
                exact hri _ _ _ _ _ _ rfl ⟨_, rfl, hw⟩ hT (rm_y hc0) (rm_y hn0) d_BLB_merge_185
              · have hw := hwf hh
                refine j_bipush F d_BLB_merge_155 (j_bip (by decide) (by decide)) ?_
                exact hri _ _ _ _ _ _ rfl ⟨_, rfl, hw⟩ hT (rm_y hc0) (rm_y hn0) d_BLB_merge_157
          · have hw := hwf hh
            refine j_bipush F d_BLB_merge_101 (j_bip (by decide) (by decide)) ?_
            exact hri _ _ _ _ _ _ rfl ⟨_, rfl, hw⟩ hT (rm_y hc0) (rm_y hn0) d_BLB_merge_103
    · have hw := hwf hh
      refine j_iload F 0 d_BLB_merge_48 rfl ?_
      exact hri _ _ _ _ _ _ rfl ⟨_, rfl, hw⟩ hT (rm_y hc0) (rm_y hn0) d_BLB_merge_50
  exact key mc ms 0 0 rfl rfl rfl rfl (Nat.zero_add _) (Nat.zero_add _)
