theorem tq_585 : (Jvm.Cond.methodLink "LandBook" (232 : Nat) ({ cls := "LandBook", name := "checkRelative", desc := "(I)V" } : Jvm.MethodName)) ∈ tw_G := tw_in (List.mem_of_getElem? (i := 940) (by decide +kernel)) rfl
theorem tq_586 : (Jvm.Cond.static ({ cls := "LandBook", name := "checkRelative", desc := "(I)V" } : Jvm.MethodName)) ∈ tw_G := tw_in (List.mem_of_getElem? (i := 941) (by decide +kernel)) rfl
theorem tq_587 : (Jvm.Cond.code ({ cls := "LandBook", name := "checkRelative", desc := "(I)V" } : Jvm.MethodName) prog_1_method_26_code (1 : Nat) (Option.none : Option Jvm.ClassFile.FieldType)) ∈ tw_G := tw_in (List.mem_of_getElem? (i := 942) (by decide +kernel)) rfl
theorem tq_588 : (Jvm.Cond.fieldLink "LandBook" (235 : Nat) "LandBook$Lot" "began" "I") ∈ tw_G := tw_in (List.mem_of_getElem? (i := 460) (by decide +kernel)) rfl
theorem tq_589 : (Jvm.Cond.methodLink "LandBook" (238 : Nat) ({ cls := "LandBook$Register", name := "changedBy", desc := "(IZI)I" } : Jvm.MethodName)) ∈ tw_G := tw_in (List.mem_of_getElem? (i := 944) (by decide +kernel)) rfl
theorem tq_590 : (Jvm.Cond.instanceMethod ({ cls := "LandBook$Register", name := "changedBy", desc := "(IZI)I" } : Jvm.MethodName)) ∈ tw_G := tw_in (List.mem_of_getElem? (i := 945) (by decide +kernel)) rfl
theorem tq_591 : (Jvm.Cond.selects "LandBook$Register" ({ cls := "LandBook$Register", name := "changedBy", desc := "(IZI)I" } : Jvm.MethodName) ({ cls := "LandBook$Register", name := "changedBy", desc := "(IZI)I" } : Jvm.MethodName)) ∈ tw_G := tw_in (List.mem_of_getElem? (i := 946) (by decide +kernel)) rfl
theorem tq_592 : (Jvm.Cond.code ({ cls := "LandBook$Register", name := "changedBy", desc := "(IZI)I" } : Jvm.MethodName) prog_10_method_24_code (7 : Nat) (Option.some Jvm.ClassFile.FieldType.int)) ∈ tw_G := tw_in (List.mem_of_getElem? (i := 947) (by decide +kernel)) rfl
abbrev y_BLB_parent : MethodName := ⟨"LandBook", "parent", "(II)I"⟩
theorem q_BLB_parent : y_BLB_parent.cls = "LandBook" ∧ y_BLB_parent.cls ≠ "java/lang/invoke/MethodHandle" ∧ y_BLB_parent.cls ≠ "java/lang/invoke/VarHandle" ∧ (parseMethodDescriptor y_BLB_parent.desc).map (fun d => d.parameters.length) = some 2 := by decide +kernel
theorem d_BLB_parent_0 : decode prog_1_method_14_code 0 = .ok (.aload_n 0, 1) := by decide +kernel
theorem d_BLB_parent_1 : decode prog_1_method_14_code 1 = .ok (.invokevirtual 99, 3) := by decide +kernel
theorem d_BLB_parent_4 : decode prog_1_method_14_code 4 = .ok (.aload_n 0, 1) := by decide +kernel
theorem d_BLB_parent_5 : decode prog_1_method_14_code 5 = .ok (.iload_n 1, 1) := by decide +kernel
theorem d_BLB_parent_6 : decode prog_1_method_14_code 6 = .ok (.invokevirtual 102, 3) := by decide +kernel
theorem d_BLB_parent_9 : decode prog_1_method_14_code 9 = .ok (.iload_n 2, 1) := by decide +kernel
theorem d_BLB_parent_10 : decode prog_1_method_14_code 10 = .ok (.invokestatic 232, 3) := by decide +kernel
theorem d_BLB_parent_13 : decode prog_1_method_14_code 13 = .ok (.aload_n 0, 1) := by decide +kernel
theorem d_BLB_parent_14 : decode prog_1_method_14_code 14 = .ok (.getfield 38, 3) := by decide +kernel
theorem d_BLB_parent_17 : decode prog_1_method_14_code 17 = .ok (.aload_n 0, 1) := by decide +kernel
theorem d_BLB_parent_18 : decode prog_1_method_14_code 18 = .ok (.getfield 38, 3) := by decide +kernel
theorem d_BLB_parent_21 : decode prog_1_method_14_code 21 = .ok (.iload_n 1, 1) := by decide +kernel
theorem d_BLB_parent_22 : decode prog_1_method_14_code 22 = .ok (.invokevirtual 112, 3) := by decide +kernel
theorem d_BLB_parent_25 : decode prog_1_method_14_code 25 = .ok (.getfield 235, 3) := by decide +kernel
theorem d_BLB_parent_28 : decode prog_1_method_14_code 28 = .ok (.iconst 1, 1) := by decide +kernel
theorem d_BLB_parent_29 : decode prog_1_method_14_code 29 = .ok (.iload_n 2, 1) := by decide +kernel
theorem d_BLB_parent_30 : decode prog_1_method_14_code 30 = .ok (.invokevirtual 238, 3) := by decide +kernel
theorem d_BLB_parent_33 : decode prog_1_method_14_code 33 = .ok (.ireturn, 1) := by decide +kernel
def wp_BLB_parent (post : Int → CS → Prop) (pe : String → CS → Prop) (mc0 ms0 : Nat) (v0 : Nat) (v1 : Int) (v2 : Int) (T : CS) : Prop := ∃ mc_3 ms_4 mc_5 ms_6 : Nat, (mc0 = mc_3 + mc_5 ∧ ms0 = ms_4 + ms_6) ∧ tg T v0 = 1 ∧ wp_BLB_checkUp (fun T_1 => ∃ mc_9 ms_10 mc_11 ms_12 : Nat, (mc_5 = mc_9 + mc_11 ∧ ms_6 = ms_10 + ms_12) ∧ tg T_1 v0 = 1 ∧ wp_BLB_checkLot (fun T_7 => ∃ mc_15 ms_16 mc_17 ms_18 : Nat, (mc_11 = mc_15 + mc_17 ∧ ms_12 = ms_16 + ms_18) ∧ wp_BLB_checkRelative (fun T_13 => tg T_13 v0 = 1 ∧ ∃ q_19 : Nat, fo T_13 v0 4 = some q_19 ∧ (tg T_13 v0 = 1 ∧ ∃ q_20 : Nat, fo T_13 v0 4 = some q_20 ∧ (tg T_13 q_20 = 5 ∧ wp_BRg_lot (fun r_22 T_21 => tg T_21 r_22 = 9 ∧ (tg T_21 q_19 = 5 ∧ wp_BRg_changedBy (fun r_24 T_23 => post r_24 T_23) q_19 (fi T_21 r_22 1) 1 v2 T_21)) q_20 v1 T_13))) pe mc_15 ms_16 v2 T_7) pe mc_9 ms_10 v0 v1 T_1) pe mc_3 ms_4 v0 T
set_option maxHeartbeats 4000000 in
set_option maxRecDepth 100000 in
theorem c_BLB_parent (l : Launch) (hfl : l.flags = pinnedFlags ++ [noTraceFlag]) {D : va_G} {k : CK} {post : Int → CS → Prop} {pe : String → CS → Prop} {mc ms : Nat} {v0 : Nat} {v1 : Int} {v2 : Int} {T : CS} (hw : wp_BLB_parent post pe mc ms v0 v1 v2 T) : jE l D k y_BLB_parent prog_1_method_14_code 3 (some .int) 7 111 mc ms T [.ref v0, vi v1, vi v2] (rtI post) pe := by
  refine j_eo hfl (by decide) rfl (Nat.le_of_ble_eq_true rfl) (by decide) (by decide) (fun X F K E hT Pr hthr hri hrz hrv => ?_)
  unfold wp_BLB_parent at hw
  have key : ∀ (mc0 ms0 c0 n0 : Nat), mc0 = mc → ms0 = ms → c0 = 0 → n0 = 0 → c0 + mc0 = mc → n0 + ms0 = ms → jat l D X 3 0 [(0, .ref v0), (1, vi v1), (2, vi v2)] [] (cwd k T) c0 n0 := by
    intro mc0 ms0 c0 n0 hm1 hm2 hz1 hz2 hc0 hn0
    subst hm1; subst hm2
    clear hz1 hz2
    refine j_aload_n F 0 d_BLB_parent_0 rfl ?_
    obtain ⟨mc_3, ms_4, mc_5, ms_6, ⟨he1, he2⟩, hw⟩ := hw
    obtain ⟨hg1, hw⟩ := hw
    refine e_callV F K E Pr hT (c_BLB_checkUp l hfl hw) (tw_gV tq_495 tq_496 tq_497 tq_473 tq_498) hg1 q_BLB_checkUp rfl ⟨by decide, by decide⟩ ⟨rm_l hc0 he1, rm_l hn0 he2⟩ rfl (Nat.le_of_ble_eq_true rfl) d_BLB_parent_1 (fun ov T_1 hw hT => ?_)
    obtain ⟨rfl, hw⟩ := hw
    have hc0 := rm_c hc0 he1
    have hn0 := rm_c hn0 he2
    refine j_aload_n F 0 d_BLB_parent_4 rfl ?_
    refine j_iload_n F 1 d_BLB_parent_5 rfl ?_
    obtain ⟨mc_9, ms_10, mc_11, ms_12, ⟨he1, he2⟩, hw⟩ := hw
    obtain ⟨hg1, hw⟩ := hw
    refine e_callV F K E Pr hT (c_BLB_checkLot l hfl hw) (tw_gV tq_499 tq_500 tq_501 tq_473 tq_502) hg1 q_BLB_checkLot rfl ⟨by decide, by decide⟩ ⟨rm_l hc0 he1, rm_l hn0 he2⟩ rfl (Nat.le_of_ble_eq_true rfl) d_BLB_parent_6 (fun ov T_7 hw hT => ?_)
    obtain ⟨rfl, hw⟩ := hw
    have hc0 := rm_c hc0 he1
    have hn0 := rm_c hn0 he2
    refine j_iload_n F 2 d_BLB_parent_9 rfl ?_
    obtain ⟨mc_15, ms_16, mc_17, ms_18, ⟨he1, he2⟩, hw⟩ := hw
    refine e_callS F K E Pr hT (c_BLB_checkRelative l hfl hw) (tw_gS tq_585 tq_586 tq_473 tq_587) q_BLB_checkRelative rfl ⟨by decide, by decide⟩ ⟨rm_l hc0 he1, rm_l hn0 he2⟩ rfl (Nat.le_of_ble_eq_true rfl) d_BLB_parent_10 (fun ov T_13 hw hT => ?_)
    obtain ⟨rfl, hw⟩ := hw
    have hc0 := rm_c hc0 he1
    have hn0 := rm_c hn0 he2
    refine j_aload_n F 0 d_BLB_parent_13 rfl ?_
    obtain ⟨hc1, q_19, hc2, hw⟩ := hw
    refine c_getr F K hT 1 4 rfl tu_LandBook (by decide) (by decide) rfl tq_441 (Or.inl rfl) hc1 hc2 d_BLB_parent_14 ?_
    refine j_aload_n F 0 d_BLB_parent_17 rfl ?_
    obtain ⟨hc1, q_20, hc2, hw⟩ := hw
    refine c_getr F K hT 1 4 rfl tu_LandBook (by decide) (by decide) rfl tq_441 (Or.inl rfl) hc1 hc2 d_BLB_parent_18 ?_
    refine j_iload_n F 1 d_BLB_parent_21 rfl ?_
    obtain ⟨hg1, hw⟩ := hw
    refine c_callVr F K hT (c_BRg_lot l hw) (tw_gV tq_508 tq_334 tq_335 tq_336 tq_337) 5 rfl (by decide) hg1 q_BRg_lot rfl ⟨by decide, by decide⟩ ⟨rm_z hc0, rm_z hn0⟩ rfl (Nat.le_of_ble_eq_true rfl) d_BLB_parent_22 (fun r_22 T_21 hw hT => ?_)
    obtain ⟨hc1, hw⟩ := hw
    refine c_geti F K hT 9 1 rfl tu_Lot (by decide) (by decide) rfl tq_588 (Or.inl rfl) hc1 d_BLB_parent_25 ?_
    refine j_iconst F d_BLB_parent_28 ?_
    refine j_iload_n F 2 d_BLB_parent_29 rfl ?_
    obtain ⟨hg1, hw⟩ := hw
    refine c_callVi F K hT (c_BRg_changedBy l hw) (tw_gV tq_589 tq_590 tq_591 tq_336 tq_592) 5 rfl (by decide) hg1 q_BRg_changedBy rfl ⟨by decide, by decide⟩ ⟨rm_z hc0, rm_z hn0⟩ rfl (Nat.le_of_ble_eq_true rfl) d_BLB_parent_30 (fun r_24 T_23 hw hT => ?_)
    exact hri _ _ _ _ _ _ rfl ⟨_, rfl, hw⟩ hT (rm_y hc0) (rm_y hn0) d_BLB_parent_33
  exact key mc ms 0 0 rfl rfl rfl rfl (Nat.zero_add _) (Nat.zero_add _)
theorem tq_593 : (Jvm.Cond.fieldLink "LandBook" (242 : Nat) "LandBook$Lot" "ended" "I") ∈ tw_G := tw_in (List.mem_of_getElem? (i := 465) (by decide +kernel)) rfl
abbrev y_BLB_child : MethodName := ⟨"LandBook", "child", "(II)I"⟩
theorem q_BLB_child : y_BLB_child.cls = "LandBook" ∧ y_BLB_child.cls ≠ "java/lang/invoke/MethodHandle" ∧ y_BLB_child.cls ≠ "java/lang/invoke/VarHandle" ∧ (parseMethodDescriptor y_BLB_child.desc).map (fun d => d.parameters.length) = some 2 := by decide +kernel
theorem d_BLB_child_0 : decode prog_1_method_15_code 0 = .ok (.aload_n 0, 1) := by decide +kernel
theorem d_BLB_child_1 : decode prog_1_method_15_code 1 = .ok (.invokevirtual 99, 3) := by decide +kernel
theorem d_BLB_child_4 : decode prog_1_method_15_code 4 = .ok (.aload_n 0, 1) := by decide +kernel
theorem d_BLB_child_5 : decode prog_1_method_15_code 5 = .ok (.iload_n 1, 1) := by decide +kernel
theorem d_BLB_child_6 : decode prog_1_method_15_code 6 = .ok (.invokevirtual 102, 3) := by decide +kernel
theorem d_BLB_child_9 : decode prog_1_method_15_code 9 = .ok (.iload_n 2, 1) := by decide +kernel
theorem d_BLB_child_10 : decode prog_1_method_15_code 10 = .ok (.invokestatic 232, 3) := by decide +kernel
theorem d_BLB_child_13 : decode prog_1_method_15_code 13 = .ok (.aload_n 0, 1) := by decide +kernel
theorem d_BLB_child_14 : decode prog_1_method_15_code 14 = .ok (.getfield 38, 3) := by decide +kernel
theorem d_BLB_child_17 : decode prog_1_method_15_code 17 = .ok (.aload_n 0, 1) := by decide +kernel
theorem d_BLB_child_18 : decode prog_1_method_15_code 18 = .ok (.getfield 38, 3) := by decide +kernel
theorem d_BLB_child_21 : decode prog_1_method_15_code 21 = .ok (.iload_n 1, 1) := by decide +kernel
theorem d_BLB_child_22 : decode prog_1_method_15_code 22 = .ok (.invokevirtual 112, 3) := by decide +kernel
theorem d_BLB_child_25 : decode prog_1_method_15_code 25 = .ok (.getfield 242, 3) := by decide +kernel
theorem d_BLB_child_28 : decode prog_1_method_15_code 28 = .ok (.iconst 0, 1) := by decide +kernel
theorem d_BLB_child_29 : decode prog_1_method_15_code 29 = .ok (.iload_n 2, 1) := by decide +kernel
theorem d_BLB_child_30 : decode prog_1_method_15_code 30 = .ok (.invokevirtual 238, 3) := by decide +kernel
theorem d_BLB_child_33 : decode prog_1_method_15_code 33 = .ok (.ireturn, 1) := by decide +kernel
def wp_BLB_child (post : Int → CS → Prop) (pe : String → CS → Prop) (mc0 ms0 : Nat) (v0 : Nat) (v1 : Int) (v2 : Int) (T : CS) : Prop := ∃ mc_3 ms_4 mc_5 ms_6 : Nat, (mc0 = mc_3 + mc_5 ∧ ms0 = ms_4 + ms_6) ∧ tg T v0 = 1 ∧ wp_BLB_checkUp (fun T_1 => ∃ mc_9 ms_10 mc_11 ms_12 : Nat, (mc_5 = mc_9 + mc_11 ∧ ms_6 = ms_10 + ms_12) ∧ tg T_1 v0 = 1 ∧ wp_BLB_checkLot (fun T_7 => ∃ mc_15 ms_16 mc_17 ms_18 : Nat, (mc_11 = mc_15 + mc_17 ∧ ms_12 = ms_16 + ms_18) ∧ wp_BLB_checkRelative (fun T_13 => tg T_13 v0 = 1 ∧ ∃ q_19 : Nat, fo T_13 v0 4 = some q_19 ∧ (tg T_13 v0 = 1 ∧ ∃ q_20 : Nat, fo T_13 v0 4 = some q_20 ∧ (tg T_13 q_20 = 5 ∧ wp_BRg_lot (fun r_22 T_21 => tg T_21 r_22 = 9 ∧ (tg T_21 q_19 = 5 ∧ wp_BRg_changedBy (fun r_24 T_23 => post r_24 T_23) q_19 (fi T_21 r_22 4) 0 v2 T_21)) q_20 v1 T_13))) pe mc_15 ms_16 v2 T_7) pe mc_9 ms_10 v0 v1 T_1) pe mc_3 ms_4 v0 T
set_option maxHeartbeats 4000000 in
set_option maxRecDepth 100000 in
theorem c_BLB_child (l : Launch) (hfl : l.flags = pinnedFlags ++ [noTraceFlag]) {D : va_G} {k : CK} {post : Int → CS → Prop} {pe : String → CS → Prop} {mc ms : Nat} {v0 : Nat} {v1 : Int} {v2 : Int} {T : CS} (hw : wp_BLB_child post pe mc ms v0 v1 v2 T) : jE l D k y_BLB_child prog_1_method_15_code 3 (some .int) 7 111 mc ms T [.ref v0, vi v1, vi v2] (rtI post) pe := by
  refine j_eo hfl (by decide) rfl (Nat.le_of_ble_eq_true rfl) (by decide) (by decide) (fun X F K E hT Pr hthr hri hrz hrv => ?_)
  unfold wp_BLB_child at hw
  have key : ∀ (mc0 ms0 c0 n0 : Nat), mc0 = mc → ms0 = ms → c0 = 0 → n0 = 0 → c0 + mc0 = mc → n0 + ms0 = ms → jat l D X 3 0 [(0, .ref v0), (1, vi v1), (2, vi v2)] [] (cwd k T) c0 n0 := by
    intro mc0 ms0 c0 n0 hm1 hm2 hz1 hz2 hc0 hn0
    subst hm1; subst hm2
    clear hz1 hz2
    refine j_aload_n F 0 d_BLB_child_0 rfl ?_
    obtain ⟨mc_3, ms_4, mc_5, ms_6, ⟨he1, he2⟩, hw⟩ := hw
    obtain ⟨hg1, hw⟩ := hw
    refine e_callV F K E Pr hT (c_BLB_checkUp l hfl hw) (tw_gV tq_495 tq_496 tq_497 tq_473 tq_498) hg1 q_BLB_checkUp rfl ⟨by decide, by decide⟩ ⟨rm_l hc0 he1, rm_l hn0 he2⟩ rfl (Nat.le_of_ble_eq_true rfl) d_BLB_child_1 (fun ov T_1 hw hT => ?_)
    obtain ⟨rfl, hw⟩ := hw
    have hc0 := rm_c hc0 he1
    have hn0 := rm_c hn0 he2
    refine j_aload_n F 0 d_BLB_child_4 rfl ?_
    refine j_iload_n F 1 d_BLB_child_5 rfl ?_
    obtain ⟨mc_9, ms_10, mc_11, ms_12, ⟨he1, he2⟩, hw⟩ := hw
    obtain ⟨hg1, hw⟩ := hw
    refine e_callV F K E Pr hT (c_BLB_checkLot l hfl hw) (tw_gV tq_499 tq_500 tq_501 tq_473 tq_502) hg1 q_BLB_checkLot rfl ⟨by decide, by decide⟩ ⟨rm_l hc0 he1, rm_l hn0 he2⟩ rfl (Nat.le_of_ble_eq_true rfl) d_BLB_child_6 (fun ov T_7 hw hT => ?_)
    obtain ⟨rfl, hw⟩ := hw
    have hc0 := rm_c hc0 he1
    have hn0 := rm_c hn0 he2
    refine j_iload_n F 2 d_BLB_child_9 rfl ?_
    obtain ⟨mc_15, ms_16, mc_17, ms_18, ⟨he1, he2⟩, hw⟩ := hw
    refine e_callS F K E Pr hT (c_BLB_checkRelative l hfl hw) (tw_gS tq_585 tq_586 tq_473 tq_587) q_BLB_checkRelative rfl ⟨by decide, by decide⟩ ⟨rm_l hc0 he1, rm_l hn0 he2⟩ rfl (Nat.le_of_ble_eq_true rfl) d_BLB_child_10 (fun ov T_13 hw hT => ?_)
    obtain ⟨rfl, hw⟩ := hw
    have hc0 := rm_c hc0 he1
    have hn0 := rm_c hn0 he2
    refine j_aload_n F 0 d_BLB_child_13 rfl ?_
    obtain ⟨hc1, q_19, hc2, hw⟩ := hw
    refine c_getr F K hT 1 4 rfl tu_LandBook (by decide) (by decide) rfl tq_441 (Or.inl rfl) hc1 hc2 d_BLB_child_14 ?_
    refine j_aload_n F 0 d_BLB_child_17 rfl ?_
    obtain ⟨hc1, q_20, hc2, hw⟩ := hw
    refine c_getr F K hT 1 4 rfl tu_LandBook (by decide) (by decide) rfl tq_441 (Or.inl rfl) hc1 hc2 d_BLB_child_18 ?_
    refine j_iload_n F 1 d_BLB_child_21 rfl ?_
    obtain ⟨hg1, hw⟩ := hw
    refine c_callVr F K hT (c_BRg_lot l hw) (tw_gV tq_508 tq_334 tq_335 tq_336 tq_337) 5 rfl (by decide) hg1 q_BRg_lot rfl ⟨by decide, by decide⟩ ⟨rm_z hc0, rm_z hn0⟩ rfl (Nat.le_of_ble_eq_true rfl) d_BLB_child_22 (fun r_22 T_21 hw hT => ?_)
    obtain ⟨hc1, hw⟩ := hw
    refine c_geti F K hT 9 4 rfl tu_Lot (by decide) (by decide) rfl tq_593 (Or.inl rfl) hc1 d_BLB_child_25 ?_
    refine j_iconst F d_BLB_child_28 ?_
    refine j_iload_n F 2 d_BLB_child_29 rfl ?_
    obtain ⟨hg1, hw⟩ := hw
    refine c_callVi F K hT (c_BRg_changedBy l hw) (tw_gV tq_589 tq_590 tq_591 tq_336 tq_592) 5 rfl (by decide) hg1 q_BRg_changedBy rfl ⟨by decide, by decide⟩ ⟨rm_z hc0, rm_z hn0⟩ rfl (Nat.le_of_ble_eq_true rfl) d_BLB_child_30 (fun r_24 T_23 hw hT => ?_)
    exact hri _ _ _ _ _ _ rfl ⟨_, rfl, hw⟩ hT (rm_y hc0) (rm_y hn0) d_BLB_child_33
  exact key mc ms 0 0 rfl rfl rfl rfl (Nat.zero_add _) (Nat.zero_add _)
abbrev y_BLB_corners : MethodName := ⟨"LandBook", "corners", "(I)I"⟩
theorem q_BLB_corners : y_BLB_corners.cls = "LandBook" ∧ y_BLB_corners.cls ≠ "java/lang/invoke/MethodHandle" ∧ y_BLB_corners.cls ≠ "java/lang/invoke/VarHandle" ∧ (parseMethodDescriptor y_BLB_corners.desc).map (fun d => d.parameters.length) = some 1 := by decide +kernel
theorem d_BLB_corners_0 : decode prog_1_method_16_code 0 = .ok (.aload_n 0, 1) := by decide +kernel
theorem d_BLB_corners_1 : decode prog_1_method_16_code 1 = .ok (.invokevirtual 99, 3) := by decide +kernel
theorem d_BLB_corners_4 : decode prog_1_method_16_code 4 = .ok (.aload_n 0, 1) := by decide +kernel
theorem d_BLB_corners_5 : decode prog_1_method_16_code 5 = .ok (.iload_n 1, 1) := by decide +kernel
theorem d_BLB_corners_6 : decode prog_1_method_16_code 6 = .ok (.invokevirtual 102, 3) := by decide +kernel
theorem d_BLB_corners_9 : decode prog_1_method_16_code 9 = .ok (.aload_n 0, 1) := by decide +kernel
theorem d_BLB_corners_10 : decode prog_1_method_16_code 10 = .ok (.getfield 38, 3) := by decide +kernel
theorem d_BLB_corners_13 : decode prog_1_method_16_code 13 = .ok (.iload_n 1, 1) := by decide +kernel
theorem d_BLB_corners_14 : decode prog_1_method_16_code 14 = .ok (.invokevirtual 112, 3) := by decide +kernel
theorem d_BLB_corners_17 : decode prog_1_method_16_code 17 = .ok (.getfield 116, 3) := by decide +kernel
theorem d_BLB_corners_20 : decode prog_1_method_16_code 20 = .ok (.getfield 53, 3) := by decide +kernel
theorem d_BLB_corners_23 : decode prog_1_method_16_code 23 = .ok (.ireturn, 1) := by decide +kernel
def wp_BLB_corners (post : Int → CS → Prop) (pe : String → CS → Prop) (mc0 ms0 : Nat) (v0 : Nat) (v1 : Int) (T : CS) : Prop := ∃ mc_3 ms_4 mc_5 ms_6 : Nat, (mc0 = mc_3 + mc_5 ∧ ms0 = ms_4 + ms_6) ∧ tg T v0 = 1 ∧ wp_BLB_checkUp (fun T_1 => ∃ mc_9 ms_10 mc_11 ms_12 : Nat, (mc_5 = mc_9 + mc_11 ∧ ms_6 = ms_10 + ms_12) ∧ tg T_1 v0 = 1 ∧ wp_BLB_checkLot (fun T_7 => tg T_7 v0 = 1 ∧ ∃ q_13 : Nat, fo T_7 v0 4 = some q_13 ∧ (tg T_7 q_13 = 5 ∧ wp_BRg_lot (fun r_15 T_14 => tg T_14 r_15 = 9 ∧ ∃ q_16 : Nat, fo T_14 r_15 0 = some q_16 ∧ (tg T_14 q_16 = 2 ∧ (post (fi T_14 q_16 1) T_14))) q_13 v1 T_7)) pe mc_9 ms_10 v0 v1 T_1) pe mc_3 ms_4 v0 T
set_option maxHeartbeats 4000000 in
set_option maxRecDepth 100000 in
theorem c_BLB_corners (l : Launch) (hfl : l.flags = pinnedFlags ++ [noTraceFlag]) {D : va_G} {k : CK} {post : Int → CS → Prop} {pe : String → CS → Prop} {mc ms : Nat} {v0 : Nat} {v1 : Int} {T : CS} (hw : wp_BLB_corners post pe mc ms v0 v1 T) : jE l D k y_BLB_corners prog_1_method_16_code 2 (some .int) 7 103 mc ms T [.ref v0, vi v1] (rtI post) pe := by
  refine j_eo hfl (by decide) rfl (Nat.le_of_ble_eq_true rfl) (by decide) (by decide) (fun X F K E hT Pr hthr hri hrz hrv => ?_)
  unfold wp_BLB_corners at hw
  have key : ∀ (mc0 ms0 c0 n0 : Nat), mc0 = mc → ms0 = ms → c0 = 0 → n0 = 0 → c0 + mc0 = mc → n0 + ms0 = ms → jat l D X 2 0 [(0, .ref v0), (1, vi v1)] [] (cwd k T) c0 n0 := by
    intro mc0 ms0 c0 n0 hm1 hm2 hz1 hz2 hc0 hn0
    subst hm1; subst hm2
    clear hz1 hz2
    refine j_aload_n F 0 d_BLB_corners_0 rfl ?_
    obtain ⟨mc_3, ms_4, mc_5, ms_6, ⟨he1, he2⟩, hw⟩ := hw
    obtain ⟨hg1, hw⟩ := hw
    refine e_callV F K E Pr hT (c_BLB_checkUp l hfl hw) (tw_gV tq_495 tq_496 tq_497 tq_473 tq_498) hg1 q_BLB_checkUp rfl ⟨by decide, by decide⟩ ⟨rm_l hc0 he1, rm_l hn0 he2⟩ rfl (Nat.le_of_ble_eq_true rfl) d_BLB_corners_1 (fun ov T_1 hw hT => ?_)
    obtain ⟨rfl, hw⟩ := hw
    have hc0 := rm_c hc0 he1
    have hn0 := rm_c hn0 he2
    refine j_aload_n F 0 d_BLB_corners_4 rfl ?_
    refine j_iload_n F 1 d_BLB_corners_5 rfl ?_
    obtain ⟨mc_9, ms_10, mc_11, ms_12, ⟨he1, he2⟩, hw⟩ := hw
    obtain ⟨hg1, hw⟩ := hw
    refine e_callV F K E Pr hT (c_BLB_checkLot l hfl hw) (tw_gV tq_499 tq_500 tq_501 tq_473 tq_502) hg1 q_BLB_checkLot rfl ⟨by decide, by decide⟩ ⟨rm_l hc0 he1, rm_l hn0 he2⟩ rfl (Nat.le_of_ble_eq_true rfl) d_BLB_corners_6 (fun ov T_7 hw hT => ?_)
    obtain ⟨rfl, hw⟩ := hw
    have hc0 := rm_c hc0 he1
    have hn0 := rm_c hn0 he2
    refine j_aload_n F 0 d_BLB_corners_9 rfl ?_
    obtain ⟨hc1, q_13, hc2, hw⟩ := hw
    refine c_getr F K hT 1 4 rfl tu_LandBook (by decide) (by decide) rfl tq_441 (Or.inl rfl) hc1 hc2 d_BLB_corners_10 ?_
    refine j_iload_n F 1 d_BLB_corners_13 rfl ?_
    obtain ⟨hg1, hw⟩ := hw
    refine c_callVr F K hT (c_BRg_lot l hw) (tw_gV tq_508 tq_334 tq_335 tq_336 tq_337) 5 rfl (by decide) hg1 q_BRg_lot rfl ⟨by decide, by decide⟩ ⟨rm_z hc0, rm_z hn0⟩ rfl (Nat.le_of_ble_eq_true rfl) d_BLB_corners_14 (fun r_15 T_14 hw hT => ?_)
    obtain ⟨hc1, q_16, hc2, hw⟩ := hw
    refine c_getr F K hT 9 0 rfl tu_Lot (by decide) (by decide) rfl tq_509 (Or.inl rfl) hc1 hc2 d_BLB_corners_17 ?_
    obtain ⟨hc1, hw⟩ := hw
    refine c_geti F K hT 2 1 rfl tu_Points (by decide) (by decide) rfl tq_438 (Or.inl rfl) hc1 d_BLB_corners_20 ?_
    exact hri _ _ _ _ _ _ rfl ⟨_, rfl, hw⟩ hT (rm_y hc0) (rm_y hn0) d_BLB_corners_23
  exact key mc ms 0 0 rfl rfl rfl rfl (Nat.zero_add _) (Nat.zero_add _)
abbrev y_BLB_corner : MethodName := ⟨"LandBook", "corner", "(II)I"⟩
theorem q_BLB_corner : y_BLB_corner.cls = "LandBook" ∧ y_BLB_corner.cls ≠ "java/lang/invoke/MethodHandle" ∧ y_BLB_corner.cls ≠ "java/lang/invoke/VarHandle" ∧ (parseMethodDescriptor y_BLB_corner.desc).map (fun d => d.parameters.length) = some 2 := by decide +kernel
theorem d_BLB_corner_0 : decode prog_1_method_17_code 0 = .ok (.aload_n 0, 1) := by decide +kernel
theorem d_BLB_corner_1 : decode prog_1_method_17_code 1 = .ok (.invokevirtual 99, 3) := by decide +kernel
theorem d_BLB_corner_4 : decode prog_1_method_17_code 4 = .ok (.aload_n 0, 1) := by decide +kernel
theorem d_BLB_corner_5 : decode prog_1_method_17_code 5 = .ok (.iload_n 1, 1) := by decide +kernel
theorem d_BLB_corner_6 : decode prog_1_method_17_code 6 = .ok (.invokevirtual 102, 3) := by decide +kernel
theorem d_BLB_corner_9 : decode prog_1_method_17_code 9 = .ok (.aload_n 0, 1) := by decide +kernel
theorem d_BLB_corner_10 : decode prog_1_method_17_code 10 = .ok (.getfield 38, 3) := by decide +kernel
theorem d_BLB_corner_13 : decode prog_1_method_17_code 13 = .ok (.iload_n 1, 1) := by decide +kernel
theorem d_BLB_corner_14 : decode prog_1_method_17_code 14 = .ok (.invokevirtual 112, 3) := by decide +kernel
theorem d_BLB_corner_17 : decode prog_1_method_17_code 17 = .ok (.getfield 116, 3) := by decide +kernel
theorem d_BLB_corner_20 : decode prog_1_method_17_code 20 = .ok (.astore_n 3, 1) := by decide +kernel
theorem d_BLB_corner_21 : decode prog_1_method_17_code 21 = .ok (.iload_n 2, 1) := by decide +kernel
theorem d_BLB_corner_22 : decode prog_1_method_17_code 22 = .ok (.ifCond .lt 11, 3) := by decide +kernel
theorem d_BLB_corner_25 : decode prog_1_method_17_code 25 = .ok (.iload_n 2, 1) := by decide +kernel
theorem d_BLB_corner_26 : decode prog_1_method_17_code 26 = .ok (.aload_n 3, 1) := by decide +kernel
theorem d_BLB_corner_27 : decode prog_1_method_17_code 27 = .ok (.getfield 53, 3) := by decide +kernel
theorem d_BLB_corner_30 : decode prog_1_method_17_code 30 = .ok (.if_icmp .lt 13, 3) := by decide +kernel
theorem d_BLB_corner_43 : decode prog_1_method_17_code 43 = .ok (.aload_n 3, 1) := by decide +kernel
theorem d_BLB_corner_44 : decode prog_1_method_17_code 44 = .ok (.iload_n 2, 1) := by decide +kernel
theorem d_BLB_corner_45 : decode prog_1_method_17_code 45 = .ok (.invokevirtual 125, 3) := by decide +kernel
theorem d_BLB_corner_48 : decode prog_1_method_17_code 48 = .ok (.ireturn, 1) := by decide +kernel
theorem d_BLB_corner_33 : decode prog_1_method_17_code 33 = .ok (.new 189, 3) := by decide +kernel
theorem d_BLB_corner_36 : decode prog_1_method_17_code 36 = .ok (.dup, 1) := by decide +kernel
theorem d_BLB_corner_37 : decode prog_1_method_17_code 37 = .ok (.ldc 245, 2) := by decide +kernel
theorem d_BLB_corner_39 : decode prog_1_method_17_code 39 = .ok (.invokespecial 193, 3) := by decide +kernel
theorem d_BLB_corner_42 : decode prog_1_method_17_code 42 = .ok (.athrow, 1) := by decide +kernel
def wp_BLB_corner_33 (post : Int → CS → Prop) (pe : String → CS → Prop) (mc0 : Nat) (ms0 : Nat) (T : CS) : Prop := (1 ≤ mc0 ∧ 6 ≤ ms0) ∧ pe "java/lang/IndexOutOfBoundsException" T
def wp_BLB_corner (post : Int → CS → Prop) (pe : String → CS → Prop) (mc0 ms0 : Nat) (v0 : Nat) (v1 : Int) (v2 : Int) (T : CS) : Prop := ∃ mc_3 ms_4 mc_5 ms_6 : Nat, (mc0 = mc_3 + mc_5 ∧ ms0 = ms_4 + ms_6) ∧ tg T v0 = 1 ∧ wp_BLB_checkUp (fun T_1 => ∃ mc_9 ms_10 mc_11 ms_12 : Nat, (mc_5 = mc_9 + mc_11 ∧ ms_6 = ms_10 + ms_12) ∧ tg T_1 v0 = 1 ∧ wp_BLB_checkLot (fun T_7 => tg T_7 v0 = 1 ∧ ∃ q_13 : Nat, fo T_7 v0 4 = some q_13 ∧ (tg T_7 q_13 = 5 ∧ wp_BRg_lot (fun r_15 T_14 => tg T_14 r_15 = 9 ∧ ∃ q_16 : Nat, fo T_14 r_15 0 = some q_16 ∧ (inR v2 ∧ (v2 < 0 → wp_BLB_corner_33 post pe mc_11 ms_12 T_14) ∧ (¬ (v2 < 0) → (tg T_14 q_16 = 2 ∧ (inR v2 ∧ inR (fi T_14 q_16 1) ∧ (v2 < (fi T_14 q_16 1) → (tg T_14 q_16 = 2 ∧ wp_BPt_at (fun r_18 T_17 => post r_18 T_17) q_16 v2 T_14)) ∧ (¬ (v2 < (fi T_14 q_16 1)) → wp_BLB_corner_33 post pe mc_11 ms_12 T_14)))))) q_13 v1 T_7)) pe mc_9 ms_10 v0 v1 T_1) pe mc_3 ms_4 v0 T
set_option maxHeartbeats 4000000 in
set_option maxRecDepth 100000 in
theorem c_BLB_corner (l : Launch) (hfl : l.flags = pinnedFlags ++ [noTraceFlag]) {D : va_G} {k : CK} {post : Int → CS → Prop} {pe : String → CS → Prop} {mc ms : Nat} {v0 : Nat} {v1 : Int} {v2 : Int} {T : CS} (hw : wp_BLB_corner post pe mc ms v0 v1 v2 T) : jE l D k y_BLB_corner prog_1_method_17_code 4 (some .int) 7 103 mc ms T [.ref v0, vi v1, vi v2] (rtI post) pe := by
  refine j_eo hfl (by decide) rfl (Nat.le_of_ble_eq_true rfl) (by decide) (by decide) (fun X F K E hT Pr hthr hri hrz hrv => ?_)
  have B33 : ∀ (mc0 : Nat) (ms0 : Nat) (T : CS) (c0 n0 : Nat), c0 + mc0 = mc → n0 + ms0 = ms → cs_ok k T → wp_BLB_corner_33 post pe mc0 ms0 T → jat l D X 4 33 [] [] (cwd k T) c0 n0 := by
    intro mc0 ms0 T c0 n0 hc0 hn0 hT hw
    unfold wp_BLB_corner_33 at hw
    obtain ⟨⟨hr1, hr2⟩, hw⟩ := hw
    exact hthr _ _ _ _ _ _ "no such corner" 189 245 193 2 hw hT (by decide) (by decide) (by decide) tq_467 tq_468 d_BLB_corner_33 d_BLB_corner_36 (Or.inl ⟨rfl, d_BLB_corner_37⟩) d_BLB_corner_39 d_BLB_corner_42 (rm_t hc0 hr1) (rm_t hn0 hr2)
  unfold wp_BLB_corner at hw
  have key : ∀ (mc0 ms0 c0 n0 : Nat), mc0 = mc → ms0 = ms → c0 = 0 → n0 = 0 → c0 + mc0 = mc → n0 + ms0 = ms → jat l D X 4 0 [(0, .ref v0), (1, vi v1), (2, vi v2)] [] (cwd k T) c0 n0 := by
    intro mc0 ms0 c0 n0 hm1 hm2 hz1 hz2 hc0 hn0
    subst hm1; subst hm2
    clear hz1 hz2
    refine j_aload_n F 0 d_BLB_corner_0 rfl ?_
    obtain ⟨mc_3, ms_4, mc_5, ms_6, ⟨he1, he2⟩, hw⟩ := hw
    obtain ⟨hg1, hw⟩ := hw
    refine e_callV F K E Pr hT (c_BLB_checkUp l hfl hw) (tw_gV tq_495 tq_496 tq_497 tq_473 tq_498) hg1 q_BLB_checkUp rfl ⟨by decide, by decide⟩ ⟨rm_l hc0 he1, rm_l hn0 he2⟩ rfl (Nat.le_of_ble_eq_true rfl) d_BLB_corner_1 (fun ov T_1 hw hT => ?_)
    obtain ⟨rfl, hw⟩ := hw
    have hc0 := rm_c hc0 he1
    have hn0 := rm_c hn0 he2
    refine j_aload_n F 0 d_BLB_corner_4 rfl ?_
    refine j_iload_n F 1 d_BLB_corner_5 rfl ?_
    obtain ⟨mc_9, ms_10, mc_11, ms_12, ⟨he1, he2⟩, hw⟩ := hw
    obtain ⟨hg1, hw⟩ := hw
    refine e_callV F K E Pr hT (c_BLB_checkLot l hfl hw) (tw_gV tq_499 tq_500 tq_501 tq_473 tq_502) hg1 q_BLB_checkLot rfl ⟨by decide, by decide⟩ ⟨rm_l hc0 he1, rm_l hn0 he2⟩ rfl (Nat.le_of_ble_eq_true rfl) d_BLB_corner_6 (fun ov T_7 hw hT => ?_)
    obtain ⟨rfl, hw⟩ := hw
    have hc0 := rm_c hc0 he1
    have hn0 := rm_c hn0 he2
    refine j_aload_n F 0 d_BLB_corner_9 rfl ?_
    obtain ⟨hc1, q_13, hc2, hw⟩ := hw
    refine c_getr F K hT 1 4 rfl tu_LandBook (by decide) (by decide) rfl tq_441 (Or.inl rfl) hc1 hc2 d_BLB_corner_10 ?_
    refine j_iload_n F 1 d_BLB_corner_13 rfl ?_
    obtain ⟨hg1, hw⟩ := hw
    refine c_callVr F K hT (c_BRg_lot l hw) (tw_gV tq_508 tq_334 tq_335 tq_336 tq_337) 5 rfl (by decide) hg1 q_BRg_lot rfl ⟨by decide, by decide⟩ ⟨rm_z hc0, rm_z hn0⟩ rfl (Nat.le_of_ble_eq_true rfl) d_BLB_corner_14 (fun r_15 T_14 hw hT => ?_)
    obtain ⟨hc1, q_16, hc2, hw⟩ := hw
    refine c_getr F K hT 9 0 rfl tu_Lot (by decide) (by decide) rfl tq_509 (Or.inl rfl) hc1 hc2 d_BLB_corner_17 ?_
    refine j_astore_n F [(3, .ref q_16), (0, .ref v0), (1, vi v1), (2, vi v2)] d_BLB_corner_20 (by decide) rfl ?_
    refine j_iload_n F 3 d_BLB_corner_21 rfl ?_
    obtain ⟨hc1, hwt, hwf⟩ := hw
    refine j_if_lt F 33 hc1 d_BLB_corner_22 rfl (fun hh => ?_) (fun hh => ?_)
    · have hw := hwt hh
      refine j_sub [] rfl ?_
      exact B33 _ _ _ _ _ hc0 hn0 hT hw
    · have hw := hwf hh
      refine j_iload_n F 3 d_BLB_corner_25 rfl ?_
      refine j_aload_n F 0 d_BLB_corner_26 rfl ?_
      obtain ⟨hc1, hw⟩ := hw
      refine c_geti F K hT 2 1 rfl tu_Points (by decide) (by decide) rfl tq_438 (Or.inl rfl) hc1 d_BLB_corner_27 ?_
      obtain ⟨hc1, hc2, hwt, hwf⟩ := hw
      refine j_icmp_lt F 43 hc1 hc2 d_BLB_corner_30 rfl (fun hh => ?_) (fun hh => ?_)
      · have hw := hwt hh
        refine j_aload_n F 0 d_BLB_corner_43 rfl ?_
        refine j_iload_n F 3 d_BLB_corner_44 rfl ?_
        obtain ⟨hg1, hw⟩ := hw
        refine c_callVi F K hT (c_BPt_at l hw) (tw_gV tq_439 tq_136 tq_137 tq_126 tq_138) 2 rfl (by decide) hg1 q_BPt_at rfl ⟨by decide, by decide⟩ ⟨rm_z hc0, rm_z hn0⟩ rfl (Nat.le_of_ble_eq_true rfl) d_BLB_corner_45 (fun r_18 T_17 hw hT => ?_)
        exact hri _ _ _ _ _ _ rfl ⟨_, rfl, hw⟩ hT (rm_y hc0) (rm_y hn0) d_BLB_corner_48
      · have hw := hwf hh
        refine j_sub [] rfl ?_
        exact B33 _ _ _ _ _ hc0 hn0 hT hw
  exact key mc ms 0 0 rfl rfl rfl rfl (Nat.zero_add _) (Nat.zero_add _)
theorem tq_594 : (Jvm.Cond.fieldLink "LandBook" (248 : Nat) "LandBook$Log" "synced" "I") ∈ tw_G := tw_in (List.mem_of_getElem? (i := 218) (by decide +kernel)) rfl
abbrev y_BLB_many : MethodName := ⟨"LandBook", "many", "(I)I"⟩
theorem q_BLB_many : y_BLB_many.cls = "LandBook" ∧ y_BLB_many.cls ≠ "java/lang/invoke/MethodHandle" ∧ y_BLB_many.cls ≠ "java/lang/invoke/VarHandle" ∧ (parseMethodDescriptor y_BLB_many.desc).map (fun d => d.parameters.length) = some 1 := by decide +kernel
theorem d_BLB_many_0 : decode prog_1_method_18_code 0 = .ok (.iload_n 1, 1) := by decide +kernel
theorem d_BLB_many_1 : decode prog_1_method_18_code 1 = .ok (.tableswitch 75 0 4 #[35, 43, 51, 59, 67], 35) := by decide +kernel
theorem d_BLB_many_76 : decode prog_1_method_18_code 76 = .ok (.new 189, 3) := by decide +kernel
theorem d_BLB_many_79 : decode prog_1_method_18_code 79 = .ok (.dup, 1) := by decide +kernel
theorem d_BLB_many_80 : decode prog_1_method_18_code 80 = .ok (.ldc 251, 2) := by decide +kernel
theorem d_BLB_many_82 : decode prog_1_method_18_code 82 = .ok (.invokespecial 193, 3) := by decide +kernel
theorem d_BLB_many_85 : decode prog_1_method_18_code 85 = .ok (.athrow, 1) := by decide +kernel
theorem d_BLB_many_36 : decode prog_1_method_18_code 36 = .ok (.aload_n 0, 1) := by decide +kernel
theorem d_BLB_many_37 : decode prog_1_method_18_code 37 = .ok (.getfield 38, 3) := by decide +kernel
theorem d_BLB_many_40 : decode prog_1_method_18_code 40 = .ok (.invokevirtual 76, 3) := by decide +kernel
theorem d_BLB_many_43 : decode prog_1_method_18_code 43 = .ok (.ireturn, 1) := by decide +kernel
theorem d_BLB_many_44 : decode prog_1_method_18_code 44 = .ok (.aload_n 0, 1) := by decide +kernel
theorem d_BLB_many_45 : decode prog_1_method_18_code 45 = .ok (.getfield 38, 3) := by decide +kernel
theorem d_BLB_many_48 : decode prog_1_method_18_code 48 = .ok (.invokevirtual 173, 3) := by decide +kernel
theorem d_BLB_many_51 : decode prog_1_method_18_code 51 = .ok (.ireturn, 1) := by decide +kernel
theorem d_BLB_many_52 : decode prog_1_method_18_code 52 = .ok (.aload_n 0, 1) := by decide +kernel
theorem d_BLB_many_53 : decode prog_1_method_18_code 53 = .ok (.getfield 38, 3) := by decide +kernel
theorem d_BLB_many_56 : decode prog_1_method_18_code 56 = .ok (.invokevirtual 186, 3) := by decide +kernel
theorem d_BLB_many_59 : decode prog_1_method_18_code 59 = .ok (.ireturn, 1) := by decide +kernel
theorem d_BLB_many_60 : decode prog_1_method_18_code 60 = .ok (.aload_n 0, 1) := by decide +kernel
theorem d_BLB_many_61 : decode prog_1_method_18_code 61 = .ok (.getfield 45, 3) := by decide +kernel
theorem d_BLB_many_64 : decode prog_1_method_18_code 64 = .ok (.getfield 247, 3) := by decide +kernel
theorem d_BLB_many_67 : decode prog_1_method_18_code 67 = .ok (.ireturn, 1) := by decide +kernel
theorem d_BLB_many_68 : decode prog_1_method_18_code 68 = .ok (.aload_n 0, 1) := by decide +kernel
theorem d_BLB_many_69 : decode prog_1_method_18_code 69 = .ok (.getfield 45, 3) := by decide +kernel
theorem d_BLB_many_72 : decode prog_1_method_18_code 72 = .ok (.getfield 248, 3) := by decide +kernel
theorem d_BLB_many_75 : decode prog_1_method_18_code 75 = .ok (.ireturn, 1) := by decide +kernel
def wp_BLB_many (post : Int → CS → Prop) (pe : String → CS → Prop) (mc0 ms0 : Nat) (v0 : Nat) (v1 : Int) (T : CS) : Prop := inR v1 ∧ (v1 < 0 ∨ 4 < v1 → ((1 ≤ mc0 ∧ 6 ≤ ms0) ∧ pe "java/lang/IndexOutOfBoundsException" T)) ∧ (v1 = 0 → (tg T v0 = 1 ∧ ∃ q_1 : Nat, fo T v0 4 = some q_1 ∧ (tg T q_1 = 5 ∧ wp_BRg_lotCount (fun r_3 T_2 => post r_3 T_2) q_1 T))) ∧ (v1 = 1 → (tg T v0 = 1 ∧ ∃ q_4 : Nat, fo T v0 4 = some q_4 ∧ (tg T q_4 = 5 ∧ wp_BRg_lastEntry (fun r_6 T_5 => post r_6 T_5) q_4 T))) ∧ (v1 = 2 → (tg T v0 = 1 ∧ ∃ q_7 : Nat, fo T v0 4 = some q_7 ∧ (tg T q_7 = 5 ∧ wp_BRg_easementCount (fun r_9 T_8 => post r_9 T_8) q_7 T))) ∧ (v1 = 3 → (tg T v0 = 1 ∧ ∃ q_10 : Nat, fo T v0 5 = some q_10 ∧ (tg T q_10 = 6 ∧ (post (fi T q_10 1) T)))) ∧ (v1 = 4 → (tg T v0 = 1 ∧ ∃ q_11 : Nat, fo T v0 5 = some q_11 ∧ (tg T q_11 = 6 ∧ (post (fi T q_11 2) T))))
set_option maxHeartbeats 4000000 in
set_option maxRecDepth 100000 in
theorem c_BLB_many (l : Launch) (hfl : l.flags = pinnedFlags ++ [noTraceFlag]) {D : va_G} {k : CK} {post : Int → CS → Prop} {pe : String → CS → Prop} {mc ms : Nat} {v0 : Nat} {v1 : Int} {T : CS} (hw : wp_BLB_many post pe mc ms v0 v1 T) : jE l D k y_BLB_many prog_1_method_18_code 2 (some .int) 6 82 mc ms T [.ref v0, vi v1] (rtI post) pe := by
  refine j_eo hfl (by decide) rfl (Nat.le_of_ble_eq_true rfl) (by decide) (by decide) (fun X F K E hT Pr hthr hri hrz hrv => ?_)
  unfold wp_BLB_many at hw
  have key : ∀ (mc0 ms0 c0 n0 : Nat), mc0 = mc → ms0 = ms → c0 = 0 → n0 = 0 → c0 + mc0 = mc → n0 + ms0 = ms → jat l D X 2 0 [(0, .ref v0), (1, vi v1)] [] (cwd k T) c0 n0 := by
    intro mc0 ms0 c0 n0 hm1 hm2 hz1 hz2 hc0 hn0
    subst hm1; subst hm2
    clear hz1 hz2
    refine j_iload_n F 1 d_BLB_many_0 rfl ?_
    obtain ⟨hc1, hw0, hw1, hw2, hw3, hw4, hw5⟩ := hw
    by_cases hz : v1 < 0 ∨ 4 < v1
    · refine j_tableOut F 76 hc1 d_BLB_many_1 hz rfl ?_
      have hw := hw0 hz
      obtain ⟨⟨hr1, hr2⟩, hw⟩ := hw
      exact hthr _ _ _ _ _ _ "nothing that is counted" 189 251 193 2 hw hT (by decide) (by decide) (by decide) tq_467 tq_468 d_BLB_many_76 d_BLB_many_79 (Or.inl ⟨rfl, d_BLB_many_80⟩) d_BLB_many_82 d_BLB_many_85 (rm_t hc0 hr1) (rm_t hn0 hr2)
    · rcases (show v1 = 0 ∨ v1 = 1 ∨ v1 = 2 ∨ v1 = 3 ∨ v1 = 4 by omega) with hy | hy | hy | hy | hy
      · refine j_tableIn F 36 hc1 d_BLB_many_1 hy (by decide) (by decide) rfl rfl ?_
        have hw := hw1 hy
        refine j_aload_n F 0 d_BLB_many_36 rfl ?_
        obtain ⟨hc1, q_1, hc2, hw⟩ := hw
        refine c_getr F K hT 1 4 rfl tu_LandBook (by decide) (by decide) rfl tq_441 (Or.inl rfl) hc1 hc2 d_BLB_many_37 ?_
        obtain ⟨hg1, hw⟩ := hw
        refine c_callVi F K hT (c_BRg_lotCount l hw) (tw_gV tq_443 tq_444 tq_445 tq_336 tq_446) 5 rfl (by decide) hg1 q_BRg_lotCount rfl ⟨by decide, by decide⟩ ⟨rm_z hc0, rm_z hn0⟩ rfl (Nat.le_of_ble_eq_true rfl) d_BLB_many_40 (fun r_3 T_2 hw hT => ?_)
        exact hri _ _ _ _ _ _ rfl ⟨_, rfl, hw⟩ hT (rm_y hc0) (rm_y hn0) d_BLB_many_43
      · refine j_tableIn F 44 hc1 d_BLB_many_1 hy (by decide) (by decide) rfl rfl ?_
        have hw := hw2 hy
        refine j_aload_n F 0 d_BLB_many_44 rfl ?_
        obtain ⟨hc1, q_4, hc2, hw⟩ := hw
        refine c_getr F K hT 1 4 rfl tu_LandBook (by decide) (by decide) rfl tq_441 (Or.inl rfl) hc1 hc2 d_BLB_many_45 ?_
        obtain ⟨hg1, hw⟩ := hw
        refine c_callVi F K hT (c_BRg_lastEntry l hw) (tw_gV tq_442 tq_363 tq_364 tq_336 tq_365) 5 rfl (by decide) hg1 q_BRg_lastEntry rfl ⟨by decide, by decide⟩ ⟨rm_z hc0, rm_z hn0⟩ rfl (Nat.le_of_ble_eq_true rfl) d_BLB_many_48 (fun r_6 T_5 hw hT => ?_)
        exact hri _ _ _ _ _ _ rfl ⟨_, rfl, hw⟩ hT (rm_y hc0) (rm_y hn0) d_BLB_many_51
      · refine j_tableIn F 52 hc1 d_BLB_many_1 hy (by decide) (by decide) rfl rfl ?_
        have hw := hw3 hy
        refine j_aload_n F 0 d_BLB_many_52 rfl ?_
        obtain ⟨hc1, q_7, hc2, hw⟩ := hw
        refine c_getr F K hT 1 4 rfl tu_LandBook (by decide) (by decide) rfl tq_441 (Or.inl rfl) hc1 hc2 d_BLB_many_53 ?_
        obtain ⟨hg1, hw⟩ := hw
        refine c_callVi F K hT (c_BRg_easementCount l hw) (tw_gV tq_447 tq_448 tq_449 tq_336 tq_450) 5 rfl (by decide) hg1 q_BRg_easementCount rfl ⟨by decide, by decide⟩ ⟨rm_z hc0, rm_z hn0⟩ rfl (Nat.le_of_ble_eq_true rfl) d_BLB_many_56 (fun r_9 T_8 hw hT => ?_)
        exact hri _ _ _ _ _ _ rfl ⟨_, rfl, hw⟩ hT (rm_y hc0) (rm_y hn0) d_BLB_many_59
      · refine j_tableIn F 60 hc1 d_BLB_many_1 hy (by decide) (by decide) rfl rfl ?_
        have hw := hw4 hy
        refine j_aload_n F 0 d_BLB_many_60 rfl ?_
        obtain ⟨hc1, q_10, hc2, hw⟩ := hw
        refine c_getr F K hT 1 5 rfl tu_LandBook (by decide) (by decide) rfl tq_451 (Or.inl rfl) hc1 hc2 d_BLB_many_61 ?_
        obtain ⟨hc1, hw⟩ := hw
        refine c_geti F K hT 6 1 rfl tu_Log (by decide) (by decide) rfl tq_452 (Or.inl rfl) hc1 d_BLB_many_64 ?_
        exact hri _ _ _ _ _ _ rfl ⟨_, rfl, hw⟩ hT (rm_y hc0) (rm_y hn0) d_BLB_many_67
      · refine j_tableIn F 68 hc1 d_BLB_many_1 hy (by decide) (by decide) rfl rfl ?_
        have hw := hw5 hy
        refine j_aload_n F 0 d_BLB_many_68 rfl ?_
        obtain ⟨hc1, q_11, hc2, hw⟩ := hw
        refine c_getr F K hT 1 5 rfl tu_LandBook (by decide) (by decide) rfl tq_451 (Or.inl rfl) hc1 hc2 d_BLB_many_69 ?_
        obtain ⟨hc1, hw⟩ := hw
        refine c_geti F K hT 6 2 rfl tu_Log (by decide) (by decide) rfl tq_594 (Or.inl rfl) hc1 d_BLB_many_72 ?_
        exact hri _ _ _ _ _ _ rfl ⟨_, rfl, hw⟩ hT (rm_y hc0) (rm_y hn0) d_BLB_many_75
  exact key mc ms 0 0 rfl rfl rfl rfl (Nat.zero_add _) (Nat.zero_add _)
theorem tq_595 : (Jvm.Cond.methodLink "LandBook" (255 : Nat) ({ cls := "LandBook$Log", name := "at", desc := "(I)I" } : Jvm.MethodName)) ∈ tw_G := tw_in (List.mem_of_getElem? (i := 986) (by decide +kernel)) rfl
theorem tq_596 : (Jvm.Cond.instanceMethod ({ cls := "LandBook$Log", name := "at", desc := "(I)I" } : Jvm.MethodName)) ∈ tw_G := tw_in (List.mem_of_getElem? (i := 987) (by decide +kernel)) rfl
theorem tq_597 : (Jvm.Cond.selects "LandBook$Log" ({ cls := "LandBook$Log", name := "at", desc := "(I)I" } : Jvm.MethodName) ({ cls := "LandBook$Log", name := "at", desc := "(I)I" } : Jvm.MethodName)) ∈ tw_G := tw_in (List.mem_of_getElem? (i := 988) (by decide +kernel)) rfl
theorem tq_598 : (Jvm.Cond.code ({ cls := "LandBook$Log", name := "at", desc := "(I)I" } : Jvm.MethodName) prog_6_method_3_code (2 : Nat) (Option.some Jvm.ClassFile.FieldType.int)) ∈ tw_G := tw_in (List.mem_of_getElem? (i := 989) (by decide +kernel)) rfl
abbrev y_BLB_word : MethodName := ⟨"LandBook", "word", "(I)I"⟩
theorem q_BLB_word : y_BLB_word.cls = "LandBook" ∧ y_BLB_word.cls ≠ "java/lang/invoke/MethodHandle" ∧ y_BLB_word.cls ≠ "java/lang/invoke/VarHandle" ∧ (parseMethodDescriptor y_BLB_word.desc).map (fun d => d.parameters.length) = some 1 := by decide +kernel
theorem d_BLB_word_0 : decode prog_1_method_19_code 0 = .ok (.iload_n 1, 1) := by decide +kernel
theorem d_BLB_word_1 : decode prog_1_method_19_code 1 = .ok (.ifCond .lt 14, 3) := by decide +kernel
theorem d_BLB_word_4 : decode prog_1_method_19_code 4 = .ok (.iload_n 1, 1) := by decide +kernel
theorem d_BLB_word_5 : decode prog_1_method_19_code 5 = .ok (.aload_n 0, 1) := by decide +kernel
theorem d_BLB_word_6 : decode prog_1_method_19_code 6 = .ok (.getfield 45, 3) := by decide +kernel
theorem d_BLB_word_9 : decode prog_1_method_19_code 9 = .ok (.getfield 247, 3) := by decide +kernel
theorem d_BLB_word_12 : decode prog_1_method_19_code 12 = .ok (.if_icmp .lt 13, 3) := by decide +kernel
theorem d_BLB_word_25 : decode prog_1_method_19_code 25 = .ok (.aload_n 0, 1) := by decide +kernel
theorem d_BLB_word_26 : decode prog_1_method_19_code 26 = .ok (.getfield 45, 3) := by decide +kernel
theorem d_BLB_word_29 : decode prog_1_method_19_code 29 = .ok (.iload_n 1, 1) := by decide +kernel
theorem d_BLB_word_30 : decode prog_1_method_19_code 30 = .ok (.invokevirtual 255, 3) := by decide +kernel
theorem d_BLB_word_33 : decode prog_1_method_19_code 33 = .ok (.ireturn, 1) := by decide +kernel
theorem d_BLB_word_15 : decode prog_1_method_19_code 15 = .ok (.new 189, 3) := by decide +kernel
theorem d_BLB_word_18 : decode prog_1_method_19_code 18 = .ok (.dup, 1) := by decide +kernel
theorem d_BLB_word_19 : decode prog_1_method_19_code 19 = .ok (.ldc 253, 2) := by decide +kernel
theorem d_BLB_word_21 : decode prog_1_method_19_code 21 = .ok (.invokespecial 193, 3) := by decide +kernel
theorem d_BLB_word_24 : decode prog_1_method_19_code 24 = .ok (.athrow, 1) := by decide +kernel
def wp_BLB_word_15 (post : Int → CS → Prop) (pe : String → CS → Prop) (mc0 : Nat) (ms0 : Nat) (T : CS) : Prop := (1 ≤ mc0 ∧ 6 ≤ ms0) ∧ pe "java/lang/IndexOutOfBoundsException" T
def wp_BLB_word (post : Int → CS → Prop) (pe : String → CS → Prop) (mc0 ms0 : Nat) (v0 : Nat) (v1 : Int) (T : CS) : Prop := inR v1 ∧ (v1 < 0 → wp_BLB_word_15 post pe mc0 ms0 T) ∧ (¬ (v1 < 0) → (tg T v0 = 1 ∧ ∃ q_1 : Nat, fo T v0 5 = some q_1 ∧ (tg T q_1 = 6 ∧ (inR v1 ∧ inR (fi T q_1 1) ∧ (v1 < (fi T q_1 1) → (tg T v0 = 1 ∧ ∃ q_2 : Nat, fo T v0 5 = some q_2 ∧ (tg T q_2 = 6 ∧ wp_BLg_at (fun r_4 T_3 => post r_4 T_3) q_2 v1 T))) ∧ (¬ (v1 < (fi T q_1 1)) → wp_BLB_word_15 post pe mc0 ms0 T)))))
set_option maxHeartbeats 4000000 in
set_option maxRecDepth 100000 in
theorem c_BLB_word (l : Launch) (hfl : l.flags = pinnedFlags ++ [noTraceFlag]) {D : va_G} {k : CK} {post : Int → CS → Prop} {pe : String → CS → Prop} {mc ms : Nat} {v0 : Nat} {v1 : Int} {T : CS} (hw : wp_BLB_word post pe mc ms v0 v1 T) : jE l D k y_BLB_word prog_1_method_19_code 2 (some .int) 6 82 mc ms T [.ref v0, vi v1] (rtI post) pe := by
  refine j_eo hfl (by decide) rfl (Nat.le_of_ble_eq_true rfl) (by decide) (by decide) (fun X F K E hT Pr hthr hri hrz hrv => ?_)
  have B15 : ∀ (mc0 : Nat) (ms0 : Nat) (T : CS) (c0 n0 : Nat), c0 + mc0 = mc → n0 + ms0 = ms → cs_ok k T → wp_BLB_word_15 post pe mc0 ms0 T → jat l D X 2 15 [] [] (cwd k T) c0 n0 := by
    intro mc0 ms0 T c0 n0 hc0 hn0 hT hw
    unfold wp_BLB_word_15 at hw
    obtain ⟨⟨hr1, hr2⟩, hw⟩ := hw
    exact hthr _ _ _ _ _ _ "no such word" 189 253 193 2 hw hT (by decide) (by decide) (by decide) tq_467 tq_468 d_BLB_word_15 d_BLB_word_18 (Or.inl ⟨rfl, d_BLB_word_19⟩) d_BLB_word_21 d_BLB_word_24 (rm_t hc0 hr1) (rm_t hn0 hr2)
  unfold wp_BLB_word at hw
  have key : ∀ (mc0 ms0 c0 n0 : Nat), mc0 = mc → ms0 = ms → c0 = 0 → n0 = 0 → c0 + mc0 = mc → n0 + ms0 = ms → jat l D X 2 0 [(0, .ref v0), (1, vi v1)] [] (cwd k T) c0 n0 := by
    intro mc0 ms0 c0 n0 hm1 hm2 hz1 hz2 hc0 hn0
    subst hm1; subst hm2
    clear hz1 hz2
    refine j_iload_n F 1 d_BLB_word_0 rfl ?_
    obtain ⟨hc1, hwt, hwf⟩ := hw
    refine j_if_lt F 15 hc1 d_BLB_word_1 rfl (fun hh => ?_) (fun hh => ?_)
    · have hw := hwt hh
      refine j_sub [] rfl ?_
      exact B15 _ _ _ _ _ hc0 hn0 hT hw
    · have hw := hwf hh
      refine j_iload_n F 1 d_BLB_word_4 rfl ?_
      refine j_aload_n F 0 d_BLB_word_5 rfl ?_
      obtain ⟨hc1, q_1, hc2, hw⟩ := hw
      refine c_getr F K hT 1 5 rfl tu_LandBook (by decide) (by decide) rfl tq_451 (Or.inl rfl) hc1 hc2 d_BLB_word_6 ?_
      obtain ⟨hc1, hw⟩ := hw
      refine c_geti F K hT 6 1 rfl tu_Log (by decide) (by decide) rfl tq_452 (Or.inl rfl) hc1 d_BLB_word_9 ?_
      obtain ⟨hc1, hc2, hwt, hwf⟩ := hw
      refine j_icmp_lt F 25 hc1 hc2 d_BLB_word_12 rfl (fun hh => ?_) (fun hh => ?_)
      · have hw := hwt hh
        refine j_aload_n F 0 d_BLB_word_25 rfl ?_
        obtain ⟨hc1, q_2, hc2, hw⟩ := hw
        refine c_getr F K hT 1 5 rfl tu_LandBook (by decide) (by decide) rfl tq_451 (Or.inl rfl) hc1 hc2 d_BLB_word_26 ?_
        refine j_iload_n F 1 d_BLB_word_29 rfl ?_
        obtain ⟨hg1, hw⟩ := hw
        refine c_callVi F K hT (c_BLg_at l hw) (tw_gV tq_595 tq_596 tq_597 tq_424 tq_598) 6 rfl (by decide) hg1 q_BLg_at rfl ⟨by decide, by decide⟩ ⟨rm_z hc0, rm_z hn0⟩ rfl (Nat.le_of_ble_eq_true rfl) d_BLB_word_30 (fun r_4 T_3 hw hT => ?_)
        exact hri _ _ _ _ _ _ rfl ⟨_, rfl, hw⟩ hT (rm_y hc0) (rm_y hn0) d_BLB_word_33
      · have hw := hwf hh
        refine j_sub [] rfl ?_
        exact B15 _ _ _ _ _ hc0 hn0 hT hw
  exact key mc ms 0 0 rfl rfl rfl rfl (Nat.zero_add _) (Nat.zero_add _)
theorem tq_599 : (Jvm.Cond.methodLink "LandBook" (256 : Nat) ({ cls := "LandBook$Log", name := "keep", desc := "(I)V" } : Jvm.MethodName)) ∈ tw_G := tw_in (List.mem_of_getElem? (i := 997) (by decide +kernel)) rfl
theorem tq_600 : (Jvm.Cond.instanceMethod ({ cls := "LandBook$Log", name := "keep", desc := "(I)V" } : Jvm.MethodName)) ∈ tw_G := tw_in (List.mem_of_getElem? (i := 998) (by decide +kernel)) rfl
theorem tq_601 : (Jvm.Cond.selects "LandBook$Log" ({ cls := "LandBook$Log", name := "keep", desc := "(I)V" } : Jvm.MethodName) ({ cls := "LandBook$Log", name := "keep", desc := "(I)V" } : Jvm.MethodName)) ∈ tw_G := tw_in (List.mem_of_getElem? (i := 999) (by decide +kernel)) rfl
theorem tq_602 : (Jvm.Cond.code ({ cls := "LandBook$Log", name := "keep", desc := "(I)V" } : Jvm.MethodName) prog_6_method_8_code (2 : Nat) (Option.none : Option Jvm.ClassFile.FieldType)) ∈ tw_G := tw_in (List.mem_of_getElem? (i := 1000) (by decide +kernel)) rfl
abbrev y_BLB_sync : MethodName := ⟨"LandBook", "sync", "()I"⟩
theorem q_BLB_sync : y_BLB_sync.cls = "LandBook" ∧ y_BLB_sync.cls ≠ "java/lang/invoke/MethodHandle" ∧ y_BLB_sync.cls ≠ "java/lang/invoke/VarHandle" ∧ (parseMethodDescriptor y_BLB_sync.desc).map (fun d => d.parameters.length) = some 0 := by decide +kernel
theorem d_BLB_sync_0 : decode prog_1_method_20_code 0 = .ok (.aload_n 0, 1) := by decide +kernel
theorem d_BLB_sync_1 : decode prog_1_method_20_code 1 = .ok (.invokevirtual 99, 3) := by decide +kernel
theorem d_BLB_sync_4 : decode prog_1_method_20_code 4 = .ok (.aload_n 0, 1) := by decide +kernel
theorem d_BLB_sync_5 : decode prog_1_method_20_code 5 = .ok (.getfield 45, 3) := by decide +kernel
theorem d_BLB_sync_8 : decode prog_1_method_20_code 8 = .ok (.getfield 247, 3) := by decide +kernel
theorem d_BLB_sync_11 : decode prog_1_method_20_code 11 = .ok (.aload_n 0, 1) := by decide +kernel
theorem d_BLB_sync_12 : decode prog_1_method_20_code 12 = .ok (.getfield 45, 3) := by decide +kernel
theorem d_BLB_sync_15 : decode prog_1_method_20_code 15 = .ok (.getfield 248, 3) := by decide +kernel
theorem d_BLB_sync_18 : decode prog_1_method_20_code 18 = .ok (.isub, 1) := by decide +kernel
theorem d_BLB_sync_19 : decode prog_1_method_20_code 19 = .ok (.istore_n 1, 1) := by decide +kernel
theorem d_BLB_sync_20 : decode prog_1_method_20_code 20 = .ok (.aload_n 0, 1) := by decide +kernel
theorem d_BLB_sync_21 : decode prog_1_method_20_code 21 = .ok (.getfield 45, 3) := by decide +kernel
theorem d_BLB_sync_24 : decode prog_1_method_20_code 24 = .ok (.aload_n 0, 1) := by decide +kernel
theorem d_BLB_sync_25 : decode prog_1_method_20_code 25 = .ok (.getfield 45, 3) := by decide +kernel
theorem d_BLB_sync_28 : decode prog_1_method_20_code 28 = .ok (.getfield 247, 3) := by decide +kernel
theorem d_BLB_sync_31 : decode prog_1_method_20_code 31 = .ok (.invokevirtual 256, 3) := by decide +kernel
theorem d_BLB_sync_34 : decode prog_1_method_20_code 34 = .ok (.iload_n 1, 1) := by decide +kernel
theorem d_BLB_sync_35 : decode prog_1_method_20_code 35 = .ok (.ireturn, 1) := by decide +kernel
def wp_BLB_sync (post : Int → CS → Prop) (pe : String → CS → Prop) (mc0 ms0 : Nat) (v0 : Nat) (T : CS) : Prop := ∃ mc_3 ms_4 mc_5 ms_6 : Nat, (mc0 = mc_3 + mc_5 ∧ ms0 = ms_4 + ms_6) ∧ tg T v0 = 1 ∧ wp_BLB_checkUp (fun T_1 => tg T_1 v0 = 1 ∧ ∃ q_7 : Nat, fo T_1 v0 5 = some q_7 ∧ (tg T_1 q_7 = 6 ∧ (tg T_1 v0 = 1 ∧ ∃ q_8 : Nat, fo T_1 v0 5 = some q_8 ∧ (tg T_1 q_8 = 6 ∧ (∀ v1_9 : Int, v1_9 = ((fi T_1 q_7 1) - (fi T_1 q_8 2)) → tg T_1 v0 = 1 ∧ ∃ q_10 : Nat, fo T_1 v0 5 = some q_10 ∧ (tg T_1 v0 = 1 ∧ ∃ q_11 : Nat, fo T_1 v0 5 = some q_11 ∧ (tg T_1 q_11 = 6 ∧ (tg T_1 q_10 = 6 ∧ wp_BLg_keep (fun T_12 => post v1_9 T_12) q_10 (fi T_1 q_11 1) T_1)))))))) pe mc_3 ms_4 v0 T
set_option maxHeartbeats 4000000 in
set_option maxRecDepth 100000 in
theorem c_BLB_sync (l : Launch) (hfl : l.flags = pinnedFlags ++ [noTraceFlag]) {D : va_G} {k : CK} {post : Int → CS → Prop} {pe : String → CS → Prop} {mc ms : Nat} {v0 : Nat} {T : CS} (hw : wp_BLB_sync post pe mc ms v0 T) : jE l D k y_BLB_sync prog_1_method_20_code 2 (some .int) 7 102 mc ms T [.ref v0] (rtI post) pe := by
  refine j_eo hfl (by decide) rfl (Nat.le_of_ble_eq_true rfl) (by decide) (by decide) (fun X F K E hT Pr hthr hri hrz hrv => ?_)
  unfold wp_BLB_sync at hw
  have key : ∀ (mc0 ms0 c0 n0 : Nat), mc0 = mc → ms0 = ms → c0 = 0 → n0 = 0 → c0 + mc0 = mc → n0 + ms0 = ms → jat l D X 2 0 [(0, .ref v0)] [] (cwd k T) c0 n0 := by
    intro mc0 ms0 c0 n0 hm1 hm2 hz1 hz2 hc0 hn0
    subst hm1; subst hm2
    clear hz1 hz2
    refine j_aload_n F 0 d_BLB_sync_0 rfl ?_
    obtain ⟨mc_3, ms_4, mc_5, ms_6, ⟨he1, he2⟩, hw⟩ := hw
    obtain ⟨hg1, hw⟩ := hw
    refine e_callV F K E Pr hT (c_BLB_checkUp l hfl hw) (tw_gV tq_495 tq_496 tq_497 tq_473 tq_498) hg1 q_BLB_checkUp rfl ⟨by decide, by decide⟩ ⟨rm_l hc0 he1, rm_l hn0 he2⟩ rfl (Nat.le_of_ble_eq_true rfl) d_BLB_sync_1 (fun ov T_1 hw hT => ?_)
    obtain ⟨rfl, hw⟩ := hw
    have hc0 := rm_c hc0 he1
    have hn0 := rm_c hn0 he2
    refine j_aload_n F 0 d_BLB_sync_4 rfl ?_
    obtain ⟨hc1, q_7, hc2, hw⟩ := hw
    refine c_getr F K hT 1 5 rfl tu_LandBook (by decide) (by decide) rfl tq_451 (Or.inl rfl) hc1 hc2 d_BLB_sync_5 ?_
    obtain ⟨hc1, hw⟩ := hw
    refine c_geti F K hT 6 1 rfl tu_Log (by decide) (by decide) rfl tq_452 (Or.inl rfl) hc1 d_BLB_sync_8 ?_
    refine j_aload_n F 0 d_BLB_sync_11 rfl ?_
    obtain ⟨hc1, q_8, hc2, hw⟩ := hw
    refine c_getr F K hT 1 5 rfl tu_LandBook (by decide) (by decide) rfl tq_451 (Or.inl rfl) hc1 hc2 d_BLB_sync_12 ?_
    obtain ⟨hc1, hw⟩ := hw
    refine c_geti F K hT 6 2 rfl tu_Log (by decide) (by decide) rfl tq_594 (Or.inl rfl) hc1 d_BLB_sync_15 ?_
    refine j_isub F d_BLB_sync_18 ?_
    refine j_nmi (fun v1_9 e_v1_9 => ?_)
    have hw := hw v1_9 e_v1_9
    refine j_istore_n F [(1, vi v1_9), (0, .ref v0)] d_BLB_sync_19 (by decide) rfl ?_
    refine j_aload_n F 1 d_BLB_sync_20 rfl ?_
    obtain ⟨hc1, q_10, hc2, hw⟩ := hw
    refine c_getr F K hT 1 5 rfl tu_LandBook (by decide) (by decide) rfl tq_451 (Or.inl rfl) hc1 hc2 d_BLB_sync_21 ?_
    refine j_aload_n F 1 d_BLB_sync_24 rfl ?_
    obtain ⟨hc1, q_11, hc2, hw⟩ := hw
    refine c_getr F K hT 1 5 rfl tu_LandBook (by decide) (by decide) rfl tq_451 (Or.inl rfl) hc1 hc2 d_BLB_sync_25 ?_
    obtain ⟨hc1, hw⟩ := hw
    refine c_geti F K hT 6 1 rfl tu_Log (by decide) (by decide) rfl tq_452 (Or.inl rfl) hc1 d_BLB_sync_28 ?_
    obtain ⟨hg1, hw⟩ := hw
    refine c_callVv F K hT (c_BLg_keep l hw) (tw_gV tq_599 tq_600 tq_601 tq_424 tq_602) 6 rfl (by decide) hg1 q_BLg_keep rfl ⟨by decide, by decide⟩ ⟨rm_z hc0, rm_z hn0⟩ rfl (Nat.le_of_ble_eq_true rfl) d_BLB_sync_31 (fun T_12 hw hT => ?_)
    refine j_iload_n F 0 d_BLB_sync_34 rfl ?_
    exact hri _ _ _ _ _ _ rfl ⟨_, rfl, hw⟩ hT (rm_y hc0) (rm_y hn0) d_BLB_sync_35
  exact key mc ms 0 0 rfl rfl rfl rfl (Nat.zero_add _) (Nat.zero_add _)
theorem tq_603 : (Jvm.Cond.methodLink "LandBook" (263 : Nat) ({ cls := "LandBook$Log", name := "tear", desc := "(I)V" } : Jvm.MethodName)) ∈ tw_G := tw_in (List.mem_of_getElem? (i := 1009) (by decide +kernel)) rfl
theorem tq_604 : (Jvm.Cond.instanceMethod ({ cls := "LandBook$Log", name := "tear", desc := "(I)V" } : Jvm.MethodName)) ∈ tw_G := tw_in (List.mem_of_getElem? (i := 1010) (by decide +kernel)) rfl
theorem tq_605 : (Jvm.Cond.selects "LandBook$Log" ({ cls := "LandBook$Log", name := "tear", desc := "(I)V" } : Jvm.MethodName) ({ cls := "LandBook$Log", name := "tear", desc := "(I)V" } : Jvm.MethodName)) ∈ tw_G := tw_in (List.mem_of_getElem? (i := 1011) (by decide +kernel)) rfl
theorem tq_606 : (Jvm.Cond.code ({ cls := "LandBook$Log", name := "tear", desc := "(I)V" } : Jvm.MethodName) prog_6_method_9_code (2 : Nat) (Option.none : Option Jvm.ClassFile.FieldType)) ∈ tw_G := tw_in (List.mem_of_getElem? (i := 1012) (by decide +kernel)) rfl
abbrev y_BLB_crash : MethodName := ⟨"LandBook", "crash", "(I)I"⟩
theorem q_BLB_crash : y_BLB_crash.cls = "LandBook" ∧ y_BLB_crash.cls ≠ "java/lang/invoke/MethodHandle" ∧ y_BLB_crash.cls ≠ "java/lang/invoke/VarHandle" ∧ (parseMethodDescriptor y_BLB_crash.desc).map (fun d => d.parameters.length) = some 1 := by decide +kernel
theorem d_BLB_crash_0 : decode prog_1_method_21_code 0 = .ok (.aload_n 0, 1) := by decide +kernel
theorem d_BLB_crash_1 : decode prog_1_method_21_code 1 = .ok (.invokevirtual 99, 3) := by decide +kernel
theorem d_BLB_crash_4 : decode prog_1_method_21_code 4 = .ok (.iload_n 1, 1) := by decide +kernel
theorem d_BLB_crash_5 : decode prog_1_method_21_code 5 = .ok (.ifCond .ge 14, 3) := by decide +kernel
theorem d_BLB_crash_19 : decode prog_1_method_21_code 19 = .ok (.aload_n 0, 1) := by decide +kernel
theorem d_BLB_crash_20 : decode prog_1_method_21_code 20 = .ok (.getfield 45, 3) := by decide +kernel
theorem d_BLB_crash_23 : decode prog_1_method_21_code 23 = .ok (.iload_n 1, 1) := by decide +kernel
theorem d_BLB_crash_24 : decode prog_1_method_21_code 24 = .ok (.invokevirtual 263, 3) := by decide +kernel
theorem d_BLB_crash_27 : decode prog_1_method_21_code 27 = .ok (.aload_n 0, 1) := by decide +kernel
theorem d_BLB_crash_28 : decode prog_1_method_21_code 28 = .ok (.iconst 1, 1) := by decide +kernel
theorem d_BLB_crash_29 : decode prog_1_method_21_code 29 = .ok (.putfield 266, 3) := by decide +kernel
theorem d_BLB_crash_32 : decode prog_1_method_21_code 32 = .ok (.aload_n 0, 1) := by decide +kernel
theorem d_BLB_crash_33 : decode prog_1_method_21_code 33 = .ok (.getfield 45, 3) := by decide +kernel
theorem d_BLB_crash_36 : decode prog_1_method_21_code 36 = .ok (.getfield 247, 3) := by decide +kernel
theorem d_BLB_crash_39 : decode prog_1_method_21_code 39 = .ok (.ireturn, 1) := by decide +kernel
theorem d_BLB_crash_8 : decode prog_1_method_21_code 8 = .ok (.new 258, 3) := by decide +kernel
theorem d_BLB_crash_11 : decode prog_1_method_21_code 11 = .ok (.dup, 1) := by decide +kernel
theorem d_BLB_crash_12 : decode prog_1_method_21_code 12 = .ok (.ldc_w 260, 3) := by decide +kernel
theorem d_BLB_crash_15 : decode prog_1_method_21_code 15 = .ok (.invokespecial 262, 3) := by decide +kernel
theorem d_BLB_crash_18 : decode prog_1_method_21_code 18 = .ok (.athrow, 1) := by decide +kernel
def wp_BLB_crash (post : Int → CS → Prop) (pe : String → CS → Prop) (mc0 ms0 : Nat) (v0 : Nat) (v1 : Int) (T : CS) : Prop := ∃ mc_3 ms_4 mc_5 ms_6 : Nat, (mc0 = mc_3 + mc_5 ∧ ms0 = ms_4 + ms_6) ∧ tg T v0 = 1 ∧ wp_BLB_checkUp (fun T_1 => inR v1 ∧ (0 ≤ v1 → (tg T_1 v0 = 1 ∧ ∃ q_7 : Nat, fo T_1 v0 5 = some q_7 ∧ (tg T_1 q_7 = 6 ∧ wp_BLg_tear (fun T_8 => tg T_8 v0 = 1 ∧ ((∀ T_10 : CS, T_10 = cs_i T_8 v0 6 1 → tg T_10 v0 = 1 ∧ ∃ q_11 : Nat, fo T_10 v0 5 = some q_11 ∧ (tg T_10 q_11 = 6 ∧ (post (fi T_10 q_11 1) T_10))))) q_7 v1 T_1))) ∧ (¬ (0 ≤ v1) → ((1 ≤ mc_5 ∧ 6 ≤ ms_6) ∧ pe "java/lang/IllegalArgumentException" T_1))) pe mc_3 ms_4 v0 T
set_option maxHeartbeats 4000000 in
set_option maxRecDepth 100000 in
theorem c_BLB_crash (l : Launch) (hfl : l.flags = pinnedFlags ++ [noTraceFlag]) {D : va_G} {k : CK} {post : Int → CS → Prop} {pe : String → CS → Prop} {mc ms : Nat} {v0 : Nat} {v1 : Int} {T : CS} (hw : wp_BLB_crash post pe mc ms v0 v1 T) : jE l D k y_BLB_crash prog_1_method_21_code 2 (some .int) 7 102 mc ms T [.ref v0, vi v1] (rtI post) pe := by
  refine j_eo hfl (by decide) rfl (Nat.le_of_ble_eq_true rfl) (by decide) (by decide) (fun X F K E hT Pr hthr hri hrz hrv => ?_)
  unfold wp_BLB_crash at hw
  have key : ∀ (mc0 ms0 c0 n0 : Nat), mc0 = mc → ms0 = ms → c0 = 0 → n0 = 0 → c0 + mc0 = mc → n0 + ms0 = ms → jat l D X 2 0 [(0, .ref v0), (1, vi v1)] [] (cwd k T) c0 n0 := by
    intro mc0 ms0 c0 n0 hm1 hm2 hz1 hz2 hc0 hn0
    subst hm1; subst hm2
    clear hz1 hz2
    refine j_aload_n F 0 d_BLB_crash_0 rfl ?_
    obtain ⟨mc_3, ms_4, mc_5, ms_6, ⟨he1, he2⟩, hw⟩ := hw
    obtain ⟨hg1, hw⟩ := hw
    refine e_callV F K E Pr hT (c_BLB_checkUp l hfl hw) (tw_gV tq_495 tq_496 tq_497 tq_473 tq_498) hg1 q_BLB_checkUp rfl ⟨by decide, by decide⟩ ⟨rm_l hc0 he1, rm_l hn0 he2⟩ rfl (Nat.le_of_ble_eq_true rfl) d_BLB_crash_1 (fun ov T_1 hw hT => ?_)
    obtain ⟨rfl, hw⟩ := hw
    have hc0 := rm_c hc0 he1
    have hn0 := rm_c hn0 he2
    refine j_iload_n F 1 d_BLB_crash_4 rfl ?_
    obtain ⟨hc1, hwt, hwf⟩ := hw
    refine j_if_ge F 19 hc1 d_BLB_crash_5 rfl (fun hh => ?_) (fun hh => ?_)
    · have hw := hwt hh
      refine j_aload_n F 0 d_BLB_crash_19 rfl ?_
      obtain ⟨hc1, q_7, hc2, hw⟩ := hw
      refine c_getr F K hT 1 5 rfl tu_LandBook (by decide) (by decide) rfl tq_451 (Or.inl rfl) hc1 hc2 d_BLB_crash_20 ?_
      refine j_iload_n F 1 d_BLB_crash_23 rfl ?_
      obtain ⟨hg1, hw⟩ := hw
      refine c_callVv F K hT (c_BLg_tear l hw) (tw_gV tq_603 tq_604 tq_605 tq_424 tq_606) 6 rfl (by decide) hg1 q_BLg_tear rfl ⟨by decide, by decide⟩ ⟨rm_z hc0, rm_z hn0⟩ rfl (Nat.le_of_ble_eq_true rfl) d_BLB_crash_24 (fun T_8 hw hT => ?_)
      refine j_aload_n F 0 d_BLB_crash_27 rfl ?_
      refine j_iconst F d_BLB_crash_28 ?_
      obtain ⟨hc1, hw⟩ := hw
      refine c_puti F K hT 1 6 rfl tu_LandBook (by decide) (by decide) rfl tq_464 (Or.inl rfl) t_LandBook t_LandBook_ok n_LandBook rfl (ty := .boolean) (by decide +kernel) rfl rfl hc1 d_BLB_crash_29 (fun T_10 e_T_10 hT => ?_)
      have hw := hw T_10 e_T_10
      refine j_aload_n F 0 d_BLB_crash_32 rfl ?_
      obtain ⟨hc1, q_11, hc2, hw⟩ := hw
      refine c_getr F K hT 1 5 rfl tu_LandBook (by decide) (by decide) rfl tq_451 (Or.inl rfl) hc1 hc2 d_BLB_crash_33 ?_
      obtain ⟨hc1, hw⟩ := hw
      refine c_geti F K hT 6 1 rfl tu_Log (by decide) (by decide) rfl tq_452 (Or.inl rfl) hc1 d_BLB_crash_36 ?_
      exact hri _ _ _ _ _ _ rfl ⟨_, rfl, hw⟩ hT (rm_y hc0) (rm_y hn0) d_BLB_crash_39
    · have hw := hwf hh
      obtain ⟨⟨hr1, hr2⟩, hw⟩ := hw
      exact hthr _ _ _ _ _ _ "a negative number of words" 258 260 262 3 hw hT (by decide) (by decide) (by decide) tq_469 tq_470 d_BLB_crash_8 d_BLB_crash_11 (Or.inr ⟨rfl, d_BLB_crash_12⟩) d_BLB_crash_15 d_BLB_crash_18 (rm_t hc0 hr1) (rm_t hn0 hr2)
  exact key mc ms 0 0 rfl rfl rfl rfl (Nat.zero_add _) (Nat.zero_add _)
theorem tq_607 : (Jvm.Cond.fieldLink "LandBook" (272 : Nat) "LandBook" "mounts" "I") ∈ tw_G := tw_in (List.mem_of_getElem? (i := 233) (by decide +kernel)) rfl
theorem tq_608 : (Jvm.Cond.methodLink "LandBook" (277 : Nat) ({ cls := "LandBook$Log", name := "recordLength", desc := "(I)I" } : Jvm.MethodName)) ∈ tw_G := tw_in (List.mem_of_getElem? (i := 1023) (by decide +kernel)) rfl
theorem tq_609 : (Jvm.Cond.instanceMethod ({ cls := "LandBook$Log", name := "recordLength", desc := "(I)I" } : Jvm.MethodName)) ∈ tw_G := tw_in (List.mem_of_getElem? (i := 1024) (by decide +kernel)) rfl
theorem tq_610 : (Jvm.Cond.selects "LandBook$Log" ({ cls := "LandBook$Log", name := "recordLength", desc := "(I)I" } : Jvm.MethodName) ({ cls := "LandBook$Log", name := "recordLength", desc := "(I)I" } : Jvm.MethodName)) ∈ tw_G := tw_in (List.mem_of_getElem? (i := 1025) (by decide +kernel)) rfl
theorem tq_611 : (Jvm.Cond.code ({ cls := "LandBook$Log", name := "recordLength", desc := "(I)I" } : Jvm.MethodName) prog_6_method_7_code (4 : Nat) (Option.some Jvm.ClassFile.FieldType.int)) ∈ tw_G := tw_in (List.mem_of_getElem? (i := 1026) (by decide +kernel)) rfl
theorem tq_612 : (Jvm.Cond.methodLink "LandBook" (280 : Nat) ({ cls := "LandBook$Register", name := "cutBack", desc := "(I)V" } : Jvm.MethodName)) ∈ tw_G := tw_in (List.mem_of_getElem? (i := 1027) (by decide +kernel)) rfl
theorem tq_613 : (Jvm.Cond.instanceMethod ({ cls := "LandBook$Register", name := "cutBack", desc := "(I)V" } : Jvm.MethodName)) ∈ tw_G := tw_in (List.mem_of_getElem? (i := 1028) (by decide +kernel)) rfl
theorem tq_614 : (Jvm.Cond.selects "LandBook$Register" ({ cls := "LandBook$Register", name := "cutBack", desc := "(I)V" } : Jvm.MethodName) ({ cls := "LandBook$Register", name := "cutBack", desc := "(I)V" } : Jvm.MethodName)) ∈ tw_G := tw_in (List.mem_of_getElem? (i := 1029) (by decide +kernel)) rfl
theorem tq_615 : (Jvm.Cond.code ({ cls := "LandBook$Register", name := "cutBack", desc := "(I)V" } : Jvm.MethodName) prog_10_method_25_code (3 : Nat) (Option.none : Option Jvm.ClassFile.FieldType)) ∈ tw_G := tw_in (List.mem_of_getElem? (i := 1030) (by decide +kernel)) rfl
abbrev y_BLB_mount : MethodName := ⟨"LandBook", "mount", "()I"⟩
theorem q_BLB_mount : y_BLB_mount.cls = "LandBook" ∧ y_BLB_mount.cls ≠ "java/lang/invoke/MethodHandle" ∧ y_BLB_mount.cls ≠ "java/lang/invoke/VarHandle" ∧ (parseMethodDescriptor y_BLB_mount.desc).map (fun d => d.parameters.length) = some 0 := by decide +kernel
theorem d_BLB_mount_0 : decode prog_1_method_22_code 0 = .ok (.aload_n 0, 1) := by decide +kernel
theorem d_BLB_mount_1 : decode prog_1_method_22_code 1 = .ok (.getfield 38, 3) := by decide +kernel
theorem d_BLB_mount_4 : decode prog_1_method_22_code 4 = .ok (.invokevirtual 76, 3) := by decide +kernel
theorem d_BLB_mount_7 : decode prog_1_method_22_code 7 = .ok (.ifCond .ne 14, 3) := by decide +kernel
theorem d_BLB_mount_21 : decode prog_1_method_22_code 21 = .ok (.aload_n 0, 1) := by decide +kernel
theorem d_BLB_mount_22 : decode prog_1_method_22_code 22 = .ok (.getfield 272, 3) := by decide +kernel
theorem d_BLB_mount_25 : decode prog_1_method_22_code 25 = .ok (.bipush 40, 2) := by decide +kernel
theorem d_BLB_mount_27 : decode prog_1_method_22_code 27 = .ok (.if_icmp .lt 14, 3) := by decide +kernel
theorem d_BLB_mount_41 : decode prog_1_method_22_code 41 = .ok (.aload_n 0, 1) := by decide +kernel
theorem d_BLB_mount_42 : decode prog_1_method_22_code 42 = .ok (.dup, 1) := by decide +kernel
theorem d_BLB_mount_43 : decode prog_1_method_22_code 43 = .ok (.getfield 272, 3) := by decide +kernel
theorem d_BLB_mount_46 : decode prog_1_method_22_code 46 = .ok (.iconst 1, 1) := by decide +kernel
theorem d_BLB_mount_47 : decode prog_1_method_22_code 47 = .ok (.iadd, 1) := by decide +kernel
theorem d_BLB_mount_48 : decode prog_1_method_22_code 48 = .ok (.putfield 272, 3) := by decide +kernel
theorem d_BLB_mount_51 : decode prog_1_method_22_code 51 = .ok (.aload_n 0, 1) := by decide +kernel
theorem d_BLB_mount_52 : decode prog_1_method_22_code 52 = .ok (.iconst 0, 1) := by decide +kernel
theorem d_BLB_mount_53 : decode prog_1_method_22_code 53 = .ok (.putfield 266, 3) := by decide +kernel
theorem d_BLB_mount_56 : decode prog_1_method_22_code 56 = .ok (.iconst 0, 1) := by decide +kernel
theorem d_BLB_mount_57 : decode prog_1_method_22_code 57 = .ok (.istore_n 1, 1) := by decide +kernel
theorem d_BLB_mount_58 : decode prog_1_method_22_code 58 = .ok (.iconst 0, 1) := by decide +kernel
theorem d_BLB_mount_59 : decode prog_1_method_22_code 59 = .ok (.istore_n 2, 1) := by decide +kernel
theorem d_BLB_mount_30 : decode prog_1_method_22_code 30 = .ok (.new 57, 3) := by decide +kernel
theorem d_BLB_mount_33 : decode prog_1_method_22_code 33 = .ok (.dup, 1) := by decide +kernel
theorem d_BLB_mount_34 : decode prog_1_method_22_code 34 = .ok (.ldc_w 275, 3) := by decide +kernel
theorem d_BLB_mount_37 : decode prog_1_method_22_code 37 = .ok (.invokespecial 61, 3) := by decide +kernel
theorem d_BLB_mount_40 : decode prog_1_method_22_code 40 = .ok (.athrow, 1) := by decide +kernel
theorem d_BLB_mount_10 : decode prog_1_method_22_code 10 = .ok (.new 80, 3) := by decide +kernel
theorem d_BLB_mount_13 : decode prog_1_method_22_code 13 = .ok (.dup, 1) := by decide +kernel
theorem d_BLB_mount_14 : decode prog_1_method_22_code 14 = .ok (.ldc_w 270, 3) := by decide +kernel
theorem d_BLB_mount_17 : decode prog_1_method_22_code 17 = .ok (.invokespecial 84, 3) := by decide +kernel
theorem d_BLB_mount_20 : decode prog_1_method_22_code 20 = .ok (.athrow, 1) := by decide +kernel
theorem d_BLB_mount_60 : decode prog_1_method_22_code 60 = .ok (.iload_n 1, 1) := by decide +kernel
theorem d_BLB_mount_61 : decode prog_1_method_22_code 61 = .ok (.aload_n 0, 1) := by decide +kernel
theorem d_BLB_mount_62 : decode prog_1_method_22_code 62 = .ok (.getfield 45, 3) := by decide +kernel
theorem d_BLB_mount_65 : decode prog_1_method_22_code 65 = .ok (.getfield 247, 3) := by decide +kernel
theorem d_BLB_mount_68 : decode prog_1_method_22_code 68 = .ok (.if_icmp .ge 29, 3) := by decide +kernel
theorem d_BLB_mount_71 : decode prog_1_method_22_code 71 = .ok (.aload_n 0, 1) := by decide +kernel
theorem d_BLB_mount_72 : decode prog_1_method_22_code 72 = .ok (.getfield 45, 3) := by decide +kernel
theorem d_BLB_mount_75 : decode prog_1_method_22_code 75 = .ok (.iload_n 1, 1) := by decide +kernel
theorem d_BLB_mount_76 : decode prog_1_method_22_code 76 = .ok (.invokevirtual 277, 3) := by decide +kernel
theorem d_BLB_mount_79 : decode prog_1_method_22_code 79 = .ok (.istore_n 3, 1) := by decide +kernel
theorem d_BLB_mount_80 : decode prog_1_method_22_code 80 = .ok (.iload_n 3, 1) := by decide +kernel
theorem d_BLB_mount_81 : decode prog_1_method_22_code 81 = .ok (.ifCond .gt 6, 3) := by decide +kernel
theorem d_BLB_mount_87 : decode prog_1_method_22_code 87 = .ok (.iload_n 1, 1) := by decide +kernel
theorem d_BLB_mount_88 : decode prog_1_method_22_code 88 = .ok (.iload_n 3, 1) := by decide +kernel
theorem d_BLB_mount_89 : decode prog_1_method_22_code 89 = .ok (.iadd, 1) := by decide +kernel
theorem d_BLB_mount_90 : decode prog_1_method_22_code 90 = .ok (.istore_n 1, 1) := by decide +kernel
theorem d_BLB_mount_91 : decode prog_1_method_22_code 91 = .ok (.iinc 2 1, 3) := by decide +kernel
theorem d_BLB_mount_94 : decode prog_1_method_22_code 94 = .ok (.goto (-34), 3) := by decide +kernel
theorem d_BLB_mount_84 : decode prog_1_method_22_code 84 = .ok (.goto 13, 3) := by decide +kernel
theorem d_BLB_mount_97 : decode prog_1_method_22_code 97 = .ok (.aload_n 0, 1) := by decide +kernel
theorem d_BLB_mount_98 : decode prog_1_method_22_code 98 = .ok (.getfield 45, 3) := by decide +kernel
theorem d_BLB_mount_101 : decode prog_1_method_22_code 101 = .ok (.iload_n 1, 1) := by decide +kernel
theorem d_BLB_mount_102 : decode prog_1_method_22_code 102 = .ok (.invokevirtual 256, 3) := by decide +kernel
theorem d_BLB_mount_105 : decode prog_1_method_22_code 105 = .ok (.aload_n 0, 1) := by decide +kernel
theorem d_BLB_mount_106 : decode prog_1_method_22_code 106 = .ok (.getfield 38, 3) := by decide +kernel
theorem d_BLB_mount_109 : decode prog_1_method_22_code 109 = .ok (.iload_n 2, 1) := by decide +kernel
theorem d_BLB_mount_110 : decode prog_1_method_22_code 110 = .ok (.invokevirtual 280, 3) := by decide +kernel
theorem d_BLB_mount_113 : decode prog_1_method_22_code 113 = .ok (.aload_n 0, 1) := by decide +kernel
theorem d_BLB_mount_114 : decode prog_1_method_22_code 114 = .ok (.getfield 38, 3) := by decide +kernel
theorem d_BLB_mount_117 : decode prog_1_method_22_code 117 = .ok (.invokevirtual 173, 3) := by decide +kernel
theorem d_BLB_mount_120 : decode prog_1_method_22_code 120 = .ok (.ireturn, 1) := by decide +kernel
def wp_BLB_mount_97 (post : Int → CS → Prop) (pe : String → CS → Prop) (mc0 : Nat) (ms0 : Nat) (v0 : Nat) (v1 : Int) (v2 : Int) (T : CS) : Prop := tg T v0 = 1 ∧ ∃ q_1 : Nat, fo T v0 5 = some q_1 ∧ (tg T q_1 = 6 ∧ wp_BLg_keep (fun T_2 => tg T_2 v0 = 1 ∧ ∃ q_4 : Nat, fo T_2 v0 4 = some q_4 ∧ (tg T_2 q_4 = 5 ∧ wp_BRg_cutBack (fun T_5 => tg T_5 v0 = 1 ∧ ∃ q_7 : Nat, fo T_5 v0 4 = some q_7 ∧ (tg T_5 q_7 = 5 ∧ wp_BRg_lastEntry (fun r_9 T_8 => post r_9 T_8) q_7 T_5)) q_4 v2 T_2)) q_1 v1 T)
def wp_BLB_mount_60 (post : Int → CS → Prop) (pe : String → CS → Prop) : Nat → Nat → Nat → Nat → Int → Int → CS → Prop
  | 0, _, _, _, _, _, _ => False
  | n + 1, mc0, ms0, v0, v1, v2, T => tg T v0 = 1 ∧ ∃ q_1 : Nat, fo T v0 5 = some q_1 ∧ (tg T q_1 = 6 ∧ (inR v1 ∧ inR (fi T q_1 1) ∧ ((fi T q_1 1) ≤ v1 → wp_BLB_mount_97 post pe mc0 ms0 v0 v1 v2 T) ∧ (¬ ((fi T q_1 1) ≤ v1) → (tg T v0 = 1 ∧ ∃ q_2 : Nat, fo T v0 5 = some q_2 ∧ (tg T q_2 = 6 ∧ wp_BLg_recordLength (fun r_4 T_3 => inR r_4 ∧ (0 < r_4 → (∀ v1_5 : Int, v1_5 = (v1 + r_4) → (wp_BLB_mount_60 post pe n) mc0 ms0 v0 v1_5 (v2 + 1) T_3)) ∧ (¬ (0 < r_4) → wp_BLB_mount_97 post pe mc0 ms0 v0 v1 v2 T_3)) q_2 v1 T)))))
def wp_BLB_mount (post : Int → CS → Prop) (pe : String → CS → Prop) (mc0 ms0 : Nat) (v0 : Nat) (T : CS) : Prop := tg T v0 = 1 ∧ ∃ q_1 : Nat, fo T v0 4 = some q_1 ∧ (tg T q_1 = 5 ∧ wp_BRg_lotCount (fun r_3 T_2 => inR r_3 ∧ (¬ (r_3 = 0) → (tg T_2 v0 = 1 ∧ (inR (fi T_2 v0 7) ∧ ((fi T_2 v0 7) < 40 → (tg T_2 v0 = 1 ∧ (tg T_2 v0 = 1 ∧ ((∀ T_4 : CS, T_4 = cs_i T_2 v0 7 ((fi T_2 v0 7) + 1) → tg T_4 v0 = 1 ∧ ((∀ T_5 : CS, T_5 = cs_i T_4 v0 6 0 → ∃ nn : Nat, wp_BLB_mount_60 post pe nn mc0 ms0 v0 0 0 T_5))))))) ∧ (¬ ((fi T_2 v0 7) < 40) → ((1 ≤ mc0 ∧ 6 ≤ ms0) ∧ pe "java/lang/UnsupportedOperationException" T_2))))) ∧ (r_3 = 0 → ((1 ≤ mc0 ∧ 6 ≤ ms0) ∧ pe "java/lang/IllegalStateException" T_2))) q_1 T)
set_option maxHeartbeats 4000000 in
set_option maxRecDepth 100000 in
theorem c_BLB_mount (l : Launch) (hfl : l.flags = pinnedFlags ++ [noTraceFlag]) {D : va_G} {k : CK} {post : Int → CS → Prop} {pe : String → CS → Prop} {mc ms : Nat} {v0 : Nat} {T : CS} (hw : wp_BLB_mount post pe mc ms v0 T) : jE l D k y_BLB_mount prog_1_method_22_code 4 (some .int) 6 128 mc ms T [.ref v0] (rtI post) pe := by
  refine j_eo hfl (by decide) rfl (Nat.le_of_ble_eq_true rfl) (by decide) (by decide) (fun X F K E hT Pr hthr hri hrz hrv => ?_)
  have B97 : ∀ (mc0 : Nat) (ms0 : Nat) (v0 : Nat) (v1 : Int) (v2 : Int) (T : CS) (c0 n0 : Nat), c0 + mc0 = mc → n0 + ms0 = ms → cs_ok k T → wp_BLB_mount_97 post pe mc0 ms0 v0 v1 v2 T → jat l D X 4 97 [(0, .ref v0), (1, vi v1), (2, vi v2)] [] (cwd k T) c0 n0 := by
    intro mc0 ms0 v0 v1 v2 T c0 n0 hc0 hn0 hT hw
    unfold wp_BLB_mount_97 at hw
    refine j_aload_n F 0 d_BLB_mount_97 rfl ?_
    obtain ⟨hc1, q_1, hc2, hw⟩ := hw
    refine c_getr F K hT 1 5 rfl tu_LandBook (by decide) (by decide) rfl tq_451 (Or.inl rfl) hc1 hc2 d_BLB_mount_98 ?_
    refine j_iload_n F 1 d_BLB_mount_101 rfl ?_
    obtain ⟨hg1, hw⟩ := hw
    refine c_callVv F K hT (c_BLg_keep l hw) (tw_gV tq_599 tq_600 tq_601 tq_424 tq_602) 6 rfl (by decide) hg1 q_BLg_keep rfl ⟨by decide, by decide⟩ ⟨rm_z hc0, rm_z hn0⟩ rfl (Nat.le_of_ble_eq_true rfl) d_BLB_mount_102 (fun T_2 hw hT => ?_)
    refine j_aload_n F 0 d_BLB_mount_105 rfl ?_
    obtain ⟨hc1, q_4, hc2, hw⟩ := hw
    refine c_getr F K hT 1 4 rfl tu_LandBook (by decide) (by decide) rfl tq_441 (Or.inl rfl) hc1 hc2 d_BLB_mount_106 ?_
    refine j_iload_n F 2 d_BLB_mount_109 rfl ?_
    obtain ⟨hg1, hw⟩ := hw
    refine c_callVv F K hT (c_BRg_cutBack l hw) (tw_gV tq_612 tq_613 tq_614 tq_336 tq_615) 5 rfl (by decide) hg1 q_BRg_cutBack rfl ⟨by decide, by decide⟩ ⟨rm_z hc0, rm_z hn0⟩ rfl (Nat.le_of_ble_eq_true rfl) d_BLB_mount_110 (fun T_5 hw hT => ?_)
    refine j_aload_n F 0 d_BLB_mount_113 rfl ?_
    obtain ⟨hc1, q_7, hc2, hw⟩ := hw
    refine c_getr F K hT 1 4 rfl tu_LandBook (by decide) (by decide) rfl tq_441 (Or.inl rfl) hc1 hc2 d_BLB_mount_114 ?_
    obtain ⟨hg1, hw⟩ := hw
    refine c_callVi F K hT (c_BRg_lastEntry l hw) (tw_gV tq_442 tq_363 tq_364 tq_336 tq_365) 5 rfl (by decide) hg1 q_BRg_lastEntry rfl ⟨by decide, by decide⟩ ⟨rm_z hc0, rm_z hn0⟩ rfl (Nat.le_of_ble_eq_true rfl) d_BLB_mount_117 (fun r_9 T_8 hw hT => ?_)
    exact hri _ _ _ _ _ _ rfl ⟨_, rfl, hw⟩ hT (rm_y hc0) (rm_y hn0) d_BLB_mount_120
  have B60 : ∀ (nn : Nat) (mc0 : Nat) (ms0 : Nat) (v0 : Nat) (v1 : Int) (v2 : Int) (T : CS) (c0 n0 : Nat), c0 + mc0 = mc → n0 + ms0 = ms → cs_ok k T → wp_BLB_mount_60 post pe nn mc0 ms0 v0 v1 v2 T → jat l D X 4 60 [(0, .ref v0), (1, vi v1), (2, vi v2)] [] (cwd k T) c0 n0 := by
    intro nn
    induction nn with
    | zero => intro mc0 ms0 v0 v1 v2 T c0 n0 hc0 hn0 hT hw; exact hw.elim
    | succ n60 ih60 =>
      intro mc0 ms0 v0 v1 v2 T c0 n0 hc0 hn0 hT hw
      unfold wp_BLB_mount_60 at hw
      refine j_iload_n F 1 d_BLB_mount_60 rfl ?_
      refine j_aload_n F 0 d_BLB_mount_61 rfl ?_
      obtain ⟨hc1, q_1, hc2, hw⟩ := hw
      refine c_getr F K hT 1 5 rfl tu_LandBook (by decide) (by decide) rfl tq_451 (Or.inl rfl) hc1 hc2 d_BLB_mount_62 ?_
      obtain ⟨hc1, hw⟩ := hw
      refine c_geti F K hT 6 1 rfl tu_Log (by decide) (by decide) rfl tq_452 (Or.inl rfl) hc1 d_BLB_mount_65 ?_
      obtain ⟨hc1, hc2, hwt, hwf⟩ := hw
      refine j_icmp_ge F 97 hc1 hc2 d_BLB_mount_68 rfl (fun hh => ?_) (fun hh => ?_)
      · have hw := hwt hh
        exact B97 _ _ _ _ _ _ _ _ hc0 hn0 hT hw
      · have hw := hwf hh
        refine j_aload_n F 0 d_BLB_mount_71 rfl ?_
        obtain ⟨hc1, q_2, hc2, hw⟩ := hw
        refine c_getr F K hT 1 5 rfl tu_LandBook (by decide) (by decide) rfl tq_451 (Or.inl rfl) hc1 hc2 d_BLB_mount_72 ?_
        refine j_iload_n F 1 d_BLB_mount_75 rfl ?_
        obtain ⟨hg1, hw⟩ := hw
        refine c_callVi F K hT (c_BLg_recordLength l hw) (tw_gV tq_608 tq_609 tq_610 tq_424 tq_611) 6 rfl (by decide) hg1 q_BLg_recordLength rfl ⟨by decide, by decide⟩ ⟨rm_z hc0, rm_z hn0⟩ rfl (Nat.le_of_ble_eq_true rfl) d_BLB_mount_76 (fun r_4 T_3 hw hT => ?_)
        refine j_istore_n F [(3, vi r_4), (0, .ref v0), (1, vi v1), (2, vi v2)] d_BLB_mount_79 (by decide) rfl ?_
        refine j_iload_n F 0 d_BLB_mount_80 rfl ?_
        obtain ⟨hc1, hwt, hwf⟩ := hw
        refine j_if_gt F 87 hc1 d_BLB_mount_81 rfl (fun hh => ?_) (fun hh => ?_)
        · have hw := hwt hh
          refine j_iload_n F 2 d_BLB_mount_87 rfl ?_
          refine j_iload_n F 0 d_BLB_mount_88 rfl ?_
          refine j_iadd F d_BLB_mount_89 ?_
          refine j_nmi (fun v1_5 e_v1_5 => ?_)
          have hw := hw v1_5 e_v1_5
          refine j_istore_n F [(1, vi v1_5), (3, vi r_4), (0, .ref v0), (2, vi v2)] d_BLB_mount_90 (by decide) rfl ?_
          refine j_iinc F 3 [(2, vi (v2 + 1)), (1, vi v1_5), (3, vi r_4), (0, .ref v0)] d_BLB_mount_91 rfl (by decide) rfl ?_
          refine j_goto F 60 d_BLB_mount_94 rfl ?_
          refine j_sub [3, 1, 0] rfl ?_
          exact ih60 _ _ _ _ _ _ _ _ hc0 hn0 hT hw
        · have hw := hwf hh
          refine j_goto F 97 d_BLB_mount_84 rfl ?_
          refine j_sub [1, 2, 3] rfl ?_
          exact B97 _ _ _ _ _ _ _ _ hc0 hn0 hT hw
  unfold wp_BLB_mount at hw
  have key : ∀ (mc0 ms0 c0 n0 : Nat), mc0 = mc → ms0 = ms → c0 = 0 → n0 = 0 → c0 + mc0 = mc → n0 + ms0 = ms → jat l D X 4 0 [(0, .ref v0)] [] (cwd k T) c0 n0 := by
    intro mc0 ms0 c0 n0 hm1 hm2 hz1 hz2 hc0 hn0
    subst hm1; subst hm2
    clear hz1 hz2
    refine j_aload_n F 0 d_BLB_mount_0 rfl ?_
    obtain ⟨hc1, q_1, hc2, hw⟩ := hw
    refine c_getr F K hT 1 4 rfl tu_LandBook (by decide) (by decide) rfl tq_441 (Or.inl rfl) hc1 hc2 d_BLB_mount_1 ?_
    obtain ⟨hg1, hw⟩ := hw
    refine c_callVi F K hT (c_BRg_lotCount l hw) (tw_gV tq_443 tq_444 tq_445 tq_336 tq_446) 5 rfl (by decide) hg1 q_BRg_lotCount rfl ⟨by decide, by decide⟩ ⟨rm_z hc0, rm_z hn0⟩ rfl (Nat.le_of_ble_eq_true rfl) d_BLB_mount_4 (fun r_3 T_2 hw hT => ?_)
    obtain ⟨hc1, hwt, hwf⟩ := hw
    refine j_if_ne F 21 hc1 d_BLB_mount_7 rfl (fun hh => ?_) (fun hh => ?_)
    · have hw := hwt hh
      refine j_aload_n F 0 d_BLB_mount_21 rfl ?_
      obtain ⟨hc1, hw⟩ := hw
      refine c_geti F K hT 1 7 rfl tu_LandBook (by decide) (by decide) rfl tq_607 (Or.inl rfl) hc1 d_BLB_mount_22 ?_
      refine j_bipush F d_BLB_mount_25 (j_bip (by decide) (by decide)) ?_
      obtain ⟨hc1, hwt, hwf⟩ := hw
      refine j_icmp_lt F 41 hc1 ⟨by decide, by decide⟩ d_BLB_mount_27 rfl (fun hh => ?_) (fun hh => ?_)
      · have hw := hwt hh
        refine j_aload_n F 0 d_BLB_mount_41 rfl ?_
        refine j_dup F rfl d_BLB_mount_42 ?_
        obtain ⟨hc1, hw⟩ := hw
        refine c_geti F K hT 1 7 rfl tu_LandBook (by decide) (by decide) rfl tq_607 (Or.inl rfl) hc1 d_BLB_mount_43 ?_
        refine j_iconst F d_BLB_mount_46 ?_
        refine j_iadd F d_BLB_mount_47 ?_
        obtain ⟨hc1, hw⟩ := hw
        refine c_puti F K hT 1 7 rfl tu_LandBook (by decide) (by decide) rfl tq_607 (Or.inl rfl) t_LandBook t_LandBook_ok n_LandBook rfl (ty := .int) (by decide +kernel) rfl rfl hc1 d_BLB_mount_48 (fun T_4 e_T_4 hT => ?_)
        have hw := hw T_4 e_T_4
        refine j_aload_n F 0 d_BLB_mount_51 rfl ?_
        refine j_iconst F d_BLB_mount_52 ?_
        obtain ⟨hc1, hw⟩ := hw
        refine c_puti F K hT 1 6 rfl tu_LandBook (by decide) (by decide) rfl tq_464 (Or.inl rfl) t_LandBook t_LandBook_ok n_LandBook rfl (ty := .boolean) (by decide +kernel) rfl rfl hc1 d_BLB_mount_53 (fun T_5 e_T_5 hT => ?_)
        have hw := hw T_5 e_T_5
        refine j_iconst F d_BLB_mount_56 ?_
        refine j_istore_n F [(1, vi 0), (0, .ref v0)] d_BLB_mount_57 (by decide) rfl ?_
        refine j_iconst F d_BLB_mount_58 ?_
        refine j_istore_n F [(2, vi 0), (1, vi 0), (0, .ref v0)] d_BLB_mount_59 (by decide) rfl ?_
        refine j_sub [2, 1, 0] rfl ?_
        obtain ⟨nn, hw⟩ := hw
        exact B60 nn _ _ _ _ _ _ _ _ hc0 hn0 hT hw
      · have hw := hwf hh
        obtain ⟨⟨hr1, hr2⟩, hw⟩ := hw
        exact hthr _ _ _ _ _ _ "mounted too often" 57 275 61 3 hw hT (by decide) (by decide) (by decide) tq_481 tq_482 d_BLB_mount_30 d_BLB_mount_33 (Or.inr ⟨rfl, d_BLB_mount_34⟩) d_BLB_mount_37 d_BLB_mount_40 (rm_t hc0 hr1) (rm_t hn0 hr2)
    · have hw := hwf hh
      obtain ⟨⟨hr1, hr2⟩, hw⟩ := hw
      exact hthr _ _ _ _ _ _ "there is no district" 80 270 84 3 hw hT (by decide) (by decide) (by decide) tq_465 tq_466 d_BLB_mount_10 d_BLB_mount_13 (Or.inr ⟨rfl, d_BLB_mount_14⟩) d_BLB_mount_17 d_BLB_mount_20 (rm_t hc0 hr1) (rm_t hn0 hr2)
  exact key mc ms 0 0 rfl rfl rfl rfl (Nat.zero_add _) (Nat.zero_add _)
