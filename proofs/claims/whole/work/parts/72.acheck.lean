theorem tq_464 : (Jvm.Cond.fieldLink "LandBook" (266 : Nat) "LandBook" "down" "Z") ∈ tw_G := tw_in (List.mem_of_getElem? (i := 232) (by decide +kernel)) rfl
theorem tq_465 : (Jvm.Cond.classLink "LandBook" (80 : Nat) "java/lang/IllegalStateException") ∈ tw_G := tw_in (List.mem_of_getElem? (i := 387) (by decide +kernel)) rfl
theorem tq_466 : (Jvm.Cond.initialized "java/lang/IllegalStateException") ∈ tw_G := tw_in (List.mem_of_getElem? (i := 77) (by decide +kernel)) rfl
abbrev y_BLB_checkUp : MethodName := ⟨"LandBook", "checkUp", "()V"⟩
theorem q_BLB_checkUp : y_BLB_checkUp.cls = "LandBook" ∧ y_BLB_checkUp.cls ≠ "java/lang/invoke/MethodHandle" ∧ y_BLB_checkUp.cls ≠ "java/lang/invoke/VarHandle" ∧ (parseMethodDescriptor y_BLB_checkUp.desc).map (fun d => d.parameters.length) = some 0 := by decide +kernel
theorem d_BLB_checkUp_0 : decode prog_1_method_24_code 0 = .ok (.aload_n 0, 1) := by decide +kernel
theorem d_BLB_checkUp_1 : decode prog_1_method_24_code 1 = .ok (.getfield 266, 3) := by decide +kernel
theorem d_BLB_checkUp_4 : decode prog_1_method_24_code 4 = .ok (.ifCond .ne 13, 3) := by decide +kernel
theorem d_BLB_checkUp_7 : decode prog_1_method_24_code 7 = .ok (.aload_n 0, 1) := by decide +kernel
theorem d_BLB_checkUp_8 : decode prog_1_method_24_code 8 = .ok (.getfield 38, 3) := by decide +kernel
theorem d_BLB_checkUp_11 : decode prog_1_method_24_code 11 = .ok (.invokevirtual 76, 3) := by decide +kernel
theorem d_BLB_checkUp_14 : decode prog_1_method_24_code 14 = .ok (.ifCond .ne 14, 3) := by decide +kernel
theorem d_BLB_checkUp_28 : decode prog_1_method_24_code 28 = .ok (.return_, 1) := by decide +kernel
theorem d_BLB_checkUp_17 : decode prog_1_method_24_code 17 = .ok (.new 80, 3) := by decide +kernel
theorem d_BLB_checkUp_20 : decode prog_1_method_24_code 20 = .ok (.dup, 1) := by decide +kernel
theorem d_BLB_checkUp_21 : decode prog_1_method_24_code 21 = .ok (.ldc_w 286, 3) := by decide +kernel
theorem d_BLB_checkUp_24 : decode prog_1_method_24_code 24 = .ok (.invokespecial 84, 3) := by decide +kernel
theorem d_BLB_checkUp_27 : decode prog_1_method_24_code 27 = .ok (.athrow, 1) := by decide +kernel
def wp_BLB_checkUp_17 (post : CS → Prop) (pe : String → CS → Prop) (mc0 : Nat) (ms0 : Nat) (T : CS) : Prop := (1 ≤ mc0 ∧ 6 ≤ ms0) ∧ pe "java/lang/IllegalStateException" T
def wp_BLB_checkUp (post : CS → Prop) (pe : String → CS → Prop) (mc0 ms0 : Nat) (v0 : Nat) (T : CS) : Prop := tg T v0 = 1 ∧ (inR (fi T v0 6) ∧ (¬ ((fi T v0 6) = 0) → wp_BLB_checkUp_17 post pe mc0 ms0 T) ∧ ((fi T v0 6) = 0 → (tg T v0 = 1 ∧ ∃ q_1 : Nat, fo T v0 4 = some q_1 ∧ (tg T q_1 = 5 ∧ wp_BRg_lotCount (fun r_3 T_2 => inR r_3 ∧ (¬ (r_3 = 0) → post T_2) ∧ (r_3 = 0 → wp_BLB_checkUp_17 post pe mc0 ms0 T_2)) q_1 T))))
set_option maxHeartbeats 4000000 in
set_option maxRecDepth 100000 in
theorem c_BLB_checkUp (l : Launch) (hfl : l.flags = pinnedFlags ++ [noTraceFlag]) {D : va_G} {k : CK} {post : CS → Prop} {pe : String → CS → Prop} {mc ms : Nat} {v0 : Nat} {T : CS} (hw : wp_BLB_checkUp post pe mc ms v0 T) : jE l D k y_BLB_checkUp prog_1_method_24_code 1 none 6 82 mc ms T [.ref v0] (rtV post) pe := by
  refine j_eo hfl (by decide) rfl (Nat.le_of_ble_eq_true rfl) (by decide) (by decide) (fun X F K E hT Pr hthr hri hrz hrv => ?_)
  have B17 : ∀ (mc0 : Nat) (ms0 : Nat) (T : CS) (c0 n0 : Nat), c0 + mc0 = mc → n0 + ms0 = ms → cs_ok k T → wp_BLB_checkUp_17 post pe mc0 ms0 T → jat l D X 1 17 [] [] (cwd k T) c0 n0 := by
    intro mc0 ms0 T c0 n0 hc0 hn0 hT hw
    unfold wp_BLB_checkUp_17 at hw
    obtain ⟨⟨hr1, hr2⟩, hw⟩ := hw
    exact hthr _ _ _ _ _ _ "no district, or it is down" 80 286 84 3 hw hT (by decide) (by decide) (by decide) tq_465 tq_466 d_BLB_checkUp_17 d_BLB_checkUp_20 (Or.inr ⟨rfl, d_BLB_checkUp_21⟩) d_BLB_checkUp_24 d_BLB_checkUp_27 (rm_t hc0 hr1) (rm_t hn0 hr2)
  unfold wp_BLB_checkUp at hw
  have key : ∀ (mc0 ms0 c0 n0 : Nat), mc0 = mc → ms0 = ms → c0 = 0 → n0 = 0 → c0 + mc0 = mc → n0 + ms0 = ms → jat l D X 1 0 [(0, .ref v0)] [] (cwd k T) c0 n0 := by
    intro mc0 ms0 c0 n0 hm1 hm2 hz1 hz2 hc0 hn0
    subst hm1; subst hm2
    clear hz1 hz2
    refine j_aload_n F 0 d_BLB_checkUp_0 rfl ?_
    obtain ⟨hc1, hw⟩ := hw
    refine c_geti F K hT 1 6 rfl tu_LandBook (by decide) (by decide) rfl tq_464 (Or.inl rfl) hc1 d_BLB_checkUp_1 ?_
    obtain ⟨hc1, hwt, hwf⟩ := hw
    refine j_if_ne F 17 hc1 d_BLB_checkUp_4 rfl (fun hh => ?_) (fun hh => ?_)
    · have hw := hwt hh
      refine j_sub [] rfl ?_
      exact B17 _ _ _ _ _ hc0 hn0 hT hw
    · have hw := hwf hh
      refine j_aload_n F 0 d_BLB_checkUp_7 rfl ?_
      obtain ⟨hc1, q_1, hc2, hw⟩ := hw
      refine c_getr F K hT 1 4 rfl tu_LandBook (by decide) (by decide) rfl tq_441 (Or.inl rfl) hc1 hc2 d_BLB_checkUp_8 ?_
      obtain ⟨hg1, hw⟩ := hw
      refine c_callVi F K hT (c_BRg_lotCount l hw) (tw_gV tq_443 tq_444 tq_445 tq_336 tq_446) 5 rfl (by decide) hg1 q_BRg_lotCount rfl ⟨by decide, by decide⟩ ⟨rm_z hc0, rm_z hn0⟩ rfl (Nat.le_of_ble_eq_true rfl) d_BLB_checkUp_11 (fun r_3 T_2 hw hT => ?_)
      obtain ⟨hc1, hwt, hwf⟩ := hw
      refine j_if_ne F 28 hc1 d_BLB_checkUp_14 rfl (fun hh => ?_) (fun hh => ?_)
      · have hw := hwt hh
        exact hrv _ _ _ _ _ rfl ⟨rfl, hw⟩ hT (rm_y hc0) (rm_y hn0) d_BLB_checkUp_28
      · have hw := hwf hh
        refine j_sub [] rfl ?_
        exact B17 _ _ _ _ _ hc0 hn0 hT hw
  exact key mc ms 0 0 rfl rfl rfl rfl (Nat.zero_add _) (Nat.zero_add _)
theorem tq_467 : (Jvm.Cond.classLink "LandBook" (189 : Nat) "java/lang/IndexOutOfBoundsException") ∈ tw_G := tw_in (List.mem_of_getElem? (i := 553) (by decide +kernel)) rfl
theorem tq_468 : (Jvm.Cond.initialized "java/lang/IndexOutOfBoundsException") ∈ tw_G := tw_in (List.mem_of_getElem? (i := 84) (by decide +kernel)) rfl
abbrev y_BLB_checkLot : MethodName := ⟨"LandBook", "checkLot", "(I)V"⟩
theorem q_BLB_checkLot : y_BLB_checkLot.cls = "LandBook" ∧ y_BLB_checkLot.cls ≠ "java/lang/invoke/MethodHandle" ∧ y_BLB_checkLot.cls ≠ "java/lang/invoke/VarHandle" ∧ (parseMethodDescriptor y_BLB_checkLot.desc).map (fun d => d.parameters.length) = some 1 := by decide +kernel
theorem d_BLB_checkLot_0 : decode prog_1_method_25_code 0 = .ok (.iload_n 1, 1) := by decide +kernel
theorem d_BLB_checkLot_1 : decode prog_1_method_25_code 1 = .ok (.iconst 1, 1) := by decide +kernel
theorem d_BLB_checkLot_2 : decode prog_1_method_25_code 2 = .ok (.if_icmp .lt 14, 3) := by decide +kernel
theorem d_BLB_checkLot_5 : decode prog_1_method_25_code 5 = .ok (.iload_n 1, 1) := by decide +kernel
theorem d_BLB_checkLot_6 : decode prog_1_method_25_code 6 = .ok (.aload_n 0, 1) := by decide +kernel
theorem d_BLB_checkLot_7 : decode prog_1_method_25_code 7 = .ok (.getfield 38, 3) := by decide +kernel
theorem d_BLB_checkLot_10 : decode prog_1_method_25_code 10 = .ok (.invokevirtual 76, 3) := by decide +kernel
theorem d_BLB_checkLot_13 : decode prog_1_method_25_code 13 = .ok (.if_icmp .le 14, 3) := by decide +kernel
theorem d_BLB_checkLot_27 : decode prog_1_method_25_code 27 = .ok (.return_, 1) := by decide +kernel
theorem d_BLB_checkLot_16 : decode prog_1_method_25_code 16 = .ok (.new 189, 3) := by decide +kernel
theorem d_BLB_checkLot_19 : decode prog_1_method_25_code 19 = .ok (.dup, 1) := by decide +kernel
theorem d_BLB_checkLot_20 : decode prog_1_method_25_code 20 = .ok (.ldc_w 288, 3) := by decide +kernel
theorem d_BLB_checkLot_23 : decode prog_1_method_25_code 23 = .ok (.invokespecial 193, 3) := by decide +kernel
theorem d_BLB_checkLot_26 : decode prog_1_method_25_code 26 = .ok (.athrow, 1) := by decide +kernel
def wp_BLB_checkLot_16 (post : CS → Prop) (pe : String → CS → Prop) (mc0 : Nat) (ms0 : Nat) (T : CS) : Prop := (1 ≤ mc0 ∧ 6 ≤ ms0) ∧ pe "java/lang/IndexOutOfBoundsException" T
def wp_BLB_checkLot (post : CS → Prop) (pe : String → CS → Prop) (mc0 ms0 : Nat) (v0 : Nat) (v1 : Int) (T : CS) : Prop := inR v1 ∧ (v1 < 1 → wp_BLB_checkLot_16 post pe mc0 ms0 T) ∧ (¬ (v1 < 1) → (tg T v0 = 1 ∧ ∃ q_1 : Nat, fo T v0 4 = some q_1 ∧ (tg T q_1 = 5 ∧ wp_BRg_lotCount (fun r_3 T_2 => inR v1 ∧ inR r_3 ∧ (v1 ≤ r_3 → post T_2) ∧ (¬ (v1 ≤ r_3) → wp_BLB_checkLot_16 post pe mc0 ms0 T_2)) q_1 T)))
set_option maxHeartbeats 4000000 in
set_option maxRecDepth 100000 in
theorem c_BLB_checkLot (l : Launch) (hfl : l.flags = pinnedFlags ++ [noTraceFlag]) {D : va_G} {k : CK} {post : CS → Prop} {pe : String → CS → Prop} {mc ms : Nat} {v0 : Nat} {v1 : Int} {T : CS} (hw : wp_BLB_checkLot post pe mc ms v0 v1 T) : jE l D k y_BLB_checkLot prog_1_method_25_code 2 none 6 82 mc ms T [.ref v0, vi v1] (rtV post) pe := by
  refine j_eo hfl (by decide) rfl (Nat.le_of_ble_eq_true rfl) (by decide) (by decide) (fun X F K E hT Pr hthr hri hrz hrv => ?_)
  have B16 : ∀ (mc0 : Nat) (ms0 : Nat) (T : CS) (c0 n0 : Nat), c0 + mc0 = mc → n0 + ms0 = ms → cs_ok k T → wp_BLB_checkLot_16 post pe mc0 ms0 T → jat l D X 2 16 [] [] (cwd k T) c0 n0 := by
    intro mc0 ms0 T c0 n0 hc0 hn0 hT hw
    unfold wp_BLB_checkLot_16 at hw
    obtain ⟨⟨hr1, hr2⟩, hw⟩ := hw
    exact hthr _ _ _ _ _ _ "no such lot" 189 288 193 3 hw hT (by decide) (by decide) (by decide) tq_467 tq_468 d_BLB_checkLot_16 d_BLB_checkLot_19 (Or.inr ⟨rfl, d_BLB_checkLot_20⟩) d_BLB_checkLot_23 d_BLB_checkLot_26 (rm_t hc0 hr1) (rm_t hn0 hr2)
  unfold wp_BLB_checkLot at hw
  have key : ∀ (mc0 ms0 c0 n0 : Nat), mc0 = mc → ms0 = ms → c0 = 0 → n0 = 0 → c0 + mc0 = mc → n0 + ms0 = ms → jat l D X 2 0 [(0, .ref v0), (1, vi v1)] [] (cwd k T) c0 n0 := by
    intro mc0 ms0 c0 n0 hm1 hm2 hz1 hz2 hc0 hn0
    subst hm1; subst hm2
    clear hz1 hz2
    refine j_iload_n F 1 d_BLB_checkLot_0 rfl ?_
    refine j_iconst F d_BLB_checkLot_1 ?_
    obtain ⟨hc1, hwt, hwf⟩ := hw
    refine j_icmp_lt F 16 hc1 ⟨by decide, by decide⟩ d_BLB_checkLot_2 rfl (fun hh => ?_) (fun hh => ?_)
    · have hw := hwt hh
      refine j_sub [] rfl ?_
      exact B16 _ _ _ _ _ hc0 hn0 hT hw
    · have hw := hwf hh
      refine j_iload_n F 1 d_BLB_checkLot_5 rfl ?_
      refine j_aload_n F 0 d_BLB_checkLot_6 rfl ?_
      obtain ⟨hc1, q_1, hc2, hw⟩ := hw
      refine c_getr F K hT 1 4 rfl tu_LandBook (by decide) (by decide) rfl tq_441 (Or.inl rfl) hc1 hc2 d_BLB_checkLot_7 ?_
      obtain ⟨hg1, hw⟩ := hw
      refine c_callVi F K hT (c_BRg_lotCount l hw) (tw_gV tq_443 tq_444 tq_445 tq_336 tq_446) 5 rfl (by decide) hg1 q_BRg_lotCount rfl ⟨by decide, by decide⟩ ⟨rm_z hc0, rm_z hn0⟩ rfl (Nat.le_of_ble_eq_true rfl) d_BLB_checkLot_10 (fun r_3 T_2 hw hT => ?_)
      obtain ⟨hc1, hc2, hwt, hwf⟩ := hw
      refine j_icmp_le F 27 hc1 hc2 d_BLB_checkLot_13 rfl (fun hh => ?_) (fun hh => ?_)
      · have hw := hwt hh
        exact hrv _ _ _ _ _ rfl ⟨rfl, hw⟩ hT (rm_y hc0) (rm_y hn0) d_BLB_checkLot_27
      · have hw := hwf hh
        refine j_sub [] rfl ?_
        exact B16 _ _ _ _ _ hc0 hn0 hT hw
  exact key mc ms 0 0 rfl rfl rfl rfl (Nat.zero_add _) (Nat.zero_add _)
abbrev y_BLB_checkRelative : MethodName := ⟨"LandBook", "checkRelative", "(I)V"⟩
theorem q_BLB_checkRelative : y_BLB_checkRelative.cls ≠ "java/lang/invoke/MethodHandle" ∧ y_BLB_checkRelative.cls ≠ "java/lang/invoke/VarHandle" ∧ (parseMethodDescriptor y_BLB_checkRelative.desc).map (fun d => d.parameters.length) = some 1 := by decide +kernel
theorem d_BLB_checkRelative_0 : decode prog_1_method_26_code 0 = .ok (.iload_n 0, 1) := by decide +kernel
theorem d_BLB_checkRelative_1 : decode prog_1_method_26_code 1 = .ok (.ifCond .eq 19, 3) := by decide +kernel
theorem d_BLB_checkRelative_20 : decode prog_1_method_26_code 20 = .ok (.return_, 1) := by decide +kernel
theorem d_BLB_checkRelative_4 : decode prog_1_method_26_code 4 = .ok (.iload_n 0, 1) := by decide +kernel
theorem d_BLB_checkRelative_5 : decode prog_1_method_26_code 5 = .ok (.iconst 1, 1) := by decide +kernel
theorem d_BLB_checkRelative_6 : decode prog_1_method_26_code 6 = .ok (.if_icmp .eq 14, 3) := by decide +kernel
theorem d_BLB_checkRelative_9 : decode prog_1_method_26_code 9 = .ok (.new 189, 3) := by decide +kernel
theorem d_BLB_checkRelative_12 : decode prog_1_method_26_code 12 = .ok (.dup, 1) := by decide +kernel
theorem d_BLB_checkRelative_13 : decode prog_1_method_26_code 13 = .ok (.ldc_w 290, 3) := by decide +kernel
theorem d_BLB_checkRelative_16 : decode prog_1_method_26_code 16 = .ok (.invokespecial 193, 3) := by decide +kernel
theorem d_BLB_checkRelative_19 : decode prog_1_method_26_code 19 = .ok (.athrow, 1) := by decide +kernel
def wp_BLB_checkRelative (post : CS → Prop) (pe : String → CS → Prop) (mc0 ms0 : Nat) (v0 : Int) (T : CS) : Prop := inR v0 ∧ (v0 = 0 → post T) ∧ (¬ (v0 = 0) → (inR v0 ∧ (v0 = 1 → post T) ∧ (¬ (v0 = 1) → ((1 ≤ mc0 ∧ 6 ≤ ms0) ∧ pe "java/lang/IndexOutOfBoundsException" T))))
set_option maxHeartbeats 4000000 in
set_option maxRecDepth 100000 in
theorem c_BLB_checkRelative (l : Launch) (hfl : l.flags = pinnedFlags ++ [noTraceFlag]) {D : va_G} {k : CK} {post : CS → Prop} {pe : String → CS → Prop} {mc ms : Nat} {v0 : Int} {T : CS} (hw : wp_BLB_checkRelative post pe mc ms v0 T) : jE l D k y_BLB_checkRelative prog_1_method_26_code 1 none 6 82 mc ms T [vi v0] (rtV post) pe := by
  refine j_eo hfl (by decide) rfl (Nat.le_of_ble_eq_true rfl) (by decide) (by decide) (fun X F K E hT Pr hthr hri hrz hrv => ?_)
  unfold wp_BLB_checkRelative at hw
  have key : ∀ (mc0 ms0 c0 n0 : Nat), mc0 = mc → ms0 = ms → c0 = 0 → n0 = 0 → c0 + mc0 = mc → n0 + ms0 = ms → jat l D X 1 0 [(0, vi v0)] [] (cwd k T) c0 n0 := by
    intro mc0 ms0 c0 n0 hm1 hm2 hz1 hz2 hc0 hn0
    subst hm1; subst hm2
    clear hz1 hz2
    refine j_iload_n F 0 d_BLB_checkRelative_0 rfl ?_
    obtain ⟨hc1, hwt, hwf⟩ := hw
    refine j_if_eq F 20 hc1 d_BLB_checkRelative_1 rfl (fun hh => ?_) (fun hh => ?_)
    · have hw := hwt hh
      exact hrv _ _ _ _ _ rfl ⟨rfl, hw⟩ hT (rm_y hc0) (rm_y hn0) d_BLB_checkRelative_20
    · have hw := hwf hh
      refine j_iload_n F 0 d_BLB_checkRelative_4 rfl ?_
      refine j_iconst F d_BLB_checkRelative_5 ?_
      obtain ⟨hc1, hwt, hwf⟩ := hw
      refine j_icmp_eq F 20 hc1 ⟨by decide, by decide⟩ d_BLB_checkRelative_6 rfl (fun hh => ?_) (fun hh => ?_)
      · have hw := hwt hh
        exact hrv _ _ _ _ _ rfl ⟨rfl, hw⟩ hT (rm_y hc0) (rm_y hn0) d_BLB_checkRelative_20
      · have hw := hwf hh
        obtain ⟨⟨hr1, hr2⟩, hw⟩ := hw
        exact hthr _ _ _ _ _ _ "neither 0 nor 1" 189 290 193 3 hw hT (by decide) (by decide) (by decide) tq_467 tq_468 d_BLB_checkRelative_9 d_BLB_checkRelative_12 (Or.inr ⟨rfl, d_BLB_checkRelative_13⟩) d_BLB_checkRelative_16 d_BLB_checkRelative_19 (rm_t hc0 hr1) (rm_t hn0 hr2)
  exact key mc ms 0 0 rfl rfl rfl rfl (Nat.zero_add _) (Nat.zero_add _)
theorem tq_469 : (Jvm.Cond.classLink "LandBook" (258 : Nat) "java/lang/IllegalArgumentException") ∈ tw_G := tw_in (List.mem_of_getElem? (i := 263) (by decide +kernel)) rfl
theorem tq_470 : (Jvm.Cond.initialized "java/lang/IllegalArgumentException") ∈ tw_G := tw_in (List.mem_of_getElem? (i := 73) (by decide +kernel)) rfl
abbrev y_BLB_checkPoint : MethodName := ⟨"LandBook", "checkPoint", "(II)V"⟩
theorem q_BLB_checkPoint : y_BLB_checkPoint.cls ≠ "java/lang/invoke/MethodHandle" ∧ y_BLB_checkPoint.cls ≠ "java/lang/invoke/VarHandle" ∧ (parseMethodDescriptor y_BLB_checkPoint.desc).map (fun d => d.parameters.length) = some 2 := by decide +kernel
theorem d_BLB_checkPoint_0 : decode prog_1_method_27_code 0 = .ok (.iload_n 0, 1) := by decide +kernel
theorem d_BLB_checkPoint_1 : decode prog_1_method_27_code 1 = .ok (.ifCond .lt 21, 3) := by decide +kernel
theorem d_BLB_checkPoint_4 : decode prog_1_method_27_code 4 = .ok (.iload_n 0, 1) := by decide +kernel
theorem d_BLB_checkPoint_5 : decode prog_1_method_27_code 5 = .ok (.sipush 20000, 3) := by decide +kernel
theorem d_BLB_checkPoint_8 : decode prog_1_method_27_code 8 = .ok (.if_icmp .gt 14, 3) := by decide +kernel
theorem d_BLB_checkPoint_11 : decode prog_1_method_27_code 11 = .ok (.iload_n 1, 1) := by decide +kernel
theorem d_BLB_checkPoint_12 : decode prog_1_method_27_code 12 = .ok (.ifCond .lt 10, 3) := by decide +kernel
theorem d_BLB_checkPoint_15 : decode prog_1_method_27_code 15 = .ok (.iload_n 1, 1) := by decide +kernel
theorem d_BLB_checkPoint_16 : decode prog_1_method_27_code 16 = .ok (.sipush 20000, 3) := by decide +kernel
theorem d_BLB_checkPoint_19 : decode prog_1_method_27_code 19 = .ok (.if_icmp .le 14, 3) := by decide +kernel
theorem d_BLB_checkPoint_33 : decode prog_1_method_27_code 33 = .ok (.return_, 1) := by decide +kernel
theorem d_BLB_checkPoint_22 : decode prog_1_method_27_code 22 = .ok (.new 258, 3) := by decide +kernel
theorem d_BLB_checkPoint_25 : decode prog_1_method_27_code 25 = .ok (.dup, 1) := by decide +kernel
theorem d_BLB_checkPoint_26 : decode prog_1_method_27_code 26 = .ok (.ldc_w 292, 3) := by decide +kernel
theorem d_BLB_checkPoint_29 : decode prog_1_method_27_code 29 = .ok (.invokespecial 262, 3) := by decide +kernel
theorem d_BLB_checkPoint_32 : decode prog_1_method_27_code 32 = .ok (.athrow, 1) := by decide +kernel
def wp_BLB_checkPoint_22 (post : CS → Prop) (pe : String → CS → Prop) (mc0 : Nat) (ms0 : Nat) (T : CS) : Prop := (1 ≤ mc0 ∧ 6 ≤ ms0) ∧ pe "java/lang/IllegalArgumentException" T
def wp_BLB_checkPoint (post : CS → Prop) (pe : String → CS → Prop) (mc0 ms0 : Nat) (v0 : Int) (v1 : Int) (T : CS) : Prop := inR v0 ∧ (v0 < 0 → wp_BLB_checkPoint_22 post pe mc0 ms0 T) ∧ (¬ (v0 < 0) → (inR v0 ∧ (20000 < v0 → wp_BLB_checkPoint_22 post pe mc0 ms0 T) ∧ (¬ (20000 < v0) → (inR v1 ∧ (v1 < 0 → wp_BLB_checkPoint_22 post pe mc0 ms0 T) ∧ (¬ (v1 < 0) → (inR v1 ∧ (v1 ≤ 20000 → post T) ∧ (¬ (v1 ≤ 20000) → wp_BLB_checkPoint_22 post pe mc0 ms0 T)))))))
set_option maxHeartbeats 4000000 in
set_option maxRecDepth 100000 in
theorem c_BLB_checkPoint (l : Launch) (hfl : l.flags = pinnedFlags ++ [noTraceFlag]) {D : va_G} {k : CK} {post : CS → Prop} {pe : String → CS → Prop} {mc ms : Nat} {v0 : Int} {v1 : Int} {T : CS} (hw : wp_BLB_checkPoint post pe mc ms v0 v1 T) : jE l D k y_BLB_checkPoint prog_1_method_27_code 2 none 6 82 mc ms T [vi v0, vi v1] (rtV post) pe := by
  refine j_eo hfl (by decide) rfl (Nat.le_of_ble_eq_true rfl) (by decide) (by decide) (fun X F K E hT Pr hthr hri hrz hrv => ?_)
  have B22 : ∀ (mc0 : Nat) (ms0 : Nat) (T : CS) (c0 n0 : Nat), c0 + mc0 = mc → n0 + ms0 = ms → cs_ok k T → wp_BLB_checkPoint_22 post pe mc0 ms0 T → jat l D X 2 22 [] [] (cwd k T) c0 n0 := by
    intro mc0 ms0 T c0 n0 hc0 hn0 hT hw
    unfold wp_BLB_checkPoint_22 at hw
    obtain ⟨⟨hr1, hr2⟩, hw⟩ := hw
    exact hthr _ _ _ _ _ _ "no point" 258 292 262 3 hw hT (by decide) (by decide) (by decide) tq_469 tq_470 d_BLB_checkPoint_22 d_BLB_checkPoint_25 (Or.inr ⟨rfl, d_BLB_checkPoint_26⟩) d_BLB_checkPoint_29 d_BLB_checkPoint_32 (rm_t hc0 hr1) (rm_t hn0 hr2)
  unfold wp_BLB_checkPoint at hw
  have key : ∀ (mc0 ms0 c0 n0 : Nat), mc0 = mc → ms0 = ms → c0 = 0 → n0 = 0 → c0 + mc0 = mc → n0 + ms0 = ms → jat l D X 2 0 [(0, vi v0), (1, vi v1)] [] (cwd k T) c0 n0 := by
    intro mc0 ms0 c0 n0 hm1 hm2 hz1 hz2 hc0 hn0
    subst hm1; subst hm2
    clear hz1 hz2
    refine j_iload_n F 0 d_BLB_checkPoint_0 rfl ?_
    obtain ⟨hc1, hwt, hwf⟩ := hw
    refine j_if_lt F 22 hc1 d_BLB_checkPoint_1 rfl (fun hh => ?_) (fun hh => ?_)
    · have hw := hwt hh
      refine j_sub [] rfl ?_
      exact B22 _ _ _ _ _ hc0 hn0 hT hw
    · have hw := hwf hh
      refine j_iload_n F 0 d_BLB_checkPoint_4 rfl ?_
      refine j_sipush F d_BLB_checkPoint_5 (j_sip (by decide) (by decide)) ?_
      obtain ⟨hc1, hwt, hwf⟩ := hw
      refine j_icmp_gt F 22 hc1 ⟨by decide, by decide⟩ d_BLB_checkPoint_8 rfl (fun hh => ?_) (fun hh => ?_)
      · have hw := hwt hh
        refine j_sub [] rfl ?_
        exact B22 _ _ _ _ _ hc0 hn0 hT hw
      · have hw := hwf hh
        refine j_iload_n F 1 d_BLB_checkPoint_11 rfl ?_
        obtain ⟨hc1, hwt, hwf⟩ := hw
        refine j_if_lt F 22 hc1 d_BLB_checkPoint_12 rfl (fun hh => ?_) (fun hh => ?_)
        · have hw := hwt hh
          refine j_sub [] rfl ?_
          exact B22 _ _ _ _ _ hc0 hn0 hT hw
        · have hw := hwf hh
          refine j_iload_n F 1 d_BLB_checkPoint_15 rfl ?_
          refine j_sipush F d_BLB_checkPoint_16 (j_sip (by decide) (by decide)) ?_
          obtain ⟨hc1, hwt, hwf⟩ := hw
          refine j_icmp_le F 33 hc1 ⟨by decide, by decide⟩ d_BLB_checkPoint_19 rfl (fun hh => ?_) (fun hh => ?_)
          · have hw := hwt hh
            exact hrv _ _ _ _ _ rfl ⟨rfl, hw⟩ hT (rm_y hc0) (rm_y hn0) d_BLB_checkPoint_33
          · have hw := hwf hh
            refine j_sub [] rfl ?_
            exact B22 _ _ _ _ _ hc0 hn0 hT hw
  exact key mc ms 0 0 rfl rfl rfl rfl (Nat.zero_add _) (Nat.zero_add _)
abbrev y_BLB_checkDay : MethodName := ⟨"LandBook", "checkDay", "(I)V"⟩
theorem q_BLB_checkDay : y_BLB_checkDay.cls ≠ "java/lang/invoke/MethodHandle" ∧ y_BLB_checkDay.cls ≠ "java/lang/invoke/VarHandle" ∧ (parseMethodDescriptor y_BLB_checkDay.desc).map (fun d => d.parameters.length) = some 1 := by decide +kernel
theorem d_BLB_checkDay_0 : decode prog_1_method_28_code 0 = .ok (.iload_n 0, 1) := by decide +kernel
theorem d_BLB_checkDay_1 : decode prog_1_method_28_code 1 = .ok (.ifCond .lt 10, 3) := by decide +kernel
theorem d_BLB_checkDay_4 : decode prog_1_method_28_code 4 = .ok (.iload_n 0, 1) := by decide +kernel
theorem d_BLB_checkDay_5 : decode prog_1_method_28_code 5 = .ok (.sipush 30000, 3) := by decide +kernel
theorem d_BLB_checkDay_8 : decode prog_1_method_28_code 8 = .ok (.if_icmp .le 14, 3) := by decide +kernel
theorem d_BLB_checkDay_22 : decode prog_1_method_28_code 22 = .ok (.return_, 1) := by decide +kernel
theorem d_BLB_checkDay_11 : decode prog_1_method_28_code 11 = .ok (.new 258, 3) := by decide +kernel
theorem d_BLB_checkDay_14 : decode prog_1_method_28_code 14 = .ok (.dup, 1) := by decide +kernel
theorem d_BLB_checkDay_15 : decode prog_1_method_28_code 15 = .ok (.ldc_w 294, 3) := by decide +kernel
theorem d_BLB_checkDay_18 : decode prog_1_method_28_code 18 = .ok (.invokespecial 262, 3) := by decide +kernel
theorem d_BLB_checkDay_21 : decode prog_1_method_28_code 21 = .ok (.athrow, 1) := by decide +kernel
def wp_BLB_checkDay_11 (post : CS → Prop) (pe : String → CS → Prop) (mc0 : Nat) (ms0 : Nat) (T : CS) : Prop := (1 ≤ mc0 ∧ 6 ≤ ms0) ∧ pe "java/lang/IllegalArgumentException" T
def wp_BLB_checkDay (post : CS → Prop) (pe : String → CS → Prop) (mc0 ms0 : Nat) (v0 : Int) (T : CS) : Prop := inR v0 ∧ (v0 < 0 → wp_BLB_checkDay_11 post pe mc0 ms0 T) ∧ (¬ (v0 < 0) → (inR v0 ∧ (v0 ≤ 30000 → post T) ∧ (¬ (v0 ≤ 30000) → wp_BLB_checkDay_11 post pe mc0 ms0 T)))
set_option maxHeartbeats 4000000 in
set_option maxRecDepth 100000 in
theorem c_BLB_checkDay (l : Launch) (hfl : l.flags = pinnedFlags ++ [noTraceFlag]) {D : va_G} {k : CK} {post : CS → Prop} {pe : String → CS → Prop} {mc ms : Nat} {v0 : Int} {T : CS} (hw : wp_BLB_checkDay post pe mc ms v0 T) : jE l D k y_BLB_checkDay prog_1_method_28_code 1 none 6 82 mc ms T [vi v0] (rtV post) pe := by
  refine j_eo hfl (by decide) rfl (Nat.le_of_ble_eq_true rfl) (by decide) (by decide) (fun X F K E hT Pr hthr hri hrz hrv => ?_)
  have B11 : ∀ (mc0 : Nat) (ms0 : Nat) (T : CS) (c0 n0 : Nat), c0 + mc0 = mc → n0 + ms0 = ms → cs_ok k T → wp_BLB_checkDay_11 post pe mc0 ms0 T → jat l D X 1 11 [] [] (cwd k T) c0 n0 := by
    intro mc0 ms0 T c0 n0 hc0 hn0 hT hw
    unfold wp_BLB_checkDay_11 at hw
    obtain ⟨⟨hr1, hr2⟩, hw⟩ := hw
    exact hthr _ _ _ _ _ _ "no day" 258 294 262 3 hw hT (by decide) (by decide) (by decide) tq_469 tq_470 d_BLB_checkDay_11 d_BLB_checkDay_14 (Or.inr ⟨rfl, d_BLB_checkDay_15⟩) d_BLB_checkDay_18 d_BLB_checkDay_21 (rm_t hc0 hr1) (rm_t hn0 hr2)
  unfold wp_BLB_checkDay at hw
  have key : ∀ (mc0 ms0 c0 n0 : Nat), mc0 = mc → ms0 = ms → c0 = 0 → n0 = 0 → c0 + mc0 = mc → n0 + ms0 = ms → jat l D X 1 0 [(0, vi v0)] [] (cwd k T) c0 n0 := by
    intro mc0 ms0 c0 n0 hm1 hm2 hz1 hz2 hc0 hn0
    subst hm1; subst hm2
    clear hz1 hz2
    refine j_iload_n F 0 d_BLB_checkDay_0 rfl ?_
    obtain ⟨hc1, hwt, hwf⟩ := hw
    refine j_if_lt F 11 hc1 d_BLB_checkDay_1 rfl (fun hh => ?_) (fun hh => ?_)
    · have hw := hwt hh
      refine j_sub [] rfl ?_
      exact B11 _ _ _ _ _ hc0 hn0 hT hw
    · have hw := hwf hh
      refine j_iload_n F 0 d_BLB_checkDay_4 rfl ?_
      refine j_sipush F d_BLB_checkDay_5 (j_sip (by decide) (by decide)) ?_
      obtain ⟨hc1, hwt, hwf⟩ := hw
      refine j_icmp_le F 22 hc1 ⟨by decide, by decide⟩ d_BLB_checkDay_8 rfl (fun hh => ?_) (fun hh => ?_)
      · have hw := hwt hh
        exact hrv _ _ _ _ _ rfl ⟨rfl, hw⟩ hT (rm_y hc0) (rm_y hn0) d_BLB_checkDay_22
      · have hw := hwf hh
        refine j_sub [] rfl ?_
        exact B11 _ _ _ _ _ hc0 hn0 hT hw
  exact key mc ms 0 0 rfl rfl rfl rfl (Nat.zero_add _) (Nat.zero_add _)
theorem tq_471 : (Jvm.Cond.methodLink "LandBook" (105 : Nat) ({ cls := "LandBook", name := "checkDay", desc := "(I)V" } : Jvm.MethodName)) ∈ tw_G := tw_in (List.mem_of_getElem? (i := 569) (by decide +kernel)) rfl
theorem tq_472 : (Jvm.Cond.static ({ cls := "LandBook", name := "checkDay", desc := "(I)V" } : Jvm.MethodName)) ∈ tw_G := tw_in (List.mem_of_getElem? (i := 570) (by decide +kernel)) rfl
theorem tq_473 : (Jvm.Cond.initialized "LandBook") ∈ tw_G := tw_in (List.mem_of_getElem? (i := 60) (by decide +kernel)) rfl
theorem tq_474 : (Jvm.Cond.code ({ cls := "LandBook", name := "checkDay", desc := "(I)V" } : Jvm.MethodName) prog_1_method_28_code (1 : Nat) (Option.none : Option Jvm.ClassFile.FieldType)) ∈ tw_G := tw_in (List.mem_of_getElem? (i := 571) (by decide +kernel)) rfl
abbrev y_BLB_checkAsOf : MethodName := ⟨"LandBook", "checkAsOf", "(II)V"⟩
theorem q_BLB_checkAsOf : y_BLB_checkAsOf.cls ≠ "java/lang/invoke/MethodHandle" ∧ y_BLB_checkAsOf.cls ≠ "java/lang/invoke/VarHandle" ∧ (parseMethodDescriptor y_BLB_checkAsOf.desc).map (fun d => d.parameters.length) = some 2 := by decide +kernel
theorem d_BLB_checkAsOf_0 : decode prog_1_method_29_code 0 = .ok (.iload_n 0, 1) := by decide +kernel
theorem d_BLB_checkAsOf_1 : decode prog_1_method_29_code 1 = .ok (.invokestatic 105, 3) := by decide +kernel
theorem d_BLB_checkAsOf_4 : decode prog_1_method_29_code 4 = .ok (.iload_n 1, 1) := by decide +kernel
theorem d_BLB_checkAsOf_5 : decode prog_1_method_29_code 5 = .ok (.ifCond .ge 14, 3) := by decide +kernel
theorem d_BLB_checkAsOf_19 : decode prog_1_method_29_code 19 = .ok (.return_, 1) := by decide +kernel
theorem d_BLB_checkAsOf_8 : decode prog_1_method_29_code 8 = .ok (.new 258, 3) := by decide +kernel
theorem d_BLB_checkAsOf_11 : decode prog_1_method_29_code 11 = .ok (.dup, 1) := by decide +kernel
theorem d_BLB_checkAsOf_12 : decode prog_1_method_29_code 12 = .ok (.ldc_w 296, 3) := by decide +kernel
theorem d_BLB_checkAsOf_15 : decode prog_1_method_29_code 15 = .ok (.invokespecial 262, 3) := by decide +kernel
theorem d_BLB_checkAsOf_18 : decode prog_1_method_29_code 18 = .ok (.athrow, 1) := by decide +kernel
def wp_BLB_checkAsOf (post : CS → Prop) (pe : String → CS → Prop) (mc0 ms0 : Nat) (v0 : Int) (v1 : Int) (T : CS) : Prop := ∃ mc_3 ms_4 mc_5 ms_6 : Nat, (mc0 = mc_3 + mc_5 ∧ ms0 = ms_4 + ms_6) ∧ wp_BLB_checkDay (fun T_1 => inR v1 ∧ (0 ≤ v1 → post T_1) ∧ (¬ (0 ≤ v1) → ((1 ≤ mc_5 ∧ 6 ≤ ms_6) ∧ pe "java/lang/IllegalArgumentException" T_1))) pe mc_3 ms_4 v0 T
set_option maxHeartbeats 4000000 in
set_option maxRecDepth 100000 in
theorem c_BLB_checkAsOf (l : Launch) (hfl : l.flags = pinnedFlags ++ [noTraceFlag]) {D : va_G} {k : CK} {post : CS → Prop} {pe : String → CS → Prop} {mc ms : Nat} {v0 : Int} {v1 : Int} {T : CS} (hw : wp_BLB_checkAsOf post pe mc ms v0 v1 T) : jE l D k y_BLB_checkAsOf prog_1_method_29_code 2 none 7 102 mc ms T [vi v0, vi v1] (rtV post) pe := by
  refine j_eo hfl (by decide) rfl (Nat.le_of_ble_eq_true rfl) (by decide) (by decide) (fun X F K E hT Pr hthr hri hrz hrv => ?_)
  unfold wp_BLB_checkAsOf at hw
  have key : ∀ (mc0 ms0 c0 n0 : Nat), mc0 = mc → ms0 = ms → c0 = 0 → n0 = 0 → c0 + mc0 = mc → n0 + ms0 = ms → jat l D X 2 0 [(0, vi v0), (1, vi v1)] [] (cwd k T) c0 n0 := by
    intro mc0 ms0 c0 n0 hm1 hm2 hz1 hz2 hc0 hn0
    subst hm1; subst hm2
    clear hz1 hz2
    refine j_iload_n F 0 d_BLB_checkAsOf_0 rfl ?_
    obtain ⟨mc_3, ms_4, mc_5, ms_6, ⟨he1, he2⟩, hw⟩ := hw
    refine e_callS F K E Pr hT (c_BLB_checkDay l hfl hw) (tw_gS tq_471 tq_472 tq_473 tq_474) q_BLB_checkDay rfl ⟨by decide, by decide⟩ ⟨rm_l hc0 he1, rm_l hn0 he2⟩ rfl (Nat.le_of_ble_eq_true rfl) d_BLB_checkAsOf_1 (fun ov T_1 hw hT => ?_)
    obtain ⟨rfl, hw⟩ := hw
    have hc0 := rm_c hc0 he1
    have hn0 := rm_c hn0 he2
    refine j_iload_n F 1 d_BLB_checkAsOf_4 rfl ?_
    obtain ⟨hc1, hwt, hwf⟩ := hw
    refine j_if_ge F 19 hc1 d_BLB_checkAsOf_5 rfl (fun hh => ?_) (fun hh => ?_)
    · have hw := hwt hh
      exact hrv _ _ _ _ _ rfl ⟨rfl, hw⟩ hT (rm_y hc0) (rm_y hn0) d_BLB_checkAsOf_19
    · have hw := hwf hh
      obtain ⟨⟨hr1, hr2⟩, hw⟩ := hw
      exact hthr _ _ _ _ _ _ "a negative entry" 258 296 262 3 hw hT (by decide) (by decide) (by decide) tq_469 tq_470 d_BLB_checkAsOf_8 d_BLB_checkAsOf_11 (Or.inr ⟨rfl, d_BLB_checkAsOf_12⟩) d_BLB_checkAsOf_15 d_BLB_checkAsOf_18 (rm_t hc0 hr1) (rm_t hn0 hr2)
  exact key mc ms 0 0 rfl rfl rfl rfl (Nat.zero_add _) (Nat.zero_add _)
abbrev y_BLB_checkPerson : MethodName := ⟨"LandBook", "checkPerson", "(I)V"⟩
theorem q_BLB_checkPerson : y_BLB_checkPerson.cls ≠ "java/lang/invoke/MethodHandle" ∧ y_BLB_checkPerson.cls ≠ "java/lang/invoke/VarHandle" ∧ (parseMethodDescriptor y_BLB_checkPerson.desc).map (fun d => d.parameters.length) = some 1 := by decide +kernel
theorem d_BLB_checkPerson_0 : decode prog_1_method_30_code 0 = .ok (.iload_n 0, 1) := by decide +kernel
theorem d_BLB_checkPerson_1 : decode prog_1_method_30_code 1 = .ok (.ifCond .lt 9, 3) := by decide +kernel
theorem d_BLB_checkPerson_4 : decode prog_1_method_30_code 4 = .ok (.iload_n 0, 1) := by decide +kernel
theorem d_BLB_checkPerson_5 : decode prog_1_method_30_code 5 = .ok (.bipush 100, 2) := by decide +kernel
theorem d_BLB_checkPerson_7 : decode prog_1_method_30_code 7 = .ok (.if_icmp .lt 14, 3) := by decide +kernel
theorem d_BLB_checkPerson_21 : decode prog_1_method_30_code 21 = .ok (.return_, 1) := by decide +kernel
theorem d_BLB_checkPerson_10 : decode prog_1_method_30_code 10 = .ok (.new 258, 3) := by decide +kernel
theorem d_BLB_checkPerson_13 : decode prog_1_method_30_code 13 = .ok (.dup, 1) := by decide +kernel
theorem d_BLB_checkPerson_14 : decode prog_1_method_30_code 14 = .ok (.ldc_w 298, 3) := by decide +kernel
theorem d_BLB_checkPerson_17 : decode prog_1_method_30_code 17 = .ok (.invokespecial 262, 3) := by decide +kernel
theorem d_BLB_checkPerson_20 : decode prog_1_method_30_code 20 = .ok (.athrow, 1) := by decide +kernel
def wp_BLB_checkPerson_10 (post : CS → Prop) (pe : String → CS → Prop) (mc0 : Nat) (ms0 : Nat) (T : CS) : Prop := (1 ≤ mc0 ∧ 6 ≤ ms0) ∧ pe "java/lang/IllegalArgumentException" T
def wp_BLB_checkPerson (post : CS → Prop) (pe : String → CS → Prop) (mc0 ms0 : Nat) (v0 : Int) (T : CS) : Prop := inR v0 ∧ (v0 < 0 → wp_BLB_checkPerson_10 post pe mc0 ms0 T) ∧ (¬ (v0 < 0) → (inR v0 ∧ (v0 < 100 → post T) ∧ (¬ (v0 < 100) → wp_BLB_checkPerson_10 post pe mc0 ms0 T)))
set_option maxHeartbeats 4000000 in
set_option maxRecDepth 100000 in
theorem c_BLB_checkPerson (l : Launch) (hfl : l.flags = pinnedFlags ++ [noTraceFlag]) {D : va_G} {k : CK} {post : CS → Prop} {pe : String → CS → Prop} {mc ms : Nat} {v0 : Int} {T : CS} (hw : wp_BLB_checkPerson post pe mc ms v0 T) : jE l D k y_BLB_checkPerson prog_1_method_30_code 1 none 6 82 mc ms T [vi v0] (rtV post) pe := by
  refine j_eo hfl (by decide) rfl (Nat.le_of_ble_eq_true rfl) (by decide) (by decide) (fun X F K E hT Pr hthr hri hrz hrv => ?_)
  have B10 : ∀ (mc0 : Nat) (ms0 : Nat) (T : CS) (c0 n0 : Nat), c0 + mc0 = mc → n0 + ms0 = ms → cs_ok k T → wp_BLB_checkPerson_10 post pe mc0 ms0 T → jat l D X 1 10 [] [] (cwd k T) c0 n0 := by
    intro mc0 ms0 T c0 n0 hc0 hn0 hT hw
    unfold wp_BLB_checkPerson_10 at hw
    obtain ⟨⟨hr1, hr2⟩, hw⟩ := hw
    exact hthr _ _ _ _ _ _ "no person" 258 298 262 3 hw hT (by decide) (by decide) (by decide) tq_469 tq_470 d_BLB_checkPerson_10 d_BLB_checkPerson_13 (Or.inr ⟨rfl, d_BLB_checkPerson_14⟩) d_BLB_checkPerson_17 d_BLB_checkPerson_20 (rm_t hc0 hr1) (rm_t hn0 hr2)
  unfold wp_BLB_checkPerson at hw
  have key : ∀ (mc0 ms0 c0 n0 : Nat), mc0 = mc → ms0 = ms → c0 = 0 → n0 = 0 → c0 + mc0 = mc → n0 + ms0 = ms → jat l D X 1 0 [(0, vi v0)] [] (cwd k T) c0 n0 := by
    intro mc0 ms0 c0 n0 hm1 hm2 hz1 hz2 hc0 hn0
    subst hm1; subst hm2
    clear hz1 hz2
    refine j_iload_n F 0 d_BLB_checkPerson_0 rfl ?_
    obtain ⟨hc1, hwt, hwf⟩ := hw
    refine j_if_lt F 10 hc1 d_BLB_checkPerson_1 rfl (fun hh => ?_) (fun hh => ?_)
    · have hw := hwt hh
      refine j_sub [] rfl ?_
      exact B10 _ _ _ _ _ hc0 hn0 hT hw
    · have hw := hwf hh
      refine j_iload_n F 0 d_BLB_checkPerson_4 rfl ?_
      refine j_bipush F d_BLB_checkPerson_5 (j_bip (by decide) (by decide)) ?_
      obtain ⟨hc1, hwt, hwf⟩ := hw
      refine j_icmp_lt F 21 hc1 ⟨by decide, by decide⟩ d_BLB_checkPerson_7 rfl (fun hh => ?_) (fun hh => ?_)
      · have hw := hwt hh
        exact hrv _ _ _ _ _ rfl ⟨rfl, hw⟩ hT (rm_y hc0) (rm_y hn0) d_BLB_checkPerson_21
      · have hw := hwf hh
        refine j_sub [] rfl ?_
        exact B10 _ _ _ _ _ hc0 hn0 hT hw
  exact key mc ms 0 0 rfl rfl rfl rfl (Nat.zero_add _) (Nat.zero_add _)
abbrev y_BLB_checkTerm : MethodName := ⟨"LandBook", "checkTerm", "(I)V"⟩
theorem q_BLB_checkTerm : y_BLB_checkTerm.cls ≠ "java/lang/invoke/MethodHandle" ∧ y_BLB_checkTerm.cls ≠ "java/lang/invoke/VarHandle" ∧ (parseMethodDescriptor y_BLB_checkTerm.desc).map (fun d => d.parameters.length) = some 1 := by decide +kernel
theorem d_BLB_checkTerm_0 : decode prog_1_method_31_code 0 = .ok (.iload_n 0, 1) := by decide +kernel
theorem d_BLB_checkTerm_1 : decode prog_1_method_31_code 1 = .ok (.iconst 1, 1) := by decide +kernel
theorem d_BLB_checkTerm_2 : decode prog_1_method_31_code 2 = .ok (.if_icmp .lt 10, 3) := by decide +kernel
theorem d_BLB_checkTerm_5 : decode prog_1_method_31_code 5 = .ok (.iload_n 0, 1) := by decide +kernel
theorem d_BLB_checkTerm_6 : decode prog_1_method_31_code 6 = .ok (.sipush 5040, 3) := by decide +kernel
theorem d_BLB_checkTerm_9 : decode prog_1_method_31_code 9 = .ok (.if_icmp .le 14, 3) := by decide +kernel
theorem d_BLB_checkTerm_23 : decode prog_1_method_31_code 23 = .ok (.return_, 1) := by decide +kernel
theorem d_BLB_checkTerm_12 : decode prog_1_method_31_code 12 = .ok (.new 258, 3) := by decide +kernel
theorem d_BLB_checkTerm_15 : decode prog_1_method_31_code 15 = .ok (.dup, 1) := by decide +kernel
theorem d_BLB_checkTerm_16 : decode prog_1_method_31_code 16 = .ok (.ldc_w 300, 3) := by decide +kernel
theorem d_BLB_checkTerm_19 : decode prog_1_method_31_code 19 = .ok (.invokespecial 262, 3) := by decide +kernel
theorem d_BLB_checkTerm_22 : decode prog_1_method_31_code 22 = .ok (.athrow, 1) := by decide +kernel
def wp_BLB_checkTerm_12 (post : CS → Prop) (pe : String → CS → Prop) (mc0 : Nat) (ms0 : Nat) (T : CS) : Prop := (1 ≤ mc0 ∧ 6 ≤ ms0) ∧ pe "java/lang/IllegalArgumentException" T
def wp_BLB_checkTerm (post : CS → Prop) (pe : String → CS → Prop) (mc0 ms0 : Nat) (v0 : Int) (T : CS) : Prop := inR v0 ∧ (v0 < 1 → wp_BLB_checkTerm_12 post pe mc0 ms0 T) ∧ (¬ (v0 < 1) → (inR v0 ∧ (v0 ≤ 5040 → post T) ∧ (¬ (v0 ≤ 5040) → wp_BLB_checkTerm_12 post pe mc0 ms0 T)))
set_option maxHeartbeats 4000000 in
set_option maxRecDepth 100000 in
theorem c_BLB_checkTerm (l : Launch) (hfl : l.flags = pinnedFlags ++ [noTraceFlag]) {D : va_G} {k : CK} {post : CS → Prop} {pe : String → CS → Prop} {mc ms : Nat} {v0 : Int} {T : CS} (hw : wp_BLB_checkTerm post pe mc ms v0 T) : jE l D k y_BLB_checkTerm prog_1_method_31_code 1 none 6 82 mc ms T [vi v0] (rtV post) pe := by
  refine j_eo hfl (by decide) rfl (Nat.le_of_ble_eq_true rfl) (by decide) (by decide) (fun X F K E hT Pr hthr hri hrz hrv => ?_)
  have B12 : ∀ (mc0 : Nat) (ms0 : Nat) (T : CS) (c0 n0 : Nat), c0 + mc0 = mc → n0 + ms0 = ms → cs_ok k T → wp_BLB_checkTerm_12 post pe mc0 ms0 T → jat l D X 1 12 [] [] (cwd k T) c0 n0 := by
    intro mc0 ms0 T c0 n0 hc0 hn0 hT hw
    unfold wp_BLB_checkTerm_12 at hw
    obtain ⟨⟨hr1, hr2⟩, hw⟩ := hw
    exact hthr _ _ _ _ _ _ "no term of a share" 258 300 262 3 hw hT (by decide) (by decide) (by decide) tq_469 tq_470 d_BLB_checkTerm_12 d_BLB_checkTerm_15 (Or.inr ⟨rfl, d_BLB_checkTerm_16⟩) d_BLB_checkTerm_19 d_BLB_checkTerm_22 (rm_t hc0 hr1) (rm_t hn0 hr2)
  unfold wp_BLB_checkTerm at hw
  have key : ∀ (mc0 ms0 c0 n0 : Nat), mc0 = mc → ms0 = ms → c0 = 0 → n0 = 0 → c0 + mc0 = mc → n0 + ms0 = ms → jat l D X 1 0 [(0, vi v0)] [] (cwd k T) c0 n0 := by
    intro mc0 ms0 c0 n0 hm1 hm2 hz1 hz2 hc0 hn0
    subst hm1; subst hm2
    clear hz1 hz2
    refine j_iload_n F 0 d_BLB_checkTerm_0 rfl ?_
    refine j_iconst F d_BLB_checkTerm_1 ?_
    obtain ⟨hc1, hwt, hwf⟩ := hw
    refine j_icmp_lt F 12 hc1 ⟨by decide, by decide⟩ d_BLB_checkTerm_2 rfl (fun hh => ?_) (fun hh => ?_)
    · have hw := hwt hh
      refine j_sub [] rfl ?_
      exact B12 _ _ _ _ _ hc0 hn0 hT hw
    · have hw := hwf hh
      refine j_iload_n F 0 d_BLB_checkTerm_5 rfl ?_
      refine j_sipush F d_BLB_checkTerm_6 (j_sip (by decide) (by decide)) ?_
      obtain ⟨hc1, hwt, hwf⟩ := hw
      refine j_icmp_le F 23 hc1 ⟨by decide, by decide⟩ d_BLB_checkTerm_9 rfl (fun hh => ?_) (fun hh => ?_)
      · have hw := hwt hh
        exact hrv _ _ _ _ _ rfl ⟨rfl, hw⟩ hT (rm_y hc0) (rm_y hn0) d_BLB_checkTerm_23
      · have hw := hwf hh
        refine j_sub [] rfl ?_
        exact B12 _ _ _ _ _ hc0 hn0 hT hw
  exact key mc ms 0 0 rfl rfl rfl rfl (Nat.zero_add _) (Nat.zero_add _)
abbrev y_BLB_checkPlace : MethodName := ⟨"LandBook", "checkPlace", "(I)V"⟩
theorem q_BLB_checkPlace : y_BLB_checkPlace.cls ≠ "java/lang/invoke/MethodHandle" ∧ y_BLB_checkPlace.cls ≠ "java/lang/invoke/VarHandle" ∧ (parseMethodDescriptor y_BLB_checkPlace.desc).map (fun d => d.parameters.length) = some 1 := by decide +kernel
theorem d_BLB_checkPlace_0 : decode prog_1_method_32_code 0 = .ok (.iload_n 0, 1) := by decide +kernel
theorem d_BLB_checkPlace_1 : decode prog_1_method_32_code 1 = .ok (.ifCond .ge 14, 3) := by decide +kernel
theorem d_BLB_checkPlace_15 : decode prog_1_method_32_code 15 = .ok (.return_, 1) := by decide +kernel
theorem d_BLB_checkPlace_4 : decode prog_1_method_32_code 4 = .ok (.new 258, 3) := by decide +kernel
theorem d_BLB_checkPlace_7 : decode prog_1_method_32_code 7 = .ok (.dup, 1) := by decide +kernel
theorem d_BLB_checkPlace_8 : decode prog_1_method_32_code 8 = .ok (.ldc_w 302, 3) := by decide +kernel
theorem d_BLB_checkPlace_11 : decode prog_1_method_32_code 11 = .ok (.invokespecial 262, 3) := by decide +kernel
theorem d_BLB_checkPlace_14 : decode prog_1_method_32_code 14 = .ok (.athrow, 1) := by decide +kernel
def wp_BLB_checkPlace (post : CS → Prop) (pe : String → CS → Prop) (mc0 ms0 : Nat) (v0 : Int) (T : CS) : Prop := inR v0 ∧ (0 ≤ v0 → post T) ∧ (¬ (0 ≤ v0) → ((1 ≤ mc0 ∧ 6 ≤ ms0) ∧ pe "java/lang/IllegalArgumentException" T))
set_option maxHeartbeats 4000000 in
set_option maxRecDepth 100000 in
theorem c_BLB_checkPlace (l : Launch) (hfl : l.flags = pinnedFlags ++ [noTraceFlag]) {D : va_G} {k : CK} {post : CS → Prop} {pe : String → CS → Prop} {mc ms : Nat} {v0 : Int} {T : CS} (hw : wp_BLB_checkPlace post pe mc ms v0 T) : jE l D k y_BLB_checkPlace prog_1_method_32_code 1 none 6 82 mc ms T [vi v0] (rtV post) pe := by
  refine j_eo hfl (by decide) rfl (Nat.le_of_ble_eq_true rfl) (by decide) (by decide) (fun X F K E hT Pr hthr hri hrz hrv => ?_)
  unfold wp_BLB_checkPlace at hw
  have key : ∀ (mc0 ms0 c0 n0 : Nat), mc0 = mc → ms0 = ms → c0 = 0 → n0 = 0 → c0 + mc0 = mc → n0 + ms0 = ms → jat l D X 1 0 [(0, vi v0)] [] (cwd k T) c0 n0 := by
    intro mc0 ms0 c0 n0 hm1 hm2 hz1 hz2 hc0 hn0
    subst hm1; subst hm2
    clear hz1 hz2
    refine j_iload_n F 0 d_BLB_checkPlace_0 rfl ?_
    obtain ⟨hc1, hwt, hwf⟩ := hw
    refine j_if_ge F 15 hc1 d_BLB_checkPlace_1 rfl (fun hh => ?_) (fun hh => ?_)
    · have hw := hwt hh
      exact hrv _ _ _ _ _ rfl ⟨rfl, hw⟩ hT (rm_y hc0) (rm_y hn0) d_BLB_checkPlace_15
    · have hw := hwf hh
      obtain ⟨⟨hr1, hr2⟩, hw⟩ := hw
      exact hthr _ _ _ _ _ _ "a negative place" 258 302 262 3 hw hT (by decide) (by decide) (by decide) tq_469 tq_470 d_BLB_checkPlace_4 d_BLB_checkPlace_7 (Or.inr ⟨rfl, d_BLB_checkPlace_8⟩) d_BLB_checkPlace_11 d_BLB_checkPlace_14 (rm_t hc0 hr1) (rm_t hn0 hr2)
  exact key mc ms 0 0 rfl rfl rfl rfl (Nat.zero_add _) (Nat.zero_add _)
