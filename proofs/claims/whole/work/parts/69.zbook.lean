theorem tq_435 : (Jvm.Cond.fieldLink "LandBook" (18 : Nat) "LandBook" "chain" "LLandBook$Points;") ∈ tw_G := tw_in (List.mem_of_getElem? (i := 227) (by decide +kernel)) rfl
theorem tq_436 : (Jvm.Cond.methodLink "LandBook" (283 : Nat) ({ cls := "LandBook$Points", name := "clear", desc := "()V" } : Jvm.MethodName)) ∈ tw_G := tw_in (List.mem_of_getElem? (i := 368) (by decide +kernel)) rfl
theorem tq_437 : (Jvm.Cond.fieldLink "LandBook" (14 : Nat) "LandBook" "row" "LLandBook$Points;") ∈ tw_G := tw_in (List.mem_of_getElem? (i := 226) (by decide +kernel)) rfl
theorem tq_438 : (Jvm.Cond.fieldLink "LandBook" (53 : Nat) "LandBook$Points" "size" "I") ∈ tw_G := tw_in (List.mem_of_getElem? (i := 106) (by decide +kernel)) rfl
theorem tq_439 : (Jvm.Cond.methodLink "LandBook" (125 : Nat) ({ cls := "LandBook$Points", name := "at", desc := "(I)I" } : Jvm.MethodName)) ∈ tw_G := tw_in (List.mem_of_getElem? (i := 372) (by decide +kernel)) rfl
theorem tq_440 : (Jvm.Cond.methodLink "LandBook" (70 : Nat) ({ cls := "LandBook$Points", name := "add", desc := "(I)V" } : Jvm.MethodName)) ∈ tw_G := tw_in (List.mem_of_getElem? (i := 352) (by decide +kernel)) rfl
abbrev y_BLB_takeRow : MethodName := ⟨"LandBook", "takeRow", "()V"⟩
theorem q_BLB_takeRow : y_BLB_takeRow.cls = "LandBook" ∧ y_BLB_takeRow.cls ≠ "java/lang/invoke/MethodHandle" ∧ y_BLB_takeRow.cls ≠ "java/lang/invoke/VarHandle" ∧ (parseMethodDescriptor y_BLB_takeRow.desc).map (fun d => d.parameters.length) = some 0 := by decide +kernel
theorem d_BLB_takeRow_0 : decode prog_1_method_23_code 0 = .ok (.aload_n 0, 1) := by decide +kernel
theorem d_BLB_takeRow_1 : decode prog_1_method_23_code 1 = .ok (.getfield 18, 3) := by decide +kernel
theorem d_BLB_takeRow_4 : decode prog_1_method_23_code 4 = .ok (.invokevirtual 283, 3) := by decide +kernel
theorem d_BLB_takeRow_7 : decode prog_1_method_23_code 7 = .ok (.iconst 0, 1) := by decide +kernel
theorem d_BLB_takeRow_8 : decode prog_1_method_23_code 8 = .ok (.istore_n 1, 1) := by decide +kernel
theorem d_BLB_takeRow_9 : decode prog_1_method_23_code 9 = .ok (.iload_n 1, 1) := by decide +kernel
theorem d_BLB_takeRow_10 : decode prog_1_method_23_code 10 = .ok (.aload_n 0, 1) := by decide +kernel
theorem d_BLB_takeRow_11 : decode prog_1_method_23_code 11 = .ok (.getfield 14, 3) := by decide +kernel
theorem d_BLB_takeRow_14 : decode prog_1_method_23_code 14 = .ok (.getfield 53, 3) := by decide +kernel
theorem d_BLB_takeRow_17 : decode prog_1_method_23_code 17 = .ok (.if_icmp .ge 24, 3) := by decide +kernel
theorem d_BLB_takeRow_41 : decode prog_1_method_23_code 41 = .ok (.aload_n 0, 1) := by decide +kernel
theorem d_BLB_takeRow_42 : decode prog_1_method_23_code 42 = .ok (.getfield 14, 3) := by decide +kernel
theorem d_BLB_takeRow_45 : decode prog_1_method_23_code 45 = .ok (.invokevirtual 283, 3) := by decide +kernel
theorem d_BLB_takeRow_48 : decode prog_1_method_23_code 48 = .ok (.return_, 1) := by decide +kernel
theorem d_BLB_takeRow_20 : decode prog_1_method_23_code 20 = .ok (.aload_n 0, 1) := by decide +kernel
theorem d_BLB_takeRow_21 : decode prog_1_method_23_code 21 = .ok (.getfield 18, 3) := by decide +kernel
theorem d_BLB_takeRow_24 : decode prog_1_method_23_code 24 = .ok (.aload_n 0, 1) := by decide +kernel
theorem d_BLB_takeRow_25 : decode prog_1_method_23_code 25 = .ok (.getfield 14, 3) := by decide +kernel
theorem d_BLB_takeRow_28 : decode prog_1_method_23_code 28 = .ok (.iload_n 1, 1) := by decide +kernel
theorem d_BLB_takeRow_29 : decode prog_1_method_23_code 29 = .ok (.invokevirtual 125, 3) := by decide +kernel
theorem d_BLB_takeRow_32 : decode prog_1_method_23_code 32 = .ok (.invokevirtual 70, 3) := by decide +kernel
theorem d_BLB_takeRow_35 : decode prog_1_method_23_code 35 = .ok (.iinc 1 1, 3) := by decide +kernel
theorem d_BLB_takeRow_38 : decode prog_1_method_23_code 38 = .ok (.goto (-29), 3) := by decide +kernel
def wp_BLB_takeRow_9 (post : CS → Prop) : Nat → Nat → Int → CS → Prop
  | 0, _, _, _ => False
  | n + 1, v0, v1, T => tg T v0 = 1 ∧ ∃ q_1 : Nat, fo T v0 0 = some q_1 ∧ (tg T q_1 = 2 ∧ (inR v1 ∧ inR (fi T q_1 1) ∧ ((fi T q_1 1) ≤ v1 → (tg T v0 = 1 ∧ ∃ q_2 : Nat, fo T v0 0 = some q_2 ∧ (tg T q_2 = 2 ∧ wp_BPt_clear (fun T_3 => post T_3) q_2 T))) ∧ (¬ ((fi T q_1 1) ≤ v1) → (tg T v0 = 1 ∧ ∃ q_5 : Nat, fo T v0 1 = some q_5 ∧ (tg T v0 = 1 ∧ ∃ q_6 : Nat, fo T v0 0 = some q_6 ∧ (tg T q_6 = 2 ∧ wp_BPt_at (fun r_8 T_7 => tg T_7 q_5 = 2 ∧ wp_BPt_add (fun T_9 => (wp_BLB_takeRow_9 post n) v0 (v1 + 1) T_9) q_5 r_8 T_7) q_6 v1 T))))))
def wp_BLB_takeRow (post : CS → Prop) (v0 : Nat) (T : CS) : Prop := tg T v0 = 1 ∧ ∃ q_1 : Nat, fo T v0 1 = some q_1 ∧ (tg T q_1 = 2 ∧ wp_BPt_clear (fun T_2 => ∃ nn : Nat, wp_BLB_takeRow_9 post nn v0 0 T_2) q_1 T)
set_option maxHeartbeats 4000000 in
set_option maxRecDepth 100000 in
theorem c_BLB_takeRow (l : Launch) {D : va_G} {k : CK} {post : CS → Prop} {v0 : Nat} {T : CS} (hw : wp_BLB_takeRow post v0 T) : jCv l D k y_BLB_takeRow prog_1_method_23_code 2 none 2 43 0 0 T [.ref v0] post := by
  refine j_cov (own := "LandBook") (by decide) rfl (Nat.le_of_ble_eq_true rfl) (fun X F K hT hret => ?_)
  have B9 : ∀ (nn : Nat) (v0 : Nat) (v1 : Int) (T : CS), cs_ok k T → wp_BLB_takeRow_9 post nn v0 v1 T → jat l D X 2 9 [(0, .ref v0), (1, vi v1)] [] (cwd k T) 0 0 := by
    intro nn
    induction nn with
    | zero => intro v0 v1 T hT hw; exact hw.elim
    | succ n9 ih9 =>
      intro v0 v1 T hT hw
      unfold wp_BLB_takeRow_9 at hw
      refine j_iload_n F 1 d_BLB_takeRow_9 rfl ?_
      refine j_aload_n F 0 d_BLB_takeRow_10 rfl ?_
      obtain ⟨hc1, q_1, hc2, hw⟩ := hw
      refine c_getr F K hT 1 0 rfl tu_LandBook (by decide) (by decide) rfl tq_437 (Or.inl rfl) hc1 hc2 d_BLB_takeRow_11 ?_
      obtain ⟨hc1, hw⟩ := hw
      refine c_geti F K hT 2 1 rfl tu_Points (by decide) (by decide) rfl tq_438 (Or.inl rfl) hc1 d_BLB_takeRow_14 ?_
      obtain ⟨hc1, hc2, hwt, hwf⟩ := hw
      refine j_icmp_ge F 41 hc1 hc2 d_BLB_takeRow_17 rfl (fun hh => ?_) (fun hh => ?_)
      · have hw := hwt hh
        refine j_aload_n F 0 d_BLB_takeRow_41 rfl ?_
        obtain ⟨hc1, q_2, hc2, hw⟩ := hw
        refine c_getr F K hT 1 0 rfl tu_LandBook (by decide) (by decide) rfl tq_437 (Or.inl rfl) hc1 hc2 d_BLB_takeRow_42 ?_
        obtain ⟨hg1, hw⟩ := hw
        refine c_callVv F K hT (c_BPt_clear l hw) (tw_gV tq_436 tq_149 tq_150 tq_126 tq_151) 2 rfl (by decide) hg1 q_BPt_clear rfl ⟨by decide, by decide⟩ ⟨by omega, by omega⟩ rfl (Nat.le_of_ble_eq_true rfl) d_BLB_takeRow_45 (fun T_3 hw hT => ?_)
        exact hret _ _ _ _ _ hw hT (by omega) (by omega) d_BLB_takeRow_48
      · have hw := hwf hh
        refine j_aload_n F 0 d_BLB_takeRow_20 rfl ?_
        obtain ⟨hc1, q_5, hc2, hw⟩ := hw
        refine c_getr F K hT 1 1 rfl tu_LandBook (by decide) (by decide) rfl tq_435 (Or.inl rfl) hc1 hc2 d_BLB_takeRow_21 ?_
        refine j_aload_n F 0 d_BLB_takeRow_24 rfl ?_
        obtain ⟨hc1, q_6, hc2, hw⟩ := hw
        refine c_getr F K hT 1 0 rfl tu_LandBook (by decide) (by decide) rfl tq_437 (Or.inl rfl) hc1 hc2 d_BLB_takeRow_25 ?_
        refine j_iload_n F 1 d_BLB_takeRow_28 rfl ?_
        obtain ⟨hg1, hw⟩ := hw
        refine c_callVi F K hT (c_BPt_at l hw) (tw_gV tq_439 tq_136 tq_137 tq_126 tq_138) 2 rfl (by decide) hg1 q_BPt_at rfl ⟨by decide, by decide⟩ ⟨by omega, by omega⟩ rfl (Nat.le_of_ble_eq_true rfl) d_BLB_takeRow_29 (fun r_8 T_7 hw hT => ?_)
        obtain ⟨hg1, hw⟩ := hw
        refine c_callVv F K hT (c_BPt_add l hw) (tw_gV tq_440 tq_131 tq_132 tq_126 tq_133) 2 rfl (by decide) hg1 q_BPt_add rfl ⟨by decide, by decide⟩ ⟨by omega, by omega⟩ rfl (Nat.le_of_ble_eq_true rfl) d_BLB_takeRow_32 (fun T_9 hw hT => ?_)
        refine j_iinc F 1 [(1, vi (v1 + 1)), (0, .ref v0)] d_BLB_takeRow_35 rfl (by decide) rfl ?_
        refine j_goto F 9 d_BLB_takeRow_38 rfl ?_
        refine j_sub [1, 0] rfl ?_
        exact ih9 _ _ _ hT hw
  unfold wp_BLB_takeRow at hw
  show jat l D X 2 0 [(0, .ref v0)] [] (cwd k T) 0 0
  refine j_aload_n F 0 d_BLB_takeRow_0 rfl ?_
  obtain ⟨hc1, q_1, hc2, hw⟩ := hw
  refine c_getr F K hT 1 1 rfl tu_LandBook (by decide) (by decide) rfl tq_435 (Or.inl rfl) hc1 hc2 d_BLB_takeRow_1 ?_
  obtain ⟨hg1, hw⟩ := hw
  refine c_callVv F K hT (c_BPt_clear l hw) (tw_gV tq_436 tq_149 tq_150 tq_126 tq_151) 2 rfl (by decide) hg1 q_BPt_clear rfl ⟨by decide, by decide⟩ ⟨by omega, by omega⟩ rfl (Nat.le_of_ble_eq_true rfl) d_BLB_takeRow_4 (fun T_2 hw hT => ?_)
  refine j_iconst F d_BLB_takeRow_7 ?_
  refine j_istore_n F [(1, vi 0), (0, .ref v0)] d_BLB_takeRow_8 (by decide) rfl ?_
  refine j_sub [1, 0] rfl ?_
  obtain ⟨nn, hw⟩ := hw
  exact B9 nn _ _ _ hT hw
theorem tq_441 : (Jvm.Cond.fieldLink "LandBook" (38 : Nat) "LandBook" "register" "LLandBook$Register;") ∈ tw_G := tw_in (List.mem_of_getElem? (i := 230) (by decide +kernel)) rfl
theorem tq_442 : (Jvm.Cond.methodLink "LandBook" (173 : Nat) ({ cls := "LandBook$Register", name := "lastEntry", desc := "()I" } : Jvm.MethodName)) ∈ tw_G := tw_in (List.mem_of_getElem? (i := 666) (by decide +kernel)) rfl
theorem tq_443 : (Jvm.Cond.methodLink "LandBook" (76 : Nat) ({ cls := "LandBook$Register", name := "lotCount", desc := "()I" } : Jvm.MethodName)) ∈ tw_G := tw_in (List.mem_of_getElem? (i := 379) (by decide +kernel)) rfl
theorem tq_444 : (Jvm.Cond.instanceMethod ({ cls := "LandBook$Register", name := "lotCount", desc := "()I" } : Jvm.MethodName)) ∈ tw_G := tw_in (List.mem_of_getElem? (i := 380) (by decide +kernel)) rfl
theorem tq_445 : (Jvm.Cond.selects "LandBook$Register" ({ cls := "LandBook$Register", name := "lotCount", desc := "()I" } : Jvm.MethodName) ({ cls := "LandBook$Register", name := "lotCount", desc := "()I" } : Jvm.MethodName)) ∈ tw_G := tw_in (List.mem_of_getElem? (i := 381) (by decide +kernel)) rfl
theorem tq_446 : (Jvm.Cond.code ({ cls := "LandBook$Register", name := "lotCount", desc := "()I" } : Jvm.MethodName) prog_10_method_3_code (1 : Nat) (Option.some Jvm.ClassFile.FieldType.int)) ∈ tw_G := tw_in (List.mem_of_getElem? (i := 382) (by decide +kernel)) rfl
theorem tq_447 : (Jvm.Cond.methodLink "LandBook" (186 : Nat) ({ cls := "LandBook$Register", name := "easementCount", desc := "()I" } : Jvm.MethodName)) ∈ tw_G := tw_in (List.mem_of_getElem? (i := 667) (by decide +kernel)) rfl
theorem tq_448 : (Jvm.Cond.instanceMethod ({ cls := "LandBook$Register", name := "easementCount", desc := "()I" } : Jvm.MethodName)) ∈ tw_G := tw_in (List.mem_of_getElem? (i := 668) (by decide +kernel)) rfl
theorem tq_449 : (Jvm.Cond.selects "LandBook$Register" ({ cls := "LandBook$Register", name := "easementCount", desc := "()I" } : Jvm.MethodName) ({ cls := "LandBook$Register", name := "easementCount", desc := "()I" } : Jvm.MethodName)) ∈ tw_G := tw_in (List.mem_of_getElem? (i := 669) (by decide +kernel)) rfl
theorem tq_450 : (Jvm.Cond.code ({ cls := "LandBook$Register", name := "easementCount", desc := "()I" } : Jvm.MethodName) prog_10_method_4_code (1 : Nat) (Option.some Jvm.ClassFile.FieldType.int)) ∈ tw_G := tw_in (List.mem_of_getElem? (i := 670) (by decide +kernel)) rfl
theorem tq_451 : (Jvm.Cond.fieldLink "LandBook" (45 : Nat) "LandBook" "log" "LLandBook$Log;") ∈ tw_G := tw_in (List.mem_of_getElem? (i := 231) (by decide +kernel)) rfl
theorem tq_452 : (Jvm.Cond.fieldLink "LandBook" (247 : Nat) "LandBook$Log" "size" "I") ∈ tw_G := tw_in (List.mem_of_getElem? (i := 216) (by decide +kernel)) rfl
theorem tq_453 : (Jvm.Cond.methodLink "LandBook" (304 : Nat) ({ cls := "LandBook$Log", name := "lengthOf", desc := "([I)I" } : Jvm.MethodName)) ∈ tw_G := tw_in (List.mem_of_getElem? (i := 671) (by decide +kernel)) rfl
theorem tq_454 : (Jvm.Cond.static ({ cls := "LandBook$Log", name := "lengthOf", desc := "([I)I" } : Jvm.MethodName)) ∈ tw_G := tw_in (List.mem_of_getElem? (i := 672) (by decide +kernel)) rfl
theorem tq_455 : (Jvm.Cond.code ({ cls := "LandBook$Log", name := "lengthOf", desc := "([I)I" } : Jvm.MethodName) prog_6_method_2_code (1 : Nat) (Option.some Jvm.ClassFile.FieldType.int)) ∈ tw_G := tw_in (List.mem_of_getElem? (i := 673) (by decide +kernel)) rfl
abbrev y_BLB_isFull : MethodName := ⟨"LandBook", "isFull", "(II[I)Z"⟩
theorem q_BLB_isFull : y_BLB_isFull.cls = "LandBook" ∧ y_BLB_isFull.cls ≠ "java/lang/invoke/MethodHandle" ∧ y_BLB_isFull.cls ≠ "java/lang/invoke/VarHandle" ∧ (parseMethodDescriptor y_BLB_isFull.desc).map (fun d => d.parameters.length) = some 3 := by decide +kernel
theorem d_BLB_isFull_0 : decode prog_1_method_33_code 0 = .ok (.aload_n 0, 1) := by decide +kernel
theorem d_BLB_isFull_1 : decode prog_1_method_33_code 1 = .ok (.getfield 38, 3) := by decide +kernel
theorem d_BLB_isFull_4 : decode prog_1_method_33_code 4 = .ok (.invokevirtual 173, 3) := by decide +kernel
theorem d_BLB_isFull_7 : decode prog_1_method_33_code 7 = .ok (.sipush 600, 3) := by decide +kernel
theorem d_BLB_isFull_10 : decode prog_1_method_33_code 10 = .ok (.if_icmp .ge 51, 3) := by decide +kernel
theorem d_BLB_isFull_61 : decode prog_1_method_33_code 61 = .ok (.iconst 1, 1) := by decide +kernel
theorem d_BLB_isFull_62 : decode prog_1_method_33_code 62 = .ok (.goto 4, 3) := by decide +kernel
theorem d_BLB_isFull_66 : decode prog_1_method_33_code 66 = .ok (.ireturn, 1) := by decide +kernel
theorem d_BLB_isFull_13 : decode prog_1_method_33_code 13 = .ok (.aload_n 0, 1) := by decide +kernel
theorem d_BLB_isFull_14 : decode prog_1_method_33_code 14 = .ok (.getfield 38, 3) := by decide +kernel
theorem d_BLB_isFull_17 : decode prog_1_method_33_code 17 = .ok (.invokevirtual 76, 3) := by decide +kernel
theorem d_BLB_isFull_20 : decode prog_1_method_33_code 20 = .ok (.iload_n 1, 1) := by decide +kernel
theorem d_BLB_isFull_21 : decode prog_1_method_33_code 21 = .ok (.iadd, 1) := by decide +kernel
theorem d_BLB_isFull_22 : decode prog_1_method_33_code 22 = .ok (.sipush 300, 3) := by decide +kernel
theorem d_BLB_isFull_25 : decode prog_1_method_33_code 25 = .ok (.if_icmp .gt 36, 3) := by decide +kernel
theorem d_BLB_isFull_28 : decode prog_1_method_33_code 28 = .ok (.aload_n 0, 1) := by decide +kernel
theorem d_BLB_isFull_29 : decode prog_1_method_33_code 29 = .ok (.getfield 38, 3) := by decide +kernel
theorem d_BLB_isFull_32 : decode prog_1_method_33_code 32 = .ok (.invokevirtual 186, 3) := by decide +kernel
theorem d_BLB_isFull_35 : decode prog_1_method_33_code 35 = .ok (.iload_n 2, 1) := by decide +kernel
theorem d_BLB_isFull_36 : decode prog_1_method_33_code 36 = .ok (.iadd, 1) := by decide +kernel
theorem d_BLB_isFull_37 : decode prog_1_method_33_code 37 = .ok (.sipush 200, 3) := by decide +kernel
theorem d_BLB_isFull_40 : decode prog_1_method_33_code 40 = .ok (.if_icmp .gt 21, 3) := by decide +kernel
theorem d_BLB_isFull_43 : decode prog_1_method_33_code 43 = .ok (.aload_n 0, 1) := by decide +kernel
theorem d_BLB_isFull_44 : decode prog_1_method_33_code 44 = .ok (.getfield 45, 3) := by decide +kernel
theorem d_BLB_isFull_47 : decode prog_1_method_33_code 47 = .ok (.getfield 247, 3) := by decide +kernel
theorem d_BLB_isFull_50 : decode prog_1_method_33_code 50 = .ok (.aload_n 3, 1) := by decide +kernel
theorem d_BLB_isFull_51 : decode prog_1_method_33_code 51 = .ok (.invokestatic 304, 3) := by decide +kernel
theorem d_BLB_isFull_54 : decode prog_1_method_33_code 54 = .ok (.iadd, 1) := by decide +kernel
theorem d_BLB_isFull_55 : decode prog_1_method_33_code 55 = .ok (.sipush 12000, 3) := by decide +kernel
theorem d_BLB_isFull_58 : decode prog_1_method_33_code 58 = .ok (.if_icmp .le 7, 3) := by decide +kernel
theorem d_BLB_isFull_65 : decode prog_1_method_33_code 65 = .ok (.iconst 0, 1) := by decide +kernel
def wp_BLB_isFull (post : Int → CS → Prop) (v0 : Nat) (v1 : Int) (v2 : Int) (v3 : Nat) (T : CS) : Prop := tg T v0 = 1 ∧ ∃ q_1 : Nat, fo T v0 4 = some q_1 ∧ (tg T q_1 = 5 ∧ wp_BRg_lastEntry (fun r_3 T_2 => inR r_3 ∧ (600 ≤ r_3 → post 1 T_2) ∧ (¬ (600 ≤ r_3) → (tg T_2 v0 = 1 ∧ ∃ q_4 : Nat, fo T_2 v0 4 = some q_4 ∧ (tg T_2 q_4 = 5 ∧ wp_BRg_lotCount (fun r_6 T_5 => inR (r_6 + v1) ∧ (300 < (r_6 + v1) → post 1 T_5) ∧ (¬ (300 < (r_6 + v1)) → (tg T_5 v0 = 1 ∧ ∃ q_7 : Nat, fo T_5 v0 4 = some q_7 ∧ (tg T_5 q_7 = 5 ∧ wp_BRg_easementCount (fun r_9 T_8 => inR (r_9 + v2) ∧ (200 < (r_9 + v2) → post 1 T_8) ∧ (¬ (200 < (r_9 + v2)) → (tg T_8 v0 = 1 ∧ ∃ q_10 : Nat, fo T_8 v0 5 = some q_10 ∧ (tg T_8 q_10 = 6 ∧ (wp_BLg_lengthOf (fun r_12 T_11 => inR ((fi T_8 q_10 1) + r_12) ∧ (((fi T_8 q_10 1) + r_12) ≤ 12000 → post 0 T_11) ∧ (¬ (((fi T_8 q_10 1) + r_12) ≤ 12000) → post 1 T_11)) v3 T_8))))) q_7 T_5)))) q_4 T_2)))) q_1 T)
set_option maxHeartbeats 4000000 in
set_option maxRecDepth 100000 in
theorem c_BLB_isFull (l : Launch) {D : va_G} {k : CK} {post : Int → CS → Prop} {v0 : Nat} {v1 : Int} {v2 : Int} {v3 : Nat} {T : CS} (hw : wp_BLB_isFull post v0 v1 v2 v3 T) : jCi l D k y_BLB_isFull prog_1_method_33_code 4 (some .boolean) 2 40 0 0 T [.ref v0, vi v1, vi v2, .ref v3] post := by
  refine j_coz (own := "LandBook") (by decide) rfl (Nat.le_of_ble_eq_true rfl) (fun X F K hT hret => ?_)
  unfold wp_BLB_isFull at hw
  show jat l D X 4 0 [(0, .ref v0), (1, vi v1), (2, vi v2), (3, .ref v3)] [] (cwd k T) 0 0
  refine j_aload_n F 0 d_BLB_isFull_0 rfl ?_
  obtain ⟨hc1, q_1, hc2, hw⟩ := hw
  refine c_getr F K hT 1 4 rfl tu_LandBook (by decide) (by decide) rfl tq_441 (Or.inl rfl) hc1 hc2 d_BLB_isFull_1 ?_
  obtain ⟨hg1, hw⟩ := hw
  refine c_callVi F K hT (c_BRg_lastEntry l hw) (tw_gV tq_442 tq_363 tq_364 tq_336 tq_365) 5 rfl (by decide) hg1 q_BRg_lastEntry rfl ⟨by decide, by decide⟩ ⟨by omega, by omega⟩ rfl (Nat.le_of_ble_eq_true rfl) d_BLB_isFull_4 (fun r_3 T_2 hw hT => ?_)
  refine j_sipush F d_BLB_isFull_7 (j_sip (by decide) (by decide)) ?_
  obtain ⟨hc1, hwt, hwf⟩ := hw
  refine j_icmp_ge F 61 hc1 ⟨by decide, by decide⟩ d_BLB_isFull_10 rfl (fun hh => ?_) (fun hh => ?_)
  · have hw := hwt hh
    refine j_iconst F d_BLB_isFull_61 ?_
    refine j_goto F 66 d_BLB_isFull_62 rfl ?_
    exact hret _ _ _ _ _ _ hw hT (by omega) (by omega) (Or.inr rfl) d_BLB_isFull_66
  · have hw := hwf hh
    refine j_aload_n F 0 d_BLB_isFull_13 rfl ?_
    obtain ⟨hc1, q_4, hc2, hw⟩ := hw
    refine c_getr F K hT 1 4 rfl tu_LandBook (by decide) (by decide) rfl tq_441 (Or.inl rfl) hc1 hc2 d_BLB_isFull_14 ?_
    obtain ⟨hg1, hw⟩ := hw
    refine c_callVi F K hT (c_BRg_lotCount l hw) (tw_gV tq_443 tq_444 tq_445 tq_336 tq_446) 5 rfl (by decide) hg1 q_BRg_lotCount rfl ⟨by decide, by decide⟩ ⟨by omega, by omega⟩ rfl (Nat.le_of_ble_eq_true rfl) d_BLB_isFull_17 (fun r_6 T_5 hw hT => ?_)
    refine j_iload_n F 1 d_BLB_isFull_20 rfl ?_
    refine j_iadd F d_BLB_isFull_21 ?_
    refine j_sipush F d_BLB_isFull_22 (j_sip (by decide) (by decide)) ?_
    obtain ⟨hc1, hwt, hwf⟩ := hw
    refine j_icmp_gt F 61 hc1 ⟨by decide, by decide⟩ d_BLB_isFull_25 rfl (fun hh => ?_) (fun hh => ?_)
    · have hw := hwt hh
      refine j_iconst F d_BLB_isFull_61 ?_
      refine j_goto F 66 d_BLB_isFull_62 rfl ?_
      exact hret _ _ _ _ _ _ hw hT (by omega) (by omega) (Or.inr rfl) d_BLB_isFull_66
    · have hw := hwf hh
      refine j_aload_n F 0 d_BLB_isFull_28 rfl ?_
      obtain ⟨hc1, q_7, hc2, hw⟩ := hw
      refine c_getr F K hT 1 4 rfl tu_LandBook (by decide) (by decide) rfl tq_441 (Or.inl rfl) hc1 hc2 d_BLB_isFull_29 ?_
      obtain ⟨hg1, hw⟩ := hw
      refine c_callVi F K hT (c_BRg_easementCount l hw) (tw_gV tq_447 tq_448 tq_449 tq_336 tq_450) 5 rfl (by decide) hg1 q_BRg_easementCount rfl ⟨by decide, by decide⟩ ⟨by omega, by omega⟩ rfl (Nat.le_of_ble_eq_true rfl) d_BLB_isFull_32 (fun r_9 T_8 hw hT => ?_)
      refine j_iload_n F 2 d_BLB_isFull_35 rfl ?_
      refine j_iadd F d_BLB_isFull_36 ?_
      refine j_sipush F d_BLB_isFull_37 (j_sip (by decide) (by decide)) ?_
      obtain ⟨hc1, hwt, hwf⟩ := hw
      refine j_icmp_gt F 61 hc1 ⟨by decide, by decide⟩ d_BLB_isFull_40 rfl (fun hh => ?_) (fun hh => ?_)
      · have hw := hwt hh
        refine j_iconst F d_BLB_isFull_61 ?_
        refine j_goto F 66 d_BLB_isFull_62 rfl ?_
        exact hret _ _ _ _ _ _ hw hT (by omega) (by omega) (Or.inr rfl) d_BLB_isFull_66
      · have hw := hwf hh
        refine j_aload_n F 0 d_BLB_isFull_43 rfl ?_
        obtain ⟨hc1, q_10, hc2, hw⟩ := hw
        refine c_getr F K hT 1 5 rfl tu_LandBook (by decide) (by decide) rfl tq_451 (Or.inl rfl) hc1 hc2 d_BLB_isFull_44 ?_
        obtain ⟨hc1, hw⟩ := hw
        refine c_geti F K hT 6 1 rfl tu_Log (by decide) (by decide) rfl tq_452 (Or.inl rfl) hc1 d_BLB_isFull_47 ?_
        refine j_aload_n F 3 d_BLB_isFull_50 rfl ?_
        refine c_callSi F K hT (c_BLg_lengthOf l hw) (tw_gS tq_453 tq_454 tq_424 tq_455) q_BLg_lengthOf rfl ⟨by decide, by decide⟩ ⟨by omega, by omega⟩ rfl (Nat.le_of_ble_eq_true rfl) d_BLB_isFull_51 (fun r_12 T_11 hw hT => ?_)
        refine j_iadd F d_BLB_isFull_54 ?_
        refine j_sipush F d_BLB_isFull_55 (j_sip (by decide) (by decide)) ?_
        obtain ⟨hc1, hwt, hwf⟩ := hw
        refine j_icmp_le F 65 hc1 ⟨by decide, by decide⟩ d_BLB_isFull_58 rfl (fun hh => ?_) (fun hh => ?_)
        · have hw := hwt hh
          refine j_iconst F d_BLB_isFull_65 ?_
          exact hret _ _ _ _ _ _ hw hT (by omega) (by omega) (Or.inl rfl) d_BLB_isFull_66
        · have hw := hwf hh
          refine j_iconst F d_BLB_isFull_61 ?_
          refine j_goto F 66 d_BLB_isFull_62 rfl ?_
          exact hret _ _ _ _ _ _ hw hT (by omega) (by omega) (Or.inr rfl) d_BLB_isFull_66
abbrev y_BLB_haveTooManyCorners : MethodName := ⟨"LandBook", "haveTooManyCorners", "([LLandBook$Points;)Z"⟩
theorem q_BLB_haveTooManyCorners : y_BLB_haveTooManyCorners.cls ≠ "java/lang/invoke/MethodHandle" ∧ y_BLB_haveTooManyCorners.cls ≠ "java/lang/invoke/VarHandle" ∧ (parseMethodDescriptor y_BLB_haveTooManyCorners.desc).map (fun d => d.parameters.length) = some 1 := by decide +kernel
theorem d_BLB_haveTooManyCorners_0 : decode prog_1_method_34_code 0 = .ok (.aload_n 0, 1) := by decide +kernel
theorem d_BLB_haveTooManyCorners_1 : decode prog_1_method_34_code 1 = .ok (.astore_n 1, 1) := by decide +kernel
theorem d_BLB_haveTooManyCorners_2 : decode prog_1_method_34_code 2 = .ok (.aload_n 1, 1) := by decide +kernel
theorem d_BLB_haveTooManyCorners_3 : decode prog_1_method_34_code 3 = .ok (.arraylength, 1) := by decide +kernel
theorem d_BLB_haveTooManyCorners_4 : decode prog_1_method_34_code 4 = .ok (.istore_n 2, 1) := by decide +kernel
theorem d_BLB_haveTooManyCorners_5 : decode prog_1_method_34_code 5 = .ok (.iconst 0, 1) := by decide +kernel
theorem d_BLB_haveTooManyCorners_6 : decode prog_1_method_34_code 6 = .ok (.istore_n 3, 1) := by decide +kernel
theorem d_BLB_haveTooManyCorners_7 : decode prog_1_method_34_code 7 = .ok (.iload_n 3, 1) := by decide +kernel
theorem d_BLB_haveTooManyCorners_8 : decode prog_1_method_34_code 8 = .ok (.iload_n 2, 1) := by decide +kernel
theorem d_BLB_haveTooManyCorners_9 : decode prog_1_method_34_code 9 = .ok (.if_icmp .ge 26, 3) := by decide +kernel
theorem d_BLB_haveTooManyCorners_35 : decode prog_1_method_34_code 35 = .ok (.iconst 0, 1) := by decide +kernel
theorem d_BLB_haveTooManyCorners_36 : decode prog_1_method_34_code 36 = .ok (.ireturn, 1) := by decide +kernel
theorem d_BLB_haveTooManyCorners_12 : decode prog_1_method_34_code 12 = .ok (.aload_n 1, 1) := by decide +kernel
theorem d_BLB_haveTooManyCorners_13 : decode prog_1_method_34_code 13 = .ok (.iload_n 3, 1) := by decide +kernel
theorem d_BLB_haveTooManyCorners_14 : decode prog_1_method_34_code 14 = .ok (.aaload, 1) := by decide +kernel
theorem d_BLB_haveTooManyCorners_15 : decode prog_1_method_34_code 15 = .ok (.astore 4, 2) := by decide +kernel
theorem d_BLB_haveTooManyCorners_17 : decode prog_1_method_34_code 17 = .ok (.aload 4, 2) := by decide +kernel
theorem d_BLB_haveTooManyCorners_19 : decode prog_1_method_34_code 19 = .ok (.getfield 53, 3) := by decide +kernel
theorem d_BLB_haveTooManyCorners_22 : decode prog_1_method_34_code 22 = .ok (.bipush 60, 2) := by decide +kernel
theorem d_BLB_haveTooManyCorners_24 : decode prog_1_method_34_code 24 = .ok (.if_icmp .le 5, 3) := by decide +kernel
theorem d_BLB_haveTooManyCorners_29 : decode prog_1_method_34_code 29 = .ok (.iinc 3 1, 3) := by decide +kernel
theorem d_BLB_haveTooManyCorners_32 : decode prog_1_method_34_code 32 = .ok (.goto (-25), 3) := by decide +kernel
theorem d_BLB_haveTooManyCorners_27 : decode prog_1_method_34_code 27 = .ok (.iconst 1, 1) := by decide +kernel
theorem d_BLB_haveTooManyCorners_28 : decode prog_1_method_34_code 28 = .ok (.ireturn, 1) := by decide +kernel
def wp_BLB_haveTooManyCorners_7 (post : Int → CS → Prop) : Nat → Nat → Int → Int → CS → Prop
  | 0, _, _, _, _ => False
  | n + 1, v1, v2, v3, T => inR v3 ∧ inR v2 ∧ (v2 ≤ v3 → post 0 T) ∧ (¬ (v2 ≤ v3) → (tg T v1 = 14 ∧ ixR v3 (ln T v1) ∧ ∃ q_1 : Nat, fo T v1 v3.toNat = some q_1 ∧ (tg T q_1 = 2 ∧ (inR (fi T q_1 1) ∧ ((fi T q_1 1) ≤ 60 → ((wp_BLB_haveTooManyCorners_7 post n) v1 v2 (v3 + 1) T)) ∧ (¬ ((fi T q_1 1) ≤ 60) → post 1 T)))))
def wp_BLB_haveTooManyCorners (post : Int → CS → Prop) (v0 : Nat) (T : CS) : Prop := tg T v0 = 14 ∧ (∀ v2_1 : Int, v2_1 = (ln T v0 : Int) → ∃ nn : Nat, wp_BLB_haveTooManyCorners_7 post nn v0 v2_1 0 T)
set_option maxHeartbeats 4000000 in
set_option maxRecDepth 100000 in
theorem c_BLB_haveTooManyCorners (l : Launch) {D : va_G} {k : CK} {post : Int → CS → Prop} {v0 : Nat} {T : CS} (hw : wp_BLB_haveTooManyCorners post v0 T) : jCi l D k y_BLB_haveTooManyCorners prog_1_method_34_code 5 (some .boolean) 0 0 0 0 T [.ref v0] post := by
  refine j_coz (own := "LandBook") (by decide) rfl (Nat.le_of_ble_eq_true rfl) (fun X F K hT hret => ?_)
  have B7 : ∀ (nn : Nat) (v1 : Nat) (v2 : Int) (v3 : Int) (T : CS), cs_ok k T → wp_BLB_haveTooManyCorners_7 post nn v1 v2 v3 T → jat l D X 5 7 [(1, .ref v1), (2, vi v2), (3, vi v3)] [] (cwd k T) 0 0 := by
    intro nn
    induction nn with
    | zero => intro v1 v2 v3 T hT hw; exact hw.elim
    | succ n7 ih7 =>
      intro v1 v2 v3 T hT hw
      unfold wp_BLB_haveTooManyCorners_7 at hw
      refine j_iload_n F 2 d_BLB_haveTooManyCorners_7 rfl ?_
      refine j_iload_n F 1 d_BLB_haveTooManyCorners_8 rfl ?_
      obtain ⟨hc1, hc2, hwt, hwf⟩ := hw
      refine j_icmp_ge F 35 hc1 hc2 d_BLB_haveTooManyCorners_9 rfl (fun hh => ?_) (fun hh => ?_)
      · have hw := hwt hh
        refine j_iconst F d_BLB_haveTooManyCorners_35 ?_
        exact hret _ _ _ _ _ _ hw hT (by omega) (by omega) (Or.inl rfl) d_BLB_haveTooManyCorners_36
      · have hw := hwf hh
        refine j_aload_n F 0 d_BLB_haveTooManyCorners_12 rfl ?_
        refine j_iload_n F 2 d_BLB_haveTooManyCorners_13 rfl ?_
        obtain ⟨hc1, hc2, q_1, hc3, hw⟩ := hw
        refine c_aald14 F K hT hc1 hc2 hc3 d_BLB_haveTooManyCorners_14 ?_
        refine j_astore F [(4, .ref q_1), (1, .ref v1), (2, vi v2), (3, vi v3)] d_BLB_haveTooManyCorners_15 (by decide) rfl ?_
        refine j_aload F 0 d_BLB_haveTooManyCorners_17 rfl ?_
        obtain ⟨hc1, hw⟩ := hw
        refine c_geti F K hT 2 1 rfl tu_Points (by decide) (by decide) rfl tq_438 (Or.inl rfl) hc1 d_BLB_haveTooManyCorners_19 ?_
        refine j_bipush F d_BLB_haveTooManyCorners_22 (j_bip (by decide) (by decide)) ?_
        obtain ⟨hc1, hwt, hwf⟩ := hw
        refine j_icmp_le F 29 hc1 ⟨by decide, by decide⟩ d_BLB_haveTooManyCorners_24 rfl (fun hh => ?_) (fun hh => ?_)
        · have hw := hwt hh
          refine j_iinc F 3 [(3, vi (v3 + 1)), (4, .ref q_1), (1, .ref v1), (2, vi v2)] d_BLB_haveTooManyCorners_29 rfl (by decide) rfl ?_
          refine j_goto F 7 d_BLB_haveTooManyCorners_32 rfl ?_
          refine j_sub [2, 3, 0] rfl ?_
          exact ih7 _ _ _ _ hT hw
        · have hw := hwf hh
          refine j_iconst F d_BLB_haveTooManyCorners_27 ?_
          exact hret _ _ _ _ _ _ hw hT (by omega) (by omega) (Or.inr rfl) d_BLB_haveTooManyCorners_28
  unfold wp_BLB_haveTooManyCorners at hw
  show jat l D X 5 0 [(0, .ref v0)] [] (cwd k T) 0 0
  refine j_aload_n F 0 d_BLB_haveTooManyCorners_0 rfl ?_
  refine j_astore_n F [(1, .ref v0), (0, .ref v0)] d_BLB_haveTooManyCorners_1 (by decide) rfl ?_
  refine j_aload_n F 0 d_BLB_haveTooManyCorners_2 rfl ?_
  obtain ⟨hc1, hw⟩ := hw
  refine c_alen14 F K hT hc1 d_BLB_haveTooManyCorners_3 ?_
  refine j_nmi (fun v2_1 e_v2_1 => ?_)
  have hw := hw v2_1 e_v2_1
  refine j_istore_n F [(2, vi v2_1), (1, .ref v0), (0, .ref v0)] d_BLB_haveTooManyCorners_4 (by decide) rfl ?_
  refine j_iconst F d_BLB_haveTooManyCorners_5 ?_
  refine j_istore_n F [(3, vi 0), (2, vi v2_1), (1, .ref v0), (0, .ref v0)] d_BLB_haveTooManyCorners_6 (by decide) rfl ?_
  refine j_sub [2, 1, 0] rfl ?_
  obtain ⟨nn, hw⟩ := hw
  exact B7 nn _ _ _ _ hT hw
theorem tq_456 : (Jvm.Cond.methodLink "LandBook" (308 : Nat) ({ cls := "LandBook$Register", name := "enter", desc := "(LLandBook$Deed;)I" } : Jvm.MethodName)) ∈ tw_G := tw_in (List.mem_of_getElem? (i := 717) (by decide +kernel)) rfl
theorem tq_457 : (Jvm.Cond.instanceMethod ({ cls := "LandBook$Register", name := "enter", desc := "(LLandBook$Deed;)I" } : Jvm.MethodName)) ∈ tw_G := tw_in (List.mem_of_getElem? (i := 718) (by decide +kernel)) rfl
theorem tq_458 : (Jvm.Cond.selects "LandBook$Register" ({ cls := "LandBook$Register", name := "enter", desc := "(LLandBook$Deed;)I" } : Jvm.MethodName) ({ cls := "LandBook$Register", name := "enter", desc := "(LLandBook$Deed;)I" } : Jvm.MethodName)) ∈ tw_G := tw_in (List.mem_of_getElem? (i := 719) (by decide +kernel)) rfl
theorem tq_459 : (Jvm.Cond.code ({ cls := "LandBook$Register", name := "enter", desc := "(LLandBook$Deed;)I" } : Jvm.MethodName) prog_10_method_19_code (2 : Nat) (Option.some Jvm.ClassFile.FieldType.int)) ∈ tw_G := tw_in (List.mem_of_getElem? (i := 720) (by decide +kernel)) rfl
theorem tq_460 : (Jvm.Cond.methodLink "LandBook" (311 : Nat) ({ cls := "LandBook$Log", name := "append", desc := "(LLandBook$Deed;I[I)V" } : Jvm.MethodName)) ∈ tw_G := tw_in (List.mem_of_getElem? (i := 721) (by decide +kernel)) rfl
theorem tq_461 : (Jvm.Cond.instanceMethod ({ cls := "LandBook$Log", name := "append", desc := "(LLandBook$Deed;I[I)V" } : Jvm.MethodName)) ∈ tw_G := tw_in (List.mem_of_getElem? (i := 722) (by decide +kernel)) rfl
theorem tq_462 : (Jvm.Cond.selects "LandBook$Log" ({ cls := "LandBook$Log", name := "append", desc := "(LLandBook$Deed;I[I)V" } : Jvm.MethodName) ({ cls := "LandBook$Log", name := "append", desc := "(LLandBook$Deed;I[I)V" } : Jvm.MethodName)) ∈ tw_G := tw_in (List.mem_of_getElem? (i := 723) (by decide +kernel)) rfl
theorem tq_463 : (Jvm.Cond.code ({ cls := "LandBook$Log", name := "append", desc := "(LLandBook$Deed;I[I)V" } : Jvm.MethodName) prog_6_method_4_code (10 : Nat) (Option.none : Option Jvm.ClassFile.FieldType)) ∈ tw_G := tw_in (List.mem_of_getElem? (i := 724) (by decide +kernel)) rfl
abbrev y_BLB_enter : MethodName := ⟨"LandBook", "enter", "(LLandBook$Deed;[I)I"⟩
theorem q_BLB_enter : y_BLB_enter.cls = "LandBook" ∧ y_BLB_enter.cls ≠ "java/lang/invoke/MethodHandle" ∧ y_BLB_enter.cls ≠ "java/lang/invoke/VarHandle" ∧ (parseMethodDescriptor y_BLB_enter.desc).map (fun d => d.parameters.length) = some 2 := by decide +kernel
theorem d_BLB_enter_0 : decode prog_1_method_35_code 0 = .ok (.aload_n 0, 1) := by decide +kernel
theorem d_BLB_enter_1 : decode prog_1_method_35_code 1 = .ok (.getfield 38, 3) := by decide +kernel
theorem d_BLB_enter_4 : decode prog_1_method_35_code 4 = .ok (.aload_n 1, 1) := by decide +kernel
theorem d_BLB_enter_5 : decode prog_1_method_35_code 5 = .ok (.invokevirtual 308, 3) := by decide +kernel
theorem d_BLB_enter_8 : decode prog_1_method_35_code 8 = .ok (.istore_n 3, 1) := by decide +kernel
theorem d_BLB_enter_9 : decode prog_1_method_35_code 9 = .ok (.aload_n 0, 1) := by decide +kernel
theorem d_BLB_enter_10 : decode prog_1_method_35_code 10 = .ok (.getfield 45, 3) := by decide +kernel
theorem d_BLB_enter_13 : decode prog_1_method_35_code 13 = .ok (.aload_n 1, 1) := by decide +kernel
theorem d_BLB_enter_14 : decode prog_1_method_35_code 14 = .ok (.iload_n 3, 1) := by decide +kernel
theorem d_BLB_enter_15 : decode prog_1_method_35_code 15 = .ok (.aload_n 2, 1) := by decide +kernel
theorem d_BLB_enter_16 : decode prog_1_method_35_code 16 = .ok (.invokevirtual 311, 3) := by decide +kernel
theorem d_BLB_enter_19 : decode prog_1_method_35_code 19 = .ok (.iload_n 3, 1) := by decide +kernel
theorem d_BLB_enter_20 : decode prog_1_method_35_code 20 = .ok (.ireturn, 1) := by decide +kernel
def wp_BLB_enter (post : Int → CS → Prop) (mc0 ms0 : Nat) (v0 : Nat) (v1 : Nat) (v2 : Nat) (T : CS) : Prop := tg T v0 = 1 ∧ ∃ q_1 : Nat, fo T v0 4 = some q_1 ∧ (∃ mc_4 ms_5 mc_6 ms_7 : Nat, (mc0 = mc_4 + mc_6 ∧ ms0 = ms_5 + ms_7) ∧ tg T q_1 = 5 ∧ wp_BRg_enter (fun r_3 T_2 => tg T_2 v0 = 1 ∧ ∃ q_8 : Nat, fo T_2 v0 5 = some q_8 ∧ (∃ mc_11 ms_12 mc_13 ms_14 : Nat, (mc_6 = mc_11 + mc_13 ∧ ms_7 = ms_12 + ms_14) ∧ tg T_2 q_8 = 6 ∧ wp_BLg_append (fun T_9 => post r_3 T_9) mc_11 ms_12 q_8 v1 r_3 v2 T_2)) mc_4 ms_5 q_1 v1 T)
set_option maxHeartbeats 4000000 in
set_option maxRecDepth 100000 in
theorem c_BLB_enter (l : Launch) {D : va_G} {k : CK} {post : Int → CS → Prop} {mc ms : Nat} {v0 : Nat} {v1 : Nat} {v2 : Nat} {T : CS} (hw : wp_BLB_enter post mc ms v0 v1 v2 T) : jCi l D k y_BLB_enter prog_1_method_35_code 4 (some .int) 8 212 mc ms T [.ref v0, .ref v1, .ref v2] post := by
  refine j_coi (own := "LandBook") (by decide) rfl (Nat.le_of_ble_eq_true rfl) (fun X F K hT hret => ?_)
  unfold wp_BLB_enter at hw
  have key : ∀ (mc0 ms0 c0 n0 : Nat), mc0 = mc → ms0 = ms → c0 = 0 → n0 = 0 → c0 + mc0 = mc → n0 + ms0 = ms → jat l D X 4 0 [(0, .ref v0), (1, .ref v1), (2, .ref v2)] [] (cwd k T) c0 n0 := by
    intro mc0 ms0 c0 n0 hm1 hm2 hz1 hz2 hc0 hn0
    subst hm1; subst hm2
    clear hz1 hz2
    refine j_aload_n F 0 d_BLB_enter_0 rfl ?_
    obtain ⟨hc1, q_1, hc2, hw⟩ := hw
    refine c_getr F K hT 1 4 rfl tu_LandBook (by decide) (by decide) rfl tq_441 (Or.inl rfl) hc1 hc2 d_BLB_enter_1 ?_
    refine j_aload_n F 1 d_BLB_enter_4 rfl ?_
    obtain ⟨mc_4, ms_5, mc_6, ms_7, ⟨he1, he2⟩, hw⟩ := hw
    obtain ⟨hg1, hw⟩ := hw
    refine c_callVi F K hT (c_BRg_enter l hw) (tw_gV tq_456 tq_457 tq_458 tq_336 tq_459) 5 rfl (by decide) hg1 q_BRg_enter rfl ⟨by decide, by decide⟩ ⟨rm_l hc0 he1, rm_l hn0 he2⟩ rfl (Nat.le_of_ble_eq_true rfl) d_BLB_enter_5 (fun r_3 T_2 hw hT => ?_)
    have hc0 := rm_c hc0 he1
    have hn0 := rm_c hn0 he2
    refine j_istore_n F [(3, vi r_3), (0, .ref v0), (1, .ref v1), (2, .ref v2)] d_BLB_enter_8 (by decide) rfl ?_
    refine j_aload_n F 1 d_BLB_enter_9 rfl ?_
    obtain ⟨hc1, q_8, hc2, hw⟩ := hw
    refine c_getr F K hT 1 5 rfl tu_LandBook (by decide) (by decide) rfl tq_451 (Or.inl rfl) hc1 hc2 d_BLB_enter_10 ?_
    refine j_aload_n F 2 d_BLB_enter_13 rfl ?_
    refine j_iload_n F 0 d_BLB_enter_14 rfl ?_
    refine j_aload_n F 3 d_BLB_enter_15 rfl ?_
    obtain ⟨mc_11, ms_12, mc_13, ms_14, ⟨he1, he2⟩, hw⟩ := hw
    obtain ⟨hg1, hw⟩ := hw
    refine c_callVv F K hT (c_BLg_append l hw) (tw_gV tq_460 tq_461 tq_462 tq_424 tq_463) 6 rfl (by decide) hg1 q_BLg_append rfl ⟨by decide, by decide⟩ ⟨rm_l hc0 he1, rm_l hn0 he2⟩ rfl (Nat.le_of_ble_eq_true rfl) d_BLB_enter_16 (fun T_9 hw hT => ?_)
    have hc0 := rm_c hc0 he1
    have hn0 := rm_c hn0 he2
    refine j_iload_n F 0 d_BLB_enter_19 rfl ?_
    exact hret _ _ _ _ _ _ hw hT (rm_y hc0) (rm_y hn0) d_BLB_enter_20
  exact key mc ms 0 0 rfl rfl rfl rfl (Nat.zero_add _) (Nat.zero_add _)
