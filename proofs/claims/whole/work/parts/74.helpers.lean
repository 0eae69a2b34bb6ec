theorem tq_616 : (Jvm.Cond.methodLink "LandBookLaw" (7 : Nat) ({ cls := "LandBook", name := "point", desc := "(II)I" } : Jvm.MethodName)) ∈ tw_G := tw_in (List.mem_of_getElem? (i := 256) (by decide +kernel)) rfl
theorem tq_617 : (Jvm.Cond.instanceMethod ({ cls := "LandBook", name := "point", desc := "(II)I" } : Jvm.MethodName)) ∈ tw_G := tw_in (List.mem_of_getElem? (i := 257) (by decide +kernel)) rfl
theorem tq_618 : (Jvm.Cond.selects "LandBook" ({ cls := "LandBook", name := "point", desc := "(II)I" } : Jvm.MethodName) ({ cls := "LandBook", name := "point", desc := "(II)I" } : Jvm.MethodName)) ∈ tw_G := tw_in (List.mem_of_getElem? (i := 258) (by decide +kernel)) rfl
theorem tq_619 : (Jvm.Cond.code ({ cls := "LandBook", name := "point", desc := "(II)I" } : Jvm.MethodName) prog_1_method_2_code (3 : Nat) (Option.some Jvm.ClassFile.FieldType.int)) ∈ tw_G := tw_in (List.mem_of_getElem? (i := 259) (by decide +kernel)) rfl
theorem tq_620 : (Jvm.Cond.classLink "LandBookLaw" (13 : Nat) "java/lang/IllegalArgumentException") ∈ tw_G := tw_in (List.mem_of_getElem? (i := 254) (by decide +kernel)) rfl
theorem tq_621 : (Jvm.Cond.classLink "LandBookLaw" (15 : Nat) "java/lang/UnsupportedOperationException") ∈ tw_G := tw_in (List.mem_of_getElem? (i := 255) (by decide +kernel)) rfl
abbrev y_H_point : MethodName := ⟨"LandBookLaw", "point", "(LLandBook;II[J)I"⟩
theorem q_H_point : y_H_point.cls ≠ "java/lang/invoke/MethodHandle" ∧ y_H_point.cls ≠ "java/lang/invoke/VarHandle" ∧ (parseMethodDescriptor y_H_point.desc).map (fun d => d.parameters.length) = some 4 := by decide +kernel
theorem d_H_point_0 : decode method_3_code 0 = .ok (.aload_n 3, 1) := by decide +kernel
theorem d_H_point_1 : decode method_3_code 1 = .ok (.iconst 0, 1) := by decide +kernel
theorem d_H_point_2 : decode method_3_code 2 = .ok (.aload_n 0, 1) := by decide +kernel
theorem d_H_point_3 : decode method_3_code 3 = .ok (.iload_n 1, 1) := by decide +kernel
theorem d_H_point_4 : decode method_3_code 4 = .ok (.iload_n 2, 1) := by decide +kernel
theorem d_H_point_5 : decode method_3_code 5 = .ok (.invokevirtual 7, 3) := by decide +kernel
theorem d_H_point_8 : decode method_3_code 8 = .ok (.i2l, 1) := by decide +kernel
theorem d_H_point_9 : decode method_3_code 9 = .ok (.lastore, 1) := by decide +kernel
theorem d_H_point_10 : decode method_3_code 10 = .ok (.goto 11, 3) := by decide +kernel
theorem d_H_point_21 : decode method_3_code 21 = .ok (.iconst 0, 1) := by decide +kernel
theorem d_H_point_22 : decode method_3_code 22 = .ok (.ireturn, 1) := by decide +kernel
theorem d_H_point_13 : decode method_3_code 13 = .ok (.astore 4, 2) := by decide +kernel
theorem d_H_point_15 : decode method_3_code 15 = .ok (.iconst 1, 1) := by decide +kernel
theorem d_H_point_16 : decode method_3_code 16 = .ok (.ireturn, 1) := by decide +kernel
theorem d_H_point_17 : decode method_3_code 17 = .ok (.astore 4, 2) := by decide +kernel
theorem d_H_point_19 : decode method_3_code 19 = .ok (.iconst 2, 1) := by decide +kernel
theorem d_H_point_20 : decode method_3_code 20 = .ok (.ireturn, 1) := by decide +kernel
def hx_point (post : Int → (Nat → Int64) → CS → Prop) (f : Nat → Int64) (mc0 ms0 v0 : Nat) (v1 : Int) (v2 : Int) (T : CS) : Prop := tg T v0 = 1 ∧ wp_BLB_point (fun r T1 => inR r ∧ post 0 (vp_updL f 0 (lI r)) T1) (fun cls T1 => (cls = "java/lang/IllegalArgumentException" ∧ post 1 f T1) ∨ (cls = "java/lang/UnsupportedOperationException" ∧ post 2 f T1)) mc0 ms0 v0 v1 v2 T
set_option maxHeartbeats 4000000 in
set_option maxRecDepth 100000 in
theorem c_H_point (l : Launch) (hfl : l.flags = pinnedFlags ++ [noTraceFlag]) {D : va_G} {k : CK} {post : Int → (Nat → Int64) → CS → Prop} {mc ms v0 : Nat} {v1 : Int} {v2 : Int} {T : CS} {kL : ClassId} {ho : Nat} {f : Nat → Int64} (hw : hx_point post f mc ms v0 v1 v2 T) : jH l D k y_H_point method_3_code 5 [(0, 10, 13, 13), (0, 10, 17, 15)] 8 125 mc ms T kL ho f [.ref v0, vi v1, vi v2, .ref ho] post := by
  obtain ⟨hg, hw⟩ := hw
  refine j_ho (by decide) rfl (Nat.le_of_ble_eq_true rfl) (fun X F K K2 E B hT hret => ?_)
  show jat l D X 5 0 [(0, .ref v0), (1, vi v1), (2, vi v2), (3, .ref ho)] [] (cwd k T ++ hwo ho kL f) 0 0
  refine j_aload_n F 3 d_H_point_0 rfl ?_
  refine j_iconst F d_H_point_1 ?_
  refine j_aload_n F 0 d_H_point_2 rfl ?_
  refine j_iload_n F 1 d_H_point_3 rfl ?_
  refine j_iload_n F 2 d_H_point_4 rfl ?_
  refine h_callV (rest := [vi 0, .ref ho]) F K E hT (c_BLB_point l hfl hw) (tw_gV tq_616 tq_617 tq_618 tq_473 tq_619) hg q_BLB_point rfl ⟨by decide, by decide⟩ ⟨by omega, by omega⟩ rfl (Nat.le_of_ble_eq_true rfl) d_H_point_5 ?_ ?_
  · rintro ov T1 ⟨r, rfl, hi, hp⟩ hT1
    show jat l D X 5 8 [(0, .ref v0), (1, vi v1), (2, vi v2), (3, .ref ho)] [vi r, vi 0, .ref ho] (cwd k T1 ++ hwo ho kL f) (0 + mc) (0 + ms)
    refine j_i2l F hi d_H_point_8 ?_
    refine h_last F K K2 d_H_point_9 ?_
    refine j_goto F 21 d_H_point_10 rfl ?_
    refine j_iconst F d_H_point_21 ?_
    exact hret _ _ _ _ _ _ _ hp hT1 (by omega) (by omega) d_H_point_22
  · rintro cls T1 x (⟨rfl, hp⟩ | ⟨rfl, hp⟩) hT1
    · refine h_catch (pre := []) (post := [(0, 10, 17, 15)]) (sp := 0) (ep := 10) (hp := 13) (ct := 13) F B rfl ⟨by decide, by decide⟩ (by decide) tq_620 (by decide) (fun y hy => by cases hy) ?_
      refine j_astore F [(4, .ref x), (0, .ref v0), (1, vi v1), (2, vi v2), (3, .ref ho)] d_H_point_13 (by decide) rfl ?_
      refine j_iconst F d_H_point_15 ?_
      exact hret _ _ _ _ _ _ _ hp hT1 (by omega) (by omega) d_H_point_16
    · refine h_catch (pre := [(0, 10, 13, 13)]) (post := []) (sp := 0) (ep := 10) (hp := 17) (ct := 15) F B rfl ⟨by decide, by decide⟩ (by decide) tq_621 (by decide) (fun y hy => by
        simp only [List.mem_cons, List.not_mem_nil, or_false] at hy
        rcases hy with rfl
        · exact ⟨by decide, "java/lang/IllegalArgumentException", by decide, by decide, tq_620⟩) ?_
      refine j_astore F [(4, .ref x), (0, .ref v0), (1, vi v1), (2, vi v2), (3, .ref ho)] d_H_point_17 (by decide) rfl ?_
      refine j_iconst F d_H_point_19 ?_
      exact hret _ _ _ _ _ _ _ hp hT1 (by omega) (by omega) d_H_point_20
theorem tq_622 : (Jvm.Cond.methodLink "LandBookLaw" (17 : Nat) ({ cls := "LandBook", name := "open", desc := "()Z" } : Jvm.MethodName)) ∈ tw_G := tw_in (List.mem_of_getElem? (i := 360) (by decide +kernel)) rfl
theorem tq_623 : (Jvm.Cond.instanceMethod ({ cls := "LandBook", name := "open", desc := "()Z" } : Jvm.MethodName)) ∈ tw_G := tw_in (List.mem_of_getElem? (i := 361) (by decide +kernel)) rfl
theorem tq_624 : (Jvm.Cond.selects "LandBook" ({ cls := "LandBook", name := "open", desc := "()Z" } : Jvm.MethodName) ({ cls := "LandBook", name := "open", desc := "()Z" } : Jvm.MethodName)) ∈ tw_G := tw_in (List.mem_of_getElem? (i := 362) (by decide +kernel)) rfl
theorem tq_625 : (Jvm.Cond.code ({ cls := "LandBook", name := "open", desc := "()Z" } : Jvm.MethodName) prog_1_method_3_code (2 : Nat) (Option.some Jvm.ClassFile.FieldType.boolean)) ∈ tw_G := tw_in (List.mem_of_getElem? (i := 363) (by decide +kernel)) rfl
theorem tq_626 : (Jvm.Cond.classLink "LandBookLaw" (21 : Nat) "java/lang/IllegalStateException") ∈ tw_G := tw_in (List.mem_of_getElem? (i := 359) (by decide +kernel)) rfl
abbrev y_H_open : MethodName := ⟨"LandBookLaw", "open", "(LLandBook;[J)I"⟩
theorem q_H_open : y_H_open.cls ≠ "java/lang/invoke/MethodHandle" ∧ y_H_open.cls ≠ "java/lang/invoke/VarHandle" ∧ (parseMethodDescriptor y_H_open.desc).map (fun d => d.parameters.length) = some 2 := by decide +kernel
theorem d_H_open_0 : decode method_4_code 0 = .ok (.aload_n 1, 1) := by decide +kernel
theorem d_H_open_1 : decode method_4_code 1 = .ok (.iconst 0, 1) := by decide +kernel
theorem d_H_open_2 : decode method_4_code 2 = .ok (.aload_n 0, 1) := by decide +kernel
theorem d_H_open_3 : decode method_4_code 3 = .ok (.invokevirtual 17, 3) := by decide +kernel
theorem d_H_open_6 : decode method_4_code 6 = .ok (.ifCond .eq 7, 3) := by decide +kernel
theorem d_H_open_13 : decode method_4_code 13 = .ok (.lconst 0, 1) := by decide +kernel
theorem d_H_open_14 : decode method_4_code 14 = .ok (.lastore, 1) := by decide +kernel
theorem d_H_open_15 : decode method_4_code 15 = .ok (.goto 6, 3) := by decide +kernel
theorem d_H_open_21 : decode method_4_code 21 = .ok (.iconst 0, 1) := by decide +kernel
theorem d_H_open_22 : decode method_4_code 22 = .ok (.ireturn, 1) := by decide +kernel
theorem d_H_open_9 : decode method_4_code 9 = .ok (.lconst 1, 1) := by decide +kernel
theorem d_H_open_10 : decode method_4_code 10 = .ok (.goto 4, 3) := by decide +kernel
theorem d_H_open_18 : decode method_4_code 18 = .ok (.astore_n 2, 1) := by decide +kernel
theorem d_H_open_19 : decode method_4_code 19 = .ok (.iconst 1, 1) := by decide +kernel
theorem d_H_open_20 : decode method_4_code 20 = .ok (.ireturn, 1) := by decide +kernel
def hx_open (post : Int → (Nat → Int64) → CS → Prop) (f : Nat → Int64) (mc0 ms0 v0 : Nat)  (T : CS) : Prop := tg T v0 = 1 ∧ wp_BLB_open (fun r T1 => inR r ∧ post 0 (vp_updL f 0 (lI (if r = 0 then 0 else 1))) T1) (fun cls T1 => (cls = "java/lang/IllegalStateException" ∧ post 1 f T1)) mc0 ms0 v0  T
set_option maxHeartbeats 4000000 in
set_option maxRecDepth 100000 in
theorem c_H_open (l : Launch) (hfl : l.flags = pinnedFlags ++ [noTraceFlag]) {D : va_G} {k : CK} {post : Int → (Nat → Int64) → CS → Prop} {mc ms v0 : Nat}  {T : CS} {kL : ClassId} {ho : Nat} {f : Nat → Int64} (hw : hx_open post f mc ms v0  T) : jH l D k y_H_open method_4_code 3 [(0, 15, 18, 21)] 9 234 mc ms T kL ho f [.ref v0, .ref ho] post := by
  obtain ⟨hg, hw⟩ := hw
  refine j_ho (by decide) rfl (Nat.le_of_ble_eq_true rfl) (fun X F K K2 E B hT hret => ?_)
  show jat l D X 3 0 [(0, .ref v0), (1, .ref ho)] [] (cwd k T ++ hwo ho kL f) 0 0
  refine j_aload_n F 1 d_H_open_0 rfl ?_
  refine j_iconst F d_H_open_1 ?_
  refine j_aload_n F 0 d_H_open_2 rfl ?_
  refine h_callV (rest := [vi 0, .ref ho]) F K E hT (c_BLB_open l hfl hw) (tw_gV tq_622 tq_623 tq_624 tq_473 tq_625) hg q_BLB_open rfl ⟨by decide, by decide⟩ ⟨by omega, by omega⟩ rfl (Nat.le_of_ble_eq_true rfl) d_H_open_3 ?_ ?_
  · rintro ov T1 ⟨r, rfl, hi, hp⟩ hT1
    show jat l D X 3 6 [(0, .ref v0), (1, .ref ho)] [vi r, vi 0, .ref ho] (cwd k T1 ++ hwo ho kL f) (0 + mc) (0 + ms)
    refine j_if_eq F 13 hi d_H_open_6 rfl (fun hh => ?_) (fun hh => ?_)
    · rw [if_pos hh] at hp
      refine j_lconst (x := 0) F d_H_open_13 (by decide) ?_
      refine h_last F K K2 d_H_open_14 ?_
      refine j_goto F 21 d_H_open_15 rfl ?_
      refine j_iconst F d_H_open_21 ?_
      exact hret _ _ _ _ _ _ _ hp hT1 (by omega) (by omega) d_H_open_22
    · rw [if_neg hh] at hp
      refine j_lconst (x := 1) F d_H_open_9 (by decide) ?_
      refine j_goto F 14 d_H_open_10 rfl ?_
      refine h_last F K K2 d_H_open_14 ?_
      refine j_goto F 21 d_H_open_15 rfl ?_
      refine j_iconst F d_H_open_21 ?_
      exact hret _ _ _ _ _ _ _ hp hT1 (by omega) (by omega) d_H_open_22
  · rintro cls T1 x ⟨rfl, hp⟩ hT1
    · refine h_catch (pre := []) (post := []) (sp := 0) (ep := 15) (hp := 18) (ct := 21) F B rfl ⟨by decide, by decide⟩ (by decide) tq_626 (by decide) (fun y hy => by cases hy) ?_
      refine j_astore_n F [(2, .ref x), (0, .ref v0), (1, .ref ho)] d_H_open_18 (by decide) rfl ?_
      refine j_iconst F d_H_open_19 ?_
      exact hret _ _ _ _ _ _ _ hp hT1 (by omega) (by omega) d_H_open_20
theorem tq_627 : (Jvm.Cond.methodLink "LandBookLaw" (23 : Nat) ({ cls := "LandBook", name := "split", desc := "(II)I" } : Jvm.MethodName)) ∈ tw_G := tw_in (List.mem_of_getElem? (i := 540) (by decide +kernel)) rfl
theorem tq_628 : (Jvm.Cond.instanceMethod ({ cls := "LandBook", name := "split", desc := "(II)I" } : Jvm.MethodName)) ∈ tw_G := tw_in (List.mem_of_getElem? (i := 541) (by decide +kernel)) rfl
theorem tq_629 : (Jvm.Cond.selects "LandBook" ({ cls := "LandBook", name := "split", desc := "(II)I" } : Jvm.MethodName) ({ cls := "LandBook", name := "split", desc := "(II)I" } : Jvm.MethodName)) ∈ tw_G := tw_in (List.mem_of_getElem? (i := 542) (by decide +kernel)) rfl
theorem tq_630 : (Jvm.Cond.code ({ cls := "LandBook", name := "split", desc := "(II)I" } : Jvm.MethodName) prog_1_method_4_code (7 : Nat) (Option.some Jvm.ClassFile.FieldType.int)) ∈ tw_G := tw_in (List.mem_of_getElem? (i := 543) (by decide +kernel)) rfl
theorem tq_631 : (Jvm.Cond.classLink "LandBookLaw" (26 : Nat) "java/lang/IndexOutOfBoundsException") ∈ tw_G := tw_in (List.mem_of_getElem? (i := 539) (by decide +kernel)) rfl
abbrev y_H_split : MethodName := ⟨"LandBookLaw", "split", "(LLandBook;II[J)I"⟩
theorem q_H_split : y_H_split.cls ≠ "java/lang/invoke/MethodHandle" ∧ y_H_split.cls ≠ "java/lang/invoke/VarHandle" ∧ (parseMethodDescriptor y_H_split.desc).map (fun d => d.parameters.length) = some 4 := by decide +kernel
theorem d_H_split_0 : decode method_5_code 0 = .ok (.aload_n 3, 1) := by decide +kernel
theorem d_H_split_1 : decode method_5_code 1 = .ok (.iconst 0, 1) := by decide +kernel
theorem d_H_split_2 : decode method_5_code 2 = .ok (.aload_n 0, 1) := by decide +kernel
theorem d_H_split_3 : decode method_5_code 3 = .ok (.iload_n 1, 1) := by decide +kernel
theorem d_H_split_4 : decode method_5_code 4 = .ok (.iload_n 2, 1) := by decide +kernel
theorem d_H_split_5 : decode method_5_code 5 = .ok (.invokevirtual 23, 3) := by decide +kernel
theorem d_H_split_8 : decode method_5_code 8 = .ok (.i2l, 1) := by decide +kernel
theorem d_H_split_9 : decode method_5_code 9 = .ok (.lastore, 1) := by decide +kernel
theorem d_H_split_10 : decode method_5_code 10 = .ok (.goto 15, 3) := by decide +kernel
theorem d_H_split_25 : decode method_5_code 25 = .ok (.iconst 0, 1) := by decide +kernel
theorem d_H_split_26 : decode method_5_code 26 = .ok (.ireturn, 1) := by decide +kernel
theorem d_H_split_13 : decode method_5_code 13 = .ok (.astore 4, 2) := by decide +kernel
theorem d_H_split_15 : decode method_5_code 15 = .ok (.iconst 1, 1) := by decide +kernel
theorem d_H_split_16 : decode method_5_code 16 = .ok (.ireturn, 1) := by decide +kernel
theorem d_H_split_17 : decode method_5_code 17 = .ok (.astore 4, 2) := by decide +kernel
theorem d_H_split_19 : decode method_5_code 19 = .ok (.iconst 2, 1) := by decide +kernel
theorem d_H_split_20 : decode method_5_code 20 = .ok (.ireturn, 1) := by decide +kernel
theorem d_H_split_21 : decode method_5_code 21 = .ok (.astore 4, 2) := by decide +kernel
theorem d_H_split_23 : decode method_5_code 23 = .ok (.iconst 3, 1) := by decide +kernel
theorem d_H_split_24 : decode method_5_code 24 = .ok (.ireturn, 1) := by decide +kernel
def hx_split (post : Int → (Nat → Int64) → CS → Prop) (f : Nat → Int64) (mc0 ms0 v0 : Nat) (v1 : Int) (v2 : Int) (T : CS) : Prop := tg T v0 = 1 ∧ wp_BLB_split (fun r T1 => inR r ∧ post 0 (vp_updL f 0 (lI r)) T1) (fun cls T1 => (cls = "java/lang/IllegalStateException" ∧ post 1 f T1) ∨ (cls = "java/lang/IndexOutOfBoundsException" ∧ post 2 f T1) ∨ (cls = "java/lang/IllegalArgumentException" ∧ post 3 f T1)) mc0 ms0 v0 v1 v2 T
set_option maxHeartbeats 4000000 in
set_option maxRecDepth 100000 in
theorem c_H_split (l : Launch) (hfl : l.flags = pinnedFlags ++ [noTraceFlag]) {D : va_G} {k : CK} {post : Int → (Nat → Int64) → CS → Prop} {mc ms v0 : Nat} {v1 : Int} {v2 : Int} {T : CS} {kL : ClassId} {ho : Nat} {f : Nat → Int64} (hw : hx_split post f mc ms v0 v1 v2 T) : jH l D k y_H_split method_5_code 5 [(0, 10, 13, 21), (0, 10, 17, 26), (0, 10, 21, 13)] 10 261 mc ms T kL ho f [.ref v0, vi v1, vi v2, .ref ho] post := by
  obtain ⟨hg, hw⟩ := hw
  refine j_ho (by decide) rfl (Nat.le_of_ble_eq_true rfl) (fun X F K K2 E B hT hret => ?_)
  show jat l D X 5 0 [(0, .ref v0), (1, vi v1), (2, vi v2), (3, .ref ho)] [] (cwd k T ++ hwo ho kL f) 0 0
  refine j_aload_n F 3 d_H_split_0 rfl ?_
  refine j_iconst F d_H_split_1 ?_
  refine j_aload_n F 0 d_H_split_2 rfl ?_
  refine j_iload_n F 1 d_H_split_3 rfl ?_
  refine j_iload_n F 2 d_H_split_4 rfl ?_
  refine h_callV (rest := [vi 0, .ref ho]) F K E hT (c_BLB_split l hfl hw) (tw_gV tq_627 tq_628 tq_629 tq_473 tq_630) hg q_BLB_split rfl ⟨by decide, by decide⟩ ⟨by omega, by omega⟩ rfl (Nat.le_of_ble_eq_true rfl) d_H_split_5 ?_ ?_
  · rintro ov T1 ⟨r, rfl, hi, hp⟩ hT1
    show jat l D X 5 8 [(0, .ref v0), (1, vi v1), (2, vi v2), (3, .ref ho)] [vi r, vi 0, .ref ho] (cwd k T1 ++ hwo ho kL f) (0 + mc) (0 + ms)
    refine j_i2l F hi d_H_split_8 ?_
    refine h_last F K K2 d_H_split_9 ?_
    refine j_goto F 25 d_H_split_10 rfl ?_
    refine j_iconst F d_H_split_25 ?_
    exact hret _ _ _ _ _ _ _ hp hT1 (by omega) (by omega) d_H_split_26
  · rintro cls T1 x (⟨rfl, hp⟩ | ⟨rfl, hp⟩ | ⟨rfl, hp⟩) hT1
    · refine h_catch (pre := []) (post := [(0, 10, 17, 26), (0, 10, 21, 13)]) (sp := 0) (ep := 10) (hp := 13) (ct := 21) F B rfl ⟨by decide, by decide⟩ (by decide) tq_626 (by decide) (fun y hy => by cases hy) ?_
      refine j_astore F [(4, .ref x), (0, .ref v0), (1, vi v1), (2, vi v2), (3, .ref ho)] d_H_split_13 (by decide) rfl ?_
      refine j_iconst F d_H_split_15 ?_
      exact hret _ _ _ _ _ _ _ hp hT1 (by omega) (by omega) d_H_split_16
    · refine h_catch (pre := [(0, 10, 13, 21)]) (post := [(0, 10, 21, 13)]) (sp := 0) (ep := 10) (hp := 17) (ct := 26) F B rfl ⟨by decide, by decide⟩ (by decide) tq_631 (by decide) (fun y hy => by
        simp only [List.mem_cons, List.not_mem_nil, or_false] at hy
        rcases hy with rfl
        · exact ⟨by decide, "java/lang/IllegalStateException", by decide, by decide, tq_626⟩) ?_
      refine j_astore F [(4, .ref x), (0, .ref v0), (1, vi v1), (2, vi v2), (3, .ref ho)] d_H_split_17 (by decide) rfl ?_
      refine j_iconst F d_H_split_19 ?_
      exact hret _ _ _ _ _ _ _ hp hT1 (by omega) (by omega) d_H_split_20
    · refine h_catch (pre := [(0, 10, 13, 21), (0, 10, 17, 26)]) (post := []) (sp := 0) (ep := 10) (hp := 21) (ct := 13) F B rfl ⟨by decide, by decide⟩ (by decide) tq_620 (by decide) (fun y hy => by
        simp only [List.mem_cons, List.not_mem_nil, or_false] at hy
        rcases hy with rfl | rfl
        · exact ⟨by decide, "java/lang/IllegalStateException", by decide, by decide, tq_626⟩
        · exact ⟨by decide, "java/lang/IndexOutOfBoundsException", by decide, by decide, tq_631⟩) ?_
      refine j_astore F [(4, .ref x), (0, .ref v0), (1, vi v1), (2, vi v2), (3, .ref ho)] d_H_split_21 (by decide) rfl ?_
      refine j_iconst F d_H_split_23 ?_
      exact hret _ _ _ _ _ _ _ hp hT1 (by omega) (by omega) d_H_split_24
theorem tq_632 : (Jvm.Cond.methodLink "LandBookLaw" (28 : Nat) ({ cls := "LandBook", name := "merge", desc := "(III)I" } : Jvm.MethodName)) ∈ tw_G := tw_in (List.mem_of_getElem? (i := 783) (by decide +kernel)) rfl
theorem tq_633 : (Jvm.Cond.instanceMethod ({ cls := "LandBook", name := "merge", desc := "(III)I" } : Jvm.MethodName)) ∈ tw_G := tw_in (List.mem_of_getElem? (i := 784) (by decide +kernel)) rfl
theorem tq_634 : (Jvm.Cond.selects "LandBook" ({ cls := "LandBook", name := "merge", desc := "(III)I" } : Jvm.MethodName) ({ cls := "LandBook", name := "merge", desc := "(III)I" } : Jvm.MethodName)) ∈ tw_G := tw_in (List.mem_of_getElem? (i := 785) (by decide +kernel)) rfl
theorem tq_635 : (Jvm.Cond.code ({ cls := "LandBook", name := "merge", desc := "(III)I" } : Jvm.MethodName) prog_1_method_5_code (8 : Nat) (Option.some Jvm.ClassFile.FieldType.int)) ∈ tw_G := tw_in (List.mem_of_getElem? (i := 786) (by decide +kernel)) rfl
abbrev y_H_merge : MethodName := ⟨"LandBookLaw", "merge", "(LLandBook;III[J)I"⟩
theorem q_H_merge : y_H_merge.cls ≠ "java/lang/invoke/MethodHandle" ∧ y_H_merge.cls ≠ "java/lang/invoke/VarHandle" ∧ (parseMethodDescriptor y_H_merge.desc).map (fun d => d.parameters.length) = some 5 := by decide +kernel
theorem d_H_merge_0 : decode method_6_code 0 = .ok (.aload 4, 2) := by decide +kernel
theorem d_H_merge_2 : decode method_6_code 2 = .ok (.iconst 0, 1) := by decide +kernel
theorem d_H_merge_3 : decode method_6_code 3 = .ok (.aload_n 0, 1) := by decide +kernel
theorem d_H_merge_4 : decode method_6_code 4 = .ok (.iload_n 1, 1) := by decide +kernel
theorem d_H_merge_5 : decode method_6_code 5 = .ok (.iload_n 2, 1) := by decide +kernel
theorem d_H_merge_6 : decode method_6_code 6 = .ok (.iload_n 3, 1) := by decide +kernel
theorem d_H_merge_7 : decode method_6_code 7 = .ok (.invokevirtual 28, 3) := by decide +kernel
theorem d_H_merge_10 : decode method_6_code 10 = .ok (.i2l, 1) := by decide +kernel
theorem d_H_merge_11 : decode method_6_code 11 = .ok (.lastore, 1) := by decide +kernel
theorem d_H_merge_12 : decode method_6_code 12 = .ok (.goto 15, 3) := by decide +kernel
theorem d_H_merge_27 : decode method_6_code 27 = .ok (.iconst 0, 1) := by decide +kernel
theorem d_H_merge_28 : decode method_6_code 28 = .ok (.ireturn, 1) := by decide +kernel
theorem d_H_merge_15 : decode method_6_code 15 = .ok (.astore 5, 2) := by decide +kernel
theorem d_H_merge_17 : decode method_6_code 17 = .ok (.iconst 1, 1) := by decide +kernel
theorem d_H_merge_18 : decode method_6_code 18 = .ok (.ireturn, 1) := by decide +kernel
theorem d_H_merge_19 : decode method_6_code 19 = .ok (.astore 5, 2) := by decide +kernel
theorem d_H_merge_21 : decode method_6_code 21 = .ok (.iconst 2, 1) := by decide +kernel
theorem d_H_merge_22 : decode method_6_code 22 = .ok (.ireturn, 1) := by decide +kernel
theorem d_H_merge_23 : decode method_6_code 23 = .ok (.astore 5, 2) := by decide +kernel
theorem d_H_merge_25 : decode method_6_code 25 = .ok (.iconst 3, 1) := by decide +kernel
theorem d_H_merge_26 : decode method_6_code 26 = .ok (.ireturn, 1) := by decide +kernel
def hx_merge (post : Int → (Nat → Int64) → CS → Prop) (f : Nat → Int64) (mc0 ms0 v0 : Nat) (v1 : Int) (v2 : Int) (v3 : Int) (T : CS) : Prop := tg T v0 = 1 ∧ wp_BLB_merge (fun r T1 => inR r ∧ post 0 (vp_updL f 0 (lI r)) T1) (fun cls T1 => (cls = "java/lang/IllegalStateException" ∧ post 1 f T1) ∨ (cls = "java/lang/IndexOutOfBoundsException" ∧ post 2 f T1) ∨ (cls = "java/lang/IllegalArgumentException" ∧ post 3 f T1)) mc0 ms0 v0 v1 v2 v3 T
set_option maxHeartbeats 4000000 in
set_option maxRecDepth 100000 in
theorem c_H_merge (l : Launch) (hfl : l.flags = pinnedFlags ++ [noTraceFlag]) {D : va_G} {k : CK} {post : Int → (Nat → Int64) → CS → Prop} {mc ms v0 : Nat} {v1 : Int} {v2 : Int} {v3 : Int} {T : CS} {kL : ClassId} {ho : Nat} {f : Nat → Int64} (hw : hx_merge post f mc ms v0 v1 v2 v3 T) : jH l D k y_H_merge method_6_code 6 [(0, 12, 15, 21), (0, 12, 19, 26), (0, 12, 23, 13)] 10 262 mc ms T kL ho f [.ref v0, vi v1, vi v2, vi v3, .ref ho] post := by
  obtain ⟨hg, hw⟩ := hw
  refine j_ho (by decide) rfl (Nat.le_of_ble_eq_true rfl) (fun X F K K2 E B hT hret => ?_)
  show jat l D X 6 0 [(0, .ref v0), (1, vi v1), (2, vi v2), (3, vi v3), (4, .ref ho)] [] (cwd k T ++ hwo ho kL f) 0 0
  refine j_aload F 4 d_H_merge_0 rfl ?_
  refine j_iconst F d_H_merge_2 ?_
  refine j_aload_n F 0 d_H_merge_3 rfl ?_
  refine j_iload_n F 1 d_H_merge_4 rfl ?_
  refine j_iload_n F 2 d_H_merge_5 rfl ?_
  refine j_iload_n F 3 d_H_merge_6 rfl ?_
  refine h_callV (rest := [vi 0, .ref ho]) F K E hT (c_BLB_merge l hfl hw) (tw_gV tq_632 tq_633 tq_634 tq_473 tq_635) hg q_BLB_merge rfl ⟨by decide, by decide⟩ ⟨by omega, by omega⟩ rfl (Nat.le_of_ble_eq_true rfl) d_H_merge_7 ?_ ?_
  · rintro ov T1 ⟨r, rfl, hi, hp⟩ hT1
    show jat l D X 6 10 [(0, .ref v0), (1, vi v1), (2, vi v2), (3, vi v3), (4, .ref ho)] [vi r, vi 0, .ref ho] (cwd k T1 ++ hwo ho kL f) (0 + mc) (0 + ms)
    refine j_i2l F hi d_H_merge_10 ?_
    refine h_last F K K2 d_H_merge_11 ?_
    refine j_goto F 27 d_H_merge_12 rfl ?_
    refine j_iconst F d_H_merge_27 ?_
    exact hret _ _ _ _ _ _ _ hp hT1 (by omega) (by omega) d_H_merge_28
  · rintro cls T1 x (⟨rfl, hp⟩ | ⟨rfl, hp⟩ | ⟨rfl, hp⟩) hT1
    · refine h_catch (pre := []) (post := [(0, 12, 19, 26), (0, 12, 23, 13)]) (sp := 0) (ep := 12) (hp := 15) (ct := 21) F B rfl ⟨by decide, by decide⟩ (by decide) tq_626 (by decide) (fun y hy => by cases hy) ?_
      refine j_astore F [(5, .ref x), (0, .ref v0), (1, vi v1), (2, vi v2), (3, vi v3), (4, .ref ho)] d_H_merge_15 (by decide) rfl ?_
      refine j_iconst F d_H_merge_17 ?_
      exact hret _ _ _ _ _ _ _ hp hT1 (by omega) (by omega) d_H_merge_18
    · refine h_catch (pre := [(0, 12, 15, 21)]) (post := [(0, 12, 23, 13)]) (sp := 0) (ep := 12) (hp := 19) (ct := 26) F B rfl ⟨by decide, by decide⟩ (by decide) tq_631 (by decide) (fun y hy => by
        simp only [List.mem_cons, List.not_mem_nil, or_false] at hy
        rcases hy with rfl
        · exact ⟨by decide, "java/lang/IllegalStateException", by decide, by decide, tq_626⟩) ?_
      refine j_astore F [(5, .ref x), (0, .ref v0), (1, vi v1), (2, vi v2), (3, vi v3), (4, .ref ho)] d_H_merge_19 (by decide) rfl ?_
      refine j_iconst F d_H_merge_21 ?_
      exact hret _ _ _ _ _ _ _ hp hT1 (by omega) (by omega) d_H_merge_22
    · refine h_catch (pre := [(0, 12, 15, 21), (0, 12, 19, 26)]) (post := []) (sp := 0) (ep := 12) (hp := 23) (ct := 13) F B rfl ⟨by decide, by decide⟩ (by decide) tq_620 (by decide) (fun y hy => by
        simp only [List.mem_cons, List.not_mem_nil, or_false] at hy
        rcases hy with rfl | rfl
        · exact ⟨by decide, "java/lang/IllegalStateException", by decide, by decide, tq_626⟩
        · exact ⟨by decide, "java/lang/IndexOutOfBoundsException", by decide, by decide, tq_631⟩) ?_
      refine j_astore F [(5, .ref x), (0, .ref v0), (1, vi v1), (2, vi v2), (3, vi v3), (4, .ref ho)] d_H_merge_23 (by decide) rfl ?_
      refine j_iconst F d_H_merge_25 ?_
      exact hret _ _ _ _ _ _ _ hp hT1 (by omega) (by omega) d_H_merge_26
theorem tq_636 : (Jvm.Cond.methodLink "LandBookLaw" (32 : Nat) ({ cls := "LandBook", name := "transfer", desc := "(IIIIII)I" } : Jvm.MethodName)) ∈ tw_G := tw_in (List.mem_of_getElem? (i := 819) (by decide +kernel)) rfl
theorem tq_637 : (Jvm.Cond.instanceMethod ({ cls := "LandBook", name := "transfer", desc := "(IIIIII)I" } : Jvm.MethodName)) ∈ tw_G := tw_in (List.mem_of_getElem? (i := 820) (by decide +kernel)) rfl
theorem tq_638 : (Jvm.Cond.selects "LandBook" ({ cls := "LandBook", name := "transfer", desc := "(IIIIII)I" } : Jvm.MethodName) ({ cls := "LandBook", name := "transfer", desc := "(IIIIII)I" } : Jvm.MethodName)) ∈ tw_G := tw_in (List.mem_of_getElem? (i := 821) (by decide +kernel)) rfl
theorem tq_639 : (Jvm.Cond.code ({ cls := "LandBook", name := "transfer", desc := "(IIIIII)I" } : Jvm.MethodName) prog_1_method_6_code (11 : Nat) (Option.some Jvm.ClassFile.FieldType.int)) ∈ tw_G := tw_in (List.mem_of_getElem? (i := 822) (by decide +kernel)) rfl
abbrev y_H_transfer : MethodName := ⟨"LandBookLaw", "transfer", "(LLandBook;IIIIII[J)I"⟩
theorem q_H_transfer : y_H_transfer.cls ≠ "java/lang/invoke/MethodHandle" ∧ y_H_transfer.cls ≠ "java/lang/invoke/VarHandle" ∧ (parseMethodDescriptor y_H_transfer.desc).map (fun d => d.parameters.length) = some 8 := by decide +kernel
theorem d_H_transfer_0 : decode method_7_code 0 = .ok (.aload 7, 2) := by decide +kernel
theorem d_H_transfer_2 : decode method_7_code 2 = .ok (.iconst 0, 1) := by decide +kernel
theorem d_H_transfer_3 : decode method_7_code 3 = .ok (.aload_n 0, 1) := by decide +kernel
theorem d_H_transfer_4 : decode method_7_code 4 = .ok (.iload_n 1, 1) := by decide +kernel
theorem d_H_transfer_5 : decode method_7_code 5 = .ok (.iload_n 2, 1) := by decide +kernel
theorem d_H_transfer_6 : decode method_7_code 6 = .ok (.iload_n 3, 1) := by decide +kernel
theorem d_H_transfer_7 : decode method_7_code 7 = .ok (.iload 4, 2) := by decide +kernel
theorem d_H_transfer_9 : decode method_7_code 9 = .ok (.iload 5, 2) := by decide +kernel
theorem d_H_transfer_11 : decode method_7_code 11 = .ok (.iload 6, 2) := by decide +kernel
theorem d_H_transfer_13 : decode method_7_code 13 = .ok (.invokevirtual 32, 3) := by decide +kernel
theorem d_H_transfer_16 : decode method_7_code 16 = .ok (.i2l, 1) := by decide +kernel
theorem d_H_transfer_17 : decode method_7_code 17 = .ok (.lastore, 1) := by decide +kernel
theorem d_H_transfer_18 : decode method_7_code 18 = .ok (.goto 15, 3) := by decide +kernel
theorem d_H_transfer_33 : decode method_7_code 33 = .ok (.iconst 0, 1) := by decide +kernel
theorem d_H_transfer_34 : decode method_7_code 34 = .ok (.ireturn, 1) := by decide +kernel
theorem d_H_transfer_21 : decode method_7_code 21 = .ok (.astore 8, 2) := by decide +kernel
theorem d_H_transfer_23 : decode method_7_code 23 = .ok (.iconst 1, 1) := by decide +kernel
theorem d_H_transfer_24 : decode method_7_code 24 = .ok (.ireturn, 1) := by decide +kernel
theorem d_H_transfer_25 : decode method_7_code 25 = .ok (.astore 8, 2) := by decide +kernel
theorem d_H_transfer_27 : decode method_7_code 27 = .ok (.iconst 2, 1) := by decide +kernel
theorem d_H_transfer_28 : decode method_7_code 28 = .ok (.ireturn, 1) := by decide +kernel
theorem d_H_transfer_29 : decode method_7_code 29 = .ok (.astore 8, 2) := by decide +kernel
theorem d_H_transfer_31 : decode method_7_code 31 = .ok (.iconst 3, 1) := by decide +kernel
theorem d_H_transfer_32 : decode method_7_code 32 = .ok (.ireturn, 1) := by decide +kernel
def hx_transfer (post : Int → (Nat → Int64) → CS → Prop) (f : Nat → Int64) (mc0 ms0 v0 : Nat) (v1 : Int) (v2 : Int) (v3 : Int) (v4 : Int) (v5 : Int) (v6 : Int) (T : CS) : Prop := tg T v0 = 1 ∧ wp_BLB_transfer (fun r T1 => inR r ∧ post 0 (vp_updL f 0 (lI r)) T1) (fun cls T1 => (cls = "java/lang/IllegalStateException" ∧ post 1 f T1) ∨ (cls = "java/lang/IndexOutOfBoundsException" ∧ post 2 f T1) ∨ (cls = "java/lang/IllegalArgumentException" ∧ post 3 f T1)) mc0 ms0 v0 v1 v2 v3 v4 v5 v6 T
set_option maxHeartbeats 4000000 in
set_option maxRecDepth 100000 in
theorem c_H_transfer (l : Launch) (hfl : l.flags = pinnedFlags ++ [noTraceFlag]) {D : va_G} {k : CK} {post : Int → (Nat → Int64) → CS → Prop} {mc ms v0 : Nat} {v1 : Int} {v2 : Int} {v3 : Int} {v4 : Int} {v5 : Int} {v6 : Int} {T : CS} {kL : ClassId} {ho : Nat} {f : Nat → Int64} (hw : hx_transfer post f mc ms v0 v1 v2 v3 v4 v5 v6 T) : jH l D k y_H_transfer method_7_code 9 [(0, 18, 21, 21), (0, 18, 25, 26), (0, 18, 29, 13)] 10 265 mc ms T kL ho f [.ref v0, vi v1, vi v2, vi v3, vi v4, vi v5, vi v6, .ref ho] post := by
  obtain ⟨hg, hw⟩ := hw
  refine j_ho (by decide) rfl (Nat.le_of_ble_eq_true rfl) (fun X F K K2 E B hT hret => ?_)
  show jat l D X 9 0 [(0, .ref v0), (1, vi v1), (2, vi v2), (3, vi v3), (4, vi v4), (5, vi v5), (6, vi v6), (7, .ref ho)] [] (cwd k T ++ hwo ho kL f) 0 0
  refine j_aload F 7 d_H_transfer_0 rfl ?_
  refine j_iconst F d_H_transfer_2 ?_
  refine j_aload_n F 0 d_H_transfer_3 rfl ?_
  refine j_iload_n F 1 d_H_transfer_4 rfl ?_
  refine j_iload_n F 2 d_H_transfer_5 rfl ?_
  refine j_iload_n F 3 d_H_transfer_6 rfl ?_
  refine j_iload F 4 d_H_transfer_7 rfl ?_
  refine j_iload F 5 d_H_transfer_9 rfl ?_
  refine j_iload F 6 d_H_transfer_11 rfl ?_
  refine h_callV (rest := [vi 0, .ref ho]) F K E hT (c_BLB_transfer l hfl hw) (tw_gV tq_636 tq_637 tq_638 tq_473 tq_639) hg q_BLB_transfer rfl ⟨by decide, by decide⟩ ⟨by omega, by omega⟩ rfl (Nat.le_of_ble_eq_true rfl) d_H_transfer_13 ?_ ?_
  · rintro ov T1 ⟨r, rfl, hi, hp⟩ hT1
    show jat l D X 9 16 [(0, .ref v0), (1, vi v1), (2, vi v2), (3, vi v3), (4, vi v4), (5, vi v5), (6, vi v6), (7, .ref ho)] [vi r, vi 0, .ref ho] (cwd k T1 ++ hwo ho kL f) (0 + mc) (0 + ms)
    refine j_i2l F hi d_H_transfer_16 ?_
    refine h_last F K K2 d_H_transfer_17 ?_
    refine j_goto F 33 d_H_transfer_18 rfl ?_
    refine j_iconst F d_H_transfer_33 ?_
    exact hret _ _ _ _ _ _ _ hp hT1 (by omega) (by omega) d_H_transfer_34
  · rintro cls T1 x (⟨rfl, hp⟩ | ⟨rfl, hp⟩ | ⟨rfl, hp⟩) hT1
    · refine h_catch (pre := []) (post := [(0, 18, 25, 26), (0, 18, 29, 13)]) (sp := 0) (ep := 18) (hp := 21) (ct := 21) F B rfl ⟨by decide, by decide⟩ (by decide) tq_626 (by decide) (fun y hy => by cases hy) ?_
      refine j_astore F [(8, .ref x), (0, .ref v0), (1, vi v1), (2, vi v2), (3, vi v3), (4, vi v4), (5, vi v5), (6, vi v6), (7, .ref ho)] d_H_transfer_21 (by decide) rfl ?_
      refine j_iconst F d_H_transfer_23 ?_
      exact hret _ _ _ _ _ _ _ hp hT1 (by omega) (by omega) d_H_transfer_24
    · refine h_catch (pre := [(0, 18, 21, 21)]) (post := [(0, 18, 29, 13)]) (sp := 0) (ep := 18) (hp := 25) (ct := 26) F B rfl ⟨by decide, by decide⟩ (by decide) tq_631 (by decide) (fun y hy => by
        simp only [List.mem_cons, List.not_mem_nil, or_false] at hy
        rcases hy with rfl
        · exact ⟨by decide, "java/lang/IllegalStateException", by decide, by decide, tq_626⟩) ?_
      refine j_astore F [(8, .ref x), (0, .ref v0), (1, vi v1), (2, vi v2), (3, vi v3), (4, vi v4), (5, vi v5), (6, vi v6), (7, .ref ho)] d_H_transfer_25 (by decide) rfl ?_
      refine j_iconst F d_H_transfer_27 ?_
      exact hret _ _ _ _ _ _ _ hp hT1 (by omega) (by omega) d_H_transfer_28
    · refine h_catch (pre := [(0, 18, 21, 21), (0, 18, 25, 26)]) (post := []) (sp := 0) (ep := 18) (hp := 29) (ct := 13) F B rfl ⟨by decide, by decide⟩ (by decide) tq_620 (by decide) (fun y hy => by
        simp only [List.mem_cons, List.not_mem_nil, or_false] at hy
        rcases hy with rfl | rfl
        · exact ⟨by decide, "java/lang/IllegalStateException", by decide, by decide, tq_626⟩
        · exact ⟨by decide, "java/lang/IndexOutOfBoundsException", by decide, by decide, tq_631⟩) ?_
      refine j_astore F [(8, .ref x), (0, .ref v0), (1, vi v1), (2, vi v2), (3, vi v3), (4, vi v4), (5, vi v5), (6, vi v6), (7, .ref ho)] d_H_transfer_29 (by decide) rfl ?_
      refine j_iconst F d_H_transfer_31 ?_
      exact hret _ _ _ _ _ _ _ hp hT1 (by omega) (by omega) d_H_transfer_32
theorem tq_640 : (Jvm.Cond.methodLink "LandBookLaw" (36 : Nat) ({ cls := "LandBook", name := "ease", desc := "(III)I" } : Jvm.MethodName)) ∈ tw_G := tw_in (List.mem_of_getElem? (i := 839) (by decide +kernel)) rfl
theorem tq_641 : (Jvm.Cond.instanceMethod ({ cls := "LandBook", name := "ease", desc := "(III)I" } : Jvm.MethodName)) ∈ tw_G := tw_in (List.mem_of_getElem? (i := 840) (by decide +kernel)) rfl
theorem tq_642 : (Jvm.Cond.selects "LandBook" ({ cls := "LandBook", name := "ease", desc := "(III)I" } : Jvm.MethodName) ({ cls := "LandBook", name := "ease", desc := "(III)I" } : Jvm.MethodName)) ∈ tw_G := tw_in (List.mem_of_getElem? (i := 841) (by decide +kernel)) rfl
theorem tq_643 : (Jvm.Cond.code ({ cls := "LandBook", name := "ease", desc := "(III)I" } : Jvm.MethodName) prog_1_method_7_code (7 : Nat) (Option.some Jvm.ClassFile.FieldType.int)) ∈ tw_G := tw_in (List.mem_of_getElem? (i := 842) (by decide +kernel)) rfl
abbrev y_H_ease : MethodName := ⟨"LandBookLaw", "ease", "(LLandBook;III[J)I"⟩
theorem q_H_ease : y_H_ease.cls ≠ "java/lang/invoke/MethodHandle" ∧ y_H_ease.cls ≠ "java/lang/invoke/VarHandle" ∧ (parseMethodDescriptor y_H_ease.desc).map (fun d => d.parameters.length) = some 5 := by decide +kernel
theorem d_H_ease_0 : decode method_8_code 0 = .ok (.aload 4, 2) := by decide +kernel
theorem d_H_ease_2 : decode method_8_code 2 = .ok (.iconst 0, 1) := by decide +kernel
theorem d_H_ease_3 : decode method_8_code 3 = .ok (.aload_n 0, 1) := by decide +kernel
theorem d_H_ease_4 : decode method_8_code 4 = .ok (.iload_n 1, 1) := by decide +kernel
theorem d_H_ease_5 : decode method_8_code 5 = .ok (.iload_n 2, 1) := by decide +kernel
theorem d_H_ease_6 : decode method_8_code 6 = .ok (.iload_n 3, 1) := by decide +kernel
theorem d_H_ease_7 : decode method_8_code 7 = .ok (.invokevirtual 36, 3) := by decide +kernel
theorem d_H_ease_10 : decode method_8_code 10 = .ok (.i2l, 1) := by decide +kernel
theorem d_H_ease_11 : decode method_8_code 11 = .ok (.lastore, 1) := by decide +kernel
theorem d_H_ease_12 : decode method_8_code 12 = .ok (.goto 15, 3) := by decide +kernel
theorem d_H_ease_27 : decode method_8_code 27 = .ok (.iconst 0, 1) := by decide +kernel
theorem d_H_ease_28 : decode method_8_code 28 = .ok (.ireturn, 1) := by decide +kernel
theorem d_H_ease_15 : decode method_8_code 15 = .ok (.astore 5, 2) := by decide +kernel
theorem d_H_ease_17 : decode method_8_code 17 = .ok (.iconst 1, 1) := by decide +kernel
theorem d_H_ease_18 : decode method_8_code 18 = .ok (.ireturn, 1) := by decide +kernel
theorem d_H_ease_19 : decode method_8_code 19 = .ok (.astore 5, 2) := by decide +kernel
theorem d_H_ease_21 : decode method_8_code 21 = .ok (.iconst 2, 1) := by decide +kernel
theorem d_H_ease_22 : decode method_8_code 22 = .ok (.ireturn, 1) := by decide +kernel
theorem d_H_ease_23 : decode method_8_code 23 = .ok (.astore 5, 2) := by decide +kernel
theorem d_H_ease_25 : decode method_8_code 25 = .ok (.iconst 3, 1) := by decide +kernel
theorem d_H_ease_26 : decode method_8_code 26 = .ok (.ireturn, 1) := by decide +kernel
def hx_ease (post : Int → (Nat → Int64) → CS → Prop) (f : Nat → Int64) (mc0 ms0 v0 : Nat) (v1 : Int) (v2 : Int) (v3 : Int) (T : CS) : Prop := tg T v0 = 1 ∧ wp_BLB_ease (fun r T1 => inR r ∧ post 0 (vp_updL f 0 (lI r)) T1) (fun cls T1 => (cls = "java/lang/IllegalStateException" ∧ post 1 f T1) ∨ (cls = "java/lang/IndexOutOfBoundsException" ∧ post 2 f T1) ∨ (cls = "java/lang/IllegalArgumentException" ∧ post 3 f T1)) mc0 ms0 v0 v1 v2 v3 T
set_option maxHeartbeats 4000000 in
set_option maxRecDepth 100000 in
theorem c_H_ease (l : Launch) (hfl : l.flags = pinnedFlags ++ [noTraceFlag]) {D : va_G} {k : CK} {post : Int → (Nat → Int64) → CS → Prop} {mc ms v0 : Nat} {v1 : Int} {v2 : Int} {v3 : Int} {T : CS} {kL : ClassId} {ho : Nat} {f : Nat → Int64} (hw : hx_ease post f mc ms v0 v1 v2 v3 T) : jH l D k y_H_ease method_8_code 6 [(0, 12, 15, 21), (0, 12, 19, 26), (0, 12, 23, 13)] 10 261 mc ms T kL ho f [.ref v0, vi v1, vi v2, vi v3, .ref ho] post := by
  obtain ⟨hg, hw⟩ := hw
  refine j_ho (by decide) rfl (Nat.le_of_ble_eq_true rfl) (fun X F K K2 E B hT hret => ?_)
  show jat l D X 6 0 [(0, .ref v0), (1, vi v1), (2, vi v2), (3, vi v3), (4, .ref ho)] [] (cwd k T ++ hwo ho kL f) 0 0
  refine j_aload F 4 d_H_ease_0 rfl ?_
  refine j_iconst F d_H_ease_2 ?_
  refine j_aload_n F 0 d_H_ease_3 rfl ?_
  refine j_iload_n F 1 d_H_ease_4 rfl ?_
  refine j_iload_n F 2 d_H_ease_5 rfl ?_
  refine j_iload_n F 3 d_H_ease_6 rfl ?_
  refine h_callV (rest := [vi 0, .ref ho]) F K E hT (c_BLB_ease l hfl hw) (tw_gV tq_640 tq_641 tq_642 tq_473 tq_643) hg q_BLB_ease rfl ⟨by decide, by decide⟩ ⟨by omega, by omega⟩ rfl (Nat.le_of_ble_eq_true rfl) d_H_ease_7 ?_ ?_
  · rintro ov T1 ⟨r, rfl, hi, hp⟩ hT1
    show jat l D X 6 10 [(0, .ref v0), (1, vi v1), (2, vi v2), (3, vi v3), (4, .ref ho)] [vi r, vi 0, .ref ho] (cwd k T1 ++ hwo ho kL f) (0 + mc) (0 + ms)
    refine j_i2l F hi d_H_ease_10 ?_
    refine h_last F K K2 d_H_ease_11 ?_
    refine j_goto F 27 d_H_ease_12 rfl ?_
    refine j_iconst F d_H_ease_27 ?_
    exact hret _ _ _ _ _ _ _ hp hT1 (by omega) (by omega) d_H_ease_28
  · rintro cls T1 x (⟨rfl, hp⟩ | ⟨rfl, hp⟩ | ⟨rfl, hp⟩) hT1
    · refine h_catch (pre := []) (post := [(0, 12, 19, 26), (0, 12, 23, 13)]) (sp := 0) (ep := 12) (hp := 15) (ct := 21) F B rfl ⟨by decide, by decide⟩ (by decide) tq_626 (by decide) (fun y hy => by cases hy) ?_
      refine j_astore F [(5, .ref x), (0, .ref v0), (1, vi v1), (2, vi v2), (3, vi v3), (4, .ref ho)] d_H_ease_15 (by decide) rfl ?_
      refine j_iconst F d_H_ease_17 ?_
      exact hret _ _ _ _ _ _ _ hp hT1 (by omega) (by omega) d_H_ease_18
    · refine h_catch (pre := [(0, 12, 15, 21)]) (post := [(0, 12, 23, 13)]) (sp := 0) (ep := 12) (hp := 19) (ct := 26) F B rfl ⟨by decide, by decide⟩ (by decide) tq_631 (by decide) (fun y hy => by
        simp only [List.mem_cons, List.not_mem_nil, or_false] at hy
        rcases hy with rfl
        · exact ⟨by decide, "java/lang/IllegalStateException", by decide, by decide, tq_626⟩) ?_
      refine j_astore F [(5, .ref x), (0, .ref v0), (1, vi v1), (2, vi v2), (3, vi v3), (4, .ref ho)] d_H_ease_19 (by decide) rfl ?_
      refine j_iconst F d_H_ease_21 ?_
      exact hret _ _ _ _ _ _ _ hp hT1 (by omega) (by omega) d_H_ease_22
    · refine h_catch (pre := [(0, 12, 15, 21), (0, 12, 19, 26)]) (post := []) (sp := 0) (ep := 12) (hp := 23) (ct := 13) F B rfl ⟨by decide, by decide⟩ (by decide) tq_620 (by decide) (fun y hy => by
        simp only [List.mem_cons, List.not_mem_nil, or_false] at hy
        rcases hy with rfl | rfl
        · exact ⟨by decide, "java/lang/IllegalStateException", by decide, by decide, tq_626⟩
        · exact ⟨by decide, "java/lang/IndexOutOfBoundsException", by decide, by decide, tq_631⟩) ?_
      refine j_astore F [(5, .ref x), (0, .ref v0), (1, vi v1), (2, vi v2), (3, vi v3), (4, .ref ho)] d_H_ease_23 (by decide) rfl ?_
      refine j_iconst F d_H_ease_25 ?_
      exact hret _ _ _ _ _ _ _ hp hT1 (by omega) (by omega) d_H_ease_26
theorem tq_644 : (Jvm.Cond.methodLink "LandBookLaw" (39 : Nat) ({ cls := "LandBook", name := "release", desc := "(II)I" } : Jvm.MethodName)) ∈ tw_G := tw_in (List.mem_of_getElem? (i := 867) (by decide +kernel)) rfl
theorem tq_645 : (Jvm.Cond.instanceMethod ({ cls := "LandBook", name := "release", desc := "(II)I" } : Jvm.MethodName)) ∈ tw_G := tw_in (List.mem_of_getElem? (i := 868) (by decide +kernel)) rfl
theorem tq_646 : (Jvm.Cond.selects "LandBook" ({ cls := "LandBook", name := "release", desc := "(II)I" } : Jvm.MethodName) ({ cls := "LandBook", name := "release", desc := "(II)I" } : Jvm.MethodName)) ∈ tw_G := tw_in (List.mem_of_getElem? (i := 869) (by decide +kernel)) rfl
theorem tq_647 : (Jvm.Cond.code ({ cls := "LandBook", name := "release", desc := "(II)I" } : Jvm.MethodName) prog_1_method_8_code (5 : Nat) (Option.some Jvm.ClassFile.FieldType.int)) ∈ tw_G := tw_in (List.mem_of_getElem? (i := 870) (by decide +kernel)) rfl
abbrev y_H_release : MethodName := ⟨"LandBookLaw", "release", "(LLandBook;II[J)I"⟩
theorem q_H_release : y_H_release.cls ≠ "java/lang/invoke/MethodHandle" ∧ y_H_release.cls ≠ "java/lang/invoke/VarHandle" ∧ (parseMethodDescriptor y_H_release.desc).map (fun d => d.parameters.length) = some 4 := by decide +kernel
theorem d_H_release_0 : decode method_9_code 0 = .ok (.aload_n 3, 1) := by decide +kernel
theorem d_H_release_1 : decode method_9_code 1 = .ok (.iconst 0, 1) := by decide +kernel
theorem d_H_release_2 : decode method_9_code 2 = .ok (.aload_n 0, 1) := by decide +kernel
theorem d_H_release_3 : decode method_9_code 3 = .ok (.iload_n 1, 1) := by decide +kernel
theorem d_H_release_4 : decode method_9_code 4 = .ok (.iload_n 2, 1) := by decide +kernel
theorem d_H_release_5 : decode method_9_code 5 = .ok (.invokevirtual 39, 3) := by decide +kernel
theorem d_H_release_8 : decode method_9_code 8 = .ok (.i2l, 1) := by decide +kernel
theorem d_H_release_9 : decode method_9_code 9 = .ok (.lastore, 1) := by decide +kernel
theorem d_H_release_10 : decode method_9_code 10 = .ok (.goto 15, 3) := by decide +kernel
theorem d_H_release_25 : decode method_9_code 25 = .ok (.iconst 0, 1) := by decide +kernel
theorem d_H_release_26 : decode method_9_code 26 = .ok (.ireturn, 1) := by decide +kernel
theorem d_H_release_13 : decode method_9_code 13 = .ok (.astore 4, 2) := by decide +kernel
theorem d_H_release_15 : decode method_9_code 15 = .ok (.iconst 1, 1) := by decide +kernel
theorem d_H_release_16 : decode method_9_code 16 = .ok (.ireturn, 1) := by decide +kernel
theorem d_H_release_17 : decode method_9_code 17 = .ok (.astore 4, 2) := by decide +kernel
theorem d_H_release_19 : decode method_9_code 19 = .ok (.iconst 2, 1) := by decide +kernel
theorem d_H_release_20 : decode method_9_code 20 = .ok (.ireturn, 1) := by decide +kernel
theorem d_H_release_21 : decode method_9_code 21 = .ok (.astore 4, 2) := by decide +kernel
theorem d_H_release_23 : decode method_9_code 23 = .ok (.iconst 3, 1) := by decide +kernel
theorem d_H_release_24 : decode method_9_code 24 = .ok (.ireturn, 1) := by decide +kernel
def hx_release (post : Int → (Nat → Int64) → CS → Prop) (f : Nat → Int64) (mc0 ms0 v0 : Nat) (v1 : Int) (v2 : Int) (T : CS) : Prop := tg T v0 = 1 ∧ wp_BLB_release (fun r T1 => inR r ∧ post 0 (vp_updL f 0 (lI r)) T1) (fun cls T1 => (cls = "java/lang/IllegalStateException" ∧ post 1 f T1) ∨ (cls = "java/lang/IndexOutOfBoundsException" ∧ post 2 f T1) ∨ (cls = "java/lang/IllegalArgumentException" ∧ post 3 f T1)) mc0 ms0 v0 v1 v2 T
set_option maxHeartbeats 4000000 in
set_option maxRecDepth 100000 in
theorem c_H_release (l : Launch) (hfl : l.flags = pinnedFlags ++ [noTraceFlag]) {D : va_G} {k : CK} {post : Int → (Nat → Int64) → CS → Prop} {mc ms v0 : Nat} {v1 : Int} {v2 : Int} {T : CS} {kL : ClassId} {ho : Nat} {f : Nat → Int64} (hw : hx_release post f mc ms v0 v1 v2 T) : jH l D k y_H_release method_9_code 5 [(0, 10, 13, 21), (0, 10, 17, 26), (0, 10, 21, 13)] 10 259 mc ms T kL ho f [.ref v0, vi v1, vi v2, .ref ho] post := by
  obtain ⟨hg, hw⟩ := hw
  refine j_ho (by decide) rfl (Nat.le_of_ble_eq_true rfl) (fun X F K K2 E B hT hret => ?_)
  show jat l D X 5 0 [(0, .ref v0), (1, vi v1), (2, vi v2), (3, .ref ho)] [] (cwd k T ++ hwo ho kL f) 0 0
  refine j_aload_n F 3 d_H_release_0 rfl ?_
  refine j_iconst F d_H_release_1 ?_
  refine j_aload_n F 0 d_H_release_2 rfl ?_
  refine j_iload_n F 1 d_H_release_3 rfl ?_
  refine j_iload_n F 2 d_H_release_4 rfl ?_
  refine h_callV (rest := [vi 0, .ref ho]) F K E hT (c_BLB_release l hfl hw) (tw_gV tq_644 tq_645 tq_646 tq_473 tq_647) hg q_BLB_release rfl ⟨by decide, by decide⟩ ⟨by omega, by omega⟩ rfl (Nat.le_of_ble_eq_true rfl) d_H_release_5 ?_ ?_
  · rintro ov T1 ⟨r, rfl, hi, hp⟩ hT1
    show jat l D X 5 8 [(0, .ref v0), (1, vi v1), (2, vi v2), (3, .ref ho)] [vi r, vi 0, .ref ho] (cwd k T1 ++ hwo ho kL f) (0 + mc) (0 + ms)
    refine j_i2l F hi d_H_release_8 ?_
    refine h_last F K K2 d_H_release_9 ?_
    refine j_goto F 25 d_H_release_10 rfl ?_
    refine j_iconst F d_H_release_25 ?_
    exact hret _ _ _ _ _ _ _ hp hT1 (by omega) (by omega) d_H_release_26
  · rintro cls T1 x (⟨rfl, hp⟩ | ⟨rfl, hp⟩ | ⟨rfl, hp⟩) hT1
    · refine h_catch (pre := []) (post := [(0, 10, 17, 26), (0, 10, 21, 13)]) (sp := 0) (ep := 10) (hp := 13) (ct := 21) F B rfl ⟨by decide, by decide⟩ (by decide) tq_626 (by decide) (fun y hy => by cases hy) ?_
      refine j_astore F [(4, .ref x), (0, .ref v0), (1, vi v1), (2, vi v2), (3, .ref ho)] d_H_release_13 (by decide) rfl ?_
      refine j_iconst F d_H_release_15 ?_
      exact hret _ _ _ _ _ _ _ hp hT1 (by omega) (by omega) d_H_release_16
    · refine h_catch (pre := [(0, 10, 13, 21)]) (post := [(0, 10, 21, 13)]) (sp := 0) (ep := 10) (hp := 17) (ct := 26) F B rfl ⟨by decide, by decide⟩ (by decide) tq_631 (by decide) (fun y hy => by
        simp only [List.mem_cons, List.not_mem_nil, or_false] at hy
        rcases hy with rfl
        · exact ⟨by decide, "java/lang/IllegalStateException", by decide, by decide, tq_626⟩) ?_
      refine j_astore F [(4, .ref x), (0, .ref v0), (1, vi v1), (2, vi v2), (3, .ref ho)] d_H_release_17 (by decide) rfl ?_
      refine j_iconst F d_H_release_19 ?_
      exact hret _ _ _ _ _ _ _ hp hT1 (by omega) (by omega) d_H_release_20
    · refine h_catch (pre := [(0, 10, 13, 21), (0, 10, 17, 26)]) (post := []) (sp := 0) (ep := 10) (hp := 21) (ct := 13) F B rfl ⟨by decide, by decide⟩ (by decide) tq_620 (by decide) (fun y hy => by
        simp only [List.mem_cons, List.not_mem_nil, or_false] at hy
        rcases hy with rfl | rfl
        · exact ⟨by decide, "java/lang/IllegalStateException", by decide, by decide, tq_626⟩
        · exact ⟨by decide, "java/lang/IndexOutOfBoundsException", by decide, by decide, tq_631⟩) ?_
      refine j_astore F [(4, .ref x), (0, .ref v0), (1, vi v1), (2, vi v2), (3, .ref ho)] d_H_release_21 (by decide) rfl ?_
      refine j_iconst F d_H_release_23 ?_
      exact hret _ _ _ _ _ _ _ hp hT1 (by omega) (by omega) d_H_release_24
theorem tq_648 : (Jvm.Cond.methodLink "LandBookLaw" (42 : Nat) ({ cls := "LandBook", name := "lotAt", desc := "(IIII)I" } : Jvm.MethodName)) ∈ tw_G := tw_in (List.mem_of_getElem? (i := 886) (by decide +kernel)) rfl
theorem tq_649 : (Jvm.Cond.instanceMethod ({ cls := "LandBook", name := "lotAt", desc := "(IIII)I" } : Jvm.MethodName)) ∈ tw_G := tw_in (List.mem_of_getElem? (i := 887) (by decide +kernel)) rfl
theorem tq_650 : (Jvm.Cond.selects "LandBook" ({ cls := "LandBook", name := "lotAt", desc := "(IIII)I" } : Jvm.MethodName) ({ cls := "LandBook", name := "lotAt", desc := "(IIII)I" } : Jvm.MethodName)) ∈ tw_G := tw_in (List.mem_of_getElem? (i := 888) (by decide +kernel)) rfl
theorem tq_651 : (Jvm.Cond.code ({ cls := "LandBook", name := "lotAt", desc := "(IIII)I" } : Jvm.MethodName) prog_1_method_9_code (6 : Nat) (Option.some Jvm.ClassFile.FieldType.int)) ∈ tw_G := tw_in (List.mem_of_getElem? (i := 889) (by decide +kernel)) rfl
abbrev y_H_lotAt : MethodName := ⟨"LandBookLaw", "lotAt", "(LLandBook;IIII[J)I"⟩
theorem q_H_lotAt : y_H_lotAt.cls ≠ "java/lang/invoke/MethodHandle" ∧ y_H_lotAt.cls ≠ "java/lang/invoke/VarHandle" ∧ (parseMethodDescriptor y_H_lotAt.desc).map (fun d => d.parameters.length) = some 6 := by decide +kernel
theorem d_H_lotAt_0 : decode method_10_code 0 = .ok (.aload 5, 2) := by decide +kernel
theorem d_H_lotAt_2 : decode method_10_code 2 = .ok (.iconst 0, 1) := by decide +kernel
theorem d_H_lotAt_3 : decode method_10_code 3 = .ok (.aload_n 0, 1) := by decide +kernel
theorem d_H_lotAt_4 : decode method_10_code 4 = .ok (.iload_n 1, 1) := by decide +kernel
theorem d_H_lotAt_5 : decode method_10_code 5 = .ok (.iload_n 2, 1) := by decide +kernel
theorem d_H_lotAt_6 : decode method_10_code 6 = .ok (.iload_n 3, 1) := by decide +kernel
theorem d_H_lotAt_7 : decode method_10_code 7 = .ok (.iload 4, 2) := by decide +kernel
theorem d_H_lotAt_9 : decode method_10_code 9 = .ok (.invokevirtual 42, 3) := by decide +kernel
theorem d_H_lotAt_12 : decode method_10_code 12 = .ok (.i2l, 1) := by decide +kernel
theorem d_H_lotAt_13 : decode method_10_code 13 = .ok (.lastore, 1) := by decide +kernel
theorem d_H_lotAt_14 : decode method_10_code 14 = .ok (.goto 11, 3) := by decide +kernel
theorem d_H_lotAt_25 : decode method_10_code 25 = .ok (.iconst 0, 1) := by decide +kernel
theorem d_H_lotAt_26 : decode method_10_code 26 = .ok (.ireturn, 1) := by decide +kernel
theorem d_H_lotAt_17 : decode method_10_code 17 = .ok (.astore 6, 2) := by decide +kernel
theorem d_H_lotAt_19 : decode method_10_code 19 = .ok (.iconst 1, 1) := by decide +kernel
theorem d_H_lotAt_20 : decode method_10_code 20 = .ok (.ireturn, 1) := by decide +kernel
theorem d_H_lotAt_21 : decode method_10_code 21 = .ok (.astore 6, 2) := by decide +kernel
theorem d_H_lotAt_23 : decode method_10_code 23 = .ok (.iconst 2, 1) := by decide +kernel
theorem d_H_lotAt_24 : decode method_10_code 24 = .ok (.ireturn, 1) := by decide +kernel
def hx_lotAt (post : Int → (Nat → Int64) → CS → Prop) (f : Nat → Int64) (mc0 ms0 v0 : Nat) (v1 : Int) (v2 : Int) (v3 : Int) (v4 : Int) (T : CS) : Prop := tg T v0 = 1 ∧ wp_BLB_lotAt (fun r T1 => inR r ∧ post 0 (vp_updL f 0 (lI r)) T1) (fun cls T1 => (cls = "java/lang/IllegalStateException" ∧ post 1 f T1) ∨ (cls = "java/lang/IllegalArgumentException" ∧ post 2 f T1)) mc0 ms0 v0 v1 v2 v3 v4 T
set_option maxHeartbeats 4000000 in
set_option maxRecDepth 100000 in
theorem c_H_lotAt (l : Launch) (hfl : l.flags = pinnedFlags ++ [noTraceFlag]) {D : va_G} {k : CK} {post : Int → (Nat → Int64) → CS → Prop} {mc ms v0 : Nat} {v1 : Int} {v2 : Int} {v3 : Int} {v4 : Int} {T : CS} {kL : ClassId} {ho : Nat} {f : Nat → Int64} (hw : hx_lotAt post f mc ms v0 v1 v2 v3 v4 T) : jH l D k y_H_lotAt method_10_code 7 [(0, 14, 17, 21), (0, 14, 21, 13)] 9 148 mc ms T kL ho f [.ref v0, vi v1, vi v2, vi v3, vi v4, .ref ho] post := by
  obtain ⟨hg, hw⟩ := hw
  refine j_ho (by decide) rfl (Nat.le_of_ble_eq_true rfl) (fun X F K K2 E B hT hret => ?_)
  show jat l D X 7 0 [(0, .ref v0), (1, vi v1), (2, vi v2), (3, vi v3), (4, vi v4), (5, .ref ho)] [] (cwd k T ++ hwo ho kL f) 0 0
  refine j_aload F 5 d_H_lotAt_0 rfl ?_
  refine j_iconst F d_H_lotAt_2 ?_
  refine j_aload_n F 0 d_H_lotAt_3 rfl ?_
  refine j_iload_n F 1 d_H_lotAt_4 rfl ?_
  refine j_iload_n F 2 d_H_lotAt_5 rfl ?_
  refine j_iload_n F 3 d_H_lotAt_6 rfl ?_
  refine j_iload F 4 d_H_lotAt_7 rfl ?_
  refine h_callV (rest := [vi 0, .ref ho]) F K E hT (c_BLB_lotAt l hfl hw) (tw_gV tq_648 tq_649 tq_650 tq_473 tq_651) hg q_BLB_lotAt rfl ⟨by decide, by decide⟩ ⟨by omega, by omega⟩ rfl (Nat.le_of_ble_eq_true rfl) d_H_lotAt_9 ?_ ?_
  · rintro ov T1 ⟨r, rfl, hi, hp⟩ hT1
    show jat l D X 7 12 [(0, .ref v0), (1, vi v1), (2, vi v2), (3, vi v3), (4, vi v4), (5, .ref ho)] [vi r, vi 0, .ref ho] (cwd k T1 ++ hwo ho kL f) (0 + mc) (0 + ms)
    refine j_i2l F hi d_H_lotAt_12 ?_
    refine h_last F K K2 d_H_lotAt_13 ?_
    refine j_goto F 25 d_H_lotAt_14 rfl ?_
    refine j_iconst F d_H_lotAt_25 ?_
    exact hret _ _ _ _ _ _ _ hp hT1 (by omega) (by omega) d_H_lotAt_26
  · rintro cls T1 x (⟨rfl, hp⟩ | ⟨rfl, hp⟩) hT1
    · refine h_catch (pre := []) (post := [(0, 14, 21, 13)]) (sp := 0) (ep := 14) (hp := 17) (ct := 21) F B rfl ⟨by decide, by decide⟩ (by decide) tq_626 (by decide) (fun y hy => by cases hy) ?_
      refine j_astore F [(6, .ref x), (0, .ref v0), (1, vi v1), (2, vi v2), (3, vi v3), (4, vi v4), (5, .ref ho)] d_H_lotAt_17 (by decide) rfl ?_
      refine j_iconst F d_H_lotAt_19 ?_
      exact hret _ _ _ _ _ _ _ hp hT1 (by omega) (by omega) d_H_lotAt_20
    · refine h_catch (pre := [(0, 14, 17, 21)]) (post := []) (sp := 0) (ep := 14) (hp := 21) (ct := 13) F B rfl ⟨by decide, by decide⟩ (by decide) tq_620 (by decide) (fun y hy => by
        simp only [List.mem_cons, List.not_mem_nil, or_false] at hy
        rcases hy with rfl
        · exact ⟨by decide, "java/lang/IllegalStateException", by decide, by decide, tq_626⟩) ?_
      refine j_astore F [(6, .ref x), (0, .ref v0), (1, vi v1), (2, vi v2), (3, vi v3), (4, vi v4), (5, .ref ho)] d_H_lotAt_21 (by decide) rfl ?_
      refine j_iconst F d_H_lotAt_23 ?_
      exact hret _ _ _ _ _ _ _ hp hT1 (by omega) (by omega) d_H_lotAt_24
theorem tq_652 : (Jvm.Cond.methodLink "LandBookLaw" (46 : Nat) ({ cls := "LandBook", name := "area2", desc := "(III)I" } : Jvm.MethodName)) ∈ tw_G := tw_in (List.mem_of_getElem? (i := 899) (by decide +kernel)) rfl
theorem tq_653 : (Jvm.Cond.instanceMethod ({ cls := "LandBook", name := "area2", desc := "(III)I" } : Jvm.MethodName)) ∈ tw_G := tw_in (List.mem_of_getElem? (i := 900) (by decide +kernel)) rfl
theorem tq_654 : (Jvm.Cond.selects "LandBook" ({ cls := "LandBook", name := "area2", desc := "(III)I" } : Jvm.MethodName) ({ cls := "LandBook", name := "area2", desc := "(III)I" } : Jvm.MethodName)) ∈ tw_G := tw_in (List.mem_of_getElem? (i := 901) (by decide +kernel)) rfl
theorem tq_655 : (Jvm.Cond.code ({ cls := "LandBook", name := "area2", desc := "(III)I" } : Jvm.MethodName) prog_1_method_10_code (4 : Nat) (Option.some Jvm.ClassFile.FieldType.int)) ∈ tw_G := tw_in (List.mem_of_getElem? (i := 902) (by decide +kernel)) rfl
abbrev y_H_area2 : MethodName := ⟨"LandBookLaw", "area2", "(LLandBook;III[J)I"⟩
theorem q_H_area2 : y_H_area2.cls ≠ "java/lang/invoke/MethodHandle" ∧ y_H_area2.cls ≠ "java/lang/invoke/VarHandle" ∧ (parseMethodDescriptor y_H_area2.desc).map (fun d => d.parameters.length) = some 5 := by decide +kernel
theorem d_H_area2_0 : decode method_11_code 0 = .ok (.aload 4, 2) := by decide +kernel
theorem d_H_area2_2 : decode method_11_code 2 = .ok (.iconst 0, 1) := by decide +kernel
theorem d_H_area2_3 : decode method_11_code 3 = .ok (.aload_n 0, 1) := by decide +kernel
theorem d_H_area2_4 : decode method_11_code 4 = .ok (.iload_n 1, 1) := by decide +kernel
theorem d_H_area2_5 : decode method_11_code 5 = .ok (.iload_n 2, 1) := by decide +kernel
theorem d_H_area2_6 : decode method_11_code 6 = .ok (.iload_n 3, 1) := by decide +kernel
theorem d_H_area2_7 : decode method_11_code 7 = .ok (.invokevirtual 46, 3) := by decide +kernel
theorem d_H_area2_10 : decode method_11_code 10 = .ok (.i2l, 1) := by decide +kernel
theorem d_H_area2_11 : decode method_11_code 11 = .ok (.lastore, 1) := by decide +kernel
theorem d_H_area2_12 : decode method_11_code 12 = .ok (.goto 15, 3) := by decide +kernel
theorem d_H_area2_27 : decode method_11_code 27 = .ok (.iconst 0, 1) := by decide +kernel
theorem d_H_area2_28 : decode method_11_code 28 = .ok (.ireturn, 1) := by decide +kernel
theorem d_H_area2_15 : decode method_11_code 15 = .ok (.astore 5, 2) := by decide +kernel
theorem d_H_area2_17 : decode method_11_code 17 = .ok (.iconst 1, 1) := by decide +kernel
theorem d_H_area2_18 : decode method_11_code 18 = .ok (.ireturn, 1) := by decide +kernel
theorem d_H_area2_19 : decode method_11_code 19 = .ok (.astore 5, 2) := by decide +kernel
theorem d_H_area2_21 : decode method_11_code 21 = .ok (.iconst 2, 1) := by decide +kernel
theorem d_H_area2_22 : decode method_11_code 22 = .ok (.ireturn, 1) := by decide +kernel
theorem d_H_area2_23 : decode method_11_code 23 = .ok (.astore 5, 2) := by decide +kernel
theorem d_H_area2_25 : decode method_11_code 25 = .ok (.iconst 3, 1) := by decide +kernel
theorem d_H_area2_26 : decode method_11_code 26 = .ok (.ireturn, 1) := by decide +kernel
def hx_area2 (post : Int → (Nat → Int64) → CS → Prop) (f : Nat → Int64) (mc0 ms0 v0 : Nat) (v1 : Int) (v2 : Int) (v3 : Int) (T : CS) : Prop := tg T v0 = 1 ∧ wp_BLB_area2 (fun r T1 => inR r ∧ post 0 (vp_updL f 0 (lI r)) T1) (fun cls T1 => (cls = "java/lang/IllegalStateException" ∧ post 1 f T1) ∨ (cls = "java/lang/IndexOutOfBoundsException" ∧ post 2 f T1) ∨ (cls = "java/lang/IllegalArgumentException" ∧ post 3 f T1)) mc0 ms0 v0 v1 v2 v3 T
set_option maxHeartbeats 4000000 in
set_option maxRecDepth 100000 in
theorem c_H_area2 (l : Launch) (hfl : l.flags = pinnedFlags ++ [noTraceFlag]) {D : va_G} {k : CK} {post : Int → (Nat → Int64) → CS → Prop} {mc ms v0 : Nat} {v1 : Int} {v2 : Int} {v3 : Int} {T : CS} {kL : ClassId} {ho : Nat} {f : Nat → Int64} (hw : hx_area2 post f mc ms v0 v1 v2 v3 T) : jH l D k y_H_area2 method_11_code 6 [(0, 12, 15, 21), (0, 12, 19, 26), (0, 12, 23, 13)] 9 146 mc ms T kL ho f [.ref v0, vi v1, vi v2, vi v3, .ref ho] post := by
  obtain ⟨hg, hw⟩ := hw
  refine j_ho (by decide) rfl (Nat.le_of_ble_eq_true rfl) (fun X F K K2 E B hT hret => ?_)
  show jat l D X 6 0 [(0, .ref v0), (1, vi v1), (2, vi v2), (3, vi v3), (4, .ref ho)] [] (cwd k T ++ hwo ho kL f) 0 0
  refine j_aload F 4 d_H_area2_0 rfl ?_
  refine j_iconst F d_H_area2_2 ?_
  refine j_aload_n F 0 d_H_area2_3 rfl ?_
  refine j_iload_n F 1 d_H_area2_4 rfl ?_
  refine j_iload_n F 2 d_H_area2_5 rfl ?_
  refine j_iload_n F 3 d_H_area2_6 rfl ?_
  refine h_callV (rest := [vi 0, .ref ho]) F K E hT (c_BLB_area2 l hfl hw) (tw_gV tq_652 tq_653 tq_654 tq_473 tq_655) hg q_BLB_area2 rfl ⟨by decide, by decide⟩ ⟨by omega, by omega⟩ rfl (Nat.le_of_ble_eq_true rfl) d_H_area2_7 ?_ ?_
  · rintro ov T1 ⟨r, rfl, hi, hp⟩ hT1
    show jat l D X 6 10 [(0, .ref v0), (1, vi v1), (2, vi v2), (3, vi v3), (4, .ref ho)] [vi r, vi 0, .ref ho] (cwd k T1 ++ hwo ho kL f) (0 + mc) (0 + ms)
    refine j_i2l F hi d_H_area2_10 ?_
    refine h_last F K K2 d_H_area2_11 ?_
    refine j_goto F 27 d_H_area2_12 rfl ?_
    refine j_iconst F d_H_area2_27 ?_
    exact hret _ _ _ _ _ _ _ hp hT1 (by omega) (by omega) d_H_area2_28
  · rintro cls T1 x (⟨rfl, hp⟩ | ⟨rfl, hp⟩ | ⟨rfl, hp⟩) hT1
    · refine h_catch (pre := []) (post := [(0, 12, 19, 26), (0, 12, 23, 13)]) (sp := 0) (ep := 12) (hp := 15) (ct := 21) F B rfl ⟨by decide, by decide⟩ (by decide) tq_626 (by decide) (fun y hy => by cases hy) ?_
      refine j_astore F [(5, .ref x), (0, .ref v0), (1, vi v1), (2, vi v2), (3, vi v3), (4, .ref ho)] d_H_area2_15 (by decide) rfl ?_
      refine j_iconst F d_H_area2_17 ?_
      exact hret _ _ _ _ _ _ _ hp hT1 (by omega) (by omega) d_H_area2_18
    · refine h_catch (pre := [(0, 12, 15, 21)]) (post := [(0, 12, 23, 13)]) (sp := 0) (ep := 12) (hp := 19) (ct := 26) F B rfl ⟨by decide, by decide⟩ (by decide) tq_631 (by decide) (fun y hy => by
        simp only [List.mem_cons, List.not_mem_nil, or_false] at hy
        rcases hy with rfl
        · exact ⟨by decide, "java/lang/IllegalStateException", by decide, by decide, tq_626⟩) ?_
      refine j_astore F [(5, .ref x), (0, .ref v0), (1, vi v1), (2, vi v2), (3, vi v3), (4, .ref ho)] d_H_area2_19 (by decide) rfl ?_
      refine j_iconst F d_H_area2_21 ?_
      exact hret _ _ _ _ _ _ _ hp hT1 (by omega) (by omega) d_H_area2_22
    · refine h_catch (pre := [(0, 12, 15, 21), (0, 12, 19, 26)]) (post := []) (sp := 0) (ep := 12) (hp := 23) (ct := 13) F B rfl ⟨by decide, by decide⟩ (by decide) tq_620 (by decide) (fun y hy => by
        simp only [List.mem_cons, List.not_mem_nil, or_false] at hy
        rcases hy with rfl | rfl
        · exact ⟨by decide, "java/lang/IllegalStateException", by decide, by decide, tq_626⟩
        · exact ⟨by decide, "java/lang/IndexOutOfBoundsException", by decide, by decide, tq_631⟩) ?_
      refine j_astore F [(5, .ref x), (0, .ref v0), (1, vi v1), (2, vi v2), (3, vi v3), (4, .ref ho)] d_H_area2_23 (by decide) rfl ?_
      refine j_iconst F d_H_area2_25 ?_
      exact hret _ _ _ _ _ _ _ hp hT1 (by omega) (by omega) d_H_area2_26
theorem tq_656 : (Jvm.Cond.methodLink "LandBookLaw" (49 : Nat) ({ cls := "LandBook", name := "share", desc := "(IIII)I" } : Jvm.MethodName)) ∈ tw_G := tw_in (List.mem_of_getElem? (i := 907) (by decide +kernel)) rfl
theorem tq_657 : (Jvm.Cond.instanceMethod ({ cls := "LandBook", name := "share", desc := "(IIII)I" } : Jvm.MethodName)) ∈ tw_G := tw_in (List.mem_of_getElem? (i := 908) (by decide +kernel)) rfl
theorem tq_658 : (Jvm.Cond.selects "LandBook" ({ cls := "LandBook", name := "share", desc := "(IIII)I" } : Jvm.MethodName) ({ cls := "LandBook", name := "share", desc := "(IIII)I" } : Jvm.MethodName)) ∈ tw_G := tw_in (List.mem_of_getElem? (i := 909) (by decide +kernel)) rfl
theorem tq_659 : (Jvm.Cond.code ({ cls := "LandBook", name := "share", desc := "(IIII)I" } : Jvm.MethodName) prog_1_method_11_code (5 : Nat) (Option.some Jvm.ClassFile.FieldType.int)) ∈ tw_G := tw_in (List.mem_of_getElem? (i := 910) (by decide +kernel)) rfl
abbrev y_H_share : MethodName := ⟨"LandBookLaw", "share", "(LLandBook;IIII[J)I"⟩
theorem q_H_share : y_H_share.cls ≠ "java/lang/invoke/MethodHandle" ∧ y_H_share.cls ≠ "java/lang/invoke/VarHandle" ∧ (parseMethodDescriptor y_H_share.desc).map (fun d => d.parameters.length) = some 6 := by decide +kernel
theorem d_H_share_0 : decode method_12_code 0 = .ok (.aload 5, 2) := by decide +kernel
theorem d_H_share_2 : decode method_12_code 2 = .ok (.iconst 0, 1) := by decide +kernel
theorem d_H_share_3 : decode method_12_code 3 = .ok (.aload_n 0, 1) := by decide +kernel
theorem d_H_share_4 : decode method_12_code 4 = .ok (.iload_n 1, 1) := by decide +kernel
theorem d_H_share_5 : decode method_12_code 5 = .ok (.iload_n 2, 1) := by decide +kernel
theorem d_H_share_6 : decode method_12_code 6 = .ok (.iload_n 3, 1) := by decide +kernel
theorem d_H_share_7 : decode method_12_code 7 = .ok (.iload 4, 2) := by decide +kernel
theorem d_H_share_9 : decode method_12_code 9 = .ok (.invokevirtual 49, 3) := by decide +kernel
theorem d_H_share_12 : decode method_12_code 12 = .ok (.i2l, 1) := by decide +kernel
theorem d_H_share_13 : decode method_12_code 13 = .ok (.lastore, 1) := by decide +kernel
theorem d_H_share_14 : decode method_12_code 14 = .ok (.goto 15, 3) := by decide +kernel
theorem d_H_share_29 : decode method_12_code 29 = .ok (.iconst 0, 1) := by decide +kernel
theorem d_H_share_30 : decode method_12_code 30 = .ok (.ireturn, 1) := by decide +kernel
theorem d_H_share_17 : decode method_12_code 17 = .ok (.astore 6, 2) := by decide +kernel
theorem d_H_share_19 : decode method_12_code 19 = .ok (.iconst 1, 1) := by decide +kernel
theorem d_H_share_20 : decode method_12_code 20 = .ok (.ireturn, 1) := by decide +kernel
theorem d_H_share_21 : decode method_12_code 21 = .ok (.astore 6, 2) := by decide +kernel
theorem d_H_share_23 : decode method_12_code 23 = .ok (.iconst 2, 1) := by decide +kernel
theorem d_H_share_24 : decode method_12_code 24 = .ok (.ireturn, 1) := by decide +kernel
theorem d_H_share_25 : decode method_12_code 25 = .ok (.astore 6, 2) := by decide +kernel
theorem d_H_share_27 : decode method_12_code 27 = .ok (.iconst 3, 1) := by decide +kernel
theorem d_H_share_28 : decode method_12_code 28 = .ok (.ireturn, 1) := by decide +kernel
def hx_share (post : Int → (Nat → Int64) → CS → Prop) (f : Nat → Int64) (mc0 ms0 v0 : Nat) (v1 : Int) (v2 : Int) (v3 : Int) (v4 : Int) (T : CS) : Prop := tg T v0 = 1 ∧ wp_BLB_share (fun r T1 => inR r ∧ post 0 (vp_updL f 0 (lI r)) T1) (fun cls T1 => (cls = "java/lang/IllegalStateException" ∧ post 1 f T1) ∨ (cls = "java/lang/IndexOutOfBoundsException" ∧ post 2 f T1) ∨ (cls = "java/lang/IllegalArgumentException" ∧ post 3 f T1)) mc0 ms0 v0 v1 v2 v3 v4 T
set_option maxHeartbeats 4000000 in
set_option maxRecDepth 100000 in
theorem c_H_share (l : Launch) (hfl : l.flags = pinnedFlags ++ [noTraceFlag]) {D : va_G} {k : CK} {post : Int → (Nat → Int64) → CS → Prop} {mc ms v0 : Nat} {v1 : Int} {v2 : Int} {v3 : Int} {v4 : Int} {T : CS} {kL : ClassId} {ho : Nat} {f : Nat → Int64} (hw : hx_share post f mc ms v0 v1 v2 v3 v4 T) : jH l D k y_H_share method_12_code 7 [(0, 14, 17, 21), (0, 14, 21, 26), (0, 14, 25, 13)] 9 161 mc ms T kL ho f [.ref v0, vi v1, vi v2, vi v3, vi v4, .ref ho] post := by
  obtain ⟨hg, hw⟩ := hw
  refine j_ho (by decide) rfl (Nat.le_of_ble_eq_true rfl) (fun X F K K2 E B hT hret => ?_)
  show jat l D X 7 0 [(0, .ref v0), (1, vi v1), (2, vi v2), (3, vi v3), (4, vi v4), (5, .ref ho)] [] (cwd k T ++ hwo ho kL f) 0 0
  refine j_aload F 5 d_H_share_0 rfl ?_
  refine j_iconst F d_H_share_2 ?_
  refine j_aload_n F 0 d_H_share_3 rfl ?_
  refine j_iload_n F 1 d_H_share_4 rfl ?_
  refine j_iload_n F 2 d_H_share_5 rfl ?_
  refine j_iload_n F 3 d_H_share_6 rfl ?_
  refine j_iload F 4 d_H_share_7 rfl ?_
  refine h_callV (rest := [vi 0, .ref ho]) F K E hT (c_BLB_share l hfl hw) (tw_gV tq_656 tq_657 tq_658 tq_473 tq_659) hg q_BLB_share rfl ⟨by decide, by decide⟩ ⟨by omega, by omega⟩ rfl (Nat.le_of_ble_eq_true rfl) d_H_share_9 ?_ ?_
  · rintro ov T1 ⟨r, rfl, hi, hp⟩ hT1
    show jat l D X 7 12 [(0, .ref v0), (1, vi v1), (2, vi v2), (3, vi v3), (4, vi v4), (5, .ref ho)] [vi r, vi 0, .ref ho] (cwd k T1 ++ hwo ho kL f) (0 + mc) (0 + ms)
    refine j_i2l F hi d_H_share_12 ?_
    refine h_last F K K2 d_H_share_13 ?_
    refine j_goto F 29 d_H_share_14 rfl ?_
    refine j_iconst F d_H_share_29 ?_
    exact hret _ _ _ _ _ _ _ hp hT1 (by omega) (by omega) d_H_share_30
  · rintro cls T1 x (⟨rfl, hp⟩ | ⟨rfl, hp⟩ | ⟨rfl, hp⟩) hT1
    · refine h_catch (pre := []) (post := [(0, 14, 21, 26), (0, 14, 25, 13)]) (sp := 0) (ep := 14) (hp := 17) (ct := 21) F B rfl ⟨by decide, by decide⟩ (by decide) tq_626 (by decide) (fun y hy => by cases hy) ?_
      refine j_astore F [(6, .ref x), (0, .ref v0), (1, vi v1), (2, vi v2), (3, vi v3), (4, vi v4), (5, .ref ho)] d_H_share_17 (by decide) rfl ?_
      refine j_iconst F d_H_share_19 ?_
      exact hret _ _ _ _ _ _ _ hp hT1 (by omega) (by omega) d_H_share_20
    · refine h_catch (pre := [(0, 14, 17, 21)]) (post := [(0, 14, 25, 13)]) (sp := 0) (ep := 14) (hp := 21) (ct := 26) F B rfl ⟨by decide, by decide⟩ (by decide) tq_631 (by decide) (fun y hy => by
        simp only [List.mem_cons, List.not_mem_nil, or_false] at hy
        rcases hy with rfl
        · exact ⟨by decide, "java/lang/IllegalStateException", by decide, by decide, tq_626⟩) ?_
      refine j_astore F [(6, .ref x), (0, .ref v0), (1, vi v1), (2, vi v2), (3, vi v3), (4, vi v4), (5, .ref ho)] d_H_share_21 (by decide) rfl ?_
      refine j_iconst F d_H_share_23 ?_
      exact hret _ _ _ _ _ _ _ hp hT1 (by omega) (by omega) d_H_share_24
    · refine h_catch (pre := [(0, 14, 17, 21), (0, 14, 21, 26)]) (post := []) (sp := 0) (ep := 14) (hp := 25) (ct := 13) F B rfl ⟨by decide, by decide⟩ (by decide) tq_620 (by decide) (fun y hy => by
        simp only [List.mem_cons, List.not_mem_nil, or_false] at hy
        rcases hy with rfl | rfl
        · exact ⟨by decide, "java/lang/IllegalStateException", by decide, by decide, tq_626⟩
        · exact ⟨by decide, "java/lang/IndexOutOfBoundsException", by decide, by decide, tq_631⟩) ?_
      refine j_astore F [(6, .ref x), (0, .ref v0), (1, vi v1), (2, vi v2), (3, vi v3), (4, vi v4), (5, .ref ho)] d_H_share_25 (by decide) rfl ?_
      refine j_iconst F d_H_share_27 ?_
      exact hret _ _ _ _ _ _ _ hp hT1 (by omega) (by omega) d_H_share_28
theorem tq_660 : (Jvm.Cond.methodLink "LandBookLaw" (52 : Nat) ({ cls := "LandBook", name := "next", desc := "(IIII)I" } : Jvm.MethodName)) ∈ tw_G := tw_in (List.mem_of_getElem? (i := 914) (by decide +kernel)) rfl
theorem tq_661 : (Jvm.Cond.instanceMethod ({ cls := "LandBook", name := "next", desc := "(IIII)I" } : Jvm.MethodName)) ∈ tw_G := tw_in (List.mem_of_getElem? (i := 915) (by decide +kernel)) rfl
theorem tq_662 : (Jvm.Cond.selects "LandBook" ({ cls := "LandBook", name := "next", desc := "(IIII)I" } : Jvm.MethodName) ({ cls := "LandBook", name := "next", desc := "(IIII)I" } : Jvm.MethodName)) ∈ tw_G := tw_in (List.mem_of_getElem? (i := 916) (by decide +kernel)) rfl
theorem tq_663 : (Jvm.Cond.code ({ cls := "LandBook", name := "next", desc := "(IIII)I" } : Jvm.MethodName) prog_1_method_12_code (7 : Nat) (Option.some Jvm.ClassFile.FieldType.int)) ∈ tw_G := tw_in (List.mem_of_getElem? (i := 917) (by decide +kernel)) rfl
abbrev y_H_next : MethodName := ⟨"LandBookLaw", "next", "(LLandBook;IIII[J)I"⟩
theorem q_H_next : y_H_next.cls ≠ "java/lang/invoke/MethodHandle" ∧ y_H_next.cls ≠ "java/lang/invoke/VarHandle" ∧ (parseMethodDescriptor y_H_next.desc).map (fun d => d.parameters.length) = some 6 := by decide +kernel
theorem d_H_next_0 : decode method_13_code 0 = .ok (.aload 5, 2) := by decide +kernel
theorem d_H_next_2 : decode method_13_code 2 = .ok (.iconst 0, 1) := by decide +kernel
theorem d_H_next_3 : decode method_13_code 3 = .ok (.aload_n 0, 1) := by decide +kernel
theorem d_H_next_4 : decode method_13_code 4 = .ok (.iload_n 1, 1) := by decide +kernel
theorem d_H_next_5 : decode method_13_code 5 = .ok (.iload_n 2, 1) := by decide +kernel
theorem d_H_next_6 : decode method_13_code 6 = .ok (.iload_n 3, 1) := by decide +kernel
theorem d_H_next_7 : decode method_13_code 7 = .ok (.iload 4, 2) := by decide +kernel
theorem d_H_next_9 : decode method_13_code 9 = .ok (.invokevirtual 52, 3) := by decide +kernel
theorem d_H_next_12 : decode method_13_code 12 = .ok (.i2l, 1) := by decide +kernel
theorem d_H_next_13 : decode method_13_code 13 = .ok (.lastore, 1) := by decide +kernel
theorem d_H_next_14 : decode method_13_code 14 = .ok (.goto 15, 3) := by decide +kernel
theorem d_H_next_29 : decode method_13_code 29 = .ok (.iconst 0, 1) := by decide +kernel
theorem d_H_next_30 : decode method_13_code 30 = .ok (.ireturn, 1) := by decide +kernel
theorem d_H_next_17 : decode method_13_code 17 = .ok (.astore 6, 2) := by decide +kernel
theorem d_H_next_19 : decode method_13_code 19 = .ok (.iconst 1, 1) := by decide +kernel
theorem d_H_next_20 : decode method_13_code 20 = .ok (.ireturn, 1) := by decide +kernel
theorem d_H_next_21 : decode method_13_code 21 = .ok (.astore 6, 2) := by decide +kernel
theorem d_H_next_23 : decode method_13_code 23 = .ok (.iconst 2, 1) := by decide +kernel
theorem d_H_next_24 : decode method_13_code 24 = .ok (.ireturn, 1) := by decide +kernel
theorem d_H_next_25 : decode method_13_code 25 = .ok (.astore 6, 2) := by decide +kernel
theorem d_H_next_27 : decode method_13_code 27 = .ok (.iconst 3, 1) := by decide +kernel
theorem d_H_next_28 : decode method_13_code 28 = .ok (.ireturn, 1) := by decide +kernel
def hx_next (post : Int → (Nat → Int64) → CS → Prop) (f : Nat → Int64) (mc0 ms0 v0 : Nat) (v1 : Int) (v2 : Int) (v3 : Int) (v4 : Int) (T : CS) : Prop := tg T v0 = 1 ∧ wp_BLB_next (fun r T1 => inR r ∧ post 0 (vp_updL f 0 (lI r)) T1) (fun cls T1 => (cls = "java/lang/IllegalStateException" ∧ post 1 f T1) ∨ (cls = "java/lang/IndexOutOfBoundsException" ∧ post 2 f T1) ∨ (cls = "java/lang/IllegalArgumentException" ∧ post 3 f T1)) mc0 ms0 v0 v1 v2 v3 v4 T
set_option maxHeartbeats 4000000 in
set_option maxRecDepth 100000 in
theorem c_H_next (l : Launch) (hfl : l.flags = pinnedFlags ++ [noTraceFlag]) {D : va_G} {k : CK} {post : Int → (Nat → Int64) → CS → Prop} {mc ms v0 : Nat} {v1 : Int} {v2 : Int} {v3 : Int} {v4 : Int} {T : CS} {kL : ClassId} {ho : Nat} {f : Nat → Int64} (hw : hx_next post f mc ms v0 v1 v2 v3 v4 T) : jH l D k y_H_next method_13_code 7 [(0, 14, 17, 21), (0, 14, 21, 26), (0, 14, 25, 13)] 9 149 mc ms T kL ho f [.ref v0, vi v1, vi v2, vi v3, vi v4, .ref ho] post := by
  obtain ⟨hg, hw⟩ := hw
  refine j_ho (by decide) rfl (Nat.le_of_ble_eq_true rfl) (fun X F K K2 E B hT hret => ?_)
  show jat l D X 7 0 [(0, .ref v0), (1, vi v1), (2, vi v2), (3, vi v3), (4, vi v4), (5, .ref ho)] [] (cwd k T ++ hwo ho kL f) 0 0
  refine j_aload F 5 d_H_next_0 rfl ?_
  refine j_iconst F d_H_next_2 ?_
  refine j_aload_n F 0 d_H_next_3 rfl ?_
  refine j_iload_n F 1 d_H_next_4 rfl ?_
  refine j_iload_n F 2 d_H_next_5 rfl ?_
  refine j_iload_n F 3 d_H_next_6 rfl ?_
  refine j_iload F 4 d_H_next_7 rfl ?_
  refine h_callV (rest := [vi 0, .ref ho]) F K E hT (c_BLB_next l hfl hw) (tw_gV tq_660 tq_661 tq_662 tq_473 tq_663) hg q_BLB_next rfl ⟨by decide, by decide⟩ ⟨by omega, by omega⟩ rfl (Nat.le_of_ble_eq_true rfl) d_H_next_9 ?_ ?_
  · rintro ov T1 ⟨r, rfl, hi, hp⟩ hT1
    show jat l D X 7 12 [(0, .ref v0), (1, vi v1), (2, vi v2), (3, vi v3), (4, vi v4), (5, .ref ho)] [vi r, vi 0, .ref ho] (cwd k T1 ++ hwo ho kL f) (0 + mc) (0 + ms)
    refine j_i2l F hi d_H_next_12 ?_
    refine h_last F K K2 d_H_next_13 ?_
    refine j_goto F 29 d_H_next_14 rfl ?_
    refine j_iconst F d_H_next_29 ?_
    exact hret _ _ _ _ _ _ _ hp hT1 (by omega) (by omega) d_H_next_30
  · rintro cls T1 x (⟨rfl, hp⟩ | ⟨rfl, hp⟩ | ⟨rfl, hp⟩) hT1
    · refine h_catch (pre := []) (post := [(0, 14, 21, 26), (0, 14, 25, 13)]) (sp := 0) (ep := 14) (hp := 17) (ct := 21) F B rfl ⟨by decide, by decide⟩ (by decide) tq_626 (by decide) (fun y hy => by cases hy) ?_
      refine j_astore F [(6, .ref x), (0, .ref v0), (1, vi v1), (2, vi v2), (3, vi v3), (4, vi v4), (5, .ref ho)] d_H_next_17 (by decide) rfl ?_
      refine j_iconst F d_H_next_19 ?_
      exact hret _ _ _ _ _ _ _ hp hT1 (by omega) (by omega) d_H_next_20
    · refine h_catch (pre := [(0, 14, 17, 21)]) (post := [(0, 14, 25, 13)]) (sp := 0) (ep := 14) (hp := 21) (ct := 26) F B rfl ⟨by decide, by decide⟩ (by decide) tq_631 (by decide) (fun y hy => by
        simp only [List.mem_cons, List.not_mem_nil, or_false] at hy
        rcases hy with rfl
        · exact ⟨by decide, "java/lang/IllegalStateException", by decide, by decide, tq_626⟩) ?_
      refine j_astore F [(6, .ref x), (0, .ref v0), (1, vi v1), (2, vi v2), (3, vi v3), (4, vi v4), (5, .ref ho)] d_H_next_21 (by decide) rfl ?_
      refine j_iconst F d_H_next_23 ?_
      exact hret _ _ _ _ _ _ _ hp hT1 (by omega) (by omega) d_H_next_24
    · refine h_catch (pre := [(0, 14, 17, 21), (0, 14, 21, 26)]) (post := []) (sp := 0) (ep := 14) (hp := 25) (ct := 13) F B rfl ⟨by decide, by decide⟩ (by decide) tq_620 (by decide) (fun y hy => by
        simp only [List.mem_cons, List.not_mem_nil, or_false] at hy
        rcases hy with rfl | rfl
        · exact ⟨by decide, "java/lang/IllegalStateException", by decide, by decide, tq_626⟩
        · exact ⟨by decide, "java/lang/IndexOutOfBoundsException", by decide, by decide, tq_631⟩) ?_
      refine j_astore F [(6, .ref x), (0, .ref v0), (1, vi v1), (2, vi v2), (3, vi v3), (4, vi v4), (5, .ref ho)] d_H_next_25 (by decide) rfl ?_
      refine j_iconst F d_H_next_27 ?_
      exact hret _ _ _ _ _ _ _ hp hT1 (by omega) (by omega) d_H_next_28
theorem tq_664 : (Jvm.Cond.methodLink "LandBookLaw" (55 : Nat) ({ cls := "LandBook", name := "burden", desc := "(IIII)I" } : Jvm.MethodName)) ∈ tw_G := tw_in (List.mem_of_getElem? (i := 928) (by decide +kernel)) rfl
theorem tq_665 : (Jvm.Cond.instanceMethod ({ cls := "LandBook", name := "burden", desc := "(IIII)I" } : Jvm.MethodName)) ∈ tw_G := tw_in (List.mem_of_getElem? (i := 929) (by decide +kernel)) rfl
theorem tq_666 : (Jvm.Cond.selects "LandBook" ({ cls := "LandBook", name := "burden", desc := "(IIII)I" } : Jvm.MethodName) ({ cls := "LandBook", name := "burden", desc := "(IIII)I" } : Jvm.MethodName)) ∈ tw_G := tw_in (List.mem_of_getElem? (i := 930) (by decide +kernel)) rfl
theorem tq_667 : (Jvm.Cond.code ({ cls := "LandBook", name := "burden", desc := "(IIII)I" } : Jvm.MethodName) prog_1_method_13_code (7 : Nat) (Option.some Jvm.ClassFile.FieldType.int)) ∈ tw_G := tw_in (List.mem_of_getElem? (i := 931) (by decide +kernel)) rfl
abbrev y_H_burden : MethodName := ⟨"LandBookLaw", "burden", "(LLandBook;IIII[J)I"⟩
theorem q_H_burden : y_H_burden.cls ≠ "java/lang/invoke/MethodHandle" ∧ y_H_burden.cls ≠ "java/lang/invoke/VarHandle" ∧ (parseMethodDescriptor y_H_burden.desc).map (fun d => d.parameters.length) = some 6 := by decide +kernel
theorem d_H_burden_0 : decode method_14_code 0 = .ok (.aload 5, 2) := by decide +kernel
theorem d_H_burden_2 : decode method_14_code 2 = .ok (.iconst 0, 1) := by decide +kernel
theorem d_H_burden_3 : decode method_14_code 3 = .ok (.aload_n 0, 1) := by decide +kernel
theorem d_H_burden_4 : decode method_14_code 4 = .ok (.iload_n 1, 1) := by decide +kernel
theorem d_H_burden_5 : decode method_14_code 5 = .ok (.iload_n 2, 1) := by decide +kernel
theorem d_H_burden_6 : decode method_14_code 6 = .ok (.iload_n 3, 1) := by decide +kernel
theorem d_H_burden_7 : decode method_14_code 7 = .ok (.iload 4, 2) := by decide +kernel
theorem d_H_burden_9 : decode method_14_code 9 = .ok (.invokevirtual 55, 3) := by decide +kernel
theorem d_H_burden_12 : decode method_14_code 12 = .ok (.i2l, 1) := by decide +kernel
theorem d_H_burden_13 : decode method_14_code 13 = .ok (.lastore, 1) := by decide +kernel
theorem d_H_burden_14 : decode method_14_code 14 = .ok (.goto 15, 3) := by decide +kernel
theorem d_H_burden_29 : decode method_14_code 29 = .ok (.iconst 0, 1) := by decide +kernel
theorem d_H_burden_30 : decode method_14_code 30 = .ok (.ireturn, 1) := by decide +kernel
theorem d_H_burden_17 : decode method_14_code 17 = .ok (.astore 6, 2) := by decide +kernel
theorem d_H_burden_19 : decode method_14_code 19 = .ok (.iconst 1, 1) := by decide +kernel
theorem d_H_burden_20 : decode method_14_code 20 = .ok (.ireturn, 1) := by decide +kernel
theorem d_H_burden_21 : decode method_14_code 21 = .ok (.astore 6, 2) := by decide +kernel
theorem d_H_burden_23 : decode method_14_code 23 = .ok (.iconst 2, 1) := by decide +kernel
theorem d_H_burden_24 : decode method_14_code 24 = .ok (.ireturn, 1) := by decide +kernel
theorem d_H_burden_25 : decode method_14_code 25 = .ok (.astore 6, 2) := by decide +kernel
theorem d_H_burden_27 : decode method_14_code 27 = .ok (.iconst 3, 1) := by decide +kernel
theorem d_H_burden_28 : decode method_14_code 28 = .ok (.ireturn, 1) := by decide +kernel
def hx_burden (post : Int → (Nat → Int64) → CS → Prop) (f : Nat → Int64) (mc0 ms0 v0 : Nat) (v1 : Int) (v2 : Int) (v3 : Int) (v4 : Int) (T : CS) : Prop := tg T v0 = 1 ∧ wp_BLB_burden (fun r T1 => inR r ∧ post 0 (vp_updL f 0 (lI r)) T1) (fun cls T1 => (cls = "java/lang/IllegalStateException" ∧ post 1 f T1) ∨ (cls = "java/lang/IndexOutOfBoundsException" ∧ post 2 f T1) ∨ (cls = "java/lang/IllegalArgumentException" ∧ post 3 f T1)) mc0 ms0 v0 v1 v2 v3 v4 T
set_option maxHeartbeats 4000000 in
set_option maxRecDepth 100000 in
theorem c_H_burden (l : Launch) (hfl : l.flags = pinnedFlags ++ [noTraceFlag]) {D : va_G} {k : CK} {post : Int → (Nat → Int64) → CS → Prop} {mc ms v0 : Nat} {v1 : Int} {v2 : Int} {v3 : Int} {v4 : Int} {T : CS} {kL : ClassId} {ho : Nat} {f : Nat → Int64} (hw : hx_burden post f mc ms v0 v1 v2 v3 v4 T) : jH l D k y_H_burden method_14_code 7 [(0, 14, 17, 21), (0, 14, 21, 26), (0, 14, 25, 13)] 9 161 mc ms T kL ho f [.ref v0, vi v1, vi v2, vi v3, vi v4, .ref ho] post := by
  obtain ⟨hg, hw⟩ := hw
  refine j_ho (by decide) rfl (Nat.le_of_ble_eq_true rfl) (fun X F K K2 E B hT hret => ?_)
  show jat l D X 7 0 [(0, .ref v0), (1, vi v1), (2, vi v2), (3, vi v3), (4, vi v4), (5, .ref ho)] [] (cwd k T ++ hwo ho kL f) 0 0
  refine j_aload F 5 d_H_burden_0 rfl ?_
  refine j_iconst F d_H_burden_2 ?_
  refine j_aload_n F 0 d_H_burden_3 rfl ?_
  refine j_iload_n F 1 d_H_burden_4 rfl ?_
  refine j_iload_n F 2 d_H_burden_5 rfl ?_
  refine j_iload_n F 3 d_H_burden_6 rfl ?_
  refine j_iload F 4 d_H_burden_7 rfl ?_
  refine h_callV (rest := [vi 0, .ref ho]) F K E hT (c_BLB_burden l hfl hw) (tw_gV tq_664 tq_665 tq_666 tq_473 tq_667) hg q_BLB_burden rfl ⟨by decide, by decide⟩ ⟨by omega, by omega⟩ rfl (Nat.le_of_ble_eq_true rfl) d_H_burden_9 ?_ ?_
  · rintro ov T1 ⟨r, rfl, hi, hp⟩ hT1
    show jat l D X 7 12 [(0, .ref v0), (1, vi v1), (2, vi v2), (3, vi v3), (4, vi v4), (5, .ref ho)] [vi r, vi 0, .ref ho] (cwd k T1 ++ hwo ho kL f) (0 + mc) (0 + ms)
    refine j_i2l F hi d_H_burden_12 ?_
    refine h_last F K K2 d_H_burden_13 ?_
    refine j_goto F 29 d_H_burden_14 rfl ?_
    refine j_iconst F d_H_burden_29 ?_
    exact hret _ _ _ _ _ _ _ hp hT1 (by omega) (by omega) d_H_burden_30
  · rintro cls T1 x (⟨rfl, hp⟩ | ⟨rfl, hp⟩ | ⟨rfl, hp⟩) hT1
    · refine h_catch (pre := []) (post := [(0, 14, 21, 26), (0, 14, 25, 13)]) (sp := 0) (ep := 14) (hp := 17) (ct := 21) F B rfl ⟨by decide, by decide⟩ (by decide) tq_626 (by decide) (fun y hy => by cases hy) ?_
      refine j_astore F [(6, .ref x), (0, .ref v0), (1, vi v1), (2, vi v2), (3, vi v3), (4, vi v4), (5, .ref ho)] d_H_burden_17 (by decide) rfl ?_
      refine j_iconst F d_H_burden_19 ?_
      exact hret _ _ _ _ _ _ _ hp hT1 (by omega) (by omega) d_H_burden_20
    · refine h_catch (pre := [(0, 14, 17, 21)]) (post := [(0, 14, 25, 13)]) (sp := 0) (ep := 14) (hp := 21) (ct := 26) F B rfl ⟨by decide, by decide⟩ (by decide) tq_631 (by decide) (fun y hy => by
        simp only [List.mem_cons, List.not_mem_nil, or_false] at hy
        rcases hy with rfl
        · exact ⟨by decide, "java/lang/IllegalStateException", by decide, by decide, tq_626⟩) ?_
      refine j_astore F [(6, .ref x), (0, .ref v0), (1, vi v1), (2, vi v2), (3, vi v3), (4, vi v4), (5, .ref ho)] d_H_burden_21 (by decide) rfl ?_
      refine j_iconst F d_H_burden_23 ?_
      exact hret _ _ _ _ _ _ _ hp hT1 (by omega) (by omega) d_H_burden_24
    · refine h_catch (pre := [(0, 14, 17, 21), (0, 14, 21, 26)]) (post := []) (sp := 0) (ep := 14) (hp := 25) (ct := 13) F B rfl ⟨by decide, by decide⟩ (by decide) tq_620 (by decide) (fun y hy => by
        simp only [List.mem_cons, List.not_mem_nil, or_false] at hy
        rcases hy with rfl | rfl
        · exact ⟨by decide, "java/lang/IllegalStateException", by decide, by decide, tq_626⟩
        · exact ⟨by decide, "java/lang/IndexOutOfBoundsException", by decide, by decide, tq_631⟩) ?_
      refine j_astore F [(6, .ref x), (0, .ref v0), (1, vi v1), (2, vi v2), (3, vi v3), (4, vi v4), (5, .ref ho)] d_H_burden_25 (by decide) rfl ?_
      refine j_iconst F d_H_burden_27 ?_
      exact hret _ _ _ _ _ _ _ hp hT1 (by omega) (by omega) d_H_burden_28
theorem tq_668 : (Jvm.Cond.methodLink "LandBookLaw" (58 : Nat) ({ cls := "LandBook", name := "parent", desc := "(II)I" } : Jvm.MethodName)) ∈ tw_G := tw_in (List.mem_of_getElem? (i := 936) (by decide +kernel)) rfl
theorem tq_669 : (Jvm.Cond.instanceMethod ({ cls := "LandBook", name := "parent", desc := "(II)I" } : Jvm.MethodName)) ∈ tw_G := tw_in (List.mem_of_getElem? (i := 937) (by decide +kernel)) rfl
theorem tq_670 : (Jvm.Cond.selects "LandBook" ({ cls := "LandBook", name := "parent", desc := "(II)I" } : Jvm.MethodName) ({ cls := "LandBook", name := "parent", desc := "(II)I" } : Jvm.MethodName)) ∈ tw_G := tw_in (List.mem_of_getElem? (i := 938) (by decide +kernel)) rfl
theorem tq_671 : (Jvm.Cond.code ({ cls := "LandBook", name := "parent", desc := "(II)I" } : Jvm.MethodName) prog_1_method_14_code (3 : Nat) (Option.some Jvm.ClassFile.FieldType.int)) ∈ tw_G := tw_in (List.mem_of_getElem? (i := 939) (by decide +kernel)) rfl
abbrev y_H_parent : MethodName := ⟨"LandBookLaw", "parent", "(LLandBook;II[J)I"⟩
theorem q_H_parent : y_H_parent.cls ≠ "java/lang/invoke/MethodHandle" ∧ y_H_parent.cls ≠ "java/lang/invoke/VarHandle" ∧ (parseMethodDescriptor y_H_parent.desc).map (fun d => d.parameters.length) = some 4 := by decide +kernel
theorem d_H_parent_0 : decode method_15_code 0 = .ok (.aload_n 3, 1) := by decide +kernel
theorem d_H_parent_1 : decode method_15_code 1 = .ok (.iconst 0, 1) := by decide +kernel
theorem d_H_parent_2 : decode method_15_code 2 = .ok (.aload_n 0, 1) := by decide +kernel
theorem d_H_parent_3 : decode method_15_code 3 = .ok (.iload_n 1, 1) := by decide +kernel
theorem d_H_parent_4 : decode method_15_code 4 = .ok (.iload_n 2, 1) := by decide +kernel
theorem d_H_parent_5 : decode method_15_code 5 = .ok (.invokevirtual 58, 3) := by decide +kernel
theorem d_H_parent_8 : decode method_15_code 8 = .ok (.i2l, 1) := by decide +kernel
theorem d_H_parent_9 : decode method_15_code 9 = .ok (.lastore, 1) := by decide +kernel
theorem d_H_parent_10 : decode method_15_code 10 = .ok (.goto 11, 3) := by decide +kernel
theorem d_H_parent_21 : decode method_15_code 21 = .ok (.iconst 0, 1) := by decide +kernel
theorem d_H_parent_22 : decode method_15_code 22 = .ok (.ireturn, 1) := by decide +kernel
theorem d_H_parent_13 : decode method_15_code 13 = .ok (.astore 4, 2) := by decide +kernel
theorem d_H_parent_15 : decode method_15_code 15 = .ok (.iconst 1, 1) := by decide +kernel
theorem d_H_parent_16 : decode method_15_code 16 = .ok (.ireturn, 1) := by decide +kernel
theorem d_H_parent_17 : decode method_15_code 17 = .ok (.astore 4, 2) := by decide +kernel
theorem d_H_parent_19 : decode method_15_code 19 = .ok (.iconst 2, 1) := by decide +kernel
theorem d_H_parent_20 : decode method_15_code 20 = .ok (.ireturn, 1) := by decide +kernel
def hx_parent (post : Int → (Nat → Int64) → CS → Prop) (f : Nat → Int64) (mc0 ms0 v0 : Nat) (v1 : Int) (v2 : Int) (T : CS) : Prop := tg T v0 = 1 ∧ wp_BLB_parent (fun r T1 => inR r ∧ post 0 (vp_updL f 0 (lI r)) T1) (fun cls T1 => (cls = "java/lang/IllegalStateException" ∧ post 1 f T1) ∨ (cls = "java/lang/IndexOutOfBoundsException" ∧ post 2 f T1)) mc0 ms0 v0 v1 v2 T
set_option maxHeartbeats 4000000 in
set_option maxRecDepth 100000 in
theorem c_H_parent (l : Launch) (hfl : l.flags = pinnedFlags ++ [noTraceFlag]) {D : va_G} {k : CK} {post : Int → (Nat → Int64) → CS → Prop} {mc ms v0 : Nat} {v1 : Int} {v2 : Int} {T : CS} {kL : ClassId} {ho : Nat} {f : Nat → Int64} (hw : hx_parent post f mc ms v0 v1 v2 T) : jH l D k y_H_parent method_15_code 5 [(0, 10, 13, 21), (0, 10, 17, 26)] 8 133 mc ms T kL ho f [.ref v0, vi v1, vi v2, .ref ho] post := by
  obtain ⟨hg, hw⟩ := hw
  refine j_ho (by decide) rfl (Nat.le_of_ble_eq_true rfl) (fun X F K K2 E B hT hret => ?_)
  show jat l D X 5 0 [(0, .ref v0), (1, vi v1), (2, vi v2), (3, .ref ho)] [] (cwd k T ++ hwo ho kL f) 0 0
  refine j_aload_n F 3 d_H_parent_0 rfl ?_
  refine j_iconst F d_H_parent_1 ?_
  refine j_aload_n F 0 d_H_parent_2 rfl ?_
  refine j_iload_n F 1 d_H_parent_3 rfl ?_
  refine j_iload_n F 2 d_H_parent_4 rfl ?_
  refine h_callV (rest := [vi 0, .ref ho]) F K E hT (c_BLB_parent l hfl hw) (tw_gV tq_668 tq_669 tq_670 tq_473 tq_671) hg q_BLB_parent rfl ⟨by decide, by decide⟩ ⟨by omega, by omega⟩ rfl (Nat.le_of_ble_eq_true rfl) d_H_parent_5 ?_ ?_
  · rintro ov T1 ⟨r, rfl, hi, hp⟩ hT1
    show jat l D X 5 8 [(0, .ref v0), (1, vi v1), (2, vi v2), (3, .ref ho)] [vi r, vi 0, .ref ho] (cwd k T1 ++ hwo ho kL f) (0 + mc) (0 + ms)
    refine j_i2l F hi d_H_parent_8 ?_
    refine h_last F K K2 d_H_parent_9 ?_
    refine j_goto F 21 d_H_parent_10 rfl ?_
    refine j_iconst F d_H_parent_21 ?_
    exact hret _ _ _ _ _ _ _ hp hT1 (by omega) (by omega) d_H_parent_22
  · rintro cls T1 x (⟨rfl, hp⟩ | ⟨rfl, hp⟩) hT1
    · refine h_catch (pre := []) (post := [(0, 10, 17, 26)]) (sp := 0) (ep := 10) (hp := 13) (ct := 21) F B rfl ⟨by decide, by decide⟩ (by decide) tq_626 (by decide) (fun y hy => by cases hy) ?_
      refine j_astore F [(4, .ref x), (0, .ref v0), (1, vi v1), (2, vi v2), (3, .ref ho)] d_H_parent_13 (by decide) rfl ?_
      refine j_iconst F d_H_parent_15 ?_
      exact hret _ _ _ _ _ _ _ hp hT1 (by omega) (by omega) d_H_parent_16
    · refine h_catch (pre := [(0, 10, 13, 21)]) (post := []) (sp := 0) (ep := 10) (hp := 17) (ct := 26) F B rfl ⟨by decide, by decide⟩ (by decide) tq_631 (by decide) (fun y hy => by
        simp only [List.mem_cons, List.not_mem_nil, or_false] at hy
        rcases hy with rfl
        · exact ⟨by decide, "java/lang/IllegalStateException", by decide, by decide, tq_626⟩) ?_
      refine j_astore F [(4, .ref x), (0, .ref v0), (1, vi v1), (2, vi v2), (3, .ref ho)] d_H_parent_17 (by decide) rfl ?_
      refine j_iconst F d_H_parent_19 ?_
      exact hret _ _ _ _ _ _ _ hp hT1 (by omega) (by omega) d_H_parent_20
theorem tq_672 : (Jvm.Cond.methodLink "LandBookLaw" (61 : Nat) ({ cls := "LandBook", name := "child", desc := "(II)I" } : Jvm.MethodName)) ∈ tw_G := tw_in (List.mem_of_getElem? (i := 951) (by decide +kernel)) rfl
theorem tq_673 : (Jvm.Cond.instanceMethod ({ cls := "LandBook", name := "child", desc := "(II)I" } : Jvm.MethodName)) ∈ tw_G := tw_in (List.mem_of_getElem? (i := 952) (by decide +kernel)) rfl
theorem tq_674 : (Jvm.Cond.selects "LandBook" ({ cls := "LandBook", name := "child", desc := "(II)I" } : Jvm.MethodName) ({ cls := "LandBook", name := "child", desc := "(II)I" } : Jvm.MethodName)) ∈ tw_G := tw_in (List.mem_of_getElem? (i := 953) (by decide +kernel)) rfl
theorem tq_675 : (Jvm.Cond.code ({ cls := "LandBook", name := "child", desc := "(II)I" } : Jvm.MethodName) prog_1_method_15_code (3 : Nat) (Option.some Jvm.ClassFile.FieldType.int)) ∈ tw_G := tw_in (List.mem_of_getElem? (i := 954) (by decide +kernel)) rfl
abbrev y_H_child : MethodName := ⟨"LandBookLaw", "child", "(LLandBook;II[J)I"⟩
theorem q_H_child : y_H_child.cls ≠ "java/lang/invoke/MethodHandle" ∧ y_H_child.cls ≠ "java/lang/invoke/VarHandle" ∧ (parseMethodDescriptor y_H_child.desc).map (fun d => d.parameters.length) = some 4 := by decide +kernel
theorem d_H_child_0 : decode method_16_code 0 = .ok (.aload_n 3, 1) := by decide +kernel
theorem d_H_child_1 : decode method_16_code 1 = .ok (.iconst 0, 1) := by decide +kernel
theorem d_H_child_2 : decode method_16_code 2 = .ok (.aload_n 0, 1) := by decide +kernel
theorem d_H_child_3 : decode method_16_code 3 = .ok (.iload_n 1, 1) := by decide +kernel
theorem d_H_child_4 : decode method_16_code 4 = .ok (.iload_n 2, 1) := by decide +kernel
theorem d_H_child_5 : decode method_16_code 5 = .ok (.invokevirtual 61, 3) := by decide +kernel
theorem d_H_child_8 : decode method_16_code 8 = .ok (.i2l, 1) := by decide +kernel
theorem d_H_child_9 : decode method_16_code 9 = .ok (.lastore, 1) := by decide +kernel
theorem d_H_child_10 : decode method_16_code 10 = .ok (.goto 11, 3) := by decide +kernel
theorem d_H_child_21 : decode method_16_code 21 = .ok (.iconst 0, 1) := by decide +kernel
theorem d_H_child_22 : decode method_16_code 22 = .ok (.ireturn, 1) := by decide +kernel
theorem d_H_child_13 : decode method_16_code 13 = .ok (.astore 4, 2) := by decide +kernel
theorem d_H_child_15 : decode method_16_code 15 = .ok (.iconst 1, 1) := by decide +kernel
theorem d_H_child_16 : decode method_16_code 16 = .ok (.ireturn, 1) := by decide +kernel
theorem d_H_child_17 : decode method_16_code 17 = .ok (.astore 4, 2) := by decide +kernel
theorem d_H_child_19 : decode method_16_code 19 = .ok (.iconst 2, 1) := by decide +kernel
theorem d_H_child_20 : decode method_16_code 20 = .ok (.ireturn, 1) := by decide +kernel
def hx_child (post : Int → (Nat → Int64) → CS → Prop) (f : Nat → Int64) (mc0 ms0 v0 : Nat) (v1 : Int) (v2 : Int) (T : CS) : Prop := tg T v0 = 1 ∧ wp_BLB_child (fun r T1 => inR r ∧ post 0 (vp_updL f 0 (lI r)) T1) (fun cls T1 => (cls = "java/lang/IllegalStateException" ∧ post 1 f T1) ∨ (cls = "java/lang/IndexOutOfBoundsException" ∧ post 2 f T1)) mc0 ms0 v0 v1 v2 T
set_option maxHeartbeats 4000000 in
set_option maxRecDepth 100000 in
theorem c_H_child (l : Launch) (hfl : l.flags = pinnedFlags ++ [noTraceFlag]) {D : va_G} {k : CK} {post : Int → (Nat → Int64) → CS → Prop} {mc ms v0 : Nat} {v1 : Int} {v2 : Int} {T : CS} {kL : ClassId} {ho : Nat} {f : Nat → Int64} (hw : hx_child post f mc ms v0 v1 v2 T) : jH l D k y_H_child method_16_code 5 [(0, 10, 13, 21), (0, 10, 17, 26)] 8 133 mc ms T kL ho f [.ref v0, vi v1, vi v2, .ref ho] post := by
  obtain ⟨hg, hw⟩ := hw
  refine j_ho (by decide) rfl (Nat.le_of_ble_eq_true rfl) (fun X F K K2 E B hT hret => ?_)
  show jat l D X 5 0 [(0, .ref v0), (1, vi v1), (2, vi v2), (3, .ref ho)] [] (cwd k T ++ hwo ho kL f) 0 0
  refine j_aload_n F 3 d_H_child_0 rfl ?_
  refine j_iconst F d_H_child_1 ?_
  refine j_aload_n F 0 d_H_child_2 rfl ?_
  refine j_iload_n F 1 d_H_child_3 rfl ?_
  refine j_iload_n F 2 d_H_child_4 rfl ?_
  refine h_callV (rest := [vi 0, .ref ho]) F K E hT (c_BLB_child l hfl hw) (tw_gV tq_672 tq_673 tq_674 tq_473 tq_675) hg q_BLB_child rfl ⟨by decide, by decide⟩ ⟨by omega, by omega⟩ rfl (Nat.le_of_ble_eq_true rfl) d_H_child_5 ?_ ?_
  · rintro ov T1 ⟨r, rfl, hi, hp⟩ hT1
    show jat l D X 5 8 [(0, .ref v0), (1, vi v1), (2, vi v2), (3, .ref ho)] [vi r, vi 0, .ref ho] (cwd k T1 ++ hwo ho kL f) (0 + mc) (0 + ms)
    refine j_i2l F hi d_H_child_8 ?_
    refine h_last F K K2 d_H_child_9 ?_
    refine j_goto F 21 d_H_child_10 rfl ?_
    refine j_iconst F d_H_child_21 ?_
    exact hret _ _ _ _ _ _ _ hp hT1 (by omega) (by omega) d_H_child_22
  · rintro cls T1 x (⟨rfl, hp⟩ | ⟨rfl, hp⟩) hT1
    · refine h_catch (pre := []) (post := [(0, 10, 17, 26)]) (sp := 0) (ep := 10) (hp := 13) (ct := 21) F B rfl ⟨by decide, by decide⟩ (by decide) tq_626 (by decide) (fun y hy => by cases hy) ?_
      refine j_astore F [(4, .ref x), (0, .ref v0), (1, vi v1), (2, vi v2), (3, .ref ho)] d_H_child_13 (by decide) rfl ?_
      refine j_iconst F d_H_child_15 ?_
      exact hret _ _ _ _ _ _ _ hp hT1 (by omega) (by omega) d_H_child_16
    · refine h_catch (pre := [(0, 10, 13, 21)]) (post := []) (sp := 0) (ep := 10) (hp := 17) (ct := 26) F B rfl ⟨by decide, by decide⟩ (by decide) tq_631 (by decide) (fun y hy => by
        simp only [List.mem_cons, List.not_mem_nil, or_false] at hy
        rcases hy with rfl
        · exact ⟨by decide, "java/lang/IllegalStateException", by decide, by decide, tq_626⟩) ?_
      refine j_astore F [(4, .ref x), (0, .ref v0), (1, vi v1), (2, vi v2), (3, .ref ho)] d_H_child_17 (by decide) rfl ?_
      refine j_iconst F d_H_child_19 ?_
      exact hret _ _ _ _ _ _ _ hp hT1 (by omega) (by omega) d_H_child_20
theorem tq_676 : (Jvm.Cond.methodLink "LandBookLaw" (64 : Nat) ({ cls := "LandBook", name := "corners", desc := "(I)I" } : Jvm.MethodName)) ∈ tw_G := tw_in (List.mem_of_getElem? (i := 958) (by decide +kernel)) rfl
theorem tq_677 : (Jvm.Cond.instanceMethod ({ cls := "LandBook", name := "corners", desc := "(I)I" } : Jvm.MethodName)) ∈ tw_G := tw_in (List.mem_of_getElem? (i := 959) (by decide +kernel)) rfl
theorem tq_678 : (Jvm.Cond.selects "LandBook" ({ cls := "LandBook", name := "corners", desc := "(I)I" } : Jvm.MethodName) ({ cls := "LandBook", name := "corners", desc := "(I)I" } : Jvm.MethodName)) ∈ tw_G := tw_in (List.mem_of_getElem? (i := 960) (by decide +kernel)) rfl
theorem tq_679 : (Jvm.Cond.code ({ cls := "LandBook", name := "corners", desc := "(I)I" } : Jvm.MethodName) prog_1_method_16_code (2 : Nat) (Option.some Jvm.ClassFile.FieldType.int)) ∈ tw_G := tw_in (List.mem_of_getElem? (i := 961) (by decide +kernel)) rfl
abbrev y_H_corners : MethodName := ⟨"LandBookLaw", "corners", "(LLandBook;I[J)I"⟩
theorem q_H_corners : y_H_corners.cls ≠ "java/lang/invoke/MethodHandle" ∧ y_H_corners.cls ≠ "java/lang/invoke/VarHandle" ∧ (parseMethodDescriptor y_H_corners.desc).map (fun d => d.parameters.length) = some 3 := by decide +kernel
theorem d_H_corners_0 : decode method_17_code 0 = .ok (.aload_n 2, 1) := by decide +kernel
theorem d_H_corners_1 : decode method_17_code 1 = .ok (.iconst 0, 1) := by decide +kernel
theorem d_H_corners_2 : decode method_17_code 2 = .ok (.aload_n 0, 1) := by decide +kernel
theorem d_H_corners_3 : decode method_17_code 3 = .ok (.iload_n 1, 1) := by decide +kernel
theorem d_H_corners_4 : decode method_17_code 4 = .ok (.invokevirtual 64, 3) := by decide +kernel
theorem d_H_corners_7 : decode method_17_code 7 = .ok (.i2l, 1) := by decide +kernel
theorem d_H_corners_8 : decode method_17_code 8 = .ok (.lastore, 1) := by decide +kernel
theorem d_H_corners_9 : decode method_17_code 9 = .ok (.goto 9, 3) := by decide +kernel
theorem d_H_corners_18 : decode method_17_code 18 = .ok (.iconst 0, 1) := by decide +kernel
theorem d_H_corners_19 : decode method_17_code 19 = .ok (.ireturn, 1) := by decide +kernel
theorem d_H_corners_12 : decode method_17_code 12 = .ok (.astore_n 3, 1) := by decide +kernel
theorem d_H_corners_13 : decode method_17_code 13 = .ok (.iconst 1, 1) := by decide +kernel
theorem d_H_corners_14 : decode method_17_code 14 = .ok (.ireturn, 1) := by decide +kernel
theorem d_H_corners_15 : decode method_17_code 15 = .ok (.astore_n 3, 1) := by decide +kernel
theorem d_H_corners_16 : decode method_17_code 16 = .ok (.iconst 2, 1) := by decide +kernel
theorem d_H_corners_17 : decode method_17_code 17 = .ok (.ireturn, 1) := by decide +kernel
def hx_corners (post : Int → (Nat → Int64) → CS → Prop) (f : Nat → Int64) (mc0 ms0 v0 : Nat) (v1 : Int) (T : CS) : Prop := tg T v0 = 1 ∧ wp_BLB_corners (fun r T1 => inR r ∧ post 0 (vp_updL f 0 (lI r)) T1) (fun cls T1 => (cls = "java/lang/IllegalStateException" ∧ post 1 f T1) ∨ (cls = "java/lang/IndexOutOfBoundsException" ∧ post 2 f T1)) mc0 ms0 v0 v1 T
set_option maxHeartbeats 4000000 in
set_option maxRecDepth 100000 in
theorem c_H_corners (l : Launch) (hfl : l.flags = pinnedFlags ++ [noTraceFlag]) {D : va_G} {k : CK} {post : Int → (Nat → Int64) → CS → Prop} {mc ms v0 : Nat} {v1 : Int} {T : CS} {kL : ClassId} {ho : Nat} {f : Nat → Int64} (hw : hx_corners post f mc ms v0 v1 T) : jH l D k y_H_corners method_17_code 4 [(0, 9, 12, 21), (0, 9, 15, 26)] 8 124 mc ms T kL ho f [.ref v0, vi v1, .ref ho] post := by
  obtain ⟨hg, hw⟩ := hw
  refine j_ho (by decide) rfl (Nat.le_of_ble_eq_true rfl) (fun X F K K2 E B hT hret => ?_)
  show jat l D X 4 0 [(0, .ref v0), (1, vi v1), (2, .ref ho)] [] (cwd k T ++ hwo ho kL f) 0 0
  refine j_aload_n F 2 d_H_corners_0 rfl ?_
  refine j_iconst F d_H_corners_1 ?_
  refine j_aload_n F 0 d_H_corners_2 rfl ?_
  refine j_iload_n F 1 d_H_corners_3 rfl ?_
  refine h_callV (rest := [vi 0, .ref ho]) F K E hT (c_BLB_corners l hfl hw) (tw_gV tq_676 tq_677 tq_678 tq_473 tq_679) hg q_BLB_corners rfl ⟨by decide, by decide⟩ ⟨by omega, by omega⟩ rfl (Nat.le_of_ble_eq_true rfl) d_H_corners_4 ?_ ?_
  · rintro ov T1 ⟨r, rfl, hi, hp⟩ hT1
    show jat l D X 4 7 [(0, .ref v0), (1, vi v1), (2, .ref ho)] [vi r, vi 0, .ref ho] (cwd k T1 ++ hwo ho kL f) (0 + mc) (0 + ms)
    refine j_i2l F hi d_H_corners_7 ?_
    refine h_last F K K2 d_H_corners_8 ?_
    refine j_goto F 18 d_H_corners_9 rfl ?_
    refine j_iconst F d_H_corners_18 ?_
    exact hret _ _ _ _ _ _ _ hp hT1 (by omega) (by omega) d_H_corners_19
  · rintro cls T1 x (⟨rfl, hp⟩ | ⟨rfl, hp⟩) hT1
    · refine h_catch (pre := []) (post := [(0, 9, 15, 26)]) (sp := 0) (ep := 9) (hp := 12) (ct := 21) F B rfl ⟨by decide, by decide⟩ (by decide) tq_626 (by decide) (fun y hy => by cases hy) ?_
      refine j_astore_n F [(3, .ref x), (0, .ref v0), (1, vi v1), (2, .ref ho)] d_H_corners_12 (by decide) rfl ?_
      refine j_iconst F d_H_corners_13 ?_
      exact hret _ _ _ _ _ _ _ hp hT1 (by omega) (by omega) d_H_corners_14
    · refine h_catch (pre := [(0, 9, 12, 21)]) (post := []) (sp := 0) (ep := 9) (hp := 15) (ct := 26) F B rfl ⟨by decide, by decide⟩ (by decide) tq_631 (by decide) (fun y hy => by
        simp only [List.mem_cons, List.not_mem_nil, or_false] at hy
        rcases hy with rfl
        · exact ⟨by decide, "java/lang/IllegalStateException", by decide, by decide, tq_626⟩) ?_
      refine j_astore_n F [(3, .ref x), (0, .ref v0), (1, vi v1), (2, .ref ho)] d_H_corners_15 (by decide) rfl ?_
      refine j_iconst F d_H_corners_16 ?_
      exact hret _ _ _ _ _ _ _ hp hT1 (by omega) (by omega) d_H_corners_17
theorem tq_680 : (Jvm.Cond.methodLink "LandBookLaw" (68 : Nat) ({ cls := "LandBook", name := "corner", desc := "(II)I" } : Jvm.MethodName)) ∈ tw_G := tw_in (List.mem_of_getElem? (i := 965) (by decide +kernel)) rfl
theorem tq_681 : (Jvm.Cond.instanceMethod ({ cls := "LandBook", name := "corner", desc := "(II)I" } : Jvm.MethodName)) ∈ tw_G := tw_in (List.mem_of_getElem? (i := 966) (by decide +kernel)) rfl
theorem tq_682 : (Jvm.Cond.selects "LandBook" ({ cls := "LandBook", name := "corner", desc := "(II)I" } : Jvm.MethodName) ({ cls := "LandBook", name := "corner", desc := "(II)I" } : Jvm.MethodName)) ∈ tw_G := tw_in (List.mem_of_getElem? (i := 967) (by decide +kernel)) rfl
theorem tq_683 : (Jvm.Cond.code ({ cls := "LandBook", name := "corner", desc := "(II)I" } : Jvm.MethodName) prog_1_method_17_code (4 : Nat) (Option.some Jvm.ClassFile.FieldType.int)) ∈ tw_G := tw_in (List.mem_of_getElem? (i := 968) (by decide +kernel)) rfl
abbrev y_H_corner : MethodName := ⟨"LandBookLaw", "corner", "(LLandBook;II[J)I"⟩
theorem q_H_corner : y_H_corner.cls ≠ "java/lang/invoke/MethodHandle" ∧ y_H_corner.cls ≠ "java/lang/invoke/VarHandle" ∧ (parseMethodDescriptor y_H_corner.desc).map (fun d => d.parameters.length) = some 4 := by decide +kernel
theorem d_H_corner_0 : decode method_18_code 0 = .ok (.aload_n 3, 1) := by decide +kernel
theorem d_H_corner_1 : decode method_18_code 1 = .ok (.iconst 0, 1) := by decide +kernel
theorem d_H_corner_2 : decode method_18_code 2 = .ok (.aload_n 0, 1) := by decide +kernel
theorem d_H_corner_3 : decode method_18_code 3 = .ok (.iload_n 1, 1) := by decide +kernel
theorem d_H_corner_4 : decode method_18_code 4 = .ok (.iload_n 2, 1) := by decide +kernel
theorem d_H_corner_5 : decode method_18_code 5 = .ok (.invokevirtual 68, 3) := by decide +kernel
theorem d_H_corner_8 : decode method_18_code 8 = .ok (.i2l, 1) := by decide +kernel
theorem d_H_corner_9 : decode method_18_code 9 = .ok (.lastore, 1) := by decide +kernel
theorem d_H_corner_10 : decode method_18_code 10 = .ok (.goto 11, 3) := by decide +kernel
theorem d_H_corner_21 : decode method_18_code 21 = .ok (.iconst 0, 1) := by decide +kernel
theorem d_H_corner_22 : decode method_18_code 22 = .ok (.ireturn, 1) := by decide +kernel
theorem d_H_corner_13 : decode method_18_code 13 = .ok (.astore 4, 2) := by decide +kernel
theorem d_H_corner_15 : decode method_18_code 15 = .ok (.iconst 1, 1) := by decide +kernel
theorem d_H_corner_16 : decode method_18_code 16 = .ok (.ireturn, 1) := by decide +kernel
theorem d_H_corner_17 : decode method_18_code 17 = .ok (.astore 4, 2) := by decide +kernel
theorem d_H_corner_19 : decode method_18_code 19 = .ok (.iconst 2, 1) := by decide +kernel
theorem d_H_corner_20 : decode method_18_code 20 = .ok (.ireturn, 1) := by decide +kernel
def hx_corner (post : Int → (Nat → Int64) → CS → Prop) (f : Nat → Int64) (mc0 ms0 v0 : Nat) (v1 : Int) (v2 : Int) (T : CS) : Prop := tg T v0 = 1 ∧ wp_BLB_corner (fun r T1 => inR r ∧ post 0 (vp_updL f 0 (lI r)) T1) (fun cls T1 => (cls = "java/lang/IllegalStateException" ∧ post 1 f T1) ∨ (cls = "java/lang/IndexOutOfBoundsException" ∧ post 2 f T1)) mc0 ms0 v0 v1 v2 T
set_option maxHeartbeats 4000000 in
set_option maxRecDepth 100000 in
theorem c_H_corner (l : Launch) (hfl : l.flags = pinnedFlags ++ [noTraceFlag]) {D : va_G} {k : CK} {post : Int → (Nat → Int64) → CS → Prop} {mc ms v0 : Nat} {v1 : Int} {v2 : Int} {T : CS} {kL : ClassId} {ho : Nat} {f : Nat → Int64} (hw : hx_corner post f mc ms v0 v1 v2 T) : jH l D k y_H_corner method_18_code 5 [(0, 10, 13, 21), (0, 10, 17, 26)] 8 126 mc ms T kL ho f [.ref v0, vi v1, vi v2, .ref ho] post := by
  obtain ⟨hg, hw⟩ := hw
  refine j_ho (by decide) rfl (Nat.le_of_ble_eq_true rfl) (fun X F K K2 E B hT hret => ?_)
  show jat l D X 5 0 [(0, .ref v0), (1, vi v1), (2, vi v2), (3, .ref ho)] [] (cwd k T ++ hwo ho kL f) 0 0
  refine j_aload_n F 3 d_H_corner_0 rfl ?_
  refine j_iconst F d_H_corner_1 ?_
  refine j_aload_n F 0 d_H_corner_2 rfl ?_
  refine j_iload_n F 1 d_H_corner_3 rfl ?_
  refine j_iload_n F 2 d_H_corner_4 rfl ?_
  refine h_callV (rest := [vi 0, .ref ho]) F K E hT (c_BLB_corner l hfl hw) (tw_gV tq_680 tq_681 tq_682 tq_473 tq_683) hg q_BLB_corner rfl ⟨by decide, by decide⟩ ⟨by omega, by omega⟩ rfl (Nat.le_of_ble_eq_true rfl) d_H_corner_5 ?_ ?_
  · rintro ov T1 ⟨r, rfl, hi, hp⟩ hT1
    show jat l D X 5 8 [(0, .ref v0), (1, vi v1), (2, vi v2), (3, .ref ho)] [vi r, vi 0, .ref ho] (cwd k T1 ++ hwo ho kL f) (0 + mc) (0 + ms)
    refine j_i2l F hi d_H_corner_8 ?_
    refine h_last F K K2 d_H_corner_9 ?_
    refine j_goto F 21 d_H_corner_10 rfl ?_
    refine j_iconst F d_H_corner_21 ?_
    exact hret _ _ _ _ _ _ _ hp hT1 (by omega) (by omega) d_H_corner_22
  · rintro cls T1 x (⟨rfl, hp⟩ | ⟨rfl, hp⟩) hT1
    · refine h_catch (pre := []) (post := [(0, 10, 17, 26)]) (sp := 0) (ep := 10) (hp := 13) (ct := 21) F B rfl ⟨by decide, by decide⟩ (by decide) tq_626 (by decide) (fun y hy => by cases hy) ?_
      refine j_astore F [(4, .ref x), (0, .ref v0), (1, vi v1), (2, vi v2), (3, .ref ho)] d_H_corner_13 (by decide) rfl ?_
      refine j_iconst F d_H_corner_15 ?_
      exact hret _ _ _ _ _ _ _ hp hT1 (by omega) (by omega) d_H_corner_16
    · refine h_catch (pre := [(0, 10, 13, 21)]) (post := []) (sp := 0) (ep := 10) (hp := 17) (ct := 26) F B rfl ⟨by decide, by decide⟩ (by decide) tq_631 (by decide) (fun y hy => by
        simp only [List.mem_cons, List.not_mem_nil, or_false] at hy
        rcases hy with rfl
        · exact ⟨by decide, "java/lang/IllegalStateException", by decide, by decide, tq_626⟩) ?_
      refine j_astore F [(4, .ref x), (0, .ref v0), (1, vi v1), (2, vi v2), (3, .ref ho)] d_H_corner_17 (by decide) rfl ?_
      refine j_iconst F d_H_corner_19 ?_
      exact hret _ _ _ _ _ _ _ hp hT1 (by omega) (by omega) d_H_corner_20
theorem tq_684 : (Jvm.Cond.methodLink "LandBookLaw" (71 : Nat) ({ cls := "LandBook", name := "many", desc := "(I)I" } : Jvm.MethodName)) ∈ tw_G := tw_in (List.mem_of_getElem? (i := 973) (by decide +kernel)) rfl
theorem tq_685 : (Jvm.Cond.instanceMethod ({ cls := "LandBook", name := "many", desc := "(I)I" } : Jvm.MethodName)) ∈ tw_G := tw_in (List.mem_of_getElem? (i := 974) (by decide +kernel)) rfl
theorem tq_686 : (Jvm.Cond.selects "LandBook" ({ cls := "LandBook", name := "many", desc := "(I)I" } : Jvm.MethodName) ({ cls := "LandBook", name := "many", desc := "(I)I" } : Jvm.MethodName)) ∈ tw_G := tw_in (List.mem_of_getElem? (i := 975) (by decide +kernel)) rfl
theorem tq_687 : (Jvm.Cond.code ({ cls := "LandBook", name := "many", desc := "(I)I" } : Jvm.MethodName) prog_1_method_18_code (2 : Nat) (Option.some Jvm.ClassFile.FieldType.int)) ∈ tw_G := tw_in (List.mem_of_getElem? (i := 976) (by decide +kernel)) rfl
abbrev y_H_many : MethodName := ⟨"LandBookLaw", "many", "(LLandBook;I[J)I"⟩
theorem q_H_many : y_H_many.cls ≠ "java/lang/invoke/MethodHandle" ∧ y_H_many.cls ≠ "java/lang/invoke/VarHandle" ∧ (parseMethodDescriptor y_H_many.desc).map (fun d => d.parameters.length) = some 3 := by decide +kernel
theorem d_H_many_0 : decode method_19_code 0 = .ok (.aload_n 2, 1) := by decide +kernel
theorem d_H_many_1 : decode method_19_code 1 = .ok (.iconst 0, 1) := by decide +kernel
theorem d_H_many_2 : decode method_19_code 2 = .ok (.aload_n 0, 1) := by decide +kernel
theorem d_H_many_3 : decode method_19_code 3 = .ok (.iload_n 1, 1) := by decide +kernel
theorem d_H_many_4 : decode method_19_code 4 = .ok (.invokevirtual 71, 3) := by decide +kernel
theorem d_H_many_7 : decode method_19_code 7 = .ok (.i2l, 1) := by decide +kernel
theorem d_H_many_8 : decode method_19_code 8 = .ok (.lastore, 1) := by decide +kernel
theorem d_H_many_9 : decode method_19_code 9 = .ok (.goto 6, 3) := by decide +kernel
theorem d_H_many_15 : decode method_19_code 15 = .ok (.iconst 0, 1) := by decide +kernel
theorem d_H_many_16 : decode method_19_code 16 = .ok (.ireturn, 1) := by decide +kernel
theorem d_H_many_12 : decode method_19_code 12 = .ok (.astore_n 3, 1) := by decide +kernel
theorem d_H_many_13 : decode method_19_code 13 = .ok (.iconst 1, 1) := by decide +kernel
theorem d_H_many_14 : decode method_19_code 14 = .ok (.ireturn, 1) := by decide +kernel
def hx_many (post : Int → (Nat → Int64) → CS → Prop) (f : Nat → Int64) (mc0 ms0 v0 : Nat) (v1 : Int) (T : CS) : Prop := tg T v0 = 1 ∧ wp_BLB_many (fun r T1 => inR r ∧ post 0 (vp_updL f 0 (lI r)) T1) (fun cls T1 => (cls = "java/lang/IndexOutOfBoundsException" ∧ post 1 f T1)) mc0 ms0 v0 v1 T
set_option maxHeartbeats 4000000 in
set_option maxRecDepth 100000 in
theorem c_H_many (l : Launch) (hfl : l.flags = pinnedFlags ++ [noTraceFlag]) {D : va_G} {k : CK} {post : Int → (Nat → Int64) → CS → Prop} {mc ms v0 : Nat} {v1 : Int} {T : CS} {kL : ClassId} {ho : Nat} {f : Nat → Int64} (hw : hx_many post f mc ms v0 v1 T) : jH l D k y_H_many method_19_code 4 [(0, 9, 12, 26)] 7 103 mc ms T kL ho f [.ref v0, vi v1, .ref ho] post := by
  obtain ⟨hg, hw⟩ := hw
  refine j_ho (by decide) rfl (Nat.le_of_ble_eq_true rfl) (fun X F K K2 E B hT hret => ?_)
  show jat l D X 4 0 [(0, .ref v0), (1, vi v1), (2, .ref ho)] [] (cwd k T ++ hwo ho kL f) 0 0
  refine j_aload_n F 2 d_H_many_0 rfl ?_
  refine j_iconst F d_H_many_1 ?_
  refine j_aload_n F 0 d_H_many_2 rfl ?_
  refine j_iload_n F 1 d_H_many_3 rfl ?_
  refine h_callV (rest := [vi 0, .ref ho]) F K E hT (c_BLB_many l hfl hw) (tw_gV tq_684 tq_685 tq_686 tq_473 tq_687) hg q_BLB_many rfl ⟨by decide, by decide⟩ ⟨by omega, by omega⟩ rfl (Nat.le_of_ble_eq_true rfl) d_H_many_4 ?_ ?_
  · rintro ov T1 ⟨r, rfl, hi, hp⟩ hT1
    show jat l D X 4 7 [(0, .ref v0), (1, vi v1), (2, .ref ho)] [vi r, vi 0, .ref ho] (cwd k T1 ++ hwo ho kL f) (0 + mc) (0 + ms)
    refine j_i2l F hi d_H_many_7 ?_
    refine h_last F K K2 d_H_many_8 ?_
    refine j_goto F 15 d_H_many_9 rfl ?_
    refine j_iconst F d_H_many_15 ?_
    exact hret _ _ _ _ _ _ _ hp hT1 (by omega) (by omega) d_H_many_16
  · rintro cls T1 x ⟨rfl, hp⟩ hT1
    · refine h_catch (pre := []) (post := []) (sp := 0) (ep := 9) (hp := 12) (ct := 26) F B rfl ⟨by decide, by decide⟩ (by decide) tq_631 (by decide) (fun y hy => by cases hy) ?_
      refine j_astore_n F [(3, .ref x), (0, .ref v0), (1, vi v1), (2, .ref ho)] d_H_many_12 (by decide) rfl ?_
      refine j_iconst F d_H_many_13 ?_
      exact hret _ _ _ _ _ _ _ hp hT1 (by omega) (by omega) d_H_many_14
theorem tq_688 : (Jvm.Cond.methodLink "LandBookLaw" (74 : Nat) ({ cls := "LandBook", name := "word", desc := "(I)I" } : Jvm.MethodName)) ∈ tw_G := tw_in (List.mem_of_getElem? (i := 981) (by decide +kernel)) rfl
theorem tq_689 : (Jvm.Cond.instanceMethod ({ cls := "LandBook", name := "word", desc := "(I)I" } : Jvm.MethodName)) ∈ tw_G := tw_in (List.mem_of_getElem? (i := 982) (by decide +kernel)) rfl
theorem tq_690 : (Jvm.Cond.selects "LandBook" ({ cls := "LandBook", name := "word", desc := "(I)I" } : Jvm.MethodName) ({ cls := "LandBook", name := "word", desc := "(I)I" } : Jvm.MethodName)) ∈ tw_G := tw_in (List.mem_of_getElem? (i := 983) (by decide +kernel)) rfl
theorem tq_691 : (Jvm.Cond.code ({ cls := "LandBook", name := "word", desc := "(I)I" } : Jvm.MethodName) prog_1_method_19_code (2 : Nat) (Option.some Jvm.ClassFile.FieldType.int)) ∈ tw_G := tw_in (List.mem_of_getElem? (i := 984) (by decide +kernel)) rfl
abbrev y_H_word : MethodName := ⟨"LandBookLaw", "word", "(LLandBook;I[J)I"⟩
theorem q_H_word : y_H_word.cls ≠ "java/lang/invoke/MethodHandle" ∧ y_H_word.cls ≠ "java/lang/invoke/VarHandle" ∧ (parseMethodDescriptor y_H_word.desc).map (fun d => d.parameters.length) = some 3 := by decide +kernel
theorem d_H_word_0 : decode method_20_code 0 = .ok (.aload_n 2, 1) := by decide +kernel
theorem d_H_word_1 : decode method_20_code 1 = .ok (.iconst 0, 1) := by decide +kernel
theorem d_H_word_2 : decode method_20_code 2 = .ok (.aload_n 0, 1) := by decide +kernel
theorem d_H_word_3 : decode method_20_code 3 = .ok (.iload_n 1, 1) := by decide +kernel
theorem d_H_word_4 : decode method_20_code 4 = .ok (.invokevirtual 74, 3) := by decide +kernel
theorem d_H_word_7 : decode method_20_code 7 = .ok (.i2l, 1) := by decide +kernel
theorem d_H_word_8 : decode method_20_code 8 = .ok (.lastore, 1) := by decide +kernel
theorem d_H_word_9 : decode method_20_code 9 = .ok (.goto 6, 3) := by decide +kernel
theorem d_H_word_15 : decode method_20_code 15 = .ok (.iconst 0, 1) := by decide +kernel
theorem d_H_word_16 : decode method_20_code 16 = .ok (.ireturn, 1) := by decide +kernel
theorem d_H_word_12 : decode method_20_code 12 = .ok (.astore_n 3, 1) := by decide +kernel
theorem d_H_word_13 : decode method_20_code 13 = .ok (.iconst 1, 1) := by decide +kernel
theorem d_H_word_14 : decode method_20_code 14 = .ok (.ireturn, 1) := by decide +kernel
def hx_word (post : Int → (Nat → Int64) → CS → Prop) (f : Nat → Int64) (mc0 ms0 v0 : Nat) (v1 : Int) (T : CS) : Prop := tg T v0 = 1 ∧ wp_BLB_word (fun r T1 => inR r ∧ post 0 (vp_updL f 0 (lI r)) T1) (fun cls T1 => (cls = "java/lang/IndexOutOfBoundsException" ∧ post 1 f T1)) mc0 ms0 v0 v1 T
set_option maxHeartbeats 4000000 in
set_option maxRecDepth 100000 in
theorem c_H_word (l : Launch) (hfl : l.flags = pinnedFlags ++ [noTraceFlag]) {D : va_G} {k : CK} {post : Int → (Nat → Int64) → CS → Prop} {mc ms v0 : Nat} {v1 : Int} {T : CS} {kL : ClassId} {ho : Nat} {f : Nat → Int64} (hw : hx_word post f mc ms v0 v1 T) : jH l D k y_H_word method_20_code 4 [(0, 9, 12, 26)] 7 103 mc ms T kL ho f [.ref v0, vi v1, .ref ho] post := by
  obtain ⟨hg, hw⟩ := hw
  refine j_ho (by decide) rfl (Nat.le_of_ble_eq_true rfl) (fun X F K K2 E B hT hret => ?_)
  show jat l D X 4 0 [(0, .ref v0), (1, vi v1), (2, .ref ho)] [] (cwd k T ++ hwo ho kL f) 0 0
  refine j_aload_n F 2 d_H_word_0 rfl ?_
  refine j_iconst F d_H_word_1 ?_
  refine j_aload_n F 0 d_H_word_2 rfl ?_
  refine j_iload_n F 1 d_H_word_3 rfl ?_
  refine h_callV (rest := [vi 0, .ref ho]) F K E hT (c_BLB_word l hfl hw) (tw_gV tq_688 tq_689 tq_690 tq_473 tq_691) hg q_BLB_word rfl ⟨by decide, by decide⟩ ⟨by omega, by omega⟩ rfl (Nat.le_of_ble_eq_true rfl) d_H_word_4 ?_ ?_
  · rintro ov T1 ⟨r, rfl, hi, hp⟩ hT1
    show jat l D X 4 7 [(0, .ref v0), (1, vi v1), (2, .ref ho)] [vi r, vi 0, .ref ho] (cwd k T1 ++ hwo ho kL f) (0 + mc) (0 + ms)
    refine j_i2l F hi d_H_word_7 ?_
    refine h_last F K K2 d_H_word_8 ?_
    refine j_goto F 15 d_H_word_9 rfl ?_
    refine j_iconst F d_H_word_15 ?_
    exact hret _ _ _ _ _ _ _ hp hT1 (by omega) (by omega) d_H_word_16
  · rintro cls T1 x ⟨rfl, hp⟩ hT1
    · refine h_catch (pre := []) (post := []) (sp := 0) (ep := 9) (hp := 12) (ct := 26) F B rfl ⟨by decide, by decide⟩ (by decide) tq_631 (by decide) (fun y hy => by cases hy) ?_
      refine j_astore_n F [(3, .ref x), (0, .ref v0), (1, vi v1), (2, .ref ho)] d_H_word_12 (by decide) rfl ?_
      refine j_iconst F d_H_word_13 ?_
      exact hret _ _ _ _ _ _ _ hp hT1 (by omega) (by omega) d_H_word_14
theorem tq_692 : (Jvm.Cond.methodLink "LandBookLaw" (77 : Nat) ({ cls := "LandBook", name := "sync", desc := "()I" } : Jvm.MethodName)) ∈ tw_G := tw_in (List.mem_of_getElem? (i := 993) (by decide +kernel)) rfl
theorem tq_693 : (Jvm.Cond.instanceMethod ({ cls := "LandBook", name := "sync", desc := "()I" } : Jvm.MethodName)) ∈ tw_G := tw_in (List.mem_of_getElem? (i := 994) (by decide +kernel)) rfl
theorem tq_694 : (Jvm.Cond.selects "LandBook" ({ cls := "LandBook", name := "sync", desc := "()I" } : Jvm.MethodName) ({ cls := "LandBook", name := "sync", desc := "()I" } : Jvm.MethodName)) ∈ tw_G := tw_in (List.mem_of_getElem? (i := 995) (by decide +kernel)) rfl
theorem tq_695 : (Jvm.Cond.code ({ cls := "LandBook", name := "sync", desc := "()I" } : Jvm.MethodName) prog_1_method_20_code (2 : Nat) (Option.some Jvm.ClassFile.FieldType.int)) ∈ tw_G := tw_in (List.mem_of_getElem? (i := 996) (by decide +kernel)) rfl
abbrev y_H_sync : MethodName := ⟨"LandBookLaw", "sync", "(LLandBook;[J)I"⟩
theorem q_H_sync : y_H_sync.cls ≠ "java/lang/invoke/MethodHandle" ∧ y_H_sync.cls ≠ "java/lang/invoke/VarHandle" ∧ (parseMethodDescriptor y_H_sync.desc).map (fun d => d.parameters.length) = some 2 := by decide +kernel
theorem d_H_sync_0 : decode method_21_code 0 = .ok (.aload_n 1, 1) := by decide +kernel
theorem d_H_sync_1 : decode method_21_code 1 = .ok (.iconst 0, 1) := by decide +kernel
theorem d_H_sync_2 : decode method_21_code 2 = .ok (.aload_n 0, 1) := by decide +kernel
theorem d_H_sync_3 : decode method_21_code 3 = .ok (.invokevirtual 77, 3) := by decide +kernel
theorem d_H_sync_6 : decode method_21_code 6 = .ok (.i2l, 1) := by decide +kernel
theorem d_H_sync_7 : decode method_21_code 7 = .ok (.lastore, 1) := by decide +kernel
theorem d_H_sync_8 : decode method_21_code 8 = .ok (.goto 6, 3) := by decide +kernel
theorem d_H_sync_14 : decode method_21_code 14 = .ok (.iconst 0, 1) := by decide +kernel
theorem d_H_sync_15 : decode method_21_code 15 = .ok (.ireturn, 1) := by decide +kernel
theorem d_H_sync_11 : decode method_21_code 11 = .ok (.astore_n 2, 1) := by decide +kernel
theorem d_H_sync_12 : decode method_21_code 12 = .ok (.iconst 1, 1) := by decide +kernel
theorem d_H_sync_13 : decode method_21_code 13 = .ok (.ireturn, 1) := by decide +kernel
def hx_sync (post : Int → (Nat → Int64) → CS → Prop) (f : Nat → Int64) (mc0 ms0 v0 : Nat)  (T : CS) : Prop := tg T v0 = 1 ∧ wp_BLB_sync (fun r T1 => inR r ∧ post 0 (vp_updL f 0 (lI r)) T1) (fun cls T1 => (cls = "java/lang/IllegalStateException" ∧ post 1 f T1)) mc0 ms0 v0  T
set_option maxHeartbeats 4000000 in
set_option maxRecDepth 100000 in
theorem c_H_sync (l : Launch) (hfl : l.flags = pinnedFlags ++ [noTraceFlag]) {D : va_G} {k : CK} {post : Int → (Nat → Int64) → CS → Prop} {mc ms v0 : Nat}  {T : CS} {kL : ClassId} {ho : Nat} {f : Nat → Int64} (hw : hx_sync post f mc ms v0  T) : jH l D k y_H_sync method_21_code 3 [(0, 8, 11, 21)] 8 123 mc ms T kL ho f [.ref v0, .ref ho] post := by
  obtain ⟨hg, hw⟩ := hw
  refine j_ho (by decide) rfl (Nat.le_of_ble_eq_true rfl) (fun X F K K2 E B hT hret => ?_)
  show jat l D X 3 0 [(0, .ref v0), (1, .ref ho)] [] (cwd k T ++ hwo ho kL f) 0 0
  refine j_aload_n F 1 d_H_sync_0 rfl ?_
  refine j_iconst F d_H_sync_1 ?_
  refine j_aload_n F 0 d_H_sync_2 rfl ?_
  refine h_callV (rest := [vi 0, .ref ho]) F K E hT (c_BLB_sync l hfl hw) (tw_gV tq_692 tq_693 tq_694 tq_473 tq_695) hg q_BLB_sync rfl ⟨by decide, by decide⟩ ⟨by omega, by omega⟩ rfl (Nat.le_of_ble_eq_true rfl) d_H_sync_3 ?_ ?_
  · rintro ov T1 ⟨r, rfl, hi, hp⟩ hT1
    show jat l D X 3 6 [(0, .ref v0), (1, .ref ho)] [vi r, vi 0, .ref ho] (cwd k T1 ++ hwo ho kL f) (0 + mc) (0 + ms)
    refine j_i2l F hi d_H_sync_6 ?_
    refine h_last F K K2 d_H_sync_7 ?_
    refine j_goto F 14 d_H_sync_8 rfl ?_
    refine j_iconst F d_H_sync_14 ?_
    exact hret _ _ _ _ _ _ _ hp hT1 (by omega) (by omega) d_H_sync_15
  · rintro cls T1 x ⟨rfl, hp⟩ hT1
    · refine h_catch (pre := []) (post := []) (sp := 0) (ep := 8) (hp := 11) (ct := 21) F B rfl ⟨by decide, by decide⟩ (by decide) tq_626 (by decide) (fun y hy => by cases hy) ?_
      refine j_astore_n F [(2, .ref x), (0, .ref v0), (1, .ref ho)] d_H_sync_11 (by decide) rfl ?_
      refine j_iconst F d_H_sync_12 ?_
      exact hret _ _ _ _ _ _ _ hp hT1 (by omega) (by omega) d_H_sync_13
theorem tq_696 : (Jvm.Cond.methodLink "LandBookLaw" (81 : Nat) ({ cls := "LandBook", name := "crash", desc := "(I)I" } : Jvm.MethodName)) ∈ tw_G := tw_in (List.mem_of_getElem? (i := 1004) (by decide +kernel)) rfl
theorem tq_697 : (Jvm.Cond.instanceMethod ({ cls := "LandBook", name := "crash", desc := "(I)I" } : Jvm.MethodName)) ∈ tw_G := tw_in (List.mem_of_getElem? (i := 1005) (by decide +kernel)) rfl
theorem tq_698 : (Jvm.Cond.selects "LandBook" ({ cls := "LandBook", name := "crash", desc := "(I)I" } : Jvm.MethodName) ({ cls := "LandBook", name := "crash", desc := "(I)I" } : Jvm.MethodName)) ∈ tw_G := tw_in (List.mem_of_getElem? (i := 1006) (by decide +kernel)) rfl
theorem tq_699 : (Jvm.Cond.code ({ cls := "LandBook", name := "crash", desc := "(I)I" } : Jvm.MethodName) prog_1_method_21_code (2 : Nat) (Option.some Jvm.ClassFile.FieldType.int)) ∈ tw_G := tw_in (List.mem_of_getElem? (i := 1007) (by decide +kernel)) rfl
abbrev y_H_crash : MethodName := ⟨"LandBookLaw", "crash", "(LLandBook;I[J)I"⟩
theorem q_H_crash : y_H_crash.cls ≠ "java/lang/invoke/MethodHandle" ∧ y_H_crash.cls ≠ "java/lang/invoke/VarHandle" ∧ (parseMethodDescriptor y_H_crash.desc).map (fun d => d.parameters.length) = some 3 := by decide +kernel
theorem d_H_crash_0 : decode method_22_code 0 = .ok (.aload_n 2, 1) := by decide +kernel
theorem d_H_crash_1 : decode method_22_code 1 = .ok (.iconst 0, 1) := by decide +kernel
theorem d_H_crash_2 : decode method_22_code 2 = .ok (.aload_n 0, 1) := by decide +kernel
theorem d_H_crash_3 : decode method_22_code 3 = .ok (.iload_n 1, 1) := by decide +kernel
theorem d_H_crash_4 : decode method_22_code 4 = .ok (.invokevirtual 81, 3) := by decide +kernel
theorem d_H_crash_7 : decode method_22_code 7 = .ok (.i2l, 1) := by decide +kernel
theorem d_H_crash_8 : decode method_22_code 8 = .ok (.lastore, 1) := by decide +kernel
theorem d_H_crash_9 : decode method_22_code 9 = .ok (.goto 9, 3) := by decide +kernel
theorem d_H_crash_18 : decode method_22_code 18 = .ok (.iconst 0, 1) := by decide +kernel
theorem d_H_crash_19 : decode method_22_code 19 = .ok (.ireturn, 1) := by decide +kernel
theorem d_H_crash_12 : decode method_22_code 12 = .ok (.astore_n 3, 1) := by decide +kernel
theorem d_H_crash_13 : decode method_22_code 13 = .ok (.iconst 1, 1) := by decide +kernel
theorem d_H_crash_14 : decode method_22_code 14 = .ok (.ireturn, 1) := by decide +kernel
theorem d_H_crash_15 : decode method_22_code 15 = .ok (.astore_n 3, 1) := by decide +kernel
theorem d_H_crash_16 : decode method_22_code 16 = .ok (.iconst 2, 1) := by decide +kernel
theorem d_H_crash_17 : decode method_22_code 17 = .ok (.ireturn, 1) := by decide +kernel
def hx_crash (post : Int → (Nat → Int64) → CS → Prop) (f : Nat → Int64) (mc0 ms0 v0 : Nat) (v1 : Int) (T : CS) : Prop := tg T v0 = 1 ∧ wp_BLB_crash (fun r T1 => inR r ∧ post 0 (vp_updL f 0 (lI r)) T1) (fun cls T1 => (cls = "java/lang/IllegalStateException" ∧ post 1 f T1) ∨ (cls = "java/lang/IllegalArgumentException" ∧ post 2 f T1)) mc0 ms0 v0 v1 T
set_option maxHeartbeats 4000000 in
set_option maxRecDepth 100000 in
theorem c_H_crash (l : Launch) (hfl : l.flags = pinnedFlags ++ [noTraceFlag]) {D : va_G} {k : CK} {post : Int → (Nat → Int64) → CS → Prop} {mc ms v0 : Nat} {v1 : Int} {T : CS} {kL : ClassId} {ho : Nat} {f : Nat → Int64} (hw : hx_crash post f mc ms v0 v1 T) : jH l D k y_H_crash method_22_code 4 [(0, 9, 12, 21), (0, 9, 15, 13)] 8 123 mc ms T kL ho f [.ref v0, vi v1, .ref ho] post := by
  obtain ⟨hg, hw⟩ := hw
  refine j_ho (by decide) rfl (Nat.le_of_ble_eq_true rfl) (fun X F K K2 E B hT hret => ?_)
  show jat l D X 4 0 [(0, .ref v0), (1, vi v1), (2, .ref ho)] [] (cwd k T ++ hwo ho kL f) 0 0
  refine j_aload_n F 2 d_H_crash_0 rfl ?_
  refine j_iconst F d_H_crash_1 ?_
  refine j_aload_n F 0 d_H_crash_2 rfl ?_
  refine j_iload_n F 1 d_H_crash_3 rfl ?_
  refine h_callV (rest := [vi 0, .ref ho]) F K E hT (c_BLB_crash l hfl hw) (tw_gV tq_696 tq_697 tq_698 tq_473 tq_699) hg q_BLB_crash rfl ⟨by decide, by decide⟩ ⟨by omega, by omega⟩ rfl (Nat.le_of_ble_eq_true rfl) d_H_crash_4 ?_ ?_
  · rintro ov T1 ⟨r, rfl, hi, hp⟩ hT1
    show jat l D X 4 7 [(0, .ref v0), (1, vi v1), (2, .ref ho)] [vi r, vi 0, .ref ho] (cwd k T1 ++ hwo ho kL f) (0 + mc) (0 + ms)
    refine j_i2l F hi d_H_crash_7 ?_
    refine h_last F K K2 d_H_crash_8 ?_
    refine j_goto F 18 d_H_crash_9 rfl ?_
    refine j_iconst F d_H_crash_18 ?_
    exact hret _ _ _ _ _ _ _ hp hT1 (by omega) (by omega) d_H_crash_19
  · rintro cls T1 x (⟨rfl, hp⟩ | ⟨rfl, hp⟩) hT1
    · refine h_catch (pre := []) (post := [(0, 9, 15, 13)]) (sp := 0) (ep := 9) (hp := 12) (ct := 21) F B rfl ⟨by decide, by decide⟩ (by decide) tq_626 (by decide) (fun y hy => by cases hy) ?_
      refine j_astore_n F [(3, .ref x), (0, .ref v0), (1, vi v1), (2, .ref ho)] d_H_crash_12 (by decide) rfl ?_
      refine j_iconst F d_H_crash_13 ?_
      exact hret _ _ _ _ _ _ _ hp hT1 (by omega) (by omega) d_H_crash_14
    · refine h_catch (pre := [(0, 9, 12, 21)]) (post := []) (sp := 0) (ep := 9) (hp := 15) (ct := 13) F B rfl ⟨by decide, by decide⟩ (by decide) tq_620 (by decide) (fun y hy => by
        simp only [List.mem_cons, List.not_mem_nil, or_false] at hy
        rcases hy with rfl
        · exact ⟨by decide, "java/lang/IllegalStateException", by decide, by decide, tq_626⟩) ?_
      refine j_astore_n F [(3, .ref x), (0, .ref v0), (1, vi v1), (2, .ref ho)] d_H_crash_15 (by decide) rfl ?_
      refine j_iconst F d_H_crash_16 ?_
      exact hret _ _ _ _ _ _ _ hp hT1 (by omega) (by omega) d_H_crash_17
theorem tq_700 : (Jvm.Cond.methodLink "LandBookLaw" (84 : Nat) ({ cls := "LandBook", name := "mount", desc := "()I" } : Jvm.MethodName)) ∈ tw_G := tw_in (List.mem_of_getElem? (i := 1017) (by decide +kernel)) rfl
theorem tq_701 : (Jvm.Cond.instanceMethod ({ cls := "LandBook", name := "mount", desc := "()I" } : Jvm.MethodName)) ∈ tw_G := tw_in (List.mem_of_getElem? (i := 1018) (by decide +kernel)) rfl
theorem tq_702 : (Jvm.Cond.selects "LandBook" ({ cls := "LandBook", name := "mount", desc := "()I" } : Jvm.MethodName) ({ cls := "LandBook", name := "mount", desc := "()I" } : Jvm.MethodName)) ∈ tw_G := tw_in (List.mem_of_getElem? (i := 1019) (by decide +kernel)) rfl
theorem tq_703 : (Jvm.Cond.code ({ cls := "LandBook", name := "mount", desc := "()I" } : Jvm.MethodName) prog_1_method_22_code (4 : Nat) (Option.some Jvm.ClassFile.FieldType.int)) ∈ tw_G := tw_in (List.mem_of_getElem? (i := 1020) (by decide +kernel)) rfl
abbrev y_H_mount : MethodName := ⟨"LandBookLaw", "mount", "(LLandBook;[J)I"⟩
theorem q_H_mount : y_H_mount.cls ≠ "java/lang/invoke/MethodHandle" ∧ y_H_mount.cls ≠ "java/lang/invoke/VarHandle" ∧ (parseMethodDescriptor y_H_mount.desc).map (fun d => d.parameters.length) = some 2 := by decide +kernel
theorem d_H_mount_0 : decode method_23_code 0 = .ok (.aload_n 1, 1) := by decide +kernel
theorem d_H_mount_1 : decode method_23_code 1 = .ok (.iconst 0, 1) := by decide +kernel
theorem d_H_mount_2 : decode method_23_code 2 = .ok (.aload_n 0, 1) := by decide +kernel
theorem d_H_mount_3 : decode method_23_code 3 = .ok (.invokevirtual 84, 3) := by decide +kernel
theorem d_H_mount_6 : decode method_23_code 6 = .ok (.i2l, 1) := by decide +kernel
theorem d_H_mount_7 : decode method_23_code 7 = .ok (.lastore, 1) := by decide +kernel
theorem d_H_mount_8 : decode method_23_code 8 = .ok (.goto 9, 3) := by decide +kernel
theorem d_H_mount_17 : decode method_23_code 17 = .ok (.iconst 0, 1) := by decide +kernel
theorem d_H_mount_18 : decode method_23_code 18 = .ok (.ireturn, 1) := by decide +kernel
theorem d_H_mount_11 : decode method_23_code 11 = .ok (.astore_n 2, 1) := by decide +kernel
theorem d_H_mount_12 : decode method_23_code 12 = .ok (.iconst 1, 1) := by decide +kernel
theorem d_H_mount_13 : decode method_23_code 13 = .ok (.ireturn, 1) := by decide +kernel
theorem d_H_mount_14 : decode method_23_code 14 = .ok (.astore_n 2, 1) := by decide +kernel
theorem d_H_mount_15 : decode method_23_code 15 = .ok (.iconst 2, 1) := by decide +kernel
theorem d_H_mount_16 : decode method_23_code 16 = .ok (.ireturn, 1) := by decide +kernel
def hx_mount (post : Int → (Nat → Int64) → CS → Prop) (f : Nat → Int64) (mc0 ms0 v0 : Nat)  (T : CS) : Prop := tg T v0 = 1 ∧ wp_BLB_mount (fun r T1 => inR r ∧ post 0 (vp_updL f 0 (lI r)) T1) (fun cls T1 => (cls = "java/lang/IllegalStateException" ∧ post 1 f T1) ∨ (cls = "java/lang/UnsupportedOperationException" ∧ post 2 f T1)) mc0 ms0 v0  T
set_option maxHeartbeats 4000000 in
set_option maxRecDepth 100000 in
theorem c_H_mount (l : Launch) (hfl : l.flags = pinnedFlags ++ [noTraceFlag]) {D : va_G} {k : CK} {post : Int → (Nat → Int64) → CS → Prop} {mc ms v0 : Nat}  {T : CS} {kL : ClassId} {ho : Nat} {f : Nat → Int64} (hw : hx_mount post f mc ms v0  T) : jH l D k y_H_mount method_23_code 3 [(0, 8, 11, 21), (0, 8, 14, 15)] 7 151 mc ms T kL ho f [.ref v0, .ref ho] post := by
  obtain ⟨hg, hw⟩ := hw
  refine j_ho (by decide) rfl (Nat.le_of_ble_eq_true rfl) (fun X F K K2 E B hT hret => ?_)
  show jat l D X 3 0 [(0, .ref v0), (1, .ref ho)] [] (cwd k T ++ hwo ho kL f) 0 0
  refine j_aload_n F 1 d_H_mount_0 rfl ?_
  refine j_iconst F d_H_mount_1 ?_
  refine j_aload_n F 0 d_H_mount_2 rfl ?_
  refine h_callV (rest := [vi 0, .ref ho]) F K E hT (c_BLB_mount l hfl hw) (tw_gV tq_700 tq_701 tq_702 tq_473 tq_703) hg q_BLB_mount rfl ⟨by decide, by decide⟩ ⟨by omega, by omega⟩ rfl (Nat.le_of_ble_eq_true rfl) d_H_mount_3 ?_ ?_
  · rintro ov T1 ⟨r, rfl, hi, hp⟩ hT1
    show jat l D X 3 6 [(0, .ref v0), (1, .ref ho)] [vi r, vi 0, .ref ho] (cwd k T1 ++ hwo ho kL f) (0 + mc) (0 + ms)
    refine j_i2l F hi d_H_mount_6 ?_
    refine h_last F K K2 d_H_mount_7 ?_
    refine j_goto F 17 d_H_mount_8 rfl ?_
    refine j_iconst F d_H_mount_17 ?_
    exact hret _ _ _ _ _ _ _ hp hT1 (by omega) (by omega) d_H_mount_18
  · rintro cls T1 x (⟨rfl, hp⟩ | ⟨rfl, hp⟩) hT1
    · refine h_catch (pre := []) (post := [(0, 8, 14, 15)]) (sp := 0) (ep := 8) (hp := 11) (ct := 21) F B rfl ⟨by decide, by decide⟩ (by decide) tq_626 (by decide) (fun y hy => by cases hy) ?_
      refine j_astore_n F [(2, .ref x), (0, .ref v0), (1, .ref ho)] d_H_mount_11 (by decide) rfl ?_
      refine j_iconst F d_H_mount_12 ?_
      exact hret _ _ _ _ _ _ _ hp hT1 (by omega) (by omega) d_H_mount_13
    · refine h_catch (pre := [(0, 8, 11, 21)]) (post := []) (sp := 0) (ep := 8) (hp := 14) (ct := 15) F B rfl ⟨by decide, by decide⟩ (by decide) tq_621 (by decide) (fun y hy => by
        simp only [List.mem_cons, List.not_mem_nil, or_false] at hy
        rcases hy with rfl
        · exact ⟨by decide, "java/lang/IllegalStateException", by decide, by decide, tq_626⟩) ?_
      refine j_astore_n F [(2, .ref x), (0, .ref v0), (1, .ref ho)] d_H_mount_14 (by decide) rfl ?_
      refine j_iconst F d_H_mount_15 ?_
      exact hret _ _ _ _ _ _ _ hp hT1 (by omega) (by omega) d_H_mount_16
