theorem tq_197 : (Jvm.Cond.fieldLink "LandBook$Joiner" (41 : Nat) "LandBook$Points" "size" "I") ∈ tw_G := tw_in (List.mem_of_getElem? (i := 108) (by decide +kernel)) rfl
theorem tq_198 : (Jvm.Cond.methodLink "LandBook$Joiner" (52 : Nat) ({ cls := "LandBook$Points", name := "at", desc := "(I)I" } : Jvm.MethodName)) ∈ tw_G := tw_in (List.mem_of_getElem? (i := 795) (by decide +kernel)) rfl
theorem tq_199 : (Jvm.Cond.methodLink "LandBook$Joiner" (69 : Nat) ({ cls := "LandBook$Plane", name := "lies", desc := "(III)Z" } : Jvm.MethodName)) ∈ tw_G := tw_in (List.mem_of_getElem? (i := 800) (by decide +kernel)) rfl
abbrev y_BJo_nearest : MethodName := ⟨"LandBook$Joiner", "nearest", "(LLandBook$Points;II)I"⟩
theorem q_BJo_nearest : y_BJo_nearest.cls ≠ "java/lang/invoke/MethodHandle" ∧ y_BJo_nearest.cls ≠ "java/lang/invoke/VarHandle" ∧ (parseMethodDescriptor y_BJo_nearest.desc).map (fun d => d.parameters.length) = some 3 := by decide +kernel
theorem d_BJo_nearest_0 : decode prog_5_method_4_code 0 = .ok (.iload_n 2, 1) := by decide +kernel
theorem d_BJo_nearest_1 : decode prog_5_method_4_code 1 = .ok (.istore_n 3, 1) := by decide +kernel
theorem d_BJo_nearest_2 : decode prog_5_method_4_code 2 = .ok (.iconst 0, 1) := by decide +kernel
theorem d_BJo_nearest_3 : decode prog_5_method_4_code 3 = .ok (.istore 4, 2) := by decide +kernel
theorem d_BJo_nearest_5 : decode prog_5_method_4_code 5 = .ok (.iload 4, 2) := by decide +kernel
theorem d_BJo_nearest_7 : decode prog_5_method_4_code 7 = .ok (.aload_n 0, 1) := by decide +kernel
theorem d_BJo_nearest_8 : decode prog_5_method_4_code 8 = .ok (.getfield 41, 3) := by decide +kernel
theorem d_BJo_nearest_11 : decode prog_5_method_4_code 11 = .ok (.if_icmp .ge 36, 3) := by decide +kernel
theorem d_BJo_nearest_47 : decode prog_5_method_4_code 47 = .ok (.iload_n 3, 1) := by decide +kernel
theorem d_BJo_nearest_48 : decode prog_5_method_4_code 48 = .ok (.ireturn, 1) := by decide +kernel
theorem d_BJo_nearest_14 : decode prog_5_method_4_code 14 = .ok (.aload_n 0, 1) := by decide +kernel
theorem d_BJo_nearest_15 : decode prog_5_method_4_code 15 = .ok (.iload 4, 2) := by decide +kernel
theorem d_BJo_nearest_17 : decode prog_5_method_4_code 17 = .ok (.invokevirtual 52, 3) := by decide +kernel
theorem d_BJo_nearest_20 : decode prog_5_method_4_code 20 = .ok (.istore 5, 2) := by decide +kernel
theorem d_BJo_nearest_22 : decode prog_5_method_4_code 22 = .ok (.iload 5, 2) := by decide +kernel
theorem d_BJo_nearest_24 : decode prog_5_method_4_code 24 = .ok (.iload_n 1, 1) := by decide +kernel
theorem d_BJo_nearest_25 : decode prog_5_method_4_code 25 = .ok (.if_icmp .eq 16, 3) := by decide +kernel
theorem d_BJo_nearest_28 : decode prog_5_method_4_code 28 = .ok (.iload 5, 2) := by decide +kernel
theorem d_BJo_nearest_30 : decode prog_5_method_4_code 30 = .ok (.iload_n 1, 1) := by decide +kernel
theorem d_BJo_nearest_31 : decode prog_5_method_4_code 31 = .ok (.iload_n 3, 1) := by decide +kernel
theorem d_BJo_nearest_32 : decode prog_5_method_4_code 32 = .ok (.invokestatic 69, 3) := by decide +kernel
theorem d_BJo_nearest_35 : decode prog_5_method_4_code 35 = .ok (.ifCond .eq 6, 3) := by decide +kernel
theorem d_BJo_nearest_38 : decode prog_5_method_4_code 38 = .ok (.iload 5, 2) := by decide +kernel
theorem d_BJo_nearest_40 : decode prog_5_method_4_code 40 = .ok (.istore_n 3, 1) := by decide +kernel
theorem d_BJo_nearest_41 : decode prog_5_method_4_code 41 = .ok (.iinc 4 1, 3) := by decide +kernel
theorem d_BJo_nearest_44 : decode prog_5_method_4_code 44 = .ok (.goto (-39), 3) := by decide +kernel
def wp_BJo_nearest_41 (post : Int → CS → Prop) (k5 : Nat → Int → Int → Int → CS → Prop) (v0 : Nat) (v1 : Int) (v3 : Int) (v4 : Int) (T : CS) : Prop := k5 v0 v1 v3 (v4 + 1) T
def wp_BJo_nearest_5 (post : Int → CS → Prop) : Nat → Nat → Int → Int → Int → CS → Prop
  | 0, _, _, _, _, _ => False
  | n + 1, v0, v1, v3, v4, T => tg T v0 = 2 ∧ (inR v4 ∧ inR (fi T v0 1) ∧ ((fi T v0 1) ≤ v4 → post v3 T) ∧ (¬ ((fi T v0 1) ≤ v4) → (tg T v0 = 2 ∧ wp_BPt_at (fun r_2 T_1 => inR r_2 ∧ inR v1 ∧ (r_2 = v1 → wp_BJo_nearest_41 post (wp_BJo_nearest_5 post n) v0 v1 v3 v4 T_1) ∧ (¬ (r_2 = v1) → (wp_BPl_lies (fun r_3 => inR r_3 ∧ (r_3 = 0 → wp_BJo_nearest_41 post (wp_BJo_nearest_5 post n) v0 v1 v3 v4 T_1) ∧ (¬ (r_3 = 0) → wp_BJo_nearest_41 post (wp_BJo_nearest_5 post n) v0 v1 r_2 v4 T_1)) r_2 v1 v3))) v0 v4 T)))
def wp_BJo_nearest (post : Int → CS → Prop) (v0 : Nat) (v1 : Int) (v2 : Int) (T : CS) : Prop := ∃ nn : Nat, wp_BJo_nearest_5 post nn v0 v1 v2 0 T
set_option maxHeartbeats 4000000 in
set_option maxRecDepth 100000 in
theorem c_BJo_nearest (l : Launch) {D : va_G} {k : CK} {post : Int → CS → Prop} {v0 : Nat} {v1 : Int} {v2 : Int} {T : CS} (hw : wp_BJo_nearest post v0 v1 v2 T) : jCi l D k y_BJo_nearest prog_5_method_4_code 6 (some .int) 3 64 0 0 T [.ref v0, vi v1, vi v2] post := by
  refine j_coi (own := "LandBook$Joiner") (by decide) rfl (Nat.le_of_ble_eq_true rfl) (fun X F K hT hret => ?_)
  have B5 : ∀ (nn : Nat) (v0 : Nat) (v1 : Int) (v3 : Int) (v4 : Int) (T : CS), cs_ok k T → wp_BJo_nearest_5 post nn v0 v1 v3 v4 T → jat l D X 6 5 [(0, .ref v0), (1, vi v1), (3, vi v3), (4, vi v4)] [] (cwd k T) 0 0 := by
    intro nn
    induction nn with
    | zero => intro v0 v1 v3 v4 T hT hw; exact hw.elim
    | succ n5 ih5 =>
      have B41 : ∀ (v0 : Nat) (v1 : Int) (v3 : Int) (v4 : Int) (T : CS), cs_ok k T → wp_BJo_nearest_41 post (wp_BJo_nearest_5 post n5) v0 v1 v3 v4 T → jat l D X 6 41 [(0, .ref v0), (1, vi v1), (3, vi v3), (4, vi v4)] [] (cwd k T) 0 0 := by
        intro v0 v1 v3 v4 T hT hw
        unfold wp_BJo_nearest_41 at hw
        refine j_iinc F 3 [(4, vi (v4 + 1)), (0, .ref v0), (1, vi v1), (3, vi v3)] d_BJo_nearest_41 rfl (by decide) rfl ?_
        refine j_goto F 5 d_BJo_nearest_44 rfl ?_
        refine j_sub [1, 2, 3, 0] rfl ?_
        exact ih5 _ _ _ _ _ hT hw
      intro v0 v1 v3 v4 T hT hw
      unfold wp_BJo_nearest_5 at hw
      refine j_iload F 3 d_BJo_nearest_5 rfl ?_
      refine j_aload_n F 0 d_BJo_nearest_7 rfl ?_
      obtain ⟨hc1, hw⟩ := hw
      refine c_geti F K hT 2 1 rfl tu_Points (by decide) (by decide) rfl tq_197 (Or.inl rfl) hc1 d_BJo_nearest_8 ?_
      obtain ⟨hc1, hc2, hwt, hwf⟩ := hw
      refine j_icmp_ge F 47 hc1 hc2 d_BJo_nearest_11 rfl (fun hh => ?_) (fun hh => ?_)
      · have hw := hwt hh
        refine j_iload_n F 2 d_BJo_nearest_47 rfl ?_
        exact hret _ _ _ _ _ _ hw hT (by omega) (by omega) d_BJo_nearest_48
      · have hw := hwf hh
        refine j_aload_n F 0 d_BJo_nearest_14 rfl ?_
        refine j_iload F 3 d_BJo_nearest_15 rfl ?_
        obtain ⟨hg1, hw⟩ := hw
        refine c_callVi F K hT (c_BPt_at l hw) (tw_gV tq_198 tq_136 tq_137 tq_126 tq_138) 2 rfl (by decide) hg1 q_BPt_at rfl ⟨by decide, by decide⟩ ⟨by omega, by omega⟩ rfl (Nat.le_of_ble_eq_true rfl) d_BJo_nearest_17 (fun r_2 T_1 hw hT => ?_)
        refine j_istore F [(5, vi r_2), (0, .ref v0), (1, vi v1), (3, vi v3), (4, vi v4)] d_BJo_nearest_20 (by decide) rfl ?_
        refine j_iload F 0 d_BJo_nearest_22 rfl ?_
        refine j_iload_n F 2 d_BJo_nearest_24 rfl ?_
        obtain ⟨hc1, hc2, hwt, hwf⟩ := hw
        refine j_icmp_eq F 41 hc1 hc2 d_BJo_nearest_25 rfl (fun hh => ?_) (fun hh => ?_)
        · have hw := hwt hh
          refine j_sub [1, 2, 3, 4] rfl ?_
          exact B41 _ _ _ _ _ hT hw
        · have hw := hwf hh
          refine j_iload F 0 d_BJo_nearest_28 rfl ?_
          refine j_iload_n F 2 d_BJo_nearest_30 rfl ?_
          refine j_iload_n F 3 d_BJo_nearest_31 rfl ?_
          refine j_callS F (c_BPl_lies l hw) (tw_gS tq_199 tq_158 tq_88 tq_159) q_BPl_lies rfl ⟨by decide, by decide⟩ ⟨by omega, by omega⟩ rfl (Nat.le_of_ble_eq_true rfl) d_BJo_nearest_32 (fun r_3 hw => ?_)
          obtain ⟨hc1, hwt, hwf⟩ := hw
          refine j_if_eq F 41 hc1 d_BJo_nearest_35 rfl (fun hh => ?_) (fun hh => ?_)
          · have hw := hwt hh
            refine j_sub [1, 2, 3, 4] rfl ?_
            exact B41 _ _ _ _ _ hT hw
          · have hw := hwf hh
            refine j_iload F 0 d_BJo_nearest_38 rfl ?_
            refine j_istore_n F [(3, vi r_2), (5, vi r_2), (0, .ref v0), (1, vi v1), (4, vi v4)] d_BJo_nearest_40 (by decide) rfl ?_
            refine j_sub [2, 3, 0, 4] rfl ?_
            exact B41 _ _ _ _ _ hT hw
  unfold wp_BJo_nearest at hw
  show jat l D X 6 0 [(0, .ref v0), (1, vi v1), (2, vi v2)] [] (cwd k T) 0 0
  refine j_iload_n F 2 d_BJo_nearest_0 rfl ?_
  refine j_istore_n F [(3, vi v2), (0, .ref v0), (1, vi v1), (2, vi v2)] d_BJo_nearest_1 (by decide) rfl ?_
  refine j_iconst F d_BJo_nearest_2 ?_
  refine j_istore F [(4, vi 0), (3, vi v2), (0, .ref v0), (1, vi v1), (2, vi v2)] d_BJo_nearest_3 (by decide) rfl ?_
  refine j_sub [2, 3, 1, 0] rfl ?_
  obtain ⟨nn, hw⟩ := hw
  exact B5 nn _ _ _ _ _ hT hw
theorem tq_200 : (Jvm.Cond.methodLink "LandBook$Joiner" (49 : Nat) ({ cls := "LandBook$Points", name := "clear", desc := "()V" } : Jvm.MethodName)) ∈ tw_G := tw_in (List.mem_of_getElem? (i := 794) (by decide +kernel)) rfl
theorem tq_201 : (Jvm.Cond.methodLink "LandBook$Joiner" (56 : Nat) ({ cls := "LandBook$Points", name := "add", desc := "(I)V" } : Jvm.MethodName)) ∈ tw_G := tw_in (List.mem_of_getElem? (i := 796) (by decide +kernel)) rfl
theorem tq_202 : (Jvm.Cond.methodLink "LandBook$Joiner" (65 : Nat) ({ cls := "LandBook$Joiner", name := "nearest", desc := "(LLandBook$Points;II)I" } : Jvm.MethodName)) ∈ tw_G := tw_in (List.mem_of_getElem? (i := 797) (by decide +kernel)) rfl
theorem tq_203 : (Jvm.Cond.static ({ cls := "LandBook$Joiner", name := "nearest", desc := "(LLandBook$Points;II)I" } : Jvm.MethodName)) ∈ tw_G := tw_in (List.mem_of_getElem? (i := 798) (by decide +kernel)) rfl
theorem tq_204 : (Jvm.Cond.initialized "LandBook$Joiner") ∈ tw_G := tw_in (List.mem_of_getElem? (i := 63) (by decide +kernel)) rfl
theorem tq_205 : (Jvm.Cond.code ({ cls := "LandBook$Joiner", name := "nearest", desc := "(LLandBook$Points;II)I" } : Jvm.MethodName) prog_5_method_4_code (6 : Nat) (Option.some Jvm.ClassFile.FieldType.int)) ∈ tw_G := tw_in (List.mem_of_getElem? (i := 799) (by decide +kernel)) rfl
abbrev y_BJo_refine : MethodName := ⟨"LandBook$Joiner", "refine", "(LLandBook$Points;LLandBook$Points;LLandBook$Points;)V"⟩
theorem q_BJo_refine : y_BJo_refine.cls ≠ "java/lang/invoke/MethodHandle" ∧ y_BJo_refine.cls ≠ "java/lang/invoke/VarHandle" ∧ (parseMethodDescriptor y_BJo_refine.desc).map (fun d => d.parameters.length) = some 3 := by decide +kernel
theorem d_BJo_refine_0 : decode prog_5_method_3_code 0 = .ok (.aload_n 2, 1) := by decide +kernel
theorem d_BJo_refine_1 : decode prog_5_method_3_code 1 = .ok (.invokevirtual 49, 3) := by decide +kernel
theorem d_BJo_refine_4 : decode prog_5_method_3_code 4 = .ok (.iconst 0, 1) := by decide +kernel
theorem d_BJo_refine_5 : decode prog_5_method_3_code 5 = .ok (.istore_n 3, 1) := by decide +kernel
theorem d_BJo_refine_6 : decode prog_5_method_3_code 6 = .ok (.iload_n 3, 1) := by decide +kernel
theorem d_BJo_refine_7 : decode prog_5_method_3_code 7 = .ok (.aload_n 0, 1) := by decide +kernel
theorem d_BJo_refine_8 : decode prog_5_method_3_code 8 = .ok (.getfield 41, 3) := by decide +kernel
theorem d_BJo_refine_11 : decode prog_5_method_3_code 11 = .ok (.if_icmp .ge 66, 3) := by decide +kernel
theorem d_BJo_refine_77 : decode prog_5_method_3_code 77 = .ok (.return_, 1) := by decide +kernel
theorem d_BJo_refine_14 : decode prog_5_method_3_code 14 = .ok (.aload_n 0, 1) := by decide +kernel
theorem d_BJo_refine_15 : decode prog_5_method_3_code 15 = .ok (.iload_n 3, 1) := by decide +kernel
theorem d_BJo_refine_16 : decode prog_5_method_3_code 16 = .ok (.iconst 1, 1) := by decide +kernel
theorem d_BJo_refine_17 : decode prog_5_method_3_code 17 = .ok (.iadd, 1) := by decide +kernel
theorem d_BJo_refine_18 : decode prog_5_method_3_code 18 = .ok (.invokevirtual 52, 3) := by decide +kernel
theorem d_BJo_refine_21 : decode prog_5_method_3_code 21 = .ok (.istore 4, 2) := by decide +kernel
theorem d_BJo_refine_23 : decode prog_5_method_3_code 23 = .ok (.aload_n 0, 1) := by decide +kernel
theorem d_BJo_refine_24 : decode prog_5_method_3_code 24 = .ok (.iload_n 3, 1) := by decide +kernel
theorem d_BJo_refine_25 : decode prog_5_method_3_code 25 = .ok (.invokevirtual 52, 3) := by decide +kernel
theorem d_BJo_refine_28 : decode prog_5_method_3_code 28 = .ok (.istore 5, 2) := by decide +kernel
theorem d_BJo_refine_30 : decode prog_5_method_3_code 30 = .ok (.iconst 0, 1) := by decide +kernel
theorem d_BJo_refine_31 : decode prog_5_method_3_code 31 = .ok (.istore 6, 2) := by decide +kernel
theorem d_BJo_refine_33 : decode prog_5_method_3_code 33 = .ok (.iload 6, 2) := by decide +kernel
theorem d_BJo_refine_35 : decode prog_5_method_3_code 35 = .ok (.aload_n 1, 1) := by decide +kernel
theorem d_BJo_refine_36 : decode prog_5_method_3_code 36 = .ok (.getfield 41, 3) := by decide +kernel
theorem d_BJo_refine_39 : decode prog_5_method_3_code 39 = .ok (.if_icmp .gt 32, 3) := by decide +kernel
theorem d_BJo_refine_42 : decode prog_5_method_3_code 42 = .ok (.iload 5, 2) := by decide +kernel
theorem d_BJo_refine_44 : decode prog_5_method_3_code 44 = .ok (.iload 4, 2) := by decide +kernel
theorem d_BJo_refine_46 : decode prog_5_method_3_code 46 = .ok (.if_icmp .eq 25, 3) := by decide +kernel
theorem d_BJo_refine_49 : decode prog_5_method_3_code 49 = .ok (.aload_n 2, 1) := by decide +kernel
theorem d_BJo_refine_50 : decode prog_5_method_3_code 50 = .ok (.iload 5, 2) := by decide +kernel
theorem d_BJo_refine_52 : decode prog_5_method_3_code 52 = .ok (.invokevirtual 56, 3) := by decide +kernel
theorem d_BJo_refine_55 : decode prog_5_method_3_code 55 = .ok (.aload_n 1, 1) := by decide +kernel
theorem d_BJo_refine_56 : decode prog_5_method_3_code 56 = .ok (.iload 5, 2) := by decide +kernel
theorem d_BJo_refine_58 : decode prog_5_method_3_code 58 = .ok (.iload 4, 2) := by decide +kernel
theorem d_BJo_refine_60 : decode prog_5_method_3_code 60 = .ok (.invokestatic 65, 3) := by decide +kernel
theorem d_BJo_refine_63 : decode prog_5_method_3_code 63 = .ok (.istore 5, 2) := by decide +kernel
theorem d_BJo_refine_65 : decode prog_5_method_3_code 65 = .ok (.iinc 6 1, 3) := by decide +kernel
theorem d_BJo_refine_68 : decode prog_5_method_3_code 68 = .ok (.goto (-35), 3) := by decide +kernel
theorem d_BJo_refine_71 : decode prog_5_method_3_code 71 = .ok (.iinc 3 1, 3) := by decide +kernel
theorem d_BJo_refine_74 : decode prog_5_method_3_code 74 = .ok (.goto (-68), 3) := by decide +kernel
def wp_BJo_refine_71 (post : CS → Prop) (k6 : Nat → Nat → Nat → Int → CS → Prop) (v0 : Nat) (v1 : Nat) (v2 : Nat) (v3 : Int) (T : CS) : Prop := k6 v0 v1 v2 (v3 + 1) T
def wp_BJo_refine_33 (post : CS → Prop) (k6 : Nat → Nat → Nat → Int → CS → Prop) : Nat → Nat → Nat → Nat → Int → Int → Int → Int → CS → Prop
  | 0, _, _, _, _, _, _, _, _ => False
  | n + 1, v0, v1, v2, v3, v4, v5, v6, T => tg T v1 = 2 ∧ (inR v6 ∧ inR (fi T v1 1) ∧ ((fi T v1 1) < v6 → wp_BJo_refine_71 post k6 v0 v1 v2 v3 T) ∧ (¬ ((fi T v1 1) < v6) → (inR v5 ∧ inR v4 ∧ (v5 = v4 → wp_BJo_refine_71 post k6 v0 v1 v2 v3 T) ∧ (¬ (v5 = v4) → (tg T v2 = 2 ∧ wp_BPt_add (fun T_1 => wp_BJo_nearest (fun r_4 T_3 => (wp_BJo_refine_33 post k6 n) v0 v1 v2 v3 v4 r_4 (v6 + 1) T_3) v1 v5 v4 T_1) v2 v5 T)))))
def wp_BJo_refine_6 (post : CS → Prop) : Nat → Nat → Nat → Nat → Int → CS → Prop
  | 0, _, _, _, _, _ => False
  | n + 1, v0, v1, v2, v3, T => tg T v0 = 2 ∧ (inR v3 ∧ inR (fi T v0 1) ∧ ((fi T v0 1) ≤ v3 → post T) ∧ (¬ ((fi T v0 1) ≤ v3) → (tg T v0 = 2 ∧ wp_BPt_at (fun r_2 T_1 => tg T_1 v0 = 2 ∧ wp_BPt_at (fun r_4 T_3 => ∃ nn : Nat, wp_BJo_refine_33 post (wp_BJo_refine_6 post n) nn v0 v1 v2 v3 r_2 r_4 0 T_3) v0 v3 T_1) v0 (v3 + 1) T)))
def wp_BJo_refine (post : CS → Prop) (v0 : Nat) (v1 : Nat) (v2 : Nat) (T : CS) : Prop := tg T v2 = 2 ∧ wp_BPt_clear (fun T_1 => ∃ nn : Nat, wp_BJo_refine_6 post nn v0 v1 v2 0 T_1) v2 T
set_option maxHeartbeats 4000000 in
set_option maxRecDepth 100000 in
theorem c_BJo_refine (l : Launch) {D : va_G} {k : CK} {post : CS → Prop} {v0 : Nat} {v1 : Nat} {v2 : Nat} {T : CS} (hw : wp_BJo_refine post v0 v1 v2 T) : jCv l D k y_BJo_refine prog_5_method_3_code 7 none 4 89 0 0 T [.ref v0, .ref v1, .ref v2] post := by
  refine j_cov (own := "LandBook$Joiner") (by decide) rfl (Nat.le_of_ble_eq_true rfl) (fun X F K hT hret => ?_)
  have B6 : ∀ (nn : Nat) (v0 : Nat) (v1 : Nat) (v2 : Nat) (v3 : Int) (T : CS), cs_ok k T → wp_BJo_refine_6 post nn v0 v1 v2 v3 T → jat l D X 7 6 [(0, .ref v0), (1, .ref v1), (2, .ref v2), (3, vi v3)] [] (cwd k T) 0 0 := by
    intro nn
    induction nn with
    | zero => intro v0 v1 v2 v3 T hT hw; exact hw.elim
    | succ n6 ih6 =>
      have B71 : ∀ (v0 : Nat) (v1 : Nat) (v2 : Nat) (v3 : Int) (T : CS), cs_ok k T → wp_BJo_refine_71 post (wp_BJo_refine_6 post n6) v0 v1 v2 v3 T → jat l D X 7 71 [(0, .ref v0), (1, .ref v1), (2, .ref v2), (3, vi v3)] [] (cwd k T) 0 0 := by
        intro v0 v1 v2 v3 T hT hw
        unfold wp_BJo_refine_71 at hw
        refine j_iinc F 3 [(3, vi (v3 + 1)), (0, .ref v0), (1, .ref v1), (2, .ref v2)] d_BJo_refine_71 rfl (by decide) rfl ?_
        refine j_goto F 6 d_BJo_refine_74 rfl ?_
        refine j_sub [1, 2, 3, 0] rfl ?_
        exact ih6 _ _ _ _ _ hT hw
      have B33 : ∀ (nn : Nat) (v0 : Nat) (v1 : Nat) (v2 : Nat) (v3 : Int) (v4 : Int) (v5 : Int) (v6 : Int) (T : CS), cs_ok k T → wp_BJo_refine_33 post (wp_BJo_refine_6 post n6) nn v0 v1 v2 v3 v4 v5 v6 T → jat l D X 7 33 [(0, .ref v0), (1, .ref v1), (2, .ref v2), (3, vi v3), (4, vi v4), (5, vi v5), (6, vi v6)] [] (cwd k T) 0 0 := by
        intro nn
        induction nn with
        | zero => intro v0 v1 v2 v3 v4 v5 v6 T hT hw; exact hw.elim
        | succ n33 ih33 =>
          intro v0 v1 v2 v3 v4 v5 v6 T hT hw
          unfold wp_BJo_refine_33 at hw
          refine j_iload F 6 d_BJo_refine_33 rfl ?_
          refine j_aload_n F 1 d_BJo_refine_35 rfl ?_
          obtain ⟨hc1, hw⟩ := hw
          refine c_geti F K hT 2 1 rfl tu_Points (by decide) (by decide) rfl tq_197 (Or.inl rfl) hc1 d_BJo_refine_36 ?_
          obtain ⟨hc1, hc2, hwt, hwf⟩ := hw
          refine j_icmp_gt F 71 hc1 hc2 d_BJo_refine_39 rfl (fun hh => ?_) (fun hh => ?_)
          · have hw := hwt hh
            refine j_sub [0, 1, 2, 3] rfl ?_
            exact B71 _ _ _ _ _ hT hw
          · have hw := hwf hh
            refine j_iload F 5 d_BJo_refine_42 rfl ?_
            refine j_iload F 4 d_BJo_refine_44 rfl ?_
            obtain ⟨hc1, hc2, hwt, hwf⟩ := hw
            refine j_icmp_eq F 71 hc1 hc2 d_BJo_refine_46 rfl (fun hh => ?_) (fun hh => ?_)
            · have hw := hwt hh
              refine j_sub [0, 1, 2, 3] rfl ?_
              exact B71 _ _ _ _ _ hT hw
            · have hw := hwf hh
              refine j_aload_n F 2 d_BJo_refine_49 rfl ?_
              refine j_iload F 5 d_BJo_refine_50 rfl ?_
              obtain ⟨hg1, hw⟩ := hw
              refine c_callVv F K hT (c_BPt_add l hw) (tw_gV tq_201 tq_131 tq_132 tq_126 tq_133) 2 rfl (by decide) hg1 q_BPt_add rfl ⟨by decide, by decide⟩ ⟨by omega, by omega⟩ rfl (Nat.le_of_ble_eq_true rfl) d_BJo_refine_52 (fun T_1 hw hT => ?_)
              refine j_aload_n F 1 d_BJo_refine_55 rfl ?_
              refine j_iload F 5 d_BJo_refine_56 rfl ?_
              refine j_iload F 4 d_BJo_refine_58 rfl ?_
              refine c_callSi F K hT (c_BJo_nearest l hw) (tw_gS tq_202 tq_203 tq_204 tq_205) q_BJo_nearest rfl ⟨by decide, by decide⟩ ⟨by omega, by omega⟩ rfl (Nat.le_of_ble_eq_true rfl) d_BJo_refine_60 (fun r_4 T_3 hw hT => ?_)
              refine j_istore F [(5, vi r_4), (0, .ref v0), (1, .ref v1), (2, .ref v2), (3, vi v3), (4, vi v4), (6, vi v6)] d_BJo_refine_63 (by decide) rfl ?_
              refine j_iinc F 6 [(6, vi (v6 + 1)), (5, vi r_4), (0, .ref v0), (1, .ref v1), (2, .ref v2), (3, vi v3), (4, vi v4)] d_BJo_refine_65 rfl (by decide) rfl ?_
              refine j_goto F 33 d_BJo_refine_68 rfl ?_
              refine j_sub [2, 3, 4, 5, 6, 1, 0] rfl ?_
              exact ih33 _ _ _ _ _ _ _ _ hT hw
      intro v0 v1 v2 v3 T hT hw
      unfold wp_BJo_refine_6 at hw
      refine j_iload_n F 3 d_BJo_refine_6 rfl ?_
      refine j_aload_n F 0 d_BJo_refine_7 rfl ?_
      obtain ⟨hc1, hw⟩ := hw
      refine c_geti F K hT 2 1 rfl tu_Points (by decide) (by decide) rfl tq_197 (Or.inl rfl) hc1 d_BJo_refine_8 ?_
      obtain ⟨hc1, hc2, hwt, hwf⟩ := hw
      refine j_icmp_ge F 77 hc1 hc2 d_BJo_refine_11 rfl (fun hh => ?_) (fun hh => ?_)
      · have hw := hwt hh
        exact hret _ _ _ _ _ hw hT (by omega) (by omega) d_BJo_refine_77
      · have hw := hwf hh
        refine j_aload_n F 0 d_BJo_refine_14 rfl ?_
        refine j_iload_n F 3 d_BJo_refine_15 rfl ?_
        refine j_iconst F d_BJo_refine_16 ?_
        refine j_iadd F d_BJo_refine_17 ?_
        obtain ⟨hg1, hw⟩ := hw
        refine c_callVi F K hT (c_BPt_at l hw) (tw_gV tq_198 tq_136 tq_137 tq_126 tq_138) 2 rfl (by decide) hg1 q_BPt_at rfl ⟨by decide, by decide⟩ ⟨by omega, by omega⟩ rfl (Nat.le_of_ble_eq_true rfl) d_BJo_refine_18 (fun r_2 T_1 hw hT => ?_)
        refine j_istore F [(4, vi r_2), (0, .ref v0), (1, .ref v1), (2, .ref v2), (3, vi v3)] d_BJo_refine_21 (by decide) rfl ?_
        refine j_aload_n F 1 d_BJo_refine_23 rfl ?_
        refine j_iload_n F 4 d_BJo_refine_24 rfl ?_
        obtain ⟨hg1, hw⟩ := hw
        refine c_callVi F K hT (c_BPt_at l hw) (tw_gV tq_198 tq_136 tq_137 tq_126 tq_138) 2 rfl (by decide) hg1 q_BPt_at rfl ⟨by decide, by decide⟩ ⟨by omega, by omega⟩ rfl (Nat.le_of_ble_eq_true rfl) d_BJo_refine_25 (fun r_4 T_3 hw hT => ?_)
        refine j_istore F [(5, vi r_4), (4, vi r_2), (0, .ref v0), (1, .ref v1), (2, .ref v2), (3, vi v3)] d_BJo_refine_28 (by decide) rfl ?_
        refine j_iconst F d_BJo_refine_30 ?_
        refine j_istore F [(6, vi 0), (5, vi r_4), (4, vi r_2), (0, .ref v0), (1, .ref v1), (2, .ref v2), (3, vi v3)] d_BJo_refine_31 (by decide) rfl ?_
        refine j_sub [3, 4, 5, 6, 2, 1, 0] rfl ?_
        obtain ⟨nn, hw⟩ := hw
        exact B33 nn _ _ _ _ _ _ _ _ hT hw
  unfold wp_BJo_refine at hw
  show jat l D X 7 0 [(0, .ref v0), (1, .ref v1), (2, .ref v2)] [] (cwd k T) 0 0
  refine j_aload_n F 2 d_BJo_refine_0 rfl ?_
  obtain ⟨hg1, hw⟩ := hw
  refine c_callVv F K hT (c_BPt_clear l hw) (tw_gV tq_200 tq_149 tq_150 tq_126 tq_151) 2 rfl (by decide) hg1 q_BPt_clear rfl ⟨by decide, by decide⟩ ⟨by omega, by omega⟩ rfl (Nat.le_of_ble_eq_true rfl) d_BJo_refine_1 (fun T_1 hw hT => ?_)
  refine j_iconst F d_BJo_refine_4 ?_
  refine j_istore_n F [(3, vi 0), (0, .ref v0), (1, .ref v1), (2, .ref v2)] d_BJo_refine_5 (by decide) rfl ?_
  refine j_sub [1, 2, 3, 0] rfl ?_
  obtain ⟨nn, hw⟩ := hw
  exact B6 nn _ _ _ _ _ hT hw
theorem tq_206 : (Jvm.Cond.fieldLink "LandBook$Joiner" (16 : Nat) "LandBook$Joiner" "left" "LLandBook$Points;") ∈ tw_G := tw_in (List.mem_of_getElem? (i := 143) (by decide +kernel)) rfl
theorem tq_207 : (Jvm.Cond.fieldLink "LandBook$Joiner" (23 : Nat) "LandBook$Joiner" "matches" "[I") ∈ tw_G := tw_in (List.mem_of_getElem? (i := 145) (by decide +kernel)) rfl
theorem tq_208 : (Jvm.Cond.fieldLink "LandBook$Joiner" (20 : Nat) "LandBook$Joiner" "right" "LLandBook$Points;") ∈ tw_G := tw_in (List.mem_of_getElem? (i := 144) (by decide +kernel)) rfl
abbrev y_BJo_matchCorners : MethodName := ⟨"LandBook$Joiner", "matchCorners", "()I"⟩
theorem q_BJo_matchCorners : y_BJo_matchCorners.cls = "LandBook$Joiner" ∧ y_BJo_matchCorners.cls ≠ "java/lang/invoke/MethodHandle" ∧ y_BJo_matchCorners.cls ≠ "java/lang/invoke/VarHandle" ∧ (parseMethodDescriptor y_BJo_matchCorners.desc).map (fun d => d.parameters.length) = some 0 := by decide +kernel
theorem d_BJo_matchCorners_0 : decode prog_5_method_5_code 0 = .ok (.iconst 0, 1) := by decide +kernel
theorem d_BJo_matchCorners_1 : decode prog_5_method_5_code 1 = .ok (.istore_n 1, 1) := by decide +kernel
theorem d_BJo_matchCorners_2 : decode prog_5_method_5_code 2 = .ok (.iconst 0, 1) := by decide +kernel
theorem d_BJo_matchCorners_3 : decode prog_5_method_5_code 3 = .ok (.istore_n 2, 1) := by decide +kernel
theorem d_BJo_matchCorners_4 : decode prog_5_method_5_code 4 = .ok (.iload_n 2, 1) := by decide +kernel
theorem d_BJo_matchCorners_5 : decode prog_5_method_5_code 5 = .ok (.aload_n 0, 1) := by decide +kernel
theorem d_BJo_matchCorners_6 : decode prog_5_method_5_code 6 = .ok (.getfield 16, 3) := by decide +kernel
theorem d_BJo_matchCorners_9 : decode prog_5_method_5_code 9 = .ok (.getfield 41, 3) := by decide +kernel
theorem d_BJo_matchCorners_12 : decode prog_5_method_5_code 12 = .ok (.if_icmp .ge 73, 3) := by decide +kernel
theorem d_BJo_matchCorners_85 : decode prog_5_method_5_code 85 = .ok (.iload_n 1, 1) := by decide +kernel
theorem d_BJo_matchCorners_86 : decode prog_5_method_5_code 86 = .ok (.ireturn, 1) := by decide +kernel
theorem d_BJo_matchCorners_15 : decode prog_5_method_5_code 15 = .ok (.aload_n 0, 1) := by decide +kernel
theorem d_BJo_matchCorners_16 : decode prog_5_method_5_code 16 = .ok (.getfield 23, 3) := by decide +kernel
theorem d_BJo_matchCorners_19 : decode prog_5_method_5_code 19 = .ok (.iload_n 2, 1) := by decide +kernel
theorem d_BJo_matchCorners_20 : decode prog_5_method_5_code 20 = .ok (.iconst (-1), 1) := by decide +kernel
theorem d_BJo_matchCorners_21 : decode prog_5_method_5_code 21 = .ok (.iastore, 1) := by decide +kernel
theorem d_BJo_matchCorners_22 : decode prog_5_method_5_code 22 = .ok (.iconst 0, 1) := by decide +kernel
theorem d_BJo_matchCorners_23 : decode prog_5_method_5_code 23 = .ok (.istore_n 3, 1) := by decide +kernel
theorem d_BJo_matchCorners_24 : decode prog_5_method_5_code 24 = .ok (.iload_n 3, 1) := by decide +kernel
theorem d_BJo_matchCorners_25 : decode prog_5_method_5_code 25 = .ok (.aload_n 0, 1) := by decide +kernel
theorem d_BJo_matchCorners_26 : decode prog_5_method_5_code 26 = .ok (.getfield 20, 3) := by decide +kernel
theorem d_BJo_matchCorners_29 : decode prog_5_method_5_code 29 = .ok (.getfield 41, 3) := by decide +kernel
theorem d_BJo_matchCorners_32 : decode prog_5_method_5_code 32 = .ok (.if_icmp .ge 35, 3) := by decide +kernel
theorem d_BJo_matchCorners_67 : decode prog_5_method_5_code 67 = .ok (.aload_n 0, 1) := by decide +kernel
theorem d_BJo_matchCorners_68 : decode prog_5_method_5_code 68 = .ok (.getfield 23, 3) := by decide +kernel
theorem d_BJo_matchCorners_71 : decode prog_5_method_5_code 71 = .ok (.iload_n 2, 1) := by decide +kernel
theorem d_BJo_matchCorners_72 : decode prog_5_method_5_code 72 = .ok (.iaload, 1) := by decide +kernel
theorem d_BJo_matchCorners_73 : decode prog_5_method_5_code 73 = .ok (.ifCond .lt 6, 3) := by decide +kernel
theorem d_BJo_matchCorners_76 : decode prog_5_method_5_code 76 = .ok (.iinc 1 1, 3) := by decide +kernel
theorem d_BJo_matchCorners_35 : decode prog_5_method_5_code 35 = .ok (.aload_n 0, 1) := by decide +kernel
theorem d_BJo_matchCorners_36 : decode prog_5_method_5_code 36 = .ok (.getfield 16, 3) := by decide +kernel
theorem d_BJo_matchCorners_39 : decode prog_5_method_5_code 39 = .ok (.iload_n 2, 1) := by decide +kernel
theorem d_BJo_matchCorners_40 : decode prog_5_method_5_code 40 = .ok (.invokevirtual 52, 3) := by decide +kernel
theorem d_BJo_matchCorners_43 : decode prog_5_method_5_code 43 = .ok (.aload_n 0, 1) := by decide +kernel
theorem d_BJo_matchCorners_44 : decode prog_5_method_5_code 44 = .ok (.getfield 20, 3) := by decide +kernel
theorem d_BJo_matchCorners_47 : decode prog_5_method_5_code 47 = .ok (.iload_n 3, 1) := by decide +kernel
theorem d_BJo_matchCorners_48 : decode prog_5_method_5_code 48 = .ok (.invokevirtual 52, 3) := by decide +kernel
theorem d_BJo_matchCorners_51 : decode prog_5_method_5_code 51 = .ok (.if_icmp .ne 10, 3) := by decide +kernel
theorem d_BJo_matchCorners_54 : decode prog_5_method_5_code 54 = .ok (.aload_n 0, 1) := by decide +kernel
theorem d_BJo_matchCorners_55 : decode prog_5_method_5_code 55 = .ok (.getfield 23, 3) := by decide +kernel
theorem d_BJo_matchCorners_58 : decode prog_5_method_5_code 58 = .ok (.iload_n 2, 1) := by decide +kernel
theorem d_BJo_matchCorners_59 : decode prog_5_method_5_code 59 = .ok (.iload_n 3, 1) := by decide +kernel
theorem d_BJo_matchCorners_60 : decode prog_5_method_5_code 60 = .ok (.iastore, 1) := by decide +kernel
theorem d_BJo_matchCorners_79 : decode prog_5_method_5_code 79 = .ok (.iinc 2 1, 3) := by decide +kernel
theorem d_BJo_matchCorners_82 : decode prog_5_method_5_code 82 = .ok (.goto (-78), 3) := by decide +kernel
theorem d_BJo_matchCorners_61 : decode prog_5_method_5_code 61 = .ok (.iinc 3 1, 3) := by decide +kernel
theorem d_BJo_matchCorners_64 : decode prog_5_method_5_code 64 = .ok (.goto (-40), 3) := by decide +kernel
def wp_BJo_matchCorners_79 (post : Int → CS → Prop) (k4 : Nat → Int → Int → CS → Prop) (v0 : Nat) (v1 : Int) (v2 : Int) (T : CS) : Prop := k4 v0 v1 (v2 + 1) T
def wp_BJo_matchCorners_61 (post : Int → CS → Prop) (k4 : Nat → Int → Int → CS → Prop) (k24 : Nat → Int → Int → Int → CS → Prop) (v0 : Nat) (v1 : Int) (v2 : Int) (v3 : Int) (T : CS) : Prop := k24 v0 v1 v2 (v3 + 1) T
def wp_BJo_matchCorners_24 (post : Int → CS → Prop) (k4 : Nat → Int → Int → CS → Prop) : Nat → Nat → Int → Int → Int → CS → Prop
  | 0, _, _, _, _, _ => False
  | n + 1, v0, v1, v2, v3, T => tg T v0 = 4 ∧ ∃ q_1 : Nat, fo T v0 1 = some q_1 ∧ (tg T q_1 = 2 ∧ (inR v3 ∧ inR (fi T q_1 1) ∧ ((fi T q_1 1) ≤ v3 → (tg T v0 = 4 ∧ ∃ q_2 : Nat, fo T v0 2 = some q_2 ∧ (tg T q_2 = 11 ∧ ixR v2 (ln T q_2) ∧ (inR (fi T q_2 v2.toNat) ∧ ((fi T q_2 v2.toNat) < 0 → wp_BJo_matchCorners_79 post k4 v0 v1 v2 T) ∧ (¬ ((fi T q_2 v2.toNat) < 0) → (wp_BJo_matchCorners_79 post k4 v0 (v1 + 1) v2 T)))))) ∧ (¬ ((fi T q_1 1) ≤ v3) → (tg T v0 = 4 ∧ ∃ q_3 : Nat, fo T v0 0 = some q_3 ∧ (tg T q_3 = 2 ∧ wp_BPt_at (fun r_5 T_4 => tg T_4 v0 = 4 ∧ ∃ q_6 : Nat, fo T_4 v0 1 = some q_6 ∧ (tg T_4 q_6 = 2 ∧ wp_BPt_at (fun r_8 T_7 => inR r_5 ∧ inR r_8 ∧ (¬ (r_5 = r_8) → wp_BJo_matchCorners_61 post k4 (wp_BJo_matchCorners_24 post k4 n) v0 v1 v2 v3 T_7) ∧ (r_5 = r_8 → (tg T_7 v0 = 4 ∧ ∃ q_9 : Nat, fo T_7 v0 2 = some q_9 ∧ (tg T_7 q_9 = 11 ∧ ixR v2 (ln T_7 q_9) ∧ ((∀ T_10 : CS, T_10 = cs_i T_7 q_9 v2.toNat v3 → wp_BJo_matchCorners_61 post k4 (wp_BJo_matchCorners_24 post k4 n) v0 v1 v2 v3 T_10)))))) q_6 v3 T_4)) q_3 v2 T)))))
def wp_BJo_matchCorners_4 (post : Int → CS → Prop) : Nat → Nat → Int → Int → CS → Prop
  | 0, _, _, _, _ => False
  | n + 1, v0, v1, v2, T => tg T v0 = 4 ∧ ∃ q_1 : Nat, fo T v0 0 = some q_1 ∧ (tg T q_1 = 2 ∧ (inR v2 ∧ inR (fi T q_1 1) ∧ ((fi T q_1 1) ≤ v2 → post v1 T) ∧ (¬ ((fi T q_1 1) ≤ v2) → (tg T v0 = 4 ∧ ∃ q_2 : Nat, fo T v0 2 = some q_2 ∧ (tg T q_2 = 11 ∧ ixR v2 (ln T q_2) ∧ ((∀ T_3 : CS, T_3 = cs_i T q_2 v2.toNat (-1) → ∃ nn : Nat, wp_BJo_matchCorners_24 post (wp_BJo_matchCorners_4 post n) nn v0 v1 v2 0 T_3)))))))
def wp_BJo_matchCorners (post : Int → CS → Prop) (v0 : Nat) (T : CS) : Prop := ∃ nn : Nat, wp_BJo_matchCorners_4 post nn v0 0 0 T
set_option maxHeartbeats 4000000 in
set_option maxRecDepth 100000 in
theorem c_BJo_matchCorners (l : Launch) {D : va_G} {k : CK} {post : Int → CS → Prop} {v0 : Nat} {T : CS} (hw : wp_BJo_matchCorners post v0 T) : jCi l D k y_BJo_matchCorners prog_5_method_5_code 4 (some .int) 2 43 0 0 T [.ref v0] post := by
  refine j_coi (own := "LandBook$Joiner") (by decide) rfl (Nat.le_of_ble_eq_true rfl) (fun X F K hT hret => ?_)
  have B4 : ∀ (nn : Nat) (v0 : Nat) (v1 : Int) (v2 : Int) (T : CS), cs_ok k T → wp_BJo_matchCorners_4 post nn v0 v1 v2 T → jat l D X 4 4 [(0, .ref v0), (1, vi v1), (2, vi v2)] [] (cwd k T) 0 0 := by
    intro nn
    induction nn with
    | zero => intro v0 v1 v2 T hT hw; exact hw.elim
    | succ n4 ih4 =>
      have B79 : ∀ (v0 : Nat) (v1 : Int) (v2 : Int) (T : CS), cs_ok k T → wp_BJo_matchCorners_79 post (wp_BJo_matchCorners_4 post n4) v0 v1 v2 T → jat l D X 4 79 [(0, .ref v0), (1, vi v1), (2, vi v2)] [] (cwd k T) 0 0 := by
        intro v0 v1 v2 T hT hw
        unfold wp_BJo_matchCorners_79 at hw
        refine j_iinc F 2 [(2, vi (v2 + 1)), (0, .ref v0), (1, vi v1)] d_BJo_matchCorners_79 rfl (by decide) rfl ?_
        refine j_goto F 4 d_BJo_matchCorners_82 rfl ?_
        refine j_sub [1, 2, 0] rfl ?_
        exact ih4 _ _ _ _ hT hw
      have B24 : ∀ (nn : Nat) (v0 : Nat) (v1 : Int) (v2 : Int) (v3 : Int) (T : CS), cs_ok k T → wp_BJo_matchCorners_24 post (wp_BJo_matchCorners_4 post n4) nn v0 v1 v2 v3 T → jat l D X 4 24 [(0, .ref v0), (1, vi v1), (2, vi v2), (3, vi v3)] [] (cwd k T) 0 0 := by
        intro nn
        induction nn with
        | zero => intro v0 v1 v2 v3 T hT hw; exact hw.elim
        | succ n24 ih24 =>
          have B61 : ∀ (v0 : Nat) (v1 : Int) (v2 : Int) (v3 : Int) (T : CS), cs_ok k T → wp_BJo_matchCorners_61 post (wp_BJo_matchCorners_4 post n4) (wp_BJo_matchCorners_24 post (wp_BJo_matchCorners_4 post n4) n24) v0 v1 v2 v3 T → jat l D X 4 61 [(0, .ref v0), (1, vi v1), (2, vi v2), (3, vi v3)] [] (cwd k T) 0 0 := by
            intro v0 v1 v2 v3 T hT hw
            unfold wp_BJo_matchCorners_61 at hw
            refine j_iinc F 3 [(3, vi (v3 + 1)), (0, .ref v0), (1, vi v1), (2, vi v2)] d_BJo_matchCorners_61 rfl (by decide) rfl ?_
            refine j_goto F 24 d_BJo_matchCorners_64 rfl ?_
            refine j_sub [1, 2, 3, 0] rfl ?_
            exact ih24 _ _ _ _ _ hT hw
          intro v0 v1 v2 v3 T hT hw
          unfold wp_BJo_matchCorners_24 at hw
          refine j_iload_n F 3 d_BJo_matchCorners_24 rfl ?_
          refine j_aload_n F 0 d_BJo_matchCorners_25 rfl ?_
          obtain ⟨hc1, q_1, hc2, hw⟩ := hw
          refine c_getr F K hT 4 1 rfl tu_Joiner (by decide) (by decide) rfl tq_208 (Or.inl rfl) hc1 hc2 d_BJo_matchCorners_26 ?_
          obtain ⟨hc1, hw⟩ := hw
          refine c_geti F K hT 2 1 rfl tu_Points (by decide) (by decide) rfl tq_197 (Or.inl rfl) hc1 d_BJo_matchCorners_29 ?_
          obtain ⟨hc1, hc2, hwt, hwf⟩ := hw
          refine j_icmp_ge F 67 hc1 hc2 d_BJo_matchCorners_32 rfl (fun hh => ?_) (fun hh => ?_)
          · have hw := hwt hh
            refine j_aload_n F 0 d_BJo_matchCorners_67 rfl ?_
            obtain ⟨hc1, q_2, hc2, hw⟩ := hw
            refine c_getr F K hT 4 2 rfl tu_Joiner (by decide) (by decide) rfl tq_207 (Or.inl rfl) hc1 hc2 d_BJo_matchCorners_68 ?_
            refine j_iload_n F 2 d_BJo_matchCorners_71 rfl ?_
            obtain ⟨hc1, hc2, hw⟩ := hw
            refine c_iald F K hT hc1 hc2 d_BJo_matchCorners_72 ?_
            obtain ⟨hc1, hwt, hwf⟩ := hw
            refine j_if_lt F 79 hc1 d_BJo_matchCorners_73 rfl (fun hh => ?_) (fun hh => ?_)
            · have hw := hwt hh
              refine j_sub [0, 1, 2] rfl ?_
              exact B79 _ _ _ _ hT hw
            · have hw := hwf hh
              refine j_iinc F 1 [(1, vi (v1 + 1)), (0, .ref v0), (2, vi v2), (3, vi v3)] d_BJo_matchCorners_76 rfl (by decide) rfl ?_
              refine j_sub [1, 0, 2] rfl ?_
              exact B79 _ _ _ _ hT hw
          · have hw := hwf hh
            refine j_aload_n F 0 d_BJo_matchCorners_35 rfl ?_
            obtain ⟨hc1, q_3, hc2, hw⟩ := hw
            refine c_getr F K hT 4 0 rfl tu_Joiner (by decide) (by decide) rfl tq_206 (Or.inl rfl) hc1 hc2 d_BJo_matchCorners_36 ?_
            refine j_iload_n F 2 d_BJo_matchCorners_39 rfl ?_
            obtain ⟨hg1, hw⟩ := hw
            refine c_callVi F K hT (c_BPt_at l hw) (tw_gV tq_198 tq_136 tq_137 tq_126 tq_138) 2 rfl (by decide) hg1 q_BPt_at rfl ⟨by decide, by decide⟩ ⟨by omega, by omega⟩ rfl (Nat.le_of_ble_eq_true rfl) d_BJo_matchCorners_40 (fun r_5 T_4 hw hT => ?_)
            refine j_aload_n F 0 d_BJo_matchCorners_43 rfl ?_
            obtain ⟨hc1, q_6, hc2, hw⟩ := hw
            refine c_getr F K hT 4 1 rfl tu_Joiner (by decide) (by decide) rfl tq_208 (Or.inl rfl) hc1 hc2 d_BJo_matchCorners_44 ?_
            refine j_iload_n F 3 d_BJo_matchCorners_47 rfl ?_
            obtain ⟨hg1, hw⟩ := hw
            refine c_callVi F K hT (c_BPt_at l hw) (tw_gV tq_198 tq_136 tq_137 tq_126 tq_138) 2 rfl (by decide) hg1 q_BPt_at rfl ⟨by decide, by decide⟩ ⟨by omega, by omega⟩ rfl (Nat.le_of_ble_eq_true rfl) d_BJo_matchCorners_48 (fun r_8 T_7 hw hT => ?_)
            obtain ⟨hc1, hc2, hwt, hwf⟩ := hw
            refine j_icmp_ne F 61 hc1 hc2 d_BJo_matchCorners_51 rfl (fun hh => ?_) (fun hh => ?_)
            · have hw := hwt hh
              exact B61 _ _ _ _ _ hT hw
            · have hw := hwf hh
              refine j_aload_n F 0 d_BJo_matchCorners_54 rfl ?_
              obtain ⟨hc1, q_9, hc2, hw⟩ := hw
              refine c_getr F K hT 4 2 rfl tu_Joiner (by decide) (by decide) rfl tq_207 (Or.inl rfl) hc1 hc2 d_BJo_matchCorners_55 ?_
              refine j_iload_n F 2 d_BJo_matchCorners_58 rfl ?_
              refine j_iload_n F 3 d_BJo_matchCorners_59 rfl ?_
              obtain ⟨hc1, hc2, hw⟩ := hw
              refine c_iast F K hT hc1 hc2 d_BJo_matchCorners_60 (fun T_10 e_T_10 hT => ?_)
              have hw := hw T_10 e_T_10
              exact B61 _ _ _ _ _ hT hw
      intro v0 v1 v2 T hT hw
      unfold wp_BJo_matchCorners_4 at hw
      refine j_iload_n F 2 d_BJo_matchCorners_4 rfl ?_
      refine j_aload_n F 0 d_BJo_matchCorners_5 rfl ?_
      obtain ⟨hc1, q_1, hc2, hw⟩ := hw
      refine c_getr F K hT 4 0 rfl tu_Joiner (by decide) (by decide) rfl tq_206 (Or.inl rfl) hc1 hc2 d_BJo_matchCorners_6 ?_
      obtain ⟨hc1, hw⟩ := hw
      refine c_geti F K hT 2 1 rfl tu_Points (by decide) (by decide) rfl tq_197 (Or.inl rfl) hc1 d_BJo_matchCorners_9 ?_
      obtain ⟨hc1, hc2, hwt, hwf⟩ := hw
      refine j_icmp_ge F 85 hc1 hc2 d_BJo_matchCorners_12 rfl (fun hh => ?_) (fun hh => ?_)
      · have hw := hwt hh
        refine j_iload_n F 1 d_BJo_matchCorners_85 rfl ?_
        exact hret _ _ _ _ _ _ hw hT (by omega) (by omega) d_BJo_matchCorners_86
      · have hw := hwf hh
        refine j_aload_n F 0 d_BJo_matchCorners_15 rfl ?_
        obtain ⟨hc1, q_2, hc2, hw⟩ := hw
        refine c_getr F K hT 4 2 rfl tu_Joiner (by decide) (by decide) rfl tq_207 (Or.inl rfl) hc1 hc2 d_BJo_matchCorners_16 ?_
        refine j_iload_n F 2 d_BJo_matchCorners_19 rfl ?_
        refine j_iconst F d_BJo_matchCorners_20 ?_
        obtain ⟨hc1, hc2, hw⟩ := hw
        refine c_iast F K hT hc1 hc2 d_BJo_matchCorners_21 (fun T_3 e_T_3 hT => ?_)
        have hw := hw T_3 e_T_3
        refine j_iconst F d_BJo_matchCorners_22 ?_
        refine j_istore_n F [(3, vi 0), (0, .ref v0), (1, vi v1), (2, vi v2)] d_BJo_matchCorners_23 (by decide) rfl ?_
        refine j_sub [1, 2, 3, 0] rfl ?_
        obtain ⟨nn, hw⟩ := hw
        exact B24 nn _ _ _ _ _ hT hw
  unfold wp_BJo_matchCorners at hw
  show jat l D X 4 0 [(0, .ref v0)] [] (cwd k T) 0 0
  refine j_iconst F d_BJo_matchCorners_0 ?_
  refine j_istore_n F [(1, vi 0), (0, .ref v0)] d_BJo_matchCorners_1 (by decide) rfl ?_
  refine j_iconst F d_BJo_matchCorners_2 ?_
  refine j_istore_n F [(2, vi 0), (1, vi 0), (0, .ref v0)] d_BJo_matchCorners_3 (by decide) rfl ?_
  refine j_sub [2, 1, 0] rfl ?_
  obtain ⟨nn, hw⟩ := hw
  exact B4 nn _ _ _ _ hT hw
theorem tq_209 : (Jvm.Cond.methodLink "LandBook$Joiner" (75 : Nat) ({ cls := "java/lang/Math", name := "floorMod", desc := "(II)I" } : Jvm.MethodName)) ∈ tw_G := tw_in (List.mem_of_getElem? (i := 809) (by decide +kernel)) rfl
abbrev y_BJo_isCommon : MethodName := ⟨"LandBook$Joiner", "isCommon", "(I)Z"⟩
theorem q_BJo_isCommon : y_BJo_isCommon.cls = "LandBook$Joiner" ∧ y_BJo_isCommon.cls ≠ "java/lang/invoke/MethodHandle" ∧ y_BJo_isCommon.cls ≠ "java/lang/invoke/VarHandle" ∧ (parseMethodDescriptor y_BJo_isCommon.desc).map (fun d => d.parameters.length) = some 1 := by decide +kernel
theorem d_BJo_isCommon_0 : decode prog_5_method_6_code 0 = .ok (.aload_n 0, 1) := by decide +kernel
theorem d_BJo_isCommon_1 : decode prog_5_method_6_code 1 = .ok (.getfield 23, 3) := by decide +kernel
theorem d_BJo_isCommon_4 : decode prog_5_method_6_code 4 = .ok (.iload_n 1, 1) := by decide +kernel
theorem d_BJo_isCommon_5 : decode prog_5_method_6_code 5 = .ok (.aload_n 0, 1) := by decide +kernel
theorem d_BJo_isCommon_6 : decode prog_5_method_6_code 6 = .ok (.getfield 16, 3) := by decide +kernel
theorem d_BJo_isCommon_9 : decode prog_5_method_6_code 9 = .ok (.getfield 41, 3) := by decide +kernel
theorem d_BJo_isCommon_12 : decode prog_5_method_6_code 12 = .ok (.invokestatic 75, 3) := by decide +kernel
theorem d_BJo_isCommon_15 : decode prog_5_method_6_code 15 = .ok (.iaload, 1) := by decide +kernel
theorem d_BJo_isCommon_16 : decode prog_5_method_6_code 16 = .ok (.istore_n 2, 1) := by decide +kernel
theorem d_BJo_isCommon_17 : decode prog_5_method_6_code 17 = .ok (.aload_n 0, 1) := by decide +kernel
theorem d_BJo_isCommon_18 : decode prog_5_method_6_code 18 = .ok (.getfield 23, 3) := by decide +kernel
theorem d_BJo_isCommon_21 : decode prog_5_method_6_code 21 = .ok (.iload_n 1, 1) := by decide +kernel
theorem d_BJo_isCommon_22 : decode prog_5_method_6_code 22 = .ok (.iconst 1, 1) := by decide +kernel
theorem d_BJo_isCommon_23 : decode prog_5_method_6_code 23 = .ok (.iadd, 1) := by decide +kernel
theorem d_BJo_isCommon_24 : decode prog_5_method_6_code 24 = .ok (.aload_n 0, 1) := by decide +kernel
theorem d_BJo_isCommon_25 : decode prog_5_method_6_code 25 = .ok (.getfield 16, 3) := by decide +kernel
theorem d_BJo_isCommon_28 : decode prog_5_method_6_code 28 = .ok (.getfield 41, 3) := by decide +kernel
theorem d_BJo_isCommon_31 : decode prog_5_method_6_code 31 = .ok (.invokestatic 75, 3) := by decide +kernel
theorem d_BJo_isCommon_34 : decode prog_5_method_6_code 34 = .ok (.iaload, 1) := by decide +kernel
theorem d_BJo_isCommon_35 : decode prog_5_method_6_code 35 = .ok (.istore_n 3, 1) := by decide +kernel
theorem d_BJo_isCommon_36 : decode prog_5_method_6_code 36 = .ok (.iload_n 2, 1) := by decide +kernel
theorem d_BJo_isCommon_37 : decode prog_5_method_6_code 37 = .ok (.ifCond .lt 26, 3) := by decide +kernel
theorem d_BJo_isCommon_63 : decode prog_5_method_6_code 63 = .ok (.iconst 0, 1) := by decide +kernel
theorem d_BJo_isCommon_64 : decode prog_5_method_6_code 64 = .ok (.ireturn, 1) := by decide +kernel
theorem d_BJo_isCommon_40 : decode prog_5_method_6_code 40 = .ok (.iload_n 3, 1) := by decide +kernel
theorem d_BJo_isCommon_41 : decode prog_5_method_6_code 41 = .ok (.ifCond .lt 22, 3) := by decide +kernel
theorem d_BJo_isCommon_44 : decode prog_5_method_6_code 44 = .ok (.iload_n 2, 1) := by decide +kernel
theorem d_BJo_isCommon_45 : decode prog_5_method_6_code 45 = .ok (.iload_n 3, 1) := by decide +kernel
theorem d_BJo_isCommon_46 : decode prog_5_method_6_code 46 = .ok (.iconst 1, 1) := by decide +kernel
theorem d_BJo_isCommon_47 : decode prog_5_method_6_code 47 = .ok (.iadd, 1) := by decide +kernel
theorem d_BJo_isCommon_48 : decode prog_5_method_6_code 48 = .ok (.aload_n 0, 1) := by decide +kernel
theorem d_BJo_isCommon_49 : decode prog_5_method_6_code 49 = .ok (.getfield 20, 3) := by decide +kernel
theorem d_BJo_isCommon_52 : decode prog_5_method_6_code 52 = .ok (.getfield 41, 3) := by decide +kernel
theorem d_BJo_isCommon_55 : decode prog_5_method_6_code 55 = .ok (.irem, 1) := by decide +kernel
theorem d_BJo_isCommon_56 : decode prog_5_method_6_code 56 = .ok (.if_icmp .ne 7, 3) := by decide +kernel
theorem d_BJo_isCommon_59 : decode prog_5_method_6_code 59 = .ok (.iconst 1, 1) := by decide +kernel
theorem d_BJo_isCommon_60 : decode prog_5_method_6_code 60 = .ok (.goto 4, 3) := by decide +kernel
def wp_BJo_isCommon (post : Int → CS → Prop) (v0 : Nat) (v1 : Int) (T : CS) : Prop := tg T v0 = 4 ∧ ∃ q_1 : Nat, fo T v0 2 = some q_1 ∧ (tg T v0 = 4 ∧ ∃ q_2 : Nat, fo T v0 0 = some q_2 ∧ (tg T q_2 = 2 ∧ (wp_BMa_fmod (fun r_3 => tg T q_1 = 11 ∧ ixR r_3 (ln T q_1) ∧ (∀ v2_4 : Int, v2_4 = (fi T q_1 r_3.toNat) → tg T v0 = 4 ∧ ∃ q_5 : Nat, fo T v0 2 = some q_5 ∧ (tg T v0 = 4 ∧ ∃ q_6 : Nat, fo T v0 0 = some q_6 ∧ (tg T q_6 = 2 ∧ (wp_BMa_fmod (fun r_7 => tg T q_5 = 11 ∧ ixR r_7 (ln T q_5) ∧ (∀ v3_8 : Int, v3_8 = (fi T q_5 r_7.toNat) → inR v2_4 ∧ (v2_4 < 0 → post 0 T) ∧ (¬ (v2_4 < 0) → (inR v3_8 ∧ (v3_8 < 0 → post 0 T) ∧ (¬ (v3_8 < 0) → (tg T v0 = 4 ∧ ∃ q_9 : Nat, fo T v0 1 = some q_9 ∧ (tg T q_9 = 2 ∧ (dvR (v3_8 + 1) (fi T q_9 1) ∧ (inR v2_4 ∧ inR ((v3_8 + 1) % (fi T q_9 1)) ∧ (¬ (v2_4 = ((v3_8 + 1) % (fi T q_9 1))) → post 0 T) ∧ (v2_4 = ((v3_8 + 1) % (fi T q_9 1)) → post 1 T)))))))))) (v1 + 1) (fi T q_6 1)))))) v1 (fi T q_2 1))))
set_option maxHeartbeats 4000000 in
set_option maxRecDepth 100000 in
theorem c_BJo_isCommon (l : Launch) {D : va_G} {k : CK} {post : Int → CS → Prop} {v0 : Nat} {v1 : Int} {T : CS} (hw : wp_BJo_isCommon post v0 v1 T) : jCi l D k y_BJo_isCommon prog_5_method_6_code 4 (some .boolean) 1 22 0 0 T [.ref v0, vi v1] post := by
  refine j_coz (own := "LandBook$Joiner") (by decide) rfl (Nat.le_of_ble_eq_true rfl) (fun X F K hT hret => ?_)
  unfold wp_BJo_isCommon at hw
  show jat l D X 4 0 [(0, .ref v0), (1, vi v1)] [] (cwd k T) 0 0
  refine j_aload_n F 0 d_BJo_isCommon_0 rfl ?_
  obtain ⟨hc1, q_1, hc2, hw⟩ := hw
  refine c_getr F K hT 4 2 rfl tu_Joiner (by decide) (by decide) rfl tq_207 (Or.inl rfl) hc1 hc2 d_BJo_isCommon_1 ?_
  refine j_iload_n F 1 d_BJo_isCommon_4 rfl ?_
  refine j_aload_n F 0 d_BJo_isCommon_5 rfl ?_
  obtain ⟨hc1, q_2, hc2, hw⟩ := hw
  refine c_getr F K hT 4 0 rfl tu_Joiner (by decide) (by decide) rfl tq_206 (Or.inl rfl) hc1 hc2 d_BJo_isCommon_6 ?_
  obtain ⟨hc1, hw⟩ := hw
  refine c_geti F K hT 2 1 rfl tu_Points (by decide) (by decide) rfl tq_197 (Or.inl rfl) hc1 d_BJo_isCommon_9 ?_
  refine j_callS F (c_BMa_fmod l hw) (tw_gS tq_209 tq_122 tq_99 tq_123) q_BMa_fmod rfl ⟨by decide, by decide⟩ ⟨by omega, by omega⟩ rfl (Nat.le_of_ble_eq_true rfl) d_BJo_isCommon_12 (fun r_3 hw => ?_)
  obtain ⟨hc1, hc2, hw⟩ := hw
  refine c_iald F K hT hc1 hc2 d_BJo_isCommon_15 ?_
  refine j_nmi (fun v2_4 e_v2_4 => ?_)
  have hw := hw v2_4 e_v2_4
  refine j_istore_n F [(2, vi v2_4), (0, .ref v0), (1, vi v1)] d_BJo_isCommon_16 (by decide) rfl ?_
  refine j_aload_n F 1 d_BJo_isCommon_17 rfl ?_
  obtain ⟨hc1, q_5, hc2, hw⟩ := hw
  refine c_getr F K hT 4 2 rfl tu_Joiner (by decide) (by decide) rfl tq_207 (Or.inl rfl) hc1 hc2 d_BJo_isCommon_18 ?_
  refine j_iload_n F 2 d_BJo_isCommon_21 rfl ?_
  refine j_iconst F d_BJo_isCommon_22 ?_
  refine j_iadd F d_BJo_isCommon_23 ?_
  refine j_aload_n F 1 d_BJo_isCommon_24 rfl ?_
  obtain ⟨hc1, q_6, hc2, hw⟩ := hw
  refine c_getr F K hT 4 0 rfl tu_Joiner (by decide) (by decide) rfl tq_206 (Or.inl rfl) hc1 hc2 d_BJo_isCommon_25 ?_
  obtain ⟨hc1, hw⟩ := hw
  refine c_geti F K hT 2 1 rfl tu_Points (by decide) (by decide) rfl tq_197 (Or.inl rfl) hc1 d_BJo_isCommon_28 ?_
  refine j_callS F (c_BMa_fmod l hw) (tw_gS tq_209 tq_122 tq_99 tq_123) q_BMa_fmod rfl ⟨by decide, by decide⟩ ⟨by omega, by omega⟩ rfl (Nat.le_of_ble_eq_true rfl) d_BJo_isCommon_31 (fun r_7 hw => ?_)
  obtain ⟨hc1, hc2, hw⟩ := hw
  refine c_iald F K hT hc1 hc2 d_BJo_isCommon_34 ?_
  refine j_nmi (fun v3_8 e_v3_8 => ?_)
  have hw := hw v3_8 e_v3_8
  refine j_istore_n F [(3, vi v3_8), (2, vi v2_4), (0, .ref v0), (1, vi v1)] d_BJo_isCommon_35 (by decide) rfl ?_
  refine j_iload_n F 1 d_BJo_isCommon_36 rfl ?_
  obtain ⟨hc1, hwt, hwf⟩ := hw
  refine j_if_lt F 63 hc1 d_BJo_isCommon_37 rfl (fun hh => ?_) (fun hh => ?_)
  · have hw := hwt hh
    refine j_iconst F d_BJo_isCommon_63 ?_
    exact hret _ _ _ _ _ _ hw hT (by omega) (by omega) (Or.inl rfl) d_BJo_isCommon_64
  · have hw := hwf hh
    refine j_iload_n F 0 d_BJo_isCommon_40 rfl ?_
    obtain ⟨hc1, hwt, hwf⟩ := hw
    refine j_if_lt F 63 hc1 d_BJo_isCommon_41 rfl (fun hh => ?_) (fun hh => ?_)
    · have hw := hwt hh
      refine j_iconst F d_BJo_isCommon_63 ?_
      exact hret _ _ _ _ _ _ hw hT (by omega) (by omega) (Or.inl rfl) d_BJo_isCommon_64
    · have hw := hwf hh
      refine j_iload_n F 1 d_BJo_isCommon_44 rfl ?_
      refine j_iload_n F 0 d_BJo_isCommon_45 rfl ?_
      refine j_iconst F d_BJo_isCommon_46 ?_
      refine j_iadd F d_BJo_isCommon_47 ?_
      refine j_aload_n F 2 d_BJo_isCommon_48 rfl ?_
      obtain ⟨hc1, q_9, hc2, hw⟩ := hw
      refine c_getr F K hT 4 1 rfl tu_Joiner (by decide) (by decide) rfl tq_208 (Or.inl rfl) hc1 hc2 d_BJo_isCommon_49 ?_
      obtain ⟨hc1, hw⟩ := hw
      refine c_geti F K hT 2 1 rfl tu_Points (by decide) (by decide) rfl tq_197 (Or.inl rfl) hc1 d_BJo_isCommon_52 ?_
      obtain ⟨hc1, hw⟩ := hw
      refine j_irem F hc1 d_BJo_isCommon_55 ?_
      obtain ⟨hc1, hc2, hwt, hwf⟩ := hw
      refine j_icmp_ne F 63 hc1 hc2 d_BJo_isCommon_56 rfl (fun hh => ?_) (fun hh => ?_)
      · have hw := hwt hh
        refine j_iconst F d_BJo_isCommon_63 ?_
        exact hret _ _ _ _ _ _ hw hT (by omega) (by omega) (Or.inl rfl) d_BJo_isCommon_64
      · have hw := hwf hh
        refine j_iconst F d_BJo_isCommon_59 ?_
        refine j_goto F 64 d_BJo_isCommon_60 rfl ?_
        exact hret _ _ _ _ _ _ hw hT (by omega) (by omega) (Or.inr rfl) d_BJo_isCommon_64
theorem tq_210 : (Jvm.Cond.methodLink "LandBook$Joiner" (33 : Nat) ({ cls := "LandBook$Joiner", name := "refine", desc := "(LLandBook$Points;LLandBook$Points;LLandBook$Points;)V" } : Jvm.MethodName)) ∈ tw_G := tw_in (List.mem_of_getElem? (i := 791) (by decide +kernel)) rfl
theorem tq_211 : (Jvm.Cond.static ({ cls := "LandBook$Joiner", name := "refine", desc := "(LLandBook$Points;LLandBook$Points;LLandBook$Points;)V" } : Jvm.MethodName)) ∈ tw_G := tw_in (List.mem_of_getElem? (i := 792) (by decide +kernel)) rfl
theorem tq_212 : (Jvm.Cond.code ({ cls := "LandBook$Joiner", name := "refine", desc := "(LLandBook$Points;LLandBook$Points;LLandBook$Points;)V" } : Jvm.MethodName) prog_5_method_3_code (7 : Nat) (Option.none : Option Jvm.ClassFile.FieldType)) ∈ tw_G := tw_in (List.mem_of_getElem? (i := 793) (by decide +kernel)) rfl
theorem tq_213 : (Jvm.Cond.methodLink "LandBook$Joiner" (37 : Nat) ({ cls := "LandBook$Joiner", name := "matchCorners", desc := "()I" } : Jvm.MethodName)) ∈ tw_G := tw_in (List.mem_of_getElem? (i := 801) (by decide +kernel)) rfl
theorem tq_214 : (Jvm.Cond.instanceMethod ({ cls := "LandBook$Joiner", name := "matchCorners", desc := "()I" } : Jvm.MethodName)) ∈ tw_G := tw_in (List.mem_of_getElem? (i := 803) (by decide +kernel)) rfl
theorem tq_215 : (Jvm.Cond.selects "LandBook$Joiner" ⟨"LandBook$Joiner", "matchCorners", "()I"⟩ ⟨"LandBook$Joiner", "matchCorners", "()I"⟩) ∈ tw_G := tw_in (List.mem_of_getElem? (i := 17) (by decide +kernel)) rfl
theorem tq_216 : (Jvm.Cond.code ({ cls := "LandBook$Joiner", name := "matchCorners", desc := "()I" } : Jvm.MethodName) prog_5_method_5_code (4 : Nat) (Option.some Jvm.ClassFile.FieldType.int)) ∈ tw_G := tw_in (List.mem_of_getElem? (i := 804) (by decide +kernel)) rfl
theorem tq_217 : (Jvm.Cond.fieldLink "LandBook$Joiner" (27 : Nat) "LandBook$Joiner" "outline" "LLandBook$Points;") ∈ tw_G := tw_in (List.mem_of_getElem? (i := 146) (by decide +kernel)) rfl
theorem tq_218 : (Jvm.Cond.methodLink "LandBook$Joiner" (45 : Nat) ({ cls := "LandBook$Joiner", name := "isCommon", desc := "(I)Z" } : Jvm.MethodName)) ∈ tw_G := tw_in (List.mem_of_getElem? (i := 805) (by decide +kernel)) rfl
theorem tq_219 : (Jvm.Cond.instanceMethod ({ cls := "LandBook$Joiner", name := "isCommon", desc := "(I)Z" } : Jvm.MethodName)) ∈ tw_G := tw_in (List.mem_of_getElem? (i := 807) (by decide +kernel)) rfl
theorem tq_220 : (Jvm.Cond.selects "LandBook$Joiner" ⟨"LandBook$Joiner", "isCommon", "(I)Z"⟩ ⟨"LandBook$Joiner", "isCommon", "(I)Z"⟩) ∈ tw_G := tw_in (List.mem_of_getElem? (i := 18) (by decide +kernel)) rfl
theorem tq_221 : (Jvm.Cond.code ({ cls := "LandBook$Joiner", name := "isCommon", desc := "(I)Z" } : Jvm.MethodName) prog_5_method_6_code (4 : Nat) (Option.some Jvm.ClassFile.FieldType.boolean)) ∈ tw_G := tw_in (List.mem_of_getElem? (i := 808) (by decide +kernel)) rfl
theorem tq_222 : (Jvm.Cond.fieldLink "LandBook$Joiner" (30 : Nat) "LandBook$Joiner" "joined" "LLandBook$Points;") ∈ tw_G := tw_in (List.mem_of_getElem? (i := 147) (by decide +kernel)) rfl
theorem tq_223 : (Jvm.Cond.methodLink "LandBook$Joiner" (59 : Nat) ({ cls := "LandBook$Rings", name := "keep", desc := "(LLandBook$Points;LLandBook$Points;)V" } : Jvm.MethodName)) ∈ tw_G := tw_in (List.mem_of_getElem? (i := 810) (by decide +kernel)) rfl
abbrev y_BJo_join : MethodName := ⟨"LandBook$Joiner", "join", "(LLandBook$Points;LLandBook$Points;)Z"⟩
theorem q_BJo_join : y_BJo_join.cls = "LandBook$Joiner" ∧ y_BJo_join.cls ≠ "java/lang/invoke/MethodHandle" ∧ y_BJo_join.cls ≠ "java/lang/invoke/VarHandle" ∧ (parseMethodDescriptor y_BJo_join.desc).map (fun d => d.parameters.length) = some 2 := by decide +kernel
theorem d_BJo_join_0 : decode prog_5_method_2_code 0 = .ok (.aload_n 1, 1) := by decide +kernel
theorem d_BJo_join_1 : decode prog_5_method_2_code 1 = .ok (.aload_n 2, 1) := by decide +kernel
theorem d_BJo_join_2 : decode prog_5_method_2_code 2 = .ok (.aload_n 0, 1) := by decide +kernel
theorem d_BJo_join_3 : decode prog_5_method_2_code 3 = .ok (.getfield 16, 3) := by decide +kernel
theorem d_BJo_join_6 : decode prog_5_method_2_code 6 = .ok (.invokestatic 33, 3) := by decide +kernel
theorem d_BJo_join_9 : decode prog_5_method_2_code 9 = .ok (.aload_n 2, 1) := by decide +kernel
theorem d_BJo_join_10 : decode prog_5_method_2_code 10 = .ok (.aload_n 1, 1) := by decide +kernel
theorem d_BJo_join_11 : decode prog_5_method_2_code 11 = .ok (.aload_n 0, 1) := by decide +kernel
theorem d_BJo_join_12 : decode prog_5_method_2_code 12 = .ok (.getfield 20, 3) := by decide +kernel
theorem d_BJo_join_15 : decode prog_5_method_2_code 15 = .ok (.invokestatic 33, 3) := by decide +kernel
theorem d_BJo_join_18 : decode prog_5_method_2_code 18 = .ok (.aload_n 0, 1) := by decide +kernel
theorem d_BJo_join_19 : decode prog_5_method_2_code 19 = .ok (.invokevirtual 37, 3) := by decide +kernel
theorem d_BJo_join_22 : decode prog_5_method_2_code 22 = .ok (.istore_n 3, 1) := by decide +kernel
theorem d_BJo_join_23 : decode prog_5_method_2_code 23 = .ok (.iconst 0, 1) := by decide +kernel
theorem d_BJo_join_24 : decode prog_5_method_2_code 24 = .ok (.istore 4, 2) := by decide +kernel
theorem d_BJo_join_26 : decode prog_5_method_2_code 26 = .ok (.iconst 0, 1) := by decide +kernel
theorem d_BJo_join_27 : decode prog_5_method_2_code 27 = .ok (.istore 5, 2) := by decide +kernel
theorem d_BJo_join_29 : decode prog_5_method_2_code 29 = .ok (.iconst 0, 1) := by decide +kernel
theorem d_BJo_join_30 : decode prog_5_method_2_code 30 = .ok (.istore 6, 2) := by decide +kernel
theorem d_BJo_join_32 : decode prog_5_method_2_code 32 = .ok (.iconst 0, 1) := by decide +kernel
theorem d_BJo_join_33 : decode prog_5_method_2_code 33 = .ok (.istore 7, 2) := by decide +kernel
theorem d_BJo_join_35 : decode prog_5_method_2_code 35 = .ok (.iload 7, 2) := by decide +kernel
theorem d_BJo_join_37 : decode prog_5_method_2_code 37 = .ok (.aload_n 0, 1) := by decide +kernel
theorem d_BJo_join_38 : decode prog_5_method_2_code 38 = .ok (.getfield 16, 3) := by decide +kernel
theorem d_BJo_join_41 : decode prog_5_method_2_code 41 = .ok (.getfield 41, 3) := by decide +kernel
theorem d_BJo_join_44 : decode prog_5_method_2_code 44 = .ok (.if_icmp .ge 39, 3) := by decide +kernel
theorem d_BJo_join_83 : decode prog_5_method_2_code 83 = .ok (.iload 5, 2) := by decide +kernel
theorem d_BJo_join_85 : decode prog_5_method_2_code 85 = .ok (.iconst 1, 1) := by decide +kernel
theorem d_BJo_join_86 : decode prog_5_method_2_code 86 = .ok (.if_icmp .ne 11, 3) := by decide +kernel
theorem d_BJo_join_97 : decode prog_5_method_2_code 97 = .ok (.iconst 0, 1) := by decide +kernel
theorem d_BJo_join_98 : decode prog_5_method_2_code 98 = .ok (.ireturn, 1) := by decide +kernel
theorem d_BJo_join_89 : decode prog_5_method_2_code 89 = .ok (.iload_n 3, 1) := by decide +kernel
theorem d_BJo_join_90 : decode prog_5_method_2_code 90 = .ok (.iload 4, 2) := by decide +kernel
theorem d_BJo_join_92 : decode prog_5_method_2_code 92 = .ok (.iconst 1, 1) := by decide +kernel
theorem d_BJo_join_93 : decode prog_5_method_2_code 93 = .ok (.iadd, 1) := by decide +kernel
theorem d_BJo_join_94 : decode prog_5_method_2_code 94 = .ok (.if_icmp .eq 5, 3) := by decide +kernel
theorem d_BJo_join_99 : decode prog_5_method_2_code 99 = .ok (.aload_n 0, 1) := by decide +kernel
theorem d_BJo_join_100 : decode prog_5_method_2_code 100 = .ok (.getfield 27, 3) := by decide +kernel
theorem d_BJo_join_103 : decode prog_5_method_2_code 103 = .ok (.invokevirtual 49, 3) := by decide +kernel
theorem d_BJo_join_106 : decode prog_5_method_2_code 106 = .ok (.iload 4, 2) := by decide +kernel
theorem d_BJo_join_108 : decode prog_5_method_2_code 108 = .ok (.istore 7, 2) := by decide +kernel
theorem d_BJo_join_47 : decode prog_5_method_2_code 47 = .ok (.aload_n 0, 1) := by decide +kernel
theorem d_BJo_join_48 : decode prog_5_method_2_code 48 = .ok (.iload 7, 2) := by decide +kernel
theorem d_BJo_join_50 : decode prog_5_method_2_code 50 = .ok (.invokevirtual 45, 3) := by decide +kernel
theorem d_BJo_join_53 : decode prog_5_method_2_code 53 = .ok (.ifCond .eq 24, 3) := by decide +kernel
theorem d_BJo_join_56 : decode prog_5_method_2_code 56 = .ok (.iinc 4 1, 3) := by decide +kernel
theorem d_BJo_join_59 : decode prog_5_method_2_code 59 = .ok (.aload_n 0, 1) := by decide +kernel
theorem d_BJo_join_60 : decode prog_5_method_2_code 60 = .ok (.iload 7, 2) := by decide +kernel
theorem d_BJo_join_62 : decode prog_5_method_2_code 62 = .ok (.iconst 1, 1) := by decide +kernel
theorem d_BJo_join_63 : decode prog_5_method_2_code 63 = .ok (.isub, 1) := by decide +kernel
theorem d_BJo_join_64 : decode prog_5_method_2_code 64 = .ok (.invokevirtual 45, 3) := by decide +kernel
theorem d_BJo_join_67 : decode prog_5_method_2_code 67 = .ok (.ifCond .ne 10, 3) := by decide +kernel
theorem d_BJo_join_70 : decode prog_5_method_2_code 70 = .ok (.iinc 5 1, 3) := by decide +kernel
theorem d_BJo_join_73 : decode prog_5_method_2_code 73 = .ok (.iload 7, 2) := by decide +kernel
theorem d_BJo_join_75 : decode prog_5_method_2_code 75 = .ok (.istore 6, 2) := by decide +kernel
theorem d_BJo_join_110 : decode prog_5_method_2_code 110 = .ok (.iload 7, 2) := by decide +kernel
theorem d_BJo_join_112 : decode prog_5_method_2_code 112 = .ok (.aload_n 0, 1) := by decide +kernel
theorem d_BJo_join_113 : decode prog_5_method_2_code 113 = .ok (.getfield 16, 3) := by decide +kernel
theorem d_BJo_join_116 : decode prog_5_method_2_code 116 = .ok (.getfield 41, 3) := by decide +kernel
theorem d_BJo_join_119 : decode prog_5_method_2_code 119 = .ok (.if_icmp .gt 28, 3) := by decide +kernel
theorem d_BJo_join_147 : decode prog_5_method_2_code 147 = .ok (.iconst 1, 1) := by decide +kernel
theorem d_BJo_join_148 : decode prog_5_method_2_code 148 = .ok (.istore 7, 2) := by decide +kernel
theorem d_BJo_join_122 : decode prog_5_method_2_code 122 = .ok (.aload_n 0, 1) := by decide +kernel
theorem d_BJo_join_123 : decode prog_5_method_2_code 123 = .ok (.getfield 27, 3) := by decide +kernel
theorem d_BJo_join_126 : decode prog_5_method_2_code 126 = .ok (.aload_n 0, 1) := by decide +kernel
theorem d_BJo_join_127 : decode prog_5_method_2_code 127 = .ok (.getfield 16, 3) := by decide +kernel
theorem d_BJo_join_130 : decode prog_5_method_2_code 130 = .ok (.iload 6, 2) := by decide +kernel
theorem d_BJo_join_132 : decode prog_5_method_2_code 132 = .ok (.iload 7, 2) := by decide +kernel
theorem d_BJo_join_134 : decode prog_5_method_2_code 134 = .ok (.iadd, 1) := by decide +kernel
theorem d_BJo_join_135 : decode prog_5_method_2_code 135 = .ok (.invokevirtual 52, 3) := by decide +kernel
theorem d_BJo_join_138 : decode prog_5_method_2_code 138 = .ok (.invokevirtual 56, 3) := by decide +kernel
theorem d_BJo_join_141 : decode prog_5_method_2_code 141 = .ok (.iinc 7 1, 3) := by decide +kernel
theorem d_BJo_join_144 : decode prog_5_method_2_code 144 = .ok (.goto (-34), 3) := by decide +kernel
theorem d_BJo_join_77 : decode prog_5_method_2_code 77 = .ok (.iinc 7 1, 3) := by decide +kernel
theorem d_BJo_join_80 : decode prog_5_method_2_code 80 = .ok (.goto (-45), 3) := by decide +kernel
theorem d_BJo_join_150 : decode prog_5_method_2_code 150 = .ok (.iload 7, 2) := by decide +kernel
theorem d_BJo_join_152 : decode prog_5_method_2_code 152 = .ok (.aload_n 0, 1) := by decide +kernel
theorem d_BJo_join_153 : decode prog_5_method_2_code 153 = .ok (.getfield 20, 3) := by decide +kernel
theorem d_BJo_join_156 : decode prog_5_method_2_code 156 = .ok (.getfield 41, 3) := by decide +kernel
theorem d_BJo_join_159 : decode prog_5_method_2_code 159 = .ok (.iload 4, 2) := by decide +kernel
theorem d_BJo_join_161 : decode prog_5_method_2_code 161 = .ok (.isub, 1) := by decide +kernel
theorem d_BJo_join_162 : decode prog_5_method_2_code 162 = .ok (.if_icmp .ge 33, 3) := by decide +kernel
theorem d_BJo_join_195 : decode prog_5_method_2_code 195 = .ok (.aload_n 0, 1) := by decide +kernel
theorem d_BJo_join_196 : decode prog_5_method_2_code 196 = .ok (.getfield 27, 3) := by decide +kernel
theorem d_BJo_join_199 : decode prog_5_method_2_code 199 = .ok (.aload_n 0, 1) := by decide +kernel
theorem d_BJo_join_200 : decode prog_5_method_2_code 200 = .ok (.getfield 30, 3) := by decide +kernel
theorem d_BJo_join_203 : decode prog_5_method_2_code 203 = .ok (.invokestatic 59, 3) := by decide +kernel
theorem d_BJo_join_206 : decode prog_5_method_2_code 206 = .ok (.iconst 1, 1) := by decide +kernel
theorem d_BJo_join_207 : decode prog_5_method_2_code 207 = .ok (.ireturn, 1) := by decide +kernel
theorem d_BJo_join_165 : decode prog_5_method_2_code 165 = .ok (.aload_n 0, 1) := by decide +kernel
theorem d_BJo_join_166 : decode prog_5_method_2_code 166 = .ok (.getfield 27, 3) := by decide +kernel
theorem d_BJo_join_169 : decode prog_5_method_2_code 169 = .ok (.aload_n 0, 1) := by decide +kernel
theorem d_BJo_join_170 : decode prog_5_method_2_code 170 = .ok (.getfield 20, 3) := by decide +kernel
theorem d_BJo_join_173 : decode prog_5_method_2_code 173 = .ok (.aload_n 0, 1) := by decide +kernel
theorem d_BJo_join_174 : decode prog_5_method_2_code 174 = .ok (.getfield 23, 3) := by decide +kernel
theorem d_BJo_join_177 : decode prog_5_method_2_code 177 = .ok (.iload 6, 2) := by decide +kernel
theorem d_BJo_join_179 : decode prog_5_method_2_code 179 = .ok (.iaload, 1) := by decide +kernel
theorem d_BJo_join_180 : decode prog_5_method_2_code 180 = .ok (.iload 7, 2) := by decide +kernel
theorem d_BJo_join_182 : decode prog_5_method_2_code 182 = .ok (.iadd, 1) := by decide +kernel
theorem d_BJo_join_183 : decode prog_5_method_2_code 183 = .ok (.invokevirtual 52, 3) := by decide +kernel
theorem d_BJo_join_186 : decode prog_5_method_2_code 186 = .ok (.invokevirtual 56, 3) := by decide +kernel
theorem d_BJo_join_189 : decode prog_5_method_2_code 189 = .ok (.iinc 7 1, 3) := by decide +kernel
theorem d_BJo_join_192 : decode prog_5_method_2_code 192 = .ok (.goto (-42), 3) := by decide +kernel
def wp_BJo_join_150 (post : Int → CS → Prop) : Nat → Nat → Int → Int → Int → CS → Prop
  | 0, _, _, _, _, _ => False
  | n + 1, v0, v4, v6, v7, T => tg T v0 = 4 ∧ ∃ q_1 : Nat, fo T v0 1 = some q_1 ∧ (tg T q_1 = 2 ∧ (inR v7 ∧ inR ((fi T q_1 1) - v4) ∧ (((fi T q_1 1) - v4) ≤ v7 → (tg T v0 = 4 ∧ ∃ q_2 : Nat, fo T v0 3 = some q_2 ∧ (tg T v0 = 4 ∧ ∃ q_3 : Nat, fo T v0 4 = some q_3 ∧ (wp_BRi_keep (fun T_4 => post 1 T_4) q_2 q_3 T)))) ∧ (¬ (((fi T q_1 1) - v4) ≤ v7) → (tg T v0 = 4 ∧ ∃ q_6 : Nat, fo T v0 3 = some q_6 ∧ (tg T v0 = 4 ∧ ∃ q_7 : Nat, fo T v0 1 = some q_7 ∧ (tg T v0 = 4 ∧ ∃ q_8 : Nat, fo T v0 2 = some q_8 ∧ (tg T q_8 = 11 ∧ ixR v6 (ln T q_8) ∧ (tg T q_7 = 2 ∧ wp_BPt_at (fun r_10 T_9 => tg T_9 q_6 = 2 ∧ wp_BPt_add (fun T_11 => (wp_BJo_join_150 post n) v0 v4 v6 (v7 + 1) T_11) q_6 r_10 T_9) q_7 ((fi T q_8 v6.toNat) + v7) T))))))))
def wp_BJo_join_110 (post : Int → CS → Prop) : Nat → Nat → Int → Int → Int → CS → Prop
  | 0, _, _, _, _, _ => False
  | n + 1, v0, v4, v6, v7, T => tg T v0 = 4 ∧ ∃ q_1 : Nat, fo T v0 0 = some q_1 ∧ (tg T q_1 = 2 ∧ (inR v7 ∧ inR (fi T q_1 1) ∧ ((fi T q_1 1) < v7 → (∃ nn : Nat, wp_BJo_join_150 post nn v0 v4 v6 1 T)) ∧ (¬ ((fi T q_1 1) < v7) → (tg T v0 = 4 ∧ ∃ q_2 : Nat, fo T v0 3 = some q_2 ∧ (tg T v0 = 4 ∧ ∃ q_3 : Nat, fo T v0 0 = some q_3 ∧ (tg T q_3 = 2 ∧ wp_BPt_at (fun r_5 T_4 => tg T_4 q_2 = 2 ∧ wp_BPt_add (fun T_6 => (wp_BJo_join_110 post n) v0 v4 v6 (v7 + 1) T_6) q_2 r_5 T_4) q_3 (v6 + v7) T))))))
def wp_BJo_join_77 (post : Int → CS → Prop) (k35 : Nat → Int → Int → Int → Int → Int → CS → Prop) (v0 : Nat) (v3 : Int) (v4 : Int) (v5 : Int) (v6 : Int) (v7 : Int) (T : CS) : Prop := k35 v0 v3 v4 v5 v6 (v7 + 1) T
def wp_BJo_join_35 (post : Int → CS → Prop) : Nat → Nat → Int → Int → Int → Int → Int → CS → Prop
  | 0, _, _, _, _, _, _, _ => False
  | n + 1, v0, v3, v4, v5, v6, v7, T => tg T v0 = 4 ∧ ∃ q_1 : Nat, fo T v0 0 = some q_1 ∧ (tg T q_1 = 2 ∧ (inR v7 ∧ inR (fi T q_1 1) ∧ ((fi T q_1 1) ≤ v7 → (inR v5 ∧ (¬ (v5 = 1) → post 0 T) ∧ (v5 = 1 → (inR v3 ∧ inR (v4 + 1) ∧ (v3 = (v4 + 1) → (tg T v0 = 4 ∧ ∃ q_2 : Nat, fo T v0 3 = some q_2 ∧ (tg T q_2 = 2 ∧ wp_BPt_clear (fun T_3 => ∃ nn : Nat, wp_BJo_join_110 post nn v0 v4 v6 v4 T_3) q_2 T))) ∧ (¬ (v3 = (v4 + 1)) → post 0 T))))) ∧ (¬ ((fi T q_1 1) ≤ v7) → (tg T v0 = 4 ∧ wp_BJo_isCommon (fun r_6 T_5 => inR r_6 ∧ (r_6 = 0 → wp_BJo_join_77 post (wp_BJo_join_35 post n) v0 v3 v4 v5 v6 v7 T_5) ∧ (¬ (r_6 = 0) → (tg T_5 v0 = 4 ∧ wp_BJo_isCommon (fun r_8 T_7 => inR r_8 ∧ (¬ (r_8 = 0) → (wp_BJo_join_77 post (wp_BJo_join_35 post n) v0 v3 (v4 + 1) v5 v6 v7 T_7)) ∧ (r_8 = 0 → (wp_BJo_join_77 post (wp_BJo_join_35 post n) v0 v3 (v4 + 1) (v5 + 1) v7 v7 T_7))) v0 (v7 - 1) T_5))) v0 v7 T))))
def wp_BJo_join (post : Int → CS → Prop) (v0 : Nat) (v1 : Nat) (v2 : Nat) (T : CS) : Prop := tg T v0 = 4 ∧ ∃ q_1 : Nat, fo T v0 0 = some q_1 ∧ (wp_BJo_refine (fun T_2 => tg T_2 v0 = 4 ∧ ∃ q_4 : Nat, fo T_2 v0 1 = some q_4 ∧ (wp_BJo_refine (fun T_5 => tg T_5 v0 = 4 ∧ wp_BJo_matchCorners (fun r_8 T_7 => ∃ nn : Nat, wp_BJo_join_35 post nn v0 r_8 0 0 0 0 T_7) v0 T_5) v2 v1 q_4 T_2)) v1 v2 q_1 T)
set_option maxHeartbeats 4000000 in
set_option maxRecDepth 100000 in
theorem c_BJo_join (l : Launch) {D : va_G} {k : CK} {post : Int → CS → Prop} {v0 : Nat} {v1 : Nat} {v2 : Nat} {T : CS} (hw : wp_BJo_join post v0 v1 v2 T) : jCi l D k y_BJo_join prog_5_method_2_code 8 (some .boolean) 5 115 0 0 T [.ref v0, .ref v1, .ref v2] post := by
  refine j_coz (own := "LandBook$Joiner") (by decide) rfl (Nat.le_of_ble_eq_true rfl) (fun X F K hT hret => ?_)
  have B150 : ∀ (nn : Nat) (v0 : Nat) (v4 : Int) (v6 : Int) (v7 : Int) (T : CS), cs_ok k T → wp_BJo_join_150 post nn v0 v4 v6 v7 T → jat l D X 8 150 [(0, .ref v0), (4, vi v4), (6, vi v6), (7, vi v7)] [] (cwd k T) 0 0 := by
    intro nn
    induction nn with
    | zero => intro v0 v4 v6 v7 T hT hw; exact hw.elim
    | succ n150 ih150 =>
      intro v0 v4 v6 v7 T hT hw
      unfold wp_BJo_join_150 at hw
      refine j_iload F 3 d_BJo_join_150 rfl ?_
      refine j_aload_n F 0 d_BJo_join_152 rfl ?_
      obtain ⟨hc1, q_1, hc2, hw⟩ := hw
      refine c_getr F K hT 4 1 rfl tu_Joiner (by decide) (by decide) rfl tq_208 (Or.inl rfl) hc1 hc2 d_BJo_join_153 ?_
      obtain ⟨hc1, hw⟩ := hw
      refine c_geti F K hT 2 1 rfl tu_Points (by decide) (by decide) rfl tq_197 (Or.inl rfl) hc1 d_BJo_join_156 ?_
      refine j_iload F 1 d_BJo_join_159 rfl ?_
      refine j_isub F d_BJo_join_161 ?_
      obtain ⟨hc1, hc2, hwt, hwf⟩ := hw
      refine j_icmp_ge F 195 hc1 hc2 d_BJo_join_162 rfl (fun hh => ?_) (fun hh => ?_)
      · have hw := hwt hh
        refine j_aload_n F 0 d_BJo_join_195 rfl ?_
        obtain ⟨hc1, q_2, hc2, hw⟩ := hw
        refine c_getr F K hT 4 3 rfl tu_Joiner (by decide) (by decide) rfl tq_217 (Or.inl rfl) hc1 hc2 d_BJo_join_196 ?_
        refine j_aload_n F 0 d_BJo_join_199 rfl ?_
        obtain ⟨hc1, q_3, hc2, hw⟩ := hw
        refine c_getr F K hT 4 4 rfl tu_Joiner (by decide) (by decide) rfl tq_222 (Or.inl rfl) hc1 hc2 d_BJo_join_200 ?_
        refine c_callSv F K hT (c_BRi_keep l hw) (tw_gS tq_223 tq_194 tq_146 tq_195) q_BRi_keep rfl ⟨by decide, by decide⟩ ⟨by omega, by omega⟩ rfl (Nat.le_of_ble_eq_true rfl) d_BJo_join_203 (fun T_4 hw hT => ?_)
        refine j_iconst F d_BJo_join_206 ?_
        exact hret _ _ _ _ _ _ hw hT (by omega) (by omega) (Or.inr rfl) d_BJo_join_207
      · have hw := hwf hh
        refine j_aload_n F 0 d_BJo_join_165 rfl ?_
        obtain ⟨hc1, q_6, hc2, hw⟩ := hw
        refine c_getr F K hT 4 3 rfl tu_Joiner (by decide) (by decide) rfl tq_217 (Or.inl rfl) hc1 hc2 d_BJo_join_166 ?_
        refine j_aload_n F 0 d_BJo_join_169 rfl ?_
        obtain ⟨hc1, q_7, hc2, hw⟩ := hw
        refine c_getr F K hT 4 1 rfl tu_Joiner (by decide) (by decide) rfl tq_208 (Or.inl rfl) hc1 hc2 d_BJo_join_170 ?_
        refine j_aload_n F 0 d_BJo_join_173 rfl ?_
        obtain ⟨hc1, q_8, hc2, hw⟩ := hw
        refine c_getr F K hT 4 2 rfl tu_Joiner (by decide) (by decide) rfl tq_207 (Or.inl rfl) hc1 hc2 d_BJo_join_174 ?_
        refine j_iload F 2 d_BJo_join_177 rfl ?_
        obtain ⟨hc1, hc2, hw⟩ := hw
        refine c_iald F K hT hc1 hc2 d_BJo_join_179 ?_
        refine j_iload F 3 d_BJo_join_180 rfl ?_
        refine j_iadd F d_BJo_join_182 ?_
        obtain ⟨hg1, hw⟩ := hw
        refine c_callVi F K hT (c_BPt_at l hw) (tw_gV tq_198 tq_136 tq_137 tq_126 tq_138) 2 rfl (by decide) hg1 q_BPt_at rfl ⟨by decide, by decide⟩ ⟨by omega, by omega⟩ rfl (Nat.le_of_ble_eq_true rfl) d_BJo_join_183 (fun r_10 T_9 hw hT => ?_)
        obtain ⟨hg1, hw⟩ := hw
        refine c_callVv F K hT (c_BPt_add l hw) (tw_gV tq_201 tq_131 tq_132 tq_126 tq_133) 2 rfl (by decide) hg1 q_BPt_add rfl ⟨by decide, by decide⟩ ⟨by omega, by omega⟩ rfl (Nat.le_of_ble_eq_true rfl) d_BJo_join_186 (fun T_11 hw hT => ?_)
        refine j_iinc F 3 [(7, vi (v7 + 1)), (0, .ref v0), (4, vi v4), (6, vi v6)] d_BJo_join_189 rfl (by decide) rfl ?_
        refine j_goto F 150 d_BJo_join_192 rfl ?_
        refine j_sub [1, 2, 3, 0] rfl ?_
        exact ih150 _ _ _ _ _ hT hw
  have B110 : ∀ (nn : Nat) (v0 : Nat) (v4 : Int) (v6 : Int) (v7 : Int) (T : CS), cs_ok k T → wp_BJo_join_110 post nn v0 v4 v6 v7 T → jat l D X 8 110 [(0, .ref v0), (4, vi v4), (6, vi v6), (7, vi v7)] [] (cwd k T) 0 0 := by
    intro nn
    induction nn with
    | zero => intro v0 v4 v6 v7 T hT hw; exact hw.elim
    | succ n110 ih110 =>
      intro v0 v4 v6 v7 T hT hw
      unfold wp_BJo_join_110 at hw
      refine j_iload F 3 d_BJo_join_110 rfl ?_
      refine j_aload_n F 0 d_BJo_join_112 rfl ?_
      obtain ⟨hc1, q_1, hc2, hw⟩ := hw
      refine c_getr F K hT 4 0 rfl tu_Joiner (by decide) (by decide) rfl tq_206 (Or.inl rfl) hc1 hc2 d_BJo_join_113 ?_
      obtain ⟨hc1, hw⟩ := hw
      refine c_geti F K hT 2 1 rfl tu_Points (by decide) (by decide) rfl tq_197 (Or.inl rfl) hc1 d_BJo_join_116 ?_
      obtain ⟨hc1, hc2, hwt, hwf⟩ := hw
      refine j_icmp_gt F 147 hc1 hc2 d_BJo_join_119 rfl (fun hh => ?_) (fun hh => ?_)
      · have hw := hwt hh
        refine j_iconst F d_BJo_join_147 ?_
        refine j_istore F [(7, vi 1), (0, .ref v0), (4, vi v4), (6, vi v6)] d_BJo_join_148 (by decide) rfl ?_
        refine j_sub [1, 2, 3, 0] rfl ?_
        obtain ⟨nn, hw⟩ := hw
        exact B150 nn _ _ _ _ _ hT hw
      · have hw := hwf hh
        refine j_aload_n F 0 d_BJo_join_122 rfl ?_
        obtain ⟨hc1, q_2, hc2, hw⟩ := hw
        refine c_getr F K hT 4 3 rfl tu_Joiner (by decide) (by decide) rfl tq_217 (Or.inl rfl) hc1 hc2 d_BJo_join_123 ?_
        refine j_aload_n F 0 d_BJo_join_126 rfl ?_
        obtain ⟨hc1, q_3, hc2, hw⟩ := hw
        refine c_getr F K hT 4 0 rfl tu_Joiner (by decide) (by decide) rfl tq_206 (Or.inl rfl) hc1 hc2 d_BJo_join_127 ?_
        refine j_iload F 2 d_BJo_join_130 rfl ?_
        refine j_iload F 3 d_BJo_join_132 rfl ?_
        refine j_iadd F d_BJo_join_134 ?_
        obtain ⟨hg1, hw⟩ := hw
        refine c_callVi F K hT (c_BPt_at l hw) (tw_gV tq_198 tq_136 tq_137 tq_126 tq_138) 2 rfl (by decide) hg1 q_BPt_at rfl ⟨by decide, by decide⟩ ⟨by omega, by omega⟩ rfl (Nat.le_of_ble_eq_true rfl) d_BJo_join_135 (fun r_5 T_4 hw hT => ?_)
        obtain ⟨hg1, hw⟩ := hw
        refine c_callVv F K hT (c_BPt_add l hw) (tw_gV tq_201 tq_131 tq_132 tq_126 tq_133) 2 rfl (by decide) hg1 q_BPt_add rfl ⟨by decide, by decide⟩ ⟨by omega, by omega⟩ rfl (Nat.le_of_ble_eq_true rfl) d_BJo_join_138 (fun T_6 hw hT => ?_)
        refine j_iinc F 3 [(7, vi (v7 + 1)), (0, .ref v0), (4, vi v4), (6, vi v6)] d_BJo_join_141 rfl (by decide) rfl ?_
        refine j_goto F 110 d_BJo_join_144 rfl ?_
        refine j_sub [1, 2, 3, 0] rfl ?_
        exact ih110 _ _ _ _ _ hT hw
  have B35 : ∀ (nn : Nat) (v0 : Nat) (v3 : Int) (v4 : Int) (v5 : Int) (v6 : Int) (v7 : Int) (T : CS), cs_ok k T → wp_BJo_join_35 post nn v0 v3 v4 v5 v6 v7 T → jat l D X 8 35 [(0, .ref v0), (3, vi v3), (4, vi v4), (5, vi v5), (6, vi v6), (7, vi v7)] [] (cwd k T) 0 0 := by
    intro nn
    induction nn with
    | zero => intro v0 v3 v4 v5 v6 v7 T hT hw; exact hw.elim
    | succ n35 ih35 =>
      have B77 : ∀ (v0 : Nat) (v3 : Int) (v4 : Int) (v5 : Int) (v6 : Int) (v7 : Int) (T : CS), cs_ok k T → wp_BJo_join_77 post (wp_BJo_join_35 post n35) v0 v3 v4 v5 v6 v7 T → jat l D X 8 77 [(0, .ref v0), (3, vi v3), (4, vi v4), (5, vi v5), (6, vi v6), (7, vi v7)] [] (cwd k T) 0 0 := by
        intro v0 v3 v4 v5 v6 v7 T hT hw
        unfold wp_BJo_join_77 at hw
        refine j_iinc F 5 [(7, vi (v7 + 1)), (0, .ref v0), (3, vi v3), (4, vi v4), (5, vi v5), (6, vi v6)] d_BJo_join_77 rfl (by decide) rfl ?_
        refine j_goto F 35 d_BJo_join_80 rfl ?_
        refine j_sub [1, 2, 3, 4, 5, 0] rfl ?_
        exact ih35 _ _ _ _ _ _ _ hT hw
      intro v0 v3 v4 v5 v6 v7 T hT hw
      unfold wp_BJo_join_35 at hw
      refine j_iload F 5 d_BJo_join_35 rfl ?_
      refine j_aload_n F 0 d_BJo_join_37 rfl ?_
      obtain ⟨hc1, q_1, hc2, hw⟩ := hw
      refine c_getr F K hT 4 0 rfl tu_Joiner (by decide) (by decide) rfl tq_206 (Or.inl rfl) hc1 hc2 d_BJo_join_38 ?_
      obtain ⟨hc1, hw⟩ := hw
      refine c_geti F K hT 2 1 rfl tu_Points (by decide) (by decide) rfl tq_197 (Or.inl rfl) hc1 d_BJo_join_41 ?_
      obtain ⟨hc1, hc2, hwt, hwf⟩ := hw
      refine j_icmp_ge F 83 hc1 hc2 d_BJo_join_44 rfl (fun hh => ?_) (fun hh => ?_)
      · have hw := hwt hh
        refine j_iload F 3 d_BJo_join_83 rfl ?_
        refine j_iconst F d_BJo_join_85 ?_
        obtain ⟨hc1, hwt, hwf⟩ := hw
        refine j_icmp_ne F 97 hc1 ⟨by decide, by decide⟩ d_BJo_join_86 rfl (fun hh => ?_) (fun hh => ?_)
        · have hw := hwt hh
          refine j_iconst F d_BJo_join_97 ?_
          exact hret _ _ _ _ _ _ hw hT (by omega) (by omega) (Or.inl rfl) d_BJo_join_98
        · have hw := hwf hh
          refine j_iload_n F 1 d_BJo_join_89 rfl ?_
          refine j_iload F 2 d_BJo_join_90 rfl ?_
          refine j_iconst F d_BJo_join_92 ?_
          refine j_iadd F d_BJo_join_93 ?_
          obtain ⟨hc1, hc2, hwt, hwf⟩ := hw
          refine j_icmp_eq F 99 hc1 hc2 d_BJo_join_94 rfl (fun hh => ?_) (fun hh => ?_)
          · have hw := hwt hh
            refine j_aload_n F 0 d_BJo_join_99 rfl ?_
            obtain ⟨hc1, q_2, hc2, hw⟩ := hw
            refine c_getr F K hT 4 3 rfl tu_Joiner (by decide) (by decide) rfl tq_217 (Or.inl rfl) hc1 hc2 d_BJo_join_100 ?_
            obtain ⟨hg1, hw⟩ := hw
            refine c_callVv F K hT (c_BPt_clear l hw) (tw_gV tq_200 tq_149 tq_150 tq_126 tq_151) 2 rfl (by decide) hg1 q_BPt_clear rfl ⟨by decide, by decide⟩ ⟨by omega, by omega⟩ rfl (Nat.le_of_ble_eq_true rfl) d_BJo_join_103 (fun T_3 hw hT => ?_)
            refine j_iload F 2 d_BJo_join_106 rfl ?_
            refine j_istore F [(7, vi v4), (0, .ref v0), (3, vi v3), (4, vi v4), (5, vi v5), (6, vi v6)] d_BJo_join_108 (by decide) rfl ?_
            refine j_sub [1, 3, 5, 0] rfl ?_
            obtain ⟨nn, hw⟩ := hw
            exact B110 nn _ _ _ _ _ hT hw
          · have hw := hwf hh
            refine j_iconst F d_BJo_join_97 ?_
            exact hret _ _ _ _ _ _ hw hT (by omega) (by omega) (Or.inl rfl) d_BJo_join_98
      · have hw := hwf hh
        refine j_aload_n F 0 d_BJo_join_47 rfl ?_
        refine j_iload F 5 d_BJo_join_48 rfl ?_
        obtain ⟨hg1, hw⟩ := hw
        refine c_callVi F K hT (c_BJo_isCommon l hw) (tw_gV tq_218 tq_219 tq_220 tq_204 tq_221) 4 rfl (by decide) hg1 q_BJo_isCommon rfl ⟨by decide, by decide⟩ ⟨by omega, by omega⟩ rfl (Nat.le_of_ble_eq_true rfl) d_BJo_join_50 (fun r_6 T_5 hw hT => ?_)
        obtain ⟨hc1, hwt, hwf⟩ := hw
        refine j_if_eq F 77 hc1 d_BJo_join_53 rfl (fun hh => ?_) (fun hh => ?_)
        · have hw := hwt hh
          exact B77 _ _ _ _ _ _ _ hT hw
        · have hw := hwf hh
          refine j_iinc F 2 [(4, vi (v4 + 1)), (0, .ref v0), (3, vi v3), (5, vi v5), (6, vi v6), (7, vi v7)] d_BJo_join_56 rfl (by decide) rfl ?_
          refine j_aload_n F 1 d_BJo_join_59 rfl ?_
          refine j_iload F 5 d_BJo_join_60 rfl ?_
          refine j_iconst F d_BJo_join_62 ?_
          refine j_isub F d_BJo_join_63 ?_
          obtain ⟨hg1, hw⟩ := hw
          refine c_callVi F K hT (c_BJo_isCommon l hw) (tw_gV tq_218 tq_219 tq_220 tq_204 tq_221) 4 rfl (by decide) hg1 q_BJo_isCommon rfl ⟨by decide, by decide⟩ ⟨by omega, by omega⟩ rfl (Nat.le_of_ble_eq_true rfl) d_BJo_join_64 (fun r_8 T_7 hw hT => ?_)
          obtain ⟨hc1, hwt, hwf⟩ := hw
          refine j_if_ne F 77 hc1 d_BJo_join_67 rfl (fun hh => ?_) (fun hh => ?_)
          · have hw := hwt hh
            refine j_sub [1, 2, 0, 3, 4, 5] rfl ?_
            exact B77 _ _ _ _ _ _ _ hT hw
          · have hw := hwf hh
            refine j_iinc F 3 [(5, vi (v5 + 1)), (4, vi (v4 + 1)), (0, .ref v0), (3, vi v3), (6, vi v6), (7, vi v7)] d_BJo_join_70 rfl (by decide) rfl ?_
            refine j_iload F 5 d_BJo_join_73 rfl ?_
            refine j_istore F [(6, vi v7), (5, vi (v5 + 1)), (4, vi (v4 + 1)), (0, .ref v0), (3, vi v3), (7, vi v7)] d_BJo_join_75 (by decide) rfl ?_
            refine j_sub [3, 4, 2, 1, 0, 5] rfl ?_
            exact B77 _ _ _ _ _ _ _ hT hw
  unfold wp_BJo_join at hw
  show jat l D X 8 0 [(0, .ref v0), (1, .ref v1), (2, .ref v2)] [] (cwd k T) 0 0
  refine j_aload_n F 1 d_BJo_join_0 rfl ?_
  refine j_aload_n F 2 d_BJo_join_1 rfl ?_
  refine j_aload_n F 0 d_BJo_join_2 rfl ?_
  obtain ⟨hc1, q_1, hc2, hw⟩ := hw
  refine c_getr F K hT 4 0 rfl tu_Joiner (by decide) (by decide) rfl tq_206 (Or.inl rfl) hc1 hc2 d_BJo_join_3 ?_
  refine c_callSv F K hT (c_BJo_refine l hw) (tw_gS tq_210 tq_211 tq_204 tq_212) q_BJo_refine rfl ⟨by decide, by decide⟩ ⟨by omega, by omega⟩ rfl (Nat.le_of_ble_eq_true rfl) d_BJo_join_6 (fun T_2 hw hT => ?_)
  refine j_aload_n F 2 d_BJo_join_9 rfl ?_
  refine j_aload_n F 1 d_BJo_join_10 rfl ?_
  refine j_aload_n F 0 d_BJo_join_11 rfl ?_
  obtain ⟨hc1, q_4, hc2, hw⟩ := hw
  refine c_getr F K hT 4 1 rfl tu_Joiner (by decide) (by decide) rfl tq_208 (Or.inl rfl) hc1 hc2 d_BJo_join_12 ?_
  refine c_callSv F K hT (c_BJo_refine l hw) (tw_gS tq_210 tq_211 tq_204 tq_212) q_BJo_refine rfl ⟨by decide, by decide⟩ ⟨by omega, by omega⟩ rfl (Nat.le_of_ble_eq_true rfl) d_BJo_join_15 (fun T_5 hw hT => ?_)
  refine j_aload_n F 0 d_BJo_join_18 rfl ?_
  obtain ⟨hg1, hw⟩ := hw
  refine c_callVi F K hT (c_BJo_matchCorners l hw) (tw_gV tq_213 tq_214 tq_215 tq_204 tq_216) 4 rfl (by decide) hg1 q_BJo_matchCorners rfl ⟨by decide, by decide⟩ ⟨by omega, by omega⟩ rfl (Nat.le_of_ble_eq_true rfl) d_BJo_join_19 (fun r_8 T_7 hw hT => ?_)
  refine j_istore_n F [(3, vi r_8), (0, .ref v0), (1, .ref v1), (2, .ref v2)] d_BJo_join_22 (by decide) rfl ?_
  refine j_iconst F d_BJo_join_23 ?_
  refine j_istore F [(4, vi 0), (3, vi r_8), (0, .ref v0), (1, .ref v1), (2, .ref v2)] d_BJo_join_24 (by decide) rfl ?_
  refine j_iconst F d_BJo_join_26 ?_
  refine j_istore F [(5, vi 0), (4, vi 0), (3, vi r_8), (0, .ref v0), (1, .ref v1), (2, .ref v2)] d_BJo_join_27 (by decide) rfl ?_
  refine j_iconst F d_BJo_join_29 ?_
  refine j_istore F [(6, vi 0), (5, vi 0), (4, vi 0), (3, vi r_8), (0, .ref v0), (1, .ref v1), (2, .ref v2)] d_BJo_join_30 (by decide) rfl ?_
  refine j_iconst F d_BJo_join_32 ?_
  refine j_istore F [(7, vi 0), (6, vi 0), (5, vi 0), (4, vi 0), (3, vi r_8), (0, .ref v0), (1, .ref v1), (2, .ref v2)] d_BJo_join_33 (by decide) rfl ?_
  refine j_sub [5, 4, 3, 2, 1, 0] rfl ?_
  obtain ⟨nn, hw⟩ := hw
  exact B35 nn _ _ _ _ _ _ _ hT hw
