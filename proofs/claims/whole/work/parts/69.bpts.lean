theorem tq_115 : (Jvm.Cond.methodLink "LandBook$Points" (1 : Nat) ({ cls := "java/lang/Object", name := "<init>", desc := "()V" } : Jvm.MethodName)) ∈ tw_G := tw_in (List.mem_of_getElem? (i := 102) (by decide +kernel)) rfl
theorem tq_116 : (Jvm.Cond.instanceMethod ({ cls := "java/lang/Object", name := "<init>", desc := "()V" } : Jvm.MethodName)) ∈ tw_G := tw_in (List.mem_of_getElem? (i := 95) (by decide +kernel)) rfl
theorem tq_117 : (Jvm.Cond.code ({ cls := "java/lang/Object", name := "<init>", desc := "()V" } : Jvm.MethodName) object_method_1_code (1 : Nat) (Option.none : Option Jvm.ClassFile.FieldType)) ∈ tw_G := tw_in (List.mem_of_getElem? (i := 96) (by decide +kernel)) rfl
theorem tq_118 : (Jvm.Cond.arrayClass Jvm.ClassFile.FieldType.int) ∈ tw_G := tw_in (List.mem_of_getElem? (i := 114) (by decide +kernel)) rfl
theorem tq_119 : (Jvm.Cond.fieldLink "LandBook$Points" (7 : Nat) "LandBook$Points" "items" "[I") ∈ tw_G := tw_in (List.mem_of_getElem? (i := 103) (by decide +kernel)) rfl
abbrev y_BPt_init : MethodName := ⟨"LandBook$Points", "<init>", "(I)V"⟩
theorem q_BPt_init : y_BPt_init.cls ≠ "java/lang/invoke/MethodHandle" ∧ y_BPt_init.cls ≠ "java/lang/invoke/VarHandle" ∧ (parseMethodDescriptor y_BPt_init.desc).map (fun d => d.parameters.length) = some 1 := by decide +kernel
theorem d_BPt_init_0 : decode prog_9_method_1_code 0 = .ok (.aload_n 0, 1) := by decide +kernel
theorem d_BPt_init_1 : decode prog_9_method_1_code 1 = .ok (.invokespecial 1, 3) := by decide +kernel
theorem d_BPt_init_4 : decode prog_9_method_1_code 4 = .ok (.aload_n 0, 1) := by decide +kernel
theorem d_BPt_init_5 : decode prog_9_method_1_code 5 = .ok (.iload_n 1, 1) := by decide +kernel
theorem d_BPt_init_6 : decode prog_9_method_1_code 6 = .ok (.newarray .int, 2) := by decide +kernel
theorem d_BPt_init_8 : decode prog_9_method_1_code 8 = .ok (.putfield 7, 3) := by decide +kernel
theorem d_BPt_init_11 : decode prog_9_method_1_code 11 = .ok (.return_, 1) := by decide +kernel
def wp_BPt_init (post : CS → Prop) (mc0 ms0 : Nat) (v0 : Nat) (v1 : Int) (T : CS) : Prop := ((0 : Int) ≤ v1 ∧ (v1 : Int) ≤ 134217728) ∧ ∃ mc_3 ms_4 : Nat, (mc0 = 1 + mc_3 ∧ ms0 = v1.toNat + ms_4) ∧ (∀ (q_1 : Nat) (T_2 : CS), tg T q_1 = 0 → T_2 = cs_new T q_1 11 v1.toNat → tg T_2 v0 = 2 ∧ ((∀ T_5 : CS, T_5 = cs_o T_2 v0 0 (some q_1) → post T_5)))
set_option maxHeartbeats 4000000 in
set_option maxRecDepth 100000 in
theorem c_BPt_init (l : Launch) {D : va_G} {k : CK} {post : CS → Prop} {mc ms : Nat} {v0 : Nat} {v1 : Int} {T : CS} (hw : wp_BPt_init post mc ms v0 v1 T) : jCv l D k y_BPt_init prog_9_method_1_code 2 none 1 20 mc ms T [.ref v0, vi v1] post := by
  refine j_con rfl (own := "LandBook$Points") (by decide) rfl (Nat.le_of_ble_eq_true rfl) (fun X F K hT I hret => ?_)
  unfold wp_BPt_init at hw
  have key : ∀ (mc0 ms0 c0 n0 : Nat), mc0 = mc → ms0 = ms → c0 = 0 → n0 = 0 → c0 + mc0 = mc → n0 + ms0 = ms → jat l D X 2 0 [(0, .ref v0), (1, vi v1)] [] (cwd k T) c0 n0 := by
    intro mc0 ms0 c0 n0 hm1 hm2 hz1 hz2 hc0 hn0
    subst hm1; subst hm2
    clear hz1 hz2
    refine j_aload_n F 0 d_BPt_init_0 rfl ?_
    refine c_objInit F K hT tq_115 tq_116 tq_117 ⟨by decide, by decide⟩ (Nat.le_of_ble_eq_true rfl) d_BPt_init_1 ?_
    refine j_aload_n F 0 d_BPt_init_4 rfl ?_
    refine j_iload_n F 1 d_BPt_init_5 rfl ?_
    obtain ⟨hr0, mc_3, ms_4, ⟨he1, he2⟩, hw⟩ := hw
    refine c_newa11 F K hT tq_118 hr0 (rm_l hc0 he1) (rm_l hn0 he2) d_BPt_init_6 (fun q_1 T_2 e_q_1 e_T_2 hT => ?_)
    have hw := hw q_1 T_2 e_q_1 e_T_2
    have hc0 := rm_c hc0 he1
    have hn0 := rm_c hn0 he2
    obtain ⟨hc1, hw⟩ := hw
    refine c_putrF F K hT I 2 0 rfl tu_Points (by decide) (by decide) rfl tq_119 (Or.inl rfl) t_Points t_Points_ok n_Points rfl rfl (ty := .array .int) (by decide +kernel) rfl rfl hc1 d_BPt_init_8 (fun T_5 e_T_5 hT => ?_)
    have hw := hw T_5 e_T_5
    exact hret _ _ _ _ _ hw hT (rm_y hc0) (rm_y hn0) d_BPt_init_11
  exact key mc ms 0 0 rfl rfl rfl rfl (Nat.zero_add _) (Nat.zero_add _)
theorem tq_120 : (Jvm.Cond.fieldLink "LandBook$Points" (13 : Nat) "LandBook$Points" "size" "I") ∈ tw_G := tw_in (List.mem_of_getElem? (i := 104) (by decide +kernel)) rfl
abbrev y_BPt_clear : MethodName := ⟨"LandBook$Points", "clear", "()V"⟩
theorem q_BPt_clear : y_BPt_clear.cls = "LandBook$Points" ∧ y_BPt_clear.cls ≠ "java/lang/invoke/MethodHandle" ∧ y_BPt_clear.cls ≠ "java/lang/invoke/VarHandle" ∧ (parseMethodDescriptor y_BPt_clear.desc).map (fun d => d.parameters.length) = some 0 := by decide +kernel
theorem d_BPt_clear_0 : decode prog_9_method_2_code 0 = .ok (.aload_n 0, 1) := by decide +kernel
theorem d_BPt_clear_1 : decode prog_9_method_2_code 1 = .ok (.iconst 0, 1) := by decide +kernel
theorem d_BPt_clear_2 : decode prog_9_method_2_code 2 = .ok (.putfield 13, 3) := by decide +kernel
theorem d_BPt_clear_5 : decode prog_9_method_2_code 5 = .ok (.return_, 1) := by decide +kernel
def wp_BPt_clear (post : CS → Prop) (v0 : Nat) (T : CS) : Prop := tg T v0 = 2 ∧ ((∀ T_1 : CS, T_1 = cs_i T v0 1 0 → post T_1))
set_option maxHeartbeats 4000000 in
set_option maxRecDepth 100000 in
theorem c_BPt_clear (l : Launch) {D : va_G} {k : CK} {post : CS → Prop} {v0 : Nat} {T : CS} (hw : wp_BPt_clear post v0 T) : jCv l D k y_BPt_clear prog_9_method_2_code 1 none 0 0 0 0 T [.ref v0] post := by
  refine j_cov (own := "LandBook$Points") (by decide) rfl (Nat.le_of_ble_eq_true rfl) (fun X F K hT hret => ?_)
  unfold wp_BPt_clear at hw
  show jat l D X 1 0 [(0, .ref v0)] [] (cwd k T) 0 0
  refine j_aload_n F 0 d_BPt_clear_0 rfl ?_
  refine j_iconst F d_BPt_clear_1 ?_
  obtain ⟨hc1, hw⟩ := hw
  refine c_puti F K hT 2 1 rfl tu_Points (by decide) (by decide) rfl tq_120 (Or.inl rfl) t_Points t_Points_ok n_Points rfl (ty := .int) (by decide +kernel) rfl rfl hc1 d_BPt_clear_2 (fun T_1 e_T_1 hT => ?_)
  have hw := hw T_1 e_T_1
  exact hret _ _ _ _ _ hw hT (by omega) (by omega) d_BPt_clear_5
abbrev y_BPt_add : MethodName := ⟨"LandBook$Points", "add", "(I)V"⟩
theorem q_BPt_add : y_BPt_add.cls = "LandBook$Points" ∧ y_BPt_add.cls ≠ "java/lang/invoke/MethodHandle" ∧ y_BPt_add.cls ≠ "java/lang/invoke/VarHandle" ∧ (parseMethodDescriptor y_BPt_add.desc).map (fun d => d.parameters.length) = some 1 := by decide +kernel
theorem d_BPt_add_0 : decode prog_9_method_3_code 0 = .ok (.aload_n 0, 1) := by decide +kernel
theorem d_BPt_add_1 : decode prog_9_method_3_code 1 = .ok (.getfield 13, 3) := by decide +kernel
theorem d_BPt_add_4 : decode prog_9_method_3_code 4 = .ok (.aload_n 0, 1) := by decide +kernel
theorem d_BPt_add_5 : decode prog_9_method_3_code 5 = .ok (.getfield 7, 3) := by decide +kernel
theorem d_BPt_add_8 : decode prog_9_method_3_code 8 = .ok (.arraylength, 1) := by decide +kernel
theorem d_BPt_add_9 : decode prog_9_method_3_code 9 = .ok (.if_icmp .ge 23, 3) := by decide +kernel
theorem d_BPt_add_32 : decode prog_9_method_3_code 32 = .ok (.return_, 1) := by decide +kernel
theorem d_BPt_add_12 : decode prog_9_method_3_code 12 = .ok (.aload_n 0, 1) := by decide +kernel
theorem d_BPt_add_13 : decode prog_9_method_3_code 13 = .ok (.getfield 7, 3) := by decide +kernel
theorem d_BPt_add_16 : decode prog_9_method_3_code 16 = .ok (.aload_n 0, 1) := by decide +kernel
theorem d_BPt_add_17 : decode prog_9_method_3_code 17 = .ok (.getfield 13, 3) := by decide +kernel
theorem d_BPt_add_20 : decode prog_9_method_3_code 20 = .ok (.iload_n 1, 1) := by decide +kernel
theorem d_BPt_add_21 : decode prog_9_method_3_code 21 = .ok (.iastore, 1) := by decide +kernel
theorem d_BPt_add_22 : decode prog_9_method_3_code 22 = .ok (.aload_n 0, 1) := by decide +kernel
theorem d_BPt_add_23 : decode prog_9_method_3_code 23 = .ok (.dup, 1) := by decide +kernel
theorem d_BPt_add_24 : decode prog_9_method_3_code 24 = .ok (.getfield 13, 3) := by decide +kernel
theorem d_BPt_add_27 : decode prog_9_method_3_code 27 = .ok (.iconst 1, 1) := by decide +kernel
theorem d_BPt_add_28 : decode prog_9_method_3_code 28 = .ok (.iadd, 1) := by decide +kernel
theorem d_BPt_add_29 : decode prog_9_method_3_code 29 = .ok (.putfield 13, 3) := by decide +kernel
def wp_BPt_add (post : CS → Prop) (v0 : Nat) (v1 : Int) (T : CS) : Prop := tg T v0 = 2 ∧ (tg T v0 = 2 ∧ ∃ q_1 : Nat, fo T v0 0 = some q_1 ∧ (tg T q_1 = 11 ∧ (inR (fi T v0 1) ∧ inR (ln T q_1 : Int) ∧ ((ln T q_1 : Int) ≤ (fi T v0 1) → post T) ∧ (¬ ((ln T q_1 : Int) ≤ (fi T v0 1)) → (tg T v0 = 2 ∧ ∃ q_2 : Nat, fo T v0 0 = some q_2 ∧ (tg T v0 = 2 ∧ (tg T q_2 = 11 ∧ ixR (fi T v0 1) (ln T q_2) ∧ ((∀ T_3 : CS, T_3 = cs_i T q_2 (fi T v0 1).toNat v1 → tg T_3 v0 = 2 ∧ (tg T_3 v0 = 2 ∧ ((∀ T_4 : CS, T_4 = cs_i T_3 v0 1 ((fi T_3 v0 1) + 1) → post T_4))))))))))))
set_option maxHeartbeats 4000000 in
set_option maxRecDepth 100000 in
theorem c_BPt_add (l : Launch) {D : va_G} {k : CK} {post : CS → Prop} {v0 : Nat} {v1 : Int} {T : CS} (hw : wp_BPt_add post v0 v1 T) : jCv l D k y_BPt_add prog_9_method_3_code 2 none 0 0 0 0 T [.ref v0, vi v1] post := by
  refine j_cov (own := "LandBook$Points") (by decide) rfl (Nat.le_of_ble_eq_true rfl) (fun X F K hT hret => ?_)
  unfold wp_BPt_add at hw
  show jat l D X 2 0 [(0, .ref v0), (1, vi v1)] [] (cwd k T) 0 0
  refine j_aload_n F 0 d_BPt_add_0 rfl ?_
  obtain ⟨hc1, hw⟩ := hw
  refine c_geti F K hT 2 1 rfl tu_Points (by decide) (by decide) rfl tq_120 (Or.inl rfl) hc1 d_BPt_add_1 ?_
  refine j_aload_n F 0 d_BPt_add_4 rfl ?_
  obtain ⟨hc1, q_1, hc2, hw⟩ := hw
  refine c_getr F K hT 2 0 rfl tu_Points (by decide) (by decide) rfl tq_119 (Or.inl rfl) hc1 hc2 d_BPt_add_5 ?_
  obtain ⟨hc1, hw⟩ := hw
  refine c_alen11 F K hT hc1 d_BPt_add_8 ?_
  obtain ⟨hc1, hc2, hwt, hwf⟩ := hw
  refine j_icmp_ge F 32 hc1 hc2 d_BPt_add_9 rfl (fun hh => ?_) (fun hh => ?_)
  · have hw := hwt hh
    exact hret _ _ _ _ _ hw hT (by omega) (by omega) d_BPt_add_32
  · have hw := hwf hh
    refine j_aload_n F 0 d_BPt_add_12 rfl ?_
    obtain ⟨hc1, q_2, hc2, hw⟩ := hw
    refine c_getr F K hT 2 0 rfl tu_Points (by decide) (by decide) rfl tq_119 (Or.inl rfl) hc1 hc2 d_BPt_add_13 ?_
    refine j_aload_n F 0 d_BPt_add_16 rfl ?_
    obtain ⟨hc1, hw⟩ := hw
    refine c_geti F K hT 2 1 rfl tu_Points (by decide) (by decide) rfl tq_120 (Or.inl rfl) hc1 d_BPt_add_17 ?_
    refine j_iload_n F 1 d_BPt_add_20 rfl ?_
    obtain ⟨hc1, hc2, hw⟩ := hw
    refine c_iast F K hT hc1 hc2 d_BPt_add_21 (fun T_3 e_T_3 hT => ?_)
    have hw := hw T_3 e_T_3
    refine j_aload_n F 0 d_BPt_add_22 rfl ?_
    refine j_dup F rfl d_BPt_add_23 ?_
    obtain ⟨hc1, hw⟩ := hw
    refine c_geti F K hT 2 1 rfl tu_Points (by decide) (by decide) rfl tq_120 (Or.inl rfl) hc1 d_BPt_add_24 ?_
    refine j_iconst F d_BPt_add_27 ?_
    refine j_iadd F d_BPt_add_28 ?_
    obtain ⟨hc1, hw⟩ := hw
    refine c_puti F K hT 2 1 rfl tu_Points (by decide) (by decide) rfl tq_120 (Or.inl rfl) t_Points t_Points_ok n_Points rfl (ty := .int) (by decide +kernel) rfl rfl hc1 d_BPt_add_29 (fun T_4 e_T_4 hT => ?_)
    have hw := hw T_4 e_T_4
    exact hret _ _ _ _ _ hw hT (by omega) (by omega) d_BPt_add_32
theorem tq_121 : (Jvm.Cond.methodLink "LandBook$Points" (17 : Nat) ({ cls := "java/lang/Math", name := "floorMod", desc := "(II)I" } : Jvm.MethodName)) ∈ tw_G := tw_in (List.mem_of_getElem? (i := 376) (by decide +kernel)) rfl
theorem tq_122 : (Jvm.Cond.static ({ cls := "java/lang/Math", name := "floorMod", desc := "(II)I" } : Jvm.MethodName)) ∈ tw_G := tw_in (List.mem_of_getElem? (i := 377) (by decide +kernel)) rfl
theorem tq_123 : (Jvm.Cond.code ({ cls := "java/lang/Math", name := "floorMod", desc := "(II)I" } : Jvm.MethodName) prog_22_method_50_code (3 : Nat) (Option.some Jvm.ClassFile.FieldType.int)) ∈ tw_G := tw_in (List.mem_of_getElem? (i := 378) (by decide +kernel)) rfl
abbrev y_BPt_at : MethodName := ⟨"LandBook$Points", "at", "(I)I"⟩
theorem q_BPt_at : y_BPt_at.cls = "LandBook$Points" ∧ y_BPt_at.cls ≠ "java/lang/invoke/MethodHandle" ∧ y_BPt_at.cls ≠ "java/lang/invoke/VarHandle" ∧ (parseMethodDescriptor y_BPt_at.desc).map (fun d => d.parameters.length) = some 1 := by decide +kernel
theorem d_BPt_at_0 : decode prog_9_method_4_code 0 = .ok (.aload_n 0, 1) := by decide +kernel
theorem d_BPt_at_1 : decode prog_9_method_4_code 1 = .ok (.getfield 13, 3) := by decide +kernel
theorem d_BPt_at_4 : decode prog_9_method_4_code 4 = .ok (.ifCond .ne 7, 3) := by decide +kernel
theorem d_BPt_at_11 : decode prog_9_method_4_code 11 = .ok (.aload_n 0, 1) := by decide +kernel
theorem d_BPt_at_12 : decode prog_9_method_4_code 12 = .ok (.getfield 7, 3) := by decide +kernel
theorem d_BPt_at_15 : decode prog_9_method_4_code 15 = .ok (.iload_n 1, 1) := by decide +kernel
theorem d_BPt_at_16 : decode prog_9_method_4_code 16 = .ok (.aload_n 0, 1) := by decide +kernel
theorem d_BPt_at_17 : decode prog_9_method_4_code 17 = .ok (.getfield 13, 3) := by decide +kernel
theorem d_BPt_at_20 : decode prog_9_method_4_code 20 = .ok (.invokestatic 17, 3) := by decide +kernel
theorem d_BPt_at_23 : decode prog_9_method_4_code 23 = .ok (.iaload, 1) := by decide +kernel
theorem d_BPt_at_24 : decode prog_9_method_4_code 24 = .ok (.ireturn, 1) := by decide +kernel
theorem d_BPt_at_7 : decode prog_9_method_4_code 7 = .ok (.iconst 0, 1) := by decide +kernel
theorem d_BPt_at_8 : decode prog_9_method_4_code 8 = .ok (.goto 16, 3) := by decide +kernel
def wp_BPt_at (post : Int → CS → Prop) (v0 : Nat) (v1 : Int) (T : CS) : Prop := tg T v0 = 2 ∧ (inR (fi T v0 1) ∧ (¬ ((fi T v0 1) = 0) → (tg T v0 = 2 ∧ ∃ q_1 : Nat, fo T v0 0 = some q_1 ∧ (tg T v0 = 2 ∧ (wp_BMa_fmod (fun r_2 => tg T q_1 = 11 ∧ ixR r_2 (ln T q_1) ∧ (post (fi T q_1 r_2.toNat) T)) v1 (fi T v0 1))))) ∧ ((fi T v0 1) = 0 → post 0 T))
set_option maxHeartbeats 4000000 in
set_option maxRecDepth 100000 in
theorem c_BPt_at (l : Launch) {D : va_G} {k : CK} {post : Int → CS → Prop} {v0 : Nat} {v1 : Int} {T : CS} (hw : wp_BPt_at post v0 v1 T) : jCi l D k y_BPt_at prog_9_method_4_code 2 (some .int) 1 22 0 0 T [.ref v0, vi v1] post := by
  refine j_coi (own := "LandBook$Points") (by decide) rfl (Nat.le_of_ble_eq_true rfl) (fun X F K hT hret => ?_)
  unfold wp_BPt_at at hw
  show jat l D X 2 0 [(0, .ref v0), (1, vi v1)] [] (cwd k T) 0 0
  refine j_aload_n F 0 d_BPt_at_0 rfl ?_
  obtain ⟨hc1, hw⟩ := hw
  refine c_geti F K hT 2 1 rfl tu_Points (by decide) (by decide) rfl tq_120 (Or.inl rfl) hc1 d_BPt_at_1 ?_
  obtain ⟨hc1, hwt, hwf⟩ := hw
  refine j_if_ne F 11 hc1 d_BPt_at_4 rfl (fun hh => ?_) (fun hh => ?_)
  · have hw := hwt hh
    refine j_aload_n F 0 d_BPt_at_11 rfl ?_
    obtain ⟨hc1, q_1, hc2, hw⟩ := hw
    refine c_getr F K hT 2 0 rfl tu_Points (by decide) (by decide) rfl tq_119 (Or.inl rfl) hc1 hc2 d_BPt_at_12 ?_
    refine j_iload_n F 1 d_BPt_at_15 rfl ?_
    refine j_aload_n F 0 d_BPt_at_16 rfl ?_
    obtain ⟨hc1, hw⟩ := hw
    refine c_geti F K hT 2 1 rfl tu_Points (by decide) (by decide) rfl tq_120 (Or.inl rfl) hc1 d_BPt_at_17 ?_
    refine j_callS F (c_BMa_fmod l hw) (tw_gS tq_121 tq_122 tq_99 tq_123) q_BMa_fmod rfl ⟨by decide, by decide⟩ ⟨by omega, by omega⟩ rfl (Nat.le_of_ble_eq_true rfl) d_BPt_at_20 (fun r_2 hw => ?_)
    obtain ⟨hc1, hc2, hw⟩ := hw
    refine c_iald F K hT hc1 hc2 d_BPt_at_23 ?_
    exact hret _ _ _ _ _ _ hw hT (by omega) (by omega) d_BPt_at_24
  · have hw := hwf hh
    refine j_iconst F d_BPt_at_7 ?_
    refine j_goto F 24 d_BPt_at_8 rfl ?_
    exact hret _ _ _ _ _ _ hw hT (by omega) (by omega) d_BPt_at_24
theorem tq_124 : (Jvm.Cond.classLink "LandBook$Points" (8 : Nat) "LandBook$Points") ∈ tw_G := tw_in (List.mem_of_getElem? (i := 449) (by decide +kernel)) rfl
theorem tq_125 : (Jvm.Cond.instantiable "LandBook$Points" (2 : Nat)) ∈ tw_G := tw_in (List.mem_of_getElem? (i := 98) (by decide +kernel)) rfl
theorem tq_126 : (Jvm.Cond.initialized "LandBook$Points") ∈ tw_G := tw_in (List.mem_of_getElem? (i := 61) (by decide +kernel)) rfl
theorem tq_127 : (Jvm.Cond.code ({ cls := "LandBook$Points", name := "<init>", desc := "(I)V" } : Jvm.MethodName) prog_9_method_1_code (2 : Nat) (Option.none : Option Jvm.ClassFile.FieldType)) ∈ tw_G := tw_in (List.mem_of_getElem? (i := 101) (by decide +kernel)) rfl
theorem tq_128 : (Jvm.Cond.methodLink "LandBook$Points" (23 : Nat) ({ cls := "LandBook$Points", name := "<init>", desc := "(I)V" } : Jvm.MethodName)) ∈ tw_G := tw_in (List.mem_of_getElem? (i := 450) (by decide +kernel)) rfl
theorem tq_129 : (Jvm.Cond.instanceMethod ({ cls := "LandBook$Points", name := "<init>", desc := "(I)V" } : Jvm.MethodName)) ∈ tw_G := tw_in (List.mem_of_getElem? (i := 100) (by decide +kernel)) rfl
theorem tq_130 : (Jvm.Cond.methodLink "LandBook$Points" (26 : Nat) ({ cls := "LandBook$Points", name := "add", desc := "(I)V" } : Jvm.MethodName)) ∈ tw_G := tw_in (List.mem_of_getElem? (i := 451) (by decide +kernel)) rfl
theorem tq_131 : (Jvm.Cond.instanceMethod ({ cls := "LandBook$Points", name := "add", desc := "(I)V" } : Jvm.MethodName)) ∈ tw_G := tw_in (List.mem_of_getElem? (i := 353) (by decide +kernel)) rfl
theorem tq_132 : (Jvm.Cond.selects "LandBook$Points" ({ cls := "LandBook$Points", name := "add", desc := "(I)V" } : Jvm.MethodName) ({ cls := "LandBook$Points", name := "add", desc := "(I)V" } : Jvm.MethodName)) ∈ tw_G := tw_in (List.mem_of_getElem? (i := 354) (by decide +kernel)) rfl
theorem tq_133 : (Jvm.Cond.code ({ cls := "LandBook$Points", name := "add", desc := "(I)V" } : Jvm.MethodName) prog_9_method_3_code (2 : Nat) (Option.none : Option Jvm.ClassFile.FieldType)) ∈ tw_G := tw_in (List.mem_of_getElem? (i := 355) (by decide +kernel)) rfl
abbrev y_BPt_copy : MethodName := ⟨"LandBook$Points", "copy", "()LLandBook$Points;"⟩
theorem q_BPt_copy : y_BPt_copy.cls = "LandBook$Points" ∧ y_BPt_copy.cls ≠ "java/lang/invoke/MethodHandle" ∧ y_BPt_copy.cls ≠ "java/lang/invoke/VarHandle" ∧ (parseMethodDescriptor y_BPt_copy.desc).map (fun d => d.parameters.length) = some 0 := by decide +kernel
theorem d_BPt_copy_0 : decode prog_9_method_5_code 0 = .ok (.new 8, 3) := by decide +kernel
theorem d_BPt_copy_3 : decode prog_9_method_5_code 3 = .ok (.dup, 1) := by decide +kernel
theorem d_BPt_copy_4 : decode prog_9_method_5_code 4 = .ok (.aload_n 0, 1) := by decide +kernel
theorem d_BPt_copy_5 : decode prog_9_method_5_code 5 = .ok (.getfield 13, 3) := by decide +kernel
theorem d_BPt_copy_8 : decode prog_9_method_5_code 8 = .ok (.invokespecial 23, 3) := by decide +kernel
theorem d_BPt_copy_11 : decode prog_9_method_5_code 11 = .ok (.astore_n 1, 1) := by decide +kernel
theorem d_BPt_copy_12 : decode prog_9_method_5_code 12 = .ok (.iconst 0, 1) := by decide +kernel
theorem d_BPt_copy_13 : decode prog_9_method_5_code 13 = .ok (.istore_n 2, 1) := by decide +kernel
theorem d_BPt_copy_14 : decode prog_9_method_5_code 14 = .ok (.iload_n 2, 1) := by decide +kernel
theorem d_BPt_copy_15 : decode prog_9_method_5_code 15 = .ok (.aload_n 0, 1) := by decide +kernel
theorem d_BPt_copy_16 : decode prog_9_method_5_code 16 = .ok (.getfield 13, 3) := by decide +kernel
theorem d_BPt_copy_19 : decode prog_9_method_5_code 19 = .ok (.if_icmp .ge 19, 3) := by decide +kernel
theorem d_BPt_copy_38 : decode prog_9_method_5_code 38 = .ok (.aload_n 1, 1) := by decide +kernel
theorem d_BPt_copy_39 : decode prog_9_method_5_code 39 = .ok (.areturn, 1) := by decide +kernel
theorem d_BPt_copy_22 : decode prog_9_method_5_code 22 = .ok (.aload_n 1, 1) := by decide +kernel
theorem d_BPt_copy_23 : decode prog_9_method_5_code 23 = .ok (.aload_n 0, 1) := by decide +kernel
theorem d_BPt_copy_24 : decode prog_9_method_5_code 24 = .ok (.getfield 7, 3) := by decide +kernel
theorem d_BPt_copy_27 : decode prog_9_method_5_code 27 = .ok (.iload_n 2, 1) := by decide +kernel
theorem d_BPt_copy_28 : decode prog_9_method_5_code 28 = .ok (.iaload, 1) := by decide +kernel
theorem d_BPt_copy_29 : decode prog_9_method_5_code 29 = .ok (.invokevirtual 26, 3) := by decide +kernel
theorem d_BPt_copy_32 : decode prog_9_method_5_code 32 = .ok (.iinc 2 1, 3) := by decide +kernel
theorem d_BPt_copy_35 : decode prog_9_method_5_code 35 = .ok (.goto (-21), 3) := by decide +kernel
def wp_BPt_copy_14 (post : Nat → CS → Prop) : Nat → Nat → Nat → Nat → Nat → Int → CS → Prop
  | 0, _, _, _, _, _, _ => False
  | n + 1, mc0, ms0, v0, v1, v2, T => tg T v0 = 2 ∧ (inR v2 ∧ inR (fi T v0 1) ∧ ((fi T v0 1) ≤ v2 → post v1 T) ∧ (¬ ((fi T v0 1) ≤ v2) → (tg T v0 = 2 ∧ ∃ q_1 : Nat, fo T v0 0 = some q_1 ∧ (tg T q_1 = 11 ∧ ixR v2 (ln T q_1) ∧ (tg T v1 = 2 ∧ wp_BPt_add (fun T_2 => (wp_BPt_copy_14 post n) mc0 ms0 v0 v1 (v2 + 1) T_2) v1 (fi T q_1 v2.toNat) T)))))
def wp_BPt_copy (post : Nat → CS → Prop) (mc0 ms0 : Nat) (v0 : Nat) (T : CS) : Prop := ∃ mc_3 ms_4 : Nat, (mc0 = 1 + mc_3 ∧ ms0 = 2 + ms_4) ∧ (∀ (q_1 : Nat) (T_2 : CS), tg T q_1 = 0 → T_2 = cs_new T q_1 2 0 → tg T_2 v0 = 2 ∧ (∃ mc_7 ms_8 mc_9 ms_10 : Nat, (mc_3 = mc_7 + mc_9 ∧ ms_4 = ms_8 + ms_10) ∧ wp_BPt_init (fun T_5 => ∃ nn : Nat, wp_BPt_copy_14 post nn mc_9 ms_10 v0 q_1 0 T_5) mc_7 ms_8 q_1 (fi T_2 v0 1) T_2))
set_option maxHeartbeats 4000000 in
set_option maxRecDepth 100000 in
theorem c_BPt_copy (l : Launch) {D : va_G} {k : CK} {post : Nat → CS → Prop} {mc ms : Nat} {v0 : Nat} {T : CS} (hw : wp_BPt_copy post mc ms v0 T) : jCr l D k y_BPt_copy prog_9_method_5_code 3 (some (.object "LandBook$Points")) 2 41 mc ms T [.ref v0] post := by
  refine j_cor (Or.inl ⟨_, rfl⟩) (own := "LandBook$Points") (by decide) rfl (Nat.le_of_ble_eq_true rfl) (fun X F K hT hret => ?_)
  have B14 : ∀ (nn : Nat) (mc0 : Nat) (ms0 : Nat) (v0 : Nat) (v1 : Nat) (v2 : Int) (T : CS) (c0 n0 : Nat), c0 + mc0 = mc → n0 + ms0 = ms → cs_ok k T → wp_BPt_copy_14 post nn mc0 ms0 v0 v1 v2 T → jat l D X 3 14 [(0, .ref v0), (1, .ref v1), (2, vi v2)] [] (cwd k T) c0 n0 := by
    intro nn
    induction nn with
    | zero => intro mc0 ms0 v0 v1 v2 T c0 n0 hc0 hn0 hT hw; exact hw.elim
    | succ n14 ih14 =>
      intro mc0 ms0 v0 v1 v2 T c0 n0 hc0 hn0 hT hw
      unfold wp_BPt_copy_14 at hw
      refine j_iload_n F 2 d_BPt_copy_14 rfl ?_
      refine j_aload_n F 0 d_BPt_copy_15 rfl ?_
      obtain ⟨hc1, hw⟩ := hw
      refine c_geti F K hT 2 1 rfl tu_Points (by decide) (by decide) rfl tq_120 (Or.inl rfl) hc1 d_BPt_copy_16 ?_
      obtain ⟨hc1, hc2, hwt, hwf⟩ := hw
      refine j_icmp_ge F 38 hc1 hc2 d_BPt_copy_19 rfl (fun hh => ?_) (fun hh => ?_)
      · have hw := hwt hh
        refine j_aload_n F 1 d_BPt_copy_38 rfl ?_
        exact hret _ _ _ _ _ _ hw hT (rm_y hc0) (rm_y hn0) d_BPt_copy_39
      · have hw := hwf hh
        refine j_aload_n F 1 d_BPt_copy_22 rfl ?_
        refine j_aload_n F 0 d_BPt_copy_23 rfl ?_
        obtain ⟨hc1, q_1, hc2, hw⟩ := hw
        refine c_getr F K hT 2 0 rfl tu_Points (by decide) (by decide) rfl tq_119 (Or.inl rfl) hc1 hc2 d_BPt_copy_24 ?_
        refine j_iload_n F 2 d_BPt_copy_27 rfl ?_
        obtain ⟨hc1, hc2, hw⟩ := hw
        refine c_iald F K hT hc1 hc2 d_BPt_copy_28 ?_
        obtain ⟨hg1, hw⟩ := hw
        refine c_callVv F K hT (c_BPt_add l hw) (tw_gV tq_130 tq_131 tq_132 tq_126 tq_133) 2 rfl (by decide) hg1 q_BPt_add rfl ⟨by decide, by decide⟩ ⟨rm_z hc0, rm_z hn0⟩ rfl (Nat.le_of_ble_eq_true rfl) d_BPt_copy_29 (fun T_2 hw hT => ?_)
        refine j_iinc F 2 [(2, vi (v2 + 1)), (0, .ref v0), (1, .ref v1)] d_BPt_copy_32 rfl (by decide) rfl ?_
        refine j_goto F 14 d_BPt_copy_35 rfl ?_
        refine j_sub [1, 2, 0] rfl ?_
        exact ih14 _ _ _ _ _ _ _ _ hc0 hn0 hT hw
  unfold wp_BPt_copy at hw
  have key : ∀ (mc0 ms0 c0 n0 : Nat), mc0 = mc → ms0 = ms → c0 = 0 → n0 = 0 → c0 + mc0 = mc → n0 + ms0 = ms → jat l D X 3 0 [(0, .ref v0)] [] (cwd k T) c0 n0 := by
    intro mc0 ms0 c0 n0 hm1 hm2 hz1 hz2 hc0 hn0
    subst hm1; subst hm2
    clear hz1 hz2
    obtain ⟨mc_3, ms_4, ⟨he1, he2⟩, hw⟩ := hw
    refine c_new F K hT 2 rfl tu_Points t_Points t_Points_ok (by decide) rfl (by decide) tq_124 tq_125 tq_126 (rm_l hc0 he1) (rm_l hn0 he2) d_BPt_copy_0 (fun q_1 T_2 e_q_1 e_T_2 hT => ?_)
    have hw := hw q_1 T_2 e_q_1 e_T_2
    have hc0 := rm_c hc0 he1
    have hn0 := rm_c hn0 he2
    refine j_dup F rfl d_BPt_copy_3 ?_
    refine j_aload_n F 0 d_BPt_copy_4 rfl ?_
    obtain ⟨hc1, hw⟩ := hw
    refine c_geti F K hT 2 1 rfl tu_Points (by decide) (by decide) rfl tq_120 (Or.inl rfl) hc1 d_BPt_copy_5 ?_
    obtain ⟨mc_7, ms_8, mc_9, ms_10, ⟨he1, he2⟩, hw⟩ := hw
    refine c_callIv F K hT (c_BPt_init l hw) tq_127 tq_126 tq_128 tq_129 rfl q_BPt_init rfl ⟨by decide, by decide⟩ ⟨rm_l hc0 he1, rm_l hn0 he2⟩ rfl (Nat.le_of_ble_eq_true rfl) d_BPt_copy_8 (fun T_5 hw hT => ?_)
    have hc0 := rm_c hc0 he1
    have hn0 := rm_c hn0 he2
    refine j_astore_n F [(1, .ref q_1), (0, .ref v0)] d_BPt_copy_11 (by decide) rfl ?_
    refine j_iconst F d_BPt_copy_12 ?_
    refine j_istore_n F [(2, vi 0), (1, .ref q_1), (0, .ref v0)] d_BPt_copy_13 (by decide) rfl ?_
    refine j_sub [2, 1, 0] rfl ?_
    obtain ⟨nn, hw⟩ := hw
    exact B14 nn _ _ _ _ _ _ _ _ hc0 hn0 hT hw
  exact key mc ms 0 0 rfl rfl rfl rfl (Nat.zero_add _) (Nat.zero_add _)
