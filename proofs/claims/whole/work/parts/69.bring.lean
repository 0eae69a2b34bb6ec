theorem tq_134 : (Jvm.Cond.fieldLink "LandBook$Rings" (7 : Nat) "LandBook$Points" "size" "I") ∈ tw_G := tw_in (List.mem_of_getElem? (i := 105) (by decide +kernel)) rfl
theorem tq_135 : (Jvm.Cond.methodLink "LandBook$Rings" (13 : Nat) ({ cls := "LandBook$Points", name := "at", desc := "(I)I" } : Jvm.MethodName)) ∈ tw_G := tw_in (List.mem_of_getElem? (i := 406) (by decide +kernel)) rfl
theorem tq_136 : (Jvm.Cond.instanceMethod ({ cls := "LandBook$Points", name := "at", desc := "(I)I" } : Jvm.MethodName)) ∈ tw_G := tw_in (List.mem_of_getElem? (i := 373) (by decide +kernel)) rfl
theorem tq_137 : (Jvm.Cond.selects "LandBook$Points" ({ cls := "LandBook$Points", name := "at", desc := "(I)I" } : Jvm.MethodName) ({ cls := "LandBook$Points", name := "at", desc := "(I)I" } : Jvm.MethodName)) ∈ tw_G := tw_in (List.mem_of_getElem? (i := 374) (by decide +kernel)) rfl
theorem tq_138 : (Jvm.Cond.code ({ cls := "LandBook$Points", name := "at", desc := "(I)I" } : Jvm.MethodName) prog_9_method_4_code (2 : Nat) (Option.some Jvm.ClassFile.FieldType.int)) ∈ tw_G := tw_in (List.mem_of_getElem? (i := 375) (by decide +kernel)) rfl
theorem tq_139 : (Jvm.Cond.methodLink "LandBook$Rings" (17 : Nat) ({ cls := "LandBook$Plane", name := "meeting", desc := "(IIII)I" } : Jvm.MethodName)) ∈ tw_G := tw_in (List.mem_of_getElem? (i := 407) (by decide +kernel)) rfl
theorem tq_140 : (Jvm.Cond.static ({ cls := "LandBook$Plane", name := "meeting", desc := "(IIII)I" } : Jvm.MethodName)) ∈ tw_G := tw_in (List.mem_of_getElem? (i := 408) (by decide +kernel)) rfl
theorem tq_141 : (Jvm.Cond.code ({ cls := "LandBook$Plane", name := "meeting", desc := "(IIII)I" } : Jvm.MethodName) prog_8_method_7_code (9 : Nat) (Option.some Jvm.ClassFile.FieldType.int)) ∈ tw_G := tw_in (List.mem_of_getElem? (i := 409) (by decide +kernel)) rfl
abbrev y_BRi_isSimple : MethodName := ⟨"LandBook$Rings", "isSimple", "(LLandBook$Points;Z)Z"⟩
theorem q_BRi_isSimple : y_BRi_isSimple.cls ≠ "java/lang/invoke/MethodHandle" ∧ y_BRi_isSimple.cls ≠ "java/lang/invoke/VarHandle" ∧ (parseMethodDescriptor y_BRi_isSimple.desc).map (fun d => d.parameters.length) = some 2 := by decide +kernel
theorem d_BRi_isSimple_0 : decode prog_11_method_2_code 0 = .ok (.iload_n 1, 1) := by decide +kernel
theorem d_BRi_isSimple_1 : decode prog_11_method_2_code 1 = .ok (.ifCond .eq 10, 3) := by decide +kernel
theorem d_BRi_isSimple_11 : decode prog_11_method_2_code 11 = .ok (.aload_n 0, 1) := by decide +kernel
theorem d_BRi_isSimple_12 : decode prog_11_method_2_code 12 = .ok (.getfield 7, 3) := by decide +kernel
theorem d_BRi_isSimple_15 : decode prog_11_method_2_code 15 = .ok (.iconst 1, 1) := by decide +kernel
theorem d_BRi_isSimple_16 : decode prog_11_method_2_code 16 = .ok (.isub, 1) := by decide +kernel
theorem d_BRi_isSimple_4 : decode prog_11_method_2_code 4 = .ok (.aload_n 0, 1) := by decide +kernel
theorem d_BRi_isSimple_5 : decode prog_11_method_2_code 5 = .ok (.getfield 7, 3) := by decide +kernel
theorem d_BRi_isSimple_8 : decode prog_11_method_2_code 8 = .ok (.goto 9, 3) := by decide +kernel
theorem d_BRi_isSimple_17 : decode prog_11_method_2_code 17 = .ok (.istore_n 2, 1) := by decide +kernel
theorem d_BRi_isSimple_18 : decode prog_11_method_2_code 18 = .ok (.iconst 0, 1) := by decide +kernel
theorem d_BRi_isSimple_19 : decode prog_11_method_2_code 19 = .ok (.istore_n 3, 1) := by decide +kernel
theorem d_BRi_isSimple_20 : decode prog_11_method_2_code 20 = .ok (.iload_n 3, 1) := by decide +kernel
theorem d_BRi_isSimple_21 : decode prog_11_method_2_code 21 = .ok (.iload_n 2, 1) := by decide +kernel
theorem d_BRi_isSimple_22 : decode prog_11_method_2_code 22 = .ok (.if_icmp .ge 26, 3) := by decide +kernel
theorem d_BRi_isSimple_48 : decode prog_11_method_2_code 48 = .ok (.iconst 0, 1) := by decide +kernel
theorem d_BRi_isSimple_49 : decode prog_11_method_2_code 49 = .ok (.istore_n 3, 1) := by decide +kernel
theorem d_BRi_isSimple_25 : decode prog_11_method_2_code 25 = .ok (.aload_n 0, 1) := by decide +kernel
theorem d_BRi_isSimple_26 : decode prog_11_method_2_code 26 = .ok (.iload_n 3, 1) := by decide +kernel
theorem d_BRi_isSimple_27 : decode prog_11_method_2_code 27 = .ok (.invokevirtual 13, 3) := by decide +kernel
theorem d_BRi_isSimple_30 : decode prog_11_method_2_code 30 = .ok (.aload_n 0, 1) := by decide +kernel
theorem d_BRi_isSimple_31 : decode prog_11_method_2_code 31 = .ok (.iload_n 3, 1) := by decide +kernel
theorem d_BRi_isSimple_32 : decode prog_11_method_2_code 32 = .ok (.iconst 1, 1) := by decide +kernel
theorem d_BRi_isSimple_33 : decode prog_11_method_2_code 33 = .ok (.iadd, 1) := by decide +kernel
theorem d_BRi_isSimple_34 : decode prog_11_method_2_code 34 = .ok (.invokevirtual 13, 3) := by decide +kernel
theorem d_BRi_isSimple_37 : decode prog_11_method_2_code 37 = .ok (.if_icmp .ne 5, 3) := by decide +kernel
theorem d_BRi_isSimple_42 : decode prog_11_method_2_code 42 = .ok (.iinc 3 1, 3) := by decide +kernel
theorem d_BRi_isSimple_45 : decode prog_11_method_2_code 45 = .ok (.goto (-25), 3) := by decide +kernel
theorem d_BRi_isSimple_40 : decode prog_11_method_2_code 40 = .ok (.iconst 0, 1) := by decide +kernel
theorem d_BRi_isSimple_41 : decode prog_11_method_2_code 41 = .ok (.ireturn, 1) := by decide +kernel
theorem d_BRi_isSimple_50 : decode prog_11_method_2_code 50 = .ok (.iload_n 3, 1) := by decide +kernel
theorem d_BRi_isSimple_51 : decode prog_11_method_2_code 51 = .ok (.iload_n 2, 1) := by decide +kernel
theorem d_BRi_isSimple_52 : decode prog_11_method_2_code 52 = .ok (.if_icmp .ge 105, 3) := by decide +kernel
theorem d_BRi_isSimple_157 : decode prog_11_method_2_code 157 = .ok (.iconst 1, 1) := by decide +kernel
theorem d_BRi_isSimple_158 : decode prog_11_method_2_code 158 = .ok (.ireturn, 1) := by decide +kernel
theorem d_BRi_isSimple_55 : decode prog_11_method_2_code 55 = .ok (.iload_n 3, 1) := by decide +kernel
theorem d_BRi_isSimple_56 : decode prog_11_method_2_code 56 = .ok (.iconst 1, 1) := by decide +kernel
theorem d_BRi_isSimple_57 : decode prog_11_method_2_code 57 = .ok (.iadd, 1) := by decide +kernel
theorem d_BRi_isSimple_58 : decode prog_11_method_2_code 58 = .ok (.istore 4, 2) := by decide +kernel
theorem d_BRi_isSimple_60 : decode prog_11_method_2_code 60 = .ok (.iload 4, 2) := by decide +kernel
theorem d_BRi_isSimple_62 : decode prog_11_method_2_code 62 = .ok (.iload_n 2, 1) := by decide +kernel
theorem d_BRi_isSimple_63 : decode prog_11_method_2_code 63 = .ok (.if_icmp .ge 88, 3) := by decide +kernel
theorem d_BRi_isSimple_151 : decode prog_11_method_2_code 151 = .ok (.iinc 3 1, 3) := by decide +kernel
theorem d_BRi_isSimple_154 : decode prog_11_method_2_code 154 = .ok (.goto (-104), 3) := by decide +kernel
theorem d_BRi_isSimple_66 : decode prog_11_method_2_code 66 = .ok (.iload 4, 2) := by decide +kernel
theorem d_BRi_isSimple_68 : decode prog_11_method_2_code 68 = .ok (.iload_n 3, 1) := by decide +kernel
theorem d_BRi_isSimple_69 : decode prog_11_method_2_code 69 = .ok (.iconst 1, 1) := by decide +kernel
theorem d_BRi_isSimple_70 : decode prog_11_method_2_code 70 = .ok (.iadd, 1) := by decide +kernel
theorem d_BRi_isSimple_71 : decode prog_11_method_2_code 71 = .ok (.if_icmp .eq 19, 3) := by decide +kernel
theorem d_BRi_isSimple_90 : decode prog_11_method_2_code 90 = .ok (.iconst 1, 1) := by decide +kernel
theorem d_BRi_isSimple_91 : decode prog_11_method_2_code 91 = .ok (.goto 4, 3) := by decide +kernel
theorem d_BRi_isSimple_74 : decode prog_11_method_2_code 74 = .ok (.iload_n 1, 1) := by decide +kernel
theorem d_BRi_isSimple_75 : decode prog_11_method_2_code 75 = .ok (.ifCond .eq 19, 3) := by decide +kernel
theorem d_BRi_isSimple_94 : decode prog_11_method_2_code 94 = .ok (.iconst 0, 1) := by decide +kernel
theorem d_BRi_isSimple_78 : decode prog_11_method_2_code 78 = .ok (.iload_n 3, 1) := by decide +kernel
theorem d_BRi_isSimple_79 : decode prog_11_method_2_code 79 = .ok (.ifCond .ne 15, 3) := by decide +kernel
theorem d_BRi_isSimple_82 : decode prog_11_method_2_code 82 = .ok (.iload 4, 2) := by decide +kernel
theorem d_BRi_isSimple_84 : decode prog_11_method_2_code 84 = .ok (.iload_n 2, 1) := by decide +kernel
theorem d_BRi_isSimple_85 : decode prog_11_method_2_code 85 = .ok (.iconst 1, 1) := by decide +kernel
theorem d_BRi_isSimple_86 : decode prog_11_method_2_code 86 = .ok (.isub, 1) := by decide +kernel
theorem d_BRi_isSimple_87 : decode prog_11_method_2_code 87 = .ok (.if_icmp .ne 7, 3) := by decide +kernel
theorem d_BRi_isSimple_95 : decode prog_11_method_2_code 95 = .ok (.istore 5, 2) := by decide +kernel
theorem d_BRi_isSimple_97 : decode prog_11_method_2_code 97 = .ok (.aload_n 0, 1) := by decide +kernel
theorem d_BRi_isSimple_98 : decode prog_11_method_2_code 98 = .ok (.iload_n 3, 1) := by decide +kernel
theorem d_BRi_isSimple_99 : decode prog_11_method_2_code 99 = .ok (.invokevirtual 13, 3) := by decide +kernel
theorem d_BRi_isSimple_102 : decode prog_11_method_2_code 102 = .ok (.aload_n 0, 1) := by decide +kernel
theorem d_BRi_isSimple_103 : decode prog_11_method_2_code 103 = .ok (.iload_n 3, 1) := by decide +kernel
theorem d_BRi_isSimple_104 : decode prog_11_method_2_code 104 = .ok (.iconst 1, 1) := by decide +kernel
theorem d_BRi_isSimple_105 : decode prog_11_method_2_code 105 = .ok (.iadd, 1) := by decide +kernel
theorem d_BRi_isSimple_106 : decode prog_11_method_2_code 106 = .ok (.invokevirtual 13, 3) := by decide +kernel
theorem d_BRi_isSimple_109 : decode prog_11_method_2_code 109 = .ok (.aload_n 0, 1) := by decide +kernel
theorem d_BRi_isSimple_110 : decode prog_11_method_2_code 110 = .ok (.iload 4, 2) := by decide +kernel
theorem d_BRi_isSimple_112 : decode prog_11_method_2_code 112 = .ok (.invokevirtual 13, 3) := by decide +kernel
theorem d_BRi_isSimple_115 : decode prog_11_method_2_code 115 = .ok (.aload_n 0, 1) := by decide +kernel
theorem d_BRi_isSimple_116 : decode prog_11_method_2_code 116 = .ok (.iload 4, 2) := by decide +kernel
theorem d_BRi_isSimple_118 : decode prog_11_method_2_code 118 = .ok (.iconst 1, 1) := by decide +kernel
theorem d_BRi_isSimple_119 : decode prog_11_method_2_code 119 = .ok (.iadd, 1) := by decide +kernel
theorem d_BRi_isSimple_120 : decode prog_11_method_2_code 120 = .ok (.invokevirtual 13, 3) := by decide +kernel
theorem d_BRi_isSimple_123 : decode prog_11_method_2_code 123 = .ok (.invokestatic 17, 3) := by decide +kernel
theorem d_BRi_isSimple_126 : decode prog_11_method_2_code 126 = .ok (.istore 6, 2) := by decide +kernel
theorem d_BRi_isSimple_128 : decode prog_11_method_2_code 128 = .ok (.iload 6, 2) := by decide +kernel
theorem d_BRi_isSimple_130 : decode prog_11_method_2_code 130 = .ok (.iload 5, 2) := by decide +kernel
theorem d_BRi_isSimple_132 : decode prog_11_method_2_code 132 = .ok (.ifCond .eq 7, 3) := by decide +kernel
theorem d_BRi_isSimple_139 : decode prog_11_method_2_code 139 = .ok (.iconst 0, 1) := by decide +kernel
theorem d_BRi_isSimple_135 : decode prog_11_method_2_code 135 = .ok (.iconst 1, 1) := by decide +kernel
theorem d_BRi_isSimple_136 : decode prog_11_method_2_code 136 = .ok (.goto 4, 3) := by decide +kernel
theorem d_BRi_isSimple_140 : decode prog_11_method_2_code 140 = .ok (.if_icmp .eq 5, 3) := by decide +kernel
theorem d_BRi_isSimple_145 : decode prog_11_method_2_code 145 = .ok (.iinc 4 1, 3) := by decide +kernel
theorem d_BRi_isSimple_148 : decode prog_11_method_2_code 148 = .ok (.goto (-88), 3) := by decide +kernel
theorem d_BRi_isSimple_143 : decode prog_11_method_2_code 143 = .ok (.iconst 0, 1) := by decide +kernel
theorem d_BRi_isSimple_144 : decode prog_11_method_2_code 144 = .ok (.ireturn, 1) := by decide +kernel
def wp_BRi_isSimple_140 (post : Int → CS → Prop) (k50 : Nat → Int → Int → Int → CS → Prop) (k60 : Nat → Int → Int → Int → Int → CS → Prop) (v0 : Nat) (v1 : Int) (v2 : Int) (v3 : Int) (v4 : Int) (s0 : Int) (s1 : Int) (T : CS) : Prop := inR s1 ∧ inR s0 ∧ (s1 = s0 → (k60 v0 v1 v2 v3 (v4 + 1) T)) ∧ (¬ (s1 = s0) → post 0 T)
def wp_BRi_isSimple_95 (post : Int → CS → Prop) (k50 : Nat → Int → Int → Int → CS → Prop) (k60 : Nat → Int → Int → Int → Int → CS → Prop) (v0 : Nat) (v1 : Int) (v2 : Int) (v3 : Int) (v4 : Int) (s0 : Int) (T : CS) : Prop := tg T v0 = 2 ∧ wp_BPt_at (fun r_2 T_1 => tg T_1 v0 = 2 ∧ wp_BPt_at (fun r_4 T_3 => tg T_3 v0 = 2 ∧ wp_BPt_at (fun r_6 T_5 => tg T_5 v0 = 2 ∧ wp_BPt_at (fun r_8 T_7 => wp_BPl_meeting (fun r_9 => inR s0 ∧ (s0 = 0 → wp_BRi_isSimple_140 post k50 k60 v0 v1 v2 v3 v4 0 r_9 T_7) ∧ (¬ (s0 = 0) → wp_BRi_isSimple_140 post k50 k60 v0 v1 v2 v3 v4 1 r_9 T_7)) r_2 r_4 r_6 r_8) v0 (v4 + 1) T_5) v0 v4 T_3) v0 (v3 + 1) T_1) v0 v3 T
def wp_BRi_isSimple_60 (post : Int → CS → Prop) (k50 : Nat → Int → Int → Int → CS → Prop) : Nat → Nat → Int → Int → Int → Int → CS → Prop
  | 0, _, _, _, _, _, _ => False
  | n + 1, v0, v1, v2, v3, v4, T => inR v4 ∧ inR v2 ∧ (v2 ≤ v4 → (k50 v0 v1 v2 (v3 + 1) T)) ∧ (¬ (v2 ≤ v4) → (inR v4 ∧ inR (v3 + 1) ∧ (v4 = (v3 + 1) → wp_BRi_isSimple_95 post k50 (wp_BRi_isSimple_60 post k50 n) v0 v1 v2 v3 v4 1 T) ∧ (¬ (v4 = (v3 + 1)) → (inR v1 ∧ (v1 = 0 → wp_BRi_isSimple_95 post k50 (wp_BRi_isSimple_60 post k50 n) v0 v1 v2 v3 v4 0 T) ∧ (¬ (v1 = 0) → (inR v3 ∧ (¬ (v3 = 0) → wp_BRi_isSimple_95 post k50 (wp_BRi_isSimple_60 post k50 n) v0 v1 v2 v3 v4 0 T) ∧ (v3 = 0 → (inR v4 ∧ inR (v2 - 1) ∧ (¬ (v4 = (v2 - 1)) → wp_BRi_isSimple_95 post k50 (wp_BRi_isSimple_60 post k50 n) v0 v1 v2 v3 v4 0 T) ∧ (v4 = (v2 - 1) → wp_BRi_isSimple_95 post k50 (wp_BRi_isSimple_60 post k50 n) v0 v1 v2 v3 v4 1 T)))))))))
def wp_BRi_isSimple_50 (post : Int → CS → Prop) : Nat → Nat → Int → Int → Int → CS → Prop
  | 0, _, _, _, _, _ => False
  | n + 1, v0, v1, v2, v3, T => inR v3 ∧ inR v2 ∧ (v2 ≤ v3 → post 1 T) ∧ (¬ (v2 ≤ v3) → (∃ nn : Nat, wp_BRi_isSimple_60 post (wp_BRi_isSimple_50 post n) nn v0 v1 v2 v3 (v3 + 1) T))
def wp_BRi_isSimple_20 (post : Int → CS → Prop) : Nat → Nat → Int → Int → Int → CS → Prop
  | 0, _, _, _, _, _ => False
  | n + 1, v0, v1, v2, v3, T => inR v3 ∧ inR v2 ∧ (v2 ≤ v3 → (∃ nn : Nat, wp_BRi_isSimple_50 post nn v0 v1 v2 0 T)) ∧ (¬ (v2 ≤ v3) → (tg T v0 = 2 ∧ wp_BPt_at (fun r_2 T_1 => tg T_1 v0 = 2 ∧ wp_BPt_at (fun r_4 T_3 => inR r_2 ∧ inR r_4 ∧ (¬ (r_2 = r_4) → ((wp_BRi_isSimple_20 post n) v0 v1 v2 (v3 + 1) T_3)) ∧ (r_2 = r_4 → post 0 T_3)) v0 (v3 + 1) T_1) v0 v3 T))
def wp_BRi_isSimple_17 (post : Int → CS → Prop) (v0 : Nat) (v1 : Int) (s0 : Int) (T : CS) : Prop := ∃ nn : Nat, wp_BRi_isSimple_20 post nn v0 v1 s0 0 T
def wp_BRi_isSimple (post : Int → CS → Prop) (v0 : Nat) (v1 : Int) (T : CS) : Prop := inR v1 ∧ (v1 = 0 → (tg T v0 = 2 ∧ (wp_BRi_isSimple_17 post v0 v1 ((fi T v0 1) - 1) T))) ∧ (¬ (v1 = 0) → (tg T v0 = 2 ∧ (wp_BRi_isSimple_17 post v0 v1 (fi T v0 1) T)))
set_option maxHeartbeats 4000000 in
set_option maxRecDepth 100000 in
theorem c_BRi_isSimple (l : Launch) {D : va_G} {k : CK} {post : Int → CS → Prop} {v0 : Nat} {v1 : Int} {T : CS} (hw : wp_BRi_isSimple post v0 v1 T) : jCi l D k y_BRi_isSimple prog_11_method_2_code 7 (some .boolean) 3 70 0 0 T [.ref v0, vi v1] post := by
  refine j_coz (own := "LandBook$Rings") (by decide) rfl (Nat.le_of_ble_eq_true rfl) (fun X F K hT hret => ?_)
  have B50 : ∀ (nn : Nat) (v0 : Nat) (v1 : Int) (v2 : Int) (v3 : Int) (T : CS), cs_ok k T → wp_BRi_isSimple_50 post nn v0 v1 v2 v3 T → jat l D X 7 50 [(0, .ref v0), (1, vi v1), (2, vi v2), (3, vi v3)] [] (cwd k T) 0 0 := by
    intro nn
    induction nn with
    | zero => intro v0 v1 v2 v3 T hT hw; exact hw.elim
    | succ n50 ih50 =>
      have B60 : ∀ (nn : Nat) (v0 : Nat) (v1 : Int) (v2 : Int) (v3 : Int) (v4 : Int) (T : CS), cs_ok k T → wp_BRi_isSimple_60 post (wp_BRi_isSimple_50 post n50) nn v0 v1 v2 v3 v4 T → jat l D X 7 60 [(0, .ref v0), (1, vi v1), (2, vi v2), (3, vi v3), (4, vi v4)] [] (cwd k T) 0 0 := by
        intro nn
        induction nn with
        | zero => intro v0 v1 v2 v3 v4 T hT hw; exact hw.elim
        | succ n60 ih60 =>
          have B140 : ∀ (v0 : Nat) (v1 : Int) (v2 : Int) (v3 : Int) (v4 : Int) (s0 : Int) (s1 : Int) (T : CS), cs_ok k T → wp_BRi_isSimple_140 post (wp_BRi_isSimple_50 post n50) (wp_BRi_isSimple_60 post (wp_BRi_isSimple_50 post n50) n60) v0 v1 v2 v3 v4 s0 s1 T → jat l D X 7 140 [(0, .ref v0), (1, vi v1), (2, vi v2), (3, vi v3), (4, vi v4)] [vi s0, vi s1] (cwd k T) 0 0 := by
            intro v0 v1 v2 v3 v4 s0 s1 T hT hw
            unfold wp_BRi_isSimple_140 at hw
            obtain ⟨hc1, hc2, hwt, hwf⟩ := hw
            refine j_icmp_eq F 145 hc1 hc2 d_BRi_isSimple_140 rfl (fun hh => ?_) (fun hh => ?_)
            · have hw := hwt hh
              refine j_iinc F 4 [(4, vi (v4 + 1)), (0, .ref v0), (1, vi v1), (2, vi v2), (3, vi v3)] d_BRi_isSimple_145 rfl (by decide) rfl ?_
              refine j_goto F 60 d_BRi_isSimple_148 rfl ?_
              refine j_sub [1, 2, 3, 4, 0] rfl ?_
              exact ih60 _ _ _ _ _ _ hT hw
            · have hw := hwf hh
              refine j_iconst F d_BRi_isSimple_143 ?_
              exact hret _ _ _ _ _ _ hw hT (by omega) (by omega) (Or.inl rfl) d_BRi_isSimple_144
          have B95 : ∀ (v0 : Nat) (v1 : Int) (v2 : Int) (v3 : Int) (v4 : Int) (s0 : Int) (T : CS), cs_ok k T → wp_BRi_isSimple_95 post (wp_BRi_isSimple_50 post n50) (wp_BRi_isSimple_60 post (wp_BRi_isSimple_50 post n50) n60) v0 v1 v2 v3 v4 s0 T → jat l D X 7 95 [(0, .ref v0), (1, vi v1), (2, vi v2), (3, vi v3), (4, vi v4)] [vi s0] (cwd k T) 0 0 := by
            intro v0 v1 v2 v3 v4 s0 T hT hw
            unfold wp_BRi_isSimple_95 at hw
            refine j_istore F [(5, vi s0), (0, .ref v0), (1, vi v1), (2, vi v2), (3, vi v3), (4, vi v4)] d_BRi_isSimple_95 (by decide) rfl ?_
            refine j_aload_n F 1 d_BRi_isSimple_97 rfl ?_
            refine j_iload_n F 4 d_BRi_isSimple_98 rfl ?_
            obtain ⟨hg1, hw⟩ := hw
            refine c_callVi F K hT (c_BPt_at l hw) (tw_gV tq_135 tq_136 tq_137 tq_126 tq_138) 2 rfl (by decide) hg1 q_BPt_at rfl ⟨by decide, by decide⟩ ⟨by omega, by omega⟩ rfl (Nat.le_of_ble_eq_true rfl) d_BRi_isSimple_99 (fun r_2 T_1 hw hT => ?_)
            refine j_aload_n F 1 d_BRi_isSimple_102 rfl ?_
            refine j_iload_n F 4 d_BRi_isSimple_103 rfl ?_
            refine j_iconst F d_BRi_isSimple_104 ?_
            refine j_iadd F d_BRi_isSimple_105 ?_
            obtain ⟨hg1, hw⟩ := hw
            refine c_callVi F K hT (c_BPt_at l hw) (tw_gV tq_135 tq_136 tq_137 tq_126 tq_138) 2 rfl (by decide) hg1 q_BPt_at rfl ⟨by decide, by decide⟩ ⟨by omega, by omega⟩ rfl (Nat.le_of_ble_eq_true rfl) d_BRi_isSimple_106 (fun r_4 T_3 hw hT => ?_)
            refine j_aload_n F 1 d_BRi_isSimple_109 rfl ?_
            refine j_iload F 5 d_BRi_isSimple_110 rfl ?_
            obtain ⟨hg1, hw⟩ := hw
            refine c_callVi F K hT (c_BPt_at l hw) (tw_gV tq_135 tq_136 tq_137 tq_126 tq_138) 2 rfl (by decide) hg1 q_BPt_at rfl ⟨by decide, by decide⟩ ⟨by omega, by omega⟩ rfl (Nat.le_of_ble_eq_true rfl) d_BRi_isSimple_112 (fun r_6 T_5 hw hT => ?_)
            refine j_aload_n F 1 d_BRi_isSimple_115 rfl ?_
            refine j_iload F 5 d_BRi_isSimple_116 rfl ?_
            refine j_iconst F d_BRi_isSimple_118 ?_
            refine j_iadd F d_BRi_isSimple_119 ?_
            obtain ⟨hg1, hw⟩ := hw
            refine c_callVi F K hT (c_BPt_at l hw) (tw_gV tq_135 tq_136 tq_137 tq_126 tq_138) 2 rfl (by decide) hg1 q_BPt_at rfl ⟨by decide, by decide⟩ ⟨by omega, by omega⟩ rfl (Nat.le_of_ble_eq_true rfl) d_BRi_isSimple_120 (fun r_8 T_7 hw hT => ?_)
            refine j_callS F (c_BPl_meeting l hw) (tw_gS tq_139 tq_140 tq_88 tq_141) q_BPl_meeting rfl ⟨by decide, by decide⟩ ⟨by omega, by omega⟩ rfl (Nat.le_of_ble_eq_true rfl) d_BRi_isSimple_123 (fun r_9 hw => ?_)
            refine j_istore F [(6, vi r_9), (5, vi s0), (0, .ref v0), (1, vi v1), (2, vi v2), (3, vi v3), (4, vi v4)] d_BRi_isSimple_126 (by decide) rfl ?_
            refine j_iload F 0 d_BRi_isSimple_128 rfl ?_
            refine j_iload F 1 d_BRi_isSimple_130 rfl ?_
            obtain ⟨hc1, hwt, hwf⟩ := hw
            refine j_if_eq F 139 hc1 d_BRi_isSimple_132 rfl (fun hh => ?_) (fun hh => ?_)
            · have hw := hwt hh
              refine j_iconst F d_BRi_isSimple_139 ?_
              refine j_sub [2, 3, 4, 5, 6] rfl ?_
              exact B140 _ _ _ _ _ _ _ _ hT hw
            · have hw := hwf hh
              refine j_iconst F d_BRi_isSimple_135 ?_
              refine j_goto F 140 d_BRi_isSimple_136 rfl ?_
              refine j_sub [2, 3, 4, 5, 6] rfl ?_
              exact B140 _ _ _ _ _ _ _ _ hT hw
          intro v0 v1 v2 v3 v4 T hT hw
          unfold wp_BRi_isSimple_60 at hw
          refine j_iload F 4 d_BRi_isSimple_60 rfl ?_
          refine j_iload_n F 2 d_BRi_isSimple_62 rfl ?_
          obtain ⟨hc1, hc2, hwt, hwf⟩ := hw
          refine j_icmp_ge F 151 hc1 hc2 d_BRi_isSimple_63 rfl (fun hh => ?_) (fun hh => ?_)
          · have hw := hwt hh
            refine j_iinc F 3 [(3, vi (v3 + 1)), (0, .ref v0), (1, vi v1), (2, vi v2), (4, vi v4)] d_BRi_isSimple_151 rfl (by decide) rfl ?_
            refine j_goto F 50 d_BRi_isSimple_154 rfl ?_
            refine j_sub [1, 2, 3, 0] rfl ?_
            exact ih50 _ _ _ _ _ hT hw
          · have hw := hwf hh
            refine j_iload F 4 d_BRi_isSimple_66 rfl ?_
            refine j_iload_n F 3 d_BRi_isSimple_68 rfl ?_
            refine j_iconst F d_BRi_isSimple_69 ?_
            refine j_iadd F d_BRi_isSimple_70 ?_
            obtain ⟨hc1, hc2, hwt, hwf⟩ := hw
            refine j_icmp_eq F 90 hc1 hc2 d_BRi_isSimple_71 rfl (fun hh => ?_) (fun hh => ?_)
            · have hw := hwt hh
              refine j_iconst F d_BRi_isSimple_90 ?_
              refine j_goto F 95 d_BRi_isSimple_91 rfl ?_
              exact B95 _ _ _ _ _ _ _ hT hw
            · have hw := hwf hh
              refine j_iload_n F 1 d_BRi_isSimple_74 rfl ?_
              obtain ⟨hc1, hwt, hwf⟩ := hw
              refine j_if_eq F 94 hc1 d_BRi_isSimple_75 rfl (fun hh => ?_) (fun hh => ?_)
              · have hw := hwt hh
                refine j_iconst F d_BRi_isSimple_94 ?_
                exact B95 _ _ _ _ _ _ _ hT hw
              · have hw := hwf hh
                refine j_iload_n F 3 d_BRi_isSimple_78 rfl ?_
                obtain ⟨hc1, hwt, hwf⟩ := hw
                refine j_if_ne F 94 hc1 d_BRi_isSimple_79 rfl (fun hh => ?_) (fun hh => ?_)
                · have hw := hwt hh
                  refine j_iconst F d_BRi_isSimple_94 ?_
                  exact B95 _ _ _ _ _ _ _ hT hw
                · have hw := hwf hh
                  refine j_iload F 4 d_BRi_isSimple_82 rfl ?_
                  refine j_iload_n F 2 d_BRi_isSimple_84 rfl ?_
                  refine j_iconst F d_BRi_isSimple_85 ?_
                  refine j_isub F d_BRi_isSimple_86 ?_
                  obtain ⟨hc1, hc2, hwt, hwf⟩ := hw
                  refine j_icmp_ne F 94 hc1 hc2 d_BRi_isSimple_87 rfl (fun hh => ?_) (fun hh => ?_)
                  · have hw := hwt hh
                    refine j_iconst F d_BRi_isSimple_94 ?_
                    exact B95 _ _ _ _ _ _ _ hT hw
                  · have hw := hwf hh
                    refine j_iconst F d_BRi_isSimple_90 ?_
                    refine j_goto F 95 d_BRi_isSimple_91 rfl ?_
                    exact B95 _ _ _ _ _ _ _ hT hw
      intro v0 v1 v2 v3 T hT hw
      unfold wp_BRi_isSimple_50 at hw
      refine j_iload_n F 3 d_BRi_isSimple_50 rfl ?_
      refine j_iload_n F 2 d_BRi_isSimple_51 rfl ?_
      obtain ⟨hc1, hc2, hwt, hwf⟩ := hw
      refine j_icmp_ge F 157 hc1 hc2 d_BRi_isSimple_52 rfl (fun hh => ?_) (fun hh => ?_)
      · have hw := hwt hh
        refine j_iconst F d_BRi_isSimple_157 ?_
        exact hret _ _ _ _ _ _ hw hT (by omega) (by omega) (Or.inr rfl) d_BRi_isSimple_158
      · have hw := hwf hh
        refine j_iload_n F 3 d_BRi_isSimple_55 rfl ?_
        refine j_iconst F d_BRi_isSimple_56 ?_
        refine j_iadd F d_BRi_isSimple_57 ?_
        refine j_istore F [(4, vi (v3 + 1)), (0, .ref v0), (1, vi v1), (2, vi v2), (3, vi v3)] d_BRi_isSimple_58 (by decide) rfl ?_
        refine j_sub [1, 2, 3, 4, 0] rfl ?_
        obtain ⟨nn, hw⟩ := hw
        exact B60 nn _ _ _ _ _ _ hT hw
  have B20 : ∀ (nn : Nat) (v0 : Nat) (v1 : Int) (v2 : Int) (v3 : Int) (T : CS), cs_ok k T → wp_BRi_isSimple_20 post nn v0 v1 v2 v3 T → jat l D X 7 20 [(0, .ref v0), (1, vi v1), (2, vi v2), (3, vi v3)] [] (cwd k T) 0 0 := by
    intro nn
    induction nn with
    | zero => intro v0 v1 v2 v3 T hT hw; exact hw.elim
    | succ n20 ih20 =>
      intro v0 v1 v2 v3 T hT hw
      unfold wp_BRi_isSimple_20 at hw
      refine j_iload_n F 3 d_BRi_isSimple_20 rfl ?_
      refine j_iload_n F 2 d_BRi_isSimple_21 rfl ?_
      obtain ⟨hc1, hc2, hwt, hwf⟩ := hw
      refine j_icmp_ge F 48 hc1 hc2 d_BRi_isSimple_22 rfl (fun hh => ?_) (fun hh => ?_)
      · have hw := hwt hh
        refine j_iconst F d_BRi_isSimple_48 ?_
        refine j_istore_n F [(3, vi 0), (0, .ref v0), (1, vi v1), (2, vi v2)] d_BRi_isSimple_49 (by decide) rfl ?_
        refine j_sub [1, 2, 3, 0] rfl ?_
        obtain ⟨nn, hw⟩ := hw
        exact B50 nn _ _ _ _ _ hT hw
      · have hw := hwf hh
        refine j_aload_n F 0 d_BRi_isSimple_25 rfl ?_
        refine j_iload_n F 3 d_BRi_isSimple_26 rfl ?_
        obtain ⟨hg1, hw⟩ := hw
        refine c_callVi F K hT (c_BPt_at l hw) (tw_gV tq_135 tq_136 tq_137 tq_126 tq_138) 2 rfl (by decide) hg1 q_BPt_at rfl ⟨by decide, by decide⟩ ⟨by omega, by omega⟩ rfl (Nat.le_of_ble_eq_true rfl) d_BRi_isSimple_27 (fun r_2 T_1 hw hT => ?_)
        refine j_aload_n F 0 d_BRi_isSimple_30 rfl ?_
        refine j_iload_n F 3 d_BRi_isSimple_31 rfl ?_
        refine j_iconst F d_BRi_isSimple_32 ?_
        refine j_iadd F d_BRi_isSimple_33 ?_
        obtain ⟨hg1, hw⟩ := hw
        refine c_callVi F K hT (c_BPt_at l hw) (tw_gV tq_135 tq_136 tq_137 tq_126 tq_138) 2 rfl (by decide) hg1 q_BPt_at rfl ⟨by decide, by decide⟩ ⟨by omega, by omega⟩ rfl (Nat.le_of_ble_eq_true rfl) d_BRi_isSimple_34 (fun r_4 T_3 hw hT => ?_)
        obtain ⟨hc1, hc2, hwt, hwf⟩ := hw
        refine j_icmp_ne F 42 hc1 hc2 d_BRi_isSimple_37 rfl (fun hh => ?_) (fun hh => ?_)
        · have hw := hwt hh
          refine j_iinc F 3 [(3, vi (v3 + 1)), (0, .ref v0), (1, vi v1), (2, vi v2)] d_BRi_isSimple_42 rfl (by decide) rfl ?_
          refine j_goto F 20 d_BRi_isSimple_45 rfl ?_
          refine j_sub [1, 2, 3, 0] rfl ?_
          exact ih20 _ _ _ _ _ hT hw
        · have hw := hwf hh
          refine j_iconst F d_BRi_isSimple_40 ?_
          exact hret _ _ _ _ _ _ hw hT (by omega) (by omega) (Or.inl rfl) d_BRi_isSimple_41
  have B17 : ∀ (v0 : Nat) (v1 : Int) (s0 : Int) (T : CS), cs_ok k T → wp_BRi_isSimple_17 post v0 v1 s0 T → jat l D X 7 17 [(0, .ref v0), (1, vi v1)] [vi s0] (cwd k T) 0 0 := by
    intro v0 v1 s0 T hT hw
    unfold wp_BRi_isSimple_17 at hw
    refine j_istore_n F [(2, vi s0), (0, .ref v0), (1, vi v1)] d_BRi_isSimple_17 (by decide) rfl ?_
    refine j_iconst F d_BRi_isSimple_18 ?_
    refine j_istore_n F [(3, vi 0), (2, vi s0), (0, .ref v0), (1, vi v1)] d_BRi_isSimple_19 (by decide) rfl ?_
    refine j_sub [2, 3, 1, 0] rfl ?_
    obtain ⟨nn, hw⟩ := hw
    exact B20 nn _ _ _ _ _ hT hw
  unfold wp_BRi_isSimple at hw
  show jat l D X 7 0 [(0, .ref v0), (1, vi v1)] [] (cwd k T) 0 0
  refine j_iload_n F 1 d_BRi_isSimple_0 rfl ?_
  obtain ⟨hc1, hwt, hwf⟩ := hw
  refine j_if_eq F 11 hc1 d_BRi_isSimple_1 rfl (fun hh => ?_) (fun hh => ?_)
  · have hw := hwt hh
    refine j_aload_n F 0 d_BRi_isSimple_11 rfl ?_
    obtain ⟨hc1, hw⟩ := hw
    refine c_geti F K hT 2 1 rfl tu_Points (by decide) (by decide) rfl tq_134 (Or.inl rfl) hc1 d_BRi_isSimple_12 ?_
    refine j_iconst F d_BRi_isSimple_15 ?_
    refine j_isub F d_BRi_isSimple_16 ?_
    exact B17 _ _ _ _ hT hw
  · have hw := hwf hh
    refine j_aload_n F 0 d_BRi_isSimple_4 rfl ?_
    obtain ⟨hc1, hw⟩ := hw
    refine c_geti F K hT 2 1 rfl tu_Points (by decide) (by decide) rfl tq_134 (Or.inl rfl) hc1 d_BRi_isSimple_5 ?_
    refine j_goto F 17 d_BRi_isSimple_8 rfl ?_
    exact B17 _ _ _ _ hT hw
theorem tq_142 : (Jvm.Cond.methodLink "LandBook$Rings" (23 : Nat) ({ cls := "LandBook$Plane", name := "xOf", desc := "(I)I" } : Jvm.MethodName)) ∈ tw_G := tw_in (List.mem_of_getElem? (i := 434) (by decide +kernel)) rfl
theorem tq_143 : (Jvm.Cond.methodLink "LandBook$Rings" (26 : Nat) ({ cls := "LandBook$Plane", name := "yOf", desc := "(I)I" } : Jvm.MethodName)) ∈ tw_G := tw_in (List.mem_of_getElem? (i := 435) (by decide +kernel)) rfl
abbrev y_BRi_twiceArea : MethodName := ⟨"LandBook$Rings", "twiceArea", "(LLandBook$Points;)J"⟩
theorem q_BRi_twiceArea : y_BRi_twiceArea.cls ≠ "java/lang/invoke/MethodHandle" ∧ y_BRi_twiceArea.cls ≠ "java/lang/invoke/VarHandle" ∧ (parseMethodDescriptor y_BRi_twiceArea.desc).map (fun d => d.parameters.length) = some 1 := by decide +kernel
theorem d_BRi_twiceArea_0 : decode prog_11_method_3_code 0 = .ok (.lconst 0, 1) := by decide +kernel
theorem d_BRi_twiceArea_1 : decode prog_11_method_3_code 1 = .ok (.lstore_n 1, 1) := by decide +kernel
theorem d_BRi_twiceArea_2 : decode prog_11_method_3_code 2 = .ok (.iconst 0, 1) := by decide +kernel
theorem d_BRi_twiceArea_3 : decode prog_11_method_3_code 3 = .ok (.istore_n 3, 1) := by decide +kernel
theorem d_BRi_twiceArea_4 : decode prog_11_method_3_code 4 = .ok (.iload_n 3, 1) := by decide +kernel
theorem d_BRi_twiceArea_5 : decode prog_11_method_3_code 5 = .ok (.aload_n 0, 1) := by decide +kernel
theorem d_BRi_twiceArea_6 : decode prog_11_method_3_code 6 = .ok (.getfield 7, 3) := by decide +kernel
theorem d_BRi_twiceArea_9 : decode prog_11_method_3_code 9 = .ok (.if_icmp .ge 63, 3) := by decide +kernel
theorem d_BRi_twiceArea_72 : decode prog_11_method_3_code 72 = .ok (.lload_n 1, 1) := by decide +kernel
theorem d_BRi_twiceArea_73 : decode prog_11_method_3_code 73 = .ok (.lreturn, 1) := by decide +kernel
theorem d_BRi_twiceArea_12 : decode prog_11_method_3_code 12 = .ok (.aload_n 0, 1) := by decide +kernel
theorem d_BRi_twiceArea_13 : decode prog_11_method_3_code 13 = .ok (.iload_n 3, 1) := by decide +kernel
theorem d_BRi_twiceArea_14 : decode prog_11_method_3_code 14 = .ok (.invokevirtual 13, 3) := by decide +kernel
theorem d_BRi_twiceArea_17 : decode prog_11_method_3_code 17 = .ok (.invokestatic 23, 3) := by decide +kernel
theorem d_BRi_twiceArea_20 : decode prog_11_method_3_code 20 = .ok (.i2l, 1) := by decide +kernel
theorem d_BRi_twiceArea_21 : decode prog_11_method_3_code 21 = .ok (.lstore 4, 2) := by decide +kernel
theorem d_BRi_twiceArea_23 : decode prog_11_method_3_code 23 = .ok (.aload_n 0, 1) := by decide +kernel
theorem d_BRi_twiceArea_24 : decode prog_11_method_3_code 24 = .ok (.iload_n 3, 1) := by decide +kernel
theorem d_BRi_twiceArea_25 : decode prog_11_method_3_code 25 = .ok (.invokevirtual 13, 3) := by decide +kernel
theorem d_BRi_twiceArea_28 : decode prog_11_method_3_code 28 = .ok (.invokestatic 26, 3) := by decide +kernel
theorem d_BRi_twiceArea_31 : decode prog_11_method_3_code 31 = .ok (.i2l, 1) := by decide +kernel
theorem d_BRi_twiceArea_32 : decode prog_11_method_3_code 32 = .ok (.lstore 6, 2) := by decide +kernel
theorem d_BRi_twiceArea_34 : decode prog_11_method_3_code 34 = .ok (.lload_n 1, 1) := by decide +kernel
theorem d_BRi_twiceArea_35 : decode prog_11_method_3_code 35 = .ok (.lload 4, 2) := by decide +kernel
theorem d_BRi_twiceArea_37 : decode prog_11_method_3_code 37 = .ok (.aload_n 0, 1) := by decide +kernel
theorem d_BRi_twiceArea_38 : decode prog_11_method_3_code 38 = .ok (.iload_n 3, 1) := by decide +kernel
theorem d_BRi_twiceArea_39 : decode prog_11_method_3_code 39 = .ok (.iconst 1, 1) := by decide +kernel
theorem d_BRi_twiceArea_40 : decode prog_11_method_3_code 40 = .ok (.iadd, 1) := by decide +kernel
theorem d_BRi_twiceArea_41 : decode prog_11_method_3_code 41 = .ok (.invokevirtual 13, 3) := by decide +kernel
theorem d_BRi_twiceArea_44 : decode prog_11_method_3_code 44 = .ok (.invokestatic 26, 3) := by decide +kernel
theorem d_BRi_twiceArea_47 : decode prog_11_method_3_code 47 = .ok (.i2l, 1) := by decide +kernel
theorem d_BRi_twiceArea_48 : decode prog_11_method_3_code 48 = .ok (.lmul, 1) := by decide +kernel
theorem d_BRi_twiceArea_49 : decode prog_11_method_3_code 49 = .ok (.lload 6, 2) := by decide +kernel
theorem d_BRi_twiceArea_51 : decode prog_11_method_3_code 51 = .ok (.aload_n 0, 1) := by decide +kernel
theorem d_BRi_twiceArea_52 : decode prog_11_method_3_code 52 = .ok (.iload_n 3, 1) := by decide +kernel
theorem d_BRi_twiceArea_53 : decode prog_11_method_3_code 53 = .ok (.iconst 1, 1) := by decide +kernel
theorem d_BRi_twiceArea_54 : decode prog_11_method_3_code 54 = .ok (.iadd, 1) := by decide +kernel
theorem d_BRi_twiceArea_55 : decode prog_11_method_3_code 55 = .ok (.invokevirtual 13, 3) := by decide +kernel
theorem d_BRi_twiceArea_58 : decode prog_11_method_3_code 58 = .ok (.invokestatic 23, 3) := by decide +kernel
theorem d_BRi_twiceArea_61 : decode prog_11_method_3_code 61 = .ok (.i2l, 1) := by decide +kernel
theorem d_BRi_twiceArea_62 : decode prog_11_method_3_code 62 = .ok (.lmul, 1) := by decide +kernel
theorem d_BRi_twiceArea_63 : decode prog_11_method_3_code 63 = .ok (.lsub, 1) := by decide +kernel
theorem d_BRi_twiceArea_64 : decode prog_11_method_3_code 64 = .ok (.ladd, 1) := by decide +kernel
theorem d_BRi_twiceArea_65 : decode prog_11_method_3_code 65 = .ok (.lstore_n 1, 1) := by decide +kernel
theorem d_BRi_twiceArea_66 : decode prog_11_method_3_code 66 = .ok (.iinc 3 1, 3) := by decide +kernel
theorem d_BRi_twiceArea_69 : decode prog_11_method_3_code 69 = .ok (.goto (-65), 3) := by decide +kernel
def wp_BRi_twiceArea_4 (post : Int → CS → Prop) : Nat → Nat → Int → Int → CS → Prop
  | 0, _, _, _, _ => False
  | n + 1, v0, v1, v3, T => tg T v0 = 2 ∧ (inR v3 ∧ inR (fi T v0 1) ∧ ((fi T v0 1) ≤ v3 → post v1 T) ∧ (¬ ((fi T v0 1) ≤ v3) → (tg T v0 = 2 ∧ wp_BPt_at (fun r_2 T_1 => wp_BPl_xOf (fun r_3 => inR r_3 ∧ (tg T_1 v0 = 2 ∧ wp_BPt_at (fun r_5 T_4 => wp_BPl_yOf (fun r_6 => inR r_6 ∧ (tg T_4 v0 = 2 ∧ wp_BPt_at (fun r_8 T_7 => wp_BPl_yOf (fun r_9 => inR r_9 ∧ (tg T_7 v0 = 2 ∧ wp_BPt_at (fun r_11 T_10 => wp_BPl_xOf (fun r_12 => inR r_12 ∧ (∀ v1_13 : Int, v1_13 = (v1 + ((r_3 * r_9) - (r_6 * r_12))) → (wp_BRi_twiceArea_4 post n) v0 v1_13 (v3 + 1) T_10)) r_11) v0 (v3 + 1) T_7)) r_8) v0 (v3 + 1) T_4)) r_5) v0 v3 T_1)) r_2) v0 v3 T)))
def wp_BRi_twiceArea (post : Int → CS → Prop) (v0 : Nat) (T : CS) : Prop := ∃ nn : Nat, wp_BRi_twiceArea_4 post nn v0 0 0 T
set_option maxHeartbeats 4000000 in
set_option maxRecDepth 100000 in
theorem c_BRi_twiceArea (l : Launch) {D : va_G} {k : CK} {post : Int → CS → Prop} {v0 : Nat} {T : CS} (hw : wp_BRi_twiceArea post v0 T) : jCl l D k y_BRi_twiceArea prog_11_method_3_code 8 (some .long) 2 43 0 0 T [.ref v0] post := by
  refine j_col (own := "LandBook$Rings") (by decide) rfl (Nat.le_of_ble_eq_true rfl) (fun X F K hT hret => ?_)
  have B4 : ∀ (nn : Nat) (v0 : Nat) (v1 : Int) (v3 : Int) (T : CS), cs_ok k T → wp_BRi_twiceArea_4 post nn v0 v1 v3 T → jat l D X 8 4 [(0, .ref v0), (1, vl v1), (3, vi v3)] [] (cwd k T) 0 0 := by
    intro nn
    induction nn with
    | zero => intro v0 v1 v3 T hT hw; exact hw.elim
    | succ n4 ih4 =>
      intro v0 v1 v3 T hT hw
      unfold wp_BRi_twiceArea_4 at hw
      refine j_iload_n F 2 d_BRi_twiceArea_4 rfl ?_
      refine j_aload_n F 0 d_BRi_twiceArea_5 rfl ?_
      obtain ⟨hc1, hw⟩ := hw
      refine c_geti F K hT 2 1 rfl tu_Points (by decide) (by decide) rfl tq_134 (Or.inl rfl) hc1 d_BRi_twiceArea_6 ?_
      obtain ⟨hc1, hc2, hwt, hwf⟩ := hw
      refine j_icmp_ge F 72 hc1 hc2 d_BRi_twiceArea_9 rfl (fun hh => ?_) (fun hh => ?_)
      · have hw := hwt hh
        refine j_lload_n F 1 d_BRi_twiceArea_72 rfl ?_
        exact hret _ _ _ _ _ _ hw hT (by omega) (by omega) d_BRi_twiceArea_73
      · have hw := hwf hh
        refine j_aload_n F 0 d_BRi_twiceArea_12 rfl ?_
        refine j_iload_n F 2 d_BRi_twiceArea_13 rfl ?_
        obtain ⟨hg1, hw⟩ := hw
        refine c_callVi F K hT (c_BPt_at l hw) (tw_gV tq_135 tq_136 tq_137 tq_126 tq_138) 2 rfl (by decide) hg1 q_BPt_at rfl ⟨by decide, by decide⟩ ⟨by omega, by omega⟩ rfl (Nat.le_of_ble_eq_true rfl) d_BRi_twiceArea_14 (fun r_2 T_1 hw hT => ?_)
        refine j_callS F (c_BPl_xOf l hw) (tw_gS tq_142 tq_87 tq_88 tq_89) q_BPl_xOf rfl ⟨by decide, by decide⟩ ⟨by omega, by omega⟩ rfl (Nat.le_of_ble_eq_true rfl) d_BRi_twiceArea_17 (fun r_3 hw => ?_)
        obtain ⟨hc1, hw⟩ := hw
        refine j_i2l F hc1 d_BRi_twiceArea_20 ?_
        refine j_lstore F [(4, vl r_3), (0, .ref v0), (1, vl v1), (3, vi v3)] d_BRi_twiceArea_21 (by decide) rfl ?_
        refine j_aload_n F 1 d_BRi_twiceArea_23 rfl ?_
        refine j_iload_n F 3 d_BRi_twiceArea_24 rfl ?_
        obtain ⟨hg1, hw⟩ := hw
        refine c_callVi F K hT (c_BPt_at l hw) (tw_gV tq_135 tq_136 tq_137 tq_126 tq_138) 2 rfl (by decide) hg1 q_BPt_at rfl ⟨by decide, by decide⟩ ⟨by omega, by omega⟩ rfl (Nat.le_of_ble_eq_true rfl) d_BRi_twiceArea_25 (fun r_5 T_4 hw hT => ?_)
        refine j_callS F (c_BPl_yOf l hw) (tw_gS tq_143 tq_91 tq_88 tq_92) q_BPl_yOf rfl ⟨by decide, by decide⟩ ⟨by omega, by omega⟩ rfl (Nat.le_of_ble_eq_true rfl) d_BRi_twiceArea_28 (fun r_6 hw => ?_)
        obtain ⟨hc1, hw⟩ := hw
        refine j_i2l F hc1 d_BRi_twiceArea_31 ?_
        refine j_lstore F [(6, vl r_6), (4, vl r_3), (0, .ref v0), (1, vl v1), (3, vi v3)] d_BRi_twiceArea_32 (by decide) rfl ?_
        refine j_lload_n F 3 d_BRi_twiceArea_34 rfl ?_
        refine j_lload F 1 d_BRi_twiceArea_35 rfl ?_
        refine j_aload_n F 2 d_BRi_twiceArea_37 rfl ?_
        refine j_iload_n F 4 d_BRi_twiceArea_38 rfl ?_
        refine j_iconst F d_BRi_twiceArea_39 ?_
        refine j_iadd F d_BRi_twiceArea_40 ?_
        obtain ⟨hg1, hw⟩ := hw
        refine c_callVi F K hT (c_BPt_at l hw) (tw_gV tq_135 tq_136 tq_137 tq_126 tq_138) 2 rfl (by decide) hg1 q_BPt_at rfl ⟨by decide, by decide⟩ ⟨by omega, by omega⟩ rfl (Nat.le_of_ble_eq_true rfl) d_BRi_twiceArea_41 (fun r_8 T_7 hw hT => ?_)
        refine j_callS F (c_BPl_yOf l hw) (tw_gS tq_143 tq_91 tq_88 tq_92) q_BPl_yOf rfl ⟨by decide, by decide⟩ ⟨by omega, by omega⟩ rfl (Nat.le_of_ble_eq_true rfl) d_BRi_twiceArea_44 (fun r_9 hw => ?_)
        obtain ⟨hc1, hw⟩ := hw
        refine j_i2l F hc1 d_BRi_twiceArea_47 ?_
        refine j_lmul F d_BRi_twiceArea_48 ?_
        refine j_lload F 0 d_BRi_twiceArea_49 rfl ?_
        refine j_aload_n F 2 d_BRi_twiceArea_51 rfl ?_
        refine j_iload_n F 4 d_BRi_twiceArea_52 rfl ?_
        refine j_iconst F d_BRi_twiceArea_53 ?_
        refine j_iadd F d_BRi_twiceArea_54 ?_
        obtain ⟨hg1, hw⟩ := hw
        refine c_callVi F K hT (c_BPt_at l hw) (tw_gV tq_135 tq_136 tq_137 tq_126 tq_138) 2 rfl (by decide) hg1 q_BPt_at rfl ⟨by decide, by decide⟩ ⟨by omega, by omega⟩ rfl (Nat.le_of_ble_eq_true rfl) d_BRi_twiceArea_55 (fun r_11 T_10 hw hT => ?_)
        refine j_callS F (c_BPl_xOf l hw) (tw_gS tq_142 tq_87 tq_88 tq_89) q_BPl_xOf rfl ⟨by decide, by decide⟩ ⟨by omega, by omega⟩ rfl (Nat.le_of_ble_eq_true rfl) d_BRi_twiceArea_58 (fun r_12 hw => ?_)
        obtain ⟨hc1, hw⟩ := hw
        refine j_i2l F hc1 d_BRi_twiceArea_61 ?_
        refine j_lmul F d_BRi_twiceArea_62 ?_
        refine j_lsub F d_BRi_twiceArea_63 ?_
        refine j_ladd F d_BRi_twiceArea_64 ?_
        refine j_nml (fun v1_13 e_v1_13 => ?_)
        have hw := hw v1_13 e_v1_13
        refine j_lstore_n F [(1, vl v1_13), (6, vl r_6), (4, vl r_3), (0, .ref v0), (3, vi v3)] d_BRi_twiceArea_65 (by decide) rfl ?_
        refine j_iinc F 4 [(3, vi (v3 + 1)), (1, vl v1_13), (6, vl r_6), (4, vl r_3), (0, .ref v0)] d_BRi_twiceArea_66 rfl (by decide) rfl ?_
        refine j_goto F 4 d_BRi_twiceArea_69 rfl ?_
        refine j_sub [4, 1, 0] rfl ?_
        exact ih4 _ _ _ _ hT hw
  unfold wp_BRi_twiceArea at hw
  show jat l D X 8 0 [(0, .ref v0)] [] (cwd k T) 0 0
  refine j_lconst (x := 0) F d_BRi_twiceArea_0 (by decide) ?_
  refine j_lstore_n F [(1, vl 0), (0, .ref v0)] d_BRi_twiceArea_1 (by decide) rfl ?_
  refine j_iconst F d_BRi_twiceArea_2 ?_
  refine j_istore_n F [(3, vi 0), (1, vl 0), (0, .ref v0)] d_BRi_twiceArea_3 (by decide) rfl ?_
  refine j_sub [2, 1, 0] rfl ?_
  obtain ⟨nn, hw⟩ := hw
  exact B4 nn _ _ _ _ hT hw
theorem tq_144 : (Jvm.Cond.methodLink "LandBook$Rings" (29 : Nat) ({ cls := "LandBook$Rings", name := "twiceArea", desc := "(LLandBook$Points;)J" } : Jvm.MethodName)) ∈ tw_G := tw_in (List.mem_of_getElem? (i := 431) (by decide +kernel)) rfl
theorem tq_145 : (Jvm.Cond.static ({ cls := "LandBook$Rings", name := "twiceArea", desc := "(LLandBook$Points;)J" } : Jvm.MethodName)) ∈ tw_G := tw_in (List.mem_of_getElem? (i := 432) (by decide +kernel)) rfl
theorem tq_146 : (Jvm.Cond.initialized "LandBook$Rings") ∈ tw_G := tw_in (List.mem_of_getElem? (i := 78) (by decide +kernel)) rfl
theorem tq_147 : (Jvm.Cond.code ({ cls := "LandBook$Rings", name := "twiceArea", desc := "(LLandBook$Points;)J" } : Jvm.MethodName) prog_11_method_3_code (8 : Nat) (Option.some Jvm.ClassFile.FieldType.long)) ∈ tw_G := tw_in (List.mem_of_getElem? (i := 433) (by decide +kernel)) rfl
theorem tq_148 : (Jvm.Cond.methodLink "LandBook$Rings" (35 : Nat) ({ cls := "LandBook$Points", name := "clear", desc := "()V" } : Jvm.MethodName)) ∈ tw_G := tw_in (List.mem_of_getElem? (i := 436) (by decide +kernel)) rfl
theorem tq_149 : (Jvm.Cond.instanceMethod ({ cls := "LandBook$Points", name := "clear", desc := "()V" } : Jvm.MethodName)) ∈ tw_G := tw_in (List.mem_of_getElem? (i := 369) (by decide +kernel)) rfl
theorem tq_150 : (Jvm.Cond.selects "LandBook$Points" ({ cls := "LandBook$Points", name := "clear", desc := "()V" } : Jvm.MethodName) ({ cls := "LandBook$Points", name := "clear", desc := "()V" } : Jvm.MethodName)) ∈ tw_G := tw_in (List.mem_of_getElem? (i := 370) (by decide +kernel)) rfl
theorem tq_151 : (Jvm.Cond.code ({ cls := "LandBook$Points", name := "clear", desc := "()V" } : Jvm.MethodName) prog_9_method_2_code (1 : Nat) (Option.none : Option Jvm.ClassFile.FieldType)) ∈ tw_G := tw_in (List.mem_of_getElem? (i := 371) (by decide +kernel)) rfl
theorem tq_152 : (Jvm.Cond.methodLink "LandBook$Rings" (38 : Nat) ({ cls := "LandBook$Plane", name := "turn", desc := "(III)I" } : Jvm.MethodName)) ∈ tw_G := tw_in (List.mem_of_getElem? (i := 437) (by decide +kernel)) rfl
theorem tq_153 : (Jvm.Cond.methodLink "LandBook$Rings" (42 : Nat) ({ cls := "LandBook$Points", name := "add", desc := "(I)V" } : Jvm.MethodName)) ∈ tw_G := tw_in (List.mem_of_getElem? (i := 438) (by decide +kernel)) rfl
abbrev y_BRi_keep : MethodName := ⟨"LandBook$Rings", "keep", "(LLandBook$Points;LLandBook$Points;)V"⟩
theorem q_BRi_keep : y_BRi_keep.cls ≠ "java/lang/invoke/MethodHandle" ∧ y_BRi_keep.cls ≠ "java/lang/invoke/VarHandle" ∧ (parseMethodDescriptor y_BRi_keep.desc).map (fun d => d.parameters.length) = some 2 := by decide +kernel
theorem d_BRi_keep_0 : decode prog_11_method_4_code 0 = .ok (.iconst 0, 1) := by decide +kernel
theorem d_BRi_keep_1 : decode prog_11_method_4_code 1 = .ok (.istore_n 2, 1) := by decide +kernel
theorem d_BRi_keep_2 : decode prog_11_method_4_code 2 = .ok (.iconst 1, 1) := by decide +kernel
theorem d_BRi_keep_3 : decode prog_11_method_4_code 3 = .ok (.istore_n 3, 1) := by decide +kernel
theorem d_BRi_keep_4 : decode prog_11_method_4_code 4 = .ok (.iload_n 3, 1) := by decide +kernel
theorem d_BRi_keep_5 : decode prog_11_method_4_code 5 = .ok (.aload_n 0, 1) := by decide +kernel
theorem d_BRi_keep_6 : decode prog_11_method_4_code 6 = .ok (.getfield 7, 3) := by decide +kernel
theorem d_BRi_keep_9 : decode prog_11_method_4_code 9 = .ok (.if_icmp .ge 24, 3) := by decide +kernel
theorem d_BRi_keep_33 : decode prog_11_method_4_code 33 = .ok (.aload_n 0, 1) := by decide +kernel
theorem d_BRi_keep_34 : decode prog_11_method_4_code 34 = .ok (.invokestatic 29, 3) := by decide +kernel
theorem d_BRi_keep_37 : decode prog_11_method_4_code 37 = .ok (.lconst 0, 1) := by decide +kernel
theorem d_BRi_keep_38 : decode prog_11_method_4_code 38 = .ok (.lcmp, 1) := by decide +kernel
theorem d_BRi_keep_39 : decode prog_11_method_4_code 39 = .ok (.ifCond .le 7, 3) := by decide +kernel
theorem d_BRi_keep_46 : decode prog_11_method_4_code 46 = .ok (.iconst (-1), 1) := by decide +kernel
theorem d_BRi_keep_42 : decode prog_11_method_4_code 42 = .ok (.iconst 1, 1) := by decide +kernel
theorem d_BRi_keep_43 : decode prog_11_method_4_code 43 = .ok (.goto 4, 3) := by decide +kernel
theorem d_BRi_keep_12 : decode prog_11_method_4_code 12 = .ok (.aload_n 0, 1) := by decide +kernel
theorem d_BRi_keep_13 : decode prog_11_method_4_code 13 = .ok (.iload_n 3, 1) := by decide +kernel
theorem d_BRi_keep_14 : decode prog_11_method_4_code 14 = .ok (.invokevirtual 13, 3) := by decide +kernel
theorem d_BRi_keep_17 : decode prog_11_method_4_code 17 = .ok (.aload_n 0, 1) := by decide +kernel
theorem d_BRi_keep_18 : decode prog_11_method_4_code 18 = .ok (.iload_n 2, 1) := by decide +kernel
theorem d_BRi_keep_19 : decode prog_11_method_4_code 19 = .ok (.invokevirtual 13, 3) := by decide +kernel
theorem d_BRi_keep_22 : decode prog_11_method_4_code 22 = .ok (.if_icmp .ge 5, 3) := by decide +kernel
theorem d_BRi_keep_25 : decode prog_11_method_4_code 25 = .ok (.iload_n 3, 1) := by decide +kernel
theorem d_BRi_keep_26 : decode prog_11_method_4_code 26 = .ok (.istore_n 2, 1) := by decide +kernel
theorem d_BRi_keep_47 : decode prog_11_method_4_code 47 = .ok (.istore_n 3, 1) := by decide +kernel
theorem d_BRi_keep_48 : decode prog_11_method_4_code 48 = .ok (.aload_n 1, 1) := by decide +kernel
theorem d_BRi_keep_49 : decode prog_11_method_4_code 49 = .ok (.invokevirtual 35, 3) := by decide +kernel
theorem d_BRi_keep_52 : decode prog_11_method_4_code 52 = .ok (.iconst 0, 1) := by decide +kernel
theorem d_BRi_keep_53 : decode prog_11_method_4_code 53 = .ok (.istore 4, 2) := by decide +kernel
theorem d_BRi_keep_27 : decode prog_11_method_4_code 27 = .ok (.iinc 3 1, 3) := by decide +kernel
theorem d_BRi_keep_30 : decode prog_11_method_4_code 30 = .ok (.goto (-26), 3) := by decide +kernel
theorem d_BRi_keep_55 : decode prog_11_method_4_code 55 = .ok (.iload 4, 2) := by decide +kernel
theorem d_BRi_keep_57 : decode prog_11_method_4_code 57 = .ok (.aload_n 0, 1) := by decide +kernel
theorem d_BRi_keep_58 : decode prog_11_method_4_code 58 = .ok (.getfield 7, 3) := by decide +kernel
theorem d_BRi_keep_61 : decode prog_11_method_4_code 61 = .ok (.if_icmp .ge 55, 3) := by decide +kernel
theorem d_BRi_keep_116 : decode prog_11_method_4_code 116 = .ok (.return_, 1) := by decide +kernel
theorem d_BRi_keep_64 : decode prog_11_method_4_code 64 = .ok (.iload_n 2, 1) := by decide +kernel
theorem d_BRi_keep_65 : decode prog_11_method_4_code 65 = .ok (.iload 4, 2) := by decide +kernel
theorem d_BRi_keep_67 : decode prog_11_method_4_code 67 = .ok (.iload_n 3, 1) := by decide +kernel
theorem d_BRi_keep_68 : decode prog_11_method_4_code 68 = .ok (.imul, 1) := by decide +kernel
theorem d_BRi_keep_69 : decode prog_11_method_4_code 69 = .ok (.iadd, 1) := by decide +kernel
theorem d_BRi_keep_70 : decode prog_11_method_4_code 70 = .ok (.istore 5, 2) := by decide +kernel
theorem d_BRi_keep_72 : decode prog_11_method_4_code 72 = .ok (.aload_n 0, 1) := by decide +kernel
theorem d_BRi_keep_73 : decode prog_11_method_4_code 73 = .ok (.iload 5, 2) := by decide +kernel
theorem d_BRi_keep_75 : decode prog_11_method_4_code 75 = .ok (.iconst 1, 1) := by decide +kernel
theorem d_BRi_keep_76 : decode prog_11_method_4_code 76 = .ok (.isub, 1) := by decide +kernel
theorem d_BRi_keep_77 : decode prog_11_method_4_code 77 = .ok (.invokevirtual 13, 3) := by decide +kernel
theorem d_BRi_keep_80 : decode prog_11_method_4_code 80 = .ok (.aload_n 0, 1) := by decide +kernel
theorem d_BRi_keep_81 : decode prog_11_method_4_code 81 = .ok (.iload 5, 2) := by decide +kernel
theorem d_BRi_keep_83 : decode prog_11_method_4_code 83 = .ok (.invokevirtual 13, 3) := by decide +kernel
theorem d_BRi_keep_86 : decode prog_11_method_4_code 86 = .ok (.aload_n 0, 1) := by decide +kernel
theorem d_BRi_keep_87 : decode prog_11_method_4_code 87 = .ok (.iload 5, 2) := by decide +kernel
theorem d_BRi_keep_89 : decode prog_11_method_4_code 89 = .ok (.iconst 1, 1) := by decide +kernel
theorem d_BRi_keep_90 : decode prog_11_method_4_code 90 = .ok (.iadd, 1) := by decide +kernel
theorem d_BRi_keep_91 : decode prog_11_method_4_code 91 = .ok (.invokevirtual 13, 3) := by decide +kernel
theorem d_BRi_keep_94 : decode prog_11_method_4_code 94 = .ok (.invokestatic 38, 3) := by decide +kernel
theorem d_BRi_keep_97 : decode prog_11_method_4_code 97 = .ok (.ifCond .eq 13, 3) := by decide +kernel
theorem d_BRi_keep_100 : decode prog_11_method_4_code 100 = .ok (.aload_n 1, 1) := by decide +kernel
theorem d_BRi_keep_101 : decode prog_11_method_4_code 101 = .ok (.aload_n 0, 1) := by decide +kernel
theorem d_BRi_keep_102 : decode prog_11_method_4_code 102 = .ok (.iload 5, 2) := by decide +kernel
theorem d_BRi_keep_104 : decode prog_11_method_4_code 104 = .ok (.invokevirtual 13, 3) := by decide +kernel
theorem d_BRi_keep_107 : decode prog_11_method_4_code 107 = .ok (.invokevirtual 42, 3) := by decide +kernel
theorem d_BRi_keep_110 : decode prog_11_method_4_code 110 = .ok (.iinc 4 1, 3) := by decide +kernel
theorem d_BRi_keep_113 : decode prog_11_method_4_code 113 = .ok (.goto (-58), 3) := by decide +kernel
def wp_BRi_keep_110 (post : CS → Prop) (k55 : Nat → Nat → Int → Int → Int → CS → Prop) (v0 : Nat) (v1 : Nat) (v2 : Int) (v3 : Int) (v4 : Int) (T : CS) : Prop := k55 v0 v1 v2 v3 (v4 + 1) T
def wp_BRi_keep_55 (post : CS → Prop) : Nat → Nat → Nat → Int → Int → Int → CS → Prop
  | 0, _, _, _, _, _, _ => False
  | n + 1, v0, v1, v2, v3, v4, T => tg T v0 = 2 ∧ (inR v4 ∧ inR (fi T v0 1) ∧ ((fi T v0 1) ≤ v4 → post T) ∧ (¬ ((fi T v0 1) ≤ v4) → (∀ v5_1 : Int, v5_1 = (v2 + (v4 * v3)) → tg T v0 = 2 ∧ wp_BPt_at (fun r_3 T_2 => tg T_2 v0 = 2 ∧ wp_BPt_at (fun r_5 T_4 => tg T_4 v0 = 2 ∧ wp_BPt_at (fun r_7 T_6 => wp_BPl_turn (fun r_8 => inR r_8 ∧ (r_8 = 0 → wp_BRi_keep_110 post (wp_BRi_keep_55 post n) v0 v1 v2 v3 v4 T_6) ∧ (¬ (r_8 = 0) → (tg T_6 v0 = 2 ∧ wp_BPt_at (fun r_10 T_9 => tg T_9 v1 = 2 ∧ wp_BPt_add (fun T_11 => wp_BRi_keep_110 post (wp_BRi_keep_55 post n) v0 v1 v2 v3 v4 T_11) v1 r_10 T_9) v0 v5_1 T_6))) r_3 r_5 r_7) v0 (v5_1 + 1) T_4) v0 v5_1 T_2) v0 (v5_1 - 1) T)))
def wp_BRi_keep_47 (post : CS → Prop) (v0 : Nat) (v1 : Nat) (v2 : Int) (s0 : Int) (T : CS) : Prop := tg T v1 = 2 ∧ wp_BPt_clear (fun T_1 => ∃ nn : Nat, wp_BRi_keep_55 post nn v0 v1 v2 s0 0 T_1) v1 T
def wp_BRi_keep_27 (post : CS → Prop) (k4 : Nat → Nat → Int → Int → CS → Prop) (v0 : Nat) (v1 : Nat) (v2 : Int) (v3 : Int) (T : CS) : Prop := k4 v0 v1 v2 (v3 + 1) T
def wp_BRi_keep_4 (post : CS → Prop) : Nat → Nat → Nat → Int → Int → CS → Prop
  | 0, _, _, _, _, _ => False
  | n + 1, v0, v1, v2, v3, T => tg T v0 = 2 ∧ (inR v3 ∧ inR (fi T v0 1) ∧ ((fi T v0 1) ≤ v3 → (wp_BRi_twiceArea (fun r_2 T_1 => inL r_2 ∧ (r_2 ≤ 0 → (wp_BRi_keep_47 post v0 v1 v2 (-1) T_1)) ∧ (¬ (r_2 ≤ 0) → wp_BRi_keep_47 post v0 v1 v2 1 T_1)) v0 T)) ∧ (¬ ((fi T v0 1) ≤ v3) → (tg T v0 = 2 ∧ wp_BPt_at (fun r_4 T_3 => tg T_3 v0 = 2 ∧ wp_BPt_at (fun r_6 T_5 => inR r_4 ∧ inR r_6 ∧ (r_6 ≤ r_4 → wp_BRi_keep_27 post (wp_BRi_keep_4 post n) v0 v1 v2 v3 T_5) ∧ (¬ (r_6 ≤ r_4) → wp_BRi_keep_27 post (wp_BRi_keep_4 post n) v0 v1 v3 v3 T_5)) v0 v2 T_3) v0 v3 T)))
def wp_BRi_keep (post : CS → Prop) (v0 : Nat) (v1 : Nat) (T : CS) : Prop := ∃ nn : Nat, wp_BRi_keep_4 post nn v0 v1 0 1 T
set_option maxHeartbeats 4000000 in
set_option maxRecDepth 100000 in
theorem c_BRi_keep (l : Launch) {D : va_G} {k : CK} {post : CS → Prop} {v0 : Nat} {v1 : Nat} {T : CS} (hw : wp_BRi_keep post v0 v1 T) : jCv l D k y_BRi_keep prog_11_method_4_code 6 none 3 70 0 0 T [.ref v0, .ref v1] post := by
  refine j_cov (own := "LandBook$Rings") (by decide) rfl (Nat.le_of_ble_eq_true rfl) (fun X F K hT hret => ?_)
  have B55 : ∀ (nn : Nat) (v0 : Nat) (v1 : Nat) (v2 : Int) (v3 : Int) (v4 : Int) (T : CS), cs_ok k T → wp_BRi_keep_55 post nn v0 v1 v2 v3 v4 T → jat l D X 6 55 [(0, .ref v0), (1, .ref v1), (2, vi v2), (3, vi v3), (4, vi v4)] [] (cwd k T) 0 0 := by
    intro nn
    induction nn with
    | zero => intro v0 v1 v2 v3 v4 T hT hw; exact hw.elim
    | succ n55 ih55 =>
      have B110 : ∀ (v0 : Nat) (v1 : Nat) (v2 : Int) (v3 : Int) (v4 : Int) (T : CS), cs_ok k T → wp_BRi_keep_110 post (wp_BRi_keep_55 post n55) v0 v1 v2 v3 v4 T → jat l D X 6 110 [(0, .ref v0), (1, .ref v1), (2, vi v2), (3, vi v3), (4, vi v4)] [] (cwd k T) 0 0 := by
        intro v0 v1 v2 v3 v4 T hT hw
        unfold wp_BRi_keep_110 at hw
        refine j_iinc F 4 [(4, vi (v4 + 1)), (0, .ref v0), (1, .ref v1), (2, vi v2), (3, vi v3)] d_BRi_keep_110 rfl (by decide) rfl ?_
        refine j_goto F 55 d_BRi_keep_113 rfl ?_
        refine j_sub [1, 2, 3, 4, 0] rfl ?_
        exact ih55 _ _ _ _ _ _ hT hw
      intro v0 v1 v2 v3 v4 T hT hw
      unfold wp_BRi_keep_55 at hw
      refine j_iload F 4 d_BRi_keep_55 rfl ?_
      refine j_aload_n F 0 d_BRi_keep_57 rfl ?_
      obtain ⟨hc1, hw⟩ := hw
      refine c_geti F K hT 2 1 rfl tu_Points (by decide) (by decide) rfl tq_134 (Or.inl rfl) hc1 d_BRi_keep_58 ?_
      obtain ⟨hc1, hc2, hwt, hwf⟩ := hw
      refine j_icmp_ge F 116 hc1 hc2 d_BRi_keep_61 rfl (fun hh => ?_) (fun hh => ?_)
      · have hw := hwt hh
        exact hret _ _ _ _ _ hw hT (by omega) (by omega) d_BRi_keep_116
      · have hw := hwf hh
        refine j_iload_n F 2 d_BRi_keep_64 rfl ?_
        refine j_iload F 4 d_BRi_keep_65 rfl ?_
        refine j_iload_n F 3 d_BRi_keep_67 rfl ?_
        refine j_imul F d_BRi_keep_68 ?_
        refine j_iadd F d_BRi_keep_69 ?_
        refine j_nmi (fun v5_1 e_v5_1 => ?_)
        have hw := hw v5_1 e_v5_1
        refine j_istore F [(5, vi v5_1), (0, .ref v0), (1, .ref v1), (2, vi v2), (3, vi v3), (4, vi v4)] d_BRi_keep_70 (by decide) rfl ?_
        refine j_aload_n F 1 d_BRi_keep_72 rfl ?_
        refine j_iload F 0 d_BRi_keep_73 rfl ?_
        refine j_iconst F d_BRi_keep_75 ?_
        refine j_isub F d_BRi_keep_76 ?_
        obtain ⟨hg1, hw⟩ := hw
        refine c_callVi F K hT (c_BPt_at l hw) (tw_gV tq_135 tq_136 tq_137 tq_126 tq_138) 2 rfl (by decide) hg1 q_BPt_at rfl ⟨by decide, by decide⟩ ⟨by omega, by omega⟩ rfl (Nat.le_of_ble_eq_true rfl) d_BRi_keep_77 (fun r_3 T_2 hw hT => ?_)
        refine j_aload_n F 1 d_BRi_keep_80 rfl ?_
        refine j_iload F 0 d_BRi_keep_81 rfl ?_
        obtain ⟨hg1, hw⟩ := hw
        refine c_callVi F K hT (c_BPt_at l hw) (tw_gV tq_135 tq_136 tq_137 tq_126 tq_138) 2 rfl (by decide) hg1 q_BPt_at rfl ⟨by decide, by decide⟩ ⟨by omega, by omega⟩ rfl (Nat.le_of_ble_eq_true rfl) d_BRi_keep_83 (fun r_5 T_4 hw hT => ?_)
        refine j_aload_n F 1 d_BRi_keep_86 rfl ?_
        refine j_iload F 0 d_BRi_keep_87 rfl ?_
        refine j_iconst F d_BRi_keep_89 ?_
        refine j_iadd F d_BRi_keep_90 ?_
        obtain ⟨hg1, hw⟩ := hw
        refine c_callVi F K hT (c_BPt_at l hw) (tw_gV tq_135 tq_136 tq_137 tq_126 tq_138) 2 rfl (by decide) hg1 q_BPt_at rfl ⟨by decide, by decide⟩ ⟨by omega, by omega⟩ rfl (Nat.le_of_ble_eq_true rfl) d_BRi_keep_91 (fun r_7 T_6 hw hT => ?_)
        refine j_callS F (c_BPl_turn l hw) (tw_gS tq_152 tq_105 tq_88 tq_106) q_BPl_turn rfl ⟨by decide, by decide⟩ ⟨by omega, by omega⟩ rfl (Nat.le_of_ble_eq_true rfl) d_BRi_keep_94 (fun r_8 hw => ?_)
        obtain ⟨hc1, hwt, hwf⟩ := hw
        refine j_if_eq F 110 hc1 d_BRi_keep_97 rfl (fun hh => ?_) (fun hh => ?_)
        · have hw := hwt hh
          refine j_sub [1, 2, 3, 4, 5] rfl ?_
          exact B110 _ _ _ _ _ _ hT hw
        · have hw := hwf hh
          refine j_aload_n F 2 d_BRi_keep_100 rfl ?_
          refine j_aload_n F 1 d_BRi_keep_101 rfl ?_
          refine j_iload F 0 d_BRi_keep_102 rfl ?_
          obtain ⟨hg1, hw⟩ := hw
          refine c_callVi F K hT (c_BPt_at l hw) (tw_gV tq_135 tq_136 tq_137 tq_126 tq_138) 2 rfl (by decide) hg1 q_BPt_at rfl ⟨by decide, by decide⟩ ⟨by omega, by omega⟩ rfl (Nat.le_of_ble_eq_true rfl) d_BRi_keep_104 (fun r_10 T_9 hw hT => ?_)
          obtain ⟨hg1, hw⟩ := hw
          refine c_callVv F K hT (c_BPt_add l hw) (tw_gV tq_153 tq_131 tq_132 tq_126 tq_133) 2 rfl (by decide) hg1 q_BPt_add rfl ⟨by decide, by decide⟩ ⟨by omega, by omega⟩ rfl (Nat.le_of_ble_eq_true rfl) d_BRi_keep_107 (fun T_11 hw hT => ?_)
          refine j_sub [1, 2, 3, 4, 5] rfl ?_
          exact B110 _ _ _ _ _ _ hT hw
  have B47 : ∀ (v0 : Nat) (v1 : Nat) (v2 : Int) (s0 : Int) (T : CS), cs_ok k T → wp_BRi_keep_47 post v0 v1 v2 s0 T → jat l D X 6 47 [(0, .ref v0), (1, .ref v1), (2, vi v2)] [vi s0] (cwd k T) 0 0 := by
    intro v0 v1 v2 s0 T hT hw
    unfold wp_BRi_keep_47 at hw
    refine j_istore_n F [(3, vi s0), (0, .ref v0), (1, .ref v1), (2, vi v2)] d_BRi_keep_47 (by decide) rfl ?_
    refine j_aload_n F 2 d_BRi_keep_48 rfl ?_
    obtain ⟨hg1, hw⟩ := hw
    refine c_callVv F K hT (c_BPt_clear l hw) (tw_gV tq_148 tq_149 tq_150 tq_126 tq_151) 2 rfl (by decide) hg1 q_BPt_clear rfl ⟨by decide, by decide⟩ ⟨by omega, by omega⟩ rfl (Nat.le_of_ble_eq_true rfl) d_BRi_keep_49 (fun T_1 hw hT => ?_)
    refine j_iconst F d_BRi_keep_52 ?_
    refine j_istore F [(4, vi 0), (3, vi s0), (0, .ref v0), (1, .ref v1), (2, vi v2)] d_BRi_keep_53 (by decide) rfl ?_
    refine j_sub [2, 3, 4, 1, 0] rfl ?_
    obtain ⟨nn, hw⟩ := hw
    exact B55 nn _ _ _ _ _ _ hT hw
  have B4 : ∀ (nn : Nat) (v0 : Nat) (v1 : Nat) (v2 : Int) (v3 : Int) (T : CS), cs_ok k T → wp_BRi_keep_4 post nn v0 v1 v2 v3 T → jat l D X 6 4 [(0, .ref v0), (1, .ref v1), (2, vi v2), (3, vi v3)] [] (cwd k T) 0 0 := by
    intro nn
    induction nn with
    | zero => intro v0 v1 v2 v3 T hT hw; exact hw.elim
    | succ n4 ih4 =>
      have B27 : ∀ (v0 : Nat) (v1 : Nat) (v2 : Int) (v3 : Int) (T : CS), cs_ok k T → wp_BRi_keep_27 post (wp_BRi_keep_4 post n4) v0 v1 v2 v3 T → jat l D X 6 27 [(0, .ref v0), (1, .ref v1), (2, vi v2), (3, vi v3)] [] (cwd k T) 0 0 := by
        intro v0 v1 v2 v3 T hT hw
        unfold wp_BRi_keep_27 at hw
        refine j_iinc F 3 [(3, vi (v3 + 1)), (0, .ref v0), (1, .ref v1), (2, vi v2)] d_BRi_keep_27 rfl (by decide) rfl ?_
        refine j_goto F 4 d_BRi_keep_30 rfl ?_
        refine j_sub [1, 2, 3, 0] rfl ?_
        exact ih4 _ _ _ _ _ hT hw
      intro v0 v1 v2 v3 T hT hw
      unfold wp_BRi_keep_4 at hw
      refine j_iload_n F 3 d_BRi_keep_4 rfl ?_
      refine j_aload_n F 0 d_BRi_keep_5 rfl ?_
      obtain ⟨hc1, hw⟩ := hw
      refine c_geti F K hT 2 1 rfl tu_Points (by decide) (by decide) rfl tq_134 (Or.inl rfl) hc1 d_BRi_keep_6 ?_
      obtain ⟨hc1, hc2, hwt, hwf⟩ := hw
      refine j_icmp_ge F 33 hc1 hc2 d_BRi_keep_9 rfl (fun hh => ?_) (fun hh => ?_)
      · have hw := hwt hh
        refine j_aload_n F 0 d_BRi_keep_33 rfl ?_
        refine c_callSl F K hT (c_BRi_twiceArea l hw) (tw_gS tq_144 tq_145 tq_146 tq_147) q_BRi_twiceArea rfl ⟨by decide, by decide⟩ ⟨by omega, by omega⟩ rfl (Nat.le_of_ble_eq_true rfl) d_BRi_keep_34 (fun r_2 T_1 hw hT => ?_)
        refine j_lconst (x := 0) F d_BRi_keep_37 (by decide) ?_
        obtain ⟨hc1, hwt, hwf⟩ := hw
        refine j_lcmp_le F 46 hc1 ⟨by decide, by decide⟩ d_BRi_keep_38 d_BRi_keep_39 rfl (fun hh => ?_) (fun hh => ?_)
        · have hw := hwt hh
          refine j_iconst F d_BRi_keep_46 ?_
          refine j_sub [0, 1, 2] rfl ?_
          exact B47 _ _ _ _ _ hT hw
        · have hw := hwf hh
          refine j_iconst F d_BRi_keep_42 ?_
          refine j_goto F 47 d_BRi_keep_43 rfl ?_
          refine j_sub [0, 1, 2] rfl ?_
          exact B47 _ _ _ _ _ hT hw
      · have hw := hwf hh
        refine j_aload_n F 0 d_BRi_keep_12 rfl ?_
        refine j_iload_n F 3 d_BRi_keep_13 rfl ?_
        obtain ⟨hg1, hw⟩ := hw
        refine c_callVi F K hT (c_BPt_at l hw) (tw_gV tq_135 tq_136 tq_137 tq_126 tq_138) 2 rfl (by decide) hg1 q_BPt_at rfl ⟨by decide, by decide⟩ ⟨by omega, by omega⟩ rfl (Nat.le_of_ble_eq_true rfl) d_BRi_keep_14 (fun r_4 T_3 hw hT => ?_)
        refine j_aload_n F 0 d_BRi_keep_17 rfl ?_
        refine j_iload_n F 2 d_BRi_keep_18 rfl ?_
        obtain ⟨hg1, hw⟩ := hw
        refine c_callVi F K hT (c_BPt_at l hw) (tw_gV tq_135 tq_136 tq_137 tq_126 tq_138) 2 rfl (by decide) hg1 q_BPt_at rfl ⟨by decide, by decide⟩ ⟨by omega, by omega⟩ rfl (Nat.le_of_ble_eq_true rfl) d_BRi_keep_19 (fun r_6 T_5 hw hT => ?_)
        obtain ⟨hc1, hc2, hwt, hwf⟩ := hw
        refine j_icmp_ge F 27 hc1 hc2 d_BRi_keep_22 rfl (fun hh => ?_) (fun hh => ?_)
        · have hw := hwt hh
          exact B27 _ _ _ _ _ hT hw
        · have hw := hwf hh
          refine j_iload_n F 3 d_BRi_keep_25 rfl ?_
          refine j_istore_n F [(2, vi v3), (0, .ref v0), (1, .ref v1), (3, vi v3)] d_BRi_keep_26 (by decide) rfl ?_
          refine j_sub [1, 2, 0, 3] rfl ?_
          exact B27 _ _ _ _ _ hT hw
  unfold wp_BRi_keep at hw
  show jat l D X 6 0 [(0, .ref v0), (1, .ref v1)] [] (cwd k T) 0 0
  refine j_iconst F d_BRi_keep_0 ?_
  refine j_istore_n F [(2, vi 0), (0, .ref v0), (1, .ref v1)] d_BRi_keep_1 (by decide) rfl ?_
  refine j_iconst F d_BRi_keep_2 ?_
  refine j_istore_n F [(3, vi 1), (2, vi 0), (0, .ref v0), (1, .ref v1)] d_BRi_keep_3 (by decide) rfl ?_
  refine j_sub [2, 3, 1, 0] rfl ?_
  obtain ⟨nn, hw⟩ := hw
  exact B4 nn _ _ _ _ _ hT hw
theorem tq_154 : (Jvm.Cond.methodLink "LandBook$Rings" (46 : Nat) ({ cls := "LandBook$Rings", name := "isBetween", desc := "(III)Z" } : Jvm.MethodName)) ∈ tw_G := tw_in (List.mem_of_getElem? (i := 643) (by decide +kernel)) rfl
theorem tq_155 : (Jvm.Cond.static ({ cls := "LandBook$Rings", name := "isBetween", desc := "(III)Z" } : Jvm.MethodName)) ∈ tw_G := tw_in (List.mem_of_getElem? (i := 644) (by decide +kernel)) rfl
theorem tq_156 : (Jvm.Cond.code ({ cls := "LandBook$Rings", name := "isBetween", desc := "(III)Z" } : Jvm.MethodName) prog_11_method_6_code (3 : Nat) (Option.some Jvm.ClassFile.FieldType.boolean)) ∈ tw_G := tw_in (List.mem_of_getElem? (i := 645) (by decide +kernel)) rfl
abbrev y_BRi_where : MethodName := ⟨"LandBook$Rings", "where", "(LLandBook$Points;II)I"⟩
theorem q_BRi_where : y_BRi_where.cls ≠ "java/lang/invoke/MethodHandle" ∧ y_BRi_where.cls ≠ "java/lang/invoke/VarHandle" ∧ (parseMethodDescriptor y_BRi_where.desc).map (fun d => d.parameters.length) = some 3 := by decide +kernel
theorem d_BRi_where_0 : decode prog_11_method_5_code 0 = .ok (.iconst 0, 1) := by decide +kernel
theorem d_BRi_where_1 : decode prog_11_method_5_code 1 = .ok (.istore_n 3, 1) := by decide +kernel
theorem d_BRi_where_2 : decode prog_11_method_5_code 2 = .ok (.iconst 0, 1) := by decide +kernel
theorem d_BRi_where_3 : decode prog_11_method_5_code 3 = .ok (.istore 4, 2) := by decide +kernel
theorem d_BRi_where_5 : decode prog_11_method_5_code 5 = .ok (.iload 4, 2) := by decide +kernel
theorem d_BRi_where_7 : decode prog_11_method_5_code 7 = .ok (.aload_n 0, 1) := by decide +kernel
theorem d_BRi_where_8 : decode prog_11_method_5_code 8 = .ok (.getfield 7, 3) := by decide +kernel
theorem d_BRi_where_11 : decode prog_11_method_5_code 11 = .ok (.if_icmp .ge 179, 3) := by decide +kernel
theorem d_BRi_where_190 : decode prog_11_method_5_code 190 = .ok (.iload_n 3, 1) := by decide +kernel
theorem d_BRi_where_191 : decode prog_11_method_5_code 191 = .ok (.ifCond .eq 7, 3) := by decide +kernel
theorem d_BRi_where_198 : decode prog_11_method_5_code 198 = .ok (.iconst (-1), 1) := by decide +kernel
theorem d_BRi_where_199 : decode prog_11_method_5_code 199 = .ok (.ireturn, 1) := by decide +kernel
theorem d_BRi_where_194 : decode prog_11_method_5_code 194 = .ok (.iconst 1, 1) := by decide +kernel
theorem d_BRi_where_195 : decode prog_11_method_5_code 195 = .ok (.goto 4, 3) := by decide +kernel
theorem d_BRi_where_14 : decode prog_11_method_5_code 14 = .ok (.iconst 2, 1) := by decide +kernel
theorem d_BRi_where_15 : decode prog_11_method_5_code 15 = .ok (.aload_n 0, 1) := by decide +kernel
theorem d_BRi_where_16 : decode prog_11_method_5_code 16 = .ok (.iload 4, 2) := by decide +kernel
theorem d_BRi_where_18 : decode prog_11_method_5_code 18 = .ok (.invokevirtual 13, 3) := by decide +kernel
theorem d_BRi_where_21 : decode prog_11_method_5_code 21 = .ok (.invokestatic 23, 3) := by decide +kernel
theorem d_BRi_where_24 : decode prog_11_method_5_code 24 = .ok (.imul, 1) := by decide +kernel
theorem d_BRi_where_25 : decode prog_11_method_5_code 25 = .ok (.istore 5, 2) := by decide +kernel
theorem d_BRi_where_27 : decode prog_11_method_5_code 27 = .ok (.iconst 2, 1) := by decide +kernel
theorem d_BRi_where_28 : decode prog_11_method_5_code 28 = .ok (.aload_n 0, 1) := by decide +kernel
theorem d_BRi_where_29 : decode prog_11_method_5_code 29 = .ok (.iload 4, 2) := by decide +kernel
theorem d_BRi_where_31 : decode prog_11_method_5_code 31 = .ok (.invokevirtual 13, 3) := by decide +kernel
theorem d_BRi_where_34 : decode prog_11_method_5_code 34 = .ok (.invokestatic 26, 3) := by decide +kernel
theorem d_BRi_where_37 : decode prog_11_method_5_code 37 = .ok (.imul, 1) := by decide +kernel
theorem d_BRi_where_38 : decode prog_11_method_5_code 38 = .ok (.istore 6, 2) := by decide +kernel
theorem d_BRi_where_40 : decode prog_11_method_5_code 40 = .ok (.iconst 2, 1) := by decide +kernel
theorem d_BRi_where_41 : decode prog_11_method_5_code 41 = .ok (.aload_n 0, 1) := by decide +kernel
theorem d_BRi_where_42 : decode prog_11_method_5_code 42 = .ok (.iload 4, 2) := by decide +kernel
theorem d_BRi_where_44 : decode prog_11_method_5_code 44 = .ok (.iconst 1, 1) := by decide +kernel
theorem d_BRi_where_45 : decode prog_11_method_5_code 45 = .ok (.iadd, 1) := by decide +kernel
theorem d_BRi_where_46 : decode prog_11_method_5_code 46 = .ok (.invokevirtual 13, 3) := by decide +kernel
theorem d_BRi_where_49 : decode prog_11_method_5_code 49 = .ok (.invokestatic 23, 3) := by decide +kernel
theorem d_BRi_where_52 : decode prog_11_method_5_code 52 = .ok (.imul, 1) := by decide +kernel
theorem d_BRi_where_53 : decode prog_11_method_5_code 53 = .ok (.istore 7, 2) := by decide +kernel
theorem d_BRi_where_55 : decode prog_11_method_5_code 55 = .ok (.iconst 2, 1) := by decide +kernel
theorem d_BRi_where_56 : decode prog_11_method_5_code 56 = .ok (.aload_n 0, 1) := by decide +kernel
theorem d_BRi_where_57 : decode prog_11_method_5_code 57 = .ok (.iload 4, 2) := by decide +kernel
theorem d_BRi_where_59 : decode prog_11_method_5_code 59 = .ok (.iconst 1, 1) := by decide +kernel
theorem d_BRi_where_60 : decode prog_11_method_5_code 60 = .ok (.iadd, 1) := by decide +kernel
theorem d_BRi_where_61 : decode prog_11_method_5_code 61 = .ok (.invokevirtual 13, 3) := by decide +kernel
theorem d_BRi_where_64 : decode prog_11_method_5_code 64 = .ok (.invokestatic 26, 3) := by decide +kernel
theorem d_BRi_where_67 : decode prog_11_method_5_code 67 = .ok (.imul, 1) := by decide +kernel
theorem d_BRi_where_68 : decode prog_11_method_5_code 68 = .ok (.istore 8, 2) := by decide +kernel
theorem d_BRi_where_70 : decode prog_11_method_5_code 70 = .ok (.iload 7, 2) := by decide +kernel
theorem d_BRi_where_72 : decode prog_11_method_5_code 72 = .ok (.iload 5, 2) := by decide +kernel
theorem d_BRi_where_74 : decode prog_11_method_5_code 74 = .ok (.isub, 1) := by decide +kernel
theorem d_BRi_where_75 : decode prog_11_method_5_code 75 = .ok (.i2l, 1) := by decide +kernel
theorem d_BRi_where_76 : decode prog_11_method_5_code 76 = .ok (.iload_n 2, 1) := by decide +kernel
theorem d_BRi_where_77 : decode prog_11_method_5_code 77 = .ok (.iload 6, 2) := by decide +kernel
theorem d_BRi_where_79 : decode prog_11_method_5_code 79 = .ok (.isub, 1) := by decide +kernel
theorem d_BRi_where_80 : decode prog_11_method_5_code 80 = .ok (.i2l, 1) := by decide +kernel
theorem d_BRi_where_81 : decode prog_11_method_5_code 81 = .ok (.lmul, 1) := by decide +kernel
theorem d_BRi_where_82 : decode prog_11_method_5_code 82 = .ok (.iload 8, 2) := by decide +kernel
theorem d_BRi_where_84 : decode prog_11_method_5_code 84 = .ok (.iload 6, 2) := by decide +kernel
theorem d_BRi_where_86 : decode prog_11_method_5_code 86 = .ok (.isub, 1) := by decide +kernel
theorem d_BRi_where_87 : decode prog_11_method_5_code 87 = .ok (.i2l, 1) := by decide +kernel
theorem d_BRi_where_88 : decode prog_11_method_5_code 88 = .ok (.iload_n 1, 1) := by decide +kernel
theorem d_BRi_where_89 : decode prog_11_method_5_code 89 = .ok (.iload 5, 2) := by decide +kernel
theorem d_BRi_where_91 : decode prog_11_method_5_code 91 = .ok (.isub, 1) := by decide +kernel
theorem d_BRi_where_92 : decode prog_11_method_5_code 92 = .ok (.i2l, 1) := by decide +kernel
theorem d_BRi_where_93 : decode prog_11_method_5_code 93 = .ok (.lmul, 1) := by decide +kernel
theorem d_BRi_where_94 : decode prog_11_method_5_code 94 = .ok (.lsub, 1) := by decide +kernel
theorem d_BRi_where_95 : decode prog_11_method_5_code 95 = .ok (.lstore 9, 2) := by decide +kernel
theorem d_BRi_where_97 : decode prog_11_method_5_code 97 = .ok (.lload 9, 2) := by decide +kernel
theorem d_BRi_where_99 : decode prog_11_method_5_code 99 = .ok (.lconst 0, 1) := by decide +kernel
theorem d_BRi_where_100 : decode prog_11_method_5_code 100 = .ok (.lcmp, 1) := by decide +kernel
theorem d_BRi_where_101 : decode prog_11_method_5_code 101 = .ok (.ifCond .ne 27, 3) := by decide +kernel
theorem d_BRi_where_104 : decode prog_11_method_5_code 104 = .ok (.iload 5, 2) := by decide +kernel
theorem d_BRi_where_106 : decode prog_11_method_5_code 106 = .ok (.iload_n 1, 1) := by decide +kernel
theorem d_BRi_where_107 : decode prog_11_method_5_code 107 = .ok (.iload 7, 2) := by decide +kernel
theorem d_BRi_where_109 : decode prog_11_method_5_code 109 = .ok (.invokestatic 46, 3) := by decide +kernel
theorem d_BRi_where_112 : decode prog_11_method_5_code 112 = .ok (.ifCond .eq 16, 3) := by decide +kernel
theorem d_BRi_where_115 : decode prog_11_method_5_code 115 = .ok (.iload 6, 2) := by decide +kernel
theorem d_BRi_where_117 : decode prog_11_method_5_code 117 = .ok (.iload_n 2, 1) := by decide +kernel
theorem d_BRi_where_118 : decode prog_11_method_5_code 118 = .ok (.iload 8, 2) := by decide +kernel
theorem d_BRi_where_120 : decode prog_11_method_5_code 120 = .ok (.invokestatic 46, 3) := by decide +kernel
theorem d_BRi_where_123 : decode prog_11_method_5_code 123 = .ok (.ifCond .eq 5, 3) := by decide +kernel
theorem d_BRi_where_126 : decode prog_11_method_5_code 126 = .ok (.iconst 0, 1) := by decide +kernel
theorem d_BRi_where_127 : decode prog_11_method_5_code 127 = .ok (.ireturn, 1) := by decide +kernel
theorem d_BRi_where_128 : decode prog_11_method_5_code 128 = .ok (.iload 8, 2) := by decide +kernel
theorem d_BRi_where_130 : decode prog_11_method_5_code 130 = .ok (.iload_n 2, 1) := by decide +kernel
theorem d_BRi_where_131 : decode prog_11_method_5_code 131 = .ok (.if_icmp .le 7, 3) := by decide +kernel
theorem d_BRi_where_138 : decode prog_11_method_5_code 138 = .ok (.iconst 0, 1) := by decide +kernel
theorem d_BRi_where_134 : decode prog_11_method_5_code 134 = .ok (.iconst 1, 1) := by decide +kernel
theorem d_BRi_where_135 : decode prog_11_method_5_code 135 = .ok (.goto 4, 3) := by decide +kernel
theorem d_BRi_where_139 : decode prog_11_method_5_code 139 = .ok (.istore 11, 2) := by decide +kernel
theorem d_BRi_where_141 : decode prog_11_method_5_code 141 = .ok (.iload 11, 2) := by decide +kernel
theorem d_BRi_where_143 : decode prog_11_method_5_code 143 = .ok (.iload 6, 2) := by decide +kernel
theorem d_BRi_where_145 : decode prog_11_method_5_code 145 = .ok (.iload_n 2, 1) := by decide +kernel
theorem d_BRi_where_146 : decode prog_11_method_5_code 146 = .ok (.if_icmp .le 7, 3) := by decide +kernel
theorem d_BRi_where_153 : decode prog_11_method_5_code 153 = .ok (.iconst 0, 1) := by decide +kernel
theorem d_BRi_where_149 : decode prog_11_method_5_code 149 = .ok (.iconst 1, 1) := by decide +kernel
theorem d_BRi_where_150 : decode prog_11_method_5_code 150 = .ok (.goto 4, 3) := by decide +kernel
theorem d_BRi_where_154 : decode prog_11_method_5_code 154 = .ok (.if_icmp .eq 30, 3) := by decide +kernel
theorem d_BRi_where_157 : decode prog_11_method_5_code 157 = .ok (.iload 11, 2) := by decide +kernel
theorem d_BRi_where_159 : decode prog_11_method_5_code 159 = .ok (.lload 9, 2) := by decide +kernel
theorem d_BRi_where_161 : decode prog_11_method_5_code 161 = .ok (.lconst 0, 1) := by decide +kernel
theorem d_BRi_where_162 : decode prog_11_method_5_code 162 = .ok (.lcmp, 1) := by decide +kernel
theorem d_BRi_where_163 : decode prog_11_method_5_code 163 = .ok (.ifCond .le 7, 3) := by decide +kernel
theorem d_BRi_where_170 : decode prog_11_method_5_code 170 = .ok (.iconst 0, 1) := by decide +kernel
theorem d_BRi_where_166 : decode prog_11_method_5_code 166 = .ok (.iconst 1, 1) := by decide +kernel
theorem d_BRi_where_167 : decode prog_11_method_5_code 167 = .ok (.goto 4, 3) := by decide +kernel
theorem d_BRi_where_184 : decode prog_11_method_5_code 184 = .ok (.iinc 4 1, 3) := by decide +kernel
theorem d_BRi_where_187 : decode prog_11_method_5_code 187 = .ok (.goto (-182), 3) := by decide +kernel
theorem d_BRi_where_171 : decode prog_11_method_5_code 171 = .ok (.if_icmp .ne 13, 3) := by decide +kernel
theorem d_BRi_where_174 : decode prog_11_method_5_code 174 = .ok (.iload_n 3, 1) := by decide +kernel
theorem d_BRi_where_175 : decode prog_11_method_5_code 175 = .ok (.ifCond .ne 7, 3) := by decide +kernel
theorem d_BRi_where_182 : decode prog_11_method_5_code 182 = .ok (.iconst 0, 1) := by decide +kernel
theorem d_BRi_where_178 : decode prog_11_method_5_code 178 = .ok (.iconst 1, 1) := by decide +kernel
theorem d_BRi_where_179 : decode prog_11_method_5_code 179 = .ok (.goto 4, 3) := by decide +kernel
theorem d_BRi_where_183 : decode prog_11_method_5_code 183 = .ok (.istore_n 3, 1) := by decide +kernel
def wp_BRi_where_184 (post : Int → CS → Prop) (k5 : Nat → Int → Int → Int → Int → CS → Prop) (v0 : Nat) (v1 : Int) (v2 : Int) (v3 : Int) (v4 : Int) (T : CS) : Prop := k5 v0 v1 v2 v3 (v4 + 1) T
def wp_BRi_where_183 (post : Int → CS → Prop) (k5 : Nat → Int → Int → Int → Int → CS → Prop) (v0 : Nat) (v1 : Int) (v2 : Int) (v4 : Int) (s0 : Int) (T : CS) : Prop := wp_BRi_where_184 post k5 v0 v1 v2 s0 v4 T
def wp_BRi_where_171 (post : Int → CS → Prop) (k5 : Nat → Int → Int → Int → Int → CS → Prop) (v0 : Nat) (v1 : Int) (v2 : Int) (v3 : Int) (v4 : Int) (s0 : Int) (s1 : Int) (T : CS) : Prop := inR s1 ∧ inR s0 ∧ (¬ (s1 = s0) → wp_BRi_where_184 post k5 v0 v1 v2 v3 v4 T) ∧ (s1 = s0 → (inR v3 ∧ (¬ (v3 = 0) → wp_BRi_where_183 post k5 v0 v1 v2 v4 0 T) ∧ (v3 = 0 → wp_BRi_where_183 post k5 v0 v1 v2 v4 1 T)))
def wp_BRi_where_154 (post : Int → CS → Prop) (k5 : Nat → Int → Int → Int → Int → CS → Prop) (v0 : Nat) (v1 : Int) (v2 : Int) (v3 : Int) (v4 : Int) (v9 : Int) (v11 : Int) (s0 : Int) (s1 : Int) (T : CS) : Prop := inR s1 ∧ inR s0 ∧ (s1 = s0 → wp_BRi_where_184 post k5 v0 v1 v2 v3 v4 T) ∧ (¬ (s1 = s0) → (inL v9 ∧ (v9 ≤ 0 → wp_BRi_where_171 post k5 v0 v1 v2 v3 v4 0 v11 T) ∧ (¬ (v9 ≤ 0) → wp_BRi_where_171 post k5 v0 v1 v2 v3 v4 1 v11 T)))
def wp_BRi_where_139 (post : Int → CS → Prop) (k5 : Nat → Int → Int → Int → Int → CS → Prop) (v0 : Nat) (v1 : Int) (v2 : Int) (v3 : Int) (v4 : Int) (v6 : Int) (v9 : Int) (s0 : Int) (T : CS) : Prop := inR v6 ∧ inR v2 ∧ (v6 ≤ v2 → wp_BRi_where_154 post k5 v0 v1 v2 v3 v4 v9 s0 0 s0 T) ∧ (¬ (v6 ≤ v2) → wp_BRi_where_154 post k5 v0 v1 v2 v3 v4 v9 s0 1 s0 T)
def wp_BRi_where_128 (post : Int → CS → Prop) (k5 : Nat → Int → Int → Int → Int → CS → Prop) (v0 : Nat) (v1 : Int) (v2 : Int) (v3 : Int) (v4 : Int) (v6 : Int) (v8 : Int) (v9 : Int) (T : CS) : Prop := inR v8 ∧ inR v2 ∧ (v8 ≤ v2 → wp_BRi_where_139 post k5 v0 v1 v2 v3 v4 v6 v9 0 T) ∧ (¬ (v8 ≤ v2) → wp_BRi_where_139 post k5 v0 v1 v2 v3 v4 v6 v9 1 T)
def wp_BRi_where_5 (post : Int → CS → Prop) : Nat → Nat → Int → Int → Int → Int → CS → Prop
  | 0, _, _, _, _, _, _ => False
  | n + 1, v0, v1, v2, v3, v4, T => tg T v0 = 2 ∧ (inR v4 ∧ inR (fi T v0 1) ∧ ((fi T v0 1) ≤ v4 → (inR v3 ∧ (v3 = 0 → (post (-1) T)) ∧ (¬ (v3 = 0) → post 1 T))) ∧ (¬ ((fi T v0 1) ≤ v4) → (tg T v0 = 2 ∧ wp_BPt_at (fun r_2 T_1 => wp_BPl_xOf (fun r_3 => ∀ v5_4 : Int, v5_4 = (2 * r_3) → tg T_1 v0 = 2 ∧ wp_BPt_at (fun r_6 T_5 => wp_BPl_yOf (fun r_7 => ∀ v6_8 : Int, v6_8 = (2 * r_7) → tg T_5 v0 = 2 ∧ wp_BPt_at (fun r_10 T_9 => wp_BPl_xOf (fun r_11 => ∀ v7_12 : Int, v7_12 = (2 * r_11) → tg T_9 v0 = 2 ∧ wp_BPt_at (fun r_14 T_13 => wp_BPl_yOf (fun r_15 => ∀ v8_16 : Int, v8_16 = (2 * r_15) → inR (v7_12 - v5_4) ∧ (inR (v2 - v6_8) ∧ (inR (v8_16 - v6_8) ∧ (inR (v1 - v5_4) ∧ (∀ v9_17 : Int, v9_17 = (((v7_12 - v5_4) * (v2 - v6_8)) - ((v8_16 - v6_8) * (v1 - v5_4))) → inL v9_17 ∧ (¬ (v9_17 = 0) → wp_BRi_where_128 post (wp_BRi_where_5 post n) v0 v1 v2 v3 v4 v6_8 v8_16 v9_17 T_13) ∧ (v9_17 = 0 → (wp_BRi_isBetween (fun r_18 => inR r_18 ∧ (r_18 = 0 → wp_BRi_where_128 post (wp_BRi_where_5 post n) v0 v1 v2 v3 v4 v6_8 v8_16 v9_17 T_13) ∧ (¬ (r_18 = 0) → (wp_BRi_isBetween (fun r_19 => inR r_19 ∧ (r_19 = 0 → wp_BRi_where_128 post (wp_BRi_where_5 post n) v0 v1 v2 v3 v4 v6_8 v8_16 v9_17 T_13) ∧ (¬ (r_19 = 0) → post 0 T_13)) v6_8 v2 v8_16))) v5_4 v1 v7_12))))))) r_14) v0 (v4 + 1) T_9) r_10) v0 (v4 + 1) T_5) r_6) v0 v4 T_1) r_2) v0 v4 T)))
def wp_BRi_where (post : Int → CS → Prop) (v0 : Nat) (v1 : Int) (v2 : Int) (T : CS) : Prop := ∃ nn : Nat, wp_BRi_where_5 post nn v0 v1 v2 0 0 T
set_option maxHeartbeats 4000000 in
set_option maxRecDepth 100000 in
theorem c_BRi_where (l : Launch) {D : va_G} {k : CK} {post : Int → CS → Prop} {v0 : Nat} {v1 : Int} {v2 : Int} {T : CS} (hw : wp_BRi_where post v0 v1 v2 T) : jCi l D k y_BRi_where prog_11_method_5_code 12 (some .int) 2 43 0 0 T [.ref v0, vi v1, vi v2] post := by
  refine j_coi (own := "LandBook$Rings") (by decide) rfl (Nat.le_of_ble_eq_true rfl) (fun X F K hT hret => ?_)
  have B5 : ∀ (nn : Nat) (v0 : Nat) (v1 : Int) (v2 : Int) (v3 : Int) (v4 : Int) (T : CS), cs_ok k T → wp_BRi_where_5 post nn v0 v1 v2 v3 v4 T → jat l D X 12 5 [(0, .ref v0), (1, vi v1), (2, vi v2), (3, vi v3), (4, vi v4)] [] (cwd k T) 0 0 := by
    intro nn
    induction nn with
    | zero => intro v0 v1 v2 v3 v4 T hT hw; exact hw.elim
    | succ n5 ih5 =>
      have B184 : ∀ (v0 : Nat) (v1 : Int) (v2 : Int) (v3 : Int) (v4 : Int) (T : CS), cs_ok k T → wp_BRi_where_184 post (wp_BRi_where_5 post n5) v0 v1 v2 v3 v4 T → jat l D X 12 184 [(0, .ref v0), (1, vi v1), (2, vi v2), (3, vi v3), (4, vi v4)] [] (cwd k T) 0 0 := by
        intro v0 v1 v2 v3 v4 T hT hw
        unfold wp_BRi_where_184 at hw
        refine j_iinc F 4 [(4, vi (v4 + 1)), (0, .ref v0), (1, vi v1), (2, vi v2), (3, vi v3)] d_BRi_where_184 rfl (by decide) rfl ?_
        refine j_goto F 5 d_BRi_where_187 rfl ?_
        refine j_sub [1, 2, 3, 4, 0] rfl ?_
        exact ih5 _ _ _ _ _ _ hT hw
      have B183 : ∀ (v0 : Nat) (v1 : Int) (v2 : Int) (v4 : Int) (s0 : Int) (T : CS), cs_ok k T → wp_BRi_where_183 post (wp_BRi_where_5 post n5) v0 v1 v2 v4 s0 T → jat l D X 12 183 [(0, .ref v0), (1, vi v1), (2, vi v2), (4, vi v4)] [vi s0] (cwd k T) 0 0 := by
        intro v0 v1 v2 v4 s0 T hT hw
        unfold wp_BRi_where_183 at hw
        refine j_istore_n F [(3, vi s0), (0, .ref v0), (1, vi v1), (2, vi v2), (4, vi v4)] d_BRi_where_183 (by decide) rfl ?_
        refine j_sub [1, 2, 3, 0, 4] rfl ?_
        exact B184 _ _ _ _ _ _ hT hw
      have B171 : ∀ (v0 : Nat) (v1 : Int) (v2 : Int) (v3 : Int) (v4 : Int) (s0 : Int) (s1 : Int) (T : CS), cs_ok k T → wp_BRi_where_171 post (wp_BRi_where_5 post n5) v0 v1 v2 v3 v4 s0 s1 T → jat l D X 12 171 [(0, .ref v0), (1, vi v1), (2, vi v2), (3, vi v3), (4, vi v4)] [vi s0, vi s1] (cwd k T) 0 0 := by
        intro v0 v1 v2 v3 v4 s0 s1 T hT hw
        unfold wp_BRi_where_171 at hw
        obtain ⟨hc1, hc2, hwt, hwf⟩ := hw
        refine j_icmp_ne F 184 hc1 hc2 d_BRi_where_171 rfl (fun hh => ?_) (fun hh => ?_)
        · have hw := hwt hh
          exact B184 _ _ _ _ _ _ hT hw
        · have hw := hwf hh
          refine j_iload_n F 3 d_BRi_where_174 rfl ?_
          obtain ⟨hc1, hwt, hwf⟩ := hw
          refine j_if_ne F 182 hc1 d_BRi_where_175 rfl (fun hh => ?_) (fun hh => ?_)
          · have hw := hwt hh
            refine j_iconst F d_BRi_where_182 ?_
            refine j_sub [0, 1, 2, 4] rfl ?_
            exact B183 _ _ _ _ _ _ hT hw
          · have hw := hwf hh
            refine j_iconst F d_BRi_where_178 ?_
            refine j_goto F 183 d_BRi_where_179 rfl ?_
            refine j_sub [0, 1, 2, 4] rfl ?_
            exact B183 _ _ _ _ _ _ hT hw
      have B154 : ∀ (v0 : Nat) (v1 : Int) (v2 : Int) (v3 : Int) (v4 : Int) (v9 : Int) (v11 : Int) (s0 : Int) (s1 : Int) (T : CS), cs_ok k T → wp_BRi_where_154 post (wp_BRi_where_5 post n5) v0 v1 v2 v3 v4 v9 v11 s0 s1 T → jat l D X 12 154 [(0, .ref v0), (1, vi v1), (2, vi v2), (3, vi v3), (4, vi v4), (9, vl v9), (11, vi v11)] [vi s0, vi s1] (cwd k T) 0 0 := by
        intro v0 v1 v2 v3 v4 v9 v11 s0 s1 T hT hw
        unfold wp_BRi_where_154 at hw
        obtain ⟨hc1, hc2, hwt, hwf⟩ := hw
        refine j_icmp_eq F 184 hc1 hc2 d_BRi_where_154 rfl (fun hh => ?_) (fun hh => ?_)
        · have hw := hwt hh
          refine j_sub [0, 1, 2, 3, 4] rfl ?_
          exact B184 _ _ _ _ _ _ hT hw
        · have hw := hwf hh
          refine j_iload F 6 d_BRi_where_157 rfl ?_
          refine j_lload F 5 d_BRi_where_159 rfl ?_
          refine j_lconst (x := 0) F d_BRi_where_161 (by decide) ?_
          obtain ⟨hc1, hwt, hwf⟩ := hw
          refine j_lcmp_le F 170 hc1 ⟨by decide, by decide⟩ d_BRi_where_162 d_BRi_where_163 rfl (fun hh => ?_) (fun hh => ?_)
          · have hw := hwt hh
            refine j_iconst F d_BRi_where_170 ?_
            refine j_sub [0, 1, 2, 3, 4] rfl ?_
            exact B171 _ _ _ _ _ _ _ _ hT hw
          · have hw := hwf hh
            refine j_iconst F d_BRi_where_166 ?_
            refine j_goto F 171 d_BRi_where_167 rfl ?_
            refine j_sub [0, 1, 2, 3, 4] rfl ?_
            exact B171 _ _ _ _ _ _ _ _ hT hw
      have B139 : ∀ (v0 : Nat) (v1 : Int) (v2 : Int) (v3 : Int) (v4 : Int) (v6 : Int) (v9 : Int) (s0 : Int) (T : CS), cs_ok k T → wp_BRi_where_139 post (wp_BRi_where_5 post n5) v0 v1 v2 v3 v4 v6 v9 s0 T → jat l D X 12 139 [(0, .ref v0), (1, vi v1), (2, vi v2), (3, vi v3), (4, vi v4), (6, vi v6), (9, vl v9)] [vi s0] (cwd k T) 0 0 := by
        intro v0 v1 v2 v3 v4 v6 v9 s0 T hT hw
        unfold wp_BRi_where_139 at hw
        refine j_istore F [(11, vi s0), (0, .ref v0), (1, vi v1), (2, vi v2), (3, vi v3), (4, vi v4), (6, vi v6), (9, vl v9)] d_BRi_where_139 (by decide) rfl ?_
        refine j_iload F 0 d_BRi_where_141 rfl ?_
        refine j_iload F 6 d_BRi_where_143 rfl ?_
        refine j_iload_n F 3 d_BRi_where_145 rfl ?_
        obtain ⟨hc1, hc2, hwt, hwf⟩ := hw
        refine j_icmp_le F 153 hc1 hc2 d_BRi_where_146 rfl (fun hh => ?_) (fun hh => ?_)
        · have hw := hwt hh
          refine j_iconst F d_BRi_where_153 ?_
          refine j_sub [1, 2, 3, 4, 5, 7, 0] rfl ?_
          exact B154 _ _ _ _ _ _ _ _ _ _ hT hw
        · have hw := hwf hh
          refine j_iconst F d_BRi_where_149 ?_
          refine j_goto F 154 d_BRi_where_150 rfl ?_
          refine j_sub [1, 2, 3, 4, 5, 7, 0] rfl ?_
          exact B154 _ _ _ _ _ _ _ _ _ _ hT hw
      have B128 : ∀ (v0 : Nat) (v1 : Int) (v2 : Int) (v3 : Int) (v4 : Int) (v6 : Int) (v8 : Int) (v9 : Int) (T : CS), cs_ok k T → wp_BRi_where_128 post (wp_BRi_where_5 post n5) v0 v1 v2 v3 v4 v6 v8 v9 T → jat l D X 12 128 [(0, .ref v0), (1, vi v1), (2, vi v2), (3, vi v3), (4, vi v4), (6, vi v6), (8, vi v8), (9, vl v9)] [] (cwd k T) 0 0 := by
        intro v0 v1 v2 v3 v4 v6 v8 v9 T hT hw
        unfold wp_BRi_where_128 at hw
        refine j_iload F 6 d_BRi_where_128 rfl ?_
        refine j_iload_n F 2 d_BRi_where_130 rfl ?_
        obtain ⟨hc1, hc2, hwt, hwf⟩ := hw
        refine j_icmp_le F 138 hc1 hc2 d_BRi_where_131 rfl (fun hh => ?_) (fun hh => ?_)
        · have hw := hwt hh
          refine j_iconst F d_BRi_where_138 ?_
          refine j_sub [0, 1, 2, 3, 4, 5, 7] rfl ?_
          exact B139 _ _ _ _ _ _ _ _ _ hT hw
        · have hw := hwf hh
          refine j_iconst F d_BRi_where_134 ?_
          refine j_goto F 139 d_BRi_where_135 rfl ?_
          refine j_sub [0, 1, 2, 3, 4, 5, 7] rfl ?_
          exact B139 _ _ _ _ _ _ _ _ _ hT hw
      intro v0 v1 v2 v3 v4 T hT hw
      unfold wp_BRi_where_5 at hw
      refine j_iload F 4 d_BRi_where_5 rfl ?_
      refine j_aload_n F 0 d_BRi_where_7 rfl ?_
      obtain ⟨hc1, hw⟩ := hw
      refine c_geti F K hT 2 1 rfl tu_Points (by decide) (by decide) rfl tq_134 (Or.inl rfl) hc1 d_BRi_where_8 ?_
      obtain ⟨hc1, hc2, hwt, hwf⟩ := hw
      refine j_icmp_ge F 190 hc1 hc2 d_BRi_where_11 rfl (fun hh => ?_) (fun hh => ?_)
      · have hw := hwt hh
        refine j_iload_n F 3 d_BRi_where_190 rfl ?_
        obtain ⟨hc1, hwt, hwf⟩ := hw
        refine j_if_eq F 198 hc1 d_BRi_where_191 rfl (fun hh => ?_) (fun hh => ?_)
        · have hw := hwt hh
          refine j_iconst F d_BRi_where_198 ?_
          exact hret _ _ _ _ _ _ hw hT (by omega) (by omega) d_BRi_where_199
        · have hw := hwf hh
          refine j_iconst F d_BRi_where_194 ?_
          refine j_goto F 199 d_BRi_where_195 rfl ?_
          exact hret _ _ _ _ _ _ hw hT (by omega) (by omega) d_BRi_where_199
      · have hw := hwf hh
        refine j_iconst F d_BRi_where_14 ?_
        refine j_aload_n F 0 d_BRi_where_15 rfl ?_
        refine j_iload F 4 d_BRi_where_16 rfl ?_
        obtain ⟨hg1, hw⟩ := hw
        refine c_callVi F K hT (c_BPt_at l hw) (tw_gV tq_135 tq_136 tq_137 tq_126 tq_138) 2 rfl (by decide) hg1 q_BPt_at rfl ⟨by decide, by decide⟩ ⟨by omega, by omega⟩ rfl (Nat.le_of_ble_eq_true rfl) d_BRi_where_18 (fun r_2 T_1 hw hT => ?_)
        refine j_callS F (c_BPl_xOf l hw) (tw_gS tq_142 tq_87 tq_88 tq_89) q_BPl_xOf rfl ⟨by decide, by decide⟩ ⟨by omega, by omega⟩ rfl (Nat.le_of_ble_eq_true rfl) d_BRi_where_21 (fun r_3 hw => ?_)
        refine j_imul F d_BRi_where_24 ?_
        refine j_nmi (fun v5_4 e_v5_4 => ?_)
        have hw := hw v5_4 e_v5_4
        refine j_istore F [(5, vi v5_4), (0, .ref v0), (1, vi v1), (2, vi v2), (3, vi v3), (4, vi v4)] d_BRi_where_25 (by decide) rfl ?_
        refine j_iconst F d_BRi_where_27 ?_
        refine j_aload_n F 1 d_BRi_where_28 rfl ?_
        refine j_iload F 5 d_BRi_where_29 rfl ?_
        obtain ⟨hg1, hw⟩ := hw
        refine c_callVi F K hT (c_BPt_at l hw) (tw_gV tq_135 tq_136 tq_137 tq_126 tq_138) 2 rfl (by decide) hg1 q_BPt_at rfl ⟨by decide, by decide⟩ ⟨by omega, by omega⟩ rfl (Nat.le_of_ble_eq_true rfl) d_BRi_where_31 (fun r_6 T_5 hw hT => ?_)
        refine j_callS F (c_BPl_yOf l hw) (tw_gS tq_143 tq_91 tq_88 tq_92) q_BPl_yOf rfl ⟨by decide, by decide⟩ ⟨by omega, by omega⟩ rfl (Nat.le_of_ble_eq_true rfl) d_BRi_where_34 (fun r_7 hw => ?_)
        refine j_imul F d_BRi_where_37 ?_
        refine j_nmi (fun v6_8 e_v6_8 => ?_)
        have hw := hw v6_8 e_v6_8
        refine j_istore F [(6, vi v6_8), (5, vi v5_4), (0, .ref v0), (1, vi v1), (2, vi v2), (3, vi v3), (4, vi v4)] d_BRi_where_38 (by decide) rfl ?_
        refine j_iconst F d_BRi_where_40 ?_
        refine j_aload_n F 2 d_BRi_where_41 rfl ?_
        refine j_iload F 6 d_BRi_where_42 rfl ?_
        refine j_iconst F d_BRi_where_44 ?_
        refine j_iadd F d_BRi_where_45 ?_
        obtain ⟨hg1, hw⟩ := hw
        refine c_callVi F K hT (c_BPt_at l hw) (tw_gV tq_135 tq_136 tq_137 tq_126 tq_138) 2 rfl (by decide) hg1 q_BPt_at rfl ⟨by decide, by decide⟩ ⟨by omega, by omega⟩ rfl (Nat.le_of_ble_eq_true rfl) d_BRi_where_46 (fun r_10 T_9 hw hT => ?_)
        refine j_callS F (c_BPl_xOf l hw) (tw_gS tq_142 tq_87 tq_88 tq_89) q_BPl_xOf rfl ⟨by decide, by decide⟩ ⟨by omega, by omega⟩ rfl (Nat.le_of_ble_eq_true rfl) d_BRi_where_49 (fun r_11 hw => ?_)
        refine j_imul F d_BRi_where_52 ?_
        refine j_nmi (fun v7_12 e_v7_12 => ?_)
        have hw := hw v7_12 e_v7_12
        refine j_istore F [(7, vi v7_12), (6, vi v6_8), (5, vi v5_4), (0, .ref v0), (1, vi v1), (2, vi v2), (3, vi v3), (4, vi v4)] d_BRi_where_53 (by decide) rfl ?_
        refine j_iconst F d_BRi_where_55 ?_
        refine j_aload_n F 3 d_BRi_where_56 rfl ?_
        refine j_iload F 7 d_BRi_where_57 rfl ?_
        refine j_iconst F d_BRi_where_59 ?_
        refine j_iadd F d_BRi_where_60 ?_
        obtain ⟨hg1, hw⟩ := hw
        refine c_callVi F K hT (c_BPt_at l hw) (tw_gV tq_135 tq_136 tq_137 tq_126 tq_138) 2 rfl (by decide) hg1 q_BPt_at rfl ⟨by decide, by decide⟩ ⟨by omega, by omega⟩ rfl (Nat.le_of_ble_eq_true rfl) d_BRi_where_61 (fun r_14 T_13 hw hT => ?_)
        refine j_callS F (c_BPl_yOf l hw) (tw_gS tq_143 tq_91 tq_88 tq_92) q_BPl_yOf rfl ⟨by decide, by decide⟩ ⟨by omega, by omega⟩ rfl (Nat.le_of_ble_eq_true rfl) d_BRi_where_64 (fun r_15 hw => ?_)
        refine j_imul F d_BRi_where_67 ?_
        refine j_nmi (fun v8_16 e_v8_16 => ?_)
        have hw := hw v8_16 e_v8_16
        refine j_istore F [(8, vi v8_16), (7, vi v7_12), (6, vi v6_8), (5, vi v5_4), (0, .ref v0), (1, vi v1), (2, vi v2), (3, vi v3), (4, vi v4)] d_BRi_where_68 (by decide) rfl ?_
        refine j_iload F 1 d_BRi_where_70 rfl ?_
        refine j_iload F 3 d_BRi_where_72 rfl ?_
        refine j_isub F d_BRi_where_74 ?_
        obtain ⟨hc1, hw⟩ := hw
        refine j_i2l F hc1 d_BRi_where_75 ?_
        refine j_iload_n F 6 d_BRi_where_76 rfl ?_
        refine j_iload F 2 d_BRi_where_77 rfl ?_
        refine j_isub F d_BRi_where_79 ?_
        obtain ⟨hc1, hw⟩ := hw
        refine j_i2l F hc1 d_BRi_where_80 ?_
        refine j_lmul F d_BRi_where_81 ?_
        refine j_iload F 0 d_BRi_where_82 rfl ?_
        refine j_iload F 2 d_BRi_where_84 rfl ?_
        refine j_isub F d_BRi_where_86 ?_
        obtain ⟨hc1, hw⟩ := hw
        refine j_i2l F hc1 d_BRi_where_87 ?_
        refine j_iload_n F 5 d_BRi_where_88 rfl ?_
        refine j_iload F 3 d_BRi_where_89 rfl ?_
        refine j_isub F d_BRi_where_91 ?_
        obtain ⟨hc1, hw⟩ := hw
        refine j_i2l F hc1 d_BRi_where_92 ?_
        refine j_lmul F d_BRi_where_93 ?_
        refine j_lsub F d_BRi_where_94 ?_
        refine j_nml (fun v9_17 e_v9_17 => ?_)
        have hw := hw v9_17 e_v9_17
        refine j_lstore F [(9, vl v9_17), (8, vi v8_16), (7, vi v7_12), (6, vi v6_8), (5, vi v5_4), (0, .ref v0), (1, vi v1), (2, vi v2), (3, vi v3), (4, vi v4)] d_BRi_where_95 (by decide) rfl ?_
        refine j_lload F 0 d_BRi_where_97 rfl ?_
        refine j_lconst (x := 0) F d_BRi_where_99 (by decide) ?_
        obtain ⟨hc1, hwt, hwf⟩ := hw
        refine j_lcmp_ne F 128 hc1 ⟨by decide, by decide⟩ d_BRi_where_100 d_BRi_where_101 rfl (fun hh => ?_) (fun hh => ?_)
        · have hw := hwt hh
          refine j_sub [5, 6, 7, 8, 9, 3, 1, 0] rfl ?_
          exact B128 _ _ _ _ _ _ _ _ _ hT hw
        · have hw := hwf hh
          refine j_iload F 4 d_BRi_where_104 rfl ?_
          refine j_iload_n F 6 d_BRi_where_106 rfl ?_
          refine j_iload F 2 d_BRi_where_107 rfl ?_
          refine j_callS F (c_BRi_isBetween l hw) (tw_gS tq_154 tq_155 tq_146 tq_156) q_BRi_isBetween rfl ⟨by decide, by decide⟩ ⟨by omega, by omega⟩ rfl (Nat.le_of_ble_eq_true rfl) d_BRi_where_109 (fun r_18 hw => ?_)
          obtain ⟨hc1, hwt, hwf⟩ := hw
          refine j_if_eq F 128 hc1 d_BRi_where_112 rfl (fun hh => ?_) (fun hh => ?_)
          · have hw := hwt hh
            refine j_sub [5, 6, 7, 8, 9, 3, 1, 0] rfl ?_
            exact B128 _ _ _ _ _ _ _ _ _ hT hw
          · have hw := hwf hh
            refine j_iload F 3 d_BRi_where_115 rfl ?_
            refine j_iload_n F 7 d_BRi_where_117 rfl ?_
            refine j_iload F 1 d_BRi_where_118 rfl ?_
            refine j_callS F (c_BRi_isBetween l hw) (tw_gS tq_154 tq_155 tq_146 tq_156) q_BRi_isBetween rfl ⟨by decide, by decide⟩ ⟨by omega, by omega⟩ rfl (Nat.le_of_ble_eq_true rfl) d_BRi_where_120 (fun r_19 hw => ?_)
            obtain ⟨hc1, hwt, hwf⟩ := hw
            refine j_if_eq F 128 hc1 d_BRi_where_123 rfl (fun hh => ?_) (fun hh => ?_)
            · have hw := hwt hh
              refine j_sub [5, 6, 7, 8, 9, 3, 1, 0] rfl ?_
              exact B128 _ _ _ _ _ _ _ _ _ hT hw
            · have hw := hwf hh
              refine j_iconst F d_BRi_where_126 ?_
              exact hret _ _ _ _ _ _ hw hT (by omega) (by omega) d_BRi_where_127
  unfold wp_BRi_where at hw
  show jat l D X 12 0 [(0, .ref v0), (1, vi v1), (2, vi v2)] [] (cwd k T) 0 0
  refine j_iconst F d_BRi_where_0 ?_
  refine j_istore_n F [(3, vi 0), (0, .ref v0), (1, vi v1), (2, vi v2)] d_BRi_where_1 (by decide) rfl ?_
  refine j_iconst F d_BRi_where_2 ?_
  refine j_istore F [(4, vi 0), (3, vi 0), (0, .ref v0), (1, vi v1), (2, vi v2)] d_BRi_where_3 (by decide) rfl ?_
  refine j_sub [2, 3, 4, 1, 0] rfl ?_
  obtain ⟨nn, hw⟩ := hw
  exact B5 nn _ _ _ _ _ _ hT hw
theorem tq_157 : (Jvm.Cond.methodLink "LandBook$Rings" (59 : Nat) ({ cls := "LandBook$Plane", name := "lies", desc := "(III)Z" } : Jvm.MethodName)) ∈ tw_G := tw_in (List.mem_of_getElem? (i := 632) (by decide +kernel)) rfl
theorem tq_158 : (Jvm.Cond.static ({ cls := "LandBook$Plane", name := "lies", desc := "(III)Z" } : Jvm.MethodName)) ∈ tw_G := tw_in (List.mem_of_getElem? (i := 633) (by decide +kernel)) rfl
theorem tq_159 : (Jvm.Cond.code ({ cls := "LandBook$Plane", name := "lies", desc := "(III)Z" } : Jvm.MethodName) prog_8_method_6_code (3 : Nat) (Option.some Jvm.ClassFile.FieldType.boolean)) ∈ tw_G := tw_in (List.mem_of_getElem? (i := 634) (by decide +kernel)) rfl
abbrev y_BRi_sideOf : MethodName := ⟨"LandBook$Rings", "sideOf", "(LLandBook$Points;I)I"⟩
theorem q_BRi_sideOf : y_BRi_sideOf.cls ≠ "java/lang/invoke/MethodHandle" ∧ y_BRi_sideOf.cls ≠ "java/lang/invoke/VarHandle" ∧ (parseMethodDescriptor y_BRi_sideOf.desc).map (fun d => d.parameters.length) = some 2 := by decide +kernel
theorem d_BRi_sideOf_0 : decode prog_11_method_7_code 0 = .ok (.iconst 0, 1) := by decide +kernel
theorem d_BRi_sideOf_1 : decode prog_11_method_7_code 1 = .ok (.istore_n 2, 1) := by decide +kernel
theorem d_BRi_sideOf_2 : decode prog_11_method_7_code 2 = .ok (.iload_n 2, 1) := by decide +kernel
theorem d_BRi_sideOf_3 : decode prog_11_method_7_code 3 = .ok (.aload_n 0, 1) := by decide +kernel
theorem d_BRi_sideOf_4 : decode prog_11_method_7_code 4 = .ok (.getfield 7, 3) := by decide +kernel
theorem d_BRi_sideOf_7 : decode prog_11_method_7_code 7 = .ok (.if_icmp .ge 41, 3) := by decide +kernel
theorem d_BRi_sideOf_48 : decode prog_11_method_7_code 48 = .ok (.iconst (-1), 1) := by decide +kernel
theorem d_BRi_sideOf_49 : decode prog_11_method_7_code 49 = .ok (.ireturn, 1) := by decide +kernel
theorem d_BRi_sideOf_10 : decode prog_11_method_7_code 10 = .ok (.iload_n 1, 1) := by decide +kernel
theorem d_BRi_sideOf_11 : decode prog_11_method_7_code 11 = .ok (.aload_n 0, 1) := by decide +kernel
theorem d_BRi_sideOf_12 : decode prog_11_method_7_code 12 = .ok (.iload_n 2, 1) := by decide +kernel
theorem d_BRi_sideOf_13 : decode prog_11_method_7_code 13 = .ok (.iconst 1, 1) := by decide +kernel
theorem d_BRi_sideOf_14 : decode prog_11_method_7_code 14 = .ok (.iadd, 1) := by decide +kernel
theorem d_BRi_sideOf_15 : decode prog_11_method_7_code 15 = .ok (.invokevirtual 13, 3) := by decide +kernel
theorem d_BRi_sideOf_18 : decode prog_11_method_7_code 18 = .ok (.if_icmp .eq 24, 3) := by decide +kernel
theorem d_BRi_sideOf_21 : decode prog_11_method_7_code 21 = .ok (.iload_n 1, 1) := by decide +kernel
theorem d_BRi_sideOf_22 : decode prog_11_method_7_code 22 = .ok (.aload_n 0, 1) := by decide +kernel
theorem d_BRi_sideOf_23 : decode prog_11_method_7_code 23 = .ok (.iload_n 2, 1) := by decide +kernel
theorem d_BRi_sideOf_24 : decode prog_11_method_7_code 24 = .ok (.invokevirtual 13, 3) := by decide +kernel
theorem d_BRi_sideOf_27 : decode prog_11_method_7_code 27 = .ok (.aload_n 0, 1) := by decide +kernel
theorem d_BRi_sideOf_28 : decode prog_11_method_7_code 28 = .ok (.iload_n 2, 1) := by decide +kernel
theorem d_BRi_sideOf_29 : decode prog_11_method_7_code 29 = .ok (.iconst 1, 1) := by decide +kernel
theorem d_BRi_sideOf_30 : decode prog_11_method_7_code 30 = .ok (.iadd, 1) := by decide +kernel
theorem d_BRi_sideOf_31 : decode prog_11_method_7_code 31 = .ok (.invokevirtual 13, 3) := by decide +kernel
theorem d_BRi_sideOf_34 : decode prog_11_method_7_code 34 = .ok (.invokestatic 59, 3) := by decide +kernel
theorem d_BRi_sideOf_37 : decode prog_11_method_7_code 37 = .ok (.ifCond .eq 5, 3) := by decide +kernel
theorem d_BRi_sideOf_40 : decode prog_11_method_7_code 40 = .ok (.iload_n 2, 1) := by decide +kernel
theorem d_BRi_sideOf_41 : decode prog_11_method_7_code 41 = .ok (.ireturn, 1) := by decide +kernel
theorem d_BRi_sideOf_42 : decode prog_11_method_7_code 42 = .ok (.iinc 2 1, 3) := by decide +kernel
theorem d_BRi_sideOf_45 : decode prog_11_method_7_code 45 = .ok (.goto (-43), 3) := by decide +kernel
def wp_BRi_sideOf_42 (post : Int → CS → Prop) (k2 : Nat → Int → Int → CS → Prop) (v0 : Nat) (v1 : Int) (v2 : Int) (T : CS) : Prop := k2 v0 v1 (v2 + 1) T
def wp_BRi_sideOf_2 (post : Int → CS → Prop) : Nat → Nat → Int → Int → CS → Prop
  | 0, _, _, _, _ => False
  | n + 1, v0, v1, v2, T => tg T v0 = 2 ∧ (inR v2 ∧ inR (fi T v0 1) ∧ ((fi T v0 1) ≤ v2 → (post (-1) T)) ∧ (¬ ((fi T v0 1) ≤ v2) → (tg T v0 = 2 ∧ wp_BPt_at (fun r_2 T_1 => inR v1 ∧ inR r_2 ∧ (v1 = r_2 → wp_BRi_sideOf_42 post (wp_BRi_sideOf_2 post n) v0 v1 v2 T_1) ∧ (¬ (v1 = r_2) → (tg T_1 v0 = 2 ∧ wp_BPt_at (fun r_4 T_3 => tg T_3 v0 = 2 ∧ wp_BPt_at (fun r_6 T_5 => wp_BPl_lies (fun r_7 => inR r_7 ∧ (r_7 = 0 → wp_BRi_sideOf_42 post (wp_BRi_sideOf_2 post n) v0 v1 v2 T_5) ∧ (¬ (r_7 = 0) → post v2 T_5)) v1 r_4 r_6) v0 (v2 + 1) T_3) v0 v2 T_1))) v0 (v2 + 1) T)))
def wp_BRi_sideOf (post : Int → CS → Prop) (v0 : Nat) (v1 : Int) (T : CS) : Prop := ∃ nn : Nat, wp_BRi_sideOf_2 post nn v0 v1 0 T
set_option maxHeartbeats 4000000 in
set_option maxRecDepth 100000 in
theorem c_BRi_sideOf (l : Launch) {D : va_G} {k : CK} {post : Int → CS → Prop} {v0 : Nat} {v1 : Int} {T : CS} (hw : wp_BRi_sideOf post v0 v1 T) : jCi l D k y_BRi_sideOf prog_11_method_7_code 3 (some .int) 3 64 0 0 T [.ref v0, vi v1] post := by
  refine j_coi (own := "LandBook$Rings") (by decide) rfl (Nat.le_of_ble_eq_true rfl) (fun X F K hT hret => ?_)
  have B2 : ∀ (nn : Nat) (v0 : Nat) (v1 : Int) (v2 : Int) (T : CS), cs_ok k T → wp_BRi_sideOf_2 post nn v0 v1 v2 T → jat l D X 3 2 [(0, .ref v0), (1, vi v1), (2, vi v2)] [] (cwd k T) 0 0 := by
    intro nn
    induction nn with
    | zero => intro v0 v1 v2 T hT hw; exact hw.elim
    | succ n2 ih2 =>
      have B42 : ∀ (v0 : Nat) (v1 : Int) (v2 : Int) (T : CS), cs_ok k T → wp_BRi_sideOf_42 post (wp_BRi_sideOf_2 post n2) v0 v1 v2 T → jat l D X 3 42 [(0, .ref v0), (1, vi v1), (2, vi v2)] [] (cwd k T) 0 0 := by
        intro v0 v1 v2 T hT hw
        unfold wp_BRi_sideOf_42 at hw
        refine j_iinc F 2 [(2, vi (v2 + 1)), (0, .ref v0), (1, vi v1)] d_BRi_sideOf_42 rfl (by decide) rfl ?_
        refine j_goto F 2 d_BRi_sideOf_45 rfl ?_
        refine j_sub [1, 2, 0] rfl ?_
        exact ih2 _ _ _ _ hT hw
      intro v0 v1 v2 T hT hw
      unfold wp_BRi_sideOf_2 at hw
      refine j_iload_n F 2 d_BRi_sideOf_2 rfl ?_
      refine j_aload_n F 0 d_BRi_sideOf_3 rfl ?_
      obtain ⟨hc1, hw⟩ := hw
      refine c_geti F K hT 2 1 rfl tu_Points (by decide) (by decide) rfl tq_134 (Or.inl rfl) hc1 d_BRi_sideOf_4 ?_
      obtain ⟨hc1, hc2, hwt, hwf⟩ := hw
      refine j_icmp_ge F 48 hc1 hc2 d_BRi_sideOf_7 rfl (fun hh => ?_) (fun hh => ?_)
      · have hw := hwt hh
        refine j_iconst F d_BRi_sideOf_48 ?_
        exact hret _ _ _ _ _ _ hw hT (by omega) (by omega) d_BRi_sideOf_49
      · have hw := hwf hh
        refine j_iload_n F 1 d_BRi_sideOf_10 rfl ?_
        refine j_aload_n F 0 d_BRi_sideOf_11 rfl ?_
        refine j_iload_n F 2 d_BRi_sideOf_12 rfl ?_
        refine j_iconst F d_BRi_sideOf_13 ?_
        refine j_iadd F d_BRi_sideOf_14 ?_
        obtain ⟨hg1, hw⟩ := hw
        refine c_callVi F K hT (c_BPt_at l hw) (tw_gV tq_135 tq_136 tq_137 tq_126 tq_138) 2 rfl (by decide) hg1 q_BPt_at rfl ⟨by decide, by decide⟩ ⟨by omega, by omega⟩ rfl (Nat.le_of_ble_eq_true rfl) d_BRi_sideOf_15 (fun r_2 T_1 hw hT => ?_)
        obtain ⟨hc1, hc2, hwt, hwf⟩ := hw
        refine j_icmp_eq F 42 hc1 hc2 d_BRi_sideOf_18 rfl (fun hh => ?_) (fun hh => ?_)
        · have hw := hwt hh
          exact B42 _ _ _ _ hT hw
        · have hw := hwf hh
          refine j_iload_n F 1 d_BRi_sideOf_21 rfl ?_
          refine j_aload_n F 0 d_BRi_sideOf_22 rfl ?_
          refine j_iload_n F 2 d_BRi_sideOf_23 rfl ?_
          obtain ⟨hg1, hw⟩ := hw
          refine c_callVi F K hT (c_BPt_at l hw) (tw_gV tq_135 tq_136 tq_137 tq_126 tq_138) 2 rfl (by decide) hg1 q_BPt_at rfl ⟨by decide, by decide⟩ ⟨by omega, by omega⟩ rfl (Nat.le_of_ble_eq_true rfl) d_BRi_sideOf_24 (fun r_4 T_3 hw hT => ?_)
          refine j_aload_n F 0 d_BRi_sideOf_27 rfl ?_
          refine j_iload_n F 2 d_BRi_sideOf_28 rfl ?_
          refine j_iconst F d_BRi_sideOf_29 ?_
          refine j_iadd F d_BRi_sideOf_30 ?_
          obtain ⟨hg1, hw⟩ := hw
          refine c_callVi F K hT (c_BPt_at l hw) (tw_gV tq_135 tq_136 tq_137 tq_126 tq_138) 2 rfl (by decide) hg1 q_BPt_at rfl ⟨by decide, by decide⟩ ⟨by omega, by omega⟩ rfl (Nat.le_of_ble_eq_true rfl) d_BRi_sideOf_31 (fun r_6 T_5 hw hT => ?_)
          refine j_callS F (c_BPl_lies l hw) (tw_gS tq_157 tq_158 tq_88 tq_159) q_BPl_lies rfl ⟨by decide, by decide⟩ ⟨by omega, by omega⟩ rfl (Nat.le_of_ble_eq_true rfl) d_BRi_sideOf_34 (fun r_7 hw => ?_)
          obtain ⟨hc1, hwt, hwf⟩ := hw
          refine j_if_eq F 42 hc1 d_BRi_sideOf_37 rfl (fun hh => ?_) (fun hh => ?_)
          · have hw := hwt hh
            exact B42 _ _ _ _ hT hw
          · have hw := hwf hh
            refine j_iload_n F 2 d_BRi_sideOf_40 rfl ?_
            exact hret _ _ _ _ _ _ hw hT (by omega) (by omega) d_BRi_sideOf_41
  unfold wp_BRi_sideOf at hw
  show jat l D X 3 0 [(0, .ref v0), (1, vi v1)] [] (cwd k T) 0 0
  refine j_iconst F d_BRi_sideOf_0 ?_
  refine j_istore_n F [(2, vi 0), (0, .ref v0), (1, vi v1)] d_BRi_sideOf_1 (by decide) rfl ?_
  refine j_sub [1, 2, 0] rfl ?_
  obtain ⟨nn, hw⟩ := hw
  exact B2 nn _ _ _ _ hT hw
abbrev y_BRi_haveLineInCommon : MethodName := ⟨"LandBook$Rings", "haveLineInCommon", "(LLandBook$Points;LLandBook$Points;)Z"⟩
theorem q_BRi_haveLineInCommon : y_BRi_haveLineInCommon.cls ≠ "java/lang/invoke/MethodHandle" ∧ y_BRi_haveLineInCommon.cls ≠ "java/lang/invoke/VarHandle" ∧ (parseMethodDescriptor y_BRi_haveLineInCommon.desc).map (fun d => d.parameters.length) = some 2 := by decide +kernel
theorem d_BRi_haveLineInCommon_0 : decode prog_11_method_8_code 0 = .ok (.iconst 0, 1) := by decide +kernel
theorem d_BRi_haveLineInCommon_1 : decode prog_11_method_8_code 1 = .ok (.istore_n 2, 1) := by decide +kernel
theorem d_BRi_haveLineInCommon_2 : decode prog_11_method_8_code 2 = .ok (.iload_n 2, 1) := by decide +kernel
theorem d_BRi_haveLineInCommon_3 : decode prog_11_method_8_code 3 = .ok (.aload_n 0, 1) := by decide +kernel
theorem d_BRi_haveLineInCommon_4 : decode prog_11_method_8_code 4 = .ok (.getfield 7, 3) := by decide +kernel
theorem d_BRi_haveLineInCommon_7 : decode prog_11_method_8_code 7 = .ok (.if_icmp .ge 58, 3) := by decide +kernel
theorem d_BRi_haveLineInCommon_65 : decode prog_11_method_8_code 65 = .ok (.iconst 0, 1) := by decide +kernel
theorem d_BRi_haveLineInCommon_66 : decode prog_11_method_8_code 66 = .ok (.ireturn, 1) := by decide +kernel
theorem d_BRi_haveLineInCommon_10 : decode prog_11_method_8_code 10 = .ok (.iconst 0, 1) := by decide +kernel
theorem d_BRi_haveLineInCommon_11 : decode prog_11_method_8_code 11 = .ok (.istore_n 3, 1) := by decide +kernel
theorem d_BRi_haveLineInCommon_12 : decode prog_11_method_8_code 12 = .ok (.iload_n 3, 1) := by decide +kernel
theorem d_BRi_haveLineInCommon_13 : decode prog_11_method_8_code 13 = .ok (.aload_n 1, 1) := by decide +kernel
theorem d_BRi_haveLineInCommon_14 : decode prog_11_method_8_code 14 = .ok (.getfield 7, 3) := by decide +kernel
theorem d_BRi_haveLineInCommon_17 : decode prog_11_method_8_code 17 = .ok (.if_icmp .ge 42, 3) := by decide +kernel
theorem d_BRi_haveLineInCommon_59 : decode prog_11_method_8_code 59 = .ok (.iinc 2 1, 3) := by decide +kernel
theorem d_BRi_haveLineInCommon_62 : decode prog_11_method_8_code 62 = .ok (.goto (-60), 3) := by decide +kernel
theorem d_BRi_haveLineInCommon_20 : decode prog_11_method_8_code 20 = .ok (.aload_n 0, 1) := by decide +kernel
theorem d_BRi_haveLineInCommon_21 : decode prog_11_method_8_code 21 = .ok (.iload_n 2, 1) := by decide +kernel
theorem d_BRi_haveLineInCommon_22 : decode prog_11_method_8_code 22 = .ok (.invokevirtual 13, 3) := by decide +kernel
theorem d_BRi_haveLineInCommon_25 : decode prog_11_method_8_code 25 = .ok (.aload_n 0, 1) := by decide +kernel
theorem d_BRi_haveLineInCommon_26 : decode prog_11_method_8_code 26 = .ok (.iload_n 2, 1) := by decide +kernel
theorem d_BRi_haveLineInCommon_27 : decode prog_11_method_8_code 27 = .ok (.iconst 1, 1) := by decide +kernel
theorem d_BRi_haveLineInCommon_28 : decode prog_11_method_8_code 28 = .ok (.iadd, 1) := by decide +kernel
theorem d_BRi_haveLineInCommon_29 : decode prog_11_method_8_code 29 = .ok (.invokevirtual 13, 3) := by decide +kernel
theorem d_BRi_haveLineInCommon_32 : decode prog_11_method_8_code 32 = .ok (.aload_n 1, 1) := by decide +kernel
theorem d_BRi_haveLineInCommon_33 : decode prog_11_method_8_code 33 = .ok (.iload_n 3, 1) := by decide +kernel
theorem d_BRi_haveLineInCommon_34 : decode prog_11_method_8_code 34 = .ok (.invokevirtual 13, 3) := by decide +kernel
theorem d_BRi_haveLineInCommon_37 : decode prog_11_method_8_code 37 = .ok (.aload_n 1, 1) := by decide +kernel
theorem d_BRi_haveLineInCommon_38 : decode prog_11_method_8_code 38 = .ok (.iload_n 3, 1) := by decide +kernel
theorem d_BRi_haveLineInCommon_39 : decode prog_11_method_8_code 39 = .ok (.iconst 1, 1) := by decide +kernel
theorem d_BRi_haveLineInCommon_40 : decode prog_11_method_8_code 40 = .ok (.iadd, 1) := by decide +kernel
theorem d_BRi_haveLineInCommon_41 : decode prog_11_method_8_code 41 = .ok (.invokevirtual 13, 3) := by decide +kernel
theorem d_BRi_haveLineInCommon_44 : decode prog_11_method_8_code 44 = .ok (.invokestatic 17, 3) := by decide +kernel
theorem d_BRi_haveLineInCommon_47 : decode prog_11_method_8_code 47 = .ok (.iconst 2, 1) := by decide +kernel
theorem d_BRi_haveLineInCommon_48 : decode prog_11_method_8_code 48 = .ok (.if_icmp .ne 5, 3) := by decide +kernel
theorem d_BRi_haveLineInCommon_53 : decode prog_11_method_8_code 53 = .ok (.iinc 3 1, 3) := by decide +kernel
theorem d_BRi_haveLineInCommon_56 : decode prog_11_method_8_code 56 = .ok (.goto (-44), 3) := by decide +kernel
theorem d_BRi_haveLineInCommon_51 : decode prog_11_method_8_code 51 = .ok (.iconst 1, 1) := by decide +kernel
theorem d_BRi_haveLineInCommon_52 : decode prog_11_method_8_code 52 = .ok (.ireturn, 1) := by decide +kernel
def wp_BRi_haveLineInCommon_12 (post : Int → CS → Prop) (k2 : Nat → Nat → Int → CS → Prop) : Nat → Nat → Nat → Int → Int → CS → Prop
  | 0, _, _, _, _, _ => False
  | n + 1, v0, v1, v2, v3, T => tg T v1 = 2 ∧ (inR v3 ∧ inR (fi T v1 1) ∧ ((fi T v1 1) ≤ v3 → (k2 v0 v1 (v2 + 1) T)) ∧ (¬ ((fi T v1 1) ≤ v3) → (tg T v0 = 2 ∧ wp_BPt_at (fun r_2 T_1 => tg T_1 v0 = 2 ∧ wp_BPt_at (fun r_4 T_3 => tg T_3 v1 = 2 ∧ wp_BPt_at (fun r_6 T_5 => tg T_5 v1 = 2 ∧ wp_BPt_at (fun r_8 T_7 => wp_BPl_meeting (fun r_9 => inR r_9 ∧ (¬ (r_9 = 2) → ((wp_BRi_haveLineInCommon_12 post k2 n) v0 v1 v2 (v3 + 1) T_7)) ∧ (r_9 = 2 → post 1 T_7)) r_2 r_4 r_6 r_8) v1 (v3 + 1) T_5) v1 v3 T_3) v0 (v2 + 1) T_1) v0 v2 T)))
def wp_BRi_haveLineInCommon_2 (post : Int → CS → Prop) : Nat → Nat → Nat → Int → CS → Prop
  | 0, _, _, _, _ => False
  | n + 1, v0, v1, v2, T => tg T v0 = 2 ∧ (inR v2 ∧ inR (fi T v0 1) ∧ ((fi T v0 1) ≤ v2 → post 0 T) ∧ (¬ ((fi T v0 1) ≤ v2) → (∃ nn : Nat, wp_BRi_haveLineInCommon_12 post (wp_BRi_haveLineInCommon_2 post n) nn v0 v1 v2 0 T)))
def wp_BRi_haveLineInCommon (post : Int → CS → Prop) (v0 : Nat) (v1 : Nat) (T : CS) : Prop := ∃ nn : Nat, wp_BRi_haveLineInCommon_2 post nn v0 v1 0 T
set_option maxHeartbeats 4000000 in
set_option maxRecDepth 100000 in
theorem c_BRi_haveLineInCommon (l : Launch) {D : va_G} {k : CK} {post : Int → CS → Prop} {v0 : Nat} {v1 : Nat} {T : CS} (hw : wp_BRi_haveLineInCommon post v0 v1 T) : jCi l D k y_BRi_haveLineInCommon prog_11_method_8_code 4 (some .boolean) 3 70 0 0 T [.ref v0, .ref v1] post := by
  refine j_coz (own := "LandBook$Rings") (by decide) rfl (Nat.le_of_ble_eq_true rfl) (fun X F K hT hret => ?_)
  have B2 : ∀ (nn : Nat) (v0 : Nat) (v1 : Nat) (v2 : Int) (T : CS), cs_ok k T → wp_BRi_haveLineInCommon_2 post nn v0 v1 v2 T → jat l D X 4 2 [(0, .ref v0), (1, .ref v1), (2, vi v2)] [] (cwd k T) 0 0 := by
    intro nn
    induction nn with
    | zero => intro v0 v1 v2 T hT hw; exact hw.elim
    | succ n2 ih2 =>
      have B12 : ∀ (nn : Nat) (v0 : Nat) (v1 : Nat) (v2 : Int) (v3 : Int) (T : CS), cs_ok k T → wp_BRi_haveLineInCommon_12 post (wp_BRi_haveLineInCommon_2 post n2) nn v0 v1 v2 v3 T → jat l D X 4 12 [(0, .ref v0), (1, .ref v1), (2, vi v2), (3, vi v3)] [] (cwd k T) 0 0 := by
        intro nn
        induction nn with
        | zero => intro v0 v1 v2 v3 T hT hw; exact hw.elim
        | succ n12 ih12 =>
          intro v0 v1 v2 v3 T hT hw
          unfold wp_BRi_haveLineInCommon_12 at hw
          refine j_iload_n F 3 d_BRi_haveLineInCommon_12 rfl ?_
          refine j_aload_n F 1 d_BRi_haveLineInCommon_13 rfl ?_
          obtain ⟨hc1, hw⟩ := hw
          refine c_geti F K hT 2 1 rfl tu_Points (by decide) (by decide) rfl tq_134 (Or.inl rfl) hc1 d_BRi_haveLineInCommon_14 ?_
          obtain ⟨hc1, hc2, hwt, hwf⟩ := hw
          refine j_icmp_ge F 59 hc1 hc2 d_BRi_haveLineInCommon_17 rfl (fun hh => ?_) (fun hh => ?_)
          · have hw := hwt hh
            refine j_iinc F 2 [(2, vi (v2 + 1)), (0, .ref v0), (1, .ref v1), (3, vi v3)] d_BRi_haveLineInCommon_59 rfl (by decide) rfl ?_
            refine j_goto F 2 d_BRi_haveLineInCommon_62 rfl ?_
            refine j_sub [1, 2, 0] rfl ?_
            exact ih2 _ _ _ _ hT hw
          · have hw := hwf hh
            refine j_aload_n F 0 d_BRi_haveLineInCommon_20 rfl ?_
            refine j_iload_n F 2 d_BRi_haveLineInCommon_21 rfl ?_
            obtain ⟨hg1, hw⟩ := hw
            refine c_callVi F K hT (c_BPt_at l hw) (tw_gV tq_135 tq_136 tq_137 tq_126 tq_138) 2 rfl (by decide) hg1 q_BPt_at rfl ⟨by decide, by decide⟩ ⟨by omega, by omega⟩ rfl (Nat.le_of_ble_eq_true rfl) d_BRi_haveLineInCommon_22 (fun r_2 T_1 hw hT => ?_)
            refine j_aload_n F 0 d_BRi_haveLineInCommon_25 rfl ?_
            refine j_iload_n F 2 d_BRi_haveLineInCommon_26 rfl ?_
            refine j_iconst F d_BRi_haveLineInCommon_27 ?_
            refine j_iadd F d_BRi_haveLineInCommon_28 ?_
            obtain ⟨hg1, hw⟩ := hw
            refine c_callVi F K hT (c_BPt_at l hw) (tw_gV tq_135 tq_136 tq_137 tq_126 tq_138) 2 rfl (by decide) hg1 q_BPt_at rfl ⟨by decide, by decide⟩ ⟨by omega, by omega⟩ rfl (Nat.le_of_ble_eq_true rfl) d_BRi_haveLineInCommon_29 (fun r_4 T_3 hw hT => ?_)
            refine j_aload_n F 1 d_BRi_haveLineInCommon_32 rfl ?_
            refine j_iload_n F 3 d_BRi_haveLineInCommon_33 rfl ?_
            obtain ⟨hg1, hw⟩ := hw
            refine c_callVi F K hT (c_BPt_at l hw) (tw_gV tq_135 tq_136 tq_137 tq_126 tq_138) 2 rfl (by decide) hg1 q_BPt_at rfl ⟨by decide, by decide⟩ ⟨by omega, by omega⟩ rfl (Nat.le_of_ble_eq_true rfl) d_BRi_haveLineInCommon_34 (fun r_6 T_5 hw hT => ?_)
            refine j_aload_n F 1 d_BRi_haveLineInCommon_37 rfl ?_
            refine j_iload_n F 3 d_BRi_haveLineInCommon_38 rfl ?_
            refine j_iconst F d_BRi_haveLineInCommon_39 ?_
            refine j_iadd F d_BRi_haveLineInCommon_40 ?_
            obtain ⟨hg1, hw⟩ := hw
            refine c_callVi F K hT (c_BPt_at l hw) (tw_gV tq_135 tq_136 tq_137 tq_126 tq_138) 2 rfl (by decide) hg1 q_BPt_at rfl ⟨by decide, by decide⟩ ⟨by omega, by omega⟩ rfl (Nat.le_of_ble_eq_true rfl) d_BRi_haveLineInCommon_41 (fun r_8 T_7 hw hT => ?_)
            refine j_callS F (c_BPl_meeting l hw) (tw_gS tq_139 tq_140 tq_88 tq_141) q_BPl_meeting rfl ⟨by decide, by decide⟩ ⟨by omega, by omega⟩ rfl (Nat.le_of_ble_eq_true rfl) d_BRi_haveLineInCommon_44 (fun r_9 hw => ?_)
            refine j_iconst F d_BRi_haveLineInCommon_47 ?_
            obtain ⟨hc1, hwt, hwf⟩ := hw
            refine j_icmp_ne F 53 hc1 ⟨by decide, by decide⟩ d_BRi_haveLineInCommon_48 rfl (fun hh => ?_) (fun hh => ?_)
            · have hw := hwt hh
              refine j_iinc F 3 [(3, vi (v3 + 1)), (0, .ref v0), (1, .ref v1), (2, vi v2)] d_BRi_haveLineInCommon_53 rfl (by decide) rfl ?_
              refine j_goto F 12 d_BRi_haveLineInCommon_56 rfl ?_
              refine j_sub [1, 2, 3, 0] rfl ?_
              exact ih12 _ _ _ _ _ hT hw
            · have hw := hwf hh
              refine j_iconst F d_BRi_haveLineInCommon_51 ?_
              exact hret _ _ _ _ _ _ hw hT (by omega) (by omega) (Or.inr rfl) d_BRi_haveLineInCommon_52
      intro v0 v1 v2 T hT hw
      unfold wp_BRi_haveLineInCommon_2 at hw
      refine j_iload_n F 2 d_BRi_haveLineInCommon_2 rfl ?_
      refine j_aload_n F 0 d_BRi_haveLineInCommon_3 rfl ?_
      obtain ⟨hc1, hw⟩ := hw
      refine c_geti F K hT 2 1 rfl tu_Points (by decide) (by decide) rfl tq_134 (Or.inl rfl) hc1 d_BRi_haveLineInCommon_4 ?_
      obtain ⟨hc1, hc2, hwt, hwf⟩ := hw
      refine j_icmp_ge F 65 hc1 hc2 d_BRi_haveLineInCommon_7 rfl (fun hh => ?_) (fun hh => ?_)
      · have hw := hwt hh
        refine j_iconst F d_BRi_haveLineInCommon_65 ?_
        exact hret _ _ _ _ _ _ hw hT (by omega) (by omega) (Or.inl rfl) d_BRi_haveLineInCommon_66
      · have hw := hwf hh
        refine j_iconst F d_BRi_haveLineInCommon_10 ?_
        refine j_istore_n F [(3, vi 0), (0, .ref v0), (1, .ref v1), (2, vi v2)] d_BRi_haveLineInCommon_11 (by decide) rfl ?_
        refine j_sub [1, 2, 3, 0] rfl ?_
        obtain ⟨nn, hw⟩ := hw
        exact B12 nn _ _ _ _ _ hT hw
  unfold wp_BRi_haveLineInCommon at hw
  show jat l D X 4 0 [(0, .ref v0), (1, .ref v1)] [] (cwd k T) 0 0
  refine j_iconst F d_BRi_haveLineInCommon_0 ?_
  refine j_istore_n F [(2, vi 0), (0, .ref v0), (1, .ref v1)] d_BRi_haveLineInCommon_1 (by decide) rfl ?_
  refine j_sub [1, 2, 0] rfl ?_
  obtain ⟨nn, hw⟩ := hw
  exact B2 nn _ _ _ _ hT hw
