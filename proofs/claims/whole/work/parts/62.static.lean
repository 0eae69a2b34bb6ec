abbrev y_Mo_most : MethodName := ⟨"LandBookModel", "most", "(II)I"⟩
theorem q_Mo_most : y_Mo_most.cls ≠ "java/lang/invoke/MethodHandle" ∧ y_Mo_most.cls ≠ "java/lang/invoke/VarHandle" ∧ (parseMethodDescriptor y_Mo_most.desc).map (fun d => d.parameters.length) = some 2 := by decide +kernel
theorem d_Mo_most_0 : decode prog_13_method_3_code 0 = .ok (.iload_n 0, 1) := by decide +kernel
theorem d_Mo_most_1 : decode prog_13_method_3_code 1 = .ok (.iload_n 1, 1) := by decide +kernel
theorem d_Mo_most_2 : decode prog_13_method_3_code 2 = .ok (.if_icmp .le 7, 3) := by decide +kernel
theorem d_Mo_most_9 : decode prog_13_method_3_code 9 = .ok (.iload_n 1, 1) := by decide +kernel
theorem d_Mo_most_10 : decode prog_13_method_3_code 10 = .ok (.ireturn, 1) := by decide +kernel
theorem d_Mo_most_5 : decode prog_13_method_3_code 5 = .ok (.iload_n 0, 1) := by decide +kernel
theorem d_Mo_most_6 : decode prog_13_method_3_code 6 = .ok (.goto 4, 3) := by decide +kernel
def wp_Mo_most (post : Int → Prop) (v0 : Int) (v1 : Int) : Prop := inR v0 ∧ inR v1 ∧ (v0 ≤ v1 → post v1) ∧ (¬ (v0 ≤ v1) → post v0)
set_option maxHeartbeats 4000000 in
set_option maxRecDepth 100000 in
theorem c_Mo_most (l : Launch) {post : Int → Prop} {v0 : Int} {v1 : Int} (hw : wp_Mo_most post v0 v1) : jSi l y_Mo_most prog_13_method_3_code 2 (some .int) 0 0 [vi v0, vi v1] post := by
  obtain ⟨D⟩ : Nonempty va_G := ⟨(fun _ => 0, fun _ _ => 0)⟩
  refine j_static (D := D) (own := "LandBookModel") (by decide) rfl (Nat.le_of_ble_eq_true rfl) (fun X F hret => ?_)
  unfold wp_Mo_most at hw
  show jat l D X 2 0 [(0, vi v0), (1, vi v1)] [] [] 0 0
  refine j_iload_n F 0 d_Mo_most_0 rfl ?_
  refine j_iload_n F 1 d_Mo_most_1 rfl ?_
  obtain ⟨hc1, hc2, hwt, hwf⟩ := hw
  refine j_icmp_le F 9 hc1 hc2 d_Mo_most_2 rfl (fun hh => ?_) (fun hh => ?_)
  · have hw := hwt hh
    refine j_iload_n F 1 d_Mo_most_9 rfl ?_
    exact hret _ _ _ hw d_Mo_most_10
  · have hw := hwf hh
    refine j_iload_n F 0 d_Mo_most_5 rfl ?_
    refine j_goto F 10 d_Mo_most_6 rfl ?_
    exact hret _ _ _ hw d_Mo_most_10
abbrev y_Mo_least : MethodName := ⟨"LandBookModel", "least", "(II)I"⟩
theorem q_Mo_least : y_Mo_least.cls ≠ "java/lang/invoke/MethodHandle" ∧ y_Mo_least.cls ≠ "java/lang/invoke/VarHandle" ∧ (parseMethodDescriptor y_Mo_least.desc).map (fun d => d.parameters.length) = some 2 := by decide +kernel
theorem d_Mo_least_0 : decode prog_13_method_4_code 0 = .ok (.iload_n 0, 1) := by decide +kernel
theorem d_Mo_least_1 : decode prog_13_method_4_code 1 = .ok (.iload_n 1, 1) := by decide +kernel
theorem d_Mo_least_2 : decode prog_13_method_4_code 2 = .ok (.if_icmp .ge 7, 3) := by decide +kernel
theorem d_Mo_least_9 : decode prog_13_method_4_code 9 = .ok (.iload_n 1, 1) := by decide +kernel
theorem d_Mo_least_10 : decode prog_13_method_4_code 10 = .ok (.ireturn, 1) := by decide +kernel
theorem d_Mo_least_5 : decode prog_13_method_4_code 5 = .ok (.iload_n 0, 1) := by decide +kernel
theorem d_Mo_least_6 : decode prog_13_method_4_code 6 = .ok (.goto 4, 3) := by decide +kernel
def wp_Mo_least (post : Int → Prop) (v0 : Int) (v1 : Int) : Prop := inR v0 ∧ inR v1 ∧ (v1 ≤ v0 → post v1) ∧ (¬ (v1 ≤ v0) → post v0)
set_option maxHeartbeats 4000000 in
set_option maxRecDepth 100000 in
theorem c_Mo_least (l : Launch) {post : Int → Prop} {v0 : Int} {v1 : Int} (hw : wp_Mo_least post v0 v1) : jSi l y_Mo_least prog_13_method_4_code 2 (some .int) 0 0 [vi v0, vi v1] post := by
  obtain ⟨D⟩ : Nonempty va_G := ⟨(fun _ => 0, fun _ _ => 0)⟩
  refine j_static (D := D) (own := "LandBookModel") (by decide) rfl (Nat.le_of_ble_eq_true rfl) (fun X F hret => ?_)
  unfold wp_Mo_least at hw
  show jat l D X 2 0 [(0, vi v0), (1, vi v1)] [] [] 0 0
  refine j_iload_n F 0 d_Mo_least_0 rfl ?_
  refine j_iload_n F 1 d_Mo_least_1 rfl ?_
  obtain ⟨hc1, hc2, hwt, hwf⟩ := hw
  refine j_icmp_ge F 9 hc1 hc2 d_Mo_least_2 rfl (fun hh => ?_) (fun hh => ?_)
  · have hw := hwt hh
    refine j_iload_n F 1 d_Mo_least_9 rfl ?_
    exact hret _ _ _ hw d_Mo_least_10
  · have hw := hwf hh
    refine j_iload_n F 0 d_Mo_least_5 rfl ?_
    refine j_goto F 10 d_Mo_least_6 rfl ?_
    exact hret _ _ _ hw d_Mo_least_10
abbrev y_Mo_isPoint : MethodName := ⟨"LandBookModel", "isPoint", "(II)Z"⟩
theorem q_Mo_isPoint : y_Mo_isPoint.cls ≠ "java/lang/invoke/MethodHandle" ∧ y_Mo_isPoint.cls ≠ "java/lang/invoke/VarHandle" ∧ (parseMethodDescriptor y_Mo_isPoint.desc).map (fun d => d.parameters.length) = some 2 := by decide +kernel
theorem d_Mo_isPoint_0 : decode prog_13_method_5_code 0 = .ok (.iload_n 0, 1) := by decide +kernel
theorem d_Mo_isPoint_1 : decode prog_13_method_5_code 1 = .ok (.ifCond .lt 25, 3) := by decide +kernel
theorem d_Mo_isPoint_26 : decode prog_13_method_5_code 26 = .ok (.iconst 0, 1) := by decide +kernel
theorem d_Mo_isPoint_27 : decode prog_13_method_5_code 27 = .ok (.ireturn, 1) := by decide +kernel
theorem d_Mo_isPoint_4 : decode prog_13_method_5_code 4 = .ok (.iload_n 0, 1) := by decide +kernel
theorem d_Mo_isPoint_5 : decode prog_13_method_5_code 5 = .ok (.sipush 20000, 3) := by decide +kernel
theorem d_Mo_isPoint_8 : decode prog_13_method_5_code 8 = .ok (.if_icmp .gt 18, 3) := by decide +kernel
theorem d_Mo_isPoint_11 : decode prog_13_method_5_code 11 = .ok (.iload_n 1, 1) := by decide +kernel
theorem d_Mo_isPoint_12 : decode prog_13_method_5_code 12 = .ok (.ifCond .lt 14, 3) := by decide +kernel
theorem d_Mo_isPoint_15 : decode prog_13_method_5_code 15 = .ok (.iload_n 1, 1) := by decide +kernel
theorem d_Mo_isPoint_16 : decode prog_13_method_5_code 16 = .ok (.sipush 20000, 3) := by decide +kernel
theorem d_Mo_isPoint_19 : decode prog_13_method_5_code 19 = .ok (.if_icmp .gt 7, 3) := by decide +kernel
theorem d_Mo_isPoint_22 : decode prog_13_method_5_code 22 = .ok (.iconst 1, 1) := by decide +kernel
theorem d_Mo_isPoint_23 : decode prog_13_method_5_code 23 = .ok (.goto 4, 3) := by decide +kernel
def wp_Mo_isPoint (post : Int → Prop) (v0 : Int) (v1 : Int) : Prop := inR v0 ∧ (v0 < 0 → post 0) ∧ (¬ (v0 < 0) → (inR v0 ∧ (20000 < v0 → post 0) ∧ (¬ (20000 < v0) → (inR v1 ∧ (v1 < 0 → post 0) ∧ (¬ (v1 < 0) → (inR v1 ∧ (20000 < v1 → post 0) ∧ (¬ (20000 < v1) → post 1)))))))
set_option maxHeartbeats 4000000 in
set_option maxRecDepth 100000 in
theorem c_Mo_isPoint (l : Launch) {post : Int → Prop} {v0 : Int} {v1 : Int} (hw : wp_Mo_isPoint post v0 v1) : jSi l y_Mo_isPoint prog_13_method_5_code 2 (some .boolean) 0 0 [vi v0, vi v1] post := by
  obtain ⟨D⟩ : Nonempty va_G := ⟨(fun _ => 0, fun _ _ => 0)⟩
  refine j_staticZ (D := D) (own := "LandBookModel") (by decide) rfl (Nat.le_of_ble_eq_true rfl) (fun X F hret => ?_)
  unfold wp_Mo_isPoint at hw
  show jat l D X 2 0 [(0, vi v0), (1, vi v1)] [] [] 0 0
  refine j_iload_n F 0 d_Mo_isPoint_0 rfl ?_
  obtain ⟨hc1, hwt, hwf⟩ := hw
  refine j_if_lt F 26 hc1 d_Mo_isPoint_1 rfl (fun hh => ?_) (fun hh => ?_)
  · have hw := hwt hh
    refine j_iconst F d_Mo_isPoint_26 ?_
    exact hret _ _ _ hw (Or.inl rfl) d_Mo_isPoint_27
  · have hw := hwf hh
    refine j_iload_n F 0 d_Mo_isPoint_4 rfl ?_
    refine j_sipush F d_Mo_isPoint_5 (j_sip (by decide) (by decide)) ?_
    obtain ⟨hc1, hwt, hwf⟩ := hw
    refine j_icmp_gt F 26 hc1 ⟨by decide, by decide⟩ d_Mo_isPoint_8 rfl (fun hh => ?_) (fun hh => ?_)
    · have hw := hwt hh
      refine j_iconst F d_Mo_isPoint_26 ?_
      exact hret _ _ _ hw (Or.inl rfl) d_Mo_isPoint_27
    · have hw := hwf hh
      refine j_iload_n F 1 d_Mo_isPoint_11 rfl ?_
      obtain ⟨hc1, hwt, hwf⟩ := hw
      refine j_if_lt F 26 hc1 d_Mo_isPoint_12 rfl (fun hh => ?_) (fun hh => ?_)
      · have hw := hwt hh
        refine j_iconst F d_Mo_isPoint_26 ?_
        exact hret _ _ _ hw (Or.inl rfl) d_Mo_isPoint_27
      · have hw := hwf hh
        refine j_iload_n F 1 d_Mo_isPoint_15 rfl ?_
        refine j_sipush F d_Mo_isPoint_16 (j_sip (by decide) (by decide)) ?_
        obtain ⟨hc1, hwt, hwf⟩ := hw
        refine j_icmp_gt F 26 hc1 ⟨by decide, by decide⟩ d_Mo_isPoint_19 rfl (fun hh => ?_) (fun hh => ?_)
        · have hw := hwt hh
          refine j_iconst F d_Mo_isPoint_26 ?_
          exact hret _ _ _ hw (Or.inl rfl) d_Mo_isPoint_27
        · have hw := hwf hh
          refine j_iconst F d_Mo_isPoint_22 ?_
          refine j_goto F 27 d_Mo_isPoint_23 rfl ?_
          exact hret _ _ _ hw (Or.inr rfl) d_Mo_isPoint_27
abbrev y_Mo_isDay : MethodName := ⟨"LandBookModel", "isDay", "(I)Z"⟩
theorem q_Mo_isDay : y_Mo_isDay.cls ≠ "java/lang/invoke/MethodHandle" ∧ y_Mo_isDay.cls ≠ "java/lang/invoke/VarHandle" ∧ (parseMethodDescriptor y_Mo_isDay.desc).map (fun d => d.parameters.length) = some 1 := by decide +kernel
theorem d_Mo_isDay_0 : decode prog_13_method_6_code 0 = .ok (.iload_n 0, 1) := by decide +kernel
theorem d_Mo_isDay_1 : decode prog_13_method_6_code 1 = .ok (.ifCond .lt 14, 3) := by decide +kernel
theorem d_Mo_isDay_15 : decode prog_13_method_6_code 15 = .ok (.iconst 0, 1) := by decide +kernel
theorem d_Mo_isDay_16 : decode prog_13_method_6_code 16 = .ok (.ireturn, 1) := by decide +kernel
theorem d_Mo_isDay_4 : decode prog_13_method_6_code 4 = .ok (.iload_n 0, 1) := by decide +kernel
theorem d_Mo_isDay_5 : decode prog_13_method_6_code 5 = .ok (.sipush 30000, 3) := by decide +kernel
theorem d_Mo_isDay_8 : decode prog_13_method_6_code 8 = .ok (.if_icmp .gt 7, 3) := by decide +kernel
theorem d_Mo_isDay_11 : decode prog_13_method_6_code 11 = .ok (.iconst 1, 1) := by decide +kernel
theorem d_Mo_isDay_12 : decode prog_13_method_6_code 12 = .ok (.goto 4, 3) := by decide +kernel
def wp_Mo_isDay (post : Int → Prop) (v0 : Int) : Prop := inR v0 ∧ (v0 < 0 → post 0) ∧ (¬ (v0 < 0) → (inR v0 ∧ (30000 < v0 → post 0) ∧ (¬ (30000 < v0) → post 1)))
set_option maxHeartbeats 4000000 in
set_option maxRecDepth 100000 in
theorem c_Mo_isDay (l : Launch) {post : Int → Prop} {v0 : Int} (hw : wp_Mo_isDay post v0) : jSi l y_Mo_isDay prog_13_method_6_code 1 (some .boolean) 0 0 [vi v0] post := by
  obtain ⟨D⟩ : Nonempty va_G := ⟨(fun _ => 0, fun _ _ => 0)⟩
  refine j_staticZ (D := D) (own := "LandBookModel") (by decide) rfl (Nat.le_of_ble_eq_true rfl) (fun X F hret => ?_)
  unfold wp_Mo_isDay at hw
  show jat l D X 1 0 [(0, vi v0)] [] [] 0 0
  refine j_iload_n F 0 d_Mo_isDay_0 rfl ?_
  obtain ⟨hc1, hwt, hwf⟩ := hw
  refine j_if_lt F 15 hc1 d_Mo_isDay_1 rfl (fun hh => ?_) (fun hh => ?_)
  · have hw := hwt hh
    refine j_iconst F d_Mo_isDay_15 ?_
    exact hret _ _ _ hw (Or.inl rfl) d_Mo_isDay_16
  · have hw := hwf hh
    refine j_iload_n F 0 d_Mo_isDay_4 rfl ?_
    refine j_sipush F d_Mo_isDay_5 (j_sip (by decide) (by decide)) ?_
    obtain ⟨hc1, hwt, hwf⟩ := hw
    refine j_icmp_gt F 15 hc1 ⟨by decide, by decide⟩ d_Mo_isDay_8 rfl (fun hh => ?_) (fun hh => ?_)
    · have hw := hwt hh
      refine j_iconst F d_Mo_isDay_15 ?_
      exact hret _ _ _ hw (Or.inl rfl) d_Mo_isDay_16
    · have hw := hwf hh
      refine j_iconst F d_Mo_isDay_11 ?_
      refine j_goto F 16 d_Mo_isDay_12 rfl ?_
      exact hret _ _ _ hw (Or.inr rfl) d_Mo_isDay_16
abbrev y_Mo_turn : MethodName := ⟨"LandBookModel", "turn", "(IIIIII)I"⟩
theorem q_Mo_turn : y_Mo_turn.cls ≠ "java/lang/invoke/MethodHandle" ∧ y_Mo_turn.cls ≠ "java/lang/invoke/VarHandle" ∧ (parseMethodDescriptor y_Mo_turn.desc).map (fun d => d.parameters.length) = some 6 := by decide +kernel
theorem d_Mo_turn_0 : decode prog_13_method_8_code 0 = .ok (.iload_n 2, 1) := by decide +kernel
theorem d_Mo_turn_1 : decode prog_13_method_8_code 1 = .ok (.iload_n 0, 1) := by decide +kernel
theorem d_Mo_turn_2 : decode prog_13_method_8_code 2 = .ok (.isub, 1) := by decide +kernel
theorem d_Mo_turn_3 : decode prog_13_method_8_code 3 = .ok (.iload 5, 2) := by decide +kernel
theorem d_Mo_turn_5 : decode prog_13_method_8_code 5 = .ok (.iload_n 1, 1) := by decide +kernel
theorem d_Mo_turn_6 : decode prog_13_method_8_code 6 = .ok (.isub, 1) := by decide +kernel
theorem d_Mo_turn_7 : decode prog_13_method_8_code 7 = .ok (.imul, 1) := by decide +kernel
theorem d_Mo_turn_8 : decode prog_13_method_8_code 8 = .ok (.iload_n 3, 1) := by decide +kernel
theorem d_Mo_turn_9 : decode prog_13_method_8_code 9 = .ok (.iload_n 1, 1) := by decide +kernel
theorem d_Mo_turn_10 : decode prog_13_method_8_code 10 = .ok (.isub, 1) := by decide +kernel
theorem d_Mo_turn_11 : decode prog_13_method_8_code 11 = .ok (.iload 4, 2) := by decide +kernel
theorem d_Mo_turn_13 : decode prog_13_method_8_code 13 = .ok (.iload_n 0, 1) := by decide +kernel
theorem d_Mo_turn_14 : decode prog_13_method_8_code 14 = .ok (.isub, 1) := by decide +kernel
theorem d_Mo_turn_15 : decode prog_13_method_8_code 15 = .ok (.imul, 1) := by decide +kernel
theorem d_Mo_turn_16 : decode prog_13_method_8_code 16 = .ok (.isub, 1) := by decide +kernel
theorem d_Mo_turn_17 : decode prog_13_method_8_code 17 = .ok (.ireturn, 1) := by decide +kernel
def wp_Mo_turn (post : Int → Prop) (v0 : Int) (v1 : Int) (v2 : Int) (v3 : Int) (v4 : Int) (v5 : Int) : Prop := post (((v2 - v0) * (v5 - v1)) - ((v3 - v1) * (v4 - v0)))
set_option maxHeartbeats 4000000 in
set_option maxRecDepth 100000 in
theorem c_Mo_turn (l : Launch) {post : Int → Prop} {v0 : Int} {v1 : Int} {v2 : Int} {v3 : Int} {v4 : Int} {v5 : Int} (hw : wp_Mo_turn post v0 v1 v2 v3 v4 v5) : jSi l y_Mo_turn prog_13_method_8_code 6 (some .int) 0 0 [vi v0, vi v1, vi v2, vi v3, vi v4, vi v5] post := by
  obtain ⟨D⟩ : Nonempty va_G := ⟨(fun _ => 0, fun _ _ => 0)⟩
  refine j_static (D := D) (own := "LandBookModel") (by decide) rfl (Nat.le_of_ble_eq_true rfl) (fun X F hret => ?_)
  unfold wp_Mo_turn at hw
  show jat l D X 6 0 [(0, vi v0), (1, vi v1), (2, vi v2), (3, vi v3), (4, vi v4), (5, vi v5)] [] [] 0 0
  refine j_iload_n F 2 d_Mo_turn_0 rfl ?_
  refine j_iload_n F 0 d_Mo_turn_1 rfl ?_
  refine j_isub F d_Mo_turn_2 ?_
  refine j_iload F 5 d_Mo_turn_3 rfl ?_
  refine j_iload_n F 1 d_Mo_turn_5 rfl ?_
  refine j_isub F d_Mo_turn_6 ?_
  refine j_imul F d_Mo_turn_7 ?_
  refine j_iload_n F 3 d_Mo_turn_8 rfl ?_
  refine j_iload_n F 1 d_Mo_turn_9 rfl ?_
  refine j_isub F d_Mo_turn_10 ?_
  refine j_iload F 4 d_Mo_turn_11 rfl ?_
  refine j_iload_n F 0 d_Mo_turn_13 rfl ?_
  refine j_isub F d_Mo_turn_14 ?_
  refine j_imul F d_Mo_turn_15 ?_
  refine j_isub F d_Mo_turn_16 ?_
  exact hret _ _ _ hw d_Mo_turn_17
abbrev y_Mo_isBetween : MethodName := ⟨"LandBookModel", "isBetween", "(III)Z"⟩
theorem q_Mo_isBetween : y_Mo_isBetween.cls ≠ "java/lang/invoke/MethodHandle" ∧ y_Mo_isBetween.cls ≠ "java/lang/invoke/VarHandle" ∧ (parseMethodDescriptor y_Mo_isBetween.desc).map (fun d => d.parameters.length) = some 3 := by decide +kernel
theorem d_Mo_isBetween_0 : decode prog_13_method_9_code 0 = .ok (.iload_n 0, 1) := by decide +kernel
theorem d_Mo_isBetween_1 : decode prog_13_method_9_code 1 = .ok (.iload_n 1, 1) := by decide +kernel
theorem d_Mo_isBetween_2 : decode prog_13_method_9_code 2 = .ok (.if_icmp .gt 21, 3) := by decide +kernel
theorem d_Mo_isBetween_23 : decode prog_13_method_9_code 23 = .ok (.iload_n 1, 1) := by decide +kernel
theorem d_Mo_isBetween_24 : decode prog_13_method_9_code 24 = .ok (.iload_n 2, 1) := by decide +kernel
theorem d_Mo_isBetween_25 : decode prog_13_method_9_code 25 = .ok (.if_icmp .gt 12, 3) := by decide +kernel
theorem d_Mo_isBetween_37 : decode prog_13_method_9_code 37 = .ok (.iconst 0, 1) := by decide +kernel
theorem d_Mo_isBetween_38 : decode prog_13_method_9_code 38 = .ok (.ireturn, 1) := by decide +kernel
theorem d_Mo_isBetween_28 : decode prog_13_method_9_code 28 = .ok (.iload_n 2, 1) := by decide +kernel
theorem d_Mo_isBetween_29 : decode prog_13_method_9_code 29 = .ok (.iload_n 0, 1) := by decide +kernel
theorem d_Mo_isBetween_30 : decode prog_13_method_9_code 30 = .ok (.if_icmp .gt 7, 3) := by decide +kernel
theorem d_Mo_isBetween_33 : decode prog_13_method_9_code 33 = .ok (.iconst 1, 1) := by decide +kernel
theorem d_Mo_isBetween_34 : decode prog_13_method_9_code 34 = .ok (.goto 4, 3) := by decide +kernel
theorem d_Mo_isBetween_5 : decode prog_13_method_9_code 5 = .ok (.iload_n 0, 1) := by decide +kernel
theorem d_Mo_isBetween_6 : decode prog_13_method_9_code 6 = .ok (.iload_n 2, 1) := by decide +kernel
theorem d_Mo_isBetween_7 : decode prog_13_method_9_code 7 = .ok (.if_icmp .gt 12, 3) := by decide +kernel
theorem d_Mo_isBetween_19 : decode prog_13_method_9_code 19 = .ok (.iconst 0, 1) := by decide +kernel
theorem d_Mo_isBetween_20 : decode prog_13_method_9_code 20 = .ok (.goto 18, 3) := by decide +kernel
theorem d_Mo_isBetween_10 : decode prog_13_method_9_code 10 = .ok (.iload_n 2, 1) := by decide +kernel
theorem d_Mo_isBetween_11 : decode prog_13_method_9_code 11 = .ok (.iload_n 1, 1) := by decide +kernel
theorem d_Mo_isBetween_12 : decode prog_13_method_9_code 12 = .ok (.if_icmp .gt 7, 3) := by decide +kernel
theorem d_Mo_isBetween_15 : decode prog_13_method_9_code 15 = .ok (.iconst 1, 1) := by decide +kernel
theorem d_Mo_isBetween_16 : decode prog_13_method_9_code 16 = .ok (.goto 22, 3) := by decide +kernel
def wp_Mo_isBetween (post : Int → Prop) (v0 : Int) (v1 : Int) (v2 : Int) : Prop := inR v0 ∧ inR v1 ∧ (v1 < v0 → (inR v1 ∧ inR v2 ∧ (v2 < v1 → post 0) ∧ (¬ (v2 < v1) → (inR v2 ∧ inR v0 ∧ (v0 < v2 → post 0) ∧ (¬ (v0 < v2) → post 1))))) ∧ (¬ (v1 < v0) → (inR v0 ∧ inR v2 ∧ (v2 < v0 → post 0) ∧ (¬ (v2 < v0) → (inR v2 ∧ inR v1 ∧ (v1 < v2 → post 0) ∧ (¬ (v1 < v2) → post 1)))))
set_option maxHeartbeats 4000000 in
set_option maxRecDepth 100000 in
theorem c_Mo_isBetween (l : Launch) {post : Int → Prop} {v0 : Int} {v1 : Int} {v2 : Int} (hw : wp_Mo_isBetween post v0 v1 v2) : jSi l y_Mo_isBetween prog_13_method_9_code 3 (some .boolean) 0 0 [vi v0, vi v1, vi v2] post := by
  obtain ⟨D⟩ : Nonempty va_G := ⟨(fun _ => 0, fun _ _ => 0)⟩
  refine j_staticZ (D := D) (own := "LandBookModel") (by decide) rfl (Nat.le_of_ble_eq_true rfl) (fun X F hret => ?_)
  unfold wp_Mo_isBetween at hw
  show jat l D X 3 0 [(0, vi v0), (1, vi v1), (2, vi v2)] [] [] 0 0
  refine j_iload_n F 0 d_Mo_isBetween_0 rfl ?_
  refine j_iload_n F 1 d_Mo_isBetween_1 rfl ?_
  obtain ⟨hc1, hc2, hwt, hwf⟩ := hw
  refine j_icmp_gt F 23 hc1 hc2 d_Mo_isBetween_2 rfl (fun hh => ?_) (fun hh => ?_)
  · have hw := hwt hh
    refine j_iload_n F 1 d_Mo_isBetween_23 rfl ?_
    refine j_iload_n F 2 d_Mo_isBetween_24 rfl ?_
    obtain ⟨hc1, hc2, hwt, hwf⟩ := hw
    refine j_icmp_gt F 37 hc1 hc2 d_Mo_isBetween_25 rfl (fun hh => ?_) (fun hh => ?_)
    · have hw := hwt hh
      refine j_iconst F d_Mo_isBetween_37 ?_
      exact hret _ _ _ hw (Or.inl rfl) d_Mo_isBetween_38
    · have hw := hwf hh
      refine j_iload_n F 2 d_Mo_isBetween_28 rfl ?_
      refine j_iload_n F 0 d_Mo_isBetween_29 rfl ?_
      obtain ⟨hc1, hc2, hwt, hwf⟩ := hw
      refine j_icmp_gt F 37 hc1 hc2 d_Mo_isBetween_30 rfl (fun hh => ?_) (fun hh => ?_)
      · have hw := hwt hh
        refine j_iconst F d_Mo_isBetween_37 ?_
        exact hret _ _ _ hw (Or.inl rfl) d_Mo_isBetween_38
      · have hw := hwf hh
        refine j_iconst F d_Mo_isBetween_33 ?_
        refine j_goto F 38 d_Mo_isBetween_34 rfl ?_
        exact hret _ _ _ hw (Or.inr rfl) d_Mo_isBetween_38
  · have hw := hwf hh
    refine j_iload_n F 0 d_Mo_isBetween_5 rfl ?_
    refine j_iload_n F 2 d_Mo_isBetween_6 rfl ?_
    obtain ⟨hc1, hc2, hwt, hwf⟩ := hw
    refine j_icmp_gt F 19 hc1 hc2 d_Mo_isBetween_7 rfl (fun hh => ?_) (fun hh => ?_)
    · have hw := hwt hh
      refine j_iconst F d_Mo_isBetween_19 ?_
      refine j_goto F 38 d_Mo_isBetween_20 rfl ?_
      exact hret _ _ _ hw (Or.inl rfl) d_Mo_isBetween_38
    · have hw := hwf hh
      refine j_iload_n F 2 d_Mo_isBetween_10 rfl ?_
      refine j_iload_n F 1 d_Mo_isBetween_11 rfl ?_
      obtain ⟨hc1, hc2, hwt, hwf⟩ := hw
      refine j_icmp_gt F 19 hc1 hc2 d_Mo_isBetween_12 rfl (fun hh => ?_) (fun hh => ?_)
      · have hw := hwt hh
        refine j_iconst F d_Mo_isBetween_19 ?_
        refine j_goto F 38 d_Mo_isBetween_20 rfl ?_
        exact hret _ _ _ hw (Or.inl rfl) d_Mo_isBetween_38
      · have hw := hwf hh
        refine j_iconst F d_Mo_isBetween_15 ?_
        refine j_goto F 38 d_Mo_isBetween_16 rfl ?_
        exact hret _ _ _ hw (Or.inr rfl) d_Mo_isBetween_38
theorem tj_85 : (Jvm.Cond.methodLink "LandBookModel" (109 : Nat) ({ cls := "LandBookModel", name := "turn", desc := "(IIIIII)I" } : Jvm.MethodName)) ∈ tw_G := tw_in (List.mem_of_getElem? (i := 1195) (by decide +kernel)) rfl
theorem tj_86 : (Jvm.Cond.static ({ cls := "LandBookModel", name := "turn", desc := "(IIIIII)I" } : Jvm.MethodName)) ∈ tw_G := tw_in (List.mem_of_getElem? (i := 1196) (by decide +kernel)) rfl
theorem tj_87 : (Jvm.Cond.initialized "LandBookModel") ∈ tw_G := tw_in (List.mem_of_getElem? (i := 69) (by decide +kernel)) rfl
theorem tj_88 : (Jvm.Cond.code ({ cls := "LandBookModel", name := "turn", desc := "(IIIIII)I" } : Jvm.MethodName) prog_13_method_8_code (6 : Nat) (Option.some Jvm.ClassFile.FieldType.int)) ∈ tw_G := tw_in (List.mem_of_getElem? (i := 1197) (by decide +kernel)) rfl
theorem tj_89 : (Jvm.Cond.methodLink "LandBookModel" (113 : Nat) ({ cls := "LandBookModel", name := "isBetween", desc := "(III)Z" } : Jvm.MethodName)) ∈ tw_G := tw_in (List.mem_of_getElem? (i := 1207) (by decide +kernel)) rfl
theorem tj_90 : (Jvm.Cond.static ({ cls := "LandBookModel", name := "isBetween", desc := "(III)Z" } : Jvm.MethodName)) ∈ tw_G := tw_in (List.mem_of_getElem? (i := 1208) (by decide +kernel)) rfl
theorem tj_91 : (Jvm.Cond.code ({ cls := "LandBookModel", name := "isBetween", desc := "(III)Z" } : Jvm.MethodName) prog_13_method_9_code (3 : Nat) (Option.some Jvm.ClassFile.FieldType.boolean)) ∈ tw_G := tw_in (List.mem_of_getElem? (i := 1209) (by decide +kernel)) rfl
abbrev y_Mo_isOn : MethodName := ⟨"LandBookModel", "isOn", "(IIIIII)Z"⟩
theorem q_Mo_isOn : y_Mo_isOn.cls ≠ "java/lang/invoke/MethodHandle" ∧ y_Mo_isOn.cls ≠ "java/lang/invoke/VarHandle" ∧ (parseMethodDescriptor y_Mo_isOn.desc).map (fun d => d.parameters.length) = some 6 := by decide +kernel
theorem d_Mo_isOn_0 : decode prog_13_method_10_code 0 = .ok (.iload_n 0, 1) := by decide +kernel
theorem d_Mo_isOn_1 : decode prog_13_method_10_code 1 = .ok (.iload_n 1, 1) := by decide +kernel
theorem d_Mo_isOn_2 : decode prog_13_method_10_code 2 = .ok (.iload_n 2, 1) := by decide +kernel
theorem d_Mo_isOn_3 : decode prog_13_method_10_code 3 = .ok (.iload_n 3, 1) := by decide +kernel
theorem d_Mo_isOn_4 : decode prog_13_method_10_code 4 = .ok (.iload 4, 2) := by decide +kernel
theorem d_Mo_isOn_6 : decode prog_13_method_10_code 6 = .ok (.iload 5, 2) := by decide +kernel
theorem d_Mo_isOn_8 : decode prog_13_method_10_code 8 = .ok (.invokestatic 109, 3) := by decide +kernel
theorem d_Mo_isOn_11 : decode prog_13_method_10_code 11 = .ok (.ifCond .ne 27, 3) := by decide +kernel
theorem d_Mo_isOn_38 : decode prog_13_method_10_code 38 = .ok (.iconst 0, 1) := by decide +kernel
theorem d_Mo_isOn_39 : decode prog_13_method_10_code 39 = .ok (.ireturn, 1) := by decide +kernel
theorem d_Mo_isOn_14 : decode prog_13_method_10_code 14 = .ok (.iload_n 0, 1) := by decide +kernel
theorem d_Mo_isOn_15 : decode prog_13_method_10_code 15 = .ok (.iload_n 2, 1) := by decide +kernel
theorem d_Mo_isOn_16 : decode prog_13_method_10_code 16 = .ok (.iload 4, 2) := by decide +kernel
theorem d_Mo_isOn_18 : decode prog_13_method_10_code 18 = .ok (.invokestatic 113, 3) := by decide +kernel
theorem d_Mo_isOn_21 : decode prog_13_method_10_code 21 = .ok (.ifCond .eq 17, 3) := by decide +kernel
theorem d_Mo_isOn_24 : decode prog_13_method_10_code 24 = .ok (.iload_n 1, 1) := by decide +kernel
theorem d_Mo_isOn_25 : decode prog_13_method_10_code 25 = .ok (.iload_n 3, 1) := by decide +kernel
theorem d_Mo_isOn_26 : decode prog_13_method_10_code 26 = .ok (.iload 5, 2) := by decide +kernel
theorem d_Mo_isOn_28 : decode prog_13_method_10_code 28 = .ok (.invokestatic 113, 3) := by decide +kernel
theorem d_Mo_isOn_31 : decode prog_13_method_10_code 31 = .ok (.ifCond .eq 7, 3) := by decide +kernel
theorem d_Mo_isOn_34 : decode prog_13_method_10_code 34 = .ok (.iconst 1, 1) := by decide +kernel
theorem d_Mo_isOn_35 : decode prog_13_method_10_code 35 = .ok (.goto 4, 3) := by decide +kernel
def wp_Mo_isOn (post : Int → Prop) (v0 : Int) (v1 : Int) (v2 : Int) (v3 : Int) (v4 : Int) (v5 : Int) : Prop := wp_Mo_turn (fun r_1 => inR r_1 ∧ (¬ (r_1 = 0) → post 0) ∧ (r_1 = 0 → (wp_Mo_isBetween (fun r_2 => inR r_2 ∧ (r_2 = 0 → post 0) ∧ (¬ (r_2 = 0) → (wp_Mo_isBetween (fun r_3 => inR r_3 ∧ (r_3 = 0 → post 0) ∧ (¬ (r_3 = 0) → post 1)) v1 v3 v5))) v0 v2 v4))) v0 v1 v2 v3 v4 v5
set_option maxHeartbeats 4000000 in
set_option maxRecDepth 100000 in
theorem c_Mo_isOn (l : Launch) {post : Int → Prop} {v0 : Int} {v1 : Int} {v2 : Int} {v3 : Int} {v4 : Int} {v5 : Int} (hw : wp_Mo_isOn post v0 v1 v2 v3 v4 v5) : jSi l y_Mo_isOn prog_13_method_10_code 6 (some .boolean) 1 25 [vi v0, vi v1, vi v2, vi v3, vi v4, vi v5] post := by
  obtain ⟨D⟩ : Nonempty va_G := ⟨(fun _ => 0, fun _ _ => 0)⟩
  refine j_staticZ (D := D) (own := "LandBookModel") (by decide) rfl (Nat.le_of_ble_eq_true rfl) (fun X F hret => ?_)
  unfold wp_Mo_isOn at hw
  show jat l D X 6 0 [(0, vi v0), (1, vi v1), (2, vi v2), (3, vi v3), (4, vi v4), (5, vi v5)] [] [] 0 0
  refine j_iload_n F 0 d_Mo_isOn_0 rfl ?_
  refine j_iload_n F 1 d_Mo_isOn_1 rfl ?_
  refine j_iload_n F 2 d_Mo_isOn_2 rfl ?_
  refine j_iload_n F 3 d_Mo_isOn_3 rfl ?_
  refine j_iload F 4 d_Mo_isOn_4 rfl ?_
  refine j_iload F 5 d_Mo_isOn_6 rfl ?_
  refine j_callS F (c_Mo_turn l hw) (tw_gS tj_85 tj_86 tj_87 tj_88) q_Mo_turn rfl ⟨by decide, by decide⟩ ⟨Nat.zero_le _, Nat.zero_le _⟩ rfl (Nat.le_of_ble_eq_true rfl) d_Mo_isOn_8 (fun r_1 hw => ?_)
  obtain ⟨hc1, hwt, hwf⟩ := hw
  refine j_if_ne F 38 hc1 d_Mo_isOn_11 rfl (fun hh => ?_) (fun hh => ?_)
  · have hw := hwt hh
    refine j_iconst F d_Mo_isOn_38 ?_
    exact hret _ _ _ hw (Or.inl rfl) d_Mo_isOn_39
  · have hw := hwf hh
    refine j_iload_n F 0 d_Mo_isOn_14 rfl ?_
    refine j_iload_n F 2 d_Mo_isOn_15 rfl ?_
    refine j_iload F 4 d_Mo_isOn_16 rfl ?_
    refine j_callS F (c_Mo_isBetween l hw) (tw_gS tj_89 tj_90 tj_87 tj_91) q_Mo_isBetween rfl ⟨by decide, by decide⟩ ⟨Nat.zero_le _, Nat.zero_le _⟩ rfl (Nat.le_of_ble_eq_true rfl) d_Mo_isOn_18 (fun r_2 hw => ?_)
    obtain ⟨hc1, hwt, hwf⟩ := hw
    refine j_if_eq F 38 hc1 d_Mo_isOn_21 rfl (fun hh => ?_) (fun hh => ?_)
    · have hw := hwt hh
      refine j_iconst F d_Mo_isOn_38 ?_
      exact hret _ _ _ hw (Or.inl rfl) d_Mo_isOn_39
    · have hw := hwf hh
      refine j_iload_n F 1 d_Mo_isOn_24 rfl ?_
      refine j_iload_n F 3 d_Mo_isOn_25 rfl ?_
      refine j_iload F 5 d_Mo_isOn_26 rfl ?_
      refine j_callS F (c_Mo_isBetween l hw) (tw_gS tj_89 tj_90 tj_87 tj_91) q_Mo_isBetween rfl ⟨by decide, by decide⟩ ⟨Nat.zero_le _, Nat.zero_le _⟩ rfl (Nat.le_of_ble_eq_true rfl) d_Mo_isOn_28 (fun r_3 hw => ?_)
      obtain ⟨hc1, hwt, hwf⟩ := hw
      refine j_if_eq F 38 hc1 d_Mo_isOn_31 rfl (fun hh => ?_) (fun hh => ?_)
      · have hw := hwt hh
        refine j_iconst F d_Mo_isOn_38 ?_
        exact hret _ _ _ hw (Or.inl rfl) d_Mo_isOn_39
      · have hw := hwf hh
        refine j_iconst F d_Mo_isOn_34 ?_
        refine j_goto F 39 d_Mo_isOn_35 rfl ?_
        exact hret _ _ _ hw (Or.inr rfl) d_Mo_isOn_39
abbrev y_Mo_sign : MethodName := ⟨"LandBookModel", "sign", "(I)I"⟩
theorem q_Mo_sign : y_Mo_sign.cls ≠ "java/lang/invoke/MethodHandle" ∧ y_Mo_sign.cls ≠ "java/lang/invoke/VarHandle" ∧ (parseMethodDescriptor y_Mo_sign.desc).map (fun d => d.parameters.length) = some 1 := by decide +kernel
theorem d_Mo_sign_0 : decode prog_13_method_11_code 0 = .ok (.iload_n 0, 1) := by decide +kernel
theorem d_Mo_sign_1 : decode prog_13_method_11_code 1 = .ok (.ifCond .le 7, 3) := by decide +kernel
theorem d_Mo_sign_8 : decode prog_13_method_11_code 8 = .ok (.iload_n 0, 1) := by decide +kernel
theorem d_Mo_sign_9 : decode prog_13_method_11_code 9 = .ok (.ifCond .ge 7, 3) := by decide +kernel
theorem d_Mo_sign_16 : decode prog_13_method_11_code 16 = .ok (.iconst 0, 1) := by decide +kernel
theorem d_Mo_sign_17 : decode prog_13_method_11_code 17 = .ok (.ireturn, 1) := by decide +kernel
theorem d_Mo_sign_12 : decode prog_13_method_11_code 12 = .ok (.iconst (-1), 1) := by decide +kernel
theorem d_Mo_sign_13 : decode prog_13_method_11_code 13 = .ok (.goto 4, 3) := by decide +kernel
theorem d_Mo_sign_4 : decode prog_13_method_11_code 4 = .ok (.iconst 1, 1) := by decide +kernel
theorem d_Mo_sign_5 : decode prog_13_method_11_code 5 = .ok (.goto 12, 3) := by decide +kernel
def wp_Mo_sign (post : Int → Prop) (v0 : Int) : Prop := inR v0 ∧ (v0 ≤ 0 → (inR v0 ∧ (0 ≤ v0 → post 0) ∧ (¬ (0 ≤ v0) → (post (-1))))) ∧ (¬ (v0 ≤ 0) → post 1)
set_option maxHeartbeats 4000000 in
set_option maxRecDepth 100000 in
theorem c_Mo_sign (l : Launch) {post : Int → Prop} {v0 : Int} (hw : wp_Mo_sign post v0) : jSi l y_Mo_sign prog_13_method_11_code 1 (some .int) 0 0 [vi v0] post := by
  obtain ⟨D⟩ : Nonempty va_G := ⟨(fun _ => 0, fun _ _ => 0)⟩
  refine j_static (D := D) (own := "LandBookModel") (by decide) rfl (Nat.le_of_ble_eq_true rfl) (fun X F hret => ?_)
  unfold wp_Mo_sign at hw
  show jat l D X 1 0 [(0, vi v0)] [] [] 0 0
  refine j_iload_n F 0 d_Mo_sign_0 rfl ?_
  obtain ⟨hc1, hwt, hwf⟩ := hw
  refine j_if_le F 8 hc1 d_Mo_sign_1 rfl (fun hh => ?_) (fun hh => ?_)
  · have hw := hwt hh
    refine j_iload_n F 0 d_Mo_sign_8 rfl ?_
    obtain ⟨hc1, hwt, hwf⟩ := hw
    refine j_if_ge F 16 hc1 d_Mo_sign_9 rfl (fun hh => ?_) (fun hh => ?_)
    · have hw := hwt hh
      refine j_iconst F d_Mo_sign_16 ?_
      exact hret _ _ _ hw d_Mo_sign_17
    · have hw := hwf hh
      refine j_iconst F d_Mo_sign_12 ?_
      refine j_goto F 17 d_Mo_sign_13 rfl ?_
      exact hret _ _ _ hw d_Mo_sign_17
  · have hw := hwf hh
    refine j_iconst F d_Mo_sign_4 ?_
    refine j_goto F 17 d_Mo_sign_5 rfl ?_
    exact hret _ _ _ hw d_Mo_sign_17
theorem tj_92 : (Jvm.Cond.methodLink "LandBookModel" (117 : Nat) ({ cls := "LandBookModel", name := "sign", desc := "(I)I" } : Jvm.MethodName)) ∈ tw_G := tw_in (List.mem_of_getElem? (i := 1201) (by decide +kernel)) rfl
theorem tj_93 : (Jvm.Cond.static ({ cls := "LandBookModel", name := "sign", desc := "(I)I" } : Jvm.MethodName)) ∈ tw_G := tw_in (List.mem_of_getElem? (i := 1202) (by decide +kernel)) rfl
theorem tj_94 : (Jvm.Cond.code ({ cls := "LandBookModel", name := "sign", desc := "(I)I" } : Jvm.MethodName) prog_13_method_11_code (1 : Nat) (Option.some Jvm.ClassFile.FieldType.int)) ∈ tw_G := tw_in (List.mem_of_getElem? (i := 1203) (by decide +kernel)) rfl
theorem tj_95 : (Jvm.Cond.methodLink "LandBookModel" (121 : Nat) ({ cls := "LandBookModel", name := "isOn", desc := "(IIIIII)Z" } : Jvm.MethodName)) ∈ tw_G := tw_in (List.mem_of_getElem? (i := 1204) (by decide +kernel)) rfl
theorem tj_96 : (Jvm.Cond.static ({ cls := "LandBookModel", name := "isOn", desc := "(IIIIII)Z" } : Jvm.MethodName)) ∈ tw_G := tw_in (List.mem_of_getElem? (i := 1205) (by decide +kernel)) rfl
theorem tj_97 : (Jvm.Cond.code ({ cls := "LandBookModel", name := "isOn", desc := "(IIIIII)Z" } : Jvm.MethodName) prog_13_method_10_code (6 : Nat) (Option.some Jvm.ClassFile.FieldType.boolean)) ∈ tw_G := tw_in (List.mem_of_getElem? (i := 1206) (by decide +kernel)) rfl
abbrev y_Mo_meet : MethodName := ⟨"LandBookModel", "meet", "(IIIIIIII)Z"⟩
theorem q_Mo_meet : y_Mo_meet.cls ≠ "java/lang/invoke/MethodHandle" ∧ y_Mo_meet.cls ≠ "java/lang/invoke/VarHandle" ∧ (parseMethodDescriptor y_Mo_meet.desc).map (fun d => d.parameters.length) = some 8 := by decide +kernel
theorem d_Mo_meet_0 : decode prog_13_method_12_code 0 = .ok (.iload_n 0, 1) := by decide +kernel
theorem d_Mo_meet_1 : decode prog_13_method_12_code 1 = .ok (.iload_n 1, 1) := by decide +kernel
theorem d_Mo_meet_2 : decode prog_13_method_12_code 2 = .ok (.iload_n 2, 1) := by decide +kernel
theorem d_Mo_meet_3 : decode prog_13_method_12_code 3 = .ok (.iload_n 3, 1) := by decide +kernel
theorem d_Mo_meet_4 : decode prog_13_method_12_code 4 = .ok (.iload 4, 2) := by decide +kernel
theorem d_Mo_meet_6 : decode prog_13_method_12_code 6 = .ok (.iload 5, 2) := by decide +kernel
theorem d_Mo_meet_8 : decode prog_13_method_12_code 8 = .ok (.invokestatic 109, 3) := by decide +kernel
theorem d_Mo_meet_11 : decode prog_13_method_12_code 11 = .ok (.invokestatic 117, 3) := by decide +kernel
theorem d_Mo_meet_14 : decode prog_13_method_12_code 14 = .ok (.istore 8, 2) := by decide +kernel
theorem d_Mo_meet_16 : decode prog_13_method_12_code 16 = .ok (.iload_n 0, 1) := by decide +kernel
theorem d_Mo_meet_17 : decode prog_13_method_12_code 17 = .ok (.iload_n 1, 1) := by decide +kernel
theorem d_Mo_meet_18 : decode prog_13_method_12_code 18 = .ok (.iload_n 2, 1) := by decide +kernel
theorem d_Mo_meet_19 : decode prog_13_method_12_code 19 = .ok (.iload_n 3, 1) := by decide +kernel
theorem d_Mo_meet_20 : decode prog_13_method_12_code 20 = .ok (.iload 6, 2) := by decide +kernel
theorem d_Mo_meet_22 : decode prog_13_method_12_code 22 = .ok (.iload 7, 2) := by decide +kernel
theorem d_Mo_meet_24 : decode prog_13_method_12_code 24 = .ok (.invokestatic 109, 3) := by decide +kernel
theorem d_Mo_meet_27 : decode prog_13_method_12_code 27 = .ok (.invokestatic 117, 3) := by decide +kernel
theorem d_Mo_meet_30 : decode prog_13_method_12_code 30 = .ok (.istore 9, 2) := by decide +kernel
theorem d_Mo_meet_32 : decode prog_13_method_12_code 32 = .ok (.iload 4, 2) := by decide +kernel
theorem d_Mo_meet_34 : decode prog_13_method_12_code 34 = .ok (.iload 5, 2) := by decide +kernel
theorem d_Mo_meet_36 : decode prog_13_method_12_code 36 = .ok (.iload 6, 2) := by decide +kernel
theorem d_Mo_meet_38 : decode prog_13_method_12_code 38 = .ok (.iload 7, 2) := by decide +kernel
theorem d_Mo_meet_40 : decode prog_13_method_12_code 40 = .ok (.iload_n 0, 1) := by decide +kernel
theorem d_Mo_meet_41 : decode prog_13_method_12_code 41 = .ok (.iload_n 1, 1) := by decide +kernel
theorem d_Mo_meet_42 : decode prog_13_method_12_code 42 = .ok (.invokestatic 109, 3) := by decide +kernel
theorem d_Mo_meet_45 : decode prog_13_method_12_code 45 = .ok (.invokestatic 117, 3) := by decide +kernel
theorem d_Mo_meet_48 : decode prog_13_method_12_code 48 = .ok (.istore 10, 2) := by decide +kernel
theorem d_Mo_meet_50 : decode prog_13_method_12_code 50 = .ok (.iload 4, 2) := by decide +kernel
theorem d_Mo_meet_52 : decode prog_13_method_12_code 52 = .ok (.iload 5, 2) := by decide +kernel
theorem d_Mo_meet_54 : decode prog_13_method_12_code 54 = .ok (.iload 6, 2) := by decide +kernel
theorem d_Mo_meet_56 : decode prog_13_method_12_code 56 = .ok (.iload 7, 2) := by decide +kernel
theorem d_Mo_meet_58 : decode prog_13_method_12_code 58 = .ok (.iload_n 2, 1) := by decide +kernel
theorem d_Mo_meet_59 : decode prog_13_method_12_code 59 = .ok (.iload_n 3, 1) := by decide +kernel
theorem d_Mo_meet_60 : decode prog_13_method_12_code 60 = .ok (.invokestatic 109, 3) := by decide +kernel
theorem d_Mo_meet_63 : decode prog_13_method_12_code 63 = .ok (.invokestatic 117, 3) := by decide +kernel
theorem d_Mo_meet_66 : decode prog_13_method_12_code 66 = .ok (.istore 11, 2) := by decide +kernel
theorem d_Mo_meet_68 : decode prog_13_method_12_code 68 = .ok (.iload 8, 2) := by decide +kernel
theorem d_Mo_meet_70 : decode prog_13_method_12_code 70 = .ok (.iload 9, 2) := by decide +kernel
theorem d_Mo_meet_72 : decode prog_13_method_12_code 72 = .ok (.imul, 1) := by decide +kernel
theorem d_Mo_meet_73 : decode prog_13_method_12_code 73 = .ok (.ifCond .ge 15, 3) := by decide +kernel
theorem d_Mo_meet_88 : decode prog_13_method_12_code 88 = .ok (.iconst 0, 1) := by decide +kernel
theorem d_Mo_meet_76 : decode prog_13_method_12_code 76 = .ok (.iload 10, 2) := by decide +kernel
theorem d_Mo_meet_78 : decode prog_13_method_12_code 78 = .ok (.iload 11, 2) := by decide +kernel
theorem d_Mo_meet_80 : decode prog_13_method_12_code 80 = .ok (.imul, 1) := by decide +kernel
theorem d_Mo_meet_81 : decode prog_13_method_12_code 81 = .ok (.ifCond .ge 7, 3) := by decide +kernel
theorem d_Mo_meet_84 : decode prog_13_method_12_code 84 = .ok (.iconst 1, 1) := by decide +kernel
theorem d_Mo_meet_85 : decode prog_13_method_12_code 85 = .ok (.goto 4, 3) := by decide +kernel
theorem d_Mo_meet_89 : decode prog_13_method_12_code 89 = .ok (.istore 12, 2) := by decide +kernel
theorem d_Mo_meet_91 : decode prog_13_method_12_code 91 = .ok (.iload 12, 2) := by decide +kernel
theorem d_Mo_meet_93 : decode prog_13_method_12_code 93 = .ok (.ifCond .ne 63, 3) := by decide +kernel
theorem d_Mo_meet_156 : decode prog_13_method_12_code 156 = .ok (.iconst 1, 1) := by decide +kernel
theorem d_Mo_meet_157 : decode prog_13_method_12_code 157 = .ok (.goto 4, 3) := by decide +kernel
theorem d_Mo_meet_161 : decode prog_13_method_12_code 161 = .ok (.ireturn, 1) := by decide +kernel
theorem d_Mo_meet_96 : decode prog_13_method_12_code 96 = .ok (.iload_n 0, 1) := by decide +kernel
theorem d_Mo_meet_97 : decode prog_13_method_12_code 97 = .ok (.iload_n 1, 1) := by decide +kernel
theorem d_Mo_meet_98 : decode prog_13_method_12_code 98 = .ok (.iload_n 2, 1) := by decide +kernel
theorem d_Mo_meet_99 : decode prog_13_method_12_code 99 = .ok (.iload_n 3, 1) := by decide +kernel
theorem d_Mo_meet_100 : decode prog_13_method_12_code 100 = .ok (.iload 4, 2) := by decide +kernel
theorem d_Mo_meet_102 : decode prog_13_method_12_code 102 = .ok (.iload 5, 2) := by decide +kernel
theorem d_Mo_meet_104 : decode prog_13_method_12_code 104 = .ok (.invokestatic 121, 3) := by decide +kernel
theorem d_Mo_meet_107 : decode prog_13_method_12_code 107 = .ok (.ifCond .ne 49, 3) := by decide +kernel
theorem d_Mo_meet_110 : decode prog_13_method_12_code 110 = .ok (.iload_n 0, 1) := by decide +kernel
theorem d_Mo_meet_111 : decode prog_13_method_12_code 111 = .ok (.iload_n 1, 1) := by decide +kernel
theorem d_Mo_meet_112 : decode prog_13_method_12_code 112 = .ok (.iload_n 2, 1) := by decide +kernel
theorem d_Mo_meet_113 : decode prog_13_method_12_code 113 = .ok (.iload_n 3, 1) := by decide +kernel
theorem d_Mo_meet_114 : decode prog_13_method_12_code 114 = .ok (.iload 6, 2) := by decide +kernel
theorem d_Mo_meet_116 : decode prog_13_method_12_code 116 = .ok (.iload 7, 2) := by decide +kernel
theorem d_Mo_meet_118 : decode prog_13_method_12_code 118 = .ok (.invokestatic 121, 3) := by decide +kernel
theorem d_Mo_meet_121 : decode prog_13_method_12_code 121 = .ok (.ifCond .ne 35, 3) := by decide +kernel
theorem d_Mo_meet_124 : decode prog_13_method_12_code 124 = .ok (.iload 4, 2) := by decide +kernel
theorem d_Mo_meet_126 : decode prog_13_method_12_code 126 = .ok (.iload 5, 2) := by decide +kernel
theorem d_Mo_meet_128 : decode prog_13_method_12_code 128 = .ok (.iload 6, 2) := by decide +kernel
theorem d_Mo_meet_130 : decode prog_13_method_12_code 130 = .ok (.iload 7, 2) := by decide +kernel
theorem d_Mo_meet_132 : decode prog_13_method_12_code 132 = .ok (.iload_n 0, 1) := by decide +kernel
theorem d_Mo_meet_133 : decode prog_13_method_12_code 133 = .ok (.iload_n 1, 1) := by decide +kernel
theorem d_Mo_meet_134 : decode prog_13_method_12_code 134 = .ok (.invokestatic 121, 3) := by decide +kernel
theorem d_Mo_meet_137 : decode prog_13_method_12_code 137 = .ok (.ifCond .ne 19, 3) := by decide +kernel
theorem d_Mo_meet_140 : decode prog_13_method_12_code 140 = .ok (.iload 4, 2) := by decide +kernel
theorem d_Mo_meet_142 : decode prog_13_method_12_code 142 = .ok (.iload 5, 2) := by decide +kernel
theorem d_Mo_meet_144 : decode prog_13_method_12_code 144 = .ok (.iload 6, 2) := by decide +kernel
theorem d_Mo_meet_146 : decode prog_13_method_12_code 146 = .ok (.iload 7, 2) := by decide +kernel
theorem d_Mo_meet_148 : decode prog_13_method_12_code 148 = .ok (.iload_n 2, 1) := by decide +kernel
theorem d_Mo_meet_149 : decode prog_13_method_12_code 149 = .ok (.iload_n 3, 1) := by decide +kernel
theorem d_Mo_meet_150 : decode prog_13_method_12_code 150 = .ok (.invokestatic 121, 3) := by decide +kernel
theorem d_Mo_meet_153 : decode prog_13_method_12_code 153 = .ok (.ifCond .eq 7, 3) := by decide +kernel
theorem d_Mo_meet_160 : decode prog_13_method_12_code 160 = .ok (.iconst 0, 1) := by decide +kernel
def wp_Mo_meet_89 (post : Int → Prop) (v0 : Int) (v1 : Int) (v2 : Int) (v3 : Int) (v4 : Int) (v5 : Int) (v6 : Int) (v7 : Int) (s0 : Int) : Prop := inR s0 ∧ (¬ (s0 = 0) → post 1) ∧ (s0 = 0 → (wp_Mo_isOn (fun r_1 => inR r_1 ∧ (¬ (r_1 = 0) → post 1) ∧ (r_1 = 0 → (wp_Mo_isOn (fun r_2 => inR r_2 ∧ (¬ (r_2 = 0) → post 1) ∧ (r_2 = 0 → (wp_Mo_isOn (fun r_3 => inR r_3 ∧ (¬ (r_3 = 0) → post 1) ∧ (r_3 = 0 → (wp_Mo_isOn (fun r_4 => inR r_4 ∧ (r_4 = 0 → post 0) ∧ (¬ (r_4 = 0) → post 1)) v4 v5 v6 v7 v2 v3))) v4 v5 v6 v7 v0 v1))) v0 v1 v2 v3 v6 v7))) v0 v1 v2 v3 v4 v5))
def wp_Mo_meet (post : Int → Prop) (v0 : Int) (v1 : Int) (v2 : Int) (v3 : Int) (v4 : Int) (v5 : Int) (v6 : Int) (v7 : Int) : Prop := wp_Mo_turn (fun r_1 => wp_Mo_sign (fun r_2 => wp_Mo_turn (fun r_3 => wp_Mo_sign (fun r_4 => wp_Mo_turn (fun r_5 => wp_Mo_sign (fun r_6 => wp_Mo_turn (fun r_7 => wp_Mo_sign (fun r_8 => inR (r_2 * r_4) ∧ (0 ≤ (r_2 * r_4) → wp_Mo_meet_89 post v0 v1 v2 v3 v4 v5 v6 v7 0) ∧ (¬ (0 ≤ (r_2 * r_4)) → (inR (r_6 * r_8) ∧ (0 ≤ (r_6 * r_8) → wp_Mo_meet_89 post v0 v1 v2 v3 v4 v5 v6 v7 0) ∧ (¬ (0 ≤ (r_6 * r_8)) → wp_Mo_meet_89 post v0 v1 v2 v3 v4 v5 v6 v7 1)))) r_7) v4 v5 v6 v7 v2 v3) r_5) v4 v5 v6 v7 v0 v1) r_3) v0 v1 v2 v3 v6 v7) r_1) v0 v1 v2 v3 v4 v5
set_option maxHeartbeats 4000000 in
set_option maxRecDepth 100000 in
theorem c_Mo_meet (l : Launch) {post : Int → Prop} {v0 : Int} {v1 : Int} {v2 : Int} {v3 : Int} {v4 : Int} {v5 : Int} {v6 : Int} {v7 : Int} (hw : wp_Mo_meet post v0 v1 v2 v3 v4 v5 v6 v7) : jSi l y_Mo_meet prog_13_method_12_code 13 (some .boolean) 2 50 [vi v0, vi v1, vi v2, vi v3, vi v4, vi v5, vi v6, vi v7] post := by
  obtain ⟨D⟩ : Nonempty va_G := ⟨(fun _ => 0, fun _ _ => 0)⟩
  refine j_staticZ (D := D) (own := "LandBookModel") (by decide) rfl (Nat.le_of_ble_eq_true rfl) (fun X F hret => ?_)
  have B89 : ∀ (v0 : Int) (v1 : Int) (v2 : Int) (v3 : Int) (v4 : Int) (v5 : Int) (v6 : Int) (v7 : Int) (s0 : Int), wp_Mo_meet_89 post v0 v1 v2 v3 v4 v5 v6 v7 s0 → jat l D X 13 89 [(0, vi v0), (1, vi v1), (2, vi v2), (3, vi v3), (4, vi v4), (5, vi v5), (6, vi v6), (7, vi v7)] [vi s0] [] 0 0 := by
    intro v0 v1 v2 v3 v4 v5 v6 v7 s0 hw
    unfold wp_Mo_meet_89 at hw
    refine j_istore F [(12, vi s0), (0, vi v0), (1, vi v1), (2, vi v2), (3, vi v3), (4, vi v4), (5, vi v5), (6, vi v6), (7, vi v7)] d_Mo_meet_89 (by decide) rfl ?_
    refine j_iload F 0 d_Mo_meet_91 rfl ?_
    obtain ⟨hc1, hwt, hwf⟩ := hw
    refine j_if_ne F 156 hc1 d_Mo_meet_93 rfl (fun hh => ?_) (fun hh => ?_)
    · have hw := hwt hh
      refine j_iconst F d_Mo_meet_156 ?_
      refine j_goto F 161 d_Mo_meet_157 rfl ?_
      exact hret _ _ _ hw (Or.inr rfl) d_Mo_meet_161
    · have hw := hwf hh
      refine j_iload_n F 1 d_Mo_meet_96 rfl ?_
      refine j_iload_n F 2 d_Mo_meet_97 rfl ?_
      refine j_iload_n F 3 d_Mo_meet_98 rfl ?_
      refine j_iload_n F 4 d_Mo_meet_99 rfl ?_
      refine j_iload F 5 d_Mo_meet_100 rfl ?_
      refine j_iload F 6 d_Mo_meet_102 rfl ?_
      refine j_callS F (c_Mo_isOn l hw) (tw_gS tj_95 tj_96 tj_87 tj_97) q_Mo_isOn rfl ⟨by decide, by decide⟩ ⟨Nat.zero_le _, Nat.zero_le _⟩ rfl (Nat.le_of_ble_eq_true rfl) d_Mo_meet_104 (fun r_1 hw => ?_)
      obtain ⟨hc1, hwt, hwf⟩ := hw
      refine j_if_ne F 156 hc1 d_Mo_meet_107 rfl (fun hh => ?_) (fun hh => ?_)
      · have hw := hwt hh
        refine j_iconst F d_Mo_meet_156 ?_
        refine j_goto F 161 d_Mo_meet_157 rfl ?_
        exact hret _ _ _ hw (Or.inr rfl) d_Mo_meet_161
      · have hw := hwf hh
        refine j_iload_n F 1 d_Mo_meet_110 rfl ?_
        refine j_iload_n F 2 d_Mo_meet_111 rfl ?_
        refine j_iload_n F 3 d_Mo_meet_112 rfl ?_
        refine j_iload_n F 4 d_Mo_meet_113 rfl ?_
        refine j_iload F 7 d_Mo_meet_114 rfl ?_
        refine j_iload F 8 d_Mo_meet_116 rfl ?_
        refine j_callS F (c_Mo_isOn l hw) (tw_gS tj_95 tj_96 tj_87 tj_97) q_Mo_isOn rfl ⟨by decide, by decide⟩ ⟨Nat.zero_le _, Nat.zero_le _⟩ rfl (Nat.le_of_ble_eq_true rfl) d_Mo_meet_118 (fun r_2 hw => ?_)
        obtain ⟨hc1, hwt, hwf⟩ := hw
        refine j_if_ne F 156 hc1 d_Mo_meet_121 rfl (fun hh => ?_) (fun hh => ?_)
        · have hw := hwt hh
          refine j_iconst F d_Mo_meet_156 ?_
          refine j_goto F 161 d_Mo_meet_157 rfl ?_
          exact hret _ _ _ hw (Or.inr rfl) d_Mo_meet_161
        · have hw := hwf hh
          refine j_iload F 5 d_Mo_meet_124 rfl ?_
          refine j_iload F 6 d_Mo_meet_126 rfl ?_
          refine j_iload F 7 d_Mo_meet_128 rfl ?_
          refine j_iload F 8 d_Mo_meet_130 rfl ?_
          refine j_iload_n F 1 d_Mo_meet_132 rfl ?_
          refine j_iload_n F 2 d_Mo_meet_133 rfl ?_
          refine j_callS F (c_Mo_isOn l hw) (tw_gS tj_95 tj_96 tj_87 tj_97) q_Mo_isOn rfl ⟨by decide, by decide⟩ ⟨Nat.zero_le _, Nat.zero_le _⟩ rfl (Nat.le_of_ble_eq_true rfl) d_Mo_meet_134 (fun r_3 hw => ?_)
          obtain ⟨hc1, hwt, hwf⟩ := hw
          refine j_if_ne F 156 hc1 d_Mo_meet_137 rfl (fun hh => ?_) (fun hh => ?_)
          · have hw := hwt hh
            refine j_iconst F d_Mo_meet_156 ?_
            refine j_goto F 161 d_Mo_meet_157 rfl ?_
            exact hret _ _ _ hw (Or.inr rfl) d_Mo_meet_161
          · have hw := hwf hh
            refine j_iload F 5 d_Mo_meet_140 rfl ?_
            refine j_iload F 6 d_Mo_meet_142 rfl ?_
            refine j_iload F 7 d_Mo_meet_144 rfl ?_
            refine j_iload F 8 d_Mo_meet_146 rfl ?_
            refine j_iload_n F 3 d_Mo_meet_148 rfl ?_
            refine j_iload_n F 4 d_Mo_meet_149 rfl ?_
            refine j_callS F (c_Mo_isOn l hw) (tw_gS tj_95 tj_96 tj_87 tj_97) q_Mo_isOn rfl ⟨by decide, by decide⟩ ⟨Nat.zero_le _, Nat.zero_le _⟩ rfl (Nat.le_of_ble_eq_true rfl) d_Mo_meet_150 (fun r_4 hw => ?_)
            obtain ⟨hc1, hwt, hwf⟩ := hw
            refine j_if_eq F 160 hc1 d_Mo_meet_153 rfl (fun hh => ?_) (fun hh => ?_)
            · have hw := hwt hh
              refine j_iconst F d_Mo_meet_160 ?_
              exact hret _ _ _ hw (Or.inl rfl) d_Mo_meet_161
            · have hw := hwf hh
              refine j_iconst F d_Mo_meet_156 ?_
              refine j_goto F 161 d_Mo_meet_157 rfl ?_
              exact hret _ _ _ hw (Or.inr rfl) d_Mo_meet_161
  unfold wp_Mo_meet at hw
  show jat l D X 13 0 [(0, vi v0), (1, vi v1), (2, vi v2), (3, vi v3), (4, vi v4), (5, vi v5), (6, vi v6), (7, vi v7)] [] [] 0 0
  refine j_iload_n F 0 d_Mo_meet_0 rfl ?_
  refine j_iload_n F 1 d_Mo_meet_1 rfl ?_
  refine j_iload_n F 2 d_Mo_meet_2 rfl ?_
  refine j_iload_n F 3 d_Mo_meet_3 rfl ?_
  refine j_iload F 4 d_Mo_meet_4 rfl ?_
  refine j_iload F 5 d_Mo_meet_6 rfl ?_
  refine j_callS F (c_Mo_turn l hw) (tw_gS tj_85 tj_86 tj_87 tj_88) q_Mo_turn rfl ⟨by decide, by decide⟩ ⟨Nat.zero_le _, Nat.zero_le _⟩ rfl (Nat.le_of_ble_eq_true rfl) d_Mo_meet_8 (fun r_1 hw => ?_)
  refine j_callS F (c_Mo_sign l hw) (tw_gS tj_92 tj_93 tj_87 tj_94) q_Mo_sign rfl ⟨by decide, by decide⟩ ⟨Nat.zero_le _, Nat.zero_le _⟩ rfl (Nat.le_of_ble_eq_true rfl) d_Mo_meet_11 (fun r_2 hw => ?_)
  refine j_istore F [(8, vi r_2), (0, vi v0), (1, vi v1), (2, vi v2), (3, vi v3), (4, vi v4), (5, vi v5), (6, vi v6), (7, vi v7)] d_Mo_meet_14 (by decide) rfl ?_
  refine j_iload_n F 1 d_Mo_meet_16 rfl ?_
  refine j_iload_n F 2 d_Mo_meet_17 rfl ?_
  refine j_iload_n F 3 d_Mo_meet_18 rfl ?_
  refine j_iload_n F 4 d_Mo_meet_19 rfl ?_
  refine j_iload F 7 d_Mo_meet_20 rfl ?_
  refine j_iload F 8 d_Mo_meet_22 rfl ?_
  refine j_callS F (c_Mo_turn l hw) (tw_gS tj_85 tj_86 tj_87 tj_88) q_Mo_turn rfl ⟨by decide, by decide⟩ ⟨Nat.zero_le _, Nat.zero_le _⟩ rfl (Nat.le_of_ble_eq_true rfl) d_Mo_meet_24 (fun r_3 hw => ?_)
  refine j_callS F (c_Mo_sign l hw) (tw_gS tj_92 tj_93 tj_87 tj_94) q_Mo_sign rfl ⟨by decide, by decide⟩ ⟨Nat.zero_le _, Nat.zero_le _⟩ rfl (Nat.le_of_ble_eq_true rfl) d_Mo_meet_27 (fun r_4 hw => ?_)
  refine j_istore F [(9, vi r_4), (8, vi r_2), (0, vi v0), (1, vi v1), (2, vi v2), (3, vi v3), (4, vi v4), (5, vi v5), (6, vi v6), (7, vi v7)] d_Mo_meet_30 (by decide) rfl ?_
  refine j_iload F 6 d_Mo_meet_32 rfl ?_
  refine j_iload F 7 d_Mo_meet_34 rfl ?_
  refine j_iload F 8 d_Mo_meet_36 rfl ?_
  refine j_iload F 9 d_Mo_meet_38 rfl ?_
  refine j_iload_n F 2 d_Mo_meet_40 rfl ?_
  refine j_iload_n F 3 d_Mo_meet_41 rfl ?_
  refine j_callS F (c_Mo_turn l hw) (tw_gS tj_85 tj_86 tj_87 tj_88) q_Mo_turn rfl ⟨by decide, by decide⟩ ⟨Nat.zero_le _, Nat.zero_le _⟩ rfl (Nat.le_of_ble_eq_true rfl) d_Mo_meet_42 (fun r_5 hw => ?_)
  refine j_callS F (c_Mo_sign l hw) (tw_gS tj_92 tj_93 tj_87 tj_94) q_Mo_sign rfl ⟨by decide, by decide⟩ ⟨Nat.zero_le _, Nat.zero_le _⟩ rfl (Nat.le_of_ble_eq_true rfl) d_Mo_meet_45 (fun r_6 hw => ?_)
  refine j_istore F [(10, vi r_6), (9, vi r_4), (8, vi r_2), (0, vi v0), (1, vi v1), (2, vi v2), (3, vi v3), (4, vi v4), (5, vi v5), (6, vi v6), (7, vi v7)] d_Mo_meet_48 (by decide) rfl ?_
  refine j_iload F 7 d_Mo_meet_50 rfl ?_
  refine j_iload F 8 d_Mo_meet_52 rfl ?_
  refine j_iload F 9 d_Mo_meet_54 rfl ?_
  refine j_iload F 10 d_Mo_meet_56 rfl ?_
  refine j_iload_n F 5 d_Mo_meet_58 rfl ?_
  refine j_iload_n F 6 d_Mo_meet_59 rfl ?_
  refine j_callS F (c_Mo_turn l hw) (tw_gS tj_85 tj_86 tj_87 tj_88) q_Mo_turn rfl ⟨by decide, by decide⟩ ⟨Nat.zero_le _, Nat.zero_le _⟩ rfl (Nat.le_of_ble_eq_true rfl) d_Mo_meet_60 (fun r_7 hw => ?_)
  refine j_callS F (c_Mo_sign l hw) (tw_gS tj_92 tj_93 tj_87 tj_94) q_Mo_sign rfl ⟨by decide, by decide⟩ ⟨Nat.zero_le _, Nat.zero_le _⟩ rfl (Nat.le_of_ble_eq_true rfl) d_Mo_meet_63 (fun r_8 hw => ?_)
  refine j_istore F [(11, vi r_8), (10, vi r_6), (9, vi r_4), (8, vi r_2), (0, vi v0), (1, vi v1), (2, vi v2), (3, vi v3), (4, vi v4), (5, vi v5), (6, vi v6), (7, vi v7)] d_Mo_meet_66 (by decide) rfl ?_
  refine j_iload F 3 d_Mo_meet_68 rfl ?_
  refine j_iload F 2 d_Mo_meet_70 rfl ?_
  refine j_imul F d_Mo_meet_72 ?_
  obtain ⟨hc1, hwt, hwf⟩ := hw
  refine j_if_ge F 88 hc1 d_Mo_meet_73 rfl (fun hh => ?_) (fun hh => ?_)
  · have hw := hwt hh
    refine j_iconst F d_Mo_meet_88 ?_
    refine j_sub [4, 5, 6, 7, 8, 9, 10, 11] rfl ?_
    exact B89 _ _ _ _ _ _ _ _ _ hw
  · have hw := hwf hh
    refine j_iload F 1 d_Mo_meet_76 rfl ?_
    refine j_iload F 0 d_Mo_meet_78 rfl ?_
    refine j_imul F d_Mo_meet_80 ?_
    obtain ⟨hc1, hwt, hwf⟩ := hw
    refine j_if_ge F 88 hc1 d_Mo_meet_81 rfl (fun hh => ?_) (fun hh => ?_)
    · have hw := hwt hh
      refine j_iconst F d_Mo_meet_88 ?_
      refine j_sub [4, 5, 6, 7, 8, 9, 10, 11] rfl ?_
      exact B89 _ _ _ _ _ _ _ _ _ hw
    · have hw := hwf hh
      refine j_iconst F d_Mo_meet_84 ?_
      refine j_goto F 89 d_Mo_meet_85 rfl ?_
      refine j_sub [4, 5, 6, 7, 8, 9, 10, 11] rfl ?_
      exact B89 _ _ _ _ _ _ _ _ _ hw
abbrev y_Mo_isFolded : MethodName := ⟨"LandBookModel", "isFolded", "(IIIIII)Z"⟩
theorem q_Mo_isFolded : y_Mo_isFolded.cls ≠ "java/lang/invoke/MethodHandle" ∧ y_Mo_isFolded.cls ≠ "java/lang/invoke/VarHandle" ∧ (parseMethodDescriptor y_Mo_isFolded.desc).map (fun d => d.parameters.length) = some 6 := by decide +kernel
theorem d_Mo_isFolded_0 : decode prog_13_method_13_code 0 = .ok (.iload_n 2, 1) := by decide +kernel
theorem d_Mo_isFolded_1 : decode prog_13_method_13_code 1 = .ok (.iload_n 0, 1) := by decide +kernel
theorem d_Mo_isFolded_2 : decode prog_13_method_13_code 2 = .ok (.isub, 1) := by decide +kernel
theorem d_Mo_isFolded_3 : decode prog_13_method_13_code 3 = .ok (.i2l, 1) := by decide +kernel
theorem d_Mo_isFolded_4 : decode prog_13_method_13_code 4 = .ok (.iload 4, 2) := by decide +kernel
theorem d_Mo_isFolded_6 : decode prog_13_method_13_code 6 = .ok (.iload_n 0, 1) := by decide +kernel
theorem d_Mo_isFolded_7 : decode prog_13_method_13_code 7 = .ok (.isub, 1) := by decide +kernel
theorem d_Mo_isFolded_8 : decode prog_13_method_13_code 8 = .ok (.i2l, 1) := by decide +kernel
theorem d_Mo_isFolded_9 : decode prog_13_method_13_code 9 = .ok (.lmul, 1) := by decide +kernel
theorem d_Mo_isFolded_10 : decode prog_13_method_13_code 10 = .ok (.iload_n 3, 1) := by decide +kernel
theorem d_Mo_isFolded_11 : decode prog_13_method_13_code 11 = .ok (.iload_n 1, 1) := by decide +kernel
theorem d_Mo_isFolded_12 : decode prog_13_method_13_code 12 = .ok (.isub, 1) := by decide +kernel
theorem d_Mo_isFolded_13 : decode prog_13_method_13_code 13 = .ok (.i2l, 1) := by decide +kernel
theorem d_Mo_isFolded_14 : decode prog_13_method_13_code 14 = .ok (.iload 5, 2) := by decide +kernel
theorem d_Mo_isFolded_16 : decode prog_13_method_13_code 16 = .ok (.iload_n 1, 1) := by decide +kernel
theorem d_Mo_isFolded_17 : decode prog_13_method_13_code 17 = .ok (.isub, 1) := by decide +kernel
theorem d_Mo_isFolded_18 : decode prog_13_method_13_code 18 = .ok (.i2l, 1) := by decide +kernel
theorem d_Mo_isFolded_19 : decode prog_13_method_13_code 19 = .ok (.lmul, 1) := by decide +kernel
theorem d_Mo_isFolded_20 : decode prog_13_method_13_code 20 = .ok (.ladd, 1) := by decide +kernel
theorem d_Mo_isFolded_21 : decode prog_13_method_13_code 21 = .ok (.lstore 6, 2) := by decide +kernel
theorem d_Mo_isFolded_23 : decode prog_13_method_13_code 23 = .ok (.iload_n 0, 1) := by decide +kernel
theorem d_Mo_isFolded_24 : decode prog_13_method_13_code 24 = .ok (.iload_n 1, 1) := by decide +kernel
theorem d_Mo_isFolded_25 : decode prog_13_method_13_code 25 = .ok (.iload_n 2, 1) := by decide +kernel
theorem d_Mo_isFolded_26 : decode prog_13_method_13_code 26 = .ok (.iload_n 3, 1) := by decide +kernel
theorem d_Mo_isFolded_27 : decode prog_13_method_13_code 27 = .ok (.iload 4, 2) := by decide +kernel
theorem d_Mo_isFolded_29 : decode prog_13_method_13_code 29 = .ok (.iload 5, 2) := by decide +kernel
theorem d_Mo_isFolded_31 : decode prog_13_method_13_code 31 = .ok (.invokestatic 109, 3) := by decide +kernel
theorem d_Mo_isFolded_34 : decode prog_13_method_13_code 34 = .ok (.ifCond .ne 14, 3) := by decide +kernel
theorem d_Mo_isFolded_48 : decode prog_13_method_13_code 48 = .ok (.iconst 0, 1) := by decide +kernel
theorem d_Mo_isFolded_49 : decode prog_13_method_13_code 49 = .ok (.ireturn, 1) := by decide +kernel
theorem d_Mo_isFolded_37 : decode prog_13_method_13_code 37 = .ok (.lload 6, 2) := by decide +kernel
theorem d_Mo_isFolded_39 : decode prog_13_method_13_code 39 = .ok (.lconst 0, 1) := by decide +kernel
theorem d_Mo_isFolded_40 : decode prog_13_method_13_code 40 = .ok (.lcmp, 1) := by decide +kernel
theorem d_Mo_isFolded_41 : decode prog_13_method_13_code 41 = .ok (.ifCond .le 7, 3) := by decide +kernel
theorem d_Mo_isFolded_44 : decode prog_13_method_13_code 44 = .ok (.iconst 1, 1) := by decide +kernel
theorem d_Mo_isFolded_45 : decode prog_13_method_13_code 45 = .ok (.goto 4, 3) := by decide +kernel
def wp_Mo_isFolded (post : Int → Prop) (v0 : Int) (v1 : Int) (v2 : Int) (v3 : Int) (v4 : Int) (v5 : Int) : Prop := inR (v2 - v0) ∧ (inR (v4 - v0) ∧ (inR (v3 - v1) ∧ (inR (v5 - v1) ∧ (∀ v6_1 : Int, v6_1 = (((v2 - v0) * (v4 - v0)) + ((v3 - v1) * (v5 - v1))) → wp_Mo_turn (fun r_2 => inR r_2 ∧ (¬ (r_2 = 0) → post 0) ∧ (r_2 = 0 → (inL v6_1 ∧ (v6_1 ≤ 0 → post 0) ∧ (¬ (v6_1 ≤ 0) → post 1)))) v0 v1 v2 v3 v4 v5))))
set_option maxHeartbeats 4000000 in
set_option maxRecDepth 100000 in
theorem c_Mo_isFolded (l : Launch) {post : Int → Prop} {v0 : Int} {v1 : Int} {v2 : Int} {v3 : Int} {v4 : Int} {v5 : Int} (hw : wp_Mo_isFolded post v0 v1 v2 v3 v4 v5) : jSi l y_Mo_isFolded prog_13_method_13_code 8 (some .boolean) 1 25 [vi v0, vi v1, vi v2, vi v3, vi v4, vi v5] post := by
  obtain ⟨D⟩ : Nonempty va_G := ⟨(fun _ => 0, fun _ _ => 0)⟩
  refine j_staticZ (D := D) (own := "LandBookModel") (by decide) rfl (Nat.le_of_ble_eq_true rfl) (fun X F hret => ?_)
  unfold wp_Mo_isFolded at hw
  show jat l D X 8 0 [(0, vi v0), (1, vi v1), (2, vi v2), (3, vi v3), (4, vi v4), (5, vi v5)] [] [] 0 0
  refine j_iload_n F 2 d_Mo_isFolded_0 rfl ?_
  refine j_iload_n F 0 d_Mo_isFolded_1 rfl ?_
  refine j_isub F d_Mo_isFolded_2 ?_
  obtain ⟨hc1, hw⟩ := hw
  refine j_i2l F hc1 d_Mo_isFolded_3 ?_
  refine j_iload F 4 d_Mo_isFolded_4 rfl ?_
  refine j_iload_n F 0 d_Mo_isFolded_6 rfl ?_
  refine j_isub F d_Mo_isFolded_7 ?_
  obtain ⟨hc1, hw⟩ := hw
  refine j_i2l F hc1 d_Mo_isFolded_8 ?_
  refine j_lmul F d_Mo_isFolded_9 ?_
  refine j_iload_n F 3 d_Mo_isFolded_10 rfl ?_
  refine j_iload_n F 1 d_Mo_isFolded_11 rfl ?_
  refine j_isub F d_Mo_isFolded_12 ?_
  obtain ⟨hc1, hw⟩ := hw
  refine j_i2l F hc1 d_Mo_isFolded_13 ?_
  refine j_iload F 5 d_Mo_isFolded_14 rfl ?_
  refine j_iload_n F 1 d_Mo_isFolded_16 rfl ?_
  refine j_isub F d_Mo_isFolded_17 ?_
  obtain ⟨hc1, hw⟩ := hw
  refine j_i2l F hc1 d_Mo_isFolded_18 ?_
  refine j_lmul F d_Mo_isFolded_19 ?_
  refine j_ladd F d_Mo_isFolded_20 ?_
  refine j_nml (fun v6_1 e_v6_1 => ?_)
  have hw := hw v6_1 e_v6_1
  refine j_lstore F [(6, vl v6_1), (0, vi v0), (1, vi v1), (2, vi v2), (3, vi v3), (4, vi v4), (5, vi v5)] d_Mo_isFolded_21 (by decide) rfl ?_
  refine j_iload_n F 1 d_Mo_isFolded_23 rfl ?_
  refine j_iload_n F 2 d_Mo_isFolded_24 rfl ?_
  refine j_iload_n F 3 d_Mo_isFolded_25 rfl ?_
  refine j_iload_n F 4 d_Mo_isFolded_26 rfl ?_
  refine j_iload F 5 d_Mo_isFolded_27 rfl ?_
  refine j_iload F 6 d_Mo_isFolded_29 rfl ?_
  refine j_callS F (c_Mo_turn l hw) (tw_gS tj_85 tj_86 tj_87 tj_88) q_Mo_turn rfl ⟨by decide, by decide⟩ ⟨Nat.zero_le _, Nat.zero_le _⟩ rfl (Nat.le_of_ble_eq_true rfl) d_Mo_isFolded_31 (fun r_2 hw => ?_)
  obtain ⟨hc1, hwt, hwf⟩ := hw
  refine j_if_ne F 48 hc1 d_Mo_isFolded_34 rfl (fun hh => ?_) (fun hh => ?_)
  · have hw := hwt hh
    refine j_iconst F d_Mo_isFolded_48 ?_
    exact hret _ _ _ hw (Or.inl rfl) d_Mo_isFolded_49
  · have hw := hwf hh
    refine j_lload F 0 d_Mo_isFolded_37 rfl ?_
    refine j_lconst (x := 0) F d_Mo_isFolded_39 (by decide) ?_
    obtain ⟨hc1, hwt, hwf⟩ := hw
    refine j_lcmp_le F 48 hc1 ⟨by decide, by decide⟩ d_Mo_isFolded_40 d_Mo_isFolded_41 rfl (fun hh => ?_) (fun hh => ?_)
    · have hw := hwt hh
      refine j_iconst F d_Mo_isFolded_48 ?_
      exact hret _ _ _ hw (Or.inl rfl) d_Mo_isFolded_49
    · have hw := hwf hh
      refine j_iconst F d_Mo_isFolded_44 ?_
      refine j_goto F 49 d_Mo_isFolded_45 rfl ?_
      exact hret _ _ _ hw (Or.inr rfl) d_Mo_isFolded_49
theorem tj_98 : (Jvm.Cond.methodLink "LandBookModel" (217 : Nat) ({ cls := "LandBookModel", name := "least", desc := "(II)I" } : Jvm.MethodName)) ∈ tw_G := tw_in (List.mem_of_getElem? (i := 1305) (by decide +kernel)) rfl
theorem tj_99 : (Jvm.Cond.static ({ cls := "LandBookModel", name := "least", desc := "(II)I" } : Jvm.MethodName)) ∈ tw_G := tw_in (List.mem_of_getElem? (i := 1306) (by decide +kernel)) rfl
theorem tj_100 : (Jvm.Cond.code ({ cls := "LandBookModel", name := "least", desc := "(II)I" } : Jvm.MethodName) prog_13_method_4_code (2 : Nat) (Option.some Jvm.ClassFile.FieldType.int)) ∈ tw_G := tw_in (List.mem_of_getElem? (i := 1307) (by decide +kernel)) rfl
theorem tj_101 : (Jvm.Cond.methodLink "LandBookModel" (220 : Nat) ({ cls := "LandBookModel", name := "most", desc := "(II)I" } : Jvm.MethodName)) ∈ tw_G := tw_in (List.mem_of_getElem? (i := 1308) (by decide +kernel)) rfl
theorem tj_102 : (Jvm.Cond.static ({ cls := "LandBookModel", name := "most", desc := "(II)I" } : Jvm.MethodName)) ∈ tw_G := tw_in (List.mem_of_getElem? (i := 1309) (by decide +kernel)) rfl
theorem tj_103 : (Jvm.Cond.code ({ cls := "LandBookModel", name := "most", desc := "(II)I" } : Jvm.MethodName) prog_13_method_3_code (2 : Nat) (Option.some Jvm.ClassFile.FieldType.int)) ∈ tw_G := tw_in (List.mem_of_getElem? (i := 1310) (by decide +kernel)) rfl
abbrev y_Mo_overlap : MethodName := ⟨"LandBookModel", "overlap", "(IIIIIIII)Z"⟩
theorem q_Mo_overlap : y_Mo_overlap.cls ≠ "java/lang/invoke/MethodHandle" ∧ y_Mo_overlap.cls ≠ "java/lang/invoke/VarHandle" ∧ (parseMethodDescriptor y_Mo_overlap.desc).map (fun d => d.parameters.length) = some 8 := by decide +kernel
theorem d_Mo_overlap_0 : decode prog_13_method_41_code 0 = .ok (.iload_n 0, 1) := by decide +kernel
theorem d_Mo_overlap_1 : decode prog_13_method_41_code 1 = .ok (.iload_n 2, 1) := by decide +kernel
theorem d_Mo_overlap_2 : decode prog_13_method_41_code 2 = .ok (.if_icmp .eq 7, 3) := by decide +kernel
theorem d_Mo_overlap_9 : decode prog_13_method_41_code 9 = .ok (.iconst 0, 1) := by decide +kernel
theorem d_Mo_overlap_5 : decode prog_13_method_41_code 5 = .ok (.iconst 1, 1) := by decide +kernel
theorem d_Mo_overlap_6 : decode prog_13_method_41_code 6 = .ok (.goto 4, 3) := by decide +kernel
theorem d_Mo_overlap_10 : decode prog_13_method_41_code 10 = .ok (.istore 8, 2) := by decide +kernel
theorem d_Mo_overlap_12 : decode prog_13_method_41_code 12 = .ok (.iload 8, 2) := by decide +kernel
theorem d_Mo_overlap_14 : decode prog_13_method_41_code 14 = .ok (.ifCond .eq 7, 3) := by decide +kernel
theorem d_Mo_overlap_21 : decode prog_13_method_41_code 21 = .ok (.iload_n 1, 1) := by decide +kernel
theorem d_Mo_overlap_17 : decode prog_13_method_41_code 17 = .ok (.iload_n 0, 1) := by decide +kernel
theorem d_Mo_overlap_18 : decode prog_13_method_41_code 18 = .ok (.goto 4, 3) := by decide +kernel
theorem d_Mo_overlap_22 : decode prog_13_method_41_code 22 = .ok (.istore 9, 2) := by decide +kernel
theorem d_Mo_overlap_24 : decode prog_13_method_41_code 24 = .ok (.iload 8, 2) := by decide +kernel
theorem d_Mo_overlap_26 : decode prog_13_method_41_code 26 = .ok (.ifCond .eq 7, 3) := by decide +kernel
theorem d_Mo_overlap_33 : decode prog_13_method_41_code 33 = .ok (.iload_n 3, 1) := by decide +kernel
theorem d_Mo_overlap_29 : decode prog_13_method_41_code 29 = .ok (.iload_n 2, 1) := by decide +kernel
theorem d_Mo_overlap_30 : decode prog_13_method_41_code 30 = .ok (.goto 4, 3) := by decide +kernel
theorem d_Mo_overlap_34 : decode prog_13_method_41_code 34 = .ok (.istore 10, 2) := by decide +kernel
theorem d_Mo_overlap_36 : decode prog_13_method_41_code 36 = .ok (.iload 8, 2) := by decide +kernel
theorem d_Mo_overlap_38 : decode prog_13_method_41_code 38 = .ok (.ifCond .eq 8, 3) := by decide +kernel
theorem d_Mo_overlap_46 : decode prog_13_method_41_code 46 = .ok (.iload 5, 2) := by decide +kernel
theorem d_Mo_overlap_41 : decode prog_13_method_41_code 41 = .ok (.iload 4, 2) := by decide +kernel
theorem d_Mo_overlap_43 : decode prog_13_method_41_code 43 = .ok (.goto 5, 3) := by decide +kernel
theorem d_Mo_overlap_48 : decode prog_13_method_41_code 48 = .ok (.istore 11, 2) := by decide +kernel
theorem d_Mo_overlap_50 : decode prog_13_method_41_code 50 = .ok (.iload 8, 2) := by decide +kernel
theorem d_Mo_overlap_52 : decode prog_13_method_41_code 52 = .ok (.ifCond .eq 8, 3) := by decide +kernel
theorem d_Mo_overlap_60 : decode prog_13_method_41_code 60 = .ok (.iload 7, 2) := by decide +kernel
theorem d_Mo_overlap_55 : decode prog_13_method_41_code 55 = .ok (.iload 6, 2) := by decide +kernel
theorem d_Mo_overlap_57 : decode prog_13_method_41_code 57 = .ok (.goto 5, 3) := by decide +kernel
theorem d_Mo_overlap_62 : decode prog_13_method_41_code 62 = .ok (.istore 12, 2) := by decide +kernel
theorem d_Mo_overlap_64 : decode prog_13_method_41_code 64 = .ok (.iload 9, 2) := by decide +kernel
theorem d_Mo_overlap_66 : decode prog_13_method_41_code 66 = .ok (.iload 10, 2) := by decide +kernel
theorem d_Mo_overlap_68 : decode prog_13_method_41_code 68 = .ok (.invokestatic 217, 3) := by decide +kernel
theorem d_Mo_overlap_71 : decode prog_13_method_41_code 71 = .ok (.iload 11, 2) := by decide +kernel
theorem d_Mo_overlap_73 : decode prog_13_method_41_code 73 = .ok (.iload 12, 2) := by decide +kernel
theorem d_Mo_overlap_75 : decode prog_13_method_41_code 75 = .ok (.invokestatic 217, 3) := by decide +kernel
theorem d_Mo_overlap_78 : decode prog_13_method_41_code 78 = .ok (.invokestatic 220, 3) := by decide +kernel
theorem d_Mo_overlap_81 : decode prog_13_method_41_code 81 = .ok (.istore 13, 2) := by decide +kernel
theorem d_Mo_overlap_83 : decode prog_13_method_41_code 83 = .ok (.iload 9, 2) := by decide +kernel
theorem d_Mo_overlap_85 : decode prog_13_method_41_code 85 = .ok (.iload 10, 2) := by decide +kernel
theorem d_Mo_overlap_87 : decode prog_13_method_41_code 87 = .ok (.invokestatic 220, 3) := by decide +kernel
theorem d_Mo_overlap_90 : decode prog_13_method_41_code 90 = .ok (.iload 11, 2) := by decide +kernel
theorem d_Mo_overlap_92 : decode prog_13_method_41_code 92 = .ok (.iload 12, 2) := by decide +kernel
theorem d_Mo_overlap_94 : decode prog_13_method_41_code 94 = .ok (.invokestatic 220, 3) := by decide +kernel
theorem d_Mo_overlap_97 : decode prog_13_method_41_code 97 = .ok (.invokestatic 217, 3) := by decide +kernel
theorem d_Mo_overlap_100 : decode prog_13_method_41_code 100 = .ok (.istore 14, 2) := by decide +kernel
theorem d_Mo_overlap_102 : decode prog_13_method_41_code 102 = .ok (.iload 13, 2) := by decide +kernel
theorem d_Mo_overlap_104 : decode prog_13_method_41_code 104 = .ok (.iload 14, 2) := by decide +kernel
theorem d_Mo_overlap_106 : decode prog_13_method_41_code 106 = .ok (.if_icmp .ge 7, 3) := by decide +kernel
theorem d_Mo_overlap_113 : decode prog_13_method_41_code 113 = .ok (.iconst 0, 1) := by decide +kernel
theorem d_Mo_overlap_114 : decode prog_13_method_41_code 114 = .ok (.ireturn, 1) := by decide +kernel
theorem d_Mo_overlap_109 : decode prog_13_method_41_code 109 = .ok (.iconst 1, 1) := by decide +kernel
theorem d_Mo_overlap_110 : decode prog_13_method_41_code 110 = .ok (.goto 4, 3) := by decide +kernel
def wp_Mo_overlap_62 (post : Int → Prop) (v9 : Int) (v10 : Int) (v11 : Int) (s0 : Int) : Prop := wp_Mo_least (fun r_1 => wp_Mo_least (fun r_2 => wp_Mo_most (fun r_3 => wp_Mo_most (fun r_4 => wp_Mo_most (fun r_5 => wp_Mo_least (fun r_6 => inR r_3 ∧ inR r_6 ∧ (r_6 ≤ r_3 → post 0) ∧ (¬ (r_6 ≤ r_3) → post 1)) r_4 r_5) v11 s0) v9 v10) r_1 r_2) v11 s0) v9 v10
def wp_Mo_overlap_48 (post : Int → Prop) (v6 : Int) (v7 : Int) (v8 : Int) (v9 : Int) (v10 : Int) (s0 : Int) : Prop := inR v8 ∧ (v8 = 0 → wp_Mo_overlap_62 post v9 v10 s0 v7) ∧ (¬ (v8 = 0) → wp_Mo_overlap_62 post v9 v10 s0 v6)
def wp_Mo_overlap_34 (post : Int → Prop) (v4 : Int) (v5 : Int) (v6 : Int) (v7 : Int) (v8 : Int) (v9 : Int) (s0 : Int) : Prop := inR v8 ∧ (v8 = 0 → wp_Mo_overlap_48 post v6 v7 v8 v9 s0 v5) ∧ (¬ (v8 = 0) → wp_Mo_overlap_48 post v6 v7 v8 v9 s0 v4)
def wp_Mo_overlap_22 (post : Int → Prop) (v2 : Int) (v3 : Int) (v4 : Int) (v5 : Int) (v6 : Int) (v7 : Int) (v8 : Int) (s0 : Int) : Prop := inR v8 ∧ (v8 = 0 → wp_Mo_overlap_34 post v4 v5 v6 v7 v8 s0 v3) ∧ (¬ (v8 = 0) → wp_Mo_overlap_34 post v4 v5 v6 v7 v8 s0 v2)
def wp_Mo_overlap_10 (post : Int → Prop) (v0 : Int) (v1 : Int) (v2 : Int) (v3 : Int) (v4 : Int) (v5 : Int) (v6 : Int) (v7 : Int) (s0 : Int) : Prop := inR s0 ∧ (s0 = 0 → wp_Mo_overlap_22 post v2 v3 v4 v5 v6 v7 s0 v1) ∧ (¬ (s0 = 0) → wp_Mo_overlap_22 post v2 v3 v4 v5 v6 v7 s0 v0)
def wp_Mo_overlap (post : Int → Prop) (v0 : Int) (v1 : Int) (v2 : Int) (v3 : Int) (v4 : Int) (v5 : Int) (v6 : Int) (v7 : Int) : Prop := inR v0 ∧ inR v2 ∧ (v0 = v2 → wp_Mo_overlap_10 post v0 v1 v2 v3 v4 v5 v6 v7 0) ∧ (¬ (v0 = v2) → wp_Mo_overlap_10 post v0 v1 v2 v3 v4 v5 v6 v7 1)
set_option maxHeartbeats 4000000 in
set_option maxRecDepth 100000 in
theorem c_Mo_overlap (l : Launch) {post : Int → Prop} {v0 : Int} {v1 : Int} {v2 : Int} {v3 : Int} {v4 : Int} {v5 : Int} {v6 : Int} {v7 : Int} (hw : wp_Mo_overlap post v0 v1 v2 v3 v4 v5 v6 v7) : jSi l y_Mo_overlap prog_13_method_41_code 15 (some .boolean) 1 21 [vi v0, vi v1, vi v2, vi v3, vi v4, vi v5, vi v6, vi v7] post := by
  obtain ⟨D⟩ : Nonempty va_G := ⟨(fun _ => 0, fun _ _ => 0)⟩
  refine j_staticZ (D := D) (own := "LandBookModel") (by decide) rfl (Nat.le_of_ble_eq_true rfl) (fun X F hret => ?_)
  have B62 : ∀ (v9 : Int) (v10 : Int) (v11 : Int) (s0 : Int), wp_Mo_overlap_62 post v9 v10 v11 s0 → jat l D X 15 62 [(9, vi v9), (10, vi v10), (11, vi v11)] [vi s0] [] 0 0 := by
    intro v9 v10 v11 s0 hw
    unfold wp_Mo_overlap_62 at hw
    refine j_istore F [(12, vi s0), (9, vi v9), (10, vi v10), (11, vi v11)] d_Mo_overlap_62 (by decide) rfl ?_
    refine j_iload F 1 d_Mo_overlap_64 rfl ?_
    refine j_iload F 2 d_Mo_overlap_66 rfl ?_
    refine j_callS F (c_Mo_least l hw) (tw_gS tj_98 tj_99 tj_87 tj_100) q_Mo_least rfl ⟨by decide, by decide⟩ ⟨Nat.zero_le _, Nat.zero_le _⟩ rfl (Nat.le_of_ble_eq_true rfl) d_Mo_overlap_68 (fun r_1 hw => ?_)
    refine j_iload F 3 d_Mo_overlap_71 rfl ?_
    refine j_iload F 0 d_Mo_overlap_73 rfl ?_
    refine j_callS F (c_Mo_least l hw) (tw_gS tj_98 tj_99 tj_87 tj_100) q_Mo_least rfl ⟨by decide, by decide⟩ ⟨Nat.zero_le _, Nat.zero_le _⟩ rfl (Nat.le_of_ble_eq_true rfl) d_Mo_overlap_75 (fun r_2 hw => ?_)
    refine j_callS F (c_Mo_most l hw) (tw_gS tj_101 tj_102 tj_87 tj_103) q_Mo_most rfl ⟨by decide, by decide⟩ ⟨Nat.zero_le _, Nat.zero_le _⟩ rfl (Nat.le_of_ble_eq_true rfl) d_Mo_overlap_78 (fun r_3 hw => ?_)
    refine j_istore F [(13, vi r_3), (12, vi s0), (9, vi v9), (10, vi v10), (11, vi v11)] d_Mo_overlap_81 (by decide) rfl ?_
    refine j_iload F 2 d_Mo_overlap_83 rfl ?_
    refine j_iload F 3 d_Mo_overlap_85 rfl ?_
    refine j_callS F (c_Mo_most l hw) (tw_gS tj_101 tj_102 tj_87 tj_103) q_Mo_most rfl ⟨by decide, by decide⟩ ⟨Nat.zero_le _, Nat.zero_le _⟩ rfl (Nat.le_of_ble_eq_true rfl) d_Mo_overlap_87 (fun r_4 hw => ?_)
    refine j_iload F 4 d_Mo_overlap_90 rfl ?_
    refine j_iload F 1 d_Mo_overlap_92 rfl ?_
    refine j_callS F (c_Mo_most l hw) (tw_gS tj_101 tj_102 tj_87 tj_103) q_Mo_most rfl ⟨by decide, by decide⟩ ⟨Nat.zero_le _, Nat.zero_le _⟩ rfl (Nat.le_of_ble_eq_true rfl) d_Mo_overlap_94 (fun r_5 hw => ?_)
    refine j_callS F (c_Mo_least l hw) (tw_gS tj_98 tj_99 tj_87 tj_100) q_Mo_least rfl ⟨by decide, by decide⟩ ⟨Nat.zero_le _, Nat.zero_le _⟩ rfl (Nat.le_of_ble_eq_true rfl) d_Mo_overlap_97 (fun r_6 hw => ?_)
    refine j_istore F [(14, vi r_6), (13, vi r_3), (12, vi s0), (9, vi v9), (10, vi v10), (11, vi v11)] d_Mo_overlap_100 (by decide) rfl ?_
    refine j_iload F 1 d_Mo_overlap_102 rfl ?_
    refine j_iload F 0 d_Mo_overlap_104 rfl ?_
    obtain ⟨hc1, hc2, hwt, hwf⟩ := hw
    refine j_icmp_ge F 113 hc1 hc2 d_Mo_overlap_106 rfl (fun hh => ?_) (fun hh => ?_)
    · have hw := hwt hh
      refine j_iconst F d_Mo_overlap_113 ?_
      exact hret _ _ _ hw (Or.inl rfl) d_Mo_overlap_114
    · have hw := hwf hh
      refine j_iconst F d_Mo_overlap_109 ?_
      refine j_goto F 114 d_Mo_overlap_110 rfl ?_
      exact hret _ _ _ hw (Or.inr rfl) d_Mo_overlap_114
  have B48 : ∀ (v6 : Int) (v7 : Int) (v8 : Int) (v9 : Int) (v10 : Int) (s0 : Int), wp_Mo_overlap_48 post v6 v7 v8 v9 v10 s0 → jat l D X 15 48 [(6, vi v6), (7, vi v7), (8, vi v8), (9, vi v9), (10, vi v10)] [vi s0] [] 0 0 := by
    intro v6 v7 v8 v9 v10 s0 hw
    unfold wp_Mo_overlap_48 at hw
    refine j_istore F [(11, vi s0), (6, vi v6), (7, vi v7), (8, vi v8), (9, vi v9), (10, vi v10)] d_Mo_overlap_48 (by decide) rfl ?_
    refine j_iload F 3 d_Mo_overlap_50 rfl ?_
    obtain ⟨hc1, hwt, hwf⟩ := hw
    refine j_if_eq F 60 hc1 d_Mo_overlap_52 rfl (fun hh => ?_) (fun hh => ?_)
    · have hw := hwt hh
      refine j_iload F 2 d_Mo_overlap_60 rfl ?_
      refine j_sub [4, 5, 0] rfl ?_
      exact B62 _ _ _ _ hw
    · have hw := hwf hh
      refine j_iload F 1 d_Mo_overlap_55 rfl ?_
      refine j_goto F 62 d_Mo_overlap_57 rfl ?_
      refine j_sub [4, 5, 0] rfl ?_
      exact B62 _ _ _ _ hw
  have B34 : ∀ (v4 : Int) (v5 : Int) (v6 : Int) (v7 : Int) (v8 : Int) (v9 : Int) (s0 : Int), wp_Mo_overlap_34 post v4 v5 v6 v7 v8 v9 s0 → jat l D X 15 34 [(4, vi v4), (5, vi v5), (6, vi v6), (7, vi v7), (8, vi v8), (9, vi v9)] [vi s0] [] 0 0 := by
    intro v4 v5 v6 v7 v8 v9 s0 hw
    unfold wp_Mo_overlap_34 at hw
    refine j_istore F [(10, vi s0), (4, vi v4), (5, vi v5), (6, vi v6), (7, vi v7), (8, vi v8), (9, vi v9)] d_Mo_overlap_34 (by decide) rfl ?_
    refine j_iload F 5 d_Mo_overlap_36 rfl ?_
    obtain ⟨hc1, hwt, hwf⟩ := hw
    refine j_if_eq F 46 hc1 d_Mo_overlap_38 rfl (fun hh => ?_) (fun hh => ?_)
    · have hw := hwt hh
      refine j_iload F 2 d_Mo_overlap_46 rfl ?_
      refine j_sub [3, 4, 5, 6, 0] rfl ?_
      exact B48 _ _ _ _ _ _ hw
    · have hw := hwf hh
      refine j_iload F 1 d_Mo_overlap_41 rfl ?_
      refine j_goto F 48 d_Mo_overlap_43 rfl ?_
      refine j_sub [3, 4, 5, 6, 0] rfl ?_
      exact B48 _ _ _ _ _ _ hw
  have B22 : ∀ (v2 : Int) (v3 : Int) (v4 : Int) (v5 : Int) (v6 : Int) (v7 : Int) (v8 : Int) (s0 : Int), wp_Mo_overlap_22 post v2 v3 v4 v5 v6 v7 v8 s0 → jat l D X 15 22 [(2, vi v2), (3, vi v3), (4, vi v4), (5, vi v5), (6, vi v6), (7, vi v7), (8, vi v8)] [vi s0] [] 0 0 := by
    intro v2 v3 v4 v5 v6 v7 v8 s0 hw
    unfold wp_Mo_overlap_22 at hw
    refine j_istore F [(9, vi s0), (2, vi v2), (3, vi v3), (4, vi v4), (5, vi v5), (6, vi v6), (7, vi v7), (8, vi v8)] d_Mo_overlap_22 (by decide) rfl ?_
    refine j_iload F 7 d_Mo_overlap_24 rfl ?_
    obtain ⟨hc1, hwt, hwf⟩ := hw
    refine j_if_eq F 33 hc1 d_Mo_overlap_26 rfl (fun hh => ?_) (fun hh => ?_)
    · have hw := hwt hh
      refine j_iload_n F 2 d_Mo_overlap_33 rfl ?_
      refine j_sub [3, 4, 5, 6, 7, 0] rfl ?_
      exact B34 _ _ _ _ _ _ _ hw
    · have hw := hwf hh
      refine j_iload_n F 1 d_Mo_overlap_29 rfl ?_
      refine j_goto F 34 d_Mo_overlap_30 rfl ?_
      refine j_sub [3, 4, 5, 6, 7, 0] rfl ?_
      exact B34 _ _ _ _ _ _ _ hw
  have B10 : ∀ (v0 : Int) (v1 : Int) (v2 : Int) (v3 : Int) (v4 : Int) (v5 : Int) (v6 : Int) (v7 : Int) (s0 : Int), wp_Mo_overlap_10 post v0 v1 v2 v3 v4 v5 v6 v7 s0 → jat l D X 15 10 [(0, vi v0), (1, vi v1), (2, vi v2), (3, vi v3), (4, vi v4), (5, vi v5), (6, vi v6), (7, vi v7)] [vi s0] [] 0 0 := by
    intro v0 v1 v2 v3 v4 v5 v6 v7 s0 hw
    unfold wp_Mo_overlap_10 at hw
    refine j_istore F [(8, vi s0), (0, vi v0), (1, vi v1), (2, vi v2), (3, vi v3), (4, vi v4), (5, vi v5), (6, vi v6), (7, vi v7)] d_Mo_overlap_10 (by decide) rfl ?_
    refine j_iload F 0 d_Mo_overlap_12 rfl ?_
    obtain ⟨hc1, hwt, hwf⟩ := hw
    refine j_if_eq F 21 hc1 d_Mo_overlap_14 rfl (fun hh => ?_) (fun hh => ?_)
    · have hw := hwt hh
      refine j_iload_n F 2 d_Mo_overlap_21 rfl ?_
      refine j_sub [3, 4, 5, 6, 7, 8, 0] rfl ?_
      exact B22 _ _ _ _ _ _ _ _ hw
    · have hw := hwf hh
      refine j_iload_n F 1 d_Mo_overlap_17 rfl ?_
      refine j_goto F 22 d_Mo_overlap_18 rfl ?_
      refine j_sub [3, 4, 5, 6, 7, 8, 0] rfl ?_
      exact B22 _ _ _ _ _ _ _ _ hw
  unfold wp_Mo_overlap at hw
  show jat l D X 15 0 [(0, vi v0), (1, vi v1), (2, vi v2), (3, vi v3), (4, vi v4), (5, vi v5), (6, vi v6), (7, vi v7)] [] [] 0 0
  refine j_iload_n F 0 d_Mo_overlap_0 rfl ?_
  refine j_iload_n F 2 d_Mo_overlap_1 rfl ?_
  obtain ⟨hc1, hc2, hwt, hwf⟩ := hw
  refine j_icmp_eq F 9 hc1 hc2 d_Mo_overlap_2 rfl (fun hh => ?_) (fun hh => ?_)
  · have hw := hwt hh
    refine j_iconst F d_Mo_overlap_9 ?_
    exact B10 _ _ _ _ _ _ _ _ _ hw
  · have hw := hwf hh
    refine j_iconst F d_Mo_overlap_5 ?_
    refine j_goto F 10 d_Mo_overlap_6 rfl ?_
    exact B10 _ _ _ _ _ _ _ _ _ hw
abbrev y_Mo_apart : MethodName := ⟨"LandBookModel", "apart", "(IIII)J"⟩
theorem q_Mo_apart : y_Mo_apart.cls ≠ "java/lang/invoke/MethodHandle" ∧ y_Mo_apart.cls ≠ "java/lang/invoke/VarHandle" ∧ (parseMethodDescriptor y_Mo_apart.desc).map (fun d => d.parameters.length) = some 4 := by decide +kernel
theorem d_Mo_apart_0 : decode prog_13_method_43_code 0 = .ok (.iload_n 2, 1) := by decide +kernel
theorem d_Mo_apart_1 : decode prog_13_method_43_code 1 = .ok (.iload_n 0, 1) := by decide +kernel
theorem d_Mo_apart_2 : decode prog_13_method_43_code 2 = .ok (.isub, 1) := by decide +kernel
theorem d_Mo_apart_3 : decode prog_13_method_43_code 3 = .ok (.i2l, 1) := by decide +kernel
theorem d_Mo_apart_4 : decode prog_13_method_43_code 4 = .ok (.iload_n 2, 1) := by decide +kernel
theorem d_Mo_apart_5 : decode prog_13_method_43_code 5 = .ok (.iload_n 0, 1) := by decide +kernel
theorem d_Mo_apart_6 : decode prog_13_method_43_code 6 = .ok (.isub, 1) := by decide +kernel
theorem d_Mo_apart_7 : decode prog_13_method_43_code 7 = .ok (.i2l, 1) := by decide +kernel
theorem d_Mo_apart_8 : decode prog_13_method_43_code 8 = .ok (.lmul, 1) := by decide +kernel
theorem d_Mo_apart_9 : decode prog_13_method_43_code 9 = .ok (.iload_n 3, 1) := by decide +kernel
theorem d_Mo_apart_10 : decode prog_13_method_43_code 10 = .ok (.iload_n 1, 1) := by decide +kernel
theorem d_Mo_apart_11 : decode prog_13_method_43_code 11 = .ok (.isub, 1) := by decide +kernel
theorem d_Mo_apart_12 : decode prog_13_method_43_code 12 = .ok (.i2l, 1) := by decide +kernel
theorem d_Mo_apart_13 : decode prog_13_method_43_code 13 = .ok (.iload_n 3, 1) := by decide +kernel
theorem d_Mo_apart_14 : decode prog_13_method_43_code 14 = .ok (.iload_n 1, 1) := by decide +kernel
theorem d_Mo_apart_15 : decode prog_13_method_43_code 15 = .ok (.isub, 1) := by decide +kernel
theorem d_Mo_apart_16 : decode prog_13_method_43_code 16 = .ok (.i2l, 1) := by decide +kernel
theorem d_Mo_apart_17 : decode prog_13_method_43_code 17 = .ok (.lmul, 1) := by decide +kernel
theorem d_Mo_apart_18 : decode prog_13_method_43_code 18 = .ok (.ladd, 1) := by decide +kernel
theorem d_Mo_apart_19 : decode prog_13_method_43_code 19 = .ok (.lreturn, 1) := by decide +kernel
def wp_Mo_apart (post : Int → Prop) (v0 : Int) (v1 : Int) (v2 : Int) (v3 : Int) : Prop := inR (v2 - v0) ∧ (inR (v2 - v0) ∧ (inR (v3 - v1) ∧ (inR (v3 - v1) ∧ (post (((v2 - v0) * (v2 - v0)) + ((v3 - v1) * (v3 - v1)))))))
set_option maxHeartbeats 4000000 in
set_option maxRecDepth 100000 in
theorem c_Mo_apart (l : Launch) {post : Int → Prop} {v0 : Int} {v1 : Int} {v2 : Int} {v3 : Int} (hw : wp_Mo_apart post v0 v1 v2 v3) : jSl l y_Mo_apart prog_13_method_43_code 4 (some .long) 0 0 [vi v0, vi v1, vi v2, vi v3] post := by
  obtain ⟨D⟩ : Nonempty va_G := ⟨(fun _ => 0, fun _ _ => 0)⟩
  refine j_staticL (D := D) (own := "LandBookModel") (by decide) rfl (Nat.le_of_ble_eq_true rfl) (fun X F hret => ?_)
  unfold wp_Mo_apart at hw
  show jat l D X 4 0 [(0, vi v0), (1, vi v1), (2, vi v2), (3, vi v3)] [] [] 0 0
  refine j_iload_n F 2 d_Mo_apart_0 rfl ?_
  refine j_iload_n F 0 d_Mo_apart_1 rfl ?_
  refine j_isub F d_Mo_apart_2 ?_
  obtain ⟨hc1, hw⟩ := hw
  refine j_i2l F hc1 d_Mo_apart_3 ?_
  refine j_iload_n F 2 d_Mo_apart_4 rfl ?_
  refine j_iload_n F 0 d_Mo_apart_5 rfl ?_
  refine j_isub F d_Mo_apart_6 ?_
  obtain ⟨hc1, hw⟩ := hw
  refine j_i2l F hc1 d_Mo_apart_7 ?_
  refine j_lmul F d_Mo_apart_8 ?_
  refine j_iload_n F 3 d_Mo_apart_9 rfl ?_
  refine j_iload_n F 1 d_Mo_apart_10 rfl ?_
  refine j_isub F d_Mo_apart_11 ?_
  obtain ⟨hc1, hw⟩ := hw
  refine j_i2l F hc1 d_Mo_apart_12 ?_
  refine j_iload_n F 3 d_Mo_apart_13 rfl ?_
  refine j_iload_n F 1 d_Mo_apart_14 rfl ?_
  refine j_isub F d_Mo_apart_15 ?_
  obtain ⟨hc1, hw⟩ := hw
  refine j_i2l F hc1 d_Mo_apart_16 ?_
  refine j_lmul F d_Mo_apart_17 ?_
  refine j_ladd F d_Mo_apart_18 ?_
  exact hret _ _ _ hw d_Mo_apart_19
abbrev y_Mo_isPerson : MethodName := ⟨"LandBookModel", "isPerson", "(I)Z"⟩
theorem q_Mo_isPerson : y_Mo_isPerson.cls ≠ "java/lang/invoke/MethodHandle" ∧ y_Mo_isPerson.cls ≠ "java/lang/invoke/VarHandle" ∧ (parseMethodDescriptor y_Mo_isPerson.desc).map (fun d => d.parameters.length) = some 1 := by decide +kernel
theorem d_Mo_isPerson_0 : decode prog_13_method_56_code 0 = .ok (.iload_n 0, 1) := by decide +kernel
theorem d_Mo_isPerson_1 : decode prog_13_method_56_code 1 = .ok (.ifCond .lt 13, 3) := by decide +kernel
theorem d_Mo_isPerson_14 : decode prog_13_method_56_code 14 = .ok (.iconst 0, 1) := by decide +kernel
theorem d_Mo_isPerson_15 : decode prog_13_method_56_code 15 = .ok (.ireturn, 1) := by decide +kernel
theorem d_Mo_isPerson_4 : decode prog_13_method_56_code 4 = .ok (.iload_n 0, 1) := by decide +kernel
theorem d_Mo_isPerson_5 : decode prog_13_method_56_code 5 = .ok (.bipush 99, 2) := by decide +kernel
theorem d_Mo_isPerson_7 : decode prog_13_method_56_code 7 = .ok (.if_icmp .gt 7, 3) := by decide +kernel
theorem d_Mo_isPerson_10 : decode prog_13_method_56_code 10 = .ok (.iconst 1, 1) := by decide +kernel
theorem d_Mo_isPerson_11 : decode prog_13_method_56_code 11 = .ok (.goto 4, 3) := by decide +kernel
def wp_Mo_isPerson (post : Int → Prop) (v0 : Int) : Prop := inR v0 ∧ (v0 < 0 → post 0) ∧ (¬ (v0 < 0) → (inR v0 ∧ (99 < v0 → post 0) ∧ (¬ (99 < v0) → post 1)))
set_option maxHeartbeats 4000000 in
set_option maxRecDepth 100000 in
theorem c_Mo_isPerson (l : Launch) {post : Int → Prop} {v0 : Int} (hw : wp_Mo_isPerson post v0) : jSi l y_Mo_isPerson prog_13_method_56_code 1 (some .boolean) 0 0 [vi v0] post := by
  obtain ⟨D⟩ : Nonempty va_G := ⟨(fun _ => 0, fun _ _ => 0)⟩
  refine j_staticZ (D := D) (own := "LandBookModel") (by decide) rfl (Nat.le_of_ble_eq_true rfl) (fun X F hret => ?_)
  unfold wp_Mo_isPerson at hw
  show jat l D X 1 0 [(0, vi v0)] [] [] 0 0
  refine j_iload_n F 0 d_Mo_isPerson_0 rfl ?_
  obtain ⟨hc1, hwt, hwf⟩ := hw
  refine j_if_lt F 14 hc1 d_Mo_isPerson_1 rfl (fun hh => ?_) (fun hh => ?_)
  · have hw := hwt hh
    refine j_iconst F d_Mo_isPerson_14 ?_
    exact hret _ _ _ hw (Or.inl rfl) d_Mo_isPerson_15
  · have hw := hwf hh
    refine j_iload_n F 0 d_Mo_isPerson_4 rfl ?_
    refine j_bipush F d_Mo_isPerson_5 (j_bip (by decide) (by decide)) ?_
    obtain ⟨hc1, hwt, hwf⟩ := hw
    refine j_icmp_gt F 14 hc1 ⟨by decide, by decide⟩ d_Mo_isPerson_7 rfl (fun hh => ?_) (fun hh => ?_)
    · have hw := hwt hh
      refine j_iconst F d_Mo_isPerson_14 ?_
      exact hret _ _ _ hw (Or.inl rfl) d_Mo_isPerson_15
    · have hw := hwf hh
      refine j_iconst F d_Mo_isPerson_10 ?_
      refine j_goto F 15 d_Mo_isPerson_11 rfl ?_
      exact hret _ _ _ hw (Or.inr rfl) d_Mo_isPerson_15
theorem tj_104 : (Jvm.Cond.methodLink "LandBookModel" (271 : Nat) ({ cls := "LandBookModel", name := "isDay", desc := "(I)Z" } : Jvm.MethodName)) ∈ tw_G := tw_in (List.mem_of_getElem? (i := 1242) (by decide +kernel)) rfl
theorem tj_105 : (Jvm.Cond.static ({ cls := "LandBookModel", name := "isDay", desc := "(I)Z" } : Jvm.MethodName)) ∈ tw_G := tw_in (List.mem_of_getElem? (i := 1243) (by decide +kernel)) rfl
theorem tj_106 : (Jvm.Cond.code ({ cls := "LandBookModel", name := "isDay", desc := "(I)Z" } : Jvm.MethodName) prog_13_method_6_code (1 : Nat) (Option.some Jvm.ClassFile.FieldType.boolean)) ∈ tw_G := tw_in (List.mem_of_getElem? (i := 1244) (by decide +kernel)) rfl
abbrev y_Mo_isWhen : MethodName := ⟨"LandBookModel", "isWhen", "(II)Z"⟩
theorem q_Mo_isWhen : y_Mo_isWhen.cls ≠ "java/lang/invoke/MethodHandle" ∧ y_Mo_isWhen.cls ≠ "java/lang/invoke/VarHandle" ∧ (parseMethodDescriptor y_Mo_isWhen.desc).map (fun d => d.parameters.length) = some 2 := by decide +kernel
theorem d_Mo_isWhen_0 : decode prog_13_method_60_code 0 = .ok (.iload_n 0, 1) := by decide +kernel
theorem d_Mo_isWhen_1 : decode prog_13_method_60_code 1 = .ok (.invokestatic 271, 3) := by decide +kernel
theorem d_Mo_isWhen_4 : decode prog_13_method_60_code 4 = .ok (.ifCond .eq 11, 3) := by decide +kernel
theorem d_Mo_isWhen_15 : decode prog_13_method_60_code 15 = .ok (.iconst 0, 1) := by decide +kernel
theorem d_Mo_isWhen_16 : decode prog_13_method_60_code 16 = .ok (.ireturn, 1) := by decide +kernel
theorem d_Mo_isWhen_7 : decode prog_13_method_60_code 7 = .ok (.iload_n 1, 1) := by decide +kernel
theorem d_Mo_isWhen_8 : decode prog_13_method_60_code 8 = .ok (.ifCond .lt 7, 3) := by decide +kernel
theorem d_Mo_isWhen_11 : decode prog_13_method_60_code 11 = .ok (.iconst 1, 1) := by decide +kernel
theorem d_Mo_isWhen_12 : decode prog_13_method_60_code 12 = .ok (.goto 4, 3) := by decide +kernel
def wp_Mo_isWhen (post : Int → Prop) (v0 : Int) (v1 : Int) : Prop := wp_Mo_isDay (fun r_1 => inR r_1 ∧ (r_1 = 0 → post 0) ∧ (¬ (r_1 = 0) → (inR v1 ∧ (v1 < 0 → post 0) ∧ (¬ (v1 < 0) → post 1)))) v0
set_option maxHeartbeats 4000000 in
set_option maxRecDepth 100000 in
theorem c_Mo_isWhen (l : Launch) {post : Int → Prop} {v0 : Int} {v1 : Int} (hw : wp_Mo_isWhen post v0 v1) : jSi l y_Mo_isWhen prog_13_method_60_code 2 (some .boolean) 1 20 [vi v0, vi v1] post := by
  obtain ⟨D⟩ : Nonempty va_G := ⟨(fun _ => 0, fun _ _ => 0)⟩
  refine j_staticZ (D := D) (own := "LandBookModel") (by decide) rfl (Nat.le_of_ble_eq_true rfl) (fun X F hret => ?_)
  unfold wp_Mo_isWhen at hw
  show jat l D X 2 0 [(0, vi v0), (1, vi v1)] [] [] 0 0
  refine j_iload_n F 0 d_Mo_isWhen_0 rfl ?_
  refine j_callS F (c_Mo_isDay l hw) (tw_gS tj_104 tj_105 tj_87 tj_106) q_Mo_isDay rfl ⟨by decide, by decide⟩ ⟨Nat.zero_le _, Nat.zero_le _⟩ rfl (Nat.le_of_ble_eq_true rfl) d_Mo_isWhen_1 (fun r_1 hw => ?_)
  obtain ⟨hc1, hwt, hwf⟩ := hw
  refine j_if_eq F 15 hc1 d_Mo_isWhen_4 rfl (fun hh => ?_) (fun hh => ?_)
  · have hw := hwt hh
    refine j_iconst F d_Mo_isWhen_15 ?_
    exact hret _ _ _ hw (Or.inl rfl) d_Mo_isWhen_16
  · have hw := hwf hh
    refine j_iload_n F 1 d_Mo_isWhen_7 rfl ?_
    obtain ⟨hc1, hwt, hwf⟩ := hw
    refine j_if_lt F 15 hc1 d_Mo_isWhen_8 rfl (fun hh => ?_) (fun hh => ?_)
    · have hw := hwt hh
      refine j_iconst F d_Mo_isWhen_15 ?_
      exact hret _ _ _ hw (Or.inl rfl) d_Mo_isWhen_16
    · have hw := hwf hh
      refine j_iconst F d_Mo_isWhen_11 ?_
      refine j_goto F 16 d_Mo_isWhen_12 rfl ?_
      exact hret _ _ _ hw (Or.inr rfl) d_Mo_isWhen_16
