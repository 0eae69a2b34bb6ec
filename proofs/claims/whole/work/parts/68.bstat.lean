theorem rm_c {c m1 m3 z M : Nat} (h : c + z = M) (e : z = m1 + m3) : (c + m1) + m3 = M := by omega
theorem rm_l {c m1 m3 z M : Nat} (h : c + z = M) (e : z = m1 + m3) : c + m1 ≤ M := by omega
theorem rm_z {c z M : Nat} (h : c + z = M) : c + 0 ≤ M := by omega
theorem rm_y {c z M : Nat} (h : c + z = M) : c ≤ M := by omega
theorem rm_t {c x z M : Nat} (h : c + z = M) (e : x ≤ z) : c + x ≤ M := by omega
theorem c_aast13x {l : Launch} {D : va_G} {X : jx_C} {nL pc fr lo mc ms c n : Nat} {cc : ByteArray} {own : String} {lv : List (Nat × Value)} {st : List Value} {k : CK} {T : CS} {a : Nat} (F : jfx X cc nL own fr lo mc ms) (K : jkc k D X) (hT : cs_ok k T) {j : Int} {v : Nat} (hg : tg T a = 13) (hj : ixR j (ln T a)) (hv : tg T v = 8 ∨ tg T v = 9 ∨ tg T v = 10) (d : decode cc pc = .ok (.aastore, 1)) (kk : ∀ T1, T1 = cs_o T a j.toNat (some v) → cs_ok k T1 → jat l D X nL (pc + 1) lv st (cwd k T1) c n) : jat l D X nL pc lv (.ref v :: vi j :: .ref a :: st) (cwd k T) c n := by
  rcases hv with hv | hv | hv
  · exact c_aast13 F K hT hg hj 8 hv (by decide) rfl (by simp [cwords]) d kk
  · exact c_aast13 F K hT hg hj 9 hv (by decide) rfl (by simp [cwords]) d kk
  · exact c_aast13 F K hT hg hj 10 hv (by decide) rfl (by simp [cwords]) d kk
theorem c_copyox {l : Launch} {D : va_G} {X : jx_C} {nL pc fr lo mc ms c n : Nat} {cc : ByteArray} {own : String} {lv : List (Nat × Value)} {st : List Value} {k : CK} {T : CS} {a : Nat} (F : jfx X cc nL own fr lo mc ms) (K : jkc k D X) (hT : cs_ok k T) {b idx tt : Nat} {x y0 z : Int} (w1 : Cond.methodLink own idx arraycopyName ∈ tw_G) (w2 : Cond.native arraycopyName ∈ tw_G) (w3 : Cond.static arraycopyName ∈ tw_G) (w4 : Cond.initialized "java/lang/System" ∈ tw_G) (hR : 1 ≤ fr ∧ 8 + (nativeFrameWords "java/lang/System" "arraycopy" 5 + 11) ≤ lo) (hW : (st.map fun v => v.category).sum ≤ 8) (hg : tg T a = 13) (hg2 : tg T b = 13) (hr : (0 ≤ x ∧ 0 ≤ y0 ∧ 0 ≤ z) ∧ x + z ≤ ln T b ∧ y0 + z ≤ ln T a) (ht : tt = 8 ∨ tt = 9 ∨ tt = 10) (hel : ∀ (i v : Nat), i < z.toNat → fo T b (x.toNat + i) = some v → tg T v = tt) (d : decode cc pc = .ok (.invokestatic idx, 3)) (kk : ∀ T1, T1 = cs_co T b a x.toNat y0.toNat z.toNat → cs_ok k T1 → jat l D X nL (pc + 3) lv st (cwd k T1) c n) : jat l D X nL pc lv (vi z :: vi y0 :: .ref a :: vi x :: .ref b :: st) (cwd k T) c n := by
  rcases ht with rfl | rfl | rfl
  · exact c_copyo F K hT w1 w2 w3 w4 hR hW hg hg2 hr 8 (by decide) rfl (by simp [cwords]) hel d kk
  · exact c_copyo F K hT w1 w2 w3 w4 hR hW hg hg2 hr 9 (by decide) rfl (by simp [cwords]) hel d kk
  · exact c_copyo F K hT w1 w2 w3 w4 hR hW hg hg2 hr 10 (by decide) rfl (by simp [cwords]) hel d kk
theorem cw_push2 {k : CK} {T T1 : CS} {q : Nat} {e : va_E} (hq : q ∉ T.1) (h1 : T1.1 = T.1 ++ [q]) (he : ct_E k T1 q = e) (ho : ∀ b, b ≠ q → ct_E k T1 b = ct_E k T b) : cwd k T ++ [(q, e)] = cwd k T1 := by
  unfold cwd
  rw [va_pl_push hq, h1]
  show List.map _ _ = List.map _ _
  congr 1
  funext b
  by_cases hb : b = q
  · subst hb
    rw [va_up_self, he]
  · rw [va_up_ne _ _ hb, ho b hb]
theorem c_clone {l : Launch} {D : va_G} {X : jx_C} {nL pc fr lo mc ms c n : Nat} {cc : ByteArray} {own : String} {lv : List (Nat × Value)} {st : List Value} {k : CK} {T : CS} {a : Nat} (F : jfx X cc nL own fr lo mc ms) (K : jkc k D X) (hT : cs_ok k T) {ix : Nat} (w1 : Cond.methodLink own ix ⟨"[I", "clone", "()Ljava/lang/Object;"⟩ ∈ tw_G) (w2 : Cond.sameMethod "[I" "java/lang/Object" "clone" "()Ljava/lang/Object;" ∈ tw_G) (w3 : Cond.native ⟨"java/lang/Object", "clone", "()Ljava/lang/Object;"⟩ ∈ tw_G) (w4 : Cond.instanceMethod ⟨"java/lang/Object", "clone", "()Ljava/lang/Object;"⟩ ∈ tw_G) (w5 : Cond.selects "[I" ⟨"[I", "clone", "()Ljava/lang/Object;"⟩ ⟨"java/lang/Object", "clone", "()Ljava/lang/Object;"⟩ ∈ tw_G) (hg : tg T a = 11) (hR : 1 ≤ fr ∧ 22 ≤ lo) (hW : (st.map fun v => v.category).sum ≤ 8) (h1 : c + 1 ≤ mc) (h2 : n + ln T a ≤ ms) (d : decode cc pc = .ok (.invokevirtual ix, 3))
    (kk : ∀ q T1, tg T q = 0 → T1 = cs_cl T q a → cs_ok k T1 → jat l D X nL (pc + 3) lv (.ref q :: st) (cwd k T1) (c + 1) (n + ln T a)) : jat l D X nL pc lv (.ref a :: st) (cwd k T) c n := by
  obtain ⟨p, e, R, s, m, args, below, meth, co, Q, A, G⟩ := X
  obtain ⟨⟨hx, hb, hml, hown, hts⟩, hfr, hlo, hmc, hms⟩ := F
  intro H locs ls hl hP hD hS
  obtain ⟨q, hq⟩ := cw_get hT hg (by omega) (by omega)
  rw [ct_E_a 11 hg (by omega)] at hq
  refine va_clone (ad := "[I") hx hb (by rw [hml]; exact hl.1.symm) hown (hts _ w1) (hts _ w2) (hts _ w3) (hts _ w4) (hts _ w5) (K.2.2.2.2.2.2.2.2.1 _ (by simp [cwords])) K.1 hP hD hS.1 K.2.1 q 0 hq rfl ((K.1.2 0 _ rfl).2) ?_ (Nat.le_trans hR.1 hfr) (by omega) (by rw [hmc]; exact h1) (by rw [hms]; exact h2) d (fun q1 H1 hK1 hP1 hD1 hS1 => ?_)
  · intro i v hv
    have hlt : i < ln T a := by
      have := (Array.getElem?_eq_some_iff.mp hv).1
      rwa [show (vp_cell k.1 (ln T a, Sum.inl (fun j => iI (fi T a j)))).slots.size = ln T a from arrV_size _ _ _] at this
    have := arrV_read k.1 (N := ln T a) (j := i) (fun j => Value.int (iI (fi T a j))) hlt
    have e1 : v = .int (iI (fi T a i)) := Option.some.inj (hv.symm.trans this)
    rw [e1]
    rfl
  obtain ⟨g1, g2⟩ := c_out K.2.2.2 hD1
  obtain ⟨h0, hT1⟩ := cs_ok_new (t := 11) (n := ln T a) hT g1 g2 (by omega) (by omega) (hT.2.2.1 a)
  have e1 : cwd k T ++ [(q1, .inl (k.1, ln T a, .inl (fun j => iI (fi T a j))))] = cwd k (cs_cl T q1 a) := by
    refine cw_push2 g1 rfl ?_ ?_
    · have hg' : tg (cs_cl T q1 a) q1 = 11 := by simp [tg, cs_cl]
      rw [ct_E_a 11 hg' (by omega)]
      show (Sum.inl (k.1, ln (cs_cl T q1 a) q1, Sum.inl (fun j => iI (fi (cs_cl T q1 a) q1 j))) : va_E) = _
      simp [ln, fi, cs_cl]
    · intro b hb
      exact ct_E_ext (by simp [tg, cs_cl, hb]) (by simp [ln, cs_cl, hb]) (fun j => by simp [fi, cs_cl, hb]) (fun j => by simp [fo, cs_cl, hb])
  rw [e1] at hP1 hD1
  exact kk q1 _ h0 rfl hT1 H1 locs ls hl hP1 hD1 ⟨hS1, K.2.2.1 _⟩
theorem c_castA {l : Launch} {D : va_G} {X : jx_C} {nL pc fr lo mc ms c n : Nat} {cc : ByteArray} {own : String} {lv : List (Nat × Value)} {st : List Value} {k : CK} {T : CS} {a : Nat} (F : jfx X cc nL own fr lo mc ms) (K : jkc k D X) (hT : cs_ok k T) {ix : Nat} (w1 : Cond.classLink own ix "[I" ∈ tw_G) (hg : tg T a = 11) (d : decode cc pc = .ok (.checkcast ix, 3)) (kk : jat l D X nL (pc + 3) lv (.ref a :: st) (cwd k T) c n) : jat l D X nL pc lv (.ref a :: st) (cwd k T) c n := by
  obtain ⟨p, e, R, s, m, args, below, meth, co, Q, A, G⟩ := X
  obtain ⟨⟨hx, hb, hml, hown, hts⟩, hfr, hlo, hmc, hms⟩ := F
  intro H locs ls hl hP hD hS
  obtain ⟨q, hq⟩ := cw_get hT hg (by omega) (by omega)
  rw [ct_E_a 11 hg (by omega)] at hq
  exact va_castA hx hb hown (hts _ w1) hP q hq ((K.1.2 0 _ rfl).2) d (kk H locs ls hl hP hD hS)
abbrev y_BMa_max : MethodName := ⟨"java/lang/Math", "max", "(II)I"⟩
theorem q_BMa_max : y_BMa_max.cls ≠ "java/lang/invoke/MethodHandle" ∧ y_BMa_max.cls ≠ "java/lang/invoke/VarHandle" ∧ (parseMethodDescriptor y_BMa_max.desc).map (fun d => d.parameters.length) = some 2 := by decide +kernel
theorem d_BMa_max_0 : decode prog_22_method_65_code 0 = .ok (.iload_n 0, 1) := by decide +kernel
theorem d_BMa_max_1 : decode prog_22_method_65_code 1 = .ok (.iload_n 1, 1) := by decide +kernel
theorem d_BMa_max_2 : decode prog_22_method_65_code 2 = .ok (.if_icmp .lt 7, 3) := by decide +kernel
theorem d_BMa_max_9 : decode prog_22_method_65_code 9 = .ok (.iload_n 1, 1) := by decide +kernel
theorem d_BMa_max_10 : decode prog_22_method_65_code 10 = .ok (.ireturn, 1) := by decide +kernel
theorem d_BMa_max_5 : decode prog_22_method_65_code 5 = .ok (.iload_n 0, 1) := by decide +kernel
theorem d_BMa_max_6 : decode prog_22_method_65_code 6 = .ok (.goto 4, 3) := by decide +kernel
def wp_BMa_max (post : Int → Prop) (v0 : Int) (v1 : Int) : Prop := inR v0 ∧ inR v1 ∧ (v0 < v1 → post v1) ∧ (¬ (v0 < v1) → post v0)
set_option maxHeartbeats 4000000 in
set_option maxRecDepth 100000 in
theorem c_BMa_max (l : Launch) {post : Int → Prop} {v0 : Int} {v1 : Int} (hw : wp_BMa_max post v0 v1) : jSi l y_BMa_max prog_22_method_65_code 2 (some .int) 0 0 [vi v0, vi v1] post := by
  obtain ⟨D⟩ : Nonempty va_G := ⟨(fun _ => 0, fun _ _ => 0)⟩
  refine j_staticF (D := D) (own := "java/lang/Math") (by decide +kernel) rfl (Nat.le_of_ble_eq_true rfl) (fun X F hret => ?_)
  unfold wp_BMa_max at hw
  show jat l D X 2 0 [(0, vi v0), (1, vi v1)] [] [] 0 0
  refine j_iload_n F 0 d_BMa_max_0 rfl ?_
  refine j_iload_n F 1 d_BMa_max_1 rfl ?_
  obtain ⟨hc1, hc2, hwt, hwf⟩ := hw
  refine j_icmp_lt F 9 hc1 hc2 d_BMa_max_2 rfl (fun hh => ?_) (fun hh => ?_)
  · have hw := hwt hh
    refine j_iload_n F 1 d_BMa_max_9 rfl ?_
    exact hret _ _ _ hw d_BMa_max_10
  · have hw := hwf hh
    refine j_iload_n F 0 d_BMa_max_5 rfl ?_
    refine j_goto F 10 d_BMa_max_6 rfl ?_
    exact hret _ _ _ hw d_BMa_max_10
abbrev y_BMa_min : MethodName := ⟨"java/lang/Math", "min", "(II)I"⟩
theorem q_BMa_min : y_BMa_min.cls ≠ "java/lang/invoke/MethodHandle" ∧ y_BMa_min.cls ≠ "java/lang/invoke/VarHandle" ∧ (parseMethodDescriptor y_BMa_min.desc).map (fun d => d.parameters.length) = some 2 := by decide +kernel
theorem d_BMa_min_0 : decode prog_22_method_69_code 0 = .ok (.iload_n 0, 1) := by decide +kernel
theorem d_BMa_min_1 : decode prog_22_method_69_code 1 = .ok (.iload_n 1, 1) := by decide +kernel
theorem d_BMa_min_2 : decode prog_22_method_69_code 2 = .ok (.if_icmp .gt 7, 3) := by decide +kernel
theorem d_BMa_min_9 : decode prog_22_method_69_code 9 = .ok (.iload_n 1, 1) := by decide +kernel
theorem d_BMa_min_10 : decode prog_22_method_69_code 10 = .ok (.ireturn, 1) := by decide +kernel
theorem d_BMa_min_5 : decode prog_22_method_69_code 5 = .ok (.iload_n 0, 1) := by decide +kernel
theorem d_BMa_min_6 : decode prog_22_method_69_code 6 = .ok (.goto 4, 3) := by decide +kernel
def wp_BMa_min (post : Int → Prop) (v0 : Int) (v1 : Int) : Prop := inR v0 ∧ inR v1 ∧ (v1 < v0 → post v1) ∧ (¬ (v1 < v0) → post v0)
set_option maxHeartbeats 4000000 in
set_option maxRecDepth 100000 in
theorem c_BMa_min (l : Launch) {post : Int → Prop} {v0 : Int} {v1 : Int} (hw : wp_BMa_min post v0 v1) : jSi l y_BMa_min prog_22_method_69_code 2 (some .int) 0 0 [vi v0, vi v1] post := by
  obtain ⟨D⟩ : Nonempty va_G := ⟨(fun _ => 0, fun _ _ => 0)⟩
  refine j_staticF (D := D) (own := "java/lang/Math") (by decide +kernel) rfl (Nat.le_of_ble_eq_true rfl) (fun X F hret => ?_)
  unfold wp_BMa_min at hw
  show jat l D X 2 0 [(0, vi v0), (1, vi v1)] [] [] 0 0
  refine j_iload_n F 0 d_BMa_min_0 rfl ?_
  refine j_iload_n F 1 d_BMa_min_1 rfl ?_
  obtain ⟨hc1, hc2, hwt, hwf⟩ := hw
  refine j_icmp_gt F 9 hc1 hc2 d_BMa_min_2 rfl (fun hh => ?_) (fun hh => ?_)
  · have hw := hwt hh
    refine j_iload_n F 1 d_BMa_min_9 rfl ?_
    exact hret _ _ _ hw d_BMa_min_10
  · have hw := hwf hh
    refine j_iload_n F 0 d_BMa_min_5 rfl ?_
    refine j_goto F 10 d_BMa_min_6 rfl ?_
    exact hret _ _ _ hw d_BMa_min_10
abbrev y_BMa_fmod : MethodName := ⟨"java/lang/Math", "floorMod", "(II)I"⟩
theorem q_BMa_fmod : y_BMa_fmod.cls ≠ "java/lang/invoke/MethodHandle" ∧ y_BMa_fmod.cls ≠ "java/lang/invoke/VarHandle" ∧ (parseMethodDescriptor y_BMa_fmod.desc).map (fun d => d.parameters.length) = some 2 := by decide +kernel
theorem d_BMa_fmod_0 : decode prog_22_method_50_code 0 = .ok (.iload_n 0, 1) := by decide +kernel
theorem d_BMa_fmod_1 : decode prog_22_method_50_code 1 = .ok (.iload_n 1, 1) := by decide +kernel
theorem d_BMa_fmod_2 : decode prog_22_method_50_code 2 = .ok (.irem, 1) := by decide +kernel
theorem d_BMa_fmod_3 : decode prog_22_method_50_code 3 = .ok (.istore_n 2, 1) := by decide +kernel
theorem d_BMa_fmod_4 : decode prog_22_method_50_code 4 = .ok (.iload_n 0, 1) := by decide +kernel
theorem d_BMa_fmod_5 : decode prog_22_method_50_code 5 = .ok (.iload_n 1, 1) := by decide +kernel
theorem d_BMa_fmod_6 : decode prog_22_method_50_code 6 = .ok (.ixor, 1) := by decide +kernel
theorem d_BMa_fmod_7 : decode prog_22_method_50_code 7 = .ok (.ifCond .ge 11, 3) := by decide +kernel
theorem d_BMa_fmod_18 : decode prog_22_method_50_code 18 = .ok (.iload_n 2, 1) := by decide +kernel
theorem d_BMa_fmod_19 : decode prog_22_method_50_code 19 = .ok (.ireturn, 1) := by decide +kernel
theorem d_BMa_fmod_10 : decode prog_22_method_50_code 10 = .ok (.iload_n 2, 1) := by decide +kernel
theorem d_BMa_fmod_11 : decode prog_22_method_50_code 11 = .ok (.ifCond .eq 7, 3) := by decide +kernel
theorem d_BMa_fmod_14 : decode prog_22_method_50_code 14 = .ok (.iload_n 2, 1) := by decide +kernel
theorem d_BMa_fmod_15 : decode prog_22_method_50_code 15 = .ok (.iload_n 1, 1) := by decide +kernel
theorem d_BMa_fmod_16 : decode prog_22_method_50_code 16 = .ok (.iadd, 1) := by decide +kernel
theorem d_BMa_fmod_17 : decode prog_22_method_50_code 17 = .ok (.ireturn, 1) := by decide +kernel
def wp_BMa_fmod (post : Int → Prop) (v0 : Int) (v1 : Int) : Prop := inR v0 ∧ (0 < v1 ∧ v1 ≤ 2147483647) ∧ (∀ v2_1 : Int, v2_1 = (Int.tmod v0 v1) → inR v0 ∧ inR v1 ∧ ((0 ≤ v0 ↔ 0 ≤ v1) → post v2_1) ∧ (¬ (0 ≤ v0 ↔ 0 ≤ v1) → (inR v2_1 ∧ (v2_1 = 0 → post v2_1) ∧ (¬ (v2_1 = 0) → (post (v2_1 + v1))))))
set_option maxHeartbeats 4000000 in
set_option maxRecDepth 100000 in
theorem c_BMa_fmod (l : Launch) {post : Int → Prop} {v0 : Int} {v1 : Int} (hw : wp_BMa_fmod post v0 v1) : jSi l y_BMa_fmod prog_22_method_50_code 3 (some .int) 0 0 [vi v0, vi v1] post := by
  obtain ⟨D⟩ : Nonempty va_G := ⟨(fun _ => 0, fun _ _ => 0)⟩
  refine j_staticF (D := D) (own := "java/lang/Math") (by decide +kernel) rfl (Nat.le_of_ble_eq_true rfl) (fun X F hret => ?_)
  unfold wp_BMa_fmod at hw
  show jat l D X 3 0 [(0, vi v0), (1, vi v1)] [] [] 0 0
  refine j_iload_n F 0 d_BMa_fmod_0 rfl ?_
  refine j_iload_n F 1 d_BMa_fmod_1 rfl ?_
  obtain ⟨hc1, hc2, hw⟩ := hw
  refine j_iremT F hc1 hc2 d_BMa_fmod_2 ?_
  refine j_nmi (fun v2_1 e_v2_1 => ?_)
  have hw := hw v2_1 e_v2_1
  refine j_istore_n F [(2, vi v2_1), (0, vi v0), (1, vi v1)] d_BMa_fmod_3 (by decide) rfl ?_
  refine j_iload_n F 1 d_BMa_fmod_4 rfl ?_
  refine j_iload_n F 2 d_BMa_fmod_5 rfl ?_
  obtain ⟨hc1, hc2, hwt, hwf⟩ := hw
  refine j_ixor_ge F 18 hc1 hc2 d_BMa_fmod_6 d_BMa_fmod_7 rfl (fun hh => ?_) (fun hh => ?_)
  · have hw := hwt hh
    refine j_iload_n F 0 d_BMa_fmod_18 rfl ?_
    exact hret _ _ _ hw d_BMa_fmod_19
  · have hw := hwf hh
    refine j_iload_n F 0 d_BMa_fmod_10 rfl ?_
    obtain ⟨hc1, hwt, hwf⟩ := hw
    refine j_if_eq F 18 hc1 d_BMa_fmod_11 rfl (fun hh => ?_) (fun hh => ?_)
    · have hw := hwt hh
      refine j_iload_n F 0 d_BMa_fmod_18 rfl ?_
      exact hret _ _ _ hw d_BMa_fmod_19
    · have hw := hwf hh
      refine j_iload_n F 0 d_BMa_fmod_14 rfl ?_
      refine j_iload_n F 2 d_BMa_fmod_15 rfl ?_
      refine j_iadd F d_BMa_fmod_16 ?_
      exact hret _ _ _ hw d_BMa_fmod_17
abbrev y_BMa_fmodl : MethodName := ⟨"java/lang/Math", "floorMod", "(JJ)J"⟩
theorem q_BMa_fmodl : y_BMa_fmodl.cls ≠ "java/lang/invoke/MethodHandle" ∧ y_BMa_fmodl.cls ≠ "java/lang/invoke/VarHandle" ∧ (parseMethodDescriptor y_BMa_fmodl.desc).map (fun d => d.parameters.length) = some 2 := by decide +kernel
theorem d_BMa_fmodl_0 : decode prog_22_method_52_code 0 = .ok (.lload_n 0, 1) := by decide +kernel
theorem d_BMa_fmodl_1 : decode prog_22_method_52_code 1 = .ok (.lload_n 2, 1) := by decide +kernel
theorem d_BMa_fmodl_2 : decode prog_22_method_52_code 2 = .ok (.lrem, 1) := by decide +kernel
theorem d_BMa_fmodl_3 : decode prog_22_method_52_code 3 = .ok (.lstore 4, 2) := by decide +kernel
theorem d_BMa_fmodl_5 : decode prog_22_method_52_code 5 = .ok (.lload_n 0, 1) := by decide +kernel
theorem d_BMa_fmodl_6 : decode prog_22_method_52_code 6 = .ok (.lload_n 2, 1) := by decide +kernel
theorem d_BMa_fmodl_7 : decode prog_22_method_52_code 7 = .ok (.lxor, 1) := by decide +kernel
theorem d_BMa_fmodl_8 : decode prog_22_method_52_code 8 = .ok (.lconst 0, 1) := by decide +kernel
theorem d_BMa_fmodl_9 : decode prog_22_method_52_code 9 = .ok (.lcmp, 1) := by decide +kernel
theorem d_BMa_fmodl_10 : decode prog_22_method_52_code 10 = .ok (.ifCond .ge 15, 3) := by decide +kernel
theorem d_BMa_fmodl_13 : decode prog_22_method_52_code 13 = .ok (.lload 4, 2) := by decide +kernel
theorem d_BMa_fmodl_15 : decode prog_22_method_52_code 15 = .ok (.lconst 0, 1) := by decide +kernel
theorem d_BMa_fmodl_16 : decode prog_22_method_52_code 16 = .ok (.lcmp, 1) := by decide +kernel
theorem d_BMa_fmodl_17 : decode prog_22_method_52_code 17 = .ok (.ifCond .eq 8, 3) := by decide +kernel
theorem d_BMa_fmodl_20 : decode prog_22_method_52_code 20 = .ok (.lload 4, 2) := by decide +kernel
theorem d_BMa_fmodl_22 : decode prog_22_method_52_code 22 = .ok (.lload_n 2, 1) := by decide +kernel
theorem d_BMa_fmodl_23 : decode prog_22_method_52_code 23 = .ok (.ladd, 1) := by decide +kernel
theorem d_BMa_fmodl_24 : decode prog_22_method_52_code 24 = .ok (.lreturn, 1) := by decide +kernel
theorem d_BMa_fmodl_25 : decode prog_22_method_52_code 25 = .ok (.lload 4, 2) := by decide +kernel
theorem d_BMa_fmodl_27 : decode prog_22_method_52_code 27 = .ok (.lreturn, 1) := by decide +kernel
def wp_BMa_fmodl_25 (post : Int → Prop) (v4 : Int) : Prop := post v4
def wp_BMa_fmodl (post : Int → Prop) (v0 : Int) (v2 : Int) : Prop := dvL v0 v2 ∧ (∀ v4_1 : Int, v4_1 = (v0 % v2) → inL v0 ∧ inL v2 ∧ ((0 ≤ v0 ↔ 0 ≤ v2) → wp_BMa_fmodl_25 post v4_1) ∧ (¬ (0 ≤ v0 ↔ 0 ≤ v2) → (inL v4_1 ∧ (v4_1 = 0 → wp_BMa_fmodl_25 post v4_1) ∧ (¬ (v4_1 = 0) → (post (v4_1 + v2))))))
set_option maxHeartbeats 4000000 in
set_option maxRecDepth 100000 in
theorem c_BMa_fmodl (l : Launch) {post : Int → Prop} {v0 : Int} {v2 : Int} (hw : wp_BMa_fmodl post v0 v2) : jSl l y_BMa_fmodl prog_22_method_52_code 6 (some .long) 0 0 [vl v0, vl v2] post := by
  obtain ⟨D⟩ : Nonempty va_G := ⟨(fun _ => 0, fun _ _ => 0)⟩
  refine j_staticLF (D := D) (own := "java/lang/Math") (by decide +kernel) rfl (Nat.le_of_ble_eq_true rfl) (fun X F hret => ?_)
  have B25 : ∀ (v4 : Int), wp_BMa_fmodl_25 post v4 → jat l D X 6 25 [(4, vl v4)] [] [] 0 0 := by
    intro v4 hw
    unfold wp_BMa_fmodl_25 at hw
    refine j_lload F 0 d_BMa_fmodl_25 rfl ?_
    exact hret _ _ _ hw d_BMa_fmodl_27
  unfold wp_BMa_fmodl at hw
  show jat l D X 6 0 [(0, vl v0), (2, vl v2)] [] [] 0 0
  refine j_lload_n F 0 d_BMa_fmodl_0 rfl ?_
  refine j_lload_n F 1 d_BMa_fmodl_1 rfl ?_
  obtain ⟨hc1, hw⟩ := hw
  refine j_lrem F hc1 d_BMa_fmodl_2 ?_
  refine j_nml (fun v4_1 e_v4_1 => ?_)
  have hw := hw v4_1 e_v4_1
  refine j_lstore F [(4, vl v4_1), (0, vl v0), (2, vl v2)] d_BMa_fmodl_3 (by decide) rfl ?_
  refine j_lload_n F 1 d_BMa_fmodl_5 rfl ?_
  refine j_lload_n F 2 d_BMa_fmodl_6 rfl ?_
  obtain ⟨hc1, hc2, hwt, hwf⟩ := hw
  refine j_lxor_ge F 25 hc1 hc2 d_BMa_fmodl_7 d_BMa_fmodl_8 d_BMa_fmodl_9 d_BMa_fmodl_10 rfl (fun hh => ?_) (fun hh => ?_)
  · have hw := hwt hh
    refine j_sub [0] rfl ?_
    exact B25 _ hw
  · have hw := hwf hh
    refine j_lload F 0 d_BMa_fmodl_13 rfl ?_
    refine j_lconst (x := 0) F d_BMa_fmodl_15 (by decide) ?_
    obtain ⟨hc1, hwt, hwf⟩ := hw
    refine j_lcmp_eq F 25 hc1 ⟨by decide, by decide⟩ d_BMa_fmodl_16 d_BMa_fmodl_17 rfl (fun hh => ?_) (fun hh => ?_)
    · have hw := hwt hh
      refine j_sub [0] rfl ?_
      exact B25 _ hw
    · have hw := hwf hh
      refine j_lload F 0 d_BMa_fmodl_20 rfl ?_
      refine j_lload_n F 2 d_BMa_fmodl_22 rfl ?_
      refine j_ladd F d_BMa_fmodl_23 ?_
      exact hret _ _ _ hw d_BMa_fmodl_24
abbrev y_BIn_signum : MethodName := ⟨"java/lang/Integer", "signum", "(I)I"⟩
theorem q_BIn_signum : y_BIn_signum.cls ≠ "java/lang/invoke/MethodHandle" ∧ y_BIn_signum.cls ≠ "java/lang/invoke/VarHandle" ∧ (parseMethodDescriptor y_BIn_signum.desc).map (fun d => d.parameters.length) = some 1 := by decide +kernel
theorem d_BIn_signum_0 : decode prog_20_method_56_code 0 = .ok (.iload_n 0, 1) := by decide +kernel
theorem d_BIn_signum_1 : decode prog_20_method_56_code 1 = .ok (.bipush 31, 2) := by decide +kernel
theorem d_BIn_signum_3 : decode prog_20_method_56_code 3 = .ok (.ishr, 1) := by decide +kernel
theorem d_BIn_signum_4 : decode prog_20_method_56_code 4 = .ok (.iload_n 0, 1) := by decide +kernel
theorem d_BIn_signum_5 : decode prog_20_method_56_code 5 = .ok (.ineg, 1) := by decide +kernel
theorem d_BIn_signum_6 : decode prog_20_method_56_code 6 = .ok (.bipush 31, 2) := by decide +kernel
theorem d_BIn_signum_8 : decode prog_20_method_56_code 8 = .ok (.iushr, 1) := by decide +kernel
theorem d_BIn_signum_9 : decode prog_20_method_56_code 9 = .ok (.ior, 1) := by decide +kernel
theorem d_BIn_signum_10 : decode prog_20_method_56_code 10 = .ok (.ireturn, 1) := by decide +kernel
def wp_BIn_signum (post : Int → Prop) (v0 : Int) : Prop := inR v0 ∧ post (if v0 < 0 then -1 else if v0 = 0 then 0 else 1)
theorem c_BIn_signum (l : Launch) {post : Int → Prop} {v0 : Int} (hw : wp_BIn_signum post v0) : jSi l y_BIn_signum prog_20_method_56_code 1 (some .int) 0 0 [vi v0] post := by
  obtain ⟨D⟩ : Nonempty va_G := ⟨(fun _ => 0, fun _ _ => 0)⟩
  refine j_static (D := D) (own := "java/lang/Integer") (by decide) rfl (Nat.le_of_ble_eq_true rfl) (fun X F hret => ?_)
  show jat l D X 1 0 [(0, vi v0)] [] [] 0 0
  exact j_signum F hw.1 0 rfl d_BIn_signum_0 d_BIn_signum_1 d_BIn_signum_3 d_BIn_signum_4 d_BIn_signum_5 d_BIn_signum_6 d_BIn_signum_8 d_BIn_signum_9 (hret _ _ _ hw.2 d_BIn_signum_10)
theorem tq_85 : (Jvm.Cond.constant "LandBook$Plane" (9 : Nat) (32768 : Int32)) ∈ tw_G := tw_in (List.mem_of_getElem? (i := 351) (by decide +kernel)) rfl
abbrev y_BPl_pack : MethodName := ⟨"LandBook$Plane", "pack", "(II)I"⟩
theorem q_BPl_pack : y_BPl_pack.cls ≠ "java/lang/invoke/MethodHandle" ∧ y_BPl_pack.cls ≠ "java/lang/invoke/VarHandle" ∧ (parseMethodDescriptor y_BPl_pack.desc).map (fun d => d.parameters.length) = some 2 := by decide +kernel
theorem d_BPl_pack_0 : decode prog_8_method_2_code 0 = .ok (.iload_n 0, 1) := by decide +kernel
theorem d_BPl_pack_1 : decode prog_8_method_2_code 1 = .ok (.ldc 9, 2) := by decide +kernel
theorem d_BPl_pack_3 : decode prog_8_method_2_code 3 = .ok (.imul, 1) := by decide +kernel
theorem d_BPl_pack_4 : decode prog_8_method_2_code 4 = .ok (.iload_n 1, 1) := by decide +kernel
theorem d_BPl_pack_5 : decode prog_8_method_2_code 5 = .ok (.iadd, 1) := by decide +kernel
theorem d_BPl_pack_6 : decode prog_8_method_2_code 6 = .ok (.ireturn, 1) := by decide +kernel
def wp_BPl_pack (post : Int → Prop) (v0 : Int) (v1 : Int) : Prop := post ((v0 * 32768) + v1)
set_option maxHeartbeats 4000000 in
set_option maxRecDepth 100000 in
theorem c_BPl_pack (l : Launch) {post : Int → Prop} {v0 : Int} {v1 : Int} (hw : wp_BPl_pack post v0 v1) : jSi l y_BPl_pack prog_8_method_2_code 2 (some .int) 0 0 [vi v0, vi v1] post := by
  obtain ⟨D⟩ : Nonempty va_G := ⟨(fun _ => 0, fun _ _ => 0)⟩
  refine j_static (D := D) (own := "LandBook$Plane") (by decide) rfl (Nat.le_of_ble_eq_true rfl) (fun X F hret => ?_)
  unfold wp_BPl_pack at hw
  show jat l D X 2 0 [(0, vi v0), (1, vi v1)] [] [] 0 0
  refine j_iload_n F 0 d_BPl_pack_0 rfl ?_
  refine j_ldc (x := 32768) F tq_85 (by decide) d_BPl_pack_1 ?_
  refine j_imul F d_BPl_pack_3 ?_
  refine j_iload_n F 1 d_BPl_pack_4 rfl ?_
  refine j_iadd F d_BPl_pack_5 ?_
  exact hret _ _ _ hw d_BPl_pack_6
abbrev y_BPl_xOf : MethodName := ⟨"LandBook$Plane", "xOf", "(I)I"⟩
theorem q_BPl_xOf : y_BPl_xOf.cls ≠ "java/lang/invoke/MethodHandle" ∧ y_BPl_xOf.cls ≠ "java/lang/invoke/VarHandle" ∧ (parseMethodDescriptor y_BPl_xOf.desc).map (fun d => d.parameters.length) = some 1 := by decide +kernel
theorem d_BPl_xOf_0 : decode prog_8_method_3_code 0 = .ok (.iload_n 0, 1) := by decide +kernel
theorem d_BPl_xOf_1 : decode prog_8_method_3_code 1 = .ok (.ldc 9, 2) := by decide +kernel
theorem d_BPl_xOf_3 : decode prog_8_method_3_code 3 = .ok (.idiv, 1) := by decide +kernel
theorem d_BPl_xOf_4 : decode prog_8_method_3_code 4 = .ok (.ireturn, 1) := by decide +kernel
def wp_BPl_xOf (post : Int → Prop) (v0 : Int) : Prop := dvR v0 32768 ∧ (post (v0 / 32768))
set_option maxHeartbeats 4000000 in
set_option maxRecDepth 100000 in
theorem c_BPl_xOf (l : Launch) {post : Int → Prop} {v0 : Int} (hw : wp_BPl_xOf post v0) : jSi l y_BPl_xOf prog_8_method_3_code 1 (some .int) 0 0 [vi v0] post := by
  obtain ⟨D⟩ : Nonempty va_G := ⟨(fun _ => 0, fun _ _ => 0)⟩
  refine j_static (D := D) (own := "LandBook$Plane") (by decide) rfl (Nat.le_of_ble_eq_true rfl) (fun X F hret => ?_)
  unfold wp_BPl_xOf at hw
  show jat l D X 1 0 [(0, vi v0)] [] [] 0 0
  refine j_iload_n F 0 d_BPl_xOf_0 rfl ?_
  refine j_ldc (x := 32768) F tq_85 (by decide) d_BPl_xOf_1 ?_
  obtain ⟨hc1, hw⟩ := hw
  refine j_idiv F hc1 d_BPl_xOf_3 ?_
  exact hret _ _ _ hw d_BPl_xOf_4
abbrev y_BPl_yOf : MethodName := ⟨"LandBook$Plane", "yOf", "(I)I"⟩
theorem q_BPl_yOf : y_BPl_yOf.cls ≠ "java/lang/invoke/MethodHandle" ∧ y_BPl_yOf.cls ≠ "java/lang/invoke/VarHandle" ∧ (parseMethodDescriptor y_BPl_yOf.desc).map (fun d => d.parameters.length) = some 1 := by decide +kernel
theorem d_BPl_yOf_0 : decode prog_8_method_4_code 0 = .ok (.iload_n 0, 1) := by decide +kernel
theorem d_BPl_yOf_1 : decode prog_8_method_4_code 1 = .ok (.ldc 9, 2) := by decide +kernel
theorem d_BPl_yOf_3 : decode prog_8_method_4_code 3 = .ok (.irem, 1) := by decide +kernel
theorem d_BPl_yOf_4 : decode prog_8_method_4_code 4 = .ok (.ireturn, 1) := by decide +kernel
def wp_BPl_yOf (post : Int → Prop) (v0 : Int) : Prop := dvR v0 32768 ∧ (post (v0 % 32768))
set_option maxHeartbeats 4000000 in
set_option maxRecDepth 100000 in
theorem c_BPl_yOf (l : Launch) {post : Int → Prop} {v0 : Int} (hw : wp_BPl_yOf post v0) : jSi l y_BPl_yOf prog_8_method_4_code 1 (some .int) 0 0 [vi v0] post := by
  obtain ⟨D⟩ : Nonempty va_G := ⟨(fun _ => 0, fun _ _ => 0)⟩
  refine j_static (D := D) (own := "LandBook$Plane") (by decide) rfl (Nat.le_of_ble_eq_true rfl) (fun X F hret => ?_)
  unfold wp_BPl_yOf at hw
  show jat l D X 1 0 [(0, vi v0)] [] [] 0 0
  refine j_iload_n F 0 d_BPl_yOf_0 rfl ?_
  refine j_ldc (x := 32768) F tq_85 (by decide) d_BPl_yOf_1 ?_
  obtain ⟨hc1, hw⟩ := hw
  refine j_irem F hc1 d_BPl_yOf_3 ?_
  exact hret _ _ _ hw d_BPl_yOf_4
theorem tq_86 : (Jvm.Cond.methodLink "LandBook$Plane" (10 : Nat) ({ cls := "LandBook$Plane", name := "xOf", desc := "(I)I" } : Jvm.MethodName)) ∈ tw_G := tw_in (List.mem_of_getElem? (i := 419) (by decide +kernel)) rfl
theorem tq_87 : (Jvm.Cond.static ({ cls := "LandBook$Plane", name := "xOf", desc := "(I)I" } : Jvm.MethodName)) ∈ tw_G := tw_in (List.mem_of_getElem? (i := 420) (by decide +kernel)) rfl
theorem tq_88 : (Jvm.Cond.initialized "LandBook$Plane") ∈ tw_G := tw_in (List.mem_of_getElem? (i := 75) (by decide +kernel)) rfl
theorem tq_89 : (Jvm.Cond.code ({ cls := "LandBook$Plane", name := "xOf", desc := "(I)I" } : Jvm.MethodName) prog_8_method_3_code (1 : Nat) (Option.some Jvm.ClassFile.FieldType.int)) ∈ tw_G := tw_in (List.mem_of_getElem? (i := 421) (by decide +kernel)) rfl
theorem tq_90 : (Jvm.Cond.methodLink "LandBook$Plane" (14 : Nat) ({ cls := "LandBook$Plane", name := "yOf", desc := "(I)I" } : Jvm.MethodName)) ∈ tw_G := tw_in (List.mem_of_getElem? (i := 422) (by decide +kernel)) rfl
theorem tq_91 : (Jvm.Cond.static ({ cls := "LandBook$Plane", name := "yOf", desc := "(I)I" } : Jvm.MethodName)) ∈ tw_G := tw_in (List.mem_of_getElem? (i := 423) (by decide +kernel)) rfl
theorem tq_92 : (Jvm.Cond.code ({ cls := "LandBook$Plane", name := "yOf", desc := "(I)I" } : Jvm.MethodName) prog_8_method_4_code (1 : Nat) (Option.some Jvm.ClassFile.FieldType.int)) ∈ tw_G := tw_in (List.mem_of_getElem? (i := 424) (by decide +kernel)) rfl
theorem tq_93 : (Jvm.Cond.methodLink "LandBook$Plane" (17 : Nat) ({ cls := "java/lang/Integer", name := "signum", desc := "(I)I" } : Jvm.MethodName)) ∈ tw_G := tw_in (List.mem_of_getElem? (i := 425) (by decide +kernel)) rfl
theorem tq_94 : (Jvm.Cond.static ({ cls := "java/lang/Integer", name := "signum", desc := "(I)I" } : Jvm.MethodName)) ∈ tw_G := tw_in (List.mem_of_getElem? (i := 426) (by decide +kernel)) rfl
theorem tq_95 : (Jvm.Cond.initialized "java/lang/Integer") ∈ tw_G := tw_in (List.mem_of_getElem? (i := 79) (by decide +kernel)) rfl
theorem tq_96 : (Jvm.Cond.code ({ cls := "java/lang/Integer", name := "signum", desc := "(I)I" } : Jvm.MethodName) prog_20_method_56_code (1 : Nat) (Option.some Jvm.ClassFile.FieldType.int)) ∈ tw_G := tw_in (List.mem_of_getElem? (i := 427) (by decide +kernel)) rfl
abbrev y_BPl_turn : MethodName := ⟨"LandBook$Plane", "turn", "(III)I"⟩
theorem q_BPl_turn : y_BPl_turn.cls ≠ "java/lang/invoke/MethodHandle" ∧ y_BPl_turn.cls ≠ "java/lang/invoke/VarHandle" ∧ (parseMethodDescriptor y_BPl_turn.desc).map (fun d => d.parameters.length) = some 3 := by decide +kernel
theorem d_BPl_turn_0 : decode prog_8_method_5_code 0 = .ok (.iload_n 1, 1) := by decide +kernel
theorem d_BPl_turn_1 : decode prog_8_method_5_code 1 = .ok (.invokestatic 10, 3) := by decide +kernel
theorem d_BPl_turn_4 : decode prog_8_method_5_code 4 = .ok (.iload_n 0, 1) := by decide +kernel
theorem d_BPl_turn_5 : decode prog_8_method_5_code 5 = .ok (.invokestatic 10, 3) := by decide +kernel
theorem d_BPl_turn_8 : decode prog_8_method_5_code 8 = .ok (.isub, 1) := by decide +kernel
theorem d_BPl_turn_9 : decode prog_8_method_5_code 9 = .ok (.iload_n 2, 1) := by decide +kernel
theorem d_BPl_turn_10 : decode prog_8_method_5_code 10 = .ok (.invokestatic 14, 3) := by decide +kernel
theorem d_BPl_turn_13 : decode prog_8_method_5_code 13 = .ok (.iload_n 0, 1) := by decide +kernel
theorem d_BPl_turn_14 : decode prog_8_method_5_code 14 = .ok (.invokestatic 14, 3) := by decide +kernel
theorem d_BPl_turn_17 : decode prog_8_method_5_code 17 = .ok (.isub, 1) := by decide +kernel
theorem d_BPl_turn_18 : decode prog_8_method_5_code 18 = .ok (.imul, 1) := by decide +kernel
theorem d_BPl_turn_19 : decode prog_8_method_5_code 19 = .ok (.iload_n 1, 1) := by decide +kernel
theorem d_BPl_turn_20 : decode prog_8_method_5_code 20 = .ok (.invokestatic 14, 3) := by decide +kernel
theorem d_BPl_turn_23 : decode prog_8_method_5_code 23 = .ok (.iload_n 0, 1) := by decide +kernel
theorem d_BPl_turn_24 : decode prog_8_method_5_code 24 = .ok (.invokestatic 14, 3) := by decide +kernel
theorem d_BPl_turn_27 : decode prog_8_method_5_code 27 = .ok (.isub, 1) := by decide +kernel
theorem d_BPl_turn_28 : decode prog_8_method_5_code 28 = .ok (.iload_n 2, 1) := by decide +kernel
theorem d_BPl_turn_29 : decode prog_8_method_5_code 29 = .ok (.invokestatic 10, 3) := by decide +kernel
theorem d_BPl_turn_32 : decode prog_8_method_5_code 32 = .ok (.iload_n 0, 1) := by decide +kernel
theorem d_BPl_turn_33 : decode prog_8_method_5_code 33 = .ok (.invokestatic 10, 3) := by decide +kernel
theorem d_BPl_turn_36 : decode prog_8_method_5_code 36 = .ok (.isub, 1) := by decide +kernel
theorem d_BPl_turn_37 : decode prog_8_method_5_code 37 = .ok (.imul, 1) := by decide +kernel
theorem d_BPl_turn_38 : decode prog_8_method_5_code 38 = .ok (.isub, 1) := by decide +kernel
theorem d_BPl_turn_39 : decode prog_8_method_5_code 39 = .ok (.invokestatic 17, 3) := by decide +kernel
theorem d_BPl_turn_42 : decode prog_8_method_5_code 42 = .ok (.ireturn, 1) := by decide +kernel
def wp_BPl_turn (post : Int → Prop) (v0 : Int) (v1 : Int) (v2 : Int) : Prop := wp_BPl_xOf (fun r_1 => wp_BPl_xOf (fun r_2 => wp_BPl_yOf (fun r_3 => wp_BPl_yOf (fun r_4 => wp_BPl_yOf (fun r_5 => wp_BPl_yOf (fun r_6 => wp_BPl_xOf (fun r_7 => wp_BPl_xOf (fun r_8 => wp_BIn_signum (fun r_9 => post r_9) (((r_1 - r_2) * (r_3 - r_4)) - ((r_5 - r_6) * (r_7 - r_8)))) v0) v2) v0) v1) v0) v2) v0) v1
set_option maxHeartbeats 4000000 in
set_option maxRecDepth 100000 in
theorem c_BPl_turn (l : Launch) {post : Int → Prop} {v0 : Int} {v1 : Int} {v2 : Int} (hw : wp_BPl_turn post v0 v1 v2) : jSi l y_BPl_turn prog_8_method_5_code 3 (some .int) 1 20 [vi v0, vi v1, vi v2] post := by
  obtain ⟨D⟩ : Nonempty va_G := ⟨(fun _ => 0, fun _ _ => 0)⟩
  refine j_static (D := D) (own := "LandBook$Plane") (by decide) rfl (Nat.le_of_ble_eq_true rfl) (fun X F hret => ?_)
  unfold wp_BPl_turn at hw
  show jat l D X 3 0 [(0, vi v0), (1, vi v1), (2, vi v2)] [] [] 0 0
  refine j_iload_n F 1 d_BPl_turn_0 rfl ?_
  refine j_callS F (c_BPl_xOf l hw) (tw_gS tq_86 tq_87 tq_88 tq_89) q_BPl_xOf rfl ⟨by decide, by decide⟩ ⟨Nat.zero_le _, Nat.zero_le _⟩ rfl (Nat.le_of_ble_eq_true rfl) d_BPl_turn_1 (fun r_1 hw => ?_)
  refine j_iload_n F 0 d_BPl_turn_4 rfl ?_
  refine j_callS F (c_BPl_xOf l hw) (tw_gS tq_86 tq_87 tq_88 tq_89) q_BPl_xOf rfl ⟨by decide, by decide⟩ ⟨Nat.zero_le _, Nat.zero_le _⟩ rfl (Nat.le_of_ble_eq_true rfl) d_BPl_turn_5 (fun r_2 hw => ?_)
  refine j_isub F d_BPl_turn_8 ?_
  refine j_iload_n F 2 d_BPl_turn_9 rfl ?_
  refine j_callS F (c_BPl_yOf l hw) (tw_gS tq_90 tq_91 tq_88 tq_92) q_BPl_yOf rfl ⟨by decide, by decide⟩ ⟨Nat.zero_le _, Nat.zero_le _⟩ rfl (Nat.le_of_ble_eq_true rfl) d_BPl_turn_10 (fun r_3 hw => ?_)
  refine j_iload_n F 0 d_BPl_turn_13 rfl ?_
  refine j_callS F (c_BPl_yOf l hw) (tw_gS tq_90 tq_91 tq_88 tq_92) q_BPl_yOf rfl ⟨by decide, by decide⟩ ⟨Nat.zero_le _, Nat.zero_le _⟩ rfl (Nat.le_of_ble_eq_true rfl) d_BPl_turn_14 (fun r_4 hw => ?_)
  refine j_isub F d_BPl_turn_17 ?_
  refine j_imul F d_BPl_turn_18 ?_
  refine j_iload_n F 1 d_BPl_turn_19 rfl ?_
  refine j_callS F (c_BPl_yOf l hw) (tw_gS tq_90 tq_91 tq_88 tq_92) q_BPl_yOf rfl ⟨by decide, by decide⟩ ⟨Nat.zero_le _, Nat.zero_le _⟩ rfl (Nat.le_of_ble_eq_true rfl) d_BPl_turn_20 (fun r_5 hw => ?_)
  refine j_iload_n F 0 d_BPl_turn_23 rfl ?_
  refine j_callS F (c_BPl_yOf l hw) (tw_gS tq_90 tq_91 tq_88 tq_92) q_BPl_yOf rfl ⟨by decide, by decide⟩ ⟨Nat.zero_le _, Nat.zero_le _⟩ rfl (Nat.le_of_ble_eq_true rfl) d_BPl_turn_24 (fun r_6 hw => ?_)
  refine j_isub F d_BPl_turn_27 ?_
  refine j_iload_n F 2 d_BPl_turn_28 rfl ?_
  refine j_callS F (c_BPl_xOf l hw) (tw_gS tq_86 tq_87 tq_88 tq_89) q_BPl_xOf rfl ⟨by decide, by decide⟩ ⟨Nat.zero_le _, Nat.zero_le _⟩ rfl (Nat.le_of_ble_eq_true rfl) d_BPl_turn_29 (fun r_7 hw => ?_)
  refine j_iload_n F 0 d_BPl_turn_32 rfl ?_
  refine j_callS F (c_BPl_xOf l hw) (tw_gS tq_86 tq_87 tq_88 tq_89) q_BPl_xOf rfl ⟨by decide, by decide⟩ ⟨Nat.zero_le _, Nat.zero_le _⟩ rfl (Nat.le_of_ble_eq_true rfl) d_BPl_turn_33 (fun r_8 hw => ?_)
  refine j_isub F d_BPl_turn_36 ?_
  refine j_imul F d_BPl_turn_37 ?_
  refine j_isub F d_BPl_turn_38 ?_
  refine j_callS F (c_BIn_signum l hw) (tw_gS tq_93 tq_94 tq_95 tq_96) q_BIn_signum rfl ⟨by decide, by decide⟩ ⟨Nat.zero_le _, Nat.zero_le _⟩ rfl (Nat.le_of_ble_eq_true rfl) d_BPl_turn_39 (fun r_9 hw => ?_)
  exact hret _ _ _ hw d_BPl_turn_42
theorem tq_97 : (Jvm.Cond.methodLink "LandBook$Plane" (22 : Nat) ({ cls := "java/lang/Math", name := "min", desc := "(II)I" } : Jvm.MethodName)) ∈ tw_G := tw_in (List.mem_of_getElem? (i := 410) (by decide +kernel)) rfl
theorem tq_98 : (Jvm.Cond.static ({ cls := "java/lang/Math", name := "min", desc := "(II)I" } : Jvm.MethodName)) ∈ tw_G := tw_in (List.mem_of_getElem? (i := 411) (by decide +kernel)) rfl
theorem tq_99 : (Jvm.Cond.initialized "java/lang/Math") ∈ tw_G := tw_in (List.mem_of_getElem? (i := 76) (by decide +kernel)) rfl
theorem tq_100 : (Jvm.Cond.code ({ cls := "java/lang/Math", name := "min", desc := "(II)I" } : Jvm.MethodName) prog_22_method_69_code (2 : Nat) (Option.some Jvm.ClassFile.FieldType.int)) ∈ tw_G := tw_in (List.mem_of_getElem? (i := 412) (by decide +kernel)) rfl
theorem tq_101 : (Jvm.Cond.methodLink "LandBook$Plane" (28 : Nat) ({ cls := "java/lang/Math", name := "max", desc := "(II)I" } : Jvm.MethodName)) ∈ tw_G := tw_in (List.mem_of_getElem? (i := 413) (by decide +kernel)) rfl
theorem tq_102 : (Jvm.Cond.static ({ cls := "java/lang/Math", name := "max", desc := "(II)I" } : Jvm.MethodName)) ∈ tw_G := tw_in (List.mem_of_getElem? (i := 414) (by decide +kernel)) rfl
theorem tq_103 : (Jvm.Cond.code ({ cls := "java/lang/Math", name := "max", desc := "(II)I" } : Jvm.MethodName) prog_22_method_65_code (2 : Nat) (Option.some Jvm.ClassFile.FieldType.int)) ∈ tw_G := tw_in (List.mem_of_getElem? (i := 415) (by decide +kernel)) rfl
theorem tq_104 : (Jvm.Cond.methodLink "LandBook$Plane" (31 : Nat) ({ cls := "LandBook$Plane", name := "turn", desc := "(III)I" } : Jvm.MethodName)) ∈ tw_G := tw_in (List.mem_of_getElem? (i := 416) (by decide +kernel)) rfl
theorem tq_105 : (Jvm.Cond.static ({ cls := "LandBook$Plane", name := "turn", desc := "(III)I" } : Jvm.MethodName)) ∈ tw_G := tw_in (List.mem_of_getElem? (i := 417) (by decide +kernel)) rfl
theorem tq_106 : (Jvm.Cond.code ({ cls := "LandBook$Plane", name := "turn", desc := "(III)I" } : Jvm.MethodName) prog_8_method_5_code (3 : Nat) (Option.some Jvm.ClassFile.FieldType.int)) ∈ tw_G := tw_in (List.mem_of_getElem? (i := 418) (by decide +kernel)) rfl
abbrev y_BPl_lies : MethodName := ⟨"LandBook$Plane", "lies", "(III)Z"⟩
theorem q_BPl_lies : y_BPl_lies.cls ≠ "java/lang/invoke/MethodHandle" ∧ y_BPl_lies.cls ≠ "java/lang/invoke/VarHandle" ∧ (parseMethodDescriptor y_BPl_lies.desc).map (fun d => d.parameters.length) = some 3 := by decide +kernel
theorem d_BPl_lies_0 : decode prog_8_method_6_code 0 = .ok (.iload_n 0, 1) := by decide +kernel
theorem d_BPl_lies_1 : decode prog_8_method_6_code 1 = .ok (.iload_n 1, 1) := by decide +kernel
theorem d_BPl_lies_2 : decode prog_8_method_6_code 2 = .ok (.iload_n 2, 1) := by decide +kernel
theorem d_BPl_lies_3 : decode prog_8_method_6_code 3 = .ok (.invokestatic 22, 3) := by decide +kernel
theorem d_BPl_lies_6 : decode prog_8_method_6_code 6 = .ok (.if_icmp .lt 25, 3) := by decide +kernel
theorem d_BPl_lies_31 : decode prog_8_method_6_code 31 = .ok (.iconst 0, 1) := by decide +kernel
theorem d_BPl_lies_32 : decode prog_8_method_6_code 32 = .ok (.ireturn, 1) := by decide +kernel
theorem d_BPl_lies_9 : decode prog_8_method_6_code 9 = .ok (.iload_n 0, 1) := by decide +kernel
theorem d_BPl_lies_10 : decode prog_8_method_6_code 10 = .ok (.iload_n 1, 1) := by decide +kernel
theorem d_BPl_lies_11 : decode prog_8_method_6_code 11 = .ok (.iload_n 2, 1) := by decide +kernel
theorem d_BPl_lies_12 : decode prog_8_method_6_code 12 = .ok (.invokestatic 28, 3) := by decide +kernel
theorem d_BPl_lies_15 : decode prog_8_method_6_code 15 = .ok (.if_icmp .gt 16, 3) := by decide +kernel
theorem d_BPl_lies_18 : decode prog_8_method_6_code 18 = .ok (.iload_n 1, 1) := by decide +kernel
theorem d_BPl_lies_19 : decode prog_8_method_6_code 19 = .ok (.iload_n 2, 1) := by decide +kernel
theorem d_BPl_lies_20 : decode prog_8_method_6_code 20 = .ok (.iload_n 0, 1) := by decide +kernel
theorem d_BPl_lies_21 : decode prog_8_method_6_code 21 = .ok (.invokestatic 31, 3) := by decide +kernel
theorem d_BPl_lies_24 : decode prog_8_method_6_code 24 = .ok (.ifCond .ne 7, 3) := by decide +kernel
theorem d_BPl_lies_27 : decode prog_8_method_6_code 27 = .ok (.iconst 1, 1) := by decide +kernel
theorem d_BPl_lies_28 : decode prog_8_method_6_code 28 = .ok (.goto 4, 3) := by decide +kernel
def wp_BPl_lies (post : Int → Prop) (v0 : Int) (v1 : Int) (v2 : Int) : Prop := wp_BMa_min (fun r_1 => inR v0 ∧ inR r_1 ∧ (v0 < r_1 → post 0) ∧ (¬ (v0 < r_1) → (wp_BMa_max (fun r_2 => inR v0 ∧ inR r_2 ∧ (r_2 < v0 → post 0) ∧ (¬ (r_2 < v0) → (wp_BPl_turn (fun r_3 => inR r_3 ∧ (¬ (r_3 = 0) → post 0) ∧ (r_3 = 0 → post 1)) v1 v2 v0))) v1 v2))) v1 v2
set_option maxHeartbeats 4000000 in
set_option maxRecDepth 100000 in
theorem c_BPl_lies (l : Launch) {post : Int → Prop} {v0 : Int} {v1 : Int} {v2 : Int} (hw : wp_BPl_lies post v0 v1 v2) : jSi l y_BPl_lies prog_8_method_6_code 3 (some .boolean) 2 42 [vi v0, vi v1, vi v2] post := by
  obtain ⟨D⟩ : Nonempty va_G := ⟨(fun _ => 0, fun _ _ => 0)⟩
  refine j_staticZ (D := D) (own := "LandBook$Plane") (by decide) rfl (Nat.le_of_ble_eq_true rfl) (fun X F hret => ?_)
  unfold wp_BPl_lies at hw
  show jat l D X 3 0 [(0, vi v0), (1, vi v1), (2, vi v2)] [] [] 0 0
  refine j_iload_n F 0 d_BPl_lies_0 rfl ?_
  refine j_iload_n F 1 d_BPl_lies_1 rfl ?_
  refine j_iload_n F 2 d_BPl_lies_2 rfl ?_
  refine j_callS F (c_BMa_min l hw) (tw_gS tq_97 tq_98 tq_99 tq_100) q_BMa_min rfl ⟨by decide, by decide⟩ ⟨Nat.zero_le _, Nat.zero_le _⟩ rfl (Nat.le_of_ble_eq_true rfl) d_BPl_lies_3 (fun r_1 hw => ?_)
  obtain ⟨hc1, hc2, hwt, hwf⟩ := hw
  refine j_icmp_lt F 31 hc1 hc2 d_BPl_lies_6 rfl (fun hh => ?_) (fun hh => ?_)
  · have hw := hwt hh
    refine j_iconst F d_BPl_lies_31 ?_
    exact hret _ _ _ hw (Or.inl rfl) d_BPl_lies_32
  · have hw := hwf hh
    refine j_iload_n F 0 d_BPl_lies_9 rfl ?_
    refine j_iload_n F 1 d_BPl_lies_10 rfl ?_
    refine j_iload_n F 2 d_BPl_lies_11 rfl ?_
    refine j_callS F (c_BMa_max l hw) (tw_gS tq_101 tq_102 tq_99 tq_103) q_BMa_max rfl ⟨by decide, by decide⟩ ⟨Nat.zero_le _, Nat.zero_le _⟩ rfl (Nat.le_of_ble_eq_true rfl) d_BPl_lies_12 (fun r_2 hw => ?_)
    obtain ⟨hc1, hc2, hwt, hwf⟩ := hw
    refine j_icmp_gt F 31 hc1 hc2 d_BPl_lies_15 rfl (fun hh => ?_) (fun hh => ?_)
    · have hw := hwt hh
      refine j_iconst F d_BPl_lies_31 ?_
      exact hret _ _ _ hw (Or.inl rfl) d_BPl_lies_32
    · have hw := hwf hh
      refine j_iload_n F 1 d_BPl_lies_18 rfl ?_
      refine j_iload_n F 2 d_BPl_lies_19 rfl ?_
      refine j_iload_n F 0 d_BPl_lies_20 rfl ?_
      refine j_callS F (c_BPl_turn l hw) (tw_gS tq_104 tq_105 tq_88 tq_106) q_BPl_turn rfl ⟨by decide, by decide⟩ ⟨Nat.zero_le _, Nat.zero_le _⟩ rfl (Nat.le_of_ble_eq_true rfl) d_BPl_lies_21 (fun r_3 hw => ?_)
      obtain ⟨hc1, hwt, hwf⟩ := hw
      refine j_if_ne F 31 hc1 d_BPl_lies_24 rfl (fun hh => ?_) (fun hh => ?_)
      · have hw := hwt hh
        refine j_iconst F d_BPl_lies_31 ?_
        exact hret _ _ _ hw (Or.inl rfl) d_BPl_lies_32
      · have hw := hwf hh
        refine j_iconst F d_BPl_lies_27 ?_
        refine j_goto F 32 d_BPl_lies_28 rfl ?_
        exact hret _ _ _ hw (Or.inr rfl) d_BPl_lies_32
abbrev y_BPl_meeting : MethodName := ⟨"LandBook$Plane", "meeting", "(IIII)I"⟩
theorem q_BPl_meeting : y_BPl_meeting.cls ≠ "java/lang/invoke/MethodHandle" ∧ y_BPl_meeting.cls ≠ "java/lang/invoke/VarHandle" ∧ (parseMethodDescriptor y_BPl_meeting.desc).map (fun d => d.parameters.length) = some 4 := by decide +kernel
theorem d_BPl_meeting_0 : decode prog_8_method_7_code 0 = .ok (.iload_n 0, 1) := by decide +kernel
theorem d_BPl_meeting_1 : decode prog_8_method_7_code 1 = .ok (.iload_n 1, 1) := by decide +kernel
theorem d_BPl_meeting_2 : decode prog_8_method_7_code 2 = .ok (.invokestatic 22, 3) := by decide +kernel
theorem d_BPl_meeting_5 : decode prog_8_method_7_code 5 = .ok (.iload_n 2, 1) := by decide +kernel
theorem d_BPl_meeting_6 : decode prog_8_method_7_code 6 = .ok (.iload_n 3, 1) := by decide +kernel
theorem d_BPl_meeting_7 : decode prog_8_method_7_code 7 = .ok (.invokestatic 22, 3) := by decide +kernel
theorem d_BPl_meeting_10 : decode prog_8_method_7_code 10 = .ok (.invokestatic 28, 3) := by decide +kernel
theorem d_BPl_meeting_13 : decode prog_8_method_7_code 13 = .ok (.istore 4, 2) := by decide +kernel
theorem d_BPl_meeting_15 : decode prog_8_method_7_code 15 = .ok (.iload_n 0, 1) := by decide +kernel
theorem d_BPl_meeting_16 : decode prog_8_method_7_code 16 = .ok (.iload_n 1, 1) := by decide +kernel
theorem d_BPl_meeting_17 : decode prog_8_method_7_code 17 = .ok (.invokestatic 28, 3) := by decide +kernel
theorem d_BPl_meeting_20 : decode prog_8_method_7_code 20 = .ok (.iload_n 2, 1) := by decide +kernel
theorem d_BPl_meeting_21 : decode prog_8_method_7_code 21 = .ok (.iload_n 3, 1) := by decide +kernel
theorem d_BPl_meeting_22 : decode prog_8_method_7_code 22 = .ok (.invokestatic 28, 3) := by decide +kernel
theorem d_BPl_meeting_25 : decode prog_8_method_7_code 25 = .ok (.invokestatic 22, 3) := by decide +kernel
theorem d_BPl_meeting_28 : decode prog_8_method_7_code 28 = .ok (.istore 5, 2) := by decide +kernel
theorem d_BPl_meeting_30 : decode prog_8_method_7_code 30 = .ok (.iload 4, 2) := by decide +kernel
theorem d_BPl_meeting_32 : decode prog_8_method_7_code 32 = .ok (.iload 5, 2) := by decide +kernel
theorem d_BPl_meeting_34 : decode prog_8_method_7_code 34 = .ok (.if_icmp .le 5, 3) := by decide +kernel
theorem d_BPl_meeting_39 : decode prog_8_method_7_code 39 = .ok (.iload_n 0, 1) := by decide +kernel
theorem d_BPl_meeting_40 : decode prog_8_method_7_code 40 = .ok (.iload_n 1, 1) := by decide +kernel
theorem d_BPl_meeting_41 : decode prog_8_method_7_code 41 = .ok (.iload_n 2, 1) := by decide +kernel
theorem d_BPl_meeting_42 : decode prog_8_method_7_code 42 = .ok (.invokestatic 31, 3) := by decide +kernel
theorem d_BPl_meeting_45 : decode prog_8_method_7_code 45 = .ok (.istore 6, 2) := by decide +kernel
theorem d_BPl_meeting_47 : decode prog_8_method_7_code 47 = .ok (.iload_n 0, 1) := by decide +kernel
theorem d_BPl_meeting_48 : decode prog_8_method_7_code 48 = .ok (.iload_n 1, 1) := by decide +kernel
theorem d_BPl_meeting_49 : decode prog_8_method_7_code 49 = .ok (.iload_n 3, 1) := by decide +kernel
theorem d_BPl_meeting_50 : decode prog_8_method_7_code 50 = .ok (.invokestatic 31, 3) := by decide +kernel
theorem d_BPl_meeting_53 : decode prog_8_method_7_code 53 = .ok (.istore 7, 2) := by decide +kernel
theorem d_BPl_meeting_55 : decode prog_8_method_7_code 55 = .ok (.iload 6, 2) := by decide +kernel
theorem d_BPl_meeting_57 : decode prog_8_method_7_code 57 = .ok (.ifCond .ne 21, 3) := by decide +kernel
theorem d_BPl_meeting_60 : decode prog_8_method_7_code 60 = .ok (.iload 7, 2) := by decide +kernel
theorem d_BPl_meeting_62 : decode prog_8_method_7_code 62 = .ok (.ifCond .ne 16, 3) := by decide +kernel
theorem d_BPl_meeting_65 : decode prog_8_method_7_code 65 = .ok (.iload 4, 2) := by decide +kernel
theorem d_BPl_meeting_67 : decode prog_8_method_7_code 67 = .ok (.iload 5, 2) := by decide +kernel
theorem d_BPl_meeting_69 : decode prog_8_method_7_code 69 = .ok (.if_icmp .ge 7, 3) := by decide +kernel
theorem d_BPl_meeting_76 : decode prog_8_method_7_code 76 = .ok (.iconst 1, 1) := by decide +kernel
theorem d_BPl_meeting_77 : decode prog_8_method_7_code 77 = .ok (.ireturn, 1) := by decide +kernel
theorem d_BPl_meeting_72 : decode prog_8_method_7_code 72 = .ok (.iconst 2, 1) := by decide +kernel
theorem d_BPl_meeting_73 : decode prog_8_method_7_code 73 = .ok (.goto 4, 3) := by decide +kernel
theorem d_BPl_meeting_37 : decode prog_8_method_7_code 37 = .ok (.iconst 0, 1) := by decide +kernel
theorem d_BPl_meeting_38 : decode prog_8_method_7_code 38 = .ok (.ireturn, 1) := by decide +kernel
theorem d_BPl_meeting_78 : decode prog_8_method_7_code 78 = .ok (.iload 6, 2) := by decide +kernel
theorem d_BPl_meeting_80 : decode prog_8_method_7_code 80 = .ok (.iload 7, 2) := by decide +kernel
theorem d_BPl_meeting_82 : decode prog_8_method_7_code 82 = .ok (.imul, 1) := by decide +kernel
theorem d_BPl_meeting_83 : decode prog_8_method_7_code 83 = .ok (.ifCond .gt 23, 3) := by decide +kernel
theorem d_BPl_meeting_106 : decode prog_8_method_7_code 106 = .ok (.iconst 0, 1) := by decide +kernel
theorem d_BPl_meeting_86 : decode prog_8_method_7_code 86 = .ok (.iload_n 2, 1) := by decide +kernel
theorem d_BPl_meeting_87 : decode prog_8_method_7_code 87 = .ok (.iload_n 3, 1) := by decide +kernel
theorem d_BPl_meeting_88 : decode prog_8_method_7_code 88 = .ok (.iload_n 0, 1) := by decide +kernel
theorem d_BPl_meeting_89 : decode prog_8_method_7_code 89 = .ok (.invokestatic 31, 3) := by decide +kernel
theorem d_BPl_meeting_92 : decode prog_8_method_7_code 92 = .ok (.iload_n 2, 1) := by decide +kernel
theorem d_BPl_meeting_93 : decode prog_8_method_7_code 93 = .ok (.iload_n 3, 1) := by decide +kernel
theorem d_BPl_meeting_94 : decode prog_8_method_7_code 94 = .ok (.iload_n 1, 1) := by decide +kernel
theorem d_BPl_meeting_95 : decode prog_8_method_7_code 95 = .ok (.invokestatic 31, 3) := by decide +kernel
theorem d_BPl_meeting_98 : decode prog_8_method_7_code 98 = .ok (.imul, 1) := by decide +kernel
theorem d_BPl_meeting_99 : decode prog_8_method_7_code 99 = .ok (.ifCond .gt 7, 3) := by decide +kernel
theorem d_BPl_meeting_102 : decode prog_8_method_7_code 102 = .ok (.iconst 1, 1) := by decide +kernel
theorem d_BPl_meeting_103 : decode prog_8_method_7_code 103 = .ok (.goto 4, 3) := by decide +kernel
theorem d_BPl_meeting_107 : decode prog_8_method_7_code 107 = .ok (.istore 8, 2) := by decide +kernel
theorem d_BPl_meeting_109 : decode prog_8_method_7_code 109 = .ok (.iload 8, 2) := by decide +kernel
theorem d_BPl_meeting_111 : decode prog_8_method_7_code 111 = .ok (.ifCond .eq 7, 3) := by decide +kernel
theorem d_BPl_meeting_118 : decode prog_8_method_7_code 118 = .ok (.iconst 0, 1) := by decide +kernel
theorem d_BPl_meeting_119 : decode prog_8_method_7_code 119 = .ok (.ireturn, 1) := by decide +kernel
theorem d_BPl_meeting_114 : decode prog_8_method_7_code 114 = .ok (.iconst 1, 1) := by decide +kernel
theorem d_BPl_meeting_115 : decode prog_8_method_7_code 115 = .ok (.goto 4, 3) := by decide +kernel
def wp_BPl_meeting_107 (post : Int → Prop) (s0 : Int) : Prop := inR s0 ∧ (s0 = 0 → post 0) ∧ (¬ (s0 = 0) → post 1)
def wp_BPl_meeting_78 (post : Int → Prop) (v0 : Int) (v1 : Int) (v2 : Int) (v3 : Int) (v6 : Int) (v7 : Int) : Prop := inR (v6 * v7) ∧ (0 < (v6 * v7) → wp_BPl_meeting_107 post 0) ∧ (¬ (0 < (v6 * v7)) → (wp_BPl_turn (fun r_1 => wp_BPl_turn (fun r_2 => inR (r_1 * r_2) ∧ (0 < (r_1 * r_2) → wp_BPl_meeting_107 post 0) ∧ (¬ (0 < (r_1 * r_2)) → wp_BPl_meeting_107 post 1)) v2 v3 v1) v2 v3 v0))
def wp_BPl_meeting (post : Int → Prop) (v0 : Int) (v1 : Int) (v2 : Int) (v3 : Int) : Prop := wp_BMa_min (fun r_1 => wp_BMa_min (fun r_2 => wp_BMa_max (fun r_3 => wp_BMa_max (fun r_4 => wp_BMa_max (fun r_5 => wp_BMa_min (fun r_6 => inR r_3 ∧ inR r_6 ∧ (r_3 ≤ r_6 → (wp_BPl_turn (fun r_7 => wp_BPl_turn (fun r_8 => inR r_7 ∧ (¬ (r_7 = 0) → wp_BPl_meeting_78 post v0 v1 v2 v3 r_7 r_8) ∧ (r_7 = 0 → (inR r_8 ∧ (¬ (r_8 = 0) → wp_BPl_meeting_78 post v0 v1 v2 v3 r_7 r_8) ∧ (r_8 = 0 → (inR r_3 ∧ inR r_6 ∧ (r_6 ≤ r_3 → post 1) ∧ (¬ (r_6 ≤ r_3) → post 2)))))) v0 v1 v3) v0 v1 v2)) ∧ (¬ (r_3 ≤ r_6) → post 0)) r_4 r_5) v2 v3) v0 v1) r_1 r_2) v2 v3) v0 v1
set_option maxHeartbeats 4000000 in
set_option maxRecDepth 100000 in
theorem c_BPl_meeting (l : Launch) {post : Int → Prop} {v0 : Int} {v1 : Int} {v2 : Int} {v3 : Int} (hw : wp_BPl_meeting post v0 v1 v2 v3) : jSi l y_BPl_meeting prog_8_method_7_code 9 (some .int) 2 42 [vi v0, vi v1, vi v2, vi v3] post := by
  obtain ⟨D⟩ : Nonempty va_G := ⟨(fun _ => 0, fun _ _ => 0)⟩
  refine j_static (D := D) (own := "LandBook$Plane") (by decide) rfl (Nat.le_of_ble_eq_true rfl) (fun X F hret => ?_)
  have B107 : ∀ (s0 : Int), wp_BPl_meeting_107 post s0 → jat l D X 9 107 [] [vi s0] [] 0 0 := by
    intro s0 hw
    unfold wp_BPl_meeting_107 at hw
    refine j_istore F [(8, vi s0)] d_BPl_meeting_107 (by decide) rfl ?_
    refine j_iload F 0 d_BPl_meeting_109 rfl ?_
    obtain ⟨hc1, hwt, hwf⟩ := hw
    refine j_if_eq F 118 hc1 d_BPl_meeting_111 rfl (fun hh => ?_) (fun hh => ?_)
    · have hw := hwt hh
      refine j_iconst F d_BPl_meeting_118 ?_
      exact hret _ _ _ hw d_BPl_meeting_119
    · have hw := hwf hh
      refine j_iconst F d_BPl_meeting_114 ?_
      refine j_goto F 119 d_BPl_meeting_115 rfl ?_
      exact hret _ _ _ hw d_BPl_meeting_119
  have B78 : ∀ (v0 : Int) (v1 : Int) (v2 : Int) (v3 : Int) (v6 : Int) (v7 : Int), wp_BPl_meeting_78 post v0 v1 v2 v3 v6 v7 → jat l D X 9 78 [(0, vi v0), (1, vi v1), (2, vi v2), (3, vi v3), (6, vi v6), (7, vi v7)] [] [] 0 0 := by
    intro v0 v1 v2 v3 v6 v7 hw
    unfold wp_BPl_meeting_78 at hw
    refine j_iload F 4 d_BPl_meeting_78 rfl ?_
    refine j_iload F 5 d_BPl_meeting_80 rfl ?_
    refine j_imul F d_BPl_meeting_82 ?_
    obtain ⟨hc1, hwt, hwf⟩ := hw
    refine j_if_gt F 106 hc1 d_BPl_meeting_83 rfl (fun hh => ?_) (fun hh => ?_)
    · have hw := hwt hh
      refine j_iconst F d_BPl_meeting_106 ?_
      refine j_sub [] rfl ?_
      exact B107 _ hw
    · have hw := hwf hh
      refine j_iload_n F 2 d_BPl_meeting_86 rfl ?_
      refine j_iload_n F 3 d_BPl_meeting_87 rfl ?_
      refine j_iload_n F 0 d_BPl_meeting_88 rfl ?_
      refine j_callS F (c_BPl_turn l hw) (tw_gS tq_104 tq_105 tq_88 tq_106) q_BPl_turn rfl ⟨by decide, by decide⟩ ⟨Nat.zero_le _, Nat.zero_le _⟩ rfl (Nat.le_of_ble_eq_true rfl) d_BPl_meeting_89 (fun r_1 hw => ?_)
      refine j_iload_n F 2 d_BPl_meeting_92 rfl ?_
      refine j_iload_n F 3 d_BPl_meeting_93 rfl ?_
      refine j_iload_n F 1 d_BPl_meeting_94 rfl ?_
      refine j_callS F (c_BPl_turn l hw) (tw_gS tq_104 tq_105 tq_88 tq_106) q_BPl_turn rfl ⟨by decide, by decide⟩ ⟨Nat.zero_le _, Nat.zero_le _⟩ rfl (Nat.le_of_ble_eq_true rfl) d_BPl_meeting_95 (fun r_2 hw => ?_)
      refine j_imul F d_BPl_meeting_98 ?_
      obtain ⟨hc1, hwt, hwf⟩ := hw
      refine j_if_gt F 106 hc1 d_BPl_meeting_99 rfl (fun hh => ?_) (fun hh => ?_)
      · have hw := hwt hh
        refine j_iconst F d_BPl_meeting_106 ?_
        refine j_sub [] rfl ?_
        exact B107 _ hw
      · have hw := hwf hh
        refine j_iconst F d_BPl_meeting_102 ?_
        refine j_goto F 107 d_BPl_meeting_103 rfl ?_
        refine j_sub [] rfl ?_
        exact B107 _ hw
  unfold wp_BPl_meeting at hw
  show jat l D X 9 0 [(0, vi v0), (1, vi v1), (2, vi v2), (3, vi v3)] [] [] 0 0
  refine j_iload_n F 0 d_BPl_meeting_0 rfl ?_
  refine j_iload_n F 1 d_BPl_meeting_1 rfl ?_
  refine j_callS F (c_BMa_min l hw) (tw_gS tq_97 tq_98 tq_99 tq_100) q_BMa_min rfl ⟨by decide, by decide⟩ ⟨Nat.zero_le _, Nat.zero_le _⟩ rfl (Nat.le_of_ble_eq_true rfl) d_BPl_meeting_2 (fun r_1 hw => ?_)
  refine j_iload_n F 2 d_BPl_meeting_5 rfl ?_
  refine j_iload_n F 3 d_BPl_meeting_6 rfl ?_
  refine j_callS F (c_BMa_min l hw) (tw_gS tq_97 tq_98 tq_99 tq_100) q_BMa_min rfl ⟨by decide, by decide⟩ ⟨Nat.zero_le _, Nat.zero_le _⟩ rfl (Nat.le_of_ble_eq_true rfl) d_BPl_meeting_7 (fun r_2 hw => ?_)
  refine j_callS F (c_BMa_max l hw) (tw_gS tq_101 tq_102 tq_99 tq_103) q_BMa_max rfl ⟨by decide, by decide⟩ ⟨Nat.zero_le _, Nat.zero_le _⟩ rfl (Nat.le_of_ble_eq_true rfl) d_BPl_meeting_10 (fun r_3 hw => ?_)
  refine j_istore F [(4, vi r_3), (0, vi v0), (1, vi v1), (2, vi v2), (3, vi v3)] d_BPl_meeting_13 (by decide) rfl ?_
  refine j_iload_n F 1 d_BPl_meeting_15 rfl ?_
  refine j_iload_n F 2 d_BPl_meeting_16 rfl ?_
  refine j_callS F (c_BMa_max l hw) (tw_gS tq_101 tq_102 tq_99 tq_103) q_BMa_max rfl ⟨by decide, by decide⟩ ⟨Nat.zero_le _, Nat.zero_le _⟩ rfl (Nat.le_of_ble_eq_true rfl) d_BPl_meeting_17 (fun r_4 hw => ?_)
  refine j_iload_n F 3 d_BPl_meeting_20 rfl ?_
  refine j_iload_n F 4 d_BPl_meeting_21 rfl ?_
  refine j_callS F (c_BMa_max l hw) (tw_gS tq_101 tq_102 tq_99 tq_103) q_BMa_max rfl ⟨by decide, by decide⟩ ⟨Nat.zero_le _, Nat.zero_le _⟩ rfl (Nat.le_of_ble_eq_true rfl) d_BPl_meeting_22 (fun r_5 hw => ?_)
  refine j_callS F (c_BMa_min l hw) (tw_gS tq_97 tq_98 tq_99 tq_100) q_BMa_min rfl ⟨by decide, by decide⟩ ⟨Nat.zero_le _, Nat.zero_le _⟩ rfl (Nat.le_of_ble_eq_true rfl) d_BPl_meeting_25 (fun r_6 hw => ?_)
  refine j_istore F [(5, vi r_6), (4, vi r_3), (0, vi v0), (1, vi v1), (2, vi v2), (3, vi v3)] d_BPl_meeting_28 (by decide) rfl ?_
  refine j_iload F 1 d_BPl_meeting_30 rfl ?_
  refine j_iload F 0 d_BPl_meeting_32 rfl ?_
  obtain ⟨hc1, hc2, hwt, hwf⟩ := hw
  refine j_icmp_le F 39 hc1 hc2 d_BPl_meeting_34 rfl (fun hh => ?_) (fun hh => ?_)
  · have hw := hwt hh
    refine j_iload_n F 2 d_BPl_meeting_39 rfl ?_
    refine j_iload_n F 3 d_BPl_meeting_40 rfl ?_
    refine j_iload_n F 4 d_BPl_meeting_41 rfl ?_
    refine j_callS F (c_BPl_turn l hw) (tw_gS tq_104 tq_105 tq_88 tq_106) q_BPl_turn rfl ⟨by decide, by decide⟩ ⟨Nat.zero_le _, Nat.zero_le _⟩ rfl (Nat.le_of_ble_eq_true rfl) d_BPl_meeting_42 (fun r_7 hw => ?_)
    refine j_istore F [(6, vi r_7), (5, vi r_6), (4, vi r_3), (0, vi v0), (1, vi v1), (2, vi v2), (3, vi v3)] d_BPl_meeting_45 (by decide) rfl ?_
    refine j_iload_n F 3 d_BPl_meeting_47 rfl ?_
    refine j_iload_n F 4 d_BPl_meeting_48 rfl ?_
    refine j_iload_n F 6 d_BPl_meeting_49 rfl ?_
    refine j_callS F (c_BPl_turn l hw) (tw_gS tq_104 tq_105 tq_88 tq_106) q_BPl_turn rfl ⟨by decide, by decide⟩ ⟨Nat.zero_le _, Nat.zero_le _⟩ rfl (Nat.le_of_ble_eq_true rfl) d_BPl_meeting_50 (fun r_8 hw => ?_)
    refine j_istore F [(7, vi r_8), (6, vi r_7), (5, vi r_6), (4, vi r_3), (0, vi v0), (1, vi v1), (2, vi v2), (3, vi v3)] d_BPl_meeting_53 (by decide) rfl ?_
    refine j_iload F 1 d_BPl_meeting_55 rfl ?_
    obtain ⟨hc1, hwt, hwf⟩ := hw
    refine j_if_ne F 78 hc1 d_BPl_meeting_57 rfl (fun hh => ?_) (fun hh => ?_)
    · have hw := hwt hh
      refine j_sub [4, 5, 6, 7, 1, 0] rfl ?_
      exact B78 _ _ _ _ _ _ hw
    · have hw := hwf hh
      refine j_iload F 0 d_BPl_meeting_60 rfl ?_
      obtain ⟨hc1, hwt, hwf⟩ := hw
      refine j_if_ne F 78 hc1 d_BPl_meeting_62 rfl (fun hh => ?_) (fun hh => ?_)
      · have hw := hwt hh
        refine j_sub [4, 5, 6, 7, 1, 0] rfl ?_
        exact B78 _ _ _ _ _ _ hw
      · have hw := hwf hh
        refine j_iload F 3 d_BPl_meeting_65 rfl ?_
        refine j_iload F 2 d_BPl_meeting_67 rfl ?_
        obtain ⟨hc1, hc2, hwt, hwf⟩ := hw
        refine j_icmp_ge F 76 hc1 hc2 d_BPl_meeting_69 rfl (fun hh => ?_) (fun hh => ?_)
        · have hw := hwt hh
          refine j_iconst F d_BPl_meeting_76 ?_
          exact hret _ _ _ hw d_BPl_meeting_77
        · have hw := hwf hh
          refine j_iconst F d_BPl_meeting_72 ?_
          refine j_goto F 77 d_BPl_meeting_73 rfl ?_
          exact hret _ _ _ hw d_BPl_meeting_77
  · have hw := hwf hh
    refine j_iconst F d_BPl_meeting_37 ?_
    exact hret _ _ _ hw d_BPl_meeting_38
theorem tq_107 : (Jvm.Cond.methodLink "LandBook$Rings" (50 : Nat) ({ cls := "java/lang/Math", name := "min", desc := "(II)I" } : Jvm.MethodName)) ∈ tw_G := tw_in (List.mem_of_getElem? (i := 646) (by decide +kernel)) rfl
theorem tq_108 : (Jvm.Cond.methodLink "LandBook$Rings" (56 : Nat) ({ cls := "java/lang/Math", name := "max", desc := "(II)I" } : Jvm.MethodName)) ∈ tw_G := tw_in (List.mem_of_getElem? (i := 647) (by decide +kernel)) rfl
abbrev y_BRi_isBetween : MethodName := ⟨"LandBook$Rings", "isBetween", "(III)Z"⟩
theorem q_BRi_isBetween : y_BRi_isBetween.cls ≠ "java/lang/invoke/MethodHandle" ∧ y_BRi_isBetween.cls ≠ "java/lang/invoke/VarHandle" ∧ (parseMethodDescriptor y_BRi_isBetween.desc).map (fun d => d.parameters.length) = some 3 := by decide +kernel
theorem d_BRi_isBetween_0 : decode prog_11_method_6_code 0 = .ok (.iload_n 1, 1) := by decide +kernel
theorem d_BRi_isBetween_1 : decode prog_11_method_6_code 1 = .ok (.iload_n 0, 1) := by decide +kernel
theorem d_BRi_isBetween_2 : decode prog_11_method_6_code 2 = .ok (.iload_n 2, 1) := by decide +kernel
theorem d_BRi_isBetween_3 : decode prog_11_method_6_code 3 = .ok (.invokestatic 50, 3) := by decide +kernel
theorem d_BRi_isBetween_6 : decode prog_11_method_6_code 6 = .ok (.if_icmp .lt 16, 3) := by decide +kernel
theorem d_BRi_isBetween_22 : decode prog_11_method_6_code 22 = .ok (.iconst 0, 1) := by decide +kernel
theorem d_BRi_isBetween_23 : decode prog_11_method_6_code 23 = .ok (.ireturn, 1) := by decide +kernel
theorem d_BRi_isBetween_9 : decode prog_11_method_6_code 9 = .ok (.iload_n 1, 1) := by decide +kernel
theorem d_BRi_isBetween_10 : decode prog_11_method_6_code 10 = .ok (.iload_n 0, 1) := by decide +kernel
theorem d_BRi_isBetween_11 : decode prog_11_method_6_code 11 = .ok (.iload_n 2, 1) := by decide +kernel
theorem d_BRi_isBetween_12 : decode prog_11_method_6_code 12 = .ok (.invokestatic 56, 3) := by decide +kernel
theorem d_BRi_isBetween_15 : decode prog_11_method_6_code 15 = .ok (.if_icmp .gt 7, 3) := by decide +kernel
theorem d_BRi_isBetween_18 : decode prog_11_method_6_code 18 = .ok (.iconst 1, 1) := by decide +kernel
theorem d_BRi_isBetween_19 : decode prog_11_method_6_code 19 = .ok (.goto 4, 3) := by decide +kernel
def wp_BRi_isBetween (post : Int → Prop) (v0 : Int) (v1 : Int) (v2 : Int) : Prop := wp_BMa_min (fun r_1 => inR v1 ∧ inR r_1 ∧ (v1 < r_1 → post 0) ∧ (¬ (v1 < r_1) → (wp_BMa_max (fun r_2 => inR v1 ∧ inR r_2 ∧ (r_2 < v1 → post 0) ∧ (¬ (r_2 < v1) → post 1)) v0 v2))) v0 v2
set_option maxHeartbeats 4000000 in
set_option maxRecDepth 100000 in
theorem c_BRi_isBetween (l : Launch) {post : Int → Prop} {v0 : Int} {v1 : Int} {v2 : Int} (hw : wp_BRi_isBetween post v0 v1 v2) : jSi l y_BRi_isBetween prog_11_method_6_code 3 (some .boolean) 1 21 [vi v0, vi v1, vi v2] post := by
  obtain ⟨D⟩ : Nonempty va_G := ⟨(fun _ => 0, fun _ _ => 0)⟩
  refine j_staticZ (D := D) (own := "LandBook$Rings") (by decide) rfl (Nat.le_of_ble_eq_true rfl) (fun X F hret => ?_)
  unfold wp_BRi_isBetween at hw
  show jat l D X 3 0 [(0, vi v0), (1, vi v1), (2, vi v2)] [] [] 0 0
  refine j_iload_n F 1 d_BRi_isBetween_0 rfl ?_
  refine j_iload_n F 0 d_BRi_isBetween_1 rfl ?_
  refine j_iload_n F 2 d_BRi_isBetween_2 rfl ?_
  refine j_callS F (c_BMa_min l hw) (tw_gS tq_107 tq_98 tq_99 tq_100) q_BMa_min rfl ⟨by decide, by decide⟩ ⟨Nat.zero_le _, Nat.zero_le _⟩ rfl (Nat.le_of_ble_eq_true rfl) d_BRi_isBetween_3 (fun r_1 hw => ?_)
  obtain ⟨hc1, hc2, hwt, hwf⟩ := hw
  refine j_icmp_lt F 22 hc1 hc2 d_BRi_isBetween_6 rfl (fun hh => ?_) (fun hh => ?_)
  · have hw := hwt hh
    refine j_iconst F d_BRi_isBetween_22 ?_
    exact hret _ _ _ hw (Or.inl rfl) d_BRi_isBetween_23
  · have hw := hwf hh
    refine j_iload_n F 1 d_BRi_isBetween_9 rfl ?_
    refine j_iload_n F 0 d_BRi_isBetween_10 rfl ?_
    refine j_iload_n F 2 d_BRi_isBetween_11 rfl ?_
    refine j_callS F (c_BMa_max l hw) (tw_gS tq_108 tq_102 tq_99 tq_103) q_BMa_max rfl ⟨by decide, by decide⟩ ⟨Nat.zero_le _, Nat.zero_le _⟩ rfl (Nat.le_of_ble_eq_true rfl) d_BRi_isBetween_12 (fun r_2 hw => ?_)
    obtain ⟨hc1, hc2, hwt, hwf⟩ := hw
    refine j_icmp_gt F 22 hc1 hc2 d_BRi_isBetween_15 rfl (fun hh => ?_) (fun hh => ?_)
    · have hw := hwt hh
      refine j_iconst F d_BRi_isBetween_22 ?_
      exact hret _ _ _ hw (Or.inl rfl) d_BRi_isBetween_23
    · have hw := hwf hh
      refine j_iconst F d_BRi_isBetween_18 ?_
      refine j_goto F 23 d_BRi_isBetween_19 rfl ?_
      exact hret _ _ _ hw (Or.inr rfl) d_BRi_isBetween_23
abbrev y_BPc_checkIndex : MethodName := ⟨"jdk/internal/util/Preconditions", "checkIndex", "(IILjava/util/function/BiFunction;)I"⟩
theorem q_BPc_checkIndex : y_BPc_checkIndex.cls ≠ "java/lang/invoke/MethodHandle" ∧ y_BPc_checkIndex.cls ≠ "java/lang/invoke/VarHandle" ∧ (parseMethodDescriptor y_BPc_checkIndex.desc).map (fun d => d.parameters.length) = some 3 := by decide +kernel
theorem d_BPc_checkIndex_0 : decode prog_38_method_11_code 0 = .ok (.iload_n 0, 1) := by decide +kernel
theorem d_BPc_checkIndex_1 : decode prog_38_method_11_code 1 = .ok (.ifCond .lt 8, 3) := by decide +kernel
theorem d_BPc_checkIndex_4 : decode prog_38_method_11_code 4 = .ok (.iload_n 0, 1) := by decide +kernel
theorem d_BPc_checkIndex_5 : decode prog_38_method_11_code 5 = .ok (.iload_n 1, 1) := by decide +kernel
theorem d_BPc_checkIndex_6 : decode prog_38_method_11_code 6 = .ok (.if_icmp .lt 10, 3) := by decide +kernel
theorem d_BPc_checkIndex_16 : decode prog_38_method_11_code 16 = .ok (.iload_n 0, 1) := by decide +kernel
theorem d_BPc_checkIndex_17 : decode prog_38_method_11_code 17 = .ok (.ireturn, 1) := by decide +kernel
def wp_BPc_checkIndex (post : Int → Prop) (v0 : Int) (v1 : Int) : Prop := inR v0 ∧ (v0 < 0 → False) ∧ (¬ (v0 < 0) → (inR v0 ∧ inR v1 ∧ (v0 < v1 → post v0) ∧ (¬ (v0 < v1) → False)))
set_option maxHeartbeats 4000000 in
set_option maxRecDepth 100000 in
theorem c_BPc_checkIndex (l : Launch) {post : Int → Prop} {v0 : Int} {v1 : Int} (hw : wp_BPc_checkIndex post v0 v1) : jSi l y_BPc_checkIndex prog_38_method_11_code 3 (some .int) 0 0 [vi v0, vi v1, .null] post := by
  obtain ⟨D⟩ : Nonempty va_G := ⟨(fun _ => 0, fun _ _ => 0)⟩
  refine j_static (D := D) (own := "jdk/internal/util/Preconditions") (by decide) rfl (Nat.le_of_ble_eq_true rfl) (fun X F hret => ?_)
  unfold wp_BPc_checkIndex at hw
  show jat l D X 3 0 [(0, vi v0), (1, vi v1), (2, .null)] [] [] 0 0
  refine j_iload_n F 0 d_BPc_checkIndex_0 rfl ?_
  obtain ⟨hc1, hwt, hwf⟩ := hw
  refine j_if_lt F 9 hc1 d_BPc_checkIndex_1 rfl (fun hh => ?_) (fun hh => ?_)
  · have hw := hwt hh
    exact hw.elim
  · have hw := hwf hh
    refine j_iload_n F 0 d_BPc_checkIndex_4 rfl ?_
    refine j_iload_n F 1 d_BPc_checkIndex_5 rfl ?_
    obtain ⟨hc1, hc2, hwt, hwf⟩ := hw
    refine j_icmp_lt F 16 hc1 hc2 d_BPc_checkIndex_6 rfl (fun hh => ?_) (fun hh => ?_)
    · have hw := hwt hh
      refine j_iload_n F 0 d_BPc_checkIndex_16 rfl ?_
      exact hret _ _ _ hw d_BPc_checkIndex_17
    · have hw := hwf hh
      exact hw.elim
theorem tq_109 : (Jvm.Cond.methodLink "java/util/Objects" (105 : Nat) ({ cls := "jdk/internal/util/Preconditions", name := "checkIndex", desc := "(IILjava/util/function/BiFunction;)I" } : Jvm.MethodName)) ∈ tw_G := tw_in (List.mem_of_getElem? (i := 596) (by decide +kernel)) rfl
theorem tq_110 : (Jvm.Cond.static ({ cls := "jdk/internal/util/Preconditions", name := "checkIndex", desc := "(IILjava/util/function/BiFunction;)I" } : Jvm.MethodName)) ∈ tw_G := tw_in (List.mem_of_getElem? (i := 597) (by decide +kernel)) rfl
theorem tq_111 : (Jvm.Cond.initialized "jdk/internal/util/Preconditions") ∈ tw_G := tw_in (List.mem_of_getElem? (i := 86) (by decide +kernel)) rfl
theorem tq_112 : (Jvm.Cond.code ({ cls := "jdk/internal/util/Preconditions", name := "checkIndex", desc := "(IILjava/util/function/BiFunction;)I" } : Jvm.MethodName) prog_38_method_11_code (3 : Nat) (Option.some Jvm.ClassFile.FieldType.int)) ∈ tw_G := tw_in (List.mem_of_getElem? (i := 598) (by decide +kernel)) rfl
abbrev y_BOb_checkIndex : MethodName := ⟨"java/util/Objects", "checkIndex", "(II)I"⟩
theorem q_BOb_checkIndex : y_BOb_checkIndex.cls ≠ "java/lang/invoke/MethodHandle" ∧ y_BOb_checkIndex.cls ≠ "java/lang/invoke/VarHandle" ∧ (parseMethodDescriptor y_BOb_checkIndex.desc).map (fun d => d.parameters.length) = some 2 := by decide +kernel
theorem d_BOb_checkIndex_0 : decode prog_34_method_17_code 0 = .ok (.iload_n 0, 1) := by decide +kernel
theorem d_BOb_checkIndex_1 : decode prog_34_method_17_code 1 = .ok (.iload_n 1, 1) := by decide +kernel
theorem d_BOb_checkIndex_2 : decode prog_34_method_17_code 2 = .ok (.aconst_null, 1) := by decide +kernel
theorem d_BOb_checkIndex_3 : decode prog_34_method_17_code 3 = .ok (.invokestatic 105, 3) := by decide +kernel
theorem d_BOb_checkIndex_6 : decode prog_34_method_17_code 6 = .ok (.ireturn, 1) := by decide +kernel
def wp_BOb_checkIndex (post : Int → Prop) (v0 : Int) (v1 : Int) : Prop := wp_BPc_checkIndex (fun r_1 => post r_1) v0 v1
set_option maxHeartbeats 4000000 in
set_option maxRecDepth 100000 in
theorem c_BOb_checkIndex (l : Launch) {post : Int → Prop} {v0 : Int} {v1 : Int} (hw : wp_BOb_checkIndex post v0 v1) : jSi l y_BOb_checkIndex prog_34_method_17_code 2 (some .int) 1 22 [vi v0, vi v1] post := by
  obtain ⟨D⟩ : Nonempty va_G := ⟨(fun _ => 0, fun _ _ => 0)⟩
  refine j_static (D := D) (own := "java/util/Objects") (by decide) rfl (Nat.le_of_ble_eq_true rfl) (fun X F hret => ?_)
  unfold wp_BOb_checkIndex at hw
  show jat l D X 2 0 [(0, vi v0), (1, vi v1)] [] [] 0 0
  refine j_iload_n F 0 d_BOb_checkIndex_0 rfl ?_
  refine j_iload_n F 1 d_BOb_checkIndex_1 rfl ?_
  refine j_null F d_BOb_checkIndex_2 ?_
  refine j_callS F (c_BPc_checkIndex l hw) (tw_gS tq_109 tq_110 tq_111 tq_112) q_BPc_checkIndex rfl ⟨by decide, by decide⟩ ⟨Nat.zero_le _, Nat.zero_le _⟩ rfl (Nat.le_of_ble_eq_true rfl) d_BOb_checkIndex_3 (fun r_1 hw => ?_)
  exact hret _ _ _ hw d_BOb_checkIndex_6
theorem tq_113 : (Jvm.Cond.methodLink "jdk/internal/util/ArraysSupport" (194 : Nat) ({ cls := "java/lang/Math", name := "max", desc := "(II)I" } : Jvm.MethodName)) ∈ tw_G := tw_in (List.mem_of_getElem? (i := 497) (by decide +kernel)) rfl
theorem tq_114 : (Jvm.Cond.constant "jdk/internal/util/ArraysSupport" (200 : Nat) (2147483639 : Int32)) ∈ tw_G := tw_in (List.mem_of_getElem? (i := 498) (by decide +kernel)) rfl
abbrev y_BAS_newLength : MethodName := ⟨"jdk/internal/util/ArraysSupport", "newLength", "(III)I"⟩
theorem q_BAS_newLength : y_BAS_newLength.cls ≠ "java/lang/invoke/MethodHandle" ∧ y_BAS_newLength.cls ≠ "java/lang/invoke/VarHandle" ∧ (parseMethodDescriptor y_BAS_newLength.desc).map (fun d => d.parameters.length) = some 3 := by decide +kernel
theorem d_BAS_newLength_0 : decode prog_37_method_27_code 0 = .ok (.iload_n 0, 1) := by decide +kernel
theorem d_BAS_newLength_1 : decode prog_37_method_27_code 1 = .ok (.iload_n 1, 1) := by decide +kernel
theorem d_BAS_newLength_2 : decode prog_37_method_27_code 2 = .ok (.iload_n 2, 1) := by decide +kernel
theorem d_BAS_newLength_3 : decode prog_37_method_27_code 3 = .ok (.invokestatic 194, 3) := by decide +kernel
theorem d_BAS_newLength_6 : decode prog_37_method_27_code 6 = .ok (.iadd, 1) := by decide +kernel
theorem d_BAS_newLength_7 : decode prog_37_method_27_code 7 = .ok (.istore_n 3, 1) := by decide +kernel
theorem d_BAS_newLength_8 : decode prog_37_method_27_code 8 = .ok (.iconst 0, 1) := by decide +kernel
theorem d_BAS_newLength_9 : decode prog_37_method_27_code 9 = .ok (.iload_n 3, 1) := by decide +kernel
theorem d_BAS_newLength_10 : decode prog_37_method_27_code 10 = .ok (.if_icmp .ge 11, 3) := by decide +kernel
theorem d_BAS_newLength_13 : decode prog_37_method_27_code 13 = .ok (.iload_n 3, 1) := by decide +kernel
theorem d_BAS_newLength_14 : decode prog_37_method_27_code 14 = .ok (.ldc 200, 2) := by decide +kernel
theorem d_BAS_newLength_16 : decode prog_37_method_27_code 16 = .ok (.if_icmp .gt 5, 3) := by decide +kernel
theorem d_BAS_newLength_19 : decode prog_37_method_27_code 19 = .ok (.iload_n 3, 1) := by decide +kernel
theorem d_BAS_newLength_20 : decode prog_37_method_27_code 20 = .ok (.ireturn, 1) := by decide +kernel
def wp_BAS_newLength (post : Int → Prop) (v0 : Int) (v1 : Int) (v2 : Int) : Prop := wp_BMa_max (fun r_1 => ∀ v3_2 : Int, v3_2 = (v0 + r_1) → inR v3_2 ∧ (v3_2 ≤ 0 → False) ∧ (¬ (v3_2 ≤ 0) → (inR v3_2 ∧ (2147483639 < v3_2 → False) ∧ (¬ (2147483639 < v3_2) → post v3_2)))) v1 v2
set_option maxHeartbeats 4000000 in
set_option maxRecDepth 100000 in
theorem c_BAS_newLength (l : Launch) {post : Int → Prop} {v0 : Int} {v1 : Int} {v2 : Int} (hw : wp_BAS_newLength post v0 v1 v2) : jSi l y_BAS_newLength prog_37_method_27_code 4 (some .int) 1 21 [vi v0, vi v1, vi v2] post := by
  obtain ⟨D⟩ : Nonempty va_G := ⟨(fun _ => 0, fun _ _ => 0)⟩
  refine j_static (D := D) (own := "jdk/internal/util/ArraysSupport") (by decide) rfl (Nat.le_of_ble_eq_true rfl) (fun X F hret => ?_)
  unfold wp_BAS_newLength at hw
  show jat l D X 4 0 [(0, vi v0), (1, vi v1), (2, vi v2)] [] [] 0 0
  refine j_iload_n F 0 d_BAS_newLength_0 rfl ?_
  refine j_iload_n F 1 d_BAS_newLength_1 rfl ?_
  refine j_iload_n F 2 d_BAS_newLength_2 rfl ?_
  refine j_callS F (c_BMa_max l hw) (tw_gS tq_113 tq_102 tq_99 tq_103) q_BMa_max rfl ⟨by decide, by decide⟩ ⟨Nat.zero_le _, Nat.zero_le _⟩ rfl (Nat.le_of_ble_eq_true rfl) d_BAS_newLength_3 (fun r_1 hw => ?_)
  refine j_iadd F d_BAS_newLength_6 ?_
  refine j_nmi (fun v3_2 e_v3_2 => ?_)
  have hw := hw v3_2 e_v3_2
  refine j_istore_n F [(3, vi v3_2), (0, vi v0), (1, vi v1), (2, vi v2)] d_BAS_newLength_7 (by decide) rfl ?_
  refine j_iconst F d_BAS_newLength_8 ?_
  refine j_iload_n F 0 d_BAS_newLength_9 rfl ?_
  obtain ⟨hc1, hwt, hwf⟩ := hw
  refine j_icmp_ge F 21 ⟨by decide, by decide⟩ hc1 d_BAS_newLength_10 rfl (fun hh => ?_) (fun hh => ?_)
  · have hw := hwt hh
    exact hw.elim
  · have hw := hwf hh
    refine j_iload_n F 0 d_BAS_newLength_13 rfl ?_
    refine j_ldc (x := 2147483639) F tq_114 (by decide) d_BAS_newLength_14 ?_
    obtain ⟨hc1, hwt, hwf⟩ := hw
    refine j_icmp_gt F 21 hc1 ⟨by decide, by decide⟩ d_BAS_newLength_16 rfl (fun hh => ?_) (fun hh => ?_)
    · have hw := hwt hh
      exact hw.elim
    · have hw := hwf hh
      refine j_iload_n F 0 d_BAS_newLength_19 rfl ?_
      exact hret _ _ _ hw d_BAS_newLength_20
