abbrev y_Points_add : MethodName := ⟨"LandBook$Points", "add", "(I)V"⟩
abbrev w_Points_add : List Cond := Cond.code y_Points_add prog_9_method_3_code 2 none :: tw_G
theorem d_Points_add_0 : decode prog_9_method_3_code 0 = .ok (.aload_n 0, 1) := by decide +kernel
theorem d_Points_add_1 : decode prog_9_method_3_code 1 = .ok (.getfield 13, 3) := by decide +kernel
theorem d_Points_add_4 : decode prog_9_method_3_code 4 = .ok (.aload_n 0, 1) := by decide +kernel
theorem d_Points_add_5 : decode prog_9_method_3_code 5 = .ok (.getfield 7, 3) := by decide +kernel
theorem d_Points_add_8 : decode prog_9_method_3_code 8 = .ok (.arraylength, 1) := by decide +kernel
theorem d_Points_add_9 : decode prog_9_method_3_code 9 = .ok (.if_icmp .ge 23, 3) := by decide +kernel
theorem d_Points_add_12 : decode prog_9_method_3_code 12 = .ok (.aload_n 0, 1) := by decide +kernel
theorem d_Points_add_13 : decode prog_9_method_3_code 13 = .ok (.getfield 7, 3) := by decide +kernel
theorem d_Points_add_16 : decode prog_9_method_3_code 16 = .ok (.aload_n 0, 1) := by decide +kernel
theorem d_Points_add_17 : decode prog_9_method_3_code 17 = .ok (.getfield 13, 3) := by decide +kernel
theorem d_Points_add_20 : decode prog_9_method_3_code 20 = .ok (.iload_n 1, 1) := by decide +kernel
theorem d_Points_add_21 : decode prog_9_method_3_code 21 = .ok (.iastore, 1) := by decide +kernel
theorem d_Points_add_22 : decode prog_9_method_3_code 22 = .ok (.aload_n 0, 1) := by decide +kernel
theorem d_Points_add_23 : decode prog_9_method_3_code 23 = .ok (.dup, 1) := by decide +kernel
theorem d_Points_add_24 : decode prog_9_method_3_code 24 = .ok (.getfield 13, 3) := by decide +kernel
theorem d_Points_add_27 : decode prog_9_method_3_code 27 = .ok (.iconst 1, 1) := by decide +kernel
theorem d_Points_add_28 : decode prog_9_method_3_code 28 = .ok (.iadd, 1) := by decide +kernel
theorem d_Points_add_29 : decode prog_9_method_3_code 29 = .ok (.putfield 13, 3) := by decide +kernel
theorem d_Points_add_32 : decode prog_9_method_3_code 32 = .ok (.return_, 1) := by decide +kernel
set_option maxHeartbeats 4000000 in
set_option maxRecDepth 100000 in
theorem c_Points_add (l : Launch) (dC : Nat → ClassId) (dI : Nat → Nat → Nat) (h sz a n : Nat) (cI : ClassId) (f : Nat → Int32) (k v : Int32) (hk : ¬ Int32.ofNat n ≤ k) (hi : vp_in k n) : Met l y_Points_add w_Points_add ({ frames := 0, cells := 0, slots := 0, locals := 0 }) (tw_P4 (dC, dI) classes [(h, .inr (1, [.ref a, .int k])), (a, .inl (cI, n, .inl (f)))] [(cI, .int)] sz [.ref h, .int v]) (va_Qv (fun _ : Unit => True) (fun u => tw_B dC dI (va_A [(h, .inr (1, [.ref a, .int k])), (a, .inl (cI, n, .inl (f)))] sz) [(h, .inr (1, [.ref a, .int (k + 1)])), (a, .inl (cI, n, .inl (upd (f) (k).toNatClampNeg (v))))] [(cI, .int)]) (va_A [(h, .inr (1, [.ref a, .int k])), (a, .inl (cI, n, .inl (f)))] sz)) 0 0 (va_A [(h, .inr (1, [.ref a, .int k])), (a, .inl (cI, n, .inl (f)))] sz) := by
  refine Met.ofW (cc := prog_9_method_3_code) (maxL := 2) (ret := none) (by decide) rfl ?_
  intro p e s m args below meth c s₁ B hml hv
  obtain ⟨rfl, hsz, hP, hK, hD0⟩ := hv
  have hx := B.exec
  have hb := B.bytes
  have hr := B.returns
  have hts : ∀ w ∈ tw_G, w.before _ s = true := fun w h => atoms_spec (ws := w_Points_add) B.pre w (List.mem_cons_of_mem _ h)
  have hown : s.vm.findClass "LandBook$Points" = some m.cls := findClass_of_methodNamed B.named
  have hlocks := B.notSynchronized
  subst hsz
  have hD := hD0.self (sz := s.heap.size)
  generalize hAe : va_A [(h, .inr (1, [.ref a, .int k])), (a, .inl (cI, n, .inl (f)))] s.heap.size = A at hD ⊢
  have hA : ∀ q : Nat, s.heap.size ≤ q → A q := fun q h => by rw [← hAe]; exact Or.inr h
  have hS : va_S A s.heap s.heap [] := va_S.rf
  have hP : va_P (dC, dI) classes [(h, .inr (1, [.ref a, .int k])), (a, .inl (cI, n, .inl (f)))] s.heap := hP
  have hl := lv_entry ([.ref h, .int v]) (n := 2) (Nat.le_of_ble_eq_true rfl)
  rw [lg_entry_eq]
  generalize (lg_sl ([.ref h, .int v]) ++ List.replicate (2 - (lg_sl ([.ref h, .int v])).length) Slot.unset).toArray = ls at hl ⊢
  have hl : lv_has ls 2 [(0, .ref h), (1, .int v)] := hl
  refine lv_aload_n hx hb d_Points_add_0 rfl (lv_at hl 0 rfl) ?_
  refine va_get (D := (dC, dI)) (ci := 1) (v := .int k) (C := "LandBook$Points") (T := F_Points) (N := 2) hx hb hts tu_Points hown hK hP 0 rfl rfl 1 (by decide) (hts _ tk_90) (fun _ h9 => h9) rfl d_Points_add_1 ?_
  refine lv_aload_n hx hb d_Points_add_4 rfl (lv_at hl 0 rfl) ?_
  refine va_get (D := (dC, dI)) (ci := 1) (v := .ref a) (C := "LandBook$Points") (T := F_Points) (N := 2) hx hb hts tu_Points hown hK hP 0 rfl rfl 0 (by decide) (hts _ tk_89) (fun _ h9 => h9) rfl d_Points_add_5 ?_
  refine va_alen (v := (Int32.ofNat n)) hx hb hK hP 1 0 rfl rfl rfl d_Points_add_8 ?_
  refine lv_icmp_ge (tgt := 32) hx hb d_Points_add_9 (by decide) (fun h1 => (absurd h1 hk)) (fun h1 => ?_)
  refine lv_aload_n hx hb d_Points_add_12 rfl (lv_at hl 0 rfl) ?_
  refine va_get (D := (dC, dI)) (ci := 1) (v := .ref a) (C := "LandBook$Points") (T := F_Points) (N := 2) hx hb hts tu_Points hown hK hP 0 rfl rfl 0 (by decide) (hts _ tk_89) (fun _ h9 => h9) rfl d_Points_add_13 ?_
  refine lv_aload_n hx hb d_Points_add_16 rfl (lv_at hl 0 rfl) ?_
  refine va_get (D := (dC, dI)) (ci := 1) (v := .int k) (C := "LandBook$Points") (T := F_Points) (N := 2) hx hb hts tu_Points hown hK hP 0 rfl rfl 1 (by decide) (hts _ tk_90) (fun _ h9 => h9) rfl d_Points_add_17 ?_
  refine lv_iload_n hx hb d_Points_add_20 rfl (lv_at hl 1 rfl) ?_
  refine va_iast hx hb hK hP hD hS 1 0 rfl rfl hi d_Points_add_21 (fun H locs hP hD hS => ?_)
  have hP : va_P (dC, dI) classes [(h, .inr (1, [.ref a, .int k])), (a, .inl (cI, n, .inl (upd (f) (Int32.toNatClampNeg (k)) (v))))] H := hP
  have hD : va_D A [(h, .inr (1, [.ref a, .int k])), (a, .inl (cI, n, .inl (upd (f) (Int32.toNatClampNeg (k)) (v))))] := hD
  refine lv_aload_n hx hb d_Points_add_22 rfl (lv_at hl 0 rfl) ?_
  refine lv_dup hx hb d_Points_add_23 rfl ?_
  refine va_get (D := (dC, dI)) (ci := 1) (v := .int k) (C := "LandBook$Points") (T := F_Points) (N := 2) hx hb hts tu_Points hown hK hP 0 rfl rfl 1 (by decide) (hts _ tk_90) (fun _ h9 => h9) rfl d_Points_add_24 ?_
  refine lv_iconst (v := 1) hx hb d_Points_add_27 (by decide) ?_
  refine lv_iadd hx hb d_Points_add_28 ?_
  refine va_put (D := (dC, dI)) (ci := 1) (v := .int (k + 1)) (ty := .int) (C := "LandBook$Points") (T := F_Points) (N := 2) hx hb hts tu_Points t_Points t_Points_ok n_Points hown hK hP hD hS 0 rfl rfl 1 (by decide) (hts _ tk_90) (fun _ h9 => h9) rfl (by decide +kernel) rfl rfl (Nat.le_of_ble_eq_true rfl) d_Points_add_29 (fun H locs hP hD hS => ?_)
  have hP : va_P (dC, dI) classes [(h, .inr (1, [.ref a, .int (k + 1)])), (a, .inl (cI, n, .inl (upd (f) (Int32.toNatClampNeg (k)) (v))))] H := hP
  have hD : va_D A [(h, .inr (1, [.ref a, .int (k + 1)])), (a, .inl (cI, n, .inl (upd (f) (Int32.toNatClampNeg (k)) (v))))] := hD
  have hP9 := hP.sub (ws' := [(h, .inr (1, [.ref a, .int (k + 1)])), (a, .inl (cI, n, .inl (upd (f) (Int32.toNatClampNeg (k)) (v))))]) [0, 1] rfl
  have hD9 := hD.sub (ws' := [(h, .inr (1, [.ref a, .int (k + 1)])), (a, .inl (cI, n, .inl (upd (f) (Int32.toNatClampNeg (k)) (v))))]) [0, 1] (by decide) rfl
  have hK9 := hK.sub (tys' := [(cI, .int)]) [0] rfl
  refine W.widen (k := 0) (n := 0) (by decide) (by decide) ?_
  exact W.vret hx hb hr (fun t ht hW => ⟨⟨(), rfl, trivial, by rw [ht]; exact hP9, va_K.moved hW.alike hK9, hD9⟩, hS.F ht⟩) hS.2.2 d_Points_add_32
theorem tk_218 : (Jvm.Cond.methodLink "LandBook" (283 : Nat) ({ cls := "LandBook$Points", name := "clear", desc := "()V" } : Jvm.MethodName)) ∈ tw_G := tw_in (List.mem_of_getElem? (i := 368) (by decide +kernel)) rfl
theorem tk_219 : (Jvm.Cond.instanceMethod ({ cls := "LandBook$Points", name := "clear", desc := "()V" } : Jvm.MethodName)) ∈ tw_G := tw_in (List.mem_of_getElem? (i := 369) (by decide +kernel)) rfl
theorem tk_220 : (Jvm.Cond.selects "LandBook$Points" ({ cls := "LandBook$Points", name := "clear", desc := "()V" } : Jvm.MethodName) ({ cls := "LandBook$Points", name := "clear", desc := "()V" } : Jvm.MethodName)) ∈ tw_G := tw_in (List.mem_of_getElem? (i := 370) (by decide +kernel)) rfl
theorem tk_221 : (Jvm.Cond.code ({ cls := "LandBook$Points", name := "clear", desc := "()V" } : Jvm.MethodName) prog_9_method_2_code (1 : Nat) (Option.none : Option Jvm.ClassFile.FieldType)) ∈ tw_G := tw_in (List.mem_of_getElem? (i := 371) (by decide +kernel)) rfl
theorem tk_222 : (Jvm.Cond.fieldLink "LandBook" (53 : Nat) "LandBook$Points" "size" "I") ∈ tw_G := tw_in (List.mem_of_getElem? (i := 106) (by decide +kernel)) rfl
abbrev y_takeRow : MethodName := ⟨"LandBook", "takeRow", "()V"⟩
abbrev w_takeRow : List Cond := Cond.code y_takeRow prog_1_method_23_code 2 none :: tw_G
theorem d_takeRow_0 : decode prog_1_method_23_code 0 = .ok (.aload_n 0, 1) := by decide +kernel
theorem d_takeRow_1 : decode prog_1_method_23_code 1 = .ok (.getfield 18, 3) := by decide +kernel
theorem d_takeRow_4 : decode prog_1_method_23_code 4 = .ok (.invokevirtual 283, 3) := by decide +kernel
theorem d_takeRow_7 : decode prog_1_method_23_code 7 = .ok (.iconst 0, 1) := by decide +kernel
theorem d_takeRow_8 : decode prog_1_method_23_code 8 = .ok (.istore_n 1, 1) := by decide +kernel
theorem d_takeRow_9 : decode prog_1_method_23_code 9 = .ok (.iload_n 1, 1) := by decide +kernel
theorem d_takeRow_10 : decode prog_1_method_23_code 10 = .ok (.aload_n 0, 1) := by decide +kernel
theorem d_takeRow_11 : decode prog_1_method_23_code 11 = .ok (.getfield 14, 3) := by decide +kernel
theorem d_takeRow_14 : decode prog_1_method_23_code 14 = .ok (.getfield 53, 3) := by decide +kernel
theorem d_takeRow_17 : decode prog_1_method_23_code 17 = .ok (.if_icmp .ge 24, 3) := by decide +kernel
theorem d_takeRow_41 : decode prog_1_method_23_code 41 = .ok (.aload_n 0, 1) := by decide +kernel
theorem d_takeRow_42 : decode prog_1_method_23_code 42 = .ok (.getfield 14, 3) := by decide +kernel
theorem d_takeRow_45 : decode prog_1_method_23_code 45 = .ok (.invokevirtual 283, 3) := by decide +kernel
theorem d_takeRow_48 : decode prog_1_method_23_code 48 = .ok (.return_, 1) := by decide +kernel
set_option maxHeartbeats 4000000 in
set_option maxRecDepth 100000 in
theorem c_takeRow_empty (l : Launch) (dC : Nat → ClassId) (dI : Nat → Nat → Nat) (h sz ro ch : Nat) (v2 v3 v4 v5 v6 v7 ra ca : Value) (kk : Int32) : Met l y_takeRow w_takeRow ({ frames := 1, cells := 0, slots := 0, locals := 20 }) (tw_P4 (dC, dI) classes [(h, .inr (0, [.ref ro, .ref ch, v2, v3, v4, v5, v6, v7])), (ro, .inr (1, [ra, .int 0])), (ch, .inr (1, [ca, .int kk]))] [] sz [.ref h]) (va_Qv (fun _ : Unit => True) (fun u => tw_B dC dI (va_A [(h, .inr (0, [.ref ro, .ref ch, v2, v3, v4, v5, v6, v7])), (ro, .inr (1, [ra, .int 0])), (ch, .inr (1, [ca, .int kk]))] sz) [(h, .inr (0, [.ref ro, .ref ch, v2, v3, v4, v5, v6, v7])), (ch, .inr (1, [ca, .int 0])), (ro, .inr (1, [ra, .int 0]))] []) (va_A [(h, .inr (0, [.ref ro, .ref ch, v2, v3, v4, v5, v6, v7])), (ro, .inr (1, [ra, .int 0])), (ch, .inr (1, [ca, .int kk]))] sz)) 0 0 (va_A [(h, .inr (0, [.ref ro, .ref ch, v2, v3, v4, v5, v6, v7])), (ro, .inr (1, [ra, .int 0])), (ch, .inr (1, [ca, .int kk]))] sz) := by
  refine Met.ofW (cc := prog_1_method_23_code) (maxL := 2) (ret := none) (by decide) rfl ?_
  intro p e s m args below meth c s₁ B hml hv
  obtain ⟨rfl, hsz, hP, hK, hD0⟩ := hv
  have hx := B.exec
  have hb := B.bytes
  have hr := B.returns
  have hts : ∀ w ∈ tw_G, w.before _ s = true := fun w h => atoms_spec (ws := w_takeRow) B.pre w (List.mem_cons_of_mem _ h)
  have hown : s.vm.findClass "LandBook" = some m.cls := findClass_of_methodNamed B.named
  have hlocks := B.notSynchronized
  subst hsz
  have hD := hD0.self (sz := s.heap.size)
  generalize hAe : va_A [(h, .inr (0, [.ref ro, .ref ch, v2, v3, v4, v5, v6, v7])), (ro, .inr (1, [ra, .int 0])), (ch, .inr (1, [ca, .int kk]))] s.heap.size = A at hD ⊢
  have hA : ∀ q : Nat, s.heap.size ≤ q → A q := fun q h => by rw [← hAe]; exact Or.inr h
  have hS : va_S A s.heap s.heap [] := va_S.rf
  have hP : va_P (dC, dI) classes [(h, .inr (0, [.ref ro, .ref ch, v2, v3, v4, v5, v6, v7])), (ro, .inr (1, [ra, .int 0])), (ch, .inr (1, [ca, .int kk]))] s.heap := hP
  have hl := lv_entry ([.ref h]) (n := 2) (Nat.le_of_ble_eq_true rfl)
  rw [lg_entry_eq]
  generalize (lg_sl ([.ref h]) ++ List.replicate (2 - (lg_sl ([.ref h])).length) Slot.unset).toArray = ls at hl ⊢
  have hl : lv_has ls 2 [(0, .ref h)] := hl
  refine lv_aload_n hx hb d_takeRow_0 rfl (lv_at hl 0 rfl) ?_
  refine va_get (D := (dC, dI)) (ci := 0) (v := .ref ch) (C := "LandBook") (T := F_LandBook) (N := 8) hx hb hts tu_LandBook hown hK hP 0 rfl rfl 1 (by decide) (hts _ tk_141) (fun _ h9 => h9) rfl d_takeRow_1 ?_
  have hPc := hP.sub (ws' := [(ch, .inr (1, [ca, .int kk]))]) [2] rfl
  have hDc := hD.sub (ws' := [(ch, .inr (1, [ca, .int kk]))]) [2] (by decide) rfl
  have hKc := hK.sub (tys' := []) [] rfl
  have hFc := va_free (wc := [(ch, .inr (1, [ca, .int kk]))]) hD hS hA [2] rfl
  refine va_callv (va_runV (As := []) (rest := []) ⟨hx, hb, hml, hown, hts⟩ (c_Points_clear l dC dI ch s.heap.size ca (kk)) (cwV 0 hts (tw_gV tk_218 tk_219 tk_220 tk_108 tk_221) rfl rfl rfl (by decide +kernel) ⟨Nat.le_of_ble_eq_true rfl, Nat.le_of_ble_eq_true rfl⟩) (tw_v4 (va_recv (q0 := 2) hK hP rfl rfl) hPc hKc hDc) rfl rfl hl.1 rfl (lv_room (Nat.le_of_ble_eq_true rfl)) d_takeRow_4 ⟨by show 0 ≤ 0; decide, by show 0 ≤ 0; decide⟩) hS (fun q _ h => hFc q h) hFc (fun u t H1 locs ht hvm hw hB hz1 hk1 hS => ?_)
  obtain ⟨hP1, hK1, hD1⟩ := hB
  rw [ht] at hP1
  have hK1 := va_K.moved hvm.symm hK1
  obtain ⟨hP, hD⟩ := va_join (wr := [(h, .inr (0, [.ref ro, .ref ch, v2, v3, v4, v5, v6, v7])), (ro, .inr (1, [ra, .int 0]))]) (w1 := [(ch, .inr (1, [ca, .int 0]))]) hP hD [2] [0, 1] rfl rfl (by decide) (by decide) hk1 hFc hP1 hD1
  generalize H1 = H at hP hS ⊢
  have hP : va_P (dC, dI) classes [(h, .inr (0, [.ref ro, .ref ch, v2, v3, v4, v5, v6, v7])), (ro, .inr (1, [ra, .int 0])), (ch, .inr (1, [ca, .int 0]))] H := hP
  have hD : va_D A [(h, .inr (0, [.ref ro, .ref ch, v2, v3, v4, v5, v6, v7])), (ro, .inr (1, [ra, .int 0])), (ch, .inr (1, [ca, .int 0]))] := hD
  refine lv_iconst (v := 0) hx hb d_takeRow_7 (by decide) ?_
  refine lv_istore_n (lv' := [(1, .int 0), (0, .ref h)]) hx hb d_takeRow_8 rfl hl (by decide) rfl (fun ls hl => ?_)
  refine lv_iload_n hx hb d_takeRow_9 rfl (lv_at hl 0 rfl) ?_
  refine lv_aload_n hx hb d_takeRow_10 rfl (lv_at hl 1 rfl) ?_
  refine va_get (D := (dC, dI)) (ci := 0) (v := .ref ro) (C := "LandBook") (T := F_LandBook) (N := 8) hx hb hts tu_LandBook hown hK hP 0 rfl rfl 0 (by decide) (hts _ tk_140) (fun _ h9 => h9) rfl d_takeRow_11 ?_
  refine va_get (D := (dC, dI)) (ci := 1) (v := .int 0) (C := "LandBook$Points") (T := F_Points) (N := 2) hx hb hts tu_Points hown hK hP 1 rfl rfl 1 (by decide) (hts _ tk_222) (fun _ h9 => h9) rfl d_takeRow_14 ?_
  refine lv_icmp_ge (tgt := 41) hx hb d_takeRow_17 (by decide) (fun h1 => ?_) (fun h1 => absurd (by decide) h1)
  refine lv_aload_n hx hb d_takeRow_41 rfl (lv_at hl 1 rfl) ?_
  refine va_get (D := (dC, dI)) (ci := 0) (v := .ref ro) (C := "LandBook") (T := F_LandBook) (N := 8) hx hb hts tu_LandBook hown hK hP 0 rfl rfl 0 (by decide) (hts _ tk_140) (fun _ h9 => h9) rfl d_takeRow_42 ?_
  have hPc := hP.sub (ws' := [(ro, .inr (1, [ra, .int 0]))]) [1] rfl
  have hDc := hD.sub (ws' := [(ro, .inr (1, [ra, .int 0]))]) [1] (by decide) rfl
  have hKc := hK.sub (tys' := []) [] rfl
  have hFc := va_free (wc := [(ro, .inr (1, [ra, .int 0]))]) hD hS hA [1] rfl
  refine va_callv (va_runV (As := []) (rest := []) ⟨hx, hb, hml, hown, hts⟩ (c_Points_clear l dC dI ro H.size ra (0)) (cwV 0 hts (tw_gV tk_218 tk_219 tk_220 tk_108 tk_221) rfl rfl rfl (by decide +kernel) ⟨Nat.le_of_ble_eq_true rfl, Nat.le_of_ble_eq_true rfl⟩) (tw_v4 (va_recv (q0 := 1) hK hP rfl rfl) hPc hKc hDc) rfl rfl hl.1 rfl (lv_room (Nat.le_of_ble_eq_true rfl)) d_takeRow_45 ⟨by show 0 ≤ 0; decide, by show 0 ≤ 0; decide⟩) hS (fun q _ h => hFc q h) hFc (fun u t H1 locs ht hvm hw hB hz1 hk1 hS => ?_)
  obtain ⟨hP1, hK1, hD1⟩ := hB
  rw [ht] at hP1
  have hK1 := va_K.moved hvm.symm hK1
  obtain ⟨hP, hD⟩ := va_join (wr := [(h, .inr (0, [.ref ro, .ref ch, v2, v3, v4, v5, v6, v7])), (ch, .inr (1, [ca, .int 0]))]) (w1 := [(ro, .inr (1, [ra, .int 0]))]) hP hD [1] [0, 2] rfl rfl (by decide) (by decide) hk1 hFc hP1 hD1
  generalize H1 = H at hP hS ⊢
  have hP : va_P (dC, dI) classes [(h, .inr (0, [.ref ro, .ref ch, v2, v3, v4, v5, v6, v7])), (ch, .inr (1, [ca, .int 0])), (ro, .inr (1, [ra, .int 0]))] H := hP
  have hD : va_D A [(h, .inr (0, [.ref ro, .ref ch, v2, v3, v4, v5, v6, v7])), (ch, .inr (1, [ca, .int 0])), (ro, .inr (1, [ra, .int 0]))] := hD
  have hP9 := hP.sub (ws' := [(h, .inr (0, [.ref ro, .ref ch, v2, v3, v4, v5, v6, v7])), (ch, .inr (1, [ca, .int 0])), (ro, .inr (1, [ra, .int 0]))]) [0, 1, 2] rfl
  have hD9 := hD.sub (ws' := [(h, .inr (0, [.ref ro, .ref ch, v2, v3, v4, v5, v6, v7])), (ch, .inr (1, [ca, .int 0])), (ro, .inr (1, [ra, .int 0]))]) [0, 1, 2] (by decide) rfl
  have hK9 := hK.sub (tys' := []) [] rfl
  refine W.widen (k := 0) (n := 0) (by decide) (by decide) ?_
  exact W.vret hx hb hr (fun t ht hW => ⟨⟨(), rfl, trivial, by rw [ht]; exact hP9, va_K.moved hW.alike hK9, hD9⟩, hS.F ht⟩) hS.2.2 d_takeRow_48
theorem tk_223 : (Jvm.Cond.methodLink "LandBook" (73 : Nat) ({ cls := "LandBook", name := "takeRow", desc := "()V" } : Jvm.MethodName)) ∈ tw_G := tw_in (List.mem_of_getElem? (i := 364) (by decide +kernel)) rfl
theorem tk_224 : (Jvm.Cond.instanceMethod ({ cls := "LandBook", name := "takeRow", desc := "()V" } : Jvm.MethodName)) ∈ tw_G := tw_in (List.mem_of_getElem? (i := 366) (by decide +kernel)) rfl
theorem tk_225 : (Jvm.Cond.selects "LandBook" ⟨"LandBook", "takeRow", "()V"⟩ ⟨"LandBook", "takeRow", "()V"⟩) ∈ tw_G := tw_in (List.mem_of_getElem? (i := 1) (by decide +kernel)) rfl
theorem tk_226 : (Jvm.Cond.code ({ cls := "LandBook", name := "takeRow", desc := "()V" } : Jvm.MethodName) prog_1_method_23_code (2 : Nat) (Option.none : Option Jvm.ClassFile.FieldType)) ∈ tw_G := tw_in (List.mem_of_getElem? (i := 367) (by decide +kernel)) rfl
abbrev y_LB_open : MethodName := ⟨"LandBook", "open", "()Z"⟩
abbrev w_LB_open : List Cond := Cond.code y_LB_open prog_1_method_3_code 2 (some .boolean) :: tw_G
theorem d_LB_open_0 : decode prog_1_method_3_code 0 = .ok (.aload_n 0, 1) := by decide +kernel
theorem d_LB_open_1 : decode prog_1_method_3_code 1 = .ok (.invokevirtual 73, 3) := by decide +kernel
theorem d_LB_open_4 : decode prog_1_method_3_code 4 = .ok (.aload_n 0, 1) := by decide +kernel
theorem d_LB_open_5 : decode prog_1_method_3_code 5 = .ok (.getfield 38, 3) := by decide +kernel
theorem d_LB_open_8 : decode prog_1_method_3_code 8 = .ok (.invokevirtual 76, 3) := by decide +kernel
theorem d_LB_open_11 : decode prog_1_method_3_code 11 = .ok (.ifCond .le 13, 3) := by decide +kernel
theorem d_LB_open_24 : decode prog_1_method_3_code 24 = .ok (.aload_n 0, 1) := by decide +kernel
theorem d_LB_open_25 : decode prog_1_method_3_code 25 = .ok (.getfield 18, 3) := by decide +kernel
theorem d_LB_open_28 : decode prog_1_method_3_code 28 = .ok (.getfield 53, 3) := by decide +kernel
theorem d_LB_open_31 : decode prog_1_method_3_code 31 = .ok (.iconst 3, 1) := by decide +kernel
theorem d_LB_open_32 : decode prog_1_method_3_code 32 = .ok (.if_icmp .lt 14, 3) := by decide +kernel
theorem d_LB_open_46 : decode prog_1_method_3_code 46 = .ok (.iconst 0, 1) := by decide +kernel
theorem d_LB_open_47 : decode prog_1_method_3_code 47 = .ok (.ireturn, 1) := by decide +kernel
set_option maxHeartbeats 4000000 in
set_option maxRecDepth 100000 in
theorem c_open_fresh (l : Launch) (hfl : l.flags = pinnedFlags ++ [noTraceFlag]) (dC : Nat → ClassId) (dI : Nat → Nat → Nat) (h sz ro ch rg q : Nat) (v2 v3 v5 v7 ra ca w0 w2 w3 w4 el mo : Value) (kk : Int32) : tw_Met l y_LB_open w_LB_open ({ frames := 2, cells := 1, slots := 6, locals := 41 }) (tw_P4E (dC, dI) classes [(h, .inr (0, [.ref ro, .ref ch, v2, v3, .ref rg, v5, .int 0, v7])), (ro, .inr (1, [ra, .int 0])), (ch, .inr (1, [ca, .int kk])), (rg, .inr (4, [w0, .ref q, w2, w3, w4])), (q, .inr (6, [el, .int 0, mo]))] [] sz [.ref h]) (tw_Qm (fun v => v = some (.int 0)) (fun cls => False) (va_A [(h, .inr (0, [.ref ro, .ref ch, v2, v3, .ref rg, v5, .int 0, v7])), (ro, .inr (1, [ra, .int 0])), (ch, .inr (1, [ca, .int kk])), (rg, .inr (4, [w0, .ref q, w2, w3, w4])), (q, .inr (6, [el, .int 0, mo]))] sz)) 1 6 (va_A [(h, .inr (0, [.ref ro, .ref ch, v2, v3, .ref rg, v5, .int 0, v7])), (ro, .inr (1, [ra, .int 0])), (ch, .inr (1, [ca, .int kk])), (rg, .inr (4, [w0, .ref q, w2, w3, w4])), (q, .inr (6, [el, .int 0, mo]))] sz) := by
  refine tw_ofW (cc := prog_1_method_3_code) (maxL := 2) (ret := (some .boolean)) (by decide) rfl ?_
  intro p e s m args below meth c s₁ B hml hno hv
  obtain ⟨rfl, hsz, hP, hK, hD0, hE⟩ := hv
  have hx := B.exec
  have hb := B.bytes
  have hr := B.returns
  have hts : ∀ w ∈ tw_G, w.before _ s = true := fun w h => atoms_spec (ws := w_LB_open) B.pre w (List.mem_cons_of_mem _ h)
  have hown : s.vm.findClass "LandBook" = some m.cls := findClass_of_methodNamed B.named
  have hlocks := B.notSynchronized
  subst hsz
  have hN := tw_nst hP
  have hD := hD0.self (sz := s.heap.size)
  generalize hAe : va_A [(h, .inr (0, [.ref ro, .ref ch, v2, v3, .ref rg, v5, .int 0, v7])), (ro, .inr (1, [ra, .int 0])), (ch, .inr (1, [ca, .int kk])), (rg, .inr (4, [w0, .ref q, w2, w3, w4])), (q, .inr (6, [el, .int 0, mo]))] s.heap.size = A at hD hN ⊢
  have hA : ∀ q : Nat, s.heap.size ≤ q → A q := fun q h => by rw [← hAe]; exact Or.inr h
  have hS : va_S A s.heap s.heap [] := va_S.rf
  have hP : va_P (dC, dI) classes [(h, .inr (0, [.ref ro, .ref ch, v2, v3, .ref rg, v5, .int 0, v7])), (ro, .inr (1, [ra, .int 0])), (ch, .inr (1, [ca, .int kk])), (rg, .inr (4, [w0, .ref q, w2, w3, w4])), (q, .inr (6, [el, .int 0, mo]))] s.heap := hP
  have hl := lv_entry ([.ref h]) (n := 2) (Nat.le_of_ble_eq_true rfl)
  rw [lg_entry_eq]
  generalize (lg_sl ([.ref h]) ++ List.replicate (2 - (lg_sl ([.ref h])).length) Slot.unset).toArray = ls at hl ⊢
  have hl : lv_has ls 2 [(0, .ref h)] := hl
  refine lv_aload_n hx hb d_LB_open_0 rfl (lv_at hl 0 rfl) ?_
  have hPc := hP.sub (ws' := [(h, .inr (0, [.ref ro, .ref ch, v2, v3, .ref rg, v5, .int 0, v7])), (ro, .inr (1, [ra, .int 0])), (ch, .inr (1, [ca, .int kk]))]) [0, 1, 2] rfl
  have hDc := hD.sub (ws' := [(h, .inr (0, [.ref ro, .ref ch, v2, v3, .ref rg, v5, .int 0, v7])), (ro, .inr (1, [ra, .int 0])), (ch, .inr (1, [ca, .int kk]))]) [0, 1, 2] (by decide) rfl
  have hKc := hK.sub (tys' := []) [] rfl
  have hFc := va_free (wc := [(h, .inr (0, [.ref ro, .ref ch, v2, v3, .ref rg, v5, .int 0, v7])), (ro, .inr (1, [ra, .int 0])), (ch, .inr (1, [ca, .int kk]))]) hD hS hA [0, 1, 2] rfl
  refine va_callv (va_runV (As := []) (rest := []) ⟨hx, hb, hml, hown, hts⟩ (c_takeRow_empty l dC dI h s.heap.size ro ch v2 v3 (.ref rg) v5 (.int 0) v7 ra ca kk) (cwV 0 hts (tw_gV tk_223 tk_224 tk_225 tk_213 tk_226) rfl rfl rfl (by decide +kernel) ⟨Nat.le_of_ble_eq_true rfl, Nat.le_of_ble_eq_true rfl⟩) (tw_v4 (va_recv (q0 := 0) hK hP rfl rfl) hPc hKc hDc) rfl rfl hl.1 rfl (lv_room (Nat.le_of_ble_eq_true rfl)) d_LB_open_1 ⟨by show 0 ≤ 1; decide, by show 0 ≤ 6; decide⟩) hS (fun q _ h => hFc q h) hFc (fun u t H1 locs ht hvm hw hB hz1 hk1 hS => ?_)
  obtain ⟨hP1, hK1, hD1⟩ := hB
  rw [ht] at hP1
  have hK1 := va_K.moved hvm.symm hK1
  obtain ⟨hP, hD⟩ := va_join (wr := [(rg, .inr (4, [w0, .ref q, w2, w3, w4])), (q, .inr (6, [el, .int 0, mo]))]) (w1 := [(h, .inr (0, [.ref ro, .ref ch, v2, v3, .ref rg, v5, .int 0, v7])), (ch, .inr (1, [ca, .int 0])), (ro, .inr (1, [ra, .int 0]))]) hP hD [0, 1, 2] [3, 4] rfl rfl (by decide) (by decide) hk1 hFc hP1 hD1
  generalize H1 = H at hP hS ⊢
  have hP : va_P (dC, dI) classes [(rg, .inr (4, [w0, .ref q, w2, w3, w4])), (q, .inr (6, [el, .int 0, mo])), (h, .inr (0, [.ref ro, .ref ch, v2, v3, .ref rg, v5, .int 0, v7])), (ch, .inr (1, [ca, .int 0])), (ro, .inr (1, [ra, .int 0]))] H := hP
  have hD : va_D A [(rg, .inr (4, [w0, .ref q, w2, w3, w4])), (q, .inr (6, [el, .int 0, mo])), (h, .inr (0, [.ref ro, .ref ch, v2, v3, .ref rg, v5, .int 0, v7])), (ch, .inr (1, [ca, .int 0])), (ro, .inr (1, [ra, .int 0]))] := hD
  refine lv_aload_n hx hb d_LB_open_4 rfl (lv_at hl 0 rfl) ?_
  refine va_get (D := (dC, dI)) (ci := 0) (v := .ref rg) (C := "LandBook") (T := F_LandBook) (N := 8) hx hb hts tu_LandBook hown hK hP 2 rfl rfl 4 (by decide) (hts _ tk_159) (fun _ h9 => h9) rfl d_LB_open_5 ?_
  refine vp_callSi (W.runV (As := []) (rest := []) ⟨hx, hb, hml, hown, hts⟩ (c_Register_lotCount l dC dI rg q w0 w2 w3 w4 el mo 0) (cwV 0 hts (tw_gV tk_206 tk_207 tk_208 tk_156 tk_209) rfl rfl rfl (by decide +kernel) ⟨Nat.le_of_ble_eq_true rfl, Nat.le_of_ble_eq_true rfl⟩) (tw_v2 (va_recv (q0 := 0) hK hP rfl rfl) (hP.sub (ws' := [(rg, .inr (4, [w0, .ref q, w2, w3, w4])), (q, .inr (6, [el, .int 0, mo]))]) [0, 1] rfl) (hK.sub (tys' := []) [] rfl)) rfl rfl hl.1 rfl (lv_room (Nat.le_of_ble_eq_true rfl)) d_LB_open_8 ⟨by show 0 ≤ 1; decide, by show 0 ≤ 6; decide⟩) (fun r1 e2 => ?_)
  have e2 := e2.symm
  subst e2
  refine lv_if_le (tgt := 24) hx hb d_LB_open_11 (by decide) (fun h3 => ?_) (fun h3 => absurd (by decide) h3)
  refine lv_aload_n hx hb d_LB_open_24 rfl (lv_at hl 0 rfl) ?_
  refine va_get (D := (dC, dI)) (ci := 0) (v := .ref ch) (C := "LandBook") (T := F_LandBook) (N := 8) hx hb hts tu_LandBook hown hK hP 2 rfl rfl 1 (by decide) (hts _ tk_141) (fun _ h9 => h9) rfl d_LB_open_25 ?_
  refine va_get (D := (dC, dI)) (ci := 1) (v := .int 0) (C := "LandBook$Points") (T := F_Points) (N := 2) hx hb hts tu_Points hown hK hP 3 rfl rfl 1 (by decide) (hts _ tk_222) (fun _ h9 => h9) rfl d_LB_open_28 ?_
  refine lv_iconst (v := 3) hx hb d_LB_open_31 (by decide) ?_
  refine lv_icmp_lt (tgt := 46) hx hb d_LB_open_32 (by decide) (fun h4 => ?_) (fun h4 => absurd (by decide) h4)
  refine lv_iconst (v := 0) hx hb d_LB_open_46 (by decide) ?_
  exact tw_ret (W.widen (k := 1) (n := 6) (by decide) (by decide) (W.zret (v := 0) (ty := .boolean) hx hb hr (by rfl) (fun t ht hW => ⟨rfl, hS.F ht⟩) hS.2.2 d_LB_open_47))
abbrev y_LB_split : MethodName := ⟨"LandBook", "split", "(II)I"⟩
abbrev w_LB_split : List Cond := Cond.code y_LB_split prog_1_method_4_code 7 (some .int) :: tw_G
theorem d_LB_split_0 : decode prog_1_method_4_code 0 = .ok (.aload_n 0, 1) := by decide +kernel
theorem d_LB_split_1 : decode prog_1_method_4_code 1 = .ok (.invokevirtual 73, 3) := by decide +kernel
theorem d_LB_split_4 : decode prog_1_method_4_code 4 = .ok (.aload_n 0, 1) := by decide +kernel
theorem d_LB_split_5 : decode prog_1_method_4_code 5 = .ok (.invokevirtual 99, 3) := by decide +kernel
set_option maxHeartbeats 4000000 in
set_option maxRecDepth 100000 in
theorem c_split_fresh (l : Launch) (hfl : l.flags = pinnedFlags ++ [noTraceFlag]) (dC : Nat → ClassId) (dI : Nat → Nat → Nat) (h sz ro ch rg q : Nat) (v2 v3 v5 v7 ra ca w0 w2 w3 w4 el mo : Value) (kk : Int32) (a0 a1 : Int32) : tw_Met l y_LB_split w_LB_split ({ frames := 7, cells := 1, slots := 6, locals := 102 }) (tw_P4E (dC, dI) classes [(h, .inr (0, [.ref ro, .ref ch, v2, v3, .ref rg, v5, .int 0, v7])), (ro, .inr (1, [ra, .int 0])), (ch, .inr (1, [ca, .int kk])), (rg, .inr (4, [w0, .ref q, w2, w3, w4])), (q, .inr (6, [el, .int 0, mo]))] [] sz [.ref h, .int a0, .int a1]) (tw_Qm (fun v => False) (fun cls => cls = "java/lang/IllegalStateException") (va_A [(h, .inr (0, [.ref ro, .ref ch, v2, v3, .ref rg, v5, .int 0, v7])), (ro, .inr (1, [ra, .int 0])), (ch, .inr (1, [ca, .int kk])), (rg, .inr (4, [w0, .ref q, w2, w3, w4])), (q, .inr (6, [el, .int 0, mo]))] sz)) 1 6 (va_A [(h, .inr (0, [.ref ro, .ref ch, v2, v3, .ref rg, v5, .int 0, v7])), (ro, .inr (1, [ra, .int 0])), (ch, .inr (1, [ca, .int kk])), (rg, .inr (4, [w0, .ref q, w2, w3, w4])), (q, .inr (6, [el, .int 0, mo]))] sz) := by
  refine tw_ofW (cc := prog_1_method_4_code) (maxL := 7) (ret := (some .int)) (by decide) rfl ?_
  intro p e s m args below meth c s₁ B hml hno hv
  obtain ⟨rfl, hsz, hP, hK, hD0, hE⟩ := hv
  have hx := B.exec
  have hb := B.bytes
  have hr := B.returns
  have hts : ∀ w ∈ tw_G, w.before _ s = true := fun w h => atoms_spec (ws := w_LB_split) B.pre w (List.mem_cons_of_mem _ h)
  have hown : s.vm.findClass "LandBook" = some m.cls := findClass_of_methodNamed B.named
  have hlocks := B.notSynchronized
  subst hsz
  have hN := tw_nst hP
  have hD := hD0.self (sz := s.heap.size)
  generalize hAe : va_A [(h, .inr (0, [.ref ro, .ref ch, v2, v3, .ref rg, v5, .int 0, v7])), (ro, .inr (1, [ra, .int 0])), (ch, .inr (1, [ca, .int kk])), (rg, .inr (4, [w0, .ref q, w2, w3, w4])), (q, .inr (6, [el, .int 0, mo]))] s.heap.size = A at hD hN ⊢
  have hA : ∀ q : Nat, s.heap.size ≤ q → A q := fun q h => by rw [← hAe]; exact Or.inr h
  have hS : va_S A s.heap s.heap [] := va_S.rf
  have hP : va_P (dC, dI) classes [(h, .inr (0, [.ref ro, .ref ch, v2, v3, .ref rg, v5, .int 0, v7])), (ro, .inr (1, [ra, .int 0])), (ch, .inr (1, [ca, .int kk])), (rg, .inr (4, [w0, .ref q, w2, w3, w4])), (q, .inr (6, [el, .int 0, mo]))] s.heap := hP
  have hl := lv_entry ([.ref h, .int a0, .int a1]) (n := 7) (Nat.le_of_ble_eq_true rfl)
  rw [lg_entry_eq]
  generalize (lg_sl ([.ref h, .int a0, .int a1]) ++ List.replicate (7 - (lg_sl ([.ref h, .int a0, .int a1])).length) Slot.unset).toArray = ls at hl ⊢
  have hl : lv_has ls 7 [(0, .ref h), (1, .int a0), (2, .int a1)] := hl
  refine lv_aload_n hx hb d_LB_split_0 rfl (lv_at hl 0 rfl) ?_
  have hPc := hP.sub (ws' := [(h, .inr (0, [.ref ro, .ref ch, v2, v3, .ref rg, v5, .int 0, v7])), (ro, .inr (1, [ra, .int 0])), (ch, .inr (1, [ca, .int kk]))]) [0, 1, 2] rfl
  have hDc := hD.sub (ws' := [(h, .inr (0, [.ref ro, .ref ch, v2, v3, .ref rg, v5, .int 0, v7])), (ro, .inr (1, [ra, .int 0])), (ch, .inr (1, [ca, .int kk]))]) [0, 1, 2] (by decide) rfl
  have hKc := hK.sub (tys' := []) [] rfl
  have hFc := va_free (wc := [(h, .inr (0, [.ref ro, .ref ch, v2, v3, .ref rg, v5, .int 0, v7])), (ro, .inr (1, [ra, .int 0])), (ch, .inr (1, [ca, .int kk]))]) hD hS hA [0, 1, 2] rfl
  refine va_callv (va_runV (As := []) (rest := []) ⟨hx, hb, hml, hown, hts⟩ (c_takeRow_empty l dC dI h s.heap.size ro ch v2 v3 (.ref rg) v5 (.int 0) v7 ra ca kk) (cwV 0 hts (tw_gV tk_223 tk_224 tk_225 tk_213 tk_226) rfl rfl rfl (by decide +kernel) ⟨Nat.le_of_ble_eq_true rfl, Nat.le_of_ble_eq_true rfl⟩) (tw_v4 (va_recv (q0 := 0) hK hP rfl rfl) hPc hKc hDc) rfl rfl hl.1 rfl (lv_room (Nat.le_of_ble_eq_true rfl)) d_LB_split_1 ⟨by show 0 ≤ 1; decide, by show 0 ≤ 6; decide⟩) hS (fun q _ h => hFc q h) hFc (fun u t H1 locs ht hvm hw hB hz1 hk1 hS => ?_)
  obtain ⟨hP1, hK1, hD1⟩ := hB
  rw [ht] at hP1
  have hK1 := va_K.moved hvm.symm hK1
  obtain ⟨hP, hD⟩ := va_join (wr := [(rg, .inr (4, [w0, .ref q, w2, w3, w4])), (q, .inr (6, [el, .int 0, mo]))]) (w1 := [(h, .inr (0, [.ref ro, .ref ch, v2, v3, .ref rg, v5, .int 0, v7])), (ch, .inr (1, [ca, .int 0])), (ro, .inr (1, [ra, .int 0]))]) hP hD [0, 1, 2] [3, 4] rfl rfl (by decide) (by decide) hk1 hFc hP1 hD1
  generalize H1 = H at hP hS ⊢
  have hP : va_P (dC, dI) classes [(rg, .inr (4, [w0, .ref q, w2, w3, w4])), (q, .inr (6, [el, .int 0, mo])), (h, .inr (0, [.ref ro, .ref ch, v2, v3, .ref rg, v5, .int 0, v7])), (ch, .inr (1, [ca, .int 0])), (ro, .inr (1, [ra, .int 0]))] H := hP
  have hD : va_D A [(rg, .inr (4, [w0, .ref q, w2, w3, w4])), (q, .inr (6, [el, .int 0, mo])), (h, .inr (0, [.ref ro, .ref ch, v2, v3, .ref rg, v5, .int 0, v7])), (ch, .inr (1, [ca, .int 0])), (ro, .inr (1, [ra, .int 0]))] := hD
  refine lv_aload_n hx hb d_LB_split_4 rfl (lv_at hl 0 rfl) ?_
  refine tw_chk (tw_runV (As := []) (rest := []) ⟨hx, hb, hml, hown, hts⟩ (c_checkUp l hfl dC dI h rg q (.ref ro) (.ref ch) v2 v3 v5 v7 w0 w2 w3 w4 el mo 0 0) (cwV 0 hts (tw_gV tk_210 tk_211 tk_212 tk_213 tk_214) rfl rfl rfl (by decide +kernel) ⟨Nat.le_of_ble_eq_true rfl, Nat.le_of_ble_eq_true rfl⟩) (tw_v2E (va_recv (q0 := 2) hK hP rfl rfl) (hP.sub (ws' := [(h, .inr (0, [.ref ro, .ref ch, v2, v3, .ref rg, v5, .int 0, v7])), (rg, .inr (4, [w0, .ref q, w2, w3, w4])), (q, .inr (6, [el, .int 0, mo]))]) [2, 0, 1] rfl) (hK.sub (tys' := []) [] rfl) hE (tw_kst hN hS)) rfl rfl hl.1 rfl (lv_room (Nat.le_of_ble_eq_true rfl)) d_LB_split_5 ⟨by show 1 ≤ 1; decide, by show 6 ≤ 6; decide⟩) (fun o1 => ?_) (fun o1 x2 J3 j1 j2 j3 j4 => ?_)
  · exact absurd rfl o1.2
  · exact tw_out (tw_none hno _) (fun t ht hW => ⟨⟨_, rfl, tw_excOf j4 ht hW⟩, tw_SF hS hA j2 j3 ht⟩) hS.2.2 hlocks
theorem tk_227 : (Jvm.Cond.methodLink "LandBook" (49 : Nat) ({ cls := "LandBook", name := "checkPoint", desc := "(II)V" } : Jvm.MethodName)) ∈ tw_G := tw_in (List.mem_of_getElem? (i := 260) (by decide +kernel)) rfl
theorem tk_228 : (Jvm.Cond.static ({ cls := "LandBook", name := "checkPoint", desc := "(II)V" } : Jvm.MethodName)) ∈ tw_G := tw_in (List.mem_of_getElem? (i := 261) (by decide +kernel)) rfl
theorem tk_229 : (Jvm.Cond.code ({ cls := "LandBook", name := "checkPoint", desc := "(II)V" } : Jvm.MethodName) prog_1_method_27_code (2 : Nat) (Option.none : Option Jvm.ClassFile.FieldType)) ∈ tw_G := tw_in (List.mem_of_getElem? (i := 262) (by decide +kernel)) rfl
theorem tk_230 : (Jvm.Cond.methodLink "LandBook" (64 : Nat) ({ cls := "LandBook$Plane", name := "pack", desc := "(II)I" } : Jvm.MethodName)) ∈ tw_G := tw_in (List.mem_of_getElem? (i := 348) (by decide +kernel)) rfl
theorem tk_231 : (Jvm.Cond.static ({ cls := "LandBook$Plane", name := "pack", desc := "(II)I" } : Jvm.MethodName)) ∈ tw_G := tw_in (List.mem_of_getElem? (i := 349) (by decide +kernel)) rfl
theorem tk_232 : (Jvm.Cond.initialized "LandBook$Plane") ∈ tw_G := tw_in (List.mem_of_getElem? (i := 75) (by decide +kernel)) rfl
theorem tk_233 : (Jvm.Cond.code ({ cls := "LandBook$Plane", name := "pack", desc := "(II)I" } : Jvm.MethodName) prog_8_method_2_code (2 : Nat) (Option.some Jvm.ClassFile.FieldType.int)) ∈ tw_G := tw_in (List.mem_of_getElem? (i := 350) (by decide +kernel)) rfl
theorem tk_234 : (Jvm.Cond.methodLink "LandBook" (70 : Nat) ({ cls := "LandBook$Points", name := "add", desc := "(I)V" } : Jvm.MethodName)) ∈ tw_G := tw_in (List.mem_of_getElem? (i := 352) (by decide +kernel)) rfl
theorem tk_235 : (Jvm.Cond.instanceMethod ({ cls := "LandBook$Points", name := "add", desc := "(I)V" } : Jvm.MethodName)) ∈ tw_G := tw_in (List.mem_of_getElem? (i := 353) (by decide +kernel)) rfl
theorem tk_236 : (Jvm.Cond.selects "LandBook$Points" ({ cls := "LandBook$Points", name := "add", desc := "(I)V" } : Jvm.MethodName) ({ cls := "LandBook$Points", name := "add", desc := "(I)V" } : Jvm.MethodName)) ∈ tw_G := tw_in (List.mem_of_getElem? (i := 354) (by decide +kernel)) rfl
theorem tk_237 : (Jvm.Cond.code ({ cls := "LandBook$Points", name := "add", desc := "(I)V" } : Jvm.MethodName) prog_9_method_3_code (2 : Nat) (Option.none : Option Jvm.ClassFile.FieldType)) ∈ tw_G := tw_in (List.mem_of_getElem? (i := 355) (by decide +kernel)) rfl
abbrev y_LB_point : MethodName := ⟨"LandBook", "point", "(II)I"⟩
abbrev w_LB_point : List Cond := Cond.code y_LB_point prog_1_method_2_code 3 (some .int) :: tw_G
theorem d_LB_point_0 : decode prog_1_method_2_code 0 = .ok (.iload_n 1, 1) := by decide +kernel
theorem d_LB_point_1 : decode prog_1_method_2_code 1 = .ok (.iload_n 2, 1) := by decide +kernel
theorem d_LB_point_2 : decode prog_1_method_2_code 2 = .ok (.invokestatic 49, 3) := by decide +kernel
theorem d_LB_point_5 : decode prog_1_method_2_code 5 = .ok (.aload_n 0, 1) := by decide +kernel
theorem d_LB_point_6 : decode prog_1_method_2_code 6 = .ok (.getfield 14, 3) := by decide +kernel
theorem d_LB_point_9 : decode prog_1_method_2_code 9 = .ok (.getfield 53, 3) := by decide +kernel
theorem d_LB_point_12 : decode prog_1_method_2_code 12 = .ok (.bipush 32, 2) := by decide +kernel
theorem d_LB_point_14 : decode prog_1_method_2_code 14 = .ok (.if_icmp .lt 13, 3) := by decide +kernel
theorem d_LB_point_27 : decode prog_1_method_2_code 27 = .ok (.aload_n 0, 1) := by decide +kernel
theorem d_LB_point_28 : decode prog_1_method_2_code 28 = .ok (.getfield 14, 3) := by decide +kernel
theorem d_LB_point_31 : decode prog_1_method_2_code 31 = .ok (.iload_n 1, 1) := by decide +kernel
theorem d_LB_point_32 : decode prog_1_method_2_code 32 = .ok (.iload_n 2, 1) := by decide +kernel
theorem d_LB_point_33 : decode prog_1_method_2_code 33 = .ok (.invokestatic 64, 3) := by decide +kernel
theorem d_LB_point_36 : decode prog_1_method_2_code 36 = .ok (.invokevirtual 70, 3) := by decide +kernel
theorem d_LB_point_39 : decode prog_1_method_2_code 39 = .ok (.aload_n 0, 1) := by decide +kernel
theorem d_LB_point_40 : decode prog_1_method_2_code 40 = .ok (.getfield 14, 3) := by decide +kernel
theorem d_LB_point_43 : decode prog_1_method_2_code 43 = .ok (.getfield 53, 3) := by decide +kernel
theorem d_LB_point_46 : decode prog_1_method_2_code 46 = .ok (.ireturn, 1) := by decide +kernel
set_option maxHeartbeats 4000000 in
set_option maxRecDepth 100000 in
theorem c_point_fresh (l : Launch) (hfl : l.flags = pinnedFlags ++ [noTraceFlag]) (dC : Nat → ClassId) (dI : Nat → Nat → Nat) (h sz ro ra : Nat) (cI : ClassId) (f : Nat → Int32) (v1 v2 v3 v4 v5 v6 v7 : Value) (a0 a1 : Int32) : tw_Met l y_LB_point w_LB_point ({ frames := 7, cells := 1, slots := 6, locals := 103 }) (tw_P4E (dC, dI) classes [(h, .inr (0, [.ref ro, v1, v2, v3, v4, v5, v6, v7])), (ro, .inr (1, [.ref ra, .int 0])), (ra, .inl (cI, 32, .inl (f)))] [(cI, .int)] sz [.ref h, .int a0, .int a1]) (tw_Qm (fun v => (¬ a0 < 0 ∧ ¬ 20000 < a0 ∧ ¬ a1 < 0 ∧ a1 ≤ 20000) ∧ v = some (.int 1)) (fun cls => ¬ (¬ a0 < 0 ∧ ¬ 20000 < a0 ∧ ¬ a1 < 0 ∧ a1 ≤ 20000) ∧ cls = "java/lang/IllegalArgumentException") (va_A [(h, .inr (0, [.ref ro, v1, v2, v3, v4, v5, v6, v7])), (ro, .inr (1, [.ref ra, .int 0])), (ra, .inl (cI, 32, .inl (f)))] sz)) 1 6 (va_A [(h, .inr (0, [.ref ro, v1, v2, v3, v4, v5, v6, v7])), (ro, .inr (1, [.ref ra, .int 0])), (ra, .inl (cI, 32, .inl (f)))] sz) := by
  refine tw_ofW (cc := prog_1_method_2_code) (maxL := 3) (ret := (some .int)) (by decide) rfl ?_
  intro p e s m args below meth c s₁ B hml hno hv
  obtain ⟨rfl, hsz, hP, hK, hD0, hE⟩ := hv
  have hx := B.exec
  have hb := B.bytes
  have hr := B.returns
  have hts : ∀ w ∈ tw_G, w.before _ s = true := fun w h => atoms_spec (ws := w_LB_point) B.pre w (List.mem_cons_of_mem _ h)
  have hown : s.vm.findClass "LandBook" = some m.cls := findClass_of_methodNamed B.named
  have hlocks := B.notSynchronized
  subst hsz
  have hN := tw_nst hP
  have hD := hD0.self (sz := s.heap.size)
  generalize hAe : va_A [(h, .inr (0, [.ref ro, v1, v2, v3, v4, v5, v6, v7])), (ro, .inr (1, [.ref ra, .int 0])), (ra, .inl (cI, 32, .inl (f)))] s.heap.size = A at hD hN ⊢
  have hA : ∀ q : Nat, s.heap.size ≤ q → A q := fun q h => by rw [← hAe]; exact Or.inr h
  have hS : va_S A s.heap s.heap [] := va_S.rf
  have hP : va_P (dC, dI) classes [(h, .inr (0, [.ref ro, v1, v2, v3, v4, v5, v6, v7])), (ro, .inr (1, [.ref ra, .int 0])), (ra, .inl (cI, 32, .inl (f)))] s.heap := hP
  have hl := lv_entry ([.ref h, .int a0, .int a1]) (n := 3) (Nat.le_of_ble_eq_true rfl)
  rw [lg_entry_eq]
  generalize (lg_sl ([.ref h, .int a0, .int a1]) ++ List.replicate (3 - (lg_sl ([.ref h, .int a0, .int a1])).length) Slot.unset).toArray = ls at hl ⊢
  have hl : lv_has ls 3 [(0, .ref h), (1, .int a0), (2, .int a1)] := hl
  refine lv_iload_n hx hb d_LB_point_0 rfl (lv_at hl 1 rfl) ?_
  refine lv_iload_n hx hb d_LB_point_1 rfl (lv_at hl 2 rfl) ?_
  refine tw_chk (tw_runS (As := [.int a0, .int a1]) (rest := []) ⟨hx, hb, hml, hown, hts⟩ (c_checkPoint l hfl a0 a1) (va_cwS 2 hts (tw_gS tk_227 tk_228 tk_213 tk_229) rfl rfl rfl (by decide +kernel) ⟨Nat.le_of_ble_eq_true rfl, Nat.le_of_ble_eq_true rfl⟩) (tw_s0E hE (tw_kst hN hS)) rfl rfl hl.1 rfl (lv_room (Nat.le_of_ble_eq_true rfl)) d_LB_point_2 ⟨by show 1 ≤ 1; decide, by show 6 ≤ 6; decide⟩) (fun o1 => ?_) (fun o1 x2 J3 j1 j2 j3 j4 => ?_)
  · have hok := o1
    refine lv_aload_n hx hb d_LB_point_5 rfl (lv_at hl 0 rfl) ?_
    refine va_get (D := (dC, dI)) (ci := 0) (v := .ref ro) (C := "LandBook") (T := F_LandBook) (N := 8) hx hb hts tu_LandBook hown hK hP 0 rfl rfl 0 (by decide) (hts _ tk_140) (fun _ h9 => h9) rfl d_LB_point_6 ?_
    refine va_get (D := (dC, dI)) (ci := 1) (v := .int 0) (C := "LandBook$Points") (T := F_Points) (N := 2) hx hb hts tu_Points hown hK hP 1 rfl rfl 1 (by decide) (hts _ tk_222) (fun _ h9 => h9) rfl d_LB_point_9 ?_
    refine lv_bipush (v := 32) hx hb d_LB_point_12 (by decide) ?_
    refine lv_icmp_lt (tgt := 27) hx hb d_LB_point_14 (by decide) (fun h4 => ?_) (fun h4 => absurd (by decide) h4)
    refine lv_aload_n hx hb d_LB_point_27 rfl (lv_at hl 0 rfl) ?_
    refine va_get (D := (dC, dI)) (ci := 0) (v := .ref ro) (C := "LandBook") (T := F_LandBook) (N := 8) hx hb hts tu_LandBook hown hK hP 0 rfl rfl 0 (by decide) (hts _ tk_140) (fun _ h9 => h9) rfl d_LB_point_28 ?_
    refine lv_iload_n hx hb d_LB_point_31 rfl (lv_at hl 1 rfl) ?_
    refine lv_iload_n hx hb d_LB_point_32 rfl (lv_at hl 2 rfl) ?_
    refine vp_callSi (W.runS (As := [.int a0, .int a1]) (rest := [.ref ro]) ⟨hx, hb, hml, hown, hts⟩ (c_Plane_pack l a0 a1) (va_cwS 2 hts (tw_gS tk_230 tk_231 tk_232 tk_233) rfl rfl rfl (by decide +kernel) ⟨Nat.le_of_ble_eq_true rfl, Nat.le_of_ble_eq_true rfl⟩) tw_s0 rfl rfl hl.1 rfl (lv_room (Nat.le_of_ble_eq_true rfl)) d_LB_point_33 ⟨by show 1 ≤ 1; decide, by show 6 ≤ 6; decide⟩) (fun r5 e6 => ?_)
    have e6 := e6.symm
    subst e6
    have hPc := hP.sub (ws' := [(ro, .inr (1, [.ref ra, .int 0])), (ra, .inl (cI, 32, .inl (f)))]) [1, 2] rfl
    have hDc := hD.sub (ws' := [(ro, .inr (1, [.ref ra, .int 0])), (ra, .inl (cI, 32, .inl (f)))]) [1, 2] (by decide) rfl
    have hKc := hK.sub (tys' := [(cI, .int)]) [0] rfl
    have hFc := va_free (wc := [(ro, .inr (1, [.ref ra, .int 0])), (ra, .inl (cI, 32, .inl (f)))]) hD hS hA [1, 2] rfl
    refine va_callv (va_runV (As := [.int (a0 * 32768 + a1)]) (rest := []) ⟨hx, hb, hml, hown, hts⟩ (c_Points_add l dC dI ro s.heap.size ra 32 cI f 0 (a0 * 32768 + a1) (by decide) (by unfold vp_in; decide)) (cwV 1 hts (tw_gV tk_234 tk_235 tk_236 tk_108 tk_237) rfl rfl rfl (by decide +kernel) ⟨Nat.le_of_ble_eq_true rfl, Nat.le_of_ble_eq_true rfl⟩) (tw_v4 (va_recv (q0 := 1) hK hP rfl rfl) hPc hKc hDc) rfl rfl hl.1 rfl (lv_room (Nat.le_of_ble_eq_true rfl)) d_LB_point_36 ⟨by show 1 ≤ 1; decide, by show 6 ≤ 6; decide⟩) hS (fun q _ h => hFc q h) hFc (fun u t H1 locs ht hvm hw hB hz1 hk1 hS => ?_)
    obtain ⟨hP1, hK1, hD1⟩ := hB
    rw [ht] at hP1
    have hK1 := va_K.moved hvm.symm hK1
    obtain ⟨hP, hD⟩ := va_join (wr := [(h, .inr (0, [.ref ro, v1, v2, v3, v4, v5, v6, v7]))]) (w1 := [(ro, .inr (1, [.ref ra, .int (0 + 1)])), (ra, .inl (cI, 32, .inl (upd (f) ((0 : Int32)).toNatClampNeg ((a0 * 32768 + a1)))))]) hP hD [1, 2] [0] rfl rfl (by decide) (by decide) hk1 hFc hP1 hD1
    generalize H1 = H at hP hS ⊢
    have hP : va_P (dC, dI) classes [(h, .inr (0, [.ref ro, v1, v2, v3, v4, v5, v6, v7])), (ro, .inr (1, [.ref ra, .int (0 + 1)])), (ra, .inl (cI, 32, .inl (upd (f) ((0 : Int32)).toNatClampNeg ((a0 * 32768 + a1)))))] H := hP
    have hD : va_D A [(h, .inr (0, [.ref ro, v1, v2, v3, v4, v5, v6, v7])), (ro, .inr (1, [.ref ra, .int (0 + 1)])), (ra, .inl (cI, 32, .inl (upd (f) ((0 : Int32)).toNatClampNeg ((a0 * 32768 + a1)))))] := hD
    refine lv_aload_n hx hb d_LB_point_39 rfl (lv_at hl 0 rfl) ?_
    refine va_get (D := (dC, dI)) (ci := 0) (v := .ref ro) (C := "LandBook") (T := F_LandBook) (N := 8) hx hb hts tu_LandBook hown hK hP 0 rfl rfl 0 (by decide) (hts _ tk_140) (fun _ h9 => h9) rfl d_LB_point_40 ?_
    refine va_get (D := (dC, dI)) (ci := 1) (v := .int (0 + 1)) (C := "LandBook$Points") (T := F_Points) (N := 2) hx hb hts tu_Points hown hK hP 1 rfl rfl 1 (by decide) (hts _ tk_222) (fun _ h9 => h9) rfl d_LB_point_43 ?_
    exact tw_ret (W.widen (k := 1) (n := 6) (by decide) (by decide) (W.iret (v := (0 + 1)) hx hb hr (fun t ht hW => ⟨⟨hok, rfl⟩, hS.F ht⟩) hS.2.2 d_LB_point_46))
  · exact tw_out (tw_none hno _) (fun t ht hW => ⟨⟨_, ⟨o1, rfl⟩, tw_excOf j4 ht hW⟩, tw_SF hS hA j2 j3 ht⟩) hS.2.2 hlocks
theorem tw_m5 (x : Int32) : x = 0 ∨ x = 1 ∨ x = 2 ∨ x = 3 ∨ x = 4 ∨ ((x.toInt < 0 ∨ 4 < x.toInt) ∧ ¬ (¬ x < 0 ∧ ¬ 4 < x)) := by
  rcases tw_sw x 4 (by decide) with ⟨j, hj, rfl⟩ | h
  · rcases (show j = 0 ∨ j = 1 ∨ j = 2 ∨ j = 3 ∨ j = 4 by omega) with rfl | rfl | rfl | rfl | rfl
    · exact Or.inl rfl
    · exact Or.inr (Or.inl rfl)
    · exact Or.inr (Or.inr (Or.inl rfl))
    · exact Or.inr (Or.inr (Or.inr (Or.inl rfl)))
    · exact Or.inr (Or.inr (Or.inr (Or.inr (Or.inl rfl))))
  · refine Or.inr (Or.inr (Or.inr (Or.inr (Or.inr ⟨h, fun o => ?_⟩))))
    rcases h with h | h
    · exact o.1 (Int32.lt_iff_toInt_lt.mpr h)
    · exact o.2 (Int32.lt_iff_toInt_lt.mpr h)
theorem tk_238 : (Jvm.Cond.methodLink "LandBook" (173 : Nat) ({ cls := "LandBook$Register", name := "lastEntry", desc := "()I" } : Jvm.MethodName)) ∈ tw_G := tw_in (List.mem_of_getElem? (i := 666) (by decide +kernel)) rfl
theorem tk_239 : (Jvm.Cond.instanceMethod ({ cls := "LandBook$Register", name := "lastEntry", desc := "()I" } : Jvm.MethodName)) ∈ tw_G := tw_in (List.mem_of_getElem? (i := 578) (by decide +kernel)) rfl
theorem tk_240 : (Jvm.Cond.selects "LandBook$Register" ({ cls := "LandBook$Register", name := "lastEntry", desc := "()I" } : Jvm.MethodName) ({ cls := "LandBook$Register", name := "lastEntry", desc := "()I" } : Jvm.MethodName)) ∈ tw_G := tw_in (List.mem_of_getElem? (i := 579) (by decide +kernel)) rfl
theorem tk_241 : (Jvm.Cond.code ({ cls := "LandBook$Register", name := "lastEntry", desc := "()I" } : Jvm.MethodName) prog_10_method_2_code (1 : Nat) (Option.some Jvm.ClassFile.FieldType.int)) ∈ tw_G := tw_in (List.mem_of_getElem? (i := 580) (by decide +kernel)) rfl
theorem tk_242 : (Jvm.Cond.methodLink "LandBook" (186 : Nat) ({ cls := "LandBook$Register", name := "easementCount", desc := "()I" } : Jvm.MethodName)) ∈ tw_G := tw_in (List.mem_of_getElem? (i := 667) (by decide +kernel)) rfl
theorem tk_243 : (Jvm.Cond.instanceMethod ({ cls := "LandBook$Register", name := "easementCount", desc := "()I" } : Jvm.MethodName)) ∈ tw_G := tw_in (List.mem_of_getElem? (i := 668) (by decide +kernel)) rfl
theorem tk_244 : (Jvm.Cond.selects "LandBook$Register" ({ cls := "LandBook$Register", name := "easementCount", desc := "()I" } : Jvm.MethodName) ({ cls := "LandBook$Register", name := "easementCount", desc := "()I" } : Jvm.MethodName)) ∈ tw_G := tw_in (List.mem_of_getElem? (i := 669) (by decide +kernel)) rfl
theorem tk_245 : (Jvm.Cond.code ({ cls := "LandBook$Register", name := "easementCount", desc := "()I" } : Jvm.MethodName) prog_10_method_4_code (1 : Nat) (Option.some Jvm.ClassFile.FieldType.int)) ∈ tw_G := tw_in (List.mem_of_getElem? (i := 670) (by decide +kernel)) rfl
theorem tk_246 : (Jvm.Cond.fieldLink "LandBook" (248 : Nat) "LandBook$Log" "synced" "I") ∈ tw_G := tw_in (List.mem_of_getElem? (i := 218) (by decide +kernel)) rfl
abbrev y_LB_many : MethodName := ⟨"LandBook", "many", "(I)I"⟩
abbrev w_LB_many : List Cond := Cond.code y_LB_many prog_1_method_18_code 2 (some .int) :: tw_G
theorem d_LB_many_0 : decode prog_1_method_18_code 0 = .ok (.iload_n 1, 1) := by decide +kernel
theorem d_LB_many_1 : decode prog_1_method_18_code 1 = .ok (.tableswitch 75 0 4 #[35, 43, 51, 59, 67], 35) := by decide +kernel
theorem d_LB_many_36 : decode prog_1_method_18_code 36 = .ok (.aload_n 0, 1) := by decide +kernel
theorem d_LB_many_37 : decode prog_1_method_18_code 37 = .ok (.getfield 38, 3) := by decide +kernel
theorem d_LB_many_40 : decode prog_1_method_18_code 40 = .ok (.invokevirtual 76, 3) := by decide +kernel
theorem d_LB_many_43 : decode prog_1_method_18_code 43 = .ok (.ireturn, 1) := by decide +kernel
theorem d_LB_many_44 : decode prog_1_method_18_code 44 = .ok (.aload_n 0, 1) := by decide +kernel
theorem d_LB_many_45 : decode prog_1_method_18_code 45 = .ok (.getfield 38, 3) := by decide +kernel
theorem d_LB_many_48 : decode prog_1_method_18_code 48 = .ok (.invokevirtual 173, 3) := by decide +kernel
theorem d_LB_many_51 : decode prog_1_method_18_code 51 = .ok (.ireturn, 1) := by decide +kernel
theorem d_LB_many_52 : decode prog_1_method_18_code 52 = .ok (.aload_n 0, 1) := by decide +kernel
theorem d_LB_many_53 : decode prog_1_method_18_code 53 = .ok (.getfield 38, 3) := by decide +kernel
theorem d_LB_many_56 : decode prog_1_method_18_code 56 = .ok (.invokevirtual 186, 3) := by decide +kernel
theorem d_LB_many_59 : decode prog_1_method_18_code 59 = .ok (.ireturn, 1) := by decide +kernel
theorem d_LB_many_60 : decode prog_1_method_18_code 60 = .ok (.aload_n 0, 1) := by decide +kernel
theorem d_LB_many_61 : decode prog_1_method_18_code 61 = .ok (.getfield 45, 3) := by decide +kernel
theorem d_LB_many_64 : decode prog_1_method_18_code 64 = .ok (.getfield 247, 3) := by decide +kernel
theorem d_LB_many_67 : decode prog_1_method_18_code 67 = .ok (.ireturn, 1) := by decide +kernel
theorem d_LB_many_68 : decode prog_1_method_18_code 68 = .ok (.aload_n 0, 1) := by decide +kernel
theorem d_LB_many_69 : decode prog_1_method_18_code 69 = .ok (.getfield 45, 3) := by decide +kernel
theorem d_LB_many_72 : decode prog_1_method_18_code 72 = .ok (.getfield 248, 3) := by decide +kernel
theorem d_LB_many_75 : decode prog_1_method_18_code 75 = .ok (.ireturn, 1) := by decide +kernel
theorem d_LB_many_76 : decode prog_1_method_18_code 76 = .ok (.new 189, 3) := by decide +kernel
theorem d_LB_many_79 : decode prog_1_method_18_code 79 = .ok (.dup, 1) := by decide +kernel
theorem d_LB_many_80 : decode prog_1_method_18_code 80 = .ok (.ldc 251, 2) := by decide +kernel
theorem d_LB_many_82 : decode prog_1_method_18_code 82 = .ok (.invokespecial 193, 3) := by decide +kernel
theorem d_LB_many_85 : decode prog_1_method_18_code 85 = .ok (.athrow, 1) := by decide +kernel
set_option maxHeartbeats 4000000 in
set_option maxRecDepth 100000 in
theorem c_many_fresh (l : Launch) (hfl : l.flags = pinnedFlags ++ [noTraceFlag]) (dC : Nat → ClassId) (dI : Nat → Nat → Nat) (h rg dl ll el lg : Nat) (v0 v1 v2 v3 v6 v7 w3 w4 x0 y0 x1 y1 x2 y2 z0 : Value) (a0 : Int32) : tw_Met l y_LB_many w_LB_many ({ frames := 6, cells := 1, slots := 6, locals := 82 }) (tw_P2E (dC, dI) classes [(h, .inr (0, [v0, v1, v2, v3, .ref rg, .ref lg, v6, v7])), (rg, .inr (4, [.ref dl, .ref ll, .ref el, w3, w4])), (dl, .inr (6, [x0, .int 0, y0])), (ll, .inr (6, [x1, .int 0, y1])), (el, .inr (6, [x2, .int 0, y2])), (lg, .inr (5, [z0, .int 0, .int 0]))] [] [.ref h, .int a0]) (tw_Qi (¬ a0 < 0 ∧ ¬ 4 < a0) (fun r => r = 0) "java/lang/IndexOutOfBoundsException") 1 6 (fun _ => False) := by
  refine tw_ofW (cc := prog_1_method_18_code) (maxL := 2) (ret := (some .int)) (by decide) rfl ?_
  intro p e s m args below meth c s₁ B hml hno hv
  obtain ⟨rfl, hP, hK, hE⟩ := hv
  have hx := B.exec
  have hb := B.bytes
  have hr := B.returns
  have hts : ∀ w ∈ tw_G, w.before _ s = true := fun w h => atoms_spec (ws := w_LB_many) B.pre w (List.mem_cons_of_mem _ h)
  have hown : s.vm.findClass "LandBook" = some m.cls := findClass_of_methodNamed B.named
  have hlocks := B.notSynchronized
  have hP : va_P (dC, dI) classes [(h, .inr (0, [v0, v1, v2, v3, .ref rg, .ref lg, v6, v7])), (rg, .inr (4, [.ref dl, .ref ll, .ref el, w3, w4])), (dl, .inr (6, [x0, .int 0, y0])), (ll, .inr (6, [x1, .int 0, y1])), (el, .inr (6, [x2, .int 0, y2])), (lg, .inr (5, [z0, .int 0, .int 0]))] s.heap := hP
  have hl := lv_entry ([.ref h, .int a0]) (n := 2) (Nat.le_of_ble_eq_true rfl)
  rw [lg_entry_eq]
  generalize (lg_sl ([.ref h, .int a0]) ++ List.replicate (2 - (lg_sl ([.ref h, .int a0])).length) Slot.unset).toArray = ls at hl ⊢
  have hl : lv_has ls 2 [(0, .ref h), (1, .int a0)] := hl
  refine lv_iload_n hx hb d_LB_many_0 rfl (lv_at hl 1 rfl) ?_
  rcases tw_m5 a0 with rfl | rfl | rfl | rfl | rfl | ⟨g, g9⟩
  · refine lv_tableIn (off := 35) (tgt := 36) hx hb d_LB_many_1 (by decide) (by decide) (by decide) (by decide) ?_
    refine lv_aload_n hx hb d_LB_many_36 rfl (lv_at hl 0 rfl) ?_
    refine va_get (D := (dC, dI)) (ci := 0) (v := .ref rg) (C := "LandBook") (T := F_LandBook) (N := 8) hx hb hts tu_LandBook hown hK hP 0 rfl rfl 4 (by decide) (hts _ tk_159) (fun _ h9 => h9) rfl d_LB_many_37 ?_
    refine vp_callSi (W.runV (As := []) (rest := []) ⟨hx, hb, hml, hown, hts⟩ (c_Register_lotCount l dC dI rg ll (.ref dl) (.ref el) w3 w4 x1 y1 0) (cwV 0 hts (tw_gV tk_206 tk_207 tk_208 tk_156 tk_209) rfl rfl rfl (by decide +kernel) ⟨Nat.le_of_ble_eq_true rfl, Nat.le_of_ble_eq_true rfl⟩) (tw_v2 (va_recv (q0 := 1) hK hP rfl rfl) (hP.sub (ws' := [(rg, .inr (4, [.ref dl, .ref ll, .ref el, w3, w4])), (ll, .inr (6, [x1, .int 0, y1]))]) [1, 3] rfl) (hK.sub (tys' := []) [] rfl)) rfl rfl hl.1 rfl (lv_room (Nat.le_of_ble_eq_true rfl)) d_LB_many_40 ⟨by show 0 ≤ 1; decide, by show 0 ≤ 6; decide⟩) (fun r1 e2 => ?_)
    have e2 := e2.symm
    subst e2
    exact tw_ret (W.widen (k := 1) (n := 6) (by decide) (by decide) (W.iret (v := 0) hx hb hr (fun t ht hW => ⟨0, rfl, by decide, rfl, ht⟩) (fun _ h => by cases h) d_LB_many_43))
  · refine lv_tableIn (off := 43) (tgt := 44) hx hb d_LB_many_1 (by decide) (by decide) (by decide) (by decide) ?_
    refine lv_aload_n hx hb d_LB_many_44 rfl (lv_at hl 0 rfl) ?_
    refine va_get (D := (dC, dI)) (ci := 0) (v := .ref rg) (C := "LandBook") (T := F_LandBook) (N := 8) hx hb hts tu_LandBook hown hK hP 0 rfl rfl 4 (by decide) (hts _ tk_159) (fun _ h9 => h9) rfl d_LB_many_45 ?_
    refine vp_callSi (W.runV (As := []) (rest := []) ⟨hx, hb, hml, hown, hts⟩ (c_Register_lastEntry l dC dI rg dl (.ref ll) (.ref el) w3 w4 x0 y0 0) (cwV 0 hts (tw_gV tk_238 tk_239 tk_240 tk_156 tk_241) rfl rfl rfl (by decide +kernel) ⟨Nat.le_of_ble_eq_true rfl, Nat.le_of_ble_eq_true rfl⟩) (tw_v2 (va_recv (q0 := 1) hK hP rfl rfl) (hP.sub (ws' := [(rg, .inr (4, [.ref dl, .ref ll, .ref el, w3, w4])), (dl, .inr (6, [x0, .int 0, y0]))]) [1, 2] rfl) (hK.sub (tys' := []) [] rfl)) rfl rfl hl.1 rfl (lv_room (Nat.le_of_ble_eq_true rfl)) d_LB_many_48 ⟨by show 0 ≤ 1; decide, by show 0 ≤ 6; decide⟩) (fun r3 e4 => ?_)
    have e4 := e4.symm
    subst e4
    exact tw_ret (W.widen (k := 1) (n := 6) (by decide) (by decide) (W.iret (v := 0) hx hb hr (fun t ht hW => ⟨0, rfl, by decide, rfl, ht⟩) (fun _ h => by cases h) d_LB_many_51))
  · refine lv_tableIn (off := 51) (tgt := 52) hx hb d_LB_many_1 (by decide) (by decide) (by decide) (by decide) ?_
    refine lv_aload_n hx hb d_LB_many_52 rfl (lv_at hl 0 rfl) ?_
    refine va_get (D := (dC, dI)) (ci := 0) (v := .ref rg) (C := "LandBook") (T := F_LandBook) (N := 8) hx hb hts tu_LandBook hown hK hP 0 rfl rfl 4 (by decide) (hts _ tk_159) (fun _ h9 => h9) rfl d_LB_many_53 ?_
    refine vp_callSi (W.runV (As := []) (rest := []) ⟨hx, hb, hml, hown, hts⟩ (c_Register_easementCount l dC dI rg el (.ref dl) (.ref ll) w3 w4 x2 y2 0) (cwV 0 hts (tw_gV tk_242 tk_243 tk_244 tk_156 tk_245) rfl rfl rfl (by decide +kernel) ⟨Nat.le_of_ble_eq_true rfl, Nat.le_of_ble_eq_true rfl⟩) (tw_v2 (va_recv (q0 := 1) hK hP rfl rfl) (hP.sub (ws' := [(rg, .inr (4, [.ref dl, .ref ll, .ref el, w3, w4])), (el, .inr (6, [x2, .int 0, y2]))]) [1, 4] rfl) (hK.sub (tys' := []) [] rfl)) rfl rfl hl.1 rfl (lv_room (Nat.le_of_ble_eq_true rfl)) d_LB_many_56 ⟨by show 0 ≤ 1; decide, by show 0 ≤ 6; decide⟩) (fun r5 e6 => ?_)
    have e6 := e6.symm
    subst e6
    exact tw_ret (W.widen (k := 1) (n := 6) (by decide) (by decide) (W.iret (v := 0) hx hb hr (fun t ht hW => ⟨0, rfl, by decide, rfl, ht⟩) (fun _ h => by cases h) d_LB_many_59))
  · refine lv_tableIn (off := 59) (tgt := 60) hx hb d_LB_many_1 (by decide) (by decide) (by decide) (by decide) ?_
    refine lv_aload_n hx hb d_LB_many_60 rfl (lv_at hl 0 rfl) ?_
    refine va_get (D := (dC, dI)) (ci := 0) (v := .ref lg) (C := "LandBook") (T := F_LandBook) (N := 8) hx hb hts tu_LandBook hown hK hP 0 rfl rfl 5 (by decide) (hts _ tk_165) (fun _ h9 => h9) rfl d_LB_many_61 ?_
    refine va_get (D := (dC, dI)) (ci := 5) (v := .int 0) (C := "LandBook$Log") (T := F_Log) (N := 3) hx hb hts tu_Log hown hK hP 5 rfl rfl 1 (by decide) (hts _ tk_217) (fun _ h9 => h9) rfl d_LB_many_64 ?_
    exact tw_ret (W.widen (k := 1) (n := 6) (by decide) (by decide) (W.iret (v := 0) hx hb hr (fun t ht hW => ⟨0, rfl, by decide, rfl, ht⟩) (fun _ h => by cases h) d_LB_many_67))
  · refine lv_tableIn (off := 67) (tgt := 68) hx hb d_LB_many_1 (by decide) (by decide) (by decide) (by decide) ?_
    refine lv_aload_n hx hb d_LB_many_68 rfl (lv_at hl 0 rfl) ?_
    refine va_get (D := (dC, dI)) (ci := 0) (v := .ref lg) (C := "LandBook") (T := F_LandBook) (N := 8) hx hb hts tu_LandBook hown hK hP 0 rfl rfl 5 (by decide) (hts _ tk_165) (fun _ h9 => h9) rfl d_LB_many_69 ?_
    refine va_get (D := (dC, dI)) (ci := 5) (v := .int 0) (C := "LandBook$Log") (T := F_Log) (N := 3) hx hb hts tu_Log hown hK hP 5 rfl rfl 2 (by decide) (hts _ tk_246) (fun _ h9 => h9) rfl d_LB_many_72 ?_
    exact tw_ret (W.widen (k := 1) (n := 6) (by decide) (by decide) (W.iret (v := 0) hx hb hr (fun t ht hW => ⟨0, rfl, by decide, rfl, ht⟩) (fun _ h => by cases h) d_LB_many_75))
  · refine lv_tableOut (tgt := 76) hx hb d_LB_many_1 g (by decide) ?_
    obtain ⟨q8, z7⟩ := hE.2 (251, "nothing that is counted") (by decide)
    exact tw_throw (pc := 76) (k := 2) hx hb hfl hown (by decide) (hts _ tk_215) (hts _ tk_216) (hE.1 (193, "java/lang/IndexOutOfBoundsException") (by decide)) z7 hno hlocks (hl.1.trans hml.symm) d_LB_many_76 d_LB_many_79 (Or.inl ⟨rfl, d_LB_many_80⟩) d_LB_many_82 d_LB_many_85 (by show 1 ≤ 1; decide) (by show 6 ≤ 6; decide) (Nat.le_of_ble_eq_true rfl) (Nat.le_of_ble_eq_true rfl) (fun t g1 g2 g3 g4 => ⟨g9, rfl, g1, g2, g4⟩)
