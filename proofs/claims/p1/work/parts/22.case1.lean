theorem tk_429 : (Jvm.Cond.codeWith ({ cls := "LandBookLaw", name := "lotAt", desc := "(LLandBook;IIII[J)I" } : Jvm.MethodName) method_10_code (7 : Nat) (Option.some Jvm.ClassFile.FieldType.int) [((0 : Nat), (14 : Nat), (17 : Nat), (21 : Nat)), ((0 : Nat), (14 : Nat), (21 : Nat), (13 : Nat))]) ∈ tw_G := tw_in (List.mem_of_getElem? (i := 885) (by decide +kernel)) rfl
theorem tk_430 : (Jvm.Cond.methodLink "LandBookLaw" (121 : Nat) ({ cls := "LandBookLaw", name := "lotAt", desc := "(LLandBook;IIII[J)I" } : Jvm.MethodName)) ∈ tw_G := tw_in (List.mem_of_getElem? (i := 883) (by decide +kernel)) rfl
theorem tk_431 : (Jvm.Cond.static ({ cls := "LandBookLaw", name := "lotAt", desc := "(LLandBook;IIII[J)I" } : Jvm.MethodName)) ∈ tw_G := tw_in (List.mem_of_getElem? (i := 884) (by decide +kernel)) rfl
theorem tk_432 : (Jvm.Cond.methodLink "LandBookLaw" (124 : Nat) ({ cls := "LandBookModel", name := "lotAt", desc := "(IIII)I" } : Jvm.MethodName)) ∈ tw_G := tw_in (List.mem_of_getElem? (i := 1397) (by decide +kernel)) rfl
theorem tk_433 : (Jvm.Cond.instanceMethod ({ cls := "LandBookModel", name := "lotAt", desc := "(IIII)I" } : Jvm.MethodName)) ∈ tw_G := tw_in (List.mem_of_getElem? (i := 1398) (by decide +kernel)) rfl
theorem tk_434 : (Jvm.Cond.selects "LandBookModel" ({ cls := "LandBookModel", name := "lotAt", desc := "(IIII)I" } : Jvm.MethodName) ({ cls := "LandBookModel", name := "lotAt", desc := "(IIII)I" } : Jvm.MethodName)) ∈ tw_G := tw_in (List.mem_of_getElem? (i := 1399) (by decide +kernel)) rfl
theorem tk_435 : (Jvm.Cond.code ({ cls := "LandBookModel", name := "lotAt", desc := "(IIII)I" } : Jvm.MethodName) prog_13_method_61_code (6 : Nat) (Option.some Jvm.ClassFile.FieldType.int)) ∈ tw_G := tw_in (List.mem_of_getElem? (i := 1400) (by decide +kernel)) rfl
set_option maxHeartbeats 4000000 in
set_option maxRecDepth 100000 in
theorem lw_case_7 {p : Program} {e : Env} {s : State} {m : MethodId} {below : List Frame} {meth : Method} {c : Code} (l : Launch) (hfl : l.flags = pinnedFlags ++ [noTraceFlag]) {b : Nat} {xs : Nat → Int32} (hx : p.tables.exec = Jvm.exec) (hb : c.code = code) (hr : meth.sig.returnType = ret) (hml : c.maxLocals = 7) (hown : s.vm.findClass "LandBookLaw" = some m.cls) (hts : ∀ w ∈ tw_G, w.before #[Value.ref b] s = true) (hX : va_X b 7 xs s s.heap) (hbl : b < s.heap.size) (hlocks : meth.locks = false) (hE : lb_E s) {A : Nat → Prop} (hA : ∀ q : Nat, s.heap.size ≤ q → A q) (hA2 : ∀ q : Nat, A q → s.heap.size ≤ q) {dC : Nat → ClassId} {dI : Nat → Nat → Nat} {h ro ra ch rg dl ll el lg hm rx ry ho : Nat} {cI cX cY cL : ClassId} {v2 v3 ca w3 w4 x0 y0 x1 y1 x2 y2 z0 m8 m9 m10 m11 m12 m13 m14 m16 m17 m18 m19 m20 m21 m22 m23 m24 m26 m27 m28 m29 m32 m34 m35 m37 m38 m40 m41 : Value} {H : Heap} {locs : List Loc} {ls : Array Slot} (hK : va_K (dC, dI) classes [(cI, .int), (cX, .int), (cY, .int), (cL, .long)] s) (hP : va_P (dC, dI) classes [(h, .inr (0, [.ref ro, .ref ch, v2, v3, .ref rg, .ref lg, .int 0, .int 0])), (ro, .inr (1, [.ref ra, .int 0])), (ra, .inl (cI, 32, .inl (fun _ => 0))), (ch, .inr (1, [ca, .int 0])), (rg, .inr (4, [.ref dl, .ref ll, .ref el, w3, w4])), (dl, .inr (6, [x0, .int 0, y0])), (ll, .inr (6, [x1, .int 0, y1])), (el, .inr (6, [x2, .int 0, y2])), (lg, .inr (5, [z0, .int 0, .int 0])), (hm, .inr (7, [.int 0, .int 0, .int 0, .int 0, .int 0, .ref rx, .ref ry, .int 0, m8, m9, m10, m11, m12, m13, m14, .int 0, m16, m17, m18, m19, m20, m21, m22, m23, m24, .int 0, m26, m27, m28, m29, .int 0, .int 0, m32, .int 0, m34, m35, .int 0, m37, m38, .int 0, m40, m41])), (rx, .inl (cX, 32, .inl (fun _ => 0))), (ry, .inl (cY, 32, .inl (fun _ => 0))), (ho, .inl (cL, 1, .inr (.inl (fun _ => 0))))] H) (hD : va_D A [(h, .inr (0, [.ref ro, .ref ch, v2, v3, .ref rg, .ref lg, .int 0, .int 0])), (ro, .inr (1, [.ref ra, .int 0])), (ra, .inl (cI, 32, .inl (fun _ => 0))), (ch, .inr (1, [ca, .int 0])), (rg, .inr (4, [.ref dl, .ref ll, .ref el, w3, w4])), (dl, .inr (6, [x0, .int 0, y0])), (ll, .inr (6, [x1, .int 0, y1])), (el, .inr (6, [x2, .int 0, y2])), (lg, .inr (5, [z0, .int 0, .int 0])), (hm, .inr (7, [.int 0, .int 0, .int 0, .int 0, .int 0, .ref rx, .ref ry, .int 0, m8, m9, m10, m11, m12, m13, m14, .int 0, m16, m17, m18, m19, m20, m21, m22, m23, m24, .int 0, m26, m27, m28, m29, .int 0, .int 0, m32, .int 0, m34, m35, .int 0, m37, m38, .int 0, m40, m41])), (rx, .inl (cX, 32, .inl (fun _ => 0))), (ry, .inl (cY, 32, .inl (fun _ => 0))), (ho, .inl (cL, 1, .inr (.inl (fun _ => 0))))]) (hS : va_S A s.heap H locs) (hl : lv_has ls 7 [(4, .int 0), (3, .ref ho), (2, .ref hm), (1, .ref h), (0, .ref b)]) : W p l e room_1 s m #[Value.ref b] below meth c H locs 61 60361 (lw_Z below #[Value.ref b] s) (F0 m 673 ls []) := by
  have hbA : ¬ A b := fun h => absurd (hA2 b h) (Nat.not_le.mpr hbl)
  have hN : ∀ (a : Nat) (cell : Cell), s.heap[a]? = some cell → cell.vm.isStatics = true → ¬ A a := fun a cell h1 _ h3 => absurd (hA2 a h3) (Nat.not_le.mpr (Array.getElem?_eq_some_iff.mp h1).1)
  refine lv_aload_n hx hb d_law_673 rfl (lv_at hl 3 rfl) ?_
  refine lv_aload_n hx hb d_law_674 rfl (lv_at hl 4 rfl) ?_
  refine lv_iload hx hb d_law_675 (lv_at hl 0 rfl) ?_
  refine lv_iconst (v := 1) hx hb d_law_677 (by decide) ?_
  refine lv_iadd hx hb d_law_678 ?_
  refine va_sld hx hb hX hbl hbA hS (i := (0 + 1)) (by unfold vp_in; decide) d_law_679 ?_
  refine lv_aload_n hx hb d_law_680 rfl (lv_at hl 4 rfl) ?_
  refine lv_iload hx hb d_law_681 (lv_at hl 0 rfl) ?_
  refine lv_iconst (v := 2) hx hb d_law_683 (by decide) ?_
  refine lv_iadd hx hb d_law_684 ?_
  refine va_sld hx hb hX hbl hbA hS (i := (0 + 2)) (by unfold vp_in; decide) d_law_685 ?_
  refine lv_aload_n hx hb d_law_686 rfl (lv_at hl 4 rfl) ?_
  refine lv_iload hx hb d_law_687 (lv_at hl 0 rfl) ?_
  refine lv_iconst (v := 3) hx hb d_law_689 (by decide) ?_
  refine lv_iadd hx hb d_law_690 ?_
  refine va_sld hx hb hX hbl hbA hS (i := (0 + 3)) (by unfold vp_in; decide) d_law_691 ?_
  refine lv_aload_n hx hb d_law_692 rfl (lv_at hl 4 rfl) ?_
  refine lv_iload hx hb d_law_693 (lv_at hl 0 rfl) ?_
  refine lv_iconst (v := 4) hx hb d_law_695 (by decide) ?_
  refine lv_iadd hx hb d_law_696 ?_
  refine va_sld hx hb hX hbl hbA hS (i := (0 + 4)) (by unfold vp_in; decide) d_law_697 ?_
  refine lv_aload_n hx hb d_law_698 rfl (lv_at hl 1 rfl) ?_
  have hPc := hP.sub (ws' := [(h, .inr (0, [.ref ro, .ref ch, v2, v3, .ref rg, .ref lg, .int 0, .int 0])), (ro, .inr (1, [.ref ra, .int 0])), (ra, .inl (cI, 32, .inl (fun _ => 0))), (ch, .inr (1, [ca, .int 0])), (rg, .inr (4, [.ref dl, .ref ll, .ref el, w3, w4])), (dl, .inr (6, [x0, .int 0, y0])), (ll, .inr (6, [x1, .int 0, y1])), (el, .inr (6, [x2, .int 0, y2])), (lg, .inr (5, [z0, .int 0, .int 0])), (ho, .inl (cL, 1, .inr (.inl (fun _ => 0))))]) [0, 1, 2, 3, 4, 5, 6, 7, 8, 12] rfl
  have hDc := hD.sub (ws' := [(h, .inr (0, [.ref ro, .ref ch, v2, v3, .ref rg, .ref lg, .int 0, .int 0])), (ro, .inr (1, [.ref ra, .int 0])), (ra, .inl (cI, 32, .inl (fun _ => 0))), (ch, .inr (1, [ca, .int 0])), (rg, .inr (4, [.ref dl, .ref ll, .ref el, w3, w4])), (dl, .inr (6, [x0, .int 0, y0])), (ll, .inr (6, [x1, .int 0, y1])), (el, .inr (6, [x2, .int 0, y2])), (lg, .inr (5, [z0, .int 0, .int 0])), (ho, .inl (cL, 1, .inr (.inl (fun _ => 0))))]) [0, 1, 2, 3, 4, 5, 6, 7, 8, 12] (by decide) rfl
  have hKc := hK.sub (tys' := [(cI, .int), (cL, .long)]) [0, 3] rfl
  have hFc := va_free (wc := [(h, .inr (0, [.ref ro, .ref ch, v2, v3, .ref rg, .ref lg, .int 0, .int 0])), (ro, .inr (1, [.ref ra, .int 0])), (ra, .inl (cI, 32, .inl (fun _ => 0))), (ch, .inr (1, [ca, .int 0])), (rg, .inr (4, [.ref dl, .ref ll, .ref el, w3, w4])), (dl, .inr (6, [x0, .int 0, y0])), (ll, .inr (6, [x1, .int 0, y1])), (el, .inr (6, [x2, .int 0, y2])), (lg, .inr (5, [z0, .int 0, .int 0])), (ho, .inl (cL, 1, .inr (.inl (fun _ => 0))))]) hD hS hA [0, 1, 2, 3, 4, 5, 6, 7, 8, 12] rfl
  refine va_calli (tw_runSW (n := 6) (As := [.ref h, .int (xs (Int32.toNatClampNeg (0 + 1))), .int (xs (Int32.toNatClampNeg (0 + 2))), .int (xs (Int32.toNatClampNeg (0 + 3))), .int (xs (Int32.toNatClampNeg (0 + 4))), .ref ho]) (rest := []) ⟨hx, hb, hml, hown, hts⟩ (c_law_lotAt l hfl dC dI h H.size ro ra ch rg dl ll el lg ho cI cL (fun _ => 0) (fun _ => 0) v2 v3 ca w3 w4 x0 y0 x1 y1 x2 y2 z0 ((xs (Int32.toNatClampNeg (0 + 1)))) ((xs (Int32.toNatClampNeg (0 + 2)))) ((xs (Int32.toNatClampNeg (0 + 3)))) ((xs (Int32.toNatClampNeg (0 + 4))))) (tw_gc tk_429) rfl rfl rfl ⟨Nat.le_of_ble_eq_true rfl, Nat.le_of_ble_eq_true rfl⟩ (hts _ tk_376) (hts _ tk_430) (hts _ tk_431) (by decide +kernel) (tw_s4E hPc hKc hDc hE (tw_kst hN hS)) rfl rfl hl.1 rfl (lv_room (Nat.le_of_ble_eq_true rfl)) d_law_699 ⟨by show 62 ≤ 600002; decide, by show 60367 ≤ 7302232; decide⟩) hS (fun q _ h => hFc q h) hFc (fun rk u t H1 locs ht hvm hk9 hB hz1 hk1 hS => ?_)
  obtain ⟨hP1, hK1, hD1⟩ := hB
  rw [ht] at hP1
  obtain ⟨hP, hD⟩ := va_join (wr := [(hm, .inr (7, [.int 0, .int 0, .int 0, .int 0, .int 0, .ref rx, .ref ry, .int 0, m8, m9, m10, m11, m12, m13, m14, .int 0, m16, m17, m18, m19, m20, m21, m22, m23, m24, .int 0, m26, m27, m28, m29, .int 0, .int 0, m32, .int 0, m34, m35, .int 0, m37, m38, .int 0, m40, m41])), (rx, .inl (cX, 32, .inl (fun _ => 0))), (ry, .inl (cY, 32, .inl (fun _ => 0)))]) (w1 := [(ho, .inl (cL, 1, .inr (.inl (u))))]) hP hD [0, 1, 2, 3, 4, 5, 6, 7, 8, 12] [9, 10, 11] rfl rfl (by decide) (by decide) hk1 hFc hP1 hD1
  generalize H1 = H at hP hS ⊢
  have hP : va_P (dC, dI) classes [(hm, .inr (7, [.int 0, .int 0, .int 0, .int 0, .int 0, .ref rx, .ref ry, .int 0, m8, m9, m10, m11, m12, m13, m14, .int 0, m16, m17, m18, m19, m20, m21, m22, m23, m24, .int 0, m26, m27, m28, m29, .int 0, .int 0, m32, .int 0, m34, m35, .int 0, m37, m38, .int 0, m40, m41])), (rx, .inl (cX, 32, .inl (fun _ => 0))), (ry, .inl (cY, 32, .inl (fun _ => 0))), (ho, .inl (cL, 1, .inr (.inl (u))))] H := hP
  have hD : va_D A [(hm, .inr (7, [.int 0, .int 0, .int 0, .int 0, .int 0, .ref rx, .ref ry, .int 0, m8, m9, m10, m11, m12, m13, m14, .int 0, m16, m17, m18, m19, m20, m21, m22, m23, m24, .int 0, m26, m27, m28, m29, .int 0, .int 0, m32, .int 0, m34, m35, .int 0, m37, m38, .int 0, m40, m41])), (rx, .inl (cX, 32, .inl (fun _ => 0))), (ry, .inl (cY, 32, .inl (fun _ => 0))), (ho, .inl (cL, 1, .inr (.inl (u))))] := hD
  have hk9 : rk = 1 := hk9
  have hk9 := hk9.symm
  subst hk9
  refine lv_istore (lv' := [(5, .int 1), (4, .int 0), (3, .ref ho), (2, .ref hm), (1, .ref h), (0, .ref b)]) hx hb d_law_702 hl (by decide) rfl (fun ls hl => ?_)
  refine lv_aload_n hx hb d_law_704 rfl (lv_at hl 3 rfl) ?_
  refine lv_aload_n hx hb d_law_705 rfl (lv_at hl 5 rfl) ?_
  refine lv_iload hx hb d_law_706 (lv_at hl 1 rfl) ?_
  refine lv_iconst (v := 1) hx hb d_law_708 (by decide) ?_
  refine lv_iadd hx hb d_law_709 ?_
  refine va_sld hx hb hX hbl hbA hS (i := (0 + 1)) (by unfold vp_in; decide) d_law_710 ?_
  refine lv_aload_n hx hb d_law_711 rfl (lv_at hl 5 rfl) ?_
  refine lv_iload hx hb d_law_712 (lv_at hl 1 rfl) ?_
  refine lv_iconst (v := 2) hx hb d_law_714 (by decide) ?_
  refine lv_iadd hx hb d_law_715 ?_
  refine va_sld hx hb hX hbl hbA hS (i := (0 + 2)) (by unfold vp_in; decide) d_law_716 ?_
  refine lv_aload_n hx hb d_law_717 rfl (lv_at hl 5 rfl) ?_
  refine lv_iload hx hb d_law_718 (lv_at hl 1 rfl) ?_
  refine lv_iconst (v := 3) hx hb d_law_720 (by decide) ?_
  refine lv_iadd hx hb d_law_721 ?_
  refine va_sld hx hb hX hbl hbA hS (i := (0 + 3)) (by unfold vp_in; decide) d_law_722 ?_
  refine lv_aload_n hx hb d_law_723 rfl (lv_at hl 5 rfl) ?_
  refine lv_iload hx hb d_law_724 (lv_at hl 1 rfl) ?_
  refine lv_iconst (v := 4) hx hb d_law_726 (by decide) ?_
  refine lv_iadd hx hb d_law_727 ?_
  refine va_sld hx hb hX hbl hbA hS (i := (0 + 4)) (by unfold vp_in; decide) d_law_728 ?_
  have hPc := hP.sub (ws' := [(hm, .inr (7, [.int 0, .int 0, .int 0, .int 0, .int 0, .ref rx, .ref ry, .int 0, m8, m9, m10, m11, m12, m13, m14, .int 0, m16, m17, m18, m19, m20, m21, m22, m23, m24, .int 0, m26, m27, m28, m29, .int 0, .int 0, m32, .int 0, m34, m35, .int 0, m37, m38, .int 0, m40, m41]))]) [0] rfl
  have hDc := hD.sub (ws' := [(hm, .inr (7, [.int 0, .int 0, .int 0, .int 0, .int 0, .ref rx, .ref ry, .int 0, m8, m9, m10, m11, m12, m13, m14, .int 0, m16, m17, m18, m19, m20, m21, m22, m23, m24, .int 0, m26, m27, m28, m29, .int 0, .int 0, m32, .int 0, m34, m35, .int 0, m37, m38, .int 0, m40, m41]))]) [0] (by decide) rfl
  have hKc := hK.sub (tys' := []) [] rfl
  have hFc := va_free (wc := [(hm, .inr (7, [.int 0, .int 0, .int 0, .int 0, .int 0, .ref rx, .ref ry, .int 0, m8, m9, m10, m11, m12, m13, m14, .int 0, m16, m17, m18, m19, m20, m21, m22, m23, m24, .int 0, m26, m27, m28, m29, .int 0, .int 0, m32, .int 0, m34, m35, .int 0, m37, m38, .int 0, m40, m41]))]) hD hS hA [0] rfl
  refine va_calli (va_runV (As := [.int (xs (Int32.toNatClampNeg (0 + 1))), .int (xs (Int32.toNatClampNeg (0 + 2))), .int (xs (Int32.toNatClampNeg (0 + 3))), .int (xs (Int32.toNatClampNeg (0 + 4)))]) (rest := []) ⟨hx, hb, hml, hown, hts⟩ (c_M_lotAt l dC dI hm H.size 0 (.ref rx) (.ref ry) m8 m9 m10 m11 m12 m13 m14 m16 m17 m18 m19 m20 m21 m22 m23 m24 m26 m27 m28 m29 m32 m34 m35 m37 m38 m40 m41 ((xs (Int32.toNatClampNeg (0 + 1)))) ((xs (Int32.toNatClampNeg (0 + 2)))) ((xs (Int32.toNatClampNeg (0 + 3)))) ((xs (Int32.toNatClampNeg (0 + 4))))) (cwV 4 hts (tw_gV tk_432 tk_433 tk_434 tk_249 tk_435) rfl rfl rfl (by decide +kernel) ⟨Nat.le_of_ble_eq_true rfl, Nat.le_of_ble_eq_true rfl⟩) (tw_v4 (va_recv (q0 := 0) hK hP rfl rfl) hPc hKc hDc) rfl rfl hl.1 rfl (lv_room (Nat.le_of_ble_eq_true rfl)) d_law_729 ⟨by show 62 ≤ 600002; decide, by show 60367 ≤ 7302232; decide⟩) hS (fun q _ h => hFc q h) hFc (fun rm w9 t H1 locs ht hvm hm9 hB hz1 hk1 hS => ?_)
  obtain ⟨tm, fs⟩ := w9
  obtain ⟨hP1, hK1, hD1⟩ := hB
  rw [ht] at hP1
  obtain ⟨hP, hD⟩ := va_join (wr := [(rx, .inl (cX, 32, .inl (fun _ => 0))), (ry, .inl (cY, 32, .inl (fun _ => 0))), (ho, .inl (cL, 1, .inr (.inl (u))))]) (w1 := [(hm, .inr (7, .int tm :: fs))]) hP hD [0] [1, 2, 3] rfl rfl (by decide) (by decide) hk1 hFc hP1 hD1
  generalize H1 = H at hP hS ⊢
  have hP : va_P (dC, dI) classes [(rx, .inl (cX, 32, .inl (fun _ => 0))), (ry, .inl (cY, 32, .inl (fun _ => 0))), (ho, .inl (cL, 1, .inr (.inl (u)))), (hm, .inr (7, .int tm :: fs))] H := hP
  have hD : va_D A [(rx, .inl (cX, 32, .inl (fun _ => 0))), (ry, .inl (cY, 32, .inl (fun _ => 0))), (ho, .inl (cL, 1, .inr (.inl (u)))), (hm, .inr (7, .int tm :: fs))] := hD
  have hm9 : tm = 1 := hm9
  have hm9 := hm9.symm
  subst hm9
  refine lv_istore (lv' := [(6, .int rm), (5, .int 1), (4, .int 0), (3, .ref ho), (2, .ref hm), (1, .ref h), (0, .ref b)]) hx hb d_law_732 hl (by decide) rfl (fun ls hl => ?_)
  refine lv_aload_n hx hb d_law_734 rfl (lv_at hl 4 rfl) ?_
  refine vp_callSi (W.runV (As := []) (rest := []) ⟨hx, hb, hml, hown, hts⟩ (c_M_thrown l dC dI hm 1 fs) (cwV 0 hts (tw_gV tk_383 tk_384 tk_385 tk_249 tk_386) rfl rfl rfl (by decide +kernel) ⟨Nat.le_of_ble_eq_true rfl, Nat.le_of_ble_eq_true rfl⟩) (tw_v2 (va_recv (q0 := 3) hK hP rfl rfl) (hP.sub (ws' := [(hm, .inr (7, .int 1 :: fs))]) [3] rfl) (hK.sub (tys' := []) [] rfl)) rfl rfl hl.1 rfl (lv_room (Nat.le_of_ble_eq_true rfl)) d_law_735 ⟨by show 62 ≤ 600002; decide, by show 60367 ≤ 7302232; decide⟩) (fun r1 e2 => ?_)
  have e2 := e2.symm
  subst e2
  refine lv_iload hx hb d_law_738 (lv_at hl 1 rfl) ?_
  refine lv_icmp_eq (tgt := 745) hx hb d_law_740 (by decide) (fun h3 => ?_) (fun h3 => absurd (by decide) h3)
  refine lv_iload hx hb d_law_745 (lv_at hl 1 rfl) ?_
  refine lv_if_ne (tgt := 762) hx hb d_law_747 (by decide) (fun h4 => ?_) (fun h4 => absurd h4 (by decide))
  refine lv_goto (tgt := 1637) hx hb d_law_762 (by decide) ?_
  refine lv_iinc (k := 2) (v := 7) (lv' := [(4, .int 7), (6, .int rm), (5, .int 1), (3, .ref ho), (2, .ref hm), (1, .ref h), (0, .ref b)]) hx hb d_law_1637 hl rfl (by decide) (by decide) rfl (fun ls hl => ?_)
  refine lv_goto (tgt := 23) hx hb d_law_1640 (by decide) ?_
  refine lv_iload hx hb d_law_23 (lv_at hl 0 rfl) ?_
  refine lv_aload_n hx hb d_law_25 rfl (lv_at hl 6 rfl) ?_
  refine va_slen hx hb hX hbl hbA hS d_law_26 ?_
  refine lv_bipush (v := 7) hx hb d_law_27 (by decide) ?_
  refine lv_isub hx hb d_law_29 ?_
  refine lv_icmp_gt (tgt := 1643) hx hb d_law_30 (by decide) (fun h5 => ?_) (fun h5 => absurd (by decide) h5)
  refine lv_iconst (v := 1) hx hb d_law_1643 (by decide) ?_
  refine va_forget (fun q hq => hA2 _ (hS.2.2 q hq)) ?_
  refine W.widen (k := 600002) (n := 7302232) (by decide) (by decide) ?_
  exact lw_ret hx hb hr hlocks d_law_1644
theorem tk_436 : (Jvm.Cond.codeWith ({ cls := "LandBookLaw", name := "area2", desc := "(LLandBook;III[J)I" } : Jvm.MethodName) method_11_code (6 : Nat) (Option.some Jvm.ClassFile.FieldType.int) [((0 : Nat), (12 : Nat), (15 : Nat), (21 : Nat)), ((0 : Nat), (12 : Nat), (19 : Nat), (26 : Nat)), ((0 : Nat), (12 : Nat), (23 : Nat), (13 : Nat))]) ∈ tw_G := tw_in (List.mem_of_getElem? (i := 898) (by decide +kernel)) rfl
theorem tk_437 : (Jvm.Cond.methodLink "LandBookLaw" (125 : Nat) ({ cls := "LandBookLaw", name := "area2", desc := "(LLandBook;III[J)I" } : Jvm.MethodName)) ∈ tw_G := tw_in (List.mem_of_getElem? (i := 896) (by decide +kernel)) rfl
theorem tk_438 : (Jvm.Cond.static ({ cls := "LandBookLaw", name := "area2", desc := "(LLandBook;III[J)I" } : Jvm.MethodName)) ∈ tw_G := tw_in (List.mem_of_getElem? (i := 897) (by decide +kernel)) rfl
theorem tk_439 : (Jvm.Cond.methodLink "LandBookLaw" (127 : Nat) ({ cls := "LandBookModel", name := "area2", desc := "(III)I" } : Jvm.MethodName)) ∈ tw_G := tw_in (List.mem_of_getElem? (i := 1404) (by decide +kernel)) rfl
theorem tk_440 : (Jvm.Cond.instanceMethod ({ cls := "LandBookModel", name := "area2", desc := "(III)I" } : Jvm.MethodName)) ∈ tw_G := tw_in (List.mem_of_getElem? (i := 1405) (by decide +kernel)) rfl
theorem tk_441 : (Jvm.Cond.selects "LandBookModel" ({ cls := "LandBookModel", name := "area2", desc := "(III)I" } : Jvm.MethodName) ({ cls := "LandBookModel", name := "area2", desc := "(III)I" } : Jvm.MethodName)) ∈ tw_G := tw_in (List.mem_of_getElem? (i := 1406) (by decide +kernel)) rfl
theorem tk_442 : (Jvm.Cond.code ({ cls := "LandBookModel", name := "area2", desc := "(III)I" } : Jvm.MethodName) prog_13_method_63_code (7 : Nat) (Option.some Jvm.ClassFile.FieldType.int)) ∈ tw_G := tw_in (List.mem_of_getElem? (i := 1407) (by decide +kernel)) rfl
set_option maxHeartbeats 4000000 in
set_option maxRecDepth 100000 in
theorem lw_case_8 {p : Program} {e : Env} {s : State} {m : MethodId} {below : List Frame} {meth : Method} {c : Code} (l : Launch) (hfl : l.flags = pinnedFlags ++ [noTraceFlag]) {b : Nat} {xs : Nat → Int32} (hx : p.tables.exec = Jvm.exec) (hb : c.code = code) (hr : meth.sig.returnType = ret) (hml : c.maxLocals = 7) (hown : s.vm.findClass "LandBookLaw" = some m.cls) (hts : ∀ w ∈ tw_G, w.before #[Value.ref b] s = true) (hX : va_X b 7 xs s s.heap) (hbl : b < s.heap.size) (hlocks : meth.locks = false) (hE : lb_E s) {A : Nat → Prop} (hA : ∀ q : Nat, s.heap.size ≤ q → A q) (hA2 : ∀ q : Nat, A q → s.heap.size ≤ q) {dC : Nat → ClassId} {dI : Nat → Nat → Nat} {h ro ra ch rg dl ll el lg hm rx ry ho : Nat} {cI cX cY cL : ClassId} {v2 v3 ca w3 w4 x0 y0 x1 y1 x2 y2 z0 m8 m9 m10 m11 m12 m13 m14 m16 m17 m18 m19 m20 m21 m22 m23 m24 m26 m27 m28 m29 m32 m34 m35 m37 m38 m40 m41 : Value} {H : Heap} {locs : List Loc} {ls : Array Slot} (hK : va_K (dC, dI) classes [(cI, .int), (cX, .int), (cY, .int), (cL, .long)] s) (hP : va_P (dC, dI) classes [(h, .inr (0, [.ref ro, .ref ch, v2, v3, .ref rg, .ref lg, .int 0, .int 0])), (ro, .inr (1, [.ref ra, .int 0])), (ra, .inl (cI, 32, .inl (fun _ => 0))), (ch, .inr (1, [ca, .int 0])), (rg, .inr (4, [.ref dl, .ref ll, .ref el, w3, w4])), (dl, .inr (6, [x0, .int 0, y0])), (ll, .inr (6, [x1, .int 0, y1])), (el, .inr (6, [x2, .int 0, y2])), (lg, .inr (5, [z0, .int 0, .int 0])), (hm, .inr (7, [.int 0, .int 0, .int 0, .int 0, .int 0, .ref rx, .ref ry, .int 0, m8, m9, m10, m11, m12, m13, m14, .int 0, m16, m17, m18, m19, m20, m21, m22, m23, m24, .int 0, m26, m27, m28, m29, .int 0, .int 0, m32, .int 0, m34, m35, .int 0, m37, m38, .int 0, m40, m41])), (rx, .inl (cX, 32, .inl (fun _ => 0))), (ry, .inl (cY, 32, .inl (fun _ => 0))), (ho, .inl (cL, 1, .inr (.inl (fun _ => 0))))] H) (hD : va_D A [(h, .inr (0, [.ref ro, .ref ch, v2, v3, .ref rg, .ref lg, .int 0, .int 0])), (ro, .inr (1, [.ref ra, .int 0])), (ra, .inl (cI, 32, .inl (fun _ => 0))), (ch, .inr (1, [ca, .int 0])), (rg, .inr (4, [.ref dl, .ref ll, .ref el, w3, w4])), (dl, .inr (6, [x0, .int 0, y0])), (ll, .inr (6, [x1, .int 0, y1])), (el, .inr (6, [x2, .int 0, y2])), (lg, .inr (5, [z0, .int 0, .int 0])), (hm, .inr (7, [.int 0, .int 0, .int 0, .int 0, .int 0, .ref rx, .ref ry, .int 0, m8, m9, m10, m11, m12, m13, m14, .int 0, m16, m17, m18, m19, m20, m21, m22, m23, m24, .int 0, m26, m27, m28, m29, .int 0, .int 0, m32, .int 0, m34, m35, .int 0, m37, m38, .int 0, m40, m41])), (rx, .inl (cX, 32, .inl (fun _ => 0))), (ry, .inl (cY, 32, .inl (fun _ => 0))), (ho, .inl (cL, 1, .inr (.inl (fun _ => 0))))]) (hS : va_S A s.heap H locs) (hl : lv_has ls 7 [(4, .int 0), (3, .ref ho), (2, .ref hm), (1, .ref h), (0, .ref b)]) : W p l e room_1 s m #[Value.ref b] below meth c H locs 61 60361 (lw_Z below #[Value.ref b] s) (F0 m 765 ls []) := by
  have hbA : ¬ A b := fun h => absurd (hA2 b h) (Nat.not_le.mpr hbl)
  have hN : ∀ (a : Nat) (cell : Cell), s.heap[a]? = some cell → cell.vm.isStatics = true → ¬ A a := fun a cell h1 _ h3 => absurd (hA2 a h3) (Nat.not_le.mpr (Array.getElem?_eq_some_iff.mp h1).1)
  refine lv_aload_n hx hb d_law_765 rfl (lv_at hl 3 rfl) ?_
  refine lv_aload_n hx hb d_law_766 rfl (lv_at hl 4 rfl) ?_
  refine lv_iload hx hb d_law_767 (lv_at hl 0 rfl) ?_
  refine lv_iconst (v := 1) hx hb d_law_769 (by decide) ?_
  refine lv_iadd hx hb d_law_770 ?_
  refine va_sld hx hb hX hbl hbA hS (i := (0 + 1)) (by unfold vp_in; decide) d_law_771 ?_
  refine lv_aload_n hx hb d_law_772 rfl (lv_at hl 4 rfl) ?_
  refine lv_iload hx hb d_law_773 (lv_at hl 0 rfl) ?_
  refine lv_iconst (v := 2) hx hb d_law_775 (by decide) ?_
  refine lv_iadd hx hb d_law_776 ?_
  refine va_sld hx hb hX hbl hbA hS (i := (0 + 2)) (by unfold vp_in; decide) d_law_777 ?_
  refine lv_aload_n hx hb d_law_778 rfl (lv_at hl 4 rfl) ?_
  refine lv_iload hx hb d_law_779 (lv_at hl 0 rfl) ?_
  refine lv_iconst (v := 3) hx hb d_law_781 (by decide) ?_
  refine lv_iadd hx hb d_law_782 ?_
  refine va_sld hx hb hX hbl hbA hS (i := (0 + 3)) (by unfold vp_in; decide) d_law_783 ?_
  refine lv_aload_n hx hb d_law_784 rfl (lv_at hl 1 rfl) ?_
  have hPc := hP.sub (ws' := [(h, .inr (0, [.ref ro, .ref ch, v2, v3, .ref rg, .ref lg, .int 0, .int 0])), (ro, .inr (1, [.ref ra, .int 0])), (ra, .inl (cI, 32, .inl (fun _ => 0))), (ch, .inr (1, [ca, .int 0])), (rg, .inr (4, [.ref dl, .ref ll, .ref el, w3, w4])), (dl, .inr (6, [x0, .int 0, y0])), (ll, .inr (6, [x1, .int 0, y1])), (el, .inr (6, [x2, .int 0, y2])), (lg, .inr (5, [z0, .int 0, .int 0])), (ho, .inl (cL, 1, .inr (.inl (fun _ => 0))))]) [0, 1, 2, 3, 4, 5, 6, 7, 8, 12] rfl
  have hDc := hD.sub (ws' := [(h, .inr (0, [.ref ro, .ref ch, v2, v3, .ref rg, .ref lg, .int 0, .int 0])), (ro, .inr (1, [.ref ra, .int 0])), (ra, .inl (cI, 32, .inl (fun _ => 0))), (ch, .inr (1, [ca, .int 0])), (rg, .inr (4, [.ref dl, .ref ll, .ref el, w3, w4])), (dl, .inr (6, [x0, .int 0, y0])), (ll, .inr (6, [x1, .int 0, y1])), (el, .inr (6, [x2, .int 0, y2])), (lg, .inr (5, [z0, .int 0, .int 0])), (ho, .inl (cL, 1, .inr (.inl (fun _ => 0))))]) [0, 1, 2, 3, 4, 5, 6, 7, 8, 12] (by decide) rfl
  have hKc := hK.sub (tys' := [(cI, .int), (cL, .long)]) [0, 3] rfl
  have hFc := va_free (wc := [(h, .inr (0, [.ref ro, .ref ch, v2, v3, .ref rg, .ref lg, .int 0, .int 0])), (ro, .inr (1, [.ref ra, .int 0])), (ra, .inl (cI, 32, .inl (fun _ => 0))), (ch, .inr (1, [ca, .int 0])), (rg, .inr (4, [.ref dl, .ref ll, .ref el, w3, w4])), (dl, .inr (6, [x0, .int 0, y0])), (ll, .inr (6, [x1, .int 0, y1])), (el, .inr (6, [x2, .int 0, y2])), (lg, .inr (5, [z0, .int 0, .int 0])), (ho, .inl (cL, 1, .inr (.inl (fun _ => 0))))]) hD hS hA [0, 1, 2, 3, 4, 5, 6, 7, 8, 12] rfl
  refine va_calli (tw_runSW (n := 5) (As := [.ref h, .int (xs (Int32.toNatClampNeg (0 + 1))), .int (xs (Int32.toNatClampNeg (0 + 2))), .int (xs (Int32.toNatClampNeg (0 + 3))), .ref ho]) (rest := []) ⟨hx, hb, hml, hown, hts⟩ (c_law_area2 l hfl dC dI h H.size ro ra ch rg dl ll el lg ho cI cL (fun _ => 0) (fun _ => 0) v2 v3 ca w3 w4 x0 y0 x1 y1 x2 y2 z0 ((xs (Int32.toNatClampNeg (0 + 1)))) ((xs (Int32.toNatClampNeg (0 + 2)))) ((xs (Int32.toNatClampNeg (0 + 3))))) (tw_gc tk_436) rfl rfl rfl ⟨Nat.le_of_ble_eq_true rfl, Nat.le_of_ble_eq_true rfl⟩ (hts _ tk_376) (hts _ tk_437) (hts _ tk_438) (by decide +kernel) (tw_s4E hPc hKc hDc hE (tw_kst hN hS)) rfl rfl hl.1 rfl (lv_room (Nat.le_of_ble_eq_true rfl)) d_law_785 ⟨by show 62 ≤ 600002; decide, by show 60367 ≤ 7302232; decide⟩) hS (fun q _ h => hFc q h) hFc (fun rk u t H1 locs ht hvm hk9 hB hz1 hk1 hS => ?_)
  obtain ⟨hP1, hK1, hD1⟩ := hB
  rw [ht] at hP1
  obtain ⟨hP, hD⟩ := va_join (wr := [(hm, .inr (7, [.int 0, .int 0, .int 0, .int 0, .int 0, .ref rx, .ref ry, .int 0, m8, m9, m10, m11, m12, m13, m14, .int 0, m16, m17, m18, m19, m20, m21, m22, m23, m24, .int 0, m26, m27, m28, m29, .int 0, .int 0, m32, .int 0, m34, m35, .int 0, m37, m38, .int 0, m40, m41])), (rx, .inl (cX, 32, .inl (fun _ => 0))), (ry, .inl (cY, 32, .inl (fun _ => 0)))]) (w1 := [(ho, .inl (cL, 1, .inr (.inl (u))))]) hP hD [0, 1, 2, 3, 4, 5, 6, 7, 8, 12] [9, 10, 11] rfl rfl (by decide) (by decide) hk1 hFc hP1 hD1
  generalize H1 = H at hP hS ⊢
  have hP : va_P (dC, dI) classes [(hm, .inr (7, [.int 0, .int 0, .int 0, .int 0, .int 0, .ref rx, .ref ry, .int 0, m8, m9, m10, m11, m12, m13, m14, .int 0, m16, m17, m18, m19, m20, m21, m22, m23, m24, .int 0, m26, m27, m28, m29, .int 0, .int 0, m32, .int 0, m34, m35, .int 0, m37, m38, .int 0, m40, m41])), (rx, .inl (cX, 32, .inl (fun _ => 0))), (ry, .inl (cY, 32, .inl (fun _ => 0))), (ho, .inl (cL, 1, .inr (.inl (u))))] H := hP
  have hD : va_D A [(hm, .inr (7, [.int 0, .int 0, .int 0, .int 0, .int 0, .ref rx, .ref ry, .int 0, m8, m9, m10, m11, m12, m13, m14, .int 0, m16, m17, m18, m19, m20, m21, m22, m23, m24, .int 0, m26, m27, m28, m29, .int 0, .int 0, m32, .int 0, m34, m35, .int 0, m37, m38, .int 0, m40, m41])), (rx, .inl (cX, 32, .inl (fun _ => 0))), (ry, .inl (cY, 32, .inl (fun _ => 0))), (ho, .inl (cL, 1, .inr (.inl (u))))] := hD
  have hk9 : rk = 1 := hk9
  have hk9 := hk9.symm
  subst hk9
  refine lv_istore (lv' := [(5, .int 1), (4, .int 0), (3, .ref ho), (2, .ref hm), (1, .ref h), (0, .ref b)]) hx hb d_law_788 hl (by decide) rfl (fun ls hl => ?_)
  refine lv_aload_n hx hb d_law_790 rfl (lv_at hl 3 rfl) ?_
  refine lv_aload_n hx hb d_law_791 rfl (lv_at hl 5 rfl) ?_
  refine lv_iload hx hb d_law_792 (lv_at hl 1 rfl) ?_
  refine lv_iconst (v := 1) hx hb d_law_794 (by decide) ?_
  refine lv_iadd hx hb d_law_795 ?_
  refine va_sld hx hb hX hbl hbA hS (i := (0 + 1)) (by unfold vp_in; decide) d_law_796 ?_
  refine lv_aload_n hx hb d_law_797 rfl (lv_at hl 5 rfl) ?_
  refine lv_iload hx hb d_law_798 (lv_at hl 1 rfl) ?_
  refine lv_iconst (v := 2) hx hb d_law_800 (by decide) ?_
  refine lv_iadd hx hb d_law_801 ?_
  refine va_sld hx hb hX hbl hbA hS (i := (0 + 2)) (by unfold vp_in; decide) d_law_802 ?_
  refine lv_aload_n hx hb d_law_803 rfl (lv_at hl 5 rfl) ?_
  refine lv_iload hx hb d_law_804 (lv_at hl 1 rfl) ?_
  refine lv_iconst (v := 3) hx hb d_law_806 (by decide) ?_
  refine lv_iadd hx hb d_law_807 ?_
  refine va_sld hx hb hX hbl hbA hS (i := (0 + 3)) (by unfold vp_in; decide) d_law_808 ?_
  have hPc := hP.sub (ws' := [(hm, .inr (7, [.int 0, .int 0, .int 0, .int 0, .int 0, .ref rx, .ref ry, .int 0, m8, m9, m10, m11, m12, m13, m14, .int 0, m16, m17, m18, m19, m20, m21, m22, m23, m24, .int 0, m26, m27, m28, m29, .int 0, .int 0, m32, .int 0, m34, m35, .int 0, m37, m38, .int 0, m40, m41]))]) [0] rfl
  have hDc := hD.sub (ws' := [(hm, .inr (7, [.int 0, .int 0, .int 0, .int 0, .int 0, .ref rx, .ref ry, .int 0, m8, m9, m10, m11, m12, m13, m14, .int 0, m16, m17, m18, m19, m20, m21, m22, m23, m24, .int 0, m26, m27, m28, m29, .int 0, .int 0, m32, .int 0, m34, m35, .int 0, m37, m38, .int 0, m40, m41]))]) [0] (by decide) rfl
  have hKc := hK.sub (tys' := []) [] rfl
  have hFc := va_free (wc := [(hm, .inr (7, [.int 0, .int 0, .int 0, .int 0, .int 0, .ref rx, .ref ry, .int 0, m8, m9, m10, m11, m12, m13, m14, .int 0, m16, m17, m18, m19, m20, m21, m22, m23, m24, .int 0, m26, m27, m28, m29, .int 0, .int 0, m32, .int 0, m34, m35, .int 0, m37, m38, .int 0, m40, m41]))]) hD hS hA [0] rfl
  refine va_calli (va_runV (As := [.int (xs (Int32.toNatClampNeg (0 + 1))), .int (xs (Int32.toNatClampNeg (0 + 2))), .int (xs (Int32.toNatClampNeg (0 + 3)))]) (rest := []) ⟨hx, hb, hml, hown, hts⟩ (c_M_area2 l dC dI hm H.size 0 (.ref rx) (.ref ry) m8 m9 m10 m11 m12 m13 m14 m16 m17 m18 m19 m20 m21 m22 m23 m24 m26 m27 m28 m29 m32 m34 m35 m37 m38 m40 m41 ((xs (Int32.toNatClampNeg (0 + 1)))) ((xs (Int32.toNatClampNeg (0 + 2)))) ((xs (Int32.toNatClampNeg (0 + 3))))) (cwV 3 hts (tw_gV tk_439 tk_440 tk_441 tk_249 tk_442) rfl rfl rfl (by decide +kernel) ⟨Nat.le_of_ble_eq_true rfl, Nat.le_of_ble_eq_true rfl⟩) (tw_v4 (va_recv (q0 := 0) hK hP rfl rfl) hPc hKc hDc) rfl rfl hl.1 rfl (lv_room (Nat.le_of_ble_eq_true rfl)) d_law_809 ⟨by show 62 ≤ 600002; decide, by show 60367 ≤ 7302232; decide⟩) hS (fun q _ h => hFc q h) hFc (fun rm w9 t H1 locs ht hvm hm9 hB hz1 hk1 hS => ?_)
  obtain ⟨tm, fs⟩ := w9
  obtain ⟨hP1, hK1, hD1⟩ := hB
  rw [ht] at hP1
  obtain ⟨hP, hD⟩ := va_join (wr := [(rx, .inl (cX, 32, .inl (fun _ => 0))), (ry, .inl (cY, 32, .inl (fun _ => 0))), (ho, .inl (cL, 1, .inr (.inl (u))))]) (w1 := [(hm, .inr (7, .int tm :: fs))]) hP hD [0] [1, 2, 3] rfl rfl (by decide) (by decide) hk1 hFc hP1 hD1
  generalize H1 = H at hP hS ⊢
  have hP : va_P (dC, dI) classes [(rx, .inl (cX, 32, .inl (fun _ => 0))), (ry, .inl (cY, 32, .inl (fun _ => 0))), (ho, .inl (cL, 1, .inr (.inl (u)))), (hm, .inr (7, .int tm :: fs))] H := hP
  have hD : va_D A [(rx, .inl (cX, 32, .inl (fun _ => 0))), (ry, .inl (cY, 32, .inl (fun _ => 0))), (ho, .inl (cL, 1, .inr (.inl (u)))), (hm, .inr (7, .int tm :: fs))] := hD
  have hm9 : tm = 1 := hm9
  have hm9 := hm9.symm
  subst hm9
  refine lv_istore (lv' := [(6, .int rm), (5, .int 1), (4, .int 0), (3, .ref ho), (2, .ref hm), (1, .ref h), (0, .ref b)]) hx hb d_law_812 hl (by decide) rfl (fun ls hl => ?_)
  refine lv_aload_n hx hb d_law_814 rfl (lv_at hl 4 rfl) ?_
  refine vp_callSi (W.runV (As := []) (rest := []) ⟨hx, hb, hml, hown, hts⟩ (c_M_thrown l dC dI hm 1 fs) (cwV 0 hts (tw_gV tk_383 tk_384 tk_385 tk_249 tk_386) rfl rfl rfl (by decide +kernel) ⟨Nat.le_of_ble_eq_true rfl, Nat.le_of_ble_eq_true rfl⟩) (tw_v2 (va_recv (q0 := 3) hK hP rfl rfl) (hP.sub (ws' := [(hm, .inr (7, .int 1 :: fs))]) [3] rfl) (hK.sub (tys' := []) [] rfl)) rfl rfl hl.1 rfl (lv_room (Nat.le_of_ble_eq_true rfl)) d_law_815 ⟨by show 62 ≤ 600002; decide, by show 60367 ≤ 7302232; decide⟩) (fun r1 e2 => ?_)
  have e2 := e2.symm
  subst e2
  refine lv_iload hx hb d_law_818 (lv_at hl 1 rfl) ?_
  refine lv_icmp_eq (tgt := 825) hx hb d_law_820 (by decide) (fun h3 => ?_) (fun h3 => absurd (by decide) h3)
  refine lv_iload hx hb d_law_825 (lv_at hl 1 rfl) ?_
  refine lv_if_ne (tgt := 842) hx hb d_law_827 (by decide) (fun h4 => ?_) (fun h4 => absurd h4 (by decide))
  refine lv_goto (tgt := 1637) hx hb d_law_842 (by decide) ?_
  refine lv_iinc (k := 2) (v := 7) (lv' := [(4, .int 7), (6, .int rm), (5, .int 1), (3, .ref ho), (2, .ref hm), (1, .ref h), (0, .ref b)]) hx hb d_law_1637 hl rfl (by decide) (by decide) rfl (fun ls hl => ?_)
  refine lv_goto (tgt := 23) hx hb d_law_1640 (by decide) ?_
  refine lv_iload hx hb d_law_23 (lv_at hl 0 rfl) ?_
  refine lv_aload_n hx hb d_law_25 rfl (lv_at hl 6 rfl) ?_
  refine va_slen hx hb hX hbl hbA hS d_law_26 ?_
  refine lv_bipush (v := 7) hx hb d_law_27 (by decide) ?_
  refine lv_isub hx hb d_law_29 ?_
  refine lv_icmp_gt (tgt := 1643) hx hb d_law_30 (by decide) (fun h5 => ?_) (fun h5 => absurd (by decide) h5)
  refine lv_iconst (v := 1) hx hb d_law_1643 (by decide) ?_
  refine va_forget (fun q hq => hA2 _ (hS.2.2 q hq)) ?_
  refine W.widen (k := 600002) (n := 7302232) (by decide) (by decide) ?_
  exact lw_ret hx hb hr hlocks d_law_1644
theorem tk_443 : (Jvm.Cond.codeWith ({ cls := "LandBookLaw", name := "share", desc := "(LLandBook;IIII[J)I" } : Jvm.MethodName) method_12_code (7 : Nat) (Option.some Jvm.ClassFile.FieldType.int) [((0 : Nat), (14 : Nat), (17 : Nat), (21 : Nat)), ((0 : Nat), (14 : Nat), (21 : Nat), (26 : Nat)), ((0 : Nat), (14 : Nat), (25 : Nat), (13 : Nat))]) ∈ tw_G := tw_in (List.mem_of_getElem? (i := 906) (by decide +kernel)) rfl
theorem tk_444 : (Jvm.Cond.methodLink "LandBookLaw" (128 : Nat) ({ cls := "LandBookLaw", name := "share", desc := "(LLandBook;IIII[J)I" } : Jvm.MethodName)) ∈ tw_G := tw_in (List.mem_of_getElem? (i := 904) (by decide +kernel)) rfl
theorem tk_445 : (Jvm.Cond.static ({ cls := "LandBookLaw", name := "share", desc := "(LLandBook;IIII[J)I" } : Jvm.MethodName)) ∈ tw_G := tw_in (List.mem_of_getElem? (i := 905) (by decide +kernel)) rfl
theorem tk_446 : (Jvm.Cond.methodLink "LandBookLaw" (130 : Nat) ({ cls := "LandBookModel", name := "share", desc := "(IIII)I" } : Jvm.MethodName)) ∈ tw_G := tw_in (List.mem_of_getElem? (i := 1412) (by decide +kernel)) rfl
theorem tk_447 : (Jvm.Cond.instanceMethod ({ cls := "LandBookModel", name := "share", desc := "(IIII)I" } : Jvm.MethodName)) ∈ tw_G := tw_in (List.mem_of_getElem? (i := 1413) (by decide +kernel)) rfl
theorem tk_448 : (Jvm.Cond.selects "LandBookModel" ({ cls := "LandBookModel", name := "share", desc := "(IIII)I" } : Jvm.MethodName) ({ cls := "LandBookModel", name := "share", desc := "(IIII)I" } : Jvm.MethodName)) ∈ tw_G := tw_in (List.mem_of_getElem? (i := 1414) (by decide +kernel)) rfl
theorem tk_449 : (Jvm.Cond.code ({ cls := "LandBookModel", name := "share", desc := "(IIII)I" } : Jvm.MethodName) prog_13_method_64_code (5 : Nat) (Option.some Jvm.ClassFile.FieldType.int)) ∈ tw_G := tw_in (List.mem_of_getElem? (i := 1415) (by decide +kernel)) rfl
set_option maxHeartbeats 4000000 in
set_option maxRecDepth 100000 in
theorem lw_case_9 {p : Program} {e : Env} {s : State} {m : MethodId} {below : List Frame} {meth : Method} {c : Code} (l : Launch) (hfl : l.flags = pinnedFlags ++ [noTraceFlag]) {b : Nat} {xs : Nat → Int32} (hx : p.tables.exec = Jvm.exec) (hb : c.code = code) (hr : meth.sig.returnType = ret) (hml : c.maxLocals = 7) (hown : s.vm.findClass "LandBookLaw" = some m.cls) (hts : ∀ w ∈ tw_G, w.before #[Value.ref b] s = true) (hX : va_X b 7 xs s s.heap) (hbl : b < s.heap.size) (hlocks : meth.locks = false) (hE : lb_E s) {A : Nat → Prop} (hA : ∀ q : Nat, s.heap.size ≤ q → A q) (hA2 : ∀ q : Nat, A q → s.heap.size ≤ q) {dC : Nat → ClassId} {dI : Nat → Nat → Nat} {h ro ra ch rg dl ll el lg hm rx ry ho : Nat} {cI cX cY cL : ClassId} {v2 v3 ca w3 w4 x0 y0 x1 y1 x2 y2 z0 m8 m9 m10 m11 m12 m13 m14 m16 m17 m18 m19 m20 m21 m22 m23 m24 m26 m27 m28 m29 m32 m34 m35 m37 m38 m40 m41 : Value} {H : Heap} {locs : List Loc} {ls : Array Slot} (hK : va_K (dC, dI) classes [(cI, .int), (cX, .int), (cY, .int), (cL, .long)] s) (hP : va_P (dC, dI) classes [(h, .inr (0, [.ref ro, .ref ch, v2, v3, .ref rg, .ref lg, .int 0, .int 0])), (ro, .inr (1, [.ref ra, .int 0])), (ra, .inl (cI, 32, .inl (fun _ => 0))), (ch, .inr (1, [ca, .int 0])), (rg, .inr (4, [.ref dl, .ref ll, .ref el, w3, w4])), (dl, .inr (6, [x0, .int 0, y0])), (ll, .inr (6, [x1, .int 0, y1])), (el, .inr (6, [x2, .int 0, y2])), (lg, .inr (5, [z0, .int 0, .int 0])), (hm, .inr (7, [.int 0, .int 0, .int 0, .int 0, .int 0, .ref rx, .ref ry, .int 0, m8, m9, m10, m11, m12, m13, m14, .int 0, m16, m17, m18, m19, m20, m21, m22, m23, m24, .int 0, m26, m27, m28, m29, .int 0, .int 0, m32, .int 0, m34, m35, .int 0, m37, m38, .int 0, m40, m41])), (rx, .inl (cX, 32, .inl (fun _ => 0))), (ry, .inl (cY, 32, .inl (fun _ => 0))), (ho, .inl (cL, 1, .inr (.inl (fun _ => 0))))] H) (hD : va_D A [(h, .inr (0, [.ref ro, .ref ch, v2, v3, .ref rg, .ref lg, .int 0, .int 0])), (ro, .inr (1, [.ref ra, .int 0])), (ra, .inl (cI, 32, .inl (fun _ => 0))), (ch, .inr (1, [ca, .int 0])), (rg, .inr (4, [.ref dl, .ref ll, .ref el, w3, w4])), (dl, .inr (6, [x0, .int 0, y0])), (ll, .inr (6, [x1, .int 0, y1])), (el, .inr (6, [x2, .int 0, y2])), (lg, .inr (5, [z0, .int 0, .int 0])), (hm, .inr (7, [.int 0, .int 0, .int 0, .int 0, .int 0, .ref rx, .ref ry, .int 0, m8, m9, m10, m11, m12, m13, m14, .int 0, m16, m17, m18, m19, m20, m21, m22, m23, m24, .int 0, m26, m27, m28, m29, .int 0, .int 0, m32, .int 0, m34, m35, .int 0, m37, m38, .int 0, m40, m41])), (rx, .inl (cX, 32, .inl (fun _ => 0))), (ry, .inl (cY, 32, .inl (fun _ => 0))), (ho, .inl (cL, 1, .inr (.inl (fun _ => 0))))]) (hS : va_S A s.heap H locs) (hl : lv_has ls 7 [(4, .int 0), (3, .ref ho), (2, .ref hm), (1, .ref h), (0, .ref b)]) : W p l e room_1 s m #[Value.ref b] below meth c H locs 61 60361 (lw_Z below #[Value.ref b] s) (F0 m 845 ls []) := by
  have hbA : ¬ A b := fun h => absurd (hA2 b h) (Nat.not_le.mpr hbl)
  have hN : ∀ (a : Nat) (cell : Cell), s.heap[a]? = some cell → cell.vm.isStatics = true → ¬ A a := fun a cell h1 _ h3 => absurd (hA2 a h3) (Nat.not_le.mpr (Array.getElem?_eq_some_iff.mp h1).1)
  refine lv_aload_n hx hb d_law_845 rfl (lv_at hl 3 rfl) ?_
  refine lv_aload_n hx hb d_law_846 rfl (lv_at hl 4 rfl) ?_
  refine lv_iload hx hb d_law_847 (lv_at hl 0 rfl) ?_
  refine lv_iconst (v := 1) hx hb d_law_849 (by decide) ?_
  refine lv_iadd hx hb d_law_850 ?_
  refine va_sld hx hb hX hbl hbA hS (i := (0 + 1)) (by unfold vp_in; decide) d_law_851 ?_
  refine lv_aload_n hx hb d_law_852 rfl (lv_at hl 4 rfl) ?_
  refine lv_iload hx hb d_law_853 (lv_at hl 0 rfl) ?_
  refine lv_iconst (v := 2) hx hb d_law_855 (by decide) ?_
  refine lv_iadd hx hb d_law_856 ?_
  refine va_sld hx hb hX hbl hbA hS (i := (0 + 2)) (by unfold vp_in; decide) d_law_857 ?_
  refine lv_aload_n hx hb d_law_858 rfl (lv_at hl 4 rfl) ?_
  refine lv_iload hx hb d_law_859 (lv_at hl 0 rfl) ?_
  refine lv_iconst (v := 3) hx hb d_law_861 (by decide) ?_
  refine lv_iadd hx hb d_law_862 ?_
  refine va_sld hx hb hX hbl hbA hS (i := (0 + 3)) (by unfold vp_in; decide) d_law_863 ?_
  refine lv_aload_n hx hb d_law_864 rfl (lv_at hl 4 rfl) ?_
  refine lv_iload hx hb d_law_865 (lv_at hl 0 rfl) ?_
  refine lv_iconst (v := 4) hx hb d_law_867 (by decide) ?_
  refine lv_iadd hx hb d_law_868 ?_
  refine va_sld hx hb hX hbl hbA hS (i := (0 + 4)) (by unfold vp_in; decide) d_law_869 ?_
  refine lv_aload_n hx hb d_law_870 rfl (lv_at hl 1 rfl) ?_
  have hPc := hP.sub (ws' := [(h, .inr (0, [.ref ro, .ref ch, v2, v3, .ref rg, .ref lg, .int 0, .int 0])), (ro, .inr (1, [.ref ra, .int 0])), (ra, .inl (cI, 32, .inl (fun _ => 0))), (ch, .inr (1, [ca, .int 0])), (rg, .inr (4, [.ref dl, .ref ll, .ref el, w3, w4])), (dl, .inr (6, [x0, .int 0, y0])), (ll, .inr (6, [x1, .int 0, y1])), (el, .inr (6, [x2, .int 0, y2])), (lg, .inr (5, [z0, .int 0, .int 0])), (ho, .inl (cL, 1, .inr (.inl (fun _ => 0))))]) [0, 1, 2, 3, 4, 5, 6, 7, 8, 12] rfl
  have hDc := hD.sub (ws' := [(h, .inr (0, [.ref ro, .ref ch, v2, v3, .ref rg, .ref lg, .int 0, .int 0])), (ro, .inr (1, [.ref ra, .int 0])), (ra, .inl (cI, 32, .inl (fun _ => 0))), (ch, .inr (1, [ca, .int 0])), (rg, .inr (4, [.ref dl, .ref ll, .ref el, w3, w4])), (dl, .inr (6, [x0, .int 0, y0])), (ll, .inr (6, [x1, .int 0, y1])), (el, .inr (6, [x2, .int 0, y2])), (lg, .inr (5, [z0, .int 0, .int 0])), (ho, .inl (cL, 1, .inr (.inl (fun _ => 0))))]) [0, 1, 2, 3, 4, 5, 6, 7, 8, 12] (by decide) rfl
  have hKc := hK.sub (tys' := [(cI, .int), (cL, .long)]) [0, 3] rfl
  have hFc := va_free (wc := [(h, .inr (0, [.ref ro, .ref ch, v2, v3, .ref rg, .ref lg, .int 0, .int 0])), (ro, .inr (1, [.ref ra, .int 0])), (ra, .inl (cI, 32, .inl (fun _ => 0))), (ch, .inr (1, [ca, .int 0])), (rg, .inr (4, [.ref dl, .ref ll, .ref el, w3, w4])), (dl, .inr (6, [x0, .int 0, y0])), (ll, .inr (6, [x1, .int 0, y1])), (el, .inr (6, [x2, .int 0, y2])), (lg, .inr (5, [z0, .int 0, .int 0])), (ho, .inl (cL, 1, .inr (.inl (fun _ => 0))))]) hD hS hA [0, 1, 2, 3, 4, 5, 6, 7, 8, 12] rfl
  refine va_calli (tw_runSW (n := 6) (As := [.ref h, .int (xs (Int32.toNatClampNeg (0 + 1))), .int (xs (Int32.toNatClampNeg (0 + 2))), .int (xs (Int32.toNatClampNeg (0 + 3))), .int (xs (Int32.toNatClampNeg (0 + 4))), .ref ho]) (rest := []) ⟨hx, hb, hml, hown, hts⟩ (c_law_share l hfl dC dI h H.size ro ra ch rg dl ll el lg ho cI cL (fun _ => 0) (fun _ => 0) v2 v3 ca w3 w4 x0 y0 x1 y1 x2 y2 z0 ((xs (Int32.toNatClampNeg (0 + 1)))) ((xs (Int32.toNatClampNeg (0 + 2)))) ((xs (Int32.toNatClampNeg (0 + 3)))) ((xs (Int32.toNatClampNeg (0 + 4))))) (tw_gc tk_443) rfl rfl rfl ⟨Nat.le_of_ble_eq_true rfl, Nat.le_of_ble_eq_true rfl⟩ (hts _ tk_376) (hts _ tk_444) (hts _ tk_445) (by decide +kernel) (tw_s4E hPc hKc hDc hE (tw_kst hN hS)) rfl rfl hl.1 rfl (lv_room (Nat.le_of_ble_eq_true rfl)) d_law_871 ⟨by show 62 ≤ 600002; decide, by show 60367 ≤ 7302232; decide⟩) hS (fun q _ h => hFc q h) hFc (fun rk u t H1 locs ht hvm hk9 hB hz1 hk1 hS => ?_)
  obtain ⟨hP1, hK1, hD1⟩ := hB
  rw [ht] at hP1
  obtain ⟨hP, hD⟩ := va_join (wr := [(hm, .inr (7, [.int 0, .int 0, .int 0, .int 0, .int 0, .ref rx, .ref ry, .int 0, m8, m9, m10, m11, m12, m13, m14, .int 0, m16, m17, m18, m19, m20, m21, m22, m23, m24, .int 0, m26, m27, m28, m29, .int 0, .int 0, m32, .int 0, m34, m35, .int 0, m37, m38, .int 0, m40, m41])), (rx, .inl (cX, 32, .inl (fun _ => 0))), (ry, .inl (cY, 32, .inl (fun _ => 0)))]) (w1 := [(ho, .inl (cL, 1, .inr (.inl (u))))]) hP hD [0, 1, 2, 3, 4, 5, 6, 7, 8, 12] [9, 10, 11] rfl rfl (by decide) (by decide) hk1 hFc hP1 hD1
  generalize H1 = H at hP hS ⊢
  have hP : va_P (dC, dI) classes [(hm, .inr (7, [.int 0, .int 0, .int 0, .int 0, .int 0, .ref rx, .ref ry, .int 0, m8, m9, m10, m11, m12, m13, m14, .int 0, m16, m17, m18, m19, m20, m21, m22, m23, m24, .int 0, m26, m27, m28, m29, .int 0, .int 0, m32, .int 0, m34, m35, .int 0, m37, m38, .int 0, m40, m41])), (rx, .inl (cX, 32, .inl (fun _ => 0))), (ry, .inl (cY, 32, .inl (fun _ => 0))), (ho, .inl (cL, 1, .inr (.inl (u))))] H := hP
  have hD : va_D A [(hm, .inr (7, [.int 0, .int 0, .int 0, .int 0, .int 0, .ref rx, .ref ry, .int 0, m8, m9, m10, m11, m12, m13, m14, .int 0, m16, m17, m18, m19, m20, m21, m22, m23, m24, .int 0, m26, m27, m28, m29, .int 0, .int 0, m32, .int 0, m34, m35, .int 0, m37, m38, .int 0, m40, m41])), (rx, .inl (cX, 32, .inl (fun _ => 0))), (ry, .inl (cY, 32, .inl (fun _ => 0))), (ho, .inl (cL, 1, .inr (.inl (u))))] := hD
  have hk9 : rk = 1 := hk9
  have hk9 := hk9.symm
  subst hk9
  refine lv_istore (lv' := [(5, .int 1), (4, .int 0), (3, .ref ho), (2, .ref hm), (1, .ref h), (0, .ref b)]) hx hb d_law_874 hl (by decide) rfl (fun ls hl => ?_)
  refine lv_aload_n hx hb d_law_876 rfl (lv_at hl 3 rfl) ?_
  refine lv_aload_n hx hb d_law_877 rfl (lv_at hl 5 rfl) ?_
  refine lv_iload hx hb d_law_878 (lv_at hl 1 rfl) ?_
  refine lv_iconst (v := 1) hx hb d_law_880 (by decide) ?_
  refine lv_iadd hx hb d_law_881 ?_
  refine va_sld hx hb hX hbl hbA hS (i := (0 + 1)) (by unfold vp_in; decide) d_law_882 ?_
  refine lv_aload_n hx hb d_law_883 rfl (lv_at hl 5 rfl) ?_
  refine lv_iload hx hb d_law_884 (lv_at hl 1 rfl) ?_
  refine lv_iconst (v := 2) hx hb d_law_886 (by decide) ?_
  refine lv_iadd hx hb d_law_887 ?_
  refine va_sld hx hb hX hbl hbA hS (i := (0 + 2)) (by unfold vp_in; decide) d_law_888 ?_
  refine lv_aload_n hx hb d_law_889 rfl (lv_at hl 5 rfl) ?_
  refine lv_iload hx hb d_law_890 (lv_at hl 1 rfl) ?_
  refine lv_iconst (v := 3) hx hb d_law_892 (by decide) ?_
  refine lv_iadd hx hb d_law_893 ?_
  refine va_sld hx hb hX hbl hbA hS (i := (0 + 3)) (by unfold vp_in; decide) d_law_894 ?_
  refine lv_aload_n hx hb d_law_895 rfl (lv_at hl 5 rfl) ?_
  refine lv_iload hx hb d_law_896 (lv_at hl 1 rfl) ?_
  refine lv_iconst (v := 4) hx hb d_law_898 (by decide) ?_
  refine lv_iadd hx hb d_law_899 ?_
  refine va_sld hx hb hX hbl hbA hS (i := (0 + 4)) (by unfold vp_in; decide) d_law_900 ?_
  have hPc := hP.sub (ws' := [(hm, .inr (7, [.int 0, .int 0, .int 0, .int 0, .int 0, .ref rx, .ref ry, .int 0, m8, m9, m10, m11, m12, m13, m14, .int 0, m16, m17, m18, m19, m20, m21, m22, m23, m24, .int 0, m26, m27, m28, m29, .int 0, .int 0, m32, .int 0, m34, m35, .int 0, m37, m38, .int 0, m40, m41]))]) [0] rfl
  have hDc := hD.sub (ws' := [(hm, .inr (7, [.int 0, .int 0, .int 0, .int 0, .int 0, .ref rx, .ref ry, .int 0, m8, m9, m10, m11, m12, m13, m14, .int 0, m16, m17, m18, m19, m20, m21, m22, m23, m24, .int 0, m26, m27, m28, m29, .int 0, .int 0, m32, .int 0, m34, m35, .int 0, m37, m38, .int 0, m40, m41]))]) [0] (by decide) rfl
  have hKc := hK.sub (tys' := []) [] rfl
  have hFc := va_free (wc := [(hm, .inr (7, [.int 0, .int 0, .int 0, .int 0, .int 0, .ref rx, .ref ry, .int 0, m8, m9, m10, m11, m12, m13, m14, .int 0, m16, m17, m18, m19, m20, m21, m22, m23, m24, .int 0, m26, m27, m28, m29, .int 0, .int 0, m32, .int 0, m34, m35, .int 0, m37, m38, .int 0, m40, m41]))]) hD hS hA [0] rfl
  refine va_calli (va_runV (As := [.int (xs (Int32.toNatClampNeg (0 + 1))), .int (xs (Int32.toNatClampNeg (0 + 2))), .int (xs (Int32.toNatClampNeg (0 + 3))), .int (xs (Int32.toNatClampNeg (0 + 4)))]) (rest := []) ⟨hx, hb, hml, hown, hts⟩ (c_M_share l dC dI hm H.size 0 (.ref rx) (.ref ry) m8 m9 m10 m11 m12 m13 m14 m16 m17 m18 m19 m20 m21 m22 m23 m24 m26 m27 m28 m29 m32 m34 m35 m37 m38 m40 m41 ((xs (Int32.toNatClampNeg (0 + 1)))) ((xs (Int32.toNatClampNeg (0 + 2)))) ((xs (Int32.toNatClampNeg (0 + 3)))) ((xs (Int32.toNatClampNeg (0 + 4))))) (cwV 4 hts (tw_gV tk_446 tk_447 tk_448 tk_249 tk_449) rfl rfl rfl (by decide +kernel) ⟨Nat.le_of_ble_eq_true rfl, Nat.le_of_ble_eq_true rfl⟩) (tw_v4 (va_recv (q0 := 0) hK hP rfl rfl) hPc hKc hDc) rfl rfl hl.1 rfl (lv_room (Nat.le_of_ble_eq_true rfl)) d_law_901 ⟨by show 62 ≤ 600002; decide, by show 60367 ≤ 7302232; decide⟩) hS (fun q _ h => hFc q h) hFc (fun rm w9 t H1 locs ht hvm hm9 hB hz1 hk1 hS => ?_)
  obtain ⟨tm, fs⟩ := w9
  obtain ⟨hP1, hK1, hD1⟩ := hB
  rw [ht] at hP1
  obtain ⟨hP, hD⟩ := va_join (wr := [(rx, .inl (cX, 32, .inl (fun _ => 0))), (ry, .inl (cY, 32, .inl (fun _ => 0))), (ho, .inl (cL, 1, .inr (.inl (u))))]) (w1 := [(hm, .inr (7, .int tm :: fs))]) hP hD [0] [1, 2, 3] rfl rfl (by decide) (by decide) hk1 hFc hP1 hD1
  generalize H1 = H at hP hS ⊢
  have hP : va_P (dC, dI) classes [(rx, .inl (cX, 32, .inl (fun _ => 0))), (ry, .inl (cY, 32, .inl (fun _ => 0))), (ho, .inl (cL, 1, .inr (.inl (u)))), (hm, .inr (7, .int tm :: fs))] H := hP
  have hD : va_D A [(rx, .inl (cX, 32, .inl (fun _ => 0))), (ry, .inl (cY, 32, .inl (fun _ => 0))), (ho, .inl (cL, 1, .inr (.inl (u)))), (hm, .inr (7, .int tm :: fs))] := hD
  have hm9 : tm = 1 := hm9
  have hm9 := hm9.symm
  subst hm9
  refine lv_istore (lv' := [(6, .int rm), (5, .int 1), (4, .int 0), (3, .ref ho), (2, .ref hm), (1, .ref h), (0, .ref b)]) hx hb d_law_904 hl (by decide) rfl (fun ls hl => ?_)
  refine lv_aload_n hx hb d_law_906 rfl (lv_at hl 4 rfl) ?_
  refine vp_callSi (W.runV (As := []) (rest := []) ⟨hx, hb, hml, hown, hts⟩ (c_M_thrown l dC dI hm 1 fs) (cwV 0 hts (tw_gV tk_383 tk_384 tk_385 tk_249 tk_386) rfl rfl rfl (by decide +kernel) ⟨Nat.le_of_ble_eq_true rfl, Nat.le_of_ble_eq_true rfl⟩) (tw_v2 (va_recv (q0 := 3) hK hP rfl rfl) (hP.sub (ws' := [(hm, .inr (7, .int 1 :: fs))]) [3] rfl) (hK.sub (tys' := []) [] rfl)) rfl rfl hl.1 rfl (lv_room (Nat.le_of_ble_eq_true rfl)) d_law_907 ⟨by show 62 ≤ 600002; decide, by show 60367 ≤ 7302232; decide⟩) (fun r1 e2 => ?_)
  have e2 := e2.symm
  subst e2
  refine lv_iload hx hb d_law_910 (lv_at hl 1 rfl) ?_
  refine lv_icmp_eq (tgt := 917) hx hb d_law_912 (by decide) (fun h3 => ?_) (fun h3 => absurd (by decide) h3)
  refine lv_iload hx hb d_law_917 (lv_at hl 1 rfl) ?_
  refine lv_if_ne (tgt := 934) hx hb d_law_919 (by decide) (fun h4 => ?_) (fun h4 => absurd h4 (by decide))
  refine lv_goto (tgt := 1637) hx hb d_law_934 (by decide) ?_
  refine lv_iinc (k := 2) (v := 7) (lv' := [(4, .int 7), (6, .int rm), (5, .int 1), (3, .ref ho), (2, .ref hm), (1, .ref h), (0, .ref b)]) hx hb d_law_1637 hl rfl (by decide) (by decide) rfl (fun ls hl => ?_)
  refine lv_goto (tgt := 23) hx hb d_law_1640 (by decide) ?_
  refine lv_iload hx hb d_law_23 (lv_at hl 0 rfl) ?_
  refine lv_aload_n hx hb d_law_25 rfl (lv_at hl 6 rfl) ?_
  refine va_slen hx hb hX hbl hbA hS d_law_26 ?_
  refine lv_bipush (v := 7) hx hb d_law_27 (by decide) ?_
  refine lv_isub hx hb d_law_29 ?_
  refine lv_icmp_gt (tgt := 1643) hx hb d_law_30 (by decide) (fun h5 => ?_) (fun h5 => absurd (by decide) h5)
  refine lv_iconst (v := 1) hx hb d_law_1643 (by decide) ?_
  refine va_forget (fun q hq => hA2 _ (hS.2.2 q hq)) ?_
  refine W.widen (k := 600002) (n := 7302232) (by decide) (by decide) ?_
  exact lw_ret hx hb hr hlocks d_law_1644
theorem tk_450 : (Jvm.Cond.codeWith ({ cls := "LandBookLaw", name := "next", desc := "(LLandBook;IIII[J)I" } : Jvm.MethodName) method_13_code (7 : Nat) (Option.some Jvm.ClassFile.FieldType.int) [((0 : Nat), (14 : Nat), (17 : Nat), (21 : Nat)), ((0 : Nat), (14 : Nat), (21 : Nat), (26 : Nat)), ((0 : Nat), (14 : Nat), (25 : Nat), (13 : Nat))]) ∈ tw_G := tw_in (List.mem_of_getElem? (i := 913) (by decide +kernel)) rfl
theorem tk_451 : (Jvm.Cond.methodLink "LandBookLaw" (131 : Nat) ({ cls := "LandBookLaw", name := "next", desc := "(LLandBook;IIII[J)I" } : Jvm.MethodName)) ∈ tw_G := tw_in (List.mem_of_getElem? (i := 911) (by decide +kernel)) rfl
theorem tk_452 : (Jvm.Cond.static ({ cls := "LandBookLaw", name := "next", desc := "(LLandBook;IIII[J)I" } : Jvm.MethodName)) ∈ tw_G := tw_in (List.mem_of_getElem? (i := 912) (by decide +kernel)) rfl
theorem tk_453 : (Jvm.Cond.methodLink "LandBookLaw" (133 : Nat) ({ cls := "LandBookModel", name := "next", desc := "(IIII)I" } : Jvm.MethodName)) ∈ tw_G := tw_in (List.mem_of_getElem? (i := 1416) (by decide +kernel)) rfl
theorem tk_454 : (Jvm.Cond.instanceMethod ({ cls := "LandBookModel", name := "next", desc := "(IIII)I" } : Jvm.MethodName)) ∈ tw_G := tw_in (List.mem_of_getElem? (i := 1417) (by decide +kernel)) rfl
theorem tk_455 : (Jvm.Cond.selects "LandBookModel" ({ cls := "LandBookModel", name := "next", desc := "(IIII)I" } : Jvm.MethodName) ({ cls := "LandBookModel", name := "next", desc := "(IIII)I" } : Jvm.MethodName)) ∈ tw_G := tw_in (List.mem_of_getElem? (i := 1418) (by decide +kernel)) rfl
theorem tk_456 : (Jvm.Cond.code ({ cls := "LandBookModel", name := "next", desc := "(IIII)I" } : Jvm.MethodName) prog_13_method_66_code (7 : Nat) (Option.some Jvm.ClassFile.FieldType.int)) ∈ tw_G := tw_in (List.mem_of_getElem? (i := 1419) (by decide +kernel)) rfl
set_option maxHeartbeats 4000000 in
set_option maxRecDepth 100000 in
theorem lw_case_10 {p : Program} {e : Env} {s : State} {m : MethodId} {below : List Frame} {meth : Method} {c : Code} (l : Launch) (hfl : l.flags = pinnedFlags ++ [noTraceFlag]) {b : Nat} {xs : Nat → Int32} (hx : p.tables.exec = Jvm.exec) (hb : c.code = code) (hr : meth.sig.returnType = ret) (hml : c.maxLocals = 7) (hown : s.vm.findClass "LandBookLaw" = some m.cls) (hts : ∀ w ∈ tw_G, w.before #[Value.ref b] s = true) (hX : va_X b 7 xs s s.heap) (hbl : b < s.heap.size) (hlocks : meth.locks = false) (hE : lb_E s) {A : Nat → Prop} (hA : ∀ q : Nat, s.heap.size ≤ q → A q) (hA2 : ∀ q : Nat, A q → s.heap.size ≤ q) {dC : Nat → ClassId} {dI : Nat → Nat → Nat} {h ro ra ch rg dl ll el lg hm rx ry ho : Nat} {cI cX cY cL : ClassId} {v2 v3 ca w3 w4 x0 y0 x1 y1 x2 y2 z0 m8 m9 m10 m11 m12 m13 m14 m16 m17 m18 m19 m20 m21 m22 m23 m24 m26 m27 m28 m29 m32 m34 m35 m37 m38 m40 m41 : Value} {H : Heap} {locs : List Loc} {ls : Array Slot} (hK : va_K (dC, dI) classes [(cI, .int), (cX, .int), (cY, .int), (cL, .long)] s) (hP : va_P (dC, dI) classes [(h, .inr (0, [.ref ro, .ref ch, v2, v3, .ref rg, .ref lg, .int 0, .int 0])), (ro, .inr (1, [.ref ra, .int 0])), (ra, .inl (cI, 32, .inl (fun _ => 0))), (ch, .inr (1, [ca, .int 0])), (rg, .inr (4, [.ref dl, .ref ll, .ref el, w3, w4])), (dl, .inr (6, [x0, .int 0, y0])), (ll, .inr (6, [x1, .int 0, y1])), (el, .inr (6, [x2, .int 0, y2])), (lg, .inr (5, [z0, .int 0, .int 0])), (hm, .inr (7, [.int 0, .int 0, .int 0, .int 0, .int 0, .ref rx, .ref ry, .int 0, m8, m9, m10, m11, m12, m13, m14, .int 0, m16, m17, m18, m19, m20, m21, m22, m23, m24, .int 0, m26, m27, m28, m29, .int 0, .int 0, m32, .int 0, m34, m35, .int 0, m37, m38, .int 0, m40, m41])), (rx, .inl (cX, 32, .inl (fun _ => 0))), (ry, .inl (cY, 32, .inl (fun _ => 0))), (ho, .inl (cL, 1, .inr (.inl (fun _ => 0))))] H) (hD : va_D A [(h, .inr (0, [.ref ro, .ref ch, v2, v3, .ref rg, .ref lg, .int 0, .int 0])), (ro, .inr (1, [.ref ra, .int 0])), (ra, .inl (cI, 32, .inl (fun _ => 0))), (ch, .inr (1, [ca, .int 0])), (rg, .inr (4, [.ref dl, .ref ll, .ref el, w3, w4])), (dl, .inr (6, [x0, .int 0, y0])), (ll, .inr (6, [x1, .int 0, y1])), (el, .inr (6, [x2, .int 0, y2])), (lg, .inr (5, [z0, .int 0, .int 0])), (hm, .inr (7, [.int 0, .int 0, .int 0, .int 0, .int 0, .ref rx, .ref ry, .int 0, m8, m9, m10, m11, m12, m13, m14, .int 0, m16, m17, m18, m19, m20, m21, m22, m23, m24, .int 0, m26, m27, m28, m29, .int 0, .int 0, m32, .int 0, m34, m35, .int 0, m37, m38, .int 0, m40, m41])), (rx, .inl (cX, 32, .inl (fun _ => 0))), (ry, .inl (cY, 32, .inl (fun _ => 0))), (ho, .inl (cL, 1, .inr (.inl (fun _ => 0))))]) (hS : va_S A s.heap H locs) (hl : lv_has ls 7 [(4, .int 0), (3, .ref ho), (2, .ref hm), (1, .ref h), (0, .ref b)]) : W p l e room_1 s m #[Value.ref b] below meth c H locs 61 60361 (lw_Z below #[Value.ref b] s) (F0 m 937 ls []) := by
  have hbA : ¬ A b := fun h => absurd (hA2 b h) (Nat.not_le.mpr hbl)
  have hN : ∀ (a : Nat) (cell : Cell), s.heap[a]? = some cell → cell.vm.isStatics = true → ¬ A a := fun a cell h1 _ h3 => absurd (hA2 a h3) (Nat.not_le.mpr (Array.getElem?_eq_some_iff.mp h1).1)
  refine lv_aload_n hx hb d_law_937 rfl (lv_at hl 3 rfl) ?_
  refine lv_aload_n hx hb d_law_938 rfl (lv_at hl 4 rfl) ?_
  refine lv_iload hx hb d_law_939 (lv_at hl 0 rfl) ?_
  refine lv_iconst (v := 1) hx hb d_law_941 (by decide) ?_
  refine lv_iadd hx hb d_law_942 ?_
  refine va_sld hx hb hX hbl hbA hS (i := (0 + 1)) (by unfold vp_in; decide) d_law_943 ?_
  refine lv_aload_n hx hb d_law_944 rfl (lv_at hl 4 rfl) ?_
  refine lv_iload hx hb d_law_945 (lv_at hl 0 rfl) ?_
  refine lv_iconst (v := 2) hx hb d_law_947 (by decide) ?_
  refine lv_iadd hx hb d_law_948 ?_
  refine va_sld hx hb hX hbl hbA hS (i := (0 + 2)) (by unfold vp_in; decide) d_law_949 ?_
  refine lv_aload_n hx hb d_law_950 rfl (lv_at hl 4 rfl) ?_
  refine lv_iload hx hb d_law_951 (lv_at hl 0 rfl) ?_
  refine lv_iconst (v := 3) hx hb d_law_953 (by decide) ?_
  refine lv_iadd hx hb d_law_954 ?_
  refine va_sld hx hb hX hbl hbA hS (i := (0 + 3)) (by unfold vp_in; decide) d_law_955 ?_
  refine lv_aload_n hx hb d_law_956 rfl (lv_at hl 4 rfl) ?_
  refine lv_iload hx hb d_law_957 (lv_at hl 0 rfl) ?_
  refine lv_iconst (v := 4) hx hb d_law_959 (by decide) ?_
  refine lv_iadd hx hb d_law_960 ?_
  refine va_sld hx hb hX hbl hbA hS (i := (0 + 4)) (by unfold vp_in; decide) d_law_961 ?_
  refine lv_aload_n hx hb d_law_962 rfl (lv_at hl 1 rfl) ?_
  have hPc := hP.sub (ws' := [(h, .inr (0, [.ref ro, .ref ch, v2, v3, .ref rg, .ref lg, .int 0, .int 0])), (ro, .inr (1, [.ref ra, .int 0])), (ra, .inl (cI, 32, .inl (fun _ => 0))), (ch, .inr (1, [ca, .int 0])), (rg, .inr (4, [.ref dl, .ref ll, .ref el, w3, w4])), (dl, .inr (6, [x0, .int 0, y0])), (ll, .inr (6, [x1, .int 0, y1])), (el, .inr (6, [x2, .int 0, y2])), (lg, .inr (5, [z0, .int 0, .int 0])), (ho, .inl (cL, 1, .inr (.inl (fun _ => 0))))]) [0, 1, 2, 3, 4, 5, 6, 7, 8, 12] rfl
  have hDc := hD.sub (ws' := [(h, .inr (0, [.ref ro, .ref ch, v2, v3, .ref rg, .ref lg, .int 0, .int 0])), (ro, .inr (1, [.ref ra, .int 0])), (ra, .inl (cI, 32, .inl (fun _ => 0))), (ch, .inr (1, [ca, .int 0])), (rg, .inr (4, [.ref dl, .ref ll, .ref el, w3, w4])), (dl, .inr (6, [x0, .int 0, y0])), (ll, .inr (6, [x1, .int 0, y1])), (el, .inr (6, [x2, .int 0, y2])), (lg, .inr (5, [z0, .int 0, .int 0])), (ho, .inl (cL, 1, .inr (.inl (fun _ => 0))))]) [0, 1, 2, 3, 4, 5, 6, 7, 8, 12] (by decide) rfl
  have hKc := hK.sub (tys' := [(cI, .int), (cL, .long)]) [0, 3] rfl
  have hFc := va_free (wc := [(h, .inr (0, [.ref ro, .ref ch, v2, v3, .ref rg, .ref lg, .int 0, .int 0])), (ro, .inr (1, [.ref ra, .int 0])), (ra, .inl (cI, 32, .inl (fun _ => 0))), (ch, .inr (1, [ca, .int 0])), (rg, .inr (4, [.ref dl, .ref ll, .ref el, w3, w4])), (dl, .inr (6, [x0, .int 0, y0])), (ll, .inr (6, [x1, .int 0, y1])), (el, .inr (6, [x2, .int 0, y2])), (lg, .inr (5, [z0, .int 0, .int 0])), (ho, .inl (cL, 1, .inr (.inl (fun _ => 0))))]) hD hS hA [0, 1, 2, 3, 4, 5, 6, 7, 8, 12] rfl
  refine va_calli (tw_runSW (n := 6) (As := [.ref h, .int (xs (Int32.toNatClampNeg (0 + 1))), .int (xs (Int32.toNatClampNeg (0 + 2))), .int (xs (Int32.toNatClampNeg (0 + 3))), .int (xs (Int32.toNatClampNeg (0 + 4))), .ref ho]) (rest := []) ⟨hx, hb, hml, hown, hts⟩ (c_law_next l hfl dC dI h H.size ro ra ch rg dl ll el lg ho cI cL (fun _ => 0) (fun _ => 0) v2 v3 ca w3 w4 x0 y0 x1 y1 x2 y2 z0 ((xs (Int32.toNatClampNeg (0 + 1)))) ((xs (Int32.toNatClampNeg (0 + 2)))) ((xs (Int32.toNatClampNeg (0 + 3)))) ((xs (Int32.toNatClampNeg (0 + 4))))) (tw_gc tk_450) rfl rfl rfl ⟨Nat.le_of_ble_eq_true rfl, Nat.le_of_ble_eq_true rfl⟩ (hts _ tk_376) (hts _ tk_451) (hts _ tk_452) (by decide +kernel) (tw_s4E hPc hKc hDc hE (tw_kst hN hS)) rfl rfl hl.1 rfl (lv_room (Nat.le_of_ble_eq_true rfl)) d_law_963 ⟨by show 62 ≤ 600002; decide, by show 60367 ≤ 7302232; decide⟩) hS (fun q _ h => hFc q h) hFc (fun rk u t H1 locs ht hvm hk9 hB hz1 hk1 hS => ?_)
  obtain ⟨hP1, hK1, hD1⟩ := hB
  rw [ht] at hP1
  obtain ⟨hP, hD⟩ := va_join (wr := [(hm, .inr (7, [.int 0, .int 0, .int 0, .int 0, .int 0, .ref rx, .ref ry, .int 0, m8, m9, m10, m11, m12, m13, m14, .int 0, m16, m17, m18, m19, m20, m21, m22, m23, m24, .int 0, m26, m27, m28, m29, .int 0, .int 0, m32, .int 0, m34, m35, .int 0, m37, m38, .int 0, m40, m41])), (rx, .inl (cX, 32, .inl (fun _ => 0))), (ry, .inl (cY, 32, .inl (fun _ => 0)))]) (w1 := [(ho, .inl (cL, 1, .inr (.inl (u))))]) hP hD [0, 1, 2, 3, 4, 5, 6, 7, 8, 12] [9, 10, 11] rfl rfl (by decide) (by decide) hk1 hFc hP1 hD1
  generalize H1 = H at hP hS ⊢
  have hP : va_P (dC, dI) classes [(hm, .inr (7, [.int 0, .int 0, .int 0, .int 0, .int 0, .ref rx, .ref ry, .int 0, m8, m9, m10, m11, m12, m13, m14, .int 0, m16, m17, m18, m19, m20, m21, m22, m23, m24, .int 0, m26, m27, m28, m29, .int 0, .int 0, m32, .int 0, m34, m35, .int 0, m37, m38, .int 0, m40, m41])), (rx, .inl (cX, 32, .inl (fun _ => 0))), (ry, .inl (cY, 32, .inl (fun _ => 0))), (ho, .inl (cL, 1, .inr (.inl (u))))] H := hP
  have hD : va_D A [(hm, .inr (7, [.int 0, .int 0, .int 0, .int 0, .int 0, .ref rx, .ref ry, .int 0, m8, m9, m10, m11, m12, m13, m14, .int 0, m16, m17, m18, m19, m20, m21, m22, m23, m24, .int 0, m26, m27, m28, m29, .int 0, .int 0, m32, .int 0, m34, m35, .int 0, m37, m38, .int 0, m40, m41])), (rx, .inl (cX, 32, .inl (fun _ => 0))), (ry, .inl (cY, 32, .inl (fun _ => 0))), (ho, .inl (cL, 1, .inr (.inl (u))))] := hD
  have hk9 : rk = 1 := hk9
  have hk9 := hk9.symm
  subst hk9
  refine lv_istore (lv' := [(5, .int 1), (4, .int 0), (3, .ref ho), (2, .ref hm), (1, .ref h), (0, .ref b)]) hx hb d_law_966 hl (by decide) rfl (fun ls hl => ?_)
  refine lv_aload_n hx hb d_law_968 rfl (lv_at hl 3 rfl) ?_
  refine lv_aload_n hx hb d_law_969 rfl (lv_at hl 5 rfl) ?_
  refine lv_iload hx hb d_law_970 (lv_at hl 1 rfl) ?_
  refine lv_iconst (v := 1) hx hb d_law_972 (by decide) ?_
  refine lv_iadd hx hb d_law_973 ?_
  refine va_sld hx hb hX hbl hbA hS (i := (0 + 1)) (by unfold vp_in; decide) d_law_974 ?_
  refine lv_aload_n hx hb d_law_975 rfl (lv_at hl 5 rfl) ?_
  refine lv_iload hx hb d_law_976 (lv_at hl 1 rfl) ?_
  refine lv_iconst (v := 2) hx hb d_law_978 (by decide) ?_
  refine lv_iadd hx hb d_law_979 ?_
  refine va_sld hx hb hX hbl hbA hS (i := (0 + 2)) (by unfold vp_in; decide) d_law_980 ?_
  refine lv_aload_n hx hb d_law_981 rfl (lv_at hl 5 rfl) ?_
  refine lv_iload hx hb d_law_982 (lv_at hl 1 rfl) ?_
  refine lv_iconst (v := 3) hx hb d_law_984 (by decide) ?_
  refine lv_iadd hx hb d_law_985 ?_
  refine va_sld hx hb hX hbl hbA hS (i := (0 + 3)) (by unfold vp_in; decide) d_law_986 ?_
  refine lv_aload_n hx hb d_law_987 rfl (lv_at hl 5 rfl) ?_
  refine lv_iload hx hb d_law_988 (lv_at hl 1 rfl) ?_
  refine lv_iconst (v := 4) hx hb d_law_990 (by decide) ?_
  refine lv_iadd hx hb d_law_991 ?_
  refine va_sld hx hb hX hbl hbA hS (i := (0 + 4)) (by unfold vp_in; decide) d_law_992 ?_
  have hPc := hP.sub (ws' := [(hm, .inr (7, [.int 0, .int 0, .int 0, .int 0, .int 0, .ref rx, .ref ry, .int 0, m8, m9, m10, m11, m12, m13, m14, .int 0, m16, m17, m18, m19, m20, m21, m22, m23, m24, .int 0, m26, m27, m28, m29, .int 0, .int 0, m32, .int 0, m34, m35, .int 0, m37, m38, .int 0, m40, m41]))]) [0] rfl
  have hDc := hD.sub (ws' := [(hm, .inr (7, [.int 0, .int 0, .int 0, .int 0, .int 0, .ref rx, .ref ry, .int 0, m8, m9, m10, m11, m12, m13, m14, .int 0, m16, m17, m18, m19, m20, m21, m22, m23, m24, .int 0, m26, m27, m28, m29, .int 0, .int 0, m32, .int 0, m34, m35, .int 0, m37, m38, .int 0, m40, m41]))]) [0] (by decide) rfl
  have hKc := hK.sub (tys' := []) [] rfl
  have hFc := va_free (wc := [(hm, .inr (7, [.int 0, .int 0, .int 0, .int 0, .int 0, .ref rx, .ref ry, .int 0, m8, m9, m10, m11, m12, m13, m14, .int 0, m16, m17, m18, m19, m20, m21, m22, m23, m24, .int 0, m26, m27, m28, m29, .int 0, .int 0, m32, .int 0, m34, m35, .int 0, m37, m38, .int 0, m40, m41]))]) hD hS hA [0] rfl
  refine va_calli (va_runV (As := [.int (xs (Int32.toNatClampNeg (0 + 1))), .int (xs (Int32.toNatClampNeg (0 + 2))), .int (xs (Int32.toNatClampNeg (0 + 3))), .int (xs (Int32.toNatClampNeg (0 + 4)))]) (rest := []) ⟨hx, hb, hml, hown, hts⟩ (c_M_next l dC dI hm H.size 0 (.ref rx) (.ref ry) m8 m9 m10 m11 m12 m13 m14 m16 m17 m18 m19 m20 m21 m22 m23 m24 m26 m27 m28 m29 m32 m34 m35 m37 m38 m40 m41 ((xs (Int32.toNatClampNeg (0 + 1)))) ((xs (Int32.toNatClampNeg (0 + 2)))) ((xs (Int32.toNatClampNeg (0 + 3)))) ((xs (Int32.toNatClampNeg (0 + 4))))) (cwV 4 hts (tw_gV tk_453 tk_454 tk_455 tk_249 tk_456) rfl rfl rfl (by decide +kernel) ⟨Nat.le_of_ble_eq_true rfl, Nat.le_of_ble_eq_true rfl⟩) (tw_v4 (va_recv (q0 := 0) hK hP rfl rfl) hPc hKc hDc) rfl rfl hl.1 rfl (lv_room (Nat.le_of_ble_eq_true rfl)) d_law_993 ⟨by show 62 ≤ 600002; decide, by show 60367 ≤ 7302232; decide⟩) hS (fun q _ h => hFc q h) hFc (fun rm w9 t H1 locs ht hvm hm9 hB hz1 hk1 hS => ?_)
  obtain ⟨tm, fs⟩ := w9
  obtain ⟨hP1, hK1, hD1⟩ := hB
  rw [ht] at hP1
  obtain ⟨hP, hD⟩ := va_join (wr := [(rx, .inl (cX, 32, .inl (fun _ => 0))), (ry, .inl (cY, 32, .inl (fun _ => 0))), (ho, .inl (cL, 1, .inr (.inl (u))))]) (w1 := [(hm, .inr (7, .int tm :: fs))]) hP hD [0] [1, 2, 3] rfl rfl (by decide) (by decide) hk1 hFc hP1 hD1
  generalize H1 = H at hP hS ⊢
  have hP : va_P (dC, dI) classes [(rx, .inl (cX, 32, .inl (fun _ => 0))), (ry, .inl (cY, 32, .inl (fun _ => 0))), (ho, .inl (cL, 1, .inr (.inl (u)))), (hm, .inr (7, .int tm :: fs))] H := hP
  have hD : va_D A [(rx, .inl (cX, 32, .inl (fun _ => 0))), (ry, .inl (cY, 32, .inl (fun _ => 0))), (ho, .inl (cL, 1, .inr (.inl (u)))), (hm, .inr (7, .int tm :: fs))] := hD
  have hm9 : tm = 1 := hm9
  have hm9 := hm9.symm
  subst hm9
  refine lv_istore (lv' := [(6, .int rm), (5, .int 1), (4, .int 0), (3, .ref ho), (2, .ref hm), (1, .ref h), (0, .ref b)]) hx hb d_law_996 hl (by decide) rfl (fun ls hl => ?_)
  refine lv_aload_n hx hb d_law_998 rfl (lv_at hl 4 rfl) ?_
  refine vp_callSi (W.runV (As := []) (rest := []) ⟨hx, hb, hml, hown, hts⟩ (c_M_thrown l dC dI hm 1 fs) (cwV 0 hts (tw_gV tk_383 tk_384 tk_385 tk_249 tk_386) rfl rfl rfl (by decide +kernel) ⟨Nat.le_of_ble_eq_true rfl, Nat.le_of_ble_eq_true rfl⟩) (tw_v2 (va_recv (q0 := 3) hK hP rfl rfl) (hP.sub (ws' := [(hm, .inr (7, .int 1 :: fs))]) [3] rfl) (hK.sub (tys' := []) [] rfl)) rfl rfl hl.1 rfl (lv_room (Nat.le_of_ble_eq_true rfl)) d_law_999 ⟨by show 62 ≤ 600002; decide, by show 60367 ≤ 7302232; decide⟩) (fun r1 e2 => ?_)
  have e2 := e2.symm
  subst e2
  refine lv_iload hx hb d_law_1002 (lv_at hl 1 rfl) ?_
  refine lv_icmp_eq (tgt := 1009) hx hb d_law_1004 (by decide) (fun h3 => ?_) (fun h3 => absurd (by decide) h3)
  refine lv_iload hx hb d_law_1009 (lv_at hl 1 rfl) ?_
  refine lv_if_ne (tgt := 1026) hx hb d_law_1011 (by decide) (fun h4 => ?_) (fun h4 => absurd h4 (by decide))
  refine lv_goto (tgt := 1637) hx hb d_law_1026 (by decide) ?_
  refine lv_iinc (k := 2) (v := 7) (lv' := [(4, .int 7), (6, .int rm), (5, .int 1), (3, .ref ho), (2, .ref hm), (1, .ref h), (0, .ref b)]) hx hb d_law_1637 hl rfl (by decide) (by decide) rfl (fun ls hl => ?_)
  refine lv_goto (tgt := 23) hx hb d_law_1640 (by decide) ?_
  refine lv_iload hx hb d_law_23 (lv_at hl 0 rfl) ?_
  refine lv_aload_n hx hb d_law_25 rfl (lv_at hl 6 rfl) ?_
  refine va_slen hx hb hX hbl hbA hS d_law_26 ?_
  refine lv_bipush (v := 7) hx hb d_law_27 (by decide) ?_
  refine lv_isub hx hb d_law_29 ?_
  refine lv_icmp_gt (tgt := 1643) hx hb d_law_30 (by decide) (fun h5 => ?_) (fun h5 => absurd (by decide) h5)
  refine lv_iconst (v := 1) hx hb d_law_1643 (by decide) ?_
  refine va_forget (fun q hq => hA2 _ (hS.2.2 q hq)) ?_
  refine W.widen (k := 600002) (n := 7302232) (by decide) (by decide) ?_
  exact lw_ret hx hb hr hlocks d_law_1644
theorem tk_457 : (Jvm.Cond.codeWith ({ cls := "LandBookLaw", name := "burden", desc := "(LLandBook;IIII[J)I" } : Jvm.MethodName) method_14_code (7 : Nat) (Option.some Jvm.ClassFile.FieldType.int) [((0 : Nat), (14 : Nat), (17 : Nat), (21 : Nat)), ((0 : Nat), (14 : Nat), (21 : Nat), (26 : Nat)), ((0 : Nat), (14 : Nat), (25 : Nat), (13 : Nat))]) ∈ tw_G := tw_in (List.mem_of_getElem? (i := 927) (by decide +kernel)) rfl
theorem tk_458 : (Jvm.Cond.methodLink "LandBookLaw" (134 : Nat) ({ cls := "LandBookLaw", name := "burden", desc := "(LLandBook;IIII[J)I" } : Jvm.MethodName)) ∈ tw_G := tw_in (List.mem_of_getElem? (i := 925) (by decide +kernel)) rfl
theorem tk_459 : (Jvm.Cond.static ({ cls := "LandBookLaw", name := "burden", desc := "(LLandBook;IIII[J)I" } : Jvm.MethodName)) ∈ tw_G := tw_in (List.mem_of_getElem? (i := 926) (by decide +kernel)) rfl
theorem tk_460 : (Jvm.Cond.methodLink "LandBookLaw" (136 : Nat) ({ cls := "LandBookModel", name := "burden", desc := "(IIII)I" } : Jvm.MethodName)) ∈ tw_G := tw_in (List.mem_of_getElem? (i := 1424) (by decide +kernel)) rfl
theorem tk_461 : (Jvm.Cond.instanceMethod ({ cls := "LandBookModel", name := "burden", desc := "(IIII)I" } : Jvm.MethodName)) ∈ tw_G := tw_in (List.mem_of_getElem? (i := 1425) (by decide +kernel)) rfl
theorem tk_462 : (Jvm.Cond.selects "LandBookModel" ({ cls := "LandBookModel", name := "burden", desc := "(IIII)I" } : Jvm.MethodName) ({ cls := "LandBookModel", name := "burden", desc := "(IIII)I" } : Jvm.MethodName)) ∈ tw_G := tw_in (List.mem_of_getElem? (i := 1426) (by decide +kernel)) rfl
theorem tk_463 : (Jvm.Cond.code ({ cls := "LandBookModel", name := "burden", desc := "(IIII)I" } : Jvm.MethodName) prog_13_method_67_code (7 : Nat) (Option.some Jvm.ClassFile.FieldType.int)) ∈ tw_G := tw_in (List.mem_of_getElem? (i := 1427) (by decide +kernel)) rfl
set_option maxHeartbeats 4000000 in
set_option maxRecDepth 100000 in
theorem lw_case_11 {p : Program} {e : Env} {s : State} {m : MethodId} {below : List Frame} {meth : Method} {c : Code} (l : Launch) (hfl : l.flags = pinnedFlags ++ [noTraceFlag]) {b : Nat} {xs : Nat → Int32} (hx : p.tables.exec = Jvm.exec) (hb : c.code = code) (hr : meth.sig.returnType = ret) (hml : c.maxLocals = 7) (hown : s.vm.findClass "LandBookLaw" = some m.cls) (hts : ∀ w ∈ tw_G, w.before #[Value.ref b] s = true) (hX : va_X b 7 xs s s.heap) (hbl : b < s.heap.size) (hlocks : meth.locks = false) (hE : lb_E s) {A : Nat → Prop} (hA : ∀ q : Nat, s.heap.size ≤ q → A q) (hA2 : ∀ q : Nat, A q → s.heap.size ≤ q) {dC : Nat → ClassId} {dI : Nat → Nat → Nat} {h ro ra ch rg dl ll el lg hm rx ry ho : Nat} {cI cX cY cL : ClassId} {v2 v3 ca w3 w4 x0 y0 x1 y1 x2 y2 z0 m8 m9 m10 m11 m12 m13 m14 m16 m17 m18 m19 m20 m21 m22 m23 m24 m26 m27 m28 m29 m32 m34 m35 m37 m38 m40 m41 : Value} {H : Heap} {locs : List Loc} {ls : Array Slot} (hK : va_K (dC, dI) classes [(cI, .int), (cX, .int), (cY, .int), (cL, .long)] s) (hP : va_P (dC, dI) classes [(h, .inr (0, [.ref ro, .ref ch, v2, v3, .ref rg, .ref lg, .int 0, .int 0])), (ro, .inr (1, [.ref ra, .int 0])), (ra, .inl (cI, 32, .inl (fun _ => 0))), (ch, .inr (1, [ca, .int 0])), (rg, .inr (4, [.ref dl, .ref ll, .ref el, w3, w4])), (dl, .inr (6, [x0, .int 0, y0])), (ll, .inr (6, [x1, .int 0, y1])), (el, .inr (6, [x2, .int 0, y2])), (lg, .inr (5, [z0, .int 0, .int 0])), (hm, .inr (7, [.int 0, .int 0, .int 0, .int 0, .int 0, .ref rx, .ref ry, .int 0, m8, m9, m10, m11, m12, m13, m14, .int 0, m16, m17, m18, m19, m20, m21, m22, m23, m24, .int 0, m26, m27, m28, m29, .int 0, .int 0, m32, .int 0, m34, m35, .int 0, m37, m38, .int 0, m40, m41])), (rx, .inl (cX, 32, .inl (fun _ => 0))), (ry, .inl (cY, 32, .inl (fun _ => 0))), (ho, .inl (cL, 1, .inr (.inl (fun _ => 0))))] H) (hD : va_D A [(h, .inr (0, [.ref ro, .ref ch, v2, v3, .ref rg, .ref lg, .int 0, .int 0])), (ro, .inr (1, [.ref ra, .int 0])), (ra, .inl (cI, 32, .inl (fun _ => 0))), (ch, .inr (1, [ca, .int 0])), (rg, .inr (4, [.ref dl, .ref ll, .ref el, w3, w4])), (dl, .inr (6, [x0, .int 0, y0])), (ll, .inr (6, [x1, .int 0, y1])), (el, .inr (6, [x2, .int 0, y2])), (lg, .inr (5, [z0, .int 0, .int 0])), (hm, .inr (7, [.int 0, .int 0, .int 0, .int 0, .int 0, .ref rx, .ref ry, .int 0, m8, m9, m10, m11, m12, m13, m14, .int 0, m16, m17, m18, m19, m20, m21, m22, m23, m24, .int 0, m26, m27, m28, m29, .int 0, .int 0, m32, .int 0, m34, m35, .int 0, m37, m38, .int 0, m40, m41])), (rx, .inl (cX, 32, .inl (fun _ => 0))), (ry, .inl (cY, 32, .inl (fun _ => 0))), (ho, .inl (cL, 1, .inr (.inl (fun _ => 0))))]) (hS : va_S A s.heap H locs) (hl : lv_has ls 7 [(4, .int 0), (3, .ref ho), (2, .ref hm), (1, .ref h), (0, .ref b)]) : W p l e room_1 s m #[Value.ref b] below meth c H locs 61 60361 (lw_Z below #[Value.ref b] s) (F0 m 1029 ls []) := by
  have hbA : ¬ A b := fun h => absurd (hA2 b h) (Nat.not_le.mpr hbl)
  have hN : ∀ (a : Nat) (cell : Cell), s.heap[a]? = some cell → cell.vm.isStatics = true → ¬ A a := fun a cell h1 _ h3 => absurd (hA2 a h3) (Nat.not_le.mpr (Array.getElem?_eq_some_iff.mp h1).1)
  refine lv_aload_n hx hb d_law_1029 rfl (lv_at hl 3 rfl) ?_
  refine lv_aload_n hx hb d_law_1030 rfl (lv_at hl 4 rfl) ?_
  refine lv_iload hx hb d_law_1031 (lv_at hl 0 rfl) ?_
  refine lv_iconst (v := 1) hx hb d_law_1033 (by decide) ?_
  refine lv_iadd hx hb d_law_1034 ?_
  refine va_sld hx hb hX hbl hbA hS (i := (0 + 1)) (by unfold vp_in; decide) d_law_1035 ?_
  refine lv_aload_n hx hb d_law_1036 rfl (lv_at hl 4 rfl) ?_
  refine lv_iload hx hb d_law_1037 (lv_at hl 0 rfl) ?_
  refine lv_iconst (v := 2) hx hb d_law_1039 (by decide) ?_
  refine lv_iadd hx hb d_law_1040 ?_
  refine va_sld hx hb hX hbl hbA hS (i := (0 + 2)) (by unfold vp_in; decide) d_law_1041 ?_
  refine lv_aload_n hx hb d_law_1042 rfl (lv_at hl 4 rfl) ?_
  refine lv_iload hx hb d_law_1043 (lv_at hl 0 rfl) ?_
  refine lv_iconst (v := 3) hx hb d_law_1045 (by decide) ?_
  refine lv_iadd hx hb d_law_1046 ?_
  refine va_sld hx hb hX hbl hbA hS (i := (0 + 3)) (by unfold vp_in; decide) d_law_1047 ?_
  refine lv_aload_n hx hb d_law_1048 rfl (lv_at hl 4 rfl) ?_
  refine lv_iload hx hb d_law_1049 (lv_at hl 0 rfl) ?_
  refine lv_iconst (v := 4) hx hb d_law_1051 (by decide) ?_
  refine lv_iadd hx hb d_law_1052 ?_
  refine va_sld hx hb hX hbl hbA hS (i := (0 + 4)) (by unfold vp_in; decide) d_law_1053 ?_
  refine lv_aload_n hx hb d_law_1054 rfl (lv_at hl 1 rfl) ?_
  have hPc := hP.sub (ws' := [(h, .inr (0, [.ref ro, .ref ch, v2, v3, .ref rg, .ref lg, .int 0, .int 0])), (ro, .inr (1, [.ref ra, .int 0])), (ra, .inl (cI, 32, .inl (fun _ => 0))), (ch, .inr (1, [ca, .int 0])), (rg, .inr (4, [.ref dl, .ref ll, .ref el, w3, w4])), (dl, .inr (6, [x0, .int 0, y0])), (ll, .inr (6, [x1, .int 0, y1])), (el, .inr (6, [x2, .int 0, y2])), (lg, .inr (5, [z0, .int 0, .int 0])), (ho, .inl (cL, 1, .inr (.inl (fun _ => 0))))]) [0, 1, 2, 3, 4, 5, 6, 7, 8, 12] rfl
  have hDc := hD.sub (ws' := [(h, .inr (0, [.ref ro, .ref ch, v2, v3, .ref rg, .ref lg, .int 0, .int 0])), (ro, .inr (1, [.ref ra, .int 0])), (ra, .inl (cI, 32, .inl (fun _ => 0))), (ch, .inr (1, [ca, .int 0])), (rg, .inr (4, [.ref dl, .ref ll, .ref el, w3, w4])), (dl, .inr (6, [x0, .int 0, y0])), (ll, .inr (6, [x1, .int 0, y1])), (el, .inr (6, [x2, .int 0, y2])), (lg, .inr (5, [z0, .int 0, .int 0])), (ho, .inl (cL, 1, .inr (.inl (fun _ => 0))))]) [0, 1, 2, 3, 4, 5, 6, 7, 8, 12] (by decide) rfl
  have hKc := hK.sub (tys' := [(cI, .int), (cL, .long)]) [0, 3] rfl
  have hFc := va_free (wc := [(h, .inr (0, [.ref ro, .ref ch, v2, v3, .ref rg, .ref lg, .int 0, .int 0])), (ro, .inr (1, [.ref ra, .int 0])), (ra, .inl (cI, 32, .inl (fun _ => 0))), (ch, .inr (1, [ca, .int 0])), (rg, .inr (4, [.ref dl, .ref ll, .ref el, w3, w4])), (dl, .inr (6, [x0, .int 0, y0])), (ll, .inr (6, [x1, .int 0, y1])), (el, .inr (6, [x2, .int 0, y2])), (lg, .inr (5, [z0, .int 0, .int 0])), (ho, .inl (cL, 1, .inr (.inl (fun _ => 0))))]) hD hS hA [0, 1, 2, 3, 4, 5, 6, 7, 8, 12] rfl
  refine va_calli (tw_runSW (n := 6) (As := [.ref h, .int (xs (Int32.toNatClampNeg (0 + 1))), .int (xs (Int32.toNatClampNeg (0 + 2))), .int (xs (Int32.toNatClampNeg (0 + 3))), .int (xs (Int32.toNatClampNeg (0 + 4))), .ref ho]) (rest := []) ⟨hx, hb, hml, hown, hts⟩ (c_law_burden l hfl dC dI h H.size ro ra ch rg dl ll el lg ho cI cL (fun _ => 0) (fun _ => 0) v2 v3 ca w3 w4 x0 y0 x1 y1 x2 y2 z0 ((xs (Int32.toNatClampNeg (0 + 1)))) ((xs (Int32.toNatClampNeg (0 + 2)))) ((xs (Int32.toNatClampNeg (0 + 3)))) ((xs (Int32.toNatClampNeg (0 + 4))))) (tw_gc tk_457) rfl rfl rfl ⟨Nat.le_of_ble_eq_true rfl, Nat.le_of_ble_eq_true rfl⟩ (hts _ tk_376) (hts _ tk_458) (hts _ tk_459) (by decide +kernel) (tw_s4E hPc hKc hDc hE (tw_kst hN hS)) rfl rfl hl.1 rfl (lv_room (Nat.le_of_ble_eq_true rfl)) d_law_1055 ⟨by show 62 ≤ 600002; decide, by show 60367 ≤ 7302232; decide⟩) hS (fun q _ h => hFc q h) hFc (fun rk u t H1 locs ht hvm hk9 hB hz1 hk1 hS => ?_)
  obtain ⟨hP1, hK1, hD1⟩ := hB
  rw [ht] at hP1
  obtain ⟨hP, hD⟩ := va_join (wr := [(hm, .inr (7, [.int 0, .int 0, .int 0, .int 0, .int 0, .ref rx, .ref ry, .int 0, m8, m9, m10, m11, m12, m13, m14, .int 0, m16, m17, m18, m19, m20, m21, m22, m23, m24, .int 0, m26, m27, m28, m29, .int 0, .int 0, m32, .int 0, m34, m35, .int 0, m37, m38, .int 0, m40, m41])), (rx, .inl (cX, 32, .inl (fun _ => 0))), (ry, .inl (cY, 32, .inl (fun _ => 0)))]) (w1 := [(ho, .inl (cL, 1, .inr (.inl (u))))]) hP hD [0, 1, 2, 3, 4, 5, 6, 7, 8, 12] [9, 10, 11] rfl rfl (by decide) (by decide) hk1 hFc hP1 hD1
  generalize H1 = H at hP hS ⊢
  have hP : va_P (dC, dI) classes [(hm, .inr (7, [.int 0, .int 0, .int 0, .int 0, .int 0, .ref rx, .ref ry, .int 0, m8, m9, m10, m11, m12, m13, m14, .int 0, m16, m17, m18, m19, m20, m21, m22, m23, m24, .int 0, m26, m27, m28, m29, .int 0, .int 0, m32, .int 0, m34, m35, .int 0, m37, m38, .int 0, m40, m41])), (rx, .inl (cX, 32, .inl (fun _ => 0))), (ry, .inl (cY, 32, .inl (fun _ => 0))), (ho, .inl (cL, 1, .inr (.inl (u))))] H := hP
  have hD : va_D A [(hm, .inr (7, [.int 0, .int 0, .int 0, .int 0, .int 0, .ref rx, .ref ry, .int 0, m8, m9, m10, m11, m12, m13, m14, .int 0, m16, m17, m18, m19, m20, m21, m22, m23, m24, .int 0, m26, m27, m28, m29, .int 0, .int 0, m32, .int 0, m34, m35, .int 0, m37, m38, .int 0, m40, m41])), (rx, .inl (cX, 32, .inl (fun _ => 0))), (ry, .inl (cY, 32, .inl (fun _ => 0))), (ho, .inl (cL, 1, .inr (.inl (u))))] := hD
  have hk9 : rk = 1 := hk9
  have hk9 := hk9.symm
  subst hk9
  refine lv_istore (lv' := [(5, .int 1), (4, .int 0), (3, .ref ho), (2, .ref hm), (1, .ref h), (0, .ref b)]) hx hb d_law_1058 hl (by decide) rfl (fun ls hl => ?_)
  refine lv_aload_n hx hb d_law_1060 rfl (lv_at hl 3 rfl) ?_
  refine lv_aload_n hx hb d_law_1061 rfl (lv_at hl 5 rfl) ?_
  refine lv_iload hx hb d_law_1062 (lv_at hl 1 rfl) ?_
  refine lv_iconst (v := 1) hx hb d_law_1064 (by decide) ?_
  refine lv_iadd hx hb d_law_1065 ?_
  refine va_sld hx hb hX hbl hbA hS (i := (0 + 1)) (by unfold vp_in; decide) d_law_1066 ?_
  refine lv_aload_n hx hb d_law_1067 rfl (lv_at hl 5 rfl) ?_
  refine lv_iload hx hb d_law_1068 (lv_at hl 1 rfl) ?_
  refine lv_iconst (v := 2) hx hb d_law_1070 (by decide) ?_
  refine lv_iadd hx hb d_law_1071 ?_
  refine va_sld hx hb hX hbl hbA hS (i := (0 + 2)) (by unfold vp_in; decide) d_law_1072 ?_
  refine lv_aload_n hx hb d_law_1073 rfl (lv_at hl 5 rfl) ?_
  refine lv_iload hx hb d_law_1074 (lv_at hl 1 rfl) ?_
  refine lv_iconst (v := 3) hx hb d_law_1076 (by decide) ?_
  refine lv_iadd hx hb d_law_1077 ?_
  refine va_sld hx hb hX hbl hbA hS (i := (0 + 3)) (by unfold vp_in; decide) d_law_1078 ?_
  refine lv_aload_n hx hb d_law_1079 rfl (lv_at hl 5 rfl) ?_
  refine lv_iload hx hb d_law_1080 (lv_at hl 1 rfl) ?_
  refine lv_iconst (v := 4) hx hb d_law_1082 (by decide) ?_
  refine lv_iadd hx hb d_law_1083 ?_
  refine va_sld hx hb hX hbl hbA hS (i := (0 + 4)) (by unfold vp_in; decide) d_law_1084 ?_
  have hPc := hP.sub (ws' := [(hm, .inr (7, [.int 0, .int 0, .int 0, .int 0, .int 0, .ref rx, .ref ry, .int 0, m8, m9, m10, m11, m12, m13, m14, .int 0, m16, m17, m18, m19, m20, m21, m22, m23, m24, .int 0, m26, m27, m28, m29, .int 0, .int 0, m32, .int 0, m34, m35, .int 0, m37, m38, .int 0, m40, m41]))]) [0] rfl
  have hDc := hD.sub (ws' := [(hm, .inr (7, [.int 0, .int 0, .int 0, .int 0, .int 0, .ref rx, .ref ry, .int 0, m8, m9, m10, m11, m12, m13, m14, .int 0, m16, m17, m18, m19, m20, m21, m22, m23, m24, .int 0, m26, m27, m28, m29, .int 0, .int 0, m32, .int 0, m34, m35, .int 0, m37, m38, .int 0, m40, m41]))]) [0] (by decide) rfl
  have hKc := hK.sub (tys' := []) [] rfl
  have hFc := va_free (wc := [(hm, .inr (7, [.int 0, .int 0, .int 0, .int 0, .int 0, .ref rx, .ref ry, .int 0, m8, m9, m10, m11, m12, m13, m14, .int 0, m16, m17, m18, m19, m20, m21, m22, m23, m24, .int 0, m26, m27, m28, m29, .int 0, .int 0, m32, .int 0, m34, m35, .int 0, m37, m38, .int 0, m40, m41]))]) hD hS hA [0] rfl
  refine va_calli (va_runV (As := [.int (xs (Int32.toNatClampNeg (0 + 1))), .int (xs (Int32.toNatClampNeg (0 + 2))), .int (xs (Int32.toNatClampNeg (0 + 3))), .int (xs (Int32.toNatClampNeg (0 + 4)))]) (rest := []) ⟨hx, hb, hml, hown, hts⟩ (c_M_burden l dC dI hm H.size 0 (.ref rx) (.ref ry) m8 m9 m10 m11 m12 m13 m14 m16 m17 m18 m19 m20 m21 m22 m23 m24 m26 m27 m28 m29 m32 m34 m35 m37 m38 m40 m41 ((xs (Int32.toNatClampNeg (0 + 1)))) ((xs (Int32.toNatClampNeg (0 + 2)))) ((xs (Int32.toNatClampNeg (0 + 3)))) ((xs (Int32.toNatClampNeg (0 + 4))))) (cwV 4 hts (tw_gV tk_460 tk_461 tk_462 tk_249 tk_463) rfl rfl rfl (by decide +kernel) ⟨Nat.le_of_ble_eq_true rfl, Nat.le_of_ble_eq_true rfl⟩) (tw_v4 (va_recv (q0 := 0) hK hP rfl rfl) hPc hKc hDc) rfl rfl hl.1 rfl (lv_room (Nat.le_of_ble_eq_true rfl)) d_law_1085 ⟨by show 62 ≤ 600002; decide, by show 60367 ≤ 7302232; decide⟩) hS (fun q _ h => hFc q h) hFc (fun rm w9 t H1 locs ht hvm hm9 hB hz1 hk1 hS => ?_)
  obtain ⟨tm, fs⟩ := w9
  obtain ⟨hP1, hK1, hD1⟩ := hB
  rw [ht] at hP1
  obtain ⟨hP, hD⟩ := va_join (wr := [(rx, .inl (cX, 32, .inl (fun _ => 0))), (ry, .inl (cY, 32, .inl (fun _ => 0))), (ho, .inl (cL, 1, .inr (.inl (u))))]) (w1 := [(hm, .inr (7, .int tm :: fs))]) hP hD [0] [1, 2, 3] rfl rfl (by decide) (by decide) hk1 hFc hP1 hD1
  generalize H1 = H at hP hS ⊢
  have hP : va_P (dC, dI) classes [(rx, .inl (cX, 32, .inl (fun _ => 0))), (ry, .inl (cY, 32, .inl (fun _ => 0))), (ho, .inl (cL, 1, .inr (.inl (u)))), (hm, .inr (7, .int tm :: fs))] H := hP
  have hD : va_D A [(rx, .inl (cX, 32, .inl (fun _ => 0))), (ry, .inl (cY, 32, .inl (fun _ => 0))), (ho, .inl (cL, 1, .inr (.inl (u)))), (hm, .inr (7, .int tm :: fs))] := hD
  have hm9 : tm = 1 := hm9
  have hm9 := hm9.symm
  subst hm9
  refine lv_istore (lv' := [(6, .int rm), (5, .int 1), (4, .int 0), (3, .ref ho), (2, .ref hm), (1, .ref h), (0, .ref b)]) hx hb d_law_1088 hl (by decide) rfl (fun ls hl => ?_)
  refine lv_aload_n hx hb d_law_1090 rfl (lv_at hl 4 rfl) ?_
  refine vp_callSi (W.runV (As := []) (rest := []) ⟨hx, hb, hml, hown, hts⟩ (c_M_thrown l dC dI hm 1 fs) (cwV 0 hts (tw_gV tk_383 tk_384 tk_385 tk_249 tk_386) rfl rfl rfl (by decide +kernel) ⟨Nat.le_of_ble_eq_true rfl, Nat.le_of_ble_eq_true rfl⟩) (tw_v2 (va_recv (q0 := 3) hK hP rfl rfl) (hP.sub (ws' := [(hm, .inr (7, .int 1 :: fs))]) [3] rfl) (hK.sub (tys' := []) [] rfl)) rfl rfl hl.1 rfl (lv_room (Nat.le_of_ble_eq_true rfl)) d_law_1091 ⟨by show 62 ≤ 600002; decide, by show 60367 ≤ 7302232; decide⟩) (fun r1 e2 => ?_)
  have e2 := e2.symm
  subst e2
  refine lv_iload hx hb d_law_1094 (lv_at hl 1 rfl) ?_
  refine lv_icmp_eq (tgt := 1101) hx hb d_law_1096 (by decide) (fun h3 => ?_) (fun h3 => absurd (by decide) h3)
  refine lv_iload hx hb d_law_1101 (lv_at hl 1 rfl) ?_
  refine lv_if_ne (tgt := 1118) hx hb d_law_1103 (by decide) (fun h4 => ?_) (fun h4 => absurd h4 (by decide))
  refine lv_goto (tgt := 1637) hx hb d_law_1118 (by decide) ?_
  refine lv_iinc (k := 2) (v := 7) (lv' := [(4, .int 7), (6, .int rm), (5, .int 1), (3, .ref ho), (2, .ref hm), (1, .ref h), (0, .ref b)]) hx hb d_law_1637 hl rfl (by decide) (by decide) rfl (fun ls hl => ?_)
  refine lv_goto (tgt := 23) hx hb d_law_1640 (by decide) ?_
  refine lv_iload hx hb d_law_23 (lv_at hl 0 rfl) ?_
  refine lv_aload_n hx hb d_law_25 rfl (lv_at hl 6 rfl) ?_
  refine va_slen hx hb hX hbl hbA hS d_law_26 ?_
  refine lv_bipush (v := 7) hx hb d_law_27 (by decide) ?_
  refine lv_isub hx hb d_law_29 ?_
  refine lv_icmp_gt (tgt := 1643) hx hb d_law_30 (by decide) (fun h5 => ?_) (fun h5 => absurd (by decide) h5)
  refine lv_iconst (v := 1) hx hb d_law_1643 (by decide) ?_
  refine va_forget (fun q hq => hA2 _ (hS.2.2 q hq)) ?_
  refine W.widen (k := 600002) (n := 7302232) (by decide) (by decide) ?_
  exact lw_ret hx hb hr hlocks d_law_1644
theorem tk_464 : (Jvm.Cond.codeWith ({ cls := "LandBookLaw", name := "parent", desc := "(LLandBook;II[J)I" } : Jvm.MethodName) method_15_code (5 : Nat) (Option.some Jvm.ClassFile.FieldType.int) [((0 : Nat), (10 : Nat), (13 : Nat), (21 : Nat)), ((0 : Nat), (10 : Nat), (17 : Nat), (26 : Nat))]) ∈ tw_G := tw_in (List.mem_of_getElem? (i := 935) (by decide +kernel)) rfl
theorem tk_465 : (Jvm.Cond.methodLink "LandBookLaw" (137 : Nat) ({ cls := "LandBookLaw", name := "parent", desc := "(LLandBook;II[J)I" } : Jvm.MethodName)) ∈ tw_G := tw_in (List.mem_of_getElem? (i := 933) (by decide +kernel)) rfl
theorem tk_466 : (Jvm.Cond.static ({ cls := "LandBookLaw", name := "parent", desc := "(LLandBook;II[J)I" } : Jvm.MethodName)) ∈ tw_G := tw_in (List.mem_of_getElem? (i := 934) (by decide +kernel)) rfl
theorem tk_467 : (Jvm.Cond.methodLink "LandBookLaw" (139 : Nat) ({ cls := "LandBookModel", name := "parent", desc := "(II)I" } : Jvm.MethodName)) ∈ tw_G := tw_in (List.mem_of_getElem? (i := 1428) (by decide +kernel)) rfl
theorem tk_468 : (Jvm.Cond.instanceMethod ({ cls := "LandBookModel", name := "parent", desc := "(II)I" } : Jvm.MethodName)) ∈ tw_G := tw_in (List.mem_of_getElem? (i := 1429) (by decide +kernel)) rfl
theorem tk_469 : (Jvm.Cond.selects "LandBookModel" ({ cls := "LandBookModel", name := "parent", desc := "(II)I" } : Jvm.MethodName) ({ cls := "LandBookModel", name := "parent", desc := "(II)I" } : Jvm.MethodName)) ∈ tw_G := tw_in (List.mem_of_getElem? (i := 1430) (by decide +kernel)) rfl
theorem tk_470 : (Jvm.Cond.code ({ cls := "LandBookModel", name := "parent", desc := "(II)I" } : Jvm.MethodName) prog_13_method_68_code (3 : Nat) (Option.some Jvm.ClassFile.FieldType.int)) ∈ tw_G := tw_in (List.mem_of_getElem? (i := 1431) (by decide +kernel)) rfl
set_option maxHeartbeats 4000000 in
set_option maxRecDepth 100000 in
theorem lw_case_12 {p : Program} {e : Env} {s : State} {m : MethodId} {below : List Frame} {meth : Method} {c : Code} (l : Launch) (hfl : l.flags = pinnedFlags ++ [noTraceFlag]) {b : Nat} {xs : Nat → Int32} (hx : p.tables.exec = Jvm.exec) (hb : c.code = code) (hr : meth.sig.returnType = ret) (hml : c.maxLocals = 7) (hown : s.vm.findClass "LandBookLaw" = some m.cls) (hts : ∀ w ∈ tw_G, w.before #[Value.ref b] s = true) (hX : va_X b 7 xs s s.heap) (hbl : b < s.heap.size) (hlocks : meth.locks = false) (hE : lb_E s) {A : Nat → Prop} (hA : ∀ q : Nat, s.heap.size ≤ q → A q) (hA2 : ∀ q : Nat, A q → s.heap.size ≤ q) {dC : Nat → ClassId} {dI : Nat → Nat → Nat} {h ro ra ch rg dl ll el lg hm rx ry ho : Nat} {cI cX cY cL : ClassId} {v2 v3 ca w3 w4 x0 y0 x1 y1 x2 y2 z0 m8 m9 m10 m11 m12 m13 m14 m16 m17 m18 m19 m20 m21 m22 m23 m24 m26 m27 m28 m29 m32 m34 m35 m37 m38 m40 m41 : Value} {H : Heap} {locs : List Loc} {ls : Array Slot} (hK : va_K (dC, dI) classes [(cI, .int), (cX, .int), (cY, .int), (cL, .long)] s) (hP : va_P (dC, dI) classes [(h, .inr (0, [.ref ro, .ref ch, v2, v3, .ref rg, .ref lg, .int 0, .int 0])), (ro, .inr (1, [.ref ra, .int 0])), (ra, .inl (cI, 32, .inl (fun _ => 0))), (ch, .inr (1, [ca, .int 0])), (rg, .inr (4, [.ref dl, .ref ll, .ref el, w3, w4])), (dl, .inr (6, [x0, .int 0, y0])), (ll, .inr (6, [x1, .int 0, y1])), (el, .inr (6, [x2, .int 0, y2])), (lg, .inr (5, [z0, .int 0, .int 0])), (hm, .inr (7, [.int 0, .int 0, .int 0, .int 0, .int 0, .ref rx, .ref ry, .int 0, m8, m9, m10, m11, m12, m13, m14, .int 0, m16, m17, m18, m19, m20, m21, m22, m23, m24, .int 0, m26, m27, m28, m29, .int 0, .int 0, m32, .int 0, m34, m35, .int 0, m37, m38, .int 0, m40, m41])), (rx, .inl (cX, 32, .inl (fun _ => 0))), (ry, .inl (cY, 32, .inl (fun _ => 0))), (ho, .inl (cL, 1, .inr (.inl (fun _ => 0))))] H) (hD : va_D A [(h, .inr (0, [.ref ro, .ref ch, v2, v3, .ref rg, .ref lg, .int 0, .int 0])), (ro, .inr (1, [.ref ra, .int 0])), (ra, .inl (cI, 32, .inl (fun _ => 0))), (ch, .inr (1, [ca, .int 0])), (rg, .inr (4, [.ref dl, .ref ll, .ref el, w3, w4])), (dl, .inr (6, [x0, .int 0, y0])), (ll, .inr (6, [x1, .int 0, y1])), (el, .inr (6, [x2, .int 0, y2])), (lg, .inr (5, [z0, .int 0, .int 0])), (hm, .inr (7, [.int 0, .int 0, .int 0, .int 0, .int 0, .ref rx, .ref ry, .int 0, m8, m9, m10, m11, m12, m13, m14, .int 0, m16, m17, m18, m19, m20, m21, m22, m23, m24, .int 0, m26, m27, m28, m29, .int 0, .int 0, m32, .int 0, m34, m35, .int 0, m37, m38, .int 0, m40, m41])), (rx, .inl (cX, 32, .inl (fun _ => 0))), (ry, .inl (cY, 32, .inl (fun _ => 0))), (ho, .inl (cL, 1, .inr (.inl (fun _ => 0))))]) (hS : va_S A s.heap H locs) (hl : lv_has ls 7 [(4, .int 0), (3, .ref ho), (2, .ref hm), (1, .ref h), (0, .ref b)]) : W p l e room_1 s m #[Value.ref b] below meth c H locs 61 60361 (lw_Z below #[Value.ref b] s) (F0 m 1121 ls []) := by
  have hbA : ¬ A b := fun h => absurd (hA2 b h) (Nat.not_le.mpr hbl)
  have hN : ∀ (a : Nat) (cell : Cell), s.heap[a]? = some cell → cell.vm.isStatics = true → ¬ A a := fun a cell h1 _ h3 => absurd (hA2 a h3) (Nat.not_le.mpr (Array.getElem?_eq_some_iff.mp h1).1)
  refine lv_aload_n hx hb d_law_1121 rfl (lv_at hl 3 rfl) ?_
  refine lv_aload_n hx hb d_law_1122 rfl (lv_at hl 4 rfl) ?_
  refine lv_iload hx hb d_law_1123 (lv_at hl 0 rfl) ?_
  refine lv_iconst (v := 1) hx hb d_law_1125 (by decide) ?_
  refine lv_iadd hx hb d_law_1126 ?_
  refine va_sld hx hb hX hbl hbA hS (i := (0 + 1)) (by unfold vp_in; decide) d_law_1127 ?_
  refine lv_aload_n hx hb d_law_1128 rfl (lv_at hl 4 rfl) ?_
  refine lv_iload hx hb d_law_1129 (lv_at hl 0 rfl) ?_
  refine lv_iconst (v := 2) hx hb d_law_1131 (by decide) ?_
  refine lv_iadd hx hb d_law_1132 ?_
  refine va_sld hx hb hX hbl hbA hS (i := (0 + 2)) (by unfold vp_in; decide) d_law_1133 ?_
  refine lv_aload_n hx hb d_law_1134 rfl (lv_at hl 1 rfl) ?_
  have hPc := hP.sub (ws' := [(h, .inr (0, [.ref ro, .ref ch, v2, v3, .ref rg, .ref lg, .int 0, .int 0])), (ro, .inr (1, [.ref ra, .int 0])), (ra, .inl (cI, 32, .inl (fun _ => 0))), (ch, .inr (1, [ca, .int 0])), (rg, .inr (4, [.ref dl, .ref ll, .ref el, w3, w4])), (dl, .inr (6, [x0, .int 0, y0])), (ll, .inr (6, [x1, .int 0, y1])), (el, .inr (6, [x2, .int 0, y2])), (lg, .inr (5, [z0, .int 0, .int 0])), (ho, .inl (cL, 1, .inr (.inl (fun _ => 0))))]) [0, 1, 2, 3, 4, 5, 6, 7, 8, 12] rfl
  have hDc := hD.sub (ws' := [(h, .inr (0, [.ref ro, .ref ch, v2, v3, .ref rg, .ref lg, .int 0, .int 0])), (ro, .inr (1, [.ref ra, .int 0])), (ra, .inl (cI, 32, .inl (fun _ => 0))), (ch, .inr (1, [ca, .int 0])), (rg, .inr (4, [.ref dl, .ref ll, .ref el, w3, w4])), (dl, .inr (6, [x0, .int 0, y0])), (ll, .inr (6, [x1, .int 0, y1])), (el, .inr (6, [x2, .int 0, y2])), (lg, .inr (5, [z0, .int 0, .int 0])), (ho, .inl (cL, 1, .inr (.inl (fun _ => 0))))]) [0, 1, 2, 3, 4, 5, 6, 7, 8, 12] (by decide) rfl
  have hKc := hK.sub (tys' := [(cI, .int), (cL, .long)]) [0, 3] rfl
  have hFc := va_free (wc := [(h, .inr (0, [.ref ro, .ref ch, v2, v3, .ref rg, .ref lg, .int 0, .int 0])), (ro, .inr (1, [.ref ra, .int 0])), (ra, .inl (cI, 32, .inl (fun _ => 0))), (ch, .inr (1, [ca, .int 0])), (rg, .inr (4, [.ref dl, .ref ll, .ref el, w3, w4])), (dl, .inr (6, [x0, .int 0, y0])), (ll, .inr (6, [x1, .int 0, y1])), (el, .inr (6, [x2, .int 0, y2])), (lg, .inr (5, [z0, .int 0, .int 0])), (ho, .inl (cL, 1, .inr (.inl (fun _ => 0))))]) hD hS hA [0, 1, 2, 3, 4, 5, 6, 7, 8, 12] rfl
  refine va_calli (tw_runSW (n := 4) (As := [.ref h, .int (xs (Int32.toNatClampNeg (0 + 1))), .int (xs (Int32.toNatClampNeg (0 + 2))), .ref ho]) (rest := []) ⟨hx, hb, hml, hown, hts⟩ (c_law_parent l hfl dC dI h H.size ro ra ch rg dl ll el lg ho cI cL (fun _ => 0) (fun _ => 0) v2 v3 ca w3 w4 x0 y0 x1 y1 x2 y2 z0 ((xs (Int32.toNatClampNeg (0 + 1)))) ((xs (Int32.toNatClampNeg (0 + 2))))) (tw_gc tk_464) rfl rfl rfl ⟨Nat.le_of_ble_eq_true rfl, Nat.le_of_ble_eq_true rfl⟩ (hts _ tk_376) (hts _ tk_465) (hts _ tk_466) (by decide +kernel) (tw_s4E hPc hKc hDc hE (tw_kst hN hS)) rfl rfl hl.1 rfl (lv_room (Nat.le_of_ble_eq_true rfl)) d_law_1135 ⟨by show 62 ≤ 600002; decide, by show 60367 ≤ 7302232; decide⟩) hS (fun q _ h => hFc q h) hFc (fun rk u t H1 locs ht hvm hk9 hB hz1 hk1 hS => ?_)
  obtain ⟨hP1, hK1, hD1⟩ := hB
  rw [ht] at hP1
  obtain ⟨hP, hD⟩ := va_join (wr := [(hm, .inr (7, [.int 0, .int 0, .int 0, .int 0, .int 0, .ref rx, .ref ry, .int 0, m8, m9, m10, m11, m12, m13, m14, .int 0, m16, m17, m18, m19, m20, m21, m22, m23, m24, .int 0, m26, m27, m28, m29, .int 0, .int 0, m32, .int 0, m34, m35, .int 0, m37, m38, .int 0, m40, m41])), (rx, .inl (cX, 32, .inl (fun _ => 0))), (ry, .inl (cY, 32, .inl (fun _ => 0)))]) (w1 := [(ho, .inl (cL, 1, .inr (.inl (u))))]) hP hD [0, 1, 2, 3, 4, 5, 6, 7, 8, 12] [9, 10, 11] rfl rfl (by decide) (by decide) hk1 hFc hP1 hD1
  generalize H1 = H at hP hS ⊢
  have hP : va_P (dC, dI) classes [(hm, .inr (7, [.int 0, .int 0, .int 0, .int 0, .int 0, .ref rx, .ref ry, .int 0, m8, m9, m10, m11, m12, m13, m14, .int 0, m16, m17, m18, m19, m20, m21, m22, m23, m24, .int 0, m26, m27, m28, m29, .int 0, .int 0, m32, .int 0, m34, m35, .int 0, m37, m38, .int 0, m40, m41])), (rx, .inl (cX, 32, .inl (fun _ => 0))), (ry, .inl (cY, 32, .inl (fun _ => 0))), (ho, .inl (cL, 1, .inr (.inl (u))))] H := hP
  have hD : va_D A [(hm, .inr (7, [.int 0, .int 0, .int 0, .int 0, .int 0, .ref rx, .ref ry, .int 0, m8, m9, m10, m11, m12, m13, m14, .int 0, m16, m17, m18, m19, m20, m21, m22, m23, m24, .int 0, m26, m27, m28, m29, .int 0, .int 0, m32, .int 0, m34, m35, .int 0, m37, m38, .int 0, m40, m41])), (rx, .inl (cX, 32, .inl (fun _ => 0))), (ry, .inl (cY, 32, .inl (fun _ => 0))), (ho, .inl (cL, 1, .inr (.inl (u))))] := hD
  have hk9 : rk = 1 := hk9
  have hk9 := hk9.symm
  subst hk9
  refine lv_istore (lv' := [(5, .int 1), (4, .int 0), (3, .ref ho), (2, .ref hm), (1, .ref h), (0, .ref b)]) hx hb d_law_1138 hl (by decide) rfl (fun ls hl => ?_)
  refine lv_aload_n hx hb d_law_1140 rfl (lv_at hl 3 rfl) ?_
  refine lv_aload_n hx hb d_law_1141 rfl (lv_at hl 5 rfl) ?_
  refine lv_iload hx hb d_law_1142 (lv_at hl 1 rfl) ?_
  refine lv_iconst (v := 1) hx hb d_law_1144 (by decide) ?_
  refine lv_iadd hx hb d_law_1145 ?_
  refine va_sld hx hb hX hbl hbA hS (i := (0 + 1)) (by unfold vp_in; decide) d_law_1146 ?_
  refine lv_aload_n hx hb d_law_1147 rfl (lv_at hl 5 rfl) ?_
  refine lv_iload hx hb d_law_1148 (lv_at hl 1 rfl) ?_
  refine lv_iconst (v := 2) hx hb d_law_1150 (by decide) ?_
  refine lv_iadd hx hb d_law_1151 ?_
  refine va_sld hx hb hX hbl hbA hS (i := (0 + 2)) (by unfold vp_in; decide) d_law_1152 ?_
  have hPc := hP.sub (ws' := [(hm, .inr (7, [.int 0, .int 0, .int 0, .int 0, .int 0, .ref rx, .ref ry, .int 0, m8, m9, m10, m11, m12, m13, m14, .int 0, m16, m17, m18, m19, m20, m21, m22, m23, m24, .int 0, m26, m27, m28, m29, .int 0, .int 0, m32, .int 0, m34, m35, .int 0, m37, m38, .int 0, m40, m41]))]) [0] rfl
  have hDc := hD.sub (ws' := [(hm, .inr (7, [.int 0, .int 0, .int 0, .int 0, .int 0, .ref rx, .ref ry, .int 0, m8, m9, m10, m11, m12, m13, m14, .int 0, m16, m17, m18, m19, m20, m21, m22, m23, m24, .int 0, m26, m27, m28, m29, .int 0, .int 0, m32, .int 0, m34, m35, .int 0, m37, m38, .int 0, m40, m41]))]) [0] (by decide) rfl
  have hKc := hK.sub (tys' := []) [] rfl
  have hFc := va_free (wc := [(hm, .inr (7, [.int 0, .int 0, .int 0, .int 0, .int 0, .ref rx, .ref ry, .int 0, m8, m9, m10, m11, m12, m13, m14, .int 0, m16, m17, m18, m19, m20, m21, m22, m23, m24, .int 0, m26, m27, m28, m29, .int 0, .int 0, m32, .int 0, m34, m35, .int 0, m37, m38, .int 0, m40, m41]))]) hD hS hA [0] rfl
  refine va_calli (va_runV (As := [.int (xs (Int32.toNatClampNeg (0 + 1))), .int (xs (Int32.toNatClampNeg (0 + 2)))]) (rest := []) ⟨hx, hb, hml, hown, hts⟩ (c_M_parent l dC dI hm H.size 0 (.ref rx) (.ref ry) m8 m9 m10 m11 m12 m13 m14 m16 m17 m18 m19 m20 m21 m22 m23 m24 m26 m27 m28 m29 m32 m34 m35 m37 m38 m40 m41 ((xs (Int32.toNatClampNeg (0 + 1)))) ((xs (Int32.toNatClampNeg (0 + 2))))) (cwV 2 hts (tw_gV tk_467 tk_468 tk_469 tk_249 tk_470) rfl rfl rfl (by decide +kernel) ⟨Nat.le_of_ble_eq_true rfl, Nat.le_of_ble_eq_true rfl⟩) (tw_v4 (va_recv (q0 := 0) hK hP rfl rfl) hPc hKc hDc) rfl rfl hl.1 rfl (lv_room (Nat.le_of_ble_eq_true rfl)) d_law_1153 ⟨by show 62 ≤ 600002; decide, by show 60367 ≤ 7302232; decide⟩) hS (fun q _ h => hFc q h) hFc (fun rm w9 t H1 locs ht hvm hm9 hB hz1 hk1 hS => ?_)
  obtain ⟨tm, fs⟩ := w9
  obtain ⟨hP1, hK1, hD1⟩ := hB
  rw [ht] at hP1
  obtain ⟨hP, hD⟩ := va_join (wr := [(rx, .inl (cX, 32, .inl (fun _ => 0))), (ry, .inl (cY, 32, .inl (fun _ => 0))), (ho, .inl (cL, 1, .inr (.inl (u))))]) (w1 := [(hm, .inr (7, .int tm :: fs))]) hP hD [0] [1, 2, 3] rfl rfl (by decide) (by decide) hk1 hFc hP1 hD1
  generalize H1 = H at hP hS ⊢
  have hP : va_P (dC, dI) classes [(rx, .inl (cX, 32, .inl (fun _ => 0))), (ry, .inl (cY, 32, .inl (fun _ => 0))), (ho, .inl (cL, 1, .inr (.inl (u)))), (hm, .inr (7, .int tm :: fs))] H := hP
  have hD : va_D A [(rx, .inl (cX, 32, .inl (fun _ => 0))), (ry, .inl (cY, 32, .inl (fun _ => 0))), (ho, .inl (cL, 1, .inr (.inl (u)))), (hm, .inr (7, .int tm :: fs))] := hD
  have hm9 : tm = 1 := hm9
  have hm9 := hm9.symm
  subst hm9
  refine lv_istore (lv' := [(6, .int rm), (5, .int 1), (4, .int 0), (3, .ref ho), (2, .ref hm), (1, .ref h), (0, .ref b)]) hx hb d_law_1156 hl (by decide) rfl (fun ls hl => ?_)
  refine lv_aload_n hx hb d_law_1158 rfl (lv_at hl 4 rfl) ?_
  refine vp_callSi (W.runV (As := []) (rest := []) ⟨hx, hb, hml, hown, hts⟩ (c_M_thrown l dC dI hm 1 fs) (cwV 0 hts (tw_gV tk_383 tk_384 tk_385 tk_249 tk_386) rfl rfl rfl (by decide +kernel) ⟨Nat.le_of_ble_eq_true rfl, Nat.le_of_ble_eq_true rfl⟩) (tw_v2 (va_recv (q0 := 3) hK hP rfl rfl) (hP.sub (ws' := [(hm, .inr (7, .int 1 :: fs))]) [3] rfl) (hK.sub (tys' := []) [] rfl)) rfl rfl hl.1 rfl (lv_room (Nat.le_of_ble_eq_true rfl)) d_law_1159 ⟨by show 62 ≤ 600002; decide, by show 60367 ≤ 7302232; decide⟩) (fun r1 e2 => ?_)
  have e2 := e2.symm
  subst e2
  refine lv_iload hx hb d_law_1162 (lv_at hl 1 rfl) ?_
  refine lv_icmp_eq (tgt := 1169) hx hb d_law_1164 (by decide) (fun h3 => ?_) (fun h3 => absurd (by decide) h3)
  refine lv_iload hx hb d_law_1169 (lv_at hl 1 rfl) ?_
  refine lv_if_ne (tgt := 1186) hx hb d_law_1171 (by decide) (fun h4 => ?_) (fun h4 => absurd h4 (by decide))
  refine lv_goto (tgt := 1637) hx hb d_law_1186 (by decide) ?_
  refine lv_iinc (k := 2) (v := 7) (lv' := [(4, .int 7), (6, .int rm), (5, .int 1), (3, .ref ho), (2, .ref hm), (1, .ref h), (0, .ref b)]) hx hb d_law_1637 hl rfl (by decide) (by decide) rfl (fun ls hl => ?_)
  refine lv_goto (tgt := 23) hx hb d_law_1640 (by decide) ?_
  refine lv_iload hx hb d_law_23 (lv_at hl 0 rfl) ?_
  refine lv_aload_n hx hb d_law_25 rfl (lv_at hl 6 rfl) ?_
  refine va_slen hx hb hX hbl hbA hS d_law_26 ?_
  refine lv_bipush (v := 7) hx hb d_law_27 (by decide) ?_
  refine lv_isub hx hb d_law_29 ?_
  refine lv_icmp_gt (tgt := 1643) hx hb d_law_30 (by decide) (fun h5 => ?_) (fun h5 => absurd (by decide) h5)
  refine lv_iconst (v := 1) hx hb d_law_1643 (by decide) ?_
  refine va_forget (fun q hq => hA2 _ (hS.2.2 q hq)) ?_
  refine W.widen (k := 600002) (n := 7302232) (by decide) (by decide) ?_
  exact lw_ret hx hb hr hlocks d_law_1644
theorem tk_471 : (Jvm.Cond.codeWith ({ cls := "LandBookLaw", name := "child", desc := "(LLandBook;II[J)I" } : Jvm.MethodName) method_16_code (5 : Nat) (Option.some Jvm.ClassFile.FieldType.int) [((0 : Nat), (10 : Nat), (13 : Nat), (21 : Nat)), ((0 : Nat), (10 : Nat), (17 : Nat), (26 : Nat))]) ∈ tw_G := tw_in (List.mem_of_getElem? (i := 950) (by decide +kernel)) rfl
theorem tk_472 : (Jvm.Cond.methodLink "LandBookLaw" (140 : Nat) ({ cls := "LandBookLaw", name := "child", desc := "(LLandBook;II[J)I" } : Jvm.MethodName)) ∈ tw_G := tw_in (List.mem_of_getElem? (i := 948) (by decide +kernel)) rfl
theorem tk_473 : (Jvm.Cond.static ({ cls := "LandBookLaw", name := "child", desc := "(LLandBook;II[J)I" } : Jvm.MethodName)) ∈ tw_G := tw_in (List.mem_of_getElem? (i := 949) (by decide +kernel)) rfl
theorem tk_474 : (Jvm.Cond.methodLink "LandBookLaw" (142 : Nat) ({ cls := "LandBookModel", name := "child", desc := "(II)I" } : Jvm.MethodName)) ∈ tw_G := tw_in (List.mem_of_getElem? (i := 1432) (by decide +kernel)) rfl
theorem tk_475 : (Jvm.Cond.instanceMethod ({ cls := "LandBookModel", name := "child", desc := "(II)I" } : Jvm.MethodName)) ∈ tw_G := tw_in (List.mem_of_getElem? (i := 1433) (by decide +kernel)) rfl
theorem tk_476 : (Jvm.Cond.selects "LandBookModel" ({ cls := "LandBookModel", name := "child", desc := "(II)I" } : Jvm.MethodName) ({ cls := "LandBookModel", name := "child", desc := "(II)I" } : Jvm.MethodName)) ∈ tw_G := tw_in (List.mem_of_getElem? (i := 1434) (by decide +kernel)) rfl
theorem tk_477 : (Jvm.Cond.code ({ cls := "LandBookModel", name := "child", desc := "(II)I" } : Jvm.MethodName) prog_13_method_69_code (5 : Nat) (Option.some Jvm.ClassFile.FieldType.int)) ∈ tw_G := tw_in (List.mem_of_getElem? (i := 1435) (by decide +kernel)) rfl
set_option maxHeartbeats 4000000 in
set_option maxRecDepth 100000 in
theorem lw_case_13 {p : Program} {e : Env} {s : State} {m : MethodId} {below : List Frame} {meth : Method} {c : Code} (l : Launch) (hfl : l.flags = pinnedFlags ++ [noTraceFlag]) {b : Nat} {xs : Nat → Int32} (hx : p.tables.exec = Jvm.exec) (hb : c.code = code) (hr : meth.sig.returnType = ret) (hml : c.maxLocals = 7) (hown : s.vm.findClass "LandBookLaw" = some m.cls) (hts : ∀ w ∈ tw_G, w.before #[Value.ref b] s = true) (hX : va_X b 7 xs s s.heap) (hbl : b < s.heap.size) (hlocks : meth.locks = false) (hE : lb_E s) {A : Nat → Prop} (hA : ∀ q : Nat, s.heap.size ≤ q → A q) (hA2 : ∀ q : Nat, A q → s.heap.size ≤ q) {dC : Nat → ClassId} {dI : Nat → Nat → Nat} {h ro ra ch rg dl ll el lg hm rx ry ho : Nat} {cI cX cY cL : ClassId} {v2 v3 ca w3 w4 x0 y0 x1 y1 x2 y2 z0 m8 m9 m10 m11 m12 m13 m14 m16 m17 m18 m19 m20 m21 m22 m23 m24 m26 m27 m28 m29 m32 m34 m35 m37 m38 m40 m41 : Value} {H : Heap} {locs : List Loc} {ls : Array Slot} (hK : va_K (dC, dI) classes [(cI, .int), (cX, .int), (cY, .int), (cL, .long)] s) (hP : va_P (dC, dI) classes [(h, .inr (0, [.ref ro, .ref ch, v2, v3, .ref rg, .ref lg, .int 0, .int 0])), (ro, .inr (1, [.ref ra, .int 0])), (ra, .inl (cI, 32, .inl (fun _ => 0))), (ch, .inr (1, [ca, .int 0])), (rg, .inr (4, [.ref dl, .ref ll, .ref el, w3, w4])), (dl, .inr (6, [x0, .int 0, y0])), (ll, .inr (6, [x1, .int 0, y1])), (el, .inr (6, [x2, .int 0, y2])), (lg, .inr (5, [z0, .int 0, .int 0])), (hm, .inr (7, [.int 0, .int 0, .int 0, .int 0, .int 0, .ref rx, .ref ry, .int 0, m8, m9, m10, m11, m12, m13, m14, .int 0, m16, m17, m18, m19, m20, m21, m22, m23, m24, .int 0, m26, m27, m28, m29, .int 0, .int 0, m32, .int 0, m34, m35, .int 0, m37, m38, .int 0, m40, m41])), (rx, .inl (cX, 32, .inl (fun _ => 0))), (ry, .inl (cY, 32, .inl (fun _ => 0))), (ho, .inl (cL, 1, .inr (.inl (fun _ => 0))))] H) (hD : va_D A [(h, .inr (0, [.ref ro, .ref ch, v2, v3, .ref rg, .ref lg, .int 0, .int 0])), (ro, .inr (1, [.ref ra, .int 0])), (ra, .inl (cI, 32, .inl (fun _ => 0))), (ch, .inr (1, [ca, .int 0])), (rg, .inr (4, [.ref dl, .ref ll, .ref el, w3, w4])), (dl, .inr (6, [x0, .int 0, y0])), (ll, .inr (6, [x1, .int 0, y1])), (el, .inr (6, [x2, .int 0, y2])), (lg, .inr (5, [z0, .int 0, .int 0])), (hm, .inr (7, [.int 0, .int 0, .int 0, .int 0, .int 0, .ref rx, .ref ry, .int 0, m8, m9, m10, m11, m12, m13, m14, .int 0, m16, m17, m18, m19, m20, m21, m22, m23, m24, .int 0, m26, m27, m28, m29, .int 0, .int 0, m32, .int 0, m34, m35, .int 0, m37, m38, .int 0, m40, m41])), (rx, .inl (cX, 32, .inl (fun _ => 0))), (ry, .inl (cY, 32, .inl (fun _ => 0))), (ho, .inl (cL, 1, .inr (.inl (fun _ => 0))))]) (hS : va_S A s.heap H locs) (hl : lv_has ls 7 [(4, .int 0), (3, .ref ho), (2, .ref hm), (1, .ref h), (0, .ref b)]) : W p l e room_1 s m #[Value.ref b] below meth c H locs 61 60361 (lw_Z below #[Value.ref b] s) (F0 m 1189 ls []) := by
  have hbA : ¬ A b := fun h => absurd (hA2 b h) (Nat.not_le.mpr hbl)
  have hN : ∀ (a : Nat) (cell : Cell), s.heap[a]? = some cell → cell.vm.isStatics = true → ¬ A a := fun a cell h1 _ h3 => absurd (hA2 a h3) (Nat.not_le.mpr (Array.getElem?_eq_some_iff.mp h1).1)
  refine lv_aload_n hx hb d_law_1189 rfl (lv_at hl 3 rfl) ?_
  refine lv_aload_n hx hb d_law_1190 rfl (lv_at hl 4 rfl) ?_
  refine lv_iload hx hb d_law_1191 (lv_at hl 0 rfl) ?_
  refine lv_iconst (v := 1) hx hb d_law_1193 (by decide) ?_
  refine lv_iadd hx hb d_law_1194 ?_
  refine va_sld hx hb hX hbl hbA hS (i := (0 + 1)) (by unfold vp_in; decide) d_law_1195 ?_
  refine lv_aload_n hx hb d_law_1196 rfl (lv_at hl 4 rfl) ?_
  refine lv_iload hx hb d_law_1197 (lv_at hl 0 rfl) ?_
  refine lv_iconst (v := 2) hx hb d_law_1199 (by decide) ?_
  refine lv_iadd hx hb d_law_1200 ?_
  refine va_sld hx hb hX hbl hbA hS (i := (0 + 2)) (by unfold vp_in; decide) d_law_1201 ?_
  refine lv_aload_n hx hb d_law_1202 rfl (lv_at hl 1 rfl) ?_
  have hPc := hP.sub (ws' := [(h, .inr (0, [.ref ro, .ref ch, v2, v3, .ref rg, .ref lg, .int 0, .int 0])), (ro, .inr (1, [.ref ra, .int 0])), (ra, .inl (cI, 32, .inl (fun _ => 0))), (ch, .inr (1, [ca, .int 0])), (rg, .inr (4, [.ref dl, .ref ll, .ref el, w3, w4])), (dl, .inr (6, [x0, .int 0, y0])), (ll, .inr (6, [x1, .int 0, y1])), (el, .inr (6, [x2, .int 0, y2])), (lg, .inr (5, [z0, .int 0, .int 0])), (ho, .inl (cL, 1, .inr (.inl (fun _ => 0))))]) [0, 1, 2, 3, 4, 5, 6, 7, 8, 12] rfl
  have hDc := hD.sub (ws' := [(h, .inr (0, [.ref ro, .ref ch, v2, v3, .ref rg, .ref lg, .int 0, .int 0])), (ro, .inr (1, [.ref ra, .int 0])), (ra, .inl (cI, 32, .inl (fun _ => 0))), (ch, .inr (1, [ca, .int 0])), (rg, .inr (4, [.ref dl, .ref ll, .ref el, w3, w4])), (dl, .inr (6, [x0, .int 0, y0])), (ll, .inr (6, [x1, .int 0, y1])), (el, .inr (6, [x2, .int 0, y2])), (lg, .inr (5, [z0, .int 0, .int 0])), (ho, .inl (cL, 1, .inr (.inl (fun _ => 0))))]) [0, 1, 2, 3, 4, 5, 6, 7, 8, 12] (by decide) rfl
  have hKc := hK.sub (tys' := [(cI, .int), (cL, .long)]) [0, 3] rfl
  have hFc := va_free (wc := [(h, .inr (0, [.ref ro, .ref ch, v2, v3, .ref rg, .ref lg, .int 0, .int 0])), (ro, .inr (1, [.ref ra, .int 0])), (ra, .inl (cI, 32, .inl (fun _ => 0))), (ch, .inr (1, [ca, .int 0])), (rg, .inr (4, [.ref dl, .ref ll, .ref el, w3, w4])), (dl, .inr (6, [x0, .int 0, y0])), (ll, .inr (6, [x1, .int 0, y1])), (el, .inr (6, [x2, .int 0, y2])), (lg, .inr (5, [z0, .int 0, .int 0])), (ho, .inl (cL, 1, .inr (.inl (fun _ => 0))))]) hD hS hA [0, 1, 2, 3, 4, 5, 6, 7, 8, 12] rfl
  refine va_calli (tw_runSW (n := 4) (As := [.ref h, .int (xs (Int32.toNatClampNeg (0 + 1))), .int (xs (Int32.toNatClampNeg (0 + 2))), .ref ho]) (rest := []) ⟨hx, hb, hml, hown, hts⟩ (c_law_child l hfl dC dI h H.size ro ra ch rg dl ll el lg ho cI cL (fun _ => 0) (fun _ => 0) v2 v3 ca w3 w4 x0 y0 x1 y1 x2 y2 z0 ((xs (Int32.toNatClampNeg (0 + 1)))) ((xs (Int32.toNatClampNeg (0 + 2))))) (tw_gc tk_471) rfl rfl rfl ⟨Nat.le_of_ble_eq_true rfl, Nat.le_of_ble_eq_true rfl⟩ (hts _ tk_376) (hts _ tk_472) (hts _ tk_473) (by decide +kernel) (tw_s4E hPc hKc hDc hE (tw_kst hN hS)) rfl rfl hl.1 rfl (lv_room (Nat.le_of_ble_eq_true rfl)) d_law_1203 ⟨by show 62 ≤ 600002; decide, by show 60367 ≤ 7302232; decide⟩) hS (fun q _ h => hFc q h) hFc (fun rk u t H1 locs ht hvm hk9 hB hz1 hk1 hS => ?_)
  obtain ⟨hP1, hK1, hD1⟩ := hB
  rw [ht] at hP1
  obtain ⟨hP, hD⟩ := va_join (wr := [(hm, .inr (7, [.int 0, .int 0, .int 0, .int 0, .int 0, .ref rx, .ref ry, .int 0, m8, m9, m10, m11, m12, m13, m14, .int 0, m16, m17, m18, m19, m20, m21, m22, m23, m24, .int 0, m26, m27, m28, m29, .int 0, .int 0, m32, .int 0, m34, m35, .int 0, m37, m38, .int 0, m40, m41])), (rx, .inl (cX, 32, .inl (fun _ => 0))), (ry, .inl (cY, 32, .inl (fun _ => 0)))]) (w1 := [(ho, .inl (cL, 1, .inr (.inl (u))))]) hP hD [0, 1, 2, 3, 4, 5, 6, 7, 8, 12] [9, 10, 11] rfl rfl (by decide) (by decide) hk1 hFc hP1 hD1
  generalize H1 = H at hP hS ⊢
  have hP : va_P (dC, dI) classes [(hm, .inr (7, [.int 0, .int 0, .int 0, .int 0, .int 0, .ref rx, .ref ry, .int 0, m8, m9, m10, m11, m12, m13, m14, .int 0, m16, m17, m18, m19, m20, m21, m22, m23, m24, .int 0, m26, m27, m28, m29, .int 0, .int 0, m32, .int 0, m34, m35, .int 0, m37, m38, .int 0, m40, m41])), (rx, .inl (cX, 32, .inl (fun _ => 0))), (ry, .inl (cY, 32, .inl (fun _ => 0))), (ho, .inl (cL, 1, .inr (.inl (u))))] H := hP
  have hD : va_D A [(hm, .inr (7, [.int 0, .int 0, .int 0, .int 0, .int 0, .ref rx, .ref ry, .int 0, m8, m9, m10, m11, m12, m13, m14, .int 0, m16, m17, m18, m19, m20, m21, m22, m23, m24, .int 0, m26, m27, m28, m29, .int 0, .int 0, m32, .int 0, m34, m35, .int 0, m37, m38, .int 0, m40, m41])), (rx, .inl (cX, 32, .inl (fun _ => 0))), (ry, .inl (cY, 32, .inl (fun _ => 0))), (ho, .inl (cL, 1, .inr (.inl (u))))] := hD
  have hk9 : rk = 1 := hk9
  have hk9 := hk9.symm
  subst hk9
  refine lv_istore (lv' := [(5, .int 1), (4, .int 0), (3, .ref ho), (2, .ref hm), (1, .ref h), (0, .ref b)]) hx hb d_law_1206 hl (by decide) rfl (fun ls hl => ?_)
  refine lv_aload_n hx hb d_law_1208 rfl (lv_at hl 3 rfl) ?_
  refine lv_aload_n hx hb d_law_1209 rfl (lv_at hl 5 rfl) ?_
  refine lv_iload hx hb d_law_1210 (lv_at hl 1 rfl) ?_
  refine lv_iconst (v := 1) hx hb d_law_1212 (by decide) ?_
  refine lv_iadd hx hb d_law_1213 ?_
  refine va_sld hx hb hX hbl hbA hS (i := (0 + 1)) (by unfold vp_in; decide) d_law_1214 ?_
  refine lv_aload_n hx hb d_law_1215 rfl (lv_at hl 5 rfl) ?_
  refine lv_iload hx hb d_law_1216 (lv_at hl 1 rfl) ?_
  refine lv_iconst (v := 2) hx hb d_law_1218 (by decide) ?_
  refine lv_iadd hx hb d_law_1219 ?_
  refine va_sld hx hb hX hbl hbA hS (i := (0 + 2)) (by unfold vp_in; decide) d_law_1220 ?_
  have hPc := hP.sub (ws' := [(hm, .inr (7, [.int 0, .int 0, .int 0, .int 0, .int 0, .ref rx, .ref ry, .int 0, m8, m9, m10, m11, m12, m13, m14, .int 0, m16, m17, m18, m19, m20, m21, m22, m23, m24, .int 0, m26, m27, m28, m29, .int 0, .int 0, m32, .int 0, m34, m35, .int 0, m37, m38, .int 0, m40, m41]))]) [0] rfl
  have hDc := hD.sub (ws' := [(hm, .inr (7, [.int 0, .int 0, .int 0, .int 0, .int 0, .ref rx, .ref ry, .int 0, m8, m9, m10, m11, m12, m13, m14, .int 0, m16, m17, m18, m19, m20, m21, m22, m23, m24, .int 0, m26, m27, m28, m29, .int 0, .int 0, m32, .int 0, m34, m35, .int 0, m37, m38, .int 0, m40, m41]))]) [0] (by decide) rfl
  have hKc := hK.sub (tys' := []) [] rfl
  have hFc := va_free (wc := [(hm, .inr (7, [.int 0, .int 0, .int 0, .int 0, .int 0, .ref rx, .ref ry, .int 0, m8, m9, m10, m11, m12, m13, m14, .int 0, m16, m17, m18, m19, m20, m21, m22, m23, m24, .int 0, m26, m27, m28, m29, .int 0, .int 0, m32, .int 0, m34, m35, .int 0, m37, m38, .int 0, m40, m41]))]) hD hS hA [0] rfl
  refine va_calli (va_runV (As := [.int (xs (Int32.toNatClampNeg (0 + 1))), .int (xs (Int32.toNatClampNeg (0 + 2)))]) (rest := []) ⟨hx, hb, hml, hown, hts⟩ (c_M_child l dC dI hm H.size 0 (.ref rx) (.ref ry) m8 m9 m10 m11 m12 m13 m14 m16 m17 m18 m19 m20 m21 m22 m23 m24 m26 m27 m28 m29 m32 m34 m35 m37 m38 m40 m41 ((xs (Int32.toNatClampNeg (0 + 1)))) ((xs (Int32.toNatClampNeg (0 + 2))))) (cwV 2 hts (tw_gV tk_474 tk_475 tk_476 tk_249 tk_477) rfl rfl rfl (by decide +kernel) ⟨Nat.le_of_ble_eq_true rfl, Nat.le_of_ble_eq_true rfl⟩) (tw_v4 (va_recv (q0 := 0) hK hP rfl rfl) hPc hKc hDc) rfl rfl hl.1 rfl (lv_room (Nat.le_of_ble_eq_true rfl)) d_law_1221 ⟨by show 62 ≤ 600002; decide, by show 60367 ≤ 7302232; decide⟩) hS (fun q _ h => hFc q h) hFc (fun rm w9 t H1 locs ht hvm hm9 hB hz1 hk1 hS => ?_)
  obtain ⟨tm, fs⟩ := w9
  obtain ⟨hP1, hK1, hD1⟩ := hB
  rw [ht] at hP1
  obtain ⟨hP, hD⟩ := va_join (wr := [(rx, .inl (cX, 32, .inl (fun _ => 0))), (ry, .inl (cY, 32, .inl (fun _ => 0))), (ho, .inl (cL, 1, .inr (.inl (u))))]) (w1 := [(hm, .inr (7, .int tm :: fs))]) hP hD [0] [1, 2, 3] rfl rfl (by decide) (by decide) hk1 hFc hP1 hD1
  generalize H1 = H at hP hS ⊢
  have hP : va_P (dC, dI) classes [(rx, .inl (cX, 32, .inl (fun _ => 0))), (ry, .inl (cY, 32, .inl (fun _ => 0))), (ho, .inl (cL, 1, .inr (.inl (u)))), (hm, .inr (7, .int tm :: fs))] H := hP
  have hD : va_D A [(rx, .inl (cX, 32, .inl (fun _ => 0))), (ry, .inl (cY, 32, .inl (fun _ => 0))), (ho, .inl (cL, 1, .inr (.inl (u)))), (hm, .inr (7, .int tm :: fs))] := hD
  have hm9 : tm = 1 := hm9
  have hm9 := hm9.symm
  subst hm9
  refine lv_istore (lv' := [(6, .int rm), (5, .int 1), (4, .int 0), (3, .ref ho), (2, .ref hm), (1, .ref h), (0, .ref b)]) hx hb d_law_1224 hl (by decide) rfl (fun ls hl => ?_)
  refine lv_aload_n hx hb d_law_1226 rfl (lv_at hl 4 rfl) ?_
  refine vp_callSi (W.runV (As := []) (rest := []) ⟨hx, hb, hml, hown, hts⟩ (c_M_thrown l dC dI hm 1 fs) (cwV 0 hts (tw_gV tk_383 tk_384 tk_385 tk_249 tk_386) rfl rfl rfl (by decide +kernel) ⟨Nat.le_of_ble_eq_true rfl, Nat.le_of_ble_eq_true rfl⟩) (tw_v2 (va_recv (q0 := 3) hK hP rfl rfl) (hP.sub (ws' := [(hm, .inr (7, .int 1 :: fs))]) [3] rfl) (hK.sub (tys' := []) [] rfl)) rfl rfl hl.1 rfl (lv_room (Nat.le_of_ble_eq_true rfl)) d_law_1227 ⟨by show 62 ≤ 600002; decide, by show 60367 ≤ 7302232; decide⟩) (fun r1 e2 => ?_)
  have e2 := e2.symm
  subst e2
  refine lv_iload hx hb d_law_1230 (lv_at hl 1 rfl) ?_
  refine lv_icmp_eq (tgt := 1237) hx hb d_law_1232 (by decide) (fun h3 => ?_) (fun h3 => absurd (by decide) h3)
  refine lv_iload hx hb d_law_1237 (lv_at hl 1 rfl) ?_
  refine lv_if_ne (tgt := 1254) hx hb d_law_1239 (by decide) (fun h4 => ?_) (fun h4 => absurd h4 (by decide))
  refine lv_goto (tgt := 1637) hx hb d_law_1254 (by decide) ?_
  refine lv_iinc (k := 2) (v := 7) (lv' := [(4, .int 7), (6, .int rm), (5, .int 1), (3, .ref ho), (2, .ref hm), (1, .ref h), (0, .ref b)]) hx hb d_law_1637 hl rfl (by decide) (by decide) rfl (fun ls hl => ?_)
  refine lv_goto (tgt := 23) hx hb d_law_1640 (by decide) ?_
  refine lv_iload hx hb d_law_23 (lv_at hl 0 rfl) ?_
  refine lv_aload_n hx hb d_law_25 rfl (lv_at hl 6 rfl) ?_
  refine va_slen hx hb hX hbl hbA hS d_law_26 ?_
  refine lv_bipush (v := 7) hx hb d_law_27 (by decide) ?_
  refine lv_isub hx hb d_law_29 ?_
  refine lv_icmp_gt (tgt := 1643) hx hb d_law_30 (by decide) (fun h5 => ?_) (fun h5 => absurd (by decide) h5)
  refine lv_iconst (v := 1) hx hb d_law_1643 (by decide) ?_
  refine va_forget (fun q hq => hA2 _ (hS.2.2 q hq)) ?_
  refine W.widen (k := 600002) (n := 7302232) (by decide) (by decide) ?_
  exact lw_ret hx hb hr hlocks d_law_1644
