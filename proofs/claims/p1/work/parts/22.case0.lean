theorem tk_366 : (Jvm.Cond.classLink "LandBookLaw" (8 : Nat) "LandBook") ∈ tw_G := tw_in (List.mem_of_getElem? (i := 89) (by decide +kernel)) rfl
theorem tk_367 : (Jvm.Cond.code ({ cls := "LandBook", name := "<init>", desc := "()V" } : Jvm.MethodName) prog_1_method_1_code (1 : Nat) (Option.none : Option Jvm.ClassFile.FieldType)) ∈ tw_G := tw_in (List.mem_of_getElem? (i := 93) (by decide +kernel)) rfl
theorem tk_368 : (Jvm.Cond.methodLink "LandBookLaw" (87 : Nat) ({ cls := "LandBook", name := "<init>", desc := "()V" } : Jvm.MethodName)) ∈ tw_G := tw_in (List.mem_of_getElem? (i := 91) (by decide +kernel)) rfl
theorem tk_369 : (Jvm.Cond.instanceMethod ({ cls := "LandBook", name := "<init>", desc := "()V" } : Jvm.MethodName)) ∈ tw_G := tw_in (List.mem_of_getElem? (i := 92) (by decide +kernel)) rfl
theorem tk_370 : (Jvm.Cond.classLink "LandBookLaw" (88 : Nat) "LandBookModel") ∈ tw_G := tw_in (List.mem_of_getElem? (i := 1040) (by decide +kernel)) rfl
theorem tk_371 : (Jvm.Cond.code ({ cls := "LandBookModel", name := "<init>", desc := "()V" } : Jvm.MethodName) prog_13_method_1_code (1 : Nat) (Option.none : Option Jvm.ClassFile.FieldType)) ∈ tw_G := tw_in (List.mem_of_getElem? (i := 1044) (by decide +kernel)) rfl
theorem tk_372 : (Jvm.Cond.methodLink "LandBookLaw" (90 : Nat) ({ cls := "LandBookModel", name := "<init>", desc := "()V" } : Jvm.MethodName)) ∈ tw_G := tw_in (List.mem_of_getElem? (i := 1042) (by decide +kernel)) rfl
theorem tk_373 : (Jvm.Cond.instanceMethod ({ cls := "LandBookModel", name := "<init>", desc := "()V" } : Jvm.MethodName)) ∈ tw_G := tw_in (List.mem_of_getElem? (i := 1043) (by decide +kernel)) rfl
theorem tk_374 : (Jvm.Cond.arrayClass Jvm.ClassFile.FieldType.long) ∈ tw_G := tw_in (List.mem_of_getElem? (i := 1464) (by decide +kernel)) rfl
theorem tk_375 : (Jvm.Cond.codeWith ({ cls := "LandBookLaw", name := "point", desc := "(LLandBook;II[J)I" } : Jvm.MethodName) method_3_code (5 : Nat) (Option.some Jvm.ClassFile.FieldType.int) [((0 : Nat), (10 : Nat), (13 : Nat), (13 : Nat)), ((0 : Nat), (10 : Nat), (17 : Nat), (15 : Nat))]) ∈ tw_G := tw_in (List.mem_of_getElem? (i := 253) (by decide +kernel)) rfl
theorem tk_376 : (Jvm.Cond.initialized "LandBookLaw") ∈ tw_G := tw_in (List.mem_of_getElem? (i := 59) (by decide +kernel)) rfl
theorem tk_377 : (Jvm.Cond.methodLink "LandBookLaw" (91 : Nat) ({ cls := "LandBookLaw", name := "point", desc := "(LLandBook;II[J)I" } : Jvm.MethodName)) ∈ tw_G := tw_in (List.mem_of_getElem? (i := 251) (by decide +kernel)) rfl
theorem tk_378 : (Jvm.Cond.static ({ cls := "LandBookLaw", name := "point", desc := "(LLandBook;II[J)I" } : Jvm.MethodName)) ∈ tw_G := tw_in (List.mem_of_getElem? (i := 252) (by decide +kernel)) rfl
theorem tk_379 : (Jvm.Cond.methodLink "LandBookLaw" (96 : Nat) ({ cls := "LandBookModel", name := "point", desc := "(II)I" } : Jvm.MethodName)) ∈ tw_G := tw_in (List.mem_of_getElem? (i := 1177) (by decide +kernel)) rfl
theorem tk_380 : (Jvm.Cond.instanceMethod ({ cls := "LandBookModel", name := "point", desc := "(II)I" } : Jvm.MethodName)) ∈ tw_G := tw_in (List.mem_of_getElem? (i := 1178) (by decide +kernel)) rfl
theorem tk_381 : (Jvm.Cond.selects "LandBookModel" ({ cls := "LandBookModel", name := "point", desc := "(II)I" } : Jvm.MethodName) ({ cls := "LandBookModel", name := "point", desc := "(II)I" } : Jvm.MethodName)) ∈ tw_G := tw_in (List.mem_of_getElem? (i := 1179) (by decide +kernel)) rfl
theorem tk_382 : (Jvm.Cond.code ({ cls := "LandBookModel", name := "point", desc := "(II)I" } : Jvm.MethodName) prog_13_method_7_code (3 : Nat) (Option.some Jvm.ClassFile.FieldType.int)) ∈ tw_G := tw_in (List.mem_of_getElem? (i := 1180) (by decide +kernel)) rfl
theorem tk_383 : (Jvm.Cond.methodLink "LandBookLaw" (97 : Nat) ({ cls := "LandBookModel", name := "thrown", desc := "()I" } : Jvm.MethodName)) ∈ tw_G := tw_in (List.mem_of_getElem? (i := 1173) (by decide +kernel)) rfl
theorem tk_384 : (Jvm.Cond.instanceMethod ({ cls := "LandBookModel", name := "thrown", desc := "()I" } : Jvm.MethodName)) ∈ tw_G := tw_in (List.mem_of_getElem? (i := 1174) (by decide +kernel)) rfl
theorem tk_385 : (Jvm.Cond.selects "LandBookModel" ({ cls := "LandBookModel", name := "thrown", desc := "()I" } : Jvm.MethodName) ({ cls := "LandBookModel", name := "thrown", desc := "()I" } : Jvm.MethodName)) ∈ tw_G := tw_in (List.mem_of_getElem? (i := 1175) (by decide +kernel)) rfl
theorem tk_386 : (Jvm.Cond.code ({ cls := "LandBookModel", name := "thrown", desc := "()I" } : Jvm.MethodName) prog_13_method_2_code (1 : Nat) (Option.some Jvm.ClassFile.FieldType.int)) ∈ tw_G := tw_in (List.mem_of_getElem? (i := 1176) (by decide +kernel)) rfl
set_option maxHeartbeats 4000000 in
set_option maxRecDepth 100000 in
theorem lw_case_0 {p : Program} {e : Env} {s : State} {m : MethodId} {below : List Frame} {meth : Method} {c : Code} (l : Launch) (hfl : l.flags = pinnedFlags ++ [noTraceFlag]) {b : Nat} {xs : Nat → Int32} (hx : p.tables.exec = Jvm.exec) (hb : c.code = code) (hr : meth.sig.returnType = ret) (hml : c.maxLocals = 7) (hown : s.vm.findClass "LandBookLaw" = some m.cls) (hts : ∀ w ∈ tw_G, w.before #[Value.ref b] s = true) (hX : va_X b 7 xs s s.heap) (hbl : b < s.heap.size) (hlocks : meth.locks = false) (hE : lb_E s) {A : Nat → Prop} (hA : ∀ q : Nat, s.heap.size ≤ q → A q) (hA2 : ∀ q : Nat, A q → s.heap.size ≤ q) {dC : Nat → ClassId} {dI : Nat → Nat → Nat} {h ro ra ch rg dl ll el lg hm rx ry ho : Nat} {cI cX cY cL : ClassId} {v2 v3 ca w3 w4 x0 y0 x1 y1 x2 y2 z0 m8 m9 m10 m11 m12 m13 m14 m16 m17 m18 m19 m20 m21 m22 m23 m24 m26 m27 m28 m29 m32 m34 m35 m37 m38 m40 m41 : Value} {H : Heap} {locs : List Loc} {ls : Array Slot} (hK : va_K (dC, dI) classes [(cI, .int), (cX, .int), (cY, .int), (cL, .long)] s) (hP : va_P (dC, dI) classes [(h, .inr (0, [.ref ro, .ref ch, v2, v3, .ref rg, .ref lg, .int 0, .int 0])), (ro, .inr (1, [.ref ra, .int 0])), (ra, .inl (cI, 32, .inl (fun _ => 0))), (ch, .inr (1, [ca, .int 0])), (rg, .inr (4, [.ref dl, .ref ll, .ref el, w3, w4])), (dl, .inr (6, [x0, .int 0, y0])), (ll, .inr (6, [x1, .int 0, y1])), (el, .inr (6, [x2, .int 0, y2])), (lg, .inr (5, [z0, .int 0, .int 0])), (hm, .inr (7, [.int 0, .int 0, .int 0, .int 0, .int 0, .ref rx, .ref ry, .int 0, m8, m9, m10, m11, m12, m13, m14, .int 0, m16, m17, m18, m19, m20, m21, m22, m23, m24, .int 0, m26, m27, m28, m29, .int 0, .int 0, m32, .int 0, m34, m35, .int 0, m37, m38, .int 0, m40, m41])), (rx, .inl (cX, 32, .inl (fun _ => 0))), (ry, .inl (cY, 32, .inl (fun _ => 0))), (ho, .inl (cL, 1, .inr (.inl (fun _ => 0))))] H) (hD : va_D A [(h, .inr (0, [.ref ro, .ref ch, v2, v3, .ref rg, .ref lg, .int 0, .int 0])), (ro, .inr (1, [.ref ra, .int 0])), (ra, .inl (cI, 32, .inl (fun _ => 0))), (ch, .inr (1, [ca, .int 0])), (rg, .inr (4, [.ref dl, .ref ll, .ref el, w3, w4])), (dl, .inr (6, [x0, .int 0, y0])), (ll, .inr (6, [x1, .int 0, y1])), (el, .inr (6, [x2, .int 0, y2])), (lg, .inr (5, [z0, .int 0, .int 0])), (hm, .inr (7, [.int 0, .int 0, .int 0, .int 0, .int 0, .ref rx, .ref ry, .int 0, m8, m9, m10, m11, m12, m13, m14, .int 0, m16, m17, m18, m19, m20, m21, m22, m23, m24, .int 0, m26, m27, m28, m29, .int 0, .int 0, m32, .int 0, m34, m35, .int 0, m37, m38, .int 0, m40, m41])), (rx, .inl (cX, 32, .inl (fun _ => 0))), (ry, .inl (cY, 32, .inl (fun _ => 0))), (ho, .inl (cL, 1, .inr (.inl (fun _ => 0))))]) (hS : va_S A s.heap H locs) (hl : lv_has ls 7 [(4, .int 0), (3, .ref ho), (2, .ref hm), (1, .ref h), (0, .ref b)]) : W p l e room_1 s m #[Value.ref b] below meth c H locs 61 60361 (lw_Z below #[Value.ref b] s) (F0 m 140 ls []) := by
  have hbA : ¬ A b := fun h => absurd (hA2 b h) (Nat.not_le.mpr hbl)
  have hN : ∀ (a : Nat) (cell : Cell), s.heap[a]? = some cell → cell.vm.isStatics = true → ¬ A a := fun a cell h1 _ h3 => absurd (hA2 a h3) (Nat.not_le.mpr (Array.getElem?_eq_some_iff.mp h1).1)
  refine lv_aload_n hx hb d_law_140 rfl (lv_at hl 3 rfl) ?_
  refine lv_aload_n hx hb d_law_141 rfl (lv_at hl 4 rfl) ?_
  refine lv_iload hx hb d_law_142 (lv_at hl 0 rfl) ?_
  refine lv_iconst (v := 1) hx hb d_law_144 (by decide) ?_
  refine lv_iadd hx hb d_law_145 ?_
  refine va_sld hx hb hX hbl hbA hS (i := (0 + 1)) (by unfold vp_in; decide) d_law_146 ?_
  refine lv_aload_n hx hb d_law_147 rfl (lv_at hl 4 rfl) ?_
  refine lv_iload hx hb d_law_148 (lv_at hl 0 rfl) ?_
  refine lv_iconst (v := 2) hx hb d_law_150 (by decide) ?_
  refine lv_iadd hx hb d_law_151 ?_
  refine va_sld hx hb hX hbl hbA hS (i := (0 + 2)) (by unfold vp_in; decide) d_law_152 ?_
  refine lv_aload_n hx hb d_law_153 rfl (lv_at hl 1 rfl) ?_
  have hPc := hP.sub (ws' := [(h, .inr (0, [.ref ro, .ref ch, v2, v3, .ref rg, .ref lg, .int 0, .int 0])), (ro, .inr (1, [.ref ra, .int 0])), (ra, .inl (cI, 32, .inl (fun _ => 0))), (ch, .inr (1, [ca, .int 0])), (rg, .inr (4, [.ref dl, .ref ll, .ref el, w3, w4])), (dl, .inr (6, [x0, .int 0, y0])), (ll, .inr (6, [x1, .int 0, y1])), (el, .inr (6, [x2, .int 0, y2])), (lg, .inr (5, [z0, .int 0, .int 0])), (ho, .inl (cL, 1, .inr (.inl (fun _ => 0))))]) [0, 1, 2, 3, 4, 5, 6, 7, 8, 12] rfl
  have hDc := hD.sub (ws' := [(h, .inr (0, [.ref ro, .ref ch, v2, v3, .ref rg, .ref lg, .int 0, .int 0])), (ro, .inr (1, [.ref ra, .int 0])), (ra, .inl (cI, 32, .inl (fun _ => 0))), (ch, .inr (1, [ca, .int 0])), (rg, .inr (4, [.ref dl, .ref ll, .ref el, w3, w4])), (dl, .inr (6, [x0, .int 0, y0])), (ll, .inr (6, [x1, .int 0, y1])), (el, .inr (6, [x2, .int 0, y2])), (lg, .inr (5, [z0, .int 0, .int 0])), (ho, .inl (cL, 1, .inr (.inl (fun _ => 0))))]) [0, 1, 2, 3, 4, 5, 6, 7, 8, 12] (by decide) rfl
  have hKc := hK.sub (tys' := [(cI, .int), (cL, .long)]) [0, 3] rfl
  have hFc := va_free (wc := [(h, .inr (0, [.ref ro, .ref ch, v2, v3, .ref rg, .ref lg, .int 0, .int 0])), (ro, .inr (1, [.ref ra, .int 0])), (ra, .inl (cI, 32, .inl (fun _ => 0))), (ch, .inr (1, [ca, .int 0])), (rg, .inr (4, [.ref dl, .ref ll, .ref el, w3, w4])), (dl, .inr (6, [x0, .int 0, y0])), (ll, .inr (6, [x1, .int 0, y1])), (el, .inr (6, [x2, .int 0, y2])), (lg, .inr (5, [z0, .int 0, .int 0])), (ho, .inl (cL, 1, .inr (.inl (fun _ => 0))))]) hD hS hA [0, 1, 2, 3, 4, 5, 6, 7, 8, 12] rfl
  refine va_calli (tw_runSW (n := 4) (As := [.ref h, .int (xs (Int32.toNatClampNeg (0 + 1))), .int (xs (Int32.toNatClampNeg (0 + 2))), .ref ho]) (rest := []) ⟨hx, hb, hml, hown, hts⟩ (c_law_point l hfl dC dI h H.size ro ra ch rg dl ll el lg ho cI cL (fun _ => 0) (fun _ => 0) v2 v3 ca w3 w4 x0 y0 x1 y1 x2 y2 z0 ((xs (Int32.toNatClampNeg (0 + 1)))) ((xs (Int32.toNatClampNeg (0 + 2))))) (tw_gc tk_375) rfl rfl rfl ⟨Nat.le_of_ble_eq_true rfl, Nat.le_of_ble_eq_true rfl⟩ (hts _ tk_376) (hts _ tk_377) (hts _ tk_378) (by decide +kernel) (tw_s4E hPc hKc hDc hE (tw_kst hN hS)) rfl rfl hl.1 rfl (lv_room (Nat.le_of_ble_eq_true rfl)) d_law_154 ⟨by show 62 ≤ 600002; decide, by show 60367 ≤ 7302232; decide⟩) hS (fun q _ h => hFc q h) hFc (fun rk u t H1 locs ht hvm hk9 hB hz1 hk1 hS => ?_)
  obtain ⟨hP1, hK1, hD1⟩ := hB
  rw [ht] at hP1
  obtain ⟨hP, hD⟩ := va_join (wr := [(hm, .inr (7, [.int 0, .int 0, .int 0, .int 0, .int 0, .ref rx, .ref ry, .int 0, m8, m9, m10, m11, m12, m13, m14, .int 0, m16, m17, m18, m19, m20, m21, m22, m23, m24, .int 0, m26, m27, m28, m29, .int 0, .int 0, m32, .int 0, m34, m35, .int 0, m37, m38, .int 0, m40, m41])), (rx, .inl (cX, 32, .inl (fun _ => 0))), (ry, .inl (cY, 32, .inl (fun _ => 0)))]) (w1 := [(ho, .inl (cL, 1, .inr (.inl (u))))]) hP hD [0, 1, 2, 3, 4, 5, 6, 7, 8, 12] [9, 10, 11] rfl rfl (by decide) (by decide) hk1 hFc hP1 hD1
  generalize H1 = H at hP hS ⊢
  have hP : va_P (dC, dI) classes [(hm, .inr (7, [.int 0, .int 0, .int 0, .int 0, .int 0, .ref rx, .ref ry, .int 0, m8, m9, m10, m11, m12, m13, m14, .int 0, m16, m17, m18, m19, m20, m21, m22, m23, m24, .int 0, m26, m27, m28, m29, .int 0, .int 0, m32, .int 0, m34, m35, .int 0, m37, m38, .int 0, m40, m41])), (rx, .inl (cX, 32, .inl (fun _ => 0))), (ry, .inl (cY, 32, .inl (fun _ => 0))), (ho, .inl (cL, 1, .inr (.inl (u))))] H := hP
  have hD : va_D A [(hm, .inr (7, [.int 0, .int 0, .int 0, .int 0, .int 0, .ref rx, .ref ry, .int 0, m8, m9, m10, m11, m12, m13, m14, .int 0, m16, m17, m18, m19, m20, m21, m22, m23, m24, .int 0, m26, m27, m28, m29, .int 0, .int 0, m32, .int 0, m34, m35, .int 0, m37, m38, .int 0, m40, m41])), (rx, .inl (cX, 32, .inl (fun _ => 0))), (ry, .inl (cY, 32, .inl (fun _ => 0))), (ho, .inl (cL, 1, .inr (.inl (u))))] := hD
  rcases hk9 with ⟨ok, rfl, hu⟩ | ⟨ok, rfl⟩
  · refine lv_istore (lv' := [(5, .int 0), (4, .int 0), (3, .ref ho), (2, .ref hm), (1, .ref h), (0, .ref b)]) hx hb d_law_157 hl (by decide) rfl (fun ls hl => ?_)
    refine lv_aload_n hx hb d_law_159 rfl (lv_at hl 3 rfl) ?_
    refine lv_aload_n hx hb d_law_160 rfl (lv_at hl 5 rfl) ?_
    refine lv_iload hx hb d_law_161 (lv_at hl 1 rfl) ?_
    refine lv_iconst (v := 1) hx hb d_law_163 (by decide) ?_
    refine lv_iadd hx hb d_law_164 ?_
    refine va_sld hx hb hX hbl hbA hS (i := (0 + 1)) (by unfold vp_in; decide) d_law_165 ?_
    refine lv_aload_n hx hb d_law_166 rfl (lv_at hl 5 rfl) ?_
    refine lv_iload hx hb d_law_167 (lv_at hl 1 rfl) ?_
    refine lv_iconst (v := 2) hx hb d_law_169 (by decide) ?_
    refine lv_iadd hx hb d_law_170 ?_
    refine va_sld hx hb hX hbl hbA hS (i := (0 + 2)) (by unfold vp_in; decide) d_law_171 ?_
    have hPc := hP.sub (ws' := [(hm, .inr (7, [.int 0, .int 0, .int 0, .int 0, .int 0, .ref rx, .ref ry, .int 0, m8, m9, m10, m11, m12, m13, m14, .int 0, m16, m17, m18, m19, m20, m21, m22, m23, m24, .int 0, m26, m27, m28, m29, .int 0, .int 0, m32, .int 0, m34, m35, .int 0, m37, m38, .int 0, m40, m41])), (rx, .inl (cX, 32, .inl (fun _ => 0))), (ry, .inl (cY, 32, .inl (fun _ => 0)))]) [0, 1, 2] rfl
    have hDc := hD.sub (ws' := [(hm, .inr (7, [.int 0, .int 0, .int 0, .int 0, .int 0, .ref rx, .ref ry, .int 0, m8, m9, m10, m11, m12, m13, m14, .int 0, m16, m17, m18, m19, m20, m21, m22, m23, m24, .int 0, m26, m27, m28, m29, .int 0, .int 0, m32, .int 0, m34, m35, .int 0, m37, m38, .int 0, m40, m41])), (rx, .inl (cX, 32, .inl (fun _ => 0))), (ry, .inl (cY, 32, .inl (fun _ => 0)))]) [0, 1, 2] (by decide) rfl
    have hKc := hK.sub (tys' := [(cX, .int), (cY, .int)]) [1, 2] rfl
    have hFc := va_free (wc := [(hm, .inr (7, [.int 0, .int 0, .int 0, .int 0, .int 0, .ref rx, .ref ry, .int 0, m8, m9, m10, m11, m12, m13, m14, .int 0, m16, m17, m18, m19, m20, m21, m22, m23, m24, .int 0, m26, m27, m28, m29, .int 0, .int 0, m32, .int 0, m34, m35, .int 0, m37, m38, .int 0, m40, m41])), (rx, .inl (cX, 32, .inl (fun _ => 0))), (ry, .inl (cY, 32, .inl (fun _ => 0)))]) hD hS hA [0, 1, 2] rfl
    refine va_calli (va_runV (As := [.int (xs (Int32.toNatClampNeg (0 + 1))), .int (xs (Int32.toNatClampNeg (0 + 2)))]) (rest := []) ⟨hx, hb, hml, hown, hts⟩ (c_M_point l dC dI hm H.size rx ry cX cY (fun _ => 0) (fun _ => 0) 0 m8 m9 m10 m11 m12 m13 m14 m16 m17 m18 m19 m20 m21 m22 m23 m24 m26 m27 m28 m29 m32 m34 m35 m37 m38 m40 m41 ((xs (Int32.toNatClampNeg (0 + 1)))) ((xs (Int32.toNatClampNeg (0 + 2))))) (cwV 2 hts (tw_gV tk_379 tk_380 tk_381 tk_249 tk_382) rfl rfl rfl (by decide +kernel) ⟨Nat.le_of_ble_eq_true rfl, Nat.le_of_ble_eq_true rfl⟩) (tw_v4 (va_recv (q0 := 0) hK hP rfl rfl) hPc hKc hDc) rfl rfl hl.1 rfl (lv_room (Nat.le_of_ble_eq_true rfl)) d_law_172 ⟨by show 62 ≤ 600002; decide, by show 60367 ≤ 7302232; decide⟩) hS (fun q _ h => hFc q h) hFc (fun rm w9 t H1 locs ht hvm hm9 hB hz1 hk1 hS => ?_)
    obtain ⟨tm, fs⟩ := w9
    obtain ⟨hP1, hK1, hD1⟩ := hB
    rw [ht] at hP1
    obtain ⟨hP, hD⟩ := va_join (wr := [(ho, .inl (cL, 1, .inr (.inl (u))))]) (w1 := [(hm, .inr (7, .int tm :: fs))]) hP hD [0, 1, 2] [3] rfl rfl (by decide) (by decide) hk1 hFc hP1 hD1
    generalize H1 = H at hP hS ⊢
    have hP : va_P (dC, dI) classes [(ho, .inl (cL, 1, .inr (.inl (u)))), (hm, .inr (7, .int tm :: fs))] H := hP
    have hD : va_D A [(ho, .inl (cL, 1, .inr (.inl (u)))), (hm, .inr (7, .int tm :: fs))] := hD
    rcases hm9 with ⟨-, rfl, hm2⟩ | ⟨nok, -⟩
    · have hm2 : tm = 0 := hm2
      have hm2 := hm2.symm
      subst hm2
      refine lv_istore (lv' := [(6, .int 1), (5, .int 0), (4, .int 0), (3, .ref ho), (2, .ref hm), (1, .ref h), (0, .ref b)]) hx hb d_law_175 hl (by decide) rfl (fun ls hl => ?_)
      refine lv_aload_n hx hb d_law_177 rfl (lv_at hl 4 rfl) ?_
      refine vp_callSi (W.runV (As := []) (rest := []) ⟨hx, hb, hml, hown, hts⟩ (c_M_thrown l dC dI hm 0 fs) (cwV 0 hts (tw_gV tk_383 tk_384 tk_385 tk_249 tk_386) rfl rfl rfl (by decide +kernel) ⟨Nat.le_of_ble_eq_true rfl, Nat.le_of_ble_eq_true rfl⟩) (tw_v2 (va_recv (q0 := 1) hK hP rfl rfl) (hP.sub (ws' := [(hm, .inr (7, .int 0 :: fs))]) [1] rfl) (hK.sub (tys' := []) [] rfl)) rfl rfl hl.1 rfl (lv_room (Nat.le_of_ble_eq_true rfl)) d_law_178 ⟨by show 62 ≤ 600002; decide, by show 60367 ≤ 7302232; decide⟩) (fun r1 e2 => ?_)
      have e2 := e2.symm
      subst e2
      refine lv_iload hx hb d_law_181 (lv_at hl 1 rfl) ?_
      refine lv_icmp_eq (tgt := 188) hx hb d_law_183 (by decide) (fun h3 => ?_) (fun h3 => absurd (by decide) h3)
      refine lv_iload hx hb d_law_188 (lv_at hl 1 rfl) ?_
      refine lv_if_ne (tgt := 205) hx hb d_law_190 (by decide) (fun h4 => absurd (by decide) h4) (fun h4 => ?_)
      refine lv_aload_n hx hb d_law_193 rfl (lv_at hl 3 rfl) ?_
      refine lv_iconst (v := 0) hx hb d_law_194 (by decide) ?_
      refine va_lald hx hb hK hP 0 3 rfl rfl (by unfold vp_in; decide) d_law_195 ?_
      refine lv_iload hx hb d_law_196 (lv_at hl 0 rfl) ?_
      refine lv_i2l (v := Int32.toInt64 (1)) hx hb d_law_198 rfl ?_
      refine W.lcmp hx hb d_law_199 ?_
      refine lv_if_eq (tgt := 205) hx hb d_law_200 (by decide) (fun h5 => ?_) (fun h5 => absurd (show lg_cmp (u 0) (Int32.toInt64 1) = 0 by rw [hu]; decide) h5)
      refine lv_goto (tgt := 1637) hx hb d_law_205 (by decide) ?_
      refine lv_iinc (k := 2) (v := 7) (lv' := [(4, .int 7), (6, .int 1), (5, .int 0), (3, .ref ho), (2, .ref hm), (1, .ref h), (0, .ref b)]) hx hb d_law_1637 hl rfl (by decide) (by decide) rfl (fun ls hl => ?_)
      refine lv_goto (tgt := 23) hx hb d_law_1640 (by decide) ?_
      refine lv_iload hx hb d_law_23 (lv_at hl 0 rfl) ?_
      refine lv_aload_n hx hb d_law_25 rfl (lv_at hl 6 rfl) ?_
      refine va_slen hx hb hX hbl hbA hS d_law_26 ?_
      refine lv_bipush (v := 7) hx hb d_law_27 (by decide) ?_
      refine lv_isub hx hb d_law_29 ?_
      refine lv_icmp_gt (tgt := 1643) hx hb d_law_30 (by decide) (fun h6 => ?_) (fun h6 => absurd (by decide) h6)
      refine lv_iconst (v := 1) hx hb d_law_1643 (by decide) ?_
      refine va_forget (fun q hq => hA2 _ (hS.2.2 q hq)) ?_
      refine W.widen (k := 600002) (n := 7302232) (by decide) (by decide) ?_
      exact lw_ret hx hb hr hlocks d_law_1644
    · exact absurd (⟨ok.1, ok.2.1, ok.2.2.1, Int32.not_lt.mpr ok.2.2.2⟩) nok
  · refine lv_istore (lv' := [(5, .int 1), (4, .int 0), (3, .ref ho), (2, .ref hm), (1, .ref h), (0, .ref b)]) hx hb d_law_157 hl (by decide) rfl (fun ls hl => ?_)
    refine lv_aload_n hx hb d_law_159 rfl (lv_at hl 3 rfl) ?_
    refine lv_aload_n hx hb d_law_160 rfl (lv_at hl 5 rfl) ?_
    refine lv_iload hx hb d_law_161 (lv_at hl 1 rfl) ?_
    refine lv_iconst (v := 1) hx hb d_law_163 (by decide) ?_
    refine lv_iadd hx hb d_law_164 ?_
    refine va_sld hx hb hX hbl hbA hS (i := (0 + 1)) (by unfold vp_in; decide) d_law_165 ?_
    refine lv_aload_n hx hb d_law_166 rfl (lv_at hl 5 rfl) ?_
    refine lv_iload hx hb d_law_167 (lv_at hl 1 rfl) ?_
    refine lv_iconst (v := 2) hx hb d_law_169 (by decide) ?_
    refine lv_iadd hx hb d_law_170 ?_
    refine va_sld hx hb hX hbl hbA hS (i := (0 + 2)) (by unfold vp_in; decide) d_law_171 ?_
    have hPc := hP.sub (ws' := [(hm, .inr (7, [.int 0, .int 0, .int 0, .int 0, .int 0, .ref rx, .ref ry, .int 0, m8, m9, m10, m11, m12, m13, m14, .int 0, m16, m17, m18, m19, m20, m21, m22, m23, m24, .int 0, m26, m27, m28, m29, .int 0, .int 0, m32, .int 0, m34, m35, .int 0, m37, m38, .int 0, m40, m41])), (rx, .inl (cX, 32, .inl (fun _ => 0))), (ry, .inl (cY, 32, .inl (fun _ => 0)))]) [0, 1, 2] rfl
    have hDc := hD.sub (ws' := [(hm, .inr (7, [.int 0, .int 0, .int 0, .int 0, .int 0, .ref rx, .ref ry, .int 0, m8, m9, m10, m11, m12, m13, m14, .int 0, m16, m17, m18, m19, m20, m21, m22, m23, m24, .int 0, m26, m27, m28, m29, .int 0, .int 0, m32, .int 0, m34, m35, .int 0, m37, m38, .int 0, m40, m41])), (rx, .inl (cX, 32, .inl (fun _ => 0))), (ry, .inl (cY, 32, .inl (fun _ => 0)))]) [0, 1, 2] (by decide) rfl
    have hKc := hK.sub (tys' := [(cX, .int), (cY, .int)]) [1, 2] rfl
    have hFc := va_free (wc := [(hm, .inr (7, [.int 0, .int 0, .int 0, .int 0, .int 0, .ref rx, .ref ry, .int 0, m8, m9, m10, m11, m12, m13, m14, .int 0, m16, m17, m18, m19, m20, m21, m22, m23, m24, .int 0, m26, m27, m28, m29, .int 0, .int 0, m32, .int 0, m34, m35, .int 0, m37, m38, .int 0, m40, m41])), (rx, .inl (cX, 32, .inl (fun _ => 0))), (ry, .inl (cY, 32, .inl (fun _ => 0)))]) hD hS hA [0, 1, 2] rfl
    refine va_calli (va_runV (As := [.int (xs (Int32.toNatClampNeg (0 + 1))), .int (xs (Int32.toNatClampNeg (0 + 2)))]) (rest := []) ⟨hx, hb, hml, hown, hts⟩ (c_M_point l dC dI hm H.size rx ry cX cY (fun _ => 0) (fun _ => 0) 0 m8 m9 m10 m11 m12 m13 m14 m16 m17 m18 m19 m20 m21 m22 m23 m24 m26 m27 m28 m29 m32 m34 m35 m37 m38 m40 m41 ((xs (Int32.toNatClampNeg (0 + 1)))) ((xs (Int32.toNatClampNeg (0 + 2))))) (cwV 2 hts (tw_gV tk_379 tk_380 tk_381 tk_249 tk_382) rfl rfl rfl (by decide +kernel) ⟨Nat.le_of_ble_eq_true rfl, Nat.le_of_ble_eq_true rfl⟩) (tw_v4 (va_recv (q0 := 0) hK hP rfl rfl) hPc hKc hDc) rfl rfl hl.1 rfl (lv_room (Nat.le_of_ble_eq_true rfl)) d_law_172 ⟨by show 62 ≤ 600002; decide, by show 60367 ≤ 7302232; decide⟩) hS (fun q _ h => hFc q h) hFc (fun rm w9 t H1 locs ht hvm hm9 hB hz1 hk1 hS => ?_)
    obtain ⟨tm, fs⟩ := w9
    obtain ⟨hP1, hK1, hD1⟩ := hB
    rw [ht] at hP1
    obtain ⟨hP, hD⟩ := va_join (wr := [(ho, .inl (cL, 1, .inr (.inl (u))))]) (w1 := [(hm, .inr (7, .int tm :: fs))]) hP hD [0, 1, 2] [3] rfl rfl (by decide) (by decide) hk1 hFc hP1 hD1
    generalize H1 = H at hP hS ⊢
    have hP : va_P (dC, dI) classes [(ho, .inl (cL, 1, .inr (.inl (u)))), (hm, .inr (7, .int tm :: fs))] H := hP
    have hD : va_D A [(ho, .inl (cL, 1, .inr (.inl (u)))), (hm, .inr (7, .int tm :: fs))] := hD
    rcases hm9 with ⟨ok2, -⟩ | ⟨-, hm2⟩
    · exact absurd (⟨ok2.1, ok2.2.1, ok2.2.2.1, Int32.not_lt.mp ok2.2.2.2⟩) ok
    · have hm2 : tm = 1 := hm2
      have hm2 := hm2.symm
      subst hm2
      refine lv_istore (lv' := [(6, .int rm), (5, .int 1), (4, .int 0), (3, .ref ho), (2, .ref hm), (1, .ref h), (0, .ref b)]) hx hb d_law_175 hl (by decide) rfl (fun ls hl => ?_)
      refine lv_aload_n hx hb d_law_177 rfl (lv_at hl 4 rfl) ?_
      refine vp_callSi (W.runV (As := []) (rest := []) ⟨hx, hb, hml, hown, hts⟩ (c_M_thrown l dC dI hm 1 fs) (cwV 0 hts (tw_gV tk_383 tk_384 tk_385 tk_249 tk_386) rfl rfl rfl (by decide +kernel) ⟨Nat.le_of_ble_eq_true rfl, Nat.le_of_ble_eq_true rfl⟩) (tw_v2 (va_recv (q0 := 1) hK hP rfl rfl) (hP.sub (ws' := [(hm, .inr (7, .int 1 :: fs))]) [1] rfl) (hK.sub (tys' := []) [] rfl)) rfl rfl hl.1 rfl (lv_room (Nat.le_of_ble_eq_true rfl)) d_law_178 ⟨by show 62 ≤ 600002; decide, by show 60367 ≤ 7302232; decide⟩) (fun r7 e8 => ?_)
      have e8 := e8.symm
      subst e8
      refine lv_iload hx hb d_law_181 (lv_at hl 1 rfl) ?_
      refine lv_icmp_eq (tgt := 188) hx hb d_law_183 (by decide) (fun h9 => ?_) (fun h9 => absurd (by decide) h9)
      refine lv_iload hx hb d_law_188 (lv_at hl 1 rfl) ?_
      refine lv_if_ne (tgt := 205) hx hb d_law_190 (by decide) (fun h10 => ?_) (fun h10 => absurd h10 (by decide))
      refine lv_goto (tgt := 1637) hx hb d_law_205 (by decide) ?_
      refine lv_iinc (k := 2) (v := 7) (lv' := [(4, .int 7), (6, .int rm), (5, .int 1), (3, .ref ho), (2, .ref hm), (1, .ref h), (0, .ref b)]) hx hb d_law_1637 hl rfl (by decide) (by decide) rfl (fun ls hl => ?_)
      refine lv_goto (tgt := 23) hx hb d_law_1640 (by decide) ?_
      refine lv_iload hx hb d_law_23 (lv_at hl 0 rfl) ?_
      refine lv_aload_n hx hb d_law_25 rfl (lv_at hl 6 rfl) ?_
      refine va_slen hx hb hX hbl hbA hS d_law_26 ?_
      refine lv_bipush (v := 7) hx hb d_law_27 (by decide) ?_
      refine lv_isub hx hb d_law_29 ?_
      refine lv_icmp_gt (tgt := 1643) hx hb d_law_30 (by decide) (fun h11 => ?_) (fun h11 => absurd (by decide) h11)
      refine lv_iconst (v := 1) hx hb d_law_1643 (by decide) ?_
      refine va_forget (fun q hq => hA2 _ (hS.2.2 q hq)) ?_
      refine W.widen (k := 600002) (n := 7302232) (by decide) (by decide) ?_
      exact lw_ret hx hb hr hlocks d_law_1644
theorem tk_387 : (Jvm.Cond.codeWith ({ cls := "LandBookLaw", name := "open", desc := "(LLandBook;[J)I" } : Jvm.MethodName) method_4_code (3 : Nat) (Option.some Jvm.ClassFile.FieldType.int) [((0 : Nat), (15 : Nat), (18 : Nat), (21 : Nat))]) ∈ tw_G := tw_in (List.mem_of_getElem? (i := 358) (by decide +kernel)) rfl
theorem tk_388 : (Jvm.Cond.methodLink "LandBookLaw" (100 : Nat) ({ cls := "LandBookLaw", name := "open", desc := "(LLandBook;[J)I" } : Jvm.MethodName)) ∈ tw_G := tw_in (List.mem_of_getElem? (i := 356) (by decide +kernel)) rfl
theorem tk_389 : (Jvm.Cond.static ({ cls := "LandBookLaw", name := "open", desc := "(LLandBook;[J)I" } : Jvm.MethodName)) ∈ tw_G := tw_in (List.mem_of_getElem? (i := 357) (by decide +kernel)) rfl
theorem tk_390 : (Jvm.Cond.methodLink "LandBookLaw" (103 : Nat) ({ cls := "LandBookModel", name := "open", desc := "()Z" } : Jvm.MethodName)) ∈ tw_G := tw_in (List.mem_of_getElem? (i := 1184) (by decide +kernel)) rfl
theorem tk_391 : (Jvm.Cond.instanceMethod ({ cls := "LandBookModel", name := "open", desc := "()Z" } : Jvm.MethodName)) ∈ tw_G := tw_in (List.mem_of_getElem? (i := 1185) (by decide +kernel)) rfl
theorem tk_392 : (Jvm.Cond.selects "LandBookModel" ({ cls := "LandBookModel", name := "open", desc := "()Z" } : Jvm.MethodName) ({ cls := "LandBookModel", name := "open", desc := "()Z" } : Jvm.MethodName)) ∈ tw_G := tw_in (List.mem_of_getElem? (i := 1186) (by decide +kernel)) rfl
theorem tk_393 : (Jvm.Cond.code ({ cls := "LandBookModel", name := "open", desc := "()Z" } : Jvm.MethodName) prog_13_method_24_code (3 : Nat) (Option.some Jvm.ClassFile.FieldType.boolean)) ∈ tw_G := tw_in (List.mem_of_getElem? (i := 1187) (by decide +kernel)) rfl
set_option maxHeartbeats 4000000 in
set_option maxRecDepth 100000 in
theorem lw_case_1 {p : Program} {e : Env} {s : State} {m : MethodId} {below : List Frame} {meth : Method} {c : Code} (l : Launch) (hfl : l.flags = pinnedFlags ++ [noTraceFlag]) {b : Nat} {xs : Nat → Int32} (hx : p.tables.exec = Jvm.exec) (hb : c.code = code) (hr : meth.sig.returnType = ret) (hml : c.maxLocals = 7) (hown : s.vm.findClass "LandBookLaw" = some m.cls) (hts : ∀ w ∈ tw_G, w.before #[Value.ref b] s = true) (hX : va_X b 7 xs s s.heap) (hbl : b < s.heap.size) (hlocks : meth.locks = false) (hE : lb_E s) {A : Nat → Prop} (hA : ∀ q : Nat, s.heap.size ≤ q → A q) (hA2 : ∀ q : Nat, A q → s.heap.size ≤ q) {dC : Nat → ClassId} {dI : Nat → Nat → Nat} {h ro ra ch rg dl ll el lg hm rx ry ho : Nat} {cI cX cY cL : ClassId} {v2 v3 ca w3 w4 x0 y0 x1 y1 x2 y2 z0 m8 m9 m10 m11 m12 m13 m14 m16 m17 m18 m19 m20 m21 m22 m23 m24 m26 m27 m28 m29 m32 m34 m35 m37 m38 m40 m41 : Value} {H : Heap} {locs : List Loc} {ls : Array Slot} (hK : va_K (dC, dI) classes [(cI, .int), (cX, .int), (cY, .int), (cL, .long)] s) (hP : va_P (dC, dI) classes [(h, .inr (0, [.ref ro, .ref ch, v2, v3, .ref rg, .ref lg, .int 0, .int 0])), (ro, .inr (1, [.ref ra, .int 0])), (ra, .inl (cI, 32, .inl (fun _ => 0))), (ch, .inr (1, [ca, .int 0])), (rg, .inr (4, [.ref dl, .ref ll, .ref el, w3, w4])), (dl, .inr (6, [x0, .int 0, y0])), (ll, .inr (6, [x1, .int 0, y1])), (el, .inr (6, [x2, .int 0, y2])), (lg, .inr (5, [z0, .int 0, .int 0])), (hm, .inr (7, [.int 0, .int 0, .int 0, .int 0, .int 0, .ref rx, .ref ry, .int 0, m8, m9, m10, m11, m12, m13, m14, .int 0, m16, m17, m18, m19, m20, m21, m22, m23, m24, .int 0, m26, m27, m28, m29, .int 0, .int 0, m32, .int 0, m34, m35, .int 0, m37, m38, .int 0, m40, m41])), (rx, .inl (cX, 32, .inl (fun _ => 0))), (ry, .inl (cY, 32, .inl (fun _ => 0))), (ho, .inl (cL, 1, .inr (.inl (fun _ => 0))))] H) (hD : va_D A [(h, .inr (0, [.ref ro, .ref ch, v2, v3, .ref rg, .ref lg, .int 0, .int 0])), (ro, .inr (1, [.ref ra, .int 0])), (ra, .inl (cI, 32, .inl (fun _ => 0))), (ch, .inr (1, [ca, .int 0])), (rg, .inr (4, [.ref dl, .ref ll, .ref el, w3, w4])), (dl, .inr (6, [x0, .int 0, y0])), (ll, .inr (6, [x1, .int 0, y1])), (el, .inr (6, [x2, .int 0, y2])), (lg, .inr (5, [z0, .int 0, .int 0])), (hm, .inr (7, [.int 0, .int 0, .int 0, .int 0, .int 0, .ref rx, .ref ry, .int 0, m8, m9, m10, m11, m12, m13, m14, .int 0, m16, m17, m18, m19, m20, m21, m22, m23, m24, .int 0, m26, m27, m28, m29, .int 0, .int 0, m32, .int 0, m34, m35, .int 0, m37, m38, .int 0, m40, m41])), (rx, .inl (cX, 32, .inl (fun _ => 0))), (ry, .inl (cY, 32, .inl (fun _ => 0))), (ho, .inl (cL, 1, .inr (.inl (fun _ => 0))))]) (hS : va_S A s.heap H locs) (hl : lv_has ls 7 [(4, .int 0), (3, .ref ho), (2, .ref hm), (1, .ref h), (0, .ref b)]) : W p l e room_1 s m #[Value.ref b] below meth c H locs 61 60361 (lw_Z below #[Value.ref b] s) (F0 m 208 ls []) := by
  have hbA : ¬ A b := fun h => absurd (hA2 b h) (Nat.not_le.mpr hbl)
  have hN : ∀ (a : Nat) (cell : Cell), s.heap[a]? = some cell → cell.vm.isStatics = true → ¬ A a := fun a cell h1 _ h3 => absurd (hA2 a h3) (Nat.not_le.mpr (Array.getElem?_eq_some_iff.mp h1).1)
  refine lv_aload_n hx hb d_law_208 rfl (lv_at hl 3 rfl) ?_
  refine lv_aload_n hx hb d_law_209 rfl (lv_at hl 1 rfl) ?_
  have hPc := hP.sub (ws' := [(h, .inr (0, [.ref ro, .ref ch, v2, v3, .ref rg, .ref lg, .int 0, .int 0])), (ro, .inr (1, [.ref ra, .int 0])), (ra, .inl (cI, 32, .inl (fun _ => 0))), (ch, .inr (1, [ca, .int 0])), (rg, .inr (4, [.ref dl, .ref ll, .ref el, w3, w4])), (dl, .inr (6, [x0, .int 0, y0])), (ll, .inr (6, [x1, .int 0, y1])), (el, .inr (6, [x2, .int 0, y2])), (lg, .inr (5, [z0, .int 0, .int 0])), (ho, .inl (cL, 1, .inr (.inl (fun _ => 0))))]) [0, 1, 2, 3, 4, 5, 6, 7, 8, 12] rfl
  have hDc := hD.sub (ws' := [(h, .inr (0, [.ref ro, .ref ch, v2, v3, .ref rg, .ref lg, .int 0, .int 0])), (ro, .inr (1, [.ref ra, .int 0])), (ra, .inl (cI, 32, .inl (fun _ => 0))), (ch, .inr (1, [ca, .int 0])), (rg, .inr (4, [.ref dl, .ref ll, .ref el, w3, w4])), (dl, .inr (6, [x0, .int 0, y0])), (ll, .inr (6, [x1, .int 0, y1])), (el, .inr (6, [x2, .int 0, y2])), (lg, .inr (5, [z0, .int 0, .int 0])), (ho, .inl (cL, 1, .inr (.inl (fun _ => 0))))]) [0, 1, 2, 3, 4, 5, 6, 7, 8, 12] (by decide) rfl
  have hKc := hK.sub (tys' := [(cI, .int), (cL, .long)]) [0, 3] rfl
  have hFc := va_free (wc := [(h, .inr (0, [.ref ro, .ref ch, v2, v3, .ref rg, .ref lg, .int 0, .int 0])), (ro, .inr (1, [.ref ra, .int 0])), (ra, .inl (cI, 32, .inl (fun _ => 0))), (ch, .inr (1, [ca, .int 0])), (rg, .inr (4, [.ref dl, .ref ll, .ref el, w3, w4])), (dl, .inr (6, [x0, .int 0, y0])), (ll, .inr (6, [x1, .int 0, y1])), (el, .inr (6, [x2, .int 0, y2])), (lg, .inr (5, [z0, .int 0, .int 0])), (ho, .inl (cL, 1, .inr (.inl (fun _ => 0))))]) hD hS hA [0, 1, 2, 3, 4, 5, 6, 7, 8, 12] rfl
  refine va_calli (tw_runSW (n := 2) (As := [.ref h, .ref ho]) (rest := []) ⟨hx, hb, hml, hown, hts⟩ (c_law_open l hfl dC dI h H.size ro ra ch rg dl ll el lg ho cI cL (fun _ => 0) (fun _ => 0) v2 v3 ca w3 w4 x0 y0 x1 y1 x2 y2 z0) (tw_gc tk_387) rfl rfl rfl ⟨Nat.le_of_ble_eq_true rfl, Nat.le_of_ble_eq_true rfl⟩ (hts _ tk_376) (hts _ tk_388) (hts _ tk_389) (by decide +kernel) (tw_s4E hPc hKc hDc hE (tw_kst hN hS)) rfl rfl hl.1 rfl (lv_room (Nat.le_of_ble_eq_true rfl)) d_law_210 ⟨by show 62 ≤ 600002; decide, by show 60367 ≤ 7302232; decide⟩) hS (fun q _ h => hFc q h) hFc (fun rk u t H1 locs ht hvm hk9 hB hz1 hk1 hS => ?_)
  obtain ⟨hP1, hK1, hD1⟩ := hB
  rw [ht] at hP1
  obtain ⟨hP, hD⟩ := va_join (wr := [(hm, .inr (7, [.int 0, .int 0, .int 0, .int 0, .int 0, .ref rx, .ref ry, .int 0, m8, m9, m10, m11, m12, m13, m14, .int 0, m16, m17, m18, m19, m20, m21, m22, m23, m24, .int 0, m26, m27, m28, m29, .int 0, .int 0, m32, .int 0, m34, m35, .int 0, m37, m38, .int 0, m40, m41])), (rx, .inl (cX, 32, .inl (fun _ => 0))), (ry, .inl (cY, 32, .inl (fun _ => 0)))]) (w1 := [(ho, .inl (cL, 1, .inr (.inl (u))))]) hP hD [0, 1, 2, 3, 4, 5, 6, 7, 8, 12] [9, 10, 11] rfl rfl (by decide) (by decide) hk1 hFc hP1 hD1
  generalize H1 = H at hP hS ⊢
  have hP : va_P (dC, dI) classes [(hm, .inr (7, [.int 0, .int 0, .int 0, .int 0, .int 0, .ref rx, .ref ry, .int 0, m8, m9, m10, m11, m12, m13, m14, .int 0, m16, m17, m18, m19, m20, m21, m22, m23, m24, .int 0, m26, m27, m28, m29, .int 0, .int 0, m32, .int 0, m34, m35, .int 0, m37, m38, .int 0, m40, m41])), (rx, .inl (cX, 32, .inl (fun _ => 0))), (ry, .inl (cY, 32, .inl (fun _ => 0))), (ho, .inl (cL, 1, .inr (.inl (u))))] H := hP
  have hD : va_D A [(hm, .inr (7, [.int 0, .int 0, .int 0, .int 0, .int 0, .ref rx, .ref ry, .int 0, m8, m9, m10, m11, m12, m13, m14, .int 0, m16, m17, m18, m19, m20, m21, m22, m23, m24, .int 0, m26, m27, m28, m29, .int 0, .int 0, m32, .int 0, m34, m35, .int 0, m37, m38, .int 0, m40, m41])), (rx, .inl (cX, 32, .inl (fun _ => 0))), (ry, .inl (cY, 32, .inl (fun _ => 0))), (ho, .inl (cL, 1, .inr (.inl (u))))] := hD
  obtain ⟨rfl, hu⟩ := hk9
  refine lv_istore (lv' := [(5, .int 0), (4, .int 0), (3, .ref ho), (2, .ref hm), (1, .ref h), (0, .ref b)]) hx hb d_law_213 hl (by decide) rfl (fun ls hl => ?_)
  refine lv_aload_n hx hb d_law_215 rfl (lv_at hl 3 rfl) ?_
  have hPc := hP.sub (ws' := [(hm, .inr (7, [.int 0, .int 0, .int 0, .int 0, .int 0, .ref rx, .ref ry, .int 0, m8, m9, m10, m11, m12, m13, m14, .int 0, m16, m17, m18, m19, m20, m21, m22, m23, m24, .int 0, m26, m27, m28, m29, .int 0, .int 0, m32, .int 0, m34, m35, .int 0, m37, m38, .int 0, m40, m41]))]) [0] rfl
  have hDc := hD.sub (ws' := [(hm, .inr (7, [.int 0, .int 0, .int 0, .int 0, .int 0, .ref rx, .ref ry, .int 0, m8, m9, m10, m11, m12, m13, m14, .int 0, m16, m17, m18, m19, m20, m21, m22, m23, m24, .int 0, m26, m27, m28, m29, .int 0, .int 0, m32, .int 0, m34, m35, .int 0, m37, m38, .int 0, m40, m41]))]) [0] (by decide) rfl
  have hKc := hK.sub (tys' := []) [] rfl
  have hFc := va_free (wc := [(hm, .inr (7, [.int 0, .int 0, .int 0, .int 0, .int 0, .ref rx, .ref ry, .int 0, m8, m9, m10, m11, m12, m13, m14, .int 0, m16, m17, m18, m19, m20, m21, m22, m23, m24, .int 0, m26, m27, m28, m29, .int 0, .int 0, m32, .int 0, m34, m35, .int 0, m37, m38, .int 0, m40, m41]))]) hD hS hA [0] rfl
  refine va_calli (va_runV (As := []) (rest := []) ⟨hx, hb, hml, hown, hts⟩ (c_M_open l dC dI hm H.size 0 (.ref rx) (.ref ry) m8 m9 m10 m11 m12 m13 m14 m16 m17 m18 m19 m20 m21 m22 m23 m24 m26 m27 m28 m29 m32 m34 m35 m37 m38 m40 m41) (cwV 0 hts (tw_gV tk_390 tk_391 tk_392 tk_249 tk_393) rfl rfl rfl (by decide +kernel) ⟨Nat.le_of_ble_eq_true rfl, Nat.le_of_ble_eq_true rfl⟩) (tw_v4 (va_recv (q0 := 0) hK hP rfl rfl) hPc hKc hDc) rfl rfl hl.1 rfl (lv_room (Nat.le_of_ble_eq_true rfl)) d_law_216 ⟨by show 62 ≤ 600002; decide, by show 60367 ≤ 7302232; decide⟩) hS (fun q _ h => hFc q h) hFc (fun rm w9 t H1 locs ht hvm hm9 hB hz1 hk1 hS => ?_)
  obtain ⟨tm, fs⟩ := w9
  obtain ⟨hP1, hK1, hD1⟩ := hB
  rw [ht] at hP1
  obtain ⟨hP, hD⟩ := va_join (wr := [(rx, .inl (cX, 32, .inl (fun _ => 0))), (ry, .inl (cY, 32, .inl (fun _ => 0))), (ho, .inl (cL, 1, .inr (.inl (u))))]) (w1 := [(hm, .inr (7, .int tm :: fs))]) hP hD [0] [1, 2, 3] rfl rfl (by decide) (by decide) hk1 hFc hP1 hD1
  generalize H1 = H at hP hS ⊢
  have hP : va_P (dC, dI) classes [(rx, .inl (cX, 32, .inl (fun _ => 0))), (ry, .inl (cY, 32, .inl (fun _ => 0))), (ho, .inl (cL, 1, .inr (.inl (u)))), (hm, .inr (7, .int tm :: fs))] H := hP
  have hD : va_D A [(rx, .inl (cX, 32, .inl (fun _ => 0))), (ry, .inl (cY, 32, .inl (fun _ => 0))), (ho, .inl (cL, 1, .inr (.inl (u)))), (hm, .inr (7, .int tm :: fs))] := hD
  obtain ⟨rfl, hm2⟩ := hm9
  have hm2 : tm = 0 := hm2
  have hm2 := hm2.symm
  subst hm2
  refine lv_istore (lv' := [(6, .int 0), (5, .int 0), (4, .int 0), (3, .ref ho), (2, .ref hm), (1, .ref h), (0, .ref b)]) hx hb d_law_219 hl (by decide) rfl (fun ls hl => ?_)
  refine lv_aload_n hx hb d_law_221 rfl (lv_at hl 4 rfl) ?_
  refine vp_callSi (W.runV (As := []) (rest := []) ⟨hx, hb, hml, hown, hts⟩ (c_M_thrown l dC dI hm 0 fs) (cwV 0 hts (tw_gV tk_383 tk_384 tk_385 tk_249 tk_386) rfl rfl rfl (by decide +kernel) ⟨Nat.le_of_ble_eq_true rfl, Nat.le_of_ble_eq_true rfl⟩) (tw_v2 (va_recv (q0 := 3) hK hP rfl rfl) (hP.sub (ws' := [(hm, .inr (7, .int 0 :: fs))]) [3] rfl) (hK.sub (tys' := []) [] rfl)) rfl rfl hl.1 rfl (lv_room (Nat.le_of_ble_eq_true rfl)) d_law_222 ⟨by show 62 ≤ 600002; decide, by show 60367 ≤ 7302232; decide⟩) (fun r1 e2 => ?_)
  have e2 := e2.symm
  subst e2
  refine lv_iload hx hb d_law_225 (lv_at hl 1 rfl) ?_
  refine lv_icmp_eq (tgt := 232) hx hb d_law_227 (by decide) (fun h3 => ?_) (fun h3 => absurd (by decide) h3)
  refine lv_iload hx hb d_law_232 (lv_at hl 1 rfl) ?_
  refine lv_if_ne (tgt := 256) hx hb d_law_234 (by decide) (fun h4 => absurd (by decide) h4) (fun h4 => ?_)
  refine lv_aload_n hx hb d_law_237 rfl (lv_at hl 3 rfl) ?_
  refine lv_iconst (v := 0) hx hb d_law_238 (by decide) ?_
  refine va_lald hx hb hK hP 2 3 rfl rfl (by unfold vp_in; decide) d_law_239 ?_
  refine lv_iload hx hb d_law_240 (lv_at hl 0 rfl) ?_
  refine lv_if_eq (tgt := 249) hx hb d_law_242 (by decide) (fun h5 => ?_) (fun h5 => absurd (by decide) h5)
  refine lv_lconst (v := 0) hx hb d_law_249 (by decide) ?_
  refine W.lcmp hx hb d_law_250 ?_
  refine lv_if_eq (tgt := 256) hx hb d_law_251 (by decide) (fun h6 => ?_) (fun h6 => absurd (show lg_cmp (u 0) 0 = 0 by rw [hu]; decide) h6)
  refine lv_goto (tgt := 1637) hx hb d_law_256 (by decide) ?_
  refine lv_iinc (k := 2) (v := 7) (lv' := [(4, .int 7), (6, .int 0), (5, .int 0), (3, .ref ho), (2, .ref hm), (1, .ref h), (0, .ref b)]) hx hb d_law_1637 hl rfl (by decide) (by decide) rfl (fun ls hl => ?_)
  refine lv_goto (tgt := 23) hx hb d_law_1640 (by decide) ?_
  refine lv_iload hx hb d_law_23 (lv_at hl 0 rfl) ?_
  refine lv_aload_n hx hb d_law_25 rfl (lv_at hl 6 rfl) ?_
  refine va_slen hx hb hX hbl hbA hS d_law_26 ?_
  refine lv_bipush (v := 7) hx hb d_law_27 (by decide) ?_
  refine lv_isub hx hb d_law_29 ?_
  refine lv_icmp_gt (tgt := 1643) hx hb d_law_30 (by decide) (fun h7 => ?_) (fun h7 => absurd (by decide) h7)
  refine lv_iconst (v := 1) hx hb d_law_1643 (by decide) ?_
  refine va_forget (fun q hq => hA2 _ (hS.2.2 q hq)) ?_
  refine W.widen (k := 600002) (n := 7302232) (by decide) (by decide) ?_
  exact lw_ret hx hb hr hlocks d_law_1644
theorem tk_394 : (Jvm.Cond.codeWith ({ cls := "LandBookLaw", name := "split", desc := "(LLandBook;II[J)I" } : Jvm.MethodName) method_5_code (5 : Nat) (Option.some Jvm.ClassFile.FieldType.int) [((0 : Nat), (10 : Nat), (13 : Nat), (21 : Nat)), ((0 : Nat), (10 : Nat), (17 : Nat), (26 : Nat)), ((0 : Nat), (10 : Nat), (21 : Nat), (13 : Nat))]) ∈ tw_G := tw_in (List.mem_of_getElem? (i := 538) (by decide +kernel)) rfl
theorem tk_395 : (Jvm.Cond.methodLink "LandBookLaw" (104 : Nat) ({ cls := "LandBookLaw", name := "split", desc := "(LLandBook;II[J)I" } : Jvm.MethodName)) ∈ tw_G := tw_in (List.mem_of_getElem? (i := 536) (by decide +kernel)) rfl
theorem tk_396 : (Jvm.Cond.static ({ cls := "LandBookLaw", name := "split", desc := "(LLandBook;II[J)I" } : Jvm.MethodName)) ∈ tw_G := tw_in (List.mem_of_getElem? (i := 537) (by decide +kernel)) rfl
theorem tk_397 : (Jvm.Cond.methodLink "LandBookLaw" (106 : Nat) ({ cls := "LandBookModel", name := "split", desc := "(II)I" } : Jvm.MethodName)) ∈ tw_G := tw_in (List.mem_of_getElem? (i := 1230) (by decide +kernel)) rfl
theorem tk_398 : (Jvm.Cond.instanceMethod ({ cls := "LandBookModel", name := "split", desc := "(II)I" } : Jvm.MethodName)) ∈ tw_G := tw_in (List.mem_of_getElem? (i := 1231) (by decide +kernel)) rfl
theorem tk_399 : (Jvm.Cond.selects "LandBookModel" ({ cls := "LandBookModel", name := "split", desc := "(II)I" } : Jvm.MethodName) ({ cls := "LandBookModel", name := "split", desc := "(II)I" } : Jvm.MethodName)) ∈ tw_G := tw_in (List.mem_of_getElem? (i := 1232) (by decide +kernel)) rfl
theorem tk_400 : (Jvm.Cond.code ({ cls := "LandBookModel", name := "split", desc := "(II)I" } : Jvm.MethodName) prog_13_method_48_code (4 : Nat) (Option.some Jvm.ClassFile.FieldType.int)) ∈ tw_G := tw_in (List.mem_of_getElem? (i := 1233) (by decide +kernel)) rfl
set_option maxHeartbeats 4000000 in
set_option maxRecDepth 100000 in
theorem lw_case_2 {p : Program} {e : Env} {s : State} {m : MethodId} {below : List Frame} {meth : Method} {c : Code} (l : Launch) (hfl : l.flags = pinnedFlags ++ [noTraceFlag]) {b : Nat} {xs : Nat → Int32} (hx : p.tables.exec = Jvm.exec) (hb : c.code = code) (hr : meth.sig.returnType = ret) (hml : c.maxLocals = 7) (hown : s.vm.findClass "LandBookLaw" = some m.cls) (hts : ∀ w ∈ tw_G, w.before #[Value.ref b] s = true) (hX : va_X b 7 xs s s.heap) (hbl : b < s.heap.size) (hlocks : meth.locks = false) (hE : lb_E s) {A : Nat → Prop} (hA : ∀ q : Nat, s.heap.size ≤ q → A q) (hA2 : ∀ q : Nat, A q → s.heap.size ≤ q) {dC : Nat → ClassId} {dI : Nat → Nat → Nat} {h ro ra ch rg dl ll el lg hm rx ry ho : Nat} {cI cX cY cL : ClassId} {v2 v3 ca w3 w4 x0 y0 x1 y1 x2 y2 z0 m8 m9 m10 m11 m12 m13 m14 m16 m17 m18 m19 m20 m21 m22 m23 m24 m26 m27 m28 m29 m32 m34 m35 m37 m38 m40 m41 : Value} {H : Heap} {locs : List Loc} {ls : Array Slot} (hK : va_K (dC, dI) classes [(cI, .int), (cX, .int), (cY, .int), (cL, .long)] s) (hP : va_P (dC, dI) classes [(h, .inr (0, [.ref ro, .ref ch, v2, v3, .ref rg, .ref lg, .int 0, .int 0])), (ro, .inr (1, [.ref ra, .int 0])), (ra, .inl (cI, 32, .inl (fun _ => 0))), (ch, .inr (1, [ca, .int 0])), (rg, .inr (4, [.ref dl, .ref ll, .ref el, w3, w4])), (dl, .inr (6, [x0, .int 0, y0])), (ll, .inr (6, [x1, .int 0, y1])), (el, .inr (6, [x2, .int 0, y2])), (lg, .inr (5, [z0, .int 0, .int 0])), (hm, .inr (7, [.int 0, .int 0, .int 0, .int 0, .int 0, .ref rx, .ref ry, .int 0, m8, m9, m10, m11, m12, m13, m14, .int 0, m16, m17, m18, m19, m20, m21, m22, m23, m24, .int 0, m26, m27, m28, m29, .int 0, .int 0, m32, .int 0, m34, m35, .int 0, m37, m38, .int 0, m40, m41])), (rx, .inl (cX, 32, .inl (fun _ => 0))), (ry, .inl (cY, 32, .inl (fun _ => 0))), (ho, .inl (cL, 1, .inr (.inl (fun _ => 0))))] H) (hD : va_D A [(h, .inr (0, [.ref ro, .ref ch, v2, v3, .ref rg, .ref lg, .int 0, .int 0])), (ro, .inr (1, [.ref ra, .int 0])), (ra, .inl (cI, 32, .inl (fun _ => 0))), (ch, .inr (1, [ca, .int 0])), (rg, .inr (4, [.ref dl, .ref ll, .ref el, w3, w4])), (dl, .inr (6, [x0, .int 0, y0])), (ll, .inr (6, [x1, .int 0, y1])), (el, .inr (6, [x2, .int 0, y2])), (lg, .inr (5, [z0, .int 0, .int 0])), (hm, .inr (7, [.int 0, .int 0, .int 0, .int 0, .int 0, .ref rx, .ref ry, .int 0, m8, m9, m10, m11, m12, m13, m14, .int 0, m16, m17, m18, m19, m20, m21, m22, m23, m24, .int 0, m26, m27, m28, m29, .int 0, .int 0, m32, .int 0, m34, m35, .int 0, m37, m38, .int 0, m40, m41])), (rx, .inl (cX, 32, .inl (fun _ => 0))), (ry, .inl (cY, 32, .inl (fun _ => 0))), (ho, .inl (cL, 1, .inr (.inl (fun _ => 0))))]) (hS : va_S A s.heap H locs) (hl : lv_has ls 7 [(4, .int 0), (3, .ref ho), (2, .ref hm), (1, .ref h), (0, .ref b)]) : W p l e room_1 s m #[Value.ref b] below meth c H locs 61 60361 (lw_Z below #[Value.ref b] s) (F0 m 259 ls []) := by
  have hbA : ¬ A b := fun h => absurd (hA2 b h) (Nat.not_le.mpr hbl)
  have hN : ∀ (a : Nat) (cell : Cell), s.heap[a]? = some cell → cell.vm.isStatics = true → ¬ A a := fun a cell h1 _ h3 => absurd (hA2 a h3) (Nat.not_le.mpr (Array.getElem?_eq_some_iff.mp h1).1)
  refine lv_aload_n hx hb d_law_259 rfl (lv_at hl 3 rfl) ?_
  refine lv_aload_n hx hb d_law_260 rfl (lv_at hl 4 rfl) ?_
  refine lv_iload hx hb d_law_261 (lv_at hl 0 rfl) ?_
  refine lv_iconst (v := 1) hx hb d_law_263 (by decide) ?_
  refine lv_iadd hx hb d_law_264 ?_
  refine va_sld hx hb hX hbl hbA hS (i := (0 + 1)) (by unfold vp_in; decide) d_law_265 ?_
  refine lv_aload_n hx hb d_law_266 rfl (lv_at hl 4 rfl) ?_
  refine lv_iload hx hb d_law_267 (lv_at hl 0 rfl) ?_
  refine lv_iconst (v := 2) hx hb d_law_269 (by decide) ?_
  refine lv_iadd hx hb d_law_270 ?_
  refine va_sld hx hb hX hbl hbA hS (i := (0 + 2)) (by unfold vp_in; decide) d_law_271 ?_
  refine lv_aload_n hx hb d_law_272 rfl (lv_at hl 1 rfl) ?_
  have hPc := hP.sub (ws' := [(h, .inr (0, [.ref ro, .ref ch, v2, v3, .ref rg, .ref lg, .int 0, .int 0])), (ro, .inr (1, [.ref ra, .int 0])), (ra, .inl (cI, 32, .inl (fun _ => 0))), (ch, .inr (1, [ca, .int 0])), (rg, .inr (4, [.ref dl, .ref ll, .ref el, w3, w4])), (dl, .inr (6, [x0, .int 0, y0])), (ll, .inr (6, [x1, .int 0, y1])), (el, .inr (6, [x2, .int 0, y2])), (lg, .inr (5, [z0, .int 0, .int 0])), (ho, .inl (cL, 1, .inr (.inl (fun _ => 0))))]) [0, 1, 2, 3, 4, 5, 6, 7, 8, 12] rfl
  have hDc := hD.sub (ws' := [(h, .inr (0, [.ref ro, .ref ch, v2, v3, .ref rg, .ref lg, .int 0, .int 0])), (ro, .inr (1, [.ref ra, .int 0])), (ra, .inl (cI, 32, .inl (fun _ => 0))), (ch, .inr (1, [ca, .int 0])), (rg, .inr (4, [.ref dl, .ref ll, .ref el, w3, w4])), (dl, .inr (6, [x0, .int 0, y0])), (ll, .inr (6, [x1, .int 0, y1])), (el, .inr (6, [x2, .int 0, y2])), (lg, .inr (5, [z0, .int 0, .int 0])), (ho, .inl (cL, 1, .inr (.inl (fun _ => 0))))]) [0, 1, 2, 3, 4, 5, 6, 7, 8, 12] (by decide) rfl
  have hKc := hK.sub (tys' := [(cI, .int), (cL, .long)]) [0, 3] rfl
  have hFc := va_free (wc := [(h, .inr (0, [.ref ro, .ref ch, v2, v3, .ref rg, .ref lg, .int 0, .int 0])), (ro, .inr (1, [.ref ra, .int 0])), (ra, .inl (cI, 32, .inl (fun _ => 0))), (ch, .inr (1, [ca, .int 0])), (rg, .inr (4, [.ref dl, .ref ll, .ref el, w3, w4])), (dl, .inr (6, [x0, .int 0, y0])), (ll, .inr (6, [x1, .int 0, y1])), (el, .inr (6, [x2, .int 0, y2])), (lg, .inr (5, [z0, .int 0, .int 0])), (ho, .inl (cL, 1, .inr (.inl (fun _ => 0))))]) hD hS hA [0, 1, 2, 3, 4, 5, 6, 7, 8, 12] rfl
  refine va_calli (tw_runSW (n := 4) (As := [.ref h, .int (xs (Int32.toNatClampNeg (0 + 1))), .int (xs (Int32.toNatClampNeg (0 + 2))), .ref ho]) (rest := []) ⟨hx, hb, hml, hown, hts⟩ (c_law_split l hfl dC dI h H.size ro ra ch rg dl ll el lg ho cI cL (fun _ => 0) (fun _ => 0) v2 v3 ca w3 w4 x0 y0 x1 y1 x2 y2 z0 ((xs (Int32.toNatClampNeg (0 + 1)))) ((xs (Int32.toNatClampNeg (0 + 2))))) (tw_gc tk_394) rfl rfl rfl ⟨Nat.le_of_ble_eq_true rfl, Nat.le_of_ble_eq_true rfl⟩ (hts _ tk_376) (hts _ tk_395) (hts _ tk_396) (by decide +kernel) (tw_s4E hPc hKc hDc hE (tw_kst hN hS)) rfl rfl hl.1 rfl (lv_room (Nat.le_of_ble_eq_true rfl)) d_law_273 ⟨by show 62 ≤ 600002; decide, by show 60367 ≤ 7302232; decide⟩) hS (fun q _ h => hFc q h) hFc (fun rk u t H1 locs ht hvm hk9 hB hz1 hk1 hS => ?_)
  obtain ⟨hP1, hK1, hD1⟩ := hB
  rw [ht] at hP1
  obtain ⟨hP, hD⟩ := va_join (wr := [(hm, .inr (7, [.int 0, .int 0, .int 0, .int 0, .int 0, .ref rx, .ref ry, .int 0, m8, m9, m10, m11, m12, m13, m14, .int 0, m16, m17, m18, m19, m20, m21, m22, m23, m24, .int 0, m26, m27, m28, m29, .int 0, .int 0, m32, .int 0, m34, m35, .int 0, m37, m38, .int 0, m40, m41])), (rx, .inl (cX, 32, .inl (fun _ => 0))), (ry, .inl (cY, 32, .inl (fun _ => 0)))]) (w1 := [(ho, .inl (cL, 1, .inr (.inl (u))))]) hP hD [0, 1, 2, 3, 4, 5, 6, 7, 8, 12] [9, 10, 11] rfl rfl (by decide) (by decide) hk1 hFc hP1 hD1
  generalize H1 = H at hP hS ⊢
  have hP : va_P (dC, dI) classes [(hm, .inr (7, [.int 0, .int 0, .int 0, .int 0, .int 0, .ref rx, .ref ry, .int 0, m8, m9, m10, m11, m12, m13, m14, .int 0, m16, m17, m18, m19, m20, m21, m22, m23, m24, .int 0, m26, m27, m28, m29, .int 0, .int 0, m32, .int 0, m34, m35, .int 0, m37, m38, .int 0, m40, m41])), (rx, .inl (cX, 32, .inl (fun _ => 0))), (ry, .inl (cY, 32, .inl (fun _ => 0))), (ho, .inl (cL, 1, .inr (.inl (u))))] H := hP
  have hD : va_D A [(hm, .inr (7, [.int 0, .int 0, .int 0, .int 0, .int 0, .ref rx, .ref ry, .int 0, m8, m9, m10, m11, m12, m13, m14, .int 0, m16, m17, m18, m19, m20, m21, m22, m23, m24, .int 0, m26, m27, m28, m29, .int 0, .int 0, m32, .int 0, m34, m35, .int 0, m37, m38, .int 0, m40, m41])), (rx, .inl (cX, 32, .inl (fun _ => 0))), (ry, .inl (cY, 32, .inl (fun _ => 0))), (ho, .inl (cL, 1, .inr (.inl (u))))] := hD
  have hk9 : rk = 1 := hk9
  have hk9 := hk9.symm
  subst hk9
  refine lv_istore (lv' := [(5, .int 1), (4, .int 0), (3, .ref ho), (2, .ref hm), (1, .ref h), (0, .ref b)]) hx hb d_law_276 hl (by decide) rfl (fun ls hl => ?_)
  refine lv_aload_n hx hb d_law_278 rfl (lv_at hl 3 rfl) ?_
  refine lv_aload_n hx hb d_law_279 rfl (lv_at hl 5 rfl) ?_
  refine lv_iload hx hb d_law_280 (lv_at hl 1 rfl) ?_
  refine lv_iconst (v := 1) hx hb d_law_282 (by decide) ?_
  refine lv_iadd hx hb d_law_283 ?_
  refine va_sld hx hb hX hbl hbA hS (i := (0 + 1)) (by unfold vp_in; decide) d_law_284 ?_
  refine lv_aload_n hx hb d_law_285 rfl (lv_at hl 5 rfl) ?_
  refine lv_iload hx hb d_law_286 (lv_at hl 1 rfl) ?_
  refine lv_iconst (v := 2) hx hb d_law_288 (by decide) ?_
  refine lv_iadd hx hb d_law_289 ?_
  refine va_sld hx hb hX hbl hbA hS (i := (0 + 2)) (by unfold vp_in; decide) d_law_290 ?_
  have hPc := hP.sub (ws' := [(hm, .inr (7, [.int 0, .int 0, .int 0, .int 0, .int 0, .ref rx, .ref ry, .int 0, m8, m9, m10, m11, m12, m13, m14, .int 0, m16, m17, m18, m19, m20, m21, m22, m23, m24, .int 0, m26, m27, m28, m29, .int 0, .int 0, m32, .int 0, m34, m35, .int 0, m37, m38, .int 0, m40, m41]))]) [0] rfl
  have hDc := hD.sub (ws' := [(hm, .inr (7, [.int 0, .int 0, .int 0, .int 0, .int 0, .ref rx, .ref ry, .int 0, m8, m9, m10, m11, m12, m13, m14, .int 0, m16, m17, m18, m19, m20, m21, m22, m23, m24, .int 0, m26, m27, m28, m29, .int 0, .int 0, m32, .int 0, m34, m35, .int 0, m37, m38, .int 0, m40, m41]))]) [0] (by decide) rfl
  have hKc := hK.sub (tys' := []) [] rfl
  have hFc := va_free (wc := [(hm, .inr (7, [.int 0, .int 0, .int 0, .int 0, .int 0, .ref rx, .ref ry, .int 0, m8, m9, m10, m11, m12, m13, m14, .int 0, m16, m17, m18, m19, m20, m21, m22, m23, m24, .int 0, m26, m27, m28, m29, .int 0, .int 0, m32, .int 0, m34, m35, .int 0, m37, m38, .int 0, m40, m41]))]) hD hS hA [0] rfl
  refine va_calli (va_runV (As := [.int (xs (Int32.toNatClampNeg (0 + 1))), .int (xs (Int32.toNatClampNeg (0 + 2)))]) (rest := []) ⟨hx, hb, hml, hown, hts⟩ (c_M_split l dC dI hm H.size 0 (.ref rx) (.ref ry) m8 m9 m10 m11 m12 m13 m14 m16 m17 m18 m19 m20 m21 m22 m23 m24 m26 m27 m28 m29 m32 m34 m35 m37 m38 m40 m41 ((xs (Int32.toNatClampNeg (0 + 1)))) ((xs (Int32.toNatClampNeg (0 + 2))))) (cwV 2 hts (tw_gV tk_397 tk_398 tk_399 tk_249 tk_400) rfl rfl rfl (by decide +kernel) ⟨Nat.le_of_ble_eq_true rfl, Nat.le_of_ble_eq_true rfl⟩) (tw_v4 (va_recv (q0 := 0) hK hP rfl rfl) hPc hKc hDc) rfl rfl hl.1 rfl (lv_room (Nat.le_of_ble_eq_true rfl)) d_law_291 ⟨by show 62 ≤ 600002; decide, by show 60367 ≤ 7302232; decide⟩) hS (fun q _ h => hFc q h) hFc (fun rm w9 t H1 locs ht hvm hm9 hB hz1 hk1 hS => ?_)
  obtain ⟨tm, fs⟩ := w9
  obtain ⟨hP1, hK1, hD1⟩ := hB
  rw [ht] at hP1
  obtain ⟨hP, hD⟩ := va_join (wr := [(rx, .inl (cX, 32, .inl (fun _ => 0))), (ry, .inl (cY, 32, .inl (fun _ => 0))), (ho, .inl (cL, 1, .inr (.inl (u))))]) (w1 := [(hm, .inr (7, .int tm :: fs))]) hP hD [0] [1, 2, 3] rfl rfl (by decide) (by decide) hk1 hFc hP1 hD1
  generalize H1 = H at hP hS ⊢
  have hP : va_P (dC, dI) classes [(rx, .inl (cX, 32, .inl (fun _ => 0))), (ry, .inl (cY, 32, .inl (fun _ => 0))), (ho, .inl (cL, 1, .inr (.inl (u)))), (hm, .inr (7, .int tm :: fs))] H := hP
  have hD : va_D A [(rx, .inl (cX, 32, .inl (fun _ => 0))), (ry, .inl (cY, 32, .inl (fun _ => 0))), (ho, .inl (cL, 1, .inr (.inl (u)))), (hm, .inr (7, .int tm :: fs))] := hD
  have hm9 : tm = 1 := hm9
  have hm9 := hm9.symm
  subst hm9
  refine lv_istore (lv' := [(6, .int rm), (5, .int 1), (4, .int 0), (3, .ref ho), (2, .ref hm), (1, .ref h), (0, .ref b)]) hx hb d_law_294 hl (by decide) rfl (fun ls hl => ?_)
  refine lv_aload_n hx hb d_law_296 rfl (lv_at hl 4 rfl) ?_
  refine vp_callSi (W.runV (As := []) (rest := []) ⟨hx, hb, hml, hown, hts⟩ (c_M_thrown l dC dI hm 1 fs) (cwV 0 hts (tw_gV tk_383 tk_384 tk_385 tk_249 tk_386) rfl rfl rfl (by decide +kernel) ⟨Nat.le_of_ble_eq_true rfl, Nat.le_of_ble_eq_true rfl⟩) (tw_v2 (va_recv (q0 := 3) hK hP rfl rfl) (hP.sub (ws' := [(hm, .inr (7, .int 1 :: fs))]) [3] rfl) (hK.sub (tys' := []) [] rfl)) rfl rfl hl.1 rfl (lv_room (Nat.le_of_ble_eq_true rfl)) d_law_297 ⟨by show 62 ≤ 600002; decide, by show 60367 ≤ 7302232; decide⟩) (fun r1 e2 => ?_)
  have e2 := e2.symm
  subst e2
  refine lv_iload hx hb d_law_300 (lv_at hl 1 rfl) ?_
  refine lv_icmp_eq (tgt := 307) hx hb d_law_302 (by decide) (fun h3 => ?_) (fun h3 => absurd (by decide) h3)
  refine lv_iload hx hb d_law_307 (lv_at hl 1 rfl) ?_
  refine lv_if_ne (tgt := 324) hx hb d_law_309 (by decide) (fun h4 => ?_) (fun h4 => absurd h4 (by decide))
  refine lv_goto (tgt := 1637) hx hb d_law_324 (by decide) ?_
  refine lv_iinc (k := 2) (v := 7) (lv' := [(4, .int 7), (6, .int rm), (5, .int 1), (3, .ref ho), (2, .ref hm), (1, .ref h), (0, .ref b)]) hx hb d_law_1637 hl rfl (by decide) (by decide) rfl (fun ls hl => ?_)
  refine lv_goto (tgt := 23) hx hb d_law_1640 (by decide) ?_
  refine lv_iload hx hb d_law_23 (lv_at hl 0 rfl) ?_
  refine lv_aload_n hx hb d_law_25 rfl (lv_at hl 6 rfl) ?_
  refine va_slen hx hb hX hbl hbA hS d_law_26 ?_
  refine lv_bipush (v := 7) hx hb d_law_27 (by decide) ?_
  refine lv_isub hx hb d_law_29 ?_
  refine lv_icmp_gt (tgt := 1643) hx hb d_law_30 (by decide) (fun h5 => ?_) (fun h5 => absurd (by decide) h5)
  refine lv_iconst (v := 1) hx hb d_law_1643 (by decide) ?_
  refine va_forget (fun q hq => hA2 _ (hS.2.2 q hq)) ?_
  refine W.widen (k := 600002) (n := 7302232) (by decide) (by decide) ?_
  exact lw_ret hx hb hr hlocks d_law_1644
theorem tk_401 : (Jvm.Cond.codeWith ({ cls := "LandBookLaw", name := "merge", desc := "(LLandBook;III[J)I" } : Jvm.MethodName) method_6_code (6 : Nat) (Option.some Jvm.ClassFile.FieldType.int) [((0 : Nat), (12 : Nat), (15 : Nat), (21 : Nat)), ((0 : Nat), (12 : Nat), (19 : Nat), (26 : Nat)), ((0 : Nat), (12 : Nat), (23 : Nat), (13 : Nat))]) ∈ tw_G := tw_in (List.mem_of_getElem? (i := 782) (by decide +kernel)) rfl
theorem tk_402 : (Jvm.Cond.methodLink "LandBookLaw" (107 : Nat) ({ cls := "LandBookLaw", name := "merge", desc := "(LLandBook;III[J)I" } : Jvm.MethodName)) ∈ tw_G := tw_in (List.mem_of_getElem? (i := 780) (by decide +kernel)) rfl
theorem tk_403 : (Jvm.Cond.static ({ cls := "LandBookLaw", name := "merge", desc := "(LLandBook;III[J)I" } : Jvm.MethodName)) ∈ tw_G := tw_in (List.mem_of_getElem? (i := 781) (by decide +kernel)) rfl
theorem tk_404 : (Jvm.Cond.methodLink "LandBookLaw" (110 : Nat) ({ cls := "LandBookModel", name := "merge", desc := "(III)I" } : Jvm.MethodName)) ∈ tw_G := tw_in (List.mem_of_getElem? (i := 1349) (by decide +kernel)) rfl
theorem tk_405 : (Jvm.Cond.instanceMethod ({ cls := "LandBookModel", name := "merge", desc := "(III)I" } : Jvm.MethodName)) ∈ tw_G := tw_in (List.mem_of_getElem? (i := 1350) (by decide +kernel)) rfl
theorem tk_406 : (Jvm.Cond.selects "LandBookModel" ({ cls := "LandBookModel", name := "merge", desc := "(III)I" } : Jvm.MethodName) ({ cls := "LandBookModel", name := "merge", desc := "(III)I" } : Jvm.MethodName)) ∈ tw_G := tw_in (List.mem_of_getElem? (i := 1351) (by decide +kernel)) rfl
theorem tk_407 : (Jvm.Cond.code ({ cls := "LandBookModel", name := "merge", desc := "(III)I" } : Jvm.MethodName) prog_13_method_55_code (4 : Nat) (Option.some Jvm.ClassFile.FieldType.int)) ∈ tw_G := tw_in (List.mem_of_getElem? (i := 1352) (by decide +kernel)) rfl
set_option maxHeartbeats 4000000 in
set_option maxRecDepth 100000 in
theorem lw_case_3 {p : Program} {e : Env} {s : State} {m : MethodId} {below : List Frame} {meth : Method} {c : Code} (l : Launch) (hfl : l.flags = pinnedFlags ++ [noTraceFlag]) {b : Nat} {xs : Nat → Int32} (hx : p.tables.exec = Jvm.exec) (hb : c.code = code) (hr : meth.sig.returnType = ret) (hml : c.maxLocals = 7) (hown : s.vm.findClass "LandBookLaw" = some m.cls) (hts : ∀ w ∈ tw_G, w.before #[Value.ref b] s = true) (hX : va_X b 7 xs s s.heap) (hbl : b < s.heap.size) (hlocks : meth.locks = false) (hE : lb_E s) {A : Nat → Prop} (hA : ∀ q : Nat, s.heap.size ≤ q → A q) (hA2 : ∀ q : Nat, A q → s.heap.size ≤ q) {dC : Nat → ClassId} {dI : Nat → Nat → Nat} {h ro ra ch rg dl ll el lg hm rx ry ho : Nat} {cI cX cY cL : ClassId} {v2 v3 ca w3 w4 x0 y0 x1 y1 x2 y2 z0 m8 m9 m10 m11 m12 m13 m14 m16 m17 m18 m19 m20 m21 m22 m23 m24 m26 m27 m28 m29 m32 m34 m35 m37 m38 m40 m41 : Value} {H : Heap} {locs : List Loc} {ls : Array Slot} (hK : va_K (dC, dI) classes [(cI, .int), (cX, .int), (cY, .int), (cL, .long)] s) (hP : va_P (dC, dI) classes [(h, .inr (0, [.ref ro, .ref ch, v2, v3, .ref rg, .ref lg, .int 0, .int 0])), (ro, .inr (1, [.ref ra, .int 0])), (ra, .inl (cI, 32, .inl (fun _ => 0))), (ch, .inr (1, [ca, .int 0])), (rg, .inr (4, [.ref dl, .ref ll, .ref el, w3, w4])), (dl, .inr (6, [x0, .int 0, y0])), (ll, .inr (6, [x1, .int 0, y1])), (el, .inr (6, [x2, .int 0, y2])), (lg, .inr (5, [z0, .int 0, .int 0])), (hm, .inr (7, [.int 0, .int 0, .int 0, .int 0, .int 0, .ref rx, .ref ry, .int 0, m8, m9, m10, m11, m12, m13, m14, .int 0, m16, m17, m18, m19, m20, m21, m22, m23, m24, .int 0, m26, m27, m28, m29, .int 0, .int 0, m32, .int 0, m34, m35, .int 0, m37, m38, .int 0, m40, m41])), (rx, .inl (cX, 32, .inl (fun _ => 0))), (ry, .inl (cY, 32, .inl (fun _ => 0))), (ho, .inl (cL, 1, .inr (.inl (fun _ => 0))))] H) (hD : va_D A [(h, .inr (0, [.ref ro, .ref ch, v2, v3, .ref rg, .ref lg, .int 0, .int 0])), (ro, .inr (1, [.ref ra, .int 0])), (ra, .inl (cI, 32, .inl (fun _ => 0))), (ch, .inr (1, [ca, .int 0])), (rg, .inr (4, [.ref dl, .ref ll, .ref el, w3, w4])), (dl, .inr (6, [x0, .int 0, y0])), (ll, .inr (6, [x1, .int 0, y1])), (el, .inr (6, [x2, .int 0, y2])), (lg, .inr (5, [z0, .int 0, .int 0])), (hm, .inr (7, [.int 0, .int 0, .int 0, .int 0, .int 0, .ref rx, .ref ry, .int 0, m8, m9, m10, m11, m12, m13, m14, .int 0, m16, m17, m18, m19, m20, m21, m22, m23, m24, .int 0, m26, m27, m28, m29, .int 0, .int 0, m32, .int 0, m34, m35, .int 0, m37, m38, .int 0, m40, m41])), (rx, .inl (cX, 32, .inl (fun _ => 0))), (ry, .inl (cY, 32, .inl (fun _ => 0))), (ho, .inl (cL, 1, .inr (.inl (fun _ => 0))))]) (hS : va_S A s.heap H locs) (hl : lv_has ls 7 [(4, .int 0), (3, .ref ho), (2, .ref hm), (1, .ref h), (0, .ref b)]) : W p l e room_1 s m #[Value.ref b] below meth c H locs 61 60361 (lw_Z below #[Value.ref b] s) (F0 m 327 ls []) := by
  have hbA : ¬ A b := fun h => absurd (hA2 b h) (Nat.not_le.mpr hbl)
  have hN : ∀ (a : Nat) (cell : Cell), s.heap[a]? = some cell → cell.vm.isStatics = true → ¬ A a := fun a cell h1 _ h3 => absurd (hA2 a h3) (Nat.not_le.mpr (Array.getElem?_eq_some_iff.mp h1).1)
  refine lv_aload_n hx hb d_law_327 rfl (lv_at hl 3 rfl) ?_
  refine lv_aload_n hx hb d_law_328 rfl (lv_at hl 4 rfl) ?_
  refine lv_iload hx hb d_law_329 (lv_at hl 0 rfl) ?_
  refine lv_iconst (v := 1) hx hb d_law_331 (by decide) ?_
  refine lv_iadd hx hb d_law_332 ?_
  refine va_sld hx hb hX hbl hbA hS (i := (0 + 1)) (by unfold vp_in; decide) d_law_333 ?_
  refine lv_aload_n hx hb d_law_334 rfl (lv_at hl 4 rfl) ?_
  refine lv_iload hx hb d_law_335 (lv_at hl 0 rfl) ?_
  refine lv_iconst (v := 2) hx hb d_law_337 (by decide) ?_
  refine lv_iadd hx hb d_law_338 ?_
  refine va_sld hx hb hX hbl hbA hS (i := (0 + 2)) (by unfold vp_in; decide) d_law_339 ?_
  refine lv_aload_n hx hb d_law_340 rfl (lv_at hl 4 rfl) ?_
  refine lv_iload hx hb d_law_341 (lv_at hl 0 rfl) ?_
  refine lv_iconst (v := 3) hx hb d_law_343 (by decide) ?_
  refine lv_iadd hx hb d_law_344 ?_
  refine va_sld hx hb hX hbl hbA hS (i := (0 + 3)) (by unfold vp_in; decide) d_law_345 ?_
  refine lv_aload_n hx hb d_law_346 rfl (lv_at hl 1 rfl) ?_
  have hPc := hP.sub (ws' := [(h, .inr (0, [.ref ro, .ref ch, v2, v3, .ref rg, .ref lg, .int 0, .int 0])), (ro, .inr (1, [.ref ra, .int 0])), (ra, .inl (cI, 32, .inl (fun _ => 0))), (ch, .inr (1, [ca, .int 0])), (rg, .inr (4, [.ref dl, .ref ll, .ref el, w3, w4])), (dl, .inr (6, [x0, .int 0, y0])), (ll, .inr (6, [x1, .int 0, y1])), (el, .inr (6, [x2, .int 0, y2])), (lg, .inr (5, [z0, .int 0, .int 0])), (ho, .inl (cL, 1, .inr (.inl (fun _ => 0))))]) [0, 1, 2, 3, 4, 5, 6, 7, 8, 12] rfl
  have hDc := hD.sub (ws' := [(h, .inr (0, [.ref ro, .ref ch, v2, v3, .ref rg, .ref lg, .int 0, .int 0])), (ro, .inr (1, [.ref ra, .int 0])), (ra, .inl (cI, 32, .inl (fun _ => 0))), (ch, .inr (1, [ca, .int 0])), (rg, .inr (4, [.ref dl, .ref ll, .ref el, w3, w4])), (dl, .inr (6, [x0, .int 0, y0])), (ll, .inr (6, [x1, .int 0, y1])), (el, .inr (6, [x2, .int 0, y2])), (lg, .inr (5, [z0, .int 0, .int 0])), (ho, .inl (cL, 1, .inr (.inl (fun _ => 0))))]) [0, 1, 2, 3, 4, 5, 6, 7, 8, 12] (by decide) rfl
  have hKc := hK.sub (tys' := [(cI, .int), (cL, .long)]) [0, 3] rfl
  have hFc := va_free (wc := [(h, .inr (0, [.ref ro, .ref ch, v2, v3, .ref rg, .ref lg, .int 0, .int 0])), (ro, .inr (1, [.ref ra, .int 0])), (ra, .inl (cI, 32, .inl (fun _ => 0))), (ch, .inr (1, [ca, .int 0])), (rg, .inr (4, [.ref dl, .ref ll, .ref el, w3, w4])), (dl, .inr (6, [x0, .int 0, y0])), (ll, .inr (6, [x1, .int 0, y1])), (el, .inr (6, [x2, .int 0, y2])), (lg, .inr (5, [z0, .int 0, .int 0])), (ho, .inl (cL, 1, .inr (.inl (fun _ => 0))))]) hD hS hA [0, 1, 2, 3, 4, 5, 6, 7, 8, 12] rfl
  refine va_calli (tw_runSW (n := 5) (As := [.ref h, .int (xs (Int32.toNatClampNeg (0 + 1))), .int (xs (Int32.toNatClampNeg (0 + 2))), .int (xs (Int32.toNatClampNeg (0 + 3))), .ref ho]) (rest := []) ⟨hx, hb, hml, hown, hts⟩ (c_law_merge l hfl dC dI h H.size ro ra ch rg dl ll el lg ho cI cL (fun _ => 0) (fun _ => 0) v2 v3 ca w3 w4 x0 y0 x1 y1 x2 y2 z0 ((xs (Int32.toNatClampNeg (0 + 1)))) ((xs (Int32.toNatClampNeg (0 + 2)))) ((xs (Int32.toNatClampNeg (0 + 3))))) (tw_gc tk_401) rfl rfl rfl ⟨Nat.le_of_ble_eq_true rfl, Nat.le_of_ble_eq_true rfl⟩ (hts _ tk_376) (hts _ tk_402) (hts _ tk_403) (by decide +kernel) (tw_s4E hPc hKc hDc hE (tw_kst hN hS)) rfl rfl hl.1 rfl (lv_room (Nat.le_of_ble_eq_true rfl)) d_law_347 ⟨by show 62 ≤ 600002; decide, by show 60367 ≤ 7302232; decide⟩) hS (fun q _ h => hFc q h) hFc (fun rk u t H1 locs ht hvm hk9 hB hz1 hk1 hS => ?_)
  obtain ⟨hP1, hK1, hD1⟩ := hB
  rw [ht] at hP1
  obtain ⟨hP, hD⟩ := va_join (wr := [(hm, .inr (7, [.int 0, .int 0, .int 0, .int 0, .int 0, .ref rx, .ref ry, .int 0, m8, m9, m10, m11, m12, m13, m14, .int 0, m16, m17, m18, m19, m20, m21, m22, m23, m24, .int 0, m26, m27, m28, m29, .int 0, .int 0, m32, .int 0, m34, m35, .int 0, m37, m38, .int 0, m40, m41])), (rx, .inl (cX, 32, .inl (fun _ => 0))), (ry, .inl (cY, 32, .inl (fun _ => 0)))]) (w1 := [(ho, .inl (cL, 1, .inr (.inl (u))))]) hP hD [0, 1, 2, 3, 4, 5, 6, 7, 8, 12] [9, 10, 11] rfl rfl (by decide) (by decide) hk1 hFc hP1 hD1
  generalize H1 = H at hP hS ⊢
  have hP : va_P (dC, dI) classes [(hm, .inr (7, [.int 0, .int 0, .int 0, .int 0, .int 0, .ref rx, .ref ry, .int 0, m8, m9, m10, m11, m12, m13, m14, .int 0, m16, m17, m18, m19, m20, m21, m22, m23, m24, .int 0, m26, m27, m28, m29, .int 0, .int 0, m32, .int 0, m34, m35, .int 0, m37, m38, .int 0, m40, m41])), (rx, .inl (cX, 32, .inl (fun _ => 0))), (ry, .inl (cY, 32, .inl (fun _ => 0))), (ho, .inl (cL, 1, .inr (.inl (u))))] H := hP
  have hD : va_D A [(hm, .inr (7, [.int 0, .int 0, .int 0, .int 0, .int 0, .ref rx, .ref ry, .int 0, m8, m9, m10, m11, m12, m13, m14, .int 0, m16, m17, m18, m19, m20, m21, m22, m23, m24, .int 0, m26, m27, m28, m29, .int 0, .int 0, m32, .int 0, m34, m35, .int 0, m37, m38, .int 0, m40, m41])), (rx, .inl (cX, 32, .inl (fun _ => 0))), (ry, .inl (cY, 32, .inl (fun _ => 0))), (ho, .inl (cL, 1, .inr (.inl (u))))] := hD
  have hk9 : rk = 1 := hk9
  have hk9 := hk9.symm
  subst hk9
  refine lv_istore (lv' := [(5, .int 1), (4, .int 0), (3, .ref ho), (2, .ref hm), (1, .ref h), (0, .ref b)]) hx hb d_law_350 hl (by decide) rfl (fun ls hl => ?_)
  refine lv_aload_n hx hb d_law_352 rfl (lv_at hl 3 rfl) ?_
  refine lv_aload_n hx hb d_law_353 rfl (lv_at hl 5 rfl) ?_
  refine lv_iload hx hb d_law_354 (lv_at hl 1 rfl) ?_
  refine lv_iconst (v := 1) hx hb d_law_356 (by decide) ?_
  refine lv_iadd hx hb d_law_357 ?_
  refine va_sld hx hb hX hbl hbA hS (i := (0 + 1)) (by unfold vp_in; decide) d_law_358 ?_
  refine lv_aload_n hx hb d_law_359 rfl (lv_at hl 5 rfl) ?_
  refine lv_iload hx hb d_law_360 (lv_at hl 1 rfl) ?_
  refine lv_iconst (v := 2) hx hb d_law_362 (by decide) ?_
  refine lv_iadd hx hb d_law_363 ?_
  refine va_sld hx hb hX hbl hbA hS (i := (0 + 2)) (by unfold vp_in; decide) d_law_364 ?_
  refine lv_aload_n hx hb d_law_365 rfl (lv_at hl 5 rfl) ?_
  refine lv_iload hx hb d_law_366 (lv_at hl 1 rfl) ?_
  refine lv_iconst (v := 3) hx hb d_law_368 (by decide) ?_
  refine lv_iadd hx hb d_law_369 ?_
  refine va_sld hx hb hX hbl hbA hS (i := (0 + 3)) (by unfold vp_in; decide) d_law_370 ?_
  have hPc := hP.sub (ws' := [(hm, .inr (7, [.int 0, .int 0, .int 0, .int 0, .int 0, .ref rx, .ref ry, .int 0, m8, m9, m10, m11, m12, m13, m14, .int 0, m16, m17, m18, m19, m20, m21, m22, m23, m24, .int 0, m26, m27, m28, m29, .int 0, .int 0, m32, .int 0, m34, m35, .int 0, m37, m38, .int 0, m40, m41]))]) [0] rfl
  have hDc := hD.sub (ws' := [(hm, .inr (7, [.int 0, .int 0, .int 0, .int 0, .int 0, .ref rx, .ref ry, .int 0, m8, m9, m10, m11, m12, m13, m14, .int 0, m16, m17, m18, m19, m20, m21, m22, m23, m24, .int 0, m26, m27, m28, m29, .int 0, .int 0, m32, .int 0, m34, m35, .int 0, m37, m38, .int 0, m40, m41]))]) [0] (by decide) rfl
  have hKc := hK.sub (tys' := []) [] rfl
  have hFc := va_free (wc := [(hm, .inr (7, [.int 0, .int 0, .int 0, .int 0, .int 0, .ref rx, .ref ry, .int 0, m8, m9, m10, m11, m12, m13, m14, .int 0, m16, m17, m18, m19, m20, m21, m22, m23, m24, .int 0, m26, m27, m28, m29, .int 0, .int 0, m32, .int 0, m34, m35, .int 0, m37, m38, .int 0, m40, m41]))]) hD hS hA [0] rfl
  refine va_calli (va_runV (As := [.int (xs (Int32.toNatClampNeg (0 + 1))), .int (xs (Int32.toNatClampNeg (0 + 2))), .int (xs (Int32.toNatClampNeg (0 + 3)))]) (rest := []) ⟨hx, hb, hml, hown, hts⟩ (c_M_merge l dC dI hm H.size 0 (.ref rx) (.ref ry) m8 m9 m10 m11 m12 m13 m14 m16 m17 m18 m19 m20 m21 m22 m23 m24 m26 m27 m28 m29 m32 m34 m35 m37 m38 m40 m41 ((xs (Int32.toNatClampNeg (0 + 1)))) ((xs (Int32.toNatClampNeg (0 + 2)))) ((xs (Int32.toNatClampNeg (0 + 3))))) (cwV 3 hts (tw_gV tk_404 tk_405 tk_406 tk_249 tk_407) rfl rfl rfl (by decide +kernel) ⟨Nat.le_of_ble_eq_true rfl, Nat.le_of_ble_eq_true rfl⟩) (tw_v4 (va_recv (q0 := 0) hK hP rfl rfl) hPc hKc hDc) rfl rfl hl.1 rfl (lv_room (Nat.le_of_ble_eq_true rfl)) d_law_371 ⟨by show 62 ≤ 600002; decide, by show 60367 ≤ 7302232; decide⟩) hS (fun q _ h => hFc q h) hFc (fun rm w9 t H1 locs ht hvm hm9 hB hz1 hk1 hS => ?_)
  obtain ⟨tm, fs⟩ := w9
  obtain ⟨hP1, hK1, hD1⟩ := hB
  rw [ht] at hP1
  obtain ⟨hP, hD⟩ := va_join (wr := [(rx, .inl (cX, 32, .inl (fun _ => 0))), (ry, .inl (cY, 32, .inl (fun _ => 0))), (ho, .inl (cL, 1, .inr (.inl (u))))]) (w1 := [(hm, .inr (7, .int tm :: fs))]) hP hD [0] [1, 2, 3] rfl rfl (by decide) (by decide) hk1 hFc hP1 hD1
  generalize H1 = H at hP hS ⊢
  have hP : va_P (dC, dI) classes [(rx, .inl (cX, 32, .inl (fun _ => 0))), (ry, .inl (cY, 32, .inl (fun _ => 0))), (ho, .inl (cL, 1, .inr (.inl (u)))), (hm, .inr (7, .int tm :: fs))] H := hP
  have hD : va_D A [(rx, .inl (cX, 32, .inl (fun _ => 0))), (ry, .inl (cY, 32, .inl (fun _ => 0))), (ho, .inl (cL, 1, .inr (.inl (u)))), (hm, .inr (7, .int tm :: fs))] := hD
  have hm9 : tm = 1 := hm9
  have hm9 := hm9.symm
  subst hm9
  refine lv_istore (lv' := [(6, .int rm), (5, .int 1), (4, .int 0), (3, .ref ho), (2, .ref hm), (1, .ref h), (0, .ref b)]) hx hb d_law_374 hl (by decide) rfl (fun ls hl => ?_)
  refine lv_aload_n hx hb d_law_376 rfl (lv_at hl 4 rfl) ?_
  refine vp_callSi (W.runV (As := []) (rest := []) ⟨hx, hb, hml, hown, hts⟩ (c_M_thrown l dC dI hm 1 fs) (cwV 0 hts (tw_gV tk_383 tk_384 tk_385 tk_249 tk_386) rfl rfl rfl (by decide +kernel) ⟨Nat.le_of_ble_eq_true rfl, Nat.le_of_ble_eq_true rfl⟩) (tw_v2 (va_recv (q0 := 3) hK hP rfl rfl) (hP.sub (ws' := [(hm, .inr (7, .int 1 :: fs))]) [3] rfl) (hK.sub (tys' := []) [] rfl)) rfl rfl hl.1 rfl (lv_room (Nat.le_of_ble_eq_true rfl)) d_law_377 ⟨by show 62 ≤ 600002; decide, by show 60367 ≤ 7302232; decide⟩) (fun r1 e2 => ?_)
  have e2 := e2.symm
  subst e2
  refine lv_iload hx hb d_law_380 (lv_at hl 1 rfl) ?_
  refine lv_icmp_eq (tgt := 387) hx hb d_law_382 (by decide) (fun h3 => ?_) (fun h3 => absurd (by decide) h3)
  refine lv_iload hx hb d_law_387 (lv_at hl 1 rfl) ?_
  refine lv_if_ne (tgt := 404) hx hb d_law_389 (by decide) (fun h4 => ?_) (fun h4 => absurd h4 (by decide))
  refine lv_goto (tgt := 1637) hx hb d_law_404 (by decide) ?_
  refine lv_iinc (k := 2) (v := 7) (lv' := [(4, .int 7), (6, .int rm), (5, .int 1), (3, .ref ho), (2, .ref hm), (1, .ref h), (0, .ref b)]) hx hb d_law_1637 hl rfl (by decide) (by decide) rfl (fun ls hl => ?_)
  refine lv_goto (tgt := 23) hx hb d_law_1640 (by decide) ?_
  refine lv_iload hx hb d_law_23 (lv_at hl 0 rfl) ?_
  refine lv_aload_n hx hb d_law_25 rfl (lv_at hl 6 rfl) ?_
  refine va_slen hx hb hX hbl hbA hS d_law_26 ?_
  refine lv_bipush (v := 7) hx hb d_law_27 (by decide) ?_
  refine lv_isub hx hb d_law_29 ?_
  refine lv_icmp_gt (tgt := 1643) hx hb d_law_30 (by decide) (fun h5 => ?_) (fun h5 => absurd (by decide) h5)
  refine lv_iconst (v := 1) hx hb d_law_1643 (by decide) ?_
  refine va_forget (fun q hq => hA2 _ (hS.2.2 q hq)) ?_
  refine W.widen (k := 600002) (n := 7302232) (by decide) (by decide) ?_
  exact lw_ret hx hb hr hlocks d_law_1644
theorem tk_408 : (Jvm.Cond.codeWith ({ cls := "LandBookLaw", name := "transfer", desc := "(LLandBook;IIIIII[J)I" } : Jvm.MethodName) method_7_code (9 : Nat) (Option.some Jvm.ClassFile.FieldType.int) [((0 : Nat), (18 : Nat), (21 : Nat), (21 : Nat)), ((0 : Nat), (18 : Nat), (25 : Nat), (26 : Nat)), ((0 : Nat), (18 : Nat), (29 : Nat), (13 : Nat))]) ∈ tw_G := tw_in (List.mem_of_getElem? (i := 818) (by decide +kernel)) rfl
theorem tk_409 : (Jvm.Cond.methodLink "LandBookLaw" (111 : Nat) ({ cls := "LandBookLaw", name := "transfer", desc := "(LLandBook;IIIIII[J)I" } : Jvm.MethodName)) ∈ tw_G := tw_in (List.mem_of_getElem? (i := 816) (by decide +kernel)) rfl
theorem tk_410 : (Jvm.Cond.static ({ cls := "LandBookLaw", name := "transfer", desc := "(LLandBook;IIIIII[J)I" } : Jvm.MethodName)) ∈ tw_G := tw_in (List.mem_of_getElem? (i := 817) (by decide +kernel)) rfl
theorem tk_411 : (Jvm.Cond.methodLink "LandBookLaw" (114 : Nat) ({ cls := "LandBookModel", name := "transfer", desc := "(IIIIII)I" } : Jvm.MethodName)) ∈ tw_G := tw_in (List.mem_of_getElem? (i := 1382) (by decide +kernel)) rfl
theorem tk_412 : (Jvm.Cond.instanceMethod ({ cls := "LandBookModel", name := "transfer", desc := "(IIIIII)I" } : Jvm.MethodName)) ∈ tw_G := tw_in (List.mem_of_getElem? (i := 1383) (by decide +kernel)) rfl
theorem tk_413 : (Jvm.Cond.selects "LandBookModel" ({ cls := "LandBookModel", name := "transfer", desc := "(IIIIII)I" } : Jvm.MethodName) ({ cls := "LandBookModel", name := "transfer", desc := "(IIIIII)I" } : Jvm.MethodName)) ∈ tw_G := tw_in (List.mem_of_getElem? (i := 1384) (by decide +kernel)) rfl
theorem tk_414 : (Jvm.Cond.code ({ cls := "LandBookModel", name := "transfer", desc := "(IIIIII)I" } : Jvm.MethodName) prog_13_method_57_code (10 : Nat) (Option.some Jvm.ClassFile.FieldType.int)) ∈ tw_G := tw_in (List.mem_of_getElem? (i := 1385) (by decide +kernel)) rfl
set_option maxHeartbeats 4000000 in
set_option maxRecDepth 100000 in
theorem lw_case_4 {p : Program} {e : Env} {s : State} {m : MethodId} {below : List Frame} {meth : Method} {c : Code} (l : Launch) (hfl : l.flags = pinnedFlags ++ [noTraceFlag]) {b : Nat} {xs : Nat → Int32} (hx : p.tables.exec = Jvm.exec) (hb : c.code = code) (hr : meth.sig.returnType = ret) (hml : c.maxLocals = 7) (hown : s.vm.findClass "LandBookLaw" = some m.cls) (hts : ∀ w ∈ tw_G, w.before #[Value.ref b] s = true) (hX : va_X b 7 xs s s.heap) (hbl : b < s.heap.size) (hlocks : meth.locks = false) (hE : lb_E s) {A : Nat → Prop} (hA : ∀ q : Nat, s.heap.size ≤ q → A q) (hA2 : ∀ q : Nat, A q → s.heap.size ≤ q) {dC : Nat → ClassId} {dI : Nat → Nat → Nat} {h ro ra ch rg dl ll el lg hm rx ry ho : Nat} {cI cX cY cL : ClassId} {v2 v3 ca w3 w4 x0 y0 x1 y1 x2 y2 z0 m8 m9 m10 m11 m12 m13 m14 m16 m17 m18 m19 m20 m21 m22 m23 m24 m26 m27 m28 m29 m32 m34 m35 m37 m38 m40 m41 : Value} {H : Heap} {locs : List Loc} {ls : Array Slot} (hK : va_K (dC, dI) classes [(cI, .int), (cX, .int), (cY, .int), (cL, .long)] s) (hP : va_P (dC, dI) classes [(h, .inr (0, [.ref ro, .ref ch, v2, v3, .ref rg, .ref lg, .int 0, .int 0])), (ro, .inr (1, [.ref ra, .int 0])), (ra, .inl (cI, 32, .inl (fun _ => 0))), (ch, .inr (1, [ca, .int 0])), (rg, .inr (4, [.ref dl, .ref ll, .ref el, w3, w4])), (dl, .inr (6, [x0, .int 0, y0])), (ll, .inr (6, [x1, .int 0, y1])), (el, .inr (6, [x2, .int 0, y2])), (lg, .inr (5, [z0, .int 0, .int 0])), (hm, .inr (7, [.int 0, .int 0, .int 0, .int 0, .int 0, .ref rx, .ref ry, .int 0, m8, m9, m10, m11, m12, m13, m14, .int 0, m16, m17, m18, m19, m20, m21, m22, m23, m24, .int 0, m26, m27, m28, m29, .int 0, .int 0, m32, .int 0, m34, m35, .int 0, m37, m38, .int 0, m40, m41])), (rx, .inl (cX, 32, .inl (fun _ => 0))), (ry, .inl (cY, 32, .inl (fun _ => 0))), (ho, .inl (cL, 1, .inr (.inl (fun _ => 0))))] H) (hD : va_D A [(h, .inr (0, [.ref ro, .ref ch, v2, v3, .ref rg, .ref lg, .int 0, .int 0])), (ro, .inr (1, [.ref ra, .int 0])), (ra, .inl (cI, 32, .inl (fun _ => 0))), (ch, .inr (1, [ca, .int 0])), (rg, .inr (4, [.ref dl, .ref ll, .ref el, w3, w4])), (dl, .inr (6, [x0, .int 0, y0])), (ll, .inr (6, [x1, .int 0, y1])), (el, .inr (6, [x2, .int 0, y2])), (lg, .inr (5, [z0, .int 0, .int 0])), (hm, .inr (7, [.int 0, .int 0, .int 0, .int 0, .int 0, .ref rx, .ref ry, .int 0, m8, m9, m10, m11, m12, m13, m14, .int 0, m16, m17, m18, m19, m20, m21, m22, m23, m24, .int 0, m26, m27, m28, m29, .int 0, .int 0, m32, .int 0, m34, m35, .int 0, m37, m38, .int 0, m40, m41])), (rx, .inl (cX, 32, .inl (fun _ => 0))), (ry, .inl (cY, 32, .inl (fun _ => 0))), (ho, .inl (cL, 1, .inr (.inl (fun _ => 0))))]) (hS : va_S A s.heap H locs) (hl : lv_has ls 7 [(4, .int 0), (3, .ref ho), (2, .ref hm), (1, .ref h), (0, .ref b)]) : W p l e room_1 s m #[Value.ref b] below meth c H locs 61 60361 (lw_Z below #[Value.ref b] s) (F0 m 407 ls []) := by
  have hbA : ¬ A b := fun h => absurd (hA2 b h) (Nat.not_le.mpr hbl)
  have hN : ∀ (a : Nat) (cell : Cell), s.heap[a]? = some cell → cell.vm.isStatics = true → ¬ A a := fun a cell h1 _ h3 => absurd (hA2 a h3) (Nat.not_le.mpr (Array.getElem?_eq_some_iff.mp h1).1)
  refine lv_aload_n hx hb d_law_407 rfl (lv_at hl 3 rfl) ?_
  refine lv_aload_n hx hb d_law_408 rfl (lv_at hl 4 rfl) ?_
  refine lv_iload hx hb d_law_409 (lv_at hl 0 rfl) ?_
  refine lv_iconst (v := 1) hx hb d_law_411 (by decide) ?_
  refine lv_iadd hx hb d_law_412 ?_
  refine va_sld hx hb hX hbl hbA hS (i := (0 + 1)) (by unfold vp_in; decide) d_law_413 ?_
  refine lv_aload_n hx hb d_law_414 rfl (lv_at hl 4 rfl) ?_
  refine lv_iload hx hb d_law_415 (lv_at hl 0 rfl) ?_
  refine lv_iconst (v := 2) hx hb d_law_417 (by decide) ?_
  refine lv_iadd hx hb d_law_418 ?_
  refine va_sld hx hb hX hbl hbA hS (i := (0 + 2)) (by unfold vp_in; decide) d_law_419 ?_
  refine lv_aload_n hx hb d_law_420 rfl (lv_at hl 4 rfl) ?_
  refine lv_iload hx hb d_law_421 (lv_at hl 0 rfl) ?_
  refine lv_iconst (v := 3) hx hb d_law_423 (by decide) ?_
  refine lv_iadd hx hb d_law_424 ?_
  refine va_sld hx hb hX hbl hbA hS (i := (0 + 3)) (by unfold vp_in; decide) d_law_425 ?_
  refine lv_aload_n hx hb d_law_426 rfl (lv_at hl 4 rfl) ?_
  refine lv_iload hx hb d_law_427 (lv_at hl 0 rfl) ?_
  refine lv_iconst (v := 4) hx hb d_law_429 (by decide) ?_
  refine lv_iadd hx hb d_law_430 ?_
  refine va_sld hx hb hX hbl hbA hS (i := (0 + 4)) (by unfold vp_in; decide) d_law_431 ?_
  refine lv_aload_n hx hb d_law_432 rfl (lv_at hl 4 rfl) ?_
  refine lv_iload hx hb d_law_433 (lv_at hl 0 rfl) ?_
  refine lv_iconst (v := 5) hx hb d_law_435 (by decide) ?_
  refine lv_iadd hx hb d_law_436 ?_
  refine va_sld hx hb hX hbl hbA hS (i := (0 + 5)) (by unfold vp_in; decide) d_law_437 ?_
  refine lv_aload_n hx hb d_law_438 rfl (lv_at hl 4 rfl) ?_
  refine lv_iload hx hb d_law_439 (lv_at hl 0 rfl) ?_
  refine lv_bipush (v := 6) hx hb d_law_441 (by decide) ?_
  refine lv_iadd hx hb d_law_443 ?_
  refine va_sld hx hb hX hbl hbA hS (i := (0 + 6)) (by unfold vp_in; decide) d_law_444 ?_
  refine lv_aload_n hx hb d_law_445 rfl (lv_at hl 1 rfl) ?_
  have hPc := hP.sub (ws' := [(h, .inr (0, [.ref ro, .ref ch, v2, v3, .ref rg, .ref lg, .int 0, .int 0])), (ro, .inr (1, [.ref ra, .int 0])), (ra, .inl (cI, 32, .inl (fun _ => 0))), (ch, .inr (1, [ca, .int 0])), (rg, .inr (4, [.ref dl, .ref ll, .ref el, w3, w4])), (dl, .inr (6, [x0, .int 0, y0])), (ll, .inr (6, [x1, .int 0, y1])), (el, .inr (6, [x2, .int 0, y2])), (lg, .inr (5, [z0, .int 0, .int 0])), (ho, .inl (cL, 1, .inr (.inl (fun _ => 0))))]) [0, 1, 2, 3, 4, 5, 6, 7, 8, 12] rfl
  have hDc := hD.sub (ws' := [(h, .inr (0, [.ref ro, .ref ch, v2, v3, .ref rg, .ref lg, .int 0, .int 0])), (ro, .inr (1, [.ref ra, .int 0])), (ra, .inl (cI, 32, .inl (fun _ => 0))), (ch, .inr (1, [ca, .int 0])), (rg, .inr (4, [.ref dl, .ref ll, .ref el, w3, w4])), (dl, .inr (6, [x0, .int 0, y0])), (ll, .inr (6, [x1, .int 0, y1])), (el, .inr (6, [x2, .int 0, y2])), (lg, .inr (5, [z0, .int 0, .int 0])), (ho, .inl (cL, 1, .inr (.inl (fun _ => 0))))]) [0, 1, 2, 3, 4, 5, 6, 7, 8, 12] (by decide) rfl
  have hKc := hK.sub (tys' := [(cI, .int), (cL, .long)]) [0, 3] rfl
  have hFc := va_free (wc := [(h, .inr (0, [.ref ro, .ref ch, v2, v3, .ref rg, .ref lg, .int 0, .int 0])), (ro, .inr (1, [.ref ra, .int 0])), (ra, .inl (cI, 32, .inl (fun _ => 0))), (ch, .inr (1, [ca, .int 0])), (rg, .inr (4, [.ref dl, .ref ll, .ref el, w3, w4])), (dl, .inr (6, [x0, .int 0, y0])), (ll, .inr (6, [x1, .int 0, y1])), (el, .inr (6, [x2, .int 0, y2])), (lg, .inr (5, [z0, .int 0, .int 0])), (ho, .inl (cL, 1, .inr (.inl (fun _ => 0))))]) hD hS hA [0, 1, 2, 3, 4, 5, 6, 7, 8, 12] rfl
  refine va_calli (tw_runSW (n := 8) (As := [.ref h, .int (xs (Int32.toNatClampNeg (0 + 1))), .int (xs (Int32.toNatClampNeg (0 + 2))), .int (xs (Int32.toNatClampNeg (0 + 3))), .int (xs (Int32.toNatClampNeg (0 + 4))), .int (xs (Int32.toNatClampNeg (0 + 5))), .int (xs (Int32.toNatClampNeg (0 + 6))), .ref ho]) (rest := []) ⟨hx, hb, hml, hown, hts⟩ (c_law_transfer l hfl dC dI h H.size ro ra ch rg dl ll el lg ho cI cL (fun _ => 0) (fun _ => 0) v2 v3 ca w3 w4 x0 y0 x1 y1 x2 y2 z0 ((xs (Int32.toNatClampNeg (0 + 1)))) ((xs (Int32.toNatClampNeg (0 + 2)))) ((xs (Int32.toNatClampNeg (0 + 3)))) ((xs (Int32.toNatClampNeg (0 + 4)))) ((xs (Int32.toNatClampNeg (0 + 5)))) ((xs (Int32.toNatClampNeg (0 + 6))))) (tw_gc tk_408) rfl rfl rfl ⟨Nat.le_of_ble_eq_true rfl, Nat.le_of_ble_eq_true rfl⟩ (hts _ tk_376) (hts _ tk_409) (hts _ tk_410) (by decide +kernel) (tw_s4E hPc hKc hDc hE (tw_kst hN hS)) rfl rfl hl.1 rfl (lv_room (Nat.le_of_ble_eq_true rfl)) d_law_446 ⟨by show 62 ≤ 600002; decide, by show 60367 ≤ 7302232; decide⟩) hS (fun q _ h => hFc q h) hFc (fun rk u t H1 locs ht hvm hk9 hB hz1 hk1 hS => ?_)
  obtain ⟨hP1, hK1, hD1⟩ := hB
  rw [ht] at hP1
  obtain ⟨hP, hD⟩ := va_join (wr := [(hm, .inr (7, [.int 0, .int 0, .int 0, .int 0, .int 0, .ref rx, .ref ry, .int 0, m8, m9, m10, m11, m12, m13, m14, .int 0, m16, m17, m18, m19, m20, m21, m22, m23, m24, .int 0, m26, m27, m28, m29, .int 0, .int 0, m32, .int 0, m34, m35, .int 0, m37, m38, .int 0, m40, m41])), (rx, .inl (cX, 32, .inl (fun _ => 0))), (ry, .inl (cY, 32, .inl (fun _ => 0)))]) (w1 := [(ho, .inl (cL, 1, .inr (.inl (u))))]) hP hD [0, 1, 2, 3, 4, 5, 6, 7, 8, 12] [9, 10, 11] rfl rfl (by decide) (by decide) hk1 hFc hP1 hD1
  generalize H1 = H at hP hS ⊢
  have hP : va_P (dC, dI) classes [(hm, .inr (7, [.int 0, .int 0, .int 0, .int 0, .int 0, .ref rx, .ref ry, .int 0, m8, m9, m10, m11, m12, m13, m14, .int 0, m16, m17, m18, m19, m20, m21, m22, m23, m24, .int 0, m26, m27, m28, m29, .int 0, .int 0, m32, .int 0, m34, m35, .int 0, m37, m38, .int 0, m40, m41])), (rx, .inl (cX, 32, .inl (fun _ => 0))), (ry, .inl (cY, 32, .inl (fun _ => 0))), (ho, .inl (cL, 1, .inr (.inl (u))))] H := hP
  have hD : va_D A [(hm, .inr (7, [.int 0, .int 0, .int 0, .int 0, .int 0, .ref rx, .ref ry, .int 0, m8, m9, m10, m11, m12, m13, m14, .int 0, m16, m17, m18, m19, m20, m21, m22, m23, m24, .int 0, m26, m27, m28, m29, .int 0, .int 0, m32, .int 0, m34, m35, .int 0, m37, m38, .int 0, m40, m41])), (rx, .inl (cX, 32, .inl (fun _ => 0))), (ry, .inl (cY, 32, .inl (fun _ => 0))), (ho, .inl (cL, 1, .inr (.inl (u))))] := hD
  have hk9 : rk = 1 := hk9
  have hk9 := hk9.symm
  subst hk9
  refine lv_istore (lv' := [(5, .int 1), (4, .int 0), (3, .ref ho), (2, .ref hm), (1, .ref h), (0, .ref b)]) hx hb d_law_449 hl (by decide) rfl (fun ls hl => ?_)
  refine lv_aload_n hx hb d_law_451 rfl (lv_at hl 3 rfl) ?_
  refine lv_aload_n hx hb d_law_452 rfl (lv_at hl 5 rfl) ?_
  refine lv_iload hx hb d_law_453 (lv_at hl 1 rfl) ?_
  refine lv_iconst (v := 1) hx hb d_law_455 (by decide) ?_
  refine lv_iadd hx hb d_law_456 ?_
  refine va_sld hx hb hX hbl hbA hS (i := (0 + 1)) (by unfold vp_in; decide) d_law_457 ?_
  refine lv_aload_n hx hb d_law_458 rfl (lv_at hl 5 rfl) ?_
  refine lv_iload hx hb d_law_459 (lv_at hl 1 rfl) ?_
  refine lv_iconst (v := 2) hx hb d_law_461 (by decide) ?_
  refine lv_iadd hx hb d_law_462 ?_
  refine va_sld hx hb hX hbl hbA hS (i := (0 + 2)) (by unfold vp_in; decide) d_law_463 ?_
  refine lv_aload_n hx hb d_law_464 rfl (lv_at hl 5 rfl) ?_
  refine lv_iload hx hb d_law_465 (lv_at hl 1 rfl) ?_
  refine lv_iconst (v := 3) hx hb d_law_467 (by decide) ?_
  refine lv_iadd hx hb d_law_468 ?_
  refine va_sld hx hb hX hbl hbA hS (i := (0 + 3)) (by unfold vp_in; decide) d_law_469 ?_
  refine lv_aload_n hx hb d_law_470 rfl (lv_at hl 5 rfl) ?_
  refine lv_iload hx hb d_law_471 (lv_at hl 1 rfl) ?_
  refine lv_iconst (v := 4) hx hb d_law_473 (by decide) ?_
  refine lv_iadd hx hb d_law_474 ?_
  refine va_sld hx hb hX hbl hbA hS (i := (0 + 4)) (by unfold vp_in; decide) d_law_475 ?_
  refine lv_aload_n hx hb d_law_476 rfl (lv_at hl 5 rfl) ?_
  refine lv_iload hx hb d_law_477 (lv_at hl 1 rfl) ?_
  refine lv_iconst (v := 5) hx hb d_law_479 (by decide) ?_
  refine lv_iadd hx hb d_law_480 ?_
  refine va_sld hx hb hX hbl hbA hS (i := (0 + 5)) (by unfold vp_in; decide) d_law_481 ?_
  refine lv_aload_n hx hb d_law_482 rfl (lv_at hl 5 rfl) ?_
  refine lv_iload hx hb d_law_483 (lv_at hl 1 rfl) ?_
  refine lv_bipush (v := 6) hx hb d_law_485 (by decide) ?_
  refine lv_iadd hx hb d_law_487 ?_
  refine va_sld hx hb hX hbl hbA hS (i := (0 + 6)) (by unfold vp_in; decide) d_law_488 ?_
  have hPc := hP.sub (ws' := [(hm, .inr (7, [.int 0, .int 0, .int 0, .int 0, .int 0, .ref rx, .ref ry, .int 0, m8, m9, m10, m11, m12, m13, m14, .int 0, m16, m17, m18, m19, m20, m21, m22, m23, m24, .int 0, m26, m27, m28, m29, .int 0, .int 0, m32, .int 0, m34, m35, .int 0, m37, m38, .int 0, m40, m41]))]) [0] rfl
  have hDc := hD.sub (ws' := [(hm, .inr (7, [.int 0, .int 0, .int 0, .int 0, .int 0, .ref rx, .ref ry, .int 0, m8, m9, m10, m11, m12, m13, m14, .int 0, m16, m17, m18, m19, m20, m21, m22, m23, m24, .int 0, m26, m27, m28, m29, .int 0, .int 0, m32, .int 0, m34, m35, .int 0, m37, m38, .int 0, m40, m41]))]) [0] (by decide) rfl
  have hKc := hK.sub (tys' := []) [] rfl
  have hFc := va_free (wc := [(hm, .inr (7, [.int 0, .int 0, .int 0, .int 0, .int 0, .ref rx, .ref ry, .int 0, m8, m9, m10, m11, m12, m13, m14, .int 0, m16, m17, m18, m19, m20, m21, m22, m23, m24, .int 0, m26, m27, m28, m29, .int 0, .int 0, m32, .int 0, m34, m35, .int 0, m37, m38, .int 0, m40, m41]))]) hD hS hA [0] rfl
  refine va_calli (va_runV (As := [.int (xs (Int32.toNatClampNeg (0 + 1))), .int (xs (Int32.toNatClampNeg (0 + 2))), .int (xs (Int32.toNatClampNeg (0 + 3))), .int (xs (Int32.toNatClampNeg (0 + 4))), .int (xs (Int32.toNatClampNeg (0 + 5))), .int (xs (Int32.toNatClampNeg (0 + 6)))]) (rest := []) ⟨hx, hb, hml, hown, hts⟩ (c_M_transfer l dC dI hm H.size 0 (.ref rx) (.ref ry) m8 m9 m10 m11 m12 m13 m14 m16 m17 m18 m19 m20 m21 m22 m23 m24 m26 m27 m28 m29 m32 m34 m35 m37 m38 m40 m41 ((xs (Int32.toNatClampNeg (0 + 1)))) ((xs (Int32.toNatClampNeg (0 + 2)))) ((xs (Int32.toNatClampNeg (0 + 3)))) ((xs (Int32.toNatClampNeg (0 + 4)))) ((xs (Int32.toNatClampNeg (0 + 5)))) ((xs (Int32.toNatClampNeg (0 + 6))))) (cwV 6 hts (tw_gV tk_411 tk_412 tk_413 tk_249 tk_414) rfl rfl rfl (by decide +kernel) ⟨Nat.le_of_ble_eq_true rfl, Nat.le_of_ble_eq_true rfl⟩) (tw_v4 (va_recv (q0 := 0) hK hP rfl rfl) hPc hKc hDc) rfl rfl hl.1 rfl (lv_room (Nat.le_of_ble_eq_true rfl)) d_law_489 ⟨by show 62 ≤ 600002; decide, by show 60367 ≤ 7302232; decide⟩) hS (fun q _ h => hFc q h) hFc (fun rm w9 t H1 locs ht hvm hm9 hB hz1 hk1 hS => ?_)
  obtain ⟨tm, fs⟩ := w9
  obtain ⟨hP1, hK1, hD1⟩ := hB
  rw [ht] at hP1
  obtain ⟨hP, hD⟩ := va_join (wr := [(rx, .inl (cX, 32, .inl (fun _ => 0))), (ry, .inl (cY, 32, .inl (fun _ => 0))), (ho, .inl (cL, 1, .inr (.inl (u))))]) (w1 := [(hm, .inr (7, .int tm :: fs))]) hP hD [0] [1, 2, 3] rfl rfl (by decide) (by decide) hk1 hFc hP1 hD1
  generalize H1 = H at hP hS ⊢
  have hP : va_P (dC, dI) classes [(rx, .inl (cX, 32, .inl (fun _ => 0))), (ry, .inl (cY, 32, .inl (fun _ => 0))), (ho, .inl (cL, 1, .inr (.inl (u)))), (hm, .inr (7, .int tm :: fs))] H := hP
  have hD : va_D A [(rx, .inl (cX, 32, .inl (fun _ => 0))), (ry, .inl (cY, 32, .inl (fun _ => 0))), (ho, .inl (cL, 1, .inr (.inl (u)))), (hm, .inr (7, .int tm :: fs))] := hD
  have hm9 : tm = 1 := hm9
  have hm9 := hm9.symm
  subst hm9
  refine lv_istore (lv' := [(6, .int rm), (5, .int 1), (4, .int 0), (3, .ref ho), (2, .ref hm), (1, .ref h), (0, .ref b)]) hx hb d_law_492 hl (by decide) rfl (fun ls hl => ?_)
  refine lv_aload_n hx hb d_law_494 rfl (lv_at hl 4 rfl) ?_
  refine vp_callSi (W.runV (As := []) (rest := []) ⟨hx, hb, hml, hown, hts⟩ (c_M_thrown l dC dI hm 1 fs) (cwV 0 hts (tw_gV tk_383 tk_384 tk_385 tk_249 tk_386) rfl rfl rfl (by decide +kernel) ⟨Nat.le_of_ble_eq_true rfl, Nat.le_of_ble_eq_true rfl⟩) (tw_v2 (va_recv (q0 := 3) hK hP rfl rfl) (hP.sub (ws' := [(hm, .inr (7, .int 1 :: fs))]) [3] rfl) (hK.sub (tys' := []) [] rfl)) rfl rfl hl.1 rfl (lv_room (Nat.le_of_ble_eq_true rfl)) d_law_495 ⟨by show 62 ≤ 600002; decide, by show 60367 ≤ 7302232; decide⟩) (fun r1 e2 => ?_)
  have e2 := e2.symm
  subst e2
  refine lv_iload hx hb d_law_498 (lv_at hl 1 rfl) ?_
  refine lv_icmp_eq (tgt := 505) hx hb d_law_500 (by decide) (fun h3 => ?_) (fun h3 => absurd (by decide) h3)
  refine lv_iload hx hb d_law_505 (lv_at hl 1 rfl) ?_
  refine lv_if_ne (tgt := 522) hx hb d_law_507 (by decide) (fun h4 => ?_) (fun h4 => absurd h4 (by decide))
  refine lv_goto (tgt := 1637) hx hb d_law_522 (by decide) ?_
  refine lv_iinc (k := 2) (v := 7) (lv' := [(4, .int 7), (6, .int rm), (5, .int 1), (3, .ref ho), (2, .ref hm), (1, .ref h), (0, .ref b)]) hx hb d_law_1637 hl rfl (by decide) (by decide) rfl (fun ls hl => ?_)
  refine lv_goto (tgt := 23) hx hb d_law_1640 (by decide) ?_
  refine lv_iload hx hb d_law_23 (lv_at hl 0 rfl) ?_
  refine lv_aload_n hx hb d_law_25 rfl (lv_at hl 6 rfl) ?_
  refine va_slen hx hb hX hbl hbA hS d_law_26 ?_
  refine lv_bipush (v := 7) hx hb d_law_27 (by decide) ?_
  refine lv_isub hx hb d_law_29 ?_
  refine lv_icmp_gt (tgt := 1643) hx hb d_law_30 (by decide) (fun h5 => ?_) (fun h5 => absurd (by decide) h5)
  refine lv_iconst (v := 1) hx hb d_law_1643 (by decide) ?_
  refine va_forget (fun q hq => hA2 _ (hS.2.2 q hq)) ?_
  refine W.widen (k := 600002) (n := 7302232) (by decide) (by decide) ?_
  exact lw_ret hx hb hr hlocks d_law_1644
theorem tk_415 : (Jvm.Cond.codeWith ({ cls := "LandBookLaw", name := "ease", desc := "(LLandBook;III[J)I" } : Jvm.MethodName) method_8_code (6 : Nat) (Option.some Jvm.ClassFile.FieldType.int) [((0 : Nat), (12 : Nat), (15 : Nat), (21 : Nat)), ((0 : Nat), (12 : Nat), (19 : Nat), (26 : Nat)), ((0 : Nat), (12 : Nat), (23 : Nat), (13 : Nat))]) ∈ tw_G := tw_in (List.mem_of_getElem? (i := 838) (by decide +kernel)) rfl
theorem tk_416 : (Jvm.Cond.methodLink "LandBookLaw" (115 : Nat) ({ cls := "LandBookLaw", name := "ease", desc := "(LLandBook;III[J)I" } : Jvm.MethodName)) ∈ tw_G := tw_in (List.mem_of_getElem? (i := 836) (by decide +kernel)) rfl
theorem tk_417 : (Jvm.Cond.static ({ cls := "LandBookLaw", name := "ease", desc := "(LLandBook;III[J)I" } : Jvm.MethodName)) ∈ tw_G := tw_in (List.mem_of_getElem? (i := 837) (by decide +kernel)) rfl
theorem tk_418 : (Jvm.Cond.methodLink "LandBookLaw" (117 : Nat) ({ cls := "LandBookModel", name := "ease", desc := "(III)I" } : Jvm.MethodName)) ∈ tw_G := tw_in (List.mem_of_getElem? (i := 1389) (by decide +kernel)) rfl
theorem tk_419 : (Jvm.Cond.instanceMethod ({ cls := "LandBookModel", name := "ease", desc := "(III)I" } : Jvm.MethodName)) ∈ tw_G := tw_in (List.mem_of_getElem? (i := 1390) (by decide +kernel)) rfl
theorem tk_420 : (Jvm.Cond.selects "LandBookModel" ({ cls := "LandBookModel", name := "ease", desc := "(III)I" } : Jvm.MethodName) ({ cls := "LandBookModel", name := "ease", desc := "(III)I" } : Jvm.MethodName)) ∈ tw_G := tw_in (List.mem_of_getElem? (i := 1391) (by decide +kernel)) rfl
theorem tk_421 : (Jvm.Cond.code ({ cls := "LandBookModel", name := "ease", desc := "(III)I" } : Jvm.MethodName) prog_13_method_58_code (5 : Nat) (Option.some Jvm.ClassFile.FieldType.int)) ∈ tw_G := tw_in (List.mem_of_getElem? (i := 1392) (by decide +kernel)) rfl
set_option maxHeartbeats 4000000 in
set_option maxRecDepth 100000 in
theorem lw_case_5 {p : Program} {e : Env} {s : State} {m : MethodId} {below : List Frame} {meth : Method} {c : Code} (l : Launch) (hfl : l.flags = pinnedFlags ++ [noTraceFlag]) {b : Nat} {xs : Nat → Int32} (hx : p.tables.exec = Jvm.exec) (hb : c.code = code) (hr : meth.sig.returnType = ret) (hml : c.maxLocals = 7) (hown : s.vm.findClass "LandBookLaw" = some m.cls) (hts : ∀ w ∈ tw_G, w.before #[Value.ref b] s = true) (hX : va_X b 7 xs s s.heap) (hbl : b < s.heap.size) (hlocks : meth.locks = false) (hE : lb_E s) {A : Nat → Prop} (hA : ∀ q : Nat, s.heap.size ≤ q → A q) (hA2 : ∀ q : Nat, A q → s.heap.size ≤ q) {dC : Nat → ClassId} {dI : Nat → Nat → Nat} {h ro ra ch rg dl ll el lg hm rx ry ho : Nat} {cI cX cY cL : ClassId} {v2 v3 ca w3 w4 x0 y0 x1 y1 x2 y2 z0 m8 m9 m10 m11 m12 m13 m14 m16 m17 m18 m19 m20 m21 m22 m23 m24 m26 m27 m28 m29 m32 m34 m35 m37 m38 m40 m41 : Value} {H : Heap} {locs : List Loc} {ls : Array Slot} (hK : va_K (dC, dI) classes [(cI, .int), (cX, .int), (cY, .int), (cL, .long)] s) (hP : va_P (dC, dI) classes [(h, .inr (0, [.ref ro, .ref ch, v2, v3, .ref rg, .ref lg, .int 0, .int 0])), (ro, .inr (1, [.ref ra, .int 0])), (ra, .inl (cI, 32, .inl (fun _ => 0))), (ch, .inr (1, [ca, .int 0])), (rg, .inr (4, [.ref dl, .ref ll, .ref el, w3, w4])), (dl, .inr (6, [x0, .int 0, y0])), (ll, .inr (6, [x1, .int 0, y1])), (el, .inr (6, [x2, .int 0, y2])), (lg, .inr (5, [z0, .int 0, .int 0])), (hm, .inr (7, [.int 0, .int 0, .int 0, .int 0, .int 0, .ref rx, .ref ry, .int 0, m8, m9, m10, m11, m12, m13, m14, .int 0, m16, m17, m18, m19, m20, m21, m22, m23, m24, .int 0, m26, m27, m28, m29, .int 0, .int 0, m32, .int 0, m34, m35, .int 0, m37, m38, .int 0, m40, m41])), (rx, .inl (cX, 32, .inl (fun _ => 0))), (ry, .inl (cY, 32, .inl (fun _ => 0))), (ho, .inl (cL, 1, .inr (.inl (fun _ => 0))))] H) (hD : va_D A [(h, .inr (0, [.ref ro, .ref ch, v2, v3, .ref rg, .ref lg, .int 0, .int 0])), (ro, .inr (1, [.ref ra, .int 0])), (ra, .inl (cI, 32, .inl (fun _ => 0))), (ch, .inr (1, [ca, .int 0])), (rg, .inr (4, [.ref dl, .ref ll, .ref el, w3, w4])), (dl, .inr (6, [x0, .int 0, y0])), (ll, .inr (6, [x1, .int 0, y1])), (el, .inr (6, [x2, .int 0, y2])), (lg, .inr (5, [z0, .int 0, .int 0])), (hm, .inr (7, [.int 0, .int 0, .int 0, .int 0, .int 0, .ref rx, .ref ry, .int 0, m8, m9, m10, m11, m12, m13, m14, .int 0, m16, m17, m18, m19, m20, m21, m22, m23, m24, .int 0, m26, m27, m28, m29, .int 0, .int 0, m32, .int 0, m34, m35, .int 0, m37, m38, .int 0, m40, m41])), (rx, .inl (cX, 32, .inl (fun _ => 0))), (ry, .inl (cY, 32, .inl (fun _ => 0))), (ho, .inl (cL, 1, .inr (.inl (fun _ => 0))))]) (hS : va_S A s.heap H locs) (hl : lv_has ls 7 [(4, .int 0), (3, .ref ho), (2, .ref hm), (1, .ref h), (0, .ref b)]) : W p l e room_1 s m #[Value.ref b] below meth c H locs 61 60361 (lw_Z below #[Value.ref b] s) (F0 m 525 ls []) := by
  have hbA : ¬ A b := fun h => absurd (hA2 b h) (Nat.not_le.mpr hbl)
  have hN : ∀ (a : Nat) (cell : Cell), s.heap[a]? = some cell → cell.vm.isStatics = true → ¬ A a := fun a cell h1 _ h3 => absurd (hA2 a h3) (Nat.not_le.mpr (Array.getElem?_eq_some_iff.mp h1).1)
  refine lv_aload_n hx hb d_law_525 rfl (lv_at hl 3 rfl) ?_
  refine lv_aload_n hx hb d_law_526 rfl (lv_at hl 4 rfl) ?_
  refine lv_iload hx hb d_law_527 (lv_at hl 0 rfl) ?_
  refine lv_iconst (v := 1) hx hb d_law_529 (by decide) ?_
  refine lv_iadd hx hb d_law_530 ?_
  refine va_sld hx hb hX hbl hbA hS (i := (0 + 1)) (by unfold vp_in; decide) d_law_531 ?_
  refine lv_aload_n hx hb d_law_532 rfl (lv_at hl 4 rfl) ?_
  refine lv_iload hx hb d_law_533 (lv_at hl 0 rfl) ?_
  refine lv_iconst (v := 2) hx hb d_law_535 (by decide) ?_
  refine lv_iadd hx hb d_law_536 ?_
  refine va_sld hx hb hX hbl hbA hS (i := (0 + 2)) (by unfold vp_in; decide) d_law_537 ?_
  refine lv_aload_n hx hb d_law_538 rfl (lv_at hl 4 rfl) ?_
  refine lv_iload hx hb d_law_539 (lv_at hl 0 rfl) ?_
  refine lv_iconst (v := 3) hx hb d_law_541 (by decide) ?_
  refine lv_iadd hx hb d_law_542 ?_
  refine va_sld hx hb hX hbl hbA hS (i := (0 + 3)) (by unfold vp_in; decide) d_law_543 ?_
  refine lv_aload_n hx hb d_law_544 rfl (lv_at hl 1 rfl) ?_
  have hPc := hP.sub (ws' := [(h, .inr (0, [.ref ro, .ref ch, v2, v3, .ref rg, .ref lg, .int 0, .int 0])), (ro, .inr (1, [.ref ra, .int 0])), (ra, .inl (cI, 32, .inl (fun _ => 0))), (ch, .inr (1, [ca, .int 0])), (rg, .inr (4, [.ref dl, .ref ll, .ref el, w3, w4])), (dl, .inr (6, [x0, .int 0, y0])), (ll, .inr (6, [x1, .int 0, y1])), (el, .inr (6, [x2, .int 0, y2])), (lg, .inr (5, [z0, .int 0, .int 0])), (ho, .inl (cL, 1, .inr (.inl (fun _ => 0))))]) [0, 1, 2, 3, 4, 5, 6, 7, 8, 12] rfl
  have hDc := hD.sub (ws' := [(h, .inr (0, [.ref ro, .ref ch, v2, v3, .ref rg, .ref lg, .int 0, .int 0])), (ro, .inr (1, [.ref ra, .int 0])), (ra, .inl (cI, 32, .inl (fun _ => 0))), (ch, .inr (1, [ca, .int 0])), (rg, .inr (4, [.ref dl, .ref ll, .ref el, w3, w4])), (dl, .inr (6, [x0, .int 0, y0])), (ll, .inr (6, [x1, .int 0, y1])), (el, .inr (6, [x2, .int 0, y2])), (lg, .inr (5, [z0, .int 0, .int 0])), (ho, .inl (cL, 1, .inr (.inl (fun _ => 0))))]) [0, 1, 2, 3, 4, 5, 6, 7, 8, 12] (by decide) rfl
  have hKc := hK.sub (tys' := [(cI, .int), (cL, .long)]) [0, 3] rfl
  have hFc := va_free (wc := [(h, .inr (0, [.ref ro, .ref ch, v2, v3, .ref rg, .ref lg, .int 0, .int 0])), (ro, .inr (1, [.ref ra, .int 0])), (ra, .inl (cI, 32, .inl (fun _ => 0))), (ch, .inr (1, [ca, .int 0])), (rg, .inr (4, [.ref dl, .ref ll, .ref el, w3, w4])), (dl, .inr (6, [x0, .int 0, y0])), (ll, .inr (6, [x1, .int 0, y1])), (el, .inr (6, [x2, .int 0, y2])), (lg, .inr (5, [z0, .int 0, .int 0])), (ho, .inl (cL, 1, .inr (.inl (fun _ => 0))))]) hD hS hA [0, 1, 2, 3, 4, 5, 6, 7, 8, 12] rfl
  refine va_calli (tw_runSW (n := 5) (As := [.ref h, .int (xs (Int32.toNatClampNeg (0 + 1))), .int (xs (Int32.toNatClampNeg (0 + 2))), .int (xs (Int32.toNatClampNeg (0 + 3))), .ref ho]) (rest := []) ⟨hx, hb, hml, hown, hts⟩ (c_law_ease l hfl dC dI h H.size ro ra ch rg dl ll el lg ho cI cL (fun _ => 0) (fun _ => 0) v2 v3 ca w3 w4 x0 y0 x1 y1 x2 y2 z0 ((xs (Int32.toNatClampNeg (0 + 1)))) ((xs (Int32.toNatClampNeg (0 + 2)))) ((xs (Int32.toNatClampNeg (0 + 3))))) (tw_gc tk_415) rfl rfl rfl ⟨Nat.le_of_ble_eq_true rfl, Nat.le_of_ble_eq_true rfl⟩ (hts _ tk_376) (hts _ tk_416) (hts _ tk_417) (by decide +kernel) (tw_s4E hPc hKc hDc hE (tw_kst hN hS)) rfl rfl hl.1 rfl (lv_room (Nat.le_of_ble_eq_true rfl)) d_law_545 ⟨by show 62 ≤ 600002; decide, by show 60367 ≤ 7302232; decide⟩) hS (fun q _ h => hFc q h) hFc (fun rk u t H1 locs ht hvm hk9 hB hz1 hk1 hS => ?_)
  obtain ⟨hP1, hK1, hD1⟩ := hB
  rw [ht] at hP1
  obtain ⟨hP, hD⟩ := va_join (wr := [(hm, .inr (7, [.int 0, .int 0, .int 0, .int 0, .int 0, .ref rx, .ref ry, .int 0, m8, m9, m10, m11, m12, m13, m14, .int 0, m16, m17, m18, m19, m20, m21, m22, m23, m24, .int 0, m26, m27, m28, m29, .int 0, .int 0, m32, .int 0, m34, m35, .int 0, m37, m38, .int 0, m40, m41])), (rx, .inl (cX, 32, .inl (fun _ => 0))), (ry, .inl (cY, 32, .inl (fun _ => 0)))]) (w1 := [(ho, .inl (cL, 1, .inr (.inl (u))))]) hP hD [0, 1, 2, 3, 4, 5, 6, 7, 8, 12] [9, 10, 11] rfl rfl (by decide) (by decide) hk1 hFc hP1 hD1
  generalize H1 = H at hP hS ⊢
  have hP : va_P (dC, dI) classes [(hm, .inr (7, [.int 0, .int 0, .int 0, .int 0, .int 0, .ref rx, .ref ry, .int 0, m8, m9, m10, m11, m12, m13, m14, .int 0, m16, m17, m18, m19, m20, m21, m22, m23, m24, .int 0, m26, m27, m28, m29, .int 0, .int 0, m32, .int 0, m34, m35, .int 0, m37, m38, .int 0, m40, m41])), (rx, .inl (cX, 32, .inl (fun _ => 0))), (ry, .inl (cY, 32, .inl (fun _ => 0))), (ho, .inl (cL, 1, .inr (.inl (u))))] H := hP
  have hD : va_D A [(hm, .inr (7, [.int 0, .int 0, .int 0, .int 0, .int 0, .ref rx, .ref ry, .int 0, m8, m9, m10, m11, m12, m13, m14, .int 0, m16, m17, m18, m19, m20, m21, m22, m23, m24, .int 0, m26, m27, m28, m29, .int 0, .int 0, m32, .int 0, m34, m35, .int 0, m37, m38, .int 0, m40, m41])), (rx, .inl (cX, 32, .inl (fun _ => 0))), (ry, .inl (cY, 32, .inl (fun _ => 0))), (ho, .inl (cL, 1, .inr (.inl (u))))] := hD
  have hk9 : rk = 1 := hk9
  have hk9 := hk9.symm
  subst hk9
  refine lv_istore (lv' := [(5, .int 1), (4, .int 0), (3, .ref ho), (2, .ref hm), (1, .ref h), (0, .ref b)]) hx hb d_law_548 hl (by decide) rfl (fun ls hl => ?_)
  refine lv_aload_n hx hb d_law_550 rfl (lv_at hl 3 rfl) ?_
  refine lv_aload_n hx hb d_law_551 rfl (lv_at hl 5 rfl) ?_
  refine lv_iload hx hb d_law_552 (lv_at hl 1 rfl) ?_
  refine lv_iconst (v := 1) hx hb d_law_554 (by decide) ?_
  refine lv_iadd hx hb d_law_555 ?_
  refine va_sld hx hb hX hbl hbA hS (i := (0 + 1)) (by unfold vp_in; decide) d_law_556 ?_
  refine lv_aload_n hx hb d_law_557 rfl (lv_at hl 5 rfl) ?_
  refine lv_iload hx hb d_law_558 (lv_at hl 1 rfl) ?_
  refine lv_iconst (v := 2) hx hb d_law_560 (by decide) ?_
  refine lv_iadd hx hb d_law_561 ?_
  refine va_sld hx hb hX hbl hbA hS (i := (0 + 2)) (by unfold vp_in; decide) d_law_562 ?_
  refine lv_aload_n hx hb d_law_563 rfl (lv_at hl 5 rfl) ?_
  refine lv_iload hx hb d_law_564 (lv_at hl 1 rfl) ?_
  refine lv_iconst (v := 3) hx hb d_law_566 (by decide) ?_
  refine lv_iadd hx hb d_law_567 ?_
  refine va_sld hx hb hX hbl hbA hS (i := (0 + 3)) (by unfold vp_in; decide) d_law_568 ?_
  have hPc := hP.sub (ws' := [(hm, .inr (7, [.int 0, .int 0, .int 0, .int 0, .int 0, .ref rx, .ref ry, .int 0, m8, m9, m10, m11, m12, m13, m14, .int 0, m16, m17, m18, m19, m20, m21, m22, m23, m24, .int 0, m26, m27, m28, m29, .int 0, .int 0, m32, .int 0, m34, m35, .int 0, m37, m38, .int 0, m40, m41]))]) [0] rfl
  have hDc := hD.sub (ws' := [(hm, .inr (7, [.int 0, .int 0, .int 0, .int 0, .int 0, .ref rx, .ref ry, .int 0, m8, m9, m10, m11, m12, m13, m14, .int 0, m16, m17, m18, m19, m20, m21, m22, m23, m24, .int 0, m26, m27, m28, m29, .int 0, .int 0, m32, .int 0, m34, m35, .int 0, m37, m38, .int 0, m40, m41]))]) [0] (by decide) rfl
  have hKc := hK.sub (tys' := []) [] rfl
  have hFc := va_free (wc := [(hm, .inr (7, [.int 0, .int 0, .int 0, .int 0, .int 0, .ref rx, .ref ry, .int 0, m8, m9, m10, m11, m12, m13, m14, .int 0, m16, m17, m18, m19, m20, m21, m22, m23, m24, .int 0, m26, m27, m28, m29, .int 0, .int 0, m32, .int 0, m34, m35, .int 0, m37, m38, .int 0, m40, m41]))]) hD hS hA [0] rfl
  refine va_calli (va_runV (As := [.int (xs (Int32.toNatClampNeg (0 + 1))), .int (xs (Int32.toNatClampNeg (0 + 2))), .int (xs (Int32.toNatClampNeg (0 + 3)))]) (rest := []) ⟨hx, hb, hml, hown, hts⟩ (c_M_ease l dC dI hm H.size 0 (.ref rx) (.ref ry) m8 m9 m10 m11 m12 m13 m14 m16 m17 m18 m19 m20 m21 m22 m23 m24 m26 m27 m28 m29 m32 m34 m35 m37 m38 m40 m41 ((xs (Int32.toNatClampNeg (0 + 1)))) ((xs (Int32.toNatClampNeg (0 + 2)))) ((xs (Int32.toNatClampNeg (0 + 3))))) (cwV 3 hts (tw_gV tk_418 tk_419 tk_420 tk_249 tk_421) rfl rfl rfl (by decide +kernel) ⟨Nat.le_of_ble_eq_true rfl, Nat.le_of_ble_eq_true rfl⟩) (tw_v4 (va_recv (q0 := 0) hK hP rfl rfl) hPc hKc hDc) rfl rfl hl.1 rfl (lv_room (Nat.le_of_ble_eq_true rfl)) d_law_569 ⟨by show 62 ≤ 600002; decide, by show 60367 ≤ 7302232; decide⟩) hS (fun q _ h => hFc q h) hFc (fun rm w9 t H1 locs ht hvm hm9 hB hz1 hk1 hS => ?_)
  obtain ⟨tm, fs⟩ := w9
  obtain ⟨hP1, hK1, hD1⟩ := hB
  rw [ht] at hP1
  obtain ⟨hP, hD⟩ := va_join (wr := [(rx, .inl (cX, 32, .inl (fun _ => 0))), (ry, .inl (cY, 32, .inl (fun _ => 0))), (ho, .inl (cL, 1, .inr (.inl (u))))]) (w1 := [(hm, .inr (7, .int tm :: fs))]) hP hD [0] [1, 2, 3] rfl rfl (by decide) (by decide) hk1 hFc hP1 hD1
  generalize H1 = H at hP hS ⊢
  have hP : va_P (dC, dI) classes [(rx, .inl (cX, 32, .inl (fun _ => 0))), (ry, .inl (cY, 32, .inl (fun _ => 0))), (ho, .inl (cL, 1, .inr (.inl (u)))), (hm, .inr (7, .int tm :: fs))] H := hP
  have hD : va_D A [(rx, .inl (cX, 32, .inl (fun _ => 0))), (ry, .inl (cY, 32, .inl (fun _ => 0))), (ho, .inl (cL, 1, .inr (.inl (u)))), (hm, .inr (7, .int tm :: fs))] := hD
  have hm9 : tm = 1 := hm9
  have hm9 := hm9.symm
  subst hm9
  refine lv_istore (lv' := [(6, .int rm), (5, .int 1), (4, .int 0), (3, .ref ho), (2, .ref hm), (1, .ref h), (0, .ref b)]) hx hb d_law_572 hl (by decide) rfl (fun ls hl => ?_)
  refine lv_aload_n hx hb d_law_574 rfl (lv_at hl 4 rfl) ?_
  refine vp_callSi (W.runV (As := []) (rest := []) ⟨hx, hb, hml, hown, hts⟩ (c_M_thrown l dC dI hm 1 fs) (cwV 0 hts (tw_gV tk_383 tk_384 tk_385 tk_249 tk_386) rfl rfl rfl (by decide +kernel) ⟨Nat.le_of_ble_eq_true rfl, Nat.le_of_ble_eq_true rfl⟩) (tw_v2 (va_recv (q0 := 3) hK hP rfl rfl) (hP.sub (ws' := [(hm, .inr (7, .int 1 :: fs))]) [3] rfl) (hK.sub (tys' := []) [] rfl)) rfl rfl hl.1 rfl (lv_room (Nat.le_of_ble_eq_true rfl)) d_law_575 ⟨by show 62 ≤ 600002; decide, by show 60367 ≤ 7302232; decide⟩) (fun r1 e2 => ?_)
  have e2 := e2.symm
  subst e2
  refine lv_iload hx hb d_law_578 (lv_at hl 1 rfl) ?_
  refine lv_icmp_eq (tgt := 585) hx hb d_law_580 (by decide) (fun h3 => ?_) (fun h3 => absurd (by decide) h3)
  refine lv_iload hx hb d_law_585 (lv_at hl 1 rfl) ?_
  refine lv_if_ne (tgt := 602) hx hb d_law_587 (by decide) (fun h4 => ?_) (fun h4 => absurd h4 (by decide))
  refine lv_goto (tgt := 1637) hx hb d_law_602 (by decide) ?_
  refine lv_iinc (k := 2) (v := 7) (lv' := [(4, .int 7), (6, .int rm), (5, .int 1), (3, .ref ho), (2, .ref hm), (1, .ref h), (0, .ref b)]) hx hb d_law_1637 hl rfl (by decide) (by decide) rfl (fun ls hl => ?_)
  refine lv_goto (tgt := 23) hx hb d_law_1640 (by decide) ?_
  refine lv_iload hx hb d_law_23 (lv_at hl 0 rfl) ?_
  refine lv_aload_n hx hb d_law_25 rfl (lv_at hl 6 rfl) ?_
  refine va_slen hx hb hX hbl hbA hS d_law_26 ?_
  refine lv_bipush (v := 7) hx hb d_law_27 (by decide) ?_
  refine lv_isub hx hb d_law_29 ?_
  refine lv_icmp_gt (tgt := 1643) hx hb d_law_30 (by decide) (fun h5 => ?_) (fun h5 => absurd (by decide) h5)
  refine lv_iconst (v := 1) hx hb d_law_1643 (by decide) ?_
  refine va_forget (fun q hq => hA2 _ (hS.2.2 q hq)) ?_
  refine W.widen (k := 600002) (n := 7302232) (by decide) (by decide) ?_
  exact lw_ret hx hb hr hlocks d_law_1644
theorem tk_422 : (Jvm.Cond.codeWith ({ cls := "LandBookLaw", name := "release", desc := "(LLandBook;II[J)I" } : Jvm.MethodName) method_9_code (5 : Nat) (Option.some Jvm.ClassFile.FieldType.int) [((0 : Nat), (10 : Nat), (13 : Nat), (21 : Nat)), ((0 : Nat), (10 : Nat), (17 : Nat), (26 : Nat)), ((0 : Nat), (10 : Nat), (21 : Nat), (13 : Nat))]) ∈ tw_G := tw_in (List.mem_of_getElem? (i := 866) (by decide +kernel)) rfl
theorem tk_423 : (Jvm.Cond.methodLink "LandBookLaw" (118 : Nat) ({ cls := "LandBookLaw", name := "release", desc := "(LLandBook;II[J)I" } : Jvm.MethodName)) ∈ tw_G := tw_in (List.mem_of_getElem? (i := 864) (by decide +kernel)) rfl
theorem tk_424 : (Jvm.Cond.static ({ cls := "LandBookLaw", name := "release", desc := "(LLandBook;II[J)I" } : Jvm.MethodName)) ∈ tw_G := tw_in (List.mem_of_getElem? (i := 865) (by decide +kernel)) rfl
theorem tk_425 : (Jvm.Cond.methodLink "LandBookLaw" (120 : Nat) ({ cls := "LandBookModel", name := "release", desc := "(II)I" } : Jvm.MethodName)) ∈ tw_G := tw_in (List.mem_of_getElem? (i := 1393) (by decide +kernel)) rfl
theorem tk_426 : (Jvm.Cond.instanceMethod ({ cls := "LandBookModel", name := "release", desc := "(II)I" } : Jvm.MethodName)) ∈ tw_G := tw_in (List.mem_of_getElem? (i := 1394) (by decide +kernel)) rfl
theorem tk_427 : (Jvm.Cond.selects "LandBookModel" ({ cls := "LandBookModel", name := "release", desc := "(II)I" } : Jvm.MethodName) ({ cls := "LandBookModel", name := "release", desc := "(II)I" } : Jvm.MethodName)) ∈ tw_G := tw_in (List.mem_of_getElem? (i := 1395) (by decide +kernel)) rfl
theorem tk_428 : (Jvm.Cond.code ({ cls := "LandBookModel", name := "release", desc := "(II)I" } : Jvm.MethodName) prog_13_method_59_code (5 : Nat) (Option.some Jvm.ClassFile.FieldType.int)) ∈ tw_G := tw_in (List.mem_of_getElem? (i := 1396) (by decide +kernel)) rfl
set_option maxHeartbeats 4000000 in
set_option maxRecDepth 100000 in
theorem lw_case_6 {p : Program} {e : Env} {s : State} {m : MethodId} {below : List Frame} {meth : Method} {c : Code} (l : Launch) (hfl : l.flags = pinnedFlags ++ [noTraceFlag]) {b : Nat} {xs : Nat → Int32} (hx : p.tables.exec = Jvm.exec) (hb : c.code = code) (hr : meth.sig.returnType = ret) (hml : c.maxLocals = 7) (hown : s.vm.findClass "LandBookLaw" = some m.cls) (hts : ∀ w ∈ tw_G, w.before #[Value.ref b] s = true) (hX : va_X b 7 xs s s.heap) (hbl : b < s.heap.size) (hlocks : meth.locks = false) (hE : lb_E s) {A : Nat → Prop} (hA : ∀ q : Nat, s.heap.size ≤ q → A q) (hA2 : ∀ q : Nat, A q → s.heap.size ≤ q) {dC : Nat → ClassId} {dI : Nat → Nat → Nat} {h ro ra ch rg dl ll el lg hm rx ry ho : Nat} {cI cX cY cL : ClassId} {v2 v3 ca w3 w4 x0 y0 x1 y1 x2 y2 z0 m8 m9 m10 m11 m12 m13 m14 m16 m17 m18 m19 m20 m21 m22 m23 m24 m26 m27 m28 m29 m32 m34 m35 m37 m38 m40 m41 : Value} {H : Heap} {locs : List Loc} {ls : Array Slot} (hK : va_K (dC, dI) classes [(cI, .int), (cX, .int), (cY, .int), (cL, .long)] s) (hP : va_P (dC, dI) classes [(h, .inr (0, [.ref ro, .ref ch, v2, v3, .ref rg, .ref lg, .int 0, .int 0])), (ro, .inr (1, [.ref ra, .int 0])), (ra, .inl (cI, 32, .inl (fun _ => 0))), (ch, .inr (1, [ca, .int 0])), (rg, .inr (4, [.ref dl, .ref ll, .ref el, w3, w4])), (dl, .inr (6, [x0, .int 0, y0])), (ll, .inr (6, [x1, .int 0, y1])), (el, .inr (6, [x2, .int 0, y2])), (lg, .inr (5, [z0, .int 0, .int 0])), (hm, .inr (7, [.int 0, .int 0, .int 0, .int 0, .int 0, .ref rx, .ref ry, .int 0, m8, m9, m10, m11, m12, m13, m14, .int 0, m16, m17, m18, m19, m20, m21, m22, m23, m24, .int 0, m26, m27, m28, m29, .int 0, .int 0, m32, .int 0, m34, m35, .int 0, m37, m38, .int 0, m40, m41])), (rx, .inl (cX, 32, .inl (fun _ => 0))), (ry, .inl (cY, 32, .inl (fun _ => 0))), (ho, .inl (cL, 1, .inr (.inl (fun _ => 0))))] H) (hD : va_D A [(h, .inr (0, [.ref ro, .ref ch, v2, v3, .ref rg, .ref lg, .int 0, .int 0])), (ro, .inr (1, [.ref ra, .int 0])), (ra, .inl (cI, 32, .inl (fun _ => 0))), (ch, .inr (1, [ca, .int 0])), (rg, .inr (4, [.ref dl, .ref ll, .ref el, w3, w4])), (dl, .inr (6, [x0, .int 0, y0])), (ll, .inr (6, [x1, .int 0, y1])), (el, .inr (6, [x2, .int 0, y2])), (lg, .inr (5, [z0, .int 0, .int 0])), (hm, .inr (7, [.int 0, .int 0, .int 0, .int 0, .int 0, .ref rx, .ref ry, .int 0, m8, m9, m10, m11, m12, m13, m14, .int 0, m16, m17, m18, m19, m20, m21, m22, m23, m24, .int 0, m26, m27, m28, m29, .int 0, .int 0, m32, .int 0, m34, m35, .int 0, m37, m38, .int 0, m40, m41])), (rx, .inl (cX, 32, .inl (fun _ => 0))), (ry, .inl (cY, 32, .inl (fun _ => 0))), (ho, .inl (cL, 1, .inr (.inl (fun _ => 0))))]) (hS : va_S A s.heap H locs) (hl : lv_has ls 7 [(4, .int 0), (3, .ref ho), (2, .ref hm), (1, .ref h), (0, .ref b)]) : W p l e room_1 s m #[Value.ref b] below meth c H locs 61 60361 (lw_Z below #[Value.ref b] s) (F0 m 605 ls []) := by
  have hbA : ¬ A b := fun h => absurd (hA2 b h) (Nat.not_le.mpr hbl)
  have hN : ∀ (a : Nat) (cell : Cell), s.heap[a]? = some cell → cell.vm.isStatics = true → ¬ A a := fun a cell h1 _ h3 => absurd (hA2 a h3) (Nat.not_le.mpr (Array.getElem?_eq_some_iff.mp h1).1)
  refine lv_aload_n hx hb d_law_605 rfl (lv_at hl 3 rfl) ?_
  refine lv_aload_n hx hb d_law_606 rfl (lv_at hl 4 rfl) ?_
  refine lv_iload hx hb d_law_607 (lv_at hl 0 rfl) ?_
  refine lv_iconst (v := 1) hx hb d_law_609 (by decide) ?_
  refine lv_iadd hx hb d_law_610 ?_
  refine va_sld hx hb hX hbl hbA hS (i := (0 + 1)) (by unfold vp_in; decide) d_law_611 ?_
  refine lv_aload_n hx hb d_law_612 rfl (lv_at hl 4 rfl) ?_
  refine lv_iload hx hb d_law_613 (lv_at hl 0 rfl) ?_
  refine lv_iconst (v := 2) hx hb d_law_615 (by decide) ?_
  refine lv_iadd hx hb d_law_616 ?_
  refine va_sld hx hb hX hbl hbA hS (i := (0 + 2)) (by unfold vp_in; decide) d_law_617 ?_
  refine lv_aload_n hx hb d_law_618 rfl (lv_at hl 1 rfl) ?_
  have hPc := hP.sub (ws' := [(h, .inr (0, [.ref ro, .ref ch, v2, v3, .ref rg, .ref lg, .int 0, .int 0])), (ro, .inr (1, [.ref ra, .int 0])), (ra, .inl (cI, 32, .inl (fun _ => 0))), (ch, .inr (1, [ca, .int 0])), (rg, .inr (4, [.ref dl, .ref ll, .ref el, w3, w4])), (dl, .inr (6, [x0, .int 0, y0])), (ll, .inr (6, [x1, .int 0, y1])), (el, .inr (6, [x2, .int 0, y2])), (lg, .inr (5, [z0, .int 0, .int 0])), (ho, .inl (cL, 1, .inr (.inl (fun _ => 0))))]) [0, 1, 2, 3, 4, 5, 6, 7, 8, 12] rfl
  have hDc := hD.sub (ws' := [(h, .inr (0, [.ref ro, .ref ch, v2, v3, .ref rg, .ref lg, .int 0, .int 0])), (ro, .inr (1, [.ref ra, .int 0])), (ra, .inl (cI, 32, .inl (fun _ => 0))), (ch, .inr (1, [ca, .int 0])), (rg, .inr (4, [.ref dl, .ref ll, .ref el, w3, w4])), (dl, .inr (6, [x0, .int 0, y0])), (ll, .inr (6, [x1, .int 0, y1])), (el, .inr (6, [x2, .int 0, y2])), (lg, .inr (5, [z0, .int 0, .int 0])), (ho, .inl (cL, 1, .inr (.inl (fun _ => 0))))]) [0, 1, 2, 3, 4, 5, 6, 7, 8, 12] (by decide) rfl
  have hKc := hK.sub (tys' := [(cI, .int), (cL, .long)]) [0, 3] rfl
  have hFc := va_free (wc := [(h, .inr (0, [.ref ro, .ref ch, v2, v3, .ref rg, .ref lg, .int 0, .int 0])), (ro, .inr (1, [.ref ra, .int 0])), (ra, .inl (cI, 32, .inl (fun _ => 0))), (ch, .inr (1, [ca, .int 0])), (rg, .inr (4, [.ref dl, .ref ll, .ref el, w3, w4])), (dl, .inr (6, [x0, .int 0, y0])), (ll, .inr (6, [x1, .int 0, y1])), (el, .inr (6, [x2, .int 0, y2])), (lg, .inr (5, [z0, .int 0, .int 0])), (ho, .inl (cL, 1, .inr (.inl (fun _ => 0))))]) hD hS hA [0, 1, 2, 3, 4, 5, 6, 7, 8, 12] rfl
  refine va_calli (tw_runSW (n := 4) (As := [.ref h, .int (xs (Int32.toNatClampNeg (0 + 1))), .int (xs (Int32.toNatClampNeg (0 + 2))), .ref ho]) (rest := []) ⟨hx, hb, hml, hown, hts⟩ (c_law_release l hfl dC dI h H.size ro ra ch rg dl ll el lg ho cI cL (fun _ => 0) (fun _ => 0) v2 v3 ca w3 w4 x0 y0 x1 y1 x2 y2 z0 ((xs (Int32.toNatClampNeg (0 + 1)))) ((xs (Int32.toNatClampNeg (0 + 2))))) (tw_gc tk_422) rfl rfl rfl ⟨Nat.le_of_ble_eq_true rfl, Nat.le_of_ble_eq_true rfl⟩ (hts _ tk_376) (hts _ tk_423) (hts _ tk_424) (by decide +kernel) (tw_s4E hPc hKc hDc hE (tw_kst hN hS)) rfl rfl hl.1 rfl (lv_room (Nat.le_of_ble_eq_true rfl)) d_law_619 ⟨by show 62 ≤ 600002; decide, by show 60367 ≤ 7302232; decide⟩) hS (fun q _ h => hFc q h) hFc (fun rk u t H1 locs ht hvm hk9 hB hz1 hk1 hS => ?_)
  obtain ⟨hP1, hK1, hD1⟩ := hB
  rw [ht] at hP1
  obtain ⟨hP, hD⟩ := va_join (wr := [(hm, .inr (7, [.int 0, .int 0, .int 0, .int 0, .int 0, .ref rx, .ref ry, .int 0, m8, m9, m10, m11, m12, m13, m14, .int 0, m16, m17, m18, m19, m20, m21, m22, m23, m24, .int 0, m26, m27, m28, m29, .int 0, .int 0, m32, .int 0, m34, m35, .int 0, m37, m38, .int 0, m40, m41])), (rx, .inl (cX, 32, .inl (fun _ => 0))), (ry, .inl (cY, 32, .inl (fun _ => 0)))]) (w1 := [(ho, .inl (cL, 1, .inr (.inl (u))))]) hP hD [0, 1, 2, 3, 4, 5, 6, 7, 8, 12] [9, 10, 11] rfl rfl (by decide) (by decide) hk1 hFc hP1 hD1
  generalize H1 = H at hP hS ⊢
  have hP : va_P (dC, dI) classes [(hm, .inr (7, [.int 0, .int 0, .int 0, .int 0, .int 0, .ref rx, .ref ry, .int 0, m8, m9, m10, m11, m12, m13, m14, .int 0, m16, m17, m18, m19, m20, m21, m22, m23, m24, .int 0, m26, m27, m28, m29, .int 0, .int 0, m32, .int 0, m34, m35, .int 0, m37, m38, .int 0, m40, m41])), (rx, .inl (cX, 32, .inl (fun _ => 0))), (ry, .inl (cY, 32, .inl (fun _ => 0))), (ho, .inl (cL, 1, .inr (.inl (u))))] H := hP
  have hD : va_D A [(hm, .inr (7, [.int 0, .int 0, .int 0, .int 0, .int 0, .ref rx, .ref ry, .int 0, m8, m9, m10, m11, m12, m13, m14, .int 0, m16, m17, m18, m19, m20, m21, m22, m23, m24, .int 0, m26, m27, m28, m29, .int 0, .int 0, m32, .int 0, m34, m35, .int 0, m37, m38, .int 0, m40, m41])), (rx, .inl (cX, 32, .inl (fun _ => 0))), (ry, .inl (cY, 32, .inl (fun _ => 0))), (ho, .inl (cL, 1, .inr (.inl (u))))] := hD
  have hk9 : rk = 1 := hk9
  have hk9 := hk9.symm
  subst hk9
  refine lv_istore (lv' := [(5, .int 1), (4, .int 0), (3, .ref ho), (2, .ref hm), (1, .ref h), (0, .ref b)]) hx hb d_law_622 hl (by decide) rfl (fun ls hl => ?_)
  refine lv_aload_n hx hb d_law_624 rfl (lv_at hl 3 rfl) ?_
  refine lv_aload_n hx hb d_law_625 rfl (lv_at hl 5 rfl) ?_
  refine lv_iload hx hb d_law_626 (lv_at hl 1 rfl) ?_
  refine lv_iconst (v := 1) hx hb d_law_628 (by decide) ?_
  refine lv_iadd hx hb d_law_629 ?_
  refine va_sld hx hb hX hbl hbA hS (i := (0 + 1)) (by unfold vp_in; decide) d_law_630 ?_
  refine lv_aload_n hx hb d_law_631 rfl (lv_at hl 5 rfl) ?_
  refine lv_iload hx hb d_law_632 (lv_at hl 1 rfl) ?_
  refine lv_iconst (v := 2) hx hb d_law_634 (by decide) ?_
  refine lv_iadd hx hb d_law_635 ?_
  refine va_sld hx hb hX hbl hbA hS (i := (0 + 2)) (by unfold vp_in; decide) d_law_636 ?_
  have hPc := hP.sub (ws' := [(hm, .inr (7, [.int 0, .int 0, .int 0, .int 0, .int 0, .ref rx, .ref ry, .int 0, m8, m9, m10, m11, m12, m13, m14, .int 0, m16, m17, m18, m19, m20, m21, m22, m23, m24, .int 0, m26, m27, m28, m29, .int 0, .int 0, m32, .int 0, m34, m35, .int 0, m37, m38, .int 0, m40, m41]))]) [0] rfl
  have hDc := hD.sub (ws' := [(hm, .inr (7, [.int 0, .int 0, .int 0, .int 0, .int 0, .ref rx, .ref ry, .int 0, m8, m9, m10, m11, m12, m13, m14, .int 0, m16, m17, m18, m19, m20, m21, m22, m23, m24, .int 0, m26, m27, m28, m29, .int 0, .int 0, m32, .int 0, m34, m35, .int 0, m37, m38, .int 0, m40, m41]))]) [0] (by decide) rfl
  have hKc := hK.sub (tys' := []) [] rfl
  have hFc := va_free (wc := [(hm, .inr (7, [.int 0, .int 0, .int 0, .int 0, .int 0, .ref rx, .ref ry, .int 0, m8, m9, m10, m11, m12, m13, m14, .int 0, m16, m17, m18, m19, m20, m21, m22, m23, m24, .int 0, m26, m27, m28, m29, .int 0, .int 0, m32, .int 0, m34, m35, .int 0, m37, m38, .int 0, m40, m41]))]) hD hS hA [0] rfl
  refine va_calli (va_runV (As := [.int (xs (Int32.toNatClampNeg (0 + 1))), .int (xs (Int32.toNatClampNeg (0 + 2)))]) (rest := []) ⟨hx, hb, hml, hown, hts⟩ (c_M_release l dC dI hm H.size 0 (.ref rx) (.ref ry) m8 m9 m10 m11 m12 m13 m14 m16 m17 m18 m19 m20 m21 m22 m23 m24 m26 m27 m28 m29 m32 m34 m35 m37 m38 m40 m41 ((xs (Int32.toNatClampNeg (0 + 1)))) ((xs (Int32.toNatClampNeg (0 + 2))))) (cwV 2 hts (tw_gV tk_425 tk_426 tk_427 tk_249 tk_428) rfl rfl rfl (by decide +kernel) ⟨Nat.le_of_ble_eq_true rfl, Nat.le_of_ble_eq_true rfl⟩) (tw_v4 (va_recv (q0 := 0) hK hP rfl rfl) hPc hKc hDc) rfl rfl hl.1 rfl (lv_room (Nat.le_of_ble_eq_true rfl)) d_law_637 ⟨by show 62 ≤ 600002; decide, by show 60367 ≤ 7302232; decide⟩) hS (fun q _ h => hFc q h) hFc (fun rm w9 t H1 locs ht hvm hm9 hB hz1 hk1 hS => ?_)
  obtain ⟨tm, fs⟩ := w9
  obtain ⟨hP1, hK1, hD1⟩ := hB
  rw [ht] at hP1
  obtain ⟨hP, hD⟩ := va_join (wr := [(rx, .inl (cX, 32, .inl (fun _ => 0))), (ry, .inl (cY, 32, .inl (fun _ => 0))), (ho, .inl (cL, 1, .inr (.inl (u))))]) (w1 := [(hm, .inr (7, .int tm :: fs))]) hP hD [0] [1, 2, 3] rfl rfl (by decide) (by decide) hk1 hFc hP1 hD1
  generalize H1 = H at hP hS ⊢
  have hP : va_P (dC, dI) classes [(rx, .inl (cX, 32, .inl (fun _ => 0))), (ry, .inl (cY, 32, .inl (fun _ => 0))), (ho, .inl (cL, 1, .inr (.inl (u)))), (hm, .inr (7, .int tm :: fs))] H := hP
  have hD : va_D A [(rx, .inl (cX, 32, .inl (fun _ => 0))), (ry, .inl (cY, 32, .inl (fun _ => 0))), (ho, .inl (cL, 1, .inr (.inl (u)))), (hm, .inr (7, .int tm :: fs))] := hD
  have hm9 : tm = 1 := hm9
  have hm9 := hm9.symm
  subst hm9
  refine lv_istore (lv' := [(6, .int rm), (5, .int 1), (4, .int 0), (3, .ref ho), (2, .ref hm), (1, .ref h), (0, .ref b)]) hx hb d_law_640 hl (by decide) rfl (fun ls hl => ?_)
  refine lv_aload_n hx hb d_law_642 rfl (lv_at hl 4 rfl) ?_
  refine vp_callSi (W.runV (As := []) (rest := []) ⟨hx, hb, hml, hown, hts⟩ (c_M_thrown l dC dI hm 1 fs) (cwV 0 hts (tw_gV tk_383 tk_384 tk_385 tk_249 tk_386) rfl rfl rfl (by decide +kernel) ⟨Nat.le_of_ble_eq_true rfl, Nat.le_of_ble_eq_true rfl⟩) (tw_v2 (va_recv (q0 := 3) hK hP rfl rfl) (hP.sub (ws' := [(hm, .inr (7, .int 1 :: fs))]) [3] rfl) (hK.sub (tys' := []) [] rfl)) rfl rfl hl.1 rfl (lv_room (Nat.le_of_ble_eq_true rfl)) d_law_643 ⟨by show 62 ≤ 600002; decide, by show 60367 ≤ 7302232; decide⟩) (fun r1 e2 => ?_)
  have e2 := e2.symm
  subst e2
  refine lv_iload hx hb d_law_646 (lv_at hl 1 rfl) ?_
  refine lv_icmp_eq (tgt := 653) hx hb d_law_648 (by decide) (fun h3 => ?_) (fun h3 => absurd (by decide) h3)
  refine lv_iload hx hb d_law_653 (lv_at hl 1 rfl) ?_
  refine lv_if_ne (tgt := 670) hx hb d_law_655 (by decide) (fun h4 => ?_) (fun h4 => absurd h4 (by decide))
  refine lv_goto (tgt := 1637) hx hb d_law_670 (by decide) ?_
  refine lv_iinc (k := 2) (v := 7) (lv' := [(4, .int 7), (6, .int rm), (5, .int 1), (3, .ref ho), (2, .ref hm), (1, .ref h), (0, .ref b)]) hx hb d_law_1637 hl rfl (by decide) (by decide) rfl (fun ls hl => ?_)
  refine lv_goto (tgt := 23) hx hb d_law_1640 (by decide) ?_
  refine lv_iload hx hb d_law_23 (lv_at hl 0 rfl) ?_
  refine lv_aload_n hx hb d_law_25 rfl (lv_at hl 6 rfl) ?_
  refine va_slen hx hb hX hbl hbA hS d_law_26 ?_
  refine lv_bipush (v := 7) hx hb d_law_27 (by decide) ?_
  refine lv_isub hx hb d_law_29 ?_
  refine lv_icmp_gt (tgt := 1643) hx hb d_law_30 (by decide) (fun h5 => ?_) (fun h5 => absurd (by decide) h5)
  refine lv_iconst (v := 1) hx hb d_law_1643 (by decide) ?_
  refine va_forget (fun q hq => hA2 _ (hS.2.2 q hq)) ?_
  refine W.widen (k := 600002) (n := 7302232) (by decide) (by decide) ?_
  exact lw_ret hx hb hr hlocks d_law_1644
