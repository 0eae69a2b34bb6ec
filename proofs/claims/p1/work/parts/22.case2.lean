theorem tk_478 : (Jvm.Cond.codeWith ({ cls := "LandBookLaw", name := "corners", desc := "(LLandBook;I[J)I" } : Jvm.MethodName) method_17_code (4 : Nat) (Option.some Jvm.ClassFile.FieldType.int) [((0 : Nat), (9 : Nat), (12 : Nat), (21 : Nat)), ((0 : Nat), (9 : Nat), (15 : Nat), (26 : Nat))]) ∈ tw_G := tw_in (List.mem_of_getElem? (i := 957) (by decide +kernel)) rfl
theorem tk_479 : (Jvm.Cond.methodLink "LandBookLaw" (143 : Nat) ({ cls := "LandBookLaw", name := "corners", desc := "(LLandBook;I[J)I" } : Jvm.MethodName)) ∈ tw_G := tw_in (List.mem_of_getElem? (i := 955) (by decide +kernel)) rfl
theorem tk_480 : (Jvm.Cond.static ({ cls := "LandBookLaw", name := "corners", desc := "(LLandBook;I[J)I" } : Jvm.MethodName)) ∈ tw_G := tw_in (List.mem_of_getElem? (i := 956) (by decide +kernel)) rfl
theorem tk_481 : (Jvm.Cond.methodLink "LandBookLaw" (146 : Nat) ({ cls := "LandBookModel", name := "corners", desc := "(I)I" } : Jvm.MethodName)) ∈ tw_G := tw_in (List.mem_of_getElem? (i := 1436) (by decide +kernel)) rfl
theorem tk_482 : (Jvm.Cond.instanceMethod ({ cls := "LandBookModel", name := "corners", desc := "(I)I" } : Jvm.MethodName)) ∈ tw_G := tw_in (List.mem_of_getElem? (i := 1437) (by decide +kernel)) rfl
theorem tk_483 : (Jvm.Cond.selects "LandBookModel" ({ cls := "LandBookModel", name := "corners", desc := "(I)I" } : Jvm.MethodName) ({ cls := "LandBookModel", name := "corners", desc := "(I)I" } : Jvm.MethodName)) ∈ tw_G := tw_in (List.mem_of_getElem? (i := 1438) (by decide +kernel)) rfl
theorem tk_484 : (Jvm.Cond.code ({ cls := "LandBookModel", name := "corners", desc := "(I)I" } : Jvm.MethodName) prog_13_method_70_code (2 : Nat) (Option.some Jvm.ClassFile.FieldType.int)) ∈ tw_G := tw_in (List.mem_of_getElem? (i := 1439) (by decide +kernel)) rfl
set_option maxHeartbeats 4000000 in
set_option maxRecDepth 100000 in
theorem lw_case_14 {p : Program} {e : Env} {s : State} {m : MethodId} {below : List Frame} {meth : Method} {c : Code} (l : Launch) (hfl : l.flags = pinnedFlags ++ [noTraceFlag]) {b : Nat} {xs : Nat → Int32} (hx : p.tables.exec = Jvm.exec) (hb : c.code = code) (hr : meth.sig.returnType = ret) (hml : c.maxLocals = 7) (hown : s.vm.findClass "LandBookLaw" = some m.cls) (hts : ∀ w ∈ tw_G, w.before #[Value.ref b] s = true) (hX : va_X b 7 xs s s.heap) (hbl : b < s.heap.size) (hlocks : meth.locks = false) (hE : lb_E s) {A : Nat → Prop} (hA : ∀ q : Nat, s.heap.size ≤ q → A q) (hA2 : ∀ q : Nat, A q → s.heap.size ≤ q) {dC : Nat → ClassId} {dI : Nat → Nat → Nat} {h ro ra ch rg dl ll el lg hm rx ry ho : Nat} {cI cX cY cL : ClassId} {v2 v3 ca w3 w4 x0 y0 x1 y1 x2 y2 z0 m8 m9 m10 m11 m12 m13 m14 m16 m17 m18 m19 m20 m21 m22 m23 m24 m26 m27 m28 m29 m32 m34 m35 m37 m38 m40 m41 : Value} {H : Heap} {locs : List Loc} {ls : Array Slot} (hK : va_K (dC, dI) classes [(cI, .int), (cX, .int), (cY, .int), (cL, .long)] s) (hP : va_P (dC, dI) classes [(h, .inr (0, [.ref ro, .ref ch, v2, v3, .ref rg, .ref lg, .int 0, .int 0])), (ro, .inr (1, [.ref ra, .int 0])), (ra, .inl (cI, 32, .inl (fun _ => 0))), (ch, .inr (1, [ca, .int 0])), (rg, .inr (4, [.ref dl, .ref ll, .ref el, w3, w4])), (dl, .inr (6, [x0, .int 0, y0])), (ll, .inr (6, [x1, .int 0, y1])), (el, .inr (6, [x2, .int 0, y2])), (lg, .inr (5, [z0, .int 0, .int 0])), (hm, .inr (7, [.int 0, .int 0, .int 0, .int 0, .int 0, .ref rx, .ref ry, .int 0, m8, m9, m10, m11, m12, m13, m14, .int 0, m16, m17, m18, m19, m20, m21, m22, m23, m24, .int 0, m26, m27, m28, m29, .int 0, .int 0, m32, .int 0, m34, m35, .int 0, m37, m38, .int 0, m40, m41])), (rx, .inl (cX, 32, .inl (fun _ => 0))), (ry, .inl (cY, 32, .inl (fun _ => 0))), (ho, .inl (cL, 1, .inr (.inl (fun _ => 0))))] H) (hD : va_D A [(h, .inr (0, [.ref ro, .ref ch, v2, v3, .ref rg, .ref lg, .int 0, .int 0])), (ro, .inr (1, [.ref ra, .int 0])), (ra, .inl (cI, 32, .inl (fun _ => 0))), (ch, .inr (1, [ca, .int 0])), (rg, .inr (4, [.ref dl, .ref ll, .ref el, w3, w4])), (dl, .inr (6, [x0, .int 0, y0])), (ll, .inr (6, [x1, .int 0, y1])), (el, .inr (6, [x2, .int 0, y2])), (lg, .inr (5, [z0, .int 0, .int 0])), (hm, .inr (7, [.int 0, .int 0, .int 0, .int 0, .int 0, .ref rx, .ref ry, .int 0, m8, m9, m10, m11, m12, m13, m14, .int 0, m16, m17, m18, m19, m20, m21, m22, m23, m24, .int 0, m26, m27, m28, m29, .int 0, .int 0, m32, .int 0, m34, m35, .int 0, m37, m38, .int 0, m40, m41])), (rx, .inl (cX, 32, .inl (fun _ => 0))), (ry, .inl (cY, 32, .inl (fun _ => 0))), (ho, .inl (cL, 1, .inr (.inl (fun _ => 0))))]) (hS : va_S A s.heap H locs) (hl : lv_has ls 7 [(4, .int 0), (3, .ref ho), (2, .ref hm), (1, .ref h), (0, .ref b)]) : W p l e room_1 s m #[Value.ref b] below meth c H locs 61 60361 (lw_Z below #[Value.ref b] s) (F0 m 1257 ls []) := by
  have hbA : ¬ A b := fun h => absurd (hA2 b h) (Nat.not_le.mpr hbl)
  have hN : ∀ (a : Nat) (cell : Cell), s.heap[a]? = some cell → cell.vm.isStatics = true → ¬ A a := fun a cell h1 _ h3 => absurd (hA2 a h3) (Nat.not_le.mpr (Array.getElem?_eq_some_iff.mp h1).1)
  refine lv_aload_n hx hb d_law_1257 rfl (lv_at hl 3 rfl) ?_
  refine lv_aload_n hx hb d_law_1258 rfl (lv_at hl 4 rfl) ?_
  refine lv_iload hx hb d_law_1259 (lv_at hl 0 rfl) ?_
  refine lv_iconst (v := 1) hx hb d_law_1261 (by decide) ?_
  refine lv_iadd hx hb d_law_1262 ?_
  refine va_sld hx hb hX hbl hbA hS (i := (0 + 1)) (by unfold vp_in; decide) d_law_1263 ?_
  refine lv_aload_n hx hb d_law_1264 rfl (lv_at hl 1 rfl) ?_
  have hPc := hP.sub (ws' := [(h, .inr (0, [.ref ro, .ref ch, v2, v3, .ref rg, .ref lg, .int 0, .int 0])), (ro, .inr (1, [.ref ra, .int 0])), (ra, .inl (cI, 32, .inl (fun _ => 0))), (ch, .inr (1, [ca, .int 0])), (rg, .inr (4, [.ref dl, .ref ll, .ref el, w3, w4])), (dl, .inr (6, [x0, .int 0, y0])), (ll, .inr (6, [x1, .int 0, y1])), (el, .inr (6, [x2, .int 0, y2])), (lg, .inr (5, [z0, .int 0, .int 0])), (ho, .inl (cL, 1, .inr (.inl (fun _ => 0))))]) [0, 1, 2, 3, 4, 5, 6, 7, 8, 12] rfl
  have hDc := hD.sub (ws' := [(h, .inr (0, [.ref ro, .ref ch, v2, v3, .ref rg, .ref lg, .int 0, .int 0])), (ro, .inr (1, [.ref ra, .int 0])), (ra, .inl (cI, 32, .inl (fun _ => 0))), (ch, .inr (1, [ca, .int 0])), (rg, .inr (4, [.ref dl, .ref ll, .ref el, w3, w4])), (dl, .inr (6, [x0, .int 0, y0])), (ll, .inr (6, [x1, .int 0, y1])), (el, .inr (6, [x2, .int 0, y2])), (lg, .inr (5, [z0, .int 0, .int 0])), (ho, .inl (cL, 1, .inr (.inl (fun _ => 0))))]) [0, 1, 2, 3, 4, 5, 6, 7, 8, 12] (by decide) rfl
  have hKc := hK.sub (tys' := [(cI, .int), (cL, .long)]) [0, 3] rfl
  have hFc := va_free (wc := [(h, .inr (0, [.ref ro, .ref ch, v2, v3, .ref rg, .ref lg, .int 0, .int 0])), (ro, .inr (1, [.ref ra, .int 0])), (ra, .inl (cI, 32, .inl (fun _ => 0))), (ch, .inr (1, [ca, .int 0])), (rg, .inr (4, [.ref dl, .ref ll, .ref el, w3, w4])), (dl, .inr (6, [x0, .int 0, y0])), (ll, .inr (6, [x1, .int 0, y1])), (el, .inr (6, [x2, .int 0, y2])), (lg, .inr (5, [z0, .int 0, .int 0])), (ho, .inl (cL, 1, .inr (.inl (fun _ => 0))))]) hD hS hA [0, 1, 2, 3, 4, 5, 6, 7, 8, 12] rfl
  refine va_calli (tw_runSW (n := 3) (As := [.ref h, .int (xs (Int32.toNatClampNeg (0 + 1))), .ref ho]) (rest := []) ⟨hx, hb, hml, hown, hts⟩ (c_law_corners l hfl dC dI h H.size ro ra ch rg dl ll el lg ho cI cL (fun _ => 0) (fun _ => 0) v2 v3 ca w3 w4 x0 y0 x1 y1 x2 y2 z0 ((xs (Int32.toNatClampNeg (0 + 1))))) (tw_gc tk_478) rfl rfl rfl ⟨Nat.le_of_ble_eq_true rfl, Nat.le_of_ble_eq_true rfl⟩ (hts _ tk_376) (hts _ tk_479) (hts _ tk_480) (by decide +kernel) (tw_s4E hPc hKc hDc hE (tw_kst hN hS)) rfl rfl hl.1 rfl (lv_room (Nat.le_of_ble_eq_true rfl)) d_law_1265 ⟨by show 62 ≤ 600002; decide, by show 60367 ≤ 7302232; decide⟩) hS (fun q _ h => hFc q h) hFc (fun rk u t H1 locs ht hvm hk9 hB hz1 hk1 hS => ?_)
  obtain ⟨hP1, hK1, hD1⟩ := hB
  rw [ht] at hP1
  obtain ⟨hP, hD⟩ := va_join (wr := [(hm, .inr (7, [.int 0, .int 0, .int 0, .int 0, .int 0, .ref rx, .ref ry, .int 0, m8, m9, m10, m11, m12, m13, m14, .int 0, m16, m17, m18, m19, m20, m21, m22, m23, m24, .int 0, m26, m27, m28, m29, .int 0, .int 0, m32, .int 0, m34, m35, .int 0, m37, m38, .int 0, m40, m41])), (rx, .inl (cX, 32, .inl (fun _ => 0))), (ry, .inl (cY, 32, .inl (fun _ => 0)))]) (w1 := [(ho, .inl (cL, 1, .inr (.inl (u))))]) hP hD [0, 1, 2, 3, 4, 5, 6, 7, 8, 12] [9, 10, 11] rfl rfl (by decide) (by decide) hk1 hFc hP1 hD1
  generalize H1 = H at hP hS ⊢
  have hP : va_P (dC, dI) classes [(hm, .inr (7, [.int 0, .int 0, .int 0, .int 0, .int 0, .ref rx, .ref ry, .int 0, m8, m9, m10, m11, m12, m13, m14, .int 0, m16, m17, m18, m19, m20, m21, m22, m23, m24, .int 0, m26, m27, m28, m29, .int 0, .int 0, m32, .int 0, m34, m35, .int 0, m37, m38, .int 0, m40, m41])), (rx, .inl (cX, 32, .inl (fun _ => 0))), (ry, .inl (cY, 32, .inl (fun _ => 0))), (ho, .inl (cL, 1, .inr (.inl (u))))] H := hP
  have hD : va_D A [(hm, .inr (7, [.int 0, .int 0, .int 0, .int 0, .int 0, .ref rx, .ref ry, .int 0, m8, m9, m10, m11, m12, m13, m14, .int 0, m16, m17, m18, m19, m20, m21, m22, m23, m24, .int 0, m26, m27, m28, m29, .int 0, .int 0, m32, .int 0, m34, m35, .int 0, m37, m38, .int 0, m40, m41])), (rx, .inl (cX, 32, .inl (fun _ => 0))), (ry, .inl (cY, 32, .inl (fun _ => 0))), (ho, .inl (cL, 1, .inr (.inl (u))))] := hD
  have hk9 : rk = 1 := hk9
  have hk9 := hk9.symm
  subst hk9
  refine lv_istore (lv' := [(5, .int 1), (4, .int 0), (3, .ref ho), (2, .ref hm), (1, .ref h), (0, .ref b)]) hx hb d_law_1268 hl (by decide) rfl (fun ls hl => ?_)
  refine lv_aload_n hx hb d_law_1270 rfl (lv_at hl 3 rfl) ?_
  refine lv_aload_n hx hb d_law_1271 rfl (lv_at hl 5 rfl) ?_
  refine lv_iload hx hb d_law_1272 (lv_at hl 1 rfl) ?_
  refine lv_iconst (v := 1) hx hb d_law_1274 (by decide) ?_
  refine lv_iadd hx hb d_law_1275 ?_
  refine va_sld hx hb hX hbl hbA hS (i := (0 + 1)) (by unfold vp_in; decide) d_law_1276 ?_
  have hPc := hP.sub (ws' := [(hm, .inr (7, [.int 0, .int 0, .int 0, .int 0, .int 0, .ref rx, .ref ry, .int 0, m8, m9, m10, m11, m12, m13, m14, .int 0, m16, m17, m18, m19, m20, m21, m22, m23, m24, .int 0, m26, m27, m28, m29, .int 0, .int 0, m32, .int 0, m34, m35, .int 0, m37, m38, .int 0, m40, m41]))]) [0] rfl
  have hDc := hD.sub (ws' := [(hm, .inr (7, [.int 0, .int 0, .int 0, .int 0, .int 0, .ref rx, .ref ry, .int 0, m8, m9, m10, m11, m12, m13, m14, .int 0, m16, m17, m18, m19, m20, m21, m22, m23, m24, .int 0, m26, m27, m28, m29, .int 0, .int 0, m32, .int 0, m34, m35, .int 0, m37, m38, .int 0, m40, m41]))]) [0] (by decide) rfl
  have hKc := hK.sub (tys' := []) [] rfl
  have hFc := va_free (wc := [(hm, .inr (7, [.int 0, .int 0, .int 0, .int 0, .int 0, .ref rx, .ref ry, .int 0, m8, m9, m10, m11, m12, m13, m14, .int 0, m16, m17, m18, m19, m20, m21, m22, m23, m24, .int 0, m26, m27, m28, m29, .int 0, .int 0, m32, .int 0, m34, m35, .int 0, m37, m38, .int 0, m40, m41]))]) hD hS hA [0] rfl
  refine va_calli (va_runV (As := [.int (xs (Int32.toNatClampNeg (0 + 1)))]) (rest := []) ⟨hx, hb, hml, hown, hts⟩ (c_M_corners l dC dI hm H.size 0 (.ref rx) (.ref ry) m8 m9 m10 m11 m12 m13 m14 m16 m17 m18 m19 m20 m21 m22 m23 m24 m26 m27 m28 m29 m32 m34 m35 m37 m38 m40 m41 ((xs (Int32.toNatClampNeg (0 + 1))))) (cwV 1 hts (tw_gV tk_481 tk_482 tk_483 tk_249 tk_484) rfl rfl rfl (by decide +kernel) ⟨Nat.le_of_ble_eq_true rfl, Nat.le_of_ble_eq_true rfl⟩) (tw_v4 (va_recv (q0 := 0) hK hP rfl rfl) hPc hKc hDc) rfl rfl hl.1 rfl (lv_room (Nat.le_of_ble_eq_true rfl)) d_law_1277 ⟨by show 62 ≤ 600002; decide, by show 60367 ≤ 7302232; decide⟩) hS (fun q _ h => hFc q h) hFc (fun rm w9 t H1 locs ht hvm hm9 hB hz1 hk1 hS => ?_)
  obtain ⟨tm, fs⟩ := w9
  obtain ⟨hP1, hK1, hD1⟩ := hB
  rw [ht] at hP1
  obtain ⟨hP, hD⟩ := va_join (wr := [(rx, .inl (cX, 32, .inl (fun _ => 0))), (ry, .inl (cY, 32, .inl (fun _ => 0))), (ho, .inl (cL, 1, .inr (.inl (u))))]) (w1 := [(hm, .inr (7, .int tm :: fs))]) hP hD [0] [1, 2, 3] rfl rfl (by decide) (by decide) hk1 hFc hP1 hD1
  generalize H1 = H at hP hS ⊢
  have hP : va_P (dC, dI) classes [(rx, .inl (cX, 32, .inl (fun _ => 0))), (ry, .inl (cY, 32, .inl (fun _ => 0))), (ho, .inl (cL, 1, .inr (.inl (u)))), (hm, .inr (7, .int tm :: fs))] H := hP
  have hD : va_D A [(rx, .inl (cX, 32, .inl (fun _ => 0))), (ry, .inl (cY, 32, .inl (fun _ => 0))), (ho, .inl (cL, 1, .inr (.inl (u)))), (hm, .inr (7, .int tm :: fs))] := hD
  have hm9 : tm = 1 := hm9
  have hm9 := hm9.symm
  subst hm9
  refine lv_istore (lv' := [(6, .int rm), (5, .int 1), (4, .int 0), (3, .ref ho), (2, .ref hm), (1, .ref h), (0, .ref b)]) hx hb d_law_1280 hl (by decide) rfl (fun ls hl => ?_)
  refine lv_aload_n hx hb d_law_1282 rfl (lv_at hl 4 rfl) ?_
  refine vp_callSi (W.runV (As := []) (rest := []) ⟨hx, hb, hml, hown, hts⟩ (c_M_thrown l dC dI hm 1 fs) (cwV 0 hts (tw_gV tk_383 tk_384 tk_385 tk_249 tk_386) rfl rfl rfl (by decide +kernel) ⟨Nat.le_of_ble_eq_true rfl, Nat.le_of_ble_eq_true rfl⟩) (tw_v2 (va_recv (q0 := 3) hK hP rfl rfl) (hP.sub (ws' := [(hm, .inr (7, .int 1 :: fs))]) [3] rfl) (hK.sub (tys' := []) [] rfl)) rfl rfl hl.1 rfl (lv_room (Nat.le_of_ble_eq_true rfl)) d_law_1283 ⟨by show 62 ≤ 600002; decide, by show 60367 ≤ 7302232; decide⟩) (fun r1 e2 => ?_)
  have e2 := e2.symm
  subst e2
  refine lv_iload hx hb d_law_1286 (lv_at hl 1 rfl) ?_
  refine lv_icmp_eq (tgt := 1293) hx hb d_law_1288 (by decide) (fun h3 => ?_) (fun h3 => absurd (by decide) h3)
  refine lv_iload hx hb d_law_1293 (lv_at hl 1 rfl) ?_
  refine lv_if_ne (tgt := 1310) hx hb d_law_1295 (by decide) (fun h4 => ?_) (fun h4 => absurd h4 (by decide))
  refine lv_goto (tgt := 1637) hx hb d_law_1310 (by decide) ?_
  refine lv_iinc (k := 2) (v := 7) (lv' := [(4, .int 7), (6, .int rm), (5, .int 1), (3, .ref ho), (2, .ref hm), (1, .ref h), (0, .ref b)]) hx hb d_law_1637 hl rfl (by decide) (by decide) rfl (fun ls hl => ?_)
  refine lv_goto (tgt := 23) hx hb d_law_1640 (by decide) ?_
  refine lv_iload hx hb d_law_23 (lv_at hl 0 rfl) ?_
  refine lv_aload_n hx hb d_law_25 rfl (lv_at hl 6 rfl) ?_
  refine va_slen hx hb hX hbl hbA hS d_law_26 ?_
  refine lv_bipush (v := 7) hx hb d_law_27 (by decide) ?_
  refine lv_isub hx hb d_law_29 ?_
  refine lv_icmp_gt (tgt := 1643) hx hb d_law_30 (by decide) (fun h5 => ?_) (fun h5 => absurd (by decide) h5)
  refine lv_iconst (v := 1) hx hb d_law_1643 (by decide) ?_
  refine va_forget (fun q hq => hA2 _ (hS.2.2 q hq)) ?_
  refine W.widen (k := 600002) (n := 7302232) (by decide) (by decide) ?_
  exact lw_ret hx hb hr hlocks d_law_1644
theorem tk_485 : (Jvm.Cond.codeWith ({ cls := "LandBookLaw", name := "corner", desc := "(LLandBook;II[J)I" } : Jvm.MethodName) method_18_code (5 : Nat) (Option.some Jvm.ClassFile.FieldType.int) [((0 : Nat), (10 : Nat), (13 : Nat), (21 : Nat)), ((0 : Nat), (10 : Nat), (17 : Nat), (26 : Nat))]) ∈ tw_G := tw_in (List.mem_of_getElem? (i := 964) (by decide +kernel)) rfl
theorem tk_486 : (Jvm.Cond.methodLink "LandBookLaw" (147 : Nat) ({ cls := "LandBookLaw", name := "corner", desc := "(LLandBook;II[J)I" } : Jvm.MethodName)) ∈ tw_G := tw_in (List.mem_of_getElem? (i := 962) (by decide +kernel)) rfl
theorem tk_487 : (Jvm.Cond.static ({ cls := "LandBookLaw", name := "corner", desc := "(LLandBook;II[J)I" } : Jvm.MethodName)) ∈ tw_G := tw_in (List.mem_of_getElem? (i := 963) (by decide +kernel)) rfl
theorem tk_488 : (Jvm.Cond.methodLink "LandBookLaw" (149 : Nat) ({ cls := "LandBookModel", name := "corner", desc := "(II)I" } : Jvm.MethodName)) ∈ tw_G := tw_in (List.mem_of_getElem? (i := 1440) (by decide +kernel)) rfl
theorem tk_489 : (Jvm.Cond.instanceMethod ({ cls := "LandBookModel", name := "corner", desc := "(II)I" } : Jvm.MethodName)) ∈ tw_G := tw_in (List.mem_of_getElem? (i := 1441) (by decide +kernel)) rfl
theorem tk_490 : (Jvm.Cond.selects "LandBookModel" ({ cls := "LandBookModel", name := "corner", desc := "(II)I" } : Jvm.MethodName) ({ cls := "LandBookModel", name := "corner", desc := "(II)I" } : Jvm.MethodName)) ∈ tw_G := tw_in (List.mem_of_getElem? (i := 1442) (by decide +kernel)) rfl
theorem tk_491 : (Jvm.Cond.code ({ cls := "LandBookModel", name := "corner", desc := "(II)I" } : Jvm.MethodName) prog_13_method_71_code (3 : Nat) (Option.some Jvm.ClassFile.FieldType.int)) ∈ tw_G := tw_in (List.mem_of_getElem? (i := 1443) (by decide +kernel)) rfl
set_option maxHeartbeats 4000000 in
set_option maxRecDepth 100000 in
theorem lw_case_15 {p : Program} {e : Env} {s : State} {m : MethodId} {below : List Frame} {meth : Method} {c : Code} (l : Launch) (hfl : l.flags = pinnedFlags ++ [noTraceFlag]) {b : Nat} {xs : Nat → Int32} (hx : p.tables.exec = Jvm.exec) (hb : c.code = code) (hr : meth.sig.returnType = ret) (hml : c.maxLocals = 7) (hown : s.vm.findClass "LandBookLaw" = some m.cls) (hts : ∀ w ∈ tw_G, w.before #[Value.ref b] s = true) (hX : va_X b 7 xs s s.heap) (hbl : b < s.heap.size) (hlocks : meth.locks = false) (hE : lb_E s) {A : Nat → Prop} (hA : ∀ q : Nat, s.heap.size ≤ q → A q) (hA2 : ∀ q : Nat, A q → s.heap.size ≤ q) {dC : Nat → ClassId} {dI : Nat → Nat → Nat} {h ro ra ch rg dl ll el lg hm rx ry ho : Nat} {cI cX cY cL : ClassId} {v2 v3 ca w3 w4 x0 y0 x1 y1 x2 y2 z0 m8 m9 m10 m11 m12 m13 m14 m16 m17 m18 m19 m20 m21 m22 m23 m24 m26 m27 m28 m29 m32 m34 m35 m37 m38 m40 m41 : Value} {H : Heap} {locs : List Loc} {ls : Array Slot} (hK : va_K (dC, dI) classes [(cI, .int), (cX, .int), (cY, .int), (cL, .long)] s) (hP : va_P (dC, dI) classes [(h, .inr (0, [.ref ro, .ref ch, v2, v3, .ref rg, .ref lg, .int 0, .int 0])), (ro, .inr (1, [.ref ra, .int 0])), (ra, .inl (cI, 32, .inl (fun _ => 0))), (ch, .inr (1, [ca, .int 0])), (rg, .inr (4, [.ref dl, .ref ll, .ref el, w3, w4])), (dl, .inr (6, [x0, .int 0, y0])), (ll, .inr (6, [x1, .int 0, y1])), (el, .inr (6, [x2, .int 0, y2])), (lg, .inr (5, [z0, .int 0, .int 0])), (hm, .inr (7, [.int 0, .int 0, .int 0, .int 0, .int 0, .ref rx, .ref ry, .int 0, m8, m9, m10, m11, m12, m13, m14, .int 0, m16, m17, m18, m19, m20, m21, m22, m23, m24, .int 0, m26, m27, m28, m29, .int 0, .int 0, m32, .int 0, m34, m35, .int 0, m37, m38, .int 0, m40, m41])), (rx, .inl (cX, 32, .inl (fun _ => 0))), (ry, .inl (cY, 32, .inl (fun _ => 0))), (ho, .inl (cL, 1, .inr (.inl (fun _ => 0))))] H) (hD : va_D A [(h, .inr (0, [.ref ro, .ref ch, v2, v3, .ref rg, .ref lg, .int 0, .int 0])), (ro, .inr (1, [.ref ra, .int 0])), (ra, .inl (cI, 32, .inl (fun _ => 0))), (ch, .inr (1, [ca, .int 0])), (rg, .inr (4, [.ref dl, .ref ll, .ref el, w3, w4])), (dl, .inr (6, [x0, .int 0, y0])), (ll, .inr (6, [x1, .int 0, y1])), (el, .inr (6, [x2, .int 0, y2])), (lg, .inr (5, [z0, .int 0, .int 0])), (hm, .inr (7, [.int 0, .int 0, .int 0, .int 0, .int 0, .ref rx, .ref ry, .int 0, m8, m9, m10, m11, m12, m13, m14, .int 0, m16, m17, m18, m19, m20, m21, m22, m23, m24, .int 0, m26, m27, m28, m29, .int 0, .int 0, m32, .int 0, m34, m35, .int 0, m37, m38, .int 0, m40, m41])), (rx, .inl (cX, 32, .inl (fun _ => 0))), (ry, .inl (cY, 32, .inl (fun _ => 0))), (ho, .inl (cL, 1, .inr (.inl (fun _ => 0))))]) (hS : va_S A s.heap H locs) (hl : lv_has ls 7 [(4, .int 0), (3, .ref ho), (2, .ref hm), (1, .ref h), (0, .ref b)]) : W p l e room_1 s m #[Value.ref b] below meth c H locs 61 60361 (lw_Z below #[Value.ref b] s) (F0 m 1313 ls []) := by
  have hbA : ¬ A b := fun h => absurd (hA2 b h) (Nat.not_le.mpr hbl)
  have hN : ∀ (a : Nat) (cell : Cell), s.heap[a]? = some cell → cell.vm.isStatics = true → ¬ A a := fun a cell h1 _ h3 => absurd (hA2 a h3) (Nat.not_le.mpr (Array.getElem?_eq_some_iff.mp h1).1)
  refine lv_aload_n hx hb d_law_1313 rfl (lv_at hl 3 rfl) ?_
  refine lv_aload_n hx hb d_law_1314 rfl (lv_at hl 4 rfl) ?_
  refine lv_iload hx hb d_law_1315 (lv_at hl 0 rfl) ?_
  refine lv_iconst (v := 1) hx hb d_law_1317 (by decide) ?_
  refine lv_iadd hx hb d_law_1318 ?_
  refine va_sld hx hb hX hbl hbA hS (i := (0 + 1)) (by unfold vp_in; decide) d_law_1319 ?_
  refine lv_aload_n hx hb d_law_1320 rfl (lv_at hl 4 rfl) ?_
  refine lv_iload hx hb d_law_1321 (lv_at hl 0 rfl) ?_
  refine lv_iconst (v := 2) hx hb d_law_1323 (by decide) ?_
  refine lv_iadd hx hb d_law_1324 ?_
  refine va_sld hx hb hX hbl hbA hS (i := (0 + 2)) (by unfold vp_in; decide) d_law_1325 ?_
  refine lv_aload_n hx hb d_law_1326 rfl (lv_at hl 1 rfl) ?_
  have hPc := hP.sub (ws' := [(h, .inr (0, [.ref ro, .ref ch, v2, v3, .ref rg, .ref lg, .int 0, .int 0])), (ro, .inr (1, [.ref ra, .int 0])), (ra, .inl (cI, 32, .inl (fun _ => 0))), (ch, .inr (1, [ca, .int 0])), (rg, .inr (4, [.ref dl, .ref ll, .ref el, w3, w4])), (dl, .inr (6, [x0, .int 0, y0])), (ll, .inr (6, [x1, .int 0, y1])), (el, .inr (6, [x2, .int 0, y2])), (lg, .inr (5, [z0, .int 0, .int 0])), (ho, .inl (cL, 1, .inr (.inl (fun _ => 0))))]) [0, 1, 2, 3, 4, 5, 6, 7, 8, 12] rfl
  have hDc := hD.sub (ws' := [(h, .inr (0, [.ref ro, .ref ch, v2, v3, .ref rg, .ref lg, .int 0, .int 0])), (ro, .inr (1, [.ref ra, .int 0])), (ra, .inl (cI, 32, .inl (fun _ => 0))), (ch, .inr (1, [ca, .int 0])), (rg, .inr (4, [.ref dl, .ref ll, .ref el, w3, w4])), (dl, .inr (6, [x0, .int 0, y0])), (ll, .inr (6, [x1, .int 0, y1])), (el, .inr (6, [x2, .int 0, y2])), (lg, .inr (5, [z0, .int 0, .int 0])), (ho, .inl (cL, 1, .inr (.inl (fun _ => 0))))]) [0, 1, 2, 3, 4, 5, 6, 7, 8, 12] (by decide) rfl
  have hKc := hK.sub (tys' := [(cI, .int), (cL, .long)]) [0, 3] rfl
  have hFc := va_free (wc := [(h, .inr (0, [.ref ro, .ref ch, v2, v3, .ref rg, .ref lg, .int 0, .int 0])), (ro, .inr (1, [.ref ra, .int 0])), (ra, .inl (cI, 32, .inl (fun _ => 0))), (ch, .inr (1, [ca, .int 0])), (rg, .inr (4, [.ref dl, .ref ll, .ref el, w3, w4])), (dl, .inr (6, [x0, .int 0, y0])), (ll, .inr (6, [x1, .int 0, y1])), (el, .inr (6, [x2, .int 0, y2])), (lg, .inr (5, [z0, .int 0, .int 0])), (ho, .inl (cL, 1, .inr (.inl (fun _ => 0))))]) hD hS hA [0, 1, 2, 3, 4, 5, 6, 7, 8, 12] rfl
  refine va_calli (tw_runSW (n := 4) (As := [.ref h, .int (xs (Int32.toNatClampNeg (0 + 1))), .int (xs (Int32.toNatClampNeg (0 + 2))), .ref ho]) (rest := []) ⟨hx, hb, hml, hown, hts⟩ (c_law_corner l hfl dC dI h H.size ro ra ch rg dl ll el lg ho cI cL (fun _ => 0) (fun _ => 0) v2 v3 ca w3 w4 x0 y0 x1 y1 x2 y2 z0 ((xs (Int32.toNatClampNeg (0 + 1)))) ((xs (Int32.toNatClampNeg (0 + 2))))) (tw_gc tk_485) rfl rfl rfl ⟨Nat.le_of_ble_eq_true rfl, Nat.le_of_ble_eq_true rfl⟩ (hts _ tk_376) (hts _ tk_486) (hts _ tk_487) (by decide +kernel) (tw_s4E hPc hKc hDc hE (tw_kst hN hS)) rfl rfl hl.1 rfl (lv_room (Nat.le_of_ble_eq_true rfl)) d_law_1327 ⟨by show 62 ≤ 600002; decide, by show 60367 ≤ 7302232; decide⟩) hS (fun q _ h => hFc q h) hFc (fun rk u t H1 locs ht hvm hk9 hB hz1 hk1 hS => ?_)
  obtain ⟨hP1, hK1, hD1⟩ := hB
  rw [ht] at hP1
  obtain ⟨hP, hD⟩ := va_join (wr := [(hm, .inr (7, [.int 0, .int 0, .int 0, .int 0, .int 0, .ref rx, .ref ry, .int 0, m8, m9, m10, m11, m12, m13, m14, .int 0, m16, m17, m18, m19, m20, m21, m22, m23, m24, .int 0, m26, m27, m28, m29, .int 0, .int 0, m32, .int 0, m34, m35, .int 0, m37, m38, .int 0, m40, m41])), (rx, .inl (cX, 32, .inl (fun _ => 0))), (ry, .inl (cY, 32, .inl (fun _ => 0)))]) (w1 := [(ho, .inl (cL, 1, .inr (.inl (u))))]) hP hD [0, 1, 2, 3, 4, 5, 6, 7, 8, 12] [9, 10, 11] rfl rfl (by decide) (by decide) hk1 hFc hP1 hD1
  generalize H1 = H at hP hS ⊢
  have hP : va_P (dC, dI) classes [(hm, .inr (7, [.int 0, .int 0, .int 0, .int 0, .int 0, .ref rx, .ref ry, .int 0, m8, m9, m10, m11, m12, m13, m14, .int 0, m16, m17, m18, m19, m20, m21, m22, m23, m24, .int 0, m26, m27, m28, m29, .int 0, .int 0, m32, .int 0, m34, m35, .int 0, m37, m38, .int 0, m40, m41])), (rx, .inl (cX, 32, .inl (fun _ => 0))), (ry, .inl (cY, 32, .inl (fun _ => 0))), (ho, .inl (cL, 1, .inr (.inl (u))))] H := hP
  have hD : va_D A [(hm, .inr (7, [.int 0, .int 0, .int 0, .int 0, .int 0, .ref rx, .ref ry, .int 0, m8, m9, m10, m11, m12, m13, m14, .int 0, m16, m17, m18, m19, m20, m21, m22, m23, m24, .int 0, m26, m27, m28, m29, .int 0, .int 0, m32, .int 0, m34, m35, .int 0, m37, m38, .int 0, m40, m41])), (rx, .inl (cX, 32, .inl (fun _ => 0))), (ry, .inl (cY, 32, .inl (fun _ => 0))), (ho, .inl (cL, 1, .inr (.inl (u))))] := hD
  have hk9 : rk = 1 := hk9
  have hk9 := hk9.symm
  subst hk9
  refine lv_istore (lv' := [(5, .int 1), (4, .int 0), (3, .ref ho), (2, .ref hm), (1, .ref h), (0, .ref b)]) hx hb d_law_1330 hl (by decide) rfl (fun ls hl => ?_)
  refine lv_aload_n hx hb d_law_1332 rfl (lv_at hl 3 rfl) ?_
  refine lv_aload_n hx hb d_law_1333 rfl (lv_at hl 5 rfl) ?_
  refine lv_iload hx hb d_law_1334 (lv_at hl 1 rfl) ?_
  refine lv_iconst (v := 1) hx hb d_law_1336 (by decide) ?_
  refine lv_iadd hx hb d_law_1337 ?_
  refine va_sld hx hb hX hbl hbA hS (i := (0 + 1)) (by unfold vp_in; decide) d_law_1338 ?_
  refine lv_aload_n hx hb d_law_1339 rfl (lv_at hl 5 rfl) ?_
  refine lv_iload hx hb d_law_1340 (lv_at hl 1 rfl) ?_
  refine lv_iconst (v := 2) hx hb d_law_1342 (by decide) ?_
  refine lv_iadd hx hb d_law_1343 ?_
  refine va_sld hx hb hX hbl hbA hS (i := (0 + 2)) (by unfold vp_in; decide) d_law_1344 ?_
  have hPc := hP.sub (ws' := [(hm, .inr (7, [.int 0, .int 0, .int 0, .int 0, .int 0, .ref rx, .ref ry, .int 0, m8, m9, m10, m11, m12, m13, m14, .int 0, m16, m17, m18, m19, m20, m21, m22, m23, m24, .int 0, m26, m27, m28, m29, .int 0, .int 0, m32, .int 0, m34, m35, .int 0, m37, m38, .int 0, m40, m41]))]) [0] rfl
  have hDc := hD.sub (ws' := [(hm, .inr (7, [.int 0, .int 0, .int 0, .int 0, .int 0, .ref rx, .ref ry, .int 0, m8, m9, m10, m11, m12, m13, m14, .int 0, m16, m17, m18, m19, m20, m21, m22, m23, m24, .int 0, m26, m27, m28, m29, .int 0, .int 0, m32, .int 0, m34, m35, .int 0, m37, m38, .int 0, m40, m41]))]) [0] (by decide) rfl
  have hKc := hK.sub (tys' := []) [] rfl
  have hFc := va_free (wc := [(hm, .inr (7, [.int 0, .int 0, .int 0, .int 0, .int 0, .ref rx, .ref ry, .int 0, m8, m9, m10, m11, m12, m13, m14, .int 0, m16, m17, m18, m19, m20, m21, m22, m23, m24, .int 0, m26, m27, m28, m29, .int 0, .int 0, m32, .int 0, m34, m35, .int 0, m37, m38, .int 0, m40, m41]))]) hD hS hA [0] rfl
  refine va_calli (va_runV (As := [.int (xs (Int32.toNatClampNeg (0 + 1))), .int (xs (Int32.toNatClampNeg (0 + 2)))]) (rest := []) ⟨hx, hb, hml, hown, hts⟩ (c_M_corner l dC dI hm H.size 0 (.ref rx) (.ref ry) m8 m9 m10 m11 m12 m13 m14 m16 m17 m18 m19 m20 m21 m22 m23 m24 m26 m27 m28 m29 m32 m34 m35 m37 m38 m40 m41 ((xs (Int32.toNatClampNeg (0 + 1)))) ((xs (Int32.toNatClampNeg (0 + 2))))) (cwV 2 hts (tw_gV tk_488 tk_489 tk_490 tk_249 tk_491) rfl rfl rfl (by decide +kernel) ⟨Nat.le_of_ble_eq_true rfl, Nat.le_of_ble_eq_true rfl⟩) (tw_v4 (va_recv (q0 := 0) hK hP rfl rfl) hPc hKc hDc) rfl rfl hl.1 rfl (lv_room (Nat.le_of_ble_eq_true rfl)) d_law_1345 ⟨by show 62 ≤ 600002; decide, by show 60367 ≤ 7302232; decide⟩) hS (fun q _ h => hFc q h) hFc (fun rm w9 t H1 locs ht hvm hm9 hB hz1 hk1 hS => ?_)
  obtain ⟨tm, fs⟩ := w9
  obtain ⟨hP1, hK1, hD1⟩ := hB
  rw [ht] at hP1
  obtain ⟨hP, hD⟩ := va_join (wr := [(rx, .inl (cX, 32, .inl (fun _ => 0))), (ry, .inl (cY, 32, .inl (fun _ => 0))), (ho, .inl (cL, 1, .inr (.inl (u))))]) (w1 := [(hm, .inr (7, .int tm :: fs))]) hP hD [0] [1, 2, 3] rfl rfl (by decide) (by decide) hk1 hFc hP1 hD1
  generalize H1 = H at hP hS ⊢
  have hP : va_P (dC, dI) classes [(rx, .inl (cX, 32, .inl (fun _ => 0))), (ry, .inl (cY, 32, .inl (fun _ => 0))), (ho, .inl (cL, 1, .inr (.inl (u)))), (hm, .inr (7, .int tm :: fs))] H := hP
  have hD : va_D A [(rx, .inl (cX, 32, .inl (fun _ => 0))), (ry, .inl (cY, 32, .inl (fun _ => 0))), (ho, .inl (cL, 1, .inr (.inl (u)))), (hm, .inr (7, .int tm :: fs))] := hD
  have hm9 : tm = 1 := hm9
  have hm9 := hm9.symm
  subst hm9
  refine lv_istore (lv' := [(6, .int rm), (5, .int 1), (4, .int 0), (3, .ref ho), (2, .ref hm), (1, .ref h), (0, .ref b)]) hx hb d_law_1348 hl (by decide) rfl (fun ls hl => ?_)
  refine lv_aload_n hx hb d_law_1350 rfl (lv_at hl 4 rfl) ?_
  refine vp_callSi (W.runV (As := []) (rest := []) ⟨hx, hb, hml, hown, hts⟩ (c_M_thrown l dC dI hm 1 fs) (cwV 0 hts (tw_gV tk_383 tk_384 tk_385 tk_249 tk_386) rfl rfl rfl (by decide +kernel) ⟨Nat.le_of_ble_eq_true rfl, Nat.le_of_ble_eq_true rfl⟩) (tw_v2 (va_recv (q0 := 3) hK hP rfl rfl) (hP.sub (ws' := [(hm, .inr (7, .int 1 :: fs))]) [3] rfl) (hK.sub (tys' := []) [] rfl)) rfl rfl hl.1 rfl (lv_room (Nat.le_of_ble_eq_true rfl)) d_law_1351 ⟨by show 62 ≤ 600002; decide, by show 60367 ≤ 7302232; decide⟩) (fun r1 e2 => ?_)
  have e2 := e2.symm
  subst e2
  refine lv_iload hx hb d_law_1354 (lv_at hl 1 rfl) ?_
  refine lv_icmp_eq (tgt := 1361) hx hb d_law_1356 (by decide) (fun h3 => ?_) (fun h3 => absurd (by decide) h3)
  refine lv_iload hx hb d_law_1361 (lv_at hl 1 rfl) ?_
  refine lv_if_ne (tgt := 1378) hx hb d_law_1363 (by decide) (fun h4 => ?_) (fun h4 => absurd h4 (by decide))
  refine lv_goto (tgt := 1637) hx hb d_law_1378 (by decide) ?_
  refine lv_iinc (k := 2) (v := 7) (lv' := [(4, .int 7), (6, .int rm), (5, .int 1), (3, .ref ho), (2, .ref hm), (1, .ref h), (0, .ref b)]) hx hb d_law_1637 hl rfl (by decide) (by decide) rfl (fun ls hl => ?_)
  refine lv_goto (tgt := 23) hx hb d_law_1640 (by decide) ?_
  refine lv_iload hx hb d_law_23 (lv_at hl 0 rfl) ?_
  refine lv_aload_n hx hb d_law_25 rfl (lv_at hl 6 rfl) ?_
  refine va_slen hx hb hX hbl hbA hS d_law_26 ?_
  refine lv_bipush (v := 7) hx hb d_law_27 (by decide) ?_
  refine lv_isub hx hb d_law_29 ?_
  refine lv_icmp_gt (tgt := 1643) hx hb d_law_30 (by decide) (fun h5 => ?_) (fun h5 => absurd (by decide) h5)
  refine lv_iconst (v := 1) hx hb d_law_1643 (by decide) ?_
  refine va_forget (fun q hq => hA2 _ (hS.2.2 q hq)) ?_
  refine W.widen (k := 600002) (n := 7302232) (by decide) (by decide) ?_
  exact lw_ret hx hb hr hlocks d_law_1644
theorem tk_492 : (Jvm.Cond.codeWith ({ cls := "LandBookLaw", name := "many", desc := "(LLandBook;I[J)I" } : Jvm.MethodName) method_19_code (4 : Nat) (Option.some Jvm.ClassFile.FieldType.int) [((0 : Nat), (9 : Nat), (12 : Nat), (26 : Nat))]) ∈ tw_G := tw_in (List.mem_of_getElem? (i := 972) (by decide +kernel)) rfl
theorem tk_493 : (Jvm.Cond.methodLink "LandBookLaw" (150 : Nat) ({ cls := "LandBookLaw", name := "many", desc := "(LLandBook;I[J)I" } : Jvm.MethodName)) ∈ tw_G := tw_in (List.mem_of_getElem? (i := 970) (by decide +kernel)) rfl
theorem tk_494 : (Jvm.Cond.static ({ cls := "LandBookLaw", name := "many", desc := "(LLandBook;I[J)I" } : Jvm.MethodName)) ∈ tw_G := tw_in (List.mem_of_getElem? (i := 971) (by decide +kernel)) rfl
theorem tk_495 : (Jvm.Cond.methodLink "LandBookLaw" (152 : Nat) ({ cls := "LandBookModel", name := "many", desc := "(I)I" } : Jvm.MethodName)) ∈ tw_G := tw_in (List.mem_of_getElem? (i := 1444) (by decide +kernel)) rfl
theorem tk_496 : (Jvm.Cond.instanceMethod ({ cls := "LandBookModel", name := "many", desc := "(I)I" } : Jvm.MethodName)) ∈ tw_G := tw_in (List.mem_of_getElem? (i := 1445) (by decide +kernel)) rfl
theorem tk_497 : (Jvm.Cond.selects "LandBookModel" ({ cls := "LandBookModel", name := "many", desc := "(I)I" } : Jvm.MethodName) ({ cls := "LandBookModel", name := "many", desc := "(I)I" } : Jvm.MethodName)) ∈ tw_G := tw_in (List.mem_of_getElem? (i := 1446) (by decide +kernel)) rfl
theorem tk_498 : (Jvm.Cond.code ({ cls := "LandBookModel", name := "many", desc := "(I)I" } : Jvm.MethodName) prog_13_method_72_code (2 : Nat) (Option.some Jvm.ClassFile.FieldType.int)) ∈ tw_G := tw_in (List.mem_of_getElem? (i := 1447) (by decide +kernel)) rfl
set_option maxHeartbeats 4000000 in
set_option maxRecDepth 100000 in
theorem lw_case_16 {p : Program} {e : Env} {s : State} {m : MethodId} {below : List Frame} {meth : Method} {c : Code} (l : Launch) (hfl : l.flags = pinnedFlags ++ [noTraceFlag]) {b : Nat} {xs : Nat → Int32} (hx : p.tables.exec = Jvm.exec) (hb : c.code = code) (hr : meth.sig.returnType = ret) (hml : c.maxLocals = 7) (hown : s.vm.findClass "LandBookLaw" = some m.cls) (hts : ∀ w ∈ tw_G, w.before #[Value.ref b] s = true) (hX : va_X b 7 xs s s.heap) (hbl : b < s.heap.size) (hlocks : meth.locks = false) (hE : lb_E s) {A : Nat → Prop} (hA : ∀ q : Nat, s.heap.size ≤ q → A q) (hA2 : ∀ q : Nat, A q → s.heap.size ≤ q) {dC : Nat → ClassId} {dI : Nat → Nat → Nat} {h ro ra ch rg dl ll el lg hm rx ry ho : Nat} {cI cX cY cL : ClassId} {v2 v3 ca w3 w4 x0 y0 x1 y1 x2 y2 z0 m8 m9 m10 m11 m12 m13 m14 m16 m17 m18 m19 m20 m21 m22 m23 m24 m26 m27 m28 m29 m32 m34 m35 m37 m38 m40 m41 : Value} {H : Heap} {locs : List Loc} {ls : Array Slot} (hK : va_K (dC, dI) classes [(cI, .int), (cX, .int), (cY, .int), (cL, .long)] s) (hP : va_P (dC, dI) classes [(h, .inr (0, [.ref ro, .ref ch, v2, v3, .ref rg, .ref lg, .int 0, .int 0])), (ro, .inr (1, [.ref ra, .int 0])), (ra, .inl (cI, 32, .inl (fun _ => 0))), (ch, .inr (1, [ca, .int 0])), (rg, .inr (4, [.ref dl, .ref ll, .ref el, w3, w4])), (dl, .inr (6, [x0, .int 0, y0])), (ll, .inr (6, [x1, .int 0, y1])), (el, .inr (6, [x2, .int 0, y2])), (lg, .inr (5, [z0, .int 0, .int 0])), (hm, .inr (7, [.int 0, .int 0, .int 0, .int 0, .int 0, .ref rx, .ref ry, .int 0, m8, m9, m10, m11, m12, m13, m14, .int 0, m16, m17, m18, m19, m20, m21, m22, m23, m24, .int 0, m26, m27, m28, m29, .int 0, .int 0, m32, .int 0, m34, m35, .int 0, m37, m38, .int 0, m40, m41])), (rx, .inl (cX, 32, .inl (fun _ => 0))), (ry, .inl (cY, 32, .inl (fun _ => 0))), (ho, .inl (cL, 1, .inr (.inl (fun _ => 0))))] H) (hD : va_D A [(h, .inr (0, [.ref ro, .ref ch, v2, v3, .ref rg, .ref lg, .int 0, .int 0])), (ro, .inr (1, [.ref ra, .int 0])), (ra, .inl (cI, 32, .inl (fun _ => 0))), (ch, .inr (1, [ca, .int 0])), (rg, .inr (4, [.ref dl, .ref ll, .ref el, w3, w4])), (dl, .inr (6, [x0, .int 0, y0])), (ll, .inr (6, [x1, .int 0, y1])), (el, .inr (6, [x2, .int 0, y2])), (lg, .inr (5, [z0, .int 0, .int 0])), (hm, .inr (7, [.int 0, .int 0, .int 0, .int 0, .int 0, .ref rx, .ref ry, .int 0, m8, m9, m10, m11, m12, m13, m14, .int 0, m16, m17, m18, m19, m20, m21, m22, m23, m24, .int 0, m26, m27, m28, m29, .int 0, .int 0, m32, .int 0, m34, m35, .int 0, m37, m38, .int 0, m40, m41])), (rx, .inl (cX, 32, .inl (fun _ => 0))), (ry, .inl (cY, 32, .inl (fun _ => 0))), (ho, .inl (cL, 1, .inr (.inl (fun _ => 0))))]) (hS : va_S A s.heap H locs) (hl : lv_has ls 7 [(4, .int 0), (3, .ref ho), (2, .ref hm), (1, .ref h), (0, .ref b)]) : W p l e room_1 s m #[Value.ref b] below meth c H locs 61 60361 (lw_Z below #[Value.ref b] s) (F0 m 1381 ls []) := by
  have hbA : ¬ A b := fun h => absurd (hA2 b h) (Nat.not_le.mpr hbl)
  have hN : ∀ (a : Nat) (cell : Cell), s.heap[a]? = some cell → cell.vm.isStatics = true → ¬ A a := fun a cell h1 _ h3 => absurd (hA2 a h3) (Nat.not_le.mpr (Array.getElem?_eq_some_iff.mp h1).1)
  refine lv_aload_n hx hb d_law_1381 rfl (lv_at hl 3 rfl) ?_
  refine lv_aload_n hx hb d_law_1382 rfl (lv_at hl 4 rfl) ?_
  refine lv_iload hx hb d_law_1383 (lv_at hl 0 rfl) ?_
  refine lv_iconst (v := 1) hx hb d_law_1385 (by decide) ?_
  refine lv_iadd hx hb d_law_1386 ?_
  refine va_sld hx hb hX hbl hbA hS (i := (0 + 1)) (by unfold vp_in; decide) d_law_1387 ?_
  refine lv_aload_n hx hb d_law_1388 rfl (lv_at hl 1 rfl) ?_
  have hPc := hP.sub (ws' := [(h, .inr (0, [.ref ro, .ref ch, v2, v3, .ref rg, .ref lg, .int 0, .int 0])), (ro, .inr (1, [.ref ra, .int 0])), (ra, .inl (cI, 32, .inl (fun _ => 0))), (ch, .inr (1, [ca, .int 0])), (rg, .inr (4, [.ref dl, .ref ll, .ref el, w3, w4])), (dl, .inr (6, [x0, .int 0, y0])), (ll, .inr (6, [x1, .int 0, y1])), (el, .inr (6, [x2, .int 0, y2])), (lg, .inr (5, [z0, .int 0, .int 0])), (ho, .inl (cL, 1, .inr (.inl (fun _ => 0))))]) [0, 1, 2, 3, 4, 5, 6, 7, 8, 12] rfl
  have hDc := hD.sub (ws' := [(h, .inr (0, [.ref ro, .ref ch, v2, v3, .ref rg, .ref lg, .int 0, .int 0])), (ro, .inr (1, [.ref ra, .int 0])), (ra, .inl (cI, 32, .inl (fun _ => 0))), (ch, .inr (1, [ca, .int 0])), (rg, .inr (4, [.ref dl, .ref ll, .ref el, w3, w4])), (dl, .inr (6, [x0, .int 0, y0])), (ll, .inr (6, [x1, .int 0, y1])), (el, .inr (6, [x2, .int 0, y2])), (lg, .inr (5, [z0, .int 0, .int 0])), (ho, .inl (cL, 1, .inr (.inl (fun _ => 0))))]) [0, 1, 2, 3, 4, 5, 6, 7, 8, 12] (by decide) rfl
  have hKc := hK.sub (tys' := [(cI, .int), (cL, .long)]) [0, 3] rfl
  have hFc := va_free (wc := [(h, .inr (0, [.ref ro, .ref ch, v2, v3, .ref rg, .ref lg, .int 0, .int 0])), (ro, .inr (1, [.ref ra, .int 0])), (ra, .inl (cI, 32, .inl (fun _ => 0))), (ch, .inr (1, [ca, .int 0])), (rg, .inr (4, [.ref dl, .ref ll, .ref el, w3, w4])), (dl, .inr (6, [x0, .int 0, y0])), (ll, .inr (6, [x1, .int 0, y1])), (el, .inr (6, [x2, .int 0, y2])), (lg, .inr (5, [z0, .int 0, .int 0])), (ho, .inl (cL, 1, .inr (.inl (fun _ => 0))))]) hD hS hA [0, 1, 2, 3, 4, 5, 6, 7, 8, 12] rfl
  refine va_calli (tw_runSW (n := 3) (As := [.ref h, .int (xs (Int32.toNatClampNeg (0 + 1))), .ref ho]) (rest := []) ⟨hx, hb, hml, hown, hts⟩ (c_law_many l hfl dC dI h H.size ro ra ch rg dl ll el lg ho cI cL (fun _ => 0) (fun _ => 0) v2 v3 ca w3 w4 x0 y0 x1 y1 x2 y2 z0 ((xs (Int32.toNatClampNeg (0 + 1))))) (tw_gc tk_492) rfl rfl rfl ⟨Nat.le_of_ble_eq_true rfl, Nat.le_of_ble_eq_true rfl⟩ (hts _ tk_376) (hts _ tk_493) (hts _ tk_494) (by decide +kernel) (tw_s4E hPc hKc hDc hE (tw_kst hN hS)) rfl rfl hl.1 rfl (lv_room (Nat.le_of_ble_eq_true rfl)) d_law_1389 ⟨by show 62 ≤ 600002; decide, by show 60367 ≤ 7302232; decide⟩) hS (fun q _ h => hFc q h) hFc (fun rk u t H1 locs ht hvm hk9 hB hz1 hk1 hS => ?_)
  obtain ⟨hP1, hK1, hD1⟩ := hB
  rw [ht] at hP1
  obtain ⟨hP, hD⟩ := va_join (wr := [(hm, .inr (7, [.int 0, .int 0, .int 0, .int 0, .int 0, .ref rx, .ref ry, .int 0, m8, m9, m10, m11, m12, m13, m14, .int 0, m16, m17, m18, m19, m20, m21, m22, m23, m24, .int 0, m26, m27, m28, m29, .int 0, .int 0, m32, .int 0, m34, m35, .int 0, m37, m38, .int 0, m40, m41])), (rx, .inl (cX, 32, .inl (fun _ => 0))), (ry, .inl (cY, 32, .inl (fun _ => 0)))]) (w1 := [(ho, .inl (cL, 1, .inr (.inl (u))))]) hP hD [0, 1, 2, 3, 4, 5, 6, 7, 8, 12] [9, 10, 11] rfl rfl (by decide) (by decide) hk1 hFc hP1 hD1
  generalize H1 = H at hP hS ⊢
  have hP : va_P (dC, dI) classes [(hm, .inr (7, [.int 0, .int 0, .int 0, .int 0, .int 0, .ref rx, .ref ry, .int 0, m8, m9, m10, m11, m12, m13, m14, .int 0, m16, m17, m18, m19, m20, m21, m22, m23, m24, .int 0, m26, m27, m28, m29, .int 0, .int 0, m32, .int 0, m34, m35, .int 0, m37, m38, .int 0, m40, m41])), (rx, .inl (cX, 32, .inl (fun _ => 0))), (ry, .inl (cY, 32, .inl (fun _ => 0))), (ho, .inl (cL, 1, .inr (.inl (u))))] H := hP
  have hD : va_D A [(hm, .inr (7, [.int 0, .int 0, .int 0, .int 0, .int 0, .ref rx, .ref ry, .int 0, m8, m9, m10, m11, m12, m13, m14, .int 0, m16, m17, m18, m19, m20, m21, m22, m23, m24, .int 0, m26, m27, m28, m29, .int 0, .int 0, m32, .int 0, m34, m35, .int 0, m37, m38, .int 0, m40, m41])), (rx, .inl (cX, 32, .inl (fun _ => 0))), (ry, .inl (cY, 32, .inl (fun _ => 0))), (ho, .inl (cL, 1, .inr (.inl (u))))] := hD
  rcases hk9 with ⟨ok, rfl, hu⟩ | ⟨ok, rfl⟩
  · refine lv_istore (lv' := [(5, .int 0), (4, .int 0), (3, .ref ho), (2, .ref hm), (1, .ref h), (0, .ref b)]) hx hb d_law_1392 hl (by decide) rfl (fun ls hl => ?_)
    refine lv_aload_n hx hb d_law_1394 rfl (lv_at hl 3 rfl) ?_
    refine lv_aload_n hx hb d_law_1395 rfl (lv_at hl 5 rfl) ?_
    refine lv_iload hx hb d_law_1396 (lv_at hl 1 rfl) ?_
    refine lv_iconst (v := 1) hx hb d_law_1398 (by decide) ?_
    refine lv_iadd hx hb d_law_1399 ?_
    refine va_sld hx hb hX hbl hbA hS (i := (0 + 1)) (by unfold vp_in; decide) d_law_1400 ?_
    have hPc := hP.sub (ws' := [(hm, .inr (7, [.int 0, .int 0, .int 0, .int 0, .int 0, .ref rx, .ref ry, .int 0, m8, m9, m10, m11, m12, m13, m14, .int 0, m16, m17, m18, m19, m20, m21, m22, m23, m24, .int 0, m26, m27, m28, m29, .int 0, .int 0, m32, .int 0, m34, m35, .int 0, m37, m38, .int 0, m40, m41]))]) [0] rfl
    have hDc := hD.sub (ws' := [(hm, .inr (7, [.int 0, .int 0, .int 0, .int 0, .int 0, .ref rx, .ref ry, .int 0, m8, m9, m10, m11, m12, m13, m14, .int 0, m16, m17, m18, m19, m20, m21, m22, m23, m24, .int 0, m26, m27, m28, m29, .int 0, .int 0, m32, .int 0, m34, m35, .int 0, m37, m38, .int 0, m40, m41]))]) [0] (by decide) rfl
    have hKc := hK.sub (tys' := []) [] rfl
    have hFc := va_free (wc := [(hm, .inr (7, [.int 0, .int 0, .int 0, .int 0, .int 0, .ref rx, .ref ry, .int 0, m8, m9, m10, m11, m12, m13, m14, .int 0, m16, m17, m18, m19, m20, m21, m22, m23, m24, .int 0, m26, m27, m28, m29, .int 0, .int 0, m32, .int 0, m34, m35, .int 0, m37, m38, .int 0, m40, m41]))]) hD hS hA [0] rfl
    refine va_calli (va_runV (As := [.int (xs (Int32.toNatClampNeg (0 + 1)))]) (rest := []) ⟨hx, hb, hml, hown, hts⟩ (c_M_many l dC dI hm H.size 0 (.ref rx) (.ref ry) m8 m9 m10 m11 m12 m13 m14 m16 m17 m18 m19 m20 m21 m22 m23 m24 m26 m27 m28 m29 m32 m34 m35 m37 m38 m40 m41 ((xs (Int32.toNatClampNeg (0 + 1))))) (cwV 1 hts (tw_gV tk_495 tk_496 tk_497 tk_249 tk_498) rfl rfl rfl (by decide +kernel) ⟨Nat.le_of_ble_eq_true rfl, Nat.le_of_ble_eq_true rfl⟩) (tw_v4 (va_recv (q0 := 0) hK hP rfl rfl) hPc hKc hDc) rfl rfl hl.1 rfl (lv_room (Nat.le_of_ble_eq_true rfl)) d_law_1401 ⟨by show 62 ≤ 600002; decide, by show 60367 ≤ 7302232; decide⟩) hS (fun q _ h => hFc q h) hFc (fun rm w9 t H1 locs ht hvm hm9 hB hz1 hk1 hS => ?_)
    obtain ⟨tm, fs⟩ := w9
    obtain ⟨hP1, hK1, hD1⟩ := hB
    rw [ht] at hP1
    obtain ⟨hP, hD⟩ := va_join (wr := [(rx, .inl (cX, 32, .inl (fun _ => 0))), (ry, .inl (cY, 32, .inl (fun _ => 0))), (ho, .inl (cL, 1, .inr (.inl (u))))]) (w1 := [(hm, .inr (7, .int tm :: fs))]) hP hD [0] [1, 2, 3] rfl rfl (by decide) (by decide) hk1 hFc hP1 hD1
    generalize H1 = H at hP hS ⊢
    have hP : va_P (dC, dI) classes [(rx, .inl (cX, 32, .inl (fun _ => 0))), (ry, .inl (cY, 32, .inl (fun _ => 0))), (ho, .inl (cL, 1, .inr (.inl (u)))), (hm, .inr (7, .int tm :: fs))] H := hP
    have hD : va_D A [(rx, .inl (cX, 32, .inl (fun _ => 0))), (ry, .inl (cY, 32, .inl (fun _ => 0))), (ho, .inl (cL, 1, .inr (.inl (u)))), (hm, .inr (7, .int tm :: fs))] := hD
    rcases hm9 with ⟨-, rfl, hm2⟩ | ⟨nok, -⟩
    · have hm2 : tm = 0 := hm2
      have hm2 := hm2.symm
      subst hm2
      refine lv_istore (lv' := [(6, .int 0), (5, .int 0), (4, .int 0), (3, .ref ho), (2, .ref hm), (1, .ref h), (0, .ref b)]) hx hb d_law_1404 hl (by decide) rfl (fun ls hl => ?_)
      refine lv_aload_n hx hb d_law_1406 rfl (lv_at hl 4 rfl) ?_
      refine vp_callSi (W.runV (As := []) (rest := []) ⟨hx, hb, hml, hown, hts⟩ (c_M_thrown l dC dI hm 0 fs) (cwV 0 hts (tw_gV tk_383 tk_384 tk_385 tk_249 tk_386) rfl rfl rfl (by decide +kernel) ⟨Nat.le_of_ble_eq_true rfl, Nat.le_of_ble_eq_true rfl⟩) (tw_v2 (va_recv (q0 := 3) hK hP rfl rfl) (hP.sub (ws' := [(hm, .inr (7, .int 0 :: fs))]) [3] rfl) (hK.sub (tys' := []) [] rfl)) rfl rfl hl.1 rfl (lv_room (Nat.le_of_ble_eq_true rfl)) d_law_1407 ⟨by show 62 ≤ 600002; decide, by show 60367 ≤ 7302232; decide⟩) (fun r1 e2 => ?_)
      have e2 := e2.symm
      subst e2
      refine lv_iload hx hb d_law_1410 (lv_at hl 1 rfl) ?_
      refine lv_icmp_eq (tgt := 1417) hx hb d_law_1412 (by decide) (fun h3 => ?_) (fun h3 => absurd (by decide) h3)
      refine lv_iload hx hb d_law_1417 (lv_at hl 1 rfl) ?_
      refine lv_if_ne (tgt := 1434) hx hb d_law_1419 (by decide) (fun h4 => absurd (by decide) h4) (fun h4 => ?_)
      refine lv_aload_n hx hb d_law_1422 rfl (lv_at hl 3 rfl) ?_
      refine lv_iconst (v := 0) hx hb d_law_1423 (by decide) ?_
      refine va_lald hx hb hK hP 2 3 rfl rfl (by unfold vp_in; decide) d_law_1424 ?_
      refine lv_iload hx hb d_law_1425 (lv_at hl 0 rfl) ?_
      refine lv_i2l (v := Int32.toInt64 (0)) hx hb d_law_1427 rfl ?_
      refine W.lcmp hx hb d_law_1428 ?_
      refine lv_if_eq (tgt := 1434) hx hb d_law_1429 (by decide) (fun h5 => ?_) (fun h5 => absurd (show lg_cmp (u 0) (Int32.toInt64 0) = 0 by rw [hu]; decide) h5)
      refine lv_goto (tgt := 1637) hx hb d_law_1434 (by decide) ?_
      refine lv_iinc (k := 2) (v := 7) (lv' := [(4, .int 7), (6, .int 0), (5, .int 0), (3, .ref ho), (2, .ref hm), (1, .ref h), (0, .ref b)]) hx hb d_law_1637 hl rfl (by decide) (by decide) rfl (fun ls hl => ?_)
      refine lv_goto (tgt := 23) hx hb d_law_1640 (by decide) ?_
      refine lv_iload hx hb d_law_23 (lv_at hl 0 rfl) ?_
      refine lv_aload_n hx hb d_law_25 rfl (lv_at hl 6 rfl) ?_
      refine va_slen hx hb hX hbl hbA hS d_law_26 ?_
      refine lv_bipush (v := 7) hx hb d_law_27 (by decide) ?_
      refine lv_isub hx hb d_law_29 ?_
      refine lv_icmp_gt (tgt := 1643) hx hb d_law_30 (by decide) (fun h6 => ?_) (fun h6 => absurd (by decide) h6)
      refine lv_iconst (v := 1) hx hb d_law_1643 (by decide) ?_
      refine va_forget (fun q hq => hA2 _ (hS.2.2 q hq)) ?_
      refine W.widen (k := 600002) (n := 7302232) (by decide) (by decide) ?_
      exact lw_ret hx hb hr hlocks d_law_1644
    · exact absurd (⟨ok.1, Int32.not_lt.mp ok.2⟩) nok
  · refine lv_istore (lv' := [(5, .int 1), (4, .int 0), (3, .ref ho), (2, .ref hm), (1, .ref h), (0, .ref b)]) hx hb d_law_1392 hl (by decide) rfl (fun ls hl => ?_)
    refine lv_aload_n hx hb d_law_1394 rfl (lv_at hl 3 rfl) ?_
    refine lv_aload_n hx hb d_law_1395 rfl (lv_at hl 5 rfl) ?_
    refine lv_iload hx hb d_law_1396 (lv_at hl 1 rfl) ?_
    refine lv_iconst (v := 1) hx hb d_law_1398 (by decide) ?_
    refine lv_iadd hx hb d_law_1399 ?_
    refine va_sld hx hb hX hbl hbA hS (i := (0 + 1)) (by unfold vp_in; decide) d_law_1400 ?_
    have hPc := hP.sub (ws' := [(hm, .inr (7, [.int 0, .int 0, .int 0, .int 0, .int 0, .ref rx, .ref ry, .int 0, m8, m9, m10, m11, m12, m13, m14, .int 0, m16, m17, m18, m19, m20, m21, m22, m23, m24, .int 0, m26, m27, m28, m29, .int 0, .int 0, m32, .int 0, m34, m35, .int 0, m37, m38, .int 0, m40, m41]))]) [0] rfl
    have hDc := hD.sub (ws' := [(hm, .inr (7, [.int 0, .int 0, .int 0, .int 0, .int 0, .ref rx, .ref ry, .int 0, m8, m9, m10, m11, m12, m13, m14, .int 0, m16, m17, m18, m19, m20, m21, m22, m23, m24, .int 0, m26, m27, m28, m29, .int 0, .int 0, m32, .int 0, m34, m35, .int 0, m37, m38, .int 0, m40, m41]))]) [0] (by decide) rfl
    have hKc := hK.sub (tys' := []) [] rfl
    have hFc := va_free (wc := [(hm, .inr (7, [.int 0, .int 0, .int 0, .int 0, .int 0, .ref rx, .ref ry, .int 0, m8, m9, m10, m11, m12, m13, m14, .int 0, m16, m17, m18, m19, m20, m21, m22, m23, m24, .int 0, m26, m27, m28, m29, .int 0, .int 0, m32, .int 0, m34, m35, .int 0, m37, m38, .int 0, m40, m41]))]) hD hS hA [0] rfl
    refine va_calli (va_runV (As := [.int (xs (Int32.toNatClampNeg (0 + 1)))]) (rest := []) ⟨hx, hb, hml, hown, hts⟩ (c_M_many l dC dI hm H.size 0 (.ref rx) (.ref ry) m8 m9 m10 m11 m12 m13 m14 m16 m17 m18 m19 m20 m21 m22 m23 m24 m26 m27 m28 m29 m32 m34 m35 m37 m38 m40 m41 ((xs (Int32.toNatClampNeg (0 + 1))))) (cwV 1 hts (tw_gV tk_495 tk_496 tk_497 tk_249 tk_498) rfl rfl rfl (by decide +kernel) ⟨Nat.le_of_ble_eq_true rfl, Nat.le_of_ble_eq_true rfl⟩) (tw_v4 (va_recv (q0 := 0) hK hP rfl rfl) hPc hKc hDc) rfl rfl hl.1 rfl (lv_room (Nat.le_of_ble_eq_true rfl)) d_law_1401 ⟨by show 62 ≤ 600002; decide, by show 60367 ≤ 7302232; decide⟩) hS (fun q _ h => hFc q h) hFc (fun rm w9 t H1 locs ht hvm hm9 hB hz1 hk1 hS => ?_)
    obtain ⟨tm, fs⟩ := w9
    obtain ⟨hP1, hK1, hD1⟩ := hB
    rw [ht] at hP1
    obtain ⟨hP, hD⟩ := va_join (wr := [(rx, .inl (cX, 32, .inl (fun _ => 0))), (ry, .inl (cY, 32, .inl (fun _ => 0))), (ho, .inl (cL, 1, .inr (.inl (u))))]) (w1 := [(hm, .inr (7, .int tm :: fs))]) hP hD [0] [1, 2, 3] rfl rfl (by decide) (by decide) hk1 hFc hP1 hD1
    generalize H1 = H at hP hS ⊢
    have hP : va_P (dC, dI) classes [(rx, .inl (cX, 32, .inl (fun _ => 0))), (ry, .inl (cY, 32, .inl (fun _ => 0))), (ho, .inl (cL, 1, .inr (.inl (u)))), (hm, .inr (7, .int tm :: fs))] H := hP
    have hD : va_D A [(rx, .inl (cX, 32, .inl (fun _ => 0))), (ry, .inl (cY, 32, .inl (fun _ => 0))), (ho, .inl (cL, 1, .inr (.inl (u)))), (hm, .inr (7, .int tm :: fs))] := hD
    rcases hm9 with ⟨ok2, -⟩ | ⟨-, hm2⟩
    · exact absurd (⟨ok2.1, Int32.not_lt.mpr ok2.2⟩) ok
    · have hm2 : tm = 1 := hm2
      have hm2 := hm2.symm
      subst hm2
      refine lv_istore (lv' := [(6, .int rm), (5, .int 1), (4, .int 0), (3, .ref ho), (2, .ref hm), (1, .ref h), (0, .ref b)]) hx hb d_law_1404 hl (by decide) rfl (fun ls hl => ?_)
      refine lv_aload_n hx hb d_law_1406 rfl (lv_at hl 4 rfl) ?_
      refine vp_callSi (W.runV (As := []) (rest := []) ⟨hx, hb, hml, hown, hts⟩ (c_M_thrown l dC dI hm 1 fs) (cwV 0 hts (tw_gV tk_383 tk_384 tk_385 tk_249 tk_386) rfl rfl rfl (by decide +kernel) ⟨Nat.le_of_ble_eq_true rfl, Nat.le_of_ble_eq_true rfl⟩) (tw_v2 (va_recv (q0 := 3) hK hP rfl rfl) (hP.sub (ws' := [(hm, .inr (7, .int 1 :: fs))]) [3] rfl) (hK.sub (tys' := []) [] rfl)) rfl rfl hl.1 rfl (lv_room (Nat.le_of_ble_eq_true rfl)) d_law_1407 ⟨by show 62 ≤ 600002; decide, by show 60367 ≤ 7302232; decide⟩) (fun r7 e8 => ?_)
      have e8 := e8.symm
      subst e8
      refine lv_iload hx hb d_law_1410 (lv_at hl 1 rfl) ?_
      refine lv_icmp_eq (tgt := 1417) hx hb d_law_1412 (by decide) (fun h9 => ?_) (fun h9 => absurd (by decide) h9)
      refine lv_iload hx hb d_law_1417 (lv_at hl 1 rfl) ?_
      refine lv_if_ne (tgt := 1434) hx hb d_law_1419 (by decide) (fun h10 => ?_) (fun h10 => absurd h10 (by decide))
      refine lv_goto (tgt := 1637) hx hb d_law_1434 (by decide) ?_
      refine lv_iinc (k := 2) (v := 7) (lv' := [(4, .int 7), (6, .int rm), (5, .int 1), (3, .ref ho), (2, .ref hm), (1, .ref h), (0, .ref b)]) hx hb d_law_1637 hl rfl (by decide) (by decide) rfl (fun ls hl => ?_)
      refine lv_goto (tgt := 23) hx hb d_law_1640 (by decide) ?_
      refine lv_iload hx hb d_law_23 (lv_at hl 0 rfl) ?_
      refine lv_aload_n hx hb d_law_25 rfl (lv_at hl 6 rfl) ?_
      refine va_slen hx hb hX hbl hbA hS d_law_26 ?_
      refine lv_bipush (v := 7) hx hb d_law_27 (by decide) ?_
      refine lv_isub hx hb d_law_29 ?_
      refine lv_icmp_gt (tgt := 1643) hx hb d_law_30 (by decide) (fun h11 => ?_) (fun h11 => absurd (by decide) h11)
      refine lv_iconst (v := 1) hx hb d_law_1643 (by decide) ?_
      refine va_forget (fun q hq => hA2 _ (hS.2.2 q hq)) ?_
      refine W.widen (k := 600002) (n := 7302232) (by decide) (by decide) ?_
      exact lw_ret hx hb hr hlocks d_law_1644
theorem tk_499 : (Jvm.Cond.codeWith ({ cls := "LandBookLaw", name := "word", desc := "(LLandBook;I[J)I" } : Jvm.MethodName) method_20_code (4 : Nat) (Option.some Jvm.ClassFile.FieldType.int) [((0 : Nat), (9 : Nat), (12 : Nat), (26 : Nat))]) ∈ tw_G := tw_in (List.mem_of_getElem? (i := 980) (by decide +kernel)) rfl
theorem tk_500 : (Jvm.Cond.methodLink "LandBookLaw" (153 : Nat) ({ cls := "LandBookLaw", name := "word", desc := "(LLandBook;I[J)I" } : Jvm.MethodName)) ∈ tw_G := tw_in (List.mem_of_getElem? (i := 978) (by decide +kernel)) rfl
theorem tk_501 : (Jvm.Cond.static ({ cls := "LandBookLaw", name := "word", desc := "(LLandBook;I[J)I" } : Jvm.MethodName)) ∈ tw_G := tw_in (List.mem_of_getElem? (i := 979) (by decide +kernel)) rfl
theorem tk_502 : (Jvm.Cond.methodLink "LandBookLaw" (155 : Nat) ({ cls := "LandBookModel", name := "word", desc := "(I)I" } : Jvm.MethodName)) ∈ tw_G := tw_in (List.mem_of_getElem? (i := 1448) (by decide +kernel)) rfl
theorem tk_503 : (Jvm.Cond.instanceMethod ({ cls := "LandBookModel", name := "word", desc := "(I)I" } : Jvm.MethodName)) ∈ tw_G := tw_in (List.mem_of_getElem? (i := 1449) (by decide +kernel)) rfl
theorem tk_504 : (Jvm.Cond.selects "LandBookModel" ({ cls := "LandBookModel", name := "word", desc := "(I)I" } : Jvm.MethodName) ({ cls := "LandBookModel", name := "word", desc := "(I)I" } : Jvm.MethodName)) ∈ tw_G := tw_in (List.mem_of_getElem? (i := 1450) (by decide +kernel)) rfl
theorem tk_505 : (Jvm.Cond.code ({ cls := "LandBookModel", name := "word", desc := "(I)I" } : Jvm.MethodName) prog_13_method_73_code (2 : Nat) (Option.some Jvm.ClassFile.FieldType.int)) ∈ tw_G := tw_in (List.mem_of_getElem? (i := 1451) (by decide +kernel)) rfl
set_option maxHeartbeats 4000000 in
set_option maxRecDepth 100000 in
theorem lw_case_17 {p : Program} {e : Env} {s : State} {m : MethodId} {below : List Frame} {meth : Method} {c : Code} (l : Launch) (hfl : l.flags = pinnedFlags ++ [noTraceFlag]) {b : Nat} {xs : Nat → Int32} (hx : p.tables.exec = Jvm.exec) (hb : c.code = code) (hr : meth.sig.returnType = ret) (hml : c.maxLocals = 7) (hown : s.vm.findClass "LandBookLaw" = some m.cls) (hts : ∀ w ∈ tw_G, w.before #[Value.ref b] s = true) (hX : va_X b 7 xs s s.heap) (hbl : b < s.heap.size) (hlocks : meth.locks = false) (hE : lb_E s) {A : Nat → Prop} (hA : ∀ q : Nat, s.heap.size ≤ q → A q) (hA2 : ∀ q : Nat, A q → s.heap.size ≤ q) {dC : Nat → ClassId} {dI : Nat → Nat → Nat} {h ro ra ch rg dl ll el lg hm rx ry ho : Nat} {cI cX cY cL : ClassId} {v2 v3 ca w3 w4 x0 y0 x1 y1 x2 y2 z0 m8 m9 m10 m11 m12 m13 m14 m16 m17 m18 m19 m20 m21 m22 m23 m24 m26 m27 m28 m29 m32 m34 m35 m37 m38 m40 m41 : Value} {H : Heap} {locs : List Loc} {ls : Array Slot} (hK : va_K (dC, dI) classes [(cI, .int), (cX, .int), (cY, .int), (cL, .long)] s) (hP : va_P (dC, dI) classes [(h, .inr (0, [.ref ro, .ref ch, v2, v3, .ref rg, .ref lg, .int 0, .int 0])), (ro, .inr (1, [.ref ra, .int 0])), (ra, .inl (cI, 32, .inl (fun _ => 0))), (ch, .inr (1, [ca, .int 0])), (rg, .inr (4, [.ref dl, .ref ll, .ref el, w3, w4])), (dl, .inr (6, [x0, .int 0, y0])), (ll, .inr (6, [x1, .int 0, y1])), (el, .inr (6, [x2, .int 0, y2])), (lg, .inr (5, [z0, .int 0, .int 0])), (hm, .inr (7, [.int 0, .int 0, .int 0, .int 0, .int 0, .ref rx, .ref ry, .int 0, m8, m9, m10, m11, m12, m13, m14, .int 0, m16, m17, m18, m19, m20, m21, m22, m23, m24, .int 0, m26, m27, m28, m29, .int 0, .int 0, m32, .int 0, m34, m35, .int 0, m37, m38, .int 0, m40, m41])), (rx, .inl (cX, 32, .inl (fun _ => 0))), (ry, .inl (cY, 32, .inl (fun _ => 0))), (ho, .inl (cL, 1, .inr (.inl (fun _ => 0))))] H) (hD : va_D A [(h, .inr (0, [.ref ro, .ref ch, v2, v3, .ref rg, .ref lg, .int 0, .int 0])), (ro, .inr (1, [.ref ra, .int 0])), (ra, .inl (cI, 32, .inl (fun _ => 0))), (ch, .inr (1, [ca, .int 0])), (rg, .inr (4, [.ref dl, .ref ll, .ref el, w3, w4])), (dl, .inr (6, [x0, .int 0, y0])), (ll, .inr (6, [x1, .int 0, y1])), (el, .inr (6, [x2, .int 0, y2])), (lg, .inr (5, [z0, .int 0, .int 0])), (hm, .inr (7, [.int 0, .int 0, .int 0, .int 0, .int 0, .ref rx, .ref ry, .int 0, m8, m9, m10, m11, m12, m13, m14, .int 0, m16, m17, m18, m19, m20, m21, m22, m23, m24, .int 0, m26, m27, m28, m29, .int 0, .int 0, m32, .int 0, m34, m35, .int 0, m37, m38, .int 0, m40, m41])), (rx, .inl (cX, 32, .inl (fun _ => 0))), (ry, .inl (cY, 32, .inl (fun _ => 0))), (ho, .inl (cL, 1, .inr (.inl (fun _ => 0))))]) (hS : va_S A s.heap H locs) (hl : lv_has ls 7 [(4, .int 0), (3, .ref ho), (2, .ref hm), (1, .ref h), (0, .ref b)]) : W p l e room_1 s m #[Value.ref b] below meth c H locs 61 60361 (lw_Z below #[Value.ref b] s) (F0 m 1437 ls []) := by
  have hbA : ¬ A b := fun h => absurd (hA2 b h) (Nat.not_le.mpr hbl)
  have hN : ∀ (a : Nat) (cell : Cell), s.heap[a]? = some cell → cell.vm.isStatics = true → ¬ A a := fun a cell h1 _ h3 => absurd (hA2 a h3) (Nat.not_le.mpr (Array.getElem?_eq_some_iff.mp h1).1)
  refine lv_aload_n hx hb d_law_1437 rfl (lv_at hl 3 rfl) ?_
  refine lv_aload_n hx hb d_law_1438 rfl (lv_at hl 4 rfl) ?_
  refine lv_iload hx hb d_law_1439 (lv_at hl 0 rfl) ?_
  refine lv_iconst (v := 1) hx hb d_law_1441 (by decide) ?_
  refine lv_iadd hx hb d_law_1442 ?_
  refine va_sld hx hb hX hbl hbA hS (i := (0 + 1)) (by unfold vp_in; decide) d_law_1443 ?_
  refine lv_aload_n hx hb d_law_1444 rfl (lv_at hl 1 rfl) ?_
  have hPc := hP.sub (ws' := [(h, .inr (0, [.ref ro, .ref ch, v2, v3, .ref rg, .ref lg, .int 0, .int 0])), (ro, .inr (1, [.ref ra, .int 0])), (ra, .inl (cI, 32, .inl (fun _ => 0))), (ch, .inr (1, [ca, .int 0])), (rg, .inr (4, [.ref dl, .ref ll, .ref el, w3, w4])), (dl, .inr (6, [x0, .int 0, y0])), (ll, .inr (6, [x1, .int 0, y1])), (el, .inr (6, [x2, .int 0, y2])), (lg, .inr (5, [z0, .int 0, .int 0])), (ho, .inl (cL, 1, .inr (.inl (fun _ => 0))))]) [0, 1, 2, 3, 4, 5, 6, 7, 8, 12] rfl
  have hDc := hD.sub (ws' := [(h, .inr (0, [.ref ro, .ref ch, v2, v3, .ref rg, .ref lg, .int 0, .int 0])), (ro, .inr (1, [.ref ra, .int 0])), (ra, .inl (cI, 32, .inl (fun _ => 0))), (ch, .inr (1, [ca, .int 0])), (rg, .inr (4, [.ref dl, .ref ll, .ref el, w3, w4])), (dl, .inr (6, [x0, .int 0, y0])), (ll, .inr (6, [x1, .int 0, y1])), (el, .inr (6, [x2, .int 0, y2])), (lg, .inr (5, [z0, .int 0, .int 0])), (ho, .inl (cL, 1, .inr (.inl (fun _ => 0))))]) [0, 1, 2, 3, 4, 5, 6, 7, 8, 12] (by decide) rfl
  have hKc := hK.sub (tys' := [(cI, .int), (cL, .long)]) [0, 3] rfl
  have hFc := va_free (wc := [(h, .inr (0, [.ref ro, .ref ch, v2, v3, .ref rg, .ref lg, .int 0, .int 0])), (ro, .inr (1, [.ref ra, .int 0])), (ra, .inl (cI, 32, .inl (fun _ => 0))), (ch, .inr (1, [ca, .int 0])), (rg, .inr (4, [.ref dl, .ref ll, .ref el, w3, w4])), (dl, .inr (6, [x0, .int 0, y0])), (ll, .inr (6, [x1, .int 0, y1])), (el, .inr (6, [x2, .int 0, y2])), (lg, .inr (5, [z0, .int 0, .int 0])), (ho, .inl (cL, 1, .inr (.inl (fun _ => 0))))]) hD hS hA [0, 1, 2, 3, 4, 5, 6, 7, 8, 12] rfl
  refine va_calli (tw_runSW (n := 3) (As := [.ref h, .int (xs (Int32.toNatClampNeg (0 + 1))), .ref ho]) (rest := []) ⟨hx, hb, hml, hown, hts⟩ (c_law_word l hfl dC dI h H.size ro ra ch rg dl ll el lg ho cI cL (fun _ => 0) (fun _ => 0) v2 v3 ca w3 w4 x0 y0 x1 y1 x2 y2 z0 ((xs (Int32.toNatClampNeg (0 + 1))))) (tw_gc tk_499) rfl rfl rfl ⟨Nat.le_of_ble_eq_true rfl, Nat.le_of_ble_eq_true rfl⟩ (hts _ tk_376) (hts _ tk_500) (hts _ tk_501) (by decide +kernel) (tw_s4E hPc hKc hDc hE (tw_kst hN hS)) rfl rfl hl.1 rfl (lv_room (Nat.le_of_ble_eq_true rfl)) d_law_1445 ⟨by show 62 ≤ 600002; decide, by show 60367 ≤ 7302232; decide⟩) hS (fun q _ h => hFc q h) hFc (fun rk u t H1 locs ht hvm hk9 hB hz1 hk1 hS => ?_)
  obtain ⟨hP1, hK1, hD1⟩ := hB
  rw [ht] at hP1
  obtain ⟨hP, hD⟩ := va_join (wr := [(hm, .inr (7, [.int 0, .int 0, .int 0, .int 0, .int 0, .ref rx, .ref ry, .int 0, m8, m9, m10, m11, m12, m13, m14, .int 0, m16, m17, m18, m19, m20, m21, m22, m23, m24, .int 0, m26, m27, m28, m29, .int 0, .int 0, m32, .int 0, m34, m35, .int 0, m37, m38, .int 0, m40, m41])), (rx, .inl (cX, 32, .inl (fun _ => 0))), (ry, .inl (cY, 32, .inl (fun _ => 0)))]) (w1 := [(ho, .inl (cL, 1, .inr (.inl (u))))]) hP hD [0, 1, 2, 3, 4, 5, 6, 7, 8, 12] [9, 10, 11] rfl rfl (by decide) (by decide) hk1 hFc hP1 hD1
  generalize H1 = H at hP hS ⊢
  have hP : va_P (dC, dI) classes [(hm, .inr (7, [.int 0, .int 0, .int 0, .int 0, .int 0, .ref rx, .ref ry, .int 0, m8, m9, m10, m11, m12, m13, m14, .int 0, m16, m17, m18, m19, m20, m21, m22, m23, m24, .int 0, m26, m27, m28, m29, .int 0, .int 0, m32, .int 0, m34, m35, .int 0, m37, m38, .int 0, m40, m41])), (rx, .inl (cX, 32, .inl (fun _ => 0))), (ry, .inl (cY, 32, .inl (fun _ => 0))), (ho, .inl (cL, 1, .inr (.inl (u))))] H := hP
  have hD : va_D A [(hm, .inr (7, [.int 0, .int 0, .int 0, .int 0, .int 0, .ref rx, .ref ry, .int 0, m8, m9, m10, m11, m12, m13, m14, .int 0, m16, m17, m18, m19, m20, m21, m22, m23, m24, .int 0, m26, m27, m28, m29, .int 0, .int 0, m32, .int 0, m34, m35, .int 0, m37, m38, .int 0, m40, m41])), (rx, .inl (cX, 32, .inl (fun _ => 0))), (ry, .inl (cY, 32, .inl (fun _ => 0))), (ho, .inl (cL, 1, .inr (.inl (u))))] := hD
  have hk9 : rk = 1 := hk9
  have hk9 := hk9.symm
  subst hk9
  refine lv_istore (lv' := [(5, .int 1), (4, .int 0), (3, .ref ho), (2, .ref hm), (1, .ref h), (0, .ref b)]) hx hb d_law_1448 hl (by decide) rfl (fun ls hl => ?_)
  refine lv_aload_n hx hb d_law_1450 rfl (lv_at hl 3 rfl) ?_
  refine lv_aload_n hx hb d_law_1451 rfl (lv_at hl 5 rfl) ?_
  refine lv_iload hx hb d_law_1452 (lv_at hl 1 rfl) ?_
  refine lv_iconst (v := 1) hx hb d_law_1454 (by decide) ?_
  refine lv_iadd hx hb d_law_1455 ?_
  refine va_sld hx hb hX hbl hbA hS (i := (0 + 1)) (by unfold vp_in; decide) d_law_1456 ?_
  have hPc := hP.sub (ws' := [(hm, .inr (7, [.int 0, .int 0, .int 0, .int 0, .int 0, .ref rx, .ref ry, .int 0, m8, m9, m10, m11, m12, m13, m14, .int 0, m16, m17, m18, m19, m20, m21, m22, m23, m24, .int 0, m26, m27, m28, m29, .int 0, .int 0, m32, .int 0, m34, m35, .int 0, m37, m38, .int 0, m40, m41]))]) [0] rfl
  have hDc := hD.sub (ws' := [(hm, .inr (7, [.int 0, .int 0, .int 0, .int 0, .int 0, .ref rx, .ref ry, .int 0, m8, m9, m10, m11, m12, m13, m14, .int 0, m16, m17, m18, m19, m20, m21, m22, m23, m24, .int 0, m26, m27, m28, m29, .int 0, .int 0, m32, .int 0, m34, m35, .int 0, m37, m38, .int 0, m40, m41]))]) [0] (by decide) rfl
  have hKc := hK.sub (tys' := []) [] rfl
  have hFc := va_free (wc := [(hm, .inr (7, [.int 0, .int 0, .int 0, .int 0, .int 0, .ref rx, .ref ry, .int 0, m8, m9, m10, m11, m12, m13, m14, .int 0, m16, m17, m18, m19, m20, m21, m22, m23, m24, .int 0, m26, m27, m28, m29, .int 0, .int 0, m32, .int 0, m34, m35, .int 0, m37, m38, .int 0, m40, m41]))]) hD hS hA [0] rfl
  refine va_calli (va_runV (As := [.int (xs (Int32.toNatClampNeg (0 + 1)))]) (rest := []) ⟨hx, hb, hml, hown, hts⟩ (c_M_word l dC dI hm H.size 0 (.ref rx) (.ref ry) m8 m9 m10 m11 m12 m13 m14 m16 m17 m18 m19 m20 m21 m22 m23 m24 m26 m27 m28 m29 m32 m34 m35 m37 m38 m40 m41 ((xs (Int32.toNatClampNeg (0 + 1))))) (cwV 1 hts (tw_gV tk_502 tk_503 tk_504 tk_249 tk_505) rfl rfl rfl (by decide +kernel) ⟨Nat.le_of_ble_eq_true rfl, Nat.le_of_ble_eq_true rfl⟩) (tw_v4 (va_recv (q0 := 0) hK hP rfl rfl) hPc hKc hDc) rfl rfl hl.1 rfl (lv_room (Nat.le_of_ble_eq_true rfl)) d_law_1457 ⟨by show 62 ≤ 600002; decide, by show 60367 ≤ 7302232; decide⟩) hS (fun q _ h => hFc q h) hFc (fun rm w9 t H1 locs ht hvm hm9 hB hz1 hk1 hS => ?_)
  obtain ⟨tm, fs⟩ := w9
  obtain ⟨hP1, hK1, hD1⟩ := hB
  rw [ht] at hP1
  obtain ⟨hP, hD⟩ := va_join (wr := [(rx, .inl (cX, 32, .inl (fun _ => 0))), (ry, .inl (cY, 32, .inl (fun _ => 0))), (ho, .inl (cL, 1, .inr (.inl (u))))]) (w1 := [(hm, .inr (7, .int tm :: fs))]) hP hD [0] [1, 2, 3] rfl rfl (by decide) (by decide) hk1 hFc hP1 hD1
  generalize H1 = H at hP hS ⊢
  have hP : va_P (dC, dI) classes [(rx, .inl (cX, 32, .inl (fun _ => 0))), (ry, .inl (cY, 32, .inl (fun _ => 0))), (ho, .inl (cL, 1, .inr (.inl (u)))), (hm, .inr (7, .int tm :: fs))] H := hP
  have hD : va_D A [(rx, .inl (cX, 32, .inl (fun _ => 0))), (ry, .inl (cY, 32, .inl (fun _ => 0))), (ho, .inl (cL, 1, .inr (.inl (u)))), (hm, .inr (7, .int tm :: fs))] := hD
  have hm9 : tm = 1 := hm9
  have hm9 := hm9.symm
  subst hm9
  refine lv_istore (lv' := [(6, .int rm), (5, .int 1), (4, .int 0), (3, .ref ho), (2, .ref hm), (1, .ref h), (0, .ref b)]) hx hb d_law_1460 hl (by decide) rfl (fun ls hl => ?_)
  refine lv_aload_n hx hb d_law_1462 rfl (lv_at hl 4 rfl) ?_
  refine vp_callSi (W.runV (As := []) (rest := []) ⟨hx, hb, hml, hown, hts⟩ (c_M_thrown l dC dI hm 1 fs) (cwV 0 hts (tw_gV tk_383 tk_384 tk_385 tk_249 tk_386) rfl rfl rfl (by decide +kernel) ⟨Nat.le_of_ble_eq_true rfl, Nat.le_of_ble_eq_true rfl⟩) (tw_v2 (va_recv (q0 := 3) hK hP rfl rfl) (hP.sub (ws' := [(hm, .inr (7, .int 1 :: fs))]) [3] rfl) (hK.sub (tys' := []) [] rfl)) rfl rfl hl.1 rfl (lv_room (Nat.le_of_ble_eq_true rfl)) d_law_1463 ⟨by show 62 ≤ 600002; decide, by show 60367 ≤ 7302232; decide⟩) (fun r1 e2 => ?_)
  have e2 := e2.symm
  subst e2
  refine lv_iload hx hb d_law_1466 (lv_at hl 1 rfl) ?_
  refine lv_icmp_eq (tgt := 1473) hx hb d_law_1468 (by decide) (fun h3 => ?_) (fun h3 => absurd (by decide) h3)
  refine lv_iload hx hb d_law_1473 (lv_at hl 1 rfl) ?_
  refine lv_if_ne (tgt := 1490) hx hb d_law_1475 (by decide) (fun h4 => ?_) (fun h4 => absurd h4 (by decide))
  refine lv_goto (tgt := 1637) hx hb d_law_1490 (by decide) ?_
  refine lv_iinc (k := 2) (v := 7) (lv' := [(4, .int 7), (6, .int rm), (5, .int 1), (3, .ref ho), (2, .ref hm), (1, .ref h), (0, .ref b)]) hx hb d_law_1637 hl rfl (by decide) (by decide) rfl (fun ls hl => ?_)
  refine lv_goto (tgt := 23) hx hb d_law_1640 (by decide) ?_
  refine lv_iload hx hb d_law_23 (lv_at hl 0 rfl) ?_
  refine lv_aload_n hx hb d_law_25 rfl (lv_at hl 6 rfl) ?_
  refine va_slen hx hb hX hbl hbA hS d_law_26 ?_
  refine lv_bipush (v := 7) hx hb d_law_27 (by decide) ?_
  refine lv_isub hx hb d_law_29 ?_
  refine lv_icmp_gt (tgt := 1643) hx hb d_law_30 (by decide) (fun h5 => ?_) (fun h5 => absurd (by decide) h5)
  refine lv_iconst (v := 1) hx hb d_law_1643 (by decide) ?_
  refine va_forget (fun q hq => hA2 _ (hS.2.2 q hq)) ?_
  refine W.widen (k := 600002) (n := 7302232) (by decide) (by decide) ?_
  exact lw_ret hx hb hr hlocks d_law_1644
theorem tk_506 : (Jvm.Cond.codeWith ({ cls := "LandBookLaw", name := "sync", desc := "(LLandBook;[J)I" } : Jvm.MethodName) method_21_code (3 : Nat) (Option.some Jvm.ClassFile.FieldType.int) [((0 : Nat), (8 : Nat), (11 : Nat), (21 : Nat))]) ∈ tw_G := tw_in (List.mem_of_getElem? (i := 992) (by decide +kernel)) rfl
theorem tk_507 : (Jvm.Cond.methodLink "LandBookLaw" (156 : Nat) ({ cls := "LandBookLaw", name := "sync", desc := "(LLandBook;[J)I" } : Jvm.MethodName)) ∈ tw_G := tw_in (List.mem_of_getElem? (i := 990) (by decide +kernel)) rfl
theorem tk_508 : (Jvm.Cond.static ({ cls := "LandBookLaw", name := "sync", desc := "(LLandBook;[J)I" } : Jvm.MethodName)) ∈ tw_G := tw_in (List.mem_of_getElem? (i := 991) (by decide +kernel)) rfl
theorem tk_509 : (Jvm.Cond.methodLink "LandBookLaw" (158 : Nat) ({ cls := "LandBookModel", name := "sync", desc := "()I" } : Jvm.MethodName)) ∈ tw_G := tw_in (List.mem_of_getElem? (i := 1452) (by decide +kernel)) rfl
theorem tk_510 : (Jvm.Cond.instanceMethod ({ cls := "LandBookModel", name := "sync", desc := "()I" } : Jvm.MethodName)) ∈ tw_G := tw_in (List.mem_of_getElem? (i := 1453) (by decide +kernel)) rfl
theorem tk_511 : (Jvm.Cond.selects "LandBookModel" ({ cls := "LandBookModel", name := "sync", desc := "()I" } : Jvm.MethodName) ({ cls := "LandBookModel", name := "sync", desc := "()I" } : Jvm.MethodName)) ∈ tw_G := tw_in (List.mem_of_getElem? (i := 1454) (by decide +kernel)) rfl
theorem tk_512 : (Jvm.Cond.code ({ cls := "LandBookModel", name := "sync", desc := "()I" } : Jvm.MethodName) prog_13_method_74_code (2 : Nat) (Option.some Jvm.ClassFile.FieldType.int)) ∈ tw_G := tw_in (List.mem_of_getElem? (i := 1455) (by decide +kernel)) rfl
set_option maxHeartbeats 4000000 in
set_option maxRecDepth 100000 in
theorem lw_case_18 {p : Program} {e : Env} {s : State} {m : MethodId} {below : List Frame} {meth : Method} {c : Code} (l : Launch) (hfl : l.flags = pinnedFlags ++ [noTraceFlag]) {b : Nat} {xs : Nat → Int32} (hx : p.tables.exec = Jvm.exec) (hb : c.code = code) (hr : meth.sig.returnType = ret) (hml : c.maxLocals = 7) (hown : s.vm.findClass "LandBookLaw" = some m.cls) (hts : ∀ w ∈ tw_G, w.before #[Value.ref b] s = true) (hX : va_X b 7 xs s s.heap) (hbl : b < s.heap.size) (hlocks : meth.locks = false) (hE : lb_E s) {A : Nat → Prop} (hA : ∀ q : Nat, s.heap.size ≤ q → A q) (hA2 : ∀ q : Nat, A q → s.heap.size ≤ q) {dC : Nat → ClassId} {dI : Nat → Nat → Nat} {h ro ra ch rg dl ll el lg hm rx ry ho : Nat} {cI cX cY cL : ClassId} {v2 v3 ca w3 w4 x0 y0 x1 y1 x2 y2 z0 m8 m9 m10 m11 m12 m13 m14 m16 m17 m18 m19 m20 m21 m22 m23 m24 m26 m27 m28 m29 m32 m34 m35 m37 m38 m40 m41 : Value} {H : Heap} {locs : List Loc} {ls : Array Slot} (hK : va_K (dC, dI) classes [(cI, .int), (cX, .int), (cY, .int), (cL, .long)] s) (hP : va_P (dC, dI) classes [(h, .inr (0, [.ref ro, .ref ch, v2, v3, .ref rg, .ref lg, .int 0, .int 0])), (ro, .inr (1, [.ref ra, .int 0])), (ra, .inl (cI, 32, .inl (fun _ => 0))), (ch, .inr (1, [ca, .int 0])), (rg, .inr (4, [.ref dl, .ref ll, .ref el, w3, w4])), (dl, .inr (6, [x0, .int 0, y0])), (ll, .inr (6, [x1, .int 0, y1])), (el, .inr (6, [x2, .int 0, y2])), (lg, .inr (5, [z0, .int 0, .int 0])), (hm, .inr (7, [.int 0, .int 0, .int 0, .int 0, .int 0, .ref rx, .ref ry, .int 0, m8, m9, m10, m11, m12, m13, m14, .int 0, m16, m17, m18, m19, m20, m21, m22, m23, m24, .int 0, m26, m27, m28, m29, .int 0, .int 0, m32, .int 0, m34, m35, .int 0, m37, m38, .int 0, m40, m41])), (rx, .inl (cX, 32, .inl (fun _ => 0))), (ry, .inl (cY, 32, .inl (fun _ => 0))), (ho, .inl (cL, 1, .inr (.inl (fun _ => 0))))] H) (hD : va_D A [(h, .inr (0, [.ref ro, .ref ch, v2, v3, .ref rg, .ref lg, .int 0, .int 0])), (ro, .inr (1, [.ref ra, .int 0])), (ra, .inl (cI, 32, .inl (fun _ => 0))), (ch, .inr (1, [ca, .int 0])), (rg, .inr (4, [.ref dl, .ref ll, .ref el, w3, w4])), (dl, .inr (6, [x0, .int 0, y0])), (ll, .inr (6, [x1, .int 0, y1])), (el, .inr (6, [x2, .int 0, y2])), (lg, .inr (5, [z0, .int 0, .int 0])), (hm, .inr (7, [.int 0, .int 0, .int 0, .int 0, .int 0, .ref rx, .ref ry, .int 0, m8, m9, m10, m11, m12, m13, m14, .int 0, m16, m17, m18, m19, m20, m21, m22, m23, m24, .int 0, m26, m27, m28, m29, .int 0, .int 0, m32, .int 0, m34, m35, .int 0, m37, m38, .int 0, m40, m41])), (rx, .inl (cX, 32, .inl (fun _ => 0))), (ry, .inl (cY, 32, .inl (fun _ => 0))), (ho, .inl (cL, 1, .inr (.inl (fun _ => 0))))]) (hS : va_S A s.heap H locs) (hl : lv_has ls 7 [(4, .int 0), (3, .ref ho), (2, .ref hm), (1, .ref h), (0, .ref b)]) : W p l e room_1 s m #[Value.ref b] below meth c H locs 61 60361 (lw_Z below #[Value.ref b] s) (F0 m 1493 ls []) := by
  have hbA : ¬ A b := fun h => absurd (hA2 b h) (Nat.not_le.mpr hbl)
  have hN : ∀ (a : Nat) (cell : Cell), s.heap[a]? = some cell → cell.vm.isStatics = true → ¬ A a := fun a cell h1 _ h3 => absurd (hA2 a h3) (Nat.not_le.mpr (Array.getElem?_eq_some_iff.mp h1).1)
  refine lv_aload_n hx hb d_law_1493 rfl (lv_at hl 3 rfl) ?_
  refine lv_aload_n hx hb d_law_1494 rfl (lv_at hl 1 rfl) ?_
  have hPc := hP.sub (ws' := [(h, .inr (0, [.ref ro, .ref ch, v2, v3, .ref rg, .ref lg, .int 0, .int 0])), (ro, .inr (1, [.ref ra, .int 0])), (ra, .inl (cI, 32, .inl (fun _ => 0))), (ch, .inr (1, [ca, .int 0])), (rg, .inr (4, [.ref dl, .ref ll, .ref el, w3, w4])), (dl, .inr (6, [x0, .int 0, y0])), (ll, .inr (6, [x1, .int 0, y1])), (el, .inr (6, [x2, .int 0, y2])), (lg, .inr (5, [z0, .int 0, .int 0])), (ho, .inl (cL, 1, .inr (.inl (fun _ => 0))))]) [0, 1, 2, 3, 4, 5, 6, 7, 8, 12] rfl
  have hDc := hD.sub (ws' := [(h, .inr (0, [.ref ro, .ref ch, v2, v3, .ref rg, .ref lg, .int 0, .int 0])), (ro, .inr (1, [.ref ra, .int 0])), (ra, .inl (cI, 32, .inl (fun _ => 0))), (ch, .inr (1, [ca, .int 0])), (rg, .inr (4, [.ref dl, .ref ll, .ref el, w3, w4])), (dl, .inr (6, [x0, .int 0, y0])), (ll, .inr (6, [x1, .int 0, y1])), (el, .inr (6, [x2, .int 0, y2])), (lg, .inr (5, [z0, .int 0, .int 0])), (ho, .inl (cL, 1, .inr (.inl (fun _ => 0))))]) [0, 1, 2, 3, 4, 5, 6, 7, 8, 12] (by decide) rfl
  have hKc := hK.sub (tys' := [(cI, .int), (cL, .long)]) [0, 3] rfl
  have hFc := va_free (wc := [(h, .inr (0, [.ref ro, .ref ch, v2, v3, .ref rg, .ref lg, .int 0, .int 0])), (ro, .inr (1, [.ref ra, .int 0])), (ra, .inl (cI, 32, .inl (fun _ => 0))), (ch, .inr (1, [ca, .int 0])), (rg, .inr (4, [.ref dl, .ref ll, .ref el, w3, w4])), (dl, .inr (6, [x0, .int 0, y0])), (ll, .inr (6, [x1, .int 0, y1])), (el, .inr (6, [x2, .int 0, y2])), (lg, .inr (5, [z0, .int 0, .int 0])), (ho, .inl (cL, 1, .inr (.inl (fun _ => 0))))]) hD hS hA [0, 1, 2, 3, 4, 5, 6, 7, 8, 12] rfl
  refine va_calli (tw_runSW (n := 2) (As := [.ref h, .ref ho]) (rest := []) ⟨hx, hb, hml, hown, hts⟩ (c_law_sync l hfl dC dI h H.size ro ra ch rg dl ll el lg ho cI cL (fun _ => 0) (fun _ => 0) v2 v3 ca w3 w4 x0 y0 x1 y1 x2 y2 z0) (tw_gc tk_506) rfl rfl rfl ⟨Nat.le_of_ble_eq_true rfl, Nat.le_of_ble_eq_true rfl⟩ (hts _ tk_376) (hts _ tk_507) (hts _ tk_508) (by decide +kernel) (tw_s4E hPc hKc hDc hE (tw_kst hN hS)) rfl rfl hl.1 rfl (lv_room (Nat.le_of_ble_eq_true rfl)) d_law_1495 ⟨by show 62 ≤ 600002; decide, by show 60367 ≤ 7302232; decide⟩) hS (fun q _ h => hFc q h) hFc (fun rk u t H1 locs ht hvm hk9 hB hz1 hk1 hS => ?_)
  obtain ⟨hP1, hK1, hD1⟩ := hB
  rw [ht] at hP1
  obtain ⟨hP, hD⟩ := va_join (wr := [(hm, .inr (7, [.int 0, .int 0, .int 0, .int 0, .int 0, .ref rx, .ref ry, .int 0, m8, m9, m10, m11, m12, m13, m14, .int 0, m16, m17, m18, m19, m20, m21, m22, m23, m24, .int 0, m26, m27, m28, m29, .int 0, .int 0, m32, .int 0, m34, m35, .int 0, m37, m38, .int 0, m40, m41])), (rx, .inl (cX, 32, .inl (fun _ => 0))), (ry, .inl (cY, 32, .inl (fun _ => 0)))]) (w1 := [(ho, .inl (cL, 1, .inr (.inl (u))))]) hP hD [0, 1, 2, 3, 4, 5, 6, 7, 8, 12] [9, 10, 11] rfl rfl (by decide) (by decide) hk1 hFc hP1 hD1
  generalize H1 = H at hP hS ⊢
  have hP : va_P (dC, dI) classes [(hm, .inr (7, [.int 0, .int 0, .int 0, .int 0, .int 0, .ref rx, .ref ry, .int 0, m8, m9, m10, m11, m12, m13, m14, .int 0, m16, m17, m18, m19, m20, m21, m22, m23, m24, .int 0, m26, m27, m28, m29, .int 0, .int 0, m32, .int 0, m34, m35, .int 0, m37, m38, .int 0, m40, m41])), (rx, .inl (cX, 32, .inl (fun _ => 0))), (ry, .inl (cY, 32, .inl (fun _ => 0))), (ho, .inl (cL, 1, .inr (.inl (u))))] H := hP
  have hD : va_D A [(hm, .inr (7, [.int 0, .int 0, .int 0, .int 0, .int 0, .ref rx, .ref ry, .int 0, m8, m9, m10, m11, m12, m13, m14, .int 0, m16, m17, m18, m19, m20, m21, m22, m23, m24, .int 0, m26, m27, m28, m29, .int 0, .int 0, m32, .int 0, m34, m35, .int 0, m37, m38, .int 0, m40, m41])), (rx, .inl (cX, 32, .inl (fun _ => 0))), (ry, .inl (cY, 32, .inl (fun _ => 0))), (ho, .inl (cL, 1, .inr (.inl (u))))] := hD
  have hk9 : rk = 1 := hk9
  have hk9 := hk9.symm
  subst hk9
  refine lv_istore (lv' := [(5, .int 1), (4, .int 0), (3, .ref ho), (2, .ref hm), (1, .ref h), (0, .ref b)]) hx hb d_law_1498 hl (by decide) rfl (fun ls hl => ?_)
  refine lv_aload_n hx hb d_law_1500 rfl (lv_at hl 3 rfl) ?_
  have hPc := hP.sub (ws' := [(hm, .inr (7, [.int 0, .int 0, .int 0, .int 0, .int 0, .ref rx, .ref ry, .int 0, m8, m9, m10, m11, m12, m13, m14, .int 0, m16, m17, m18, m19, m20, m21, m22, m23, m24, .int 0, m26, m27, m28, m29, .int 0, .int 0, m32, .int 0, m34, m35, .int 0, m37, m38, .int 0, m40, m41]))]) [0] rfl
  have hDc := hD.sub (ws' := [(hm, .inr (7, [.int 0, .int 0, .int 0, .int 0, .int 0, .ref rx, .ref ry, .int 0, m8, m9, m10, m11, m12, m13, m14, .int 0, m16, m17, m18, m19, m20, m21, m22, m23, m24, .int 0, m26, m27, m28, m29, .int 0, .int 0, m32, .int 0, m34, m35, .int 0, m37, m38, .int 0, m40, m41]))]) [0] (by decide) rfl
  have hKc := hK.sub (tys' := []) [] rfl
  have hFc := va_free (wc := [(hm, .inr (7, [.int 0, .int 0, .int 0, .int 0, .int 0, .ref rx, .ref ry, .int 0, m8, m9, m10, m11, m12, m13, m14, .int 0, m16, m17, m18, m19, m20, m21, m22, m23, m24, .int 0, m26, m27, m28, m29, .int 0, .int 0, m32, .int 0, m34, m35, .int 0, m37, m38, .int 0, m40, m41]))]) hD hS hA [0] rfl
  refine va_calli (va_runV (As := []) (rest := []) ⟨hx, hb, hml, hown, hts⟩ (c_M_sync l dC dI hm H.size 0 (.ref rx) (.ref ry) m8 m9 m10 m11 m12 m13 m14 m16 m17 m18 m19 m20 m21 m22 m23 m24 m26 m27 m28 m29 m32 m34 m35 m37 m38 m40 m41) (cwV 0 hts (tw_gV tk_509 tk_510 tk_511 tk_249 tk_512) rfl rfl rfl (by decide +kernel) ⟨Nat.le_of_ble_eq_true rfl, Nat.le_of_ble_eq_true rfl⟩) (tw_v4 (va_recv (q0 := 0) hK hP rfl rfl) hPc hKc hDc) rfl rfl hl.1 rfl (lv_room (Nat.le_of_ble_eq_true rfl)) d_law_1501 ⟨by show 62 ≤ 600002; decide, by show 60367 ≤ 7302232; decide⟩) hS (fun q _ h => hFc q h) hFc (fun rm w9 t H1 locs ht hvm hm9 hB hz1 hk1 hS => ?_)
  obtain ⟨tm, fs⟩ := w9
  obtain ⟨hP1, hK1, hD1⟩ := hB
  rw [ht] at hP1
  obtain ⟨hP, hD⟩ := va_join (wr := [(rx, .inl (cX, 32, .inl (fun _ => 0))), (ry, .inl (cY, 32, .inl (fun _ => 0))), (ho, .inl (cL, 1, .inr (.inl (u))))]) (w1 := [(hm, .inr (7, .int tm :: fs))]) hP hD [0] [1, 2, 3] rfl rfl (by decide) (by decide) hk1 hFc hP1 hD1
  generalize H1 = H at hP hS ⊢
  have hP : va_P (dC, dI) classes [(rx, .inl (cX, 32, .inl (fun _ => 0))), (ry, .inl (cY, 32, .inl (fun _ => 0))), (ho, .inl (cL, 1, .inr (.inl (u)))), (hm, .inr (7, .int tm :: fs))] H := hP
  have hD : va_D A [(rx, .inl (cX, 32, .inl (fun _ => 0))), (ry, .inl (cY, 32, .inl (fun _ => 0))), (ho, .inl (cL, 1, .inr (.inl (u)))), (hm, .inr (7, .int tm :: fs))] := hD
  have hm9 : tm = 1 := hm9
  have hm9 := hm9.symm
  subst hm9
  refine lv_istore (lv' := [(6, .int rm), (5, .int 1), (4, .int 0), (3, .ref ho), (2, .ref hm), (1, .ref h), (0, .ref b)]) hx hb d_law_1504 hl (by decide) rfl (fun ls hl => ?_)
  refine lv_aload_n hx hb d_law_1506 rfl (lv_at hl 4 rfl) ?_
  refine vp_callSi (W.runV (As := []) (rest := []) ⟨hx, hb, hml, hown, hts⟩ (c_M_thrown l dC dI hm 1 fs) (cwV 0 hts (tw_gV tk_383 tk_384 tk_385 tk_249 tk_386) rfl rfl rfl (by decide +kernel) ⟨Nat.le_of_ble_eq_true rfl, Nat.le_of_ble_eq_true rfl⟩) (tw_v2 (va_recv (q0 := 3) hK hP rfl rfl) (hP.sub (ws' := [(hm, .inr (7, .int 1 :: fs))]) [3] rfl) (hK.sub (tys' := []) [] rfl)) rfl rfl hl.1 rfl (lv_room (Nat.le_of_ble_eq_true rfl)) d_law_1507 ⟨by show 62 ≤ 600002; decide, by show 60367 ≤ 7302232; decide⟩) (fun r1 e2 => ?_)
  have e2 := e2.symm
  subst e2
  refine lv_iload hx hb d_law_1510 (lv_at hl 1 rfl) ?_
  refine lv_icmp_eq (tgt := 1517) hx hb d_law_1512 (by decide) (fun h3 => ?_) (fun h3 => absurd (by decide) h3)
  refine lv_iload hx hb d_law_1517 (lv_at hl 1 rfl) ?_
  refine lv_if_ne (tgt := 1534) hx hb d_law_1519 (by decide) (fun h4 => ?_) (fun h4 => absurd h4 (by decide))
  refine lv_goto (tgt := 1637) hx hb d_law_1534 (by decide) ?_
  refine lv_iinc (k := 2) (v := 7) (lv' := [(4, .int 7), (6, .int rm), (5, .int 1), (3, .ref ho), (2, .ref hm), (1, .ref h), (0, .ref b)]) hx hb d_law_1637 hl rfl (by decide) (by decide) rfl (fun ls hl => ?_)
  refine lv_goto (tgt := 23) hx hb d_law_1640 (by decide) ?_
  refine lv_iload hx hb d_law_23 (lv_at hl 0 rfl) ?_
  refine lv_aload_n hx hb d_law_25 rfl (lv_at hl 6 rfl) ?_
  refine va_slen hx hb hX hbl hbA hS d_law_26 ?_
  refine lv_bipush (v := 7) hx hb d_law_27 (by decide) ?_
  refine lv_isub hx hb d_law_29 ?_
  refine lv_icmp_gt (tgt := 1643) hx hb d_law_30 (by decide) (fun h5 => ?_) (fun h5 => absurd (by decide) h5)
  refine lv_iconst (v := 1) hx hb d_law_1643 (by decide) ?_
  refine va_forget (fun q hq => hA2 _ (hS.2.2 q hq)) ?_
  refine W.widen (k := 600002) (n := 7302232) (by decide) (by decide) ?_
  exact lw_ret hx hb hr hlocks d_law_1644
theorem tk_513 : (Jvm.Cond.codeWith ({ cls := "LandBookLaw", name := "crash", desc := "(LLandBook;I[J)I" } : Jvm.MethodName) method_22_code (4 : Nat) (Option.some Jvm.ClassFile.FieldType.int) [((0 : Nat), (9 : Nat), (12 : Nat), (21 : Nat)), ((0 : Nat), (9 : Nat), (15 : Nat), (13 : Nat))]) ∈ tw_G := tw_in (List.mem_of_getElem? (i := 1003) (by decide +kernel)) rfl
theorem tk_514 : (Jvm.Cond.methodLink "LandBookLaw" (159 : Nat) ({ cls := "LandBookLaw", name := "crash", desc := "(LLandBook;I[J)I" } : Jvm.MethodName)) ∈ tw_G := tw_in (List.mem_of_getElem? (i := 1001) (by decide +kernel)) rfl
theorem tk_515 : (Jvm.Cond.static ({ cls := "LandBookLaw", name := "crash", desc := "(LLandBook;I[J)I" } : Jvm.MethodName)) ∈ tw_G := tw_in (List.mem_of_getElem? (i := 1002) (by decide +kernel)) rfl
theorem tk_516 : (Jvm.Cond.methodLink "LandBookLaw" (161 : Nat) ({ cls := "LandBookModel", name := "crash", desc := "(I)I" } : Jvm.MethodName)) ∈ tw_G := tw_in (List.mem_of_getElem? (i := 1456) (by decide +kernel)) rfl
theorem tk_517 : (Jvm.Cond.instanceMethod ({ cls := "LandBookModel", name := "crash", desc := "(I)I" } : Jvm.MethodName)) ∈ tw_G := tw_in (List.mem_of_getElem? (i := 1457) (by decide +kernel)) rfl
theorem tk_518 : (Jvm.Cond.selects "LandBookModel" ({ cls := "LandBookModel", name := "crash", desc := "(I)I" } : Jvm.MethodName) ({ cls := "LandBookModel", name := "crash", desc := "(I)I" } : Jvm.MethodName)) ∈ tw_G := tw_in (List.mem_of_getElem? (i := 1458) (by decide +kernel)) rfl
theorem tk_519 : (Jvm.Cond.code ({ cls := "LandBookModel", name := "crash", desc := "(I)I" } : Jvm.MethodName) prog_13_method_75_code (3 : Nat) (Option.some Jvm.ClassFile.FieldType.int)) ∈ tw_G := tw_in (List.mem_of_getElem? (i := 1459) (by decide +kernel)) rfl
set_option maxHeartbeats 4000000 in
set_option maxRecDepth 100000 in
theorem lw_case_19 {p : Program} {e : Env} {s : State} {m : MethodId} {below : List Frame} {meth : Method} {c : Code} (l : Launch) (hfl : l.flags = pinnedFlags ++ [noTraceFlag]) {b : Nat} {xs : Nat → Int32} (hx : p.tables.exec = Jvm.exec) (hb : c.code = code) (hr : meth.sig.returnType = ret) (hml : c.maxLocals = 7) (hown : s.vm.findClass "LandBookLaw" = some m.cls) (hts : ∀ w ∈ tw_G, w.before #[Value.ref b] s = true) (hX : va_X b 7 xs s s.heap) (hbl : b < s.heap.size) (hlocks : meth.locks = false) (hE : lb_E s) {A : Nat → Prop} (hA : ∀ q : Nat, s.heap.size ≤ q → A q) (hA2 : ∀ q : Nat, A q → s.heap.size ≤ q) {dC : Nat → ClassId} {dI : Nat → Nat → Nat} {h ro ra ch rg dl ll el lg hm rx ry ho : Nat} {cI cX cY cL : ClassId} {v2 v3 ca w3 w4 x0 y0 x1 y1 x2 y2 z0 m8 m9 m10 m11 m12 m13 m14 m16 m17 m18 m19 m20 m21 m22 m23 m24 m26 m27 m28 m29 m32 m34 m35 m37 m38 m40 m41 : Value} {H : Heap} {locs : List Loc} {ls : Array Slot} (hK : va_K (dC, dI) classes [(cI, .int), (cX, .int), (cY, .int), (cL, .long)] s) (hP : va_P (dC, dI) classes [(h, .inr (0, [.ref ro, .ref ch, v2, v3, .ref rg, .ref lg, .int 0, .int 0])), (ro, .inr (1, [.ref ra, .int 0])), (ra, .inl (cI, 32, .inl (fun _ => 0))), (ch, .inr (1, [ca, .int 0])), (rg, .inr (4, [.ref dl, .ref ll, .ref el, w3, w4])), (dl, .inr (6, [x0, .int 0, y0])), (ll, .inr (6, [x1, .int 0, y1])), (el, .inr (6, [x2, .int 0, y2])), (lg, .inr (5, [z0, .int 0, .int 0])), (hm, .inr (7, [.int 0, .int 0, .int 0, .int 0, .int 0, .ref rx, .ref ry, .int 0, m8, m9, m10, m11, m12, m13, m14, .int 0, m16, m17, m18, m19, m20, m21, m22, m23, m24, .int 0, m26, m27, m28, m29, .int 0, .int 0, m32, .int 0, m34, m35, .int 0, m37, m38, .int 0, m40, m41])), (rx, .inl (cX, 32, .inl (fun _ => 0))), (ry, .inl (cY, 32, .inl (fun _ => 0))), (ho, .inl (cL, 1, .inr (.inl (fun _ => 0))))] H) (hD : va_D A [(h, .inr (0, [.ref ro, .ref ch, v2, v3, .ref rg, .ref lg, .int 0, .int 0])), (ro, .inr (1, [.ref ra, .int 0])), (ra, .inl (cI, 32, .inl (fun _ => 0))), (ch, .inr (1, [ca, .int 0])), (rg, .inr (4, [.ref dl, .ref ll, .ref el, w3, w4])), (dl, .inr (6, [x0, .int 0, y0])), (ll, .inr (6, [x1, .int 0, y1])), (el, .inr (6, [x2, .int 0, y2])), (lg, .inr (5, [z0, .int 0, .int 0])), (hm, .inr (7, [.int 0, .int 0, .int 0, .int 0, .int 0, .ref rx, .ref ry, .int 0, m8, m9, m10, m11, m12, m13, m14, .int 0, m16, m17, m18, m19, m20, m21, m22, m23, m24, .int 0, m26, m27, m28, m29, .int 0, .int 0, m32, .int 0, m34, m35, .int 0, m37, m38, .int 0, m40, m41])), (rx, .inl (cX, 32, .inl (fun _ => 0))), (ry, .inl (cY, 32, .inl (fun _ => 0))), (ho, .inl (cL, 1, .inr (.inl (fun _ => 0))))]) (hS : va_S A s.heap H locs) (hl : lv_has ls 7 [(4, .int 0), (3, .ref ho), (2, .ref hm), (1, .ref h), (0, .ref b)]) : W p l e room_1 s m #[Value.ref b] below meth c H locs 61 60361 (lw_Z below #[Value.ref b] s) (F0 m 1537 ls []) := by
  have hbA : ¬ A b := fun h => absurd (hA2 b h) (Nat.not_le.mpr hbl)
  have hN : ∀ (a : Nat) (cell : Cell), s.heap[a]? = some cell → cell.vm.isStatics = true → ¬ A a := fun a cell h1 _ h3 => absurd (hA2 a h3) (Nat.not_le.mpr (Array.getElem?_eq_some_iff.mp h1).1)
  refine lv_aload_n hx hb d_law_1537 rfl (lv_at hl 3 rfl) ?_
  refine lv_aload_n hx hb d_law_1538 rfl (lv_at hl 4 rfl) ?_
  refine lv_iload hx hb d_law_1539 (lv_at hl 0 rfl) ?_
  refine lv_iconst (v := 1) hx hb d_law_1541 (by decide) ?_
  refine lv_iadd hx hb d_law_1542 ?_
  refine va_sld hx hb hX hbl hbA hS (i := (0 + 1)) (by unfold vp_in; decide) d_law_1543 ?_
  refine lv_aload_n hx hb d_law_1544 rfl (lv_at hl 1 rfl) ?_
  have hPc := hP.sub (ws' := [(h, .inr (0, [.ref ro, .ref ch, v2, v3, .ref rg, .ref lg, .int 0, .int 0])), (ro, .inr (1, [.ref ra, .int 0])), (ra, .inl (cI, 32, .inl (fun _ => 0))), (ch, .inr (1, [ca, .int 0])), (rg, .inr (4, [.ref dl, .ref ll, .ref el, w3, w4])), (dl, .inr (6, [x0, .int 0, y0])), (ll, .inr (6, [x1, .int 0, y1])), (el, .inr (6, [x2, .int 0, y2])), (lg, .inr (5, [z0, .int 0, .int 0])), (ho, .inl (cL, 1, .inr (.inl (fun _ => 0))))]) [0, 1, 2, 3, 4, 5, 6, 7, 8, 12] rfl
  have hDc := hD.sub (ws' := [(h, .inr (0, [.ref ro, .ref ch, v2, v3, .ref rg, .ref lg, .int 0, .int 0])), (ro, .inr (1, [.ref ra, .int 0])), (ra, .inl (cI, 32, .inl (fun _ => 0))), (ch, .inr (1, [ca, .int 0])), (rg, .inr (4, [.ref dl, .ref ll, .ref el, w3, w4])), (dl, .inr (6, [x0, .int 0, y0])), (ll, .inr (6, [x1, .int 0, y1])), (el, .inr (6, [x2, .int 0, y2])), (lg, .inr (5, [z0, .int 0, .int 0])), (ho, .inl (cL, 1, .inr (.inl (fun _ => 0))))]) [0, 1, 2, 3, 4, 5, 6, 7, 8, 12] (by decide) rfl
  have hKc := hK.sub (tys' := [(cI, .int), (cL, .long)]) [0, 3] rfl
  have hFc := va_free (wc := [(h, .inr (0, [.ref ro, .ref ch, v2, v3, .ref rg, .ref lg, .int 0, .int 0])), (ro, .inr (1, [.ref ra, .int 0])), (ra, .inl (cI, 32, .inl (fun _ => 0))), (ch, .inr (1, [ca, .int 0])), (rg, .inr (4, [.ref dl, .ref ll, .ref el, w3, w4])), (dl, .inr (6, [x0, .int 0, y0])), (ll, .inr (6, [x1, .int 0, y1])), (el, .inr (6, [x2, .int 0, y2])), (lg, .inr (5, [z0, .int 0, .int 0])), (ho, .inl (cL, 1, .inr (.inl (fun _ => 0))))]) hD hS hA [0, 1, 2, 3, 4, 5, 6, 7, 8, 12] rfl
  refine va_calli (tw_runSW (n := 3) (As := [.ref h, .int (xs (Int32.toNatClampNeg (0 + 1))), .ref ho]) (rest := []) ⟨hx, hb, hml, hown, hts⟩ (c_law_crash l hfl dC dI h H.size ro ra ch rg dl ll el lg ho cI cL (fun _ => 0) (fun _ => 0) v2 v3 ca w3 w4 x0 y0 x1 y1 x2 y2 z0 ((xs (Int32.toNatClampNeg (0 + 1))))) (tw_gc tk_513) rfl rfl rfl ⟨Nat.le_of_ble_eq_true rfl, Nat.le_of_ble_eq_true rfl⟩ (hts _ tk_376) (hts _ tk_514) (hts _ tk_515) (by decide +kernel) (tw_s4E hPc hKc hDc hE (tw_kst hN hS)) rfl rfl hl.1 rfl (lv_room (Nat.le_of_ble_eq_true rfl)) d_law_1545 ⟨by show 62 ≤ 600002; decide, by show 60367 ≤ 7302232; decide⟩) hS (fun q _ h => hFc q h) hFc (fun rk u t H1 locs ht hvm hk9 hB hz1 hk1 hS => ?_)
  obtain ⟨hP1, hK1, hD1⟩ := hB
  rw [ht] at hP1
  obtain ⟨hP, hD⟩ := va_join (wr := [(hm, .inr (7, [.int 0, .int 0, .int 0, .int 0, .int 0, .ref rx, .ref ry, .int 0, m8, m9, m10, m11, m12, m13, m14, .int 0, m16, m17, m18, m19, m20, m21, m22, m23, m24, .int 0, m26, m27, m28, m29, .int 0, .int 0, m32, .int 0, m34, m35, .int 0, m37, m38, .int 0, m40, m41])), (rx, .inl (cX, 32, .inl (fun _ => 0))), (ry, .inl (cY, 32, .inl (fun _ => 0)))]) (w1 := [(ho, .inl (cL, 1, .inr (.inl (u))))]) hP hD [0, 1, 2, 3, 4, 5, 6, 7, 8, 12] [9, 10, 11] rfl rfl (by decide) (by decide) hk1 hFc hP1 hD1
  generalize H1 = H at hP hS ⊢
  have hP : va_P (dC, dI) classes [(hm, .inr (7, [.int 0, .int 0, .int 0, .int 0, .int 0, .ref rx, .ref ry, .int 0, m8, m9, m10, m11, m12, m13, m14, .int 0, m16, m17, m18, m19, m20, m21, m22, m23, m24, .int 0, m26, m27, m28, m29, .int 0, .int 0, m32, .int 0, m34, m35, .int 0, m37, m38, .int 0, m40, m41])), (rx, .inl (cX, 32, .inl (fun _ => 0))), (ry, .inl (cY, 32, .inl (fun _ => 0))), (ho, .inl (cL, 1, .inr (.inl (u))))] H := hP
  have hD : va_D A [(hm, .inr (7, [.int 0, .int 0, .int 0, .int 0, .int 0, .ref rx, .ref ry, .int 0, m8, m9, m10, m11, m12, m13, m14, .int 0, m16, m17, m18, m19, m20, m21, m22, m23, m24, .int 0, m26, m27, m28, m29, .int 0, .int 0, m32, .int 0, m34, m35, .int 0, m37, m38, .int 0, m40, m41])), (rx, .inl (cX, 32, .inl (fun _ => 0))), (ry, .inl (cY, 32, .inl (fun _ => 0))), (ho, .inl (cL, 1, .inr (.inl (u))))] := hD
  have hk9 : rk = 1 := hk9
  have hk9 := hk9.symm
  subst hk9
  refine lv_istore (lv' := [(5, .int 1), (4, .int 0), (3, .ref ho), (2, .ref hm), (1, .ref h), (0, .ref b)]) hx hb d_law_1548 hl (by decide) rfl (fun ls hl => ?_)
  refine lv_aload_n hx hb d_law_1550 rfl (lv_at hl 3 rfl) ?_
  refine lv_aload_n hx hb d_law_1551 rfl (lv_at hl 5 rfl) ?_
  refine lv_iload hx hb d_law_1552 (lv_at hl 1 rfl) ?_
  refine lv_iconst (v := 1) hx hb d_law_1554 (by decide) ?_
  refine lv_iadd hx hb d_law_1555 ?_
  refine va_sld hx hb hX hbl hbA hS (i := (0 + 1)) (by unfold vp_in; decide) d_law_1556 ?_
  have hPc := hP.sub (ws' := [(hm, .inr (7, [.int 0, .int 0, .int 0, .int 0, .int 0, .ref rx, .ref ry, .int 0, m8, m9, m10, m11, m12, m13, m14, .int 0, m16, m17, m18, m19, m20, m21, m22, m23, m24, .int 0, m26, m27, m28, m29, .int 0, .int 0, m32, .int 0, m34, m35, .int 0, m37, m38, .int 0, m40, m41]))]) [0] rfl
  have hDc := hD.sub (ws' := [(hm, .inr (7, [.int 0, .int 0, .int 0, .int 0, .int 0, .ref rx, .ref ry, .int 0, m8, m9, m10, m11, m12, m13, m14, .int 0, m16, m17, m18, m19, m20, m21, m22, m23, m24, .int 0, m26, m27, m28, m29, .int 0, .int 0, m32, .int 0, m34, m35, .int 0, m37, m38, .int 0, m40, m41]))]) [0] (by decide) rfl
  have hKc := hK.sub (tys' := []) [] rfl
  have hFc := va_free (wc := [(hm, .inr (7, [.int 0, .int 0, .int 0, .int 0, .int 0, .ref rx, .ref ry, .int 0, m8, m9, m10, m11, m12, m13, m14, .int 0, m16, m17, m18, m19, m20, m21, m22, m23, m24, .int 0, m26, m27, m28, m29, .int 0, .int 0, m32, .int 0, m34, m35, .int 0, m37, m38, .int 0, m40, m41]))]) hD hS hA [0] rfl
  refine va_calli (va_runV (As := [.int (xs (Int32.toNatClampNeg (0 + 1)))]) (rest := []) ⟨hx, hb, hml, hown, hts⟩ (c_M_crash l dC dI hm H.size 0 (.ref rx) (.ref ry) m8 m9 m10 m11 m12 m13 m14 m16 m17 m18 m19 m20 m21 m22 m23 m24 m26 m27 m28 m29 m32 m34 m35 m37 m38 m40 m41 ((xs (Int32.toNatClampNeg (0 + 1))))) (cwV 1 hts (tw_gV tk_516 tk_517 tk_518 tk_249 tk_519) rfl rfl rfl (by decide +kernel) ⟨Nat.le_of_ble_eq_true rfl, Nat.le_of_ble_eq_true rfl⟩) (tw_v4 (va_recv (q0 := 0) hK hP rfl rfl) hPc hKc hDc) rfl rfl hl.1 rfl (lv_room (Nat.le_of_ble_eq_true rfl)) d_law_1557 ⟨by show 62 ≤ 600002; decide, by show 60367 ≤ 7302232; decide⟩) hS (fun q _ h => hFc q h) hFc (fun rm w9 t H1 locs ht hvm hm9 hB hz1 hk1 hS => ?_)
  obtain ⟨tm, fs⟩ := w9
  obtain ⟨hP1, hK1, hD1⟩ := hB
  rw [ht] at hP1
  obtain ⟨hP, hD⟩ := va_join (wr := [(rx, .inl (cX, 32, .inl (fun _ => 0))), (ry, .inl (cY, 32, .inl (fun _ => 0))), (ho, .inl (cL, 1, .inr (.inl (u))))]) (w1 := [(hm, .inr (7, .int tm :: fs))]) hP hD [0] [1, 2, 3] rfl rfl (by decide) (by decide) hk1 hFc hP1 hD1
  generalize H1 = H at hP hS ⊢
  have hP : va_P (dC, dI) classes [(rx, .inl (cX, 32, .inl (fun _ => 0))), (ry, .inl (cY, 32, .inl (fun _ => 0))), (ho, .inl (cL, 1, .inr (.inl (u)))), (hm, .inr (7, .int tm :: fs))] H := hP
  have hD : va_D A [(rx, .inl (cX, 32, .inl (fun _ => 0))), (ry, .inl (cY, 32, .inl (fun _ => 0))), (ho, .inl (cL, 1, .inr (.inl (u)))), (hm, .inr (7, .int tm :: fs))] := hD
  have hm9 : tm = 1 := hm9
  have hm9 := hm9.symm
  subst hm9
  refine lv_istore (lv' := [(6, .int rm), (5, .int 1), (4, .int 0), (3, .ref ho), (2, .ref hm), (1, .ref h), (0, .ref b)]) hx hb d_law_1560 hl (by decide) rfl (fun ls hl => ?_)
  refine lv_aload_n hx hb d_law_1562 rfl (lv_at hl 4 rfl) ?_
  refine vp_callSi (W.runV (As := []) (rest := []) ⟨hx, hb, hml, hown, hts⟩ (c_M_thrown l dC dI hm 1 fs) (cwV 0 hts (tw_gV tk_383 tk_384 tk_385 tk_249 tk_386) rfl rfl rfl (by decide +kernel) ⟨Nat.le_of_ble_eq_true rfl, Nat.le_of_ble_eq_true rfl⟩) (tw_v2 (va_recv (q0 := 3) hK hP rfl rfl) (hP.sub (ws' := [(hm, .inr (7, .int 1 :: fs))]) [3] rfl) (hK.sub (tys' := []) [] rfl)) rfl rfl hl.1 rfl (lv_room (Nat.le_of_ble_eq_true rfl)) d_law_1563 ⟨by show 62 ≤ 600002; decide, by show 60367 ≤ 7302232; decide⟩) (fun r1 e2 => ?_)
  have e2 := e2.symm
  subst e2
  refine lv_iload hx hb d_law_1566 (lv_at hl 1 rfl) ?_
  refine lv_icmp_eq (tgt := 1573) hx hb d_law_1568 (by decide) (fun h3 => ?_) (fun h3 => absurd (by decide) h3)
  refine lv_iload hx hb d_law_1573 (lv_at hl 1 rfl) ?_
  refine lv_if_ne (tgt := 1590) hx hb d_law_1575 (by decide) (fun h4 => ?_) (fun h4 => absurd h4 (by decide))
  refine lv_goto (tgt := 1637) hx hb d_law_1590 (by decide) ?_
  refine lv_iinc (k := 2) (v := 7) (lv' := [(4, .int 7), (6, .int rm), (5, .int 1), (3, .ref ho), (2, .ref hm), (1, .ref h), (0, .ref b)]) hx hb d_law_1637 hl rfl (by decide) (by decide) rfl (fun ls hl => ?_)
  refine lv_goto (tgt := 23) hx hb d_law_1640 (by decide) ?_
  refine lv_iload hx hb d_law_23 (lv_at hl 0 rfl) ?_
  refine lv_aload_n hx hb d_law_25 rfl (lv_at hl 6 rfl) ?_
  refine va_slen hx hb hX hbl hbA hS d_law_26 ?_
  refine lv_bipush (v := 7) hx hb d_law_27 (by decide) ?_
  refine lv_isub hx hb d_law_29 ?_
  refine lv_icmp_gt (tgt := 1643) hx hb d_law_30 (by decide) (fun h5 => ?_) (fun h5 => absurd (by decide) h5)
  refine lv_iconst (v := 1) hx hb d_law_1643 (by decide) ?_
  refine va_forget (fun q hq => hA2 _ (hS.2.2 q hq)) ?_
  refine W.widen (k := 600002) (n := 7302232) (by decide) (by decide) ?_
  exact lw_ret hx hb hr hlocks d_law_1644
theorem tk_520 : (Jvm.Cond.codeWith ({ cls := "LandBookLaw", name := "mount", desc := "(LLandBook;[J)I" } : Jvm.MethodName) method_23_code (3 : Nat) (Option.some Jvm.ClassFile.FieldType.int) [((0 : Nat), (8 : Nat), (11 : Nat), (21 : Nat)), ((0 : Nat), (8 : Nat), (14 : Nat), (15 : Nat))]) ∈ tw_G := tw_in (List.mem_of_getElem? (i := 1016) (by decide +kernel)) rfl
theorem tk_521 : (Jvm.Cond.methodLink "LandBookLaw" (162 : Nat) ({ cls := "LandBookLaw", name := "mount", desc := "(LLandBook;[J)I" } : Jvm.MethodName)) ∈ tw_G := tw_in (List.mem_of_getElem? (i := 1014) (by decide +kernel)) rfl
theorem tk_522 : (Jvm.Cond.static ({ cls := "LandBookLaw", name := "mount", desc := "(LLandBook;[J)I" } : Jvm.MethodName)) ∈ tw_G := tw_in (List.mem_of_getElem? (i := 1015) (by decide +kernel)) rfl
theorem tk_523 : (Jvm.Cond.methodLink "LandBookLaw" (164 : Nat) ({ cls := "LandBookModel", name := "mount", desc := "()I" } : Jvm.MethodName)) ∈ tw_G := tw_in (List.mem_of_getElem? (i := 1460) (by decide +kernel)) rfl
theorem tk_524 : (Jvm.Cond.instanceMethod ({ cls := "LandBookModel", name := "mount", desc := "()I" } : Jvm.MethodName)) ∈ tw_G := tw_in (List.mem_of_getElem? (i := 1461) (by decide +kernel)) rfl
theorem tk_525 : (Jvm.Cond.selects "LandBookModel" ({ cls := "LandBookModel", name := "mount", desc := "()I" } : Jvm.MethodName) ({ cls := "LandBookModel", name := "mount", desc := "()I" } : Jvm.MethodName)) ∈ tw_G := tw_in (List.mem_of_getElem? (i := 1462) (by decide +kernel)) rfl
theorem tk_526 : (Jvm.Cond.code ({ cls := "LandBookModel", name := "mount", desc := "()I" } : Jvm.MethodName) prog_13_method_76_code (3 : Nat) (Option.some Jvm.ClassFile.FieldType.int)) ∈ tw_G := tw_in (List.mem_of_getElem? (i := 1463) (by decide +kernel)) rfl
set_option maxHeartbeats 4000000 in
set_option maxRecDepth 100000 in
theorem lw_case_20 {p : Program} {e : Env} {s : State} {m : MethodId} {below : List Frame} {meth : Method} {c : Code} (l : Launch) (hfl : l.flags = pinnedFlags ++ [noTraceFlag]) {b : Nat} {xs : Nat → Int32} (hx : p.tables.exec = Jvm.exec) (hb : c.code = code) (hr : meth.sig.returnType = ret) (hml : c.maxLocals = 7) (hown : s.vm.findClass "LandBookLaw" = some m.cls) (hts : ∀ w ∈ tw_G, w.before #[Value.ref b] s = true) (hX : va_X b 7 xs s s.heap) (hbl : b < s.heap.size) (hlocks : meth.locks = false) (hE : lb_E s) {A : Nat → Prop} (hA : ∀ q : Nat, s.heap.size ≤ q → A q) (hA2 : ∀ q : Nat, A q → s.heap.size ≤ q) {dC : Nat → ClassId} {dI : Nat → Nat → Nat} {h ro ra ch rg dl ll el lg hm rx ry ho : Nat} {cI cX cY cL : ClassId} {v2 v3 ca w3 w4 x0 y0 x1 y1 x2 y2 z0 m8 m9 m10 m11 m12 m13 m14 m16 m17 m18 m19 m20 m21 m22 m23 m24 m26 m27 m28 m29 m32 m34 m35 m37 m38 m40 m41 : Value} {H : Heap} {locs : List Loc} {ls : Array Slot} (hK : va_K (dC, dI) classes [(cI, .int), (cX, .int), (cY, .int), (cL, .long)] s) (hP : va_P (dC, dI) classes [(h, .inr (0, [.ref ro, .ref ch, v2, v3, .ref rg, .ref lg, .int 0, .int 0])), (ro, .inr (1, [.ref ra, .int 0])), (ra, .inl (cI, 32, .inl (fun _ => 0))), (ch, .inr (1, [ca, .int 0])), (rg, .inr (4, [.ref dl, .ref ll, .ref el, w3, w4])), (dl, .inr (6, [x0, .int 0, y0])), (ll, .inr (6, [x1, .int 0, y1])), (el, .inr (6, [x2, .int 0, y2])), (lg, .inr (5, [z0, .int 0, .int 0])), (hm, .inr (7, [.int 0, .int 0, .int 0, .int 0, .int 0, .ref rx, .ref ry, .int 0, m8, m9, m10, m11, m12, m13, m14, .int 0, m16, m17, m18, m19, m20, m21, m22, m23, m24, .int 0, m26, m27, m28, m29, .int 0, .int 0, m32, .int 0, m34, m35, .int 0, m37, m38, .int 0, m40, m41])), (rx, .inl (cX, 32, .inl (fun _ => 0))), (ry, .inl (cY, 32, .inl (fun _ => 0))), (ho, .inl (cL, 1, .inr (.inl (fun _ => 0))))] H) (hD : va_D A [(h, .inr (0, [.ref ro, .ref ch, v2, v3, .ref rg, .ref lg, .int 0, .int 0])), (ro, .inr (1, [.ref ra, .int 0])), (ra, .inl (cI, 32, .inl (fun _ => 0))), (ch, .inr (1, [ca, .int 0])), (rg, .inr (4, [.ref dl, .ref ll, .ref el, w3, w4])), (dl, .inr (6, [x0, .int 0, y0])), (ll, .inr (6, [x1, .int 0, y1])), (el, .inr (6, [x2, .int 0, y2])), (lg, .inr (5, [z0, .int 0, .int 0])), (hm, .inr (7, [.int 0, .int 0, .int 0, .int 0, .int 0, .ref rx, .ref ry, .int 0, m8, m9, m10, m11, m12, m13, m14, .int 0, m16, m17, m18, m19, m20, m21, m22, m23, m24, .int 0, m26, m27, m28, m29, .int 0, .int 0, m32, .int 0, m34, m35, .int 0, m37, m38, .int 0, m40, m41])), (rx, .inl (cX, 32, .inl (fun _ => 0))), (ry, .inl (cY, 32, .inl (fun _ => 0))), (ho, .inl (cL, 1, .inr (.inl (fun _ => 0))))]) (hS : va_S A s.heap H locs) (hl : lv_has ls 7 [(4, .int 0), (3, .ref ho), (2, .ref hm), (1, .ref h), (0, .ref b)]) : W p l e room_1 s m #[Value.ref b] below meth c H locs 61 60361 (lw_Z below #[Value.ref b] s) (F0 m 1593 ls []) := by
  have hbA : ¬ A b := fun h => absurd (hA2 b h) (Nat.not_le.mpr hbl)
  have hN : ∀ (a : Nat) (cell : Cell), s.heap[a]? = some cell → cell.vm.isStatics = true → ¬ A a := fun a cell h1 _ h3 => absurd (hA2 a h3) (Nat.not_le.mpr (Array.getElem?_eq_some_iff.mp h1).1)
  refine lv_aload_n hx hb d_law_1593 rfl (lv_at hl 3 rfl) ?_
  refine lv_aload_n hx hb d_law_1594 rfl (lv_at hl 1 rfl) ?_
  have hPc := hP.sub (ws' := [(h, .inr (0, [.ref ro, .ref ch, v2, v3, .ref rg, .ref lg, .int 0, .int 0])), (ro, .inr (1, [.ref ra, .int 0])), (ra, .inl (cI, 32, .inl (fun _ => 0))), (ch, .inr (1, [ca, .int 0])), (rg, .inr (4, [.ref dl, .ref ll, .ref el, w3, w4])), (dl, .inr (6, [x0, .int 0, y0])), (ll, .inr (6, [x1, .int 0, y1])), (el, .inr (6, [x2, .int 0, y2])), (lg, .inr (5, [z0, .int 0, .int 0])), (ho, .inl (cL, 1, .inr (.inl (fun _ => 0))))]) [0, 1, 2, 3, 4, 5, 6, 7, 8, 12] rfl
  have hDc := hD.sub (ws' := [(h, .inr (0, [.ref ro, .ref ch, v2, v3, .ref rg, .ref lg, .int 0, .int 0])), (ro, .inr (1, [.ref ra, .int 0])), (ra, .inl (cI, 32, .inl (fun _ => 0))), (ch, .inr (1, [ca, .int 0])), (rg, .inr (4, [.ref dl, .ref ll, .ref el, w3, w4])), (dl, .inr (6, [x0, .int 0, y0])), (ll, .inr (6, [x1, .int 0, y1])), (el, .inr (6, [x2, .int 0, y2])), (lg, .inr (5, [z0, .int 0, .int 0])), (ho, .inl (cL, 1, .inr (.inl (fun _ => 0))))]) [0, 1, 2, 3, 4, 5, 6, 7, 8, 12] (by decide) rfl
  have hKc := hK.sub (tys' := [(cI, .int), (cL, .long)]) [0, 3] rfl
  have hFc := va_free (wc := [(h, .inr (0, [.ref ro, .ref ch, v2, v3, .ref rg, .ref lg, .int 0, .int 0])), (ro, .inr (1, [.ref ra, .int 0])), (ra, .inl (cI, 32, .inl (fun _ => 0))), (ch, .inr (1, [ca, .int 0])), (rg, .inr (4, [.ref dl, .ref ll, .ref el, w3, w4])), (dl, .inr (6, [x0, .int 0, y0])), (ll, .inr (6, [x1, .int 0, y1])), (el, .inr (6, [x2, .int 0, y2])), (lg, .inr (5, [z0, .int 0, .int 0])), (ho, .inl (cL, 1, .inr (.inl (fun _ => 0))))]) hD hS hA [0, 1, 2, 3, 4, 5, 6, 7, 8, 12] rfl
  refine va_calli (tw_runSW (n := 2) (As := [.ref h, .ref ho]) (rest := []) ⟨hx, hb, hml, hown, hts⟩ (c_law_mount l hfl dC dI h H.size ro ra ch rg dl ll el lg ho cI cL (fun _ => 0) (fun _ => 0) v2 v3 ca w3 w4 x0 y0 x1 y1 x2 y2 z0) (tw_gc tk_520) rfl rfl rfl ⟨Nat.le_of_ble_eq_true rfl, Nat.le_of_ble_eq_true rfl⟩ (hts _ tk_376) (hts _ tk_521) (hts _ tk_522) (by decide +kernel) (tw_s4E hPc hKc hDc hE (tw_kst hN hS)) rfl rfl hl.1 rfl (lv_room (Nat.le_of_ble_eq_true rfl)) d_law_1595 ⟨by show 62 ≤ 600002; decide, by show 60367 ≤ 7302232; decide⟩) hS (fun q _ h => hFc q h) hFc (fun rk u t H1 locs ht hvm hk9 hB hz1 hk1 hS => ?_)
  obtain ⟨hP1, hK1, hD1⟩ := hB
  rw [ht] at hP1
  obtain ⟨hP, hD⟩ := va_join (wr := [(hm, .inr (7, [.int 0, .int 0, .int 0, .int 0, .int 0, .ref rx, .ref ry, .int 0, m8, m9, m10, m11, m12, m13, m14, .int 0, m16, m17, m18, m19, m20, m21, m22, m23, m24, .int 0, m26, m27, m28, m29, .int 0, .int 0, m32, .int 0, m34, m35, .int 0, m37, m38, .int 0, m40, m41])), (rx, .inl (cX, 32, .inl (fun _ => 0))), (ry, .inl (cY, 32, .inl (fun _ => 0)))]) (w1 := [(ho, .inl (cL, 1, .inr (.inl (u))))]) hP hD [0, 1, 2, 3, 4, 5, 6, 7, 8, 12] [9, 10, 11] rfl rfl (by decide) (by decide) hk1 hFc hP1 hD1
  generalize H1 = H at hP hS ⊢
  have hP : va_P (dC, dI) classes [(hm, .inr (7, [.int 0, .int 0, .int 0, .int 0, .int 0, .ref rx, .ref ry, .int 0, m8, m9, m10, m11, m12, m13, m14, .int 0, m16, m17, m18, m19, m20, m21, m22, m23, m24, .int 0, m26, m27, m28, m29, .int 0, .int 0, m32, .int 0, m34, m35, .int 0, m37, m38, .int 0, m40, m41])), (rx, .inl (cX, 32, .inl (fun _ => 0))), (ry, .inl (cY, 32, .inl (fun _ => 0))), (ho, .inl (cL, 1, .inr (.inl (u))))] H := hP
  have hD : va_D A [(hm, .inr (7, [.int 0, .int 0, .int 0, .int 0, .int 0, .ref rx, .ref ry, .int 0, m8, m9, m10, m11, m12, m13, m14, .int 0, m16, m17, m18, m19, m20, m21, m22, m23, m24, .int 0, m26, m27, m28, m29, .int 0, .int 0, m32, .int 0, m34, m35, .int 0, m37, m38, .int 0, m40, m41])), (rx, .inl (cX, 32, .inl (fun _ => 0))), (ry, .inl (cY, 32, .inl (fun _ => 0))), (ho, .inl (cL, 1, .inr (.inl (u))))] := hD
  have hk9 : rk = 1 := hk9
  have hk9 := hk9.symm
  subst hk9
  refine lv_istore (lv' := [(5, .int 1), (4, .int 0), (3, .ref ho), (2, .ref hm), (1, .ref h), (0, .ref b)]) hx hb d_law_1598 hl (by decide) rfl (fun ls hl => ?_)
  refine lv_aload_n hx hb d_law_1600 rfl (lv_at hl 3 rfl) ?_
  have hPc := hP.sub (ws' := [(hm, .inr (7, [.int 0, .int 0, .int 0, .int 0, .int 0, .ref rx, .ref ry, .int 0, m8, m9, m10, m11, m12, m13, m14, .int 0, m16, m17, m18, m19, m20, m21, m22, m23, m24, .int 0, m26, m27, m28, m29, .int 0, .int 0, m32, .int 0, m34, m35, .int 0, m37, m38, .int 0, m40, m41]))]) [0] rfl
  have hDc := hD.sub (ws' := [(hm, .inr (7, [.int 0, .int 0, .int 0, .int 0, .int 0, .ref rx, .ref ry, .int 0, m8, m9, m10, m11, m12, m13, m14, .int 0, m16, m17, m18, m19, m20, m21, m22, m23, m24, .int 0, m26, m27, m28, m29, .int 0, .int 0, m32, .int 0, m34, m35, .int 0, m37, m38, .int 0, m40, m41]))]) [0] (by decide) rfl
  have hKc := hK.sub (tys' := []) [] rfl
  have hFc := va_free (wc := [(hm, .inr (7, [.int 0, .int 0, .int 0, .int 0, .int 0, .ref rx, .ref ry, .int 0, m8, m9, m10, m11, m12, m13, m14, .int 0, m16, m17, m18, m19, m20, m21, m22, m23, m24, .int 0, m26, m27, m28, m29, .int 0, .int 0, m32, .int 0, m34, m35, .int 0, m37, m38, .int 0, m40, m41]))]) hD hS hA [0] rfl
  refine va_calli (va_runV (As := []) (rest := []) ⟨hx, hb, hml, hown, hts⟩ (c_M_mount l dC dI hm H.size 0 (.ref rx) (.ref ry) m8 m9 m10 m11 m12 m13 m14 m16 m17 m18 m19 m20 m21 m22 m23 m24 m26 m27 m28 m29 m32 m34 m35 m37 m38 m40 m41) (cwV 0 hts (tw_gV tk_523 tk_524 tk_525 tk_249 tk_526) rfl rfl rfl (by decide +kernel) ⟨Nat.le_of_ble_eq_true rfl, Nat.le_of_ble_eq_true rfl⟩) (tw_v4 (va_recv (q0 := 0) hK hP rfl rfl) hPc hKc hDc) rfl rfl hl.1 rfl (lv_room (Nat.le_of_ble_eq_true rfl)) d_law_1601 ⟨by show 62 ≤ 600002; decide, by show 60367 ≤ 7302232; decide⟩) hS (fun q _ h => hFc q h) hFc (fun rm w9 t H1 locs ht hvm hm9 hB hz1 hk1 hS => ?_)
  obtain ⟨tm, fs⟩ := w9
  obtain ⟨hP1, hK1, hD1⟩ := hB
  rw [ht] at hP1
  obtain ⟨hP, hD⟩ := va_join (wr := [(rx, .inl (cX, 32, .inl (fun _ => 0))), (ry, .inl (cY, 32, .inl (fun _ => 0))), (ho, .inl (cL, 1, .inr (.inl (u))))]) (w1 := [(hm, .inr (7, .int tm :: fs))]) hP hD [0] [1, 2, 3] rfl rfl (by decide) (by decide) hk1 hFc hP1 hD1
  generalize H1 = H at hP hS ⊢
  have hP : va_P (dC, dI) classes [(rx, .inl (cX, 32, .inl (fun _ => 0))), (ry, .inl (cY, 32, .inl (fun _ => 0))), (ho, .inl (cL, 1, .inr (.inl (u)))), (hm, .inr (7, .int tm :: fs))] H := hP
  have hD : va_D A [(rx, .inl (cX, 32, .inl (fun _ => 0))), (ry, .inl (cY, 32, .inl (fun _ => 0))), (ho, .inl (cL, 1, .inr (.inl (u)))), (hm, .inr (7, .int tm :: fs))] := hD
  have hm9 : tm = 1 := hm9
  have hm9 := hm9.symm
  subst hm9
  refine lv_istore (lv' := [(6, .int rm), (5, .int 1), (4, .int 0), (3, .ref ho), (2, .ref hm), (1, .ref h), (0, .ref b)]) hx hb d_law_1604 hl (by decide) rfl (fun ls hl => ?_)
  refine lv_aload_n hx hb d_law_1606 rfl (lv_at hl 4 rfl) ?_
  refine vp_callSi (W.runV (As := []) (rest := []) ⟨hx, hb, hml, hown, hts⟩ (c_M_thrown l dC dI hm 1 fs) (cwV 0 hts (tw_gV tk_383 tk_384 tk_385 tk_249 tk_386) rfl rfl rfl (by decide +kernel) ⟨Nat.le_of_ble_eq_true rfl, Nat.le_of_ble_eq_true rfl⟩) (tw_v2 (va_recv (q0 := 3) hK hP rfl rfl) (hP.sub (ws' := [(hm, .inr (7, .int 1 :: fs))]) [3] rfl) (hK.sub (tys' := []) [] rfl)) rfl rfl hl.1 rfl (lv_room (Nat.le_of_ble_eq_true rfl)) d_law_1607 ⟨by show 62 ≤ 600002; decide, by show 60367 ≤ 7302232; decide⟩) (fun r1 e2 => ?_)
  have e2 := e2.symm
  subst e2
  refine lv_iload hx hb d_law_1610 (lv_at hl 1 rfl) ?_
  refine lv_icmp_eq (tgt := 1617) hx hb d_law_1612 (by decide) (fun h3 => ?_) (fun h3 => absurd (by decide) h3)
  refine lv_iload hx hb d_law_1617 (lv_at hl 1 rfl) ?_
  refine lv_if_ne (tgt := 1634) hx hb d_law_1619 (by decide) (fun h4 => ?_) (fun h4 => absurd h4 (by decide))
  refine lv_goto (tgt := 1637) hx hb d_law_1634 (by decide) ?_
  refine lv_iinc (k := 2) (v := 7) (lv' := [(4, .int 7), (6, .int rm), (5, .int 1), (3, .ref ho), (2, .ref hm), (1, .ref h), (0, .ref b)]) hx hb d_law_1637 hl rfl (by decide) (by decide) rfl (fun ls hl => ?_)
  refine lv_goto (tgt := 23) hx hb d_law_1640 (by decide) ?_
  refine lv_iload hx hb d_law_23 (lv_at hl 0 rfl) ?_
  refine lv_aload_n hx hb d_law_25 rfl (lv_at hl 6 rfl) ?_
  refine va_slen hx hb hX hbl hbA hS d_law_26 ?_
  refine lv_bipush (v := 7) hx hb d_law_27 (by decide) ?_
  refine lv_isub hx hb d_law_29 ?_
  refine lv_icmp_gt (tgt := 1643) hx hb d_law_30 (by decide) (fun h5 => ?_) (fun h5 => absurd (by decide) h5)
  refine lv_iconst (v := 1) hx hb d_law_1643 (by decide) ?_
  refine va_forget (fun q hq => hA2 _ (hS.2.2 q hq)) ?_
  refine W.widen (k := 600002) (n := 7302232) (by decide) (by decide) ?_
  exact lw_ret hx hb hr hlocks d_law_1644
