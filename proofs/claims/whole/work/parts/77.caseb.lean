theorem ty_731 : (Jvm.Cond.codeWith ({ cls := "LandBookLaw", name := "merge", desc := "(LLandBook;III[J)I" } : Jvm.MethodName) method_6_code (6 : Nat) (Option.some Jvm.ClassFile.FieldType.int) [((0 : Nat), (12 : Nat), (15 : Nat), (21 : Nat)), ((0 : Nat), (12 : Nat), (19 : Nat), (26 : Nat)), ((0 : Nat), (12 : Nat), (23 : Nat), (13 : Nat))]) ∈ tw_G := tw_in (List.mem_of_getElem? (i := 782) (by decide +kernel)) rfl
theorem ty_732 : (Jvm.Cond.methodLink "LandBookLaw" (107 : Nat) ({ cls := "LandBookLaw", name := "merge", desc := "(LLandBook;III[J)I" } : Jvm.MethodName)) ∈ tw_G := tw_in (List.mem_of_getElem? (i := 780) (by decide +kernel)) rfl
theorem ty_733 : (Jvm.Cond.static ({ cls := "LandBookLaw", name := "merge", desc := "(LLandBook;III[J)I" } : Jvm.MethodName)) ∈ tw_G := tw_in (List.mem_of_getElem? (i := 781) (by decide +kernel)) rfl
theorem ty_734 : (Jvm.Cond.methodLink "LandBookLaw" (110 : Nat) ({ cls := "LandBookModel", name := "merge", desc := "(III)I" } : Jvm.MethodName)) ∈ tw_G := tw_in (List.mem_of_getElem? (i := 1349) (by decide +kernel)) rfl
theorem ty_735 : (Jvm.Cond.instanceMethod ({ cls := "LandBookModel", name := "merge", desc := "(III)I" } : Jvm.MethodName)) ∈ tw_G := tw_in (List.mem_of_getElem? (i := 1350) (by decide +kernel)) rfl
theorem ty_736 : (Jvm.Cond.selects "LandBookModel" ({ cls := "LandBookModel", name := "merge", desc := "(III)I" } : Jvm.MethodName) ({ cls := "LandBookModel", name := "merge", desc := "(III)I" } : Jvm.MethodName)) ∈ tw_G := tw_in (List.mem_of_getElem? (i := 1351) (by decide +kernel)) rfl
theorem ty_737 : (Jvm.Cond.code ({ cls := "LandBookModel", name := "merge", desc := "(III)I" } : Jvm.MethodName) prog_13_method_55_code (4 : Nat) (Option.some Jvm.ClassFile.FieldType.int)) ∈ tw_G := tw_in (List.mem_of_getElem? (i := 1352) (by decide +kernel)) rfl
def st_merge (R : Nat → Nat → CS → MS → Prop) (vb : Nat) (f : Nat → Int64) (c n : Nat) (a1 a2 a3 a4 a5 a6 : Int) (T : CS) (S : MS) : Prop := ∃ mc ms : Nat, (c + mc ≤ 601024 ∧ n + ms ≤ 7293034) ∧ hx_merge (fun cd f1 T1 => inR cd ∧ wp_Mo_merge (fun b S1 => inR b ∧ S1.1 0 = cd ∧ (cd = 0 → f1 0 = lI b) ∧ R (c + mc) (n + ms) T1 S1) a1 a2 a3 S) f mc ms vb a1 a2 a3 T
set_option maxHeartbeats 4000000 in
set_option maxRecDepth 100000 in
theorem lc_merge (l : Launch) (hfl : l.flags = pinnedFlags ++ [noTraceFlag]) {D : va_G} {X : jx_C} {k : CK} {kL : ClassId} {kc : Nat → ClassId} {ad : Nat → Nat} {ho hm vb b L : Nat} {xs : Nat → Int32} {f : Nat → Int64} {T : CS} {S : MS} {c n : Nat} {R : Nat → Nat → CS → MS → Prop} {i : Int} (F : jfx X code 7 "LandBookLaw" 13 520 601024 7293034) (K : jkw k D kL kc X) (Z : jsx X b L xs) (hL : L ≤ 3584) (hi : 0 ≤ i ∧ i + 7 ≤ L) (hT : cs_ok k T) (hw : st_merge R vb f c n ((xs (i + 1).toNat).toInt) ((xs (i + 2).toNat).toInt) ((xs (i + 3).toNat).toInt) ((xs (i + 4).toNat).toInt) ((xs (i + 5).toNat).toInt) ((xs (i + 6).toNat).toInt) T S)
    (kk : ∀ (c1 n1 : Nat) (T1 : CS) (S1 : MS) (f1 : Nat → Int64), c1 ≤ 601024 → n1 ≤ 7293034 → R c1 n1 T1 S1 → cs_ok k T1 → jat l D X 7 1637 [(4, vi i), (3, .ref ho), (2, .ref hm), (1, .ref vb), (0, .ref b)] [] (lww k T1 ho kL f1 hm ad kc S1) c1 n1) : jat l D X 7 327 [(4, vi i), (3, .ref ho), (2, .ref hm), (1, .ref vb), (0, .ref b)] [] (lww k T ho kL f hm ad kc S) c n := by
  obtain ⟨mc, ms, ⟨hr1, hr2⟩, hw⟩ := hw
  refine j_aload_n F 3 d_law_327 rfl ?_
  refine j_aload_n F 4 d_law_328 rfl ?_
  refine j_iload F 0 d_law_329 rfl ?_
  refine j_iconst F d_law_331 ?_
  refine j_iadd F d_law_332 ?_
  refine w_sld F Z hL ⟨by omega, by omega⟩ d_law_333 ?_
  refine j_aload_n F 4 d_law_334 rfl ?_
  refine j_iload F 0 d_law_335 rfl ?_
  refine j_iconst F d_law_337 ?_
  refine j_iadd F d_law_338 ?_
  refine w_sld F Z hL ⟨by omega, by omega⟩ d_law_339 ?_
  refine j_aload_n F 4 d_law_340 rfl ?_
  refine j_iload F 0 d_law_341 rfl ?_
  refine j_iconst F d_law_343 ?_
  refine j_iadd F d_law_344 ?_
  refine w_sld F Z hL ⟨by omega, by omega⟩ d_law_345 ?_
  refine j_aload_n F 1 d_law_346 rfl ?_
  refine w_callH F K hT (c_H_merge l hfl hw) ty_731 ty_705 ty_732 ty_733 q_H_merge rfl ⟨by decide, by decide⟩ ⟨hr1, hr2⟩ rfl (Nat.le_of_ble_eq_true rfl) d_law_347 (fun cd f1 T1 hw hT1 => ?_)
  obtain ⟨hcd, hw⟩ := hw
  refine j_istore F [(5, vi cd), (4, vi i), (3, .ref ho), (2, .ref hm), (1, .ref vb), (0, .ref b)] d_law_350 (by decide) rfl ?_
  refine j_aload_n F 3 d_law_352 rfl ?_
  refine j_aload_n F 5 d_law_353 rfl ?_
  refine j_iload F 1 d_law_354 rfl ?_
  refine j_iconst F d_law_356 ?_
  refine j_iadd F d_law_357 ?_
  refine w_sld F Z hL ⟨by omega, by omega⟩ d_law_358 ?_
  refine j_aload_n F 5 d_law_359 rfl ?_
  refine j_iload F 1 d_law_360 rfl ?_
  refine j_iconst F d_law_362 ?_
  refine j_iadd F d_law_363 ?_
  refine w_sld F Z hL ⟨by omega, by omega⟩ d_law_364 ?_
  refine j_aload_n F 5 d_law_365 rfl ?_
  refine j_iload F 1 d_law_366 rfl ?_
  refine j_iconst F d_law_368 ?_
  refine j_iadd F d_law_369 ?_
  refine w_sld F Z hL ⟨by omega, by omega⟩ d_law_370 ?_
  refine w_callM F K (c_Mo_merge l hw) (tw_gV ty_734 ty_735 ty_736 ty_711 ty_737) q_Mo_merge rfl ⟨by decide, by decide⟩ ⟨hr1, hr2⟩ rfl (Nat.le_of_ble_eq_true rfl) d_law_371 (fun bb S1 hw => ?_)
  obtain ⟨hbb, hth, hout, hR⟩ := hw
  refine j_istore F [(6, vi bb), (5, vi cd), (4, vi i), (3, .ref ho), (2, .ref hm), (1, .ref vb), (0, .ref b)] d_law_374 (by decide) rfl ?_
  refine j_aload_n F 4 d_law_376 rfl ?_
  refine w_callM F K (c_Mo_thrown (post := fun v S2 => v = S1.1 0 ∧ S2 = S1) l ⟨rfl, rfl⟩) (tw_gV ty_713 ty_714 ty_715 ty_711 ty_716) q_Mo_thrown rfl ⟨by decide, by decide⟩ ⟨hr1, hr2⟩ rfl (Nat.le_of_ble_eq_true rfl) d_law_377 (fun tv S2 hw => ?_)
  obtain ⟨rfl, rfl⟩ := hw
  rw [hth]
  refine j_iload F 1 d_law_380 rfl ?_
  refine j_icmp_eq F 387 hcd hcd d_law_382 rfl (fun _ => ?_) (fun hh => absurd rfl hh)
  refine j_iload F 1 d_law_387 rfl ?_
  refine j_if_ne F 404 hcd d_law_389 rfl (fun hh => ?_) (fun hh => ?_)
  · skip
    refine j_goto F 1637 d_law_404 rfl ?_
    refine j_sub [2, 3, 4, 5, 6] rfl ?_
    exact kk _ _ _ _ _ hr1 hr2 hR hT1
  · have hf := hout hh
    refine j_aload_n F 3 d_law_392 rfl ?_
    refine j_iconst F d_law_393 ?_
    refine w_lald F K hf d_law_394 ?_
    refine j_iload F 0 d_law_395 rfl ?_
    refine j_i2l F hbb d_law_397 ?_
    refine j_lcmp_eq F 404 (inR_L hbb) (inR_L hbb) d_law_398 d_law_399 rfl (fun _ => ?_) (fun hh2 => absurd rfl hh2)
    refine j_goto F 1637 d_law_404 rfl ?_
    refine j_sub [2, 3, 4, 5, 6] rfl ?_
    exact kk _ _ _ _ _ hr1 hr2 hR hT1
theorem ty_738 : (Jvm.Cond.codeWith ({ cls := "LandBookLaw", name := "transfer", desc := "(LLandBook;IIIIII[J)I" } : Jvm.MethodName) method_7_code (9 : Nat) (Option.some Jvm.ClassFile.FieldType.int) [((0 : Nat), (18 : Nat), (21 : Nat), (21 : Nat)), ((0 : Nat), (18 : Nat), (25 : Nat), (26 : Nat)), ((0 : Nat), (18 : Nat), (29 : Nat), (13 : Nat))]) ∈ tw_G := tw_in (List.mem_of_getElem? (i := 818) (by decide +kernel)) rfl
theorem ty_739 : (Jvm.Cond.methodLink "LandBookLaw" (111 : Nat) ({ cls := "LandBookLaw", name := "transfer", desc := "(LLandBook;IIIIII[J)I" } : Jvm.MethodName)) ∈ tw_G := tw_in (List.mem_of_getElem? (i := 816) (by decide +kernel)) rfl
theorem ty_740 : (Jvm.Cond.static ({ cls := "LandBookLaw", name := "transfer", desc := "(LLandBook;IIIIII[J)I" } : Jvm.MethodName)) ∈ tw_G := tw_in (List.mem_of_getElem? (i := 817) (by decide +kernel)) rfl
theorem ty_741 : (Jvm.Cond.methodLink "LandBookLaw" (114 : Nat) ({ cls := "LandBookModel", name := "transfer", desc := "(IIIIII)I" } : Jvm.MethodName)) ∈ tw_G := tw_in (List.mem_of_getElem? (i := 1382) (by decide +kernel)) rfl
theorem ty_742 : (Jvm.Cond.instanceMethod ({ cls := "LandBookModel", name := "transfer", desc := "(IIIIII)I" } : Jvm.MethodName)) ∈ tw_G := tw_in (List.mem_of_getElem? (i := 1383) (by decide +kernel)) rfl
theorem ty_743 : (Jvm.Cond.selects "LandBookModel" ({ cls := "LandBookModel", name := "transfer", desc := "(IIIIII)I" } : Jvm.MethodName) ({ cls := "LandBookModel", name := "transfer", desc := "(IIIIII)I" } : Jvm.MethodName)) ∈ tw_G := tw_in (List.mem_of_getElem? (i := 1384) (by decide +kernel)) rfl
theorem ty_744 : (Jvm.Cond.code ({ cls := "LandBookModel", name := "transfer", desc := "(IIIIII)I" } : Jvm.MethodName) prog_13_method_57_code (10 : Nat) (Option.some Jvm.ClassFile.FieldType.int)) ∈ tw_G := tw_in (List.mem_of_getElem? (i := 1385) (by decide +kernel)) rfl
def st_transfer (R : Nat → Nat → CS → MS → Prop) (vb : Nat) (f : Nat → Int64) (c n : Nat) (a1 a2 a3 a4 a5 a6 : Int) (T : CS) (S : MS) : Prop := ∃ mc ms : Nat, (c + mc ≤ 601024 ∧ n + ms ≤ 7293034) ∧ hx_transfer (fun cd f1 T1 => inR cd ∧ wp_Mo_transfer (fun b S1 => inR b ∧ S1.1 0 = cd ∧ (cd = 0 → f1 0 = lI b) ∧ R (c + mc) (n + ms) T1 S1) a1 a2 a3 a4 a5 a6 S) f mc ms vb a1 a2 a3 a4 a5 a6 T
set_option maxHeartbeats 4000000 in
set_option maxRecDepth 100000 in
theorem lc_transfer (l : Launch) (hfl : l.flags = pinnedFlags ++ [noTraceFlag]) {D : va_G} {X : jx_C} {k : CK} {kL : ClassId} {kc : Nat → ClassId} {ad : Nat → Nat} {ho hm vb b L : Nat} {xs : Nat → Int32} {f : Nat → Int64} {T : CS} {S : MS} {c n : Nat} {R : Nat → Nat → CS → MS → Prop} {i : Int} (F : jfx X code 7 "LandBookLaw" 13 520 601024 7293034) (K : jkw k D kL kc X) (Z : jsx X b L xs) (hL : L ≤ 3584) (hi : 0 ≤ i ∧ i + 7 ≤ L) (hT : cs_ok k T) (hw : st_transfer R vb f c n ((xs (i + 1).toNat).toInt) ((xs (i + 2).toNat).toInt) ((xs (i + 3).toNat).toInt) ((xs (i + 4).toNat).toInt) ((xs (i + 5).toNat).toInt) ((xs (i + 6).toNat).toInt) T S)
    (kk : ∀ (c1 n1 : Nat) (T1 : CS) (S1 : MS) (f1 : Nat → Int64), c1 ≤ 601024 → n1 ≤ 7293034 → R c1 n1 T1 S1 → cs_ok k T1 → jat l D X 7 1637 [(4, vi i), (3, .ref ho), (2, .ref hm), (1, .ref vb), (0, .ref b)] [] (lww k T1 ho kL f1 hm ad kc S1) c1 n1) : jat l D X 7 407 [(4, vi i), (3, .ref ho), (2, .ref hm), (1, .ref vb), (0, .ref b)] [] (lww k T ho kL f hm ad kc S) c n := by
  obtain ⟨mc, ms, ⟨hr1, hr2⟩, hw⟩ := hw
  refine j_aload_n F 3 d_law_407 rfl ?_
  refine j_aload_n F 4 d_law_408 rfl ?_
  refine j_iload F 0 d_law_409 rfl ?_
  refine j_iconst F d_law_411 ?_
  refine j_iadd F d_law_412 ?_
  refine w_sld F Z hL ⟨by omega, by omega⟩ d_law_413 ?_
  refine j_aload_n F 4 d_law_414 rfl ?_
  refine j_iload F 0 d_law_415 rfl ?_
  refine j_iconst F d_law_417 ?_
  refine j_iadd F d_law_418 ?_
  refine w_sld F Z hL ⟨by omega, by omega⟩ d_law_419 ?_
  refine j_aload_n F 4 d_law_420 rfl ?_
  refine j_iload F 0 d_law_421 rfl ?_
  refine j_iconst F d_law_423 ?_
  refine j_iadd F d_law_424 ?_
  refine w_sld F Z hL ⟨by omega, by omega⟩ d_law_425 ?_
  refine j_aload_n F 4 d_law_426 rfl ?_
  refine j_iload F 0 d_law_427 rfl ?_
  refine j_iconst F d_law_429 ?_
  refine j_iadd F d_law_430 ?_
  refine w_sld F Z hL ⟨by omega, by omega⟩ d_law_431 ?_
  refine j_aload_n F 4 d_law_432 rfl ?_
  refine j_iload F 0 d_law_433 rfl ?_
  refine j_iconst F d_law_435 ?_
  refine j_iadd F d_law_436 ?_
  refine w_sld F Z hL ⟨by omega, by omega⟩ d_law_437 ?_
  refine j_aload_n F 4 d_law_438 rfl ?_
  refine j_iload F 0 d_law_439 rfl ?_
  refine j_bipush F d_law_441 (j_bip (by decide) (by decide)) ?_
  refine j_iadd F d_law_443 ?_
  refine w_sld F Z hL ⟨by omega, by omega⟩ d_law_444 ?_
  refine j_aload_n F 1 d_law_445 rfl ?_
  refine w_callH F K hT (c_H_transfer l hfl hw) ty_738 ty_705 ty_739 ty_740 q_H_transfer rfl ⟨by decide, by decide⟩ ⟨hr1, hr2⟩ rfl (Nat.le_of_ble_eq_true rfl) d_law_446 (fun cd f1 T1 hw hT1 => ?_)
  obtain ⟨hcd, hw⟩ := hw
  refine j_istore F [(5, vi cd), (4, vi i), (3, .ref ho), (2, .ref hm), (1, .ref vb), (0, .ref b)] d_law_449 (by decide) rfl ?_
  refine j_aload_n F 3 d_law_451 rfl ?_
  refine j_aload_n F 5 d_law_452 rfl ?_
  refine j_iload F 1 d_law_453 rfl ?_
  refine j_iconst F d_law_455 ?_
  refine j_iadd F d_law_456 ?_
  refine w_sld F Z hL ⟨by omega, by omega⟩ d_law_457 ?_
  refine j_aload_n F 5 d_law_458 rfl ?_
  refine j_iload F 1 d_law_459 rfl ?_
  refine j_iconst F d_law_461 ?_
  refine j_iadd F d_law_462 ?_
  refine w_sld F Z hL ⟨by omega, by omega⟩ d_law_463 ?_
  refine j_aload_n F 5 d_law_464 rfl ?_
  refine j_iload F 1 d_law_465 rfl ?_
  refine j_iconst F d_law_467 ?_
  refine j_iadd F d_law_468 ?_
  refine w_sld F Z hL ⟨by omega, by omega⟩ d_law_469 ?_
  refine j_aload_n F 5 d_law_470 rfl ?_
  refine j_iload F 1 d_law_471 rfl ?_
  refine j_iconst F d_law_473 ?_
  refine j_iadd F d_law_474 ?_
  refine w_sld F Z hL ⟨by omega, by omega⟩ d_law_475 ?_
  refine j_aload_n F 5 d_law_476 rfl ?_
  refine j_iload F 1 d_law_477 rfl ?_
  refine j_iconst F d_law_479 ?_
  refine j_iadd F d_law_480 ?_
  refine w_sld F Z hL ⟨by omega, by omega⟩ d_law_481 ?_
  refine j_aload_n F 5 d_law_482 rfl ?_
  refine j_iload F 1 d_law_483 rfl ?_
  refine j_bipush F d_law_485 (j_bip (by decide) (by decide)) ?_
  refine j_iadd F d_law_487 ?_
  refine w_sld F Z hL ⟨by omega, by omega⟩ d_law_488 ?_
  refine w_callM F K (c_Mo_transfer l hw) (tw_gV ty_741 ty_742 ty_743 ty_711 ty_744) q_Mo_transfer rfl ⟨by decide, by decide⟩ ⟨hr1, hr2⟩ rfl (Nat.le_of_ble_eq_true rfl) d_law_489 (fun bb S1 hw => ?_)
  obtain ⟨hbb, hth, hout, hR⟩ := hw
  refine j_istore F [(6, vi bb), (5, vi cd), (4, vi i), (3, .ref ho), (2, .ref hm), (1, .ref vb), (0, .ref b)] d_law_492 (by decide) rfl ?_
  refine j_aload_n F 4 d_law_494 rfl ?_
  refine w_callM F K (c_Mo_thrown (post := fun v S2 => v = S1.1 0 ∧ S2 = S1) l ⟨rfl, rfl⟩) (tw_gV ty_713 ty_714 ty_715 ty_711 ty_716) q_Mo_thrown rfl ⟨by decide, by decide⟩ ⟨hr1, hr2⟩ rfl (Nat.le_of_ble_eq_true rfl) d_law_495 (fun tv S2 hw => ?_)
  obtain ⟨rfl, rfl⟩ := hw
  rw [hth]
  refine j_iload F 1 d_law_498 rfl ?_
  refine j_icmp_eq F 505 hcd hcd d_law_500 rfl (fun _ => ?_) (fun hh => absurd rfl hh)
  refine j_iload F 1 d_law_505 rfl ?_
  refine j_if_ne F 522 hcd d_law_507 rfl (fun hh => ?_) (fun hh => ?_)
  · skip
    refine j_goto F 1637 d_law_522 rfl ?_
    refine j_sub [2, 3, 4, 5, 6] rfl ?_
    exact kk _ _ _ _ _ hr1 hr2 hR hT1
  · have hf := hout hh
    refine j_aload_n F 3 d_law_510 rfl ?_
    refine j_iconst F d_law_511 ?_
    refine w_lald F K hf d_law_512 ?_
    refine j_iload F 0 d_law_513 rfl ?_
    refine j_i2l F hbb d_law_515 ?_
    refine j_lcmp_eq F 522 (inR_L hbb) (inR_L hbb) d_law_516 d_law_517 rfl (fun _ => ?_) (fun hh2 => absurd rfl hh2)
    refine j_goto F 1637 d_law_522 rfl ?_
    refine j_sub [2, 3, 4, 5, 6] rfl ?_
    exact kk _ _ _ _ _ hr1 hr2 hR hT1
theorem ty_745 : (Jvm.Cond.codeWith ({ cls := "LandBookLaw", name := "ease", desc := "(LLandBook;III[J)I" } : Jvm.MethodName) method_8_code (6 : Nat) (Option.some Jvm.ClassFile.FieldType.int) [((0 : Nat), (12 : Nat), (15 : Nat), (21 : Nat)), ((0 : Nat), (12 : Nat), (19 : Nat), (26 : Nat)), ((0 : Nat), (12 : Nat), (23 : Nat), (13 : Nat))]) ∈ tw_G := tw_in (List.mem_of_getElem? (i := 838) (by decide +kernel)) rfl
theorem ty_746 : (Jvm.Cond.methodLink "LandBookLaw" (115 : Nat) ({ cls := "LandBookLaw", name := "ease", desc := "(LLandBook;III[J)I" } : Jvm.MethodName)) ∈ tw_G := tw_in (List.mem_of_getElem? (i := 836) (by decide +kernel)) rfl
theorem ty_747 : (Jvm.Cond.static ({ cls := "LandBookLaw", name := "ease", desc := "(LLandBook;III[J)I" } : Jvm.MethodName)) ∈ tw_G := tw_in (List.mem_of_getElem? (i := 837) (by decide +kernel)) rfl
theorem ty_748 : (Jvm.Cond.methodLink "LandBookLaw" (117 : Nat) ({ cls := "LandBookModel", name := "ease", desc := "(III)I" } : Jvm.MethodName)) ∈ tw_G := tw_in (List.mem_of_getElem? (i := 1389) (by decide +kernel)) rfl
theorem ty_749 : (Jvm.Cond.instanceMethod ({ cls := "LandBookModel", name := "ease", desc := "(III)I" } : Jvm.MethodName)) ∈ tw_G := tw_in (List.mem_of_getElem? (i := 1390) (by decide +kernel)) rfl
theorem ty_750 : (Jvm.Cond.selects "LandBookModel" ({ cls := "LandBookModel", name := "ease", desc := "(III)I" } : Jvm.MethodName) ({ cls := "LandBookModel", name := "ease", desc := "(III)I" } : Jvm.MethodName)) ∈ tw_G := tw_in (List.mem_of_getElem? (i := 1391) (by decide +kernel)) rfl
theorem ty_751 : (Jvm.Cond.code ({ cls := "LandBookModel", name := "ease", desc := "(III)I" } : Jvm.MethodName) prog_13_method_58_code (5 : Nat) (Option.some Jvm.ClassFile.FieldType.int)) ∈ tw_G := tw_in (List.mem_of_getElem? (i := 1392) (by decide +kernel)) rfl
def st_ease (R : Nat → Nat → CS → MS → Prop) (vb : Nat) (f : Nat → Int64) (c n : Nat) (a1 a2 a3 a4 a5 a6 : Int) (T : CS) (S : MS) : Prop := ∃ mc ms : Nat, (c + mc ≤ 601024 ∧ n + ms ≤ 7293034) ∧ hx_ease (fun cd f1 T1 => inR cd ∧ wp_Mo_ease (fun b S1 => inR b ∧ S1.1 0 = cd ∧ (cd = 0 → f1 0 = lI b) ∧ R (c + mc) (n + ms) T1 S1) a1 a2 a3 S) f mc ms vb a1 a2 a3 T
set_option maxHeartbeats 4000000 in
set_option maxRecDepth 100000 in
theorem lc_ease (l : Launch) (hfl : l.flags = pinnedFlags ++ [noTraceFlag]) {D : va_G} {X : jx_C} {k : CK} {kL : ClassId} {kc : Nat → ClassId} {ad : Nat → Nat} {ho hm vb b L : Nat} {xs : Nat → Int32} {f : Nat → Int64} {T : CS} {S : MS} {c n : Nat} {R : Nat → Nat → CS → MS → Prop} {i : Int} (F : jfx X code 7 "LandBookLaw" 13 520 601024 7293034) (K : jkw k D kL kc X) (Z : jsx X b L xs) (hL : L ≤ 3584) (hi : 0 ≤ i ∧ i + 7 ≤ L) (hT : cs_ok k T) (hw : st_ease R vb f c n ((xs (i + 1).toNat).toInt) ((xs (i + 2).toNat).toInt) ((xs (i + 3).toNat).toInt) ((xs (i + 4).toNat).toInt) ((xs (i + 5).toNat).toInt) ((xs (i + 6).toNat).toInt) T S)
    (kk : ∀ (c1 n1 : Nat) (T1 : CS) (S1 : MS) (f1 : Nat → Int64), c1 ≤ 601024 → n1 ≤ 7293034 → R c1 n1 T1 S1 → cs_ok k T1 → jat l D X 7 1637 [(4, vi i), (3, .ref ho), (2, .ref hm), (1, .ref vb), (0, .ref b)] [] (lww k T1 ho kL f1 hm ad kc S1) c1 n1) : jat l D X 7 525 [(4, vi i), (3, .ref ho), (2, .ref hm), (1, .ref vb), (0, .ref b)] [] (lww k T ho kL f hm ad kc S) c n := by
  obtain ⟨mc, ms, ⟨hr1, hr2⟩, hw⟩ := hw
  refine j_aload_n F 3 d_law_525 rfl ?_
  refine j_aload_n F 4 d_law_526 rfl ?_
  refine j_iload F 0 d_law_527 rfl ?_
  refine j_iconst F d_law_529 ?_
  refine j_iadd F d_law_530 ?_
  refine w_sld F Z hL ⟨by omega, by omega⟩ d_law_531 ?_
  refine j_aload_n F 4 d_law_532 rfl ?_
  refine j_iload F 0 d_law_533 rfl ?_
  refine j_iconst F d_law_535 ?_
  refine j_iadd F d_law_536 ?_
  refine w_sld F Z hL ⟨by omega, by omega⟩ d_law_537 ?_
  refine j_aload_n F 4 d_law_538 rfl ?_
  refine j_iload F 0 d_law_539 rfl ?_
  refine j_iconst F d_law_541 ?_
  refine j_iadd F d_law_542 ?_
  refine w_sld F Z hL ⟨by omega, by omega⟩ d_law_543 ?_
  refine j_aload_n F 1 d_law_544 rfl ?_
  refine w_callH F K hT (c_H_ease l hfl hw) ty_745 ty_705 ty_746 ty_747 q_H_ease rfl ⟨by decide, by decide⟩ ⟨hr1, hr2⟩ rfl (Nat.le_of_ble_eq_true rfl) d_law_545 (fun cd f1 T1 hw hT1 => ?_)
  obtain ⟨hcd, hw⟩ := hw
  refine j_istore F [(5, vi cd), (4, vi i), (3, .ref ho), (2, .ref hm), (1, .ref vb), (0, .ref b)] d_law_548 (by decide) rfl ?_
  refine j_aload_n F 3 d_law_550 rfl ?_
  refine j_aload_n F 5 d_law_551 rfl ?_
  refine j_iload F 1 d_law_552 rfl ?_
  refine j_iconst F d_law_554 ?_
  refine j_iadd F d_law_555 ?_
  refine w_sld F Z hL ⟨by omega, by omega⟩ d_law_556 ?_
  refine j_aload_n F 5 d_law_557 rfl ?_
  refine j_iload F 1 d_law_558 rfl ?_
  refine j_iconst F d_law_560 ?_
  refine j_iadd F d_law_561 ?_
  refine w_sld F Z hL ⟨by omega, by omega⟩ d_law_562 ?_
  refine j_aload_n F 5 d_law_563 rfl ?_
  refine j_iload F 1 d_law_564 rfl ?_
  refine j_iconst F d_law_566 ?_
  refine j_iadd F d_law_567 ?_
  refine w_sld F Z hL ⟨by omega, by omega⟩ d_law_568 ?_
  refine w_callM F K (c_Mo_ease l hw) (tw_gV ty_748 ty_749 ty_750 ty_711 ty_751) q_Mo_ease rfl ⟨by decide, by decide⟩ ⟨hr1, hr2⟩ rfl (Nat.le_of_ble_eq_true rfl) d_law_569 (fun bb S1 hw => ?_)
  obtain ⟨hbb, hth, hout, hR⟩ := hw
  refine j_istore F [(6, vi bb), (5, vi cd), (4, vi i), (3, .ref ho), (2, .ref hm), (1, .ref vb), (0, .ref b)] d_law_572 (by decide) rfl ?_
  refine j_aload_n F 4 d_law_574 rfl ?_
  refine w_callM F K (c_Mo_thrown (post := fun v S2 => v = S1.1 0 ∧ S2 = S1) l ⟨rfl, rfl⟩) (tw_gV ty_713 ty_714 ty_715 ty_711 ty_716) q_Mo_thrown rfl ⟨by decide, by decide⟩ ⟨hr1, hr2⟩ rfl (Nat.le_of_ble_eq_true rfl) d_law_575 (fun tv S2 hw => ?_)
  obtain ⟨rfl, rfl⟩ := hw
  rw [hth]
  refine j_iload F 1 d_law_578 rfl ?_
  refine j_icmp_eq F 585 hcd hcd d_law_580 rfl (fun _ => ?_) (fun hh => absurd rfl hh)
  refine j_iload F 1 d_law_585 rfl ?_
  refine j_if_ne F 602 hcd d_law_587 rfl (fun hh => ?_) (fun hh => ?_)
  · skip
    refine j_goto F 1637 d_law_602 rfl ?_
    refine j_sub [2, 3, 4, 5, 6] rfl ?_
    exact kk _ _ _ _ _ hr1 hr2 hR hT1
  · have hf := hout hh
    refine j_aload_n F 3 d_law_590 rfl ?_
    refine j_iconst F d_law_591 ?_
    refine w_lald F K hf d_law_592 ?_
    refine j_iload F 0 d_law_593 rfl ?_
    refine j_i2l F hbb d_law_595 ?_
    refine j_lcmp_eq F 602 (inR_L hbb) (inR_L hbb) d_law_596 d_law_597 rfl (fun _ => ?_) (fun hh2 => absurd rfl hh2)
    refine j_goto F 1637 d_law_602 rfl ?_
    refine j_sub [2, 3, 4, 5, 6] rfl ?_
    exact kk _ _ _ _ _ hr1 hr2 hR hT1
