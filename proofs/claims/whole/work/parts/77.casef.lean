theorem ty_815 : (Jvm.Cond.codeWith ({ cls := "LandBookLaw", name := "corner", desc := "(LLandBook;II[J)I" } : Jvm.MethodName) method_18_code (5 : Nat) (Option.some Jvm.ClassFile.FieldType.int) [((0 : Nat), (10 : Nat), (13 : Nat), (21 : Nat)), ((0 : Nat), (10 : Nat), (17 : Nat), (26 : Nat))]) ∈ tw_G := tw_in (List.mem_of_getElem? (i := 964) (by decide +kernel)) rfl
theorem ty_816 : (Jvm.Cond.methodLink "LandBookLaw" (147 : Nat) ({ cls := "LandBookLaw", name := "corner", desc := "(LLandBook;II[J)I" } : Jvm.MethodName)) ∈ tw_G := tw_in (List.mem_of_getElem? (i := 962) (by decide +kernel)) rfl
theorem ty_817 : (Jvm.Cond.static ({ cls := "LandBookLaw", name := "corner", desc := "(LLandBook;II[J)I" } : Jvm.MethodName)) ∈ tw_G := tw_in (List.mem_of_getElem? (i := 963) (by decide +kernel)) rfl
theorem ty_818 : (Jvm.Cond.methodLink "LandBookLaw" (149 : Nat) ({ cls := "LandBookModel", name := "corner", desc := "(II)I" } : Jvm.MethodName)) ∈ tw_G := tw_in (List.mem_of_getElem? (i := 1440) (by decide +kernel)) rfl
theorem ty_819 : (Jvm.Cond.instanceMethod ({ cls := "LandBookModel", name := "corner", desc := "(II)I" } : Jvm.MethodName)) ∈ tw_G := tw_in (List.mem_of_getElem? (i := 1441) (by decide +kernel)) rfl
theorem ty_820 : (Jvm.Cond.selects "LandBookModel" ({ cls := "LandBookModel", name := "corner", desc := "(II)I" } : Jvm.MethodName) ({ cls := "LandBookModel", name := "corner", desc := "(II)I" } : Jvm.MethodName)) ∈ tw_G := tw_in (List.mem_of_getElem? (i := 1442) (by decide +kernel)) rfl
theorem ty_821 : (Jvm.Cond.code ({ cls := "LandBookModel", name := "corner", desc := "(II)I" } : Jvm.MethodName) prog_13_method_71_code (3 : Nat) (Option.some Jvm.ClassFile.FieldType.int)) ∈ tw_G := tw_in (List.mem_of_getElem? (i := 1443) (by decide +kernel)) rfl
def st_corner (R : Nat → Nat → CS → MS → Prop) (vb : Nat) (f : Nat → Int64) (c n : Nat) (a1 a2 a3 a4 a5 a6 : Int) (T : CS) (S : MS) : Prop := ∃ mc ms : Nat, (c + mc ≤ 601024 ∧ n + ms ≤ 7293034) ∧ hx_corner (fun cd f1 T1 => inR cd ∧ wp_Mo_corner (fun b S1 => inR b ∧ S1.1 0 = cd ∧ (cd = 0 → f1 0 = lI b) ∧ R (c + mc) (n + ms) T1 S1) a1 a2 S) f mc ms vb a1 a2 T
set_option maxHeartbeats 4000000 in
set_option maxRecDepth 100000 in
theorem lc_corner (l : Launch) (hfl : l.flags = pinnedFlags ++ [noTraceFlag]) {D : va_G} {X : jx_C} {k : CK} {kL : ClassId} {kc : Nat → ClassId} {ad : Nat → Nat} {ho hm vb b L : Nat} {xs : Nat → Int32} {f : Nat → Int64} {T : CS} {S : MS} {c n : Nat} {R : Nat → Nat → CS → MS → Prop} {i : Int} (F : jfx X code 7 "LandBookLaw" 13 520 601024 7293034) (K : jkw k D kL kc X) (Z : jsx X b L xs) (hL : L ≤ 3584) (hi : 0 ≤ i ∧ i + 7 ≤ L) (hT : cs_ok k T) (hw : st_corner R vb f c n ((xs (i + 1).toNat).toInt) ((xs (i + 2).toNat).toInt) ((xs (i + 3).toNat).toInt) ((xs (i + 4).toNat).toInt) ((xs (i + 5).toNat).toInt) ((xs (i + 6).toNat).toInt) T S)
    (kk : ∀ (c1 n1 : Nat) (T1 : CS) (S1 : MS) (f1 : Nat → Int64), c1 ≤ 601024 → n1 ≤ 7293034 → R c1 n1 T1 S1 → cs_ok k T1 → jat l D X 7 1637 [(4, vi i), (3, .ref ho), (2, .ref hm), (1, .ref vb), (0, .ref b)] [] (lww k T1 ho kL f1 hm ad kc S1) c1 n1) : jat l D X 7 1313 [(4, vi i), (3, .ref ho), (2, .ref hm), (1, .ref vb), (0, .ref b)] [] (lww k T ho kL f hm ad kc S) c n := by
  obtain ⟨mc, ms, ⟨hr1, hr2⟩, hw⟩ := hw
  refine j_aload_n F 3 d_law_1313 rfl ?_
  refine j_aload_n F 4 d_law_1314 rfl ?_
  refine j_iload F 0 d_law_1315 rfl ?_
  refine j_iconst F d_law_1317 ?_
  refine j_iadd F d_law_1318 ?_
  refine w_sld F Z hL ⟨by omega, by omega⟩ d_law_1319 ?_
  refine j_aload_n F 4 d_law_1320 rfl ?_
  refine j_iload F 0 d_law_1321 rfl ?_
  refine j_iconst F d_law_1323 ?_
  refine j_iadd F d_law_1324 ?_
  refine w_sld F Z hL ⟨by omega, by omega⟩ d_law_1325 ?_
  refine j_aload_n F 1 d_law_1326 rfl ?_
  refine w_callH F K hT (c_H_corner l hfl hw) ty_815 ty_705 ty_816 ty_817 q_H_corner rfl ⟨by decide, by decide⟩ ⟨hr1, hr2⟩ rfl (Nat.le_of_ble_eq_true rfl) d_law_1327 (fun cd f1 T1 hw hT1 => ?_)
  obtain ⟨hcd, hw⟩ := hw
  refine j_istore F [(5, vi cd), (4, vi i), (3, .ref ho), (2, .ref hm), (1, .ref vb), (0, .ref b)] d_law_1330 (by decide) rfl ?_
  refine j_aload_n F 3 d_law_1332 rfl ?_
  refine j_aload_n F 5 d_law_1333 rfl ?_
  refine j_iload F 1 d_law_1334 rfl ?_
  refine j_iconst F d_law_1336 ?_
  refine j_iadd F d_law_1337 ?_
  refine w_sld F Z hL ⟨by omega, by omega⟩ d_law_1338 ?_
  refine j_aload_n F 5 d_law_1339 rfl ?_
  refine j_iload F 1 d_law_1340 rfl ?_
  refine j_iconst F d_law_1342 ?_
  refine j_iadd F d_law_1343 ?_
  refine w_sld F Z hL ⟨by omega, by omega⟩ d_law_1344 ?_
  refine w_callM F K (c_Mo_corner l hw) (tw_gV ty_818 ty_819 ty_820 ty_711 ty_821) q_Mo_corner rfl ⟨by decide, by decide⟩ ⟨hr1, hr2⟩ rfl (Nat.le_of_ble_eq_true rfl) d_law_1345 (fun bb S1 hw => ?_)
  obtain ⟨hbb, hth, hout, hR⟩ := hw
  refine j_istore F [(6, vi bb), (5, vi cd), (4, vi i), (3, .ref ho), (2, .ref hm), (1, .ref vb), (0, .ref b)] d_law_1348 (by decide) rfl ?_
  refine j_aload_n F 4 d_law_1350 rfl ?_
  refine w_callM F K (c_Mo_thrown (post := fun v S2 => v = S1.1 0 ∧ S2 = S1) l ⟨rfl, rfl⟩) (tw_gV ty_713 ty_714 ty_715 ty_711 ty_716) q_Mo_thrown rfl ⟨by decide, by decide⟩ ⟨hr1, hr2⟩ rfl (Nat.le_of_ble_eq_true rfl) d_law_1351 (fun tv S2 hw => ?_)
  obtain ⟨rfl, rfl⟩ := hw
  rw [hth]
  refine j_iload F 1 d_law_1354 rfl ?_
  refine j_icmp_eq F 1361 hcd hcd d_law_1356 rfl (fun _ => ?_) (fun hh => absurd rfl hh)
  refine j_iload F 1 d_law_1361 rfl ?_
  refine j_if_ne F 1378 hcd d_law_1363 rfl (fun hh => ?_) (fun hh => ?_)
  · skip
    refine j_goto F 1637 d_law_1378 rfl ?_
    refine j_sub [2, 3, 4, 5, 6] rfl ?_
    exact kk _ _ _ _ _ hr1 hr2 hR hT1
  · have hf := hout hh
    refine j_aload_n F 3 d_law_1366 rfl ?_
    refine j_iconst F d_law_1367 ?_
    refine w_lald F K hf d_law_1368 ?_
    refine j_iload F 0 d_law_1369 rfl ?_
    refine j_i2l F hbb d_law_1371 ?_
    refine j_lcmp_eq F 1378 (inR_L hbb) (inR_L hbb) d_law_1372 d_law_1373 rfl (fun _ => ?_) (fun hh2 => absurd rfl hh2)
    refine j_goto F 1637 d_law_1378 rfl ?_
    refine j_sub [2, 3, 4, 5, 6] rfl ?_
    exact kk _ _ _ _ _ hr1 hr2 hR hT1
theorem ty_822 : (Jvm.Cond.codeWith ({ cls := "LandBookLaw", name := "many", desc := "(LLandBook;I[J)I" } : Jvm.MethodName) method_19_code (4 : Nat) (Option.some Jvm.ClassFile.FieldType.int) [((0 : Nat), (9 : Nat), (12 : Nat), (26 : Nat))]) ∈ tw_G := tw_in (List.mem_of_getElem? (i := 972) (by decide +kernel)) rfl
theorem ty_823 : (Jvm.Cond.methodLink "LandBookLaw" (150 : Nat) ({ cls := "LandBookLaw", name := "many", desc := "(LLandBook;I[J)I" } : Jvm.MethodName)) ∈ tw_G := tw_in (List.mem_of_getElem? (i := 970) (by decide +kernel)) rfl
theorem ty_824 : (Jvm.Cond.static ({ cls := "LandBookLaw", name := "many", desc := "(LLandBook;I[J)I" } : Jvm.MethodName)) ∈ tw_G := tw_in (List.mem_of_getElem? (i := 971) (by decide +kernel)) rfl
theorem ty_825 : (Jvm.Cond.methodLink "LandBookLaw" (152 : Nat) ({ cls := "LandBookModel", name := "many", desc := "(I)I" } : Jvm.MethodName)) ∈ tw_G := tw_in (List.mem_of_getElem? (i := 1444) (by decide +kernel)) rfl
theorem ty_826 : (Jvm.Cond.instanceMethod ({ cls := "LandBookModel", name := "many", desc := "(I)I" } : Jvm.MethodName)) ∈ tw_G := tw_in (List.mem_of_getElem? (i := 1445) (by decide +kernel)) rfl
theorem ty_827 : (Jvm.Cond.selects "LandBookModel" ({ cls := "LandBookModel", name := "many", desc := "(I)I" } : Jvm.MethodName) ({ cls := "LandBookModel", name := "many", desc := "(I)I" } : Jvm.MethodName)) ∈ tw_G := tw_in (List.mem_of_getElem? (i := 1446) (by decide +kernel)) rfl
theorem ty_828 : (Jvm.Cond.code ({ cls := "LandBookModel", name := "many", desc := "(I)I" } : Jvm.MethodName) prog_13_method_72_code (2 : Nat) (Option.some Jvm.ClassFile.FieldType.int)) ∈ tw_G := tw_in (List.mem_of_getElem? (i := 1447) (by decide +kernel)) rfl
def st_many (R : Nat → Nat → CS → MS → Prop) (vb : Nat) (f : Nat → Int64) (c n : Nat) (a1 a2 a3 a4 a5 a6 : Int) (T : CS) (S : MS) : Prop := ∃ mc ms : Nat, (c + mc ≤ 601024 ∧ n + ms ≤ 7293034) ∧ hx_many (fun cd f1 T1 => inR cd ∧ wp_Mo_many (fun b S1 => inR b ∧ S1.1 0 = cd ∧ (cd = 0 → f1 0 = lI b) ∧ R (c + mc) (n + ms) T1 S1) a1 S) f mc ms vb a1 T
set_option maxHeartbeats 4000000 in
set_option maxRecDepth 100000 in
theorem lc_many (l : Launch) (hfl : l.flags = pinnedFlags ++ [noTraceFlag]) {D : va_G} {X : jx_C} {k : CK} {kL : ClassId} {kc : Nat → ClassId} {ad : Nat → Nat} {ho hm vb b L : Nat} {xs : Nat → Int32} {f : Nat → Int64} {T : CS} {S : MS} {c n : Nat} {R : Nat → Nat → CS → MS → Prop} {i : Int} (F : jfx X code 7 "LandBookLaw" 13 520 601024 7293034) (K : jkw k D kL kc X) (Z : jsx X b L xs) (hL : L ≤ 3584) (hi : 0 ≤ i ∧ i + 7 ≤ L) (hT : cs_ok k T) (hw : st_many R vb f c n ((xs (i + 1).toNat).toInt) ((xs (i + 2).toNat).toInt) ((xs (i + 3).toNat).toInt) ((xs (i + 4).toNat).toInt) ((xs (i + 5).toNat).toInt) ((xs (i + 6).toNat).toInt) T S)
    (kk : ∀ (c1 n1 : Nat) (T1 : CS) (S1 : MS) (f1 : Nat → Int64), c1 ≤ 601024 → n1 ≤ 7293034 → R c1 n1 T1 S1 → cs_ok k T1 → jat l D X 7 1637 [(4, vi i), (3, .ref ho), (2, .ref hm), (1, .ref vb), (0, .ref b)] [] (lww k T1 ho kL f1 hm ad kc S1) c1 n1) : jat l D X 7 1381 [(4, vi i), (3, .ref ho), (2, .ref hm), (1, .ref vb), (0, .ref b)] [] (lww k T ho kL f hm ad kc S) c n := by
  obtain ⟨mc, ms, ⟨hr1, hr2⟩, hw⟩ := hw
  refine j_aload_n F 3 d_law_1381 rfl ?_
  refine j_aload_n F 4 d_law_1382 rfl ?_
  refine j_iload F 0 d_law_1383 rfl ?_
  refine j_iconst F d_law_1385 ?_
  refine j_iadd F d_law_1386 ?_
  refine w_sld F Z hL ⟨by omega, by omega⟩ d_law_1387 ?_
  refine j_aload_n F 1 d_law_1388 rfl ?_
  refine w_callH F K hT (c_H_many l hfl hw) ty_822 ty_705 ty_823 ty_824 q_H_many rfl ⟨by decide, by decide⟩ ⟨hr1, hr2⟩ rfl (Nat.le_of_ble_eq_true rfl) d_law_1389 (fun cd f1 T1 hw hT1 => ?_)
  obtain ⟨hcd, hw⟩ := hw
  refine j_istore F [(5, vi cd), (4, vi i), (3, .ref ho), (2, .ref hm), (1, .ref vb), (0, .ref b)] d_law_1392 (by decide) rfl ?_
  refine j_aload_n F 3 d_law_1394 rfl ?_
  refine j_aload_n F 5 d_law_1395 rfl ?_
  refine j_iload F 1 d_law_1396 rfl ?_
  refine j_iconst F d_law_1398 ?_
  refine j_iadd F d_law_1399 ?_
  refine w_sld F Z hL ⟨by omega, by omega⟩ d_law_1400 ?_
  refine w_callM F K (c_Mo_many l hw) (tw_gV ty_825 ty_826 ty_827 ty_711 ty_828) q_Mo_many rfl ⟨by decide, by decide⟩ ⟨hr1, hr2⟩ rfl (Nat.le_of_ble_eq_true rfl) d_law_1401 (fun bb S1 hw => ?_)
  obtain ⟨hbb, hth, hout, hR⟩ := hw
  refine j_istore F [(6, vi bb), (5, vi cd), (4, vi i), (3, .ref ho), (2, .ref hm), (1, .ref vb), (0, .ref b)] d_law_1404 (by decide) rfl ?_
  refine j_aload_n F 4 d_law_1406 rfl ?_
  refine w_callM F K (c_Mo_thrown (post := fun v S2 => v = S1.1 0 ∧ S2 = S1) l ⟨rfl, rfl⟩) (tw_gV ty_713 ty_714 ty_715 ty_711 ty_716) q_Mo_thrown rfl ⟨by decide, by decide⟩ ⟨hr1, hr2⟩ rfl (Nat.le_of_ble_eq_true rfl) d_law_1407 (fun tv S2 hw => ?_)
  obtain ⟨rfl, rfl⟩ := hw
  rw [hth]
  refine j_iload F 1 d_law_1410 rfl ?_
  refine j_icmp_eq F 1417 hcd hcd d_law_1412 rfl (fun _ => ?_) (fun hh => absurd rfl hh)
  refine j_iload F 1 d_law_1417 rfl ?_
  refine j_if_ne F 1434 hcd d_law_1419 rfl (fun hh => ?_) (fun hh => ?_)
  · skip
    refine j_goto F 1637 d_law_1434 rfl ?_
    refine j_sub [2, 3, 4, 5, 6] rfl ?_
    exact kk _ _ _ _ _ hr1 hr2 hR hT1
  · have hf := hout hh
    refine j_aload_n F 3 d_law_1422 rfl ?_
    refine j_iconst F d_law_1423 ?_
    refine w_lald F K hf d_law_1424 ?_
    refine j_iload F 0 d_law_1425 rfl ?_
    refine j_i2l F hbb d_law_1427 ?_
    refine j_lcmp_eq F 1434 (inR_L hbb) (inR_L hbb) d_law_1428 d_law_1429 rfl (fun _ => ?_) (fun hh2 => absurd rfl hh2)
    refine j_goto F 1637 d_law_1434 rfl ?_
    refine j_sub [2, 3, 4, 5, 6] rfl ?_
    exact kk _ _ _ _ _ hr1 hr2 hR hT1
theorem ty_829 : (Jvm.Cond.codeWith ({ cls := "LandBookLaw", name := "word", desc := "(LLandBook;I[J)I" } : Jvm.MethodName) method_20_code (4 : Nat) (Option.some Jvm.ClassFile.FieldType.int) [((0 : Nat), (9 : Nat), (12 : Nat), (26 : Nat))]) ∈ tw_G := tw_in (List.mem_of_getElem? (i := 980) (by decide +kernel)) rfl
theorem ty_830 : (Jvm.Cond.methodLink "LandBookLaw" (153 : Nat) ({ cls := "LandBookLaw", name := "word", desc := "(LLandBook;I[J)I" } : Jvm.MethodName)) ∈ tw_G := tw_in (List.mem_of_getElem? (i := 978) (by decide +kernel)) rfl
theorem ty_831 : (Jvm.Cond.static ({ cls := "LandBookLaw", name := "word", desc := "(LLandBook;I[J)I" } : Jvm.MethodName)) ∈ tw_G := tw_in (List.mem_of_getElem? (i := 979) (by decide +kernel)) rfl
theorem ty_832 : (Jvm.Cond.methodLink "LandBookLaw" (155 : Nat) ({ cls := "LandBookModel", name := "word", desc := "(I)I" } : Jvm.MethodName)) ∈ tw_G := tw_in (List.mem_of_getElem? (i := 1448) (by decide +kernel)) rfl
theorem ty_833 : (Jvm.Cond.instanceMethod ({ cls := "LandBookModel", name := "word", desc := "(I)I" } : Jvm.MethodName)) ∈ tw_G := tw_in (List.mem_of_getElem? (i := 1449) (by decide +kernel)) rfl
theorem ty_834 : (Jvm.Cond.selects "LandBookModel" ({ cls := "LandBookModel", name := "word", desc := "(I)I" } : Jvm.MethodName) ({ cls := "LandBookModel", name := "word", desc := "(I)I" } : Jvm.MethodName)) ∈ tw_G := tw_in (List.mem_of_getElem? (i := 1450) (by decide +kernel)) rfl
theorem ty_835 : (Jvm.Cond.code ({ cls := "LandBookModel", name := "word", desc := "(I)I" } : Jvm.MethodName) prog_13_method_73_code (2 : Nat) (Option.some Jvm.ClassFile.FieldType.int)) ∈ tw_G := tw_in (List.mem_of_getElem? (i := 1451) (by decide +kernel)) rfl
def st_word (R : Nat → Nat → CS → MS → Prop) (vb : Nat) (f : Nat → Int64) (c n : Nat) (a1 a2 a3 a4 a5 a6 : Int) (T : CS) (S : MS) : Prop := ∃ mc ms : Nat, (c + mc ≤ 601024 ∧ n + ms ≤ 7293034) ∧ hx_word (fun cd f1 T1 => inR cd ∧ wp_Mo_word (fun b S1 => inR b ∧ S1.1 0 = cd ∧ (cd = 0 → f1 0 = lI b) ∧ R (c + mc) (n + ms) T1 S1) a1 S) f mc ms vb a1 T
set_option maxHeartbeats 4000000 in
set_option maxRecDepth 100000 in
theorem lc_word (l : Launch) (hfl : l.flags = pinnedFlags ++ [noTraceFlag]) {D : va_G} {X : jx_C} {k : CK} {kL : ClassId} {kc : Nat → ClassId} {ad : Nat → Nat} {ho hm vb b L : Nat} {xs : Nat → Int32} {f : Nat → Int64} {T : CS} {S : MS} {c n : Nat} {R : Nat → Nat → CS → MS → Prop} {i : Int} (F : jfx X code 7 "LandBookLaw" 13 520 601024 7293034) (K : jkw k D kL kc X) (Z : jsx X b L xs) (hL : L ≤ 3584) (hi : 0 ≤ i ∧ i + 7 ≤ L) (hT : cs_ok k T) (hw : st_word R vb f c n ((xs (i + 1).toNat).toInt) ((xs (i + 2).toNat).toInt) ((xs (i + 3).toNat).toInt) ((xs (i + 4).toNat).toInt) ((xs (i + 5).toNat).toInt) ((xs (i + 6).toNat).toInt) T S)
    (kk : ∀ (c1 n1 : Nat) (T1 : CS) (S1 : MS) (f1 : Nat → Int64), c1 ≤ 601024 → n1 ≤ 7293034 → R c1 n1 T1 S1 → cs_ok k T1 → jat l D X 7 1637 [(4, vi i), (3, .ref ho), (2, .ref hm), (1, .ref vb), (0, .ref b)] [] (lww k T1 ho kL f1 hm ad kc S1) c1 n1) : jat l D X 7 1437 [(4, vi i), (3, .ref ho), (2, .ref hm), (1, .ref vb), (0, .ref b)] [] (lww k T ho kL f hm ad kc S) c n := by
  obtain ⟨mc, ms, ⟨hr1, hr2⟩, hw⟩ := hw
  refine j_aload_n F 3 d_law_1437 rfl ?_
  refine j_aload_n F 4 d_law_1438 rfl ?_
  refine j_iload F 0 d_law_1439 rfl ?_
  refine j_iconst F d_law_1441 ?_
  refine j_iadd F d_law_1442 ?_
  refine w_sld F Z hL ⟨by omega, by omega⟩ d_law_1443 ?_
  refine j_aload_n F 1 d_law_1444 rfl ?_
  refine w_callH F K hT (c_H_word l hfl hw) ty_829 ty_705 ty_830 ty_831 q_H_word rfl ⟨by decide, by decide⟩ ⟨hr1, hr2⟩ rfl (Nat.le_of_ble_eq_true rfl) d_law_1445 (fun cd f1 T1 hw hT1 => ?_)
  obtain ⟨hcd, hw⟩ := hw
  refine j_istore F [(5, vi cd), (4, vi i), (3, .ref ho), (2, .ref hm), (1, .ref vb), (0, .ref b)] d_law_1448 (by decide) rfl ?_
  refine j_aload_n F 3 d_law_1450 rfl ?_
  refine j_aload_n F 5 d_law_1451 rfl ?_
  refine j_iload F 1 d_law_1452 rfl ?_
  refine j_iconst F d_law_1454 ?_
  refine j_iadd F d_law_1455 ?_
  refine w_sld F Z hL ⟨by omega, by omega⟩ d_law_1456 ?_
  refine w_callM F K (c_Mo_word l hw) (tw_gV ty_832 ty_833 ty_834 ty_711 ty_835) q_Mo_word rfl ⟨by decide, by decide⟩ ⟨hr1, hr2⟩ rfl (Nat.le_of_ble_eq_true rfl) d_law_1457 (fun bb S1 hw => ?_)
  obtain ⟨hbb, hth, hout, hR⟩ := hw
  refine j_istore F [(6, vi bb), (5, vi cd), (4, vi i), (3, .ref ho), (2, .ref hm), (1, .ref vb), (0, .ref b)] d_law_1460 (by decide) rfl ?_
  refine j_aload_n F 4 d_law_1462 rfl ?_
  refine w_callM F K (c_Mo_thrown (post := fun v S2 => v = S1.1 0 ∧ S2 = S1) l ⟨rfl, rfl⟩) (tw_gV ty_713 ty_714 ty_715 ty_711 ty_716) q_Mo_thrown rfl ⟨by decide, by decide⟩ ⟨hr1, hr2⟩ rfl (Nat.le_of_ble_eq_true rfl) d_law_1463 (fun tv S2 hw => ?_)
  obtain ⟨rfl, rfl⟩ := hw
  rw [hth]
  refine j_iload F 1 d_law_1466 rfl ?_
  refine j_icmp_eq F 1473 hcd hcd d_law_1468 rfl (fun _ => ?_) (fun hh => absurd rfl hh)
  refine j_iload F 1 d_law_1473 rfl ?_
  refine j_if_ne F 1490 hcd d_law_1475 rfl (fun hh => ?_) (fun hh => ?_)
  · skip
    refine j_goto F 1637 d_law_1490 rfl ?_
    refine j_sub [2, 3, 4, 5, 6] rfl ?_
    exact kk _ _ _ _ _ hr1 hr2 hR hT1
  · have hf := hout hh
    refine j_aload_n F 3 d_law_1478 rfl ?_
    refine j_iconst F d_law_1479 ?_
    refine w_lald F K hf d_law_1480 ?_
    refine j_iload F 0 d_law_1481 rfl ?_
    refine j_i2l F hbb d_law_1483 ?_
    refine j_lcmp_eq F 1490 (inR_L hbb) (inR_L hbb) d_law_1484 d_law_1485 rfl (fun _ => ?_) (fun hh2 => absurd rfl hh2)
    refine j_goto F 1637 d_law_1490 rfl ?_
    refine j_sub [2, 3, 4, 5, 6] rfl ?_
    exact kk _ _ _ _ _ hr1 hr2 hR hT1
