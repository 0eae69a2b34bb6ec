theorem ty_836 : (Jvm.Cond.codeWith ({ cls := "LandBookLaw", name := "sync", desc := "(LLandBook;[J)I" } : Jvm.MethodName) method_21_code (3 : Nat) (Option.some Jvm.ClassFile.FieldType.int) [((0 : Nat), (8 : Nat), (11 : Nat), (21 : Nat))]) ∈ tw_G := tw_in (List.mem_of_getElem? (i := 992) (by decide +kernel)) rfl
theorem ty_837 : (Jvm.Cond.methodLink "LandBookLaw" (156 : Nat) ({ cls := "LandBookLaw", name := "sync", desc := "(LLandBook;[J)I" } : Jvm.MethodName)) ∈ tw_G := tw_in (List.mem_of_getElem? (i := 990) (by decide +kernel)) rfl
theorem ty_838 : (Jvm.Cond.static ({ cls := "LandBookLaw", name := "sync", desc := "(LLandBook;[J)I" } : Jvm.MethodName)) ∈ tw_G := tw_in (List.mem_of_getElem? (i := 991) (by decide +kernel)) rfl
theorem ty_839 : (Jvm.Cond.methodLink "LandBookLaw" (158 : Nat) ({ cls := "LandBookModel", name := "sync", desc := "()I" } : Jvm.MethodName)) ∈ tw_G := tw_in (List.mem_of_getElem? (i := 1452) (by decide +kernel)) rfl
theorem ty_840 : (Jvm.Cond.instanceMethod ({ cls := "LandBookModel", name := "sync", desc := "()I" } : Jvm.MethodName)) ∈ tw_G := tw_in (List.mem_of_getElem? (i := 1453) (by decide +kernel)) rfl
theorem ty_841 : (Jvm.Cond.selects "LandBookModel" ({ cls := "LandBookModel", name := "sync", desc := "()I" } : Jvm.MethodName) ({ cls := "LandBookModel", name := "sync", desc := "()I" } : Jvm.MethodName)) ∈ tw_G := tw_in (List.mem_of_getElem? (i := 1454) (by decide +kernel)) rfl
theorem ty_842 : (Jvm.Cond.code ({ cls := "LandBookModel", name := "sync", desc := "()I" } : Jvm.MethodName) prog_13_method_74_code (2 : Nat) (Option.some Jvm.ClassFile.FieldType.int)) ∈ tw_G := tw_in (List.mem_of_getElem? (i := 1455) (by decide +kernel)) rfl
def st_sync (R : Nat → Nat → CS → MS → Prop) (vb : Nat) (f : Nat → Int64) (c n : Nat) (a1 a2 a3 a4 a5 a6 : Int) (T : CS) (S : MS) : Prop := ∃ mc ms : Nat, (c + mc ≤ 601024 ∧ n + ms ≤ 7293034) ∧ hx_sync (fun cd f1 T1 => inR cd ∧ wp_Mo_sync (fun b S1 => inR b ∧ S1.1 0 = cd ∧ (cd = 0 → f1 0 = lI b) ∧ R (c + mc) (n + ms) T1 S1)  S) f mc ms vb  T
set_option maxHeartbeats 4000000 in
set_option maxRecDepth 100000 in
theorem lc_sync (l : Launch) (hfl : l.flags = pinnedFlags ++ [noTraceFlag]) {D : va_G} {X : jx_C} {k : CK} {kL : ClassId} {kc : Nat → ClassId} {ad : Nat → Nat} {ho hm vb b L : Nat} {xs : Nat → Int32} {f : Nat → Int64} {T : CS} {S : MS} {c n : Nat} {R : Nat → Nat → CS → MS → Prop} {i : Int} (F : jfx X code 7 "LandBookLaw" 13 520 601024 7293034) (K : jkw k D kL kc X) (Z : jsx X b L xs) (hL : L ≤ 3584) (hi : 0 ≤ i ∧ i + 7 ≤ L) (hT : cs_ok k T) (hw : st_sync R vb f c n ((xs (i + 1).toNat).toInt) ((xs (i + 2).toNat).toInt) ((xs (i + 3).toNat).toInt) ((xs (i + 4).toNat).toInt) ((xs (i + 5).toNat).toInt) ((xs (i + 6).toNat).toInt) T S)
    (kk : ∀ (c1 n1 : Nat) (T1 : CS) (S1 : MS) (f1 : Nat → Int64), c1 ≤ 601024 → n1 ≤ 7293034 → R c1 n1 T1 S1 → cs_ok k T1 → jat l D X 7 1637 [(4, vi i), (3, .ref ho), (2, .ref hm), (1, .ref vb), (0, .ref b)] [] (lww k T1 ho kL f1 hm ad kc S1) c1 n1) : jat l D X 7 1493 [(4, vi i), (3, .ref ho), (2, .ref hm), (1, .ref vb), (0, .ref b)] [] (lww k T ho kL f hm ad kc S) c n := by
  obtain ⟨mc, ms, ⟨hr1, hr2⟩, hw⟩ := hw
  refine j_aload_n F 3 d_law_1493 rfl ?_
  refine j_aload_n F 1 d_law_1494 rfl ?_
  refine w_callH F K hT (c_H_sync l hfl hw) ty_836 ty_705 ty_837 ty_838 q_H_sync rfl ⟨by decide, by decide⟩ ⟨hr1, hr2⟩ rfl (Nat.le_of_ble_eq_true rfl) d_law_1495 (fun cd f1 T1 hw hT1 => ?_)
  obtain ⟨hcd, hw⟩ := hw
  refine j_istore F [(5, vi cd), (4, vi i), (3, .ref ho), (2, .ref hm), (1, .ref vb), (0, .ref b)] d_law_1498 (by decide) rfl ?_
  refine j_aload_n F 3 d_law_1500 rfl ?_
  refine w_callM F K (c_Mo_sync l hw) (tw_gV ty_839 ty_840 ty_841 ty_711 ty_842) q_Mo_sync rfl ⟨by decide, by decide⟩ ⟨hr1, hr2⟩ rfl (Nat.le_of_ble_eq_true rfl) d_law_1501 (fun bb S1 hw => ?_)
  obtain ⟨hbb, hth, hout, hR⟩ := hw
  refine j_istore F [(6, vi bb), (5, vi cd), (4, vi i), (3, .ref ho), (2, .ref hm), (1, .ref vb), (0, .ref b)] d_law_1504 (by decide) rfl ?_
  refine j_aload_n F 4 d_law_1506 rfl ?_
  refine w_callM F K (c_Mo_thrown (post := fun v S2 => v = S1.1 0 ∧ S2 = S1) l ⟨rfl, rfl⟩) (tw_gV ty_713 ty_714 ty_715 ty_711 ty_716) q_Mo_thrown rfl ⟨by decide, by decide⟩ ⟨hr1, hr2⟩ rfl (Nat.le_of_ble_eq_true rfl) d_law_1507 (fun tv S2 hw => ?_)
  obtain ⟨rfl, rfl⟩ := hw
  rw [hth]
  refine j_iload F 1 d_law_1510 rfl ?_
  refine j_icmp_eq F 1517 hcd hcd d_law_1512 rfl (fun _ => ?_) (fun hh => absurd rfl hh)
  refine j_iload F 1 d_law_1517 rfl ?_
  refine j_if_ne F 1534 hcd d_law_1519 rfl (fun hh => ?_) (fun hh => ?_)
  · skip
    refine j_goto F 1637 d_law_1534 rfl ?_
    refine j_sub [2, 3, 4, 5, 6] rfl ?_
    exact kk _ _ _ _ _ hr1 hr2 hR hT1
  · have hf := hout hh
    refine j_aload_n F 3 d_law_1522 rfl ?_
    refine j_iconst F d_law_1523 ?_
    refine w_lald F K hf d_law_1524 ?_
    refine j_iload F 0 d_law_1525 rfl ?_
    refine j_i2l F hbb d_law_1527 ?_
    refine j_lcmp_eq F 1534 (inR_L hbb) (inR_L hbb) d_law_1528 d_law_1529 rfl (fun _ => ?_) (fun hh2 => absurd rfl hh2)
    refine j_goto F 1637 d_law_1534 rfl ?_
    refine j_sub [2, 3, 4, 5, 6] rfl ?_
    exact kk _ _ _ _ _ hr1 hr2 hR hT1
theorem ty_843 : (Jvm.Cond.codeWith ({ cls := "LandBookLaw", name := "crash", desc := "(LLandBook;I[J)I" } : Jvm.MethodName) method_22_code (4 : Nat) (Option.some Jvm.ClassFile.FieldType.int) [((0 : Nat), (9 : Nat), (12 : Nat), (21 : Nat)), ((0 : Nat), (9 : Nat), (15 : Nat), (13 : Nat))]) ∈ tw_G := tw_in (List.mem_of_getElem? (i := 1003) (by decide +kernel)) rfl
theorem ty_844 : (Jvm.Cond.methodLink "LandBookLaw" (159 : Nat) ({ cls := "LandBookLaw", name := "crash", desc := "(LLandBook;I[J)I" } : Jvm.MethodName)) ∈ tw_G := tw_in (List.mem_of_getElem? (i := 1001) (by decide +kernel)) rfl
theorem ty_845 : (Jvm.Cond.static ({ cls := "LandBookLaw", name := "crash", desc := "(LLandBook;I[J)I" } : Jvm.MethodName)) ∈ tw_G := tw_in (List.mem_of_getElem? (i := 1002) (by decide +kernel)) rfl
theorem ty_846 : (Jvm.Cond.methodLink "LandBookLaw" (161 : Nat) ({ cls := "LandBookModel", name := "crash", desc := "(I)I" } : Jvm.MethodName)) ∈ tw_G := tw_in (List.mem_of_getElem? (i := 1456) (by decide +kernel)) rfl
theorem ty_847 : (Jvm.Cond.instanceMethod ({ cls := "LandBookModel", name := "crash", desc := "(I)I" } : Jvm.MethodName)) ∈ tw_G := tw_in (List.mem_of_getElem? (i := 1457) (by decide +kernel)) rfl
theorem ty_848 : (Jvm.Cond.selects "LandBookModel" ({ cls := "LandBookModel", name := "crash", desc := "(I)I" } : Jvm.MethodName) ({ cls := "LandBookModel", name := "crash", desc := "(I)I" } : Jvm.MethodName)) ∈ tw_G := tw_in (List.mem_of_getElem? (i := 1458) (by decide +kernel)) rfl
theorem ty_849 : (Jvm.Cond.code ({ cls := "LandBookModel", name := "crash", desc := "(I)I" } : Jvm.MethodName) prog_13_method_75_code (3 : Nat) (Option.some Jvm.ClassFile.FieldType.int)) ∈ tw_G := tw_in (List.mem_of_getElem? (i := 1459) (by decide +kernel)) rfl
def st_crash (R : Nat → Nat → CS → MS → Prop) (vb : Nat) (f : Nat → Int64) (c n : Nat) (a1 a2 a3 a4 a5 a6 : Int) (T : CS) (S : MS) : Prop := ∃ mc ms : Nat, (c + mc ≤ 601024 ∧ n + ms ≤ 7293034) ∧ hx_crash (fun cd f1 T1 => inR cd ∧ wp_Mo_crash (fun b S1 => inR b ∧ S1.1 0 = cd ∧ (cd = 0 → f1 0 = lI b) ∧ R (c + mc) (n + ms) T1 S1) a1 S) f mc ms vb a1 T
set_option maxHeartbeats 4000000 in
set_option maxRecDepth 100000 in
theorem lc_crash (l : Launch) (hfl : l.flags = pinnedFlags ++ [noTraceFlag]) {D : va_G} {X : jx_C} {k : CK} {kL : ClassId} {kc : Nat → ClassId} {ad : Nat → Nat} {ho hm vb b L : Nat} {xs : Nat → Int32} {f : Nat → Int64} {T : CS} {S : MS} {c n : Nat} {R : Nat → Nat → CS → MS → Prop} {i : Int} (F : jfx X code 7 "LandBookLaw" 13 520 601024 7293034) (K : jkw k D kL kc X) (Z : jsx X b L xs) (hL : L ≤ 3584) (hi : 0 ≤ i ∧ i + 7 ≤ L) (hT : cs_ok k T) (hw : st_crash R vb f c n ((xs (i + 1).toNat).toInt) ((xs (i + 2).toNat).toInt) ((xs (i + 3).toNat).toInt) ((xs (i + 4).toNat).toInt) ((xs (i + 5).toNat).toInt) ((xs (i + 6).toNat).toInt) T S)
    (kk : ∀ (c1 n1 : Nat) (T1 : CS) (S1 : MS) (f1 : Nat → Int64), c1 ≤ 601024 → n1 ≤ 7293034 → R c1 n1 T1 S1 → cs_ok k T1 → jat l D X 7 1637 [(4, vi i), (3, .ref ho), (2, .ref hm), (1, .ref vb), (0, .ref b)] [] (lww k T1 ho kL f1 hm ad kc S1) c1 n1) : jat l D X 7 1537 [(4, vi i), (3, .ref ho), (2, .ref hm), (1, .ref vb), (0, .ref b)] [] (lww k T ho kL f hm ad kc S) c n := by
  obtain ⟨mc, ms, ⟨hr1, hr2⟩, hw⟩ := hw
  refine j_aload_n F 3 d_law_1537 rfl ?_
  refine j_aload_n F 4 d_law_1538 rfl ?_
  refine j_iload F 0 d_law_1539 rfl ?_
  refine j_iconst F d_law_1541 ?_
  refine j_iadd F d_law_1542 ?_
  refine w_sld F Z hL ⟨by omega, by omega⟩ d_law_1543 ?_
  refine j_aload_n F 1 d_law_1544 rfl ?_
  refine w_callH F K hT (c_H_crash l hfl hw) ty_843 ty_705 ty_844 ty_845 q_H_crash rfl ⟨by decide, by decide⟩ ⟨hr1, hr2⟩ rfl (Nat.le_of_ble_eq_true rfl) d_law_1545 (fun cd f1 T1 hw hT1 => ?_)
  obtain ⟨hcd, hw⟩ := hw
  refine j_istore F [(5, vi cd), (4, vi i), (3, .ref ho), (2, .ref hm), (1, .ref vb), (0, .ref b)] d_law_1548 (by decide) rfl ?_
  refine j_aload_n F 3 d_law_1550 rfl ?_
  refine j_aload_n F 5 d_law_1551 rfl ?_
  refine j_iload F 1 d_law_1552 rfl ?_
  refine j_iconst F d_law_1554 ?_
  refine j_iadd F d_law_1555 ?_
  refine w_sld F Z hL ⟨by omega, by omega⟩ d_law_1556 ?_
  refine w_callM F K (c_Mo_crash l hw) (tw_gV ty_846 ty_847 ty_848 ty_711 ty_849) q_Mo_crash rfl ⟨by decide, by decide⟩ ⟨hr1, hr2⟩ rfl (Nat.le_of_ble_eq_true rfl) d_law_1557 (fun bb S1 hw => ?_)
  obtain ⟨hbb, hth, hout, hR⟩ := hw
  refine j_istore F [(6, vi bb), (5, vi cd), (4, vi i), (3, .ref ho), (2, .ref hm), (1, .ref vb), (0, .ref b)] d_law_1560 (by decide) rfl ?_
  refine j_aload_n F 4 d_law_1562 rfl ?_
  refine w_callM F K (c_Mo_thrown (post := fun v S2 => v = S1.1 0 ∧ S2 = S1) l ⟨rfl, rfl⟩) (tw_gV ty_713 ty_714 ty_715 ty_711 ty_716) q_Mo_thrown rfl ⟨by decide, by decide⟩ ⟨hr1, hr2⟩ rfl (Nat.le_of_ble_eq_true rfl) d_law_1563 (fun tv S2 hw => ?_)
  obtain ⟨rfl, rfl⟩ := hw
  rw [hth]
  refine j_iload F 1 d_law_1566 rfl ?_
  refine j_icmp_eq F 1573 hcd hcd d_law_1568 rfl (fun _ => ?_) (fun hh => absurd rfl hh)
  refine j_iload F 1 d_law_1573 rfl ?_
  refine j_if_ne F 1590 hcd d_law_1575 rfl (fun hh => ?_) (fun hh => ?_)
  · skip
    refine j_goto F 1637 d_law_1590 rfl ?_
    refine j_sub [2, 3, 4, 5, 6] rfl ?_
    exact kk _ _ _ _ _ hr1 hr2 hR hT1
  · have hf := hout hh
    refine j_aload_n F 3 d_law_1578 rfl ?_
    refine j_iconst F d_law_1579 ?_
    refine w_lald F K hf d_law_1580 ?_
    refine j_iload F 0 d_law_1581 rfl ?_
    refine j_i2l F hbb d_law_1583 ?_
    refine j_lcmp_eq F 1590 (inR_L hbb) (inR_L hbb) d_law_1584 d_law_1585 rfl (fun _ => ?_) (fun hh2 => absurd rfl hh2)
    refine j_goto F 1637 d_law_1590 rfl ?_
    refine j_sub [2, 3, 4, 5, 6] rfl ?_
    exact kk _ _ _ _ _ hr1 hr2 hR hT1
theorem ty_850 : (Jvm.Cond.codeWith ({ cls := "LandBookLaw", name := "mount", desc := "(LLandBook;[J)I" } : Jvm.MethodName) method_23_code (3 : Nat) (Option.some Jvm.ClassFile.FieldType.int) [((0 : Nat), (8 : Nat), (11 : Nat), (21 : Nat)), ((0 : Nat), (8 : Nat), (14 : Nat), (15 : Nat))]) ∈ tw_G := tw_in (List.mem_of_getElem? (i := 1016) (by decide +kernel)) rfl
theorem ty_851 : (Jvm.Cond.methodLink "LandBookLaw" (162 : Nat) ({ cls := "LandBookLaw", name := "mount", desc := "(LLandBook;[J)I" } : Jvm.MethodName)) ∈ tw_G := tw_in (List.mem_of_getElem? (i := 1014) (by decide +kernel)) rfl
theorem ty_852 : (Jvm.Cond.static ({ cls := "LandBookLaw", name := "mount", desc := "(LLandBook;[J)I" } : Jvm.MethodName)) ∈ tw_G := tw_in (List.mem_of_getElem? (i := 1015) (by decide +kernel)) rfl
theorem ty_853 : (Jvm.Cond.methodLink "LandBookLaw" (164 : Nat) ({ cls := "LandBookModel", name := "mount", desc := "()I" } : Jvm.MethodName)) ∈ tw_G := tw_in (List.mem_of_getElem? (i := 1460) (by decide +kernel)) rfl
theorem ty_854 : (Jvm.Cond.instanceMethod ({ cls := "LandBookModel", name := "mount", desc := "()I" } : Jvm.MethodName)) ∈ tw_G := tw_in (List.mem_of_getElem? (i := 1461) (by decide +kernel)) rfl
theorem ty_855 : (Jvm.Cond.selects "LandBookModel" ({ cls := "LandBookModel", name := "mount", desc := "()I" } : Jvm.MethodName) ({ cls := "LandBookModel", name := "mount", desc := "()I" } : Jvm.MethodName)) ∈ tw_G := tw_in (List.mem_of_getElem? (i := 1462) (by decide +kernel)) rfl
theorem ty_856 : (Jvm.Cond.code ({ cls := "LandBookModel", name := "mount", desc := "()I" } : Jvm.MethodName) prog_13_method_76_code (3 : Nat) (Option.some Jvm.ClassFile.FieldType.int)) ∈ tw_G := tw_in (List.mem_of_getElem? (i := 1463) (by decide +kernel)) rfl
def st_mount (R : Nat → Nat → CS → MS → Prop) (vb : Nat) (f : Nat → Int64) (c n : Nat) (a1 a2 a3 a4 a5 a6 : Int) (T : CS) (S : MS) : Prop := ∃ mc ms : Nat, (c + mc ≤ 601024 ∧ n + ms ≤ 7293034) ∧ hx_mount (fun cd f1 T1 => inR cd ∧ wp_Mo_mount (fun b S1 => inR b ∧ S1.1 0 = cd ∧ (cd = 0 → f1 0 = lI b) ∧ R (c + mc) (n + ms) T1 S1)  S) f mc ms vb  T
set_option maxHeartbeats 4000000 in
set_option maxRecDepth 100000 in
theorem lc_mount (l : Launch) (hfl : l.flags = pinnedFlags ++ [noTraceFlag]) {D : va_G} {X : jx_C} {k : CK} {kL : ClassId} {kc : Nat → ClassId} {ad : Nat → Nat} {ho hm vb b L : Nat} {xs : Nat → Int32} {f : Nat → Int64} {T : CS} {S : MS} {c n : Nat} {R : Nat → Nat → CS → MS → Prop} {i : Int} (F : jfx X code 7 "LandBookLaw" 13 520 601024 7293034) (K : jkw k D kL kc X) (Z : jsx X b L xs) (hL : L ≤ 3584) (hi : 0 ≤ i ∧ i + 7 ≤ L) (hT : cs_ok k T) (hw : st_mount R vb f c n ((xs (i + 1).toNat).toInt) ((xs (i + 2).toNat).toInt) ((xs (i + 3).toNat).toInt) ((xs (i + 4).toNat).toInt) ((xs (i + 5).toNat).toInt) ((xs (i + 6).toNat).toInt) T S)
    (kk : ∀ (c1 n1 : Nat) (T1 : CS) (S1 : MS) (f1 : Nat → Int64), c1 ≤ 601024 → n1 ≤ 7293034 → R c1 n1 T1 S1 → cs_ok k T1 → jat l D X 7 1637 [(4, vi i), (3, .ref ho), (2, .ref hm), (1, .ref vb), (0, .ref b)] [] (lww k T1 ho kL f1 hm ad kc S1) c1 n1) : jat l D X 7 1593 [(4, vi i), (3, .ref ho), (2, .ref hm), (1, .ref vb), (0, .ref b)] [] (lww k T ho kL f hm ad kc S) c n := by
  obtain ⟨mc, ms, ⟨hr1, hr2⟩, hw⟩ := hw
  refine j_aload_n F 3 d_law_1593 rfl ?_
  refine j_aload_n F 1 d_law_1594 rfl ?_
  refine w_callH F K hT (c_H_mount l hfl hw) ty_850 ty_705 ty_851 ty_852 q_H_mount rfl ⟨by decide, by decide⟩ ⟨hr1, hr2⟩ rfl (Nat.le_of_ble_eq_true rfl) d_law_1595 (fun cd f1 T1 hw hT1 => ?_)
  obtain ⟨hcd, hw⟩ := hw
  refine j_istore F [(5, vi cd), (4, vi i), (3, .ref ho), (2, .ref hm), (1, .ref vb), (0, .ref b)] d_law_1598 (by decide) rfl ?_
  refine j_aload_n F 3 d_law_1600 rfl ?_
  refine w_callM F K (c_Mo_mount l hw) (tw_gV ty_853 ty_854 ty_855 ty_711 ty_856) q_Mo_mount rfl ⟨by decide, by decide⟩ ⟨hr1, hr2⟩ rfl (Nat.le_of_ble_eq_true rfl) d_law_1601 (fun bb S1 hw => ?_)
  obtain ⟨hbb, hth, hout, hR⟩ := hw
  refine j_istore F [(6, vi bb), (5, vi cd), (4, vi i), (3, .ref ho), (2, .ref hm), (1, .ref vb), (0, .ref b)] d_law_1604 (by decide) rfl ?_
  refine j_aload_n F 4 d_law_1606 rfl ?_
  refine w_callM F K (c_Mo_thrown (post := fun v S2 => v = S1.1 0 ∧ S2 = S1) l ⟨rfl, rfl⟩) (tw_gV ty_713 ty_714 ty_715 ty_711 ty_716) q_Mo_thrown rfl ⟨by decide, by decide⟩ ⟨hr1, hr2⟩ rfl (Nat.le_of_ble_eq_true rfl) d_law_1607 (fun tv S2 hw => ?_)
  obtain ⟨rfl, rfl⟩ := hw
  rw [hth]
  refine j_iload F 1 d_law_1610 rfl ?_
  refine j_icmp_eq F 1617 hcd hcd d_law_1612 rfl (fun _ => ?_) (fun hh => absurd rfl hh)
  refine j_iload F 1 d_law_1617 rfl ?_
  refine j_if_ne F 1634 hcd d_law_1619 rfl (fun hh => ?_) (fun hh => ?_)
  · skip
    refine j_goto F 1637 d_law_1634 rfl ?_
    refine j_sub [2, 3, 4, 5, 6] rfl ?_
    exact kk _ _ _ _ _ hr1 hr2 hR hT1
  · have hf := hout hh
    refine j_aload_n F 3 d_law_1622 rfl ?_
    refine j_iconst F d_law_1623 ?_
    refine w_lald F K hf d_law_1624 ?_
    refine j_iload F 0 d_law_1625 rfl ?_
    refine j_i2l F hbb d_law_1627 ?_
    refine j_lcmp_eq F 1634 (inR_L hbb) (inR_L hbb) d_law_1628 d_law_1629 rfl (fun _ => ?_) (fun hh2 => absurd rfl hh2)
    refine j_goto F 1637 d_law_1634 rfl ?_
    refine j_sub [2, 3, 4, 5, 6] rfl ?_
    exact kk _ _ _ _ _ hr1 hr2 hR hT1
