theorem ty_752 : (Jvm.Cond.codeWith ({ cls := "LandBookLaw", name := "release", desc := "(LLandBook;II[J)I" } : Jvm.MethodName) method_9_code (5 : Nat) (Option.some Jvm.ClassFile.FieldType.int) [((0 : Nat), (10 : Nat), (13 : Nat), (21 : Nat)), ((0 : Nat), (10 : Nat), (17 : Nat), (26 : Nat)), ((0 : Nat), (10 : Nat), (21 : Nat), (13 : Nat))]) ∈ tw_G := tw_in (List.mem_of_getElem? (i := 866) (by decide +kernel)) rfl
theorem ty_753 : (Jvm.Cond.methodLink "LandBookLaw" (118 : Nat) ({ cls := "LandBookLaw", name := "release", desc := "(LLandBook;II[J)I" } : Jvm.MethodName)) ∈ tw_G := tw_in (List.mem_of_getElem? (i := 864) (by decide +kernel)) rfl
theorem ty_754 : (Jvm.Cond.static ({ cls := "LandBookLaw", name := "release", desc := "(LLandBook;II[J)I" } : Jvm.MethodName)) ∈ tw_G := tw_in (List.mem_of_getElem? (i := 865) (by decide +kernel)) rfl
theorem ty_755 : (Jvm.Cond.methodLink "LandBookLaw" (120 : Nat) ({ cls := "LandBookModel", name := "release", desc := "(II)I" } : Jvm.MethodName)) ∈ tw_G := tw_in (List.mem_of_getElem? (i := 1393) (by decide +kernel)) rfl
theorem ty_756 : (Jvm.Cond.instanceMethod ({ cls := "LandBookModel", name := "release", desc := "(II)I" } : Jvm.MethodName)) ∈ tw_G := tw_in (List.mem_of_getElem? (i := 1394) (by decide +kernel)) rfl
theorem ty_757 : (Jvm.Cond.selects "LandBookModel" ({ cls := "LandBookModel", name := "release", desc := "(II)I" } : Jvm.MethodName) ({ cls := "LandBookModel", name := "release", desc := "(II)I" } : Jvm.MethodName)) ∈ tw_G := tw_in (List.mem_of_getElem? (i := 1395) (by decide +kernel)) rfl
theorem ty_758 : (Jvm.Cond.code ({ cls := "LandBookModel", name := "release", desc := "(II)I" } : Jvm.MethodName) prog_13_method_59_code (5 : Nat) (Option.some Jvm.ClassFile.FieldType.int)) ∈ tw_G := tw_in (List.mem_of_getElem? (i := 1396) (by decide +kernel)) rfl
def st_release (R : Nat → Nat → CS → MS → Prop) (vb : Nat) (f : Nat → Int64) (c n : Nat) (a1 a2 a3 a4 a5 a6 : Int) (T : CS) (S : MS) : Prop := ∃ mc ms : Nat, (c + mc ≤ 601024 ∧ n + ms ≤ 7293034) ∧ hx_release (fun cd f1 T1 => inR cd ∧ wp_Mo_release (fun b S1 => inR b ∧ S1.1 0 = cd ∧ (cd = 0 → f1 0 = lI b) ∧ R (c + mc) (n + ms) T1 S1) a1 a2 S) f mc ms vb a1 a2 T
set_option maxHeartbeats 4000000 in
set_option maxRecDepth 100000 in
theorem lc_release (l : Launch) (hfl : l.flags = pinnedFlags ++ [noTraceFlag]) {D : va_G} {X : jx_C} {k : CK} {kL : ClassId} {kc : Nat → ClassId} {ad : Nat → Nat} {ho hm vb b L : Nat} {xs : Nat → Int32} {f : Nat → Int64} {T : CS} {S : MS} {c n : Nat} {R : Nat → Nat → CS → MS → Prop} {i : Int} (F : jfx X code 7 "LandBookLaw" 13 520 601024 7293034) (K : jkw k D kL kc X) (Z : jsx X b L xs) (hL : L ≤ 3584) (hi : 0 ≤ i ∧ i + 7 ≤ L) (hT : cs_ok k T) (hw : st_release R vb f c n ((xs (i + 1).toNat).toInt) ((xs (i + 2).toNat).toInt) ((xs (i + 3).toNat).toInt) ((xs (i + 4).toNat).toInt) ((xs (i + 5).toNat).toInt) ((xs (i + 6).toNat).toInt) T S)
    (kk : ∀ (c1 n1 : Nat) (T1 : CS) (S1 : MS) (f1 : Nat → Int64), c1 ≤ 601024 → n1 ≤ 7293034 → R c1 n1 T1 S1 → cs_ok k T1 → jat l D X 7 1637 [(4, vi i), (3, .ref ho), (2, .ref hm), (1, .ref vb), (0, .ref b)] [] (lww k T1 ho kL f1 hm ad kc S1) c1 n1) : jat l D X 7 605 [(4, vi i), (3, .ref ho), (2, .ref hm), (1, .ref vb), (0, .ref b)] [] (lww k T ho kL f hm ad kc S) c n := by
  obtain ⟨mc, ms, ⟨hr1, hr2⟩, hw⟩ := hw
  refine j_aload_n F 3 d_law_605 rfl ?_
  refine j_aload_n F 4 d_law_606 rfl ?_
  refine j_iload F 0 d_law_607 rfl ?_
  refine j_iconst F d_law_609 ?_
  refine j_iadd F d_law_610 ?_
  refine w_sld F Z hL ⟨by omega, by omega⟩ d_law_611 ?_
  refine j_aload_n F 4 d_law_612 rfl ?_
  refine j_iload F 0 d_law_613 rfl ?_
  refine j_iconst F d_law_615 ?_
  refine j_iadd F d_law_616 ?_
  refine w_sld F Z hL ⟨by omega, by omega⟩ d_law_617 ?_
  refine j_aload_n F 1 d_law_618 rfl ?_
  refine w_callH F K hT (c_H_release l hfl hw) ty_752 ty_705 ty_753 ty_754 q_H_release rfl ⟨by decide, by decide⟩ ⟨hr1, hr2⟩ rfl (Nat.le_of_ble_eq_true rfl) d_law_619 (fun cd f1 T1 hw hT1 => ?_)
  obtain ⟨hcd, hw⟩ := hw
  refine j_istore F [(5, vi cd), (4, vi i), (3, .ref ho), (2, .ref hm), (1, .ref vb), (0, .ref b)] d_law_622 (by decide) rfl ?_
  refine j_aload_n F 3 d_law_624 rfl ?_
  refine j_aload_n F 5 d_law_625 rfl ?_
  refine j_iload F 1 d_law_626 rfl ?_
  refine j_iconst F d_law_628 ?_
  refine j_iadd F d_law_629 ?_
  refine w_sld F Z hL ⟨by omega, by omega⟩ d_law_630 ?_
  refine j_aload_n F 5 d_law_631 rfl ?_
  refine j_iload F 1 d_law_632 rfl ?_
  refine j_iconst F d_law_634 ?_
  refine j_iadd F d_law_635 ?_
  refine w_sld F Z hL ⟨by omega, by omega⟩ d_law_636 ?_
  refine w_callM F K (c_Mo_release l hw) (tw_gV ty_755 ty_756 ty_757 ty_711 ty_758) q_Mo_release rfl ⟨by decide, by decide⟩ ⟨hr1, hr2⟩ rfl (Nat.le_of_ble_eq_true rfl) d_law_637 (fun bb S1 hw => ?_)
  obtain ⟨hbb, hth, hout, hR⟩ := hw
  refine j_istore F [(6, vi bb), (5, vi cd), (4, vi i), (3, .ref ho), (2, .ref hm), (1, .ref vb), (0, .ref b)] d_law_640 (by decide) rfl ?_
  refine j_aload_n F 4 d_law_642 rfl ?_
  refine w_callM F K (c_Mo_thrown (post := fun v S2 => v = S1.1 0 ∧ S2 = S1) l ⟨rfl, rfl⟩) (tw_gV ty_713 ty_714 ty_715 ty_711 ty_716) q_Mo_thrown rfl ⟨by decide, by decide⟩ ⟨hr1, hr2⟩ rfl (Nat.le_of_ble_eq_true rfl) d_law_643 (fun tv S2 hw => ?_)
  obtain ⟨rfl, rfl⟩ := hw
  rw [hth]
  refine j_iload F 1 d_law_646 rfl ?_
  refine j_icmp_eq F 653 hcd hcd d_law_648 rfl (fun _ => ?_) (fun hh => absurd rfl hh)
  refine j_iload F 1 d_law_653 rfl ?_
  refine j_if_ne F 670 hcd d_law_655 rfl (fun hh => ?_) (fun hh => ?_)
  · skip
    refine j_goto F 1637 d_law_670 rfl ?_
    refine j_sub [2, 3, 4, 5, 6] rfl ?_
    exact kk _ _ _ _ _ hr1 hr2 hR hT1
  · have hf := hout hh
    refine j_aload_n F 3 d_law_658 rfl ?_
    refine j_iconst F d_law_659 ?_
    refine w_lald F K hf d_law_660 ?_
    refine j_iload F 0 d_law_661 rfl ?_
    refine j_i2l F hbb d_law_663 ?_
    refine j_lcmp_eq F 670 (inR_L hbb) (inR_L hbb) d_law_664 d_law_665 rfl (fun _ => ?_) (fun hh2 => absurd rfl hh2)
    refine j_goto F 1637 d_law_670 rfl ?_
    refine j_sub [2, 3, 4, 5, 6] rfl ?_
    exact kk _ _ _ _ _ hr1 hr2 hR hT1
theorem ty_759 : (Jvm.Cond.codeWith ({ cls := "LandBookLaw", name := "lotAt", desc := "(LLandBook;IIII[J)I" } : Jvm.MethodName) method_10_code (7 : Nat) (Option.some Jvm.ClassFile.FieldType.int) [((0 : Nat), (14 : Nat), (17 : Nat), (21 : Nat)), ((0 : Nat), (14 : Nat), (21 : Nat), (13 : Nat))]) ∈ tw_G := tw_in (List.mem_of_getElem? (i := 885) (by decide +kernel)) rfl
theorem ty_760 : (Jvm.Cond.methodLink "LandBookLaw" (121 : Nat) ({ cls := "LandBookLaw", name := "lotAt", desc := "(LLandBook;IIII[J)I" } : Jvm.MethodName)) ∈ tw_G := tw_in (List.mem_of_getElem? (i := 883) (by decide +kernel)) rfl
theorem ty_761 : (Jvm.Cond.static ({ cls := "LandBookLaw", name := "lotAt", desc := "(LLandBook;IIII[J)I" } : Jvm.MethodName)) ∈ tw_G := tw_in (List.mem_of_getElem? (i := 884) (by decide +kernel)) rfl
theorem ty_762 : (Jvm.Cond.methodLink "LandBookLaw" (124 : Nat) ({ cls := "LandBookModel", name := "lotAt", desc := "(IIII)I" } : Jvm.MethodName)) ∈ tw_G := tw_in (List.mem_of_getElem? (i := 1397) (by decide +kernel)) rfl
theorem ty_763 : (Jvm.Cond.instanceMethod ({ cls := "LandBookModel", name := "lotAt", desc := "(IIII)I" } : Jvm.MethodName)) ∈ tw_G := tw_in (List.mem_of_getElem? (i := 1398) (by decide +kernel)) rfl
theorem ty_764 : (Jvm.Cond.selects "LandBookModel" ({ cls := "LandBookModel", name := "lotAt", desc := "(IIII)I" } : Jvm.MethodName) ({ cls := "LandBookModel", name := "lotAt", desc := "(IIII)I" } : Jvm.MethodName)) ∈ tw_G := tw_in (List.mem_of_getElem? (i := 1399) (by decide +kernel)) rfl
theorem ty_765 : (Jvm.Cond.code ({ cls := "LandBookModel", name := "lotAt", desc := "(IIII)I" } : Jvm.MethodName) prog_13_method_61_code (6 : Nat) (Option.some Jvm.ClassFile.FieldType.int)) ∈ tw_G := tw_in (List.mem_of_getElem? (i := 1400) (by decide +kernel)) rfl
def st_lotAt (R : Nat → Nat → CS → MS → Prop) (vb : Nat) (f : Nat → Int64) (c n : Nat) (a1 a2 a3 a4 a5 a6 : Int) (T : CS) (S : MS) : Prop := ∃ mc ms : Nat, (c + mc ≤ 601024 ∧ n + ms ≤ 7293034) ∧ hx_lotAt (fun cd f1 T1 => inR cd ∧ wp_Mo_lotAt (fun b S1 => inR b ∧ S1.1 0 = cd ∧ (cd = 0 → f1 0 = lI b) ∧ R (c + mc) (n + ms) T1 S1) a1 a2 a3 a4 S) f mc ms vb a1 a2 a3 a4 T
set_option maxHeartbeats 4000000 in
set_option maxRecDepth 100000 in
theorem lc_lotAt (l : Launch) (hfl : l.flags = pinnedFlags ++ [noTraceFlag]) {D : va_G} {X : jx_C} {k : CK} {kL : ClassId} {kc : Nat → ClassId} {ad : Nat → Nat} {ho hm vb b L : Nat} {xs : Nat → Int32} {f : Nat → Int64} {T : CS} {S : MS} {c n : Nat} {R : Nat → Nat → CS → MS → Prop} {i : Int} (F : jfx X code 7 "LandBookLaw" 13 520 601024 7293034) (K : jkw k D kL kc X) (Z : jsx X b L xs) (hL : L ≤ 3584) (hi : 0 ≤ i ∧ i + 7 ≤ L) (hT : cs_ok k T) (hw : st_lotAt R vb f c n ((xs (i + 1).toNat).toInt) ((xs (i + 2).toNat).toInt) ((xs (i + 3).toNat).toInt) ((xs (i + 4).toNat).toInt) ((xs (i + 5).toNat).toInt) ((xs (i + 6).toNat).toInt) T S)
    (kk : ∀ (c1 n1 : Nat) (T1 : CS) (S1 : MS) (f1 : Nat → Int64), c1 ≤ 601024 → n1 ≤ 7293034 → R c1 n1 T1 S1 → cs_ok k T1 → jat l D X 7 1637 [(4, vi i), (3, .ref ho), (2, .ref hm), (1, .ref vb), (0, .ref b)] [] (lww k T1 ho kL f1 hm ad kc S1) c1 n1) : jat l D X 7 673 [(4, vi i), (3, .ref ho), (2, .ref hm), (1, .ref vb), (0, .ref b)] [] (lww k T ho kL f hm ad kc S) c n := by
  obtain ⟨mc, ms, ⟨hr1, hr2⟩, hw⟩ := hw
  refine j_aload_n F 3 d_law_673 rfl ?_
  refine j_aload_n F 4 d_law_674 rfl ?_
  refine j_iload F 0 d_law_675 rfl ?_
  refine j_iconst F d_law_677 ?_
  refine j_iadd F d_law_678 ?_
  refine w_sld F Z hL ⟨by omega, by omega⟩ d_law_679 ?_
  refine j_aload_n F 4 d_law_680 rfl ?_
  refine j_iload F 0 d_law_681 rfl ?_
  refine j_iconst F d_law_683 ?_
  refine j_iadd F d_law_684 ?_
  refine w_sld F Z hL ⟨by omega, by omega⟩ d_law_685 ?_
  refine j_aload_n F 4 d_law_686 rfl ?_
  refine j_iload F 0 d_law_687 rfl ?_
  refine j_iconst F d_law_689 ?_
  refine j_iadd F d_law_690 ?_
  refine w_sld F Z hL ⟨by omega, by omega⟩ d_law_691 ?_
  refine j_aload_n F 4 d_law_692 rfl ?_
  refine j_iload F 0 d_law_693 rfl ?_
  refine j_iconst F d_law_695 ?_
  refine j_iadd F d_law_696 ?_
  refine w_sld F Z hL ⟨by omega, by omega⟩ d_law_697 ?_
  refine j_aload_n F 1 d_law_698 rfl ?_
  refine w_callH F K hT (c_H_lotAt l hfl hw) ty_759 ty_705 ty_760 ty_761 q_H_lotAt rfl ⟨by decide, by decide⟩ ⟨hr1, hr2⟩ rfl (Nat.le_of_ble_eq_true rfl) d_law_699 (fun cd f1 T1 hw hT1 => ?_)
  obtain ⟨hcd, hw⟩ := hw
  refine j_istore F [(5, vi cd), (4, vi i), (3, .ref ho), (2, .ref hm), (1, .ref vb), (0, .ref b)] d_law_702 (by decide) rfl ?_
  refine j_aload_n F 3 d_law_704 rfl ?_
  refine j_aload_n F 5 d_law_705 rfl ?_
  refine j_iload F 1 d_law_706 rfl ?_
  refine j_iconst F d_law_708 ?_
  refine j_iadd F d_law_709 ?_
  refine w_sld F Z hL ⟨by omega, by omega⟩ d_law_710 ?_
  refine j_aload_n F 5 d_law_711 rfl ?_
  refine j_iload F 1 d_law_712 rfl ?_
  refine j_iconst F d_law_714 ?_
  refine j_iadd F d_law_715 ?_
  refine w_sld F Z hL ⟨by omega, by omega⟩ d_law_716 ?_
  refine j_aload_n F 5 d_law_717 rfl ?_
  refine j_iload F 1 d_law_718 rfl ?_
  refine j_iconst F d_law_720 ?_
  refine j_iadd F d_law_721 ?_
  refine w_sld F Z hL ⟨by omega, by omega⟩ d_law_722 ?_
  refine j_aload_n F 5 d_law_723 rfl ?_
  refine j_iload F 1 d_law_724 rfl ?_
  refine j_iconst F d_law_726 ?_
  refine j_iadd F d_law_727 ?_
  refine w_sld F Z hL ⟨by omega, by omega⟩ d_law_728 ?_
  refine w_callM F K (c_Mo_lotAt l hw) (tw_gV ty_762 ty_763 ty_764 ty_711 ty_765) q_Mo_lotAt rfl ⟨by decide, by decide⟩ ⟨hr1, hr2⟩ rfl (Nat.le_of_ble_eq_true rfl) d_law_729 (fun bb S1 hw => ?_)
  obtain ⟨hbb, hth, hout, hR⟩ := hw
  refine j_istore F [(6, vi bb), (5, vi cd), (4, vi i), (3, .ref ho), (2, .ref hm), (1, .ref vb), (0, .ref b)] d_law_732 (by decide) rfl ?_
  refine j_aload_n F 4 d_law_734 rfl ?_
  refine w_callM F K (c_Mo_thrown (post := fun v S2 => v = S1.1 0 ∧ S2 = S1) l ⟨rfl, rfl⟩) (tw_gV ty_713 ty_714 ty_715 ty_711 ty_716) q_Mo_thrown rfl ⟨by decide, by decide⟩ ⟨hr1, hr2⟩ rfl (Nat.le_of_ble_eq_true rfl) d_law_735 (fun tv S2 hw => ?_)
  obtain ⟨rfl, rfl⟩ := hw
  rw [hth]
  refine j_iload F 1 d_law_738 rfl ?_
  refine j_icmp_eq F 745 hcd hcd d_law_740 rfl (fun _ => ?_) (fun hh => absurd rfl hh)
  refine j_iload F 1 d_law_745 rfl ?_
  refine j_if_ne F 762 hcd d_law_747 rfl (fun hh => ?_) (fun hh => ?_)
  · skip
    refine j_goto F 1637 d_law_762 rfl ?_
    refine j_sub [2, 3, 4, 5, 6] rfl ?_
    exact kk _ _ _ _ _ hr1 hr2 hR hT1
  · have hf := hout hh
    refine j_aload_n F 3 d_law_750 rfl ?_
    refine j_iconst F d_law_751 ?_
    refine w_lald F K hf d_law_752 ?_
    refine j_iload F 0 d_law_753 rfl ?_
    refine j_i2l F hbb d_law_755 ?_
    refine j_lcmp_eq F 762 (inR_L hbb) (inR_L hbb) d_law_756 d_law_757 rfl (fun _ => ?_) (fun hh2 => absurd rfl hh2)
    refine j_goto F 1637 d_law_762 rfl ?_
    refine j_sub [2, 3, 4, 5, 6] rfl ?_
    exact kk _ _ _ _ _ hr1 hr2 hR hT1
theorem ty_766 : (Jvm.Cond.codeWith ({ cls := "LandBookLaw", name := "area2", desc := "(LLandBook;III[J)I" } : Jvm.MethodName) method_11_code (6 : Nat) (Option.some Jvm.ClassFile.FieldType.int) [((0 : Nat), (12 : Nat), (15 : Nat), (21 : Nat)), ((0 : Nat), (12 : Nat), (19 : Nat), (26 : Nat)), ((0 : Nat), (12 : Nat), (23 : Nat), (13 : Nat))]) ∈ tw_G := tw_in (List.mem_of_getElem? (i := 898) (by decide +kernel)) rfl
theorem ty_767 : (Jvm.Cond.methodLink "LandBookLaw" (125 : Nat) ({ cls := "LandBookLaw", name := "area2", desc := "(LLandBook;III[J)I" } : Jvm.MethodName)) ∈ tw_G := tw_in (List.mem_of_getElem? (i := 896) (by decide +kernel)) rfl
theorem ty_768 : (Jvm.Cond.static ({ cls := "LandBookLaw", name := "area2", desc := "(LLandBook;III[J)I" } : Jvm.MethodName)) ∈ tw_G := tw_in (List.mem_of_getElem? (i := 897) (by decide +kernel)) rfl
theorem ty_769 : (Jvm.Cond.methodLink "LandBookLaw" (127 : Nat) ({ cls := "LandBookModel", name := "area2", desc := "(III)I" } : Jvm.MethodName)) ∈ tw_G := tw_in (List.mem_of_getElem? (i := 1404) (by decide +kernel)) rfl
theorem ty_770 : (Jvm.Cond.instanceMethod ({ cls := "LandBookModel", name := "area2", desc := "(III)I" } : Jvm.MethodName)) ∈ tw_G := tw_in (List.mem_of_getElem? (i := 1405) (by decide +kernel)) rfl
theorem ty_771 : (Jvm.Cond.selects "LandBookModel" ({ cls := "LandBookModel", name := "area2", desc := "(III)I" } : Jvm.MethodName) ({ cls := "LandBookModel", name := "area2", desc := "(III)I" } : Jvm.MethodName)) ∈ tw_G := tw_in (List.mem_of_getElem? (i := 1406) (by decide +kernel)) rfl
theorem ty_772 : (Jvm.Cond.code ({ cls := "LandBookModel", name := "area2", desc := "(III)I" } : Jvm.MethodName) prog_13_method_63_code (7 : Nat) (Option.some Jvm.ClassFile.FieldType.int)) ∈ tw_G := tw_in (List.mem_of_getElem? (i := 1407) (by decide +kernel)) rfl
def st_area2 (R : Nat → Nat → CS → MS → Prop) (vb : Nat) (f : Nat → Int64) (c n : Nat) (a1 a2 a3 a4 a5 a6 : Int) (T : CS) (S : MS) : Prop := ∃ mc ms : Nat, (c + mc ≤ 601024 ∧ n + ms ≤ 7293034) ∧ hx_area2 (fun cd f1 T1 => inR cd ∧ wp_Mo_area2 (fun b S1 => inR b ∧ S1.1 0 = cd ∧ (cd = 0 → f1 0 = lI b) ∧ R (c + mc) (n + ms) T1 S1) a1 a2 a3 S) f mc ms vb a1 a2 a3 T
set_option maxHeartbeats 4000000 in
set_option maxRecDepth 100000 in
theorem lc_area2 (l : Launch) (hfl : l.flags = pinnedFlags ++ [noTraceFlag]) {D : va_G} {X : jx_C} {k : CK} {kL : ClassId} {kc : Nat → ClassId} {ad : Nat → Nat} {ho hm vb b L : Nat} {xs : Nat → Int32} {f : Nat → Int64} {T : CS} {S : MS} {c n : Nat} {R : Nat → Nat → CS → MS → Prop} {i : Int} (F : jfx X code 7 "LandBookLaw" 13 520 601024 7293034) (K : jkw k D kL kc X) (Z : jsx X b L xs) (hL : L ≤ 3584) (hi : 0 ≤ i ∧ i + 7 ≤ L) (hT : cs_ok k T) (hw : st_area2 R vb f c n ((xs (i + 1).toNat).toInt) ((xs (i + 2).toNat).toInt) ((xs (i + 3).toNat).toInt) ((xs (i + 4).toNat).toInt) ((xs (i + 5).toNat).toInt) ((xs (i + 6).toNat).toInt) T S)
    (kk : ∀ (c1 n1 : Nat) (T1 : CS) (S1 : MS) (f1 : Nat → Int64), c1 ≤ 601024 → n1 ≤ 7293034 → R c1 n1 T1 S1 → cs_ok k T1 → jat l D X 7 1637 [(4, vi i), (3, .ref ho), (2, .ref hm), (1, .ref vb), (0, .ref b)] [] (lww k T1 ho kL f1 hm ad kc S1) c1 n1) : jat l D X 7 765 [(4, vi i), (3, .ref ho), (2, .ref hm), (1, .ref vb), (0, .ref b)] [] (lww k T ho kL f hm ad kc S) c n := by
  obtain ⟨mc, ms, ⟨hr1, hr2⟩, hw⟩ := hw
  refine j_aload_n F 3 d_law_765 rfl ?_
  refine j_aload_n F 4 d_law_766 rfl ?_
  refine j_iload F 0 d_law_767 rfl ?_
  refine j_iconst F d_law_769 ?_
  refine j_iadd F d_law_770 ?_
  refine w_sld F Z hL ⟨by omega, by omega⟩ d_law_771 ?_
  refine j_aload_n F 4 d_law_772 rfl ?_
  refine j_iload F 0 d_law_773 rfl ?_
  refine j_iconst F d_law_775 ?_
  refine j_iadd F d_law_776 ?_
  refine w_sld F Z hL ⟨by omega, by omega⟩ d_law_777 ?_
  refine j_aload_n F 4 d_law_778 rfl ?_
  refine j_iload F 0 d_law_779 rfl ?_
  refine j_iconst F d_law_781 ?_
  refine j_iadd F d_law_782 ?_
  refine w_sld F Z hL ⟨by omega, by omega⟩ d_law_783 ?_
  refine j_aload_n F 1 d_law_784 rfl ?_
  refine w_callH F K hT (c_H_area2 l hfl hw) ty_766 ty_705 ty_767 ty_768 q_H_area2 rfl ⟨by decide, by decide⟩ ⟨hr1, hr2⟩ rfl (Nat.le_of_ble_eq_true rfl) d_law_785 (fun cd f1 T1 hw hT1 => ?_)
  obtain ⟨hcd, hw⟩ := hw
  refine j_istore F [(5, vi cd), (4, vi i), (3, .ref ho), (2, .ref hm), (1, .ref vb), (0, .ref b)] d_law_788 (by decide) rfl ?_
  refine j_aload_n F 3 d_law_790 rfl ?_
  refine j_aload_n F 5 d_law_791 rfl ?_
  refine j_iload F 1 d_law_792 rfl ?_
  refine j_iconst F d_law_794 ?_
  refine j_iadd F d_law_795 ?_
  refine w_sld F Z hL ⟨by omega, by omega⟩ d_law_796 ?_
  refine j_aload_n F 5 d_law_797 rfl ?_
  refine j_iload F 1 d_law_798 rfl ?_
  refine j_iconst F d_law_800 ?_
  refine j_iadd F d_law_801 ?_
  refine w_sld F Z hL ⟨by omega, by omega⟩ d_law_802 ?_
  refine j_aload_n F 5 d_law_803 rfl ?_
  refine j_iload F 1 d_law_804 rfl ?_
  refine j_iconst F d_law_806 ?_
  refine j_iadd F d_law_807 ?_
  refine w_sld F Z hL ⟨by omega, by omega⟩ d_law_808 ?_
  refine w_callM F K (c_Mo_area2 l hw) (tw_gV ty_769 ty_770 ty_771 ty_711 ty_772) q_Mo_area2 rfl ⟨by decide, by decide⟩ ⟨hr1, hr2⟩ rfl (Nat.le_of_ble_eq_true rfl) d_law_809 (fun bb S1 hw => ?_)
  obtain ⟨hbb, hth, hout, hR⟩ := hw
  refine j_istore F [(6, vi bb), (5, vi cd), (4, vi i), (3, .ref ho), (2, .ref hm), (1, .ref vb), (0, .ref b)] d_law_812 (by decide) rfl ?_
  refine j_aload_n F 4 d_law_814 rfl ?_
  refine w_callM F K (c_Mo_thrown (post := fun v S2 => v = S1.1 0 ∧ S2 = S1) l ⟨rfl, rfl⟩) (tw_gV ty_713 ty_714 ty_715 ty_711 ty_716) q_Mo_thrown rfl ⟨by decide, by decide⟩ ⟨hr1, hr2⟩ rfl (Nat.le_of_ble_eq_true rfl) d_law_815 (fun tv S2 hw => ?_)
  obtain ⟨rfl, rfl⟩ := hw
  rw [hth]
  refine j_iload F 1 d_law_818 rfl ?_
  refine j_icmp_eq F 825 hcd hcd d_law_820 rfl (fun _ => ?_) (fun hh => absurd rfl hh)
  refine j_iload F 1 d_law_825 rfl ?_
  refine j_if_ne F 842 hcd d_law_827 rfl (fun hh => ?_) (fun hh => ?_)
  · skip
    refine j_goto F 1637 d_law_842 rfl ?_
    refine j_sub [2, 3, 4, 5, 6] rfl ?_
    exact kk _ _ _ _ _ hr1 hr2 hR hT1
  · have hf := hout hh
    refine j_aload_n F 3 d_law_830 rfl ?_
    refine j_iconst F d_law_831 ?_
    refine w_lald F K hf d_law_832 ?_
    refine j_iload F 0 d_law_833 rfl ?_
    refine j_i2l F hbb d_law_835 ?_
    refine j_lcmp_eq F 842 (inR_L hbb) (inR_L hbb) d_law_836 d_law_837 rfl (fun _ => ?_) (fun hh2 => absurd rfl hh2)
    refine j_goto F 1637 d_law_842 rfl ?_
    refine j_sub [2, 3, 4, 5, 6] rfl ?_
    exact kk _ _ _ _ _ hr1 hr2 hR hT1
