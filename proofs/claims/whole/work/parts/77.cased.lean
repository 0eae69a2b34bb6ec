theorem ty_773 : (Jvm.Cond.codeWith ({ cls := "LandBookLaw", name := "share", desc := "(LLandBook;IIII[J)I" } : Jvm.MethodName) method_12_code (7 : Nat) (Option.some Jvm.ClassFile.FieldType.int) [((0 : Nat), (14 : Nat), (17 : Nat), (21 : Nat)), ((0 : Nat), (14 : Nat), (21 : Nat), (26 : Nat)), ((0 : Nat), (14 : Nat), (25 : Nat), (13 : Nat))]) ∈ tw_G := tw_in (List.mem_of_getElem? (i := 906) (by decide +kernel)) rfl
theorem ty_774 : (Jvm.Cond.methodLink "LandBookLaw" (128 : Nat) ({ cls := "LandBookLaw", name := "share", desc := "(LLandBook;IIII[J)I" } : Jvm.MethodName)) ∈ tw_G := tw_in (List.mem_of_getElem? (i := 904) (by decide +kernel)) rfl
theorem ty_775 : (Jvm.Cond.static ({ cls := "LandBookLaw", name := "share", desc := "(LLandBook;IIII[J)I" } : Jvm.MethodName)) ∈ tw_G := tw_in (List.mem_of_getElem? (i := 905) (by decide +kernel)) rfl
theorem ty_776 : (Jvm.Cond.methodLink "LandBookLaw" (130 : Nat) ({ cls := "LandBookModel", name := "share", desc := "(IIII)I" } : Jvm.MethodName)) ∈ tw_G := tw_in (List.mem_of_getElem? (i := 1412) (by decide +kernel)) rfl
theorem ty_777 : (Jvm.Cond.instanceMethod ({ cls := "LandBookModel", name := "share", desc := "(IIII)I" } : Jvm.MethodName)) ∈ tw_G := tw_in (List.mem_of_getElem? (i := 1413) (by decide +kernel)) rfl
theorem ty_778 : (Jvm.Cond.selects "LandBookModel" ({ cls := "LandBookModel", name := "share", desc := "(IIII)I" } : Jvm.MethodName) ({ cls := "LandBookModel", name := "share", desc := "(IIII)I" } : Jvm.MethodName)) ∈ tw_G := tw_in (List.mem_of_getElem? (i := 1414) (by decide +kernel)) rfl
theorem ty_779 : (Jvm.Cond.code ({ cls := "LandBookModel", name := "share", desc := "(IIII)I" } : Jvm.MethodName) prog_13_method_64_code (5 : Nat) (Option.some Jvm.ClassFile.FieldType.int)) ∈ tw_G := tw_in (List.mem_of_getElem? (i := 1415) (by decide +kernel)) rfl
def st_share (R : Nat → Nat → CS → MS → Prop) (vb : Nat) (f : Nat → Int64) (c n : Nat) (a1 a2 a3 a4 a5 a6 : Int) (T : CS) (S : MS) : Prop := ∃ mc ms : Nat, (c + mc ≤ 601024 ∧ n + ms ≤ 7293034) ∧ hx_share (fun cd f1 T1 => inR cd ∧ wp_Mo_share (fun b S1 => inR b ∧ S1.1 0 = cd ∧ (cd = 0 → f1 0 = lI b) ∧ R (c + mc) (n + ms) T1 S1) a1 a2 a3 a4 S) f mc ms vb a1 a2 a3 a4 T
set_option maxHeartbeats 4000000 in
set_option maxRecDepth 100000 in
theorem lc_share (l : Launch) (hfl : l.flags = pinnedFlags ++ [noTraceFlag]) {D : va_G} {X : jx_C} {k : CK} {kL : ClassId} {kc : Nat → ClassId} {ad : Nat → Nat} {ho hm vb b L : Nat} {xs : Nat → Int32} {f : Nat → Int64} {T : CS} {S : MS} {c n : Nat} {R : Nat → Nat → CS → MS → Prop} {i : Int} (F : jfx X code 7 "LandBookLaw" 13 520 601024 7293034) (K : jkw k D kL kc X) (Z : jsx X b L xs) (hL : L ≤ 3584) (hi : 0 ≤ i ∧ i + 7 ≤ L) (hT : cs_ok k T) (hw : st_share R vb f c n ((xs (i + 1).toNat).toInt) ((xs (i + 2).toNat).toInt) ((xs (i + 3).toNat).toInt) ((xs (i + 4).toNat).toInt) ((xs (i + 5).toNat).toInt) ((xs (i + 6).toNat).toInt) T S)
    (kk : ∀ (c1 n1 : Nat) (T1 : CS) (S1 : MS) (f1 : Nat → Int64), c1 ≤ 601024 → n1 ≤ 7293034 → R c1 n1 T1 S1 → cs_ok k T1 → jat l D X 7 1637 [(4, vi i), (3, .ref ho), (2, .ref hm), (1, .ref vb), (0, .ref b)] [] (lww k T1 ho kL f1 hm ad kc S1) c1 n1) : jat l D X 7 845 [(4, vi i), (3, .ref ho), (2, .ref hm), (1, .ref vb), (0, .ref b)] [] (lww k T ho kL f hm ad kc S) c n := by
  obtain ⟨mc, ms, ⟨hr1, hr2⟩, hw⟩ := hw
  refine j_aload_n F 3 d_law_845 rfl ?_
  refine j_aload_n F 4 d_law_846 rfl ?_
  refine j_iload F 0 d_law_847 rfl ?_
  refine j_iconst F d_law_849 ?_
  refine j_iadd F d_law_850 ?_
  refine w_sld F Z hL ⟨by omega, by omega⟩ d_law_851 ?_
  refine j_aload_n F 4 d_law_852 rfl ?_
  refine j_iload F 0 d_law_853 rfl ?_
  refine j_iconst F d_law_855 ?_
  refine j_iadd F d_law_856 ?_
  refine w_sld F Z hL ⟨by omega, by omega⟩ d_law_857 ?_
  refine j_aload_n F 4 d_law_858 rfl ?_
  refine j_iload F 0 d_law_859 rfl ?_
  refine j_iconst F d_law_861 ?_
  refine j_iadd F d_law_862 ?_
  refine w_sld F Z hL ⟨by omega, by omega⟩ d_law_863 ?_
  refine j_aload_n F 4 d_law_864 rfl ?_
  refine j_iload F 0 d_law_865 rfl ?_
  refine j_iconst F d_law_867 ?_
  refine j_iadd F d_law_868 ?_
  refine w_sld F Z hL ⟨by omega, by omega⟩ d_law_869 ?_
  refine j_aload_n F 1 d_law_870 rfl ?_
  refine w_callH F K hT (c_H_share l hfl hw) ty_773 ty_705 ty_774 ty_775 q_H_share rfl ⟨by decide, by decide⟩ ⟨hr1, hr2⟩ rfl (Nat.le_of_ble_eq_true rfl) d_law_871 (fun cd f1 T1 hw hT1 => ?_)
  obtain ⟨hcd, hw⟩ := hw
  refine j_istore F [(5, vi cd), (4, vi i), (3, .ref ho), (2, .ref hm), (1, .ref vb), (0, .ref b)] d_law_874 (by decide) rfl ?_
  refine j_aload_n F 3 d_law_876 rfl ?_
  refine j_aload_n F 5 d_law_877 rfl ?_
  refine j_iload F 1 d_law_878 rfl ?_
  refine j_iconst F d_law_880 ?_
  refine j_iadd F d_law_881 ?_
  refine w_sld F Z hL ⟨by omega, by omega⟩ d_law_882 ?_
  refine j_aload_n F 5 d_law_883 rfl ?_
  refine j_iload F 1 d_law_884 rfl ?_
  refine j_iconst F d_law_886 ?_
  refine j_iadd F d_law_887 ?_
  refine w_sld F Z hL ⟨by omega, by omega⟩ d_law_888 ?_
  refine j_aload_n F 5 d_law_889 rfl ?_
  refine j_iload F 1 d_law_890 rfl ?_
  refine j_iconst F d_law_892 ?_
  refine j_iadd F d_law_893 ?_
  refine w_sld F Z hL ⟨by omega, by omega⟩ d_law_894 ?_
  refine j_aload_n F 5 d_law_895 rfl ?_
  refine j_iload F 1 d_law_896 rfl ?_
  refine j_iconst F d_law_898 ?_
  refine j_iadd F d_law_899 ?_
  refine w_sld F Z hL ⟨by omega, by omega⟩ d_law_900 ?_
  refine w_callM F K (c_Mo_share l hw) (tw_gV ty_776 ty_777 ty_778 ty_711 ty_779) q_Mo_share rfl ⟨by decide, by decide⟩ ⟨hr1, hr2⟩ rfl (Nat.le_of_ble_eq_true rfl) d_law_901 (fun bb S1 hw => ?_)
  obtain ⟨hbb, hth, hout, hR⟩ := hw
  refine j_istore F [(6, vi bb), (5, vi cd), (4, vi i), (3, .ref ho), (2, .ref hm), (1, .ref vb), (0, .ref b)] d_law_904 (by decide) rfl ?_
  refine j_aload_n F 4 d_law_906 rfl ?_
  refine w_callM F K (c_Mo_thrown (post := fun v S2 => v = S1.1 0 ∧ S2 = S1) l ⟨rfl, rfl⟩) (tw_gV ty_713 ty_714 ty_715 ty_711 ty_716) q_Mo_thrown rfl ⟨by decide, by decide⟩ ⟨hr1, hr2⟩ rfl (Nat.le_of_ble_eq_true rfl) d_law_907 (fun tv S2 hw => ?_)
  obtain ⟨rfl, rfl⟩ := hw
  rw [hth]
  refine j_iload F 1 d_law_910 rfl ?_
  refine j_icmp_eq F 917 hcd hcd d_law_912 rfl (fun _ => ?_) (fun hh => absurd rfl hh)
  refine j_iload F 1 d_law_917 rfl ?_
  refine j_if_ne F 934 hcd d_law_919 rfl (fun hh => ?_) (fun hh => ?_)
  · skip
    refine j_goto F 1637 d_law_934 rfl ?_
    refine j_sub [2, 3, 4, 5, 6] rfl ?_
    exact kk _ _ _ _ _ hr1 hr2 hR hT1
  · have hf := hout hh
    refine j_aload_n F 3 d_law_922 rfl ?_
    refine j_iconst F d_law_923 ?_
    refine w_lald F K hf d_law_924 ?_
    refine j_iload F 0 d_law_925 rfl ?_
    refine j_i2l F hbb d_law_927 ?_
    refine j_lcmp_eq F 934 (inR_L hbb) (inR_L hbb) d_law_928 d_law_929 rfl (fun _ => ?_) (fun hh2 => absurd rfl hh2)
    refine j_goto F 1637 d_law_934 rfl ?_
    refine j_sub [2, 3, 4, 5, 6] rfl ?_
    exact kk _ _ _ _ _ hr1 hr2 hR hT1
theorem ty_780 : (Jvm.Cond.codeWith ({ cls := "LandBookLaw", name := "next", desc := "(LLandBook;IIII[J)I" } : Jvm.MethodName) method_13_code (7 : Nat) (Option.some Jvm.ClassFile.FieldType.int) [((0 : Nat), (14 : Nat), (17 : Nat), (21 : Nat)), ((0 : Nat), (14 : Nat), (21 : Nat), (26 : Nat)), ((0 : Nat), (14 : Nat), (25 : Nat), (13 : Nat))]) ∈ tw_G := tw_in (List.mem_of_getElem? (i := 913) (by decide +kernel)) rfl
theorem ty_781 : (Jvm.Cond.methodLink "LandBookLaw" (131 : Nat) ({ cls := "LandBookLaw", name := "next", desc := "(LLandBook;IIII[J)I" } : Jvm.MethodName)) ∈ tw_G := tw_in (List.mem_of_getElem? (i := 911) (by decide +kernel)) rfl
theorem ty_782 : (Jvm.Cond.static ({ cls := "LandBookLaw", name := "next", desc := "(LLandBook;IIII[J)I" } : Jvm.MethodName)) ∈ tw_G := tw_in (List.mem_of_getElem? (i := 912) (by decide +kernel)) rfl
theorem ty_783 : (Jvm.Cond.methodLink "LandBookLaw" (133 : Nat) ({ cls := "LandBookModel", name := "next", desc := "(IIII)I" } : Jvm.MethodName)) ∈ tw_G := tw_in (List.mem_of_getElem? (i := 1416) (by decide +kernel)) rfl
theorem ty_784 : (Jvm.Cond.instanceMethod ({ cls := "LandBookModel", name := "next", desc := "(IIII)I" } : Jvm.MethodName)) ∈ tw_G := tw_in (List.mem_of_getElem? (i := 1417) (by decide +kernel)) rfl
theorem ty_785 : (Jvm.Cond.selects "LandBookModel" ({ cls := "LandBookModel", name := "next", desc := "(IIII)I" } : Jvm.MethodName) ({ cls := "LandBookModel", name := "next", desc := "(IIII)I" } : Jvm.MethodName)) ∈ tw_G := tw_in (List.mem_of_getElem? (i := 1418) (by decide +kernel)) rfl
theorem ty_786 : (Jvm.Cond.code ({ cls := "LandBookModel", name := "next", desc := "(IIII)I" } : Jvm.MethodName) prog_13_method_66_code (7 : Nat) (Option.some Jvm.ClassFile.FieldType.int)) ∈ tw_G := tw_in (List.mem_of_getElem? (i := 1419) (by decide +kernel)) rfl
def st_next (R : Nat → Nat → CS → MS → Prop) (vb : Nat) (f : Nat → Int64) (c n : Nat) (a1 a2 a3 a4 a5 a6 : Int) (T : CS) (S : MS) : Prop := ∃ mc ms : Nat, (c + mc ≤ 601024 ∧ n + ms ≤ 7293034) ∧ hx_next (fun cd f1 T1 => inR cd ∧ wp_Mo_next (fun b S1 => inR b ∧ S1.1 0 = cd ∧ (cd = 0 → f1 0 = lI b) ∧ R (c + mc) (n + ms) T1 S1) a1 a2 a3 a4 S) f mc ms vb a1 a2 a3 a4 T
set_option maxHeartbeats 4000000 in
set_option maxRecDepth 100000 in
theorem lc_next (l : Launch) (hfl : l.flags = pinnedFlags ++ [noTraceFlag]) {D : va_G} {X : jx_C} {k : CK} {kL : ClassId} {kc : Nat → ClassId} {ad : Nat → Nat} {ho hm vb b L : Nat} {xs : Nat → Int32} {f : Nat → Int64} {T : CS} {S : MS} {c n : Nat} {R : Nat → Nat → CS → MS → Prop} {i : Int} (F : jfx X code 7 "LandBookLaw" 13 520 601024 7293034) (K : jkw k D kL kc X) (Z : jsx X b L xs) (hL : L ≤ 3584) (hi : 0 ≤ i ∧ i + 7 ≤ L) (hT : cs_ok k T) (hw : st_next R vb f c n ((xs (i + 1).toNat).toInt) ((xs (i + 2).toNat).toInt) ((xs (i + 3).toNat).toInt) ((xs (i + 4).toNat).toInt) ((xs (i + 5).toNat).toInt) ((xs (i + 6).toNat).toInt) T S)
    (kk : ∀ (c1 n1 : Nat) (T1 : CS) (S1 : MS) (f1 : Nat → Int64), c1 ≤ 601024 → n1 ≤ 7293034 → R c1 n1 T1 S1 → cs_ok k T1 → jat l D X 7 1637 [(4, vi i), (3, .ref ho), (2, .ref hm), (1, .ref vb), (0, .ref b)] [] (lww k T1 ho kL f1 hm ad kc S1) c1 n1) : jat l D X 7 937 [(4, vi i), (3, .ref ho), (2, .ref hm), (1, .ref vb), (0, .ref b)] [] (lww k T ho kL f hm ad kc S) c n := by
  obtain ⟨mc, ms, ⟨hr1, hr2⟩, hw⟩ := hw
  refine j_aload_n F 3 d_law_937 rfl ?_
  refine j_aload_n F 4 d_law_938 rfl ?_
  refine j_iload F 0 d_law_939 rfl ?_
  refine j_iconst F d_law_941 ?_
  refine j_iadd F d_law_942 ?_
  refine w_sld F Z hL ⟨by omega, by omega⟩ d_law_943 ?_
  refine j_aload_n F 4 d_law_944 rfl ?_
  refine j_iload F 0 d_law_945 rfl ?_
  refine j_iconst F d_law_947 ?_
  refine j_iadd F d_law_948 ?_
  refine w_sld F Z hL ⟨by omega, by omega⟩ d_law_949 ?_
  refine j_aload_n F 4 d_law_950 rfl ?_
  refine j_iload F 0 d_law_951 rfl ?_
  refine j_iconst F d_law_953 ?_
  refine j_iadd F d_law_954 ?_
  refine w_sld F Z hL ⟨by omega, by omega⟩ d_law_955 ?_
  refine j_aload_n F 4 d_law_956 rfl ?_
  refine j_iload F 0 d_law_957 rfl ?_
  refine j_iconst F d_law_959 ?_
  refine j_iadd F d_law_960 ?_
  refine w_sld F Z hL ⟨by omega, by omega⟩ d_law_961 ?_
  refine j_aload_n F 1 d_law_962 rfl ?_
  refine w_callH F K hT (c_H_next l hfl hw) ty_780 ty_705 ty_781 ty_782 q_H_next rfl ⟨by decide, by decide⟩ ⟨hr1, hr2⟩ rfl (Nat.le_of_ble_eq_true rfl) d_law_963 (fun cd f1 T1 hw hT1 => ?_)
  obtain ⟨hcd, hw⟩ := hw
  refine j_istore F [(5, vi cd), (4, vi i), (3, .ref ho), (2, .ref hm), (1, .ref vb), (0, .ref b)] d_law_966 (by decide) rfl ?_
  refine j_aload_n F 3 d_law_968 rfl ?_
  refine j_aload_n F 5 d_law_969 rfl ?_
  refine j_iload F 1 d_law_970 rfl ?_
  refine j_iconst F d_law_972 ?_
  refine j_iadd F d_law_973 ?_
  refine w_sld F Z hL ⟨by omega, by omega⟩ d_law_974 ?_
  refine j_aload_n F 5 d_law_975 rfl ?_
  refine j_iload F 1 d_law_976 rfl ?_
  refine j_iconst F d_law_978 ?_
  refine j_iadd F d_law_979 ?_
  refine w_sld F Z hL ⟨by omega, by omega⟩ d_law_980 ?_
  refine j_aload_n F 5 d_law_981 rfl ?_
  refine j_iload F 1 d_law_982 rfl ?_
  refine j_iconst F d_law_984 ?_
  refine j_iadd F d_law_985 ?_
  refine w_sld F Z hL ⟨by omega, by omega⟩ d_law_986 ?_
  refine j_aload_n F 5 d_law_987 rfl ?_
  refine j_iload F 1 d_law_988 rfl ?_
  refine j_iconst F d_law_990 ?_
  refine j_iadd F d_law_991 ?_
  refine w_sld F Z hL ⟨by omega, by omega⟩ d_law_992 ?_
  refine w_callM F K (c_Mo_next l hw) (tw_gV ty_783 ty_784 ty_785 ty_711 ty_786) q_Mo_next rfl ⟨by decide, by decide⟩ ⟨hr1, hr2⟩ rfl (Nat.le_of_ble_eq_true rfl) d_law_993 (fun bb S1 hw => ?_)
  obtain ⟨hbb, hth, hout, hR⟩ := hw
  refine j_istore F [(6, vi bb), (5, vi cd), (4, vi i), (3, .ref ho), (2, .ref hm), (1, .ref vb), (0, .ref b)] d_law_996 (by decide) rfl ?_
  refine j_aload_n F 4 d_law_998 rfl ?_
  refine w_callM F K (c_Mo_thrown (post := fun v S2 => v = S1.1 0 ∧ S2 = S1) l ⟨rfl, rfl⟩) (tw_gV ty_713 ty_714 ty_715 ty_711 ty_716) q_Mo_thrown rfl ⟨by decide, by decide⟩ ⟨hr1, hr2⟩ rfl (Nat.le_of_ble_eq_true rfl) d_law_999 (fun tv S2 hw => ?_)
  obtain ⟨rfl, rfl⟩ := hw
  rw [hth]
  refine j_iload F 1 d_law_1002 rfl ?_
  refine j_icmp_eq F 1009 hcd hcd d_law_1004 rfl (fun _ => ?_) (fun hh => absurd rfl hh)
  refine j_iload F 1 d_law_1009 rfl ?_
  refine j_if_ne F 1026 hcd d_law_1011 rfl (fun hh => ?_) (fun hh => ?_)
  · skip
    refine j_goto F 1637 d_law_1026 rfl ?_
    refine j_sub [2, 3, 4, 5, 6] rfl ?_
    exact kk _ _ _ _ _ hr1 hr2 hR hT1
  · have hf := hout hh
    refine j_aload_n F 3 d_law_1014 rfl ?_
    refine j_iconst F d_law_1015 ?_
    refine w_lald F K hf d_law_1016 ?_
    refine j_iload F 0 d_law_1017 rfl ?_
    refine j_i2l F hbb d_law_1019 ?_
    refine j_lcmp_eq F 1026 (inR_L hbb) (inR_L hbb) d_law_1020 d_law_1021 rfl (fun _ => ?_) (fun hh2 => absurd rfl hh2)
    refine j_goto F 1637 d_law_1026 rfl ?_
    refine j_sub [2, 3, 4, 5, 6] rfl ?_
    exact kk _ _ _ _ _ hr1 hr2 hR hT1
theorem ty_787 : (Jvm.Cond.codeWith ({ cls := "LandBookLaw", name := "burden", desc := "(LLandBook;IIII[J)I" } : Jvm.MethodName) method_14_code (7 : Nat) (Option.some Jvm.ClassFile.FieldType.int) [((0 : Nat), (14 : Nat), (17 : Nat), (21 : Nat)), ((0 : Nat), (14 : Nat), (21 : Nat), (26 : Nat)), ((0 : Nat), (14 : Nat), (25 : Nat), (13 : Nat))]) ∈ tw_G := tw_in (List.mem_of_getElem? (i := 927) (by decide +kernel)) rfl
theorem ty_788 : (Jvm.Cond.methodLink "LandBookLaw" (134 : Nat) ({ cls := "LandBookLaw", name := "burden", desc := "(LLandBook;IIII[J)I" } : Jvm.MethodName)) ∈ tw_G := tw_in (List.mem_of_getElem? (i := 925) (by decide +kernel)) rfl
theorem ty_789 : (Jvm.Cond.static ({ cls := "LandBookLaw", name := "burden", desc := "(LLandBook;IIII[J)I" } : Jvm.MethodName)) ∈ tw_G := tw_in (List.mem_of_getElem? (i := 926) (by decide +kernel)) rfl
theorem ty_790 : (Jvm.Cond.methodLink "LandBookLaw" (136 : Nat) ({ cls := "LandBookModel", name := "burden", desc := "(IIII)I" } : Jvm.MethodName)) ∈ tw_G := tw_in (List.mem_of_getElem? (i := 1424) (by decide +kernel)) rfl
theorem ty_791 : (Jvm.Cond.instanceMethod ({ cls := "LandBookModel", name := "burden", desc := "(IIII)I" } : Jvm.MethodName)) ∈ tw_G := tw_in (List.mem_of_getElem? (i := 1425) (by decide +kernel)) rfl
theorem ty_792 : (Jvm.Cond.selects "LandBookModel" ({ cls := "LandBookModel", name := "burden", desc := "(IIII)I" } : Jvm.MethodName) ({ cls := "LandBookModel", name := "burden", desc := "(IIII)I" } : Jvm.MethodName)) ∈ tw_G := tw_in (List.mem_of_getElem? (i := 1426) (by decide +kernel)) rfl
theorem ty_793 : (Jvm.Cond.code ({ cls := "LandBookModel", name := "burden", desc := "(IIII)I" } : Jvm.MethodName) prog_13_method_67_code (7 : Nat) (Option.some Jvm.ClassFile.FieldType.int)) ∈ tw_G := tw_in (List.mem_of_getElem? (i := 1427) (by decide +kernel)) rfl
def st_burden (R : Nat → Nat → CS → MS → Prop) (vb : Nat) (f : Nat → Int64) (c n : Nat) (a1 a2 a3 a4 a5 a6 : Int) (T : CS) (S : MS) : Prop := ∃ mc ms : Nat, (c + mc ≤ 601024 ∧ n + ms ≤ 7293034) ∧ hx_burden (fun cd f1 T1 => inR cd ∧ wp_Mo_burden (fun b S1 => inR b ∧ S1.1 0 = cd ∧ (cd = 0 → f1 0 = lI b) ∧ R (c + mc) (n + ms) T1 S1) a1 a2 a3 a4 S) f mc ms vb a1 a2 a3 a4 T
set_option maxHeartbeats 4000000 in
set_option maxRecDepth 100000 in
theorem lc_burden (l : Launch) (hfl : l.flags = pinnedFlags ++ [noTraceFlag]) {D : va_G} {X : jx_C} {k : CK} {kL : ClassId} {kc : Nat → ClassId} {ad : Nat → Nat} {ho hm vb b L : Nat} {xs : Nat → Int32} {f : Nat → Int64} {T : CS} {S : MS} {c n : Nat} {R : Nat → Nat → CS → MS → Prop} {i : Int} (F : jfx X code 7 "LandBookLaw" 13 520 601024 7293034) (K : jkw k D kL kc X) (Z : jsx X b L xs) (hL : L ≤ 3584) (hi : 0 ≤ i ∧ i + 7 ≤ L) (hT : cs_ok k T) (hw : st_burden R vb f c n ((xs (i + 1).toNat).toInt) ((xs (i + 2).toNat).toInt) ((xs (i + 3).toNat).toInt) ((xs (i + 4).toNat).toInt) ((xs (i + 5).toNat).toInt) ((xs (i + 6).toNat).toInt) T S)
    (kk : ∀ (c1 n1 : Nat) (T1 : CS) (S1 : MS) (f1 : Nat → Int64), c1 ≤ 601024 → n1 ≤ 7293034 → R c1 n1 T1 S1 → cs_ok k T1 → jat l D X 7 1637 [(4, vi i), (3, .ref ho), (2, .ref hm), (1, .ref vb), (0, .ref b)] [] (lww k T1 ho kL f1 hm ad kc S1) c1 n1) : jat l D X 7 1029 [(4, vi i), (3, .ref ho), (2, .ref hm), (1, .ref vb), (0, .ref b)] [] (lww k T ho kL f hm ad kc S) c n := by
  obtain ⟨mc, ms, ⟨hr1, hr2⟩, hw⟩ := hw
  refine j_aload_n F 3 d_law_1029 rfl ?_
  refine j_aload_n F 4 d_law_1030 rfl ?_
  refine j_iload F 0 d_law_1031 rfl ?_
  refine j_iconst F d_law_1033 ?_
  refine j_iadd F d_law_1034 ?_
  refine w_sld F Z hL ⟨by omega, by omega⟩ d_law_1035 ?_
  refine j_aload_n F 4 d_law_1036 rfl ?_
  refine j_iload F 0 d_law_1037 rfl ?_
  refine j_iconst F d_law_1039 ?_
  refine j_iadd F d_law_1040 ?_
  refine w_sld F Z hL ⟨by omega, by omega⟩ d_law_1041 ?_
  refine j_aload_n F 4 d_law_1042 rfl ?_
  refine j_iload F 0 d_law_1043 rfl ?_
  refine j_iconst F d_law_1045 ?_
  refine j_iadd F d_law_1046 ?_
  refine w_sld F Z hL ⟨by omega, by omega⟩ d_law_1047 ?_
  refine j_aload_n F 4 d_law_1048 rfl ?_
  refine j_iload F 0 d_law_1049 rfl ?_
  refine j_iconst F d_law_1051 ?_
  refine j_iadd F d_law_1052 ?_
  refine w_sld F Z hL ⟨by omega, by omega⟩ d_law_1053 ?_
  refine j_aload_n F 1 d_law_1054 rfl ?_
  refine w_callH F K hT (c_H_burden l hfl hw) ty_787 ty_705 ty_788 ty_789 q_H_burden rfl ⟨by decide, by decide⟩ ⟨hr1, hr2⟩ rfl (Nat.le_of_ble_eq_true rfl) d_law_1055 (fun cd f1 T1 hw hT1 => ?_)
  obtain ⟨hcd, hw⟩ := hw
  refine j_istore F [(5, vi cd), (4, vi i), (3, .ref ho), (2, .ref hm), (1, .ref vb), (0, .ref b)] d_law_1058 (by decide) rfl ?_
  refine j_aload_n F 3 d_law_1060 rfl ?_
  refine j_aload_n F 5 d_law_1061 rfl ?_
  refine j_iload F 1 d_law_1062 rfl ?_
  refine j_iconst F d_law_1064 ?_
  refine j_iadd F d_law_1065 ?_
  refine w_sld F Z hL ⟨by omega, by omega⟩ d_law_1066 ?_
  refine j_aload_n F 5 d_law_1067 rfl ?_
  refine j_iload F 1 d_law_1068 rfl ?_
  refine j_iconst F d_law_1070 ?_
  refine j_iadd F d_law_1071 ?_
  refine w_sld F Z hL ⟨by omega, by omega⟩ d_law_1072 ?_
  refine j_aload_n F 5 d_law_1073 rfl ?_
  refine j_iload F 1 d_law_1074 rfl ?_
  refine j_iconst F d_law_1076 ?_
  refine j_iadd F d_law_1077 ?_
  refine w_sld F Z hL ⟨by omega, by omega⟩ d_law_1078 ?_
  refine j_aload_n F 5 d_law_1079 rfl ?_
  refine j_iload F 1 d_law_1080 rfl ?_
  refine j_iconst F d_law_1082 ?_
  refine j_iadd F d_law_1083 ?_
  refine w_sld F Z hL ⟨by omega, by omega⟩ d_law_1084 ?_
  refine w_callM F K (c_Mo_burden l hw) (tw_gV ty_790 ty_791 ty_792 ty_711 ty_793) q_Mo_burden rfl ⟨by decide, by decide⟩ ⟨hr1, hr2⟩ rfl (Nat.le_of_ble_eq_true rfl) d_law_1085 (fun bb S1 hw => ?_)
  obtain ⟨hbb, hth, hout, hR⟩ := hw
  refine j_istore F [(6, vi bb), (5, vi cd), (4, vi i), (3, .ref ho), (2, .ref hm), (1, .ref vb), (0, .ref b)] d_law_1088 (by decide) rfl ?_
  refine j_aload_n F 4 d_law_1090 rfl ?_
  refine w_callM F K (c_Mo_thrown (post := fun v S2 => v = S1.1 0 ∧ S2 = S1) l ⟨rfl, rfl⟩) (tw_gV ty_713 ty_714 ty_715 ty_711 ty_716) q_Mo_thrown rfl ⟨by decide, by decide⟩ ⟨hr1, hr2⟩ rfl (Nat.le_of_ble_eq_true rfl) d_law_1091 (fun tv S2 hw => ?_)
  obtain ⟨rfl, rfl⟩ := hw
  rw [hth]
  refine j_iload F 1 d_law_1094 rfl ?_
  refine j_icmp_eq F 1101 hcd hcd d_law_1096 rfl (fun _ => ?_) (fun hh => absurd rfl hh)
  refine j_iload F 1 d_law_1101 rfl ?_
  refine j_if_ne F 1118 hcd d_law_1103 rfl (fun hh => ?_) (fun hh => ?_)
  · skip
    refine j_goto F 1637 d_law_1118 rfl ?_
    refine j_sub [2, 3, 4, 5, 6] rfl ?_
    exact kk _ _ _ _ _ hr1 hr2 hR hT1
  · have hf := hout hh
    refine j_aload_n F 3 d_law_1106 rfl ?_
    refine j_iconst F d_law_1107 ?_
    refine w_lald F K hf d_law_1108 ?_
    refine j_iload F 0 d_law_1109 rfl ?_
    refine j_i2l F hbb d_law_1111 ?_
    refine j_lcmp_eq F 1118 (inR_L hbb) (inR_L hbb) d_law_1112 d_law_1113 rfl (fun _ => ?_) (fun hh2 => absurd rfl hh2)
    refine j_goto F 1637 d_law_1118 rfl ?_
    refine j_sub [2, 3, 4, 5, 6] rfl ?_
    exact kk _ _ _ _ _ hr1 hr2 hR hT1
