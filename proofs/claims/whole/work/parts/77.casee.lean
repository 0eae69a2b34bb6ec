theorem ty_794 : (Jvm.Cond.codeWith ({ cls := "LandBookLaw", name := "parent", desc := "(LLandBook;II[J)I" } : Jvm.MethodName) method_15_code (5 : Nat) (Option.some Jvm.ClassFile.FieldType.int) [((0 : Nat), (10 : Nat), (13 : Nat), (21 : Nat)), ((0 : Nat), (10 : Nat), (17 : Nat), (26 : Nat))]) ∈ tw_G := tw_in (List.mem_of_getElem? (i := 935) (by decide +kernel)) rfl
theorem ty_795 : (Jvm.Cond.methodLink "LandBookLaw" (137 : Nat) ({ cls := "LandBookLaw", name := "parent", desc := "(LLandBook;II[J)I" } : Jvm.MethodName)) ∈ tw_G := tw_in (List.mem_of_getElem? (i := 933) (by decide +kernel)) rfl
theorem ty_796 : (Jvm.Cond.static ({ cls := "LandBookLaw", name := "parent", desc := "(LLandBook;II[J)I" } : Jvm.MethodName)) ∈ tw_G := tw_in (List.mem_of_getElem? (i := 934) (by decide +kernel)) rfl
theorem ty_797 : (Jvm.Cond.methodLink "LandBookLaw" (139 : Nat) ({ cls := "LandBookModel", name := "parent", desc := "(II)I" } : Jvm.MethodName)) ∈ tw_G := tw_in (List.mem_of_getElem? (i := 1428) (by decide +kernel)) rfl
theorem ty_798 : (Jvm.Cond.instanceMethod ({ cls := "LandBookModel", name := "parent", desc := "(II)I" } : Jvm.MethodName)) ∈ tw_G := tw_in (List.mem_of_getElem? (i := 1429) (by decide +kernel)) rfl
theorem ty_799 : (Jvm.Cond.selects "LandBookModel" ({ cls := "LandBookModel", name := "parent", desc := "(II)I" } : Jvm.MethodName) ({ cls := "LandBookModel", name := "parent", desc := "(II)I" } : Jvm.MethodName)) ∈ tw_G := tw_in (List.mem_of_getElem? (i := 1430) (by decide +kernel)) rfl
theorem ty_800 : (Jvm.Cond.code ({ cls := "LandBookModel", name := "parent", desc := "(II)I" } : Jvm.MethodName) prog_13_method_68_code (3 : Nat) (Option.some Jvm.ClassFile.FieldType.int)) ∈ tw_G := tw_in (List.mem_of_getElem? (i := 1431) (by decide +kernel)) rfl
def st_parent (R : Nat → Nat → CS → MS → Prop) (vb : Nat) (f : Nat → Int64) (c n : Nat) (a1 a2 a3 a4 a5 a6 : Int) (T : CS) (S : MS) : Prop := ∃ mc ms : Nat, (c + mc ≤ 601024 ∧ n + ms ≤ 7293034) ∧ hx_parent (fun cd f1 T1 => inR cd ∧ wp_Mo_parent (fun b S1 => inR b ∧ S1.1 0 = cd ∧ (cd = 0 → f1 0 = lI b) ∧ R (c + mc) (n + ms) T1 S1) a1 a2 S) f mc ms vb a1 a2 T
set_option maxHeartbeats 4000000 in
set_option maxRecDepth 100000 in
theorem lc_parent (l : Launch) (hfl : l.flags = pinnedFlags ++ [noTraceFlag]) {D : va_G} {X : jx_C} {k : CK} {kL : ClassId} {kc : Nat → ClassId} {ad : Nat → Nat} {ho hm vb b L : Nat} {xs : Nat → Int32} {f : Nat → Int64} {T : CS} {S : MS} {c n : Nat} {R : Nat → Nat → CS → MS → Prop} {i : Int} (F : jfx X code 7 "LandBookLaw" 13 520 601024 7293034) (K : jkw k D kL kc X) (Z : jsx X b L xs) (hL : L ≤ 3584) (hi : 0 ≤ i ∧ i + 7 ≤ L) (hT : cs_ok k T) (hw : st_parent R vb f c n ((xs (i + 1).toNat).toInt) ((xs (i + 2).toNat).toInt) ((xs (i + 3).toNat).toInt) ((xs (i + 4).toNat).toInt) ((xs (i + 5).toNat).toInt) ((xs (i + 6).toNat).toInt) T S)
    (kk : ∀ (c1 n1 : Nat) (T1 : CS) (S1 : MS) (f1 : Nat → Int64), c1 ≤ 601024 → n1 ≤ 7293034 → R c1 n1 T1 S1 → cs_ok k T1 → jat l D X 7 1637 [(4, vi i), (3, .ref ho), (2, .ref hm), (1, .ref vb), (0, .ref b)] [] (lww k T1 ho kL f1 hm ad kc S1) c1 n1) : jat l D X 7 1121 [(4, vi i), (3, .ref ho), (2, .ref hm), (1, .ref vb), (0, .ref b)] [] (lww k T ho kL f hm ad kc S) c n := by
  obtain ⟨mc, ms, ⟨hr1, hr2⟩, hw⟩ := hw
  refine j_aload_n F 3 d_law_1121 rfl ?_
  refine j_aload_n F 4 d_law_1122 rfl ?_
  refine j_iload F 0 d_law_1123 rfl ?_
  refine j_iconst F d_law_1125 ?_
  refine j_iadd F d_law_1126 ?_
  refine w_sld F Z hL ⟨by omega, by omega⟩ d_law_1127 ?_
  refine j_aload_n F 4 d_law_1128 rfl ?_
  refine j_iload F 0 d_law_1129 rfl ?_
  refine j_iconst F d_law_1131 ?_
  refine j_iadd F d_law_1132 ?_
  refine w_sld F Z hL ⟨by omega, by omega⟩ d_law_1133 ?_
  refine j_aload_n F 1 d_law_1134 rfl ?_
  refine w_callH F K hT (c_H_parent l hfl hw) ty_794 ty_705 ty_795 ty_796 q_H_parent rfl ⟨by decide, by decide⟩ ⟨hr1, hr2⟩ rfl (Nat.le_of_ble_eq_true rfl) d_law_1135 (fun cd f1 T1 hw hT1 => ?_)
  obtain ⟨hcd, hw⟩ := hw
  refine j_istore F [(5, vi cd), (4, vi i), (3, .ref ho), (2, .ref hm), (1, .ref vb), (0, .ref b)] d_law_1138 (by decide) rfl ?_
  refine j_aload_n F 3 d_law_1140 rfl ?_
  refine j_aload_n F 5 d_law_1141 rfl ?_
  refine j_iload F 1 d_law_1142 rfl ?_
  refine j_iconst F d_law_1144 ?_
  refine j_iadd F d_law_1145 ?_
  refine w_sld F Z hL ⟨by omega, by omega⟩ d_law_1146 ?_
  refine j_aload_n F 5 d_law_1147 rfl ?_
  refine j_iload F 1 d_law_1148 rfl ?_
  refine j_iconst F d_law_1150 ?_
  refine j_iadd F d_law_1151 ?_
  refine w_sld F Z hL ⟨by omega, by omega⟩ d_law_1152 ?_
  refine w_callM F K (c_Mo_parent l hw) (tw_gV ty_797 ty_798 ty_799 ty_711 ty_800) q_Mo_parent rfl ⟨by decide, by decide⟩ ⟨hr1, hr2⟩ rfl (Nat.le_of_ble_eq_true rfl) d_law_1153 (fun bb S1 hw => ?_)
  obtain ⟨hbb, hth, hout, hR⟩ := hw
  refine j_istore F [(6, vi bb), (5, vi cd), (4, vi i), (3, .ref ho), (2, .ref hm), (1, .ref vb), (0, .ref b)] d_law_1156 (by decide) rfl ?_
  refine j_aload_n F 4 d_law_1158 rfl ?_
  refine w_callM F K (c_Mo_thrown (post := fun v S2 => v = S1.1 0 ∧ S2 = S1) l ⟨rfl, rfl⟩) (tw_gV ty_713 ty_714 ty_715 ty_711 ty_716) q_Mo_thrown rfl ⟨by decide, by decide⟩ ⟨hr1, hr2⟩ rfl (Nat.le_of_ble_eq_true rfl) d_law_1159 (fun tv S2 hw => ?_)
  obtain ⟨rfl, rfl⟩ := hw
  rw [hth]
  refine j_iload F 1 d_law_1162 rfl ?_
  refine j_icmp_eq F 1169 hcd hcd d_law_1164 rfl (fun _ => ?_) (fun hh => absurd rfl hh)
  refine j_iload F 1 d_law_1169 rfl ?_
  refine j_if_ne F 1186 hcd d_law_1171 rfl (fun hh => ?_) (fun hh => ?_)
  · skip
    refine j_goto F 1637 d_law_1186 rfl ?_
    refine j_sub [2, 3, 4, 5, 6] rfl ?_
    exact kk _ _ _ _ _ hr1 hr2 hR hT1
  · have hf := hout hh
    refine j_aload_n F 3 d_law_1174 rfl ?_
    refine j_iconst F d_law_1175 ?_
    refine w_lald F K hf d_law_1176 ?_
    refine j_iload F 0 d_law_1177 rfl ?_
    refine j_i2l F hbb d_law_1179 ?_
    refine j_lcmp_eq F 1186 (inR_L hbb) (inR_L hbb) d_law_1180 d_law_1181 rfl (fun _ => ?_) (fun hh2 => absurd rfl hh2)
    refine j_goto F 1637 d_law_1186 rfl ?_
    refine j_sub [2, 3, 4, 5, 6] rfl ?_
    exact kk _ _ _ _ _ hr1 hr2 hR hT1
theorem ty_801 : (Jvm.Cond.codeWith ({ cls := "LandBookLaw", name := "child", desc := "(LLandBook;II[J)I" } : Jvm.MethodName) method_16_code (5 : Nat) (Option.some Jvm.ClassFile.FieldType.int) [((0 : Nat), (10 : Nat), (13 : Nat), (21 : Nat)), ((0 : Nat), (10 : Nat), (17 : Nat), (26 : Nat))]) ∈ tw_G := tw_in (List.mem_of_getElem? (i := 950) (by decide +kernel)) rfl
theorem ty_802 : (Jvm.Cond.methodLink "LandBookLaw" (140 : Nat) ({ cls := "LandBookLaw", name := "child", desc := "(LLandBook;II[J)I" } : Jvm.MethodName)) ∈ tw_G := tw_in (List.mem_of_getElem? (i := 948) (by decide +kernel)) rfl
theorem ty_803 : (Jvm.Cond.static ({ cls := "LandBookLaw", name := "child", desc := "(LLandBook;II[J)I" } : Jvm.MethodName)) ∈ tw_G := tw_in (List.mem_of_getElem? (i := 949) (by decide +kernel)) rfl
theorem ty_804 : (Jvm.Cond.methodLink "LandBookLaw" (142 : Nat) ({ cls := "LandBookModel", name := "child", desc := "(II)I" } : Jvm.MethodName)) ∈ tw_G := tw_in (List.mem_of_getElem? (i := 1432) (by decide +kernel)) rfl
theorem ty_805 : (Jvm.Cond.instanceMethod ({ cls := "LandBookModel", name := "child", desc := "(II)I" } : Jvm.MethodName)) ∈ tw_G := tw_in (List.mem_of_getElem? (i := 1433) (by decide +kernel)) rfl
theorem ty_806 : (Jvm.Cond.selects "LandBookModel" ({ cls := "LandBookModel", name := "child", desc := "(II)I" } : Jvm.MethodName) ({ cls := "LandBookModel", name := "child", desc := "(II)I" } : Jvm.MethodName)) ∈ tw_G := tw_in (List.mem_of_getElem? (i := 1434) (by decide +kernel)) rfl
theorem ty_807 : (Jvm.Cond.code ({ cls := "LandBookModel", name := "child", desc := "(II)I" } : Jvm.MethodName) prog_13_method_69_code (5 : Nat) (Option.some Jvm.ClassFile.FieldType.int)) ∈ tw_G := tw_in (List.mem_of_getElem? (i := 1435) (by decide +kernel)) rfl
def st_child (R : Nat → Nat → CS → MS → Prop) (vb : Nat) (f : Nat → Int64) (c n : Nat) (a1 a2 a3 a4 a5 a6 : Int) (T : CS) (S : MS) : Prop := ∃ mc ms : Nat, (c + mc ≤ 601024 ∧ n + ms ≤ 7293034) ∧ hx_child (fun cd f1 T1 => inR cd ∧ wp_Mo_child (fun b S1 => inR b ∧ S1.1 0 = cd ∧ (cd = 0 → f1 0 = lI b) ∧ R (c + mc) (n + ms) T1 S1) a1 a2 S) f mc ms vb a1 a2 T
set_option maxHeartbeats 4000000 in
set_option maxRecDepth 100000 in
theorem lc_child (l : Launch) (hfl : l.flags = pinnedFlags ++ [noTraceFlag]) {D : va_G} {X : jx_C} {k : CK} {kL : ClassId} {kc : Nat → ClassId} {ad : Nat → Nat} {ho hm vb b L : Nat} {xs : Nat → Int32} {f : Nat → Int64} {T : CS} {S : MS} {c n : Nat} {R : Nat → Nat → CS → MS → Prop} {i : Int} (F : jfx X code 7 "LandBookLaw" 13 520 601024 7293034) (K : jkw k D kL kc X) (Z : jsx X b L xs) (hL : L ≤ 3584) (hi : 0 ≤ i ∧ i + 7 ≤ L) (hT : cs_ok k T) (hw : st_child R vb f c n ((xs (i + 1).toNat).toInt) ((xs (i + 2).toNat).toInt) ((xs (i + 3).toNat).toInt) ((xs (i + 4).toNat).toInt) ((xs (i + 5).toNat).toInt) ((xs (i + 6).toNat).toInt) T S)
    (kk : ∀ (c1 n1 : Nat) (T1 : CS) (S1 : MS) (f1 : Nat → Int64), c1 ≤ 601024 → n1 ≤ 7293034 → R c1 n1 T1 S1 → cs_ok k T1 → jat l D X 7 1637 [(4, vi i), (3, .ref ho), (2, .ref hm), (1, .ref vb), (0, .ref b)] [] (lww k T1 ho kL f1 hm ad kc S1) c1 n1) : jat l D X 7 1189 [(4, vi i), (3, .ref ho), (2, .ref hm), (1, .ref vb), (0, .ref b)] [] (lww k T ho kL f hm ad kc S) c n := by
  obtain ⟨mc, ms, ⟨hr1, hr2⟩, hw⟩ := hw
  refine j_aload_n F 3 d_law_1189 rfl ?_
  refine j_aload_n F 4 d_law_1190 rfl ?_
  refine j_iload F 0 d_law_1191 rfl ?_
  refine j_iconst F d_law_1193 ?_
  refine j_iadd F d_law_1194 ?_
  refine w_sld F Z hL ⟨by omega, by omega⟩ d_law_1195 ?_
  refine j_aload_n F 4 d_law_1196 rfl ?_
  refine j_iload F 0 d_law_1197 rfl ?_
  refine j_iconst F d_law_1199 ?_
  refine j_iadd F d_law_1200 ?_
  refine w_sld F Z hL ⟨by omega, by omega⟩ d_law_1201 ?_
  refine j_aload_n F 1 d_law_1202 rfl ?_
  refine w_callH F K hT (c_H_child l hfl hw) ty_801 ty_705 ty_802 ty_803 q_H_child rfl ⟨by decide, by decide⟩ ⟨hr1, hr2⟩ rfl (Nat.le_of_ble_eq_true rfl) d_law_1203 (fun cd f1 T1 hw hT1 => ?_)
  obtain ⟨hcd, hw⟩ := hw
  refine j_istore F [(5, vi cd), (4, vi i), (3, .ref ho), (2, .ref hm), (1, .ref vb), (0, .ref b)] d_law_1206 (by decide) rfl ?_
  refine j_aload_n F 3 d_law_1208 rfl ?_
  refine j_aload_n F 5 d_law_1209 rfl ?_
  refine j_iload F 1 d_law_1210 rfl ?_
  refine j_iconst F d_law_1212 ?_
  refine j_iadd F d_law_1213 ?_
  refine w_sld F Z hL ⟨by omega, by omega⟩ d_law_1214 ?_
  refine j_aload_n F 5 d_law_1215 rfl ?_
  refine j_iload F 1 d_law_1216 rfl ?_
  refine j_iconst F d_law_1218 ?_
  refine j_iadd F d_law_1219 ?_
  refine w_sld F Z hL ⟨by omega, by omega⟩ d_law_1220 ?_
  refine w_callM F K (c_Mo_child l hw) (tw_gV ty_804 ty_805 ty_806 ty_711 ty_807) q_Mo_child rfl ⟨by decide, by decide⟩ ⟨hr1, hr2⟩ rfl (Nat.le_of_ble_eq_true rfl) d_law_1221 (fun bb S1 hw => ?_)
  obtain ⟨hbb, hth, hout, hR⟩ := hw
  refine j_istore F [(6, vi bb), (5, vi cd), (4, vi i), (3, .ref ho), (2, .ref hm), (1, .ref vb), (0, .ref b)] d_law_1224 (by decide) rfl ?_
  refine j_aload_n F 4 d_law_1226 rfl ?_
  refine w_callM F K (c_Mo_thrown (post := fun v S2 => v = S1.1 0 ∧ S2 = S1) l ⟨rfl, rfl⟩) (tw_gV ty_713 ty_714 ty_715 ty_711 ty_716) q_Mo_thrown rfl ⟨by decide, by decide⟩ ⟨hr1, hr2⟩ rfl (Nat.le_of_ble_eq_true rfl) d_law_1227 (fun tv S2 hw => ?_)
  obtain ⟨rfl, rfl⟩ := hw
  rw [hth]
  refine j_iload F 1 d_law_1230 rfl ?_
  refine j_icmp_eq F 1237 hcd hcd d_law_1232 rfl (fun _ => ?_) (fun hh => absurd rfl hh)
  refine j_iload F 1 d_law_1237 rfl ?_
  refine j_if_ne F 1254 hcd d_law_1239 rfl (fun hh => ?_) (fun hh => ?_)
  · skip
    refine j_goto F 1637 d_law_1254 rfl ?_
    refine j_sub [2, 3, 4, 5, 6] rfl ?_
    exact kk _ _ _ _ _ hr1 hr2 hR hT1
  · have hf := hout hh
    refine j_aload_n F 3 d_law_1242 rfl ?_
    refine j_iconst F d_law_1243 ?_
    refine w_lald F K hf d_law_1244 ?_
    refine j_iload F 0 d_law_1245 rfl ?_
    refine j_i2l F hbb d_law_1247 ?_
    refine j_lcmp_eq F 1254 (inR_L hbb) (inR_L hbb) d_law_1248 d_law_1249 rfl (fun _ => ?_) (fun hh2 => absurd rfl hh2)
    refine j_goto F 1637 d_law_1254 rfl ?_
    refine j_sub [2, 3, 4, 5, 6] rfl ?_
    exact kk _ _ _ _ _ hr1 hr2 hR hT1
theorem ty_808 : (Jvm.Cond.codeWith ({ cls := "LandBookLaw", name := "corners", desc := "(LLandBook;I[J)I" } : Jvm.MethodName) method_17_code (4 : Nat) (Option.some Jvm.ClassFile.FieldType.int) [((0 : Nat), (9 : Nat), (12 : Nat), (21 : Nat)), ((0 : Nat), (9 : Nat), (15 : Nat), (26 : Nat))]) ∈ tw_G := tw_in (List.mem_of_getElem? (i := 957) (by decide +kernel)) rfl
theorem ty_809 : (Jvm.Cond.methodLink "LandBookLaw" (143 : Nat) ({ cls := "LandBookLaw", name := "corners", desc := "(LLandBook;I[J)I" } : Jvm.MethodName)) ∈ tw_G := tw_in (List.mem_of_getElem? (i := 955) (by decide +kernel)) rfl
theorem ty_810 : (Jvm.Cond.static ({ cls := "LandBookLaw", name := "corners", desc := "(LLandBook;I[J)I" } : Jvm.MethodName)) ∈ tw_G := tw_in (List.mem_of_getElem? (i := 956) (by decide +kernel)) rfl
theorem ty_811 : (Jvm.Cond.methodLink "LandBookLaw" (146 : Nat) ({ cls := "LandBookModel", name := "corners", desc := "(I)I" } : Jvm.MethodName)) ∈ tw_G := tw_in (List.mem_of_getElem? (i := 1436) (by decide +kernel)) rfl
theorem ty_812 : (Jvm.Cond.instanceMethod ({ cls := "LandBookModel", name := "corners", desc := "(I)I" } : Jvm.MethodName)) ∈ tw_G := tw_in (List.mem_of_getElem? (i := 1437) (by decide +kernel)) rfl
theorem ty_813 : (Jvm.Cond.selects "LandBookModel" ({ cls := "LandBookModel", name := "corners", desc := "(I)I" } : Jvm.MethodName) ({ cls := "LandBookModel", name := "corners", desc := "(I)I" } : Jvm.MethodName)) ∈ tw_G := tw_in (List.mem_of_getElem? (i := 1438) (by decide +kernel)) rfl
theorem ty_814 : (Jvm.Cond.code ({ cls := "LandBookModel", name := "corners", desc := "(I)I" } : Jvm.MethodName) prog_13_method_70_code (2 : Nat) (Option.some Jvm.ClassFile.FieldType.int)) ∈ tw_G := tw_in (List.mem_of_getElem? (i := 1439) (by decide +kernel)) rfl
def st_corners (R : Nat → Nat → CS → MS → Prop) (vb : Nat) (f : Nat → Int64) (c n : Nat) (a1 a2 a3 a4 a5 a6 : Int) (T : CS) (S : MS) : Prop := ∃ mc ms : Nat, (c + mc ≤ 601024 ∧ n + ms ≤ 7293034) ∧ hx_corners (fun cd f1 T1 => inR cd ∧ wp_Mo_corners (fun b S1 => inR b ∧ S1.1 0 = cd ∧ (cd = 0 → f1 0 = lI b) ∧ R (c + mc) (n + ms) T1 S1) a1 S) f mc ms vb a1 T
set_option maxHeartbeats 4000000 in
set_option maxRecDepth 100000 in
theorem lc_corners (l : Launch) (hfl : l.flags = pinnedFlags ++ [noTraceFlag]) {D : va_G} {X : jx_C} {k : CK} {kL : ClassId} {kc : Nat → ClassId} {ad : Nat → Nat} {ho hm vb b L : Nat} {xs : Nat → Int32} {f : Nat → Int64} {T : CS} {S : MS} {c n : Nat} {R : Nat → Nat → CS → MS → Prop} {i : Int} (F : jfx X code 7 "LandBookLaw" 13 520 601024 7293034) (K : jkw k D kL kc X) (Z : jsx X b L xs) (hL : L ≤ 3584) (hi : 0 ≤ i ∧ i + 7 ≤ L) (hT : cs_ok k T) (hw : st_corners R vb f c n ((xs (i + 1).toNat).toInt) ((xs (i + 2).toNat).toInt) ((xs (i + 3).toNat).toInt) ((xs (i + 4).toNat).toInt) ((xs (i + 5).toNat).toInt) ((xs (i + 6).toNat).toInt) T S)
    (kk : ∀ (c1 n1 : Nat) (T1 : CS) (S1 : MS) (f1 : Nat → Int64), c1 ≤ 601024 → n1 ≤ 7293034 → R c1 n1 T1 S1 → cs_ok k T1 → jat l D X 7 1637 [(4, vi i), (3, .ref ho), (2, .ref hm), (1, .ref vb), (0, .ref b)] [] (lww k T1 ho kL f1 hm ad kc S1) c1 n1) : jat l D X 7 1257 [(4, vi i), (3, .ref ho), (2, .ref hm), (1, .ref vb), (0, .ref b)] [] (lww k T ho kL f hm ad kc S) c n := by
  obtain ⟨mc, ms, ⟨hr1, hr2⟩, hw⟩ := hw
  refine j_aload_n F 3 d_law_1257 rfl ?_
  refine j_aload_n F 4 d_law_1258 rfl ?_
  refine j_iload F 0 d_law_1259 rfl ?_
  refine j_iconst F d_law_1261 ?_
  refine j_iadd F d_law_1262 ?_
  refine w_sld F Z hL ⟨by omega, by omega⟩ d_law_1263 ?_
  refine j_aload_n F 1 d_law_1264 rfl ?_
  refine w_callH F K hT (c_H_corners l hfl hw) ty_808 ty_705 ty_809 ty_810 q_H_corners rfl ⟨by decide, by decide⟩ ⟨hr1, hr2⟩ rfl (Nat.le_of_ble_eq_true rfl) d_law_1265 (fun cd f1 T1 hw hT1 => ?_)
  obtain ⟨hcd, hw⟩ := hw
  refine j_istore F [(5, vi cd), (4, vi i), (3, .ref ho), (2, .ref hm), (1, .ref vb), (0, .ref b)] d_law_1268 (by decide) rfl ?_
  refine j_aload_n F 3 d_law_1270 rfl ?_
  refine j_aload_n F 5 d_law_1271 rfl ?_
  refine j_iload F 1 d_law_1272 rfl ?_
  refine j_iconst F d_law_1274 ?_
  refine j_iadd F d_law_1275 ?_
  refine w_sld F Z hL ⟨by omega, by omega⟩ d_law_1276 ?_
  refine w_callM F K (c_Mo_corners l hw) (tw_gV ty_811 ty_812 ty_813 ty_711 ty_814) q_Mo_corners rfl ⟨by decide, by decide⟩ ⟨hr1, hr2⟩ rfl (Nat.le_of_ble_eq_true rfl) d_law_1277 (fun bb S1 hw => ?_)
  obtain ⟨hbb, hth, hout, hR⟩ := hw
  refine j_istore F [(6, vi bb), (5, vi cd), (4, vi i), (3, .ref ho), (2, .ref hm), (1, .ref vb), (0, .ref b)] d_law_1280 (by decide) rfl ?_
  refine j_aload_n F 4 d_law_1282 rfl ?_
  refine w_callM F K (c_Mo_thrown (post := fun v S2 => v = S1.1 0 ∧ S2 = S1) l ⟨rfl, rfl⟩) (tw_gV ty_713 ty_714 ty_715 ty_711 ty_716) q_Mo_thrown rfl ⟨by decide, by decide⟩ ⟨hr1, hr2⟩ rfl (Nat.le_of_ble_eq_true rfl) d_law_1283 (fun tv S2 hw => ?_)
  obtain ⟨rfl, rfl⟩ := hw
  rw [hth]
  refine j_iload F 1 d_law_1286 rfl ?_
  refine j_icmp_eq F 1293 hcd hcd d_law_1288 rfl (fun _ => ?_) (fun hh => absurd rfl hh)
  refine j_iload F 1 d_law_1293 rfl ?_
  refine j_if_ne F 1310 hcd d_law_1295 rfl (fun hh => ?_) (fun hh => ?_)
  · skip
    refine j_goto F 1637 d_law_1310 rfl ?_
    refine j_sub [2, 3, 4, 5, 6] rfl ?_
    exact kk _ _ _ _ _ hr1 hr2 hR hT1
  · have hf := hout hh
    refine j_aload_n F 3 d_law_1298 rfl ?_
    refine j_iconst F d_law_1299 ?_
    refine w_lald F K hf d_law_1300 ?_
    refine j_iload F 0 d_law_1301 rfl ?_
    refine j_i2l F hbb d_law_1303 ?_
    refine j_lcmp_eq F 1310 (inR_L hbb) (inR_L hbb) d_law_1304 d_law_1305 rfl (fun _ => ?_) (fun hh2 => absurd rfl hh2)
    refine j_goto F 1637 d_law_1310 rfl ?_
    refine j_sub [2, 3, 4, 5, 6] rfl ?_
    exact kk _ _ _ _ _ hr1 hr2 hR hT1
