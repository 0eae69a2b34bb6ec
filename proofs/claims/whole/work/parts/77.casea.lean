theorem inR_L {a : Int} (h : inR a) : inL a := by unfold inR at h; unfold inL; omega
theorem ty_704 : (Jvm.Cond.codeWith ({ cls := "LandBookLaw", name := "point", desc := "(LLandBook;II[J)I" } : Jvm.MethodName) method_3_code (5 : Nat) (Option.some Jvm.ClassFile.FieldType.int) [((0 : Nat), (10 : Nat), (13 : Nat), (13 : Nat)), ((0 : Nat), (10 : Nat), (17 : Nat), (15 : Nat))]) ∈ tw_G := tw_in (List.mem_of_getElem? (i := 253) (by decide +kernel)) rfl
theorem ty_705 : (Jvm.Cond.initialized "LandBookLaw") ∈ tw_G := tw_in (List.mem_of_getElem? (i := 59) (by decide +kernel)) rfl
theorem ty_706 : (Jvm.Cond.methodLink "LandBookLaw" (91 : Nat) ({ cls := "LandBookLaw", name := "point", desc := "(LLandBook;II[J)I" } : Jvm.MethodName)) ∈ tw_G := tw_in (List.mem_of_getElem? (i := 251) (by decide +kernel)) rfl
theorem ty_707 : (Jvm.Cond.static ({ cls := "LandBookLaw", name := "point", desc := "(LLandBook;II[J)I" } : Jvm.MethodName)) ∈ tw_G := tw_in (List.mem_of_getElem? (i := 252) (by decide +kernel)) rfl
theorem ty_708 : (Jvm.Cond.methodLink "LandBookLaw" (96 : Nat) ({ cls := "LandBookModel", name := "point", desc := "(II)I" } : Jvm.MethodName)) ∈ tw_G := tw_in (List.mem_of_getElem? (i := 1177) (by decide +kernel)) rfl
theorem ty_709 : (Jvm.Cond.instanceMethod ({ cls := "LandBookModel", name := "point", desc := "(II)I" } : Jvm.MethodName)) ∈ tw_G := tw_in (List.mem_of_getElem? (i := 1178) (by decide +kernel)) rfl
theorem ty_710 : (Jvm.Cond.selects "LandBookModel" ({ cls := "LandBookModel", name := "point", desc := "(II)I" } : Jvm.MethodName) ({ cls := "LandBookModel", name := "point", desc := "(II)I" } : Jvm.MethodName)) ∈ tw_G := tw_in (List.mem_of_getElem? (i := 1179) (by decide +kernel)) rfl
theorem ty_711 : (Jvm.Cond.initialized "LandBookModel") ∈ tw_G := tw_in (List.mem_of_getElem? (i := 69) (by decide +kernel)) rfl
theorem ty_712 : (Jvm.Cond.code ({ cls := "LandBookModel", name := "point", desc := "(II)I" } : Jvm.MethodName) prog_13_method_7_code (3 : Nat) (Option.some Jvm.ClassFile.FieldType.int)) ∈ tw_G := tw_in (List.mem_of_getElem? (i := 1180) (by decide +kernel)) rfl
theorem ty_713 : (Jvm.Cond.methodLink "LandBookLaw" (97 : Nat) ({ cls := "LandBookModel", name := "thrown", desc := "()I" } : Jvm.MethodName)) ∈ tw_G := tw_in (List.mem_of_getElem? (i := 1173) (by decide +kernel)) rfl
theorem ty_714 : (Jvm.Cond.instanceMethod ({ cls := "LandBookModel", name := "thrown", desc := "()I" } : Jvm.MethodName)) ∈ tw_G := tw_in (List.mem_of_getElem? (i := 1174) (by decide +kernel)) rfl
theorem ty_715 : (Jvm.Cond.selects "LandBookModel" ({ cls := "LandBookModel", name := "thrown", desc := "()I" } : Jvm.MethodName) ({ cls := "LandBookModel", name := "thrown", desc := "()I" } : Jvm.MethodName)) ∈ tw_G := tw_in (List.mem_of_getElem? (i := 1175) (by decide +kernel)) rfl
theorem ty_716 : (Jvm.Cond.code ({ cls := "LandBookModel", name := "thrown", desc := "()I" } : Jvm.MethodName) prog_13_method_2_code (1 : Nat) (Option.some Jvm.ClassFile.FieldType.int)) ∈ tw_G := tw_in (List.mem_of_getElem? (i := 1176) (by decide +kernel)) rfl
def st_point (R : Nat → Nat → CS → MS → Prop) (vb : Nat) (f : Nat → Int64) (c n : Nat) (a1 a2 a3 a4 a5 a6 : Int) (T : CS) (S : MS) : Prop := ∃ mc ms : Nat, (c + mc ≤ 601024 ∧ n + ms ≤ 7293034) ∧ hx_point (fun cd f1 T1 => inR cd ∧ wp_Mo_point (fun b S1 => inR b ∧ S1.1 0 = cd ∧ (cd = 0 → f1 0 = lI b) ∧ R (c + mc) (n + ms) T1 S1) a1 a2 S) f mc ms vb a1 a2 T
set_option maxHeartbeats 4000000 in
set_option maxRecDepth 100000 in
theorem lc_point (l : Launch) (hfl : l.flags = pinnedFlags ++ [noTraceFlag]) {D : va_G} {X : jx_C} {k : CK} {kL : ClassId} {kc : Nat → ClassId} {ad : Nat → Nat} {ho hm vb b L : Nat} {xs : Nat → Int32} {f : Nat → Int64} {T : CS} {S : MS} {c n : Nat} {R : Nat → Nat → CS → MS → Prop} {i : Int} (F : jfx X code 7 "LandBookLaw" 13 520 601024 7293034) (K : jkw k D kL kc X) (Z : jsx X b L xs) (hL : L ≤ 3584) (hi : 0 ≤ i ∧ i + 7 ≤ L) (hT : cs_ok k T) (hw : st_point R vb f c n ((xs (i + 1).toNat).toInt) ((xs (i + 2).toNat).toInt) ((xs (i + 3).toNat).toInt) ((xs (i + 4).toNat).toInt) ((xs (i + 5).toNat).toInt) ((xs (i + 6).toNat).toInt) T S)
    (kk : ∀ (c1 n1 : Nat) (T1 : CS) (S1 : MS) (f1 : Nat → Int64), c1 ≤ 601024 → n1 ≤ 7293034 → R c1 n1 T1 S1 → cs_ok k T1 → jat l D X 7 1637 [(4, vi i), (3, .ref ho), (2, .ref hm), (1, .ref vb), (0, .ref b)] [] (lww k T1 ho kL f1 hm ad kc S1) c1 n1) : jat l D X 7 140 [(4, vi i), (3, .ref ho), (2, .ref hm), (1, .ref vb), (0, .ref b)] [] (lww k T ho kL f hm ad kc S) c n := by
  obtain ⟨mc, ms, ⟨hr1, hr2⟩, hw⟩ := hw
  refine j_aload_n F 3 d_law_140 rfl ?_
  refine j_aload_n F 4 d_law_141 rfl ?_
  refine j_iload F 0 d_law_142 rfl ?_
  refine j_iconst F d_law_144 ?_
  refine j_iadd F d_law_145 ?_
  refine w_sld F Z hL ⟨by omega, by omega⟩ d_law_146 ?_
  refine j_aload_n F 4 d_law_147 rfl ?_
  refine j_iload F 0 d_law_148 rfl ?_
  refine j_iconst F d_law_150 ?_
  refine j_iadd F d_law_151 ?_
  refine w_sld F Z hL ⟨by omega, by omega⟩ d_law_152 ?_
  refine j_aload_n F 1 d_law_153 rfl ?_
  refine w_callH F K hT (c_H_point l hfl hw) ty_704 ty_705 ty_706 ty_707 q_H_point rfl ⟨by decide, by decide⟩ ⟨hr1, hr2⟩ rfl (Nat.le_of_ble_eq_true rfl) d_law_154 (fun cd f1 T1 hw hT1 => ?_)
  obtain ⟨hcd, hw⟩ := hw
  refine j_istore F [(5, vi cd), (4, vi i), (3, .ref ho), (2, .ref hm), (1, .ref vb), (0, .ref b)] d_law_157 (by decide) rfl ?_
  refine j_aload_n F 3 d_law_159 rfl ?_
  refine j_aload_n F 5 d_law_160 rfl ?_
  refine j_iload F 1 d_law_161 rfl ?_
  refine j_iconst F d_law_163 ?_
  refine j_iadd F d_law_164 ?_
  refine w_sld F Z hL ⟨by omega, by omega⟩ d_law_165 ?_
  refine j_aload_n F 5 d_law_166 rfl ?_
  refine j_iload F 1 d_law_167 rfl ?_
  refine j_iconst F d_law_169 ?_
  refine j_iadd F d_law_170 ?_
  refine w_sld F Z hL ⟨by omega, by omega⟩ d_law_171 ?_
  refine w_callM F K (c_Mo_point l hw) (tw_gV ty_708 ty_709 ty_710 ty_711 ty_712) q_Mo_point rfl ⟨by decide, by decide⟩ ⟨hr1, hr2⟩ rfl (Nat.le_of_ble_eq_true rfl) d_law_172 (fun bb S1 hw => ?_)
  obtain ⟨hbb, hth, hout, hR⟩ := hw
  refine j_istore F [(6, vi bb), (5, vi cd), (4, vi i), (3, .ref ho), (2, .ref hm), (1, .ref vb), (0, .ref b)] d_law_175 (by decide) rfl ?_
  refine j_aload_n F 4 d_law_177 rfl ?_
  refine w_callM F K (c_Mo_thrown (post := fun v S2 => v = S1.1 0 ∧ S2 = S1) l ⟨rfl, rfl⟩) (tw_gV ty_713 ty_714 ty_715 ty_711 ty_716) q_Mo_thrown rfl ⟨by decide, by decide⟩ ⟨hr1, hr2⟩ rfl (Nat.le_of_ble_eq_true rfl) d_law_178 (fun tv S2 hw => ?_)
  obtain ⟨rfl, rfl⟩ := hw
  rw [hth]
  refine j_iload F 1 d_law_181 rfl ?_
  refine j_icmp_eq F 188 hcd hcd d_law_183 rfl (fun _ => ?_) (fun hh => absurd rfl hh)
  refine j_iload F 1 d_law_188 rfl ?_
  refine j_if_ne F 205 hcd d_law_190 rfl (fun hh => ?_) (fun hh => ?_)
  · skip
    refine j_goto F 1637 d_law_205 rfl ?_
    refine j_sub [2, 3, 4, 5, 6] rfl ?_
    exact kk _ _ _ _ _ hr1 hr2 hR hT1
  · have hf := hout hh
    refine j_aload_n F 3 d_law_193 rfl ?_
    refine j_iconst F d_law_194 ?_
    refine w_lald F K hf d_law_195 ?_
    refine j_iload F 0 d_law_196 rfl ?_
    refine j_i2l F hbb d_law_198 ?_
    refine j_lcmp_eq F 205 (inR_L hbb) (inR_L hbb) d_law_199 d_law_200 rfl (fun _ => ?_) (fun hh2 => absurd rfl hh2)
    refine j_goto F 1637 d_law_205 rfl ?_
    refine j_sub [2, 3, 4, 5, 6] rfl ?_
    exact kk _ _ _ _ _ hr1 hr2 hR hT1
theorem ty_717 : (Jvm.Cond.codeWith ({ cls := "LandBookLaw", name := "open", desc := "(LLandBook;[J)I" } : Jvm.MethodName) method_4_code (3 : Nat) (Option.some Jvm.ClassFile.FieldType.int) [((0 : Nat), (15 : Nat), (18 : Nat), (21 : Nat))]) ∈ tw_G := tw_in (List.mem_of_getElem? (i := 358) (by decide +kernel)) rfl
theorem ty_718 : (Jvm.Cond.methodLink "LandBookLaw" (100 : Nat) ({ cls := "LandBookLaw", name := "open", desc := "(LLandBook;[J)I" } : Jvm.MethodName)) ∈ tw_G := tw_in (List.mem_of_getElem? (i := 356) (by decide +kernel)) rfl
theorem ty_719 : (Jvm.Cond.static ({ cls := "LandBookLaw", name := "open", desc := "(LLandBook;[J)I" } : Jvm.MethodName)) ∈ tw_G := tw_in (List.mem_of_getElem? (i := 357) (by decide +kernel)) rfl
theorem ty_720 : (Jvm.Cond.methodLink "LandBookLaw" (103 : Nat) ({ cls := "LandBookModel", name := "open", desc := "()Z" } : Jvm.MethodName)) ∈ tw_G := tw_in (List.mem_of_getElem? (i := 1184) (by decide +kernel)) rfl
theorem ty_721 : (Jvm.Cond.instanceMethod ({ cls := "LandBookModel", name := "open", desc := "()Z" } : Jvm.MethodName)) ∈ tw_G := tw_in (List.mem_of_getElem? (i := 1185) (by decide +kernel)) rfl
theorem ty_722 : (Jvm.Cond.selects "LandBookModel" ({ cls := "LandBookModel", name := "open", desc := "()Z" } : Jvm.MethodName) ({ cls := "LandBookModel", name := "open", desc := "()Z" } : Jvm.MethodName)) ∈ tw_G := tw_in (List.mem_of_getElem? (i := 1186) (by decide +kernel)) rfl
theorem ty_723 : (Jvm.Cond.code ({ cls := "LandBookModel", name := "open", desc := "()Z" } : Jvm.MethodName) prog_13_method_24_code (3 : Nat) (Option.some Jvm.ClassFile.FieldType.boolean)) ∈ tw_G := tw_in (List.mem_of_getElem? (i := 1187) (by decide +kernel)) rfl
def st_open (R : Nat → Nat → CS → MS → Prop) (vb : Nat) (f : Nat → Int64) (c n : Nat) (a1 a2 a3 a4 a5 a6 : Int) (T : CS) (S : MS) : Prop := ∃ mc ms : Nat, (c + mc ≤ 601024 ∧ n + ms ≤ 7293034) ∧ hx_open (fun cd f1 T1 => inR cd ∧ wp_Mo_open (fun b S1 => inR b ∧ S1.1 0 = cd ∧ (cd = 0 → f1 0 = lI (if b = 0 then 0 else 1)) ∧ R (c + mc) (n + ms) T1 S1)  S) f mc ms vb  T
set_option maxHeartbeats 4000000 in
set_option maxRecDepth 100000 in
theorem lc_open (l : Launch) (hfl : l.flags = pinnedFlags ++ [noTraceFlag]) {D : va_G} {X : jx_C} {k : CK} {kL : ClassId} {kc : Nat → ClassId} {ad : Nat → Nat} {ho hm vb b L : Nat} {xs : Nat → Int32} {f : Nat → Int64} {T : CS} {S : MS} {c n : Nat} {R : Nat → Nat → CS → MS → Prop} {i : Int} (F : jfx X code 7 "LandBookLaw" 13 520 601024 7293034) (K : jkw k D kL kc X) (Z : jsx X b L xs) (hL : L ≤ 3584) (hi : 0 ≤ i ∧ i + 7 ≤ L) (hT : cs_ok k T) (hw : st_open R vb f c n ((xs (i + 1).toNat).toInt) ((xs (i + 2).toNat).toInt) ((xs (i + 3).toNat).toInt) ((xs (i + 4).toNat).toInt) ((xs (i + 5).toNat).toInt) ((xs (i + 6).toNat).toInt) T S)
    (kk : ∀ (c1 n1 : Nat) (T1 : CS) (S1 : MS) (f1 : Nat → Int64), c1 ≤ 601024 → n1 ≤ 7293034 → R c1 n1 T1 S1 → cs_ok k T1 → jat l D X 7 1637 [(4, vi i), (3, .ref ho), (2, .ref hm), (1, .ref vb), (0, .ref b)] [] (lww k T1 ho kL f1 hm ad kc S1) c1 n1) : jat l D X 7 208 [(4, vi i), (3, .ref ho), (2, .ref hm), (1, .ref vb), (0, .ref b)] [] (lww k T ho kL f hm ad kc S) c n := by
  obtain ⟨mc, ms, ⟨hr1, hr2⟩, hw⟩ := hw
  refine j_aload_n F 3 d_law_208 rfl ?_
  refine j_aload_n F 1 d_law_209 rfl ?_
  refine w_callH F K hT (c_H_open l hfl hw) ty_717 ty_705 ty_718 ty_719 q_H_open rfl ⟨by decide, by decide⟩ ⟨hr1, hr2⟩ rfl (Nat.le_of_ble_eq_true rfl) d_law_210 (fun cd f1 T1 hw hT1 => ?_)
  obtain ⟨hcd, hw⟩ := hw
  refine j_istore F [(5, vi cd), (4, vi i), (3, .ref ho), (2, .ref hm), (1, .ref vb), (0, .ref b)] d_law_213 (by decide) rfl ?_
  refine j_aload_n F 3 d_law_215 rfl ?_
  refine w_callM F K (c_Mo_open l hw) (tw_gV ty_720 ty_721 ty_722 ty_711 ty_723) q_Mo_open rfl ⟨by decide, by decide⟩ ⟨hr1, hr2⟩ rfl (Nat.le_of_ble_eq_true rfl) d_law_216 (fun bb S1 hw => ?_)
  obtain ⟨hbb, hth, hout, hR⟩ := hw
  refine j_istore F [(6, vi bb), (5, vi cd), (4, vi i), (3, .ref ho), (2, .ref hm), (1, .ref vb), (0, .ref b)] d_law_219 (by decide) rfl ?_
  refine j_aload_n F 4 d_law_221 rfl ?_
  refine w_callM F K (c_Mo_thrown (post := fun v S2 => v = S1.1 0 ∧ S2 = S1) l ⟨rfl, rfl⟩) (tw_gV ty_713 ty_714 ty_715 ty_711 ty_716) q_Mo_thrown rfl ⟨by decide, by decide⟩ ⟨hr1, hr2⟩ rfl (Nat.le_of_ble_eq_true rfl) d_law_222 (fun tv S2 hw => ?_)
  obtain ⟨rfl, rfl⟩ := hw
  rw [hth]
  refine j_iload F 1 d_law_225 rfl ?_
  refine j_icmp_eq F 232 hcd hcd d_law_227 rfl (fun _ => ?_) (fun hh => absurd rfl hh)
  refine j_iload F 1 d_law_232 rfl ?_
  refine j_if_ne F 256 hcd d_law_234 rfl (fun hh => ?_) (fun hh => ?_)
  · skip
    refine j_goto F 1637 d_law_256 rfl ?_
    refine j_sub [2, 3, 4, 5, 6] rfl ?_
    exact kk _ _ _ _ _ hr1 hr2 hR hT1
  · have hf := hout hh
    refine j_aload_n F 3 d_law_237 rfl ?_
    refine j_iconst F d_law_238 ?_
    refine w_lald F K hf d_law_239 ?_
    refine j_iload F 0 d_law_240 rfl ?_
    refine j_if_eq F 249 hbb d_law_242 rfl (fun hz => ?_) (fun hz => ?_)
    · rw [if_pos hz]
      refine j_lconst (x := 0) F d_law_249 (by decide) ?_
      refine j_lcmp_eq F 256 ⟨by decide, by decide⟩ ⟨by decide, by decide⟩ d_law_250 d_law_251 rfl (fun _ => ?_) (fun hh2 => absurd rfl hh2)
      refine j_goto F 1637 d_law_256 rfl ?_
      refine j_sub [2, 3, 4, 5, 6] rfl ?_
      exact kk _ _ _ _ _ hr1 hr2 hR hT1
    · rw [if_neg hz]
      refine j_lconst (x := 1) F d_law_245 (by decide) ?_
      refine j_goto F 250 d_law_246 rfl ?_
      refine j_lcmp_eq F 256 ⟨by decide, by decide⟩ ⟨by decide, by decide⟩ d_law_250 d_law_251 rfl (fun _ => ?_) (fun hh2 => absurd rfl hh2)
      refine j_goto F 1637 d_law_256 rfl ?_
      refine j_sub [2, 3, 4, 5, 6] rfl ?_
      exact kk _ _ _ _ _ hr1 hr2 hR hT1
theorem ty_724 : (Jvm.Cond.codeWith ({ cls := "LandBookLaw", name := "split", desc := "(LLandBook;II[J)I" } : Jvm.MethodName) method_5_code (5 : Nat) (Option.some Jvm.ClassFile.FieldType.int) [((0 : Nat), (10 : Nat), (13 : Nat), (21 : Nat)), ((0 : Nat), (10 : Nat), (17 : Nat), (26 : Nat)), ((0 : Nat), (10 : Nat), (21 : Nat), (13 : Nat))]) ∈ tw_G := tw_in (List.mem_of_getElem? (i := 538) (by decide +kernel)) rfl
theorem ty_725 : (Jvm.Cond.methodLink "LandBookLaw" (104 : Nat) ({ cls := "LandBookLaw", name := "split", desc := "(LLandBook;II[J)I" } : Jvm.MethodName)) ∈ tw_G := tw_in (List.mem_of_getElem? (i := 536) (by decide +kernel)) rfl
theorem ty_726 : (Jvm.Cond.static ({ cls := "LandBookLaw", name := "split", desc := "(LLandBook;II[J)I" } : Jvm.MethodName)) ∈ tw_G := tw_in (List.mem_of_getElem? (i := 537) (by decide +kernel)) rfl
theorem ty_727 : (Jvm.Cond.methodLink "LandBookLaw" (106 : Nat) ({ cls := "LandBookModel", name := "split", desc := "(II)I" } : Jvm.MethodName)) ∈ tw_G := tw_in (List.mem_of_getElem? (i := 1230) (by decide +kernel)) rfl
theorem ty_728 : (Jvm.Cond.instanceMethod ({ cls := "LandBookModel", name := "split", desc := "(II)I" } : Jvm.MethodName)) ∈ tw_G := tw_in (List.mem_of_getElem? (i := 1231) (by decide +kernel)) rfl
theorem ty_729 : (Jvm.Cond.selects "LandBookModel" ({ cls := "LandBookModel", name := "split", desc := "(II)I" } : Jvm.MethodName) ({ cls := "LandBookModel", name := "split", desc := "(II)I" } : Jvm.MethodName)) ∈ tw_G := tw_in (List.mem_of_getElem? (i := 1232) (by decide +kernel)) rfl
theorem ty_730 : (Jvm.Cond.code ({ cls := "LandBookModel", name := "split", desc := "(II)I" } : Jvm.MethodName) prog_13_method_48_code (4 : Nat) (Option.some Jvm.ClassFile.FieldType.int)) ∈ tw_G := tw_in (List.mem_of_getElem? (i := 1233) (by decide +kernel)) rfl
def st_split (R : Nat → Nat → CS → MS → Prop) (vb : Nat) (f : Nat → Int64) (c n : Nat) (a1 a2 a3 a4 a5 a6 : Int) (T : CS) (S : MS) : Prop := ∃ mc ms : Nat, (c + mc ≤ 601024 ∧ n + ms ≤ 7293034) ∧ hx_split (fun cd f1 T1 => inR cd ∧ wp_Mo_split (fun b S1 => inR b ∧ S1.1 0 = cd ∧ (cd = 0 → f1 0 = lI b) ∧ R (c + mc) (n + ms) T1 S1) a1 a2 S) f mc ms vb a1 a2 T
set_option maxHeartbeats 4000000 in
set_option maxRecDepth 100000 in
theorem lc_split (l : Launch) (hfl : l.flags = pinnedFlags ++ [noTraceFlag]) {D : va_G} {X : jx_C} {k : CK} {kL : ClassId} {kc : Nat → ClassId} {ad : Nat → Nat} {ho hm vb b L : Nat} {xs : Nat → Int32} {f : Nat → Int64} {T : CS} {S : MS} {c n : Nat} {R : Nat → Nat → CS → MS → Prop} {i : Int} (F : jfx X code 7 "LandBookLaw" 13 520 601024 7293034) (K : jkw k D kL kc X) (Z : jsx X b L xs) (hL : L ≤ 3584) (hi : 0 ≤ i ∧ i + 7 ≤ L) (hT : cs_ok k T) (hw : st_split R vb f c n ((xs (i + 1).toNat).toInt) ((xs (i + 2).toNat).toInt) ((xs (i + 3).toNat).toInt) ((xs (i + 4).toNat).toInt) ((xs (i + 5).toNat).toInt) ((xs (i + 6).toNat).toInt) T S)
    (kk : ∀ (c1 n1 : Nat) (T1 : CS) (S1 : MS) (f1 : Nat → Int64), c1 ≤ 601024 → n1 ≤ 7293034 → R c1 n1 T1 S1 → cs_ok k T1 → jat l D X 7 1637 [(4, vi i), (3, .ref ho), (2, .ref hm), (1, .ref vb), (0, .ref b)] [] (lww k T1 ho kL f1 hm ad kc S1) c1 n1) : jat l D X 7 259 [(4, vi i), (3, .ref ho), (2, .ref hm), (1, .ref vb), (0, .ref b)] [] (lww k T ho kL f hm ad kc S) c n := by
  obtain ⟨mc, ms, ⟨hr1, hr2⟩, hw⟩ := hw
  refine j_aload_n F 3 d_law_259 rfl ?_
  refine j_aload_n F 4 d_law_260 rfl ?_
  refine j_iload F 0 d_law_261 rfl ?_
  refine j_iconst F d_law_263 ?_
  refine j_iadd F d_law_264 ?_
  refine w_sld F Z hL ⟨by omega, by omega⟩ d_law_265 ?_
  refine j_aload_n F 4 d_law_266 rfl ?_
  refine j_iload F 0 d_law_267 rfl ?_
  refine j_iconst F d_law_269 ?_
  refine j_iadd F d_law_270 ?_
  refine w_sld F Z hL ⟨by omega, by omega⟩ d_law_271 ?_
  refine j_aload_n F 1 d_law_272 rfl ?_
  refine w_callH F K hT (c_H_split l hfl hw) ty_724 ty_705 ty_725 ty_726 q_H_split rfl ⟨by decide, by decide⟩ ⟨hr1, hr2⟩ rfl (Nat.le_of_ble_eq_true rfl) d_law_273 (fun cd f1 T1 hw hT1 => ?_)
  obtain ⟨hcd, hw⟩ := hw
  refine j_istore F [(5, vi cd), (4, vi i), (3, .ref ho), (2, .ref hm), (1, .ref vb), (0, .ref b)] d_law_276 (by decide) rfl ?_
  refine j_aload_n F 3 d_law_278 rfl ?_
  refine j_aload_n F 5 d_law_279 rfl ?_
  refine j_iload F 1 d_law_280 rfl ?_
  refine j_iconst F d_law_282 ?_
  refine j_iadd F d_law_283 ?_
  refine w_sld F Z hL ⟨by omega, by omega⟩ d_law_284 ?_
  refine j_aload_n F 5 d_law_285 rfl ?_
  refine j_iload F 1 d_law_286 rfl ?_
  refine j_iconst F d_law_288 ?_
  refine j_iadd F d_law_289 ?_
  refine w_sld F Z hL ⟨by omega, by omega⟩ d_law_290 ?_
  refine w_callM F K (c_Mo_split l hw) (tw_gV ty_727 ty_728 ty_729 ty_711 ty_730) q_Mo_split rfl ⟨by decide, by decide⟩ ⟨hr1, hr2⟩ rfl (Nat.le_of_ble_eq_true rfl) d_law_291 (fun bb S1 hw => ?_)
  obtain ⟨hbb, hth, hout, hR⟩ := hw
  refine j_istore F [(6, vi bb), (5, vi cd), (4, vi i), (3, .ref ho), (2, .ref hm), (1, .ref vb), (0, .ref b)] d_law_294 (by decide) rfl ?_
  refine j_aload_n F 4 d_law_296 rfl ?_
  refine w_callM F K (c_Mo_thrown (post := fun v S2 => v = S1.1 0 ∧ S2 = S1) l ⟨rfl, rfl⟩) (tw_gV ty_713 ty_714 ty_715 ty_711 ty_716) q_Mo_thrown rfl ⟨by decide, by decide⟩ ⟨hr1, hr2⟩ rfl (Nat.le_of_ble_eq_true rfl) d_law_297 (fun tv S2 hw => ?_)
  obtain ⟨rfl, rfl⟩ := hw
  rw [hth]
  refine j_iload F 1 d_law_300 rfl ?_
  refine j_icmp_eq F 307 hcd hcd d_law_302 rfl (fun _ => ?_) (fun hh => absurd rfl hh)
  refine j_iload F 1 d_law_307 rfl ?_
  refine j_if_ne F 324 hcd d_law_309 rfl (fun hh => ?_) (fun hh => ?_)
  · skip
    refine j_goto F 1637 d_law_324 rfl ?_
    refine j_sub [2, 3, 4, 5, 6] rfl ?_
    exact kk _ _ _ _ _ hr1 hr2 hR hT1
  · have hf := hout hh
    refine j_aload_n F 3 d_law_312 rfl ?_
    refine j_iconst F d_law_313 ?_
    refine w_lald F K hf d_law_314 ?_
    refine j_iload F 0 d_law_315 rfl ?_
    refine j_i2l F hbb d_law_317 ?_
    refine j_lcmp_eq F 324 (inR_L hbb) (inR_L hbb) d_law_318 d_law_319 rfl (fun _ => ?_) (fun hh2 => absurd rfl hh2)
    refine j_goto F 1637 d_law_324 rfl ?_
    refine j_sub [2, 3, 4, 5, 6] rfl ?_
    exact kk _ _ _ _ _ hr1 hr2 hR hT1
