/-- the pure part of the law: what one call owes, an invariant between book and reference given -/
def lw_step (Inv : Nat → Nat → Nat → CS → MS → Prop) (vb : Nat) : Prop := ∀ (j c n : Nat) (T : CS) (S : MS) (f : Nat → Int64) (a1 a2 a3 a4 a5 a6 : Int), j < 512 → Inv j c n T S → inR a1 → inR a2 → inR a3 → inR a4 → inR a5 → inR a6 → Inv (j + 1) c n T S ∧ st_point (Inv (j + 1)) vb f c n a1 a2 a3 a4 a5 a6 T S ∧ st_open (Inv (j + 1)) vb f c n a1 a2 a3 a4 a5 a6 T S ∧ st_split (Inv (j + 1)) vb f c n a1 a2 a3 a4 a5 a6 T S ∧ st_merge (Inv (j + 1)) vb f c n a1 a2 a3 a4 a5 a6 T S ∧ st_transfer (Inv (j + 1)) vb f c n a1 a2 a3 a4 a5 a6 T S ∧ st_ease (Inv (j + 1)) vb f c n a1 a2 a3 a4 a5 a6 T S ∧ st_release (Inv (j + 1)) vb f c n a1 a2 a3 a4 a5 a6 T S ∧ st_lotAt (Inv (j + 1)) vb f c n a1 a2 a3 a4 a5 a6 T S ∧ st_area2 (Inv (j + 1)) vb f c n a1 a2 a3 a4 a5 a6 T S ∧ st_share (Inv (j + 1)) vb f c n a1 a2 a3 a4 a5 a6 T S ∧ st_next (Inv (j + 1)) vb f c n a1 a2 a3 a4 a5 a6 T S ∧ st_burden (Inv (j + 1)) vb f c n a1 a2 a3 a4 a5 a6 T S ∧ st_parent (Inv (j + 1)) vb f c n a1 a2 a3 a4 a5 a6 T S ∧ st_child (Inv (j + 1)) vb f c n a1 a2 a3 a4 a5 a6 T S ∧ st_corners (Inv (j + 1)) vb f c n a1 a2 a3 a4 a5 a6 T S ∧ st_corner (Inv (j + 1)) vb f c n a1 a2 a3 a4 a5 a6 T S ∧ st_many (Inv (j + 1)) vb f c n a1 a2 a3 a4 a5 a6 T S ∧ st_word (Inv (j + 1)) vb f c n a1 a2 a3 a4 a5 a6 T S ∧ st_sync (Inv (j + 1)) vb f c n a1 a2 a3 a4 a5 a6 T S ∧ st_crash (Inv (j + 1)) vb f c n a1 a2 a3 a4 a5 a6 T S ∧ st_mount (Inv (j + 1)) vb f c n a1 a2 a3 a4 a5 a6 T S
set_option maxHeartbeats 4000000 in
set_option maxRecDepth 100000 in
theorem lw_loop (l : Launch) (hfl : l.flags = pinnedFlags ++ [noTraceFlag]) {D : va_G} {X : jx_C} {k : CK} {kL : ClassId} {kc : Nat → ClassId} {ad : Nat → Nat} {ho hm vb b L : Nat} {xs : Nat → Int32} {Inv : Nat → Nat → Nat → CS → MS → Prop} (F : jfx X code 7 "LandBookLaw" 13 520 601024 7293034) (K : jkw k D kL kc X) (Z : jsx X b L xs) (hL : L ≤ 3584) (hstep : lw_step Inv vb)
    (hend : ∀ (lv : List (Nat × Value)) (ws : va_W) (c n : Nat), c ≤ 601024 → n ≤ 7293034 → jat l D X 7 1644 lv [vi 1] ws c n) : ∀ (r j c n : Nat) (T : CS) (S : MS) (f : Nat → Int64), j + r = 512 → c ≤ 601024 → n ≤ 7293034 → Inv j c n T S → cs_ok k T → jat l D X 7 23 [(4, vi (7 * (j : Int))), (3, .ref ho), (2, .ref hm), (1, .ref vb), (0, .ref b)] [] (lww k T ho kL f hm ad kc S) c n := by
  intro r
  induction r with
  | zero =>
    intro j c n T S f hj hc hn hI hT
    refine j_iload F 0 d_law_23 rfl ?_
    refine j_aload_n F 4 d_law_25 rfl ?_
    refine w_slen F Z d_law_26 ?_
    refine j_bipush F d_law_27 (j_bip (by decide) (by decide)) ?_
    refine j_isub F d_law_29 ?_
    refine j_icmp_gt F 1643 ⟨by omega, by omega⟩ ⟨by omega, by omega⟩ d_law_30 rfl (fun hh => ?_) (fun hh => ?_)
    · refine j_iconst F d_law_1643 ?_
      exact hend _ _ _ _ hc hn
    · exact absurd hh (by omega)
  | succ r ih =>
    intro j c n T S f hj hc hn hI hT
    refine j_iload F 0 d_law_23 rfl ?_
    refine j_aload_n F 4 d_law_25 rfl ?_
    refine w_slen F Z d_law_26 ?_
    refine j_bipush F d_law_27 (j_bip (by decide) (by decide)) ?_
    refine j_isub F d_law_29 ?_
    refine j_icmp_gt F 1643 ⟨by omega, by omega⟩ ⟨by omega, by omega⟩ d_law_30 rfl (fun hh => ?_) (fun hh => ?_)
    · refine j_iconst F d_law_1643 ?_
      exact hend _ _ _ _ hc hn
    · have h7 : 7 * (j : Int) + 7 ≤ L := by omega
      have hj1 : j < 512 := by omega
      have back : ∀ (c1 n1 : Nat) (T1 : CS) (S1 : MS) (f1 : Nat → Int64), c1 ≤ 601024 → n1 ≤ 7293034 → Inv (j + 1) c1 n1 T1 S1 → cs_ok k T1 → jat l D X 7 1637 [(4, vi (7 * (j : Int))), (3, .ref ho), (2, .ref hm), (1, .ref vb), (0, .ref b)] [] (lww k T1 ho kL f1 hm ad kc S1) c1 n1 := by
        intro c1 n1 T1 S1 f1 g1 g2 g3 g4
        refine j_iinc F 0 [(4, vi (7 * (j : Int) + 7)), (3, .ref ho), (2, .ref hm), (1, .ref vb), (0, .ref b)] d_law_1637 rfl (by decide) rfl ?_
        refine j_goto F 23 d_law_1640 rfl ?_
        have e1 : (7 * (j : Int) + 7) = 7 * ((j + 1 : Nat) : Int) := by omega
        rw [e1]
        exact ih (j + 1) c1 n1 T1 S1 f1 (by omega) g1 g2 g3 g4
      refine j_aload_n F 4 d_law_33 rfl ?_
      refine j_iload F 0 d_law_34 rfl ?_
      refine w_sld F Z hL ⟨by omega, by omega⟩ d_law_36 ?_
      refine j_bipush F d_law_37 (j_bip (by decide) (by decide)) ?_
      refine w_iand31 F (inR_of _) d_law_39 ?_
      obtain ⟨h0, s0, s1, s2, s3, s4, s5, s6, s7, s8, s9, s10, s11, s12, s13, s14, s15, s16, s17, s18, s19, s20⟩ := hstep j c n T S f ((xs (7 * (j : Int) + 1).toNat).toInt) ((xs (7 * (j : Int) + 2).toNat).toInt) ((xs (7 * (j : Int) + 3).toNat).toInt) ((xs (7 * (j : Int) + 4).toNat).toInt) ((xs (7 * (j : Int) + 5).toNat).toInt) ((xs (7 * (j : Int) + 6).toNat).toInt) hj1 hI (inR_of _) (inR_of _) (inR_of _) (inR_of _) (inR_of _) (inR_of _)
      have hq0 : 0 ≤ (xs (7 * (j : Int)).toNat).toInt % 32 := Int.emod_nonneg _ (by omega)
      have hq1 : (xs (7 * (j : Int)).toNat).toInt % 32 < 32 := Int.emod_lt_of_pos _ (by omega)
      generalize (xs (7 * (j : Int)).toNat).toInt % 32 = z at hq0 hq1 ⊢
      have hz : inR z := ⟨by omega, by omega⟩
      by_cases hz2 : z < 0 ∨ 20 < z
      · refine j_tableOut F 1637 hz d_law_40 hz2 rfl ?_
        exact back c n T S f hc hn h0 hT
      · rcases (show z = 0 ∨ z = 1 ∨ z = 2 ∨ z = 3 ∨ z = 4 ∨ z = 5 ∨ z = 6 ∨ z = 7 ∨ z = 8 ∨ z = 9 ∨ z = 10 ∨ z = 11 ∨ z = 12 ∨ z = 13 ∨ z = 14 ∨ z = 15 ∨ z = 16 ∨ z = 17 ∨ z = 18 ∨ z = 19 ∨ z = 20 by omega) with hy | hy | hy | hy | hy | hy | hy | hy | hy | hy | hy | hy | hy | hy | hy | hy | hy | hy | hy | hy | hy
        · refine j_tableIn F 140 hz d_law_40 hy (by decide) (by decide) rfl rfl ?_
          exact lc_point l hfl F K Z hL ⟨by omega, h7⟩ hT s0 back
        · refine j_tableIn F 208 hz d_law_40 hy (by decide) (by decide) rfl rfl ?_
          exact lc_open l hfl F K Z hL ⟨by omega, h7⟩ hT s1 back
        · refine j_tableIn F 259 hz d_law_40 hy (by decide) (by decide) rfl rfl ?_
          exact lc_split l hfl F K Z hL ⟨by omega, h7⟩ hT s2 back
        · refine j_tableIn F 327 hz d_law_40 hy (by decide) (by decide) rfl rfl ?_
          exact lc_merge l hfl F K Z hL ⟨by omega, h7⟩ hT s3 back
        · refine j_tableIn F 407 hz d_law_40 hy (by decide) (by decide) rfl rfl ?_
          exact lc_transfer l hfl F K Z hL ⟨by omega, h7⟩ hT s4 back
        · refine j_tableIn F 525 hz d_law_40 hy (by decide) (by decide) rfl rfl ?_
          exact lc_ease l hfl F K Z hL ⟨by omega, h7⟩ hT s5 back
        · refine j_tableIn F 605 hz d_law_40 hy (by decide) (by decide) rfl rfl ?_
          exact lc_release l hfl F K Z hL ⟨by omega, h7⟩ hT s6 back
        · refine j_tableIn F 673 hz d_law_40 hy (by decide) (by decide) rfl rfl ?_
          exact lc_lotAt l hfl F K Z hL ⟨by omega, h7⟩ hT s7 back
        · refine j_tableIn F 765 hz d_law_40 hy (by decide) (by decide) rfl rfl ?_
          exact lc_area2 l hfl F K Z hL ⟨by omega, h7⟩ hT s8 back
        · refine j_tableIn F 845 hz d_law_40 hy (by decide) (by decide) rfl rfl ?_
          exact lc_share l hfl F K Z hL ⟨by omega, h7⟩ hT s9 back
        · refine j_tableIn F 937 hz d_law_40 hy (by decide) (by decide) rfl rfl ?_
          exact lc_next l hfl F K Z hL ⟨by omega, h7⟩ hT s10 back
        · refine j_tableIn F 1029 hz d_law_40 hy (by decide) (by decide) rfl rfl ?_
          exact lc_burden l hfl F K Z hL ⟨by omega, h7⟩ hT s11 back
        · refine j_tableIn F 1121 hz d_law_40 hy (by decide) (by decide) rfl rfl ?_
          exact lc_parent l hfl F K Z hL ⟨by omega, h7⟩ hT s12 back
        · refine j_tableIn F 1189 hz d_law_40 hy (by decide) (by decide) rfl rfl ?_
          exact lc_child l hfl F K Z hL ⟨by omega, h7⟩ hT s13 back
        · refine j_tableIn F 1257 hz d_law_40 hy (by decide) (by decide) rfl rfl ?_
          exact lc_corners l hfl F K Z hL ⟨by omega, h7⟩ hT s14 back
        · refine j_tableIn F 1313 hz d_law_40 hy (by decide) (by decide) rfl rfl ?_
          exact lc_corner l hfl F K Z hL ⟨by omega, h7⟩ hT s15 back
        · refine j_tableIn F 1381 hz d_law_40 hy (by decide) (by decide) rfl rfl ?_
          exact lc_many l hfl F K Z hL ⟨by omega, h7⟩ hT s16 back
        · refine j_tableIn F 1437 hz d_law_40 hy (by decide) (by decide) rfl rfl ?_
          exact lc_word l hfl F K Z hL ⟨by omega, h7⟩ hT s17 back
        · refine j_tableIn F 1493 hz d_law_40 hy (by decide) (by decide) rfl rfl ?_
          exact lc_sync l hfl F K Z hL ⟨by omega, h7⟩ hT s18 back
        · refine j_tableIn F 1537 hz d_law_40 hy (by decide) (by decide) rfl rfl ?_
          exact lc_crash l hfl F K Z hL ⟨by omega, h7⟩ hT s19 back
        · refine j_tableIn F 1593 hz d_law_40 hy (by decide) (by decide) rfl rfl ?_
          exact lc_mount l hfl F K Z hL ⟨by omega, h7⟩ hT s20 back
