/-! rows for what the JDK's own methods do with bits -/
theorem x_sgn32 (x y : Int32) : (0 ≤ x ^^^ y) ↔ ((0 ≤ x) ↔ (0 ≤ y)) := by
  have h : ∀ z : Int32, (0 ≤ z) ↔ z.toBitVec.msb = false := by
    intro z
    rw [Int32.le_iff_toInt_le, BitVec.msb_eq_toInt]
    show (0 : Int) ≤ z.toBitVec.toInt ↔ _
    simp
  rw [h, h, h, Int32.toBitVec_xor, BitVec.msb_xor]
  cases x.toBitVec.msb <;> cases y.toBitVec.msb <;> simp
theorem x_sgn64 (x y : Int64) : (0 ≤ x ^^^ y) ↔ ((0 ≤ x) ↔ (0 ≤ y)) := by
  have h : ∀ z : Int64, (0 ≤ z) ↔ z.toBitVec.msb = false := by
    intro z
    rw [Int64.le_iff_toInt_le, BitVec.msb_eq_toInt]
    show (0 : Int) ≤ z.toBitVec.toInt ↔ _
    simp
  rw [h, h, h, Int64.toBitVec_xor, BitVec.msb_xor]
  cases x.toBitVec.msb <;> cases y.toBitVec.msb <;> simp
theorem iI_trem {a b : Int} (ha : inR a) (hb : 0 < b ∧ b ≤ 2147483647) : iI a - iI a / iI b * iI b = iI (a.tmod b) := by
  apply Int32.toInt.inj
  rw [rem_toInt, iI_toInt ha, iI_toInt (by unfold inR; omega), iI_toInt]
  have := tmod_bounds (a := a) hb.1
  unfold inR
  omega
theorem x_signum {a : Int} (ha : inR a) : (iI a >>> ((31 : Int32) &&& 31)) ||| (((-iI a).toUInt32 >>> ((31 : Int32).toUInt32 &&& Int32.toUInt32 31)).toInt32) = iI (if a < 0 then -1 else if a = 0 then 0 else 1) := by
  have hA := pk_shr (iI a) ((31 : Int32) &&& 31) 31 (by decide)
  have hB := pk_ushr (-iI a) 31 31 (by decide)
  rw [iI_toInt ha] at hA
  unfold inR at ha
  by_cases h1 : a < 0
  · rw [if_pos h1]
    have e1 : iI a >>> ((31 : Int32) &&& 31) = -1 := by
      apply Int32.toInt.inj
      rw [hA, show (-1 : Int32).toInt = -1 from by decide, Int.shiftRight_eq_div_pow]
      omega
    rw [e1]
    apply Int32.toBitVec_inj.1
    rw [Int32.toBitVec_or]
    show BitVec.allOnes 32 ||| _ = BitVec.allOnes 32
    exact BitVec.allOnes_or
  · rw [if_neg h1]
    have e1 : iI a >>> ((31 : Int32) &&& 31) = 0 := by
      apply Int32.toInt.inj
      rw [hA, show (0 : Int32).toInt = 0 from by decide, Int.shiftRight_eq_div_pow]
      omega
    rw [e1]
    have e0 : ∀ z : Int32, (0 : Int32) ||| z = z := by
      intro z
      apply Int32.toBitVec_inj.1
      rw [Int32.toBitVec_or]
      simp
    rw [e0]
    by_cases h2 : a = 0
    · subst h2
      rw [if_pos rfl]
      decide
    · rw [if_neg h2]
      apply Int32.toBitVec_inj.1
      apply BitVec.eq_of_toNat_eq
      rw [hB, iI_neg]
      have e3 : (iI (-a)).toBitVec.toNat = (2 ^ 32 - a).toNat := by
        show (BitVec.ofInt 32 (-a)).toNat = _
        rw [BitVec.toNat_ofInt]
        congr 1
        omega
      rw [e3]
      show _ = 1
      omega
section JB
variable {l : Launch} {D : va_G} {X : jx_C} {nL pc fr lo mc ms k n : Nat} {cc : ByteArray} {own : String} {lv lv' : List (Nat × Value)} {st : List Value} {ws : va_W}
theorem j_null (F : jfx X cc nL own fr lo mc ms) (d : decode cc pc = .ok (.aconst_null, 1)) (kk : jat l D X nL (pc + 1) lv (.null :: st) ws k n) : jat l D X nL pc lv st ws k n := by
  obtain ⟨p, e, R, s, m, args, below, meth, co, Q, A, G⟩ := X
  obtain ⟨⟨hx, hb, hml, hown, hts⟩, hfr, hlo, hmc, hms⟩ := F
  intro H locs ls hl hP hD hS
  exact lv_null hx hb d (kk H locs ls hl hP hD hS)
theorem j_iremT (F : jfx X cc nL own fr lo mc ms) {a b : Int} (ha : inR a) (h : 0 < b ∧ b ≤ 2147483647) (d : decode cc pc = .ok (.irem, 1)) (kk : jat l D X nL (pc + 1) lv (vi (a.tmod b) :: st) ws k n) : jat l D X nL pc lv (vi b :: vi a :: st) ws k n := by
  obtain ⟨p, e, R, s, m, args, below, meth, co, Q, A, G⟩ := X
  obtain ⟨⟨hx, hb, hml, hown, hts⟩, hfr, hlo, hmc, hms⟩ := F
  intro H locs ls hl hP hD hS
  refine lv_irem hx hb d (iI_ne0 h) ?_
  rw [iI_trem ha h]
  exact kk H locs ls hl hP hD hS
theorem j_ixor_ge (F : jfx X cc nL own fr lo mc ms) {a b x : Int} (tgt : Nat) (ha : inR a) (hb' : inR b) (d : decode cc pc = .ok (.ixor, 1)) (d2 : decode cc (pc + 1) = .ok (.ifCond .ge x, 3)) (ht : ((pc + 1 : Nat) : Int) + x = (tgt : Int)) (kt : (0 ≤ a ↔ 0 ≤ b) → jat l D X nL tgt lv st ws k n) (kf : ¬ (0 ≤ a ↔ 0 ≤ b) → jat l D X nL (pc + 4) lv st ws k n) : jat l D X nL pc lv (vi b :: vi a :: st) ws k n := by
  obtain ⟨p, e, R, s, m, args, below, meth, co, Q, A, G⟩ := X
  obtain ⟨⟨hx, hb, hml, hown, hts⟩, hfr, hlo, hmc, hms⟩ := F
  intro H locs ls hl hP hD hS
  have hc : (0 ≤ iI a ^^^ iI b) ↔ (0 ≤ a ↔ 0 ≤ b) := by
    rw [x_sgn32, ← iI_0, iI_le inR_0 ha, iI_le inR_0 hb']
  exact lv_ixor hx hb d (lv_if_ge hx hb d2 ht (fun h => kt (hc.mp h) H locs ls hl hP hD hS) (fun h => kf (fun h2 => h (hc.mpr h2)) H locs ls hl hP hD hS))
theorem j_lxor_ge (F : jfx X cc nL own fr lo mc ms) {a b x : Int} (tgt : Nat) (ha : inL a) (hb' : inL b) (d : decode cc pc = .ok (.lxor, 1)) (d1 : decode cc (pc + 1) = .ok (.lconst 0, 1)) (d2 : decode cc (pc + 2) = .ok (.lcmp, 1)) (d3 : decode cc (pc + 3) = .ok (.ifCond .ge x, 3)) (ht : ((pc + 3 : Nat) : Int) + x = (tgt : Int)) (kt : (0 ≤ a ↔ 0 ≤ b) → jat l D X nL tgt lv st ws k n) (kf : ¬ (0 ≤ a ↔ 0 ≤ b) → jat l D X nL (pc + 6) lv st ws k n) : jat l D X nL pc lv (vl b :: vl a :: st) ws k n := by
  obtain ⟨p, e, R, s, m, args, below, meth, co, Q, A, G⟩ := X
  obtain ⟨⟨hx, hb, hml, hown, hts⟩, hfr, hlo, hmc, hms⟩ := F
  intro H locs ls hl hP hD hS
  have hz : ∀ z : Int, inL z → ((0 : Int64) ≤ lI z ↔ 0 ≤ z) := by
    intro z hz
    rw [Int64.le_iff_toInt_le, lI_toInt hz]
    rfl
  have hc : (0 ≤ lg_cmp (lI a ^^^ lI b) 0) ↔ (0 ≤ a ↔ 0 ≤ b) := by
    rw [lg_cmp_ge, x_sgn64, hz a ha, hz b hb']
  exact lv_lxor hx hb d (lv_lconst (v := 0) hx hb d1 (by decide) (W.lcmp hx hb d2 (lv_if_ge hx hb d3 ht (fun h => kt (hc.mp h) H locs ls hl hP hD hS) (fun h => kf (fun h2 => h (hc.mpr h2)) H locs ls hl hP hD hS))))
theorem j_ishr1 (F : jfx X cc nL own fr lo mc ms) {a : Int} (h : 0 ≤ a ∧ a ≤ 2147483647) (d : decode cc pc = .ok (.ishr, 1)) (kk : jat l D X nL (pc + 1) lv (vi (a / 2) :: st) ws k n) : jat l D X nL pc lv (vi 1 :: vi a :: st) ws k n := by
  obtain ⟨p, e, R, s, m, args, below, meth, co, Q, A, G⟩ := X
  obtain ⟨⟨hx, hb, hml, hown, hts⟩, hfr, hlo, hmc, hms⟩ := F
  intro H locs ls hl hP hD hS
  refine lv_ishr hx hb d ?_
  have e1 : iI a >>> (iI 1 &&& 31) = iI (a / 2) := by
    apply Int32.toInt.inj
    rw [pk_shr (iI a) (iI 1 &&& 31) 1 (by decide), iI_toInt (by unfold inR; omega), iI_toInt (by unfold inR; omega), Int.shiftRight_eq_div_pow]
    rfl
  rw [e1]
  exact kk H locs ls hl hP hD hS
theorem j_signum (F : jfx X cc nL own fr lo mc ms) {a : Int} (ha : inR a) (j : Fin 4) (hq : lv[0]? = some ((j : Nat), vi a)) (d0 : decode cc pc = .ok (.iload_n j, 1)) (d1 : decode cc (pc + 1) = .ok (.bipush 31, 2)) (d3 : decode cc (pc + 3) = .ok (.ishr, 1)) (d4 : decode cc (pc + 4) = .ok (.iload_n j, 1)) (d5 : decode cc (pc + 5) = .ok (.ineg, 1)) (d6 : decode cc (pc + 6) = .ok (.bipush 31, 2)) (d8 : decode cc (pc + 8) = .ok (.iushr, 1)) (d9 : decode cc (pc + 9) = .ok (.ior, 1)) (kk : jat l D X nL (pc + 10) lv (vi (if a < 0 then -1 else if a = 0 then 0 else 1) :: st) ws k n) : jat l D X nL pc lv st ws k n := by
  obtain ⟨p, e, R, s, m, args, below, meth, co, Q, A, G⟩ := X
  obtain ⟨⟨hx, hb, hml, hown, hts⟩, hfr, hlo, hmc, hms⟩ := F
  intro H locs ls hl hP hD hS
  refine lv_iload_n hx hb d0 rfl (lv_at hl 0 hq) ?_
  refine lv_bipush (v := 31) hx hb d1 (by decide) ?_
  refine lv_ishr hx hb d3 ?_
  refine lv_iload_n hx hb d4 rfl (lv_at hl 0 hq) ?_
  refine lv_ineg hx hb d5 ?_
  refine lv_bipush (v := 31) hx hb d6 (by decide) ?_
  refine lv_iushr hx hb d8 rfl ?_
  refine lv_ior hx hb d9 ?_
  rw [x_signum ha]
  exact kk H locs ls hl hP hD hS
end JB
