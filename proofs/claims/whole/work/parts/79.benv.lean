section LWE
variable {s : State} {args : Array Value}
theorem lw_cwords (hts : ∀ w ∈ lw_tbl, w.before args s = true) : ∀ w ∈ cwords, va_Nw w s := by
  intro w hw
  simp only [cwords, List.mem_cons, List.not_mem_nil, or_false] at hw
  rcases hw with rfl | rfl | rfl | rfl | rfl | rfl | rfl
  · exact va_Nw.of rfl (hts (.castable "LandBook$Lot" "LandBook$Lot") (List.mem_of_getElem? (i := 1466) (by decide +kernel)))
  · exact va_Nw.of rfl (hts (.castable "LandBook$Deed" "LandBook$Deed") (List.mem_of_getElem? (i := 1467) (by decide +kernel)))
  · exact va_Nw.of rfl (hts (.castable "LandBook$Easement" "LandBook$Easement") (List.mem_of_getElem? (i := 1468) (by decide +kernel)))
  · exact va_Nw.of rfl (hts (.castable "LandBook$Lot" "java/lang/Object") (List.mem_of_getElem? (i := 1479) (by decide +kernel)))
  · exact va_Nw.of rfl (hts (.castable "LandBook$Deed" "java/lang/Object") (List.mem_of_getElem? (i := 1480) (by decide +kernel)))
  · exact va_Nw.of rfl (hts (.castable "LandBook$Easement" "java/lang/Object") (List.mem_of_getElem? (i := 1481) (by decide +kernel)))
  · exact va_Nw.of rfl (hts (.castable "[I" "java/lang/Cloneable") (List.mem_of_getElem? (i := 738) (by decide +kernel)))
theorem lw_envNc (hs : ∀ c ∈ flatC (Jvm.Cond.and given_1 narrow_1), c.before args s = true) : lb_Nc s := by
  intro a b ha hb hne
  simp only [lb_exc, List.map_cons, List.map_nil, List.mem_cons, List.not_mem_nil, or_false] at ha hb
  rcases ha with rfl | rfl | rfl | rfl <;> rcases hb with rfl | rfl | rfl | rfl <;> first
    | exact absurd rfl hne
    | exact va_Nc.of (hs _ (by decide +kernel))
theorem lw_envC (hts : ∀ w ∈ lw_tbl, w.before args s = true) (hs : ∀ c ∈ flatC (Jvm.Cond.and given_1 narrow_1), c.before args s = true) : ∃ e0 mi : Nat, ∀ kI kZ kO kP : ClassId, ce (kI, kZ, kO, kP, e0, mi) (fun q => s.heap.size ≤ q) s s.heap := by
  obtain ⟨a, _, _, _, q1, -⟩ := Cond.exactly_spec (hs (.exactly (.static "java/util/ArrayList" "DEFAULTCAPACITY_EMPTY_ELEMENTDATA" "[Ljava/lang/Object;") "[Ljava/lang/Object;") (by decide +kernel))
  have hz : al_Z a (fun q => s.heap.size ≤ q) s s.heap := va_Zof (hts (.laysStatic "java/util/ArrayList" "DEFAULTCAPACITY_EMPTY_ELEMENTDATA" "[Ljava/lang/Object;") (List.mem_of_getElem? (i := 179) (by decide +kernel))) (hts (.initialized "java/util/ArrayList") (List.mem_of_getElem? (i := 67) (by decide +kernel))) q1 (fun a h => Nat.not_le.mpr h)
  have harr : (Cond.arrayOf (.static "java/util/ArrayList" "DEFAULTCAPACITY_EMPTY_ELEMENTDATA" "[Ljava/lang/Object;") (.object "java/lang/Object")).before args s = true := hs _ (by decide +kernel)
  have hlen0 : (Cond.eq (.length (.static "java/util/ArrayList" "DEFAULTCAPACITY_EMPTY_ELEMENTDATA" "[Ljava/lang/Object;")) (.int 0)).before args s = true := hs _ (by decide +kernel)
  have hlen : (Term.length (.static "java/util/ArrayList" "DEFAULTCAPACITY_EMPTY_ELEMENTDATA" "[Ljava/lang/Object;")).eval args s none [] s = some (.int (Int32.ofNat 0)) := va_eqt hlen0
  obtain ⟨t, ht, hT⟩ := va_Tof (N := 0) (f := fun _ => .null) (A := fun q => s.heap.size ≤ q) (by decide) harr hlen (fun j hj => absurd hj (Nat.not_lt_zero _)) (fun a h => Nat.not_le.mpr h)
  have e1 : t = a := by
    have := ht.symm.trans q1
    cases this
    rfl
  subst e1
  obtain ⟨mi, hmi⟩ := va_Mi.of (hs (.isRef (.mirror "[Ljava/lang/Object;")) (by decide +kernel))
  exact ⟨t, mi, fun kI kZ kO kP => ⟨hz, hT, hmi, va_AO.of (hts (.arrayOver (.object "java/lang/Object")) (List.mem_of_getElem? (i := 528) (by decide +kernel))), va_AO.of (hts (.arrayOver (.object "LandBook$Points")) (List.mem_of_getElem? (i := 661) (by decide +kernel))), lw_cwords hts, va_Dc.of (hts (.declares ⟨"java/lang/Object", "getClass", "()Ljava/lang/Class;"⟩) (List.mem_of_getElem? (i := 1471) (by decide +kernel)))⟩⟩
theorem lw_arr {D : va_G} {tys : List (ClassId × FieldType)} (hK : va_K D classes tys s) (ty : FieldType) (hp : va_RA s = fun cA t => va_RA s cA t) {c : ClassId} (h1 : ArrOfT s c ty) (h2 : va_RA s c ty) : va_K D classes (tys ++ [(c, ty)]) s := by
  refine ⟨hK.1, fun k q hk => ?_⟩
  by_cases hl : k < tys.length
  · rw [List.getElem?_append_left hl] at hk
    exact hK.2 k q hk
  · rw [List.getElem?_append_right (by omega)] at hk
    have hz : k - tys.length < 1 := (List.getElem?_eq_some_iff.mp hk).1
    rw [show k - tys.length = 0 by omega] at hk
    cases hk
    exact ⟨h1, h2⟩
theorem lw_arrs (hts : ∀ w ∈ lw_tbl, w.before args s = true) {D : va_G} (hK : va_K D classes [] s) : ∃ kI kZ kO kP kL : ClassId, va_K D classes [(kI, .int), (kZ, .boolean), (kO, .object "java/lang/Object"), (kP, .object "LandBook$Points"), (kL, .long)] s := by
  obtain ⟨c1, k1, m1, a1, a2, a3⟩ := Cond.arrayClass_spec (hts (.arrayClass .int) (List.mem_of_getElem? (i := 114) (by decide +kernel)))
  obtain ⟨c2, k2, m2, b1, b2, b3⟩ := Cond.arrayClass_spec (hts (.arrayClass .boolean) (List.mem_of_getElem? (i := 477) (by decide +kernel)))
  obtain ⟨c5, k5, m5, e1, e2, e3⟩ := Cond.arrayClass_spec (hts (.arrayClass .long) (List.mem_of_getElem? (i := 1464) (by decide +kernel)))
  obtain ⟨m3, c3, k3, d1, -, d2, d3, d4⟩ := Cond.arrayOver_spec (hts (.arrayOver (.object "java/lang/Object")) (List.mem_of_getElem? (i := 528) (by decide +kernel)))
  obtain ⟨m4, c4, k4, f1, -, f2, f3, f4⟩ := Cond.arrayOver_spec (hts (.arrayOver (.object "LandBook$Points")) (List.mem_of_getElem? (i := 661) (by decide +kernel)))
  refine ⟨c1, c2, c3, c4, c5, ?_⟩
  have g1 := lw_arr hK .int rfl (c := c1) (fun N z => ⟨(fun k h => by cases h), k1, a2, m1, a3⟩) a1
  have g2 := lw_arr g1 .boolean rfl (c := c2) (fun N z => ⟨(fun k h => by cases h), k2, b2, m2, b3⟩) b1
  have g3 := lw_arr g2 (.object "java/lang/Object") rfl (c := c3) (fun N z => ⟨(fun k h => by cases h), k3, d2, m3, d3⟩) ⟨k3, m3, d2, d3, d1, d4⟩
  have g4 := lw_arr g3 (.object "LandBook$Points") rfl (c := c4) (fun N z => ⟨(fun k h => by cases h), k4, f2, m4, f3⟩) ⟨k4, m4, f2, f3, f1, f4⟩
  exact lw_arr g4 .long rfl (c := c5) (fun N z => ⟨(fun k h => by cases h), k5, e2, m5, e3⟩) e1
end LWE
