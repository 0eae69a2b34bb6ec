def lw_two : List Cond := [.isRef (.static "java/lang/Throwable" "UNASSIGNED_STACK" "[Ljava/lang/StackTraceElement;"), .isRef (.static "java/lang/Throwable" "SUPPRESSED_SENTINEL" "Ljava/util/List;")]
def lw_ok (c : Cond) : Bool := decide (c ∈ lw_tbl) || decide (c ∈ lw_two)
theorem lw_own_61 : (Bundle.ownAtoms "LandBook" 61 "java/lang/UnsupportedOperationException" tw_rx).all lw_ok = true := by decide +kernel
theorem lw_own_84 : (Bundle.ownAtoms "LandBook" 84 "java/lang/IllegalStateException" tw_rx).all lw_ok = true := by decide +kernel
theorem lw_own_193 : (Bundle.ownAtoms "LandBook" 193 "java/lang/IndexOutOfBoundsException" tw_rx).all lw_ok = true := by decide +kernel
theorem lw_own_262 : (Bundle.ownAtoms "LandBook" 262 "java/lang/IllegalArgumentException" tw_rx).all lw_ok = true := by decide +kernel
theorem lw_txt1 : lb_txt.all (fun x => decide (Cond.stringRef "LandBook" x.1 x.2 ∈ lw_tbl)) = true := by decide +kernel
theorem lw_txt2 : lb_txt.all (fun x => decide (Cond.exactly (.string "LandBook" x.1) "java/lang/String" ∈ flatC (Jvm.Cond.and given_1 narrow_1))) = true := by decide +kernel
section LW1
variable {s : State} {args : Array Value}
theorem lw_envE (hts : ∀ w ∈ lw_tbl, w.before args s = true) (hs : ∀ c ∈ flatC (Jvm.Cond.and given_1 narrow_1), c.before args s = true) : lb_E s := by
  have h2 : ∀ c ∈ lw_two, c.before args s = true := List.forall_mem_cons.mpr ⟨hs _ (by decide +kernel), List.forall_mem_cons.mpr ⟨hs _ (by decide +kernel), fun _ h => absurd h List.not_mem_nil⟩⟩
  have own : ∀ (i : Nat) (C : String), (Bundle.ownAtoms "LandBook" i C tw_rx).all lw_ok = true → tw_own "LandBook" i C s := fun i C h c hc => by
    have h3 := List.all_eq_true.mp h c hc
    have h4 : c.before args s = true := by
      simp only [lw_ok, Bool.or_eq_true, decide_eq_true_eq] at h3
      rcases h3 with h3 | h3
      · exact hts c h3
      · exact h2 c h3
    exact tw_before (U := s) (State.WarmedH.refl s) (fun _ _ h _ => h) (List.all_eq_true.mp (tw_own_good "LandBook" i C) c hc) h4
  refine ⟨List.forall_mem_cons.mpr ⟨own _ _ lw_own_61, List.forall_mem_cons.mpr ⟨own _ _ lw_own_84, List.forall_mem_cons.mpr ⟨own _ _ lw_own_193, List.forall_mem_cons.mpr ⟨own _ _ lw_own_262, fun _ h => absurd h List.not_mem_nil⟩⟩⟩⟩, fun x hx => ?_⟩
  have t1 := of_decide_eq_true (List.all_eq_true.mp lw_txt1 x hx)
  have t2 := of_decide_eq_true (List.all_eq_true.mp lw_txt2 x hx)
  obtain ⟨a, _, _, _, q1, -⟩ := Cond.exactly_spec (hs _ t2)
  exact ⟨a, vk_R.of (hts _ t1) q1⟩
theorem lw_envZ (hts : ∀ w ∈ lw_tbl, w.before args s = true) (hs : ∀ c ∈ flatC (Jvm.Cond.and given_1 narrow_1), c.before args s = true) : ∃ e0, al_Z e0 (fun q => s.heap.size ≤ q) s s.heap := by
  obtain ⟨a, _, _, _, q1, -⟩ := Cond.exactly_spec (hs (.exactly (.static "java/util/ArrayList" "DEFAULTCAPACITY_EMPTY_ELEMENTDATA" "[Ljava/lang/Object;") "[Ljava/lang/Object;") (by decide +kernel))
  exact ⟨a, va_Zof (hts (.laysStatic "java/util/ArrayList" "DEFAULTCAPACITY_EMPTY_ELEMENTDATA" "[Ljava/lang/Object;") (List.mem_of_getElem? (i := 179) (by decide +kernel))) (hts (.initialized "java/util/ArrayList") (List.mem_of_getElem? (i := 67) (by decide +kernel))) q1 (fun a h => Nat.not_le.mpr h)⟩
theorem lw_envN (hts : ∀ w ∈ lw_tbl, w.before args s = true) : lb_nest s := ⟨va_Nw.of rfl (hts (.methodLinkNest "LandBook" 23 ⟨"LandBook$Cutter", "<init>", "()V"⟩ "LandBook") (List.mem_of_getElem? (i := 117) (by decide +kernel))), va_Nw.of rfl (hts (.methodLinkNest "LandBook" 30 ⟨"LandBook$Joiner", "<init>", "()V"⟩ "LandBook") (List.mem_of_getElem? (i := 137) (by decide +kernel))), va_Nw.of rfl (hts (.methodLinkNest "LandBook" 37 ⟨"LandBook$Register", "<init>", "()V"⟩ "LandBook") (List.mem_of_getElem? (i := 162) (by decide +kernel))), va_Nw.of rfl (hts (.methodLinkNest "LandBook" 44 ⟨"LandBook$Log", "<init>", "()V"⟩ "LandBook") (List.mem_of_getElem? (i := 210) (by decide +kernel)))⟩
theorem tk_361 : (Jvm.Cond.instantiable "LandBook" (8 : Nat)) ∈ tw_G := tw_in (List.mem_of_getElem? (i := 90) (by decide +kernel)) rfl
theorem tk_362 : (Jvm.Cond.instantiable "LandBookModel" (42 : Nat)) ∈ tw_G := tw_in (List.mem_of_getElem? (i := 1041) (by decide +kernel)) rfl
theorem tk_363 : (Jvm.Cond.instantiable "LandBook$Deed" (6 : Nat)) ∈ tw_G := tw_in (List.mem_of_getElem? (i := 678) (by decide +kernel)) rfl
theorem tk_364 : (Jvm.Cond.instantiable "LandBook$Lot" (5 : Nat)) ∈ tw_G := tw_in (List.mem_of_getElem? (i := 444) (by decide +kernel)) rfl
theorem tk_365 : (Jvm.Cond.instantiable "LandBook$Easement" (3 : Nat)) ∈ tw_G := tw_in (List.mem_of_getElem? (i := 847) (by decide +kernel)) rfl
theorem lw_K (hts : ∀ w ∈ tw_G, w.before args s = true) : ∃ (dC : Nat → ClassId) (dI : Nat → Nat → Nat), va_K (dC, dI) classes [] s := by
  obtain ⟨c0, i0, k0⟩ := u_known (n := 8) hts tu_LandBook (hts _ tk_361)
  obtain ⟨c1, i1, k1⟩ := u_known (n := 2) hts tu_Points (hts _ tk_107)
  obtain ⟨c2, i2, k2⟩ := u_known (n := 3) hts tu_Cutter (hts _ tk_143)
  obtain ⟨c3, i3, k3⟩ := u_known (n := 5) hts tu_Joiner (hts _ tk_149)
  obtain ⟨c4, i4, k4⟩ := u_known (n := 5) hts tu_Register (hts _ tk_155)
  obtain ⟨c5, i5, k5⟩ := u_known (n := 3) hts tu_Log (hts _ tk_161)
  obtain ⟨c6, i6, k6⟩ := u_known (n := 3) hts tu_ArrayList (hts _ tk_127)
  obtain ⟨c7, i7, k7⟩ := u_known (n := 42) hts tu_LandBookModel (hts _ tk_362)
  obtain ⟨c8, i8, k8⟩ := u_known (n := 6) hts tu_Deed (hts _ tk_363)
  obtain ⟨c9, i9, k9⟩ := u_known (n := 5) hts tu_Lot (hts _ tk_364)
  obtain ⟨c10, i10, k10⟩ := u_known (n := 3) hts tu_Easement (hts _ tk_365)
  refine ⟨fun c => match c with | 1 => c1 | 2 => c2 | 3 => c3 | 4 => c4 | 5 => c5 | 6 => c6 | 7 => c7 | 8 => c8 | 9 => c9 | 10 => c10 | _ => c0, fun c => match c with | 1 => i1 | 2 => i2 | 3 => i3 | 4 => i4 | 5 => i5 | 6 => i6 | 7 => i7 | 8 => i8 | 9 => i9 | 10 => i10 | _ => i0, fun c q hq => ?_, fun k q h => by cases h⟩
  match c, hq with
  | 0, hq => cases hq; exact k0
  | 1, hq => cases hq; exact k1
  | 2, hq => cases hq; exact k2
  | 3, hq => cases hq; exact k3
  | 4, hq => cases hq; exact k4
  | 5, hq => cases hq; exact k5
  | 6, hq => cases hq; exact k6
  | 7, hq => cases hq; exact k7
  | 8, hq => cases hq; exact k8
  | 9, hq => cases hq; exact k9
  | 10, hq => cases hq; exact k10
  | n + 11, hq => cases hq
end LW1
