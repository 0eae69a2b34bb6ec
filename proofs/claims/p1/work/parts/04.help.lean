/-! SHORT FORMS for the walks: a contract's start (what a method needs of heap and tables), where no frame matters. -/
section TW7
variable {D : va_G} {cl : List vw_C} {ws : va_W} {tys : List (ClassId × FieldType)} {av : List Value} {s : State} {H : Heap} {sz : Nat} {Ev : State → Prop}
/-- a method that only reads: its cells, its tables -/
abbrev tw_P2 (D : va_G) (cl : List vw_C) (ws : va_W) (tys : List (ClassId × FieldType)) (av : List Value) : Array Value → State → Prop := va_Pc av (fun U => va_P D cl ws U.heap ∧ va_K D cl tys U)
theorem tw_b2 : FrameBlind (tw_P2 D cl ws tys av) := fun a U g mk q => ⟨q.1, q.2.1, va_K.moved (u := U) (U := U.calling g mk a) (Vm.Alike.refl U.vm) q.2.2⟩
theorem tw_s2 (hP : va_P D cl ws H) (hK : va_K D cl tys s) : PreS s H (tw_P2 D cl ws tys av) av := ⟨tw_b2, fun U hU hW => ⟨rfl, by rw [hU]; exact hP, va_K.moved hW.alike hK⟩⟩
theorem tw_v2 {C : String} {b : Nat} {As : List Value} (hr : ∃ cell : Cell, H[b]? = some cell ∧ cell.vm.isStatics = false ∧ s.vm.findClass C = some cell.cls) (hP : va_P D cl ws H) (hK : va_K D cl tys s) : PreV s H C b (tw_P2 D cl ws tys (.ref b :: As)) As :=
  ⟨tw_b2, hr, fun U hU hW => ⟨rfl, by rw [hU]; exact hP, va_K.moved hW.alike hK⟩⟩
/-- a method of numbers alone -/
abbrev tw_P0 (av : List Value) : Array Value → State → Prop := va_Pc av (fun _ => True)
theorem tw_s0 : PreS s H (tw_P0 av) av := ⟨fun _ _ _ _ q => q, fun _ _ _ => ⟨rfl, trivial⟩⟩
/-- a method that writes: its cells, apart from each other; the heap's size -/
abbrev tw_P4 (D : va_G) (cl : List vw_C) (ws : va_W) (tys : List (ClassId × FieldType)) (sz : Nat) (av : List Value) : Array Value → State → Prop := va_Pc av (fun U => U.heap.size = sz ∧ va_P D cl ws U.heap ∧ va_K D cl tys U ∧ va_D (fun _ => True) ws)
theorem tw_b4 : FrameBlind (tw_P4 D cl ws tys sz av) := fun a U g mk q => ⟨q.1, q.2.1, q.2.2.1, va_K.moved (u := U) (U := U.calling g mk a) (Vm.Alike.refl U.vm) q.2.2.2.1, q.2.2.2.2⟩
theorem tw_s4 {A : Nat → Prop} (hP : va_P D cl ws H) (hK : va_K D cl tys s) (hD : va_D A ws) : PreS s H (tw_P4 D cl ws tys H.size av) av := ⟨tw_b4, fun U hU hW => ⟨rfl, by rw [hU], by rw [hU]; exact hP, va_K.moved hW.alike hK, hD.weaken (fun _ _ _ _ => trivial)⟩⟩
theorem tw_v4 {A : Nat → Prop} {C : String} {b : Nat} {As : List Value} (hr : ∃ cell : Cell, H[b]? = some cell ∧ cell.vm.isStatics = false ∧ s.vm.findClass C = some cell.cls) (hP : va_P D cl ws H) (hK : va_K D cl tys s) (hD : va_D A ws) : PreV s H C b (tw_P4 D cl ws tys H.size (.ref b :: As)) As :=
  ⟨tw_b4, hr, fun U hU hW => ⟨rfl, by rw [hU], by rw [hU]; exact hP, va_K.moved hW.alike hK, hD.weaken (fun _ _ _ _ => trivial)⟩⟩
/-- no cell of a world is a cell of statics -/
theorem tw_nst (hP : va_P D cl ws s.heap) : ∀ (a : Nat) (cell : Cell), s.heap[a]? = some cell → cell.vm.isStatics = true → ¬ va_A ws s.heap.size a := by
  intro a cell hc hs h
  rcases h with ⟨k, e, h⟩ | h
  · have h1 := hP k _ h
    cases e with
    | inl x =>
      have h2 : s.heap[a]? = some (vp_cell x.1 x.2) := h1
      rw [hc] at h2
      cases h2
      obtain ⟨cA, n, f | f | f | f | f⟩ := x <;> cases hs
    | inr o =>
      obtain ⟨r, -, c2, g1, -, g3, -⟩ := h1
      rw [show s.heap[a]? = some c2 from g1] at hc
      cases hc
      rw [g3] at hs
      cases hs
  · have := (Array.getElem?_eq_some_iff.mp hc).1
    omega
end TW7
/-! the static field that a new ArrayList reads; the words on nest mates' constructors -/
abbrev al_Z (e0 : Nat) (A : Nat → Prop) (U : State) (H : Heap) : Prop := va_Z "java/util/ArrayList" "DEFAULTCAPACITY_EMPTY_ELEMENTDATA" "[Ljava/lang/Object;" (.ref e0) A U H
def lb_nest (U : State) : Prop := va_Nw (.methodLinkNest "LandBook" 23 ⟨"LandBook$Cutter", "<init>", "()V"⟩ "LandBook") U ∧ va_Nw (.methodLinkNest "LandBook" 30 ⟨"LandBook$Joiner", "<init>", "()V"⟩ "LandBook") U ∧ va_Nw (.methodLinkNest "LandBook" 37 ⟨"LandBook$Register", "<init>", "()V"⟩ "LandBook") U ∧ va_Nw (.methodLinkNest "LandBook" 44 ⟨"LandBook$Log", "<init>", "()V"⟩ "LandBook") U
theorem lb_nest.warm {s U : State} (hW : s.WarmedH U.vm) (h : lb_nest s) : lb_nest U := ⟨va_Nw.warmM hW h.1, va_Nw.warmM hW h.2.1, va_Nw.warmM hW h.2.2.1, va_Nw.warmM hW h.2.2.2⟩
section TW8
variable {D : va_G} {cl : List vw_C} {ws : va_W} {tys : List (ClassId × FieldType)} {av : List Value} {s : State} {H : Heap} {sz e0 : Nat}
abbrev tw_P4Z (D : va_G) (cl : List vw_C) (ws : va_W) (tys : List (ClassId × FieldType)) (sz e0 : Nat) (av : List Value) : Array Value → State → Prop := va_Pc av (fun U => U.heap.size = sz ∧ va_P D cl ws U.heap ∧ va_K D cl tys U ∧ va_D (fun _ => True) ws ∧ al_Z e0 (va_A ws sz) U U.heap)
theorem tw_b4Z : FrameBlind (tw_P4Z D cl ws tys sz e0 av) := fun a U g mk q => ⟨q.1, q.2.1, q.2.2.1, va_K.moved (u := U) (U := U.calling g mk a) (Vm.Alike.refl U.vm) q.2.2.2.1, q.2.2.2.2.1, va_Z.moved (u := U) (U := U.calling g mk a) (Vm.Alike.refl U.vm) q.2.2.2.2.2⟩
theorem tw_s4Z {A : Nat → Prop} (hP : va_P D cl ws H) (hK : va_K D cl tys s) (hD : va_D A ws) (hZ : al_Z e0 (va_A ws H.size) s H) : PreS s H (tw_P4Z D cl ws tys H.size e0 av) av := ⟨tw_b4Z, fun U hU hW => ⟨rfl, by rw [hU], by rw [hU]; exact hP, va_K.moved hW.alike hK, hD.weaken (fun _ _ _ _ => trivial), by rw [hU]; exact va_Z.moved hW.alike hZ⟩⟩
abbrev tw_P4N (D : va_G) (cl : List vw_C) (ws : va_W) (tys : List (ClassId × FieldType)) (sz e0 : Nat) (av : List Value) : Array Value → State → Prop := va_Pc av (fun U => U.heap.size = sz ∧ va_P D cl ws U.heap ∧ va_K D cl tys U ∧ va_D (fun _ => True) ws ∧ al_Z e0 (va_A ws sz) U U.heap ∧ lb_nest U)
theorem tw_b4N : FrameBlind (tw_P4N D cl ws tys sz e0 av) := fun a U g mk q => ⟨q.1, q.2.1, q.2.2.1, va_K.moved (u := U) (U := U.calling g mk a) (Vm.Alike.refl U.vm) q.2.2.2.1, q.2.2.2.2.1, va_Z.moved (u := U) (U := U.calling g mk a) (Vm.Alike.refl U.vm) q.2.2.2.2.2.1, lb_nest.warm (s := U) (U := U.calling g mk a) (State.WarmedH.refl U) q.2.2.2.2.2.2⟩
theorem tw_s4N {A : Nat → Prop} (hP : va_P D cl ws H) (hK : va_K D cl tys s) (hD : va_D A ws) (hZ : al_Z e0 (va_A ws H.size) s H) (hn : lb_nest s) : PreS s H (tw_P4N D cl ws tys H.size e0 av) av := ⟨tw_b4N, fun U hU hW => ⟨rfl, by rw [hU], by rw [hU]; exact hP, va_K.moved hW.alike hK, hD.weaken (fun _ _ _ _ => trivial), by rw [hU]; exact va_Z.moved hW.alike hZ, lb_nest.warm hW hn⟩⟩
end TW8
