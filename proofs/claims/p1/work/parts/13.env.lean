/-! WHAT THE THROWS of LandBook need at the start: the constructors of four exceptions, the texts -/
def lb_exc : List (Nat × String) := [(61, "java/lang/UnsupportedOperationException"), (84, "java/lang/IllegalStateException"), (193, "java/lang/IndexOutOfBoundsException"), (262, "java/lang/IllegalArgumentException")]
def lb_txt : List (Nat × String) := [(59, "the row is full"), (82, "there is a district"), (191, "no such easement"), (245, "no such corner"), (251, "nothing that is counted"), (253, "no such word"), (260, "a negative number of words"), (270, "there is no district"), (275, "mounted too often"), (286, "no district, or it is down"), (288, "no such lot"), (290, "neither 0 nor 1"), (292, "no point"), (294, "no day"), (296, "a negative entry"), (298, "no person"), (300, "no term of a share"), (302, "a negative place")]
def lb_E (U : State) : Prop := (∀ x ∈ lb_exc, tw_own "LandBook" x.1 x.2 U) ∧ ∀ x ∈ lb_txt, ∃ q, vk_R "LandBook" x.1 x.2 q U
theorem lb_E.to {s U : State} (h : lb_E s) (hW : s.WarmedH U.vm) (hk : ∀ (a : Nat) (cell : Cell), s.heap[a]? = some cell → cell.vm.isStatics = true → U.heap[a]? = some cell) : lb_E U :=
  ⟨fun x hx => (h.1 x hx).to hW hk, fun x hx => (h.2 x hx).imp fun _ hq => hq.warm hW⟩
theorem lb_E.call {U : State} (h : lb_E U) (g : JFrame) (mk : MethodId) (a : Array Value) : lb_E (U.calling g mk a) := h.to (U := U.calling g mk a) (State.WarmedH.refl U) (fun _ _ h1 _ => h1)
section TW9
variable {D : va_G} {cl : List vw_C} {ws : va_W} {tys : List (ClassId × FieldType)} {av : List Value} {s : State} {H : Heap} {sz : Nat}
abbrev tw_P0E (av : List Value) : Array Value → State → Prop := va_Pc av (fun U => lb_E U)
theorem tw_s0E (hE : lb_E s) (hk : ∀ (a : Nat) (cell : Cell), s.heap[a]? = some cell → cell.vm.isStatics = true → H[a]? = some cell) : PreS s H (tw_P0E av) av := ⟨fun a U g mk q => ⟨q.1, q.2.call g mk a⟩, fun U hU hW => ⟨rfl, hE.to hW (fun a cell h1 h2 => by rw [hU]; exact hk a cell h1 h2)⟩⟩
abbrev tw_P2E (D : va_G) (cl : List vw_C) (ws : va_W) (tys : List (ClassId × FieldType)) (av : List Value) : Array Value → State → Prop := va_Pc av (fun U => va_P D cl ws U.heap ∧ va_K D cl tys U ∧ lb_E U)
theorem tw_b2E : FrameBlind (tw_P2E D cl ws tys av) := fun a U g mk q => ⟨q.1, q.2.1, va_K.moved (u := U) (U := U.calling g mk a) (Vm.Alike.refl U.vm) q.2.2.1, q.2.2.2.call g mk a⟩
theorem tw_v2E {C : String} {b : Nat} {As : List Value} (hr : ∃ cell : Cell, H[b]? = some cell ∧ cell.vm.isStatics = false ∧ s.vm.findClass C = some cell.cls) (hP : va_P D cl ws H) (hK : va_K D cl tys s) (hE : lb_E s) (hk : ∀ (a : Nat) (cell : Cell), s.heap[a]? = some cell → cell.vm.isStatics = true → H[a]? = some cell) : PreV s H C b (tw_P2E D cl ws tys (.ref b :: As)) As :=
  ⟨tw_b2E, hr, fun U hU hW => ⟨rfl, by rw [hU]; exact hP, va_K.moved hW.alike hK, hE.to hW (fun a cell h1 h2 => by rw [hU]; exact hk a cell h1 h2)⟩⟩
abbrev tw_P4E (D : va_G) (cl : List vw_C) (ws : va_W) (tys : List (ClassId × FieldType)) (sz : Nat) (av : List Value) : Array Value → State → Prop := va_Pc av (fun U => U.heap.size = sz ∧ va_P D cl ws U.heap ∧ va_K D cl tys U ∧ va_D (fun _ => True) ws ∧ lb_E U)
theorem tw_b4E : FrameBlind (tw_P4E D cl ws tys sz av) := fun a U g mk q => ⟨q.1, q.2.1, q.2.2.1, va_K.moved (u := U) (U := U.calling g mk a) (Vm.Alike.refl U.vm) q.2.2.2.1, q.2.2.2.2.1, q.2.2.2.2.2.call g mk a⟩
theorem tw_v4E {A : Nat → Prop} {C : String} {b : Nat} {As : List Value} (hr : ∃ cell : Cell, H[b]? = some cell ∧ cell.vm.isStatics = false ∧ s.vm.findClass C = some cell.cls) (hP : va_P D cl ws H) (hK : va_K D cl tys s) (hD : va_D A ws) (hE : lb_E s) (hk : ∀ (a : Nat) (cell : Cell), s.heap[a]? = some cell → cell.vm.isStatics = true → H[a]? = some cell) : PreV s H C b (tw_P4E D cl ws tys H.size (.ref b :: As)) As :=
  ⟨tw_b4E, hr, fun U hU hW => ⟨rfl, by rw [hU], by rw [hU]; exact hP, va_K.moved hW.alike hK, hD.weaken (fun _ _ _ _ => trivial), hE.to hW (fun a cell h1 h2 => by rw [hU]; exact hk a cell h1 h2)⟩⟩
theorem tw_s4E {A : Nat → Prop} (hP : va_P D cl ws H) (hK : va_K D cl tys s) (hD : va_D A ws) (hE : lb_E s) (hk : ∀ (a : Nat) (cell : Cell), s.heap[a]? = some cell → cell.vm.isStatics = true → H[a]? = some cell) : PreS s H (tw_P4E D cl ws tys H.size av) av :=
  ⟨tw_b4E, fun U hU hW => ⟨rfl, by rw [hU], by rw [hU]; exact hP, va_K.moved hW.alike hK, hD.weaken (fun _ _ _ _ => trivial), hE.to hW (fun a cell h1 h2 => by rw [hU]; exact hk a cell h1 h2)⟩⟩
/-- statics stay, where only a method's own cells changed -/
theorem tw_kst {A : Nat → Prop} {locs : List Loc} (hN : ∀ (a : Nat) (cell : Cell), s.heap[a]? = some cell → cell.vm.isStatics = true → ¬ A a) (hS : va_S A s.heap H locs) : ∀ (a : Nat) (cell : Cell), s.heap[a]? = some cell → cell.vm.isStatics = true → H[a]? = some cell :=
  fun a cell h1 h2 => by rw [hS.2.1 a (Array.getElem?_eq_some_iff.mp h1).1 (hN a cell h1 h2)]; exact h1
/-- the end of one of LandBook's methods, told by its answer or its exception alone -/
def tw_Qm (ret : Option Value → Prop) (thr : String → Prop) (A : Nat → Prop) : Array Value → State → Outcome → State → Prop := fun _ st o t => (match o with
  | .returned v => ret v
  | .threw x => ∃ cls, thr cls ∧ tw_exc cls x t) ∧ va_F A st t
end TW9
