/-! ENDS of LandBook's methods that threw, or answered a number -/
section TW10
variable {s t : State} {H H1 : Heap} {A : Nat → Prop} {locs : List Loc} {cls : String} {x : Addr}
theorem tw_excOf (h : ∃ cell : Cell, H1[x]? = some cell ∧ cell.vm.isStatics = false ∧ s.vm.findClass cls = some cell.cls) (ht : t.heap = H1) (hW : s.WarmedH t.vm) : tw_exc cls x t := by
  obtain ⟨cell, h1, h2, h3⟩ := h
  exact ⟨cell, by rw [ht]; exact h1, h2, by rw [hW.alike.findClass]; exact h3⟩
theorem tw_SF (hS : va_S A s.heap H locs) (hA : ∀ q : Nat, s.heap.size ≤ q → A q) (h1 : H.size ≤ H1.size) (h2 : ∀ z : Nat, z < H.size → H1[z]? = H[z]?) (ht : t.heap = H1) : va_F A s t :=
  ⟨by rw [ht]; exact Nat.le_trans hS.1 h1, fun q g1 g2 => by rw [ht, h2 q (Nat.lt_of_lt_of_le g1 hS.1)]; exact hS.2.1 q g1 g2⟩
theorem tw_S1 (hS : va_S A s.heap H locs) (h1 : H.size ≤ H1.size) (h2 : ∀ z : Nat, z < H.size → H1[z]? = H[z]?) : va_S A s.heap H1 locs :=
  ⟨Nat.le_trans hS.1 h1, fun q g1 g2 => by rw [h2 q (Nat.lt_of_lt_of_le g1 hS.1)]; exact hS.2.1 q g1 g2, hS.2.2⟩
theorem tw_P1 {D : va_G} {cl : List vw_C} {ws : va_W} (hP : va_P D cl ws H) (h2 : ∀ z : Nat, z < H.size → H1[z]? = H[z]?) : va_P D cl ws H1 := hP.kept fun k q hq => h2 _ (hP k q hq).lt
/-- a method that reads, answers a number, or throws -/
def tw_Qi (ok : Prop) (post : Int32 → Prop) (cls : String) : Array Value → State → Outcome → State → Prop := fun _ st o t => match o with
  | .returned v => ∃ r, v = some (.int r) ∧ ok ∧ post r ∧ t.heap = st.heap
  | .threw x => ¬ ok ∧ x = st.heap.size ∧ st.heap.size ≤ t.heap.size ∧ (∀ z : Nat, z < st.heap.size → t.heap[z]? = st.heap[z]?) ∧ tw_exc cls x t
end TW10
section TW11
variable {p : Program} {l : Launch} {e : Env} {R : Room} {s : State} {m : MethodId} {args : Array Value} {below : List Frame} {meth : Method} {c : Code} {H : Heap} {locs : List Loc} {cells slots : Nat} {Q : State → Prop} {mc ms : Nat} {rest : List Value}
theorem tw_chki {pc : Nat} {ls : Array Slot} {st0 : List Value} {ok : Prop} {post : Int32 → Prop} {cls : String} {a : Array Value} (hr : tw_Run p l e R s m args below meth c H locs cells slots mc ms (F0 m pc ls st0) rest (tw_Qi ok post cls a) (fun _ => False))
    (kr : ∀ r : Int32, ok → post r → W p l e R s m args below meth c H locs (cells + mc) (slots + ms) Q (F0 m (pc + 3) ls (.int r :: rest)))
    (kt : ¬ ok → ∀ (x : Addr) (H1 : Heap), x = H.size → H.size ≤ H1.size → (∀ z : Nat, z < H.size → H1[z]? = H[z]?) → (∃ cell : Cell, H1[x]? = some cell ∧ cell.vm.isStatics = false ∧ s.vm.findClass cls = some cell.cls) → tw_W p l e R s m args below meth c H1 locs (cells + mc) (slots + ms) Q (F0 m pc ls rest) x) :
    W p l e R s m args below meth c H locs cells slots Q (F0 m pc ls st0) := by
  intro T hT X
  obtain ⟨o, st, t, T', L, h0, X', hL, e1, e2, hq, hst⟩ := hr T hT X
  have X2 := Stand.forget (extra := L) X' (fun q h => (hL q h).elim)
  cases o with
  | returned v =>
    obtain ⟨r, rfl, hok, hp, hh⟩ := hq
    obtain ⟨t2, a1, b1⟩ := kr r hok hp T' (by rw [e1, hh, h0]) X2
    exact ⟨t2, hst t2 a1, b1⟩
  | threw x =>
    obtain ⟨hok, hx, hz, hk, cell, g1, g2, g3⟩ := hq
    obtain ⟨t2, a1, b1⟩ := kt hok x T'.heap (by rw [hx, h0]) (by rw [e1, ← h0]; exact hz) (fun z hz1 => by rw [e1, hk z (by rw [h0]; exact hz1), h0]) ⟨cell, by rw [e1]; exact g1, g2, by rw [← e2] at g3; rw [← X'.warmed.alike.findClass]; exact g3⟩ T' rfl X2
    exact ⟨t2, hst t2 a1, b1⟩
end TW11
/-- an int is one of the first n + 1 numbers, or lies outside -/
theorem tw_sw (x : Int32) (n : Nat) (hn : n < 2 ^ 31) : (∃ j : Nat, j ≤ n ∧ x = nI j) ∨ (x.toInt < 0 ∨ (n : Int) < x.toInt) := by
  by_cases h : x.toInt < 0
  · exact Or.inr (Or.inl h)
  · by_cases h2 : (n : Int) < x.toInt
    · exact Or.inr (Or.inr h2)
    · refine Or.inl ⟨x.toInt.toNat, by omega, ?_⟩
      apply Int32.toInt_inj.mp
      rw [nI_toInt (by omega)]
      omega
