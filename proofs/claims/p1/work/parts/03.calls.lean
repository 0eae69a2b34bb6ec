/-! CALLS of methods with a table of handlers (static ones), and of methods that check something and throw if it doesn't hold. -/
section TW6
variable {p : Program} {l : Launch} {e : Env} {R : Room} {s : State} {m : MethodId} {args : Array Value} {below : List Frame} {meth : Method} {c : Code} {H : Heap} {locs : List Loc} {cells slots : Nat} {Q : State → Prop}
variable {y : MethodName} {bytes cc : ByteArray} {maxL nL mc ms n index : Nat} {ret : Option FieldType} {ws : List Cond} {rm : Room} {Pc : Array Value → State → Prop} {Qc : Array Value → State → Outcome → State → Prop} {free : Addr → Prop} {Ts : List Cond} {own C : String} {b : Addr} {As rest : List Value} {g : JFrame}
theorem tw_runSW {hh : List (Nat × Nat × Nat × Nat)} {ws' : List Cond} (S : CallFix p m c cc nL s args Ts own) (hM : Met l y ws rm Pc Qc mc ms free) (hG : GoodIn Ts ws) (hw : ws = Cond.codeWith y bytes maxL ret hh :: ws') (hrc : rm.cells = mc) (hrs : rm.slots = ms) (hR : rm.frames + 1 ≤ R.frames ∧ 8 + (maxL + 11) + rm.locals ≤ R.locals)
    (hini : (Cond.initialized y.cls).before args s = true) (hl : (Cond.methodLink own index y).before args s = true) (hstt : (Cond.static y).before args s = true) (hd : y.cls ≠ "java/lang/invoke/MethodHandle" ∧ y.cls ≠ "java/lang/invoke/VarHandle" ∧ (parseMethodDescriptor y.desc).map (fun d => d.parameters.length) = some n) (hp : PreS s H Pc As)
    (hg : g.method = m) (hn : As.length = n) (hsize : g.locals.size = nL) (hstack : g.stack = As.reverse ++ rest) (hW : 2 * g.monitorRoom + (rest.map fun v => v.category).sum ≤ 8) (hdg : decode cc g.pc = .ok (.invokestatic index, 3)) (hf : cells + mc ≤ R.cells ∧ slots + ms ≤ R.slots) :
    va_Run p l e R s m args below meth c H locs cells slots mc ms g rest (Qc As.toArray) free := by
  obtain ⟨hx, hb, hml, ho, ht⟩ := S
  have hcw : Cond.codeWith y bytes maxL ret hh ∈ ws := by rw [hw]; exact List.mem_cons_self
  have hcode := ht _ (hG _ hcw).1
  have hK : Back l R p e below s args y 3 8 (PreOf R mc ms Pc) (PostOf Qc mc ms free) := va_backW (hh := hh) (bytes := bytes) (maxL := maxL) (ret := ret) hM hp.1 hrc hrs hR.1 hR.2 (pay_in ht hG) hcw (fun a' U hW => word_at hW (Or.inl (by first | rfl | simp [Cond.onTables, Cond.keeps, Cond.steady])) hini)
  obtain ⟨mk, methM, cM, hnamed, hmethM, -, -, -, -, -, -, hsigM⟩ := Cond.codeWith_spec hcode
  have hstatic : methM.isStatic = true := Cond.static_spec hnamed hmethM hstt
  obtain ⟨kP, hkP, -⟩ := className_of_methodNamed hnamed
  have hinitP : kP.init = .initialized := Cond.initialized_spec (findClass_of_methodNamed hnamed) hkP hini
  have hlen : As.length = methM.sig.parameters.length := by
    have h2 := hd.2.2
    rw [hsigM] at h2
    exact hn.trans (Option.some.inj h2).symm
  intro T hT X
  obtain ⟨vm₁, X₁, hstep₁⟩ := X.invokestatic hx ho hl hnamed hmethM hstatic hkP hinitP ⟨hd.1, hd.2.1⟩ (g := g) hg (argsL := As) (rest := rest) hlen hstack (by rw [hb]; exact hdg)
  obtain ⟨v, ⟨U', l2, c2, s2⟩, X', ⟨g', mk', t, L, e1, e2, hq, h1, hL, h2, h3⟩, st⟩ := hK m meth c ⟨T.setVm vm₁, locs, cells, slots⟩ { g with stack := rest } (.invokestatic index) mk As.toArray X₁ hg (hsize.trans hml.symm) (by rw [hb]; exact hdg) hW (X₁.named hnamed) ⟨hf.1, hf.2, hp.2 (T.setVm vm₁) hT X₁.warmed⟩
  dsimp only [Pt.U, Pt.locs, Pt.cells, Pt.slots] at X' e1 e2 h1 h2 h3 st
  subst h1; subst h2; subst h3
  exact ⟨v, (T.setVm vm₁).calling g' mk' As.toArray, t, U', L, hT, X', hL, e1, e2, hq, fun tg h => hstep₁ _ fun acts => by rw [doInvoke_state]; exact st.trans h⟩
/-- the end of a method that checks: all as it was, if 'ok'; else the exception of that name, in a new cell, all else as it was -/
def tw_Qk (ok : Prop) (cls : String) : Array Value → State → Outcome → State → Prop := fun _ st o t => match o with
  | .returned v => v = none ∧ ok ∧ t.heap = st.heap
  | .threw x => ¬ ok ∧ x = st.heap.size ∧ st.heap.size ≤ t.heap.size ∧ (∀ z : Nat, z < st.heap.size → t.heap[z]? = st.heap[z]?) ∧ tw_exc cls x t
theorem tw_chk {pc : Nat} {ls : Array Slot} {st0 : List Value} {ok : Prop} {cls : String} {a : Array Value} (hr : tw_Run p l e R s m args below meth c H locs cells slots mc ms (F0 m pc ls st0) rest (tw_Qk ok cls a) (fun _ => False))
    (kr : ok → W p l e R s m args below meth c H locs (cells + mc) (slots + ms) Q (F0 m (pc + 3) ls rest))
    (kt : ¬ ok → ∀ (x : Addr) (H1 : Heap), x = H.size → H.size ≤ H1.size → (∀ z : Nat, z < H.size → H1[z]? = H[z]?) → (∃ cell : Cell, H1[x]? = some cell ∧ cell.vm.isStatics = false ∧ s.vm.findClass cls = some cell.cls) → tw_W p l e R s m args below meth c H1 locs (cells + mc) (slots + ms) Q (F0 m pc ls rest) x) :
    W p l e R s m args below meth c H locs cells slots Q (F0 m pc ls st0) := by
  intro T hT X
  obtain ⟨o, st, t, T', L, h0, X', hL, e1, e2, hq, hst⟩ := hr T hT X
  have X2 := Stand.forget (extra := L) X' (fun q h => (hL q h).elim)
  cases o with
  | returned v =>
    obtain ⟨rfl, hok, hh⟩ := hq
    obtain ⟨t2, a1, b1⟩ := kr hok T' (by rw [e1, hh, h0]) X2
    exact ⟨t2, hst t2 a1, b1⟩
  | threw x =>
    obtain ⟨hok, hx, hz, hk, cell, g1, g2, g3⟩ := hq
    obtain ⟨t2, a1, b1⟩ := kt hok x T'.heap (by rw [hx, h0]) (by rw [e1, ← h0]; exact hz) (fun z hz1 => by rw [e1, hk z (by rw [h0]; exact hz1), h0]) ⟨cell, by rw [e1]; exact g1, g2, by rw [← e2] at g3; rw [← X'.warmed.alike.findClass]; exact g3⟩ T' rfl X2
    exact ⟨t2, hst t2 a1, b1⟩
end TW6
