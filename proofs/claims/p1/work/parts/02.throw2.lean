/-! EXCEPTIONS, the second part: what a throw needs of the tables and of Throwable's statics; a throw with a text; a throw that is caught. -/
def tw_rx : List String := ["java/lang/RuntimeException", "java/lang/Exception"]
def tw_isStat : Cond → Bool
  | .laysStatic .. => true
  | .isRef (.static ..) => true
  | _ => false
def tw_good (c : Cond) : Bool := c.warmB [] && (c.onTables || tw_isStat c)
theorem tw_stat_to {u U : State} {A A' : Array Value} (hvm : u.vm = U.vm) (hk : ∀ (a : Nat) (cell : Cell), u.heap[a]? = some cell → cell.vm.isStatics = true → U.heap[a]? = some cell) :
    ∀ c : Cond, tw_isStat c = true → c.before A u = true → c.before A' U = true := by
  have hff : ∀ O f d, U.fieldFound? O f d = u.fieldFound? O f d := by
    intro O f d
    simp only [State.fieldFound?, hvm]
  intro c hc hb
  cases c with
  | laysStatic O f d =>
    obtain ⟨c, k, i, fd, a, cell, hc, hf, hst, hsta, hcell, hiss, hcls, hlt, hty⟩ := Cond.laysStatic_spec hb
    have hcell' := hk a cell hcell hiss
    rw [hvm] at hc
    rw [← hff] at hf
    simp [Cond.before, Cond.holds, Cond.value, hc, hf, hst, hsta, hcell', hiss, hcls, hlt, hty]
  | isRef t =>
    cases t with
    | static O f d =>
      simp only [Cond.before, Cond.holds, Cond.value, Term.eval, State.fieldNamed?] at hb ⊢
      rw [hff]
      cases hf : u.fieldFound? O f d with
      | none => simp [hf] at hb
      | some q =>
        obtain ⟨c, k, i, fd⟩ := q
        cases hst : fd.isStatic with
        | false => simp [hf, hst] at hb
        | true =>
          cases hsta : k.statics with
          | none => simp [hf, hst, hsta] at hb
          | some a =>
            cases hcell : u.heap[a]? with
            | none => simp [hf, hst, hsta, hcell] at hb
            | some cell =>
              cases hiss : cell.vm.isStatics with
              | false => simp [hf, hst, hsta, hcell, hiss] at hb
              | true =>
                have hcell' := hk a cell hcell hiss
                simp [hf, hst, hsta, hcell, hiss, hcell'] at hb ⊢
                exact hb
    | _ => simp [tw_isStat] at hc
  | _ => simp [tw_isStat] at hc
theorem tw_before {s U : State} {A A' : Array Value} (hW : s.WarmedH U.vm) (hk : ∀ (a : Nat) (cell : Cell), s.heap[a]? = some cell → cell.vm.isStatics = true → U.heap[a]? = some cell) {c : Cond} (hg : tw_good c = true) (h : c.before A s = true) : c.before A' U = true := by
  simp only [tw_good, Bool.and_eq_true, Bool.or_eq_true] at hg
  have h1 : c.before A (s.setVm U.vm) = true := Cond.before_warmed hW c (Cond.warmOk_of_B (names := []) (fun x hx => by cases hx) c hg.1) h
  rcases hg.2 with h2 | h2
  · exact va_tabs h2 (u := s.setVm U.vm) (U := U) rfl h1
  · exact tw_stat_to (u := s.setVm U.vm) (U := U) rfl hk c h2 h1
/-- what 'throw new cls(text)' in the methods of 'own' needs: its constructor at the pool's place ic -/
def tw_own (own : String) (ic : Nat) (cls : String) (U : State) : Prop := ∀ c ∈ Bundle.ownAtoms own ic cls tw_rx, c.before #[] U = true
theorem tw_own_good (own : String) (ic : Nat) (cls : String) : (Bundle.ownAtoms own ic cls tw_rx).all tw_good = true := by rfl
theorem tw_own.to {own cls : String} {ic : Nat} {s U : State} (h : tw_own own ic cls s) (hW : s.WarmedH U.vm) (hk : ∀ (a : Nat) (cell : Cell), s.heap[a]? = some cell → cell.vm.isStatics = true → U.heap[a]? = some cell) : tw_own own ic cls U :=
  fun c hc => tw_before hW hk (List.all_eq_true.mp (tw_own_good own ic cls) c hc) (h c hc)
theorem tw_own.any {own cls : String} {ic : Nat} {s : State} (h : tw_own own ic cls s) (A : Array Value) : ∀ c ∈ Bundle.ownAtoms own ic cls tw_rx, c.before A s = true :=
  fun c hc => tw_before (U := s) (State.WarmedH.refl s) (fun _ _ h _ => h) (List.all_eq_true.mp (tw_own_good own ic cls) c hc) (h c hc)
/-- x is an object of the exception of that name -/
def tw_exc (cls : String) (x : Addr) (t : State) : Prop := ∃ cell : Cell, t.heap[x]? = some cell ∧ cell.vm.isStatics = false ∧ t.vm.findClass cls = some cell.cls
section TW3
variable {p : Program} {l : Launch} {e : Env} {R : Room} {s : State} {m : MethodId} {args : Array Value} {below : List Frame} {meth : Method} {c : Code} {H : Heap} {locs : List Loc} {cells slots : Nat} {Q : State → Prop}
variable {cc : ByteArray} {pc : Nat} {ls : Array Slot} {rest : List Value}
theorem tw_ldcw (hx : p.tables.exec = Jvm.exec) (hb : c.code = cc) {own tx : String} {index q : Nat} (hown : s.vm.findClass own = some m.cls) (hZ : vk_R own index tx q s) (hdg : decode cc pc = .ok (.ldc_w index, 3))
    (k : W p l e R s m args below meth c H locs cells slots Q (F0 m (pc + 3) ls (.ref q :: rest))) : W p l e R s m args below meth c H locs cells slots Q (F0 m pc ls rest) := by
  intro T hT X
  obtain ⟨t, a1, b1⟩ := k T hT X
  exact ⟨t, X.ldcStringW hx hown (text := tx) (a := q) hZ.1 hZ.2 (g := F0 m pc ls rest) rfl (by rw [hb]; exact hdg) t a1, b1⟩
theorem tw_ctor {Qc : Array Value → State → Outcome → State → Prop} {free : Addr → Prop} (hx : p.tables.exec = Jvm.exec) (hb : c.code = cc) (hfl : l.flags = pinnedFlags ++ [noTraceFlag]) {own cls : String} {ic q : Nat} (hown : s.vm.findClass own = some m.cls) (hcls : Bundle.fit cls = true) (hT : tw_own own ic cls s)
    (hno : c.exceptionTable.isEmpty = true) (hlocks : meth.locks = false) (hls : ls.size = c.maxLocals) {cX : ClassId} {kX : Class} (hfX : s.vm.findClass cls = some cX) (hkX : s.vm.classes[cX]? = some kX)
    (hd6 : decode cc pc = .ok (.invokespecial ic, 3)) (hd9 : decode cc (pc + 3) = .ok (.athrow, 1)) (hRf : 6 ≤ R.frames) (hRl : 82 ≤ R.locals)
    (hq : ∀ t : State, s.heap.size ≤ t.heap.size → (∀ z : Nat, z < s.heap.size → t.heap[z]? = s.heap[z]?) → s.WarmedH t.vm → tw_exc cls s.heap.size t → Qc args s (.threw s.heap.size) t) :
    W p l e R s m args below meth c (s.heap.push { cls := cX, slots := kX.instanceTypes.map defaultValue, vm := .none }) [] (cells + 1) (slots + 6) (tw_MQ below Qc args s (cells + 1) (slots + 6) free) (F0 m pc ls [.ref q, .ref s.heap.size, .ref s.heap.size]) := by
  intro T hTh X
  subst hb
  have htr : e.platform.stackTraces = false := Launch.traces_off hfl X.admits
  obtain ⟨U, hst, hrun, hend, hW, hsame, ce, hce, hown2⟩ := X.ctorThrowS hx htr (own := own) (cls := cls) (names := tw_rx) (ic := ic) hown hcls (by decide) (hT.any args) (fun x hx => by cases hx)
    (a := s.heap.size) (cX := cX) (kX := kX) hfX hkX (by rw [hTh]; simp) (Nat.le_refl _) (msg := .ref q) rfl (g := F0 m pc ls [.ref q, .ref s.heap.size, .ref s.heap.size]) rfl hls rfl rfl (rest := []) rfl hd6 hd9 (tw_none hno _) (by show 2 + 3 < R.frames; omega)
    (by show 2 * 0 + _ + (13 * (2 + 1) + 42) ≤ R.locals; simp [Value.category]; omega) hlocks
  have hkeep : ∀ z : Nat, z < s.heap.size → U.heap[z]? = s.heap[z]? := by
    intro z hz
    obtain ⟨c', h1, h2, h3, h4⟩ := hsame.2.2.2.2.2 z s.heap[z] (Array.getElem?_eq_getElem hz)
    have h5 : c'.slots = s.heap[z].slots := Array.ext_getElem? (fun i => h4 i (by simp))
    rw [Array.getElem?_eq_getElem hz, show U.heap[z]? = some c' from h1, h2, h5]
  exact ⟨U, hst, .threw s.heap.size, hrun, hend, hq U hsame.2.1 hkeep hW ⟨ce, hce, by rw [hown2.vm]; rfl, by rw [hW.alike.findClass]; exact hown2.cls⟩, [], ⟨hW, hsame⟩, fun _ h => by cases h⟩
/-- throw new cls(text), where nothing was written or made before -/
theorem tw_throw {Qc : Array Value → State → Outcome → State → Prop} {free : Addr → Prop} (hx : p.tables.exec = Jvm.exec) (hb : c.code = cc) (hfl : l.flags = pinnedFlags ++ [noTraceFlag]) {own cls tx : String} {i1 i2 ic q k : Nat} (hown : s.vm.findClass own = some m.cls) (hcls : Bundle.fit cls = true)
    (hclink : (Cond.classLink own i1 cls).before args s = true) (hini : (Cond.initialized cls).before args s = true) (hT : tw_own own ic cls s) (hZ : vk_R own i2 tx q s)
    (hno : c.exceptionTable.isEmpty = true) (hlocks : meth.locks = false) (hls : ls.size = c.maxLocals)
    (hd0 : decode cc pc = .ok (.new i1, 3)) (hd3 : decode cc (pc + 3) = .ok (.dup, 1)) (hd4 : (k = 2 ∧ decode cc (pc + 4) = .ok (.ldc i2, 2)) ∨ (k = 3 ∧ decode cc (pc + 4) = .ok (.ldc_w i2, 3))) (hd6 : decode cc (pc + 4 + k) = .ok (.invokespecial ic, 3)) (hd9 : decode cc (pc + 4 + k + 3) = .ok (.athrow, 1))
    (hRc : cells + 1 ≤ R.cells) (hRs : slots + 6 ≤ R.slots) (hRf : 6 ≤ R.frames) (hRl : 82 ≤ R.locals)
    (hq : ∀ t : State, s.heap.size ≤ t.heap.size → (∀ z : Nat, z < s.heap.size → t.heap[z]? = s.heap[z]?) → s.WarmedH t.vm → tw_exc cls s.heap.size t → Qc args s (.threw s.heap.size) t) :
    W p l e R s m args below meth c s.heap [] cells slots (tw_MQ below Qc args s (cells + 1) (slots + 6) free) (F0 m pc ls []) := by
  have hins : (Cond.instantiable cls 6).before args s = true := hT.any args _ (by simp [Bundle.ownAtoms])
  refine W.newc hx hb hown hclink hins hini rfl hd0 hRc hRs fun cC kC h1 h2 _ _ => ?_
  refine lv_dup hx hb hd3 rfl ?_
  have key := tw_ctor (cells := cells) (slots := slots) (R := R) (below := below) (meth := meth) (p := p) (e := e) (args := args) (pc := pc + 4 + k) (q := q) (ls := ls) (free := free) hx hb hfl hown hcls hT hno hlocks hls h1 h2 hd6 hd9 hRf hRl hq
  rcases hd4 with ⟨rfl, hd4⟩ | ⟨rfl, hd4⟩
  · exact va_ldcS hx hb hown hZ hd4 key
  · exact tw_ldcw hx hb hown hZ hd4 key
end TW3
section TW4
variable {Q : Handler → Pre} {E : CtlPost} {e : Env} {d : Bool} {acts : List Action} {s : State} {f : JFrame} {a : Addr}
theorem tw_goLink {x : ExceptionTableEntry} {t : List ExceptionTableEntry} {c : ClassId} {cell : Cell} (hx : covers x f.pc = true) (h0 : x.catchType ≠ 0) (hl : s.vm.ClassLinks e.platform f.method.cls x.catchType c) (hcell : s.heap[a]? = some cell) (hobj : ∀ k, cell.vm ≠ .statics k)
    (hk : ∃ k, s.vm.classes[cell.cls]? = some k) (hc : ∃ k, s.vm.classes[c]? = some k) :
    wp (findHandler.go f a (x :: t)) Q E e d acts s ↔ if s.vm.assignable cell.cls c = true then Q (.found x.handlerPc) d acts (s.setVm (s.vm.noted f.method.cls x.catchType (.cls c))) else wp (findHandler.go f a t) Q E e d acts (s.setVm (s.vm.noted f.method.cls x.catchType (.cls c))) := by
  simp only [covers] at hx
  obtain ⟨ha, ht⟩ := (resolveClass_links e.toSetting hl).op (op := VmOp.resolveClass f.method.cls x.catchType) rfl
  have hal : s.vm.Alike (s.vm.noted f.method.cls x.catchType (.cls c)) := (Vm.Alike.refl s.vm).noted _ _ _
  obtain ⟨k1, hk1⟩ := hk
  obtain ⟨k2, hk2⟩ := hc
  obtain ⟨k1', hk1', -⟩ := hal.2.2 _ _ hk1
  obtain ⟨k2', hk2', -⟩ := hal.2.2 _ _ hk2
  have has : (s.vm.noted f.method.cls x.catchType (.cls c)).assignable cell.cls c = s.vm.assignable cell.cls c := hal.assignable _ _
  cases hfit : s.vm.assignable cell.cls c <;> rw [hfit] at has <;>
    simp [findHandler.go, hx, h0, ha, ht, hcell, hobj, hk1', hk2', has, VmOp.dirties, VmOp.acts]
end TW4
/-- a row of the table that the thrown object of class k passes by -/
def tw_pass (pl : Platform) (s : State) (d : ClassId) (pc : Nat) (k : ClassId) (y : ExceptionTableEntry) : Prop := covers y pc = false ∨ (covers y pc = true ∧ y.catchType ≠ 0 ∧ ∃ c, s.vm.ClassLinks pl d y.catchType c ∧ s.vm.assignable k c = false)
theorem tw_find {e : Env} {s₀ : State} {f : JFrame} {a : Addr} {cell : Cell} (hobj : ∀ k, cell.vm ≠ .statics k) (hk0 : ∃ k, s₀.vm.classes[cell.cls]? = some k) (x : ExceptionTableEntry) (rest : List ExceptionTableEntry) (hx : covers x f.pc = true) (h0 : x.catchType ≠ 0) {cx : ClassId}
    (hl : s₀.vm.ClassLinks e.platform f.method.cls x.catchType cx) (hfit : s₀.vm.assignable cell.cls cx = true) :
    ∀ (pre : List ExceptionTableEntry) (S : State), s₀.WarmedH S.vm → S.heap[a]? = some cell → (∀ y ∈ pre, tw_pass e.platform s₀ f.method.cls f.pc cell.cls y) →
      ∃ vm', s₀.WarmedH vm' ∧ ∀ (Q : Handler → Pre) (E : CtlPost) (d : Bool) (acts : List Action), wp (findHandler.go f a (pre ++ x :: rest)) Q E e d acts S ↔ Q (.found x.handlerPc) d acts (S.setVm vm') := by
  obtain ⟨k0, hk0⟩ := hk0
  intro pre
  induction pre with
  | nil =>
    intro S hW hcell _
    obtain ⟨k0', hk0', -⟩ := hW.alike.2.2 _ _ hk0
    obtain ⟨dk, _, _, kt, hd, _, _, _, _, hkt, _, hopen⟩ := hl.here
    obtain ⟨kt', hkt', -⟩ := hW.alike.2.2 _ _ hkt
    refine ⟨_, hW.noted hd hopen (State.rightAt_cls hl), fun Q E d acts => ?_⟩
    rw [List.nil_append, tw_goLink hx h0 (hW.classLinks hl) hcell hobj ⟨k0', hk0'⟩ ⟨kt', hkt'⟩, if_pos (by rw [hW.alike.assignable]; exact hfit)]
  | cons y ys ih =>
    intro S hW hcell hpass
    obtain ⟨k0', hk0', -⟩ := hW.alike.2.2 _ _ hk0
    have hrest : ∀ z ∈ ys, tw_pass e.platform s₀ f.method.cls f.pc cell.cls z := fun z hz => hpass z (List.mem_cons_of_mem _ hz)
    rcases hpass y List.mem_cons_self with hcov | ⟨hcov, h0y, c, hly, hno⟩
    · obtain ⟨vm', hW', hq⟩ := ih S hW hcell hrest
      refine ⟨vm', hW', fun Q E d acts => ?_⟩
      rw [List.cons_append, Jvm.W.findHandler_go_skip hcov]
      exact hq Q E d acts
    · obtain ⟨dk, _, _, kt, hd, _, _, _, _, hkt, _, hopen⟩ := hly.here
      obtain ⟨kt', hkt', -⟩ := hW.alike.2.2 _ _ hkt
      obtain ⟨vm', hW', hq⟩ := ih (S.setVm (S.vm.noted f.method.cls y.catchType (.cls c))) (hW.noted hd hopen (State.rightAt_cls hly)) hcell hrest
      refine ⟨vm', hW', fun Q E d acts => ?_⟩
      rw [List.cons_append, tw_goLink hcov h0y (hW.classLinks hly) hcell hobj ⟨k0', hk0'⟩ ⟨kt', hkt'⟩, if_neg (by rw [hW.alike.assignable, hno]; decide)]
      exact hq Q E d acts
theorem tw_stepCatch {e : Env} {s : State} {a : Addr} {f : JFrame} {r : List Frame} {pc : Nat} {vm' : Vm} (hfind : ∀ (Q : Handler → Pre) (E : CtlPost) (d : Bool) (acts : List Action), wp (findHandler f a) Q E e d acts s ↔ Q (.found pc) d acts (s.setVm vm')) :
    (stepThrowing e s a (.java f :: r)).Is ((s.setVm vm').setFrames (.java { f with pc := pc, stack := [.ref a] } :: r)) [] := by
  simp only [stepThrowing, searchFrame, vmDo]
  generalize hr : Sem.go _ e false [] s = res
  obtain ⟨as, rfl, ha⟩ := Sem.eq_ok_of hr (a := Handler.found pc) (s' := s.setVm vm') (acts' := []) (by simp [hfind _ _ _ _])
  exact ⟨rfl, ha⟩
theorem tw_caught {tb : Tables} {e : Env} {s target : State} {g : JFrame} {c : Code} {below : List Frame} {a : Addr} (h : At s g.method c below) {pc : Nat} {vm' : Vm}
    (hfind : ∀ (Q : Handler → Pre) (E : CtlPost) (d : Bool) (acts : List Action), wp (findHandler g a) Q E e d acts ((s.setTop g).pushFrame (.throwing a)) ↔ Q (.found pc) d acts (((s.setTop g).pushFrame (.throwing a)).setVm vm'))
    (hrest : Steps tb e below ((s.setVm vm').setTop { g with pc := pc, stack := [.ref a] }) target) : Steps tb e below ((s.setTop g).pushFrame (.throwing a)) target := by
  obtain ⟨hgo, hw⟩ := h.throwing a
  refine Steps.head hgo hw ?_
  rw [stepThread_throwing (frames_entered h.top _), (tw_stepCatch (s := (s.setTop g).pushFrame (.throwing a)) hfind).1]
  obtain ⟨g₀, hg⟩ := Option.isSome_iff_exists.mp h.top
  obtain ⟨r, hr⟩ := State.topJava?_eq_some.mp hg
  have hr' : (s.setVm vm').frames = .java g₀ :: r := hr
  rw [State.setTop_of_frames _ hr'] at hrest
  have h1 : (((s.setTop g).pushFrame (.throwing a)).setVm vm').setFrames (.java { g with pc := pc, stack := [.ref a] } :: s.frames.tail) = (s.setVm vm').setFrames (.java { g with pc := pc, stack := [.ref a] } :: r) := by
    have h2 : ((s.setTop g).pushFrame (.throwing a)).setVm vm' = (s.setVm vm').setFrames (.throwing a :: .java g :: r) := by
      rw [State.pushFrame, State.frames_setTop _ hr, State.setTop_of_frames _ hr, State.setFrames_setFrames]
      rfl
    rw [h2, State.setFrames_setFrames, hr]
    rfl
  rw [h1]
  exact hrest
section TW5
variable {p : Program} {l : Launch} {e : Env} {R : Room} {s : State} {m : MethodId} {args : Array Value} {below : List Frame} {meth : Method} {c : Code} {H : Heap} {locs : List Loc} {cells slots : Nat} {Q : State → Prop}
/-- the row behind 'pre' takes it: the walk goes on at the row's handler, the object alone on the stack -/
theorem tw_catch {own cls : String} {pc : Nat} {ls : Array Slot} {st : List Value} {x : Addr} {hh pre post : List (Nat × Nat × Nat × Nat)} {sp ep hp ct : Nat} (hown : s.vm.findClass own = some m.cls)
    (htab : c.exceptionTable.toList.map (fun h => (h.startPc, h.endPc, h.handlerPc, h.catchType)) = hh) (hsp : hh = pre ++ (sp, ep, hp, ct) :: post)
    (hcell : ∃ cell : Cell, H[x]? = some cell ∧ cell.vm.isStatics = false ∧ s.vm.findClass cls = some cell.cls) (hin : sp ≤ pc ∧ pc < ep) (hct : ct ≠ 0) (hlink : (Cond.classLink own ct cls).before args s = true)
    (hpass : ∀ y ∈ pre, (pc < y.1 ∨ y.2.1 ≤ pc) ∨ (y.2.2.2 ≠ 0 ∧ ∃ N, (Cond.classLink own y.2.2.2 N).before args s = true ∧ va_Nc cls N s))
    (k : W p l e R s m args below meth c H locs cells slots Q (F0 m hp ls [.ref x])) : tw_W p l e R s m args below meth c H locs cells slots Q (F0 m pc ls st) x := by
  intro T hT X
  have hpl : e.platform.magicAccessors = ({} : Platform).magicAccessors := by rw [X.admits.platform]
  obtain ⟨cell, h1, h2, h3⟩ := hcell
  obtain ⟨kc, hkc, -⟩ := Vm.findClass_spec h3
  obtain ⟨cx, hcx, hcl⟩ := Cond.classLink_spec hown hlink e.platform hpl
  cases h3.symm.trans hcx
  rw [hsp] at htab
  obtain ⟨prE, restE, hspE, hpre, hrest⟩ := List.map_eq_append_iff.mp htab
  obtain ⟨xE, postE, hxE, hx1, hx2⟩ := List.map_eq_cons_iff.mp hrest
  subst hxE
  simp only [Prod.mk.injEq] at hx1
  obtain ⟨e1, e2, e3, e4⟩ := hx1
  have hmeth' : T.vm.method? m = some meth := X.method'
  obtain ⟨vm', hW', hq⟩ := tw_find (e := e) (s₀ := s) (f := F0 m pc ls st) (a := x) (cell := cell) (fun k h => by rw [h] at h2; cases h2) ⟨kc, hkc⟩ xE postE
    (by simp only [covers, Bool.and_eq_true, decide_eq_true_eq]; rw [e1, e2]; exact hin) (by rw [e4]; exact hct) (cx := cell.cls) (by rw [e4]; exact hcl) (va_asg _ _) prE ((T.setTop (F0 m pc ls st)).pushFrame (.throwing x))
    (by rw [Stand.throwing_vm]; exact X.warmed) (by rw [Stand.throwing_heap, hT]; exact h1) (fun y hy => by
      have hy' : (y.startPc, y.endPc, y.handlerPc, y.catchType) ∈ pre := by rw [← hpre]; exact List.mem_map.mpr ⟨y, hy, rfl⟩
      rcases hpass _ hy' with h | ⟨h0, N, hN, cC, cT, g1, g2, g3⟩
      · refine Or.inl ?_
        simp only [covers, Bool.and_eq_false_iff, decide_eq_false_iff_not]
        dsimp only at h
        rcases h with h | h
        · exact Or.inl (by show ¬ y.startPc ≤ pc; omega)
        · exact Or.inr (by show ¬ pc < y.endPc; omega)
      · by_cases hcov : covers y (F0 m pc ls st).pc = true
        · obtain ⟨cN, hcN, hclN⟩ := Cond.classLink_spec hown hN e.platform hpl
          cases g2.symm.trans hcN
          cases g1.symm.trans h3
          exact Or.inr ⟨hcov, h0, _, hclN, g3⟩
        · exact Or.inl (by simpa using hcov))
  obtain ⟨t, a1, b1⟩ := k (T.setVm vm') hT (X.noted hW')
  refine ⟨t, ?_, b1⟩
  refine tw_caught (g := F0 m pc ls st) (vm' := vm') (pc := hp) X.here (fun Q E d acts => ?_) a1
  rw [Jvm.W.findHandler_eq (meth := meth) (code := c) (by rw [Stand.throwing_vm]; exact hmeth') X.code, hspE, ← e3]
  exact hq Q E d acts
end TW5
