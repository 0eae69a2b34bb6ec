/-! A throw behind writes: the walk's first state is put at the throw itself. -/
section RB
variable {p : Program} {l : Launch} {e : Env} {R : Room} {s : State} {m : MethodId} {args : Array Value} {below : List Frame} {meth : Method} {c : Code} {T : State} {locs : List Loc} {cells slots : Nat}
theorem tw_rebase (X : Stand p l e R s m args below meth c T locs cells slots) (hc : cells ≤ R.cells) (hs : slots ≤ R.slots) :
    Stand p l e { frames := R.frames, cells := R.cells - cells, slots := R.slots - slots, locals := R.locals } (T.setFrames (.invoking m args :: below)) m args below meth c T [] 0 0 := by
  obtain ⟨g₀, hfr⟩ := X.frames_eq
  have hcur : T.cur < T.threads.size := State.cur_lt_of_frames hfr
  have hf : (T.setFrames (.invoking m args :: below)).frames = .invoking m args :: below := State.frames_setFrames _ hcur
  have hm : (T.setFrames (.invoking m args :: below)).vm.method? m = some meth := X.method'
  obtain ⟨th, hth⟩ : ∃ th, T.threads[T.cur]? = some th := ⟨_, Array.getElem?_eq_getElem hcur⟩
  have h1 : (T.setFrames (.invoking m args :: below)).threads[(T.setFrames (.invoking m args :: below)).cur]? = some { th with frames := .invoking m args :: below } := by
    show (T.threads.modify T.cur _)[T.cur]? = _
    rw [Array.getElem?_modify, if_pos rfl, hth]
    rfl
  have hby : (T.setFrames (.invoking m args :: below)).me.stackBytes = T.me.stackBytes := by
    unfold State.me
    rw [h1, hth]
    rfl
  refine ⟨X.admits, X.cas, X.clock, hf, ?_, ?_, hm, X.code, X.here, X.tail, State.WarmedH.refl _, ?_, ?_, ?_⟩
  · have hr := X.room
    have hb := X.book
    have h1 := X.heapSize
    have h2 := X.used
    have hl1 : (T.setFrames (.invoking m args :: below)).localsInUse = s.localsInUse := by
      rw [State.localsInUse_invoking hf hm X.code, State.localsInUse_invoking X.frames X.method X.code]
    simp only [State.hasRoom, Bool.and_eq_true, decide_eq_true_eq] at hr ⊢
    obtain ⟨⟨⟨⟨a1, a2, a3, a4, a5, a6⟩, a7⟩, a8⟩, a9⟩ := hr
    rw [hl1, hf, State.stackLimits_setFrames, X.limits]
    rw [X.frames] at a2 a3
    refine ⟨⟨⟨⟨a1, a2, a3, a4, a5, ?_⟩, ?_⟩, ?_⟩, hb⟩
    · rw [hby, X.bytes]; exact a6
    · show T.heap.size + (R.cells - cells) ≤ _
      omega
    · show T.slotsUsed + (R.slots - slots) ≤ _
      omega
  · have hh := X.hears
    have ha := X.warmed.alike
    cases below with
    | nil =>
      simp only [State.hears] at hh ⊢
      rw [hm]
      rw [X.method] at hh
      exact hh
    | cons y r =>
      cases y <;> simp only [State.hears] at hh ⊢ <;> first
        | exact hh
        | (rw [hm]; rw [X.method] at hh; exact hh)
        | (rw [State.code?_eq] at hh ⊢
           rw [show (T.setFrames _).vm = T.vm from rfl, ha.method?]
           exact hh)
  · rw [State.stackLimits_setFrames]
  · exact hby.symm
  · have h0 : T.sameButNew T [] 0 0 := State.sameButNew.refl T hth
    have h2 := State.sameButNew.refl (T.setFrames (.invoking m args :: below)) h1
    have h3 := h2.setFrames T.frames (by simpa [State.setFrames] using hcur)
    rw [State.setFrames_setFrames, State.setFrames_self hth] at h3
    exact h3
end RB
section TH
variable {p : Program} {l : Launch} {e : Env} {R : Room} {s : State} {m : MethodId} {args : Array Value} {below : List Frame} {meth : Method} {c : Code} {H : Heap} {locs : List Loc} {cells slots : Nat} {cc : ByteArray} {pc : Nat} {ls : Array Slot}
/-- throw new cls(text), wherever the method stands -/
theorem tw_throwH {Qc : Array Value → State → Outcome → State → Prop} {free : Addr → Prop} (hx : p.tables.exec = Jvm.exec) (hb : c.code = cc) (hfl : l.flags = pinnedFlags ++ [noTraceFlag]) {own cls tx : String} {i1 i2 ic q k : Nat} (hown : s.vm.findClass own = some m.cls) (hcls : Bundle.fit cls = true) (hts : ∀ w ∈ tw_G, w.before args s = true)
    (hclink : Cond.classLink own i1 cls ∈ tw_G) (hini : Cond.initialized cls ∈ tw_G) (hT : tw_own own ic cls s) (hZ : vk_R own i2 tx q s)
    (hno : c.exceptionTable.isEmpty = true) (hlocks : meth.locks = false) (hls : ls.size = c.maxLocals)
    (hd0 : decode cc pc = .ok (.new i1, 3)) (hd3 : decode cc (pc + 3) = .ok (.dup, 1)) (hd4 : (k = 2 ∧ decode cc (pc + 4) = .ok (.ldc i2, 2)) ∨ (k = 3 ∧ decode cc (pc + 4) = .ok (.ldc_w i2, 3))) (hd6 : decode cc (pc + 4 + k) = .ok (.invokespecial ic, 3)) (hd9 : decode cc (pc + 4 + k + 3) = .ok (.athrow, 1))
    (hRc : cells + 1 ≤ R.cells) (hRs : slots + 6 ≤ R.slots) (hRf : 6 ≤ R.frames) (hRl : 82 ≤ R.locals) (hk : ∀ (a : Nat) (cell : Cell), s.heap[a]? = some cell → cell.vm.isStatics = true → H[a]? = some cell) (hf : ∀ q ∈ locs, free q.base)
    (hq : ∀ t : State, H.size ≤ t.heap.size → (∀ z : Nat, z < H.size → t.heap[z]? = H[z]?) → s.WarmedH t.vm → tw_exc cls H.size t → Qc args s (.threw H.size) t) :
    W p l e R s m args below meth c H locs cells slots (tw_MQ below Qc args s (cells + 1) (slots + 6) free) (F0 m pc ls []) := by
  intro T hTh X
  have X1 := tw_rebase X (by omega) (by omega)
  have hW : s.WarmedH (T.setFrames (.invoking m args :: below)).vm := X.warmed
  have hbig : ∀ w ∈ tw_G, w.before args (T.setFrames (.invoking m args :: below)) = true := fun w hw => pay_in hts tw_gG w hw _ _ hW
  have key := tw_throw (p := p) (e := e) (R := { frames := R.frames, cells := R.cells - cells, slots := R.slots - slots, locals := R.locals }) (s := T.setFrames (.invoking m args :: below)) (args := args) (below := below) (meth := meth) (ls := ls) (pc := pc) (cells := 0) (slots := 0) (free := fun _ => False)
    (Qc := fun _ st o t => o = .threw T.heap.size ∧ T.heap.size ≤ t.heap.size ∧ (∀ z : Nat, z < T.heap.size → t.heap[z]? = T.heap[z]?) ∧ st.WarmedH t.vm ∧ tw_exc cls T.heap.size t)
    hx hb hfl (own := own) (cls := cls) (tx := tx) (i1 := i1) (i2 := i2) (ic := ic) (q := q) (k := k) (by rw [hW.alike.findClass]; exact hown) hcls (hbig _ hclink) (hbig _ hini) (hT.to hW (fun a cell h1 h2 => by show T.heap[a]? = _; rw [hTh]; exact hk a cell h1 h2)) (hZ.warm hW) hno hlocks hls hd0 hd3 hd4 hd6 hd9 (by show 0 + 1 ≤ R.cells - cells; omega) (by show 0 + 6 ≤ R.slots - slots; omega) hRf hRl
    (fun t g1 g2 g3 g4 => ⟨rfl, g1, g2, g3, g4⟩)
  obtain ⟨t, hst, o, hrun, hend, ⟨rfl, g1, g2, g3, g4⟩, L, ⟨hW2, hsame⟩, hL⟩ := key T rfl X1
  have hL0 : L = [] := by
    cases L with
    | nil => rfl
    | cons x r => exact (hL x List.mem_cons_self).elim
  subst hL0
  subst hTh
  have hWt : s.WarmedH t.vm := State.WarmedH.trans X.warmed g3
  refine ⟨t, hst, .threw T.heap.size, hrun, hend, hq t g1 g2 hWt g4, locs, ⟨hWt, ?_⟩, hf⟩
  obtain ⟨g₀, hfr⟩ := X.frames_eq
  have hcur : T.cur < T.threads.size := State.cur_lt_of_frames hfr
  obtain ⟨th, hth⟩ : ∃ th, T.threads[T.cur]? = some th := ⟨_, Array.getElem?_eq_getElem hcur⟩
  have z1 : (T.setVm s.vm).sameButNew (T.setVm s.vm) [] 0 0 := State.sameButNew.refl (T.setVm s.vm) hth
  have z2 := z1.setFrames (.invoking m args :: below) hcur
  have z3 := hsame.setVm s.vm
  have z4 := (X.same.trans z2).trans z3
  refine z4.weaken ?_ (by omega) (by omega)
  intro x hx _
  simpa using hx
end TH
