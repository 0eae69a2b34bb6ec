/-! CONTRACTS OF THE BOOK'S METHODS THAT MAY THROW: post at a return, pe (the exception's class, the state) at a throw. -/
abbrev tw_PE (D : va_G) (k : CK) (T : CS) (sz : Nat) (av : List Value) : Array Value → State → Prop := va_Pc av (fun U => U.heap.size = sz ∧ va_P D classes (cwd k T) U.heap ∧ va_K D classes (ctys k) U ∧ va_D (fun _ => True) (cwd k T) ∧ ce k (va_A (cwd k T) sz) U U.heap ∧ lb_E U)
def jQE (D : va_G) (k : CK) (A : Nat → Prop) (ret : Option Value → CS → Prop) (pe : String → CS → Prop) : Array Value → State → Outcome → State → Prop := fun _ st o t => (match o with
  | .returned v => ∃ T1 : CS, ret v T1 ∧ cs_ok k T1 ∧ tw_B D.1 D.2 A (cwd k T1) (ctys k) t
  | .threw x => ∃ (cls : String) (T1 : CS), pe cls T1 ∧ cs_ok k T1 ∧ tw_exc cls x t ∧ tw_B D.1 D.2 A (cwd k T1) (ctys k) t) ∧ va_F A st t
def jE (l : Launch) (D : va_G) (k : CK) (y : MethodName) (cc : ByteArray) (maxL : Nat) (ret : Option FieldType) (fr lo mc ms : Nat) (T : CS) (av : List Value) (rt : Option Value → CS → Prop) (pe : String → CS → Prop) : Prop := cs_ok k T → ∀ sz : Nat,
  tw_Met l y (Cond.code y cc maxL ret :: tw_G) { frames := fr, cells := mc, slots := ms, locals := lo } (tw_PE D k T sz av) (jQE D k (va_A (cwd k T) sz) rt pe) mc ms (va_A (cwd k T) sz)
def rtI (post : Int → CS → Prop) : Option Value → CS → Prop := fun v T => ∃ r : Int, v = some (vi r) ∧ post r T
def rtV (post : CS → Prop) : Option Value → CS → Prop := fun v T => v = none ∧ post T
def jke (X : jx_C) : Prop :=
  match X with
  | (_, _, _, s, _, _, _, _, _, _, A, _) => lb_E s ∧ ∀ (a : Nat) (cell : Cell), s.heap[a]? = some cell → cell.vm.isStatics = true → ¬ A a
def jprop (l : Launch) (D : va_G) (X : jx_C) (k : CK) (mc ms : Nat) (pe : String → CS → Prop) : Prop :=
  match X with
  | (p, e, R, s, m, args, below, meth, co, Q, A, _) => ∀ (cls : String) (T1 : CS) (x : Addr) (H : Heap) (locs : List Loc) (ls : Array Slot) (pc : Nat) (st : List Value) (c n : Nat), pe cls T1 → cs_ok k T1 → (∃ cell : Cell, H[x]? = some cell ∧ cell.vm.isStatics = false ∧ s.vm.findClass cls = some cell.cls) → va_P D classes (cwd k T1) H → va_D A (cwd k T1) → va_S A s.heap H locs → c ≤ mc → n ≤ ms → tw_W p l e R s m args below meth co H locs c n Q (F0 m pc ls st) x
def jthr (l : Launch) (D : va_G) (X : jx_C) (k : CK) (cc : ByteArray) (nL mc ms : Nat) (pe : String → CS → Prop) : Prop :=
  ∀ (T1 : CS) (pc : Nat) (lv : List (Nat × Value)) (c n : Nat) (cls tx : String) (i1 i2 ic z : Nat), pe cls T1 → cs_ok k T1 → (ic, cls) ∈ lb_exc → (i2, tx) ∈ lb_txt → Bundle.fit cls = true → Cond.classLink "LandBook" i1 cls ∈ tw_G → Cond.initialized cls ∈ tw_G →
    decode cc pc = .ok (.new i1, 3) → decode cc (pc + 3) = .ok (.dup, 1) → ((z = 2 ∧ decode cc (pc + 4) = .ok (.ldc i2, 2)) ∨ (z = 3 ∧ decode cc (pc + 4) = .ok (.ldc_w i2, 3))) → decode cc (pc + 4 + z) = .ok (.invokespecial ic, 3) → decode cc (pc + 4 + z + 3) = .ok (.athrow, 1) → c + 1 ≤ mc → n + 6 ≤ ms → jat l D X nL pc lv [] (cwd k T1) c n
theorem tw_bE {D : va_G} {k : CK} {T : CS} {sz : Nat} {av : List Value} : FrameBlind (tw_PE D k T sz av) := fun a U g mk q => ⟨q.1, q.2.1, q.2.2.1, va_K.moved (u := U) (U := U.calling g mk a) (Vm.Alike.refl U.vm) q.2.2.2.1, q.2.2.2.2.1, ce.warm (s := U) (U := U.calling g mk a) (State.WarmedH.refl U) q.2.2.2.2.2.1, q.2.2.2.2.2.2.call g mk a⟩
theorem tw_sE {D : va_G} {k : CK} {T : CS} {av : List Value} {s : State} {H : Heap} {A : Nat → Prop} (hP : va_P D classes (cwd k T) H) (hK : va_K D classes (ctys k) s) (hD : va_D A (cwd k T)) (hE : ce k (va_A (cwd k T) H.size) s H) (hL : lb_E s) (hk : ∀ (a : Nat) (cell : Cell), s.heap[a]? = some cell → cell.vm.isStatics = true → H[a]? = some cell) : PreS s H (tw_PE D k T H.size av) av :=
  ⟨tw_bE, fun U hU hW => ⟨rfl, by rw [hU], by rw [hU]; exact hP, va_K.moved hW.alike hK, hD.weaken (fun _ _ _ _ => trivial), by rw [hU]; exact ce.warm hW hE, hL.to hW (fun a cell h1 h2 => by rw [hU]; exact hk a cell h1 h2)⟩⟩
section EC
variable {l : Launch} {D : va_G} {X : jx_C} {nL pc fr lo mc ms c n : Nat} {cc : ByteArray} {own : String} {lv : List (Nat × Value)} {st rest : List Value} {k : CK} {T : CS} {a : Nat} {y : MethodName} {ret : Option FieldType} {maxL : Nat} {av : List Value} {pe : String → CS → Prop} {rt : Option Value → CS → Prop}
theorem j_eo (hfl : l.flags = pinnedFlags ++ [noTraceFlag]) (hy : plainName y.cls = true) (ho : y.cls = "LandBook") (hm : (lg_sl av).length ≤ maxL) (hf6 : 6 ≤ fr) (hl82 : 82 ≤ lo)
    (body : ∀ X : jx_C, jfx X cc maxL "LandBook" fr lo mc ms → jkc k D X → jke X → cs_ok k T → jprop l D X k mc ms pe → jthr l D X k cc maxL mc ms pe →
      (∀ (v : Int) (T1 : CS) (pc : Nat) (lv : List (Nat × Value)) (c n : Nat), ret = some .int → rt (some (vi v)) T1 → cs_ok k T1 → c ≤ mc → n ≤ ms → decode cc pc = .ok (.ireturn, 1) → jat l D X maxL pc lv [vi v] (cwd k T1) c n) →
      (∀ (v : Int) (T1 : CS) (pc : Nat) (lv : List (Nat × Value)) (c n : Nat), ret = some .boolean → rt (some (vi v)) T1 → cs_ok k T1 → c ≤ mc → n ≤ ms → b01 v → decode cc pc = .ok (.ireturn, 1) → jat l D X maxL pc lv [vi v] (cwd k T1) c n) →
      (∀ (T1 : CS) (pc : Nat) (lv : List (Nat × Value)) (c n : Nat), ret = none → rt none T1 → cs_ok k T1 → c ≤ mc → n ≤ ms → decode cc pc = .ok (.return_, 1) → jat l D X maxL pc lv [] (cwd k T1) c n) → jat l D X maxL 0 (lv_args 0 av) [] (cwd k T) 0 0) : jE l D k y cc maxL ret fr lo mc ms T av rt pe := by
  intro hT sz
  refine tw_ofW (cc := cc) (maxL := maxL) (ret := ret) hy rfl ?_
  intro p e s m args below meth c s₁ B hml hno hv
  obtain ⟨rfl, hsz, hP, hK, hD0, hE, hLE⟩ := hv
  have hx := B.exec
  have hb := B.bytes
  have hr := B.returns
  have hts : ∀ w ∈ tw_G, w.before _ s = true := fun w h => atoms_spec (ws := Cond.code y cc maxL ret :: tw_G) B.pre w (List.mem_cons_of_mem _ h)
  have hown : s.vm.findClass "LandBook" = some m.cls := by rw [← ho]; exact findClass_of_methodNamed B.named
  have hlocks := B.notSynchronized
  subst hsz
  have hN := tw_nst hP
  have hD := hD0.self (sz := s.heap.size)
  have hl := lv_entry av (n := maxL) hm
  rw [lg_entry_eq]
  refine body (p, e, _, s, m, _, below, meth, c, _, va_A (cwd k T) s.heap.size, (fun _ => True)) ⟨⟨hx, hb, hml, hown, hts⟩, Nat.le_refl _, Nat.le_refl _, rfl, rfl⟩ ⟨hK, fun q h => Or.inr h, fun _ => trivial, hE⟩ ⟨hLE, hN⟩ hT ?_ ?_ ?_ ?_ ?_ s.heap [] _ hl hP hD ⟨va_S.rf, trivial⟩
  · intro cls T1 x H locs ls pc st cq nq hpe hT1 hcell hP1 hD1 hS1 h1 h2
    refine tw_W.widen (k := mc) (n := ms) h1 h2 ?_
    refine tw_out (tw_none hno _) (fun t ht hW => ⟨⟨cls, T1, hpe, hT1, tw_excOf hcell ht hW, by rw [ht]; exact hP1, va_K.moved hW.alike hK, hD1⟩, hS1.F ht⟩) hS1.2.2 hlocks
  · intro T1 pc lv cq nq cls tx i1 i2 ic z hpe hT1 hic hi2 hfit hcl hini d0 d3 d4 d6 d9 h1 h2 H locs ls hl hP1 hD1 hS1
    obtain ⟨q, hz⟩ := hLE.2 (i2, tx) hi2
    have hk := tw_kst hN hS1.1
    have e1 : mc - 1 + 1 = mc := by omega
    have e2 : ms - 6 + 6 = ms := by omega
    refine W.widen (k := mc - 1) (n := ms - 6) (by omega) (by omega) ?_
    have key := tw_throwH (cells := mc - 1) (slots := ms - 6) (R := (headSpec (Cond.code y cc maxL ret :: tw_G) { frames := fr, cells := mc, slots := ms, locals := lo }).room) (p := p) (e := e) (meth := meth) (below := below) (locs := locs) (pc := pc) (ls := ls) (Qc := jQE D k (va_A (cwd k T) s.heap.size) rt pe) (free := va_A (cwd k T) s.heap.size) hx hb hfl hown hfit hts hcl hini (hLE.1 (ic, cls) hic) hz hno hlocks (hl.1.trans hml.symm) d0 d3 d4 d6 d9 (by show mc - 1 + 1 ≤ mc; omega) (by show ms - 6 + 6 ≤ ms; omega) hf6 hl82 hk hS1.1.2.2 ?_
    · rw [e1, e2] at key
      exact key
    · intro t g1 g2 g3 g4
      refine ⟨⟨cls, T1, hpe, hT1, g4, ?_, va_K.moved g3.alike hK, hD1⟩, tw_SF hS1.1 (fun q h => Or.inr h) g1 g2 rfl⟩
      exact tw_P1 hP1 g2
  · intro v T1 pc lv cq nq hrt hp hT1 h1 h2 d H locs ls hl hP1 hD1 hS1
    refine W.widen (k := mc) (n := ms) h1 h2 (tw_ret ?_)
    exact W.iret hx hb (hr.trans hrt) (fun t ht hW => ⟨⟨T1, hp, hT1, by rw [ht]; exact hP1, va_K.moved hW.alike hK, hD1⟩, hS1.1.F ht⟩) hS1.1.2.2 d
  · intro v T1 pc lv cq nq hrt hp hT1 h1 h2 hz d H locs ls hl hP1 hD1 hS1
    refine W.widen (k := mc) (n := ms) h1 h2 (tw_ret ?_)
    exact W.zret (ty := .boolean) hx hb (hr.trans hrt) (b01_nar hz) (fun t ht hW => ⟨⟨T1, hp, hT1, by rw [ht]; exact hP1, va_K.moved hW.alike hK, hD1⟩, hS1.1.F ht⟩) hS1.1.2.2 d
  · intro T1 pc lv cq nq hrt hp hT1 h1 h2 d H locs ls hl hP1 hD1 hS1
    refine W.widen (k := mc) (n := ms) h1 h2 (tw_ret ?_)
    exact W.vret hx hb (hr.trans hrt) (fun t ht hW => ⟨⟨T1, hp, hT1, by rw [ht]; exact hP1, va_K.moved hW.alike hK, hD1⟩, hS1.1.F ht⟩) hS1.1.2.2 d
theorem e_call {cy : ByteArray} {fr' lo' mc' ms' : Nat} {Q1 : State → Outcome → State → Prop} {p : Program} {e : Env} {R : Room} {s : State} {m : MethodId} {args : Array Value} {below : List Frame} {meth : Method} {co : Code} {Q : State → Prop} {A : Nat → Prop} {G : Heap → Prop} {H : Heap} {locs : List Loc} {ls : Array Slot} {aa : Array Value}
    (K : jkc k D (p, e, R, s, m, args, below, meth, co, Q, A, G)) (Pr : jprop l D (p, e, R, s, m, args, below, meth, co, Q, A, G) k mc ms pe) (hD : va_D A (cwd k T)) (hS : va_S A s.heap H locs) (hl : lv_has ls nL lv) (hc : c + mc' ≤ mc ∧ n + ms' ≤ ms)
    (hr : tw_Run p l e R s m args below meth co H locs c n mc' ms' (F0 m pc ls st) rest (jQE D k (va_A (cwd k T) H.size) rt pe aa) (va_A (cwd k T) H.size))
    (kk : ∀ (v : Option Value) (T1 : CS), rt v T1 → cs_ok k T1 → jat l D (p, e, R, s, m, args, below, meth, co, Q, A, G) nL (pc + 3) lv (v.toList ++ rest) (cwd k T1) (c + mc') (n + ms')) :
    W p l e R s m args below meth co H locs c n Q (F0 m pc ls st) := by
  have hF := c_sub hD K.2.1 hS
  refine tw_call hr hS (fun q _ h => hF q h) hF (fun st o t h => h.2) ?_ ?_
  · rintro v st0 t H1 locs1 hst ht hvm ⟨⟨T1, hp, hT1, hP1, hK1, hD1⟩, -⟩ hz1 hk1 hS1
    rw [ht] at hP1
    exact kk v T1 hp hT1 H1 locs1 ls hl hP1 (hD1.weaken (fun _ _ _ h => hF _ h)) ⟨hS1, K.2.2.1 _⟩
  · rintro x st0 t H1 locs1 hst ht hvm ⟨⟨cls, T1, hp, hT1, ⟨cell, g1, g2, g3⟩, hP1, hK1, hD1⟩, -⟩ hz1 hk1 hS1
    rw [ht] at hP1 g1
    exact Pr cls T1 x H1 locs1 ls pc rest _ _ hp hT1 ⟨cell, g1, g2, by rw [← hvm.findClass]; exact g3⟩ hP1 (hD1.weaken (fun _ _ _ h => hF _ h)) hS1 hc.1 hc.2
theorem e_callS {cy : ByteArray} {fr' lo' mc' ms' N idx : Nat} (F : jfx X cc nL own fr lo mc ms) (K : jkc k D X) (E : jke X) (Pr : jprop l D X k mc ms pe) (hT : cs_ok k T) (M : jE l D k y cy maxL ret fr' lo' mc' ms' T av rt pe) (g : GoodIn tw_G (va_wsS own idx y (Cond.code y cy maxL ret :: tw_G)))
    (hd : y.cls ≠ "java/lang/invoke/MethodHandle" ∧ y.cls ≠ "java/lang/invoke/VarHandle" ∧ (parseMethodDescriptor y.desc).map (fun d => d.parameters.length) = some N) (hn : av.length = N) (hR : fr' + 1 ≤ fr ∧ 8 + (maxL + 11) + lo' ≤ lo) (hc : c + mc' ≤ mc ∧ n + ms' ≤ ms)
    (hst : st = av.reverse ++ rest) (hW : (rest.map fun v => v.category).sum ≤ 8) (d : decode cc pc = .ok (.invokestatic idx, 3)) (kk : ∀ (v : Option Value) (T1 : CS), rt v T1 → cs_ok k T1 → jat l D X nL (pc + 3) lv (v.toList ++ rest) (cwd k T1) (c + mc') (n + ms')) : jat l D X nL pc lv st (cwd k T) c n := by
  obtain ⟨p, e, R, s, m, args, below, meth, co, Q, A, G⟩ := X
  obtain ⟨⟨hx, hb, hml, hown, hts⟩, hfr, hlo, hmc, hms⟩ := F
  intro H locs ls hl hP hD hS
  refine e_call (cy := cy) (fr' := fr') (lo' := lo') (Q1 := fun _ _ _ => True) K Pr hD hS.1 hl hc (tw_runS (As := av) (rest := rest) ⟨hx, hb, hml, hown, hts⟩ (M hT H.size) (va_cwS N hts g rfl rfl rfl hd ⟨Nat.le_trans hR.1 hfr, Nat.le_trans hR.2 hlo⟩) (tw_sE hP K.1 hD (c_env K.2.2.2 hD K.2.1 hS.1) E.1 (tw_kst E.2 hS.1)) rfl hn hl.1 hst (lv_room hW) d ⟨by rw [hmc]; exact hc.1, by rw [hms]; exact hc.2⟩) kk
theorem e_callV {cy : ByteArray} {fr' lo' mc' ms' N idx : Nat} (F : jfx X cc nL own fr lo mc ms) (K : jkc k D X) (E : jke X) (Pr : jprop l D X k mc ms pe) (hT : cs_ok k T) (M : jE l D k y cy maxL ret fr' lo' mc' ms' T (.ref a :: av) rt pe) (g : GoodIn tw_G (wsV own idx "LandBook" y (Cond.code y cy maxL ret :: tw_G))) (hg : tg T a = 1)
    (hd : y.cls = "LandBook" ∧ y.cls ≠ "java/lang/invoke/MethodHandle" ∧ y.cls ≠ "java/lang/invoke/VarHandle" ∧ (parseMethodDescriptor y.desc).map (fun d => d.parameters.length) = some N) (hn : av.length = N) (hR : fr' + 1 ≤ fr ∧ 8 + (maxL + 11) + lo' ≤ lo) (hc : c + mc' ≤ mc ∧ n + ms' ≤ ms)
    (hst : st = av.reverse ++ .ref a :: rest) (hW : (rest.map fun v => v.category).sum ≤ 8) (d : decode cc pc = .ok (.invokevirtual idx, 3)) (kk : ∀ (v : Option Value) (T1 : CS), rt v T1 → cs_ok k T1 → jat l D X nL (pc + 3) lv (v.toList ++ rest) (cwd k T1) (c + mc') (n + ms')) : jat l D X nL pc lv st (cwd k T) c n := by
  obtain ⟨p, e, R, s, m, args, below, meth, co, Q, A, G⟩ := X
  obtain ⟨⟨hx, hb, hml, hown, hts⟩, hfr, hlo, hmc, hms⟩ := F
  intro H locs ls hl hP hD hS
  obtain ⟨q, hq⟩ := cw_get hT hg (by omega) (by omega)
  rw [ct_E_obj hg (by omega)] at hq
  refine e_call (cy := cy) (fr' := fr') (lo' := lo') (Q1 := fun _ _ _ => True) K Pr hD hS.1 hl hc (tw_runV (As := av) (rest := rest) ⟨hx, hb, hml, hown, hts⟩ (M hT H.size) (cwV N hts g rfl rfl rfl hd ⟨Nat.le_trans hR.1 hfr, Nat.le_trans hR.2 hlo⟩) ⟨tw_bE, va_recv (q := ("LandBook", F_LandBook, 8)) K.1 hP rfl hq, (tw_sE hP K.1 hD (c_env K.2.2.2 hD K.2.1 hS.1) E.1 (tw_kst E.2 hS.1)).2⟩ rfl hn hl.1 hst (lv_room hW) d ⟨by rw [hmc]; exact hc.1, by rw [hms]; exact hc.2⟩) kk
end EC
