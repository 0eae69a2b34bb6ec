abbrev tw_PC (D : va_G) (k : CK) (T : CS) (sz : Nat) (av : List Value) : Array Value → State → Prop := va_Pc av (fun U => U.heap.size = sz ∧ va_P D classes (cwd k T) U.heap ∧ va_K D classes (ctys k) U ∧ va_D (fun _ => True) (cwd k T) ∧ ce k (va_A (cwd k T) sz) U U.heap)
theorem tw_bC {D : va_G} {k : CK} {T : CS} {sz : Nat} {av : List Value} : FrameBlind (tw_PC D k T sz av) := fun a U g mk q => ⟨q.1, q.2.1, q.2.2.1, va_K.moved (u := U) (U := U.calling g mk a) (Vm.Alike.refl U.vm) q.2.2.2.1, q.2.2.2.2.1, ce.warm (s := U) (U := U.calling g mk a) (State.WarmedH.refl U) q.2.2.2.2.2⟩
theorem tw_sC {D : va_G} {k : CK} {T : CS} {av : List Value} {s : State} {H : Heap} {A : Nat → Prop} (hP : va_P D classes (cwd k T) H) (hK : va_K D classes (ctys k) s) (hD : va_D A (cwd k T)) (hE : ce k (va_A (cwd k T) H.size) s H) : PreS s H (tw_PC D k T H.size av) av := ⟨tw_bC, fun U hU hW => ⟨rfl, by rw [hU], by rw [hU]; exact hP, va_K.moved hW.alike hK, hD.weaken (fun _ _ _ _ => trivial), by rw [hU]; exact ce.warm hW hE⟩⟩
theorem tw_vC {D : va_G} {k : CK} {T : CS} {As : List Value} {s : State} {H : Heap} {A : Nat → Prop} {C : String} {b : Nat} (hr : ∃ cell : Cell, H[b]? = some cell ∧ cell.vm.isStatics = false ∧ s.vm.findClass C = some cell.cls) (hP : va_P D classes (cwd k T) H) (hK : va_K D classes (ctys k) s) (hD : va_D A (cwd k T)) (hE : ce k (va_A (cwd k T) H.size) s H) : PreV s H C b (tw_PC D k T H.size (.ref b :: As)) As :=
  ⟨tw_bC, hr, (tw_sC hP hK hD hE).2⟩
theorem c_sub {k : CK} {T : CS} {A : Nat → Prop} {H0 H : Heap} {locs : List Loc} (hD : va_D A (cwd k T)) (hA : ∀ q, H0.size ≤ q → A q) (hS : va_S A H0 H locs) : ∀ q, va_A (cwd k T) H.size q → A q := by
  intro q hq
  rcases hq with ⟨i, e, hi⟩ | hq
  · exact hD.2 i (q, e) hi
  · exact hA q (Nat.le_trans hS.1 hq)
theorem c_env {k : CK} {T : CS} {A : Nat → Prop} {s : State} {H : Heap} {locs : List Loc} (hE : ce k A s s.heap) (hD : va_D A (cwd k T)) (hA : ∀ q, s.heap.size ≤ q → A q) (hS : va_S A s.heap H locs) : ce k (va_A (cwd k T) H.size) s H :=
  (hE.kept hS.2.1).narrow (c_sub hD hA hS)
def jCi (l : Launch) (D : va_G) (k : CK) (y : MethodName) (cc : ByteArray) (maxL : Nat) (ret : Option FieldType) (fr lo mc ms : Nat) (T : CS) (av : List Value) (post : Int → CS → Prop) : Prop := cs_ok k T → ∀ sz : Nat, Met l y (Cond.code y cc maxL ret :: tw_G) { frames := fr, cells := mc, slots := ms, locals := lo } (tw_PC D k T sz av) (va_Qi (fun (r : Int32) (u : Int × CS) => r = iI u.1 ∧ post u.1 u.2 ∧ cs_ok k u.2) (fun u => tw_B D.1 D.2 (va_A (cwd k T) sz) (cwd k u.2) (ctys k)) (va_A (cwd k T) sz)) mc ms (va_A (cwd k T) sz)
def jCl (l : Launch) (D : va_G) (k : CK) (y : MethodName) (cc : ByteArray) (maxL : Nat) (ret : Option FieldType) (fr lo mc ms : Nat) (T : CS) (av : List Value) (post : Int → CS → Prop) : Prop := cs_ok k T → ∀ sz : Nat, Met l y (Cond.code y cc maxL ret :: tw_G) { frames := fr, cells := mc, slots := ms, locals := lo } (tw_PC D k T sz av) (va_Ql (fun (r : Int64) (u : Int × CS) => r = lI u.1 ∧ post u.1 u.2 ∧ cs_ok k u.2) (fun u => tw_B D.1 D.2 (va_A (cwd k T) sz) (cwd k u.2) (ctys k)) (va_A (cwd k T) sz)) mc ms (va_A (cwd k T) sz)
def jCv (l : Launch) (D : va_G) (k : CK) (y : MethodName) (cc : ByteArray) (maxL : Nat) (ret : Option FieldType) (fr lo mc ms : Nat) (T : CS) (av : List Value) (post : CS → Prop) : Prop := cs_ok k T → ∀ sz : Nat, Met l y (Cond.code y cc maxL ret :: tw_G) { frames := fr, cells := mc, slots := ms, locals := lo } (tw_PC D k T sz av) (va_Qv (fun (u : CS) => post u ∧ cs_ok k u) (fun u => tw_B D.1 D.2 (va_A (cwd k T) sz) (cwd k u) (ctys k)) (va_A (cwd k T) sz)) mc ms (va_A (cwd k T) sz)
def jCr (l : Launch) (D : va_G) (k : CK) (y : MethodName) (cc : ByteArray) (maxL : Nat) (ret : Option FieldType) (fr lo mc ms : Nat) (T : CS) (av : List Value) (post : Nat → CS → Prop) : Prop := cs_ok k T → ∀ sz : Nat, Met l y (Cond.code y cc maxL ret :: tw_G) { frames := fr, cells := mc, slots := ms, locals := lo } (tw_PC D k T sz av) (va_Qr (fun (u : CS) => cs_ok k u) (fun u q t => post q u ∧ tw_B D.1 D.2 (va_A (cwd k T) sz) (cwd k u) (ctys k) t) (va_A (cwd k T) sz)) mc ms (va_A (cwd k T) sz)
section CC1
variable {l : Launch} {D : va_G} {X : jx_C} {nL pc fr lo mc ms c n : Nat} {cc : ByteArray} {own : String} {lv : List (Nat × Value)} {st rest : List Value} {k : CK} {T : CS} {a : Nat} {y : MethodName} {ret : Option FieldType} {maxL : Nat} {av : List Value} {post : Int → CS → Prop}
theorem j_coi (hy : plainName y.cls = true) (ho : y.cls = own) (hm : (lg_sl av).length ≤ maxL)
    (body : ∀ X : jx_C, jfx X cc maxL own fr lo mc ms → jkc k D X → cs_ok k T → (∀ (v : Int) (T1 : CS) (pc : Nat) (lv : List (Nat × Value)) (c n : Nat), post v T1 → cs_ok k T1 → c ≤ mc → n ≤ ms → decode cc pc = .ok (.ireturn, 1) → jat l D X maxL pc lv [vi v] (cwd k T1) c n) → jat l D X maxL 0 (lv_args 0 av) [] (cwd k T) 0 0) : jCi l D k y cc maxL (some .int) fr lo mc ms T av post := by
  intro hT sz
  refine Met.ofW (cc := cc) (maxL := maxL) (ret := (some .int)) hy rfl ?_
  intro p e s m args below meth c s₁ B hml hv
  obtain ⟨rfl, hsz, hP, hK, hD0, hE⟩ := hv
  have hx := B.exec
  have hb := B.bytes
  have hr := B.returns
  have hts : ∀ w ∈ tw_G, w.before _ s = true := fun w h => atoms_spec (ws := Cond.code y cc maxL (some .int) :: tw_G) B.pre w (List.mem_cons_of_mem _ h)
  have hown : s.vm.findClass own = some m.cls := by rw [← ho]; exact findClass_of_methodNamed B.named
  have hlocks := B.notSynchronized
  subst hsz
  have hD := hD0.self (sz := s.heap.size)
  have hl := lv_entry av (n := maxL) hm
  rw [lg_entry_eq]
  refine body (p, e, _, s, m, _, below, meth, c, _, va_A (cwd k T) s.heap.size, (fun _ => True)) ⟨⟨hx, hb, hml, hown, hts⟩, Nat.le_refl _, Nat.le_refl _, rfl, rfl⟩ ⟨hK, fun q h => Or.inr h, fun _ => trivial, hE⟩ hT ?_ s.heap [] _ hl hP hD ⟨va_S.rf, trivial⟩
  intro v T1 pc lv cq nq hp hT1 h1 h2 d H locs ls hl hP hD hS
  refine W.widen (k := mc) (n := ms) h1 h2 ?_
  exact W.iret hx hb hr (fun t ht hW => ⟨⟨iI v, (v, T1), rfl, ⟨rfl, hp, hT1⟩, by rw [ht]; exact hP, va_K.moved hW.alike hK, hD⟩, hS.1.F ht⟩) hS.1.2.2 d

theorem j_coz (hy : plainName y.cls = true) (ho : y.cls = own) (hm : (lg_sl av).length ≤ maxL)
    (body : ∀ X : jx_C, jfx X cc maxL own fr lo mc ms → jkc k D X → cs_ok k T → (∀ (v : Int) (T1 : CS) (pc : Nat) (lv : List (Nat × Value)) (c n : Nat), post v T1 → cs_ok k T1 → c ≤ mc → n ≤ ms → b01 v → decode cc pc = .ok (.ireturn, 1) → jat l D X maxL pc lv [vi v] (cwd k T1) c n) → jat l D X maxL 0 (lv_args 0 av) [] (cwd k T) 0 0) : jCi l D k y cc maxL (some .boolean) fr lo mc ms T av post := by
  intro hT sz
  refine Met.ofW (cc := cc) (maxL := maxL) (ret := (some .boolean)) hy rfl ?_
  intro p e s m args below meth c s₁ B hml hv
  obtain ⟨rfl, hsz, hP, hK, hD0, hE⟩ := hv
  have hx := B.exec
  have hb := B.bytes
  have hr := B.returns
  have hts : ∀ w ∈ tw_G, w.before _ s = true := fun w h => atoms_spec (ws := Cond.code y cc maxL (some .boolean) :: tw_G) B.pre w (List.mem_cons_of_mem _ h)
  have hown : s.vm.findClass own = some m.cls := by rw [← ho]; exact findClass_of_methodNamed B.named
  have hlocks := B.notSynchronized
  subst hsz
  have hD := hD0.self (sz := s.heap.size)
  have hl := lv_entry av (n := maxL) hm
  rw [lg_entry_eq]
  refine body (p, e, _, s, m, _, below, meth, c, _, va_A (cwd k T) s.heap.size, (fun _ => True)) ⟨⟨hx, hb, hml, hown, hts⟩, Nat.le_refl _, Nat.le_refl _, rfl, rfl⟩ ⟨hK, fun q h => Or.inr h, fun _ => trivial, hE⟩ hT ?_ s.heap [] _ hl hP hD ⟨va_S.rf, trivial⟩
  intro v T1 pc lv cq nq hp hT1 h1 h2 hz d H locs ls hl hP hD hS
  refine W.widen (k := mc) (n := ms) h1 h2 ?_
  exact W.zret (ty := .boolean) hx hb hr (b01_nar hz) (fun t ht hW => ⟨⟨iI v, (v, T1), rfl, ⟨rfl, hp, hT1⟩, by rw [ht]; exact hP, va_K.moved hW.alike hK, hD⟩, hS.1.F ht⟩) hS.1.2.2 d

theorem j_col (hy : plainName y.cls = true) (ho : y.cls = own) (hm : (lg_sl av).length ≤ maxL)
    (body : ∀ X : jx_C, jfx X cc maxL own fr lo mc ms → jkc k D X → cs_ok k T → (∀ (v : Int) (T1 : CS) (pc : Nat) (lv : List (Nat × Value)) (c n : Nat), post v T1 → cs_ok k T1 → c ≤ mc → n ≤ ms → decode cc pc = .ok (.lreturn, 1) → jat l D X maxL pc lv [vl v] (cwd k T1) c n) → jat l D X maxL 0 (lv_args 0 av) [] (cwd k T) 0 0) : jCl l D k y cc maxL (some .long) fr lo mc ms T av post := by
  intro hT sz
  refine Met.ofW (cc := cc) (maxL := maxL) (ret := (some .long)) hy rfl ?_
  intro p e s m args below meth c s₁ B hml hv
  obtain ⟨rfl, hsz, hP, hK, hD0, hE⟩ := hv
  have hx := B.exec
  have hb := B.bytes
  have hr := B.returns
  have hts : ∀ w ∈ tw_G, w.before _ s = true := fun w h => atoms_spec (ws := Cond.code y cc maxL (some .long) :: tw_G) B.pre w (List.mem_cons_of_mem _ h)
  have hown : s.vm.findClass own = some m.cls := by rw [← ho]; exact findClass_of_methodNamed B.named
  have hlocks := B.notSynchronized
  subst hsz
  have hD := hD0.self (sz := s.heap.size)
  have hl := lv_entry av (n := maxL) hm
  rw [lg_entry_eq]
  refine body (p, e, _, s, m, _, below, meth, c, _, va_A (cwd k T) s.heap.size, (fun _ => True)) ⟨⟨hx, hb, hml, hown, hts⟩, Nat.le_refl _, Nat.le_refl _, rfl, rfl⟩ ⟨hK, fun q h => Or.inr h, fun _ => trivial, hE⟩ hT ?_ s.heap [] _ hl hP hD ⟨va_S.rf, trivial⟩
  intro v T1 pc lv cq nq hp hT1 h1 h2 d H locs ls hl hP hD hS
  refine W.widen (k := mc) (n := ms) h1 h2 ?_
  exact W.lret hx hb hr (fun t ht hW => ⟨⟨lI v, (v, T1), rfl, ⟨rfl, hp, hT1⟩, by rw [ht]; exact hP, va_K.moved hW.alike hK, hD⟩, hS.1.F ht⟩) hS.1.2.2 d

end CC1
section CC2
variable {l : Launch} {D : va_G} {X : jx_C} {nL pc fr lo mc ms c n : Nat} {cc : ByteArray} {own : String} {lv : List (Nat × Value)} {st rest : List Value} {k : CK} {T : CS} {a : Nat} {y : MethodName} {ret : Option FieldType} {maxL : Nat} {av : List Value} {post : CS → Prop}
theorem j_cov (hy : plainName y.cls = true) (ho : y.cls = own) (hm : (lg_sl av).length ≤ maxL)
    (body : ∀ X : jx_C, jfx X cc maxL own fr lo mc ms → jkc k D X → cs_ok k T → (∀ (T1 : CS) (pc : Nat) (lv : List (Nat × Value)) (c n : Nat), post T1 → cs_ok k T1 → c ≤ mc → n ≤ ms → decode cc pc = .ok (.return_, 1) → jat l D X maxL pc lv [] (cwd k T1) c n) → jat l D X maxL 0 (lv_args 0 av) [] (cwd k T) 0 0) : jCv l D k y cc maxL none fr lo mc ms T av post := by
  intro hT sz
  refine Met.ofW (cc := cc) (maxL := maxL) (ret := none) hy rfl ?_
  intro p e s m args below meth c s₁ B hml hv
  obtain ⟨rfl, hsz, hP, hK, hD0, hE⟩ := hv
  have hx := B.exec
  have hb := B.bytes
  have hr := B.returns
  have hts : ∀ w ∈ tw_G, w.before _ s = true := fun w h => atoms_spec (ws := Cond.code y cc maxL none :: tw_G) B.pre w (List.mem_cons_of_mem _ h)
  have hown : s.vm.findClass own = some m.cls := by rw [← ho]; exact findClass_of_methodNamed B.named
  have hlocks := B.notSynchronized
  subst hsz
  have hD := hD0.self (sz := s.heap.size)
  have hl := lv_entry av (n := maxL) hm
  rw [lg_entry_eq]
  refine body (p, e, _, s, m, _, below, meth, c, _, va_A (cwd k T) s.heap.size, (fun _ => True)) ⟨⟨hx, hb, hml, hown, hts⟩, Nat.le_refl _, Nat.le_refl _, rfl, rfl⟩ ⟨hK, fun q h => Or.inr h, fun _ => trivial, hE⟩ hT ?_ s.heap [] _ hl hP hD ⟨va_S.rf, trivial⟩
  intro T1 pc lv cq nq hp hT1 h1 h2 d H locs ls hl hP hD hS
  refine W.widen (k := mc) (n := ms) h1 h2 ?_
  exact W.vret hx hb hr (fun t ht hW => ⟨⟨T1, rfl, ⟨hp, hT1⟩, by rw [ht]; exact hP, va_K.moved hW.alike hK, hD⟩, hS.1.F ht⟩) hS.1.2.2 d

theorem j_con (hyn : y.name = "<init>") (hy : plainName y.cls = true) (ho : y.cls = own) (hm : (lg_sl av).length ≤ maxL)
    (body : ∀ X : jx_C, jfx X cc maxL own fr lo mc ms → jkc k D X → cs_ok k T → jin X → (∀ (T1 : CS) (pc : Nat) (lv : List (Nat × Value)) (c n : Nat), post T1 → cs_ok k T1 → c ≤ mc → n ≤ ms → decode cc pc = .ok (.return_, 1) → jat l D X maxL pc lv [] (cwd k T1) c n) → jat l D X maxL 0 (lv_args 0 av) [] (cwd k T) 0 0) : jCv l D k y cc maxL none fr lo mc ms T av post := by
  intro hT sz
  refine Met.ofW (cc := cc) (maxL := maxL) (ret := none) hy rfl ?_
  intro p e s m args below meth c s₁ B hml hv
  obtain ⟨rfl, hsz, hP, hK, hD0, hE⟩ := hv
  have hx := B.exec
  have hb := B.bytes
  have hr := B.returns
  have hts : ∀ w ∈ tw_G, w.before _ s = true := fun w h => atoms_spec (ws := Cond.code y cc maxL none :: tw_G) B.pre w (List.mem_cons_of_mem _ h)
  have hown : s.vm.findClass own = some m.cls := by rw [← ho]; exact findClass_of_methodNamed B.named
  have hlocks := B.notSynchronized
  subst hsz
  have hD := hD0.self (sz := s.heap.size)
  have hl := lv_entry av (n := maxL) hm
  rw [lg_entry_eq]
  refine body (p, e, _, s, m, _, below, meth, c, _, va_A (cwd k T) s.heap.size, (fun _ => True)) ⟨⟨hx, hb, hml, hown, hts⟩, Nat.le_refl _, Nat.le_refl _, rfl, rfl⟩ ⟨hK, fun q h => Or.inr h, fun _ => trivial, hE⟩ hT ((name_of_methodNamed B.named B.method).1.trans hyn) ?_ s.heap [] _ hl hP hD ⟨va_S.rf, trivial⟩
  intro T1 pc lv cq nq hp hT1 h1 h2 d H locs ls hl hP hD hS
  refine W.widen (k := mc) (n := ms) h1 h2 ?_
  exact W.vret hx hb hr (fun t ht hW => ⟨⟨T1, rfl, ⟨hp, hT1⟩, by rw [ht]; exact hP, va_K.moved hW.alike hK, hD⟩, hS.1.F ht⟩) hS.1.2.2 d

end CC2
section CC3
variable {l : Launch} {D : va_G} {X : jx_C} {nL pc fr lo mc ms c n : Nat} {cc : ByteArray} {own : String} {lv : List (Nat × Value)} {st rest : List Value} {k : CK} {T : CS} {a : Nat} {y : MethodName} {ret : Option FieldType} {maxL : Nat} {av : List Value} {post : Nat → CS → Prop} {rt : FieldType}
theorem j_cor (hrt : (∃ n, rt = .object n) ∨ ∃ t, rt = .array t) (hy : plainName y.cls = true) (ho : y.cls = own) (hm : (lg_sl av).length ≤ maxL)
    (body : ∀ X : jx_C, jfx X cc maxL own fr lo mc ms → jkc k D X → cs_ok k T → (∀ (v : Nat) (T1 : CS) (pc : Nat) (lv : List (Nat × Value)) (c n : Nat), post v T1 → cs_ok k T1 → c ≤ mc → n ≤ ms → decode cc pc = .ok (.areturn, 1) → jat l D X maxL pc lv [.ref v] (cwd k T1) c n) → jat l D X maxL 0 (lv_args 0 av) [] (cwd k T) 0 0) : jCr l D k y cc maxL (some rt) fr lo mc ms T av post := by
  intro hT sz
  refine Met.ofW (cc := cc) (maxL := maxL) (ret := (some rt)) hy rfl ?_
  intro p e s m args below meth c s₁ B hml hv
  obtain ⟨rfl, hsz, hP, hK, hD0, hE⟩ := hv
  have hx := B.exec
  have hb := B.bytes
  have hr := B.returns
  have hts : ∀ w ∈ tw_G, w.before _ s = true := fun w h => atoms_spec (ws := Cond.code y cc maxL (some rt) :: tw_G) B.pre w (List.mem_cons_of_mem _ h)
  have hown : s.vm.findClass own = some m.cls := by rw [← ho]; exact findClass_of_methodNamed B.named
  have hlocks := B.notSynchronized
  subst hsz
  have hD := hD0.self (sz := s.heap.size)
  have hl := lv_entry av (n := maxL) hm
  rw [lg_entry_eq]
  refine body (p, e, _, s, m, _, below, meth, c, _, va_A (cwd k T) s.heap.size, (fun _ => True)) ⟨⟨hx, hb, hml, hown, hts⟩, Nat.le_refl _, Nat.le_refl _, rfl, rfl⟩ ⟨hK, fun q h => Or.inr h, fun _ => trivial, hE⟩ hT ?_ s.heap [] _ hl hP hD ⟨va_S.rf, trivial⟩
  intro v T1 pc lv cq nq hp hT1 h1 h2 d H locs ls hl hP hD hS
  refine W.widen (k := mc) (n := ms) h1 h2 ?_
  exact W.aret hx hb hr hrt (Or.inr ⟨v, rfl⟩) (fun t ht hW => ⟨⟨T1, v, rfl, hT1, hp, by rw [ht]; exact hP, va_K.moved hW.alike hK, hD⟩, hS.1.F ht⟩) hS.1.2.2 d

end CC3
section CC4i
variable {l : Launch} {D : va_G} {X : jx_C} {nL pc fr lo mc ms c n : Nat} {cc : ByteArray} {own : String} {lv : List (Nat × Value)} {st rest : List Value} {k : CK} {T : CS} {a : Nat} {y : MethodName} {ret : Option FieldType} {maxL : Nat} {av : List Value} {post : Int → CS → Prop}
theorem c_callSi {cy : ByteArray} {fr' lo' mc' ms' N idx : Nat} (F : jfx X cc nL own fr lo mc ms) (K : jkc k D X) (hT : cs_ok k T) (M : jCi l D k y cy maxL ret fr' lo' mc' ms' T av post) (g : GoodIn tw_G (va_wsS own idx y (Cond.code y cy maxL ret :: tw_G)))
    (hd : y.cls ≠ "java/lang/invoke/MethodHandle" ∧ y.cls ≠ "java/lang/invoke/VarHandle" ∧ (parseMethodDescriptor y.desc).map (fun d => d.parameters.length) = some N) (hn : av.length = N) (hR : fr' + 1 ≤ fr ∧ 8 + (maxL + 11) + lo' ≤ lo) (hc : c + mc' ≤ mc ∧ n + ms' ≤ ms)
    (hst : st = av.reverse ++ rest) (hW : (rest.map fun v => v.category).sum ≤ 8) (d : decode cc pc = .ok (.invokestatic idx, 3)) (kk : ∀ (v : Int) (T1 : CS), post v T1 → cs_ok k T1 → jat l D X nL (pc + 3) lv (vi v :: rest) (cwd k T1) (c + mc') (n + ms')) : jat l D X nL pc lv st (cwd k T) c n := by
  obtain ⟨p, e, R, s, m, args, below, meth, co, Q, A, G⟩ := X
  obtain ⟨⟨hx, hb, hml, hown, hts⟩, hfr, hlo, hmc, hms⟩ := F
  intro H locs ls hl hP hD hS
  have hF := c_sub hD K.2.1 hS.1
  have hE := c_env K.2.2.2 hD K.2.1 hS.1
  have hfit : c + mc' ≤ R.cells ∧ n + ms' ≤ R.slots := ⟨by rw [hmc]; exact hc.1, by rw [hms]; exact hc.2⟩
  have hroom : fr' + 1 ≤ R.frames ∧ 8 + (maxL + 11) + lo' ≤ R.locals := ⟨Nat.le_trans hR.1 hfr, Nat.le_trans hR.2 hlo⟩
  skip
  refine va_calli (va_runS (As := av) (rest := rest) ⟨hx, hb, hml, hown, hts⟩ (M hT H.size) (va_cwS N hts g rfl rfl rfl hd hroom) (tw_sC hP K.1 hD hE) rfl hn hl.1 hst (lv_room hW) d hfit) hS.1 (fun q _ h => hF q h) hF ?_
  rintro r ⟨v, T1⟩ t H1 locs1 ht hvm hp hB hz1 hk1 hS1
  obtain ⟨rfl, hp, hT1⟩ := hp
  obtain ⟨hP1, hK1, hD1⟩ := hB
  rw [ht] at hP1
  exact kk v T1 hp hT1 H1 locs1 ls hl hP1 (hD1.weaken (fun _ _ _ h => hF _ h)) ⟨hS1, K.2.2.1 _⟩

theorem c_callVi {cy : ByteArray} {C : String} {Tb : u_T} {Nf : Nat} {fr' lo' mc' ms' N idx : Nat} (F : jfx X cc nL own fr lo mc ms) (K : jkc k D X) (hT : cs_ok k T) (M : jCi l D k y cy maxL ret fr' lo' mc' ms' T (.ref a :: av) post) (g : GoodIn tw_G (wsV own idx C y (Cond.code y cy maxL ret :: tw_G))) (t : Nat) (hc0 : classes[ct_ci t]? = some (C, Tb, Nf)) (ht : 0 < t ∧ t ≤ 10) (hg : tg T a = t)
    (hd : y.cls = C ∧ y.cls ≠ "java/lang/invoke/MethodHandle" ∧ y.cls ≠ "java/lang/invoke/VarHandle" ∧ (parseMethodDescriptor y.desc).map (fun d => d.parameters.length) = some N) (hn : av.length = N) (hR : fr' + 1 ≤ fr ∧ 8 + (maxL + 11) + lo' ≤ lo) (hc : c + mc' ≤ mc ∧ n + ms' ≤ ms)
    (hst : st = av.reverse ++ .ref a :: rest) (hW : (rest.map fun v => v.category).sum ≤ 8) (d : decode cc pc = .ok (.invokevirtual idx, 3)) (kk : ∀ (v : Int) (T1 : CS), post v T1 → cs_ok k T1 → jat l D X nL (pc + 3) lv (vi v :: rest) (cwd k T1) (c + mc') (n + ms')) : jat l D X nL pc lv st (cwd k T) c n := by
  obtain ⟨p, e, R, s, m, args, below, meth, co, Q, A, G⟩ := X
  obtain ⟨⟨hx, hb, hml, hown, hts⟩, hfr, hlo, hmc, hms⟩ := F
  intro H locs ls hl hP hD hS
  have hF := c_sub hD K.2.1 hS.1
  have hE := c_env K.2.2.2 hD K.2.1 hS.1
  have hfit : c + mc' ≤ R.cells ∧ n + ms' ≤ R.slots := ⟨by rw [hmc]; exact hc.1, by rw [hms]; exact hc.2⟩
  have hroom : fr' + 1 ≤ R.frames ∧ 8 + (maxL + 11) + lo' ≤ R.locals := ⟨Nat.le_trans hR.1 hfr, Nat.le_trans hR.2 hlo⟩
  obtain ⟨q, hq⟩ := cw_get hT hg (by omega) (by omega)
  rw [ct_E_obj hg ht.2] at hq
  refine va_calli (va_runV (As := av) (rest := rest) ⟨hx, hb, hml, hown, hts⟩ (M hT H.size) (cwV N hts g rfl rfl rfl hd hroom) (tw_vC (va_recv K.1 hP hc0 hq) hP K.1 hD hE) rfl hn hl.1 hst (lv_room hW) d hfit) hS.1 (fun q _ h => hF q h) hF ?_
  rintro r ⟨v, T1⟩ t H1 locs1 ht hvm hp hB hz1 hk1 hS1
  obtain ⟨rfl, hp, hT1⟩ := hp
  obtain ⟨hP1, hK1, hD1⟩ := hB
  rw [ht] at hP1
  exact kk v T1 hp hT1 H1 locs1 ls hl hP1 (hD1.weaken (fun _ _ _ h => hF _ h)) ⟨hS1, K.2.2.1 _⟩

end CC4i
section CC4l
variable {l : Launch} {D : va_G} {X : jx_C} {nL pc fr lo mc ms c n : Nat} {cc : ByteArray} {own : String} {lv : List (Nat × Value)} {st rest : List Value} {k : CK} {T : CS} {a : Nat} {y : MethodName} {ret : Option FieldType} {maxL : Nat} {av : List Value} {post : Int → CS → Prop}
theorem c_callSl {cy : ByteArray} {fr' lo' mc' ms' N idx : Nat} (F : jfx X cc nL own fr lo mc ms) (K : jkc k D X) (hT : cs_ok k T) (M : jCl l D k y cy maxL ret fr' lo' mc' ms' T av post) (g : GoodIn tw_G (va_wsS own idx y (Cond.code y cy maxL ret :: tw_G)))
    (hd : y.cls ≠ "java/lang/invoke/MethodHandle" ∧ y.cls ≠ "java/lang/invoke/VarHandle" ∧ (parseMethodDescriptor y.desc).map (fun d => d.parameters.length) = some N) (hn : av.length = N) (hR : fr' + 1 ≤ fr ∧ 8 + (maxL + 11) + lo' ≤ lo) (hc : c + mc' ≤ mc ∧ n + ms' ≤ ms)
    (hst : st = av.reverse ++ rest) (hW : (rest.map fun v => v.category).sum ≤ 8) (d : decode cc pc = .ok (.invokestatic idx, 3)) (kk : ∀ (v : Int) (T1 : CS), post v T1 → cs_ok k T1 → jat l D X nL (pc + 3) lv (vl v :: rest) (cwd k T1) (c + mc') (n + ms')) : jat l D X nL pc lv st (cwd k T) c n := by
  obtain ⟨p, e, R, s, m, args, below, meth, co, Q, A, G⟩ := X
  obtain ⟨⟨hx, hb, hml, hown, hts⟩, hfr, hlo, hmc, hms⟩ := F
  intro H locs ls hl hP hD hS
  have hF := c_sub hD K.2.1 hS.1
  have hE := c_env K.2.2.2 hD K.2.1 hS.1
  have hfit : c + mc' ≤ R.cells ∧ n + ms' ≤ R.slots := ⟨by rw [hmc]; exact hc.1, by rw [hms]; exact hc.2⟩
  have hroom : fr' + 1 ≤ R.frames ∧ 8 + (maxL + 11) + lo' ≤ R.locals := ⟨Nat.le_trans hR.1 hfr, Nat.le_trans hR.2 hlo⟩
  skip
  refine va_calll (va_runS (As := av) (rest := rest) ⟨hx, hb, hml, hown, hts⟩ (M hT H.size) (va_cwS N hts g rfl rfl rfl hd hroom) (tw_sC hP K.1 hD hE) rfl hn hl.1 hst (lv_room hW) d hfit) hS.1 (fun q _ h => hF q h) hF ?_
  rintro r ⟨v, T1⟩ t H1 locs1 ht hvm hp hB hz1 hk1 hS1
  obtain ⟨rfl, hp, hT1⟩ := hp
  obtain ⟨hP1, hK1, hD1⟩ := hB
  rw [ht] at hP1
  exact kk v T1 hp hT1 H1 locs1 ls hl hP1 (hD1.weaken (fun _ _ _ h => hF _ h)) ⟨hS1, K.2.2.1 _⟩

theorem c_callVl {cy : ByteArray} {C : String} {Tb : u_T} {Nf : Nat} {fr' lo' mc' ms' N idx : Nat} (F : jfx X cc nL own fr lo mc ms) (K : jkc k D X) (hT : cs_ok k T) (M : jCl l D k y cy maxL ret fr' lo' mc' ms' T (.ref a :: av) post) (g : GoodIn tw_G (wsV own idx C y (Cond.code y cy maxL ret :: tw_G))) (t : Nat) (hc0 : classes[ct_ci t]? = some (C, Tb, Nf)) (ht : 0 < t ∧ t ≤ 10) (hg : tg T a = t)
    (hd : y.cls = C ∧ y.cls ≠ "java/lang/invoke/MethodHandle" ∧ y.cls ≠ "java/lang/invoke/VarHandle" ∧ (parseMethodDescriptor y.desc).map (fun d => d.parameters.length) = some N) (hn : av.length = N) (hR : fr' + 1 ≤ fr ∧ 8 + (maxL + 11) + lo' ≤ lo) (hc : c + mc' ≤ mc ∧ n + ms' ≤ ms)
    (hst : st = av.reverse ++ .ref a :: rest) (hW : (rest.map fun v => v.category).sum ≤ 8) (d : decode cc pc = .ok (.invokevirtual idx, 3)) (kk : ∀ (v : Int) (T1 : CS), post v T1 → cs_ok k T1 → jat l D X nL (pc + 3) lv (vl v :: rest) (cwd k T1) (c + mc') (n + ms')) : jat l D X nL pc lv st (cwd k T) c n := by
  obtain ⟨p, e, R, s, m, args, below, meth, co, Q, A, G⟩ := X
  obtain ⟨⟨hx, hb, hml, hown, hts⟩, hfr, hlo, hmc, hms⟩ := F
  intro H locs ls hl hP hD hS
  have hF := c_sub hD K.2.1 hS.1
  have hE := c_env K.2.2.2 hD K.2.1 hS.1
  have hfit : c + mc' ≤ R.cells ∧ n + ms' ≤ R.slots := ⟨by rw [hmc]; exact hc.1, by rw [hms]; exact hc.2⟩
  have hroom : fr' + 1 ≤ R.frames ∧ 8 + (maxL + 11) + lo' ≤ R.locals := ⟨Nat.le_trans hR.1 hfr, Nat.le_trans hR.2 hlo⟩
  obtain ⟨q, hq⟩ := cw_get hT hg (by omega) (by omega)
  rw [ct_E_obj hg ht.2] at hq
  refine va_calll (va_runV (As := av) (rest := rest) ⟨hx, hb, hml, hown, hts⟩ (M hT H.size) (cwV N hts g rfl rfl rfl hd hroom) (tw_vC (va_recv K.1 hP hc0 hq) hP K.1 hD hE) rfl hn hl.1 hst (lv_room hW) d hfit) hS.1 (fun q _ h => hF q h) hF ?_
  rintro r ⟨v, T1⟩ t H1 locs1 ht hvm hp hB hz1 hk1 hS1
  obtain ⟨rfl, hp, hT1⟩ := hp
  obtain ⟨hP1, hK1, hD1⟩ := hB
  rw [ht] at hP1
  exact kk v T1 hp hT1 H1 locs1 ls hl hP1 (hD1.weaken (fun _ _ _ h => hF _ h)) ⟨hS1, K.2.2.1 _⟩

end CC4l
section CC4v
variable {l : Launch} {D : va_G} {X : jx_C} {nL pc fr lo mc ms c n : Nat} {cc : ByteArray} {own : String} {lv : List (Nat × Value)} {st rest : List Value} {k : CK} {T : CS} {a : Nat} {y : MethodName} {ret : Option FieldType} {maxL : Nat} {av : List Value} {post : CS → Prop}
theorem c_callSv {cy : ByteArray} {fr' lo' mc' ms' N idx : Nat} (F : jfx X cc nL own fr lo mc ms) (K : jkc k D X) (hT : cs_ok k T) (M : jCv l D k y cy maxL ret fr' lo' mc' ms' T av post) (g : GoodIn tw_G (va_wsS own idx y (Cond.code y cy maxL ret :: tw_G)))
    (hd : y.cls ≠ "java/lang/invoke/MethodHandle" ∧ y.cls ≠ "java/lang/invoke/VarHandle" ∧ (parseMethodDescriptor y.desc).map (fun d => d.parameters.length) = some N) (hn : av.length = N) (hR : fr' + 1 ≤ fr ∧ 8 + (maxL + 11) + lo' ≤ lo) (hc : c + mc' ≤ mc ∧ n + ms' ≤ ms)
    (hst : st = av.reverse ++ rest) (hW : (rest.map fun v => v.category).sum ≤ 8) (d : decode cc pc = .ok (.invokestatic idx, 3)) (kk : ∀  (T1 : CS), post T1 → cs_ok k T1 → jat l D X nL (pc + 3) lv rest (cwd k T1) (c + mc') (n + ms')) : jat l D X nL pc lv st (cwd k T) c n := by
  obtain ⟨p, e, R, s, m, args, below, meth, co, Q, A, G⟩ := X
  obtain ⟨⟨hx, hb, hml, hown, hts⟩, hfr, hlo, hmc, hms⟩ := F
  intro H locs ls hl hP hD hS
  have hF := c_sub hD K.2.1 hS.1
  have hE := c_env K.2.2.2 hD K.2.1 hS.1
  have hfit : c + mc' ≤ R.cells ∧ n + ms' ≤ R.slots := ⟨by rw [hmc]; exact hc.1, by rw [hms]; exact hc.2⟩
  have hroom : fr' + 1 ≤ R.frames ∧ 8 + (maxL + 11) + lo' ≤ R.locals := ⟨Nat.le_trans hR.1 hfr, Nat.le_trans hR.2 hlo⟩
  skip
  refine va_callv (va_runS (As := av) (rest := rest) ⟨hx, hb, hml, hown, hts⟩ (M hT H.size) (va_cwS N hts g rfl rfl rfl hd hroom) (tw_sC hP K.1 hD hE) rfl hn hl.1 hst (lv_room hW) d hfit) hS.1 (fun q _ h => hF q h) hF ?_
  rintro T1 t H1 locs1 ht hvm hp hB hz1 hk1 hS1
  obtain ⟨hp, hT1⟩ := hp
  obtain ⟨hP1, hK1, hD1⟩ := hB
  rw [ht] at hP1
  exact kk T1 hp hT1 H1 locs1 ls hl hP1 (hD1.weaken (fun _ _ _ h => hF _ h)) ⟨hS1, K.2.2.1 _⟩

theorem c_callVv {cy : ByteArray} {C : String} {Tb : u_T} {Nf : Nat} {fr' lo' mc' ms' N idx : Nat} (F : jfx X cc nL own fr lo mc ms) (K : jkc k D X) (hT : cs_ok k T) (M : jCv l D k y cy maxL ret fr' lo' mc' ms' T (.ref a :: av) post) (g : GoodIn tw_G (wsV own idx C y (Cond.code y cy maxL ret :: tw_G))) (t : Nat) (hc0 : classes[ct_ci t]? = some (C, Tb, Nf)) (ht : 0 < t ∧ t ≤ 10) (hg : tg T a = t)
    (hd : y.cls = C ∧ y.cls ≠ "java/lang/invoke/MethodHandle" ∧ y.cls ≠ "java/lang/invoke/VarHandle" ∧ (parseMethodDescriptor y.desc).map (fun d => d.parameters.length) = some N) (hn : av.length = N) (hR : fr' + 1 ≤ fr ∧ 8 + (maxL + 11) + lo' ≤ lo) (hc : c + mc' ≤ mc ∧ n + ms' ≤ ms)
    (hst : st = av.reverse ++ .ref a :: rest) (hW : (rest.map fun v => v.category).sum ≤ 8) (d : decode cc pc = .ok (.invokevirtual idx, 3)) (kk : ∀  (T1 : CS), post T1 → cs_ok k T1 → jat l D X nL (pc + 3) lv rest (cwd k T1) (c + mc') (n + ms')) : jat l D X nL pc lv st (cwd k T) c n := by
  obtain ⟨p, e, R, s, m, args, below, meth, co, Q, A, G⟩ := X
  obtain ⟨⟨hx, hb, hml, hown, hts⟩, hfr, hlo, hmc, hms⟩ := F
  intro H locs ls hl hP hD hS
  have hF := c_sub hD K.2.1 hS.1
  have hE := c_env K.2.2.2 hD K.2.1 hS.1
  have hfit : c + mc' ≤ R.cells ∧ n + ms' ≤ R.slots := ⟨by rw [hmc]; exact hc.1, by rw [hms]; exact hc.2⟩
  have hroom : fr' + 1 ≤ R.frames ∧ 8 + (maxL + 11) + lo' ≤ R.locals := ⟨Nat.le_trans hR.1 hfr, Nat.le_trans hR.2 hlo⟩
  obtain ⟨q, hq⟩ := cw_get hT hg (by omega) (by omega)
  rw [ct_E_obj hg ht.2] at hq
  refine va_callv (va_runV (As := av) (rest := rest) ⟨hx, hb, hml, hown, hts⟩ (M hT H.size) (cwV N hts g rfl rfl rfl hd hroom) (tw_vC (va_recv K.1 hP hc0 hq) hP K.1 hD hE) rfl hn hl.1 hst (lv_room hW) d hfit) hS.1 (fun q _ h => hF q h) hF ?_
  rintro T1 t H1 locs1 ht hvm hp hB hz1 hk1 hS1
  obtain ⟨hp, hT1⟩ := hp
  obtain ⟨hP1, hK1, hD1⟩ := hB
  rw [ht] at hP1
  exact kk T1 hp hT1 H1 locs1 ls hl hP1 (hD1.weaken (fun _ _ _ h => hF _ h)) ⟨hS1, K.2.2.1 _⟩

theorem c_callIv {cy : ByteArray} {fr' lo' mc' ms' N idx : Nat} (F : jfx X cc nL own fr lo mc ms) (K : jkc k D X) (hT : cs_ok k T) (M : jCv l D k y cy maxL none fr' lo' mc' ms' T (.ref a :: av) post) (g : Cond.code y cy maxL none ∈ tw_G) (hi1 : Cond.initialized y.cls ∈ tw_G) (hi2 : Cond.methodLink own idx y ∈ tw_G) (hi3 : Cond.instanceMethod y ∈ tw_G) (hi4 : y.name = "<init>")
    (hd : y.cls ≠ "java/lang/invoke/MethodHandle" ∧ y.cls ≠ "java/lang/invoke/VarHandle" ∧ (parseMethodDescriptor y.desc).map (fun d => d.parameters.length) = some N) (hn : av.length = N) (hR : fr' + 1 ≤ fr ∧ 8 + (maxL + 11) + lo' ≤ lo) (hc : c + mc' ≤ mc ∧ n + ms' ≤ ms)
    (hst : st = av.reverse ++ .ref a :: rest) (hW : (rest.map fun v => v.category).sum ≤ 8) (d : decode cc pc = .ok (.invokespecial idx, 3)) (kk : ∀  (T1 : CS), post T1 → cs_ok k T1 → jat l D X nL (pc + 3) lv rest (cwd k T1) (c + mc') (n + ms')) : jat l D X nL pc lv st (cwd k T) c n := by
  obtain ⟨p, e, R, s, m, args, below, meth, co, Q, A, G⟩ := X
  obtain ⟨⟨hx, hb, hml, hown, hts⟩, hfr, hlo, hmc, hms⟩ := F
  intro H locs ls hl hP hD hS
  have hF := c_sub hD K.2.1 hS.1
  have hE := c_env K.2.2.2 hD K.2.1 hS.1
  have hfit : c + mc' ≤ R.cells ∧ n + ms' ≤ R.slots := ⟨by rw [hmc]; exact hc.1, by rw [hms]; exact hc.2⟩
  have hroom : fr' + 1 ≤ R.frames ∧ 8 + (maxL + 11) + lo' ≤ R.locals := ⟨Nat.le_trans hR.1 hfr, Nat.le_trans hR.2 hlo⟩
  skip
  refine va_callv (va_runI (As := av) (rest := rest) ⟨hx, hb, hml, hown, hts⟩ (M hT H.size) (cwI N hts (tw_gc g) rfl rfl rfl (hts _ hi1) (hts _ hi2) (hts _ hi3) hi4 hd hroom) (tw_sC hP K.1 hD hE) rfl hn hl.1 hst (lv_room hW) d hfit) hS.1 (fun q _ h => hF q h) hF ?_
  rintro T1 t H1 locs1 ht hvm hp hB hz1 hk1 hS1
  obtain ⟨hp, hT1⟩ := hp
  obtain ⟨hP1, hK1, hD1⟩ := hB
  rw [ht] at hP1
  exact kk T1 hp hT1 H1 locs1 ls hl hP1 (hD1.weaken (fun _ _ _ h => hF _ h)) ⟨hS1, K.2.2.1 _⟩

end CC4v
section CC4r
variable {l : Launch} {D : va_G} {X : jx_C} {nL pc fr lo mc ms c n : Nat} {cc : ByteArray} {own : String} {lv : List (Nat × Value)} {st rest : List Value} {k : CK} {T : CS} {a : Nat} {y : MethodName} {ret : Option FieldType} {maxL : Nat} {av : List Value} {post : Nat → CS → Prop}
theorem c_callSr {cy : ByteArray} {fr' lo' mc' ms' N idx : Nat} (F : jfx X cc nL own fr lo mc ms) (K : jkc k D X) (hT : cs_ok k T) (M : jCr l D k y cy maxL ret fr' lo' mc' ms' T av post) (g : GoodIn tw_G (va_wsS own idx y (Cond.code y cy maxL ret :: tw_G)))
    (hd : y.cls ≠ "java/lang/invoke/MethodHandle" ∧ y.cls ≠ "java/lang/invoke/VarHandle" ∧ (parseMethodDescriptor y.desc).map (fun d => d.parameters.length) = some N) (hn : av.length = N) (hR : fr' + 1 ≤ fr ∧ 8 + (maxL + 11) + lo' ≤ lo) (hc : c + mc' ≤ mc ∧ n + ms' ≤ ms)
    (hst : st = av.reverse ++ rest) (hW : (rest.map fun v => v.category).sum ≤ 8) (d : decode cc pc = .ok (.invokestatic idx, 3)) (kk : ∀ (v : Nat) (T1 : CS), post v T1 → cs_ok k T1 → jat l D X nL (pc + 3) lv (.ref v :: rest) (cwd k T1) (c + mc') (n + ms')) : jat l D X nL pc lv st (cwd k T) c n := by
  obtain ⟨p, e, R, s, m, args, below, meth, co, Q, A, G⟩ := X
  obtain ⟨⟨hx, hb, hml, hown, hts⟩, hfr, hlo, hmc, hms⟩ := F
  intro H locs ls hl hP hD hS
  have hF := c_sub hD K.2.1 hS.1
  have hE := c_env K.2.2.2 hD K.2.1 hS.1
  have hfit : c + mc' ≤ R.cells ∧ n + ms' ≤ R.slots := ⟨by rw [hmc]; exact hc.1, by rw [hms]; exact hc.2⟩
  have hroom : fr' + 1 ≤ R.frames ∧ 8 + (maxL + 11) + lo' ≤ R.locals := ⟨Nat.le_trans hR.1 hfr, Nat.le_trans hR.2 hlo⟩
  skip
  refine va_callr (va_runS (As := av) (rest := rest) ⟨hx, hb, hml, hown, hts⟩ (M hT H.size) (va_cwS N hts g rfl rfl rfl hd hroom) (tw_sC hP K.1 hD hE) rfl hn hl.1 hst (lv_room hW) d hfit) hS.1 (fun q _ h => hF q h) hF ?_
  rintro T1 v t H1 locs1 ht hvm hp hB hz1 hk1 hS1
  have hT1 := hp
  obtain ⟨hp, hB⟩ := hB
  obtain ⟨hP1, hK1, hD1⟩ := hB
  rw [ht] at hP1
  exact kk v T1 hp hT1 H1 locs1 ls hl hP1 (hD1.weaken (fun _ _ _ h => hF _ h)) ⟨hS1, K.2.2.1 _⟩

theorem c_callVr {cy : ByteArray} {C : String} {Tb : u_T} {Nf : Nat} {fr' lo' mc' ms' N idx : Nat} (F : jfx X cc nL own fr lo mc ms) (K : jkc k D X) (hT : cs_ok k T) (M : jCr l D k y cy maxL ret fr' lo' mc' ms' T (.ref a :: av) post) (g : GoodIn tw_G (wsV own idx C y (Cond.code y cy maxL ret :: tw_G))) (t : Nat) (hc0 : classes[ct_ci t]? = some (C, Tb, Nf)) (ht : 0 < t ∧ t ≤ 10) (hg : tg T a = t)
    (hd : y.cls = C ∧ y.cls ≠ "java/lang/invoke/MethodHandle" ∧ y.cls ≠ "java/lang/invoke/VarHandle" ∧ (parseMethodDescriptor y.desc).map (fun d => d.parameters.length) = some N) (hn : av.length = N) (hR : fr' + 1 ≤ fr ∧ 8 + (maxL + 11) + lo' ≤ lo) (hc : c + mc' ≤ mc ∧ n + ms' ≤ ms)
    (hst : st = av.reverse ++ .ref a :: rest) (hW : (rest.map fun v => v.category).sum ≤ 8) (d : decode cc pc = .ok (.invokevirtual idx, 3)) (kk : ∀ (v : Nat) (T1 : CS), post v T1 → cs_ok k T1 → jat l D X nL (pc + 3) lv (.ref v :: rest) (cwd k T1) (c + mc') (n + ms')) : jat l D X nL pc lv st (cwd k T) c n := by
  obtain ⟨p, e, R, s, m, args, below, meth, co, Q, A, G⟩ := X
  obtain ⟨⟨hx, hb, hml, hown, hts⟩, hfr, hlo, hmc, hms⟩ := F
  intro H locs ls hl hP hD hS
  have hF := c_sub hD K.2.1 hS.1
  have hE := c_env K.2.2.2 hD K.2.1 hS.1
  have hfit : c + mc' ≤ R.cells ∧ n + ms' ≤ R.slots := ⟨by rw [hmc]; exact hc.1, by rw [hms]; exact hc.2⟩
  have hroom : fr' + 1 ≤ R.frames ∧ 8 + (maxL + 11) + lo' ≤ R.locals := ⟨Nat.le_trans hR.1 hfr, Nat.le_trans hR.2 hlo⟩
  obtain ⟨q, hq⟩ := cw_get hT hg (by omega) (by omega)
  rw [ct_E_obj hg ht.2] at hq
  refine va_callr (va_runV (As := av) (rest := rest) ⟨hx, hb, hml, hown, hts⟩ (M hT H.size) (cwV N hts g rfl rfl rfl hd hroom) (tw_vC (va_recv K.1 hP hc0 hq) hP K.1 hD hE) rfl hn hl.1 hst (lv_room hW) d hfit) hS.1 (fun q _ h => hF q h) hF ?_
  rintro T1 v t H1 locs1 ht hvm hp hB hz1 hk1 hS1
  have hT1 := hp
  obtain ⟨hp, hB⟩ := hB
  obtain ⟨hP1, hK1, hD1⟩ := hB
  rw [ht] at hP1
  exact kk v T1 hp hT1 H1 locs1 ls hl hP1 (hD1.weaken (fun _ _ _ h => hF _ h)) ⟨hS1, K.2.2.1 _⟩

end CC4r
section CC5
variable {l : Launch} {D : va_G} {X : jx_C} {nL pc fr lo mc ms c n : Nat} {cc : ByteArray} {own : String} {lv : List (Nat × Value)} {st rest : List Value} {k : CK} {T : CS} {a : Nat} {y : MethodName} {ret : Option FieldType} {maxL : Nat} {av : List Value}
theorem c_objInit (F : jfx X cc nL own fr lo mc ms) (K : jkc k D X) (hT : cs_ok k T) {idx : Nat} (w1 : Cond.methodLink own idx Lib.objectInit ∈ tw_G) (w2 : Cond.instanceMethod Lib.objectInit ∈ tw_G) (w3 : Cond.code Lib.objectInit ⟨#[0xb1]⟩ 1 none ∈ tw_G) (hR : 1 ≤ fr ∧ 20 ≤ lo) (hW : (st.map fun v => v.category).sum ≤ 8) (d : decode cc pc = .ok (.invokespecial idx, 3)) (kk : jat l D X nL (pc + 3) lv st (cwd k T) c n) : jat l D X nL pc lv (.ref a :: st) (cwd k T) c n := by
  obtain ⟨p, e, R, s, m, args, below, meth, co, Q, A, G⟩ := X
  obtain ⟨⟨hx, hb, hml, hown, hts⟩, hfr, hlo, hmc, hms⟩ := F
  intro H locs ls hl hP hD hS
  refine W.objInit hx hb hown (hts _ w1) (hts _ w2) (hts _ w3) rfl (by rw [hml]; exact hl.1) rfl d (Nat.le_trans hR.1 hfr) (by show 2 * 0 + _ + 12 ≤ _; omega) ?_
  refine W.eq (g2 := F0 m (pc + 3) ls st) rfl ?_
  exact kk H locs ls hl hP hD hS
theorem c_null (F : jfx X cc nL own fr lo mc ms) (d : decode cc pc = .ok (.aconst_null, 1)) (kk : jat l D X nL (pc + 1) lv (.null :: st) (cwd k T) c n) : jat l D X nL pc lv st (cwd k T) c n := by
  obtain ⟨p, e, R, s, m, args, below, meth, co, Q, A, G⟩ := X
  obtain ⟨⟨hx, hb, hml, hown, hts⟩, hfr, hlo, hmc, hms⟩ := F
  intro H locs ls hl hP hD hS
  exact lv_null hx hb d (kk H locs ls hl hP hD hS)
theorem c_copyi (F : jfx X cc nL own fr lo mc ms) (K : jkc k D X) (hT : cs_ok k T) {b idx : Nat} {x y0 z : Int} (w1 : Cond.methodLink own idx arraycopyName ∈ tw_G) (w2 : Cond.native arraycopyName ∈ tw_G) (w3 : Cond.static arraycopyName ∈ tw_G) (w4 : Cond.initialized "java/lang/System" ∈ tw_G) (hR : 1 ≤ fr ∧ 8 + (nativeFrameWords "java/lang/System" "arraycopy" 5 + 11) ≤ lo) (hW : (st.map fun v => v.category).sum ≤ 8) (hg : tg T a = 11) (hg2 : tg T b = 11) (hr : (0 ≤ x ∧ 0 ≤ y0 ∧ 0 ≤ z) ∧ x + z ≤ ln T b ∧ y0 + z ≤ ln T a) (d : decode cc pc = .ok (.invokestatic idx, 3)) (kk : ∀ T1, T1 = cs_ci T b a x.toNat y0.toNat z.toNat → cs_ok k T1 → jat l D X nL (pc + 3) lv st (cwd k T1) c n) : jat l D X nL pc lv (vi z :: vi y0 :: .ref a :: vi x :: .ref b :: st) (cwd k T) c n := by
  obtain ⟨p, e, R, s, m, args, below, meth, co, Q, A, G⟩ := X
  obtain ⟨⟨hx, hb, hml, hown, hts⟩, hfr, hlo, hmc, hms⟩ := F
  intro H locs ls hl hP hD hS
  obtain ⟨⟨g1, g2, g3⟩, g4, g5⟩ := hr
  have b1 := hT.2.2.1 a
  have b2 := hT.2.2.1 b
  have nx : ¬ iI x < 0 := by rw [← iI_0, iI_lt (by unfold inR; omega) inR_0]; omega
  have ny : ¬ iI y0 < 0 := by rw [← iI_0, iI_lt (by unfold inR; omega) inR_0]; omega
  have nz : ¬ iI z < 0 := by rw [← iI_0, iI_lt (by unfold inR; omega) inR_0]; omega
  have ex : (iI x).toNatClampNeg = x.toNat := Int32.toNatClampNeg_ofInt_of_le (by omega) (by omega)
  have ey : (iI y0).toNatClampNeg = y0.toNat := Int32.toNatClampNeg_ofInt_of_le (by omega) (by omega)
  have ez : (iI z).toNatClampNeg = z.toNat := Int32.toNatClampNeg_ofInt_of_le (by omega) (by omega)
  obtain ⟨q, hq⟩ := cw_get hT hg (by omega) (by omega)
  have hq0 := hq
  rw [ct_E_a 11 hg (by omega)] at hq
  obtain ⟨q2, hq2⟩ := cw_get hT hg2 (by omega) (by omega)
  rw [ct_E_a 11 hg2 (by omega)] at hq2
  refine va_copyi hx hb (by rw [hml]; exact hl.1.symm) hown (hts _ w1) (hts _ w2) (hts _ w3) (hts _ w4) K.1 hP hD hS.1 q2 q 0 0 hq2 hq rfl rfl rfl nx ny nz (by rw [ex, ez]; omega) (by rw [ey, ez]; omega) (fun i _ => rfl) (Nat.le_trans hR.1 hfr) (by omega) d (fun H1 locs1 hP1 hD1 hS1 => ?_)
  rw [ex, ey, ez] at hP1 hD1
  have e1 : (cwd k T).set q (a, .inl (k.1, ln T a, .inl (va_cpy (fun j => iI (fi T b j)) (fun j => iI (fi T a j)) x.toNat y0.toNat z.toNat))) = cwd k (cs_ci T b a x.toNat y0.toNat z.toNat) := by
    refine cw_set hD hq0 rfl ?_ ?_
    · rw [ct_E_a 11 (T := cs_ci T b a x.toNat y0.toNat z.toNat) hg (by omega)]
      show (Sum.inl (k.1, ln T a, Sum.inl (fun i => iI (fi (cs_ci T b a x.toNat y0.toNat z.toNat) a i))) : va_E) = _
      congr 4
      funext i
      simp only [fi, cs_ci, if_true]
      unfold va_cpy
      split <;> rfl
    · intro b' hb'
      exact ct_E_ext rfl rfl (fun i => by simp [fi, cs_ci, hb']) (fun i => rfl)
  rw [e1] at hP1 hD1
  exact kk _ rfl hT H1 locs1 ls hl hP1 hD1 ⟨hS1, K.2.2.1 _⟩
theorem c_copyo (F : jfx X cc nL own fr lo mc ms) (K : jkc k D X) (hT : cs_ok k T) {b idx : Nat} {x y0 z : Int} (w1 : Cond.methodLink own idx arraycopyName ∈ tw_G) (w2 : Cond.native arraycopyName ∈ tw_G) (w3 : Cond.static arraycopyName ∈ tw_G) (w4 : Cond.initialized "java/lang/System" ∈ tw_G) (hR : 1 ≤ fr ∧ 8 + (nativeFrameWords "java/lang/System" "arraycopy" 5 + 11) ≤ lo) (hW : (st.map fun v => v.category).sum ≤ 8) (hg : tg T a = 13) (hg2 : tg T b = 13) (hr : (0 ≤ x ∧ 0 ≤ y0 ∧ 0 ≤ z) ∧ x + z ≤ ln T b ∧ y0 + z ≤ ln T a) (t2 : Nat) {C : String} {Tb : u_T} {Nf : Nat} (ht2 : 0 < t2 ∧ t2 ≤ 10) (hc2 : classes[ct_ci t2]? = some (C, Tb, Nf)) (hw2 : Cond.castable C "java/lang/Object" ∈ cwords) (hel : ∀ (i v : Nat), i < z.toNat → fo T b (x.toNat + i) = some v → tg T v = t2) (d : decode cc pc = .ok (.invokestatic idx, 3)) (kk : ∀ T1, T1 = cs_co T b a x.toNat y0.toNat z.toNat → cs_ok k T1 → jat l D X nL (pc + 3) lv st (cwd k T1) c n) : jat l D X nL pc lv (vi z :: vi y0 :: .ref a :: vi x :: .ref b :: st) (cwd k T) c n := by
  obtain ⟨p, e, R, s, m, args, below, meth, co, Q, A, G⟩ := X
  obtain ⟨⟨hx, hb, hml, hown, hts⟩, hfr, hlo, hmc, hms⟩ := F
  intro H locs ls hl hP hD hS
  obtain ⟨⟨g1, g2, g3⟩, g4, g5⟩ := hr
  have b1 := hT.2.2.1 a
  have b2 := hT.2.2.1 b
  have nx : ¬ iI x < 0 := by rw [← iI_0, iI_lt (by unfold inR; omega) inR_0]; omega
  have ny : ¬ iI y0 < 0 := by rw [← iI_0, iI_lt (by unfold inR; omega) inR_0]; omega
  have nz : ¬ iI z < 0 := by rw [← iI_0, iI_lt (by unfold inR; omega) inR_0]; omega
  have ex : (iI x).toNatClampNeg = x.toNat := Int32.toNatClampNeg_ofInt_of_le (by omega) (by omega)
  have ey : (iI y0).toNatClampNeg = y0.toNat := Int32.toNatClampNeg_ofInt_of_le (by omega) (by omega)
  have ez : (iI z).toNatClampNeg = z.toNat := Int32.toNatClampNeg_ofInt_of_le (by omega) (by omega)
  obtain ⟨q, hq⟩ := cw_get hT hg (by omega) (by omega)
  have hq0 := hq
  rw [ct_E_a 13 hg (by omega)] at hq
  obtain ⟨q2, hq2⟩ := cw_get hT hg2 (by omega) (by omega)
  rw [ct_E_a 13 hg2 (by omega)] at hq2
  refine va_copyq (C := C) (E0 := "java/lang/Object") (E1 := "java/lang/Object") hx hb (by rw [hml]; exact hl.1.symm) hown (hts _ w1) (hts _ w2) (hts _ w3) (hts _ w4) K.1 hP hD hS.1 q2 q 2 2 hq2 hq rfl rfl nx ny nz (by rw [ex, ez]; omega) (by rw [ey, ez]; omega) ?_ ?_ (Nat.le_trans hR.1 hfr) (by omega) d (fun H1 locs1 hP1 hD1 hS1 => ?_)
  · intro i hi v hv
    rw [ez] at hi
    rw [ex] at hv
    have hgv := hel i v hi hv
    obtain ⟨q3, hq3⟩ := cw_get hT hgv (by omega) (by omega)
    rw [ct_E_obj hgv ht2.2] at hq3
    exact va_recv K.1 hP hc2 hq3
  · intro comp c0 h1 h2
    obtain ⟨c1, t1, f1, f2, f3⟩ := Cond.castable_spec (va_Nw.use (A := args) rfl (K.2.2.2.2.2.2.2.2.1 _ hw2))
    cases h2.symm.trans f1
    cases h1.symm.trans f2
    exact f3
  rw [ex, ey, ez] at hP1 hD1
  have e1 : (cwd k T).set q (a, .inl (k.2.2.1, ln T a, .inr (.inr (.inr (.inr (va_cpy (fo T b) (fo T a) x.toNat y0.toNat z.toNat)))))) = cwd k (cs_co T b a x.toNat y0.toNat z.toNat) := by
    refine cw_set hD hq0 rfl ?_ ?_
    · rw [ct_E_a 13 (T := cs_co T b a x.toNat y0.toNat z.toNat) hg (by omega)]
      show (Sum.inl (k.2.2.1, ln T a, Sum.inr (Sum.inr (Sum.inr (Sum.inr (fo (cs_co T b a x.toNat y0.toNat z.toNat) a))))) : va_E) = _
      congr 7
      funext i
      simp only [fo, cs_co, if_true]
      unfold va_cpy
      split <;> rfl
    · intro b' hb'
      exact ct_E_ext rfl rfl (fun i => rfl) (fun i => by simp [fo, cs_co, hb'])
  rw [e1] at hP1 hD1
  exact kk _ rfl hT H1 locs1 ls hl hP1 hD1 ⟨hS1, K.2.2.1 _⟩
theorem c_getC (F : jfx X cc nL own fr lo mc ms) (K : jkc k D X) (hT : cs_ok k T) {idx : Nat} (w1 : Cond.methodLink own idx ⟨"java/lang/Object", "getClass", "()Ljava/lang/Class;"⟩ ∈ tw_G) (w2 : Cond.selects "[Ljava/lang/Object;" ⟨"java/lang/Object", "getClass", "()Ljava/lang/Class;"⟩ ⟨"java/lang/Object", "getClass", "()Ljava/lang/Class;"⟩ ∈ tw_G) (w3 : Cond.instanceMethod ⟨"java/lang/Object", "getClass", "()Ljava/lang/Class;"⟩ ∈ tw_G) (w4 : Cond.native ⟨"java/lang/Object", "getClass", "()Ljava/lang/Class;"⟩ ∈ tw_G) (hR : 1 ≤ fr ∧ 22 ≤ lo) (hW : (st.map fun v => v.category).sum ≤ 8) (hg : tg T a = 13) (d : decode cc pc = .ok (.invokevirtual idx, 3)) (kk : jat l D X nL (pc + 3) lv (.ref k.2.2.2.2.2 :: st) (cwd k T) c n) : jat l D X nL pc lv (.ref a :: st) (cwd k T) c n := by
  obtain ⟨p, e, R, s, m, args, below, meth, co, Q, A, G⟩ := X
  obtain ⟨⟨hx, hb, hml, hown, hts⟩, hfr, hlo, hmc, hms⟩ := F
  intro H locs ls hl hP hD hS
  obtain ⟨q, hq⟩ := cw_get hT hg (by omega) (by omega)
  rw [ct_E_a 13 hg (by omega)] at hq
  have hcell := hP q _ hq
  obtain ⟨_, _, -, -, -, hfc⟩ := (K.1.2 2 _ rfl).2
  refine va_getC hx hb (by rw [hml]; exact hl.1.symm) hown (hts _ w1) (va_Dc.use K.2.2.2.2.2.2.2.2.2) (hts _ w2) (hts _ w3) (hts _ w4) K.2.2.2.2.2.1 ⟨_, hcell, rfl, hfc⟩ (Nat.le_trans hR.1 hfr) (by omega) d (kk H locs ls hl hP hD hS)
theorem c_ldcM (F : jfx X cc nL own fr lo mc ms) (K : jkc k D X) (hT : cs_ok k T) {idx : Nat} (w1 : Cond.classLink own idx "[Ljava/lang/Object;" ∈ tw_G) (d : decode cc pc = .ok (.ldc idx, 2)) (kk : jat l D X nL (pc + 2) lv (.ref k.2.2.2.2.2 :: st) (cwd k T) c n) : jat l D X nL pc lv st (cwd k T) c n := by
  obtain ⟨p, e, R, s, m, args, below, meth, co, Q, A, G⟩ := X
  obtain ⟨⟨hx, hb, hml, hown, hts⟩, hfr, hlo, hmc, hms⟩ := F
  intro H locs ls hl hP hD hS
  exact va_ldcM hx hb hown (hts _ w1) K.2.2.2.2.2.1 d (kk H locs ls hl hP hD hS)
end CC5
section JF
variable {l : Launch} {D : va_G} {fr lo : Nat} {cc : ByteArray} {own : String} {y : MethodName} {maxL : Nat} {av : List Value} {post : Int → Prop}
theorem j_staticF (hy : plainFor y = true) (ho : y.cls = own) (hm : (lg_sl av).length ≤ maxL)
    (body : ∀ X : jx_C, jfx X cc maxL own fr lo 0 0 → (∀ (v : Int) (pc : Nat) (lv : List (Nat × Value)), post v → decode cc pc = .ok (.ireturn, 1) → jat l D X maxL pc lv [vi v] [] 0 0) → jat l D X maxL 0 (lv_args 0 av) [] [] 0 0) : jSi l y cc maxL (some .int) fr lo av post := by
  refine va_MetF (cc := cc) (maxL := maxL) (ret := some .int) hy rfl ?_
  intro p e s m args below meth c s₁ B hml hv
  obtain ⟨rfl, -⟩ := hv
  have hx := B.exec
  have hb := B.bytes
  have hr := B.returns
  have hts : ∀ w ∈ tw_G, w.before _ s = true := fun w h => atoms_spec (ws := Cond.code y cc maxL (some .int) :: tw_G) B.pre w (List.mem_cons_of_mem _ h)
  have hown : s.vm.findClass own = some m.cls := by rw [← ho]; exact findClass_of_methodNamed B.named
  have hlocks := B.notSynchronized
  have hl := lv_entry av (n := maxL) hm
  rw [lg_entry_eq]
  refine body (p, e, _, s, m, _, below, meth, c, _, (fun _ => False), (fun H => H = s.heap)) ⟨⟨hx, hb, hml, hown, hts⟩, Nat.le_refl _, Nat.le_refl _, rfl, rfl⟩ ?_ s.heap [] _ hl (fun k q h => by simp at h) ⟨fun i j p q h => by simp at h, fun k q h => by simp at h⟩ ⟨va_S.rf, rfl⟩
  intro v pc lv hp d H locs ls hl hP hD hS
  exact W.iret hx hb hr (fun t ht hW => ⟨iI v, rfl, ⟨v, rfl, hp⟩, by rw [ht, hS.2]⟩) hS.1.2.2 d

theorem j_staticLF (hy : plainFor y = true) (ho : y.cls = own) (hm : (lg_sl av).length ≤ maxL)
    (body : ∀ X : jx_C, jfx X cc maxL own fr lo 0 0 → (∀ (v : Int) (pc : Nat) (lv : List (Nat × Value)), post v → decode cc pc = .ok (.lreturn, 1) → jat l D X maxL pc lv [vl v] [] 0 0) → jat l D X maxL 0 (lv_args 0 av) [] [] 0 0) : jSl l y cc maxL (some .long) fr lo av post := by
  refine va_MetF (cc := cc) (maxL := maxL) (ret := some .long) hy rfl ?_
  intro p e s m args below meth c s₁ B hml hv
  obtain ⟨rfl, -⟩ := hv
  have hx := B.exec
  have hb := B.bytes
  have hr := B.returns
  have hts : ∀ w ∈ tw_G, w.before _ s = true := fun w h => atoms_spec (ws := Cond.code y cc maxL (some .long) :: tw_G) B.pre w (List.mem_cons_of_mem _ h)
  have hown : s.vm.findClass own = some m.cls := by rw [← ho]; exact findClass_of_methodNamed B.named
  have hlocks := B.notSynchronized
  have hl := lv_entry av (n := maxL) hm
  rw [lg_entry_eq]
  refine body (p, e, _, s, m, _, below, meth, c, _, (fun _ => False), (fun H => H = s.heap)) ⟨⟨hx, hb, hml, hown, hts⟩, Nat.le_refl _, Nat.le_refl _, rfl, rfl⟩ ?_ s.heap [] _ hl (fun k q h => by simp at h) ⟨fun i j p q h => by simp at h, fun k q h => by simp at h⟩ ⟨va_S.rf, rfl⟩
  intro v pc lv hp d H locs ls hl hP hD hS
  exact W.lret hx hb hr (fun t ht hW => ⟨lI v, rfl, ⟨v, rfl, hp⟩, by rw [ht, hS.2]⟩) hS.1.2.2 d

end JF
