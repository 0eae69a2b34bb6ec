/-! THE LAW'S HELPERS: try { out[0] = x.m(..); } catch .. ; worlds side by side. -/
theorem jn_get {ws wr : va_W} {k : Nat} {q : Nat × va_E} (h : (ws ++ wr)[k]? = some q) : (k < ws.length ∧ ws[k]? = some q) ∨ (ws.length ≤ k ∧ wr[k - ws.length]? = some q) := by
  by_cases hk : k < ws.length
  · exact Or.inl ⟨hk, by rw [← List.getElem?_append_left (l₂ := wr) hk]; exact h⟩
  · exact Or.inr ⟨by omega, by rw [← List.getElem?_append_right (by omega)]; exact h⟩
theorem jn_l {ws wr : va_W} {k : Nat} {q : Nat × va_E} (h : ws[k]? = some q) : (ws ++ wr)[k]? = some q := by
  rw [List.getElem?_append_left (List.getElem?_eq_some_iff.mp h).1]; exact h
theorem jn_r {ws wr : va_W} {k : Nat} {q : Nat × va_E} (h : wr[k]? = some q) : (ws ++ wr)[ws.length + k]? = some q := by
  rw [List.getElem?_append_right (by omega), Nat.add_sub_cancel_left]; exact h
theorem jn_PL {D : va_G} {cl : List vw_C} {ws wr : va_W} {H : Heap} (h : va_P D cl (ws ++ wr) H) : va_P D cl ws H := fun k q hk => h k q (jn_l hk)
theorem jn_PR {D : va_G} {cl : List vw_C} {ws wr : va_W} {H : Heap} (h : va_P D cl (ws ++ wr) H) : va_P D cl wr H := fun k q hk => h _ q (jn_r hk)
theorem jn_DL {A : Nat → Prop} {ws wr : va_W} (h : va_D A (ws ++ wr)) : va_D A ws := ⟨fun i j p q hi hj e => h.1 i j p q (jn_l hi) (jn_l hj) e, fun k q hk => h.2 k q (jn_l hk)⟩
theorem jn_DR {A : Nat → Prop} {ws wr : va_W} (h : va_D A (ws ++ wr)) : va_D A wr := ⟨fun i j p q hi hj e => by have := h.1 _ _ p q (jn_r hi) (jn_r hj) e; omega, fun k q hk => h.2 _ q (jn_r hk)⟩
theorem jn_ne {A : Nat → Prop} {ws wr : va_W} (h : va_D A (ws ++ wr)) {i j : Nat} {p q : Nat × va_E} (hi : ws[i]? = some p) (hj : wr[j]? = some q) : p.1 ≠ q.1 := by
  intro e
  have := h.1 _ _ p q (jn_l hi) (jn_r hj) e
  have := (List.getElem?_eq_some_iff.mp hi).1
  omega
theorem jn_both {D : va_G} {cl : List vw_C} {ws wr : va_W} {H : Heap} {A : Nat → Prop} (h1 : va_P D cl ws H) (h2 : va_P D cl wr H) (d1 : va_D A ws) (d2 : va_D A wr) (hn : ∀ (i j : Nat) (p q : Nat × va_E), ws[i]? = some p → wr[j]? = some q → p.1 ≠ q.1) : va_P D cl (ws ++ wr) H ∧ va_D A (ws ++ wr) := by
  refine ⟨fun k q hk => ?_, fun i j p q hi hj e => ?_, fun k q hk => ?_⟩
  · rcases jn_get hk with ⟨-, h⟩ | ⟨-, h⟩
    · exact h1 _ q h
    · exact h2 _ q h
  · rcases jn_get hi with ⟨a1, h⟩ | ⟨a1, h⟩ <;> rcases jn_get hj with ⟨a2, g⟩ | ⟨a2, g⟩
    · exact d1.1 _ _ p q h g e
    · exact absurd e (hn _ _ _ _ h g)
    · exact absurd e.symm (hn _ _ _ _ g h)
    · have := d2.1 _ _ p q h g e; omega
  · rcases jn_get hk with ⟨-, h⟩ | ⟨-, h⟩
    · exact d1.2 _ q h
    · exact d2.2 _ q h
theorem jn_keep {A0 : Nat → Prop} {D : va_G} {cl : List vw_C} {wc wr : va_W} {H H1 : Heap} (hP : va_P D cl wr H) (hn : ∀ (i j : Nat) (p q : Nat × va_E), wc[i]? = some p → wr[j]? = some q → p.1 ≠ q.1) (hk : ∀ q : Nat, q < H.size → ¬ va_A wc H.size q → H1[q]? = H[q]?) : va_P D cl wr H1 ∧ ∀ (k : Nat) (q : Nat × va_E), wr[k]? = some q → ¬ va_A wc H.size q.1 := by
  have key : ∀ (k : Nat) (q : Nat × va_E), wr[k]? = some q → ¬ va_A wc H.size q.1 := by
    intro k q hq h
    rcases h with ⟨i, e, h⟩ | h
    · exact hn _ _ _ _ h hq rfl
    · have := (hP k q hq).lt; omega
  exact ⟨hP.kept (fun k q hq => hk _ (hP k q hq).lt (key k q hq)), key⟩
theorem jn_L {A0 : Nat → Prop} {D : va_G} {cl : List vw_C} {wc wr w1 : va_W} {H H1 : Heap} (hP : va_P D cl (wc ++ wr) H) (hD : va_D A0 (wc ++ wr)) (hk : ∀ q : Nat, q < H.size → ¬ va_A wc H.size q → H1[q]? = H[q]?) (hF : ∀ q, va_A wc H.size q → A0 q) (hP1 : va_P D cl w1 H1) (hD1 : va_D (va_A wc H.size) w1) : va_P D cl (w1 ++ wr) H1 ∧ va_D A0 (w1 ++ wr) := by
  obtain ⟨k1, k2⟩ := jn_keep (A0 := A0) (jn_PR hP) (fun i j p q hi hj => jn_ne hD hi hj) hk
  refine jn_both hP1 k1 (hD1.weaken (fun _ _ _ h => hF _ h)) (jn_DR hD) (fun i j p q hi hj e => ?_)
  exact k2 j q hj (e ▸ hD1.2 i p hi)
theorem jn_R {A0 : Nat → Prop} {D : va_G} {cl : List vw_C} {wc wr w1 : va_W} {H H1 : Heap} (hP : va_P D cl (wr ++ wc) H) (hD : va_D A0 (wr ++ wc)) (hk : ∀ q : Nat, q < H.size → ¬ va_A wc H.size q → H1[q]? = H[q]?) (hF : ∀ q, va_A wc H.size q → A0 q) (hP1 : va_P D cl w1 H1) (hD1 : va_D (va_A wc H.size) w1) : va_P D cl (wr ++ w1) H1 ∧ va_D A0 (wr ++ w1) := by
  obtain ⟨k1, k2⟩ := jn_keep (A0 := A0) (jn_PL hP) (fun i j p q hi hj e => jn_ne hD hj hi e.symm) hk
  refine jn_both k1 hP1 (jn_DL hD) (hD1.weaken (fun _ _ _ h => hF _ h)) (fun i j p q hi hj e => ?_)
  exact k2 i p hi (e ▸ hD1.2 j q hj)
theorem jn_sub {ws : va_W} {A : Nat → Prop} {H0 H : Heap} {locs : List Loc} (hD : va_D A ws) (hA : ∀ q, H0.size ≤ q → A q) (hS : va_S A H0 H locs) : ∀ q, va_A ws H.size q → A q := by
  intro q hq
  rcases hq with ⟨i, e, hi⟩ | hq
  · exact hD.2 i (q, e) hi
  · exact hA q (Nat.le_trans hS.1 hq)
/-- the machine with the note of a throw of an object of class cls -/
def jaw (l : Launch) (D : va_G) (X : jx_C) (nL pc : Nat) (lv : List (Nat × Value)) (st : List Value) (ws : va_W) (k n : Nat) (cls : String) (x : Addr) : Prop :=
  match X with
  | (p, e, R, s, m, args, below, meth, c, Q, A, G) => ∀ (H : Heap) (locs : List Loc) (ls : Array Slot), lv_has ls nL lv → va_P D classes ws H → va_D A ws → va_S A s.heap H locs ∧ G H → (∃ cell : Cell, H[x]? = some cell ∧ cell.vm.isStatics = false ∧ s.vm.findClass cls = some cell.cls) → tw_W p l e R s m args below meth c H locs k n Q (F0 m pc ls st) x
/-- the method's table of handlers, and what the tables say of those classes -/
def jtab (X : jx_C) (hh : List (Nat × Nat × Nat × Nat)) : Prop :=
  match X with
  | (_, _, _, s, _, _, _, _, c, _, _, _) => c.exceptionTable.toList.map (fun h => (h.startPc, h.endPc, h.handlerPc, h.catchType)) = hh ∧ ∀ (a b : String), a ∈ lb_exc.map (·.2) → b ∈ lb_exc.map (·.2) → a ≠ b → va_Nc a b s
def jkl (D : va_G) (kL : ClassId) (X : jx_C) : Prop :=
  match X with
  | (_, _, _, s, _, _, _, _, _, _, _, _) => va_K D classes [(kL, .long)] s
section HR
variable {l : Launch} {D : va_G} {X : jx_C} {nL pc fr lo mc ms c n : Nat} {cc : ByteArray} {own : String} {lv : List (Nat × Value)} {st rest : List Value} {k : CK} {T : CS} {a : Nat} {y : MethodName} {ret : Option FieldType} {maxL : Nat} {av : List Value} {pe : String → CS → Prop} {rt : Option Value → CS → Prop} {wo : va_W}
theorem h_callV {cy : ByteArray} {fr' lo' mc' ms' N idx : Nat} (F : jfx X cc nL own fr lo mc ms) (K : jkc k D X) (E : jke X) (hT : cs_ok k T) (M : jE l D k y cy maxL ret fr' lo' mc' ms' T (.ref a :: av) rt pe) (g : GoodIn tw_G (wsV own idx "LandBook" y (Cond.code y cy maxL ret :: tw_G))) (hg : tg T a = 1)
    (hd : y.cls = "LandBook" ∧ y.cls ≠ "java/lang/invoke/MethodHandle" ∧ y.cls ≠ "java/lang/invoke/VarHandle" ∧ (parseMethodDescriptor y.desc).map (fun d => d.parameters.length) = some N) (hn : av.length = N) (hR : fr' + 1 ≤ fr ∧ 8 + (maxL + 11) + lo' ≤ lo) (hc : c + mc' ≤ mc ∧ n + ms' ≤ ms)
    (hst : st = av.reverse ++ .ref a :: rest) (hW : (rest.map fun v => v.category).sum ≤ 8) (d : decode cc pc = .ok (.invokevirtual idx, 3))
    (kk : ∀ (v : Option Value) (T1 : CS), rt v T1 → cs_ok k T1 → jat l D X nL (pc + 3) lv (v.toList ++ rest) (cwd k T1 ++ wo) (c + mc') (n + ms'))
    (kt : ∀ (cls : String) (T1 : CS) (x : Addr), pe cls T1 → cs_ok k T1 → jaw l D X nL pc lv rest (cwd k T1 ++ wo) (c + mc') (n + ms') cls x) : jat l D X nL pc lv st (cwd k T ++ wo) c n := by
  obtain ⟨p, e, R, s, m, args, below, meth, co, Q, A, G⟩ := X
  obtain ⟨⟨hx, hb, hml, hown, hts⟩, hfr, hlo, hmc, hms⟩ := F
  intro H locs ls hl hP hD hS
  have hPc := jn_PL hP
  have hDc := jn_DL hD
  obtain ⟨q, hq⟩ := cw_get hT hg (by omega) (by omega)
  rw [ct_E_obj hg (by omega)] at hq
  have hF := c_sub hDc K.2.1 hS.1
  have hr := tw_runV (As := av) (rest := rest) (g := F0 m pc ls st) (locs := locs) (cells := c) (slots := n) (e := e) (below := below) (meth := meth) ⟨hx, hb, hml, hown, hts⟩ (M hT H.size) (cwV N hts g rfl rfl rfl hd ⟨Nat.le_trans hR.1 hfr, Nat.le_trans hR.2 hlo⟩) ⟨tw_bE, va_recv (q := ("LandBook", F_LandBook, 8)) K.1 hPc rfl hq, (tw_sE hPc K.1 hDc (c_env K.2.2.2 hDc K.2.1 hS.1) E.1 (tw_kst E.2 hS.1)).2⟩ rfl hn hl.1 hst (lv_room hW) d ⟨by rw [hmc]; exact hc.1, by rw [hms]; exact hc.2⟩
  refine tw_call hr hS.1 (fun q _ h => hF q h) hF (fun st o t h => h.2) ?_ ?_
  · rintro v st0 t H1 locs1 hst ht hvm ⟨⟨T1, hp, hT1, hP1, hK1, hD1⟩, -⟩ hz1 hk1 hS1
    rw [ht] at hP1
    obtain ⟨hP2, hD2⟩ := jn_L hP hD hk1 hF hP1 hD1
    exact kk v T1 hp hT1 H1 locs1 ls hl hP2 hD2 ⟨hS1, K.2.2.1 _⟩
  · rintro x st0 t H1 locs1 hst ht hvm ⟨⟨cls, T1, hp, hT1, ⟨cell, g1, g2, g3⟩, hP1, hK1, hD1⟩, -⟩ hz1 hk1 hS1
    rw [ht] at hP1 g1
    obtain ⟨hP2, hD2⟩ := jn_L hP hD hk1 hF hP1 hD1
    exact kt cls T1 x hp hT1 H1 locs1 ls hl hP2 hD2 ⟨hS1, K.2.2.1 _⟩ ⟨cell, g1, g2, by rw [← hvm.findClass]; exact g3⟩
theorem h_catch {ws : va_W} {cls : String} {x : Addr} {hh pre post : List (Nat × Nat × Nat × Nat)} (F : jfx X cc nL own fr lo mc ms) (B : jtab X hh) {sp ep hp ct : Nat} (hsp : hh = pre ++ (sp, ep, hp, ct) :: post) (hin : sp ≤ pc ∧ pc < ep) (hct : ct ≠ 0) (hlink : Cond.classLink own ct cls ∈ tw_G)
    (hc1 : cls ∈ lb_exc.map (·.2)) (hpass : ∀ y ∈ pre, y.2.2.2 ≠ 0 ∧ ∃ N, N ∈ lb_exc.map (·.2) ∧ cls ≠ N ∧ Cond.classLink own y.2.2.2 N ∈ tw_G)
    (kk : jat l D X nL hp lv [.ref x] ws c n) : jaw l D X nL pc lv st ws c n cls x := by
  obtain ⟨p, e, R, s, m, args, below, meth, co, Q, A, G⟩ := X
  obtain ⟨⟨hx, hb, hml, hown, hts⟩, hfr, hlo, hmc, hms⟩ := F
  intro H locs ls hl hP hD hS hcell
  refine tw_catch (cls := cls) hown B.1 hsp hcell hin hct (hts _ hlink) (fun y hy => ?_) (kk H locs ls hl hP hD hS)
  obtain ⟨h0, N, hN, hne, hl2⟩ := hpass y hy
  exact Or.inr ⟨h0, N, hts _ hl2, B.2 cls N hc1 hN hne⟩
theorem h_last {kL : ClassId} {ho : Nat} {f : Nat → Int64} {v : Int} (F : jfx X cc nL own fr lo mc ms) (K : jkc k D X) (K2 : jkl D kL X) (d : decode cc pc = .ok (.lastore, 1))
    (kk : jat l D X nL (pc + 1) lv st (cwd k T ++ [(ho, .inl (kL, 1, .inr (.inl (vp_updL f 0 (lI v)))))]) c n) : jat l D X nL pc lv (vl v :: vi 0 :: .ref ho :: st) (cwd k T ++ [(ho, .inl (kL, 1, .inr (.inl f)))]) c n := by
  obtain ⟨p, e, R, s, m, args, below, meth, co, Q, A, G⟩ := X
  obtain ⟨⟨hx, hb, hml, hown, hts⟩, hfr, hlo, hmc, hms⟩ := F
  intro H locs ls hl hP hD hS
  have hg : (cwd k T ++ [(ho, (.inl (kL, 1, .inr (.inl f)) : va_E))])[(cwd k T).length]? = some (ho, .inl (kL, 1, .inr (.inl f))) := by rw [List.getElem?_append_right (Nat.le_refl _)]; simp
  refine va_last hx hb K2 hP hD hS.1 (cwd k T).length 0 hg rfl (i := iI 0) (ix_in ⟨by omega, by omega⟩ (by omega)) d (fun H1 locs1 hP1 hD1 hS1 => ?_)
  rw [show (iI 0).toNatClampNeg = 0 from by decide] at hP1 hD1
  have e1 : (cwd k T ++ [(ho, (.inl (kL, 1, .inr (.inl f)) : va_E))]).set (cwd k T).length (ho, .inl (kL, 1, .inr (.inl (vp_updL f 0 (lI v))))) = cwd k T ++ [(ho, .inl (kL, 1, .inr (.inl (vp_updL f 0 (lI v)))))] := by
    rw [List.set_append_right _ _ (Nat.le_refl _)]
    simp
  rw [e1] at hP1 hD1
  exact kk H1 locs1 ls hl hP1 hD1 ⟨hS1, K.2.2.1 _⟩
end HR
theorem tw_table {l : Launch} {p : Program} {y : MethodName} {S : Spec} {cc bytes : ByteArray} {maxL maxL' : Nat} {ret ret' : Option FieldType} {e : Env} {s s₁ : State} {m : MethodId} {args : Array Value} {below : List Frame} {meth : Method} {c : Code} {hh : List (Nat × Nat × Nat × Nat)}
    (B : BodyLoose p l y S cc maxL ret e s m args below meth c s₁) (h : (Cond.codeWith y bytes maxL' ret' hh).before args s = true) : c.exceptionTable.toList.map (fun h => (h.startPc, h.endPc, h.handlerPc, h.catchType)) = hh := by
  obtain ⟨m9, meth9, c9, h1, h2, h3, -, -, h6, -⟩ := Cond.codeWith_spec h
  cases B.named.symm.trans h1
  cases B.method.symm.trans h2
  cases (Stand.of_body B).code.symm.trans h3
  exact h6
def lb_Nc (U : State) : Prop := ∀ (a b : String), a ∈ lb_exc.map (·.2) → b ∈ lb_exc.map (·.2) → a ≠ b → va_Nc a b U
abbrev hwo (ho : Nat) (kL : ClassId) (f : Nat → Int64) : va_W := [(ho, .inl (kL, 1, .inr (.inl f)))]
abbrev tw_PH (D : va_G) (k : CK) (T : CS) (kL : ClassId) (ho : Nat) (f : Nat → Int64) (sz : Nat) (av : List Value) : Array Value → State → Prop := va_Pc av (fun U => U.heap.size = sz ∧ va_P D classes (cwd k T ++ hwo ho kL f) U.heap ∧ va_K D classes (ctys k ++ [(kL, .long)]) U ∧ va_D (fun _ => True) (cwd k T ++ hwo ho kL f) ∧ ce k (va_A (cwd k T ++ hwo ho kL f) sz) U U.heap ∧ lb_E U ∧ lb_Nc U)
theorem tw_bH {D : va_G} {k : CK} {T : CS} {kL : ClassId} {ho : Nat} {f : Nat → Int64} {sz : Nat} {av : List Value} : FrameBlind (tw_PH D k T kL ho f sz av) := fun a U g mk q => ⟨q.1, q.2.1, q.2.2.1, va_K.moved (u := U) (U := U.calling g mk a) (Vm.Alike.refl U.vm) q.2.2.2.1, q.2.2.2.2.1, ce.warm (s := U) (U := U.calling g mk a) (State.WarmedH.refl U) q.2.2.2.2.2.1, q.2.2.2.2.2.2.1.call g mk a, q.2.2.2.2.2.2.2⟩
def jH (l : Launch) (D : va_G) (k : CK) (y : MethodName) (cc : ByteArray) (maxL : Nat) (hh : List (Nat × Nat × Nat × Nat)) (fr lo mc ms : Nat) (T : CS) (kL : ClassId) (ho : Nat) (f : Nat → Int64) (av : List Value) (post : Int → (Nat → Int64) → CS → Prop) : Prop := cs_ok k T → ∀ sz : Nat,
  Met l y (Cond.codeWith y cc maxL (some .int) hh :: tw_G) { frames := fr, cells := mc, slots := ms, locals := lo } (tw_PH D k T kL ho f sz av) (va_Qi (fun (r : Int32) (u : Int × (Nat → Int64) × CS) => r = iI u.1 ∧ post u.1 u.2.1 u.2.2 ∧ cs_ok k u.2.2) (fun u => tw_B D.1 D.2 (va_A (cwd k T ++ hwo ho kL f) sz) (cwd k u.2.2 ++ hwo ho kL u.2.1) (ctys k ++ [(kL, .long)])) (va_A (cwd k T ++ hwo ho kL f) sz)) mc ms (va_A (cwd k T ++ hwo ho kL f) sz)
theorem j_ho {l : Launch} {D : va_G} {k : CK} {y : MethodName} {cc : ByteArray} {maxL fr lo mc ms : Nat} {hh : List (Nat × Nat × Nat × Nat)} {T : CS} {kL : ClassId} {ho : Nat} {f : Nat → Int64} {av : List Value} {post : Int → (Nat → Int64) → CS → Prop} (hy : plainName y.cls = true) (ho' : y.cls = "LandBookLaw") (hm : (lg_sl av).length ≤ maxL)
    (body : ∀ X : jx_C, jfx X cc maxL "LandBookLaw" fr lo mc ms → jkc k D X → jkl D kL X → jke X → jtab X hh → cs_ok k T → (∀ (v : Int) (f1 : Nat → Int64) (T1 : CS) (pc : Nat) (lv : List (Nat × Value)) (c n : Nat), post v f1 T1 → cs_ok k T1 → c ≤ mc → n ≤ ms → decode cc pc = .ok (.ireturn, 1) → jat l D X maxL pc lv [vi v] (cwd k T1 ++ hwo ho kL f1) c n) → jat l D X maxL 0 (lv_args 0 av) [] (cwd k T ++ hwo ho kL f) 0 0) : jH l D k y cc maxL hh fr lo mc ms T kL ho f av post := by
  intro hT sz
  refine va_MetW (cc := cc) (maxL := maxL) (ret := some .int) (hh := hh) hy rfl ?_
  intro p e s m args below meth c s₁ B hml hv
  obtain ⟨rfl, hsz, hP, hK, hD0, hE, hLE, hNc⟩ := hv
  have hx := B.exec
  have hb := B.bytes
  have hr := B.returns
  have hts : ∀ w ∈ tw_G, w.before _ s = true := fun w h => atoms_spec (ws := Cond.codeWith y cc maxL (some .int) hh :: tw_G) B.pre w (List.mem_cons_of_mem _ h)
  have hown : s.vm.findClass "LandBookLaw" = some m.cls := by rw [← ho']; exact findClass_of_methodNamed B.named
  have hlocks := B.notSynchronized
  have htab := tw_table B (atoms_spec (ws := Cond.codeWith y cc maxL (some .int) hh :: tw_G) B.pre _ List.mem_cons_self)
  subst hsz
  have hN := tw_nst hP
  have hD := hD0.self (sz := s.heap.size)
  have hl := lv_entry av (n := maxL) hm
  rw [lg_entry_eq]
  have hK1 : va_K D classes (ctys k) s := ⟨hK.1, fun i q hi => hK.2 i q (by rw [List.getElem?_append_left (List.getElem?_eq_some_iff.mp hi).1]; exact hi)⟩
  have hK2 : va_K D classes [(kL, .long)] s := ⟨hK.1, fun i q hi => hK.2 (4 + i) q (by rw [List.getElem?_append_right (by show 4 ≤ 4 + i; omega)]; rw [show 4 + i - (ctys k).length = i from by show 4 + i - 4 = i; omega]; exact hi)⟩
  refine body (p, e, _, s, m, _, below, meth, c, _, va_A (cwd k T ++ hwo ho kL f) s.heap.size, (fun _ => True)) ⟨⟨hx, hb, hml, hown, hts⟩, Nat.le_refl _, Nat.le_refl _, rfl, rfl⟩ ⟨hK1, fun q h => Or.inr h, fun _ => trivial, hE⟩ hK2 ⟨hLE, hN⟩ ⟨htab, hNc⟩ hT ?_ s.heap [] _ hl hP hD ⟨va_S.rf, trivial⟩
  intro v f1 T1 pc lv cq nq hp hT1 h1 h2 d H locs ls hl hP hD hS
  refine W.widen (k := mc) (n := ms) h1 h2 ?_
  exact W.iret hx hb hr (fun t ht hW => ⟨⟨iI v, (v, f1, T1), rfl, ⟨rfl, hp, hT1⟩, by rw [ht]; exact hP, va_K.moved hW.alike hK, hD⟩, hS.1.F ht⟩) hS.1.2.2 d
