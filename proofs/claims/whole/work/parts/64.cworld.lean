/-! THE BOOK'S WORLD: a memory of tagged cells. T.1 the addresses, tg the tag, ln the length, fi the ints (fields or elements), fo the references. -/
abbrev CS : Type := List Nat × (Nat → Nat) × (Nat → Nat) × (Nat → Nat → Int) × (Nat → Nat → Option Nat)
def tg (T : CS) (a : Nat) : Nat := T.2.1 a
def ln (T : CS) (a : Nat) : Nat := T.2.2.1 a
def fi (T : CS) (a j : Nat) : Int := T.2.2.2.1 a j
def fo (T : CS) (a j : Nat) : Option Nat := T.2.2.2.2 a j
/-- the array classes, ArrayList's empty array, the mirror of Object[] -/
abbrev CK : Type := ClassId × ClassId × ClassId × ClassId × Nat × Nat
def ct_n : Nat → Nat := fun t => match t with
  | 1 => 8 | 2 => 2 | 3 => 3 | 4 => 5 | 5 => 5 | 6 => 3 | 7 => 3 | 8 => 6 | 9 => 5 | 10 => 3 | _ => 0
def ct_ci : Nat → Nat := fun t => match t with
  | 1 => 0 | 2 => 1 | 3 => 2 | 4 => 3 | 5 => 4 | 6 => 5 | 7 => 6 | 8 => 8 | 9 => 9 | _ => 10
def ct_int : Nat → Nat → Bool := fun t j => match t with
  | 1 => j == 6 || j == 7 | 2 => j == 1 | 6 => j == 1 || j == 2 | 7 => j == 1 || j == 2 | 8 => !(j == 2) | 9 => j == 1 || j == 4 | 10 => true | _ => false
def ct_fs (T : CS) (a : Nat) : List Value := (List.range (ct_n (tg T a))).map (fun j => if ct_int (tg T a) j = true then vi (fi T a j) else va_rf (fo T a j))
def ct_E (k : CK) (T : CS) (a : Nat) : va_E :=
  if tg T a ≤ 10 then .inr (ct_ci (tg T a), ct_fs T a)
  else if tg T a = 11 then .inl (k.1, ln T a, .inl (fun j => iI (fi T a j)))
  else if tg T a = 12 then .inl (k.2.1, ln T a, .inl (fun j => iI (fi T a j)))
  else if tg T a = 13 then .inl (k.2.2.1, ln T a, .inr (.inr (.inr (.inr (fo T a)))))
  else .inl (k.2.2.2.1, ln T a, .inr (.inr (.inr (.inr (fo T a)))))
def cwd (k : CK) (T : CS) : va_W := va_pl T.1 (ct_E k T)
def ctys (k : CK) : List (ClassId × FieldType) := [(k.1, .int), (k.2.1, .boolean), (k.2.2.1, .object "java/lang/Object"), (k.2.2.2.1, .object "LandBook$Points")]
def cs_ok (k : CK) (T : CS) : Prop := (∀ a, a ∈ T.1 ↔ tg T a ≠ 0 ∧ tg T a ≠ 20) ∧ (∀ a, tg T a = 20 ↔ a = k.2.2.2.2.1) ∧ (∀ a, ln T a ≤ 134217728) ∧ ln T k.2.2.2.2.1 = 0 ∧ ∀ a, tg T a ≤ 14 ∨ tg T a = 20
def cs_i (T : CS) (a j : Nat) (v : Int) : CS := (T.1, T.2.1, T.2.2.1, fun b i => if b = a ∧ i = j then v else T.2.2.2.1 b i, T.2.2.2.2)
def cs_o (T : CS) (a j : Nat) (o : Option Nat) : CS := (T.1, T.2.1, T.2.2.1, T.2.2.2.1, fun b i => if b = a ∧ i = j then o else T.2.2.2.2 b i)
def cs_new (T : CS) (q t n : Nat) : CS := (T.1 ++ [q], fun b => if b = q then t else T.2.1 b, fun b => if b = q then n else T.2.2.1 b, fun b i => if b = q then 0 else T.2.2.2.1 b i, fun b i => if b = q then none else T.2.2.2.2 b i)
def cs_ci (T : CS) (a b sp dp n : Nat) : CS := (T.1, T.2.1, T.2.2.1, fun c i => if c = b then va_cpy (T.2.2.2.1 a) (T.2.2.2.1 b) sp dp n i else T.2.2.2.1 c i, T.2.2.2.2)
def cs_co (T : CS) (a b sp dp n : Nat) : CS := (T.1, T.2.1, T.2.2.1, T.2.2.2.1, fun c i => if c = b then va_cpy (T.2.2.2.2 a) (T.2.2.2.2 b) sp dp n i else T.2.2.2.2 c i)
def cs_cl (T : CS) (q a : Nat) : CS := (T.1 ++ [q], fun b => if b = q then 11 else T.2.1 b, fun b => if b = q then T.2.2.1 a else T.2.2.1 b, fun b i => if b = q then T.2.2.2.1 a i else T.2.2.2.1 b i, fun b i => if b = q then none else T.2.2.2.2 b i)
theorem ct_E_obj {k : CK} {T : CS} {a t : Nat} (h : tg T a = t) (ht : t ≤ 10) : ct_E k T a = .inr (ct_ci t, ct_fs T a) := by
  subst h
  unfold ct_E
  rw [if_pos ht]
theorem ct_fs_i {T : CS} {a t j : Nat} (h : tg T a = t) (hj : j < ct_n t) (hi : ct_int t j = true) : (ct_fs T a)[j]? = some (vi (fi T a j)) := by
  subst h
  unfold ct_fs
  rw [List.getElem?_map, List.getElem?_range hj]
  simp [hi]
theorem ct_fs_r {T : CS} {a t j : Nat} (h : tg T a = t) (hj : j < ct_n t) (hi : ct_int t j = false) : (ct_fs T a)[j]? = some (va_rf (fo T a j)) := by
  subst h
  unfold ct_fs
  rw [List.getElem?_map, List.getElem?_range hj]
  simp [hi]
theorem ct_fs_len {T : CS} {a t : Nat} (h : tg T a = t) : (ct_fs T a).length = ct_n t := by
  subst h
  unfold ct_fs
  rw [List.length_map, List.length_range]
theorem ct_fs_seti {T : CS} {a t j : Nat} {v : Int} (h : tg T a = t) (hj : j < ct_n t) (hi : ct_int t j = true) : (ct_fs T a).set j (vi v) = ct_fs (cs_i T a j v) a := by
  apply List.ext_getElem?
  intro z
  rw [List.getElem?_set, ct_fs_len h]
  have h' : tg (cs_i T a j v) a = t := h
  by_cases e : j = z
  · subst e
    rw [if_pos rfl, if_pos hj, ct_fs_i h' hj hi]
    simp [fi, cs_i]
  · rw [if_neg e]
    by_cases hz : z < ct_n t
    · cases hb : ct_int t z with
      | true =>
        rw [ct_fs_i h hz hb, ct_fs_i h' hz hb]
        have e' : ¬ z = j := fun f => e f.symm
        simp [fi, cs_i, e']
      | false =>
        rw [ct_fs_r h hz hb, ct_fs_r h' hz hb]
        rfl
    · rw [List.getElem?_eq_none (by rw [ct_fs_len h]; omega), List.getElem?_eq_none (by rw [ct_fs_len h']; omega)]
theorem ct_fs_setr {T : CS} {a t j : Nat} {o : Option Nat} (h : tg T a = t) (hj : j < ct_n t) (hi : ct_int t j = false) : (ct_fs T a).set j (va_rf o) = ct_fs (cs_o T a j o) a := by
  apply List.ext_getElem?
  intro z
  rw [List.getElem?_set, ct_fs_len h]
  have h' : tg (cs_o T a j o) a = t := h
  by_cases e : j = z
  · subst e
    rw [if_pos rfl, if_pos hj, ct_fs_r h' hj hi]
    simp [fo, cs_o]
  · rw [if_neg e]
    by_cases hz : z < ct_n t
    · cases hb : ct_int t z with
      | true =>
        rw [ct_fs_i h hz hb, ct_fs_i h' hz hb]
        rfl
      | false =>
        rw [ct_fs_r h hz hb, ct_fs_r h' hz hb]
        have e' : ¬ z = j := fun f => e f.symm
        simp [fo, cs_o, e']
    · rw [List.getElem?_eq_none (by rw [ct_fs_len h]; omega), List.getElem?_eq_none (by rw [ct_fs_len h']; omega)]
theorem ct_E_ext {k : CK} {T T1 : CS} {b : Nat} (h1 : tg T1 b = tg T b) (h2 : ln T1 b = ln T b) (h3 : ∀ j, fi T1 b j = fi T b j) (h4 : ∀ j, fo T1 b j = fo T b j) : ct_E k T1 b = ct_E k T b := by
  have e3 : fi T1 b = fi T b := funext h3
  have e4 : fo T1 b = fo T b := funext h4
  unfold ct_E ct_fs
  rw [h1, h2, e3, e4]
/-- where a cell lies in the world -/
theorem cw_get {k : CK} {T : CS} (hT : cs_ok k T) {a t : Nat} (h : tg T a = t) (h0 : t ≠ 0) (h1 : t ≠ 20) : ∃ q : Nat, (cwd k T)[q]? = some (a, ct_E k T a) := by
  have hm : a ∈ T.1 := (hT.1 a).mpr ⟨by rw [h]; exact h0, by rw [h]; exact h1⟩
  exact va_pl_get (X := []) hm
theorem cw_set {A : Nat → Prop} {k : CK} {T T1 : CS} {a q : Nat} {e : va_E} (hD : va_D A (cwd k T)) (hq : (cwd k T)[q]? = some (a, ct_E k T a)) (h1 : T1.1 = T.1) (he : ct_E k T1 a = e) (ho : ∀ b, b ≠ a → ct_E k T1 b = ct_E k T b) : (cwd k T).set q (a, e) = cwd k T1 := by
  have hm : a ∈ T.1 := by
    have := List.mem_of_getElem? hq
    obtain ⟨x, hx, hy⟩ := List.mem_map.mp this
    cases hy
    exact hx
  have := va_pl_set (X := []) (e := e) hD hm hq
  unfold cwd at this ⊢
  rw [List.nil_append] at this
  rw [this, h1]
  show List.map _ _ = List.map _ _
  congr 1
  funext b
  by_cases hb : b = a
  · subst hb
    rw [va_up_self, he]
  · rw [va_up_ne _ _ hb, ho b hb]
theorem cw_push {k : CK} {T : CS} {q t n : Nat} {e : va_E} (hq : q ∉ T.1) (he : ct_E k (cs_new T q t n) q = e) : cwd k T ++ [(q, e)] = cwd k (cs_new T q t n) := by
  unfold cwd
  rw [va_pl_push hq]
  show List.map _ _ = List.map _ _
  congr 1
  funext b
  by_cases hb : b = q
  · subst hb
    rw [va_up_self, he]
  · rw [va_up_ne _ _ hb]
    congr 1
    refine (ct_E_ext ?_ ?_ ?_ ?_).symm
    · simp [tg, cs_new, hb]
    · simp [ln, cs_new, hb]
    · intro j; simp [fi, cs_new, hb]
    · intro j; simp [fo, cs_new, hb]
theorem cs_ok_new {k : CK} {T : CS} {q t n : Nat} (hT : cs_ok k T) (hq : q ∉ T.1) (he : q ≠ k.2.2.2.2.1) (ht : t ≠ 0) (ht1 : t ≤ 14) (hn : n ≤ 134217728) : tg T q = 0 ∧ cs_ok k (cs_new T q t n) := by
  obtain ⟨h1, h2, h3, h4, h5⟩ := hT
  have hq0 : tg T q = 0 := by
    have a1 : ¬ (tg T q ≠ 0 ∧ tg T q ≠ 20) := fun z => hq ((h1 q).mpr z)
    by_cases z : tg T q = 20
    · exact absurd ((h2 q).mp z) he
    · by_cases y : tg T q = 0
      · exact y
      · exact absurd ⟨y, z⟩ a1
  refine ⟨hq0, ?_, ?_, ?_, ?_, ?_⟩
  · intro a
    by_cases e : a = q
    · subst e
      simp [tg, cs_new]
      omega
    · have := h1 a
      simp [tg, cs_new, e] at this ⊢
      exact this
  · intro a
    by_cases e : a = q
    · subst e
      simp [tg, cs_new]
      constructor
      · intro f; omega
      · intro f; exact absurd f he
    · have := h2 a
      simp [tg, cs_new, e] at this ⊢
      exact this
  · intro a
    by_cases e : a = q
    · subst e
      simp [ln, cs_new]
      exact hn
    · have := h3 a
      simp [ln, cs_new, e] at this ⊢
      exact this
  · have e : k.2.2.2.2.1 ≠ q := fun f => he f.symm
    simp [ln, cs_new, e] at h4 ⊢
    exact h4
  · intro a
    by_cases e : a = q
    · subst e
      simp [tg, cs_new]
      omega
    · have := h5 a
      simp [tg, cs_new, e] at this ⊢
      exact this
/-! what the book's methods need of the state beside their world -/
def cwords : List Cond := [.castable "LandBook$Lot" "LandBook$Lot", .castable "LandBook$Deed" "LandBook$Deed", .castable "LandBook$Easement" "LandBook$Easement", .castable "LandBook$Lot" "java/lang/Object", .castable "LandBook$Deed" "java/lang/Object", .castable "LandBook$Easement" "java/lang/Object", .castable "[I" "java/lang/Cloneable"]
def ce (k : CK) (A : Nat → Prop) (U : State) (H : Heap) : Prop := al_Z k.2.2.2.2.1 A U H ∧ va_T (.object "java/lang/Object") k.2.2.2.2.1 0 (fun _ => .null) A U H ∧ va_Mi "[Ljava/lang/Object;" k.2.2.2.2.2 U ∧ va_AO "java/lang/Object" U ∧ va_AO "LandBook$Points" U ∧ (∀ w ∈ cwords, va_Nw w U) ∧ va_Dc U
theorem ce.warm {k : CK} {A : Nat → Prop} {s U : State} {H : Heap} (hW : s.WarmedH U.vm) (h : ce k A s H) : ce k A U H := by
  obtain ⟨h1, h2, h3, h4, h5, h6, h7⟩ := h
  refine ⟨va_Z.moved hW.alike h1, va_T.moved hW.alike h2, va_Mi.moved hW.alike h3, va_AO.moved hW.alike h4, va_AO.moved hW.alike h5, ?_, va_Dc.moved hW.alike h7⟩
  intro w hw
  have hz := h6 w hw
  simp only [cwords, List.mem_cons, List.not_mem_nil, or_false] at hw
  rcases hw with rfl | rfl | rfl | rfl | rfl | rfl | rfl <;> exact va_Nw.warmC hW hz
theorem ce.kept {k : CK} {A : Nat → Prop} {U : State} {H H1 : Heap} (h : ce k A U H) (hq : ∀ a : Nat, a < H.size → ¬ A a → H1[a]? = H[a]?) : ce k A U H1 :=
  ⟨va_Z.kept h.1 hq, va_T.kept h.2.1 hq, h.2.2⟩
theorem ce.narrow {k : CK} {A B : Nat → Prop} {U : State} {H : Heap} (h : ce k A U H) (hAB : ∀ q, B q → A q) : ce k B U H :=
  ⟨va_Z.narrow h.1 hAB, va_T.narrow h.2.1 hAB, h.2.2⟩
def jkc (k : CK) (D : va_G) (X : jx_C) : Prop :=
  match X with
  | (_, _, _, s, _, _, _, _, _, _, A, G) => va_K D classes (ctys k) s ∧ (∀ q, s.heap.size ≤ q → A q) ∧ (∀ H, G H) ∧ ce k A s s.heap
def jin (X : jx_C) : Prop :=
  match X with
  | (_, _, _, _, _, _, _, meth, _, _, _, _) => meth.name = "<init>"
