/-! THE REFERENCE'S WORLD: S.1 its int fields, S.2 its arrays, by the field's number. -/
abbrev MS : Type := (Nat → Int) × (Nat → Nat → Int)
def ml : Nat → Nat := fun k => match k with
  | 5 => 32 | 6 => 32 | 8 => 18120 | 9 => 18120 | 10 => 302 | 11 => 302 | 12 => 302 | 13 => 302 | 14 => 302
  | 16 => 601 | 17 => 601 | 18 => 601 | 19 => 601 | 20 => 601 | 21 => 601 | 22 => 601 | 23 => 601 | 24 => 601
  | 26 => 202 | 27 => 202 | 28 => 202 | 29 => 302 | 32 => 12100 | 34 => 400 | 35 => 400 | 37 => 400 | 38 => 400 | 40 => 400 | 41 => 400
  | _ => 0
def ma : List Nat := [5, 6, 8, 9, 10, 11, 12, 13, 14, 16, 17, 18, 19, 20, 21, 22, 23, 24, 26, 27, 28, 29, 32, 34, 35, 37, 38, 40, 41]
def mty : Nat → FieldType := fun k => if k = 29 then .boolean else .int
def mix : Nat → Nat := fun k => match k with
  | 5 => 0 | 6 => 1 | 8 => 2 | 9 => 3 | 10 => 4 | 11 => 5 | 12 => 6 | 13 => 7 | 14 => 8
  | 16 => 9 | 17 => 10 | 18 => 11 | 19 => 12 | 20 => 13 | 21 => 14 | 22 => 15 | 23 => 16 | 24 => 17
  | 26 => 18 | 27 => 19 | 28 => 20 | 29 => 21 | 32 => 22 | 34 => 23 | 35 => 24 | 37 => 25 | 38 => 26 | 40 => 27 | 41 => 28
  | _ => 29
theorem ma_ix : ∀ t, t < 29 → ∀ k, ma[t]? = some k → mix k = t := by
  intro t ht
  have : ∀ t : Fin 29, mix (ma.getD t.val 0) = t.val := by decide
  intro k hk
  have h := this ⟨t, ht⟩
  rw [List.getD_eq_getElem?_getD, hk] at h
  exact h
theorem ml_lt (k : Nat) : ml k < 2147483648 := by unfold ml; split <;> omega
def mo_fs (ad : Nat → Nat) (S : MS) : List Value := (List.range 42).map (fun k => if ml k = 0 then vi (S.1 k) else .ref (ad k))
def mo_as (ad : Nat → Nat) (kc : Nat → ClassId) (S : MS) : va_W := ma.map (fun k => (ad k, .inl (kc k, ml k, .inl (fun j => iI (S.2 k j)))))
def mw (h : Nat) (ad : Nat → Nat) (kc : Nat → ClassId) (S : MS) : va_W := (h, .inr (7, mo_fs ad S)) :: mo_as ad kc S
def mtys (kc : Nat → ClassId) : List (ClassId × FieldType) := ma.map (fun k => (kc k, mty k))
def ms_i (S : MS) (k : Nat) (v : Int) : MS := (fun j => if j = k then v else S.1 j, S.2)
def ms_a (S : MS) (k : Nat) (i v : Int) : MS := (S.1, fun j t => if j = k ∧ t = i.toNat then v else S.2 j t)
theorem mo_fs_i {ad : Nat → Nat} {S : MS} {k : Nat} (hk : k < 42) (hm : ml k = 0) : (mo_fs ad S)[k]? = some (vi (S.1 k)) := by
  unfold mo_fs
  rw [List.getElem?_map, List.getElem?_range hk]
  simp [hm]
theorem mo_fs_a {ad : Nat → Nat} {S : MS} {k : Nat} (hk : k < 42) (hm : ml k ≠ 0) : (mo_fs ad S)[k]? = some (.ref (ad k)) := by
  unfold mo_fs
  rw [List.getElem?_map, List.getElem?_range hk]
  simp [hm]
theorem mo_fs_set {ad : Nat → Nat} {S : MS} {k : Nat} {v : Int} (hk : k < 42) (hm : ml k = 0) : (mo_fs ad S).set k (vi v) = mo_fs ad (ms_i S k v) := by
  apply List.ext_getElem?
  intro t
  rw [List.getElem?_set]
  unfold mo_fs ms_i
  by_cases e : k = t
  · subst e
    rw [if_pos rfl, if_pos (by rw [List.length_map, List.length_range]; exact hk), List.getElem?_map, List.getElem?_range hk]
    simp [hm]
  · rw [if_neg e, List.getElem?_map, List.getElem?_map]
    cases h : (List.range 42)[t]? with
    | none => rfl
    | some j =>
      have : t < 42 := by
        have := (List.getElem?_eq_some_iff.mp h).1
        rwa [List.length_range] at this
      rw [List.getElem?_range this] at h
      cases h
      have e' : ¬ t = k := fun f => e f.symm
      simp [e']
theorem mo_as_get {ad : Nat → Nat} {kc : Nat → ClassId} {S : MS} {k i : Nat} (hi : ma[i]? = some k) : (mo_as ad kc S)[i]? = some (ad k, .inl (kc k, ml k, .inl (fun j => iI (S.2 k j)))) := by
  unfold mo_as
  rw [List.getElem?_map, hi]
  rfl
theorem mtys_get {kc : Nat → ClassId} {k i : Nat} (hi : ma[i]? = some k) : (mtys kc)[i]? = some (kc k, mty k) := by
  unfold mtys
  rw [List.getElem?_map, hi]
  rfl
theorem mo_as_set {ad : Nat → Nat} {kc : Nat → ClassId} {S : MS} {k i : Nat} {j v : Int} (hi : ma[i]? = some k) : (mo_as ad kc S).set i (ad k, .inl (kc k, ml k, .inl (upd (fun j => iI (S.2 k j)) j.toNat (iI v)))) = mo_as ad kc (ms_a S k j v) := by
  have hl : i < ma.length := (List.getElem?_eq_some_iff.mp hi).1
  apply List.ext_getElem?
  intro t
  rw [List.getElem?_set]
  unfold mo_as ms_a
  by_cases e : i = t
  · subst e
    rw [if_pos rfl, if_pos (by rw [List.length_map]; exact hl), List.getElem?_map, hi]
    simp only [Option.map_some]
    congr 6
    funext z
    unfold upd
    by_cases f : z = j.toNat
    · rw [if_pos f, if_pos ⟨trivial, f⟩]
    · rw [if_neg f, if_neg (fun g => f g.2)]
  · rw [if_neg e, List.getElem?_map, List.getElem?_map]
    cases h : ma[t]? with
    | none => rfl
    | some q =>
      have ne : ¬ q = k := by
        intro f
        subst f
        have a1 := ma_ix t (List.getElem?_eq_some_iff.mp h).1 _ h
        have a2 := ma_ix i hl _ hi
        omega
      simp [ne]
section MR
variable {l : Launch} {D : va_G} {X : jx_C} {nL pc fr lo mc ms k n : Nat} {cc : ByteArray} {own : String} {lv : List (Nat × Value)} {st rest : List Value} {h : Nat} {ad : Nat → Nat} {kc : Nat → ClassId} {S : MS}
theorem m_geti (F : jfx X cc nL own fr lo mc ms) (K : jkx D (mtys kc) X) (f : Nat) {ix : Nat} (hf : f < 42) (hm : ml f = 0) (hk : Cond.fieldLink own ix "LandBookModel" (F_LandBookModel f).2.1 (F_LandBookModel f).2.2.1 ∈ tw_G) (ho : (F_LandBookModel f).1 = "LandBookModel") (d : decode cc pc = .ok (.getfield ix, 3))
    (kk : jat l D X nL (pc + 3) lv (vi (S.1 f) :: st) (mw h ad kc S) k n) : jat l D X nL pc lv (.ref h :: st) (mw h ad kc S) k n := by
  obtain ⟨p, e, R, s, m, args, below, meth, co, Q, A, G⟩ := X
  obtain ⟨⟨hx, hb, hml, hown, hts⟩, hfr, hlo, hmc, hms⟩ := F
  intro H locs ls hl hP hD hS
  exact va_get (D := D) (ci := 7) (C := "LandBookModel") (T := F_LandBookModel) (N := 42) hx hb hts tu_LandBookModel hown K.1 hP 0 rfl rfl f hf (hts _ hk) (fun _ h9 => by rw [ho] at h9; exact h9) (mo_fs_i hf hm) d (kk H locs ls hl hP hD hS)
theorem m_geta (F : jfx X cc nL own fr lo mc ms) (K : jkx D (mtys kc) X) (f : Nat) {ix : Nat} (hf : f < 42) (hm : ml f ≠ 0) (hk : Cond.fieldLink own ix "LandBookModel" (F_LandBookModel f).2.1 (F_LandBookModel f).2.2.1 ∈ tw_G) (ho : (F_LandBookModel f).1 = "LandBookModel") (d : decode cc pc = .ok (.getfield ix, 3))
    (kk : jat l D X nL (pc + 3) lv (.ref (ad f) :: st) (mw h ad kc S) k n) : jat l D X nL pc lv (.ref h :: st) (mw h ad kc S) k n := by
  obtain ⟨p, e, R, s, m, args, below, meth, co, Q, A, G⟩ := X
  obtain ⟨⟨hx, hb, hml, hown, hts⟩, hfr, hlo, hmc, hms⟩ := F
  intro H locs ls hl hP hD hS
  exact va_get (D := D) (ci := 7) (C := "LandBookModel") (T := F_LandBookModel) (N := 42) hx hb hts tu_LandBookModel hown K.1 hP 0 rfl rfl f hf (hts _ hk) (fun _ h9 => by rw [ho] at h9; exact h9) (mo_fs_a hf hm) d (kk H locs ls hl hP hD hS)
theorem m_puti (F : jfx X cc nL own fr lo mc ms) (K : jkx D (mtys kc) X) (f : Nat) {ix : Nat} {v : Int} (hf : f < 42) (hm : ml f = 0) (hk : Cond.fieldLink own ix "LandBookModel" (F_LandBookModel f).2.1 (F_LandBookModel f).2.2.1 ∈ tw_G) (ho : (F_LandBookModel f).1 = "LandBookModel") (hfin : (F_LandBookModel f).2.2.2 = false) {ty : FieldType} (hd : parseFieldDescriptor (F_LandBookModel f).2.2.1 = some ty) (hn : narrow ty (vi v) = vi v) (hfit : fits ty (vi v) = true) (d : decode cc pc = .ok (.putfield ix, 3))
    (kk : ∀ S1, S1 = ms_i S f v → jat l D X nL (pc + 3) lv st (mw h ad kc S1) k n) : jat l D X nL pc lv (vi v :: .ref h :: st) (mw h ad kc S) k n := by
  obtain ⟨p, e, R, s, m, args, below, meth, co, Q, A, G⟩ := X
  obtain ⟨⟨hx, hb, hml, hown, hts⟩, hfr, hlo, hmc, hms⟩ := F
  intro H locs ls hl hP hD hS
  refine va_put (D := D) (ci := 7) (C := "LandBookModel") (T := F_LandBookModel) (N := 42) hx hb hts tu_LandBookModel t_LandBookModel t_LandBookModel_ok n_LandBookModel hown K.1 hP hD hS.1 0 rfl rfl f hf (hts _ hk) (fun _ h9 => by rw [ho] at h9; exact h9) hfin hd hn hfit (by unfold mo_fs; rw [List.length_map, List.length_range]; exact hf) d (fun H1 locs1 hP1 hD1 hS1 => ?_)
  rw [mo_fs_set hf hm] at hP1 hD1
  exact kk _ rfl H1 locs1 ls hl hP1 hD1 ⟨hS1, K.2.2 _⟩
theorem m_iald (F : jfx X cc nL own fr lo mc ms) (K : jkx D (mtys kc) X) (f i : Nat) {j : Int} (hi : ma[i]? = some f) (ht : mty f = .int) (hj : ixR j (ml f)) (d : decode cc pc = .ok (.iaload, 1))
    (kk : jat l D X nL (pc + 1) lv (vi (S.2 f j.toNat) :: st) (mw h ad kc S) k n) : jat l D X nL pc lv (vi j :: .ref (ad f) :: st) (mw h ad kc S) k n := by
  obtain ⟨p, e, R, s, m, args, below, meth, co, Q, A, G⟩ := X
  obtain ⟨⟨hx, hb, hml, hown, hts⟩, hfr, hlo, hmc, hms⟩ := F
  intro H locs ls hl hP hD hS
  refine va_iald hx hb K.1 hP (i + 1) i (mo_as_get hi) (by rw [← ht]; exact mtys_get hi) (ix_in hj (ml_lt f)) d ?_
  rw [ix_cl hj (ml_lt f)]
  exact kk H locs ls hl hP hD hS
theorem m_zald (F : jfx X cc nL own fr lo mc ms) (K : jkx D (mtys kc) X) (f i : Nat) {j : Int} (hi : ma[i]? = some f) (ht : mty f = .boolean) (hj : ixR j (ml f)) (d : decode cc pc = .ok (.baload, 1))
    (kk : jat l D X nL (pc + 1) lv (vi (S.2 f j.toNat) :: st) (mw h ad kc S) k n) : jat l D X nL pc lv (vi j :: .ref (ad f) :: st) (mw h ad kc S) k n := by
  obtain ⟨p, e, R, s, m, args, below, meth, co, Q, A, G⟩ := X
  obtain ⟨⟨hx, hb, hml, hown, hts⟩, hfr, hlo, hmc, hms⟩ := F
  intro H locs ls hl hP hD hS
  refine va_zald hx hb K.1 hP (i + 1) i (mo_as_get hi) (by rw [← ht]; exact mtys_get hi) (ix_in hj (ml_lt f)) d ?_
  rw [ix_cl hj (ml_lt f)]
  exact kk H locs ls hl hP hD hS
theorem m_iast (F : jfx X cc nL own fr lo mc ms) (K : jkx D (mtys kc) X) (f i : Nat) {j v : Int} (hi : ma[i]? = some f) (ht : mty f = .int) (hj : ixR j (ml f)) (d : decode cc pc = .ok (.iastore, 1))
    (kk : ∀ S1, S1 = ms_a S f j v → jat l D X nL (pc + 1) lv st (mw h ad kc S1) k n) : jat l D X nL pc lv (vi v :: vi j :: .ref (ad f) :: st) (mw h ad kc S) k n := by
  obtain ⟨p, e, R, s, m, args, below, meth, co, Q, A, G⟩ := X
  obtain ⟨⟨hx, hb, hml, hown, hts⟩, hfr, hlo, hmc, hms⟩ := F
  intro H locs ls hl hP hD hS
  refine va_iast hx hb K.1 hP hD hS.1 (i + 1) i (mo_as_get hi) (by rw [← ht]; exact mtys_get hi) (ix_in hj (ml_lt f)) d (fun H1 locs1 hP1 hD1 hS1 => ?_)
  rw [ix_cl hj (ml_lt f)] at hP1 hD1
  have e1 : (mw h ad kc S).set (i + 1) (ad f, .inl (kc f, ml f, .inl (upd (fun j => iI (S.2 f j)) j.toNat (iI v)))) = mw h ad kc (ms_a S f j v) := congrArg (List.cons _) (mo_as_set hi)
  rw [e1] at hP1 hD1
  exact kk _ rfl H1 locs1 ls hl hP1 hD1 ⟨hS1, K.2.2 _⟩
theorem m_zast (F : jfx X cc nL own fr lo mc ms) (K : jkx D (mtys kc) X) (f i : Nat) {j v : Int} (hi : ma[i]? = some f) (ht : mty f = .boolean) (hj : ixR j (ml f)) (hz : b01 v) (d : decode cc pc = .ok (.bastore, 1))
    (kk : ∀ S1, S1 = ms_a S f j v → jat l D X nL (pc + 1) lv st (mw h ad kc S1) k n) : jat l D X nL pc lv (vi v :: vi j :: .ref (ad f) :: st) (mw h ad kc S) k n := by
  obtain ⟨p, e, R, s, m, args, below, meth, co, Q, A, G⟩ := X
  obtain ⟨⟨hx, hb, hml, hown, hts⟩, hfr, hlo, hmc, hms⟩ := F
  intro H locs ls hl hP hD hS
  refine va_zast hx hb K.1 hP hD hS.1 (i + 1) i (mo_as_get hi) (by rw [← ht]; exact mtys_get hi) (ix_in hj (ml_lt f)) d (fun H1 locs1 hP1 hD1 hS1 => ?_)
  rw [ix_cl hj (ml_lt f), b01_vp hz] at hP1 hD1
  have e1 : (mw h ad kc S).set (i + 1) (ad f, .inl (kc f, ml f, .inl (upd (fun j => iI (S.2 f j)) j.toNat (iI v)))) = mw h ad kc (ms_a S f j v) := congrArg (List.cons _) (mo_as_set hi)
  rw [e1] at hP1 hD1
  exact kk _ rfl H1 locs1 ls hl hP1 hD1 ⟨hS1, K.2.2 _⟩
end MR
/-! the contracts of its methods -/
def jMi (l : Launch) (D : va_G) (h : Nat) (ad : Nat → Nat) (kc : Nat → ClassId) (y : MethodName) (cc : ByteArray) (maxL : Nat) (ret : Option FieldType) (fr lo : Nat) (S : MS) (av : List Value) (post : Int → MS → Prop) : Prop := ∀ sz : Nat,
  Met l y (Cond.code y cc maxL ret :: tw_G) { frames := fr, cells := 0, slots := 0, locals := lo } (tw_P4 D classes (mw h ad kc S) (mtys kc) sz (.ref h :: av)) (va_Qi (fun (r : Int32) (u : Int × MS) => r = iI u.1 ∧ post u.1 u.2) (fun u => tw_B D.1 D.2 (va_A (mw h ad kc S) sz) (mw h ad kc u.2) (mtys kc)) (va_A (mw h ad kc S) sz)) 0 0 (va_A (mw h ad kc S) sz)
def jMl (l : Launch) (D : va_G) (h : Nat) (ad : Nat → Nat) (kc : Nat → ClassId) (y : MethodName) (cc : ByteArray) (maxL : Nat) (ret : Option FieldType) (fr lo : Nat) (S : MS) (av : List Value) (post : Int → MS → Prop) : Prop := ∀ sz : Nat,
  Met l y (Cond.code y cc maxL ret :: tw_G) { frames := fr, cells := 0, slots := 0, locals := lo } (tw_P4 D classes (mw h ad kc S) (mtys kc) sz (.ref h :: av)) (va_Ql (fun (r : Int64) (u : Int × MS) => r = lI u.1 ∧ post u.1 u.2) (fun u => tw_B D.1 D.2 (va_A (mw h ad kc S) sz) (mw h ad kc u.2) (mtys kc)) (va_A (mw h ad kc S) sz)) 0 0 (va_A (mw h ad kc S) sz)
def jMv (l : Launch) (D : va_G) (h : Nat) (ad : Nat → Nat) (kc : Nat → ClassId) (y : MethodName) (cc : ByteArray) (maxL : Nat) (ret : Option FieldType) (fr lo : Nat) (S : MS) (av : List Value) (post : MS → Prop) : Prop := ∀ sz : Nat,
  Met l y (Cond.code y cc maxL ret :: tw_G) { frames := fr, cells := 0, slots := 0, locals := lo } (tw_P4 D classes (mw h ad kc S) (mtys kc) sz (.ref h :: av)) (va_Qv (fun (u : MS) => post u) (fun u => tw_B D.1 D.2 (va_A (mw h ad kc S) sz) (mw h ad kc u) (mtys kc)) (va_A (mw h ad kc S) sz)) 0 0 (va_A (mw h ad kc S) sz)
section MC1
variable {l : Launch} {D : va_G} {X : jx_C} {nL pc fr lo mc ms k n : Nat} {cc : ByteArray} {own : String} {lv : List (Nat × Value)} {st rest : List Value} {h : Nat} {ad : Nat → Nat} {kc : Nat → ClassId} {S : MS} {y : MethodName} {ret : Option FieldType} {maxL : Nat} {av : List Value} {post : Int → MS → Prop}
theorem j_moi (hy : plainName y.cls = true) (ho : y.cls = own) (hm : (lg_sl (.ref h :: av)).length ≤ maxL)
    (body : ∀ X : jx_C, jfx X cc maxL own fr lo 0 0 → jkx D (mtys kc) X → (∀ (v : Int) (S1 : MS) (pc : Nat) (lv : List (Nat × Value)), post v S1 → decode cc pc = .ok (.ireturn, 1) → jat l D X maxL pc lv [vi v] (mw h ad kc S1) 0 0) → jat l D X maxL 0 (lv_args 0 (.ref h :: av)) [] (mw h ad kc S) 0 0) : jMi l D h ad kc y cc maxL (some .int) fr lo S av post := by
  intro sz
  refine Met.ofW (cc := cc) (maxL := maxL) (ret := (some .int)) hy rfl ?_
  intro p e s m args below meth c s₁ B hml hv
  obtain ⟨rfl, hsz, hP, hK, hD0⟩ := hv
  have hx := B.exec
  have hb := B.bytes
  have hr := B.returns
  have hts : ∀ w ∈ tw_G, w.before _ s = true := fun w h => atoms_spec (ws := Cond.code y cc maxL (some .int) :: tw_G) B.pre w (List.mem_cons_of_mem _ h)
  have hown : s.vm.findClass own = some m.cls := by rw [← ho]; exact findClass_of_methodNamed B.named
  have hlocks := B.notSynchronized
  subst hsz
  have hD := hD0.self (sz := s.heap.size)
  have hl := lv_entry (.ref h :: av) (n := maxL) hm
  rw [lg_entry_eq]
  refine body (p, e, _, s, m, _, below, meth, c, _, va_A (mw h ad kc S) s.heap.size, (fun _ => True)) ⟨⟨hx, hb, hml, hown, hts⟩, Nat.le_refl _, Nat.le_refl _, rfl, rfl⟩ ⟨hK, fun q h => Or.inr h, fun _ => trivial⟩ ?_ s.heap [] _ hl hP hD ⟨va_S.rf, trivial⟩
  intro v S1 pc lv hp d H locs ls hl hP hD hS
  exact W.iret hx hb hr (fun t ht hW => ⟨⟨iI v, (v, S1), rfl, ⟨rfl, hp⟩, by rw [ht]; exact hP, va_K.moved hW.alike hK, hD⟩, hS.1.F ht⟩) hS.1.2.2 d
theorem j_moz (hy : plainName y.cls = true) (ho : y.cls = own) (hm : (lg_sl (.ref h :: av)).length ≤ maxL)
    (body : ∀ X : jx_C, jfx X cc maxL own fr lo 0 0 → jkx D (mtys kc) X → (∀ (v : Int) (S1 : MS) (pc : Nat) (lv : List (Nat × Value)), post v S1 → b01 v → decode cc pc = .ok (.ireturn, 1) → jat l D X maxL pc lv [vi v] (mw h ad kc S1) 0 0) → jat l D X maxL 0 (lv_args 0 (.ref h :: av)) [] (mw h ad kc S) 0 0) : jMi l D h ad kc y cc maxL (some .boolean) fr lo S av post := by
  intro sz
  refine Met.ofW (cc := cc) (maxL := maxL) (ret := (some .boolean)) hy rfl ?_
  intro p e s m args below meth c s₁ B hml hv
  obtain ⟨rfl, hsz, hP, hK, hD0⟩ := hv
  have hx := B.exec
  have hb := B.bytes
  have hr := B.returns
  have hts : ∀ w ∈ tw_G, w.before _ s = true := fun w h => atoms_spec (ws := Cond.code y cc maxL (some .boolean) :: tw_G) B.pre w (List.mem_cons_of_mem _ h)
  have hown : s.vm.findClass own = some m.cls := by rw [← ho]; exact findClass_of_methodNamed B.named
  have hlocks := B.notSynchronized
  subst hsz
  have hD := hD0.self (sz := s.heap.size)
  have hl := lv_entry (.ref h :: av) (n := maxL) hm
  rw [lg_entry_eq]
  refine body (p, e, _, s, m, _, below, meth, c, _, va_A (mw h ad kc S) s.heap.size, (fun _ => True)) ⟨⟨hx, hb, hml, hown, hts⟩, Nat.le_refl _, Nat.le_refl _, rfl, rfl⟩ ⟨hK, fun q h => Or.inr h, fun _ => trivial⟩ ?_ s.heap [] _ hl hP hD ⟨va_S.rf, trivial⟩
  intro v S1 pc lv hp hz d H locs ls hl hP hD hS
  exact W.zret (ty := .boolean) hx hb hr (b01_nar hz) (fun t ht hW => ⟨⟨iI v, (v, S1), rfl, ⟨rfl, hp⟩, by rw [ht]; exact hP, va_K.moved hW.alike hK, hD⟩, hS.1.F ht⟩) hS.1.2.2 d
theorem j_mol (hy : plainName y.cls = true) (ho : y.cls = own) (hm : (lg_sl (.ref h :: av)).length ≤ maxL)
    (body : ∀ X : jx_C, jfx X cc maxL own fr lo 0 0 → jkx D (mtys kc) X → (∀ (v : Int) (S1 : MS) (pc : Nat) (lv : List (Nat × Value)), post v S1 → decode cc pc = .ok (.lreturn, 1) → jat l D X maxL pc lv [vl v] (mw h ad kc S1) 0 0) → jat l D X maxL 0 (lv_args 0 (.ref h :: av)) [] (mw h ad kc S) 0 0) : jMl l D h ad kc y cc maxL (some .long) fr lo S av post := by
  intro sz
  refine Met.ofW (cc := cc) (maxL := maxL) (ret := (some .long)) hy rfl ?_
  intro p e s m args below meth c s₁ B hml hv
  obtain ⟨rfl, hsz, hP, hK, hD0⟩ := hv
  have hx := B.exec
  have hb := B.bytes
  have hr := B.returns
  have hts : ∀ w ∈ tw_G, w.before _ s = true := fun w h => atoms_spec (ws := Cond.code y cc maxL (some .long) :: tw_G) B.pre w (List.mem_cons_of_mem _ h)
  have hown : s.vm.findClass own = some m.cls := by rw [← ho]; exact findClass_of_methodNamed B.named
  have hlocks := B.notSynchronized
  subst hsz
  have hD := hD0.self (sz := s.heap.size)
  have hl := lv_entry (.ref h :: av) (n := maxL) hm
  rw [lg_entry_eq]
  refine body (p, e, _, s, m, _, below, meth, c, _, va_A (mw h ad kc S) s.heap.size, (fun _ => True)) ⟨⟨hx, hb, hml, hown, hts⟩, Nat.le_refl _, Nat.le_refl _, rfl, rfl⟩ ⟨hK, fun q h => Or.inr h, fun _ => trivial⟩ ?_ s.heap [] _ hl hP hD ⟨va_S.rf, trivial⟩
  intro v S1 pc lv hp d H locs ls hl hP hD hS
  exact W.lret hx hb hr (fun t ht hW => ⟨⟨lI v, (v, S1), rfl, ⟨rfl, hp⟩, by rw [ht]; exact hP, va_K.moved hW.alike hK, hD⟩, hS.1.F ht⟩) hS.1.2.2 d
theorem m_calli {cy : ByteArray} {fr' lo' N idx : Nat} (F : jfx X cc nL own fr lo mc ms) (K : jkx D (mtys kc) X) (M : jMi l D h ad kc y cy maxL ret fr' lo' S av post) (g : GoodIn tw_G (wsV own idx "LandBookModel" y (Cond.code y cy maxL ret :: tw_G)))
    (hd : y.cls = "LandBookModel" ∧ y.cls ≠ "java/lang/invoke/MethodHandle" ∧ y.cls ≠ "java/lang/invoke/VarHandle" ∧ (parseMethodDescriptor y.desc).map (fun d => d.parameters.length) = some N) (hn : av.length = N) (hR : fr' + 1 ≤ fr ∧ 8 + (maxL + 11) + lo' ≤ lo) (hc : k ≤ mc ∧ n ≤ ms)
    (hst : st = av.reverse ++ .ref h :: rest) (hW : (rest.map fun v => v.category).sum ≤ 8) (d : decode cc pc = .ok (.invokevirtual idx, 3)) (kk : ∀ (v : Int) (S1 : MS), post v S1 → jat l D X nL (pc + 3) lv (vi v :: rest) (mw h ad kc S1) k n) : jat l D X nL pc lv st (mw h ad kc S) k n := by
  obtain ⟨p, e, R, s, m, args, below, meth, co, Q, A, G⟩ := X
  obtain ⟨⟨hx, hb, hml, hown, hts⟩, hfr, hlo, hmc, hms⟩ := F
  intro H locs ls hl hP hD hS
  have hF : ∀ q, va_A (mw h ad kc S) H.size q → A q := by
    intro q hq
    rcases hq with ⟨i, e, hi⟩ | hq
    · exact hD.2 i (q, e) hi
    · exact K.2.1 q (Nat.le_trans hS.1.1 hq)
  refine va_calli (va_runV (As := av) (rest := rest) ⟨hx, hb, hml, hown, hts⟩ (M H.size) (cwV N hts g rfl rfl rfl hd ⟨Nat.le_trans hR.1 hfr, Nat.le_trans hR.2 hlo⟩) (tw_v4 (va_recv (q0 := 0) (ci := 7) (q := ("LandBookModel", F_LandBookModel, 42)) K.1 hP rfl rfl) hP K.1 hD) rfl hn hl.1 hst (lv_room hW) d ⟨by rw [hmc]; exact hc.1, by rw [hms]; exact hc.2⟩) hS.1 (fun q _ h => hF q h) hF ?_
  rintro r ⟨v, S1⟩ t H1 locs1 ht hvm hp hB hz1 hk1 hS1
  obtain ⟨hP1, hK1, hD1⟩ := hB
  rw [ht] at hP1
  obtain ⟨rfl, hp⟩ := hp
  exact kk v S1 hp H1 locs1 ls hl hP1 (hD1.weaken (fun _ _ _ h => hF _ h)) ⟨hS1, K.2.2 _⟩
theorem m_calll {cy : ByteArray} {fr' lo' N idx : Nat} (F : jfx X cc nL own fr lo mc ms) (K : jkx D (mtys kc) X) (M : jMl l D h ad kc y cy maxL ret fr' lo' S av post) (g : GoodIn tw_G (wsV own idx "LandBookModel" y (Cond.code y cy maxL ret :: tw_G)))
    (hd : y.cls = "LandBookModel" ∧ y.cls ≠ "java/lang/invoke/MethodHandle" ∧ y.cls ≠ "java/lang/invoke/VarHandle" ∧ (parseMethodDescriptor y.desc).map (fun d => d.parameters.length) = some N) (hn : av.length = N) (hR : fr' + 1 ≤ fr ∧ 8 + (maxL + 11) + lo' ≤ lo) (hc : k ≤ mc ∧ n ≤ ms)
    (hst : st = av.reverse ++ .ref h :: rest) (hW : (rest.map fun v => v.category).sum ≤ 8) (d : decode cc pc = .ok (.invokevirtual idx, 3)) (kk : ∀ (v : Int) (S1 : MS), post v S1 → jat l D X nL (pc + 3) lv (vl v :: rest) (mw h ad kc S1) k n) : jat l D X nL pc lv st (mw h ad kc S) k n := by
  obtain ⟨p, e, R, s, m, args, below, meth, co, Q, A, G⟩ := X
  obtain ⟨⟨hx, hb, hml, hown, hts⟩, hfr, hlo, hmc, hms⟩ := F
  intro H locs ls hl hP hD hS
  have hF : ∀ q, va_A (mw h ad kc S) H.size q → A q := by
    intro q hq
    rcases hq with ⟨i, e, hi⟩ | hq
    · exact hD.2 i (q, e) hi
    · exact K.2.1 q (Nat.le_trans hS.1.1 hq)
  refine va_calll (va_runV (As := av) (rest := rest) ⟨hx, hb, hml, hown, hts⟩ (M H.size) (cwV N hts g rfl rfl rfl hd ⟨Nat.le_trans hR.1 hfr, Nat.le_trans hR.2 hlo⟩) (tw_v4 (va_recv (q0 := 0) (ci := 7) (q := ("LandBookModel", F_LandBookModel, 42)) K.1 hP rfl rfl) hP K.1 hD) rfl hn hl.1 hst (lv_room hW) d ⟨by rw [hmc]; exact hc.1, by rw [hms]; exact hc.2⟩) hS.1 (fun q _ h => hF q h) hF ?_
  rintro r ⟨v, S1⟩ t H1 locs1 ht hvm hp hB hz1 hk1 hS1
  obtain ⟨hP1, hK1, hD1⟩ := hB
  rw [ht] at hP1
  obtain ⟨rfl, hp⟩ := hp
  exact kk v S1 hp H1 locs1 ls hl hP1 (hD1.weaken (fun _ _ _ h => hF _ h)) ⟨hS1, K.2.2 _⟩
end MC1
section MC2
variable {l : Launch} {D : va_G} {X : jx_C} {nL pc fr lo mc ms k n : Nat} {cc : ByteArray} {own : String} {lv : List (Nat × Value)} {st rest : List Value} {h : Nat} {ad : Nat → Nat} {kc : Nat → ClassId} {S : MS} {y : MethodName} {ret : Option FieldType} {maxL : Nat} {av : List Value} {post : MS → Prop}
theorem j_mov (hy : plainName y.cls = true) (ho : y.cls = own) (hm : (lg_sl (.ref h :: av)).length ≤ maxL)
    (body : ∀ X : jx_C, jfx X cc maxL own fr lo 0 0 → jkx D (mtys kc) X → (∀ (S1 : MS) (pc : Nat) (lv : List (Nat × Value)), post S1 → decode cc pc = .ok (.return_, 1) → jat l D X maxL pc lv [] (mw h ad kc S1) 0 0) → jat l D X maxL 0 (lv_args 0 (.ref h :: av)) [] (mw h ad kc S) 0 0) : jMv l D h ad kc y cc maxL none fr lo S av post := by
  intro sz
  refine Met.ofW (cc := cc) (maxL := maxL) (ret := none) hy rfl ?_
  intro p e s m args below meth c s₁ B hml hv
  obtain ⟨rfl, hsz, hP, hK, hD0⟩ := hv
  have hx := B.exec
  have hb := B.bytes
  have hr := B.returns
  have hts : ∀ w ∈ tw_G, w.before _ s = true := fun w h => atoms_spec (ws := Cond.code y cc maxL none :: tw_G) B.pre w (List.mem_cons_of_mem _ h)
  have hown : s.vm.findClass own = some m.cls := by rw [← ho]; exact findClass_of_methodNamed B.named
  have hlocks := B.notSynchronized
  subst hsz
  have hD := hD0.self (sz := s.heap.size)
  have hl := lv_entry (.ref h :: av) (n := maxL) hm
  rw [lg_entry_eq]
  refine body (p, e, _, s, m, _, below, meth, c, _, va_A (mw h ad kc S) s.heap.size, (fun _ => True)) ⟨⟨hx, hb, hml, hown, hts⟩, Nat.le_refl _, Nat.le_refl _, rfl, rfl⟩ ⟨hK, fun q h => Or.inr h, fun _ => trivial⟩ ?_ s.heap [] _ hl hP hD ⟨va_S.rf, trivial⟩
  intro S1 pc lv hp d H locs ls hl hP hD hS
  exact W.vret hx hb hr (fun t ht hW => ⟨⟨S1, rfl, hp, by rw [ht]; exact hP, va_K.moved hW.alike hK, hD⟩, hS.1.F ht⟩) hS.1.2.2 d
theorem m_callv {cy : ByteArray} {fr' lo' N idx : Nat} (F : jfx X cc nL own fr lo mc ms) (K : jkx D (mtys kc) X) (M : jMv l D h ad kc y cy maxL ret fr' lo' S av post) (g : GoodIn tw_G (wsV own idx "LandBookModel" y (Cond.code y cy maxL ret :: tw_G)))
    (hd : y.cls = "LandBookModel" ∧ y.cls ≠ "java/lang/invoke/MethodHandle" ∧ y.cls ≠ "java/lang/invoke/VarHandle" ∧ (parseMethodDescriptor y.desc).map (fun d => d.parameters.length) = some N) (hn : av.length = N) (hR : fr' + 1 ≤ fr ∧ 8 + (maxL + 11) + lo' ≤ lo) (hc : k ≤ mc ∧ n ≤ ms)
    (hst : st = av.reverse ++ .ref h :: rest) (hW : (rest.map fun v => v.category).sum ≤ 8) (d : decode cc pc = .ok (.invokevirtual idx, 3)) (kk : ∀ (S1 : MS), post S1 → jat l D X nL (pc + 3) lv (rest) (mw h ad kc S1) k n) : jat l D X nL pc lv st (mw h ad kc S) k n := by
  obtain ⟨p, e, R, s, m, args, below, meth, co, Q, A, G⟩ := X
  obtain ⟨⟨hx, hb, hml, hown, hts⟩, hfr, hlo, hmc, hms⟩ := F
  intro H locs ls hl hP hD hS
  have hF : ∀ q, va_A (mw h ad kc S) H.size q → A q := by
    intro q hq
    rcases hq with ⟨i, e, hi⟩ | hq
    · exact hD.2 i (q, e) hi
    · exact K.2.1 q (Nat.le_trans hS.1.1 hq)
  refine va_callv (va_runV (As := av) (rest := rest) ⟨hx, hb, hml, hown, hts⟩ (M H.size) (cwV N hts g rfl rfl rfl hd ⟨Nat.le_trans hR.1 hfr, Nat.le_trans hR.2 hlo⟩) (tw_v4 (va_recv (q0 := 0) (ci := 7) (q := ("LandBookModel", F_LandBookModel, 42)) K.1 hP rfl rfl) hP K.1 hD) rfl hn hl.1 hst (lv_room hW) d ⟨by rw [hmc]; exact hc.1, by rw [hms]; exact hc.2⟩) hS.1 (fun q _ h => hF q h) hF ?_
  rintro S1 t H1 locs1 ht hvm hp hB hz1 hk1 hS1
  obtain ⟨hP1, hK1, hD1⟩ := hB
  rw [ht] at hP1
  skip
  exact kk S1 hp H1 locs1 ls hl hP1 (hD1.weaken (fun _ _ _ h => hF _ h)) ⟨hS1, K.2.2 _⟩
end MC2
