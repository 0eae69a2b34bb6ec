section CR1
variable {l : Launch} {D : va_G} {X : jx_C} {nL pc fr lo mc ms c n : Nat} {cc : ByteArray} {own : String} {lv : List (Nat × Value)} {st rest : List Value} {k : CK} {T : CS} {a : Nat}
theorem c_same {s : State} {args : Array Value} {ref dc nm ds : String} (hts : ∀ w ∈ tw_G, w.before args s = true) (hs : dc = ref ∨ Cond.sameField ref dc nm ds ∈ tw_G) : ∀ x, s.fieldFound? dc nm ds = some x → s.fieldFound? ref nm ds = some x := by
  intro x hx
  rcases hs with rfl | hs
  · exact hx
  · exact u_same (hts _ hs) x hx
theorem c_geti (F : jfx X cc nL own fr lo mc ms) (K : jkc k D X) (hT : cs_ok k T) (t j : Nat) {C ref : String} {Tb : u_T} {N ix : Nat} (hc : classes[ct_ci t]? = some (C, Tb, N)) (hin : ∀ w ∈ u_ws C Tb N, w ∈ tw_G) (ht : 0 < t ∧ t ≤ 10) (hj : j < N ∧ j < ct_n t) (hi : ct_int t j = true) (hk : Cond.fieldLink own ix ref (Tb j).2.1 (Tb j).2.2.1 ∈ tw_G) (hs : (Tb j).1 = ref ∨ Cond.sameField ref (Tb j).1 (Tb j).2.1 (Tb j).2.2.1 ∈ tw_G) (hg : tg T a = t) (d : decode cc pc = .ok (.getfield ix, 3)) (kk : jat l D X nL (pc + 3) lv (vi (fi T a j) :: st) (cwd k T) c n) : jat l D X nL pc lv (.ref a :: st) (cwd k T) c n := by
  obtain ⟨p, e, R, s, m, args, below, meth, co, Q, A, G⟩ := X
  obtain ⟨⟨hx, hb, hml, hown, hts⟩, hfr, hlo, hmc, hms⟩ := F
  intro H locs ls hl hP hD hS
  obtain ⟨q, hq⟩ := cw_get hT hg (by omega) (by omega)
  rw [ct_E_obj hg ht.2] at hq
  exact va_get hx hb hts hin hown K.1 hP q hq hc j hj.1 (hts _ hk) (c_same hts hs) (ct_fs_i hg hj.2 hi) d (kk H locs ls hl hP hD hS)
theorem c_getr (F : jfx X cc nL own fr lo mc ms) (K : jkc k D X) (hT : cs_ok k T) (t j : Nat) {C ref : String} {Tb : u_T} {N ix : Nat} (hc : classes[ct_ci t]? = some (C, Tb, N)) (hin : ∀ w ∈ u_ws C Tb N, w ∈ tw_G) (ht : 0 < t ∧ t ≤ 10) (hj : j < N ∧ j < ct_n t) (hi : ct_int t j = false) (hk : Cond.fieldLink own ix ref (Tb j).2.1 (Tb j).2.2.1 ∈ tw_G) (hs : (Tb j).1 = ref ∨ Cond.sameField ref (Tb j).1 (Tb j).2.1 (Tb j).2.2.1 ∈ tw_G) (hg : tg T a = t) {b : Nat} (hv : fo T a j = some b) (d : decode cc pc = .ok (.getfield ix, 3)) (kk : jat l D X nL (pc + 3) lv (.ref b :: st) (cwd k T) c n) : jat l D X nL pc lv (.ref a :: st) (cwd k T) c n := by
  obtain ⟨p, e, R, s, m, args, below, meth, co, Q, A, G⟩ := X
  obtain ⟨⟨hx, hb, hml, hown, hts⟩, hfr, hlo, hmc, hms⟩ := F
  intro H locs ls hl hP hD hS
  obtain ⟨q, hq⟩ := cw_get hT hg (by omega) (by omega)
  rw [ct_E_obj hg ht.2] at hq
  exact va_get hx hb hts hin hown K.1 hP q hq hc j hj.1 (hts _ hk) (c_same hts hs) ((ct_fs_r hg hj.2 hi).trans (by rw [hv]; rfl)) d (kk H locs ls hl hP hD hS)
theorem c_puti (F : jfx X cc nL own fr lo mc ms) (K : jkc k D X) (hT : cs_ok k T) (t j : Nat) {C ref : String} {Tb : u_T} {N ix : Nat} (hc : classes[ct_ci t]? = some (C, Tb, N)) (hin : ∀ w ∈ u_ws C Tb N, w ∈ tw_G) (ht : 0 < t ∧ t ≤ 10) (hj : j < N ∧ j < ct_n t) (hi : ct_int t j = true) (hk : Cond.fieldLink own ix ref (Tb j).2.1 (Tb j).2.2.1 ∈ tw_G) (hs : (Tb j).1 = ref ∨ Cond.sameField ref (Tb j).1 (Tb j).2.1 (Tb j).2.2.1 ∈ tw_G) (ty0 : Nat → FieldType) (hty : ∀ k, k < N → parseFieldDescriptor (Tb k).2.2.1 = some (ty0 k)) (hnm : ∀ a, a < N → ∀ b, b < N → a ≠ b → (Tb a).2.1 ≠ (Tb b).2.1) (hfin : (Tb j).2.2.2 = false) {ty : FieldType} {v : Int} (hd : parseFieldDescriptor (Tb j).2.2.1 = some ty) (hn : narrow ty (vi v) = vi v) (hfit : fits ty (vi v) = true) (hg : tg T a = t) (d : decode cc pc = .ok (.putfield ix, 3)) (kk : ∀ T1, T1 = cs_i T a j v → cs_ok k T1 → jat l D X nL (pc + 3) lv st (cwd k T1) c n) : jat l D X nL pc lv (vi v :: .ref a :: st) (cwd k T) c n := by
  obtain ⟨p, e, R, s, m, args, below, meth, co, Q, A, G⟩ := X
  obtain ⟨⟨hx, hb, hml, hown, hts⟩, hfr, hlo, hmc, hms⟩ := F
  intro H locs ls hl hP hD hS
  obtain ⟨q, hq⟩ := cw_get hT hg (by omega) (by omega)
  have hq0 := hq
  rw [ct_E_obj hg ht.2] at hq
  refine va_put hx hb hts hin ty0 hty hnm hown K.1 hP hD hS.1 q hq hc j hj.1 (hts _ hk) (c_same hts hs) hfin hd hn hfit (by rw [ct_fs_len hg]; exact hj.2) d (fun H1 locs1 hP1 hD1 hS1 => ?_)
  have e1 : (cwd k T).set q (a, .inr (ct_ci t, (ct_fs T a).set j (vi v))) = cwd k (cs_i T a j v) := by
    refine cw_set hD hq0 rfl ?_ ?_
    · rw [ct_E_obj (T := cs_i T a j v) (t := t) hg ht.2]; congr 2; exact (ct_fs_seti hg hj.2 hi).symm
    · intro b hb
      exact ct_E_ext rfl rfl (fun i => by simp [fi, cs_i, cs_o, hb]) (fun i => by simp [fo, cs_i, cs_o, hb])
  rw [e1] at hP1 hD1
  exact kk _ rfl hT H1 locs1 ls hl hP1 hD1 ⟨hS1, K.2.2.1 _⟩
theorem c_putr (F : jfx X cc nL own fr lo mc ms) (K : jkc k D X) (hT : cs_ok k T) (t j : Nat) {C ref : String} {Tb : u_T} {N ix : Nat} (hc : classes[ct_ci t]? = some (C, Tb, N)) (hin : ∀ w ∈ u_ws C Tb N, w ∈ tw_G) (ht : 0 < t ∧ t ≤ 10) (hj : j < N ∧ j < ct_n t) (hi : ct_int t j = false) (hk : Cond.fieldLink own ix ref (Tb j).2.1 (Tb j).2.2.1 ∈ tw_G) (hs : (Tb j).1 = ref ∨ Cond.sameField ref (Tb j).1 (Tb j).2.1 (Tb j).2.2.1 ∈ tw_G) (ty0 : Nat → FieldType) (hty : ∀ k, k < N → parseFieldDescriptor (Tb k).2.2.1 = some (ty0 k)) (hnm : ∀ a, a < N → ∀ b, b < N → a ≠ b → (Tb a).2.1 ≠ (Tb b).2.1) (hfin : (Tb j).2.2.2 = false) {ty : FieldType} {v : Nat} (hd : parseFieldDescriptor (Tb j).2.2.1 = some ty) (hn : narrow ty (.ref v) = .ref v) (hfit : fits ty (.ref v) = true) (hg : tg T a = t) (d : decode cc pc = .ok (.putfield ix, 3)) (kk : ∀ T1, T1 = cs_o T a j (some v) → cs_ok k T1 → jat l D X nL (pc + 3) lv st (cwd k T1) c n) : jat l D X nL pc lv (.ref v :: .ref a :: st) (cwd k T) c n := by
  obtain ⟨p, e, R, s, m, args, below, meth, co, Q, A, G⟩ := X
  obtain ⟨⟨hx, hb, hml, hown, hts⟩, hfr, hlo, hmc, hms⟩ := F
  intro H locs ls hl hP hD hS
  obtain ⟨q, hq⟩ := cw_get hT hg (by omega) (by omega)
  have hq0 := hq
  rw [ct_E_obj hg ht.2] at hq
  refine va_put hx hb hts hin ty0 hty hnm hown K.1 hP hD hS.1 q hq hc j hj.1 (hts _ hk) (c_same hts hs) hfin hd hn hfit (by rw [ct_fs_len hg]; exact hj.2) d (fun H1 locs1 hP1 hD1 hS1 => ?_)
  have e1 : (cwd k T).set q (a, .inr (ct_ci t, (ct_fs T a).set j (.ref v))) = cwd k (cs_o T a j (some v)) := by
    refine cw_set hD hq0 rfl ?_ ?_
    · rw [ct_E_obj (T := cs_o T a j (some v)) (t := t) hg ht.2]; congr 2; exact (ct_fs_setr (o := some v) hg hj.2 hi).symm
    · intro b hb
      exact ct_E_ext rfl rfl (fun i => by simp [fi, cs_i, cs_o, hb]) (fun i => by simp [fo, cs_i, cs_o, hb])
  rw [e1] at hP1 hD1
  exact kk _ rfl hT H1 locs1 ls hl hP1 hD1 ⟨hS1, K.2.2.1 _⟩
theorem c_putiF (F : jfx X cc nL own fr lo mc ms) (K : jkc k D X) (hT : cs_ok k T) (I : jin X) (t j : Nat) {C ref : String} {Tb : u_T} {N ix : Nat} (hc : classes[ct_ci t]? = some (C, Tb, N)) (hin : ∀ w ∈ u_ws C Tb N, w ∈ tw_G) (ht : 0 < t ∧ t ≤ 10) (hj : j < N ∧ j < ct_n t) (hi : ct_int t j = true) (hk : Cond.fieldLink own ix ref (Tb j).2.1 (Tb j).2.2.1 ∈ tw_G) (hs : (Tb j).1 = ref ∨ Cond.sameField ref (Tb j).1 (Tb j).2.1 (Tb j).2.2.1 ∈ tw_G) (ty0 : Nat → FieldType) (hty : ∀ k, k < N → parseFieldDescriptor (Tb k).2.2.1 = some (ty0 k)) (hnm : ∀ a, a < N → ∀ b, b < N → a ≠ b → (Tb a).2.1 ≠ (Tb b).2.1) (hfin : (Tb j).2.2.2 = true) (hdc : (Tb j).1 = own) {ty : FieldType} {v : Int} (hd : parseFieldDescriptor (Tb j).2.2.1 = some ty) (hn : narrow ty (vi v) = vi v) (hfit : fits ty (vi v) = true) (hg : tg T a = t) (d : decode cc pc = .ok (.putfield ix, 3)) (kk : ∀ T1, T1 = cs_i T a j v → cs_ok k T1 → jat l D X nL (pc + 3) lv st (cwd k T1) c n) : jat l D X nL pc lv (vi v :: .ref a :: st) (cwd k T) c n := by
  obtain ⟨p, e, R, s, m, args, below, meth, co, Q, A, G⟩ := X
  obtain ⟨⟨hx, hb, hml, hown, hts⟩, hfr, hlo, hmc, hms⟩ := F
  intro H locs ls hl hP hD hS
  obtain ⟨q, hq⟩ := cw_get hT hg (by omega) (by omega)
  have hq0 := hq
  rw [ct_E_obj hg ht.2] at hq
  refine va_putF hx hb hts hin ty0 hty hnm hown K.1 hP hD hS.1 q hq hc j hj.1 (hts _ hk) (c_same hts hs) hfin I hdc hd hn hfit (by rw [ct_fs_len hg]; exact hj.2) d (fun H1 locs1 hP1 hD1 hS1 => ?_)
  have e1 : (cwd k T).set q (a, .inr (ct_ci t, (ct_fs T a).set j (vi v))) = cwd k (cs_i T a j v) := by
    refine cw_set hD hq0 rfl ?_ ?_
    · rw [ct_E_obj (T := cs_i T a j v) (t := t) hg ht.2]; congr 2; exact (ct_fs_seti hg hj.2 hi).symm
    · intro b hb
      exact ct_E_ext rfl rfl (fun i => by simp [fi, cs_i, cs_o, hb]) (fun i => by simp [fo, cs_i, cs_o, hb])
  rw [e1] at hP1 hD1
  exact kk _ rfl hT H1 locs1 ls hl hP1 hD1 ⟨hS1, K.2.2.1 _⟩
theorem c_putrF (F : jfx X cc nL own fr lo mc ms) (K : jkc k D X) (hT : cs_ok k T) (I : jin X) (t j : Nat) {C ref : String} {Tb : u_T} {N ix : Nat} (hc : classes[ct_ci t]? = some (C, Tb, N)) (hin : ∀ w ∈ u_ws C Tb N, w ∈ tw_G) (ht : 0 < t ∧ t ≤ 10) (hj : j < N ∧ j < ct_n t) (hi : ct_int t j = false) (hk : Cond.fieldLink own ix ref (Tb j).2.1 (Tb j).2.2.1 ∈ tw_G) (hs : (Tb j).1 = ref ∨ Cond.sameField ref (Tb j).1 (Tb j).2.1 (Tb j).2.2.1 ∈ tw_G) (ty0 : Nat → FieldType) (hty : ∀ k, k < N → parseFieldDescriptor (Tb k).2.2.1 = some (ty0 k)) (hnm : ∀ a, a < N → ∀ b, b < N → a ≠ b → (Tb a).2.1 ≠ (Tb b).2.1) (hfin : (Tb j).2.2.2 = true) (hdc : (Tb j).1 = own) {ty : FieldType} {v : Nat} (hd : parseFieldDescriptor (Tb j).2.2.1 = some ty) (hn : narrow ty (.ref v) = .ref v) (hfit : fits ty (.ref v) = true) (hg : tg T a = t) (d : decode cc pc = .ok (.putfield ix, 3)) (kk : ∀ T1, T1 = cs_o T a j (some v) → cs_ok k T1 → jat l D X nL (pc + 3) lv st (cwd k T1) c n) : jat l D X nL pc lv (.ref v :: .ref a :: st) (cwd k T) c n := by
  obtain ⟨p, e, R, s, m, args, below, meth, co, Q, A, G⟩ := X
  obtain ⟨⟨hx, hb, hml, hown, hts⟩, hfr, hlo, hmc, hms⟩ := F
  intro H locs ls hl hP hD hS
  obtain ⟨q, hq⟩ := cw_get hT hg (by omega) (by omega)
  have hq0 := hq
  rw [ct_E_obj hg ht.2] at hq
  refine va_putF hx hb hts hin ty0 hty hnm hown K.1 hP hD hS.1 q hq hc j hj.1 (hts _ hk) (c_same hts hs) hfin I hdc hd hn hfit (by rw [ct_fs_len hg]; exact hj.2) d (fun H1 locs1 hP1 hD1 hS1 => ?_)
  have e1 : (cwd k T).set q (a, .inr (ct_ci t, (ct_fs T a).set j (.ref v))) = cwd k (cs_o T a j (some v)) := by
    refine cw_set hD hq0 rfl ?_ ?_
    · rw [ct_E_obj (T := cs_o T a j (some v)) (t := t) hg ht.2]; congr 2; exact (ct_fs_setr (o := some v) hg hj.2 hi).symm
    · intro b hb
      exact ct_E_ext rfl rfl (fun i => by simp [fi, cs_i, cs_o, hb]) (fun i => by simp [fo, cs_i, cs_o, hb])
  rw [e1] at hP1 hD1
  exact kk _ rfl hT H1 locs1 ls hl hP1 hD1 ⟨hS1, K.2.2.1 _⟩
theorem ct_len {k : CK} {T : CS} (hT : cs_ok k T) (a : Nat) : ln T a < 2147483648 := by have := hT.2.2.1 a; omega
theorem ct_E_a {k : CK} {T : CS} {a : Nat} (t : Nat) (h : tg T a = t) (h1 : 11 ≤ t) : ct_E k T a = (if t = 11 then .inl (k.1, ln T a, .inl (fun j => iI (fi T a j))) else if t = 12 then .inl (k.2.1, ln T a, .inl (fun j => iI (fi T a j))) else if t = 13 then .inl (k.2.2.1, ln T a, .inr (.inr (.inr (.inr (fo T a))))) else .inl (k.2.2.2.1, ln T a, .inr (.inr (.inr (.inr (fo T a)))))) := by
  subst h
  unfold ct_E
  rw [if_neg (by omega)]
theorem c_iald (F : jfx X cc nL own fr lo mc ms) (K : jkc k D X) (hT : cs_ok k T) {j : Int} (hg : tg T a = 11) (hj : ixR j (ln T a)) (d : decode cc pc = .ok (.iaload, 1)) (kk : jat l D X nL (pc + 1) lv (vi (fi T a j.toNat) :: st) (cwd k T) c n) : jat l D X nL pc lv (vi j :: .ref a :: st) (cwd k T) c n := by
  obtain ⟨p, e, R, s, m, args, below, meth, co, Q, A, G⟩ := X
  obtain ⟨⟨hx, hb, hml, hown, hts⟩, hfr, hlo, hmc, hms⟩ := F
  intro H locs ls hl hP hD hS
  obtain ⟨q, hq⟩ := cw_get hT hg (by omega) (by omega)
  rw [ct_E_a 11 hg (by omega)] at hq
  refine va_iald hx hb K.1 hP q 0 hq rfl (ix_in hj (ct_len hT a)) d ?_
  rw [ix_cl hj (ct_len hT a)]
  exact kk H locs ls hl hP hD hS
theorem c_iast (F : jfx X cc nL own fr lo mc ms) (K : jkc k D X) (hT : cs_ok k T) {j v : Int} (hg : tg T a = 11) (hj : ixR j (ln T a)) (d : decode cc pc = .ok (.iastore, 1)) (kk : ∀ T1, T1 = cs_i T a j.toNat v → cs_ok k T1 → jat l D X nL (pc + 1) lv st (cwd k T1) c n) : jat l D X nL pc lv (vi v :: vi j :: .ref a :: st) (cwd k T) c n := by
  obtain ⟨p, e, R, s, m, args, below, meth, co, Q, A, G⟩ := X
  obtain ⟨⟨hx, hb, hml, hown, hts⟩, hfr, hlo, hmc, hms⟩ := F
  intro H locs ls hl hP hD hS
  obtain ⟨q, hq⟩ := cw_get hT hg (by omega) (by omega)
  have hq0 := hq
  rw [ct_E_a 11 hg (by omega)] at hq
  refine va_iast hx hb K.1 hP hD hS.1 q 0 hq rfl (ix_in hj (ct_len hT a)) d (fun H1 locs1 hP1 hD1 hS1 => ?_)
  rw [ix_cl hj (ct_len hT a)] at hP1 hD1
  have e1 : (cwd k T).set q (a, .inl (k.1, ln T a, .inl (upd (fun j => iI (fi T a j)) j.toNat (iI v)))) = cwd k (cs_i T a j.toNat v) := by
    refine cw_set hD hq0 rfl ?_ ?_
    · rw [ct_E_a 11 (T := cs_i T a j.toNat v) hg (by omega)]
      show (Sum.inl (k.1, ln T a, Sum.inl (fun i => iI (fi (cs_i T a j.toNat v) a i))) : va_E) = _
      congr 4
      funext i
      unfold upd
      by_cases f : i = j.toNat
      · simp [fi, cs_i, f]
      · simp [fi, cs_i, f]
    · intro b hb
      exact ct_E_ext rfl rfl (fun i => by simp [fi, cs_i, hb]) (fun i => rfl)
  rw [e1] at hP1 hD1
  exact kk _ rfl hT H1 locs1 ls hl hP1 hD1 ⟨hS1, K.2.2.1 _⟩
theorem c_zald (F : jfx X cc nL own fr lo mc ms) (K : jkc k D X) (hT : cs_ok k T) {j : Int} (hg : tg T a = 12) (hj : ixR j (ln T a)) (d : decode cc pc = .ok (.baload, 1)) (kk : jat l D X nL (pc + 1) lv (vi (fi T a j.toNat) :: st) (cwd k T) c n) : jat l D X nL pc lv (vi j :: .ref a :: st) (cwd k T) c n := by
  obtain ⟨p, e, R, s, m, args, below, meth, co, Q, A, G⟩ := X
  obtain ⟨⟨hx, hb, hml, hown, hts⟩, hfr, hlo, hmc, hms⟩ := F
  intro H locs ls hl hP hD hS
  obtain ⟨q, hq⟩ := cw_get hT hg (by omega) (by omega)
  rw [ct_E_a 12 hg (by omega)] at hq
  refine va_zald hx hb K.1 hP q 1 hq rfl (ix_in hj (ct_len hT a)) d ?_
  rw [ix_cl hj (ct_len hT a)]
  exact kk H locs ls hl hP hD hS
theorem c_zast (F : jfx X cc nL own fr lo mc ms) (K : jkc k D X) (hT : cs_ok k T) {j v : Int} (hg : tg T a = 12) (hj : ixR j (ln T a)) (hz : b01 v) (d : decode cc pc = .ok (.bastore, 1)) (kk : ∀ T1, T1 = cs_i T a j.toNat v → cs_ok k T1 → jat l D X nL (pc + 1) lv st (cwd k T1) c n) : jat l D X nL pc lv (vi v :: vi j :: .ref a :: st) (cwd k T) c n := by
  obtain ⟨p, e, R, s, m, args, below, meth, co, Q, A, G⟩ := X
  obtain ⟨⟨hx, hb, hml, hown, hts⟩, hfr, hlo, hmc, hms⟩ := F
  intro H locs ls hl hP hD hS
  obtain ⟨q, hq⟩ := cw_get hT hg (by omega) (by omega)
  have hq0 := hq
  rw [ct_E_a 12 hg (by omega)] at hq
  refine va_zast hx hb K.1 hP hD hS.1 q 1 hq rfl (ix_in hj (ct_len hT a)) d (fun H1 locs1 hP1 hD1 hS1 => ?_)
  rw [ix_cl hj (ct_len hT a), b01_vp hz] at hP1 hD1
  have e1 : (cwd k T).set q (a, .inl (k.2.1, ln T a, .inl (upd (fun j => iI (fi T a j)) j.toNat (iI v)))) = cwd k (cs_i T a j.toNat v) := by
    refine cw_set hD hq0 rfl ?_ ?_
    · rw [ct_E_a 12 (T := cs_i T a j.toNat v) hg (by omega)]
      show (Sum.inl (k.2.1, ln T a, Sum.inl (fun i => iI (fi (cs_i T a j.toNat v) a i))) : va_E) = _
      congr 4
      funext i
      unfold upd
      by_cases f : i = j.toNat
      · simp [fi, cs_i, f]
      · simp [fi, cs_i, f]
    · intro b hb
      exact ct_E_ext rfl rfl (fun i => by simp [fi, cs_i, hb]) (fun i => rfl)
  rw [e1] at hP1 hD1
  exact kk _ rfl hT H1 locs1 ls hl hP1 hD1 ⟨hS1, K.2.2.1 _⟩
theorem c_aald13 (F : jfx X cc nL own fr lo mc ms) (K : jkc k D X) (hT : cs_ok k T) {j : Int} {b : Nat} (hg : tg T a = 13) (hj : ixR j (ln T a)) (hv : fo T a j.toNat = some b) (d : decode cc pc = .ok (.aaload, 1)) (kk : jat l D X nL (pc + 1) lv (.ref b :: st) (cwd k T) c n) : jat l D X nL pc lv (vi j :: .ref a :: st) (cwd k T) c n := by
  obtain ⟨p, e, R, s, m, args, below, meth, co, Q, A, G⟩ := X
  obtain ⟨⟨hx, hb, hml, hown, hts⟩, hfr, hlo, hmc, hms⟩ := F
  intro H locs ls hl hP hD hS
  obtain ⟨q, hq⟩ := cw_get hT hg (by omega) (by omega)
  rw [ct_E_a 13 hg (by omega)] at hq
  refine va_aldq hx hb K.1 hP q 2 hq rfl (ix_in hj (ct_len hT a)) d ?_
  rw [ix_cl hj (ct_len hT a), hv]
  exact kk H locs ls hl hP hD hS
theorem c_aast13 (F : jfx X cc nL own fr lo mc ms) (K : jkc k D X) (hT : cs_ok k T) {j : Int} {v : Nat} (hg : tg T a = 13) (hj : ixR j (ln T a)) (t2 : Nat) {r : vw_C} (hv : tg T v = t2) (ht2 : 0 < t2 ∧ t2 ≤ 10) (hc : classes[ct_ci t2]? = some r) (hw : Cond.castable r.1 "java/lang/Object" ∈ cwords) (d : decode cc pc = .ok (.aastore, 1)) (kk : ∀ T1, T1 = cs_o T a j.toNat (some v) → cs_ok k T1 → jat l D X nL (pc + 1) lv st (cwd k T1) c n) : jat l D X nL pc lv (.ref v :: vi j :: .ref a :: st) (cwd k T) c n := by
  obtain ⟨p, e, R, s, m, args, below, meth, co, Q, A, G⟩ := X
  obtain ⟨⟨hx, hb, hml, hown, hts⟩, hfr, hlo, hmc, hms⟩ := F
  intro H locs ls hl hP hD hS
  obtain ⟨q, hq⟩ := cw_get hT hg (by omega) (by omega)
  have hq0 := hq
  rw [ct_E_a 13 hg (by omega)] at hq
  obtain ⟨q2, hq2⟩ := cw_get hT hv (by omega) (by omega)
  rw [ct_E_obj hv ht2.2] at hq2
  refine va_astqO hx hb K.1 hP hD hS.1 q 2 q2 _ hq rfl (K.2.2.2.2.2.2.2.2.1 _ hw) hq2 hc (ix_in hj (ct_len hT a)) d (fun H1 locs1 hP1 hD1 hS1 => ?_)
  rw [ix_cl hj (ct_len hT a)] at hP1 hD1
  have e1 : (cwd k T).set q (a, .inl (k.2.2.1, ln T a, .inr (.inr (.inr (.inr (va_up (fo T a) j.toNat (some v))))))) = cwd k (cs_o T a j.toNat (some v)) := by
    refine cw_set hD hq0 rfl ?_ ?_
    · rw [ct_E_a 13 (T := cs_o T a j.toNat (some v)) hg (by omega)]
      show (Sum.inl (k.2.2.1, ln T a, Sum.inr (Sum.inr (Sum.inr (Sum.inr (fo (cs_o T a j.toNat (some v)) a))))) : va_E) = _
      congr 7
      funext i
      unfold va_up
      by_cases f : i = j.toNat
      · simp [fo, cs_o, f]
      · simp [fo, cs_o, f]
    · intro b hb
      exact ct_E_ext rfl rfl (fun i => rfl) (fun i => by simp [fo, cs_o, hb])
  rw [e1] at hP1 hD1
  exact kk _ rfl hT H1 locs1 ls hl hP1 hD1 ⟨hS1, K.2.2.1 _⟩
theorem c_aast13N (F : jfx X cc nL own fr lo mc ms) (K : jkc k D X) (hT : cs_ok k T) {j : Int} (hg : tg T a = 13) (hj : ixR j (ln T a)) (d : decode cc pc = .ok (.aastore, 1)) (kk : ∀ T1, T1 = cs_o T a j.toNat (none) → cs_ok k T1 → jat l D X nL (pc + 1) lv st (cwd k T1) c n) : jat l D X nL pc lv (.null :: vi j :: .ref a :: st) (cwd k T) c n := by
  obtain ⟨p, e, R, s, m, args, below, meth, co, Q, A, G⟩ := X
  obtain ⟨⟨hx, hb, hml, hown, hts⟩, hfr, hlo, hmc, hms⟩ := F
  intro H locs ls hl hP hD hS
  obtain ⟨q, hq⟩ := cw_get hT hg (by omega) (by omega)
  have hq0 := hq
  rw [ct_E_a 13 hg (by omega)] at hq
  refine va_astqN hx hb K.1 hP hD hS.1 q 2 hq rfl (ix_in hj (ct_len hT a)) d (fun H1 locs1 hP1 hD1 hS1 => ?_)
  rw [ix_cl hj (ct_len hT a)] at hP1 hD1
  have e1 : (cwd k T).set q (a, .inl (k.2.2.1, ln T a, .inr (.inr (.inr (.inr (va_up (fo T a) j.toNat (none))))))) = cwd k (cs_o T a j.toNat (none)) := by
    refine cw_set hD hq0 rfl ?_ ?_
    · rw [ct_E_a 13 (T := cs_o T a j.toNat (none)) hg (by omega)]
      show (Sum.inl (k.2.2.1, ln T a, Sum.inr (Sum.inr (Sum.inr (Sum.inr (fo (cs_o T a j.toNat (none)) a))))) : va_E) = _
      congr 7
      funext i
      unfold va_up
      by_cases f : i = j.toNat
      · simp [fo, cs_o, f]
      · simp [fo, cs_o, f]
    · intro b hb
      exact ct_E_ext rfl rfl (fun i => rfl) (fun i => by simp [fo, cs_o, hb])
  rw [e1] at hP1 hD1
  exact kk _ rfl hT H1 locs1 ls hl hP1 hD1 ⟨hS1, K.2.2.1 _⟩
theorem c_aald14 (F : jfx X cc nL own fr lo mc ms) (K : jkc k D X) (hT : cs_ok k T) {j : Int} {b : Nat} (hg : tg T a = 14) (hj : ixR j (ln T a)) (hv : fo T a j.toNat = some b) (d : decode cc pc = .ok (.aaload, 1)) (kk : jat l D X nL (pc + 1) lv (.ref b :: st) (cwd k T) c n) : jat l D X nL pc lv (vi j :: .ref a :: st) (cwd k T) c n := by
  obtain ⟨p, e, R, s, m, args, below, meth, co, Q, A, G⟩ := X
  obtain ⟨⟨hx, hb, hml, hown, hts⟩, hfr, hlo, hmc, hms⟩ := F
  intro H locs ls hl hP hD hS
  obtain ⟨q, hq⟩ := cw_get hT hg (by omega) (by omega)
  rw [ct_E_a 14 hg (by omega)] at hq
  refine va_aldq hx hb K.1 hP q 3 hq rfl (ix_in hj (ct_len hT a)) d ?_
  rw [ix_cl hj (ct_len hT a), hv]
  exact kk H locs ls hl hP hD hS
theorem c_aast14 (F : jfx X cc nL own fr lo mc ms) (K : jkc k D X) (hT : cs_ok k T) {j : Int} {v : Nat} (hg : tg T a = 14) (hj : ixR j (ln T a)) (t2 : Nat) {r : vw_C} (hv : tg T v = t2) (ht2 : 0 < t2 ∧ t2 ≤ 10) (hc : classes[ct_ci t2]? = some r) (hw : r.1 = "LandBook$Points") (d : decode cc pc = .ok (.aastore, 1)) (kk : ∀ T1, T1 = cs_o T a j.toNat (some v) → cs_ok k T1 → jat l D X nL (pc + 1) lv st (cwd k T1) c n) : jat l D X nL pc lv (.ref v :: vi j :: .ref a :: st) (cwd k T) c n := by
  obtain ⟨p, e, R, s, m, args, below, meth, co, Q, A, G⟩ := X
  obtain ⟨⟨hx, hb, hml, hown, hts⟩, hfr, hlo, hmc, hms⟩ := F
  intro H locs ls hl hP hD hS
  obtain ⟨q, hq⟩ := cw_get hT hg (by omega) (by omega)
  have hq0 := hq
  rw [ct_E_a 14 hg (by omega)] at hq
  obtain ⟨q2, hq2⟩ := cw_get hT hv (by omega) (by omega)
  rw [ct_E_obj hv ht2.2] at hq2
  refine va_astq hx hb K.1 hP hD hS.1 q 3 q2 _ hq (by rw [hw]; rfl) hq2 hc (ix_in hj (ct_len hT a)) d (fun H1 locs1 hP1 hD1 hS1 => ?_)
  rw [ix_cl hj (ct_len hT a)] at hP1 hD1
  have e1 : (cwd k T).set q (a, .inl (k.2.2.2.1, ln T a, .inr (.inr (.inr (.inr (va_up (fo T a) j.toNat (some v))))))) = cwd k (cs_o T a j.toNat (some v)) := by
    refine cw_set hD hq0 rfl ?_ ?_
    · rw [ct_E_a 14 (T := cs_o T a j.toNat (some v)) hg (by omega)]
      show (Sum.inl (k.2.2.2.1, ln T a, Sum.inr (Sum.inr (Sum.inr (Sum.inr (fo (cs_o T a j.toNat (some v)) a))))) : va_E) = _
      congr 7
      funext i
      unfold va_up
      by_cases f : i = j.toNat
      · simp [fo, cs_o, f]
      · simp [fo, cs_o, f]
    · intro b hb
      exact ct_E_ext rfl rfl (fun i => rfl) (fun i => by simp [fo, cs_o, hb])
  rw [e1] at hP1 hD1
  exact kk _ rfl hT H1 locs1 ls hl hP1 hD1 ⟨hS1, K.2.2.1 _⟩
theorem c_alen11 (F : jfx X cc nL own fr lo mc ms) (K : jkc k D X) (hT : cs_ok k T) (hg : tg T a = 11) (d : decode cc pc = .ok (.arraylength, 1)) (kk : jat l D X nL (pc + 1) lv (vi (ln T a) :: st) (cwd k T) c n) : jat l D X nL pc lv (.ref a :: st) (cwd k T) c n := by
  obtain ⟨p, e, R, s, m, args, below, meth, co, Q, A, G⟩ := X
  obtain ⟨⟨hx, hb, hml, hown, hts⟩, hfr, hlo, hmc, hms⟩ := F
  intro H locs ls hl hP hD hS
  obtain ⟨q, hq⟩ := cw_get hT hg (by omega) (by omega)
  rw [ct_E_a 11 hg (by omega)] at hq
  exact va_alen hx hb K.1 hP q 0 hq rfl (Int32.ofInt_eq_ofNat.symm) d (kk H locs ls hl hP hD hS)
theorem c_alen12 (F : jfx X cc nL own fr lo mc ms) (K : jkc k D X) (hT : cs_ok k T) (hg : tg T a = 12) (d : decode cc pc = .ok (.arraylength, 1)) (kk : jat l D X nL (pc + 1) lv (vi (ln T a) :: st) (cwd k T) c n) : jat l D X nL pc lv (.ref a :: st) (cwd k T) c n := by
  obtain ⟨p, e, R, s, m, args, below, meth, co, Q, A, G⟩ := X
  obtain ⟨⟨hx, hb, hml, hown, hts⟩, hfr, hlo, hmc, hms⟩ := F
  intro H locs ls hl hP hD hS
  obtain ⟨q, hq⟩ := cw_get hT hg (by omega) (by omega)
  rw [ct_E_a 12 hg (by omega)] at hq
  exact va_alen hx hb K.1 hP q 1 hq rfl (Int32.ofInt_eq_ofNat.symm) d (kk H locs ls hl hP hD hS)
theorem c_alen13 (F : jfx X cc nL own fr lo mc ms) (K : jkc k D X) (hT : cs_ok k T) (hg : tg T a = 13) (d : decode cc pc = .ok (.arraylength, 1)) (kk : jat l D X nL (pc + 1) lv (vi (ln T a) :: st) (cwd k T) c n) : jat l D X nL pc lv (.ref a :: st) (cwd k T) c n := by
  obtain ⟨p, e, R, s, m, args, below, meth, co, Q, A, G⟩ := X
  obtain ⟨⟨hx, hb, hml, hown, hts⟩, hfr, hlo, hmc, hms⟩ := F
  intro H locs ls hl hP hD hS
  obtain ⟨q, hq⟩ := cw_get hT hg (by omega) (by omega)
  rw [ct_E_a 13 hg (by omega)] at hq
  exact va_alen hx hb K.1 hP q 2 hq rfl (Int32.ofInt_eq_ofNat.symm) d (kk H locs ls hl hP hD hS)
theorem c_alen14 (F : jfx X cc nL own fr lo mc ms) (K : jkc k D X) (hT : cs_ok k T) (hg : tg T a = 14) (d : decode cc pc = .ok (.arraylength, 1)) (kk : jat l D X nL (pc + 1) lv (vi (ln T a) :: st) (cwd k T) c n) : jat l D X nL pc lv (.ref a :: st) (cwd k T) c n := by
  obtain ⟨p, e, R, s, m, args, below, meth, co, Q, A, G⟩ := X
  obtain ⟨⟨hx, hb, hml, hown, hts⟩, hfr, hlo, hmc, hms⟩ := F
  intro H locs ls hl hP hD hS
  obtain ⟨q, hq⟩ := cw_get hT hg (by omega) (by omega)
  rw [ct_E_a 14 hg (by omega)] at hq
  exact va_alen hx hb K.1 hP q 3 hq rfl (Int32.ofInt_eq_ofNat.symm) d (kk H locs ls hl hP hD hS)
theorem c_alen20 (F : jfx X cc nL own fr lo mc ms) (K : jkc k D X) (hT : cs_ok k T) (hg : tg T a = 13 ∨ tg T a = 20) (d : decode cc pc = .ok (.arraylength, 1)) (kk : jat l D X nL (pc + 1) lv (vi (ln T a) :: st) (cwd k T) c n) : jat l D X nL pc lv (.ref a :: st) (cwd k T) c n := by
  rcases hg with hg | hg
  · exact c_alen13 F K hT hg d kk
  have hE : a = k.2.2.2.2.1 := (hT.2.1 a).mp hg
  subst hE
  obtain ⟨p, e, R, s, m, args, below, meth, co, Q, A, G⟩ := X
  obtain ⟨⟨hx, hb, hml, hown, hts⟩, hfr, hlo, hmc, hms⟩ := F
  intro H locs ls hl hP hD hS
  refine va_tlen hx hb K.2.2.2.2.1 hS.1 (v := iI (ln T k.2.2.2.2.1)) ?_ d (kk H locs ls hl hP hD hS)
  rw [hT.2.2.2.1]; rfl
theorem c_gets (F : jfx X cc nL own fr lo mc ms) (K : jkc k D X) (hT : cs_ok k T) {ix : Nat} (hk : Cond.fieldLink own ix "java/util/ArrayList" "DEFAULTCAPACITY_EMPTY_ELEMENTDATA" "[Ljava/lang/Object;" ∈ tw_G) (d : decode cc pc = .ok (.getstatic ix, 3)) (kk : ∀ q, tg T q = 20 → jat l D X nL (pc + 3) lv (.ref q :: st) (cwd k T) c n) : jat l D X nL pc lv st (cwd k T) c n := by
  obtain ⟨p, e, R, s, m, args, below, meth, co, Q, A, G⟩ := X
  obtain ⟨⟨hx, hb, hml, hown, hts⟩, hfr, hlo, hmc, hms⟩ := F
  intro H locs ls hl hP hD hS
  exact va_gets hx hb K.2.2.2.1 hS.1 hown (hts _ hk) (fun _ h => h) d (kk _ ((hT.2.1 _).mpr rfl) H locs ls hl hP hD hS)
theorem c_cast (F : jfx X cc nL own fr lo mc ms) (K : jkc k D X) (hT : cs_ok k T) (t : Nat) {C nm : String} {Tb : u_T} {N ix : Nat} (hc : classes[ct_ci t]? = some (C, Tb, N)) (ht : 0 < t ∧ t ≤ 10) (hk : Cond.classLink own ix nm ∈ tw_G) (hw : Cond.castable C nm ∈ cwords) (hg : tg T a = t) (d : decode cc pc = .ok (.checkcast ix, 3)) (kk : jat l D X nL (pc + 3) lv (.ref a :: st) (cwd k T) c n) : jat l D X nL pc lv (.ref a :: st) (cwd k T) c n := by
  obtain ⟨p, e, R, s, m, args, below, meth, co, Q, A, G⟩ := X
  obtain ⟨⟨hx, hb, hml, hown, hts⟩, hfr, hlo, hmc, hms⟩ := F
  intro H locs ls hl hP hD hS
  obtain ⟨q, hq⟩ := cw_get hT hg (by omega) (by omega)
  rw [ct_E_obj hg ht.2] at hq
  exact va_castY hx hb hown (hts _ hk) (K.2.2.2.2.2.2.2.2.1 _ hw) (va_recv K.1 hP hc hq) d (kk H locs ls hl hP hD hS)
theorem c_acmp_eq (F : jfx X cc nL own fr lo mc ms) {b : Nat} {x : Int} (tgt : Nat) (d : decode cc pc = .ok (.if_acmp .eq x, 3)) (ht : (pc : Int) + x = (tgt : Int)) (kt : a = b → jat l D X nL tgt lv st (cwd k T) c n) (kf : ¬ a = b → jat l D X nL (pc + 3) lv st (cwd k T) c n) : jat l D X nL pc lv (.ref b :: .ref a :: st) (cwd k T) c n := by
  obtain ⟨p, e, R, s, m, args, below, meth, co, Q, A, G⟩ := X
  obtain ⟨⟨hx, hb, hml, hown, hts⟩, hfr, hlo, hmc, hms⟩ := F
  intro H locs ls hl hP hD hS
  exact lv_acmp_eq (rx := some a) (ry := some b) hx hb d ht (fun h => kt (Option.some.inj h) H locs ls hl hP hD hS) (fun h => kf (fun h2 => h (by rw [h2])) H locs ls hl hP hD hS)
theorem c_acmp_ne (F : jfx X cc nL own fr lo mc ms) {b : Nat} {x : Int} (tgt : Nat) (d : decode cc pc = .ok (.if_acmp .ne x, 3)) (ht : (pc : Int) + x = (tgt : Int)) (kt : ¬ a = b → jat l D X nL tgt lv st (cwd k T) c n) (kf : a = b → jat l D X nL (pc + 3) lv st (cwd k T) c n) : jat l D X nL pc lv (.ref b :: .ref a :: st) (cwd k T) c n := by
  obtain ⟨p, e, R, s, m, args, below, meth, co, Q, A, G⟩ := X
  obtain ⟨⟨hx, hb, hml, hown, hts⟩, hfr, hlo, hmc, hms⟩ := F
  intro H locs ls hl hP hD hS
  exact lv_acmp_ne (rx := some a) (ry := some b) hx hb d ht (fun h => kt (fun h2 => h (by rw [h2])) H locs ls hl hP hD hS) (fun h => kf (Option.some.inj h) H locs ls hl hP hD hS)
theorem c_out {k : CK} {A : Nat → Prop} {s : State} {T : CS} {q : Nat} {e : va_E} (hE : ce k A s s.heap) (hD : va_D A (cwd k T ++ [(q, e)])) : q ∉ T.1 ∧ q ≠ k.2.2.2.2.1 := by
  have hl : (cwd k T ++ [(q, e)])[(cwd k T).length]? = some (q, e) := by rw [List.getElem?_append_right (Nat.le_refl _)]; simp
  refine ⟨?_, ?_⟩
  · intro hm
    obtain ⟨i, hi⟩ := va_pl_get (X := []) (f := ct_E k T) hm
    have hi' : (cwd k T)[i]? = some (q, ct_E k T q) := hi
    have hlt : i < (cwd k T).length := (List.getElem?_eq_some_iff.mp hi').1
    have h2 : (cwd k T ++ [(q, e)])[i]? = some (q, ct_E k T q) := by rw [List.getElem?_append_left hlt]; exact hi'
    have := hD.1 _ _ _ _ h2 hl rfl
    omega
  · intro f
    exact va_T.out hE.2.1 (f ▸ hD.2 _ _ hl)
theorem c_new (F : jfx X cc nL own fr lo mc ms) (K : jkc k D X) (hT : cs_ok k T) (t : Nat) {C : String} {Tb : u_T} {N ix : Nat} (hc : classes[ct_ci t]? = some (C, Tb, N)) (hin : ∀ w ∈ u_ws C Tb N, w ∈ tw_G) (ty0 : Nat → FieldType) (hty : ∀ k, k < N → parseFieldDescriptor (Tb k).2.2.1 = some (ty0 k)) (ht : 0 < t ∧ t ≤ 10) (hN : ct_n t = N) (hdf : ∀ j, j < N → defaultValue (ty0 j) = if ct_int t j = true then .int 0 else .null) (hcl : Cond.classLink own ix C ∈ tw_G) (hins : Cond.instantiable C N ∈ tw_G) (hini : Cond.initialized C ∈ tw_G) (h1 : c + 1 ≤ mc) (h2 : n + N ≤ ms) (d : decode cc pc = .ok (.new ix, 3)) (kk : ∀ q T1, tg T q = 0 → T1 = cs_new T q t 0 → cs_ok k T1 → jat l D X nL (pc + 3) lv (.ref q :: st) (cwd k T1) (c + 1) (n + N)) : jat l D X nL pc lv st (cwd k T) c n := by
  obtain ⟨p, e, R, s, m, args, below, meth, co, Q, A, G⟩ := X
  obtain ⟨⟨hx, hb, hml, hown, hts⟩, hfr, hlo, hmc, hms⟩ := F
  intro H locs ls hl hP hD hS
  refine va_new (fs := (List.range N).map (fun j => if ct_int t j = true then .int 0 else .null)) hx hb hts hin ty0 hty hown (hts _ hcl) (hts _ hins) (hts _ hini) K.1 hP hD hS.1 K.2.1 hc ?_ (by rw [hmc]; exact h1) (by rw [hms]; exact h2) d (fun q H1 hP1 hD1 hS1 => ?_)
  · intro j hj
    rw [hdf j hj]
    unfold vp_V
    rw [List.getD_eq_getElem?_getD, List.getElem?_map, List.getElem?_range hj]
    rfl
  obtain ⟨g1, g2⟩ := c_out K.2.2.2 hD1
  obtain ⟨h0, hT1⟩ := cs_ok_new (t := t) (n := 0) hT g1 g2 (by omega) (by omega) (by omega)
  have e1 : cwd k T ++ [(q, .inr (ct_ci t, (List.range N).map (fun j => if ct_int t j = true then .int 0 else .null)))] = cwd k (cs_new T q t 0) := by
    refine cw_push g1 ?_
    have hg : tg (cs_new T q t 0) q = t := by simp [tg, cs_new]
    rw [ct_E_obj hg ht.2]
    unfold ct_fs
    rw [hg, hN]
    congr 2
    refine congrArg (fun f => List.map f (List.range N)) ?_
    funext j
    cases ct_int t j <;> simp [fi, fo, cs_new, va_rf] <;> rfl
  rw [e1] at hP1 hD1
  exact kk q _ h0 rfl hT1 H1 locs ls hl hP1 hD1 ⟨hS1, K.2.2.1 _⟩
theorem c_newa11 (F : jfx X cc nL own fr lo mc ms) (K : jkc k D X) (hT : cs_ok k T) {x : Int} (hw : Cond.arrayClass .int ∈ tw_G) (hx0 : 0 ≤ x ∧ x ≤ 134217728) (h1 : c + 1 ≤ mc) (h2 : n + x.toNat ≤ ms) (d : decode cc pc = .ok (.newarray .int, 2)) (kk : ∀ q T1, tg T q = 0 → T1 = cs_new T q 11 x.toNat → cs_ok k T1 → jat l D X nL (pc + 2) lv (.ref q :: st) (cwd k T1) (c + 1) (n + x.toNat)) : jat l D X nL pc lv (vi x :: st) (cwd k T) c n := by
  obtain ⟨p, e, R, s, m, args, below, meth, co, Q, A, G⟩ := X
  obtain ⟨⟨hx, hb, hml, hown, hts⟩, hfr, hlo, hmc, hms⟩ := F
  intro H locs ls hl hP hD hS
  have n1 : ¬ iI x < 0 := by rw [← iI_0, iI_lt (by unfold inR; omega) inR_0]; omega
  have n2 : (iI x).toNatClampNeg = x.toNat := Int32.toNatClampNeg_ofInt_of_le (by omega) (by omega)
  refine va_newa (atype := .int) (ty := .int) (N' := x.toNat) (a0 := (x.toNat, .inl (fun _ => 0))) hx hb (hts _ hw) rfl K.1 hP hD hS.1 K.2.1 (fun _ => rfl) n1 n2 (by show _ * 4 ≤ _; omega) (by rw [hmc]; exact h1) (by rw [hms]; exact h2) d (fun q cA H1 hK1 hP1 hD1 hS1 => ?_)
  have eA : cA = k.1 := by
    have b1 := (hK1.2 4 _ rfl).2
    have b2 := (hK1.2 0 _ rfl).2
    exact Option.some.inj (b1.symm.trans b2)
  subst eA
  obtain ⟨g1, g2⟩ := c_out K.2.2.2 hD1
  obtain ⟨h0, hT1⟩ := cs_ok_new (t := 11) (n := x.toNat) hT g1 g2 (by omega) (by omega) (by omega)
  have hg : tg (cs_new T q 11 x.toNat) q = 11 := by simp [tg, cs_new]
  have e1 : cwd k T ++ [(q, .inl (k.1, x.toNat, .inl (fun _ => 0)))] = cwd k (cs_new T q 11 x.toNat) := by
    refine cw_push g1 ?_
    rw [ct_E_a 11 hg (by omega)]
    show (Sum.inl (k.1, ln (cs_new T q 11 x.toNat) q, Sum.inl (fun j => iI (fi (cs_new T q 11 x.toNat) q j))) : va_E) = _
    simp [ln, fi, cs_new]
    rfl
  rw [e1] at hP1 hD1
  exact kk q _ h0 rfl hT1 H1 locs ls hl hP1 hD1 ⟨hS1, K.2.2.1 _⟩
theorem c_newa12 (F : jfx X cc nL own fr lo mc ms) (K : jkc k D X) (hT : cs_ok k T) {x : Int} (hw : Cond.arrayClass .boolean ∈ tw_G) (hx0 : 0 ≤ x ∧ x ≤ 134217728) (h1 : c + 1 ≤ mc) (h2 : n + x.toNat ≤ ms) (d : decode cc pc = .ok (.newarray .boolean, 2)) (kk : ∀ q T1, tg T q = 0 → T1 = cs_new T q 12 x.toNat → cs_ok k T1 → jat l D X nL (pc + 2) lv (.ref q :: st) (cwd k T1) (c + 1) (n + x.toNat)) : jat l D X nL pc lv (vi x :: st) (cwd k T) c n := by
  obtain ⟨p, e, R, s, m, args, below, meth, co, Q, A, G⟩ := X
  obtain ⟨⟨hx, hb, hml, hown, hts⟩, hfr, hlo, hmc, hms⟩ := F
  intro H locs ls hl hP hD hS
  have n1 : ¬ iI x < 0 := by rw [← iI_0, iI_lt (by unfold inR; omega) inR_0]; omega
  have n2 : (iI x).toNatClampNeg = x.toNat := Int32.toNatClampNeg_ofInt_of_le (by omega) (by omega)
  refine va_newa (atype := .boolean) (ty := .boolean) (N' := x.toNat) (a0 := (x.toNat, .inl (fun _ => 0))) hx hb (hts _ hw) rfl K.1 hP hD hS.1 K.2.1 (fun _ => rfl) n1 n2 (by show _ * 1 ≤ _; omega) (by rw [hmc]; exact h1) (by rw [hms]; exact h2) d (fun q cA H1 hK1 hP1 hD1 hS1 => ?_)
  have eA : cA = k.2.1 := by
    have b1 := (hK1.2 4 _ rfl).2
    have b2 := (hK1.2 1 _ rfl).2
    exact Option.some.inj (b1.symm.trans b2)
  subst eA
  obtain ⟨g1, g2⟩ := c_out K.2.2.2 hD1
  obtain ⟨h0, hT1⟩ := cs_ok_new (t := 12) (n := x.toNat) hT g1 g2 (by omega) (by omega) (by omega)
  have hg : tg (cs_new T q 12 x.toNat) q = 12 := by simp [tg, cs_new]
  have e1 : cwd k T ++ [(q, .inl (k.2.1, x.toNat, .inl (fun _ => 0)))] = cwd k (cs_new T q 12 x.toNat) := by
    refine cw_push g1 ?_
    rw [ct_E_a 12 hg (by omega)]
    show (Sum.inl (k.2.1, ln (cs_new T q 12 x.toNat) q, Sum.inl (fun j => iI (fi (cs_new T q 12 x.toNat) q j))) : va_E) = _
    simp [ln, fi, cs_new]
    rfl
  rw [e1] at hP1 hD1
  exact kk q _ h0 rfl hT1 H1 locs ls hl hP1 hD1 ⟨hS1, K.2.2.1 _⟩
theorem c_newa13 (F : jfx X cc nL own fr lo mc ms) (K : jkc k D X) (hT : cs_ok k T) {x : Int} {ix : Nat} (hw : Cond.classLink own ix "java/lang/Object" ∈ tw_G) (hx0 : 0 ≤ x ∧ x ≤ 134217728) (h1 : c + 1 ≤ mc) (h2 : n + x.toNat ≤ ms) (d : decode cc pc = .ok (.anewarray ix, 3)) (kk : ∀ q T1, tg T q = 0 → T1 = cs_new T q 13 x.toNat → cs_ok k T1 → jat l D X nL (pc + 3) lv (.ref q :: st) (cwd k T1) (c + 1) (n + x.toNat)) : jat l D X nL pc lv (vi x :: st) (cwd k T) c n := by
  obtain ⟨p, e, R, s, m, args, below, meth, co, Q, A, G⟩ := X
  obtain ⟨⟨hx, hb, hml, hown, hts⟩, hfr, hlo, hmc, hms⟩ := F
  intro H locs ls hl hP hD hS
  have n1 : ¬ iI x < 0 := by rw [← iI_0, iI_lt (by unfold inR; omega) inR_0]; omega
  have n2 : (iI x).toNatClampNeg = x.toNat := Int32.toNatClampNeg_ofInt_of_le (by omega) (by omega)
  refine va_newq (N' := x.toNat) hx hb hown (hts _ hw) K.2.2.2.2.2.2.1 K.1 hP hD hS.1 K.2.1 n1 n2 (by omega) (by rw [hmc]; exact h1) (by rw [hms]; exact h2) d (fun q cA H1 hK1 hP1 hD1 hS1 => ?_)
  have eA : cA = k.2.2.1 := by
    have b1 := (hK1.2 4 _ rfl).2
    have b2 := (hK1.2 2 _ rfl).2
    obtain ⟨_, _, -, -, -, b3⟩ := b1
    obtain ⟨_, _, -, -, -, b4⟩ := b2
    exact Option.some.inj (b3.symm.trans b4)
  subst eA
  obtain ⟨g1, g2⟩ := c_out K.2.2.2 hD1
  obtain ⟨h0, hT1⟩ := cs_ok_new (t := 13) (n := x.toNat) hT g1 g2 (by omega) (by omega) (by omega)
  have hg : tg (cs_new T q 13 x.toNat) q = 13 := by simp [tg, cs_new]
  have e1 : cwd k T ++ [(q, .inl (k.2.2.1, x.toNat, .inr (.inr (.inr (.inr (fun _ => none))))))] = cwd k (cs_new T q 13 x.toNat) := by
    refine cw_push g1 ?_
    rw [ct_E_a 13 hg (by omega)]
    show (Sum.inl (k.2.2.1, ln (cs_new T q 13 x.toNat) q, Sum.inr (Sum.inr (Sum.inr (Sum.inr (fo (cs_new T q 13 x.toNat) q))))) : va_E) = _
    have e2 : fo (cs_new T q 13 x.toNat) q = fun _ => none := by funext j; simp [fo, cs_new]
    rw [e2]
    simp [ln, cs_new]
  rw [e1] at hP1 hD1
  exact kk q _ h0 rfl hT1 H1 locs ls hl hP1 hD1 ⟨hS1, K.2.2.1 _⟩
theorem c_newa14 (F : jfx X cc nL own fr lo mc ms) (K : jkc k D X) (hT : cs_ok k T) {x : Int} {ix : Nat} (hw : Cond.classLink own ix "LandBook$Points" ∈ tw_G) (hx0 : 0 ≤ x ∧ x ≤ 134217728) (h1 : c + 1 ≤ mc) (h2 : n + x.toNat ≤ ms) (d : decode cc pc = .ok (.anewarray ix, 3)) (kk : ∀ q T1, tg T q = 0 → T1 = cs_new T q 14 x.toNat → cs_ok k T1 → jat l D X nL (pc + 3) lv (.ref q :: st) (cwd k T1) (c + 1) (n + x.toNat)) : jat l D X nL pc lv (vi x :: st) (cwd k T) c n := by
  obtain ⟨p, e, R, s, m, args, below, meth, co, Q, A, G⟩ := X
  obtain ⟨⟨hx, hb, hml, hown, hts⟩, hfr, hlo, hmc, hms⟩ := F
  intro H locs ls hl hP hD hS
  have n1 : ¬ iI x < 0 := by rw [← iI_0, iI_lt (by unfold inR; omega) inR_0]; omega
  have n2 : (iI x).toNatClampNeg = x.toNat := Int32.toNatClampNeg_ofInt_of_le (by omega) (by omega)
  refine va_newq (N' := x.toNat) hx hb hown (hts _ hw) K.2.2.2.2.2.2.2.1 K.1 hP hD hS.1 K.2.1 n1 n2 (by omega) (by rw [hmc]; exact h1) (by rw [hms]; exact h2) d (fun q cA H1 hK1 hP1 hD1 hS1 => ?_)
  have eA : cA = k.2.2.2.1 := by
    have b1 := (hK1.2 4 _ rfl).2
    have b2 := (hK1.2 3 _ rfl).2
    obtain ⟨_, _, -, -, -, b3⟩ := b1
    obtain ⟨_, _, -, -, -, b4⟩ := b2
    exact Option.some.inj (b3.symm.trans b4)
  subst eA
  obtain ⟨g1, g2⟩ := c_out K.2.2.2 hD1
  obtain ⟨h0, hT1⟩ := cs_ok_new (t := 14) (n := x.toNat) hT g1 g2 (by omega) (by omega) (by omega)
  have hg : tg (cs_new T q 14 x.toNat) q = 14 := by simp [tg, cs_new]
  have e1 : cwd k T ++ [(q, .inl (k.2.2.2.1, x.toNat, .inr (.inr (.inr (.inr (fun _ => none))))))] = cwd k (cs_new T q 14 x.toNat) := by
    refine cw_push g1 ?_
    rw [ct_E_a 14 hg (by omega)]
    show (Sum.inl (k.2.2.2.1, ln (cs_new T q 14 x.toNat) q, Sum.inr (Sum.inr (Sum.inr (Sum.inr (fo (cs_new T q 14 x.toNat) q))))) : va_E) = _
    have e2 : fo (cs_new T q 14 x.toNat) q = fun _ => none := by funext j; simp [fo, cs_new]
    rw [e2]
    simp [ln, cs_new]
  rw [e1] at hP1 hD1
  exact kk q _ h0 rfl hT1 H1 locs ls hl hP1 hD1 ⟨hS1, K.2.2.1 _⟩
end CR1
