/-! WHOLE NUMBERS FOR THE MACHINE'S: a value is iI x (int) or lI x (long); rows over them. -/
def iI (x : Int) : Int32 := Int32.ofInt x
def lI (x : Int) : Int64 := Int64.ofInt x
def inR (x : Int) : Prop := -2147483648 ≤ x ∧ x ≤ 2147483647
def inL (x : Int) : Prop := -9223372036854775808 ≤ x ∧ x ≤ 9223372036854775807
abbrev vi (x : Int) : Value := .int (iI x)
abbrev vl (x : Int) : Value := .long (lI x)
theorem iI_toInt {x : Int} (h : inR x) : (iI x).toInt = x := by unfold inR at h; exact Int32.toInt_ofInt_of_le (by omega) (by omega)
theorem lI_toInt {x : Int} (h : inL x) : (lI x).toInt = x := by unfold inL at h; exact Int64.toInt_ofInt_of_le (by omega) (by omega)
theorem iI_of (x : Int32) : iI x.toInt = x := Int32.ofInt_toInt x
theorem inR_of (x : Int32) : inR x.toInt := by have := Int32.toInt_lt x; have := Int32.le_toInt x; unfold inR; omega
theorem iI_add (a b : Int) : iI a + iI b = iI (a + b) := (Int32.ofInt_add a b).symm
theorem iI_sub (a b : Int) : iI a - iI b = iI (a - b) := (Int32.ofInt_sub a b).symm
theorem iI_mul (a b : Int) : iI a * iI b = iI (a * b) := (Int32.ofInt_mul a b).symm
theorem iI_neg (a : Int) : -iI a = iI (-a) := (Int32.ofInt_neg a).symm
theorem lI_add (a b : Int) : lI a + lI b = lI (a + b) := (Int64.ofInt_add a b).symm
theorem lI_sub (a b : Int) : lI a - lI b = lI (a - b) := (Int64.ofInt_sub a b).symm
theorem lI_mul (a b : Int) : lI a * lI b = lI (a * b) := (Int64.ofInt_mul a b).symm
theorem iI_lt {a b : Int} (ha : inR a) (hb : inR b) : iI a < iI b ↔ a < b := by rw [Int32.lt_iff_toInt_lt, iI_toInt ha, iI_toInt hb]
theorem iI_le {a b : Int} (ha : inR a) (hb : inR b) : iI a ≤ iI b ↔ a ≤ b := by rw [Int32.le_iff_toInt_le, iI_toInt ha, iI_toInt hb]
theorem iI_eq {a b : Int} (ha : inR a) (hb : inR b) : iI a = iI b ↔ a = b := by rw [← Int32.toInt_inj, iI_toInt ha, iI_toInt hb]
theorem lI_lt {a b : Int} (ha : inL a) (hb : inL b) : lI a < lI b ↔ a < b := by rw [Int64.lt_iff_toInt_lt, lI_toInt ha, lI_toInt hb]
theorem lI_eq {a b : Int} (ha : inL a) (hb : inL b) : lI a = lI b ↔ a = b := by rw [← Int64.toInt_inj, lI_toInt ha, lI_toInt hb]
theorem iI_0 : iI 0 = 0 := by decide
theorem inR_0 : inR 0 := by unfold inR; omega
def dvR (a b : Int) : Prop := (0 ≤ a ∧ a ≤ 2147483647) ∧ 0 < b ∧ b ≤ 2147483647
def dvL (a b : Int) : Prop := (0 ≤ a ∧ a ≤ 9223372036854775807) ∧ 0 < b ∧ b ≤ 9223372036854775807
theorem iI_div {a b : Int} (h : dvR a b) : iI a / iI b = iI (a / b) := by
  obtain ⟨⟨h1, h2⟩, h3, h4⟩ := h
  have h5 : a / b = a.tdiv b := (Int.tdiv_eq_ediv_of_nonneg h1).symm
  rw [h5]
  exact (Int32.ofInt_tdiv (by rw [show Int32.minValue.toInt = -2147483648 from by decide]; omega) (by rw [show Int32.maxValue.toInt = 2147483647 from by decide]; omega) (by rw [show Int32.minValue.toInt = -2147483648 from by decide]; omega) (by rw [show Int32.maxValue.toInt = 2147483647 from by decide]; omega)).symm
theorem iI_rem {a b : Int} (h : dvR a b) : iI a - iI a / iI b * iI b = iI (a % b) := by
  rw [iI_div h, iI_mul, iI_sub]
  congr 1
  have := Int.emod_def a b
  have h2 : a / b * b = b * (a / b) := Int.mul_comm _ _
  omega
theorem lI_div {a b : Int} (h : dvL a b) : lI a / lI b = lI (a / b) := by
  obtain ⟨⟨h1, h2⟩, h3, h4⟩ := h
  have h5 : a / b = a.tdiv b := (Int.tdiv_eq_ediv_of_nonneg h1).symm
  rw [h5]
  exact (Int64.ofInt_tdiv (by rw [show Int64.minValue.toInt = -9223372036854775808 from by decide]; omega) (by rw [show Int64.maxValue.toInt = 9223372036854775807 from by decide]; omega) (by rw [show Int64.minValue.toInt = -9223372036854775808 from by decide]; omega) (by rw [show Int64.maxValue.toInt = 9223372036854775807 from by decide]; omega)).symm
theorem lI_rem {a b : Int} (h : dvL a b) : lI a - lI a / lI b * lI b = lI (a % b) := by
  rw [lI_div h, lI_mul, lI_sub]
  congr 1
  have := Int.emod_def a b
  have h2 : a / b * b = b * (a / b) := Int.mul_comm _ _
  omega
theorem iI_ne0 {b : Int} (h : 0 < b ∧ b ≤ 2147483647) : ¬ iI b = 0 := by
  rw [← iI_0, iI_eq (by unfold inR; omega) inR_0]
  omega
theorem lI_ne0 {b : Int} (h : 0 < b ∧ b ≤ 9223372036854775807) : ¬ lI b = 0 := by
  rw [show (0 : Int64) = lI 0 from by decide, lI_eq (by unfold inL; omega) (by unfold inL; omega)]
  omega
def ixR (i : Int) (n : Nat) : Prop := 0 ≤ i ∧ i < n
theorem ix_in {i : Int} {n : Nat} (h : ixR i n) (hn : n < 2147483648) : vp_in (iI i) n := by
  obtain ⟨h1, h2⟩ := h
  rw [vp_in_iff, iI_toInt (by unfold inR; omega)]
  omega
theorem ix_cl {i : Int} {n : Nat} (h : ixR i n) (hn : n < 2147483648) : (iI i).toNatClampNeg = i.toNat := by
  obtain ⟨h1, h2⟩ := h
  exact Int32.toNatClampNeg_ofInt_of_le (by omega) (by omega)
theorem iI_l {a : Int} (h : inR a) : (iI a).toInt64 = lI a := by
  unfold inR at h
  exact Int32.toInt64_ofInt (by rw [show Int32.minValue.toInt = -2147483648 from by decide]; omega) (by rw [show Int32.maxValue.toInt = 2147483647 from by decide]; omega)
theorem lI_i (a : Int) : (lI a).toInt32 = iI a := Int64.toInt32_ofInt
theorem lcmp_if {a b : Int} (ha : inL a) (hb : inL b) : (lg_cmp (lI a) (lI b) < 0 ↔ a < b) ∧ (lg_cmp (lI a) (lI b) = 0 ↔ a = b) ∧ (0 < lg_cmp (lI a) (lI b) ↔ b < a) ∧ (lg_cmp (lI a) (lI b) ≤ 0 ↔ a ≤ b) ∧ (0 ≤ lg_cmp (lI a) (lI b) ↔ b ≤ a) := by
  unfold lg_cmp
  simp only [gt_iff_lt, lI_lt hb ha, lI_eq ha hb]
  by_cases h1 : b < a
  · rw [if_pos h1]
    refine ⟨⟨fun h => absurd h (by decide), fun h => by omega⟩, ⟨fun h => absurd h (by decide), fun h => by omega⟩, ⟨fun _ => h1, fun _ => by decide⟩, ⟨fun h => absurd h (by decide), fun h => by omega⟩, ⟨fun _ => by omega, fun _ => by decide⟩⟩
  · rw [if_neg h1]
    by_cases h2 : a = b
    · rw [if_pos h2]
      refine ⟨⟨fun h => absurd h (by decide), fun h => by omega⟩, ⟨fun _ => h2, fun _ => by decide⟩, ⟨fun h => absurd h (by decide), fun h => by omega⟩, ⟨fun _ => by omega, fun _ => by decide⟩, ⟨fun _ => by omega, fun _ => by decide⟩⟩
    · rw [if_neg h2]
      refine ⟨⟨fun _ => by omega, fun _ => by decide⟩, ⟨fun h => absurd h (by decide), fun h => by omega⟩, ⟨fun h => absurd h (by decide), fun h => by omega⟩, ⟨fun _ => by omega, fun _ => by decide⟩, ⟨fun h => absurd h (by decide), fun h => by omega⟩⟩
def b01 (v : Int) : Prop := v = 0 ∨ v = 1
theorem b01_nar {v : Int} (h : b01 v) : narrow .boolean (.int (iI v)) = .int (iI v) := by
  rcases h with rfl | rfl <;> rfl
theorem b01_vp {v : Int} (h : b01 v) : vp_nar .boolean (iI v) = iI v := by
  rcases h with rfl | rfl <;> rfl
theorem b01_fit {v : Int} (h : b01 v) : fits .boolean (.int (iI v)) = true := by
  rcases h with rfl | rfl <;> rfl
abbrev jx_C : Type := Program × Env × Room × State × MethodId × Array Value × List Frame × Method × Code × (State → Prop) × (Nat → Prop) × (Heap → Prop)
def jat (l : Launch) (D : va_G) (X : jx_C) (nL pc : Nat) (lv : List (Nat × Value)) (st : List Value) (ws : va_W) (k n : Nat) : Prop :=
  match X with
  | (p, e, R, s, m, args, below, meth, c, Q, A, G) => ∀ (H : Heap) (locs : List Loc) (ls : Array Slot), lv_has ls nL lv → va_P D classes ws H → va_D A ws → va_S A s.heap H locs ∧ G H → W p l e R s m args below meth c H locs k n Q (F0 m pc ls st)
def jfx (X : jx_C) (cc : ByteArray) (nL : Nat) (own : String) (fr lo mc ms : Nat) : Prop :=
  match X with
  | (p, _, R, s, m, args, _, _, c, _, _, _) => CallFix p m c cc nL s args tw_G own ∧ fr ≤ R.frames ∧ lo ≤ R.locals ∧ R.cells = mc ∧ R.slots = ms
def jkx (D : va_G) (tys : List (ClassId × FieldType)) (X : jx_C) : Prop :=
  match X with
  | (_, _, _, s, _, _, _, _, _, _, A, G) => va_K D classes tys s ∧ (∀ q, s.heap.size ≤ q → A q) ∧ ∀ H, G H
section JR
variable {l : Launch} {D : va_G} {X : jx_C} {nL pc fr lo mc ms k n : Nat} {cc : ByteArray} {own : String} {lv lv' : List (Nat × Value)} {st : List Value} {ws : va_W}
theorem j_iconst (F : jfx X cc nL own fr lo mc ms) {x : Int} (d : decode cc pc = .ok (.iconst x, 1)) (kk : jat l D X nL (pc + 1) lv (vi x :: st) ws k n) : jat l D X nL pc lv st ws k n := by
  obtain ⟨p, e, R, s, m, args, below, meth, co, Q, A, G⟩ := X
  obtain ⟨⟨hx, hb, hml, hown, hts⟩, hfr, hlo, hmc, hms⟩ := F
  intro H locs ls hl hP hD hS
  exact lv_iconst hx hb d rfl (kk H locs ls hl hP hD hS)
theorem j_bipush (F : jfx X cc nL own fr lo mc ms) {x : Int} (d : decode cc pc = .ok (.bipush x, 2)) (h : (Int8.ofInt x).toInt32 = iI x) (kk : jat l D X nL (pc + 2) lv (vi x :: st) ws k n) : jat l D X nL pc lv st ws k n := by
  obtain ⟨p, e, R, s, m, args, below, meth, co, Q, A, G⟩ := X
  obtain ⟨⟨hx, hb, hml, hown, hts⟩, hfr, hlo, hmc, hms⟩ := F
  intro H locs ls hl hP hD hS
  exact lv_bipush hx hb d h (kk H locs ls hl hP hD hS)
theorem j_sipush (F : jfx X cc nL own fr lo mc ms) {x : Int} (d : decode cc pc = .ok (.sipush x, 3)) (h : (Int16.ofInt x).toInt32 = iI x) (kk : jat l D X nL (pc + 3) lv (vi x :: st) ws k n) : jat l D X nL pc lv st ws k n := by
  obtain ⟨p, e, R, s, m, args, below, meth, co, Q, A, G⟩ := X
  obtain ⟨⟨hx, hb, hml, hown, hts⟩, hfr, hlo, hmc, hms⟩ := F
  intro H locs ls hl hP hD hS
  exact lv_sipush hx hb d h (kk H locs ls hl hP hD hS)
theorem j_lconst (F : jfx X cc nL own fr lo mc ms) {i : Fin 2} {x : Int} (d : decode cc pc = .ok (.lconst i, 1)) (h : Int64.ofNat (i : Nat) = lI x) (kk : jat l D X nL (pc + 1) lv (vl x :: st) ws k n) : jat l D X nL pc lv st ws k n := by
  obtain ⟨p, e, R, s, m, args, below, meth, co, Q, A, G⟩ := X
  obtain ⟨⟨hx, hb, hml, hown, hts⟩, hfr, hlo, hmc, hms⟩ := F
  intro H locs ls hl hP hD hS
  exact lv_lconst hx hb d h (kk H locs ls hl hP hD hS)
theorem j_ldc (F : jfx X cc nL own fr lo mc ms) {ix : Nat} {w : Int32} {x : Int} (hw : Cond.constant own ix w ∈ tw_G) (h : w = iI x) (d : decode cc pc = .ok (.ldc ix, 2)) (kk : jat l D X nL (pc + 2) lv (vi x :: st) ws k n) : jat l D X nL pc lv st ws k n := by
  obtain ⟨p, e, R, s, m, args, below, meth, co, Q, A, G⟩ := X
  obtain ⟨⟨hx, hb, hml, hown, hts⟩, hfr, hlo, hmc, hms⟩ := F
  intro H locs ls hl hP hD hS
  subst h; exact lv_ldc hx hb hown (hts _ hw) d (kk H locs ls hl hP hD hS)
theorem j_ldcw (F : jfx X cc nL own fr lo mc ms) {ix : Nat} {w : Int32} {x : Int} (hw : Cond.constant own ix w ∈ tw_G) (h : w = iI x) (d : decode cc pc = .ok (.ldc_w ix, 3)) (kk : jat l D X nL (pc + 3) lv (vi x :: st) ws k n) : jat l D X nL pc lv st ws k n := by
  obtain ⟨p, e, R, s, m, args, below, meth, co, Q, A, G⟩ := X
  obtain ⟨⟨hx, hb, hml, hown, hts⟩, hfr, hlo, hmc, hms⟩ := F
  intro H locs ls hl hP hD hS
  subst h; exact lv_ldcw hx hb hown (hts _ hw) d (kk H locs ls hl hP hD hS)
theorem j_ldc2 (F : jfx X cc nL own fr lo mc ms) {ix : Nat} {w : Int64} {x : Int} (hw : Cond.constantLong own ix w ∈ tw_G) (h : w = lI x) (d : decode cc pc = .ok (.ldc2_w ix, 3)) (kk : jat l D X nL (pc + 3) lv (vl x :: st) ws k n) : jat l D X nL pc lv st ws k n := by
  obtain ⟨p, e, R, s, m, args, below, meth, co, Q, A, G⟩ := X
  obtain ⟨⟨hx, hb, hml, hown, hts⟩, hfr, hlo, hmc, hms⟩ := F
  intro H locs ls hl hP hD hS
  subst h; exact lv_ldc2 hx hb hown (hts _ hw) d (kk H locs ls hl hP hD hS)
theorem j_iload_n (F : jfx X cc nL own fr lo mc ms) {j : Fin 4} {a : Int} (q : Nat) (d : decode cc pc = .ok (.iload_n j, 1)) (hq : lv[q]? = some ((j : Nat), vi a)) (kk : jat l D X nL (pc + 1) lv (vi a :: st) ws k n) : jat l D X nL pc lv st ws k n := by
  obtain ⟨p, e, R, s, m, args, below, meth, co, Q, A, G⟩ := X
  obtain ⟨⟨hx, hb, hml, hown, hts⟩, hfr, hlo, hmc, hms⟩ := F
  intro H locs ls hl hP hD hS
  exact lv_iload_n hx hb d rfl (lv_at hl q hq) (kk H locs ls hl hP hD hS)
theorem j_iload (F : jfx X cc nL own fr lo mc ms) {j : Nat} {a : Int} (q : Nat) (d : decode cc pc = .ok (.iload j, 2)) (hq : lv[q]? = some (j, vi a)) (kk : jat l D X nL (pc + 2) lv (vi a :: st) ws k n) : jat l D X nL pc lv st ws k n := by
  obtain ⟨p, e, R, s, m, args, below, meth, co, Q, A, G⟩ := X
  obtain ⟨⟨hx, hb, hml, hown, hts⟩, hfr, hlo, hmc, hms⟩ := F
  intro H locs ls hl hP hD hS
  exact lv_iload hx hb d (lv_at hl q hq) (kk H locs ls hl hP hD hS)
theorem j_istore_n (F : jfx X cc nL own fr lo mc ms) {j : Fin 4} {a : Int} (lv' : List (Nat × Value)) (d : decode cc pc = .ok (.istore_n j, 1)) (hn : (j : Nat) < nL) (he : ((j : Nat), Value.int (iI a)) :: lv.filter (fun q => !(q.1 == (j : Nat)) && !(q.1 + 1 == (j : Nat) && q.2.category == 2)) = lv') (kk : jat l D X nL (pc + 1) lv' st ws k n) : jat l D X nL pc lv (vi a :: st) ws k n := by
  obtain ⟨p, e, R, s, m, args, below, meth, co, Q, A, G⟩ := X
  obtain ⟨⟨hx, hb, hml, hown, hts⟩, hfr, hlo, hmc, hms⟩ := F
  intro H locs ls hl hP hD hS
  exact lv_istore_n hx hb d rfl hl hn he (fun ls' hl' => kk H locs ls' hl' hP hD hS)
theorem j_istore (F : jfx X cc nL own fr lo mc ms) {j : Nat} {a : Int} (lv' : List (Nat × Value)) (d : decode cc pc = .ok (.istore j, 2)) (hn : j < nL) (he : (j, Value.int (iI a)) :: lv.filter (fun q => !(q.1 == j) && !(q.1 + 1 == j && q.2.category == 2)) = lv') (kk : jat l D X nL (pc + 2) lv' st ws k n) : jat l D X nL pc lv (vi a :: st) ws k n := by
  obtain ⟨p, e, R, s, m, args, below, meth, co, Q, A, G⟩ := X
  obtain ⟨⟨hx, hb, hml, hown, hts⟩, hfr, hlo, hmc, hms⟩ := F
  intro H locs ls hl hP hD hS
  exact lv_istore hx hb d hl hn he (fun ls' hl' => kk H locs ls' hl' hP hD hS)
theorem j_lload_n (F : jfx X cc nL own fr lo mc ms) {j : Fin 4} {a : Int} (q : Nat) (d : decode cc pc = .ok (.lload_n j, 1)) (hq : lv[q]? = some ((j : Nat), vl a)) (kk : jat l D X nL (pc + 1) lv (vl a :: st) ws k n) : jat l D X nL pc lv st ws k n := by
  obtain ⟨p, e, R, s, m, args, below, meth, co, Q, A, G⟩ := X
  obtain ⟨⟨hx, hb, hml, hown, hts⟩, hfr, hlo, hmc, hms⟩ := F
  intro H locs ls hl hP hD hS
  exact lv_lload_n hx hb d rfl (lv_at hl q hq) (kk H locs ls hl hP hD hS)
theorem j_lload (F : jfx X cc nL own fr lo mc ms) {j : Nat} {a : Int} (q : Nat) (d : decode cc pc = .ok (.lload j, 2)) (hq : lv[q]? = some (j, vl a)) (kk : jat l D X nL (pc + 2) lv (vl a :: st) ws k n) : jat l D X nL pc lv st ws k n := by
  obtain ⟨p, e, R, s, m, args, below, meth, co, Q, A, G⟩ := X
  obtain ⟨⟨hx, hb, hml, hown, hts⟩, hfr, hlo, hmc, hms⟩ := F
  intro H locs ls hl hP hD hS
  exact lv_lload hx hb d (lv_at hl q hq) (kk H locs ls hl hP hD hS)
theorem j_lstore_n (F : jfx X cc nL own fr lo mc ms) {j : Fin 4} {a : Int} (lv' : List (Nat × Value)) (d : decode cc pc = .ok (.lstore_n j, 1)) (hn : (j : Nat) + 1 < nL) (he : ((j : Nat), Value.long (lI a)) :: lv.filter (fun q => !(q.1 == (j : Nat)) && (!(q.1 == (j : Nat) + 1) && !(q.1 + 1 == (j : Nat) && q.2.category == 2))) = lv') (kk : jat l D X nL (pc + 1) lv' st ws k n) : jat l D X nL pc lv (vl a :: st) ws k n := by
  obtain ⟨p, e, R, s, m, args, below, meth, co, Q, A, G⟩ := X
  obtain ⟨⟨hx, hb, hml, hown, hts⟩, hfr, hlo, hmc, hms⟩ := F
  intro H locs ls hl hP hD hS
  exact lv_lstore_n hx hb d rfl hl hn he (fun ls' hl' => kk H locs ls' hl' hP hD hS)
theorem j_lstore (F : jfx X cc nL own fr lo mc ms) {j : Nat} {a : Int} (lv' : List (Nat × Value)) (d : decode cc pc = .ok (.lstore j, 2)) (hn : j + 1 < nL) (he : (j, Value.long (lI a)) :: lv.filter (fun q => !(q.1 == j) && (!(q.1 == j + 1) && !(q.1 + 1 == j && q.2.category == 2))) = lv') (kk : jat l D X nL (pc + 2) lv' st ws k n) : jat l D X nL pc lv (vl a :: st) ws k n := by
  obtain ⟨p, e, R, s, m, args, below, meth, co, Q, A, G⟩ := X
  obtain ⟨⟨hx, hb, hml, hown, hts⟩, hfr, hlo, hmc, hms⟩ := F
  intro H locs ls hl hP hD hS
  exact lv_lstore hx hb d hl hn he (fun ls' hl' => kk H locs ls' hl' hP hD hS)
theorem j_aload_n (F : jfx X cc nL own fr lo mc ms) {j : Fin 4} {a : Nat} (q : Nat) (d : decode cc pc = .ok (.aload_n j, 1)) (hq : lv[q]? = some ((j : Nat), .ref a)) (kk : jat l D X nL (pc + 1) lv (.ref a :: st) ws k n) : jat l D X nL pc lv st ws k n := by
  obtain ⟨p, e, R, s, m, args, below, meth, co, Q, A, G⟩ := X
  obtain ⟨⟨hx, hb, hml, hown, hts⟩, hfr, hlo, hmc, hms⟩ := F
  intro H locs ls hl hP hD hS
  exact lv_aload_n hx hb d rfl (lv_at hl q hq) (kk H locs ls hl hP hD hS)
theorem j_aload (F : jfx X cc nL own fr lo mc ms) {j : Nat} {a : Nat} (q : Nat) (d : decode cc pc = .ok (.aload j, 2)) (hq : lv[q]? = some (j, .ref a)) (kk : jat l D X nL (pc + 2) lv (.ref a :: st) ws k n) : jat l D X nL pc lv st ws k n := by
  obtain ⟨p, e, R, s, m, args, below, meth, co, Q, A, G⟩ := X
  obtain ⟨⟨hx, hb, hml, hown, hts⟩, hfr, hlo, hmc, hms⟩ := F
  intro H locs ls hl hP hD hS
  exact lv_aload hx hb d (lv_at hl q hq) (kk H locs ls hl hP hD hS)
theorem j_astore_n (F : jfx X cc nL own fr lo mc ms) {j : Fin 4} {a : Nat} (lv' : List (Nat × Value)) (d : decode cc pc = .ok (.astore_n j, 1)) (hn : (j : Nat) < nL) (he : ((j : Nat), Value.ref a) :: lv.filter (fun q => !(q.1 == (j : Nat)) && !(q.1 + 1 == (j : Nat) && q.2.category == 2)) = lv') (kk : jat l D X nL (pc + 1) lv' st ws k n) : jat l D X nL pc lv (.ref a :: st) ws k n := by
  obtain ⟨p, e, R, s, m, args, below, meth, co, Q, A, G⟩ := X
  obtain ⟨⟨hx, hb, hml, hown, hts⟩, hfr, hlo, hmc, hms⟩ := F
  intro H locs ls hl hP hD hS
  exact lv_astore_n hx hb d rfl hl hn he (fun ls' hl' => kk H locs ls' hl' hP hD hS)
theorem j_astore (F : jfx X cc nL own fr lo mc ms) {j : Nat} {a : Nat} (lv' : List (Nat × Value)) (d : decode cc pc = .ok (.astore j, 2)) (hn : j < nL) (he : (j, Value.ref a) :: lv.filter (fun q => !(q.1 == j) && !(q.1 + 1 == j && q.2.category == 2)) = lv') (kk : jat l D X nL (pc + 2) lv' st ws k n) : jat l D X nL pc lv (.ref a :: st) ws k n := by
  obtain ⟨p, e, R, s, m, args, below, meth, co, Q, A, G⟩ := X
  obtain ⟨⟨hx, hb, hml, hown, hts⟩, hfr, hlo, hmc, hms⟩ := F
  intro H locs ls hl hP hD hS
  exact lv_astore hx hb d hl hn he (fun ls' hl' => kk H locs ls' hl' hP hD hS)
theorem j_iinc (F : jfx X cc nL own fr lo mc ms) {j : Nat} {a x : Int} (q : Nat) (lv' : List (Nat × Value)) (d : decode cc pc = .ok (.iinc j x, 3)) (hq : lv[q]? = some (j, vi a)) (hn : j < nL) (he : (j, Value.int (iI (a + x))) :: lv.filter (fun q => !(q.1 == j) && !(q.1 + 1 == j && q.2.category == 2)) = lv') (kk : jat l D X nL (pc + 3) lv' st ws k n) : jat l D X nL pc lv st ws k n := by
  obtain ⟨p, e, R, s, m, args, below, meth, co, Q, A, G⟩ := X
  obtain ⟨⟨hx, hb, hml, hown, hts⟩, hfr, hlo, hmc, hms⟩ := F
  intro H locs ls hl hP hD hS
  exact lv_iinc hx hb d hl hq (iI_add a x) hn he (fun ls' hl' => kk H locs ls' hl' hP hD hS)
theorem j_iadd (F : jfx X cc nL own fr lo mc ms) {a b : Int} (d : decode cc pc = .ok (.iadd, 1)) (kk : jat l D X nL (pc + 1) lv (vi (a + b) :: st) ws k n) : jat l D X nL pc lv (vi b :: vi a :: st) ws k n := by
  obtain ⟨p, e, R, s, m, args, below, meth, co, Q, A, G⟩ := X
  obtain ⟨⟨hx, hb, hml, hown, hts⟩, hfr, hlo, hmc, hms⟩ := F
  intro H locs ls hl hP hD hS
  refine lv_iadd hx hb d ?_; rw [iI_add]; exact kk H locs ls hl hP hD hS
theorem j_isub (F : jfx X cc nL own fr lo mc ms) {a b : Int} (d : decode cc pc = .ok (.isub, 1)) (kk : jat l D X nL (pc + 1) lv (vi (a - b) :: st) ws k n) : jat l D X nL pc lv (vi b :: vi a :: st) ws k n := by
  obtain ⟨p, e, R, s, m, args, below, meth, co, Q, A, G⟩ := X
  obtain ⟨⟨hx, hb, hml, hown, hts⟩, hfr, hlo, hmc, hms⟩ := F
  intro H locs ls hl hP hD hS
  refine lv_isub hx hb d ?_; rw [iI_sub]; exact kk H locs ls hl hP hD hS
theorem j_imul (F : jfx X cc nL own fr lo mc ms) {a b : Int} (d : decode cc pc = .ok (.imul, 1)) (kk : jat l D X nL (pc + 1) lv (vi (a * b) :: st) ws k n) : jat l D X nL pc lv (vi b :: vi a :: st) ws k n := by
  obtain ⟨p, e, R, s, m, args, below, meth, co, Q, A, G⟩ := X
  obtain ⟨⟨hx, hb, hml, hown, hts⟩, hfr, hlo, hmc, hms⟩ := F
  intro H locs ls hl hP hD hS
  refine lv_imul hx hb d ?_; rw [iI_mul]; exact kk H locs ls hl hP hD hS
theorem j_ladd (F : jfx X cc nL own fr lo mc ms) {a b : Int} (d : decode cc pc = .ok (.ladd, 1)) (kk : jat l D X nL (pc + 1) lv (vl (a + b) :: st) ws k n) : jat l D X nL pc lv (vl b :: vl a :: st) ws k n := by
  obtain ⟨p, e, R, s, m, args, below, meth, co, Q, A, G⟩ := X
  obtain ⟨⟨hx, hb, hml, hown, hts⟩, hfr, hlo, hmc, hms⟩ := F
  intro H locs ls hl hP hD hS
  refine lv_ladd hx hb d ?_; rw [lI_add]; exact kk H locs ls hl hP hD hS
theorem j_lsub (F : jfx X cc nL own fr lo mc ms) {a b : Int} (d : decode cc pc = .ok (.lsub, 1)) (kk : jat l D X nL (pc + 1) lv (vl (a - b) :: st) ws k n) : jat l D X nL pc lv (vl b :: vl a :: st) ws k n := by
  obtain ⟨p, e, R, s, m, args, below, meth, co, Q, A, G⟩ := X
  obtain ⟨⟨hx, hb, hml, hown, hts⟩, hfr, hlo, hmc, hms⟩ := F
  intro H locs ls hl hP hD hS
  refine lv_lsub hx hb d ?_; rw [lI_sub]; exact kk H locs ls hl hP hD hS
theorem j_lmul (F : jfx X cc nL own fr lo mc ms) {a b : Int} (d : decode cc pc = .ok (.lmul, 1)) (kk : jat l D X nL (pc + 1) lv (vl (a * b) :: st) ws k n) : jat l D X nL pc lv (vl b :: vl a :: st) ws k n := by
  obtain ⟨p, e, R, s, m, args, below, meth, co, Q, A, G⟩ := X
  obtain ⟨⟨hx, hb, hml, hown, hts⟩, hfr, hlo, hmc, hms⟩ := F
  intro H locs ls hl hP hD hS
  refine lv_lmul hx hb d ?_; rw [lI_mul]; exact kk H locs ls hl hP hD hS
theorem j_idiv (F : jfx X cc nL own fr lo mc ms) {a b : Int} (h : dvR a b) (d : decode cc pc = .ok (.idiv, 1)) (kk : jat l D X nL (pc + 1) lv (vi (a / b) :: st) ws k n) : jat l D X nL pc lv (vi b :: vi a :: st) ws k n := by
  obtain ⟨p, e, R, s, m, args, below, meth, co, Q, A, G⟩ := X
  obtain ⟨⟨hx, hb, hml, hown, hts⟩, hfr, hlo, hmc, hms⟩ := F
  intro H locs ls hl hP hD hS
  refine lv_idiv hx hb d (iI_ne0 h.2) ?_; rw [iI_div h]; exact kk H locs ls hl hP hD hS
theorem j_irem (F : jfx X cc nL own fr lo mc ms) {a b : Int} (h : dvR a b) (d : decode cc pc = .ok (.irem, 1)) (kk : jat l D X nL (pc + 1) lv (vi (a % b) :: st) ws k n) : jat l D X nL pc lv (vi b :: vi a :: st) ws k n := by
  obtain ⟨p, e, R, s, m, args, below, meth, co, Q, A, G⟩ := X
  obtain ⟨⟨hx, hb, hml, hown, hts⟩, hfr, hlo, hmc, hms⟩ := F
  intro H locs ls hl hP hD hS
  refine lv_irem hx hb d (iI_ne0 h.2) ?_; rw [iI_rem h]; exact kk H locs ls hl hP hD hS
theorem j_lrem (F : jfx X cc nL own fr lo mc ms) {a b : Int} (h : dvL a b) (d : decode cc pc = .ok (.lrem, 1)) (kk : jat l D X nL (pc + 1) lv (vl (a % b) :: st) ws k n) : jat l D X nL pc lv (vl b :: vl a :: st) ws k n := by
  obtain ⟨p, e, R, s, m, args, below, meth, co, Q, A, G⟩ := X
  obtain ⟨⟨hx, hb, hml, hown, hts⟩, hfr, hlo, hmc, hms⟩ := F
  intro H locs ls hl hP hD hS
  refine lv_lrem hx hb d (lI_ne0 h.2) ?_; rw [lI_rem h]; exact kk H locs ls hl hP hD hS
theorem j_ineg (F : jfx X cc nL own fr lo mc ms) {a : Int} (d : decode cc pc = .ok (.ineg, 1)) (kk : jat l D X nL (pc + 1) lv (vi (-a) :: st) ws k n) : jat l D X nL pc lv (vi a :: st) ws k n := by
  obtain ⟨p, e, R, s, m, args, below, meth, co, Q, A, G⟩ := X
  obtain ⟨⟨hx, hb, hml, hown, hts⟩, hfr, hlo, hmc, hms⟩ := F
  intro H locs ls hl hP hD hS
  refine lv_ineg hx hb d ?_; rw [iI_neg]; exact kk H locs ls hl hP hD hS
theorem j_i2l (F : jfx X cc nL own fr lo mc ms) {a : Int} (h : inR a) (d : decode cc pc = .ok (.i2l, 1)) (kk : jat l D X nL (pc + 1) lv (vl a :: st) ws k n) : jat l D X nL pc lv (vi a :: st) ws k n := by
  obtain ⟨p, e, R, s, m, args, below, meth, co, Q, A, G⟩ := X
  obtain ⟨⟨hx, hb, hml, hown, hts⟩, hfr, hlo, hmc, hms⟩ := F
  intro H locs ls hl hP hD hS
  exact lv_i2l hx hb d (iI_l h) (kk H locs ls hl hP hD hS)
theorem j_l2i (F : jfx X cc nL own fr lo mc ms) {a : Int} (d : decode cc pc = .ok (.l2i, 1)) (kk : jat l D X nL (pc + 1) lv (vi a :: st) ws k n) : jat l D X nL pc lv (vl a :: st) ws k n := by
  obtain ⟨p, e, R, s, m, args, below, meth, co, Q, A, G⟩ := X
  obtain ⟨⟨hx, hb, hml, hown, hts⟩, hfr, hlo, hmc, hms⟩ := F
  intro H locs ls hl hP hD hS
  exact lv_l2i hx hb d (lI_i a) (kk H locs ls hl hP hD hS)
theorem j_dup (F : jfx X cc nL own fr lo mc ms) {v : Value} (h : v.category = 1) (d : decode cc pc = .ok (.dup, 1)) (kk : jat l D X nL (pc + 1) lv (v :: v :: st) ws k n) : jat l D X nL pc lv (v :: st) ws k n := by
  obtain ⟨p, e, R, s, m, args, below, meth, co, Q, A, G⟩ := X
  obtain ⟨⟨hx, hb, hml, hown, hts⟩, hfr, hlo, hmc, hms⟩ := F
  intro H locs ls hl hP hD hS
  exact lv_dup hx hb d h (kk H locs ls hl hP hD hS)
theorem j_dup_x1 (F : jfx X cc nL own fr lo mc ms) {v w : Value} (h : v.category = 1) (h2 : w.category = 1) (d : decode cc pc = .ok (.dup_x1, 1)) (kk : jat l D X nL (pc + 1) lv (v :: w :: v :: st) ws k n) : jat l D X nL pc lv (v :: w :: st) ws k n := by
  obtain ⟨p, e, R, s, m, args, below, meth, co, Q, A, G⟩ := X
  obtain ⟨⟨hx, hb, hml, hown, hts⟩, hfr, hlo, hmc, hms⟩ := F
  intro H locs ls hl hP hD hS
  exact lv_dup_x1 hx hb d h h2 (kk H locs ls hl hP hD hS)
theorem j_dup2 (F : jfx X cc nL own fr lo mc ms) {v w : Value} (h : v.category = 1) (h2 : w.category = 1) (d : decode cc pc = .ok (.dup2, 1)) (kk : jat l D X nL (pc + 1) lv (v :: w :: v :: w :: st) ws k n) : jat l D X nL pc lv (v :: w :: st) ws k n := by
  obtain ⟨p, e, R, s, m, args, below, meth, co, Q, A, G⟩ := X
  obtain ⟨⟨hx, hb, hml, hown, hts⟩, hfr, hlo, hmc, hms⟩ := F
  intro H locs ls hl hP hD hS
  exact lv_dup2_11 hx hb d h h2 (kk H locs ls hl hP hD hS)
theorem j_pop (F : jfx X cc nL own fr lo mc ms) {v : Value} (h : v.category = 1) (d : decode cc pc = .ok (.pop, 1)) (kk : jat l D X nL (pc + 1) lv st ws k n) : jat l D X nL pc lv (v :: st) ws k n := by
  obtain ⟨p, e, R, s, m, args, below, meth, co, Q, A, G⟩ := X
  obtain ⟨⟨hx, hb, hml, hown, hts⟩, hfr, hlo, hmc, hms⟩ := F
  intro H locs ls hl hP hD hS
  exact lv_pop hx hb d h (kk H locs ls hl hP hD hS)
theorem j_goto (F : jfx X cc nL own fr lo mc ms) {x : Int} (tgt : Nat) (d : decode cc pc = .ok (.goto x, 3)) (ht : (pc : Int) + x = (tgt : Int)) (kk : jat l D X nL tgt lv st ws k n) : jat l D X nL pc lv st ws k n := by
  obtain ⟨p, e, R, s, m, args, below, meth, co, Q, A, G⟩ := X
  obtain ⟨⟨hx, hb, hml, hown, hts⟩, hfr, hlo, hmc, hms⟩ := F
  intro H locs ls hl hP hD hS
  exact lv_goto hx hb d ht (kk H locs ls hl hP hD hS)
theorem j_icmp_eq (F : jfx X cc nL own fr lo mc ms) {a b x : Int} (tgt : Nat) (ha : inR a) (hb' : inR b) (d : decode cc pc = .ok (.if_icmp .eq x, 3)) (ht : (pc : Int) + x = (tgt : Int)) (kt : (a = b) → jat l D X nL tgt lv st ws k n) (kf : ¬ (a = b) → jat l D X nL (pc + 3) lv st ws k n) : jat l D X nL pc lv (vi b :: vi a :: st) ws k n := by
  obtain ⟨p, e, R, s, m, args, below, meth, co, Q, A, G⟩ := X
  obtain ⟨⟨hx, hb, hml, hown, hts⟩, hfr, hlo, hmc, hms⟩ := F
  intro H locs ls hl hP hD hS
  refine lv_icmp_eq hx hb d ht (fun h => kt ?_ H locs ls hl hP hD hS) (fun h => kf (fun h2 => h ?_) H locs ls hl hP hD hS)
  · exact (iI_eq ha hb').mp h
  · exact (iI_eq ha hb').mpr h2
theorem j_if_eq (F : jfx X cc nL own fr lo mc ms) {a x : Int} (tgt : Nat) (ha : inR a) (d : decode cc pc = .ok (.ifCond .eq x, 3)) (ht : (pc : Int) + x = (tgt : Int)) (kt : (a = 0) → jat l D X nL tgt lv st ws k n) (kf : ¬ (a = 0) → jat l D X nL (pc + 3) lv st ws k n) : jat l D X nL pc lv (vi a :: st) ws k n := by
  obtain ⟨p, e, R, s, m, args, below, meth, co, Q, A, G⟩ := X
  obtain ⟨⟨hx, hb, hml, hown, hts⟩, hfr, hlo, hmc, hms⟩ := F
  intro H locs ls hl hP hD hS
  refine lv_if_eq hx hb d ht (fun h => kt ?_ H locs ls hl hP hD hS) (fun h => kf (fun h2 => h ?_) H locs ls hl hP hD hS)
  · rw [← iI_0] at h; exact (iI_eq ha inR_0).mp h
  · rw [← iI_0]; exact (iI_eq ha inR_0).mpr h2
theorem j_icmp_lt (F : jfx X cc nL own fr lo mc ms) {a b x : Int} (tgt : Nat) (ha : inR a) (hb' : inR b) (d : decode cc pc = .ok (.if_icmp .lt x, 3)) (ht : (pc : Int) + x = (tgt : Int)) (kt : (a < b) → jat l D X nL tgt lv st ws k n) (kf : ¬ (a < b) → jat l D X nL (pc + 3) lv st ws k n) : jat l D X nL pc lv (vi b :: vi a :: st) ws k n := by
  obtain ⟨p, e, R, s, m, args, below, meth, co, Q, A, G⟩ := X
  obtain ⟨⟨hx, hb, hml, hown, hts⟩, hfr, hlo, hmc, hms⟩ := F
  intro H locs ls hl hP hD hS
  refine lv_icmp_lt hx hb d ht (fun h => kt ?_ H locs ls hl hP hD hS) (fun h => kf (fun h2 => h ?_) H locs ls hl hP hD hS)
  · exact (iI_lt ha hb').mp h
  · exact (iI_lt ha hb').mpr h2
theorem j_if_lt (F : jfx X cc nL own fr lo mc ms) {a x : Int} (tgt : Nat) (ha : inR a) (d : decode cc pc = .ok (.ifCond .lt x, 3)) (ht : (pc : Int) + x = (tgt : Int)) (kt : (a < 0) → jat l D X nL tgt lv st ws k n) (kf : ¬ (a < 0) → jat l D X nL (pc + 3) lv st ws k n) : jat l D X nL pc lv (vi a :: st) ws k n := by
  obtain ⟨p, e, R, s, m, args, below, meth, co, Q, A, G⟩ := X
  obtain ⟨⟨hx, hb, hml, hown, hts⟩, hfr, hlo, hmc, hms⟩ := F
  intro H locs ls hl hP hD hS
  refine lv_if_lt hx hb d ht (fun h => kt ?_ H locs ls hl hP hD hS) (fun h => kf (fun h2 => h ?_) H locs ls hl hP hD hS)
  · rw [← iI_0] at h; exact (iI_lt ha inR_0).mp h
  · rw [← iI_0]; exact (iI_lt ha inR_0).mpr h2
theorem j_icmp_ge (F : jfx X cc nL own fr lo mc ms) {a b x : Int} (tgt : Nat) (ha : inR a) (hb' : inR b) (d : decode cc pc = .ok (.if_icmp .ge x, 3)) (ht : (pc : Int) + x = (tgt : Int)) (kt : (b ≤ a) → jat l D X nL tgt lv st ws k n) (kf : ¬ (b ≤ a) → jat l D X nL (pc + 3) lv st ws k n) : jat l D X nL pc lv (vi b :: vi a :: st) ws k n := by
  obtain ⟨p, e, R, s, m, args, below, meth, co, Q, A, G⟩ := X
  obtain ⟨⟨hx, hb, hml, hown, hts⟩, hfr, hlo, hmc, hms⟩ := F
  intro H locs ls hl hP hD hS
  refine lv_icmp_ge hx hb d ht (fun h => kt ?_ H locs ls hl hP hD hS) (fun h => kf (fun h2 => h ?_) H locs ls hl hP hD hS)
  · exact (iI_le hb' ha).mp h
  · exact (iI_le hb' ha).mpr h2
theorem j_if_ge (F : jfx X cc nL own fr lo mc ms) {a x : Int} (tgt : Nat) (ha : inR a) (d : decode cc pc = .ok (.ifCond .ge x, 3)) (ht : (pc : Int) + x = (tgt : Int)) (kt : (0 ≤ a) → jat l D X nL tgt lv st ws k n) (kf : ¬ (0 ≤ a) → jat l D X nL (pc + 3) lv st ws k n) : jat l D X nL pc lv (vi a :: st) ws k n := by
  obtain ⟨p, e, R, s, m, args, below, meth, co, Q, A, G⟩ := X
  obtain ⟨⟨hx, hb, hml, hown, hts⟩, hfr, hlo, hmc, hms⟩ := F
  intro H locs ls hl hP hD hS
  refine lv_if_ge hx hb d ht (fun h => kt ?_ H locs ls hl hP hD hS) (fun h => kf (fun h2 => h ?_) H locs ls hl hP hD hS)
  · rw [← iI_0] at h; exact (iI_le inR_0 ha).mp h
  · rw [← iI_0]; exact (iI_le inR_0 ha).mpr h2
theorem j_icmp_gt (F : jfx X cc nL own fr lo mc ms) {a b x : Int} (tgt : Nat) (ha : inR a) (hb' : inR b) (d : decode cc pc = .ok (.if_icmp .gt x, 3)) (ht : (pc : Int) + x = (tgt : Int)) (kt : (b < a) → jat l D X nL tgt lv st ws k n) (kf : ¬ (b < a) → jat l D X nL (pc + 3) lv st ws k n) : jat l D X nL pc lv (vi b :: vi a :: st) ws k n := by
  obtain ⟨p, e, R, s, m, args, below, meth, co, Q, A, G⟩ := X
  obtain ⟨⟨hx, hb, hml, hown, hts⟩, hfr, hlo, hmc, hms⟩ := F
  intro H locs ls hl hP hD hS
  refine lv_icmp_gt hx hb d ht (fun h => kt ?_ H locs ls hl hP hD hS) (fun h => kf (fun h2 => h ?_) H locs ls hl hP hD hS)
  · exact (iI_lt hb' ha).mp h
  · exact (iI_lt hb' ha).mpr h2
theorem j_if_gt (F : jfx X cc nL own fr lo mc ms) {a x : Int} (tgt : Nat) (ha : inR a) (d : decode cc pc = .ok (.ifCond .gt x, 3)) (ht : (pc : Int) + x = (tgt : Int)) (kt : (0 < a) → jat l D X nL tgt lv st ws k n) (kf : ¬ (0 < a) → jat l D X nL (pc + 3) lv st ws k n) : jat l D X nL pc lv (vi a :: st) ws k n := by
  obtain ⟨p, e, R, s, m, args, below, meth, co, Q, A, G⟩ := X
  obtain ⟨⟨hx, hb, hml, hown, hts⟩, hfr, hlo, hmc, hms⟩ := F
  intro H locs ls hl hP hD hS
  refine lv_if_gt hx hb d ht (fun h => kt ?_ H locs ls hl hP hD hS) (fun h => kf (fun h2 => h ?_) H locs ls hl hP hD hS)
  · rw [← iI_0] at h; exact (iI_lt inR_0 ha).mp h
  · rw [← iI_0]; exact (iI_lt inR_0 ha).mpr h2
theorem j_icmp_le (F : jfx X cc nL own fr lo mc ms) {a b x : Int} (tgt : Nat) (ha : inR a) (hb' : inR b) (d : decode cc pc = .ok (.if_icmp .le x, 3)) (ht : (pc : Int) + x = (tgt : Int)) (kt : (a ≤ b) → jat l D X nL tgt lv st ws k n) (kf : ¬ (a ≤ b) → jat l D X nL (pc + 3) lv st ws k n) : jat l D X nL pc lv (vi b :: vi a :: st) ws k n := by
  obtain ⟨p, e, R, s, m, args, below, meth, co, Q, A, G⟩ := X
  obtain ⟨⟨hx, hb, hml, hown, hts⟩, hfr, hlo, hmc, hms⟩ := F
  intro H locs ls hl hP hD hS
  refine lv_icmp_le hx hb d ht (fun h => kt ?_ H locs ls hl hP hD hS) (fun h => kf (fun h2 => h ?_) H locs ls hl hP hD hS)
  · exact (iI_le ha hb').mp h
  · exact (iI_le ha hb').mpr h2
theorem j_if_le (F : jfx X cc nL own fr lo mc ms) {a x : Int} (tgt : Nat) (ha : inR a) (d : decode cc pc = .ok (.ifCond .le x, 3)) (ht : (pc : Int) + x = (tgt : Int)) (kt : (a ≤ 0) → jat l D X nL tgt lv st ws k n) (kf : ¬ (a ≤ 0) → jat l D X nL (pc + 3) lv st ws k n) : jat l D X nL pc lv (vi a :: st) ws k n := by
  obtain ⟨p, e, R, s, m, args, below, meth, co, Q, A, G⟩ := X
  obtain ⟨⟨hx, hb, hml, hown, hts⟩, hfr, hlo, hmc, hms⟩ := F
  intro H locs ls hl hP hD hS
  refine lv_if_le hx hb d ht (fun h => kt ?_ H locs ls hl hP hD hS) (fun h => kf (fun h2 => h ?_) H locs ls hl hP hD hS)
  · rw [← iI_0] at h; exact (iI_le ha inR_0).mp h
  · rw [← iI_0]; exact (iI_le ha inR_0).mpr h2
theorem j_icmp_ne (F : jfx X cc nL own fr lo mc ms) {a b x : Int} (tgt : Nat) (ha : inR a) (hb' : inR b) (d : decode cc pc = .ok (.if_icmp .ne x, 3)) (ht : (pc : Int) + x = (tgt : Int)) (kt : ¬ a = b → jat l D X nL tgt lv st ws k n) (kf : a = b → jat l D X nL (pc + 3) lv st ws k n) : jat l D X nL pc lv (vi b :: vi a :: st) ws k n := by
  obtain ⟨p, e, R, s, m, args, below, meth, co, Q, A, G⟩ := X
  obtain ⟨⟨hx, hb, hml, hown, hts⟩, hfr, hlo, hmc, hms⟩ := F
  intro H locs ls hl hP hD hS
  exact lv_icmp_ne hx hb d ht (fun h => kt (fun h2 => h ((iI_eq ha hb').mpr h2)) H locs ls hl hP hD hS) (fun h => kf ((iI_eq ha hb').mp h) H locs ls hl hP hD hS)
theorem j_if_ne (F : jfx X cc nL own fr lo mc ms) {a x : Int} (tgt : Nat) (ha : inR a) (d : decode cc pc = .ok (.ifCond .ne x, 3)) (ht : (pc : Int) + x = (tgt : Int)) (kt : ¬ a = 0 → jat l D X nL tgt lv st ws k n) (kf : a = 0 → jat l D X nL (pc + 3) lv st ws k n) : jat l D X nL pc lv (vi a :: st) ws k n := by
  obtain ⟨p, e, R, s, m, args, below, meth, co, Q, A, G⟩ := X
  obtain ⟨⟨hx, hb, hml, hown, hts⟩, hfr, hlo, hmc, hms⟩ := F
  intro H locs ls hl hP hD hS
  exact lv_if_ne hx hb d ht (fun h => kt (fun h2 => h (by rw [← iI_0]; exact (iI_eq ha inR_0).mpr h2)) H locs ls hl hP hD hS) (fun h => kf ((iI_eq ha inR_0).mp (by rw [iI_0]; exact h)) H locs ls hl hP hD hS)
theorem j_lcmp_lt (F : jfx X cc nL own fr lo mc ms) {a b x : Int} (tgt : Nat) (ha : inL a) (hb' : inL b) (d : decode cc pc = .ok (.lcmp, 1)) (d2 : decode cc (pc + 1) = .ok (.ifCond .lt x, 3)) (ht : ((pc + 1 : Nat) : Int) + x = (tgt : Int)) (kt : (a < b) → jat l D X nL tgt lv st ws k n) (kf : ¬ (a < b) → jat l D X nL (pc + 4) lv st ws k n) : jat l D X nL pc lv (vl b :: vl a :: st) ws k n := by
  obtain ⟨p, e, R, s, m, args, below, meth, co, Q, A, G⟩ := X
  obtain ⟨⟨hx, hb, hml, hown, hts⟩, hfr, hlo, hmc, hms⟩ := F
  intro H locs ls hl hP hD hS
  have hc := (lcmp_if ha hb').1
  exact W.lcmp hx hb d (lv_if_lt hx hb d2 ht (fun h => kt (hc.mp h) H locs ls hl hP hD hS) (fun h => kf (fun h2 => h (hc.mpr h2)) H locs ls hl hP hD hS))
theorem j_lcmp_eq (F : jfx X cc nL own fr lo mc ms) {a b x : Int} (tgt : Nat) (ha : inL a) (hb' : inL b) (d : decode cc pc = .ok (.lcmp, 1)) (d2 : decode cc (pc + 1) = .ok (.ifCond .eq x, 3)) (ht : ((pc + 1 : Nat) : Int) + x = (tgt : Int)) (kt : (a = b) → jat l D X nL tgt lv st ws k n) (kf : ¬ (a = b) → jat l D X nL (pc + 4) lv st ws k n) : jat l D X nL pc lv (vl b :: vl a :: st) ws k n := by
  obtain ⟨p, e, R, s, m, args, below, meth, co, Q, A, G⟩ := X
  obtain ⟨⟨hx, hb, hml, hown, hts⟩, hfr, hlo, hmc, hms⟩ := F
  intro H locs ls hl hP hD hS
  have hc := (lcmp_if ha hb').2.1
  exact W.lcmp hx hb d (lv_if_eq hx hb d2 ht (fun h => kt (hc.mp h) H locs ls hl hP hD hS) (fun h => kf (fun h2 => h (hc.mpr h2)) H locs ls hl hP hD hS))
theorem j_lcmp_gt (F : jfx X cc nL own fr lo mc ms) {a b x : Int} (tgt : Nat) (ha : inL a) (hb' : inL b) (d : decode cc pc = .ok (.lcmp, 1)) (d2 : decode cc (pc + 1) = .ok (.ifCond .gt x, 3)) (ht : ((pc + 1 : Nat) : Int) + x = (tgt : Int)) (kt : (b < a) → jat l D X nL tgt lv st ws k n) (kf : ¬ (b < a) → jat l D X nL (pc + 4) lv st ws k n) : jat l D X nL pc lv (vl b :: vl a :: st) ws k n := by
  obtain ⟨p, e, R, s, m, args, below, meth, co, Q, A, G⟩ := X
  obtain ⟨⟨hx, hb, hml, hown, hts⟩, hfr, hlo, hmc, hms⟩ := F
  intro H locs ls hl hP hD hS
  have hc := (lcmp_if ha hb').2.2.1
  exact W.lcmp hx hb d (lv_if_gt hx hb d2 ht (fun h => kt (hc.mp h) H locs ls hl hP hD hS) (fun h => kf (fun h2 => h (hc.mpr h2)) H locs ls hl hP hD hS))
theorem j_lcmp_le (F : jfx X cc nL own fr lo mc ms) {a b x : Int} (tgt : Nat) (ha : inL a) (hb' : inL b) (d : decode cc pc = .ok (.lcmp, 1)) (d2 : decode cc (pc + 1) = .ok (.ifCond .le x, 3)) (ht : ((pc + 1 : Nat) : Int) + x = (tgt : Int)) (kt : (a ≤ b) → jat l D X nL tgt lv st ws k n) (kf : ¬ (a ≤ b) → jat l D X nL (pc + 4) lv st ws k n) : jat l D X nL pc lv (vl b :: vl a :: st) ws k n := by
  obtain ⟨p, e, R, s, m, args, below, meth, co, Q, A, G⟩ := X
  obtain ⟨⟨hx, hb, hml, hown, hts⟩, hfr, hlo, hmc, hms⟩ := F
  intro H locs ls hl hP hD hS
  have hc := (lcmp_if ha hb').2.2.2.1
  exact W.lcmp hx hb d (lv_if_le hx hb d2 ht (fun h => kt (hc.mp h) H locs ls hl hP hD hS) (fun h => kf (fun h2 => h (hc.mpr h2)) H locs ls hl hP hD hS))
theorem j_lcmp_ge (F : jfx X cc nL own fr lo mc ms) {a b x : Int} (tgt : Nat) (ha : inL a) (hb' : inL b) (d : decode cc pc = .ok (.lcmp, 1)) (d2 : decode cc (pc + 1) = .ok (.ifCond .ge x, 3)) (ht : ((pc + 1 : Nat) : Int) + x = (tgt : Int)) (kt : (b ≤ a) → jat l D X nL tgt lv st ws k n) (kf : ¬ (b ≤ a) → jat l D X nL (pc + 4) lv st ws k n) : jat l D X nL pc lv (vl b :: vl a :: st) ws k n := by
  obtain ⟨p, e, R, s, m, args, below, meth, co, Q, A, G⟩ := X
  obtain ⟨⟨hx, hb, hml, hown, hts⟩, hfr, hlo, hmc, hms⟩ := F
  intro H locs ls hl hP hD hS
  have hc := (lcmp_if ha hb').2.2.2.2
  exact W.lcmp hx hb d (lv_if_ge hx hb d2 ht (fun h => kt (hc.mp h) H locs ls hl hP hD hS) (fun h => kf (fun h2 => h (hc.mpr h2)) H locs ls hl hP hD hS))
theorem j_lcmp_ne (F : jfx X cc nL own fr lo mc ms) {a b x : Int} (tgt : Nat) (ha : inL a) (hb' : inL b) (d : decode cc pc = .ok (.lcmp, 1)) (d2 : decode cc (pc + 1) = .ok (.ifCond .ne x, 3)) (ht : ((pc + 1 : Nat) : Int) + x = (tgt : Int)) (kt : ¬ a = b → jat l D X nL tgt lv st ws k n) (kf : a = b → jat l D X nL (pc + 4) lv st ws k n) : jat l D X nL pc lv (vl b :: vl a :: st) ws k n := by
  obtain ⟨p, e, R, s, m, args, below, meth, co, Q, A, G⟩ := X
  obtain ⟨⟨hx, hb, hml, hown, hts⟩, hfr, hlo, hmc, hms⟩ := F
  intro H locs ls hl hP hD hS
  have hc := (lcmp_if ha hb').2.1
  exact W.lcmp hx hb d (lv_if_ne hx hb d2 ht (fun h => kt (fun h2 => h (hc.mpr h2)) H locs ls hl hP hD hS) (fun h => kf (hc.mp h) H locs ls hl hP hD hS))
theorem j_tableOut {dflt lo' hi x : Int} {offs : Array Int} {len : Nat} (F : jfx X cc nL own fr lo mc ms) (tgt : Nat) (hx' : inR x) (d : decode cc pc = .ok (.tableswitch dflt lo' hi offs, len)) (h : x < lo' ∨ hi < x) (ht : (pc : Int) + dflt = (tgt : Int)) (kk : jat l D X nL tgt lv st ws k n) : jat l D X nL pc lv (vi x :: st) ws k n := by
  obtain ⟨p, e, R, s, m, args, below, meth, co, Q, A, G⟩ := X
  obtain ⟨⟨hx, hb, hml, hown, hts⟩, hfr, hlo, hmc, hms⟩ := F
  intro H locs ls hl hP hD hS
  exact lv_tableOut hx hb d (by rw [iI_toInt hx']; exact h) ht (kk H locs ls hl hP hD hS)
theorem j_tableIn {dflt lo' hi x c z : Int} {offs : Array Int} {len : Nat} (F : jfx X cc nL own fr lo mc ms) (tgt : Nat) (hx' : inR x) (d : decode cc pc = .ok (.tableswitch dflt lo' hi offs, len)) (hy : x = c) (h1 : ¬ c < lo') (h2 : ¬ hi < c) (ho : offs[(c - lo').toNat]? = some z) (ht : (pc : Int) + z = (tgt : Int)) (kk : jat l D X nL tgt lv st ws k n) : jat l D X nL pc lv (vi x :: st) ws k n := by
  obtain ⟨p, e, R, s, m, args, below, meth, co, Q, A, G⟩ := X
  obtain ⟨⟨hx, hb, hml, hown, hts⟩, hfr, hlo, hmc, hms⟩ := F
  intro H locs ls hl hP hD hS
  subst hy
  exact lv_tableIn hx hb d (by rw [iI_toInt hx']; exact h1) (by rw [iI_toInt hx']; exact h2) (by rw [iI_toInt hx']; exact ho) ht (kk H locs ls hl hP hD hS)
theorem j_sub {lv lv' : List (Nat × Value)} (is : List Nat) (h : lv_pick lv is = lv') (kk : jat l D X nL pc lv' st ws k n) : jat l D X nL pc lv st ws k n := by
  obtain ⟨p, e, R, s, m, args, below, meth, co, Q, A, G⟩ := X
  intro H locs ls hl hP hD hS
  exact kk H locs ls (lv_sub hl is h) hP hD hS
theorem j_nmi {a : Int} (kk : ∀ v : Int, v = a → jat l D X nL pc lv (vi v :: st) ws k n) : jat l D X nL pc lv (vi a :: st) ws k n := kk a rfl
theorem j_nml {a : Int} (kk : ∀ v : Int, v = a → jat l D X nL pc lv (vl v :: st) ws k n) : jat l D X nL pc lv (vl a :: st) ws k n := kk a rfl
theorem j_bip {x : Int} (h1 : -128 ≤ x) (h2 : x ≤ 127) : (Int8.ofInt x).toInt32 = iI x := by
  apply Int32.toInt.inj
  rw [Int8.toInt_toInt32, iI_toInt (by unfold inR; omega), Int8.toInt_ofInt_of_le (by omega) (by omega)]
theorem j_sip {x : Int} (h1 : -32768 ≤ x) (h2 : x ≤ 32767) : (Int16.ofInt x).toInt32 = iI x := by
  apply Int32.toInt.inj
  rw [Int16.toInt_toInt32, iI_toInt (by unfold inR; omega), Int16.toInt_ofInt_of_le (by omega) (by omega)]
end JR
/-! static methods of ints: nothing of the heap -/
def jSi (l : Launch) (y : MethodName) (cc : ByteArray) (maxL : Nat) (ret : Option FieldType) (fr lo : Nat) (av : List Value) (post : Int → Prop) : Prop :=
  Met l y (Cond.code y cc maxL ret :: tw_G) { frames := fr, cells := 0, slots := 0, locals := lo } (tw_P0 av) (vp_Si (fun r => ∃ v, r = iI v ∧ post v)) 0 0 (fun _ => False)
def jSl (l : Launch) (y : MethodName) (cc : ByteArray) (maxL : Nat) (ret : Option FieldType) (fr lo : Nat) (av : List Value) (post : Int → Prop) : Prop :=
  Met l y (Cond.code y cc maxL ret :: tw_G) { frames := fr, cells := 0, slots := 0, locals := lo } (tw_P0 av) (vp_Sl (fun r => ∃ v, r = lI v ∧ post v)) 0 0 (fun _ => False)
section JS
variable {l : Launch} {D : va_G} {X : jx_C} {nL pc fr lo mc ms k n : Nat} {cc : ByteArray} {own : String} {lv lv' : List (Nat × Value)} {st rest : List Value} {ws : va_W} {y : MethodName} {ret : Option FieldType} {maxL : Nat} {av : List Value} {post : Int → Prop}
theorem j_static (hy : plainName y.cls = true) (ho : y.cls = own) (hm : (lg_sl av).length ≤ maxL)
    (body : ∀ X : jx_C, jfx X cc maxL own fr lo 0 0 → (∀ (v : Int) (pc : Nat) (lv : List (Nat × Value)), post v → decode cc pc = .ok (.ireturn, 1) → jat l D X maxL pc lv [vi v] [] 0 0) → jat l D X maxL 0 (lv_args 0 av) [] [] 0 0) : jSi l y cc maxL (some .int) fr lo av post := by
  refine Met.ofW (cc := cc) (maxL := maxL) (ret := some .int) hy rfl ?_
  intro p e s m args below meth c s₁ B hml hv
  obtain ⟨rfl, -⟩ := hv
  have hx := B.exec
  have hb := B.bytes
  have hr := B.returns
  have hts : ∀ w ∈ tw_G, w.before _ s = true := fun w h => atoms_spec (ws := Cond.code y cc maxL (some .int) :: tw_G) B.pre w (List.mem_cons_of_mem _ h)
  have hown : s.vm.findClass own = some m.cls := by rw [← ho]; exact findClass_of_methodNamed B.named
  have hlocks := B.notSynchronized
  have hl := lv_entry av (n := maxL) hm
  rw [lg_entry_eq]
  refine body (p, e, _, s, m, _, below, meth, c, _, (fun _ => False), (fun H => H = s.heap)) ⟨⟨hx, hb, hml, hown, hts⟩, Nat.le_refl _, Nat.le_refl _, rfl, rfl⟩ ?_ s.heap [] _ hl (fun k q h => by simp at h) ⟨fun i j p q h => by simp at h, fun k q h => by simp at h⟩ ⟨va_S.rf, rfl⟩
  intro v pc lv hp d H locs ls hl hP hD hS
  exact W.iret hx hb hr (fun t ht hW => ⟨iI v, rfl, ⟨v, rfl, hp⟩, by rw [ht, hS.2]⟩) hS.1.2.2 d
theorem j_staticZ (hy : plainName y.cls = true) (ho : y.cls = own) (hm : (lg_sl av).length ≤ maxL)
    (body : ∀ X : jx_C, jfx X cc maxL own fr lo 0 0 → (∀ (v : Int) (pc : Nat) (lv : List (Nat × Value)), post v → b01 v → decode cc pc = .ok (.ireturn, 1) → jat l D X maxL pc lv [vi v] [] 0 0) → jat l D X maxL 0 (lv_args 0 av) [] [] 0 0) : jSi l y cc maxL (some .boolean) fr lo av post := by
  refine Met.ofW (cc := cc) (maxL := maxL) (ret := some .boolean) hy rfl ?_
  intro p e s m args below meth c s₁ B hml hv
  obtain ⟨rfl, -⟩ := hv
  have hx := B.exec
  have hb := B.bytes
  have hr := B.returns
  have hts : ∀ w ∈ tw_G, w.before _ s = true := fun w h => atoms_spec (ws := Cond.code y cc maxL (some .boolean) :: tw_G) B.pre w (List.mem_cons_of_mem _ h)
  have hown : s.vm.findClass own = some m.cls := by rw [← ho]; exact findClass_of_methodNamed B.named
  have hlocks := B.notSynchronized
  have hl := lv_entry av (n := maxL) hm
  rw [lg_entry_eq]
  refine body (p, e, _, s, m, _, below, meth, c, _, (fun _ => False), (fun H => H = s.heap)) ⟨⟨hx, hb, hml, hown, hts⟩, Nat.le_refl _, Nat.le_refl _, rfl, rfl⟩ ?_ s.heap [] _ hl (fun k q h => by simp at h) ⟨fun i j p q h => by simp at h, fun k q h => by simp at h⟩ ⟨va_S.rf, rfl⟩
  intro v pc lv hp hz d H locs ls hl hP hD hS
  exact W.zret (ty := .boolean) hx hb hr (b01_nar hz) (fun t ht hW => ⟨iI v, rfl, ⟨v, rfl, hp⟩, by rw [ht, hS.2]⟩) hS.1.2.2 d
theorem j_staticL (hy : plainName y.cls = true) (ho : y.cls = own) (hm : (lg_sl av).length ≤ maxL)
    (body : ∀ X : jx_C, jfx X cc maxL own fr lo 0 0 → (∀ (v : Int) (pc : Nat) (lv : List (Nat × Value)), post v → decode cc pc = .ok (.lreturn, 1) → jat l D X maxL pc lv [vl v] [] 0 0) → jat l D X maxL 0 (lv_args 0 av) [] [] 0 0) : jSl l y cc maxL (some .long) fr lo av post := by
  refine Met.ofW (cc := cc) (maxL := maxL) (ret := some .long) hy rfl ?_
  intro p e s m args below meth c s₁ B hml hv
  obtain ⟨rfl, -⟩ := hv
  have hx := B.exec
  have hb := B.bytes
  have hr := B.returns
  have hts : ∀ w ∈ tw_G, w.before _ s = true := fun w h => atoms_spec (ws := Cond.code y cc maxL (some .long) :: tw_G) B.pre w (List.mem_cons_of_mem _ h)
  have hown : s.vm.findClass own = some m.cls := by rw [← ho]; exact findClass_of_methodNamed B.named
  have hlocks := B.notSynchronized
  have hl := lv_entry av (n := maxL) hm
  rw [lg_entry_eq]
  refine body (p, e, _, s, m, _, below, meth, c, _, (fun _ => False), (fun H => H = s.heap)) ⟨⟨hx, hb, hml, hown, hts⟩, Nat.le_refl _, Nat.le_refl _, rfl, rfl⟩ ?_ s.heap [] _ hl (fun k q h => by simp at h) ⟨fun i j p q h => by simp at h, fun k q h => by simp at h⟩ ⟨va_S.rf, rfl⟩
  intro v pc lv hp d H locs ls hl hP hD hS
  exact W.lret hx hb hr (fun t ht hW => ⟨lI v, rfl, ⟨v, rfl, hp⟩, by rw [ht, hS.2]⟩) hS.1.2.2 d
theorem j_callS {cy : ByteArray} {fr' lo' N idx : Nat} (F : jfx X cc nL own fr lo mc ms) (M : jSi l y cy maxL ret fr' lo' av post) (g : GoodIn tw_G (va_wsS own idx y (Cond.code y cy maxL ret :: tw_G)))
    (hd : y.cls ≠ "java/lang/invoke/MethodHandle" ∧ y.cls ≠ "java/lang/invoke/VarHandle" ∧ (parseMethodDescriptor y.desc).map (fun d => d.parameters.length) = some N) (hn : av.length = N) (hR : fr' + 1 ≤ fr ∧ 8 + (maxL + 11) + lo' ≤ lo) (hc : k ≤ mc ∧ n ≤ ms)
    (hst : st = av.reverse ++ rest) (hW : (rest.map fun v => v.category).sum ≤ 8) (d : decode cc pc = .ok (.invokestatic idx, 3)) (kk : ∀ v, post v → jat l D X nL (pc + 3) lv (vi v :: rest) ws k n) : jat l D X nL pc lv st ws k n := by
  obtain ⟨p, e, R, s, m, args, below, meth, co, Q, A, G⟩ := X
  obtain ⟨⟨hx, hb, hml, hown, hts⟩, hfr, hlo, hmc, hms⟩ := F
  intro H locs ls hl hP hD hS
  refine vp_callSi (W.runS (As := av) (rest := rest) ⟨hx, hb, hml, hown, hts⟩ M (va_cwS N hts g rfl rfl rfl hd ⟨Nat.le_trans hR.1 hfr, Nat.le_trans hR.2 hlo⟩) tw_s0 rfl hn hl.1 hst (lv_room hW) d ⟨by rw [hmc]; exact hc.1, by rw [hms]; exact hc.2⟩) ?_
  rintro r ⟨v, rfl, hp⟩
  exact kk v hp H locs ls hl hP hD hS
theorem j_callSl {cy : ByteArray} {fr' lo' N idx : Nat} (F : jfx X cc nL own fr lo mc ms) (M : jSl l y cy maxL ret fr' lo' av post) (g : GoodIn tw_G (va_wsS own idx y (Cond.code y cy maxL ret :: tw_G)))
    (hd : y.cls ≠ "java/lang/invoke/MethodHandle" ∧ y.cls ≠ "java/lang/invoke/VarHandle" ∧ (parseMethodDescriptor y.desc).map (fun d => d.parameters.length) = some N) (hn : av.length = N) (hR : fr' + 1 ≤ fr ∧ 8 + (maxL + 11) + lo' ≤ lo) (hc : k ≤ mc ∧ n ≤ ms)
    (hst : st = av.reverse ++ rest) (hW : (rest.map fun v => v.category).sum ≤ 8) (d : decode cc pc = .ok (.invokestatic idx, 3)) (kk : ∀ v, post v → jat l D X nL (pc + 3) lv (vl v :: rest) ws k n) : jat l D X nL pc lv st ws k n := by
  obtain ⟨p, e, R, s, m, args, below, meth, co, Q, A, G⟩ := X
  obtain ⟨⟨hx, hb, hml, hown, hts⟩, hfr, hlo, hmc, hms⟩ := F
  intro H locs ls hl hP hD hS
  refine vp_callSl (W.runS (As := av) (rest := rest) ⟨hx, hb, hml, hown, hts⟩ M (va_cwS N hts g rfl rfl rfl hd ⟨Nat.le_trans hR.1 hfr, Nat.le_trans hR.2 hlo⟩) tw_s0 rfl hn hl.1 hst (lv_room hW) d ⟨by rw [hmc]; exact hc.1, by rw [hms]; exact hc.2⟩) ?_
  rintro r ⟨v, rfl, hp⟩
  exact kk v hp H locs ls hl hP hD hS
end JS
