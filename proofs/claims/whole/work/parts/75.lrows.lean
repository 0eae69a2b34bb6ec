/-! THE LAW'S ROWS: its world is the book's, the answer's cell, the reference's; side by side. -/
abbrev lww (k : CK) (T : CS) (ho : Nat) (kL : ClassId) (f : Nat → Int64) (hm : Nat) (ad : Nat → Nat) (kc : Nat → ClassId) (S : MS) : va_W := (cwd k T ++ hwo ho kL f) ++ mw hm ad kc S
def jkw (k : CK) (D : va_G) (kL : ClassId) (kc : Nat → ClassId) (X : jx_C) : Prop :=
  match X with
  | (_, _, _, s, _, _, _, _, _, _, A, G) => va_K D classes (ctys k ++ [(kL, .long)]) s ∧ va_K D classes (mtys kc) s ∧ (∀ q, s.heap.size ≤ q → A q) ∧ (∀ H, G H) ∧ ce k A s s.heap ∧ lb_E s ∧ lb_Nc s ∧ ∀ (a : Nat) (cell : Cell), s.heap[a]? = some cell → cell.vm.isStatics = true → ¬ A a
def jsx (X : jx_C) (b L : Nat) (xs : Nat → Int32) : Prop :=
  match X with
  | (_, _, _, s, _, _, _, _, _, _, A, _) => va_X b L xs s s.heap ∧ b < s.heap.size ∧ ¬ A b
theorem iI_and31 {a : Int} (ha : inR a) : iI a &&& 31 = iI (a % 32) := by
  have h := pk_and (iI a) (m := 31) 5 (by decide)
  rw [h]
  have e1 : ((iI a).toBitVec.toNat : Int) = a % 4294967296 := by
    show ((BitVec.ofInt 32 a).toNat : Int) = _
    rw [BitVec.toNat_ofInt]
    have : (0 : Int) ≤ a % 4294967296 := Int.emod_nonneg _ (by omega)
    show ((a % (2 ^ 32 : Nat)).toNat : Int) = _
    omega
  apply Int32.toInt.inj
  rw [nI_toInt (by omega), iI_toInt (by unfold inR; omega)]
  omega
section LWR
variable {l : Launch} {D : va_G} {X : jx_C} {nL pc fr lo mc ms c n : Nat} {cc : ByteArray} {own : String} {lv : List (Nat × Value)} {st rest : List Value} {k : CK} {T : CS} {y : MethodName} {ret : Option FieldType} {maxL : Nat} {av : List Value} {kL : ClassId} {ho hm : Nat} {f : Nat → Int64} {ad : Nat → Nat} {kc : Nat → ClassId} {S : MS} {ws : va_W}
theorem w_iand31 (F : jfx X cc nL own fr lo mc ms) {a : Int} (ha : inR a) (d : decode cc pc = .ok (.iand, 1)) (kk : jat l D X nL (pc + 1) lv (vi (a % 32) :: st) ws c n) : jat l D X nL pc lv (vi 31 :: vi a :: st) ws c n := by
  obtain ⟨p, e, R, s, m, args, below, meth, co, Q, A, G⟩ := X
  obtain ⟨⟨hx, hb, hml, hown, hts⟩, hfr, hlo, hmc, hms⟩ := F
  intro H locs ls hl hP hD hS
  refine lv_iand hx hb d ?_
  rw [show iI 31 = 31 from by decide, iI_and31 ha]
  exact kk H locs ls hl hP hD hS
theorem w_sld (F : jfx X cc nL own fr lo mc ms) {b L : Nat} {xs : Nat → Int32} (Z : jsx X b L xs) (hL : L ≤ 3584) {i : Int} (hi : ixR i L) (d : decode cc pc = .ok (.iaload, 1)) (kk : jat l D X nL (pc + 1) lv (vi ((xs i.toNat).toInt) :: st) ws c n) : jat l D X nL pc lv (vi i :: .ref b :: st) ws c n := by
  obtain ⟨p, e, R, s, m, args, below, meth, co, Q, A, G⟩ := X
  obtain ⟨⟨hx, hb, hml, hown, hts⟩, hfr, hlo, hmc, hms⟩ := F
  intro H locs ls hl hP hD hS
  refine va_sld hx hb Z.1 Z.2.1 Z.2.2 hS.1 (ix_in hi (by omega)) d ?_
  rw [ix_cl hi (by omega), ← iI_of (xs i.toNat)]
  exact kk H locs ls hl hP hD hS
theorem w_slen (F : jfx X cc nL own fr lo mc ms) {b L : Nat} {xs : Nat → Int32} (Z : jsx X b L xs) (d : decode cc pc = .ok (.arraylength, 1)) (kk : jat l D X nL (pc + 1) lv (vi (L : Int) :: st) ws c n) : jat l D X nL pc lv (.ref b :: st) ws c n := by
  obtain ⟨p, e, R, s, m, args, below, meth, co, Q, A, G⟩ := X
  obtain ⟨⟨hx, hb, hml, hown, hts⟩, hfr, hlo, hmc, hms⟩ := F
  intro H locs ls hl hP hD hS
  refine va_slen hx hb Z.1 Z.2.1 Z.2.2 hS.1 d ?_
  rw [show Int32.ofNat L = iI (L : Int) from Int32.ofInt_eq_ofNat.symm]
  exact kk H locs ls hl hP hD hS
theorem w_lald (F : jfx X cc nL own fr lo mc ms) (K : jkw k D kL kc X) {v : Int} (hv : f 0 = lI v) (d : decode cc pc = .ok (.laload, 1)) (kk : jat l D X nL (pc + 1) lv (vl v :: st) (lww k T ho kL f hm ad kc S) c n) : jat l D X nL pc lv (vi 0 :: .ref ho :: st) (lww k T ho kL f hm ad kc S) c n := by
  obtain ⟨p, e, R, s, m, args, below, meth, co, Q, A, G⟩ := X
  obtain ⟨⟨hx, hb, hml, hown, hts⟩, hfr, hlo, hmc, hms⟩ := F
  intro H locs ls hl hP hD hS
  have hg : (cwd k T ++ hwo ho kL f)[(cwd k T).length]? = some (ho, .inl (kL, 1, .inr (.inl f))) := by rw [List.getElem?_append_right (Nat.le_refl _)]; simp
  refine va_lald hx hb K.1 hP (cwd k T).length 4 (jn_l hg) rfl (i := iI 0) (ix_in ⟨by omega, by omega⟩ (by omega)) d ?_
  rw [show (iI 0).toNatClampNeg = 0 from by decide, hv]
  exact kk H locs ls hl hP hD hS
theorem w_callH {cy : ByteArray} {hh : List (Nat × Nat × Nat × Nat)} {post : Int → (Nat → Int64) → CS → Prop} {fr' lo' mc' ms' N idx : Nat} (F : jfx X cc nL own fr lo mc ms) (K : jkw k D kL kc X) (hT : cs_ok k T) (M : jH l D k y cy maxL hh fr' lo' mc' ms' T kL ho f av post) (g : Cond.codeWith y cy maxL (some .int) hh ∈ tw_G) (w1 : Cond.initialized y.cls ∈ tw_G) (w2 : Cond.methodLink own idx y ∈ tw_G) (w3 : Cond.static y ∈ tw_G)
    (hd : y.cls ≠ "java/lang/invoke/MethodHandle" ∧ y.cls ≠ "java/lang/invoke/VarHandle" ∧ (parseMethodDescriptor y.desc).map (fun d => d.parameters.length) = some N) (hn : av.length = N) (hR : fr' + 1 ≤ fr ∧ 8 + (maxL + 11) + lo' ≤ lo) (hc : c + mc' ≤ mc ∧ n + ms' ≤ ms)
    (hst : st = av.reverse ++ rest) (hW : (rest.map fun v => v.category).sum ≤ 8) (d : decode cc pc = .ok (.invokestatic idx, 3)) (kk : ∀ (v : Int) (f1 : Nat → Int64) (T1 : CS), post v f1 T1 → cs_ok k T1 → jat l D X nL (pc + 3) lv (vi v :: rest) (lww k T1 ho kL f1 hm ad kc S) (c + mc') (n + ms')) : jat l D X nL pc lv st (lww k T ho kL f hm ad kc S) c n := by
  obtain ⟨p, e, R, s, m, args, below, meth, co, Q, A, G⟩ := X
  obtain ⟨⟨hx, hb, hml, hown, hts⟩, hfr, hlo, hmc, hms⟩ := F
  obtain ⟨K1, K2, hA, hG, hE, hLE, hNc, hN⟩ := K
  intro H locs ls hl hP hD hS
  have hPc := jn_PL hP
  have hDc := jn_DL hD
  have hF := jn_sub hDc hA hS.1
  have hEc : ce k (va_A (cwd k T ++ hwo ho kL f) H.size) s H := (hE.kept hS.1.2.1).narrow hF
  refine va_calli (tw_runSW (n := N) (As := av) (rest := rest) ⟨hx, hb, hml, hown, hts⟩ (M hT H.size) (tw_gc g) rfl rfl rfl ⟨Nat.le_trans hR.1 hfr, Nat.le_trans hR.2 hlo⟩ (hts _ w1) (hts _ w2) (hts _ w3) hd ⟨tw_bH, fun U hU hW => ⟨rfl, by rw [hU], by rw [hU]; exact hPc, va_K.moved hW.alike K1, hDc.weaken (fun _ _ _ _ => trivial), by rw [hU]; exact ce.warm hW hEc, hLE.to hW (fun a cell h1 h2 => by rw [hU]; exact tw_kst hN hS.1 a cell h1 h2), fun a b ha hb hne => va_Nc.moved hW.alike (hNc a b ha hb hne)⟩⟩ rfl hn hl.1 hst (lv_room hW) d ⟨by rw [hmc]; exact hc.1, by rw [hms]; exact hc.2⟩) hS.1 (fun q _ h => hF q h) hF ?_
  rintro r ⟨v, f1, T1⟩ t H1 locs1 ht hvm ⟨rfl, hp, hT1⟩ hB hz1 hk1 hS1
  obtain ⟨hP1, hK1, hD1⟩ := hB
  rw [ht] at hP1
  obtain ⟨hP2, hD2⟩ := jn_L hP hD hk1 hF hP1 hD1
  exact kk v f1 T1 hp hT1 H1 locs1 ls hl hP2 hD2 ⟨hS1, hG _⟩
theorem w_callM {cy : ByteArray} {post : Int → MS → Prop} {fr' lo' N idx : Nat} (F : jfx X cc nL own fr lo mc ms) (K : jkw k D kL kc X) (M : jMi l D hm ad kc y cy maxL ret fr' lo' S av post) (g : GoodIn tw_G (wsV own idx "LandBookModel" y (Cond.code y cy maxL ret :: tw_G)))
    (hd : y.cls = "LandBookModel" ∧ y.cls ≠ "java/lang/invoke/MethodHandle" ∧ y.cls ≠ "java/lang/invoke/VarHandle" ∧ (parseMethodDescriptor y.desc).map (fun d => d.parameters.length) = some N) (hn : av.length = N) (hR : fr' + 1 ≤ fr ∧ 8 + (maxL + 11) + lo' ≤ lo) (hc : c ≤ mc ∧ n ≤ ms)
    (hst : st = av.reverse ++ .ref hm :: rest) (hW : (rest.map fun v => v.category).sum ≤ 8) (d : decode cc pc = .ok (.invokevirtual idx, 3)) (kk : ∀ (v : Int) (S1 : MS), post v S1 → jat l D X nL (pc + 3) lv (vi v :: rest) (lww k T ho kL f hm ad kc S1) c n) : jat l D X nL pc lv st (lww k T ho kL f hm ad kc S) c n := by
  obtain ⟨p, e, R, s, m, args, below, meth, co, Q, A, G⟩ := X
  obtain ⟨⟨hx, hb, hml, hown, hts⟩, hfr, hlo, hmc, hms⟩ := F
  obtain ⟨K1, K2, hA, hG, hE, hLE, hNc, hN⟩ := K
  intro H locs ls hl hP hD hS
  have hPc := jn_PR hP
  have hDc := jn_DR hD
  have hF := jn_sub hDc hA hS.1
  refine va_calli (va_runV (As := av) (rest := rest) ⟨hx, hb, hml, hown, hts⟩ (M H.size) (cwV N hts g rfl rfl rfl hd ⟨Nat.le_trans hR.1 hfr, Nat.le_trans hR.2 hlo⟩) (tw_v4 (va_recv (q0 := 0) (ci := 7) (q := ("LandBookModel", F_LandBookModel, 42)) K2 hPc rfl rfl) hPc K2 hDc) rfl hn hl.1 hst (lv_room hW) d ⟨by rw [hmc]; exact hc.1, by rw [hms]; exact hc.2⟩) hS.1 (fun q _ h => hF q h) hF ?_
  rintro r ⟨v, S1⟩ t H1 locs1 ht hvm ⟨rfl, hp⟩ hB hz1 hk1 hS1
  obtain ⟨hP1, hK1, hD1⟩ := hB
  rw [ht] at hP1
  obtain ⟨hP2, hD2⟩ := jn_R hP hD hk1 hF hP1 hD1
  exact kk v S1 hp H1 locs1 ls hl hP2 hD2 ⟨hS1, hG _⟩
end LWR
