/-! lists that grow; a deed entered -/
section ENT
variable {qs : List Nat} {ad : Nat → Nat → Nat} {T T' T1 : CS} {R : AR}
def rEnt (R : AR) (kd dy a b c p x y z : Nat) (nm : List Nat) (body : List Int) : AR :=
  (nsets R.1 [(15, 0, R.1 15 0 + 1), (16, R.1 15 0 + 1, kd), (17, R.1 15 0 + 1, dy), (18, R.1 15 0 + 1, a), (19, R.1 15 0 + 1, b), (20, R.1 15 0 + 1, c), (21, R.1 15 0 + 1, p), (22, R.1 15 0 + 1, x), (23, R.1 15 0 + 1, y), (24, R.1 15 0 + 1, z), (30, 0, R.1 30 0 + (wrec body).length)],
   aRing R, updN (aNm R) (R.1 15 0 + 1) nm, aSh R, aIh R, lgapp (aLg R) (R.1 30 0) (wrec body), aRow R)
theorem rEnt_md {S : MS} {kd dy a b c p x y z : Nat} {nm : List Nat} (h : MD S (rAcc R kd dy a b c p x y z)) : MD S (rEnt R kd dy a b c p x y z nm (dbody kd dy (R.1 15 0 + 1) a b c p (aRow R))) := h
def nL (R : AR) (i : Nat) : Nat := R.1 (if i = 0 then 15 else if i = 1 then 7 else 25) 0
/-- the three lists -/
def lst3 (qs : List Nat) (ad : Nat → Nat → Nat) (T : CS) (nl : Nat → Nat) : Prop := (∀ i, i < 3 → alist T (qa qs (23 + i)) (ad 8 i) (nl i) (ad i) (8 + i)) ∧ ∀ i j, i < 3 → j < 3 → i ≠ j → tg T (ad 8 i) = 13 → ad 8 i ≠ ad 8 j
theorem BK.lst (h : BK qs ad T R) : lst3 qs ad T (nL R) := by
  refine ⟨fun i hi => ?_, h.2.2.2.2.1⟩
  rcases (show i = 0 ∨ i = 1 ∨ i = 2 by omega) with q | q | q <;> subst q
  · exact h.2.2.2.1.1
  · exact h.2.2.2.1.2.1
  · exact h.2.2.2.1.2.2
def adL (ad : Nat → Nat → Nat) (i k o x : Nat) : Nat → Nat → Nat := updN (updN ad i (updN (ad i) k o)) 8 (updN (ad 8) i x)
theorem adL_o (ad : Nat → Nat → Nat) (i k o x : Nat) {j : Nat} (h : j ≠ 8) (h' : j ≠ i) : adL ad i k o x j = ad j := by
  unfold adL; rw [updN_n _ _ _ h, updN_n _ _ _ h']
theorem adL_i (ad : Nat → Nat → Nat) (i k o x : Nat) (h : i ≠ 8) : adL ad i k o x i = updN (ad i) k o := by
  unfold adL; rw [updN_n _ _ _ h, updN_s]
theorem adL_8 (ad : Nat → Nat → Nat) (i k o x : Nat) : adL ad i k o x 8 = updN (ad 8) i x := by
  unfold adL; rw [updN_s]
theorem lst3.xt {nl : Nat → Nat} (h : lst3 qs ad T nl) {i : Nat} (hi : i < 3) : tg T (ad 8 i) = 20 ∨ tg T (ad 8 i) = 13 := by
  rcases (h.1 i hi).2.2.2.1 with a | a
  · exact Or.inl a.1
  · exact Or.inr a.1
theorem lst3_add (hq : qs.Nodup) (hl : qs.length = 30) {nl : Nat → Nat} (h : lst3 qs ad T nl) {i o x' : Nat} (hi : i < 3) (g : Ty (fun a => a = qa qs (23 + i)) (fun a => a = qa qs (23 + i) ∨ a = ad 8 i ∧ tg T (ad 8 i) = 13) T T') (ha : alist T' (qa qs (23 + i)) x' (nl i + 1) (updN (ad i) (nl i + 1) o) (8 + i)) (hx : tg T' x' = 13) (hx2 : x' = ad 8 i ∧ tg T (ad 8 i) = 13 ∨ tg T x' = 0) : lst3 qs (adL ad i (nl i + 1) o x') T' (updN nl i (nl i + 1)) := by
  have tx : ∀ j, j < 3 → tg T (ad 8 j) ≠ 0 := fun j hj => by rcases h.xt hj with q | q <;> omega
  refine ⟨fun j hj => ?_, fun j k hj hk hne ht => ?_⟩
  · by_cases c : j = i
    · subst c
      rw [adL_8, adL_i _ _ _ _ _ (by omega), updN_s, updN_s]; exact ha
    · rw [adL_8, adL_o _ _ _ _ _ (by omega) c, updN_n _ _ _ c, updN_n _ _ _ c]
      refine alist_ty (h.1 j hj) g ?_ ?_ ?_ (by omega)
      · intro q; have := qa_inj hq hl (by omega) (by omega) q; omega
      · rintro (q | q)
        · have := qa_inj hq hl (by omega) (by omega) q; omega
        · have := (h.1 j hj).1; rw [q.1] at this; omega
      · rintro (q | q)
        · have h1 := (h.1 i hi).1; rw [← q] at h1
          rcases h.xt hj with r | r <;> omega
        · exact h.2 i j hi hj (fun r => c r.symm) q.2 q.1.symm
  · rw [adL_8] at ht ⊢
    by_cases c : j = i
    · subst c
      rw [updN_s, updN_n _ _ _ (fun r => hne r.symm)]
      rcases hx2 with q | q
      · rw [q.1]; exact h.2 j k hj hk hne q.2
      · intro r; rw [r] at q; exact tx k hk q
    · rw [updN_n _ _ _ c] at ht ⊢
      have ht2 : tg T (ad 8 j) = 13 := by rw [← (g _ (tx j hj)).1]; exact ht
      by_cases d : k = i
      · subst d
        rw [updN_s]
        rcases hx2 with q | q
        · rw [q.1]; exact h.2 j k hj hk hne ht2
        · intro r; rw [← r] at q; exact tx j hj q
      · rw [updN_n _ _ _ d]; exact h.2 j k hj hk hne ht2
theorem lst3.ty {nl : Nat → Nat} (h : lst3 qs ad T nl) {Pi Po : Nat → Prop} (g : Ty Pi Po T T') (hA : ∀ a, tg T a = 7 → ¬ Pi a ∧ ¬ Po a) (hx : ∀ a, tg T a = 13 ∨ tg T a = 20 → ¬ Po a) : lst3 qs ad T' nl := by
  refine ⟨fun i hi => alist_ty (h.1 i hi) g (hA _ (h.1 i hi).1).1 (hA _ (h.1 i hi).1).2 (hx _ (h.xt hi).symm) (by omega), fun i j hi hj hne ht => h.2 i j hi hj hne ?_⟩
  rw [← (g _ (by rcases h.xt hi with q | q <;> omega)).1]; exact ht
theorem lst3.cg {nl nl' : Nat → Nat} {ad' : Nat → Nat → Nat} (h : lst3 qs ad T nl) (hn : ∀ i, i < 3 → nl' i = nl i) (ha : ∀ i, i < 3 ∨ i = 8 → ad' i = ad i) : lst3 qs ad' T nl' := by
  refine ⟨fun i hi => ?_, fun i j hi hj => ?_⟩
  · rw [hn i hi, ha i (Or.inl hi), ha 8 (Or.inr rfl)]; exact h.1 i hi
  · rw [ha 8 (Or.inr rfl)]; exact h.2 i j hi hj
theorem BK.lg (h : BK qs ad T R) : lgAt T (qa qs 28) (ad 9 0) (R.1 30 0) (aLg R) := by
  obtain ⟨a, b, c, d, e, f, k⟩ := h.2.2.2.2.2.2.2.2
  exact ⟨(h.1 28 (by omega)).1, a, c, d, e.1, ⟨e.2.1, e.2.2⟩, f⟩
/-- a book out of its pieces -/
theorem BK.mk {ad' : Nat → Nat → Nat} {R' : AR} (h1 : fixed qs T) (h2 : fi T (qa qs 0) 6 = (R'.1 2 0 : Int) ∧ fi T (qa qs 0) 7 = (R'.1 3 0 : Int)) (h3 : ptsAt T (qa qs 1) (qa qs 2) (aRow R') 32) (h4 : lst3 qs ad' T (nL R')) (h5 : ∀ d, 1 ≤ d → d ≤ R'.1 15 0 → deedAt qs ad' T R' d) (h6 : ∀ l, 1 ≤ l → l ≤ R'.1 7 0 → lotAt qs ad' T R' l) (h7 : ∀ e, 1 ≤ e → e ≤ R'.1 25 0 → easAt ad' T R' e) (h8 : logAt qs ad' T R') : BK qs ad' T R' :=
  ⟨h1, h2, h3, ⟨h4.1 0 (by omega), h4.1 1 (by omega), h4.1 2 (by omega)⟩, h4.2, h5, h6, h7, h8⟩
end ENT
