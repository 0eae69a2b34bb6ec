/-! the reference: a deed accepted -/
def nset (N : Nat → Nat → Nat) (f i v : Nat) : Nat → Nat → Nat := fun f' i' => if f' = f ∧ i' = i then v else N f' i'
def nsets (N : Nat → Nat → Nat) : List (Nat × Nat × Nat) → Nat → Nat → Nat
  | [] => N
  | t :: r => nsets (nset N t.1 t.2.1 t.2.2) r
theorem nset_f {N : Nat → Nat → Nat} {f i v f' i' : Nat} (h : f' ≠ f) : nset N f i v f' i' = N f' i' := if_neg (fun k => h k.1)
theorem nset_i {N : Nat → Nat → Nat} {f i v f' i' : Nat} (h : i' ≠ i) : nset N f i v f' i' = N f' i' := if_neg (fun k => h k.2)
theorem nset_s (N : Nat → Nat → Nat) (f i v : Nat) : nset N f i v f i = v := if_pos ⟨rfl, rfl⟩
def rN (R : AR) (l : List (Nat × Nat × Nat)) : AR := (nsets R.1 l, R.2)
/-- the words of a record: its body and two end words -/
def wsum (body : List Int) : Int := gx_S (fun k => body.getD k 0 * ((k : Int) + 1)) body.length
def wrec (body : List Int) : List Int := body ++ [(body.length : Int) - 2147483648, wsum body % 2147483648 - 2147483648]
def lgapp (lg : Nat → Int) (n : Nat) (ws : List Int) : Nat → Int := fun i => if n ≤ i ∧ i < n + ws.length then ws.getD (i - n) 0 else lg i
/-- the log of S is lg up to n, then ws -/
def mlog (S : MS) (lg : Nat → Int) (n : Nat) (ws : List Int) : Prop := S.1 30 = ((n + ws.length : Nat) : Int) ∧ ∀ i, i < n + ws.length → S.2 32 i = lgapp lg n ws i
def mfl (S S' : MS) : Prop := (∀ k, k ≠ 30 → S'.1 k = S.1 k) ∧ ∀ k, k ≠ 32 → S'.2 k = S.2 k
theorem mfl_refl (S : MS) : mfl S S := ⟨fun _ _ => rfl, fun _ _ => rfl⟩
theorem mfl_trans {S S' S2 : MS} (h : mfl S S') (g : mfl S' S2) : mfl S S2 := ⟨fun k a => (g.1 k a).trans (h.1 k a), fun k a => (g.2 k a).trans (h.2 k a)⟩
theorem sp_Mo_write {post : MS → Prop} {S : MS} {lg : Nat → Int} {n : Nat} {ws : List Int} {v : Int} (h : mlog S lg n ws) (hc : n + ws.length < 12100) (hp : ∀ S', mfl S S' → mlog S' lg n (ws ++ [v]) → post S') : wp_Mo_write post v S := by
  obtain ⟨h1, h2⟩ := h
  unfold wp_Mo_write
  rw [h1]
  refine ⟨⟨by omega, by omega⟩, fun S1 e1 S2 e2 => hp S2 ⟨fun k hk => ?_, fun k hk => ?_⟩ ⟨?_, fun i hi => ?_⟩⟩
  · rw [e2, e1]; simp [ms_i, ms_a, hk]
  · funext t; rw [e2, e1]; simp [ms_i, ms_a, hk]
  · rw [e2, e1]; simp [ms_i, ms_a]; omega
  · have hi' : i < n + ws.length + 1 := by simpa [Nat.add_assoc] using hi
    have : S2.2 32 i = if i = n + ws.length then v else S.2 32 i := by rw [e2, e1]; simp only [ms_i, ms_a, Int.toNat_natCast]; simp
    rw [this]
    by_cases c : i = n + ws.length
    · rw [if_pos c]
      unfold lgapp
      rw [if_pos ⟨by omega, by simp; omega⟩, c]
      simp
    · rw [if_neg c, h2 i (by omega)]
      unfold lgapp
      by_cases d : n ≤ i
      · rw [if_pos ⟨d, by omega⟩, if_pos ⟨d, by simp; omega⟩]
        rw [List.getD_eq_getElem?_getD, List.getD_eq_getElem?_getD, List.getElem?_append_left (by omega)]
      · rw [if_neg (fun f => d f.1), if_neg (fun f => d f.1)]
/-- what a deed's record says -/
def dtext (kd a b c p : Nat) (row : List PT) : List Int := (if kd = 2 ∨ kd = 4 then (a : Int) * 65536 + b else if kd = 3 then (a : Int) * 16384 + (b : Int) * 128 + c else a) :: ((if kd = 3 then [(p : Int)] else []) ++ (if kd = 1 then row.map ig_pk else []))
def dbody (kd dy en a b c p : Nat) (row : List PT) : List Int := ((kd : Int) * 65536 + ((dtext kd a b c p row).length + 2)) :: ((en : Int) * 32768 + dy) :: dtext kd a b c p row
def rAcc (R : AR) (kd dy a b c p x y z : Nat) : AR :=
  (nsets R.1 [(15, 0, R.1 15 0 + 1), (16, R.1 15 0 + 1, kd), (17, R.1 15 0 + 1, dy), (18, R.1 15 0 + 1, a), (19, R.1 15 0 + 1, b), (20, R.1 15 0 + 1, c), (21, R.1 15 0 + 1, p), (22, R.1 15 0 + 1, x), (23, R.1 15 0 + 1, y), (24, R.1 15 0 + 1, z), (30, 0, R.1 30 0 + (wrec (dbody kd dy (R.1 15 0 + 1) a b c p (aRow R))).length)],
   aRing R, aNm R, aSh R, aIh R, lgapp (aLg R) (R.1 30 0) (wrec (dbody kd dy (R.1 15 0 + 1) a b c p (aRow R))), aRow R)
def MG (S : MS) : Prop := ∀ f d, 22 ≤ f → f ≤ 24 → 0 ≤ S.2 f d
theorem MG.fr {S S' : MS} (h : MG S) (g : mfr S S') : MG S' := fun f d a b => by rw [g.2 f (by omega) (by omega)]; exact h f d a b
theorem dtext_len (kd a b c p : Nat) (row : List PT) : (dtext kd a b c p row).length = 1 + (if kd = 3 then 1 else 0) + (if kd = 1 then row.length else 0) := by
  unfold dtext
  by_cases c1 : kd = 3
  · subst c1; simp
  · by_cases c2 : kd = 1
    · subst c2; simp; omega
    · simp [c1, c2]
theorem gx_S_congr {f g : Nat → Int} {n : Nat} (h : ∀ k, k < n → f k = g k) : gx_S f n = gx_S g n := by
  induction n with
  | zero => rfl
  | succ n ih => simp only [gx_S]; rw [ih (fun k hk => h k (by omega)), h n (by omega)]
/-- words are whole numbers, none below 0 -/
theorem dbody_bd {kd dy en a b c p : Nat} {row : List PT} (hk : 1 ≤ kd ∧ kd ≤ 5) (hd : dy ≤ 30000) (he : en ≤ 600) (ha : a ≤ 300) (hb : b ≤ 300) (hc : c ≤ 300) (hp : p ≤ 25401600) (hr : row.length ≤ 32 ∧ ∀ q ∈ row, ig_ok q) : ∀ w ∈ dbody kd dy en a b c p row, 0 ≤ w ∧ w ≤ 700000000 := by
  have hl := dtext_len kd a b c p row
  have hl2 : (dtext kd a b c p row).length ≤ 34 := by
    rw [hl]; split <;> split <;> omega
  intro w hw
  unfold dbody at hw
  rcases List.mem_cons.mp hw with f | f
  · rw [f]; omega
  · rcases List.mem_cons.mp f with f | f
    · rw [f]; omega
    · unfold dtext at f
      rcases List.mem_cons.mp f with f | f
      · rw [f]; split
        · omega
        · split <;> omega
      · rcases List.mem_append.mp f with f | f
        · split at f
          · rw [List.mem_singleton.mp f]; omega
          · simp at f
        · split at f
          · obtain ⟨q, hq, e⟩ := List.mem_map.mp f
            have := pkd_in (hr.2 q hq)
            omega
          · simp at f
theorem wsum_bd {body : List Int} (h : ∀ w ∈ body, 0 ≤ w ∧ w ≤ 700000000) (hl : body.length ≤ 40) (k : Nat) : 0 ≤ gx_S (fun k => body.getD k 0 * ((k : Int) + 1)) k ∧ (k ≤ body.length → gx_S (fun k => body.getD k 0 * ((k : Int) + 1)) k ≤ k * 28700000000) := by
  have hg : ∀ k, 0 ≤ body.getD k 0 ∧ body.getD k 0 ≤ 700000000 := by
    intro k
    by_cases c : k < body.length
    · have : body.getD k 0 = body[k] := by simp [c]
      rw [this]; exact h _ (List.getElem_mem c)
    · have : body.getD k 0 = 0 := by simp [List.getD_eq_getElem?_getD, List.getElem?_eq_none (by omega : body.length ≤ k)]
      rw [this]; omega
  induction k with
  | zero => simp [gx_S]
  | succ k ih =>
    have hk := hg k
    have m1 := Int.mul_nonneg hk.1 (show (0 : Int) ≤ (k : Int) + 1 by omega)
    refine ⟨by simp only [gx_S]; omega, fun hle => ?_⟩
    have := ih.2 (by omega)
    have m2 : body.getD k 0 * ((k : Int) + 1) ≤ 700000000 * 41 := by
      have a1 := Int.mul_le_mul_of_nonneg_right hk.2 (show (0 : Int) ≤ (k : Int) + 1 by omega)
      omega
    simp only [gx_S]
    omega
theorem sp_Mo_accept {post : Int → MS → Prop} {S : MS} {R : AR} (h : MD S R) (w : WR R) (hg : MG S) (hup : R.1 15 0 < 600) {kd dy a b c p : Nat} (hk : 1 ≤ kd ∧ kd ≤ 5) (hd : dy ≤ 30000) (ha : a ≤ 300) (hb : b ≤ 300) (hc : c ≤ 300) (hp : p ≤ 25401600)
    (hpost : ∀ S' x y z, MD S' (rAcc R kd dy a b c p x y z) → MG S' → (∀ k, 32 < k → S'.1 k = S.1 k ∧ S'.2 k = S.2 k) → S'.1 0 = S.1 0 → post ((R.1 15 0 + 1 : Nat) : Int) S') : wp_Mo_accept post kd dy a b c p S := by
  have hr := w.2.1
  have hw := w.1.2.2.2.1
  have hbd := dbody_bd (en := R.1 15 0 + 1) hk hd (by omega) ha hb hc hp hr
  have hl := dtext_len kd a b c p (aRow R)
  have hl2 : (dtext kd a b c p (aRow R)).length ≤ 34 := by rw [hl]; split <;> split <;> omega
  have nd : S.1 15 = (R.1 15 0 : Int) := h.nd
  have nrow := h.2.1
  have hnw : S.1 30 = (R.1 30 0 : Int) := h.sc (by omega)
  unfold wp_Mo_accept
  intro S1 e1
  have d1 : S1.1 15 = ((R.1 15 0 + 1 : Nat) : Int) := by rw [e1, ms_i_same, nd]; omega
  rw [d1]
  refine ⟨⟨by omega, by omega⟩, fun S2 e2 => ?_⟩
  have d2 : S2.1 15 = ((R.1 15 0 + 1 : Nat) : Int) := by rw [e2]; exact d1
  rw [d2]
  refine ⟨⟨by omega, by omega⟩, fun S3 e3 => ?_⟩
  have d3 : S3.1 15 = ((R.1 15 0 + 1 : Nat) : Int) := by rw [e3]; exact d2
  rw [d3]
  refine ⟨⟨by omega, by omega⟩, fun S4 e4 => ?_⟩
  have d4 : S4.1 15 = ((R.1 15 0 + 1 : Nat) : Int) := by rw [e4]; exact d3
  rw [d4]
  refine ⟨⟨by omega, by omega⟩, fun S5 e5 => ?_⟩
  have d5 : S5.1 15 = ((R.1 15 0 + 1 : Nat) : Int) := by rw [e5]; exact d4
  rw [d5]
  refine ⟨⟨by omega, by omega⟩, fun S6 e6 => ?_⟩
  have d6 : S6.1 15 = ((R.1 15 0 + 1 : Nat) : Int) := by rw [e6]; exact d5
  rw [d6]
  refine ⟨⟨by omega, by omega⟩, fun S7 e7 v7 hv7 => ?_⟩
  -- S7: the deed is entered
  have a7 : ∀ k, k ≠ 15 → S7.1 k = S.1 k := by
    intro k hk; rw [e7, e6, e5, e4, e3, e2, e1]; simp [ms_a, ms_i, hk]
  have d7 : S7.1 15 = ((R.1 15 0 + 1 : Nat) : Int) := by rw [e7]; exact d6
  have b7 : ∀ f, (f < 16 ∨ 21 < f) → S7.2 f = S.2 f := by
    intro f hf
    funext t
    rw [e7, e6, e5, e4, e3, e2, e1]
    simp only [ms_a, ms_i]
    rw [if_neg (by omega), if_neg (by omega), if_neg (by omega), if_neg (by omega), if_neg (by omega), if_neg (by omega)]
  have c7 : ∀ t, S7.2 16 t = (if t = R.1 15 0 + 1 then (kd : Int) else S.2 16 t) ∧ S7.2 17 t = (if t = R.1 15 0 + 1 then (dy : Int) else S.2 17 t) ∧ S7.2 18 t = (if t = R.1 15 0 + 1 then (a : Int) else S.2 18 t) ∧ S7.2 19 t = (if t = R.1 15 0 + 1 then (b : Int) else S.2 19 t) ∧ S7.2 20 t = (if t = R.1 15 0 + 1 then (c : Int) else S.2 20 t) ∧ S7.2 21 t = (if t = R.1 15 0 + 1 then (p : Int) else S.2 21 t) := by
    intro t
    rw [e7, e6, e5, e4, e3, e2, e1]
    simp only [ms_a, ms_i, Int.toNat_natCast]
    simp
  have hv7' : v7 = ((R.1 30 0 : Nat) : Int) := by rw [hv7, a7 30 (by omega), hnw]
  rw [hv7']
  have hlog7 : mlog S7 (aLg R) (R.1 30 0) [] := by
    refine ⟨by rw [a7 30 (by omega), hnw]; simp, fun i hi => ?_⟩
    rw [b7 32 (by omega)]
    unfold lgapp
    rw [if_neg (fun f => by have := f.2; simp at this; omega)]
    exact h.2.2.2.2.2 i (by simpa using hi)
  have hrow7 : S7.1 4 = ((aRow R).length : Int) := by rw [a7 4 (by omega)]; exact nrow.1
  clear e1 e2 e3 e4 e5 e6 e7 d1 d2 d3 d4 d5 d6 hv7 hv7'
  -- its end
  have fin : ∀ S8, mfl S7 S8 → mlog S8 (aLg R) (R.1 30 0) (wrec (dbody kd dy (R.1 15 0 + 1) a b c p (aRow R))) → post (S8.1 15) S8 := by
    intro S8 f8 g8
    have x8 : S8.1 15 = ((R.1 15 0 + 1 : Nat) : Int) := by rw [f8.1 15 (by omega)]; exact d7
    rw [x8]
    refine hpost S8 (S8.2 22 (R.1 15 0 + 1)).toNat (S8.2 23 (R.1 15 0 + 1)).toNat (S8.2 24 (R.1 15 0 + 1)).toNat ?_ ?_ ?_ ?_
    · have gn : ∀ f, 22 ≤ f → f ≤ 24 → S8.2 f = S.2 f := fun f f1 f2 => by rw [f8.2 f (by omega)]; exact b7 f (by omega)
      unfold MD rAcc
      refine ⟨⟨?_, ?_⟩, ?_, ?_, ?_, ?_, ?_⟩
      · rw [f8.1 1 (by omega), a7 1 (by omega), h.1.1]
        simp [nsets, nset]
      · intro f hf
        simp only [nsets]
        rcases hf with hf | hf | hf | hf | hf | hf | hf <;> subst hf
        · rw [f8.1 2 (by omega), a7 2 (by omega), h.sc (by omega)]; simp [nset]
        · rw [f8.1 3 (by omega), a7 3 (by omega), h.sc (by omega)]; simp [nset]
        · rw [f8.1 7 (by omega), a7 7 (by omega), h.sc (by omega)]; simp [nset]
        · rw [x8]; simp [nset]
        · rw [f8.1 25 (by omega), a7 25 (by omega), h.sc (by omega)]; simp [nset]
        · rw [g8.1]; simp [nset]
        · rw [f8.1 31 (by omega), a7 31 (by omega), h.sc (by omega)]; simp [nset]
      · unfold marr
        rw [f8.1 4 (by omega), f8.2 5 (by omega), f8.2 6 (by omega), hrow7, b7 5 (by omega), b7 6 (by omega)]
        exact ⟨rfl, nrow.2⟩
      · intro l l1 l2
        have l2' : l ≤ R.1 7 0 := by simpa [nsets, nset] using l2
        have := h.2.2.1 l l1 l2'
        rw [f8.2 10 (by omega), f8.2 8 (by omega), f8.2 9 (by omega), b7 10 (by omega), b7 8 (by omega), b7 9 (by omega)]
        refine ⟨this.1, this.2.1, fun f f1 f2 => ?_⟩
        rw [f8.2 f (by omega), b7 f (by omega), this.2.2 f f1 f2]
        simp only [nsets]
        rw [nset_f (by omega), nset_f (by omega), nset_f (by omega), nset_f (by omega), nset_f (by omega), nset_f (by omega), nset_f (by omega), nset_f (by omega), nset_f (by omega), nset_f (by omega), nset_f (by omega)]
      · intro d hd1 hd2 f f1 f2
        have hd2' : d ≤ R.1 15 0 + 1 := by simpa [nsets, nset] using hd2
        have cc := c7 d
        by_cases cd : d = R.1 15 0 + 1
        · subst cd
          simp only [if_true] at cc
          rcases (show f = 16 ∨ f = 17 ∨ f = 18 ∨ f = 19 ∨ f = 20 ∨ f = 21 ∨ f = 22 ∨ f = 23 ∨ f = 24 by omega) with q | q | q | q | q | q | q | q | q <;> subst q
          · rw [f8.2 16 (by omega), cc.1]; simp [nsets, nset]
          · rw [f8.2 17 (by omega), cc.2.1]; simp [nsets, nset]
          · rw [f8.2 18 (by omega), cc.2.2.1]; simp [nsets, nset]
          · rw [f8.2 19 (by omega), cc.2.2.2.1]; simp [nsets, nset]
          · rw [f8.2 20 (by omega), cc.2.2.2.2.1]; simp [nsets, nset]
          · rw [f8.2 21 (by omega), cc.2.2.2.2.2]; simp [nsets, nset]
          · have := hg 22 (R.1 15 0 + 1) (by omega) (by omega)
            rw [gn 22 (by omega) (by omega)]; simp [nsets, nset]; omega
          · have := hg 23 (R.1 15 0 + 1) (by omega) (by omega)
            rw [gn 23 (by omega) (by omega)]; simp [nsets, nset]; omega
          · have := hg 24 (R.1 15 0 + 1) (by omega) (by omega)
            rw [gn 24 (by omega) (by omega)]; simp [nsets, nset]; omega
        · have old := h.deed hd1 (show d ≤ R.1 15 0 by omega) f1 f2
          have new : S8.2 f d = S.2 f d := by
            rw [if_neg cd, if_neg cd, if_neg cd, if_neg cd, if_neg cd, if_neg cd] at cc
            rw [f8.2 f (by omega)]
            rcases (show f = 16 ∨ f = 17 ∨ f = 18 ∨ f = 19 ∨ f = 20 ∨ f = 21 ∨ 21 < f by omega) with q | q | q | q | q | q | q
            · subst q; exact cc.1
            · subst q; exact cc.2.1
            · subst q; exact cc.2.2.1
            · subst q; exact cc.2.2.2.1
            · subst q; exact cc.2.2.2.2.1
            · subst q; exact cc.2.2.2.2.2
            · rw [b7 f (by omega)]
          rw [new, old]
          simp only [nsets]
          rw [nset_f (by omega), nset_i (by omega), nset_i (by omega), nset_i (by omega), nset_i (by omega), nset_i (by omega), nset_i (by omega), nset_i (by omega), nset_i (by omega), nset_i (by omega), nset_f (by omega)]
      · intro e he1 he2 f f1 f2
        have he2' : e ≤ R.1 25 0 := by simpa [nsets, nset] using he2
        rw [f8.2 f (by omega), b7 f (by omega), h.eas he1 he2' f1 f2]
        simp only [nsets]
        rw [nset_f (by omega), nset_f (by omega), nset_f (by omega), nset_f (by omega), nset_f (by omega), nset_f (by omega), nset_f (by omega), nset_f (by omega), nset_f (by omega), nset_f (by omega), nset_f (by omega)]
      · intro i hi
        exact g8.2 i (by simpa [nsets, nset] using hi)
    · intro f d f1 f2
      rw [f8.2 f (by omega), b7 f (by omega)]
      exact hg f d f1 f2
    · intro k hk
      rw [f8.1 k (by omega), a7 k (by omega), f8.2 k (by omega), b7 k (by omega)]
      exact ⟨rfl, rfl⟩
    · rw [f8.1 0 (by omega), a7 0 (by omega)]
  -- the sum and the end words
  have hbl : (dbody kd dy (R.1 15 0 + 1) a b c p (aRow R)).length = (dtext kd a b c p (aRow R)).length + 2 := by simp [dbody]
  have k226 : ∀ (S8 : MS), mfl S7 S8 → mlog S8 (aLg R) (R.1 30 0) (dbody kd dy (R.1 15 0 + 1) a b c p (aRow R)) → ∀ (n k : Nat), (dbody kd dy (R.1 15 0 + 1) a b c p (aRow R)).length - k < n → k ≤ (dbody kd dy (R.1 15 0 + 1) a b c p (aRow R)).length → wp_Mo_accept_226 post n (R.1 30 0 : Nat) ((dbody kd dy (R.1 15 0 + 1) a b c p (aRow R)).length : Nat) (gx_S (fun k => (dbody kd dy (R.1 15 0 + 1) a b c p (aRow R)).getD k 0 * ((k : Int) + 1)) k) k S8 := by
    intro S8 f8 g8 n
    generalize dbody kd dy (R.1 15 0 + 1) a b c p (aRow R) = B at *
    induction n with
    | zero => intro k hn; omega
    | succ n ih =>
      intro k hn hkl
      have wb := wsum_bd hbd (by omega) k
      have e1 : (k : Int) + 1 = ((k + 1 : Nat) : Int) := by omega
      unfold wp_Mo_accept_226
      refine ⟨by unfold inR; omega, by unfold inR; omega, fun c => ⟨by unfold inR; omega, ?_⟩, fun c => ?_⟩
      · have ek : k = B.length := by omega
        subst ek
        refine sp_Mo_write g8 (by omega) (fun S9 f9 g9 => ⟨⟨⟨wb.1, by have := wb.2 (by omega); omega⟩, by omega, by omega⟩, sp_Mo_write g9 (by simp; omega) (fun S10 f10 g10 => fin S10 (mfl_trans f8 (mfl_trans f9 f10)) ?_)⟩)
        unfold wrec wsum
        simpa using g10
      · have x : S8.2 32 (R.1 30 0 + k) = B.getD k 0 := by
          rw [g8.2 (R.1 30 0 + k) (by omega)]
          unfold lgapp
          rw [if_pos ⟨by omega, by omega⟩, Nat.add_sub_cancel_left]
        have hb1 : 0 ≤ B.getD k 0 ∧ B.getD k 0 ≤ 700000000 := by
          have : B.getD k 0 = B[k]'(by omega) := by simp [show k < B.length by omega]
          rw [this]; exact hbd _ (List.getElem_mem _)
        rw [show ((R.1 30 0 : Nat) : Int) + (k : Int) = ((R.1 30 0 + k : Nat) : Int) by omega, Int.toNat_natCast, x]
        refine ⟨⟨by omega, by omega⟩, by unfold inR; omega, by unfold inR; omega, fun v9 e9 => ?_⟩
        have := ih (k + 1) (by omega) (by omega)
        rw [e1, e9]
        exact this
  have k220 : ∀ (S8 : MS), mfl S7 S8 → mlog S8 (aLg R) (R.1 30 0) (dbody kd dy (R.1 15 0 + 1) a b c p (aRow R)) → wp_Mo_accept_220 post (R.1 30 0 : Nat) ((dbody kd dy (R.1 15 0 + 1) a b c p (aRow R)).length : Nat) S8 := by
    intro S8 f8 g8
    exact ⟨(dbody kd dy (R.1 15 0 + 1) a b c p (aRow R)).length + 1, k226 S8 f8 g8 _ 0 (by omega) (by omega)⟩
  -- the row
  have k175 : ∀ (S8 : MS) (pre : List Int), mfl S7 S8 → pre.length ≤ 4 → dbody kd dy (R.1 15 0 + 1) a b c p (aRow R) = pre ++ (if kd = 1 then (aRow R).map ig_pk else []) → mlog S8 (aLg R) (R.1 30 0) pre → wp_Mo_accept_175 post kd (R.1 30 0 : Nat) ((dbody kd dy (R.1 15 0 + 1) a b c p (aRow R)).length : Nat) S8 := by
    intro S8 pre f8 hpre hB g8
    have loop : ∀ (n k : Nat) (S9 : MS), (aRow R).length - k < n → k ≤ (aRow R).length → mfl S7 S9 → mlog S9 (aLg R) (R.1 30 0) (pre ++ (if kd = 1 then ((aRow R).take k).map ig_pk else [])) → wp_Mo_accept_178 post n kd (R.1 30 0 : Nat) ((dbody kd dy (R.1 15 0 + 1) a b c p (aRow R)).length : Nat) k S9 := by
      intro n
      induction n with
      | zero => intro k S9 hn; omega
      | succ n ih =>
        intro k S9 hn hk' f9 g9
        have e1 : (k : Int) + 1 = ((k + 1 : Nat) : Int) := by omega
        have hr32 := hr.1
        unfold wp_Mo_accept_178
        rw [f9.1 4 (by omega), hrow7]
        refine ⟨by unfold inR; omega, by unfold inR; omega, fun c1 => k220 S9 f9 ?_, fun c1 => ⟨by unfold inR; omega, fun c2 => k220 S9 f9 ?_, fun c2 => ?_⟩⟩
        · rw [hB]
          have : (aRow R).take k = aRow R := List.take_of_length_le (by omega)
          rw [this] at g9; exact g9
        · rw [hB]
          have : kd ≠ 1 := fun f => c2 (by rw [f]; rfl)
          rw [if_neg this] at g9 ⊢; exact g9
        · have ek : kd = 1 := by omega
          have hkl : k < (aRow R).length := by omega
          have x := nrow.2.2 k hkl
          rw [Int.toNat_natCast, f9.2 5 (by omega), f9.2 6 (by omega), b7 5 (by omega), b7 6 (by omega), x.1, x.2]
          refine ⟨⟨by omega, by omega⟩, ⟨by omega, by omega⟩, ?_⟩
          rw [if_pos ek] at g9
          refine sp_Mo_write g9 (by simp; omega) (fun S10 f10 g10 => ?_)
          rw [e1]
          refine ih (k + 1) S10 (by omega) (by omega) (mfl_trans f9 f10) ?_
          rw [if_pos ek, List.take_succ_eq_append_getElem hkl, List.map_append, ← List.append_assoc]
          have : ig_pk (ig_at (aRow R) k) = (ig_at (aRow R) k).1 * 32768 + (ig_at (aRow R) k).2 := rfl
          simp only [List.map_cons, List.map_nil]
          rw [← ig_at_lt hkl, this]; exact g10
    refine ⟨(aRow R).length + 1, loop _ 0 S8 (by omega) (by omega) f8 ?_⟩
    have : (if kd = 1 then ((aRow R).take 0).map ig_pk else []) = [] := by split <;> rfl
    rw [this, List.append_nil]; exact g8
  have k161 : ∀ (S8 : MS) (t0 : Int), mfl S7 S8 → t0 = (if kd = 2 ∨ kd = 4 then (a : Int) * 65536 + b else if kd = 3 then (a : Int) * 16384 + (b : Int) * 128 + c else a) → mlog S8 (aLg R) (R.1 30 0) [(kd : Int) * 65536 + ((dtext kd a b c p (aRow R)).length + 2), ((R.1 15 0 + 1 : Nat) : Int) * 32768 + dy] → wp_Mo_accept_161 post kd p (R.1 30 0 : Nat) ((dbody kd dy (R.1 15 0 + 1) a b c p (aRow R)).length : Nat) t0 S8 := by
    intro S8 t0 f8 ht0 g8
    unfold wp_Mo_accept_161
    refine sp_Mo_write g8 (by simp; omega) (fun S9 f9 g9 => ⟨by unfold inR; omega, fun c1 => ?_, fun c1 => ?_⟩)
    · refine k175 S9 _ (mfl_trans f8 f9) (by simp) ?_ g9
      have : kd ≠ 3 := fun f => c1 (by rw [f]; rfl)
      rw [ht0]
      simp [dbody, dtext, this]
    · refine sp_Mo_write g9 (by simp; omega) (fun S10 f10 g10 => ?_)
      have ek : kd = 3 := by omega
      refine k175 S10 _ (mfl_trans f8 (mfl_trans f9 f10)) (by simp) ?_ g10
      rw [ht0]
      simp [dbody, dtext, ek]
  have rs : ∀ (post2 : Int → MS → Prop), post2 (((dtext kd a b c p (aRow R)).length + 4 : Nat) : Int) S7 → wp_Mo_recordSize post2 kd (S7.1 4) S7 := by
    intro post2 q
    unfold wp_Mo_recordSize wp_Mo_recordSize_21
    rw [hrow7]
    refine ⟨by unfold inR; omega, fun c1 => ⟨by unfold inR; omega, fun c2 => ?_, fun c2 => ?_⟩, fun c1 => ?_⟩
    · have h1 : kd ≠ 1 := fun f => c1 (by rw [f]; rfl)
      have h3 : kd ≠ 3 := fun f => c2 (by rw [f]; rfl)
      rw [hl, if_neg h3, if_neg h1] at q
      exact q
    · have h1 : kd ≠ 1 := fun f => c1 (by rw [f]; rfl)
      have h3 : kd = 3 := by omega
      rw [hl, if_pos h3, if_neg h1] at q
      exact q
    · have h1 : kd = 1 := by omega
      rw [hl, if_neg (by omega), if_pos h1] at q
      have : (3 : Int) + ((aRow R).length : Int) + 2 = ((1 + 0 + (aRow R).length + 4 : Nat) : Int) := by omega
      rw [this]; exact q
  refine rs _ ?_
  have e9 : (((dtext kd a b c p (aRow R)).length + 4 : Nat) : Int) - 2 = (((dbody kd dy (R.1 15 0 + 1) a b c p (aRow R)).length : Nat) : Int) := by rw [hbl]; omega
  have e10 : (kd : Int) * 65536 + (((dtext kd a b c p (aRow R)).length + 4 : Nat) - 2 : Int) = (kd : Int) * 65536 + ((dtext kd a b c p (aRow R)).length + 2) := by omega
  refine sp_Mo_write hlog7 (by simp; omega) (fun S8 f8 g8 => ?_)
  have x8 : S8.1 15 = ((R.1 15 0 + 1 : Nat) : Int) := by rw [f8.1 15 (by omega)]; exact d7
  rw [x8]
  refine sp_Mo_write g8 (by simp; omega) (fun S9 f9 g9 => ?_)
  have g9' : mlog S9 (aLg R) (R.1 30 0) [(kd : Int) * 65536 + ((dtext kd a b c p (aRow R)).length + 2), ((R.1 15 0 + 1 : Nat) : Int) * 32768 + dy] := by
    rw [← e10]; exact g9
  have f79 := mfl_trans f8 f9
  rw [e9]
  refine ⟨by unfold inR; omega, fun c1 => k161 S9 _ f79 ?_ g9', fun c1 => ⟨by unfold inR; omega, fun c2 => ⟨by unfold inR; omega, fun c3 => k161 S9 _ f79 ?_ g9', fun c3 => k161 S9 _ f79 ?_ g9'⟩, fun c2 => k161 S9 _ f79 ?_ g9'⟩⟩
  · rw [if_pos (by omega)]
  · rw [if_neg (by omega), if_neg (by omega)]
  · rw [if_neg (by omega), if_pos (by omega)]
  · rw [if_pos (by omega)]
