/-! WRITING: frames, lists that grow and shrink, points that are copied -/
def Ty (Pi Po : Nat → Prop) (T T' : CS) : Prop := ∀ a, tg T a ≠ 0 → tg T' a = tg T a ∧ ln T' a = ln T a ∧ (¬ Po a → fo T' a = fo T a) ∧ (¬ Pi a → fi T' a = fi T a)
theorem Ty_refl (Pi Po : Nat → Prop) (T : CS) : Ty Pi Po T T := fun _ _ => ⟨rfl, rfl, fun _ => rfl, fun _ => rfl⟩
theorem Ty_trans {Pi Po : Nat → Prop} {T T' T2 : CS} (h : Ty Pi Po T T') (g : Ty Pi Po T' T2) : Ty Pi Po T T2 := by
  intro a ha
  obtain ⟨h1, h2, h3, h4⟩ := h a ha
  obtain ⟨g1, g2, g3, g4⟩ := g a (by rw [h1]; exact ha)
  exact ⟨g1.trans h1, g2.trans h2, fun q => (g3 q).trans (h3 q), fun q => (g4 q).trans (h4 q)⟩
theorem Tx.ty {P Po : Nat → Prop} {T T' : CS} (h : Tx P T T') : Ty P Po T T' := fun a ha => ⟨(h a ha).1, (h a ha).2.1, fun _ => (h a ha).2.2.1, (h a ha).2.2.2⟩
theorem Ty_mono {Pi Po Qi Qo : Nat → Prop} {T T' : CS} (h : Ty Pi Po T T') (g1 : ∀ a, Pi a → Qi a) (g2 : ∀ a, Po a → Qo a) : Ty Qi Qo T T' := fun a ha => ⟨(h a ha).1, (h a ha).2.1, fun q => (h a ha).2.2.1 (fun f => q (g2 a f)), fun q => (h a ha).2.2.2 (fun f => q (g1 a f))⟩
theorem Ty_i {Pi Po : Nat → Prop} {T : CS} {a j : Nat} {v : Int} (h : Pi a) : Ty Pi Po T (cs_i T a j v) := (Tw_i (P := Pi) h).tx.ty
theorem Ty_o {Pi Po : Nat → Prop} {T : CS} {a j : Nat} {o : Option Nat} (h : Po a) : Ty Pi Po T (cs_o T a j o) := by
  intro c hc
  refine ⟨rfl, rfl, fun q => ?_, fun _ => rfl⟩
  funext i
  show (if c = a ∧ i = j then o else fo T c i) = fo T c i
  rw [if_neg (fun f : c = a ∧ i = j => q (by rw [f.1]; exact h))]
theorem Ty_new (Pi Po : Nat → Prop) {T : CS} {q t n : Nat} (h : tg T q = 0) : Ty Pi Po T (cs_new T q t n) := (Tx_new Pi h).ty
theorem new_tg (T : CS) (q t n : Nat) : tg (cs_new T q t n) q = t := if_pos rfl
theorem new_ln (T : CS) (q t n : Nat) : ln (cs_new T q t n) q = n := if_pos rfl
theorem new_fi (T : CS) (q t n j : Nat) : fi (cs_new T q t n) q j = 0 := if_pos rfl
theorem new_fo (T : CS) (q t n j : Nat) : fo (cs_new T q t n) q j = none := if_pos rfl
theorem cs_i_fi (T : CS) (a j : Nat) (v : Int) (c i : Nat) : fi (cs_i T a j v) c i = if c = a ∧ i = j then v else fi T c i := rfl
theorem cs_o_fo (T : CS) (a j : Nat) (o : Option Nat) (c i : Nat) : fo (cs_o T a j o) c i = if c = a ∧ i = j then o else fo T c i := rfl
theorem cs_i_o (T : CS) (a j : Nat) (v : Int) : tg (cs_i T a j v) = tg T ∧ ln (cs_i T a j v) = ln T ∧ fo (cs_i T a j v) = fo T := ⟨rfl, rfl, rfl⟩
theorem cs_o_i (T : CS) (a j : Nat) (o : Option Nat) : tg (cs_o T a j o) = tg T ∧ ln (cs_o T a j o) = ln T ∧ fi (cs_o T a j o) = fi T := ⟨rfl, rfl, rfl⟩
theorem ptsAt.ty {Pi Po : Nat → Prop} {T T' : CS} {a b cap : Nat} {l : List PT} (h : ptsAt T a b l cap) (g : Ty Pi Po T T') (ha : ¬ Pi a) (hb : ¬ Pi b) (ho : ¬ Po a) : ptsAt T' a b l cap := by
  obtain ⟨h1, h2, h3, h4, h5, h6, h7⟩ := h
  have ga := g a (by omega)
  have gb := g b (by omega)
  exact ⟨by rw [ga.1]; exact h1, by rw [ga.2.2.1 ho]; exact h2, by rw [gb.1]; exact h3, by rw [gb.2.1]; exact h4, by rw [ga.2.2.2 ha]; exact h5, h6, fun i hi => by rw [gb.2.2.2 hb]; exact h7 i hi⟩
theorem alist_ty {Pi Po : Nat → Prop} {T T' : CS} {A x n t : Nat} {f : Nat → Nat} (h : alist T A x n f t) (g : Ty Pi Po T T') (hA : ¬ Pi A) (hA2 : ¬ Po A) (hx : ¬ Po x) (ht : t ≠ 0) : alist T' A x n f t := by
  obtain ⟨h1, h2, h3, h4, h5, h6⟩ := h
  have gA := g A (by omega)
  refine ⟨by rw [gA.1]; exact h1, by rw [gA.2.2.2 hA]; exact h2, by rw [gA.2.2.1 hA2]; exact h3, ?_, fun i a b => ?_, h6⟩
  · rcases h4 with ⟨a, b, c⟩ | ⟨a, b, c, d, e, f⟩
    · have gx := g x (by omega)
      exact Or.inl ⟨by rw [gx.1]; exact a, b, by rw [gx.2.1]; exact c⟩
    · have gx := g x (by omega)
      exact Or.inr ⟨by rw [gx.1]; exact a, by rw [gx.2.1]; exact b, by rw [gx.2.1]; exact c, by rw [gx.2.1]; exact d, fun i hi => by rw [gx.2.2.1 hx]; exact e i hi, fun i hi => by rw [gx.2.2.1 hx]; exact f i hi⟩
  · have := h5 i a b
    rw [(g (f i) (by omega)).1]; exact this
section ADD
variable {T : CS}
def updN {α : Type} (f : Nat → α) (i : Nat) (v : α) : Nat → α := fun j => if j = i then v else f j
theorem updN_s {α : Type} (f : Nat → α) (i : Nat) (v : α) : updN f i v i = v := if_pos rfl
theorem updN_n {α : Type} (f : Nat → α) (i : Nat) (v : α) {j : Nat} (h : j ≠ i) : updN f i v j = f j := if_neg h
theorem sp_B_add {post : Int → CS → Prop} {A x n t o mc ms : Nat} {f : Nat → Nat} (h : alist T A x n f t) (ht : t = 8 ∨ t = 9 ∨ t = 10) (he : ∀ a, tg T a = 20 → ∀ b, tg T b = 20 → a = b) (ho : tg T o = t) (hn : n < 600) (hnew : ∀ i, 1 ≤ i → i ≤ n → f i ≠ o) (hmc : 1 ≤ mc) (hms : 1000 ≤ ms)
    (hp : ∀ T' x', Ty (fun a => a = A) (fun a => a = A ∨ a = x ∧ tg T x = 13) T T' → alist T' A x' (n + 1) (updN f (n + 1) o) t → tg T' x' = 13 → (x' = x ∧ tg T x = 13 ∨ tg T x' = 0) → (∀ a, tg T' a = 20 → tg T a = 20) → post 1 T') : wp_BAL_add post mc ms A o T := by
  obtain ⟨a1, a2, a3, a4, a5, a6⟩ := h
  have hoA : o ≠ A := fun q => by rw [q] at ho; omega
  unfold wp_BAL_add
  refine ⟨a1, a1, fun T1 y1 => ?_⟩
  have t1 : tg T1 = tg T := by rw [y1]; rfl
  have l1 : ln T1 = ln T := by rw [y1]; rfl
  have o1 : fo T1 = fo T := by rw [y1]; rfl
  have i1 : ∀ c i, (c ≠ A ∨ i ≠ 2) → fi T1 c i = fi T c i := by
    intro c i hc; rw [y1, cs_i_fi, if_neg (by omega)]
  have fr1 : Ty (fun a => a = A) (fun a => a = A ∨ a = x ∧ tg T x = 13) T T1 := by rw [y1]; exact Ty_i rfl
  refine ⟨by rw [t1]; exact a1, x, by rw [o1]; exact a3, by rw [t1]; exact a1, mc, ms, 0, 0, ⟨by omega, by omega⟩, by rw [t1]; exact a1, ?_⟩
  rw [i1 A 1 (Or.inr (by omega)), a2]
  -- the write, in an array with room
  have fin : ∀ (T2 : CS) (x' : Nat) (mc' ms' : Nat), Ty (fun a => a = A) (fun a => a = A ∨ a = x ∧ tg T x = 13) T T2 → tg T2 A = 7 → fo T2 A 0 = some x' → tg T2 x' = 13 → n < ln T2 x' → ln T2 x' ≤ 1000 → (∀ i, i < n → fo T2 x' i = some (f (i + 1))) → (∀ i, n ≤ i → fo T2 x' i = none) → (x' = x ∧ tg T x = 13 ∨ tg T x' = 0) → (∀ a, tg T2 a = 20 → tg T a = 20) → wp_BAL_add3_11 (fun T_3 => post 1 T_3) mc' ms' A o x' n T2 := by
    intro T2 x' mc' ms' fr2 b1 b2 b3 b4 b5 b6 b7 b8 b9
    have to2 : tg T2 o = t := by rw [(fr2 o (by omega)).1]; exact ho
    unfold wp_BAL_add3_11
    refine ⟨b3, ⟨by omega, by omega⟩, by omega, fun T3 y3 => ?_⟩
    rw [Int.toNat_natCast] at y3
    refine ⟨by rw [y3]; exact b1, fun T4 y4 => ?_⟩
    have e1 : (n : Int) + 1 = ((n + 1 : Nat) : Int) := by omega
    rw [e1] at y4
    have hxA : x' ≠ A := fun q => by rw [q] at b3; omega
    have t4 : tg T4 = tg T2 := by rw [y4, y3]; rfl
    have l4 : ln T4 = ln T2 := by rw [y4, y3]; rfl
    have o4 : ∀ c i, fo T4 c i = if c = x' ∧ i = n then some o else fo T2 c i := by intro c i; rw [y4, y3]; rfl
    have fr4 : Ty (fun a => a = A) (fun a => a = A ∨ a = x ∧ tg T x = 13) T T4 := by
      intro c hc
      obtain ⟨g1, g2, g3, g4⟩ := fr2 c hc
      refine ⟨by rw [t4]; exact g1, by rw [l4]; exact g2, fun q => ?_, fun q => ?_⟩
      · rw [← g3 q]
        funext i
        rw [o4, if_neg]
        rintro ⟨r, _⟩
        rcases b8 with ⟨s1, s2⟩ | s
        · exact q (Or.inr ⟨by rw [r, s1], s2⟩)
        · rw [r] at hc; exact hc s
      · rw [← g4 q]
        funext i
        rw [y4, cs_i_fi, if_neg (fun r => q r.1), y3]; rfl
    refine hp T4 x' fr4 ⟨by rw [t4]; exact b1, ?_, ?_, Or.inr ⟨by rw [t4]; exact b3, by rw [l4]; omega, by rw [l4]; omega, by rw [l4]; exact b5, fun i hi => ?_, fun i hi => ?_⟩, fun i i1 i2 => ?_, fun i j i1 i2 j1 j2 q => ?_⟩ (by rw [t4]; exact b3) b8 (fun a q => b9 a (by rw [← t4]; exact q))
    · rw [y4, cs_i_fi, if_pos ⟨rfl, rfl⟩]
    · rw [o4, if_neg (fun r => hxA r.1.symm)]; exact b2
    · rw [o4]
      by_cases c : i = n
      · rw [if_pos ⟨rfl, c⟩, c, updN_s]
      · rw [if_neg (fun r => c r.2), b6 i (by omega), updN_n _ _ _ (by omega)]
    · rw [o4, if_neg (by omega)]; exact b7 i (by omega)
    · rw [t4]
      by_cases c : i = n + 1
      · rw [c, updN_s]; exact to2
      · rw [updN_n _ _ _ c]
        have := a5 i i1 (by omega)
        rw [(fr2 _ (by omega)).1]; exact this
    · by_cases c : i = n + 1
      · by_cases d : j = n + 1
        · omega
        · rw [c, updN_s, updN_n _ _ _ d] at q
          exact absurd q.symm (hnew j j1 (by omega))
      · by_cases d : j = n + 1
        · rw [d, updN_s, updN_n _ _ _ c] at q
          exact absurd q (hnew i i1 (by omega))
        · rw [updN_n _ _ _ c, updN_n _ _ _ d] at q
          exact a6 i j i1 (by omega) j1 (by omega) q
  unfold wp_BAL_add3
  rw [l1, t1]
  rcases a4 with ⟨q1, q2, q3⟩ | ⟨q1, q2, q3, q4, q5, q6⟩
  · -- the empty array
    subst q2
    refine ⟨Or.inr q1, by unfold inR; omega, by rw [q3]; exact inR_lit0, fun c => absurd (by rw [q3]) c, fun _ => ⟨mc, ms, 0, 0, ⟨by omega, by omega⟩, a1, ?_⟩⟩
    unfold wp_BAL_grow
    refine ⟨by rw [t1]; exact a1, mc, ms, 0, 0, ⟨by omega, by omega⟩, by rw [t1]; exact a1, ?_⟩
    unfold wp_BAL_grow1
    rw [i1 A 1 (Or.inr (by omega)), a2]
    refine ⟨by rw [t1]; exact a1, x, by rw [o1]; exact a3, Or.inr (by rw [t1]; exact q1), fun v2 e2 => ?_⟩
    rw [l1, q3] at e2
    rw [e2]
    refine ⟨inR_lit0, fun c => absurd c (by decide), fun _ => ⟨by rw [t1]; exact a1, x, by rw [o1]; exact a3, fun q4 hq4 => ⟨fun _ => ?_, fun r => absurd (he x q1 q4 (by rw [← t1]; exact hq4)) r⟩⟩⟩
    refine sp_BMa_max ⟨by decide, by decide⟩ ⟨by decide, by decide⟩ ?_
    have e10 : max (10 : Int) (((0 : Nat) : Int) + 1) = 10 := by decide
    rw [e10]
    refine ⟨⟨by decide, by decide⟩, mc - 1, ms - 10, ⟨by omega, by show ms = 10 + (ms - 10); omega⟩, fun q6 T7 hq6 y7 => ?_⟩
    have fr7 : Ty (fun a => a = A) (fun a => a = A ∨ a = x ∧ tg T x = 13) T1 T7 := by rw [y7]; exact Ty_new _ _ hq6
    have A7 : tg T7 A = 7 := by rw [(fr7 A (by rw [t1]; omega)).1, t1]; exact a1
    refine ⟨A7, fun T10 y10 => ?_⟩
    have hA6 : A ≠ q6 := fun r => by rw [← r, t1] at hq6; omega
    have x7 : tg T7 q6 = 13 := by rw [y7]; exact new_tg _ _ _ _
    have fr10 : Ty (fun a => a = A) (fun a => a = A ∨ a = x ∧ tg T x = 13) T T10 := Ty_trans fr1 (Ty_trans fr7 (by rw [y10]; exact Ty_o (Or.inl rfl)))
    refine fin T10 q6 _ _ fr10 (by rw [y10]; exact A7) (by rw [y10, cs_o_fo, if_pos ⟨rfl, rfl⟩]) (by rw [y10]; exact x7) (by rw [y10]; show 0 < ln T7 q6; rw [y7, new_ln]; decide) (by rw [y10]; show ln T7 q6 ≤ 1000; rw [y7, new_ln]; decide) (fun i hi => by omega) (fun i hi => ?_) (Or.inr (by rw [← t1]; exact hq6)) (fun a q => ?_)
    · rw [y10, cs_o_fo, if_neg (fun r => hA6 r.1.symm), y7, new_fo]
    · have q' : tg T7 a = 20 := by rw [y10] at q; exact q
      by_cases r : a = q6
      · rw [r, x7] at q'; omega
      · rw [y7] at q'
        have : tg (cs_new T1 q6 13 (10 : Int).toNat) a = tg T1 a := if_neg r
        rw [this, t1] at q'; exact q'
  · by_cases hfull : n = ln T x
    · refine ⟨Or.inl q1, by unfold inR; omega, by unfold inR; omega, fun c => absurd (by rw [hfull]) c, fun _ => ⟨mc, ms, 0, 0, ⟨by omega, by omega⟩, a1, ?_⟩⟩
      unfold wp_BAL_grow
      refine ⟨by rw [t1]; exact a1, mc, ms, 0, 0, ⟨by omega, by omega⟩, by rw [t1]; exact a1, ?_⟩
      unfold wp_BAL_grow1
      rw [i1 A 1 (Or.inr (by omega)), a2]
      refine ⟨by rw [t1]; exact a1, x, by rw [o1]; exact a3, Or.inl (by rw [t1]; exact q1), fun v2 e2 => ?_⟩
      rw [l1, ← hfull] at e2
      rw [e2]
      refine ⟨by unfold inR; omega, fun _ => ?_, fun c => absurd (by omega) c⟩
      unfold wp_BAL_grow1_20
      refine ⟨⟨by omega, by omega⟩, ?_⟩
      unfold wp_BAS_newLength
      refine sp_BMa_max (by unfold inR; omega) (by unfold inR; omega) (fun v3 e3 => ?_)
      have h3 : ∃ w : Nat, v3 = w ∧ n < w ∧ w ≤ 900 := by
        refine ⟨v3.toNat, ?_, ?_, ?_⟩ <;> (rw [e3]; omega)
      obtain ⟨w, ew, w1, w2⟩ := h3
      rw [ew]
      refine ⟨by unfold inR; omega, fun c => by omega, fun c => ⟨by unfold inR; omega, fun c => by omega, fun c => ⟨by rw [t1]; exact a1, x, by rw [o1]; exact a3, mc, ms, 0, 0, ⟨by omega, by omega⟩, ?_⟩⟩⟩
      unfold wp_BAr_copyOf2 wp_BAr_copyOf3
      refine ⟨by rw [t1]; exact q1, mc, ms, 0, 0, ⟨by omega, by omega⟩, ⟨by omega, by omega⟩, mc - 1, ms - w, ⟨by omega, by rw [Int.toNat_natCast]; omega⟩, fun q6 T7 hq6 y7 => ?_⟩
      rw [Int.toNat_natCast] at y7
      have fr7 : Ty (fun a => a = A) (fun a => a = A ∨ a = x ∧ tg T x = 13) T1 T7 := by rw [y7]; exact Ty_new _ _ hq6
      have hx6 : x ≠ q6 := fun r => by rw [← r, t1] at hq6; omega
      have hA6 : A ≠ q6 := fun r => by rw [← r, t1] at hq6; omega
      have x7 : tg T7 q6 = 13 := by rw [y7]; exact new_tg _ _ _ _
      have xx7 : tg T7 x = 13 := by rw [(fr7 x (by rw [t1]; omega)).1, t1]; exact q1
      have lx7 : ln T7 x = n := by rw [(fr7 x (by rw [t1]; omega)).2.1, l1]; omega
      have l67 : ln T7 q6 = w := by rw [y7]; exact new_ln _ _ _ _
      have ox7 : fo T7 x = fo T x := by
        have hx2 : fo T7 x = fo T1 x := by
          rw [y7]; funext i
          show (if x = q6 then none else fo T1 x i) = fo T1 x i
          rw [if_neg hx6]
        rw [hx2, o1]
      unfold wp_BAr_copyOf3_24
      refine ⟨xx7, ?_⟩
      rw [lx7]
      refine sp_BMa_min (by unfold inR; omega) (by unfold inR; omega) ?_
      have emin : min (n : Int) (w : Int) = (n : Int) := by omega
      rw [emin, l67, Int.toNat_natCast]
      refine ⟨x7, xx7, ⟨⟨by omega, by omega, by omega⟩, by omega, by omega⟩, t, ht, fun i v hi hv => ?_, fun T8 y8 => ?_⟩
      · rw [ox7, Nat.zero_add, q5 i hi] at hv
        have := Option.some.inj hv
        rw [← this]
        have h5 := a5 (i + 1) (by omega) (by omega)
        rw [(fr7 _ (by rw [t1]; omega)).1, t1]; exact h5
      · have t8 : tg T8 = tg T7 := by rw [y8]; rfl
        have l8 : ln T8 = ln T7 := by rw [y8]; rfl
        have i8 : fi T8 = fi T7 := by rw [y8]; rfl
        have o8 : ∀ c, c ≠ q6 → fo T8 c = fo T7 c := by
          intro c hc; rw [y8]; funext i
          show (if c = q6 then _ else fo T7 c i) = fo T7 c i
          rw [if_neg hc]
        have o86 : ∀ i, fo T8 q6 i = if i < n then fo T x i else none := by
          intro i; rw [y8]
          show (if q6 = q6 then va_cpy (fo T7 x) (fo T7 q6) 0 0 n i else fo T7 q6 i) = _
          rw [if_pos rfl]
          by_cases c : i < n
          · rw [if_pos c, cpy_in c, ox7]
          · rw [if_neg c, pk_cpy_out (Or.inr (by omega)), y7, new_fo]
        have fr8 : Ty (fun a => a = A) (fun a => a = A ∨ a = x ∧ tg T x = 13) T1 T8 := by
          intro c hc
          obtain ⟨g1, g2, g3, g4⟩ := fr7 c hc
          have hc6 : c ≠ q6 := fun r => by rw [r] at hc; exact hc hq6
          exact ⟨by rw [t8]; exact g1, by rw [l8]; exact g2, fun q => by rw [o8 c hc6]; exact g3 q, fun q => by rw [i8]; exact g4 q⟩
        have A8 : tg T8 A = 7 := by rw [(fr8 A (by rw [t1]; omega)).1, t1]; exact a1
        refine ⟨A8, fun T10 y10 => ?_⟩
        have fr10 : Ty (fun a => a = A) (fun a => a = A ∨ a = x ∧ tg T x = 13) T T10 := Ty_trans fr1 (Ty_trans fr8 (by rw [y10]; exact Ty_o (Or.inl rfl)))
        have oq : ∀ i, fo T10 q6 i = if i < n then fo T x i else none := by
          intro i; rw [y10, cs_o_fo, if_neg (fun r => hA6 r.1.symm)]; exact o86 i
        refine fin T10 q6 _ _ fr10 (by rw [y10]; exact A8) (by rw [y10, cs_o_fo, if_pos ⟨rfl, rfl⟩]) (by rw [y10]; show tg T8 q6 = 13; rw [t8]; exact x7) (by rw [y10]; show n < ln T8 q6; rw [l8, l67]; exact w1) (by rw [y10]; show ln T8 q6 ≤ 1000; rw [l8, l67]; omega) (fun i hi => by rw [oq, if_pos hi]; exact q5 i hi) (fun i hi => by rw [oq, if_neg (by omega)]) (Or.inr (by rw [← t1]; exact hq6)) (fun a q => ?_)
        have q' : tg T7 a = 20 := by rw [y10] at q; rw [← t8]; exact q
        by_cases r : a = q6
        · rw [r, x7] at q'; omega
        · rw [y7] at q'
          have : tg (cs_new T1 q6 13 w) a = tg T1 a := if_neg r
          rw [this, t1] at q'; exact q'
    · refine ⟨Or.inl q1, by unfold inR; omega, by unfold inR; omega, fun c => ?_, fun c => absurd (by omega) hfull⟩
      exact fin T1 x mc ms fr1 (by rw [t1]; exact a1) (by rw [o1]; exact a3) (by rw [t1]; exact q1) (by rw [l1]; omega) (by rw [l1]; exact q4) (fun i hi => by rw [o1]; exact q5 i hi) (fun i hi => by rw [o1]; exact q6 i hi) (Or.inl ⟨rfl, q1⟩) (fun a q => by rw [← t1]; exact q)
end ADD
