/-! THE BOOK'S RINGS: frames; area, keep, where, sideOf -/
def Tw (P : Nat → Prop) (T T' : CS) : Prop := (∀ a, tg T' a = tg T a) ∧ (∀ a, ln T' a = ln T a) ∧ (∀ a, fo T' a = fo T a) ∧ ∀ a, ¬ P a → fi T' a = fi T a
theorem Tw_refl (P : Nat → Prop) (T : CS) : Tw P T T := ⟨fun _ => rfl, fun _ => rfl, fun _ => rfl, fun _ _ => rfl⟩
theorem Tw_trans {P : Nat → Prop} {T T' T2 : CS} (h : Tw P T T') (g : Tw P T' T2) : Tw P T T2 := ⟨fun a => (g.1 a).trans (h.1 a), fun a => (g.2.1 a).trans (h.2.1 a), fun a => (g.2.2.1 a).trans (h.2.2.1 a), fun a q => (g.2.2.2 a q).trans (h.2.2.2 a q)⟩
theorem Tw_mono {P Q : Nat → Prop} {T T' : CS} (h : Tw P T T') (g : ∀ a, P a → Q a) : Tw Q T T' := ⟨h.1, h.2.1, h.2.2.1, fun a q => h.2.2.2 a (fun f => q (g a f))⟩
theorem Tw_i {P : Nat → Prop} {T : CS} {a j : Nat} {v : Int} (h : P a) : Tw P T (cs_i T a j v) := by
  refine ⟨fun _ => rfl, fun _ => rfl, fun _ => rfl, fun c hc => ?_⟩
  funext i
  show (if c = a ∧ i = j then v else fi T c i) = fi T c i
  rw [if_neg (fun f : c = a ∧ i = j => hc (by rw [f.1]; exact h))]
theorem ptsAt.tw {P : Nat → Prop} {T T' : CS} {a b cap : Nat} {l : List PT} (h : ptsAt T a b l cap) (g : Tw P T T') (ha : ¬ P a) (hb : ¬ P b) : ptsAt T' a b l cap := by
  obtain ⟨h1, h2, h3, h4, h5, h6, h7⟩ := h
  exact ⟨by rw [g.1]; exact h1, by rw [g.2.2.1]; exact h2, by rw [g.1]; exact h3, by rw [g.2.1]; exact h4, by rw [g.2.2.2 a ha]; exact h5, h6, fun i hi => by rw [g.2.2.2 b hb]; exact h7 i hi⟩
/-- a Points object, whatever it holds -/
def spt (T : CS) (a b cap : Nat) : Prop := tg T a = 2 ∧ fo T a 0 = some b ∧ tg T b = 11 ∧ ln T b = cap ∧ cap ≤ 100000
theorem spt.tw {P : Nat → Prop} {T T' : CS} {a b cap : Nat} (h : spt T a b cap) (g : Tw P T T') : spt T' a b cap := by
  obtain ⟨h1, h2, h3, h4, h5⟩ := h
  exact ⟨by rw [g.1]; exact h1, by rw [g.2.2.1]; exact h2, by rw [g.1]; exact h3, by rw [g.2.1]; exact h4, h5⟩
theorem ptsAt.spt {T : CS} {a b cap : Nat} {l : List PT} (h : ptsAt T a b l cap) : spt T a b cap := ⟨h.1, h.2.1, h.2.2.1, h.2.2.2.1, h.2.2.2.2.2.1.2⟩
abbrev pab (a b : Nat) : Nat → Prop := fun c => c = a ∨ c = b
theorem sp_clear {post : CS → Prop} {T : CS} {a b cap : Nat} (h : spt T a b cap) (hp : ∀ T', Tw (pab a b) T T' → ptsAt T' a b [] cap → post T') : wp_BPt_clear post a T := by
  obtain ⟨h1, h2, h3, h4, h5⟩ := h
  refine ⟨h1, fun T1 e => hp T1 (by rw [e]; exact Tw_i (Or.inl rfl)) ?_⟩
  rw [e]
  exact ⟨h1, h2, h3, h4, by simp [fi, cs_i], ⟨Nat.zero_le _, h5⟩, fun i hi => absurd hi (Nat.not_lt_zero _)⟩
theorem sp_add {post : CS → Prop} {T : CS} {a b cap : Nat} {l : List PT} {p : PT} (h : ptsAt T a b l cap) (hc : l.length < cap) (hp : ∀ T', Tw (pab a b) T T' → ptsAt T' a b (l ++ [p]) cap → post T') : wp_BPt_add post a (ig_pk p) T :=
  sp_BPt_add h hc (hp _ (Tw_trans (Tw_i (Or.inr rfl)) (Tw_i (Or.inl rfl))) (h.add hc))
section BRG
variable {T : CS} {a b cap : Nat} {l : List PT}
theorem ptsAt.sz (h : ptsAt T a b l cap) : fi T a 1 = (l.length : Int) := h.2.2.2.2.1
theorem sp_B_twiceArea {post : Int → CS → Prop} (h : ptsAt T a b l cap) (h0 : l ≠ []) (hok : ∀ p ∈ l, ig_ok p) (hp : post (ig_area l) T) : wp_BRi_twiceArea post a T := by
  have ok := ig_at_ok hok h0
  have hc := h.2.2.2.2.2.1
  have loop : ∀ (n k : Nat), l.length - k < n → k ≤ l.length → wp_BRi_twiceArea_4 post n a (gx_S (fun k => ig_ar (ig_at l k) (ig_at l (k + 1))) k) k T := by
    intro n
    induction n with
    | zero => intro k hn; omega
    | succ n ih =>
      intro k hn hk
      have e1 : (k : Int) + 1 = ((k + 1 : Nat) : Int) := by omega
      unfold wp_BRi_twiceArea_4
      rw [h.sz, e1]
      refine ⟨h.1, by unfold inR; omega, by unfold inR; omega, fun c => ?_, fun c => ⟨h.1, sp_at_nat h h0 (by omega) (sp_BPl_xOf (ok k) ⟨(ok_in (ok k)).1, h.1, sp_at_nat h h0 (by omega) (sp_BPl_yOf (ok k) ⟨(ok_in (ok k)).2, h.1, sp_at_nat h h0 (by omega) (sp_BPl_yOf (ok (k + 1)) ⟨(ok_in (ok (k + 1))).2, h.1, sp_at_nat h h0 (by omega) (sp_BPl_xOf (ok (k + 1)) ⟨(ok_in (ok (k + 1))).1, fun v e => ?_⟩)⟩)⟩)⟩)⟩⟩
      · have : k = l.length := by omega
        subst this; exact hp
      · have : v = gx_S (fun k => ig_ar (ig_at l k) (ig_at l (k + 1))) (k + 1) := by
          rw [e]
          simp only [gx_S, ig_ar]
          rw [Int.mul_comm (ig_at l k).2 (ig_at l (k + 1)).1]
        rw [this]
        exact ih (k + 1) (by omega) (by omega)
  exact ⟨l.length + 1, loop _ 0 (by omega) (by omega)⟩
/-- what the class walks along: from the least corner on, forwards or backwards -/
def ig_go (l : List PT) (f : Nat) (up : Bool) (k : Nat) : PT := ig_atI l ((f : Int) + (k : Int) * (if up then 1 else -1))
theorem ig_atI_mod (l : List PT) (i : Int) (k : Int) : ig_atI l (i + k * l.length) = ig_atI l i := by
  unfold ig_atI; rw [Int.add_mul_emod_self_right]
theorem ig_go_up (l : List PT) (f k : Nat) : ig_go l f true k = ig_at l (f + k) := by
  unfold ig_go
  rw [if_pos rfl, Int.mul_one, show (f : Int) + (k : Int) = ((f + k : Nat) : Int) by omega, ig_atI_nat]
theorem ig_go_dn {l : List PT} (h0 : l ≠ []) (f k : Nat) (hk : k ≤ f + l.length) : ig_go l f false k = ig_at l (f + l.length - k) := by
  unfold ig_go
  have : (f : Int) + (k : Int) * (if false = true then 1 else -1) = ((f + l.length - k : Nat) : Int) + (-1) * (l.length : Int) := by
    simp; omega
  rw [this, ig_atI_mod, ig_atI_nat]
/-- the row it walks is the ring, turned as it is kept -/
theorem ig_go_rote {l : List PT} (h0 : l ≠ []) (f : Nat) (up : Bool) : ∃ C : List PT, rote (if up then l else l.reverse) C ∧ C.length = l.length ∧ (∀ k, k ≤ l.length → ig_at C k = ig_go l f up k) ∧ ∀ k, k < l.length → ig_at C (k + l.length - 1) = ig_atI l ((f : Int) + ((k : Int) - 1) * (if up then 1 else -1)) := by
  have hn : 0 < l.length := List.length_pos_iff.mpr h0
  cases up with
  | true =>
    have r := ig_seg_full l (f + l.length - 1)
    have hC : ∀ k, ig_at (ig_seg l (f + l.length - 1) l.length) k = ig_at l (f + k) := by
      intro k
      have h1 : ∀ j, j < l.length → ig_at (ig_seg l (f + l.length - 1) l.length) j = ig_at l (f + j) := by
        intro j hj
        rw [seg_at hj, show f + l.length - 1 + 1 + j = f + j + l.length by omega, ig_at_len]
      have h2 := h1 (k % l.length) (Nat.mod_lt _ hn)
      have e3 : ig_at (ig_seg l (f + l.length - 1) l.length) (k % l.length) = ig_at (ig_seg l (f + l.length - 1) l.length) k := by
        have := ig_at_mod (ig_seg l (f + l.length - 1) l.length) k
        rw [ig_seg_len] at this; exact this
      rw [← e3, h2, ← ig_at_mod l (f + k % l.length), Nat.add_mod_mod, ig_at_mod]
    refine ⟨ig_seg l (f + l.length - 1) l.length, r, ig_seg_len _ _ _, fun k _ => by rw [hC, ig_go_up], fun k hk => ?_⟩
    rw [hC]
    rw [if_pos rfl, Int.mul_one]
    have : (f : Int) + ((k : Int) - 1) = ((f + (k + l.length - 1) : Nat) : Int) + (-1) * (l.length : Int) := by omega
    rw [this, ig_atI_mod, ig_atI_nat]
  | false =>
    -- reverse l at j is l at n-1-j
    have hrl : l.reverse.length = l.length := List.length_reverse
    have hr0 : l.reverse ≠ [] := by simpa using h0
    have hrev : ∀ j, ig_at l.reverse j = ig_at l (j * l.length + l.length - 1 - j) := by
      intro j
      have hm : j % l.length < l.length := Nat.mod_lt _ hn
      rw [← ig_at_mod l.reverse j, hrl, rev_at hm]
      have hle : j ≤ j * l.length := Nat.le_mul_of_pos_right j hn
      rw [← ig_at_mod l (l.length - 1 - j % l.length), ← ig_at_mod l (j * l.length + l.length - 1 - j)]
      congr 1
      have e : j * l.length + l.length - 1 - j = (j * l.length - (j / l.length) * l.length) + (l.length - 1 - j % l.length) := by
        have := Nat.mod_add_div j l.length
        have e2 : l.length * (j / l.length) = (j / l.length) * l.length := Nat.mul_comm _ _
        have e3 : (j / l.length) * l.length ≤ j * l.length := Nat.mul_le_mul_right _ (Nat.div_le_self _ _)
        omega
      rw [e, ← Nat.sub_mul, Nat.mul_add_mod_self_right]
    -- start so that C 0 = l f
    obtain ⟨t, ht⟩ : ∃ t, t % l.length = (l.length - 1 - f % l.length) ∧ t < l.length := ⟨l.length - 1 - f % l.length, Nat.mod_eq_of_lt (by omega), by omega⟩
    have r := ig_seg_full l.reverse (t + l.length - 1)
    rw [hrl] at r
    have hC : ∀ k, k < 2 * l.length → ig_at (ig_seg l.reverse (t + l.length - 1) l.length) k = ig_at l (f + 2 * l.length - k) := by
      intro k hk2
      have h1 : ∀ j, j < l.length → ig_at (ig_seg l.reverse (t + l.length - 1) l.length) j = ig_at l (f + 2 * l.length - j) := by
        intro j hj
        rw [seg_at hj, show t + l.length - 1 + 1 + j = t + j + l.reverse.length by rw [hrl]; omega, ig_at_len]
        have et : t = l.length - 1 - f % l.length := by have := ht.1; rw [Nat.mod_eq_of_lt ht.2] at this; exact this
        have hfm : f % l.length < l.length := Nat.mod_lt _ hn
        rw [← ig_at_mod l.reverse (t + j), hrl, rev_at (Nat.mod_lt _ hn)]
        rw [← ig_at_mod l (l.length - 1 - (t + j) % l.length), ← ig_at_mod l (f + 2 * l.length - j)]
        congr 1
        have ef : f = f % l.length + l.length * (f / l.length) := (Nat.mod_add_div f l.length).symm
        have goal : ∀ g, g = f % l.length → (l.length - 1 - (t + j) % l.length) % l.length = (g + 2 * l.length - j) % l.length := by
          intro g hg
          rcases Nat.lt_or_ge (t + j) l.length with c | c
          · rw [Nat.mod_eq_of_lt c, show l.length - 1 - (t + j) = g - j by omega, show g + 2 * l.length - j = (g - j) + l.length + l.length by omega, Nat.add_mod_right, Nat.add_mod_right]
          · rw [Nat.mod_eq_sub_mod c, Nat.mod_eq_of_lt (show t + j - l.length < l.length by omega), show l.length - 1 - (t + j - l.length) = g + l.length - j by omega, show g + 2 * l.length - j = (g + l.length - j) + l.length by omega, Nat.add_mod_right]
        rw [goal _ rfl]
        conv => rhs; rw [ef]
        rw [show f % l.length + l.length * (f / l.length) + 2 * l.length - j = l.length * (f / l.length) + (f % l.length + 2 * l.length - j) by omega, Nat.mul_add_mod]
      rcases Nat.lt_or_ge k l.length with c | c
      · exact h1 k c
      · have := h1 (k - l.length) (by omega)
        have e3 : ig_at (ig_seg l.reverse (t + l.length - 1) l.length) (k - l.length) = ig_at (ig_seg l.reverse (t + l.length - 1) l.length) k := by
          have := ig_at_len (ig_seg l.reverse (t + l.length - 1) l.length) (k - l.length)
          rw [ig_seg_len] at this
          rw [← this]; congr 1; omega
        rw [← e3, this, show f + 2 * l.length - (k - l.length) = (f + 2 * l.length - k) + l.length by omega, ig_at_len]
    refine ⟨ig_seg l.reverse (t + l.length - 1) l.length, r, ig_seg_len _ _ _, fun k hk => ?_, fun k hk => ?_⟩
    · rw [hC k (by omega), ig_go_dn h0 f k (by omega), show f + 2 * l.length - k = (f + l.length - k) + l.length by omega, ig_at_len]
    · rw [hC _ (by omega)]
      have : (f : Int) + ((k : Int) - 1) * (if false = true then 1 else -1) = ((f + 2 * l.length - (k + l.length - 1) : Nat) : Int) + (-1) * (l.length : Int) := by
        simp; omega
      rw [this, ig_atI_mod, ig_atI_nat]
end BRG
