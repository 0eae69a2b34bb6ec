/-! the list without its straight corners; the ring as it is kept -/
def ig_fl : PT → List PT → PT → List PT
  | _, [], _ => []
  | a, b :: r, z => (if ig_turn a b (r.headD z) = 0 then [] else [b]) ++ ig_fl b r z
def ig_flt (l : List PT) : List PT := ig_fl (l.getLastD (0, 0)) l (l.headD (0, 0))
theorem ig_fl_sub (a : PT) (r : List PT) (z : PT) : (ig_fl a r z).Sublist r := by
  induction r generalizing a with
  | nil => exact List.Sublist.refl _
  | cons b r ih =>
    unfold ig_fl
    split
    · exact (ih b).cons b
    · exact (ih b).cons_cons b
theorem ig_flt_sub (l : List PT) : (ig_flt l).Sublist l := ig_fl_sub _ _ _
theorem ig_fl_app (a : PT) (A : List PT) (b : PT) (B : List PT) (z : PT) : ig_fl a (A ++ b :: B) z = ig_fl a A b ++ ig_fl (A.getLastD a) (b :: B) z := by
  induction A generalizing a with
  | nil => rfl
  | cons c A ih =>
    have h1 : (A ++ b :: B).headD z = A.headD b := by cases A <;> rfl
    have h2 : (c :: A).getLastD a = A.getLastD c := by cases A <;> rfl
    show (if ig_turn a c ((A ++ b :: B).headD z) = 0 then [] else [c]) ++ ig_fl c (A ++ b :: B) z = ((if ig_turn a c (A.headD b) = 0 then [] else [c]) ++ ig_fl c A b) ++ _
    rw [ih, h1, h2, List.append_assoc]
theorem ig_lastD_app (A B : List PT) (a d : PT) : (A ++ a :: B).getLastD d = B.getLastD a := by
  induction A generalizing d with
  | nil => cases B <;> rfl
  | cons c A ih =>
    have : ∀ (x : PT) (L : List PT) (d : PT), (x :: L).getLastD d = L.getLastD x := by intro x L d; cases L <;> rfl
    rw [List.cons_append, this]; exact ih c
theorem ig_flt_app (a : PT) (A : List PT) (b : PT) (B : List PT) : ig_flt (a :: A ++ b :: B) = ig_fl (B.getLastD b) (a :: A) b ++ ig_fl (A.getLastD a) (b :: B) a := by
  unfold ig_flt
  rw [ig_lastD_app (a :: A) B b]
  show ig_fl _ (a :: A ++ b :: B) a = _
  rw [ig_fl_app]
  have : (a :: A).getLastD (B.getLastD b) = A.getLastD a := by cases A <;> rfl
  rw [this]
theorem ig_flt_rot (A B : List PT) : rote (ig_flt (A ++ B)) (ig_flt (B ++ A)) := by
  cases A with
  | nil => rw [List.nil_append, List.append_nil]; exact rote_refl _
  | cons a A =>
    cases B with
    | nil => rw [List.nil_append, List.append_nil]; exact rote_refl _
    | cons b B => rw [ig_flt_app, ig_flt_app]; exact rote_app _ _
theorem rote_flt {l m : List PT} (h : rote l m) : rote (ig_flt l) (ig_flt m) := by
  obtain ⟨A, B, e1, e2⟩ := rote_out h
  rw [e1, e2]; exact ig_flt_rot A B
theorem ig_fl_con {a a' h z z' : PT} {t : List PT} (h1 : ∀ y, ig_turn a h y = 0 ↔ ig_turn a' h y = 0) (h2 : ∀ x, ig_turn x (t.getLastD h) z = 0 ↔ ig_turn x (t.getLastD h) z' = 0) : ig_fl a (h :: t) z = ig_fl a' (h :: t) z' := by
  induction t generalizing a a' h with
  | nil =>
    have e2 : ∀ x, ig_turn x h z = 0 ↔ ig_turn x h z' = 0 := h2
    have : ig_turn a h z = 0 ↔ ig_turn a' h z' = 0 := (h1 z).trans (e2 a')
    show (if ig_turn a h z = 0 then [] else [h]) ++ [] = (if ig_turn a' h z' = 0 then [] else [h]) ++ []
    by_cases c : ig_turn a' h z' = 0
    · rw [if_pos c, if_pos (this.mpr c)]
    · rw [if_neg c, if_neg (fun f => c (this.mp f))]
  | cons c t ih =>
    have e : (c :: t).getLastD h = t.getLastD c := by cases t <;> rfl
    rw [e] at h2
    show (if ig_turn a h c = 0 then [] else [h]) ++ ig_fl h (c :: t) z = (if ig_turn a' h c = 0 then [] else [h]) ++ ig_fl h (c :: t) z'
    rw [ih (fun y => Iff.rfl) h2]
    simp only [h1 c]
theorem ig_btw_turn {a b d : PT} {t : Rat} (t0 : 0 < t) (t1 : t < 1) (hb : ig_c b = gx_at (ig_c a) (ig_c d) t) : (∀ y, ig_turn b d y = 0 ↔ ig_turn a d y = 0) ∧ ∀ x, ig_turn x a b = 0 ↔ ig_turn x a d = 0 := by
  refine ⟨fun y => ?_, fun x => ?_⟩
  · rw [← ig_turn0, ← ig_turn0]
    have e : gx_turn (ig_c b) (ig_c d) (ig_c y) = (1 - t) * gx_turn (ig_c a) (ig_c d) (ig_c y) := by
      rw [hb]; simp only [gx_turn, gx_at]; grind
    rw [e, Rat.mul_eq_zero]
    constructor
    · rintro (h | h)
      · grind
      · exact h
    · exact Or.inr
  · rw [← ig_turn0, ← ig_turn0]
    have e : gx_turn (ig_c x) (ig_c a) (ig_c b) = t * gx_turn (ig_c x) (ig_c a) (ig_c d) := by
      rw [hb]; simp only [gx_turn, gx_at]; grind
    rw [e, Rat.mul_eq_zero]
    constructor
    · rintro (h | h)
      · grind
      · exact h
    · exact Or.inr
/-- a straight corner of a simple ring lies between its neighbours -/
theorem rgn_drop {b : PT} {r : List PT} (h : gx_simple (rgn (b :: r))) (hr : r ≠ []) (hs : ig_turn (r.getLastD b) b (r.headD b) = 0) :
    (∃ t : Rat, 0 < t ∧ t < 1 ∧ ig_c b = gx_at (ig_c (r.getLastD b)) (ig_c (r.headD b)) t) ∧ gx_simple (rgn r) ∧ (∀ z, gx_wn (rgn r) z = gx_wn (rgn (b :: r)) z) ∧ ig_flt r = ig_flt (b :: r) := by
  match r, hr with
  | [c], _ =>
    exfalso
    have := gx_simple3 h (by simp [rgn, gx_ringOf, gx_sd])
    rw [rgn_len] at this
    simp at this
  | c :: d :: r, _ =>
    have hdl : ∃ A e, d :: r = A ++ [e] := ⟨(d :: r).dropLast, (d :: r).getLast (by simp), (List.dropLast_concat_getLast (by simp)).symm⟩
    obtain ⟨A, e, hA⟩ := hdl
    rw [hA] at h hs ⊢
    have el : (c :: (A ++ [e])).getLastD b = e := by
      have := ig_lastD_app (c :: A) [] e b
      simpa using this
    rw [el] at hs ⊢
    show (∃ t : Rat, 0 < t ∧ t < 1 ∧ ig_c b = gx_at (ig_c e) (ig_c c) t) ∧ _
    have hs : ig_turn e b c = 0 := hs
    have r1 : rgn (b :: c :: (A ++ [e])) = (ig_c b, ig_c c) :: (gx_sd (ig_c c) (A.map ig_c) (ig_c e) ++ [(ig_c e, ig_c b)]) := by
      show gx_sd (ig_c b) (ig_c c :: (A ++ [e]).map ig_c) (ig_c b) = _
      rw [List.map_append]
      show (ig_c b, ig_c c) :: gx_sd (ig_c c) (A.map ig_c ++ [ig_c e]) (ig_c b) = _
      rw [gx_sd_app]; rfl
    have r2 : rgn (c :: (A ++ [e])) = gx_sd (ig_c c) (A.map ig_c) (ig_c e) ++ [(ig_c e, ig_c c)] := by
      show gx_sd (ig_c c) ((A ++ [e]).map ig_c) (ig_c c) = _
      rw [List.map_append]
      show gx_sd (ig_c c) (A.map ig_c ++ [ig_c e]) (ig_c c) = _
      rw [gx_sd_app]; rfl
    rw [r1] at h ⊢
    rw [r2]
    have h' : gx_simple (gx_sd (ig_c c) (A.map ig_c) (ig_c e) ++ (ig_c e, ig_c b) :: (ig_c b, ig_c c) :: []) := by
      have := gx_simple_rot (S := [(ig_c b, ig_c c)]) (T := gx_sd (ig_c c) (A.map ig_c) (ig_c e) ++ [(ig_c e, ig_c b)]) h
      simpa using this
    have n1 : ig_c e ≠ ig_c b := h'.2.1 (ig_c e, ig_c b) (by simp)
    have n2 : ig_c b ≠ ig_c c := h'.2.1 (ig_c b, ig_c c) (by simp)
    have hd : gx_hd (ig_c e, ig_c b) (ig_c b, ig_c c) := by
      have := h'.1
      rw [List.pairwise_append] at this
      have := this.2.1
      rw [List.pairwise_cons] at this
      exact this.1 _ (by simp)
    obtain ⟨k, k0, k1, k2⟩ := gx_nofold n1 n2 hd ((ig_turn0 e b c).mpr hs)
    obtain ⟨t, t0, t1, hb⟩ := gx_fold_at k0 k1 k2
    have hn : ig_c e ≠ ig_c c := by
      intro f
      rw [f] at hb
      have : ig_c b = ig_c c := by rw [hb]; simp only [gx_at]; grind
      exact n2 this
    refine ⟨⟨t, t0, t1, hb⟩, (gx_sub_simple t0 t1 hb hn).mpr h', fun z => ?_, ?_⟩
    · rw [← gx_sub_wn t0 t1 hb]
      simp only [gx_wn_app, gx_wn]; omega
    · have ht := ig_btw_turn t0 t1 hb
      unfold ig_flt
      have e1 : (c :: (A ++ [e])).getLastD (0, 0) = e := by
        have := ig_lastD_app (c :: A) [] e (0, 0)
        simpa using this
      have e2 : (b :: c :: (A ++ [e])).getLastD (0, 0) = e := by
        have := ig_lastD_app (b :: c :: A) [] e (0, 0)
        simpa using this
      rw [e1, e2]
      show ig_fl e (c :: (A ++ [e])) c = (if ig_turn e b c = 0 then [] else [b]) ++ ig_fl b (c :: (A ++ [e])) b
      rw [if_pos hs, List.nil_append]
      have e3 : (A ++ [e]).getLastD c = e := by
        have := ig_lastD_app A [] e c
        simpa using this
      refine ig_fl_con (fun y => (ht.1 y).symm) (fun x => ?_)
      rw [e3]
      exact (ht.2 x).symm
theorem rgn_drop_at {A B : List PT} {b : PT} (h : gx_simple (rgn (A ++ b :: B))) (hs : ig_turn ((B ++ A).getLastD b) b ((B ++ A).headD b) = 0) :
    gx_simple (rgn (A ++ B)) ∧ (∀ z, gx_wn (rgn (A ++ B)) z = gx_wn (rgn (A ++ b :: B)) z) ∧ rote (ig_flt (A ++ b :: B)) (ig_flt (A ++ B)) := by
  have q1 : rote (A ++ b :: B) (b :: (B ++ A)) := rote_app A (b :: B)
  have h1 := rote_simple q1 h
  have hr : B ++ A ≠ [] := by
    intro k
    rw [k] at h1
    have := gx_simple3 h1 (by simp [rgn, gx_ringOf, gx_sd])
    rw [rgn_len] at this
    simp at this
  obtain ⟨_, g1, g2, g3⟩ := rgn_drop h1 hr hs
  have q2 : rote (B ++ A) (A ++ B) := rote_app B A
  refine ⟨rote_simple q2 g1, fun z => ?_, ?_⟩
  · rw [rote_wn q2, g2, rote_wn q1]
  · have := rote_flt q1
    rw [← g3] at this
    exact rote_trans this (rote_flt q2)
