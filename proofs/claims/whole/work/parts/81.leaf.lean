/-! THE PURE SIDE: what the leaves answer. -/
def bI (b : Bool) : Int := if b = true then 1 else 0
theorem bI_t : bI true = 1 := rfl
theorem bI_f : bI false = 0 := rfl
theorem bI_in (b : Bool) : inR (bI b) := by cases b <;> exact ⟨by decide, by decide⟩
theorem bI_0 {b : Bool} : bI b = 0 ↔ b = false := by cases b <;> decide
theorem bI_01 (b : Bool) : b01 (bI b) := by cases b <;> first | exact Or.inl rfl | exact Or.inr rfl
def sgI (v : Int) : Int := if v < 0 then -1 else if v = 0 then 0 else 1
theorem sgI_in (v : Int) : inR (sgI v) := by unfold sgI; split <;> first | exact ⟨by decide, by decide⟩ | (split <;> exact ⟨by decide, by decide⟩)
theorem pb_mul {x y : Int} (hx : -20000 ≤ x ∧ x ≤ 20000) (hy : -20000 ≤ y ∧ y ≤ 20000) : -400000000 ≤ x * y ∧ x * y ≤ 400000000 := by
  rcases Int.le_total 0 x with h | h
  · have a := Int.mul_le_mul_of_nonneg_left hy.2 h
    have b := Int.mul_le_mul_of_nonneg_left hy.1 h
    omega
  · have h' : 0 ≤ -x := by omega
    have a := Int.mul_le_mul_of_nonneg_left hy.2 h'
    have b := Int.mul_le_mul_of_nonneg_left hy.1 h'
    rw [Int.neg_mul, Int.neg_mul] at a b
    omega
theorem ok_d {a b : Int × Int} (ha : ig_ok a) (hb : ig_ok b) : (-20000 ≤ b.1 - a.1 ∧ b.1 - a.1 ≤ 20000) ∧ (-20000 ≤ b.2 - a.2 ∧ b.2 - a.2 ≤ 20000) := by
  unfold ig_ok at ha hb
  omega
theorem ok_turn {a b d : Int × Int} (ha : ig_ok a) (hb : ig_ok b) (hd : ig_ok d) : inR (ig_turn a b d) := by
  have h1 := ok_d ha hb
  have h2 := ok_d ha hd
  have m1 := pb_mul h1.1 h2.2
  have m2 := pb_mul h1.2 h2.1
  unfold ig_turn inR
  omega
theorem ok_in {a : Int × Int} (ha : ig_ok a) : inR a.1 ∧ inR a.2 := by unfold ig_ok at ha; unfold inR; omega
theorem sp_Mo_turn {post : Int → Prop} {a b d : Int × Int} (h : post (ig_turn a b d)) : wp_Mo_turn post a.1 a.2 b.1 b.2 d.1 d.2 := h
theorem sp_Mo_isBetween {post : Int → Prop} {a b v : Int} (ha : inR a) (hb : inR b) (hv : inR v) (h : post (bI (im_btw a b v))) : wp_Mo_isBetween post a b v := by
  unfold wp_Mo_isBetween
  unfold im_btw at h
  refine ⟨ha, hb, fun c1 => ⟨hb, hv, fun c2 => ?_, fun c2 => ⟨hv, ha, fun c3 => ?_, fun c3 => ?_⟩⟩, fun c1 => ⟨ha, hv, fun c2 => ?_, fun c2 => ⟨hv, hb, fun c3 => ?_, fun c3 => ?_⟩⟩⟩
  · rw [if_neg (by omega), show decide (b ≤ v) = false from decide_eq_false (by omega)] at h; exact h
  · rw [if_neg (by omega), show decide (v ≤ a) = false from decide_eq_false (by omega), Bool.and_false] at h; exact h
  · rw [if_neg (by omega), show decide (b ≤ v) = true from decide_eq_true (by omega), show decide (v ≤ a) = true from decide_eq_true (by omega)] at h; exact h
  · rw [if_pos (by omega), show decide (a ≤ v) = false from decide_eq_false (by omega)] at h; exact h
  · rw [if_pos (by omega), show decide (v ≤ b) = false from decide_eq_false (by omega), Bool.and_false] at h; exact h
  · rw [if_pos (by omega), show decide (a ≤ v) = true from decide_eq_true (by omega), show decide (v ≤ b) = true from decide_eq_true (by omega)] at h; exact h
theorem sp_Mo_isOn {post : Int → Prop} {a b d : Int × Int} (ha : ig_ok a) (hb : ig_ok b) (hd : ig_ok d) (h : post (bI (im_on a b d))) : wp_Mo_isOn post a.1 a.2 b.1 b.2 d.1 d.2 := by
  have ia := ok_in ha
  have ib := ok_in hb
  have id := ok_in hd
  unfold wp_Mo_isOn
  unfold im_on at h
  refine sp_Mo_turn ⟨ok_turn ha hb hd, fun c1 => ?_, fun c1 => ?_⟩
  · rw [decide_eq_false c1, Bool.false_and, Bool.false_and] at h; exact h
  · rw [decide_eq_true c1, Bool.true_and] at h
    refine sp_Mo_isBetween ia.1 ib.1 id.1 ⟨bI_in _, fun c2 => ?_, fun c2 => ?_⟩
    · rw [bI_0.mp c2, Bool.false_and] at h; exact h
    · have e2 : im_btw a.1 b.1 d.1 = true := by
        cases e : im_btw a.1 b.1 d.1 with
        | true => rfl
        | false => rw [e] at c2; exact absurd rfl c2
      rw [e2, Bool.true_and] at h
      refine sp_Mo_isBetween ia.2 ib.2 id.2 ⟨bI_in _, fun c3 => ?_, fun c3 => ?_⟩
      · rw [bI_0.mp c3] at h; exact h
      · have e3 : im_btw a.2 b.2 d.2 = true := by
          cases e : im_btw a.2 b.2 d.2 with
          | true => rfl
          | false => rw [e] at c3; exact absurd rfl c3
        rw [e3] at h
        exact h
theorem sp_Mo_sign {post : Int → Prop} {v : Int} (hv : inR v) (h : post (sgI v)) : wp_Mo_sign post v := by
  unfold wp_Mo_sign
  unfold sgI at h
  refine ⟨hv, fun c1 => ⟨hv, fun c2 => ?_, fun c2 => ?_⟩, fun c1 => ?_⟩
  · rw [if_neg (by omega), if_pos (by omega)] at h; exact h
  · rw [if_pos (by omega)] at h; exact h
  · rw [if_neg (by omega), if_neg (by omega)] at h; exact h
theorem sp_Mo_most {post : Int → Prop} {a b : Int} (ha : inR a) (hb : inR b) (h : post (max a b)) : wp_Mo_most post a b := by
  refine ⟨ha, hb, fun c => ?_, fun c => ?_⟩
  · rw [Int.max_eq_right c] at h; exact h
  · rw [Int.max_eq_left (by omega)] at h; exact h
theorem sp_Mo_least {post : Int → Prop} {a b : Int} (ha : inR a) (hb : inR b) (h : post (min a b)) : wp_Mo_least post a b := by
  refine ⟨ha, hb, fun c => ?_, fun c => ?_⟩
  · rw [Int.min_eq_right c] at h; exact h
  · rw [Int.min_eq_left (by omega)] at h; exact h
theorem sp_Mo_isFolded {post : Int → Prop} {v a b : Int × Int} (hv : ig_ok v) (ha : ig_ok a) (hb : ig_ok b) (h : post (bI (im_fold v a b))) : wp_Mo_isFolded post v.1 v.2 a.1 a.2 b.1 b.2 := by
  have d1 := ok_d hv ha
  have d2 := ok_d hv hb
  have m1 := pb_mul d1.1 d2.1
  have m2 := pb_mul d1.2 d2.2
  unfold wp_Mo_isFolded
  unfold im_fold at h
  refine ⟨by unfold inR; omega, by unfold inR; omega, by unfold inR; omega, by unfold inR; omega, fun w hw => ?_⟩
  refine sp_Mo_turn (a := v) (b := a) (d := b) ⟨ok_turn hv ha hb, fun c1 => ?_, fun c1 => ⟨by unfold inL; omega, fun c2 => ?_, fun c2 => ?_⟩⟩
  · rw [decide_eq_false c1, Bool.false_and] at h; exact h
  · rw [decide_eq_true c1, Bool.true_and, decide_eq_false (by omega)] at h; exact h
  · rw [decide_eq_true c1, Bool.true_and, decide_eq_true (by omega)] at h; exact h
