theorem sgI_sign (v : Int) : sgI v = Int.sign v := by
  unfold sgI
  rcases ig_sgn3 v with ⟨h, e⟩ | ⟨h, e⟩ | ⟨h, e⟩
  · rw [if_pos h, e]
  · rw [if_neg (by omega), if_pos h, e]
  · rw [if_neg (by omega), if_neg (by omega), e]
theorem sgI_3 (v : Int) : sgI v = -1 ∨ sgI v = 0 ∨ sgI v = 1 := by
  unfold sgI
  split
  · exact Or.inl rfl
  · split
    · exact Or.inr (Or.inl rfl)
    · exact Or.inr (Or.inr rfl)
theorem sgI_mul (v w : Int) : inR (sgI v * sgI w) := by
  rcases sgI_3 v with a | a | a <;> rcases sgI_3 w with b | b | b <;> rw [a, b] <;> exact ⟨by decide, by decide⟩
theorem sp_Mo_meet {post : Int → Prop} {a b p q : Int × Int} (ha : ig_ok a) (hb : ig_ok b) (hp : ig_ok p) (hq : ig_ok q) (h : post (bI (im_meet a b p q))) : wp_Mo_meet post a.1 a.2 b.1 b.2 p.1 p.2 q.1 q.2 := by
  have key : ∀ x : Bool, post (bI (x || im_on a b p || im_on a b q || im_on p q a || im_on p q b)) → wp_Mo_meet_89 post a.1 a.2 b.1 b.2 p.1 p.2 q.1 q.2 (bI x) := by
    intro x h
    unfold wp_Mo_meet_89
    refine ⟨bI_in _, fun c => ?_, fun c => ?_⟩
    · cases x with
      | true => simpa [bI] using h
      | false => exact absurd rfl c
    · rw [bI_0.mp c, Bool.false_or] at h
      refine sp_Mo_isOn ha hb hp ⟨bI_in _, fun c1 => ?_, fun c1 => ?_⟩
      · cases e : im_on a b p with
        | true => rw [e] at h; simpa [bI] using h
        | false => rw [e] at c1; exact absurd rfl c1
      · rw [bI_0.mp c1, Bool.false_or] at h
        refine sp_Mo_isOn ha hb hq ⟨bI_in _, fun c2 => ?_, fun c2 => ?_⟩
        · cases e : im_on a b q with
          | true => rw [e] at h; simpa [bI] using h
          | false => rw [e] at c2; exact absurd rfl c2
        · rw [bI_0.mp c2, Bool.false_or] at h
          refine sp_Mo_isOn hp hq ha ⟨bI_in _, fun c3 => ?_, fun c3 => ?_⟩
          · cases e : im_on p q a with
            | true => rw [e] at h; simpa [bI] using h
            | false => rw [e] at c3; exact absurd rfl c3
          · rw [bI_0.mp c3, Bool.false_or] at h
            refine sp_Mo_isOn hp hq hb ⟨bI_in _, fun c4 => ?_, fun c4 => ?_⟩
            · rw [bI_0.mp c4] at h; exact h
            · cases e : im_on p q b with
              | true => rw [e] at h; exact h
              | false => rw [e] at c4; exact absurd rfl c4
  unfold im_meet at h
  rw [← sgI_sign, ← sgI_sign, ← sgI_sign, ← sgI_sign] at h
  unfold wp_Mo_meet
  refine sp_Mo_turn (a := a) (b := b) (d := p) (sp_Mo_sign (ok_turn ha hb hp) (sp_Mo_turn (a := a) (b := b) (d := q) (sp_Mo_sign (ok_turn ha hb hq) (sp_Mo_turn (a := p) (b := q) (d := a) (sp_Mo_sign (ok_turn hp hq ha) (sp_Mo_turn (a := p) (b := q) (d := b) (sp_Mo_sign (ok_turn hp hq hb) ?_)))))))
  refine ⟨sgI_mul _ _, fun c => ?_, fun c => ⟨sgI_mul _ _, fun c2 => ?_, fun c2 => ?_⟩⟩
  · refine key false ?_
    rw [decide_eq_false (by omega), Bool.false_and] at h
    exact h
  · refine key false ?_
    rw [show decide (sgI (ig_turn p q a) * sgI (ig_turn p q b) < 0) = false from decide_eq_false (by omega), Bool.and_false] at h
    exact h
  · refine key true ?_
    rw [decide_eq_true (show sgI (ig_turn a b p) * sgI (ig_turn a b q) < 0 by omega), decide_eq_true (show sgI (ig_turn p q a) * sgI (ig_turn p q b) < 0 by omega)] at h
    exact h
theorem sp_BMa_max {post : Int → Prop} {a b : Int} (ha : inR a) (hb : inR b) (h : post (max a b)) : wp_BMa_max post a b := by
  refine ⟨ha, hb, fun c => ?_, fun c => ?_⟩
  · rw [Int.max_eq_right (by omega)] at h; exact h
  · rw [Int.max_eq_left (by omega)] at h; exact h
theorem sp_BMa_min {post : Int → Prop} {a b : Int} (ha : inR a) (hb : inR b) (h : post (min a b)) : wp_BMa_min post a b := by
  refine ⟨ha, hb, fun c => ?_, fun c => ?_⟩
  · rw [Int.min_eq_right (by omega)] at h; exact h
  · rw [Int.min_eq_left (by omega)] at h; exact h
theorem pkd_in {a : Int × Int} (ha : ig_ok a) : 0 ≤ ig_pk a ∧ ig_pk a ≤ 655380000 := by unfold ig_ok at ha; unfold ig_pk; omega
theorem pkd_R {a : Int × Int} (ha : ig_ok a) : inR (ig_pk a) := by have := pkd_in ha; unfold inR; omega
theorem sp_BPl_xOf {post : Int → Prop} {a : Int × Int} (ha : ig_ok a) (h : post a.1) : wp_BPl_xOf post (ig_pk a) := by
  have h1 := pkd_in ha
  refine ⟨⟨⟨by omega, by omega⟩, by omega, by omega⟩, ?_⟩
  have : ig_pk a / 32768 = a.1 := by unfold ig_ok at ha; unfold ig_pk; omega
  rw [this]; exact h
theorem sp_BPl_yOf {post : Int → Prop} {a : Int × Int} (ha : ig_ok a) (h : post a.2) : wp_BPl_yOf post (ig_pk a) := by
  have h1 := pkd_in ha
  refine ⟨⟨⟨by omega, by omega⟩, by omega, by omega⟩, ?_⟩
  have : ig_pk a % 32768 = a.2 := by unfold ig_ok at ha; unfold ig_pk; omega
  rw [this]; exact h
theorem sp_BPl_turn {post : Int → Prop} {a b d : Int × Int} (ha : ig_ok a) (hb : ig_ok b) (hd : ig_ok d) (h : post (sgI (ig_turn a b d))) : wp_BPl_turn post (ig_pk a) (ig_pk b) (ig_pk d) := by
  unfold wp_BPl_turn
  exact sp_BPl_xOf hb (sp_BPl_xOf ha (sp_BPl_yOf hd (sp_BPl_yOf ha (sp_BPl_yOf hb (sp_BPl_yOf ha (sp_BPl_xOf hd (sp_BPl_xOf ha ⟨ok_turn ha hb hd, h⟩)))))))
theorem sgI_0 {v : Int} : sgI v = 0 ↔ v = 0 := by
  unfold sgI
  constructor
  · intro h
    split at h
    · cases h
    · split at h
      · assumption
      · cases h
  · intro h
    rw [if_neg (by omega), if_pos h]
theorem sp_BPl_lies {post : Int → Prop} {v a b : Int × Int} (hv : ig_ok v) (ha : ig_ok a) (hb : ig_ok b) (h : post (bI (ic_lies v a b))) : wp_BPl_lies post (ig_pk v) (ig_pk a) (ig_pk b) := by
  have h1 := pkd_in hv
  have h2 := pkd_in ha
  have h3 := pkd_in hb
  unfold wp_BPl_lies
  unfold ic_lies at h
  refine sp_BMa_min (pkd_R ha) (pkd_R hb) ⟨pkd_R hv, by unfold inR; omega, fun c1 => ?_, fun c1 => ?_⟩
  · rw [decide_eq_false (by omega), Bool.false_and, Bool.false_and] at h; exact h
  · rw [decide_eq_true (by omega), Bool.true_and] at h
    refine sp_BMa_max (pkd_R ha) (pkd_R hb) ⟨pkd_R hv, by unfold inR; omega, fun c2 => ?_, fun c2 => ?_⟩
    · rw [decide_eq_false (by omega), Bool.false_and] at h; exact h
    · rw [decide_eq_true (by omega), Bool.true_and] at h
      refine sp_BPl_turn ha hb hv ⟨sgI_in _, fun c3 => ?_, fun c3 => ?_⟩
      · rw [decide_eq_false (fun f => c3 (sgI_0.mpr f))] at h; exact h
      · rw [decide_eq_true (sgI_0.mp c3)] at h; exact h
