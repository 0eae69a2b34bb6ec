theorem pkd_lo {a b p q : Int × Int} (ha : ig_ok a) (hb : ig_ok b) (hp : ig_ok p) (hq : ig_ok q) : inR (ic_low a b p q) ∧ inR (ic_high a b p q) := by
  have h1 := pkd_in ha
  have h2 := pkd_in hb
  have h3 := pkd_in hp
  have h4 := pkd_in hq
  unfold ic_low ic_high inR
  omega
theorem pkd_mm {a b : Int × Int} (ha : ig_ok a) (hb : ig_ok b) : inR (min (ig_pk a) (ig_pk b)) ∧ inR (max (ig_pk a) (ig_pk b)) := by
  have h1 := pkd_in ha
  have h2 := pkd_in hb
  unfold inR
  omega
theorem sp_BPl_meeting_78 {post : Int → Prop} {a b p q : Int × Int} (ha : ig_ok a) (hb : ig_ok b) (hp : ig_ok p) (hq : ig_ok q) (h : post (if sgI (ig_turn a b p) * sgI (ig_turn a b q) ≤ 0 ∧ sgI (ig_turn p q a) * sgI (ig_turn p q b) ≤ 0 then 1 else 0)) : wp_BPl_meeting_78 post (ig_pk a) (ig_pk b) (ig_pk p) (ig_pk q) (sgI (ig_turn a b p)) (sgI (ig_turn a b q)) := by
  unfold wp_BPl_meeting_78 wp_BPl_meeting_107
  refine ⟨sgI_mul _ _, fun c => ⟨⟨by decide, by decide⟩, fun _ => ?_, fun c2 => absurd rfl c2⟩, fun c => ?_⟩
  · rw [if_neg (by omega)] at h; exact h
  · refine sp_BPl_turn hp hq ha (sp_BPl_turn hp hq hb ⟨sgI_mul _ _, fun c2 => ⟨⟨by decide, by decide⟩, fun _ => ?_, fun c3 => absurd rfl c3⟩, fun c2 => ⟨⟨by decide, by decide⟩, fun c3 => absurd c3 (by decide), fun _ => ?_⟩⟩)
    · rw [if_neg (by omega)] at h; exact h
    · rw [if_pos (by omega)] at h; exact h
theorem sp_BPl_meeting {post : Int → Prop} {a b p q : Int × Int} (ha : ig_ok a) (hb : ig_ok b) (hp : ig_ok p) (hq : ig_ok q) (h : post (ic_meeting a b p q)) : wp_BPl_meeting post (ig_pk a) (ig_pk b) (ig_pk p) (ig_pk q) := by
  have hl := pkd_lo ha hb hp hq
  unfold wp_BPl_meeting
  refine sp_BMa_min (pkd_R ha) (pkd_R hb) (sp_BMa_min (pkd_R hp) (pkd_R hq) (sp_BMa_max (pkd_mm ha hb).1 (pkd_mm hp hq).1 (sp_BMa_max (pkd_R ha) (pkd_R hb) (sp_BMa_max (pkd_R hp) (pkd_R hq) (sp_BMa_min (pkd_mm ha hb).2 (pkd_mm hp hq).2 ?_)))))
  show inR (ic_low a b p q) ∧ inR (ic_high a b p q) ∧ (ic_low a b p q ≤ ic_high a b p q → _) ∧ (¬ (ic_low a b p q ≤ ic_high a b p q) → post 0)
  unfold ic_meeting at h
  rw [← sgI_sign, ← sgI_sign, ← sgI_sign, ← sgI_sign] at h
  refine ⟨hl.1, hl.2, fun c1 => ?_, fun c1 => ?_⟩
  · rw [if_neg (by omega)] at h
    have key : ¬ (ig_turn a b p = 0 ∧ ig_turn a b q = 0) → wp_BPl_meeting_78 post (ig_pk a) (ig_pk b) (ig_pk p) (ig_pk q) (sgI (ig_turn a b p)) (sgI (ig_turn a b q)) := by
      intro f
      rw [if_neg f] at h
      exact sp_BPl_meeting_78 ha hb hp hq h
    refine sp_BPl_turn ha hb hp (sp_BPl_turn ha hb hq ⟨sgI_in _, fun c2 => key (fun f => c2 (sgI_0.mpr f.1)), fun c2 => ⟨sgI_in _, fun c3 => key (fun f => c3 (sgI_0.mpr f.2)), fun c3 => ?_⟩⟩)
    rw [if_pos ⟨sgI_0.mp c2, sgI_0.mp c3⟩] at h
    refine ⟨hl.1, hl.2, fun c4 => ?_, fun c4 => ?_⟩
    · have c4 : ic_high a b p q ≤ ic_low a b p q := c4
      rw [if_neg (by omega)] at h; exact h
    · have c4 : ¬ (ic_high a b p q ≤ ic_low a b p q) := c4
      rw [if_pos (by omega)] at h; exact h
  · rw [if_pos (by omega)] at h; exact h
theorem sp_BMa_fmod {post : Int → Prop} {a b : Int} (ha : inR a) (hb : 0 < b ∧ b ≤ 2147483647) (h : post (a % b)) : wp_BMa_fmod post a b := by
  have hbd := tmod_bounds (a := a) hb.1
  have hb0 : b ≠ 0 := by omega
  refine ⟨ha, hb, fun v e => ⟨ha, by unfold inR; omega, fun c => ?_, fun c => ⟨by unfold inR; omega, fun c2 => ?_, fun c2 => ?_⟩⟩⟩
  · have h0 : 0 ≤ a := c.mpr (by omega)
    rw [e, Int.tmod_eq_emod_of_nonneg h0]; exact h
  · have e1 : a % b = v := by
      have hm := Int.mul_tdiv_add_tmod a b
      have : a % b = 0 := by
        rw [← e, c2] at hm
        rw [← hm, Int.add_zero]
        exact Int.mul_emod_right b _
      omega
    rw [e1] at h; exact h
  · have hneg : a < 0 := by
      rcases Int.lt_or_le a 0 with f | f
      · exact f
      · exact absurd ⟨fun _ => by omega, fun _ => f⟩ c
    have hm := Int.mul_tdiv_add_tmod a b
    have e1 : a % b = v + b := by
      have h1 : a = (v + b) + b * (a.tdiv b - 1) := by
        rw [Int.mul_sub, Int.mul_one]
        rw [← e] at hm
        omega
      have h2 : v ≤ 0 := by
        have : a.tmod b ≤ 0 := by
          have h5 : a.tmod b = -((-a).tmod b) := by rw [Int.neg_tmod, Int.neg_neg]
          have h6 := Int.tmod_nonneg b (show 0 ≤ -a by omega)
          omega
        omega
      have h3 : (v + b) % b = v + b := Int.emod_eq_of_lt (by omega) (by omega)
      rw [h1, Int.add_mul_emod_self_left, h3]
    rw [e1] at h; exact h
