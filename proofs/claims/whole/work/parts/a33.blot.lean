/-! lots replaced -/
section RPL
variable {qs : List Nat} {ad : Nat → Nat → Nat} {T T' T1 : CS} {R : AR}
def rEnds (v : Nat) : List Nat → AR → AR
  | [], R => R
  | x :: xs, R => rEnds v xs (rN R [(12, x, v)])
def rLots (d a b : Nat) (sh : Nat → Int) (ih : Nat → Bool) : List (List PT) → AR → AR
  | [], R => R
  | K :: Ks, R => rLots d a b sh ih Ks (rLotB R d a b K sh ih)
theorem rEnds_o (v : Nat) : ∀ (ns : List Nat) (R : AR) (f i : Nat), (f ≠ 12 ∨ i ∉ ns) → (rEnds v ns R).1 f i = R.1 f i
  | [], _, _, _, _ => rfl
  | x :: xs, R, f, i, h => by
    show (rEnds v xs (rN R [(12, x, v)])).1 f i = _
    rw [rEnds_o v xs _ f i (h.imp (fun a => a) (fun a q => a (List.mem_cons_of_mem _ q))), rN1, if_neg]
    rintro ⟨a, b⟩
    rcases h with h | h
    · exact h a
    · exact h (by rw [b]; exact List.mem_cons_self ..)
theorem rEnds_s (v : Nat) : ∀ (ns : List Nat) (R : AR) (i : Nat), i ∈ ns → (rEnds v ns R).1 12 i = v
  | [], _, _, h => absurd h List.not_mem_nil
  | x :: xs, R, i, h => by
    show (rEnds v xs (rN R [(12, x, v)])).1 12 i = _
    by_cases c : i ∈ xs
    · exact rEnds_s v xs _ i c
    · rw [rEnds_o v xs _ 12 i (Or.inr c), rN1, if_pos ⟨rfl, by rcases List.mem_cons.mp h with q | q; exact q; exact absurd q c⟩]
theorem rEnds_r (v : Nat) : ∀ (ns : List Nat) (R : AR), (rEnds v ns R).2 = R.2
  | [], _ => rfl
  | _ :: xs, R => rEnds_r v xs (rN R _)
def bt (ad : Nat → Nat → Nat) (T : CS) (R : AR) : Prop := ∀ l, 1 ≤ l → l ≤ R.1 7 0 → ln T (ad 7 l) ≤ (if R.1 11 l = 0 then 0 else R.1 23 (R.1 11 l) + 1)
theorem bt.cg {ad' : Nat → Nat → Nat} {R' : AR} (h : bt ad T R) (h7 : R'.1 7 0 = R.1 7 0) (h11 : ∀ l, R'.1 11 l = R.1 11 l) (h23 : ∀ l, 1 ≤ l → l ≤ R.1 7 0 → R'.1 23 (R.1 11 l) = R.1 23 (R.1 11 l)) (hl : ∀ l, 1 ≤ l → l ≤ R.1 7 0 → ln T' (ad' 7 l) = ln T (ad 7 l)) : bt ad' T' R' := by
  intro l a b
  rw [h7] at b
  rw [h11, h23 l a b, hl l a b]; exact h l a b
theorem BK.t7 (h : BK qs ad T R) {l : Nat} (a : 1 ≤ l) (b : l ≤ R.1 7 0) : tg T (ad 7 l) = 12 := (h.2.2.2.2.2.2.1 l a b).2.2.2.2.2.1.2.1
/-- rings to be copied -/
def ringsAt (T : CS) (va : Nat) (Ks : List (List PT)) : Prop := tg T va = 14 ∧ ln T va = Ks.length ∧ ∀ i, i < Ks.length → ∃ a b cap, fo T va i = some a ∧ ptsAt T a b (Ks.getD i []) cap ∧ (Ks.getD i []).length ≤ 60
theorem ringsAt.ty {va : Nat} {Ks : List (List PT)} {Pi Po : Nat → Prop} (h : ringsAt T va Ks) (g : Ty Pi Po T T') (h1 : ∀ a, tg T a = 2 → ¬ Pi a ∧ ¬ Po a) (h2 : ∀ a, tg T a = 14 → ¬ Po a) (h3 : ∀ a, (∃ c, fo T c 0 = some a ∧ tg T c = 2) → tg T a = 11 → ¬ Pi a) : ringsAt T' va Ks := by
  obtain ⟨a, b, c⟩ := h
  have u := g va (by omega)
  refine ⟨by rw [u.1]; exact a, by rw [u.2.1]; exact b, fun i hi => ?_⟩
  obtain ⟨p, q, cap, c1, c2, c3⟩ := c i hi
  exact ⟨p, q, cap, by rw [u.2.2.1 (h2 va a)]; exact c1, c2.ty g (h1 p c2.1).1 (h3 q ⟨p, c2.2.1, c2.1⟩ c2.2.2.1) (h1 p c2.1).2, c3⟩
theorem sp_B_loinit {post : CS → Prop} {o a s t : Nat} {d : Int} (h : tg T o = 9) (hp : ∀ T', Ty (fun c => c = o) (fun c => c = o) T T' → n20 T T' → tg T' o = 9 → fo T' o 0 = some a → fi T' o 1 = d → fi T' o 4 = fi T o 4 → fo T' o 2 = some s → fo T' o 3 = some t → post T') : wp_BLo_init post o a d s t T := by
  unfold wp_BLo_init
  refine ⟨h, fun T1 y1 => ⟨by rw [y1]; exact h, fun T2 y2 => ⟨by rw [y2, y1]; exact h, fun T3 y3 => ⟨by rw [y3, y2, y1]; exact h, fun T4 y4 => ?_⟩⟩⟩⟩
  refine hp T4 ?_ ?_ (by rw [y4, y3, y2, y1]; exact h) ?_ ?_ ?_ ?_ ?_
  · rw [y4, y3, y2, y1]
    exact Ty_trans (Ty_trans (Ty_trans (Ty_o rfl) (Ty_i rfl)) (Ty_o rfl)) (Ty_o rfl)
  · rw [y4, y3, y2, y1]; exact n20_tg rfl
  · rw [y4, cs_o_fo, if_neg (by omega), y3, cs_o_fo, if_neg (by omega), y2, y1]
    show fo (cs_o T o 0 (some a)) o 0 = _
    rw [cs_o_fo, if_pos ⟨rfl, rfl⟩]
  · rw [y4, y3]; show fi T2 o 1 = d
    rw [y2, cs_i_fi, if_pos ⟨rfl, rfl⟩]
  · rw [y4, y3]; show fi T2 o 4 = _
    rw [y2, cs_i_fi, if_neg (by omega), y1]; rfl
  · rw [y4, cs_o_fo, if_neg (by omega), y3, cs_o_fo, if_pos ⟨rfl, rfl⟩]
  · rw [y4, cs_o_fo, if_pos ⟨rfl, rfl⟩]
/-- one more lot, out of a ring -/
theorem sp_B_onelot {post : Nat → Nat → CS → Prop} {qs : List Nat} (hq : qs.Nodup) (hl : qs.length = 30) {ad : Nat → Nat → Nat} {T : CS} {R : AR} (h : BK qs ad T R) (he : e20 T) {ra rb cap sa ta d a b mc1 ms1 mc2 ms2 : Nat} {K : List PT} {sh : Nat → Int} {ih : Nat → Bool} (hr : ptsAt T ra rb K cap) (hK : K.length ≤ 60) (hs : tg T sa = 11 ∧ ln T sa = 100 ∧ (∀ p, p < 100 → fi T sa p = sh p) ∧ sa ∉ qs ∧ sa ≠ ad 9 0) (ht : tg T ta = 12 ∧ ln T ta ≤ 300 ∧ (∀ i, b01 (fi T ta i)) ∧ ∀ e, 1 ≤ e → e ≤ R.1 25 0 → (e < ln T ta ∧ fi T ta e ≠ 0 ↔ ih e = true)) (hov : ∀ e, 1 ≤ e → e ≤ R.1 25 0 → R.1 28 e ≤ R.1 7 0) (hn : R.1 7 0 < 600) (hmc : 2 ≤ mc1) (hms : 62 ≤ ms1) (hmc2 : 1 ≤ mc2) (hms2 : 1000 ≤ ms2) {q3 : Nat} {T4 : CS} (h3 : tg T q3 = 0) (y4 : T4 = cs_new T q3 9 0)
    (hp : ∀ T' ad', BK qs ad' T' (rLotB R d a b K sh ih) → Ty (fun a => a = qa qs 24) (fun a => a = qa qs 24 ∨ tg T a = 13) T T' → n20 T T' → (∀ i, i = 0 ∨ i = 2 ∨ i = 3 ∨ i = 9 → ad' i = ad i) → (∀ l, ad' 7 l = if l = R.1 7 0 + 1 then ta else ad 7 l) → post (mc2 - 1) (ms2 - 1000) T') :
    tg T4 ra = 2 ∧ wp_BPt_copy (fun r_8 T_7 => wp_BLo_init (fun T_13 => ∃ mc_17 ms_18 mc_19 ms_20 : Nat, (mc2 = mc_17 + mc_19 ∧ ms2 = ms_18 + ms_20) ∧ tg T_13 (qa qs 24) = 7 ∧ wp_BAL_add (fun _ T_15 => post mc_19 ms_20 T_15) mc_17 ms_18 (qa qs 24) q3 T_13) q3 r_8 d sa ta T_7) mc1 ms1 ra T4 := by
  have x4 : Tx (fun _ => False) T T4 := by rw [y4]; exact Tx_new _ h3
  have n4 : n20 T T4 := by rw [y4]; exact n20_new (by decide)
  have t4 : tg T4 q3 = 9 := by rw [y4]; exact new_tg _ _ _ _
  have z4 : fi T4 q3 4 = 0 := by rw [y4]; exact new_fi _ _ _ _ _
  have hr4 := hr.tx x4 (fun f => f) (fun f => f)
  refine ⟨hr4.1, sp_B_copy hr4 (by omega) hmc (by omega) (fun T7 c dd hc hdd x7 n7 p7 => ?_)⟩
  have u3 := x7 q3 (by omega)
  have c3 : c ≠ q3 := fun f => by rw [f, t4] at hc; omega
  have d3 : dd ≠ q3 := fun f => by rw [f, t4] at hdd; omega
  have c0 : tg T c = 0 := Classical.byContradiction fun f => f (by rw [← (x4 c f).1]; exact hc)
  have dd0 : tg T dd = 0 := Classical.byContradiction fun f => f (by rw [← (x4 dd f).1]; exact hdd)
  refine sp_B_loinit (by rw [u3.1]; exact t4) (fun T13 g13 n13 t13 o0 i1 i4 o2 o3 => ?_)
  have x13 : Tx (fun _ => False) T T13 := by
    intro a ha
    obtain ⟨v1, v2, v3, v4⟩ := x4 a ha
    obtain ⟨w1, w2, w3, w4⟩ := x7 a (by rw [v1]; exact ha)
    have hne : a ≠ q3 := fun f => by rw [f] at ha; exact ha h3
    obtain ⟨z1, z2, z3, z4⟩ := g13 a (by rw [w1, v1]; exact ha)
    exact ⟨by rw [z1, w1, v1], by rw [z2, w2, v2], by rw [z3 hne, w3, v3], fun f => by rw [z4 hne, w4 f, v4 f]⟩
  have h13 := h.tx hq hl (Tx_mono x13 (fun a f => f.elim))
  have n013 : n20 T T13 := n20_trans n4 (n20_trans n7 n13)
  have p13 : ptsAt T13 c dd K K.length := p7.ty g13 c3 d3 c3
  have us := x13 sa (by omega)
  have ut := x13 ta (by omega)
  refine ⟨1, 1000, mc2 - 1, ms2 - 1000, ⟨by omega, by omega⟩, (h13.2.2.2.1.2.1).1, sp_B_addlot (a := a) (b := b) (sh := sh) (ih := ih) (K := K) (d := d) hq hl h13 (he.n n013) (ta := ta) (sa := sa) (pa := c) (pb := dd) ⟨t13, o0, p13, i1, by rw [i4, u3.2.2.2 (fun f => f)]; exact z4, ⟨o2, by rw [us.1]; exact hs.1, by rw [us.2.1]; exact hs.2.1, fun p hp => by rw [us.2.2.2 (fun f => f)]; exact hs.2.2.1 p hp⟩, ⟨o3, by rw [ut.1]; exact ht.1, by rw [ut.2.1]; exact ht.2.1, fun i => by rw [ut.2.2.2 (fun f => f)]; exact ht.2.2.1 i, fun e e1 e2 => by rw [ut.2.1, ut.2.2.2 (fun f => f)]; exact ht.2.2.2 e e1 e2⟩, ⟨not_qs hl h.1 (Or.inl c0), not_qs hl h.1 (Or.inl dd0), hs.2.2.2.1⟩, ?_, hs.2.2.2.2⟩ ?_ hov hn (by omega) (by omega) (fun T' ad' k1 k2 k3 k4 k5 => hp T' ad' k1 ?_ (n20_trans n013 k3) k4 k5)⟩
  · intro f; rw [f] at dd0; have := h.2.2.2.2.2.2.2.2.2.2.2.1; omega
  · intro l l1 l2 f
    have := h.2.2.2.1.2.1.2.2.2.2.1 l l1 l2
    rw [f, h3] at this; omega
  · intro x hx
    obtain ⟨v1, v2, v3, v4⟩ := x13 x hx
    obtain ⟨w1, w2, w3, w4⟩ := k2 x (by rw [v1]; exact hx)
    exact ⟨by rw [w1, v1], by rw [w2, v2], fun f => by rw [w3 (fun q => f (by have q : x = qa qs 24 ∨ tg T13 x = 13 := q; rw [v1] at q; exact q)), v3], fun f => by rw [w4 f, v4 (fun q => q)]⟩
end RPL
