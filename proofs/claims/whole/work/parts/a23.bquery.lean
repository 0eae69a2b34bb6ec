/-! THE REGISTER'S QUESTIONS -/
section RGQ
variable {qs : List Nat} {ad : Nat → Nat → Nat} {T : CS} {R : AR}
theorem fixed.ref (h : fixed qs T) {i j z : Nat} (hi : i < 30) (hz : (t0_ref i)[j]? = some z) (hn : ¬ (i = 23 ∨ i = 24 ∨ i = 25 ∨ i = 28)) : fo T (qa qs i) j = some (qa qs z) := ((h i hi).2.2 j z hz).resolve_left hn
theorem fixed.tag (h : fixed qs T) {i t : Nat} (hi : i < 30) (ht : t0_tag i = t) : tg T (qa qs i) = t := by rw [(h i hi).1, ht]
theorem fixed.len (h : fixed qs T) {i t : Nat} (hi : i < 30) (ht : t0_len i = t) : ln T (qa qs i) = t := by rw [(h i hi).2.1, ht]
theorem sp_B_get {post : Nat → CS → Prop} {A x n t : Nat} {f : Nat → Nat} (h : alist T A x n f t) {i : Nat} (h1 : 1 ≤ i) (h2 : i ≤ n) (hp : post (f i) T) : wp_BAL_get post A ((i : Int) - 1) T := by
  obtain ⟨a1, a2, a3, a4, a5, a6⟩ := h
  have hn : n ≤ 1000 := by rcases a4 with f | f <;> omega
  unfold wp_BAL_get
  refine ⟨a1, ?_⟩
  unfold wp_BOb_checkIndex wp_BPc_checkIndex
  rw [a2]
  refine ⟨by unfold inR; omega, fun c => by omega, fun c => ⟨by unfold inR; omega, by unfold inR; omega, fun d => ⟨a1, ?_⟩, fun d => by omega⟩⟩
  unfold wp_BAL_elementData
  rcases a4 with q | ⟨q1, q2, q3, q4, q5, q6⟩
  · omega
  · have e : ((i : Int) - 1).toNat = i - 1 := by omega
    refine ⟨a1, x, a3, q1, ⟨by omega, by omega⟩, f i, ?_, hp⟩
    rw [e, q5 (i - 1) (by omega), show i - 1 + 1 = i by omega]
theorem sp_B_lot {post : Nat → CS → Prop} (h : BK qs ad T R) {l : Nat} (h1 : 1 ≤ l) (h2 : l ≤ R.1 7 0) (hp : post (ad 1 l) T) : wp_BRg_lot post (qa qs 22) l T :=
  ⟨h.1.tag (by omega) rfl, qa qs 24, h.1.ref (by omega) rfl (by omega), h.1.tag (by omega) rfl, sp_B_get h.2.2.2.1.2.1 h1 h2 ⟨h.2.2.2.1.2.1.2.2.2.2.1 l h1 h2, hp⟩⟩
theorem sp_B_easement {post : Nat → CS → Prop} (h : BK qs ad T R) {e : Nat} (h1 : 1 ≤ e) (h2 : e ≤ R.1 25 0) (hp : post (ad 2 e) T) : wp_BRg_easement post (qa qs 22) e T :=
  ⟨h.1.tag (by omega) rfl, qa qs 25, h.1.ref (by omega) rfl (by omega), h.1.tag (by omega) rfl, sp_B_get h.2.2.2.1.2.2 h1 h2 ⟨h.2.2.2.1.2.2.2.2.2.2.1 e h1 h2, hp⟩⟩
theorem sp_B_deed {post : Nat → CS → Prop} (h : BK qs ad T R) {d : Nat} (h1 : 1 ≤ d) (h2 : d ≤ R.1 15 0) (hp : post (ad 0 d) T) : wp_BRg_deed post (qa qs 22) d T :=
  ⟨h.1.tag (by omega) rfl, qa qs 23, h.1.ref (by omega) rfl (by omega), h.1.tag (by omega) rfl, sp_B_get h.2.2.2.1.1 h1 h2 ⟨h.2.2.2.1.1.2.2.2.2.1 d h1 h2, hp⟩⟩
theorem sp_B_lastEntry {post : Int → CS → Prop} (h : BK qs ad T R) (hp : post (R.1 15 0 : Int) T) : wp_BRg_lastEntry post (qa qs 22) T := by
  refine ⟨h.1.tag (by omega) rfl, qa qs 23, h.1.ref (by omega) rfl (by omega), h.1.tag (by omega) rfl, h.1.tag (by omega) rfl, ?_⟩
  rw [h.2.2.2.1.1.2.1]; exact hp
theorem sp_B_lotCount {post : Int → CS → Prop} (h : BK qs ad T R) (hp : post (R.1 7 0 : Int) T) : wp_BRg_lotCount post (qa qs 22) T := by
  refine ⟨h.1.tag (by omega) rfl, qa qs 24, h.1.ref (by omega) rfl (by omega), h.1.tag (by omega) rfl, h.1.tag (by omega) rfl, ?_⟩
  rw [h.2.2.2.1.2.1.2.1]; exact hp
theorem sp_B_easementCount {post : Int → CS → Prop} (h : BK qs ad T R) (hp : post (R.1 25 0 : Int) T) : wp_BRg_easementCount post (qa qs 22) T := by
  refine ⟨h.1.tag (by omega) rfl, qa qs 25, h.1.ref (by omega) rfl (by omega), h.1.tag (by omega) rfl, h.1.tag (by omega) rfl, ?_⟩
  rw [h.2.2.2.1.2.2.2.1]; exact hp
theorem sp_B_isInForce {post : Int → CS → Prop} (h : BK qs ad T R) (w : WR R) {d : Nat} {day ent : Int} (h2 : d ≤ R.1 15 0) (hd : inR day) (he : inR ent) (p1 : d ≠ 0 → aF R d day ent → post 1 T) (p0 : ¬ (d ≠ 0 ∧ aF R d day ent) → post 0 T) : wp_BRg_isInForce post (qa qs 22) d day ent T := by
  have wn := w.1.2.1
  unfold wp_BRg_isInForce
  refine ⟨by unfold inR; omega, fun c => p0 (fun f => f.1 (by omega)), fun c => ⟨by unfold inR; omega, he, fun c2 => p0 (fun f => by have := f.2.2; omega), fun c2 => ⟨h.1.tag (by omega) rfl, qa qs 23, h.1.ref (by omega) rfl (by omega), h.1.tag (by omega) rfl, sp_B_get h.2.2.2.1.1 (by omega) h2 ?_⟩⟩⟩
  have t := h.2.2.2.1.1.2.2.2.2.1 d (by omega) h2
  have wd := w.2.2.2.1 d (by omega) h2
  have e := (h.2.2.2.2.2.1 d (by omega) h2).2.1
  rw [e]
  exact ⟨t, t, by unfold inR; omega, hd, fun c3 => p0 (fun f => by have := f.2.1; omega), fun c3 => p1 (by omega) ⟨by omega, by omega⟩⟩
theorem sp_B_isInBeing {post : Int → CS → Prop} (h : BK qs ad T R) (w : WR R) {l : Nat} {day ent : Int} (h1 : 1 ≤ l) (h2 : l ≤ R.1 7 0) (hd : inR day) (he : inR ent) (p1 : aB R l day ent → post 1 T) (p0 : ¬ aB R l day ent → post 0 T) : wp_BRg_isInBeing post (qa qs 22) l day ent T := by
  have wl := w.2.2.1 l h1 h2
  have wn := w.1.2.1
  have lt := h.2.2.2.2.2.2.1 l h1 h2
  have tl := h.2.2.2.1.2.1.2.2.2.2.1 l h1 h2
  have k29 : (R.1 11 l = 0 ∨ aF R (R.1 11 l) day ent) → wp_BRg_isInBeing_29 post (qa qs 22) day ent (ad 1 l) T := by
    intro hb
    unfold wp_BRg_isInBeing_29
    rw [lt.2.2.2.1]
    exact ⟨tl, h.1.tag (by omega) rfl, sp_B_isInForce h w wl.2.2.1 hd he (fun f g => ⟨inR_lit1, fun _ => p0 (fun q => q.2 ⟨f, g⟩), fun q => absurd q (by decide)⟩) (fun f => ⟨inR_lit0, fun q => absurd rfl q, fun _ => p1 ⟨hb, f⟩⟩)⟩
  unfold wp_BRg_isInBeing
  refine ⟨h.1.tag (by omega) rfl, sp_B_lot h h1 h2 ⟨tl, ?_⟩⟩
  rw [lt.2.2.1]
  refine ⟨by unfold inR; omega, fun c => k29 (Or.inl (by omega)), fun c => ⟨tl, h.1.tag (by omega) rfl, sp_B_isInForce h w wl.2.1 hd he (fun f g => ⟨inR_lit1, fun q => absurd q (by decide), fun _ => k29 (Or.inr g)⟩) (fun f => ⟨inR_lit0, fun _ => p0 (fun q => f ⟨by omega, q.1.resolve_left (by omega)⟩), fun q => absurd rfl q⟩)⟩⟩
theorem sp_B_stands {post : Int → CS → Prop} (h : BK qs ad T R) (w : WR R) {e : Nat} {day ent : Int} (h1 : 1 ≤ e) (h2 : e ≤ R.1 25 0) (hd : inR day) (he : inR ent) (p1 : aS R e day ent → post 1 T) (p0 : ¬ aS R e day ent → post 0 T) : wp_BRg_stands post (qa qs 22) e day ent T := by
  have we := w.2.2.2.2.1 e h1 h2
  have et := h.2.2.2.2.2.2.2.1 e h1 h2
  have te := h.2.2.2.1.2.2.2.2.2.2.1 e h1 h2
  unfold wp_BRg_stands
  refine ⟨h.1.tag (by omega) rfl, sp_B_easement h h1 h2 ⟨te, h.1.tag (by omega) rfl, ?_⟩⟩
  rw [et.2.1]
  refine sp_B_isInForce h w we.1.2 hd he (fun f g => ⟨inR_lit1, fun q => absurd q (by decide), fun _ => ⟨te, h.1.tag (by omega) rfl, ?_⟩⟩) (fun f => ⟨inR_lit0, fun _ => p0 (fun q => f ⟨by omega, q.1⟩), fun q => absurd rfl q⟩)
  rw [et.2.2]
  exact sp_B_isInForce h w we.2.1 hd he (fun a b => ⟨inR_lit1, fun _ => p0 (fun q => q.2 ⟨a, b⟩), fun q => absurd q (by decide)⟩) (fun a => ⟨inR_lit0, fun q => absurd rfl q, fun _ => p1 ⟨g, a⟩⟩)
theorem sp_B_isBurdened {post : Int → CS → Prop} (h : BK qs ad T R) (w : WR R) {l e : Nat} {day ent : Int} (l1 : 1 ≤ l) (l2 : l ≤ R.1 7 0) (h1 : 1 ≤ e) (h2 : e ≤ R.1 25 0) (hd : inR day) (he : inR ent) (p1 : aS R e day ent → aIh R e l = true → post 1 T) (p0 : ¬ (aS R e day ent ∧ aIh R e l = true) → post 0 T) : wp_BRg_isBurdened post (qa qs 22) l e day ent T := by
  have we := w.2.2.2.2.1 e h1 h2
  have w1 := w.1
  have et := h.2.2.2.2.2.2.2.1 e h1 h2
  have te := h.2.2.2.1.2.2.2.2.2.2.1 e h1 h2
  have lt := h.2.2.2.2.2.2.1 l l1 l2
  have tl := h.2.2.2.1.2.1.2.2.2.2.1 l l1 l2
  obtain ⟨f1, f2, f3, f4, f5⟩ := lt.2.2.2.2.2.1
  have hiff := f5 e h1 h2
  unfold wp_BRg_isBurdened
  refine ⟨h.1.tag (by omega) rfl, sp_B_stands h w h1 h2 hd he (fun hS => ⟨inR_lit1, fun q => absurd q (by decide), fun _ => ⟨h.1.tag (by omega) rfl, sp_B_easement h h1 h2 ⟨te, ?_⟩⟩⟩) (fun hS => ⟨inR_lit0, fun _ => p0 (fun q => hS q.1), fun q => absurd rfl q⟩)⟩
  rw [et.1]
  refine ⟨by unfold inR; omega, by unfold inR; omega, fun c => p1 hS (hiff.mp (Or.inl (by omega))), fun c => ⟨h.1.tag (by omega) rfl, sp_B_lot h l1 l2 ⟨tl, ?_⟩⟩⟩
  unfold wp_BLo_tookOver
  refine ⟨tl, ad 7 l, f1, f2, by unfold inR; omega, by unfold inR; omega, fun d => ⟨inR_lit0, fun _ => p0 (fun q => ?_), fun q => absurd rfl q⟩, fun d => ⟨tl, ad 7 l, f1, f2, ⟨by omega, by omega⟩, ?_⟩⟩
  · rcases hiff.mpr q.2 with r | r
    · omega
    · omega
  · rw [Int.toNat_natCast]
    have hb := f4 e
    refine ⟨by rcases hb with q | q <;> rw [q]; exact inR_lit0; exact inR_lit1, fun d2 => ⟨inR_lit0, fun _ => p0 (fun q => ?_), fun q => absurd rfl q⟩, fun d2 => ⟨inR_lit1, fun q => absurd q (by decide), fun _ => p1 hS (hiff.mp (Or.inr ⟨by omega, d2⟩))⟩⟩
    rcases hiff.mpr q.2 with r | r
    · omega
    · exact r.2 d2
/-- an int array holds names -/
def nsAt (T : CS) (na : Nat) (ns : List Nat) : Prop := tg T na = 11 ∧ ln T na = ns.length ∧ ns.length ≤ 300 ∧ (∀ x ∈ ns, x ≤ 300) ∧ ∀ i, i < ns.length → fi T na i = ((ns.getD i 0 : Nat) : Int)
theorem sp_B_namesOneOf {post : Int → CS → Prop} {da na ma : Nat} {ns ms : List Nat} (td : tg T da = 8) (fd : fo T da 2 = some ma) (hm : nsAt T ma ms) (hn : nsAt T na ns) (p1 : (∃ x, x ∈ ms ∧ x ∈ ns) → post 1 T) (p0 : ¬ (∃ x, x ∈ ms ∧ x ∈ ns) → post 0 T) : wp_BDe_namesOneOf post da na T := by
  obtain ⟨m1, m2, m3, m4, m5⟩ := hm
  obtain ⟨n1, n2, n3, n4, n5⟩ := hn
  have gd : ∀ (l : List Nat) (i : Nat), i < l.length → l.getD i 0 ∈ l := by
    intro l i hi
    have : l.getD i 0 = l[i] := by simp [hi]
    rw [this]; exact List.getElem_mem _
  have inner : ∀ (k11 : Nat → Nat → Int → Int → CS → Prop) (i : Nat), i < ms.length → ((∀ j, j < ns.length → ns.getD j 0 ≠ ms.getD i 0) → k11 na ma ms.length ((i : Int) + 1) T) → ∀ (n j : Nat), ns.length - j < n → j ≤ ns.length → (∀ j', j' < j → ns.getD j' 0 ≠ ms.getD i 0) → wp_BDe_namesOneOf_34 post k11 n na ma ms.length i ((ms.getD i 0 : Nat) : Int) na ns.length j T := by
    intro k11 i hi hk n
    have := m4 _ (gd ms i hi)
    induction n with
    | zero => intro j hn; omega
    | succ n ih =>
      intro j hn hj hno
      have e1 : (j : Int) + 1 = ((j + 1 : Nat) : Int) := by omega
      unfold wp_BDe_namesOneOf_34
      rw [n2, Int.toNat_natCast, e1]
      refine ⟨by unfold inR; omega, by unfold inR; omega, fun c => hk (fun j' hj' => hno j' (by omega)), fun c => ⟨n1, ⟨by omega, by omega⟩, fun v e => ?_⟩⟩
      rw [n5 j (by omega)] at e
      have := n4 _ (gd ns j (by omega))
      rw [e]
      refine ⟨by unfold inR; omega, by unfold inR; omega, fun d => ih (j + 1) (by omega) (by omega) (fun j' hj' => ?_), fun d => p1 ⟨ms.getD i 0, gd ms i hi, ?_⟩⟩
      · by_cases q : j' = j
        · rw [q]; omega
        · exact hno j' (by omega)
      · have e2 : ms.getD i 0 = ns.getD j 0 := by omega
        rw [e2]; exact gd ns j (by omega)
  have loop : ∀ (n i : Nat), ms.length - i < n → i ≤ ms.length → (∀ i' j, i' < i → j < ns.length → ns.getD j 0 ≠ ms.getD i' 0) → wp_BDe_namesOneOf_11 post n na ma ms.length i T := by
    intro n
    induction n with
    | zero => intro i hn; omega
    | succ n ih =>
      intro i hn hi hno
      have e1 : (i : Int) + 1 = ((i + 1 : Nat) : Int) := by omega
      unfold wp_BDe_namesOneOf_11
      rw [m2, Int.toNat_natCast, n2]
      refine ⟨by unfold inR; omega, by unfold inR; omega, fun c => p0 (fun ⟨x, a, b⟩ => ?_), fun c => ⟨m1, ⟨by omega, by omega⟩, fun v e => ⟨n1, fun w ew => ⟨ns.length + 1, ?_⟩⟩⟩⟩
      · obtain ⟨i', hi', ei⟩ := List.getElem_of_mem a
        obtain ⟨j', hj', ej⟩ := List.getElem_of_mem b
        refine hno i' j' (by omega) hj' ?_
        have q1 : ns.getD j' 0 = ns[j'] := by simp [hj']
        have q2 : ms.getD i' 0 = ms[i'] := by simp [hi']
        rw [q1, q2, ej, ei]
      · rw [e, m5 i (by omega), ew]
        refine inner _ i (by omega) (fun q => ?_) _ 0 (by omega) (by omega) (fun j' hj' => by omega)
        rw [e1]
        refine ih (i + 1) (by omega) (by omega) (fun i' j a b => ?_)
        by_cases r : i' = i
        · rw [r]; exact q j b
        · exact hno i' j (by omega) b
  unfold wp_BDe_namesOneOf
  refine ⟨td, ma, fd, m1, fun v e => ?_⟩
  rw [e, m2]
  exact ⟨ms.length + 1, loop _ 0 (by omega) (by omega) (fun i' j a => by omega)⟩
/-- the names of deeds are lots -/
def WNl (R : AR) : Prop := ∀ d, 1 ≤ d → d ≤ R.1 15 0 → (aNm R d).length ≤ 300 ∧ (∀ x ∈ aNm R d, 1 ≤ x ∧ x ≤ R.1 7 0) ∧ (R.1 16 d = 1 ∨ R.1 16 d = 3 → aNm R d = [R.1 18 d]) ∧ (R.1 16 d = 2 ∨ R.1 16 d = 4 → aNm R d = [R.1 18 d, R.1 19 d])
theorem BK.names (h : BK qs ad T R) (w : WR R) (wn : WNl R) {d : Nat} (h1 : 1 ≤ d) (h2 : d ≤ R.1 15 0) : nsAt T (ad 3 d) (aNm R d) := by
  obtain ⟨a, b, c, e, f, i, j, k, m⟩ := h.2.2.2.2.2.1 d h1 h2
  obtain ⟨w1, w2, _⟩ := wn d h1 h2
  have := w.1.1
  exact ⟨f, i, w1, fun x hx => by have := (w2 x hx).2; omega, j⟩
theorem sp_B_isLate {post : Int → CS → Prop} (h : BK qs ad T R) (w : WR R) (wn : WNl R) {na : Nat} {ns : List Nat} {day : Int} (hn : nsAt T na ns) (hd : inR day) (p1 : (∃ x, x ∈ ns ∧ aLate R x day) → post 1 T) (p0 : ¬ (∃ x, x ∈ ns ∧ aLate R x day) → post 0 T) : wp_BRg_isLate post (qa qs 22) na day T := by
  have w0 := w.1.2.1
  have loop : ∀ (n d : Nat), R.1 15 0 + 1 - d < n → 1 ≤ d → d ≤ R.1 15 0 + 1 → (∀ d' x, 1 ≤ d' → d' < d → x ∈ ns → day < (R.1 17 d' : Int) → x ∉ aNm R d') → wp_BRg_isLate_2 post n (qa qs 22) na day d T := by
    intro n
    induction n with
    | zero => intro d hn; omega
    | succ n ih =>
      intro d hn' d1 d2 hno
      have e1 : (d : Int) + 1 = ((d + 1 : Nat) : Int) := by omega
      unfold wp_BRg_isLate_2
      refine ⟨h.1.tag (by omega) rfl, qa qs 23, h.1.ref (by omega) rfl (by omega), h.1.tag (by omega) rfl, h.1.tag (by omega) rfl, ?_⟩
      rw [h.2.2.2.1.1.2.1]
      refine ⟨by unfold inR; omega, by unfold inR; omega, fun c => p0 (fun ⟨x, a, d', b1, b2, b3, b4⟩ => hno d' x b1 (by omega) a b3 b4), fun c => ?_⟩
      have dd : d ≤ R.1 15 0 := by omega
      have wd := w.2.2.2.1 d d1 dd
      have td := h.2.2.2.1.1.2.2.2.2.1 d d1 dd
      have dt := h.2.2.2.2.2.1 d d1 dd
      have nx : (∀ x, x ∈ ns → day < (R.1 17 d : Int) → x ∉ aNm R d) → wp_BRg_isLate_39 post (wp_BRg_isLate_2 post n) (qa qs 22) na day d T := by
        intro q
        unfold wp_BRg_isLate_39
        rw [e1]
        refine ih (d + 1) (by omega) (by omega) (by omega) (fun d' x a b => ?_)
        by_cases r : d' = d
        · rw [r]; exact q x
        · exact hno d' x a (by omega)
      refine ⟨h.1.tag (by omega) rfl, sp_B_deed h d1 dd ⟨td, ?_⟩⟩
      rw [dt.2.1]
      refine ⟨by unfold inR; omega, hd, fun c2 => nx (fun x _ q => by omega), fun c2 => ⟨h.1.tag (by omega) rfl, sp_B_deed h d1 dd ⟨td, ?_⟩⟩⟩
      exact sp_B_namesOneOf td dt.2.2.2.1 (h.names w wn d1 dd) hn (fun ⟨x, a, b⟩ => ⟨inR_lit1, fun q => absurd q (by decide), fun _ => p1 ⟨x, b, d, d1, dd, by omega, a⟩⟩) (fun q => ⟨inR_lit0, fun _ => nx (fun x a _ b => q ⟨x, b, a⟩), fun r => absurd rfl r⟩)
  unfold wp_BRg_isLate
  exact ⟨R.1 15 0 + 1, loop _ 1 (by omega) (by omega) (by omega) (fun d' x a b => by omega)⟩
/-- why a deed is refused before its own reason is looked at -/
theorem sp_B_objection {post : Int → CS → Prop} (h : BK qs ad T R) (w : WR R) (wn : WNl R) {na : Nat} {ns : List Nat} {day : Int} (hn : nsAt T na ns) (hlots : ∀ x ∈ ns, 1 ≤ x ∧ x ≤ R.1 7 0) (hd : inR day) (pg : (∃ x, x ∈ ns ∧ ¬ aB R x day (R.1 15 0)) → post (-1) T) (pl : (∀ x, x ∈ ns → aB R x day (R.1 15 0)) → (∃ x, x ∈ ns ∧ aLate R x day) → post (-2) T) (po : (∀ x, x ∈ ns → aB R x day (R.1 15 0)) → ¬ (∃ x, x ∈ ns ∧ aLate R x day) → post 0 T) : wp_BRg_objection post (qa qs 22) na day T := by
  have w0 := w.1.2.1
  obtain ⟨n1, n2, n3, n4, n5⟩ := id hn
  have gd : ∀ i, i < ns.length → ns.getD i 0 ∈ ns := by
    intro i hi
    have : ns.getD i 0 = ns[i] := by simp [hi]
    rw [this]; exact List.getElem_mem _
  have loop : ∀ (n i : Nat), ns.length - i < n → i ≤ ns.length → (∀ i', i' < i → aB R (ns.getD i' 0) day (R.1 15 0)) → wp_BRg_objection_9 post n (qa qs 22) na day na ns.length i T := by
    intro n
    induction n with
    | zero => intro i hn; omega
    | succ n ih =>
      intro i hn' hi hall
      have e1 : (i : Int) + 1 = ((i + 1 : Nat) : Int) := by omega
      unfold wp_BRg_objection_9
      rw [n2, Int.toNat_natCast, e1]
      refine ⟨by unfold inR; omega, by unfold inR; omega, fun c => ⟨h.1.tag (by omega) rfl, ?_⟩, fun c => ⟨n1, ⟨by omega, by omega⟩, fun v ev => ⟨h.1.tag (by omega) rfl, sp_B_lastEntry h ⟨h.1.tag (by omega) rfl, ?_⟩⟩⟩⟩
      · have all : ∀ x, x ∈ ns → aB R x day (R.1 15 0) := by
          intro x hx
          obtain ⟨j, hj, ej⟩ := List.getElem_of_mem hx
          have := hall j (by omega)
          have q : ns.getD j 0 = ns[j] := by simp [hj]
          rw [q, ej] at this; exact this
        exact sp_B_isLate h w wn hn hd (fun q => ⟨inR_lit1, fun r => absurd r (by decide), fun _ => pl all q⟩) (fun q => ⟨inR_lit0, fun _ => po all q, fun r => absurd rfl r⟩)
      · rw [ev, n5 i (by omega)]
        have hx := hlots _ (gd i (by omega))
        refine sp_B_isInBeing h w hx.1 hx.2 hd (by unfold inR; omega) (fun q => ⟨inR_lit1, fun _ => ih (i + 1) (by omega) (by omega) (fun i' hi' => ?_), fun r => absurd r (by decide)⟩) (fun q => ⟨inR_lit0, fun r => absurd rfl r, fun _ => pg ⟨_, gd i (by omega), q⟩⟩)
        by_cases r : i' = i
        · rw [r]; exact q
        · exact hall i' (by omega)
  unfold wp_BRg_objection
  refine ⟨n1, fun v e => ?_⟩
  rw [e, n2]
  exact ⟨ns.length + 1, loop _ 0 (by omega) (by omega) (fun i' hi' => by omega)⟩
end RGQ
