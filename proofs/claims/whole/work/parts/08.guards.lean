/-! the tests at the head of the questions -/
theorem dl_px3 (x : Int32) {L : Nat} (hL : L ≤ 24) : x < 0 ∨ nI L < x ∨ ∃ j : Nat, j ≤ L ∧ x = nI j := by
  by_cases h : x < 0
  · exact Or.inl h
  · obtain ⟨j, hj, rfl⟩ := nI_of h
    by_cases h2 : j ≤ L
    · exact Or.inr (Or.inr ⟨j, h2, rfl⟩)
    · exact Or.inr (Or.inl (nI_lt (by omega) hj))
theorem dl_mx3 (x : Int32) {L : Nat} (hL : L ≤ 24) : x < 0 ∨ nI L ≤ x ∨ ∃ j : Nat, j < L ∧ x = nI j := by
  by_cases h : x < 0
  · exact Or.inl h
  · obtain ⟨j, hj, rfl⟩ := nI_of h
    by_cases h2 : j < L
    · exact Or.inr (Or.inr ⟨j, h2, rfl⟩)
    · exact Or.inr (Or.inl (nI_le (by omega) hj))
theorem dl_pc4 (x y : Int32) {L : Nat} (hL : L ≤ 24) : x < 0 ∨ (¬ x < 0 ∧ y < x) ∨ (¬ x < 0 ∧ ¬ y < x ∧ nI L < y) ∨ ∃ s e : Nat, s ≤ e ∧ e ≤ L ∧ x = nI s ∧ y = nI e := by
  by_cases h1 : x < 0
  · exact Or.inl h1
  · by_cases h2 : y < x
    · exact Or.inr (Or.inl ⟨h1, h2⟩)
    · by_cases h3 : nI L < y
      · exact Or.inr (Or.inr (Or.inl ⟨h1, h2, h3⟩))
      · obtain ⟨s, hs, rfl⟩ := nI_of h1
        have h4 : ¬ y < 0 := by
          have e0 : (0 : Int32).toInt = 0 := by decide
          rw [Int32.lt_iff_toInt_lt, nI_toInt hs] at h2
          rw [Int32.lt_iff_toInt_lt, e0]
          omega
        obtain ⟨e, he, rfl⟩ := nI_of h4
        rw [nI_ltI he hs] at h2
        rw [nI_ltI (by omega) he] at h3
        exact Or.inr (Or.inr (Or.inr ⟨s, e, by omega, by omega, rfl, rfl⟩))
theorem dl_mx2 (x : Int32) {L : Nat} (hL : L ≤ 24) : (x < 0 ∨ nI L ≤ x) ∨ ∃ j : Nat, j < L ∧ x = nI j := by
  rcases dl_mx3 x hL with h | h | h
  · exact Or.inl (Or.inl h)
  · exact Or.inl (Or.inr h)
  · exact Or.inr h
theorem dl_px2 (x : Int32) {L : Nat} (hL : L ≤ 24) : (x < 0 ∨ nI L < x) ∨ ∃ j : Nat, j ≤ L ∧ x = nI j := by
  rcases dl_px3 x hL with h | h | h
  · exact Or.inl (Or.inl h)
  · exact Or.inl (Or.inr h)
  · exact Or.inr h
theorem dl_mnX0 {post : Int32 → Prop} {L : Nat} {c ax ay : Nat → Int32} {x : Int32} (h : x < 0 ∨ nI L ≤ x) (h0 : post 0) : wpX_isMoveNumber post (nI L, c, ax, ay) x :=
  ⟨fun _ => h0, fun z => br_t (h.resolve_left z) h0⟩
theorem dl_mnX1 {post : Int32 → Prop} {L j : Nat} {c ax ay : Nat → Int32} (hL : L ≤ 24) (hj : j < L) (h1 : post 1) : wpX_isMoveNumber post (nI L, c, ax, ay) (nI j) :=
  br_f (nI_pos (by omega)) (br_f (nI_ge (by omega) (by omega)) h1)
theorem dl_pnX0 {post : Int32 → Prop} {L : Nat} {c ax ay : Nat → Int32} {x : Int32} (h : x < 0 ∨ nI L < x) (h0 : post 0) : wpX_isPointNumber post (nI L, c, ax, ay) x :=
  ⟨fun _ => h0, fun z => br_t (h.resolve_left z) h0⟩
theorem dl_pnX1 {post : Int32 → Prop} {L j : Nat} {c ax ay : Nat → Int32} (hL : L ≤ 24) (hj : j ≤ L) (h1 : post 1) : wpX_isPointNumber post (nI L, c, ax, ay) (nI j) :=
  br_f (nI_pos (by omega)) (br_f (nI_nlt (by omega) (by omega)) h1)
theorem dl_mnY0 {post : Int32 → Prop} {L : Nat} {c cp xs ys ls : Nat → Int32} {x : Int32} (h : x < 0 ∨ nI L ≤ x) (h1 : post 1) : wpY_noMove post (nI L, c, cp, xs, ys, ls) x :=
  ⟨fun _ => h1, fun z => br_t (h.resolve_left z) h1⟩
theorem dl_mnY1 {post : Int32 → Prop} {L j : Nat} {c cp xs ys ls : Nat → Int32} (hL : L ≤ 24) (hj : j < L) (h0 : post 0) : wpY_noMove post (nI L, c, cp, xs, ys, ls) (nI j) :=
  br_f (nI_pos (by omega)) (br_f (nI_ge (by omega) (by omega)) (br_t (nI_lt (b := 24) (by omega) (by decide)) h0))
theorem dl_pnY0 {post : Int32 → Prop} {L : Nat} {c cp xs ys ls : Nat → Int32} {x : Int32} (h : x < 0 ∨ nI L < x) (h1 : post 1) : wpY_noPoint post (nI L, c, cp, xs, ys, ls) x :=
  ⟨fun _ => h1, fun z => br_t (h.resolve_left z) h1⟩
theorem dl_pnY1 {post : Int32 → Prop} {L j : Nat} {c cp xs ys ls : Nat → Int32} (hL : L ≤ 24) (hj : j ≤ L) (h0 : post 0) : wpY_noPoint post (nI L, c, cp, xs, ys, ls) (nI j) :=
  br_f (nI_pos (by omega)) (br_f (nI_nlt (by omega) (by omega)) (br_t (nI_le (b := 24) (by omega) (by decide)) h0))
/-- (x, y) isn't a piece -/
def dl_np (L : Nat) (x y : Int32) : Prop := x < 0 ∨ (¬ x < 0 ∧ y < x) ∨ (¬ x < 0 ∧ ¬ y < x ∧ nI L < y)
theorem dl_pc2 (x y : Int32) {L : Nat} (hL : L ≤ 24) : dl_np L x y ∨ ∃ s e : Nat, s ≤ e ∧ e ≤ L ∧ x = nI s ∧ y = nI e := by
  rcases dl_pc4 x y hL with h | h | h | h
  · exact Or.inl (Or.inl h)
  · exact Or.inl (Or.inr (Or.inl h))
  · exact Or.inl (Or.inr (Or.inr h))
  · exact Or.inr h
theorem dl_ipX0 {post : Int32 → Prop} {L : Nat} {c ax ay : Nat → Int32} {x y : Int32} (h : dl_np L x y) (h0 : post 0) : wpX_isPiece post (nI L, c, ax, ay) x y := by
  rcases h with h | ⟨h, h2⟩ | ⟨h, h2, h3⟩
  · exact br_t h h0
  · exact br_f h (br_t h2 h0)
  · exact br_f h (br_f h2 (br_t h3 h0))
theorem dl_ipX1 {post : Int32 → Prop} {L s e : Nat} {c ax ay : Nat → Int32} (hL : L ≤ 24) (hs : s ≤ e) (he : e ≤ L) (h1 : post 1) : wpX_isPiece post (nI L, c, ax, ay) (nI s) (nI e) :=
  br_f (nI_pos (by omega)) (br_f (nI_nlt (by omega) (by omega)) (br_f (nI_nlt (by omega) (by omega)) h1))
/-! the relation -/
/-- both hold the same moves, all of 0 .. 7; the component's points are those of its moves -/
def i_Rel (k : Nat) (u : SX) (v : SY) : Prop := ∃ (L : Nat) (c ax ay cp xs ys ls : Nat → Int32), L ≤ 24 ∧ dl_ok c ∧ dl_pt L c ax ay ∧ u = (nI L, c, ax, ay) ∧ v = (nI L, c, cp, xs, ys, ls)
theorem i_up {k : Nat} {u : SX} {v : SY} (h : i_Rel k u v) : i_Rel (k + 4) u v := h
theorem i_vc0 : wpX_init (fun u => wpY_init (fun v => i_Rel 0 u v)) :=
  ⟨0, _, _, _, _, _, _, _, by omega, fun j => ⟨0, by omega, rfl⟩, fun j hj => by
    have e : j = 0 := by omega
    subst e
    exact ⟨rfl, rfl⟩, rfl, rfl⟩
theorem dl_mIX {L : Nat} {c ax ay : Nat → Int32} (hc : dl_ok c) (hp : dl_pt L c ax ay) (hL : L ≤ 24) : dl_IX (dl_P c) L c ax ay :=
  fun s e post hse he h1 h0 => dl_isX hc hp hL hse he (fun h => h1 (dl_Pt.mpr h)) (fun h => h0 (fun q => h (dl_Pt.mp q)))
theorem dl_mIY {L : Nat} {c cp : Nat → Int32} (hc : dl_ok c) (hL : L ≤ 24) : dl_IY (dl_P c) L c cp :=
  fun xs ys ls s e post hse he h1 h0 => dl_isY hc hL hse he (fun h => h1 (dl_Pt.mpr h)) (fun h => h0 (fun q => h (dl_Pt.mp q)))
theorem dl_mMo {L : Nat} {c : Nat → Int32} (hc : dl_ok c) (hL : L ≤ 24) : dl_Mo (dl_P c) L :=
  ⟨fun s hs => dl_Pt.mpr (dl_St1 hc (by omega)), fun s e s' e' h a b => dl_Pt.mpr (dl_StM (dl_Pt.mp h) a b)⟩
