/-! the moves of a piece: of one kind, or of two neighbouring ones -/
theorem dl_al {Q : Nat → Prop} {s k : Nat} (h : ∀ i, s ≤ i → i < k → Q i) (hk : Q k) : ∀ i, s ≤ i → i < k + 1 → Q i := by
  intro i i1 i2
  by_cases z : i = k
  · rw [z]
    exact hk
  · exact h i i1 (by omega)
def dl_K (c : Nat → Int32) (u s e : Nat) : Prop := ∀ k, s ≤ k → k < e → (c k = nI u ∨ c k = nI ((u + 1) % 8))
def dl_TK (c : Nat → Int32) (s e : Nat) : Prop := ∃ u, u < 8 ∧ dl_K c u s e
theorem dl_tk63 {post J : Int32 → Prop} {x1 x2 fm b : Int32} {c cp ax ay ls : Nat → Int32} {u s e : Nat} (hb : (b = 1 ∧ dl_K c u s e) ∨ (b = 0 ∧ ¬ dl_K c u s e))
    (hy : dl_K c u s e → post 1) (hj : ¬ dl_K c u s e → J (nI (u + 1))) : wY_twoKinds_63 post J x1 x2 (nI u) b fm c cp ax ay ls := by
  rcases hb with ⟨rfl, h⟩ | ⟨rfl, h⟩
  · exact br_f (by decide) (hy h)
  · exact br_t rfl (nm_r (nI_1 u) (hj h))
theorem dl_rem8 {u : Nat} (hu : u < 8) : (nI u + 1) - (nI u + 1) / 8 * 8 = nI ((u + 1) % 8) := by
  rw [nI_1, ← dl_n8]
  exact pk_rem (by omega) (by omega) (by omega)
theorem dl_tk14 {post J : Int32 → Prop} {fm : Int32} {c cp ax ay ls : Nat → Int32} {u s e : Nat} (he : e ≤ 24) (hu : u < 8)
    (hy : dl_K c u s e → post 1) (hj : ¬ dl_K c u s e → J (nI (u + 1))) :
    ∀ (n k : Nat) (b : Int32), s ≤ k → k ≤ e → e - k < n → ((b = 1 ∧ dl_K c u s k) ∨ (b = 0 ∧ ¬ dl_K c u s e)) →
      wY_twoKinds_14 post J (nI s) (nI e) (nI u) fm c cp ax ay ls n b (nI k) := by
  intro n
  induction n with
  | zero => intro k b _ _ h; omega
  | succ n ih =>
    intro k b hk hke hn hb
    by_cases hk' : k = e
    · subst hk'
      exact br_t (nI_le (Nat.le_refl k) (by omega)) (dl_tk63 hb hy hj)
    · refine br_f (nI_ge (by omega) (by omega)) (br_f (nI_ge (b := 24) (by omega) (by decide)) ⟨vp_in_nI (by omega) (by omega), ?_⟩)
      rw [nI_clamp (by omega), dl_rem8 hu]
      have hs : (c k = nI u ∨ c k = nI ((u + 1) % 8)) → ((b = 1 ∧ dl_K c u s (k + 1)) ∨ (b = 0 ∧ ¬ dl_K c u s e)) := fun z => hb.elim (fun h => Or.inl ⟨h.1, dl_al h.2 z⟩) Or.inr
      refine br_c (fun z => ?_) (fun z => ⟨vp_in_nI (by omega) (by omega), by decide, br_c (fun z2 => ?_) (fun z2 => ?_)⟩)
      · exact nm_r (nI_1 k) (ih (k + 1) b (by omega) (by omega) (by omega) (hs (Or.inl z)))
      · exact nm_r (nI_1 k) (ih (k + 1) b (by omega) (by omega) (by omega) (hs (Or.inr z2)))
      · exact nm_r (nI_1 k) (ih (k + 1) 0 (by omega) (by omega) (by omega) (Or.inr ⟨rfl, fun hK => (hK k hk (by omega)).elim z z2⟩))
theorem dl_tk2 {post : Int32 → Prop} {fm : Int32} {c cp ax ay ls : Nat → Int32} {s e : Nat} (he : e ≤ 24) (hse : s ≤ e)
    (hy : dl_TK c s e → post 1) (hno : ¬ dl_TK c s e → post 0) :
    ∀ (n u : Nat), u ≤ 8 → 8 - u < n → (∀ u', u' < u → ¬ dl_K c u' s e) → wY_twoKinds_2 post (nI s) (nI e) fm c cp ax ay ls n (nI u) := by
  intro n
  induction n with
  | zero => intro u _ h; omega
  | succ n ih =>
    intro u hu hn hq
    by_cases h8 : u = 8
    · refine br_t (nI_le (a := 8) (by omega) (by omega)) (hno (fun hT => ?_))
      obtain ⟨u', a, b⟩ := hT
      exact hq u' (by omega) b
    · refine br_f (nI_ge (b := 8) (by omega) (by decide)) ⟨30, dl_tk14 he (by omega) (fun hK => hy ⟨u, by omega, hK⟩) (fun hK => ?_) 30 s 1 (Nat.le_refl s) hse (by omega) (Or.inl ⟨rfl, fun k a b => by omega⟩)⟩
      refine ih (u + 1) (by omega) (by omega) (fun u' a => ?_)
      by_cases z : u' = u
      · rw [z]
        exact hK
      · exact hq u' (by omega)
theorem dl_tkY {post : Int32 → Prop} {fm : Int32} {c cp ax ay ls : Nat → Int32} {s e : Nat} (he : e ≤ 24) (hse : s ≤ e)
    (hy : dl_TK c s e → post 1) (hno : ¬ dl_TK c s e → post 0) : wpY_twoKinds post (fm, c, cp, ax, ay, ls) (nI s) (nI e) :=
  ⟨10, dl_tk2 he hse hy hno 10 0 (by omega) (by omega) (fun u' a => by omega)⟩
/-! the component's way to ask it -/
theorem dl_tab : ∀ a, a < 8 → ∀ b, b < 8 → (nI a - nI b) &&& 7 = nI ((a + 8 - b) % 8) := by decide +kernel
def dl_tg (g : Nat → Nat) (s k : Nat) : Nat := (g k + 8 - g s) % 8
def dl_F (t : Nat → Nat) (v s e k : Nat) (l : Int32) : Prop := (l = 0 ∧ ∀ i, s ≤ i → i < k → t i ≠ v) ∨ (l = 1 ∧ ∃ i, s ≤ i ∧ i < e ∧ t i = v)
theorem dl_Fs {t : Nat → Nat} {v s e k : Nat} {l : Int32} (h : dl_F t v s e k l) (hk : t k ≠ v) : dl_F t v s e (k + 1) l :=
  h.elim (fun a => Or.inl ⟨a.1, dl_al a.2 hk⟩) Or.inr
theorem dl_hn8 {post : Int32 → Prop} {fl : Int32} {c ax ay : Nat → Int32} {g : Nat → Nat} {s e : Nat} (hg : ∀ j, g j < 8 ∧ c j = nI (g j)) (he : e ≤ 24)
    (hy : dl_TK c s e → post 1) (hno : ¬ dl_TK c s e → post 0) :
    ∀ (n k : Nat) (l r : Int32), s ≤ k → k ≤ e → e - k < n → dl_F (dl_tg g s) 1 s e k l → dl_F (dl_tg g s) 7 s e k r →
      (∀ i, s ≤ i → i < k → dl_tg g s i = 0 ∨ dl_tg g s i = 1 ∨ dl_tg g s i = 7) →
      wX_hasNeighbouringMoves_8 post (nI s) (nI e) fl c ax ay n l r (nI k) := by
  have hcg : ∀ k u, u < 8 → (c k = nI u ↔ g k = u) := by
    intro k u hu
    have := (hg k).1
    rw [(hg k).2]
    exact nI_eq (by omega) (by omega)
  have hgs := (hg s).1
  intro n
  induction n with
  | zero => intro k l r _ _ h; omega
  | succ n ih =>
    intro k l r hk hke hn hl hr hall
    by_cases hk' : k = e
    · subst hk'
      refine br_t (nI_le (Nat.le_refl k) (by omega)) ?_
      rcases hl with ⟨rfl, hl⟩ | ⟨rfl, i1, a1, b1, e1⟩
      · refine br_t rfl (hy ⟨(g s + 7) % 8, by omega, fun i a b => ?_⟩)
        rw [hcg i _ (by omega), hcg i _ (by omega)]
        have h1 := hl i a b
        have h2 := hall i a b
        have h3 := (hg i).1
        unfold dl_tg at h1 h2
        omega
      · refine br_f (by decide) ?_
        rcases hr with ⟨rfl, hr⟩ | ⟨rfl, i2, a2, b2, e2⟩
        · refine br_t rfl (hy ⟨g s, hgs, fun i a b => ?_⟩)
          rw [hcg i _ (by omega), hcg i _ (by omega)]
          have h1 := hr i a b
          have h2 := hall i a b
          have h3 := (hg i).1
          unfold dl_tg at h1 h2
          omega
        · refine br_f (by decide) (hno (fun hT => ?_))
          obtain ⟨u, hu, hK⟩ := hT
          have k1 := hK i1 a1 b1
          have k2 := hK i2 a2 b2
          have k3 := hK s (Nat.le_refl s) (by omega)
          rw [hcg _ _ (by omega), hcg _ _ (by omega)] at k1 k2 k3
          have g1 := (hg i1).1
          have g2 := (hg i2).1
          unfold dl_tg at e1 e2
          omega
    · refine br_f (nI_ge (by omega) (by omega)) ⟨vp_in_nI (by omega) (by omega), vp_in_nI (by omega) (by omega), ?_⟩
      rw [nI_clamp (n := k) (by omega), nI_clamp (n := s) (by omega)]
      have hgk := (hg k).1
      have et : (c k - c s) &&& 7 = nI (dl_tg g s k) := by
        rw [(hg k).2, (hg s).2]
        exact dl_tab _ hgk _ hgs
      have ht : dl_tg g s k < 8 := Nat.mod_lt _ (by decide)
      refine nm_r et ?_
      refine pk_eq (dl_tg g s k) 1 (fun z => ?_) (fun z => pk_eq (dl_tg g s k) 7 (fun z2 => ?_) (fun z2 => pk_eq (dl_tg g s k) 0 (fun z3 => ?_) (fun z3 => ?_)))
      · exact nm_r (nI_1 k) (ih (k + 1) 1 r (by omega) (by omega) (by omega) (Or.inr ⟨rfl, k, hk, by omega, z⟩) (dl_Fs hr (by omega)) (dl_al hall (by omega)))
      · exact nm_r (nI_1 k) (ih (k + 1) l 1 (by omega) (by omega) (by omega) (dl_Fs hl (by omega)) (Or.inr ⟨rfl, k, hk, by omega, z2⟩) (dl_al hall (by omega)))
      · exact nm_r (nI_1 k) (ih (k + 1) l r (by omega) (by omega) (by omega) (dl_Fs hl (by omega)) (dl_Fs hr (by omega)) (dl_al hall (by omega)))
      · refine hno (fun hT => ?_)
        obtain ⟨u, hu, hK⟩ := hT
        have k1 := hK k hk (by omega)
        have k3 := hK s (Nat.le_refl s) (by omega)
        rw [hcg _ _ (by omega), hcg _ _ (by omega)] at k1 k3
        unfold dl_tg at z z2 z3
        omega
theorem dl_hnX {post : Int32 → Prop} {fl : Int32} {c ax ay : Nat → Int32} {s e : Nat} (hc : dl_ok c) (he : e ≤ 24) (hse : s ≤ e)
    (hy : dl_TK c s e → post 1) (hno : ¬ dl_TK c s e → post 0) : wpX_hasNeighbouringMoves post (fl, c, ax, ay) (nI s) (nI e) := by
  obtain ⟨g, hg⟩ : ∃ g : Nat → Nat, ∀ j, g j < 8 ∧ c j = nI (g j) := ⟨fun j => (hc j).choose, fun j => (hc j).choose_spec⟩
  exact ⟨30, dl_hn8 hg he hy hno 30 s 0 0 (Nat.le_refl s) hse (by omega) (Or.inl ⟨rfl, fun i a b => by omega⟩) (Or.inl ⟨rfl, fun i a b => by omega⟩) (fun i a b => by omega)⟩
/-! the reference's walk -/
theorem dl_ptU {k : Nat} {c xs ys : Nat → Int32} (h : dl_pt k c xs ys) : dl_pt (k + 1) c (upd xs (k + 1) (xs k + dl_sx (c k))) (upd ys (k + 1) (ys k + dl_sy (c k))) := by
  intro j hj
  by_cases z : j = k + 1
  · subst z
    rw [pk_us, pk_us, (h k (Nat.le_refl k)).1, (h k (Nat.le_refl k)).2]
    exact ⟨rfl, rfl⟩
  · rw [pk_un z, pk_un z]
    exact h j (by omega)
theorem dl_wk16 {post : SY → Prop} {L : Nat} {c cp ls : Nat → Int32} (hL : L ≤ 24) (hpost : ∀ xs' ys', dl_pt L c xs' ys' → post (nI L, c, cp, xs', ys', ls)) :
    ∀ (n k : Nat) (xs ys : Nat → Int32), k ≤ L → L - k < n → dl_pt k c xs ys → wY_walk_16 post (nI L) n (nI k) c cp xs ys ls := by
  intro n
  induction n with
  | zero => intro k xs ys _ h; omega
  | succ n ih =>
    intro k xs ys hk hn hp
    by_cases hk' : k = L
    · subst hk'
      exact br_t (nI_le (Nat.le_refl k) (by omega)) (hpost xs ys hp)
    · refine br_f (nI_ge (by omega) (by omega)) (br_f (nI_ge (b := 24) (by omega) (by decide)) ⟨vp_in_nI (by omega) (by omega), vp_in_nI (by omega) (by omega), ?_⟩)
      rw [nI_1 k, nI_clamp (n := k) (by omega), nI_clamp (n := k + 1) (by omega)]
      exact dl_sxY ⟨vp_in_nI (by omega) (by omega), nm_e ⟨vp_in_nI (by omega) (by omega), vp_in_nI (by omega) (by omega), dl_syY ⟨vp_in_nI (by omega) (by omega), nm_e (nm_e (ih (k + 1) _ _ (by omega) (by omega) (dl_ptU hp)))⟩⟩⟩
theorem dl_wkY {post : SY → Prop} {L : Nat} {c cp xs ys ls : Nat → Int32} (hL : L ≤ 24) (hpost : ∀ xs' ys', dl_pt L c xs' ys' → post (nI L, c, cp, xs', ys', ls)) :
    wpY_walk post (nI L, c, cp, xs, ys, ls) := by
  refine nm_e (nm_e ⟨30, dl_wk16 hL hpost 30 0 _ _ (by omega) (by omega) (fun j hj => ?_)⟩)
  have e : j = 0 := by omega
  subst e
  exact ⟨pk_us, pk_us⟩
/-! a straight piece -/
def dl_St (c : Nat → Int32) (s e : Nat) : Prop := dl_TK c s e ∧ dl_SB c s e
theorem dl_isX {post : Int32 → Prop} {L : Nat} {c ax ay : Nat → Int32} {s e : Nat} (hc : dl_ok c) (hp : dl_pt L c ax ay) (hL : L ≤ 24) (hse : s ≤ e) (heL : e ≤ L)
    (hy : dl_St c s e → post 1) (hno : ¬ dl_St c s e → post 0) : wpX_isStraight post (nI L, c, ax, ay) (nI s) (nI e) := by
  unfold wpX_isStraight
  dsimp only
  refine dl_hnX hc (by omega) hse (fun hT => br_f (by decide) ?_) (fun hT => br_t rfl (hno (fun h => hT h.1)))
  exact dl_sbX hc hp (by omega) heL hse (fun hS => br_f (by decide) (hy ⟨hT, hS⟩)) (fun hS => br_t rfl (hno (fun h => hS h.2)))
theorem dl_isY {post : Int32 → SY → Prop} {L : Nat} {c cp xs ys ls : Nat → Int32} {s e : Nat} (hc : dl_ok c) (hL : L ≤ 24) (hse : s ≤ e) (heL : e ≤ L)
    (hy : dl_St c s e → ∀ xs' ys', post 1 (nI L, c, cp, xs', ys', ls)) (hno : ¬ dl_St c s e → ∀ xs' ys', post 0 (nI L, c, cp, xs', ys', ls)) :
    wpY_isStraight post (nI L, c, cp, xs, ys, ls) (nI s) (nI e) := by
  unfold wpY_isStraight
  dsimp only
  refine dl_tkY (by omega) hse (fun hT => br_f (by decide) ?_) (fun hT => br_t rfl (hno (fun h => hT h.1) xs ys))
  refine dl_wkY hL (fun xs' ys' hp => ⟨30, ?_⟩)
  have h := dl_st17 (post := post) (fm := nI L) (cp := cp) (ls := ls) hc hp (by omega) heL hse (fun hS => hy ⟨hT, (dl_SX_SY hse).mpr hS⟩ xs' ys') (fun hS => hno (fun h => hS ((dl_SX_SY hse).mp h.2)) xs' ys') 30 1 (by omega) (by omega) (by omega) (fun N' k' a b => by omega)
  rw [dl_i1] at h
  exact h
theorem dl_StM {c : Nat → Int32} {s e s' e' : Nat} (h : dl_St c s e) (hs : s ≤ s') (he : e' ≤ e) : dl_St c s' e' := by
  obtain ⟨⟨u, hu, hK⟩, p, q, p1, p2, q1, q2, hB⟩ := h
  exact ⟨⟨u, hu, fun k a b => hK k (by omega) (by omega)⟩, p, q, p1, p2, q1, q2, fun i j i1 i2 j1 j2 => hB i j (by omega) (by omega) (by omega) (by omega)⟩
theorem dl_pq {dx dy : Int} (h1 : -1 ≤ dx) (h2 : dx ≤ 1) (h3 : -1 ≤ dy) (h4 : dy ≤ 1) (h5 : dx ≠ 0 ∨ dy ≠ 0) : ∃ p q : Int, 0 ≤ p ∧ p ≤ 1 ∧ -1 ≤ q ∧ q ≤ 1 ∧ dl_w p q = 1 ∧ p * dx = q * dy := by
  have e1 : dx = -1 ∨ dx = 0 ∨ dx = 1 := by omega
  have e2 : dy = -1 ∨ dy = 0 ∨ dy = 1 := by omega
  rcases e2 with rfl | rfl | rfl
  · exact ⟨1, -dx, by omega, by omega, by omega, by omega, by rcases e1 with rfl | rfl | rfl <;> decide, by omega⟩
  · exact ⟨0, 1, by omega, by omega, by omega, by omega, by decide, by omega⟩
  · exact ⟨1, dx, by omega, by omega, by omega, by omega, by rcases e1 with rfl | rfl | rfl <;> decide, by omega⟩
theorem dl_St1 {c : Nat → Int32} (hc : dl_ok c) {s : Nat} (hs : s < 24) : dl_St c s (s + 1) := by
  constructor
  · obtain ⟨a, ha, e⟩ := hc s
    refine ⟨a, ha, fun k k1 k2 => Or.inl ?_⟩
    have ek : k = s := by omega
    rw [ek]
    exact e
  · have hb := dl_qb hc s (by omega)
    obtain ⟨dx, dy, ex, ey, h1, h2, h3, h4, h5⟩ := dl_qs hc (j := s) (by omega) (by omega)
    obtain ⟨p, q, p1, p2, q1, q2, ew, ez⟩ := dl_pq h1 h2 h3 h4 h5
    refine ⟨p, q, by omega, by omega, by omega, by omega, ?_⟩
    unfold dl_B
    rw [ew]
    have ev : dl_v c p q (s + 1) = dl_v c p q s := by
      unfold dl_v
      rw [ex, ey, Int.mul_add, Int.mul_add, ez]
      omega
    have hv : ∀ i, s ≤ i → i ≤ s + 1 → dl_v c p q i = dl_v c p q s := by
      intro i i1 i2
      have e : i = s ∨ i = s + 1 := by omega
      rcases e with rfl | rfl
      · rfl
      · exact ev
    intro i j i1 i2 j1 j2
    rw [hv i i1 i2, hv j j1 j2]
    omega
noncomputable def dl_P (c : Nat → Int32) (s e : Nat) : Bool := @decide (dl_St c s e) (Classical.propDecidable _)
theorem dl_Pt {c : Nat → Int32} {s e : Nat} : dl_P c s e = true ↔ dl_St c s e := @decide_eq_true_iff _ (Classical.propDecidable _)
theorem dl_Pf {c : Nat → Int32} {s e : Nat} : dl_P c s e = false ↔ ¬ dl_St c s e := @decide_eq_false_iff_not _ (Classical.propDecidable _)
