/-! the calls that change the curve: points, push, pop, set, turn -/
theorem dl_dir2 (x : Int32) : (x < 0 ∨ (¬ x < 0 ∧ 8 ≤ x ∧ ¬ x ≤ 7)) ∨ dl_ok1 x := by
  by_cases h : x < 0
  · exact Or.inl (Or.inl h)
  · obtain ⟨j, hj, rfl⟩ := nI_of h
    by_cases h2 : j < 8
    · exact Or.inr ⟨j, h2, rfl⟩
    · exact Or.inl (Or.inr ⟨h, nI_le (a := 8) (by omega) hj, nI_ge (a := 7) (by omega) hj⟩)
theorem dl_dnX0 {post : Int32 → Prop} {x : Int32} (h : x < 0 ∨ (¬ x < 0 ∧ 8 ≤ x ∧ ¬ x ≤ 7)) (h0 : post 0) : wpX_isDirection post x :=
  h.elim (fun z => br_t z h0) (fun z => br_f z.1 (br_t z.2.1 h0))
theorem dl_dnX1 {post : Int32 → Prop} {x : Int32} (h : dl_ok1 x) (h1 : post 1) : wpX_isDirection post x := by
  obtain ⟨a, ha, rfl⟩ := h
  exact br_f (nI_pos (by omega)) (br_f (nI_ge (b := 8) ha (by decide)) h1)
theorem dl_bmY0 {post : Int32 → Prop} {x : Int32} {u : SY} (h : x < 0 ∨ (¬ x < 0 ∧ 8 ≤ x ∧ ¬ x ≤ 7)) (h1 : post 1) : wpY_badMove post u x := by
  obtain ⟨a, b, c, d, e, f⟩ := u
  exact h.elim (fun z => br_t z h1) (fun z => br_f z.1 (br_f z.2.2 h1))
theorem dl_bmY1 {post : Int32 → Prop} {x : Int32} {u : SY} (h : dl_ok1 x) (h0 : post 0) : wpY_badMove post u x := by
  obtain ⟨a, b, c, d, e, f⟩ := u
  obtain ⟨a, ha, rfl⟩ := h
  exact br_f (nI_pos (by omega)) (br_t (nI_le (b := 7) (by omega) (by decide)) h0)
theorem dl_ppX {post : SX → Prop} {fl : Int32} {c ax ay : Nat → Int32} {k : Nat} (hk : k < 24) (hc : dl_ok1 (c k))
    (h : post (fl, c, upd ax (k + 1) (ax k + dl_sx (c k)), upd ay (k + 1) (ay k + dl_sy (c k)))) : wpX_placePoint post (fl, c, ax, ay) (nI (k + 1)) := by
  unfold wpX_placePoint
  dsimp only
  rw [nI_pred, nI_clamp (n := k) (by omega), nI_clamp (n := k + 1) (by omega)]
  exact ⟨vp_in_nI (by omega) (by omega), nm_e ⟨vp_in_nI (by omega) (by omega), dl_sxX hc ⟨vp_in_nI (by omega) (by omega), nm_e ⟨vp_in_nI (by omega) (by omega), dl_syX hc ⟨vp_in_nI (by omega) (by omega), nm_e h⟩⟩⟩⟩⟩
theorem dl_ps2 {post : SX → Prop} {L : Nat} {c : Nat → Int32} (hL : L ≤ 24) (hc : dl_ok c) (h : ∀ ax' ay', dl_pt L c ax' ay' → post (nI L, c, ax', ay')) :
    ∀ d k ax ay, k + d = L → dl_pt k c ax ay → ∀ n, d < n → wX_placePoints_2 post n (nI (k + 1)) (nI L) c ax ay := by
  intro d
  induction d with
  | zero =>
    intro k ax ay hk hp n hn
    obtain ⟨n, rfl⟩ : ∃ m, n = m + 1 := ⟨n - 1, by omega⟩
    have e : k = L := by omega
    subst e
    exact br_t (nI_lt (by omega) (by omega)) (h ax ay hp)
  | succ d ih =>
    intro k ax ay hk hp n hn
    obtain ⟨n, rfl⟩ : ∃ m, n = m + 1 := ⟨n - 1, by omega⟩
    exact br_f (nI_nlt (by omega) (by omega)) (dl_ppX (by omega) (hc k) (nm_r (nI_1 (k + 1)) (ih (k + 1) _ _ (by omega) (dl_ptU hp) n (by omega))))
theorem dl_psX {post : SX → Prop} {L : Nat} {c ax ay : Nat → Int32} (hL : L ≤ 24) (hc : dl_ok c) (h0 : ax 0 = 0 ∧ ay 0 = 0) (h : ∀ ax' ay', dl_pt L c ax' ay' → post (nI L, c, ax', ay')) :
    wpX_placePoints post (nI L, c, ax, ay) :=
  ⟨30, dl_ps2 hL hc h L 0 ax ay (by omega) (fun j hj => by
    have e : j = 0 := by omega
    subst e
    exact h0) 30 (by omega)⟩
theorem dl_okU {c : Nat → Int32} {k : Nat} {m : Int32} (hc : dl_ok c) (hm : dl_ok1 m) : dl_ok (upd c k m) := by
  intro j
  by_cases z : j = k
  · rw [z, pk_us]
    exact hm
  · rw [pk_un z]
    exact hc j
theorem dl_ptK {L : Nat} {c d ax ay : Nat → Int32} (hp : dl_pt L c ax ay) (h : ∀ i, i < L → d i = c i) : dl_pt L d ax ay := by
  intro j hj
  rw [dl_pxc (c := d) (d := c) j (fun i hi => h i (by omega)), dl_pyc (c := d) (d := c) j (fun i hi => h i (by omega))]
  exact hp j hj
theorem dl_apX {post : SX → Prop} {L : Nat} {c ax ay : Nat → Int32} {m : Int32} (hL : L < 24) (hm : dl_ok1 m) (hp : dl_pt L c ax ay)
    (h : ∀ ax' ay', dl_pt (L + 1) (upd c L m) ax' ay' → post (nI (L + 1), upd c L m, ax', ay')) : wpX_append post (nI L, c, ax, ay) m := by
  unfold wpX_append
  dsimp only
  rw [nI_1, nI_clamp (n := L) (by omega)]
  have hp' : dl_pt L (upd c L m) ax ay := dl_ptK hp (fun i hi => pk_un (by omega))
  exact ⟨vp_in_nI (by omega) (by omega), nm_e (nm_e (dl_ppX hL (by rw [pk_us]; exact hm) (h _ _ (dl_ptU hp'))))⟩
theorem i_vc_push {k : Nat} {u : SX} {v : SY} (I : i_Rel k u v) (hk : k + 4 ≤ 2048) (v1 : Int32) : wpX_push (fun r u' => wpY_push (fun r' v' => r' = r ∧ i_Rel (k + 4) u' v') v v1) u v1 := by
  have I' := I
  obtain ⟨L, c, ax, ay, cp, xs, ys, ls, hL, hc, hp, rfl, rfl⟩ := I
  unfold wpX_push wpY_push
  dsimp only
  rcases dl_dir2 v1 with h | h
  · exact dl_dnX0 h (br_t rfl (dl_bmY0 h (br_f (by decide) ⟨rfl, I'⟩)))
  · refine dl_dnX1 h (br_f (by decide) ?_)
    by_cases z : L < 24
    · refine br_t (nI_lt (b := 24) z (by decide)) (dl_apX z h hp (fun ax' ay' hp' => dl_bmY1 h (br_t rfl (br_t (nI_lt (b := 24) z (by decide)) ⟨vp_in_nI z (by omega), ?_⟩))))
      rw [nI_1, nI_clamp (n := L) (by omega)]
      exact nm_e (nm_e ⟨rfl, L + 1, upd c L v1, ax', ay', cp, xs, ys, ls, by omega, dl_okU hc h, hp', rfl, rfl⟩)
    · exact br_f (nI_nlt (b := 24) (by omega) (by omega)) (dl_bmY1 h (br_t rfl (br_f (nI_nlt (b := 24) (by omega) (by omega)) ⟨rfl, I'⟩)))
theorem i_vc_pop {k : Nat} {u : SX} {v : SY} (I : i_Rel k u v) (hk : k + 4 ≤ 2048) (v1 : Int32) : wpX_pop (fun r u' => wpY_pop (fun r' v' => r' = r ∧ i_Rel (k + 4) u' v') v v1) u v1 := by
  have I' := I
  obtain ⟨L, c, ax, ay, cp, xs, ys, ls, hL, hc, hp, rfl, rfl⟩ := I
  unfold wpX_pop wpY_pop
  dsimp only
  rcases dl_px3 v1 hL with h | h | ⟨j, hj, rfl⟩
  · exact br_t h (br_t h ⟨rfl, I'⟩)
  · have h0 : ¬ v1 < 0 := by
      rw [Int32.lt_iff_toInt_lt, nI_toInt (by omega)] at h
      have e0 : (0 : Int32).toInt = 0 := by decide
      rw [Int32.lt_iff_toInt_lt, e0]
      omega
    have h1 : ¬ v1 ≤ nI L := Int32.not_le.mpr h
    exact br_f h0 (br_f h1 (br_f h0 (br_f h1 ⟨rfl, I'⟩)))
  · rw [pk_sub hj]
    have h0 : ¬ nI j < 0 := nI_pos (by omega)
    have h1 : nI j ≤ nI L := nI_le hj (by omega)
    exact br_f h0 (br_t h1 (nm_e (br_f h0 (br_t h1 (nm_e ⟨rfl, L - j, c, ax, ay, cp, xs, ys, ls, by omega, hc, fun i hi => hp i (by omega), rfl, rfl⟩)))))
theorem i_vc_set {k : Nat} {u : SX} {v : SY} (I : i_Rel k u v) (hk : k + 4 ≤ 2048) (v1 : Int32) (v2 : Int32) : wpX_set (fun r u' => wpY_set (fun r' v' => r' = r ∧ i_Rel (k + 4) u' v') v v1 v2) u v1 v2 := by
  have I' := I
  obtain ⟨L, c, ax, ay, cp, xs, ys, ls, hL, hc, hp, rfl, rfl⟩ := I
  unfold wpX_set wpY_set
  dsimp only
  rcases dl_mx2 v1 hL with h | ⟨j, hj, rfl⟩
  · exact dl_mnX0 h (br_t rfl (dl_mnY0 h (br_f (by decide) ⟨rfl, I'⟩)))
  · refine dl_mnX1 hL hj (br_f (by decide) ?_)
    rcases dl_dir2 v2 with h | h
    · exact dl_dnX0 h (br_t rfl (dl_mnY1 hL hj (br_t rfl (dl_bmY0 h (br_f (by decide) ⟨rfl, I'⟩)))))
    · have h0 : ax 0 = 0 ∧ ay 0 = 0 := hp 0 (by omega)
      have hc' : dl_ok (upd c j v2) := dl_okU hc h
      refine dl_dnX1 h (br_f (by decide) ⟨vp_in_nI (by omega) (by omega), nm_e ⟨vp_in_nI (by omega) (by omega), ?_⟩⟩)
      rw [nI_clamp (n := j) (by omega)]
      refine nm_e (dl_psX hL hc' h0 (fun ax' ay' hp' => dl_mnY1 hL hj (br_t rfl (dl_bmY1 h (br_t rfl ⟨vp_in_nI (by omega) (by omega), nm_e ⟨vp_in_nI (by omega) (by omega), nm_e ?_⟩⟩)))))
      exact ⟨rfl, L, upd c j v2, ax', ay', cp, xs, ys, ls, hL, hc', hp', rfl, rfl⟩
def dl_tn (c : Nat → Int32) (t : Int32) (k : Nat) : Nat → Int32 := fun j => if j < k then (c j + t) &&& 7 else c j
theorem dl_tn0 (c : Nat → Int32) (t : Int32) : dl_tn c t 0 = c := funext fun j => if_neg (by omega)
theorem dl_tnS (c : Nat → Int32) (t : Int32) (k : Nat) : upd (dl_tn c t k) k ((dl_tn c t k k + t) &&& 7) = dl_tn c t (k + 1) := by
  have e : dl_tn c t k k = c k := if_neg (by omega)
  rw [e]
  funext j
  by_cases z : j = k
  · rw [z, pk_us]
    exact (if_pos (by omega)).symm
  · rw [pk_un z]
    show (if j < k then _ else _) = (if j < k + 1 then _ else _)
    by_cases w : j < k
    · rw [if_pos w, if_pos (by omega)]
    · rw [if_neg w, if_neg (by omega)]
theorem dl_and7 (x : Int32) : dl_ok1 (x &&& 7) := by
  obtain ⟨j, hj, e⟩ := pk_andE x (m := 7) 3 (by decide)
  exact ⟨j, by omega, e⟩
theorem dl_tnO {c : Nat → Int32} (hc : dl_ok c) (t : Int32) (k : Nat) : dl_ok (dl_tn c t k) := by
  intro j
  by_cases w : j < k
  · have e : dl_tn c t k j = (c j + t) &&& 7 := if_pos w
    rw [e]
    exact dl_and7 _
  · have e : dl_tn c t k j = c j := if_neg w
    rw [e]
    exact hc j
theorem dl_tuX {post : Int32 → SX → Prop} {L : Nat} {c ax ay : Nat → Int32} {t : Int32} (hL : L ≤ 24) (hc : dl_ok c) (h0 : ax 0 = 0 ∧ ay 0 = 0)
    (h : ∀ ax' ay', dl_pt L (dl_tn c t L) ax' ay' → post (nI L) (nI L, dl_tn c t L, ax', ay')) :
    ∀ d k, k + d = L → ∀ n, d < n → wX_turn_2 post t (nI L) n (nI k) (dl_tn c t k) ax ay := by
  intro d
  induction d with
  | zero =>
    intro k hk n hn
    obtain ⟨n, rfl⟩ : ∃ m, n = m + 1 := ⟨n - 1, by omega⟩
    have e : k = L := by omega
    subst e
    exact br_t (nI_le (Nat.le_refl k) (by omega)) (dl_psX hL (dl_tnO hc t k) h0 (fun ax' ay' hp' => h ax' ay' hp'))
  | succ d ih =>
    intro k hk n hn
    obtain ⟨n, rfl⟩ : ∃ m, n = m + 1 := ⟨n - 1, by omega⟩
    refine br_f (nI_ge (by omega) (by omega)) ⟨vp_in_nI (by omega) (by omega), vp_in_nI (by omega) (by omega), ?_⟩
    rw [nI_clamp (n := k) (by omega)]
    exact nm_r (dl_tnS c t k) (nm_r (nI_1 k) (ih (k + 1) (by omega) n (by omega)))
theorem dl_tuY {post : Int32 → SY → Prop} {L : Nat} {c cp xs ys ls : Nat → Int32} {t : Int32} (hL : L ≤ 24)
    (h : post (nI L) (nI L, dl_tn c t L, cp, xs, ys, ls)) :
    ∀ d k, k + d = L → ∀ n, d < n → wY_turn_2 post t (nI L) n (nI k) (dl_tn c t k) cp xs ys ls := by
  intro d
  induction d with
  | zero =>
    intro k hk n hn
    obtain ⟨n, rfl⟩ : ∃ m, n = m + 1 := ⟨n - 1, by omega⟩
    have e : k = L := by omega
    subst e
    exact br_t (nI_le (Nat.le_refl k) (by omega)) h
  | succ d ih =>
    intro k hk n hn
    obtain ⟨n, rfl⟩ : ∃ m, n = m + 1 := ⟨n - 1, by omega⟩
    refine br_f (nI_ge (by omega) (by omega)) (br_f (nI_ge (b := 24) (by omega) (by decide)) ⟨vp_in_nI (by omega) (by omega), vp_in_nI (by omega) (by omega), ?_⟩)
    rw [nI_clamp (n := k) (by omega)]
    exact nm_r (dl_tnS c t k) (nm_r (nI_1 k) (ih (k + 1) (by omega) n (by omega)))
theorem i_vc_turn {k : Nat} {u : SX} {v : SY} (I : i_Rel k u v) (hk : k + 4 ≤ 2048) (v1 : Int32) : wpX_turn (fun r u' => wpY_turn (fun r' v' => r' = r ∧ i_Rel (k + 4) u' v') v v1) u v1 := by
  have I' := I
  obtain ⟨L, c, ax, ay, cp, xs, ys, ls, hL, hc, hp, rfl, rfl⟩ := I
  have h0 : ax 0 = 0 ∧ ay 0 = 0 := hp 0 (by omega)
  have y : ∀ ax' ay', dl_pt L (dl_tn c v1 L) ax' ay' → wpY_turn (fun r' v' => r' = nI L ∧ i_Rel (k + 4) (nI L, dl_tn c v1 L, ax', ay') v') (nI L, c, cp, xs, ys, ls) v1 := by
    intro ax' ay' hp'
    have h := dl_tuY (post := fun r' v' => r' = nI L ∧ i_Rel (k + 4) (nI L, dl_tn c v1 L, ax', ay') v') (c := c) (cp := cp) (xs := xs) (ys := ys) (ls := ls) (t := v1) hL ⟨rfl, L, dl_tn c v1 L, ax', ay', cp, xs, ys, ls, hL, dl_tnO hc v1 L, hp', rfl, rfl⟩ L 0 (by omega) 30 (by omega)
    rw [dl_tn0] at h
    exact ⟨30, h⟩
  have h := dl_tuX (post := fun r u' => wpY_turn (fun r' v' => r' = r ∧ i_Rel (k + 4) u' v') (nI L, c, cp, xs, ys, ls) v1) (ax := ax) (ay := ay) (t := v1) hL hc h0 y L 0 (by omega) 30 (by omega)
  rw [dl_tn0] at h
  exact ⟨30, h⟩
