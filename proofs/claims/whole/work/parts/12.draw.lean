/-! draw -/
theorem dl_dg (x y z : Int32) {L : Nat} (hL : L ≤ 24) :
    (∃ r : Int32, (∀ (c ax ay : Nat → Int32) (post : Int32 → SX → Prop), post r (nI L, c, ax, ay) → wpX_draw post (nI L, c, ax, ay) x y z) ∧
      (∀ (c cp xs ys ls : Nat → Int32) (post : Int32 → SY → Prop), post r (nI L, c, cp, xs, ys, ls) → wpY_draw post (nI L, c, cp, xs, ys, ls) x y z)) ∨
    (∃ S R C : Nat, S ≤ 79 ∧ 1 ≤ R ∧ R ≤ 12 ∧ S / 8 ≤ R ∧ 1 ≤ C ∧ L + C ≤ 24 ∧ x = nI S ∧ y = nI R ∧ z = nI C) := by
  by_cases h0 : x < 0
  · exact Or.inl ⟨-1, fun c ax ay post h => br_t h0 h, fun c cp xs ys ls post h => br_t h0 h⟩
  by_cases h1 : x ≤ 79
  case neg => exact Or.inl ⟨-1, fun c ax ay post h => br_f h0 (br_f h1 h), fun c cp xs ys ls post h => br_f h0 (br_f h1 h)⟩
  by_cases h2 : y < 1
  · exact Or.inl ⟨-2, fun c ax ay post h => br_f h0 (br_t h1 ⟨by decide, nm_e ⟨by decide, nm_e (br_t h2 h)⟩⟩), fun c cp xs ys ls post h => br_f h0 (br_t h1 ⟨by decide, nm_e ⟨by decide, nm_e (br_t h2 h)⟩⟩)⟩
  by_cases h3 : 12 < y
  · exact Or.inl ⟨-2, fun c ax ay post h => br_f h0 (br_t h1 ⟨by decide, nm_e ⟨by decide, nm_e (br_f h2 (br_t h3 h))⟩⟩), fun c cp xs ys ls post h => br_f h0 (br_t h1 ⟨by decide, nm_e ⟨by decide, nm_e (br_f h2 (br_t h3 h))⟩⟩)⟩
  by_cases h4 : x / 8 ≤ y
  case neg => exact Or.inl ⟨-2, fun c ax ay post h => br_f h0 (br_t h1 ⟨by decide, nm_e ⟨by decide, nm_e (br_f h2 (br_f h3 (br_f h4 h)))⟩⟩), fun c cp xs ys ls post h => br_f h0 (br_t h1 ⟨by decide, nm_e ⟨by decide, nm_e (br_f h2 (br_f h3 (br_f h4 h)))⟩⟩)⟩
  by_cases h5 : z < 1
  · exact Or.inl ⟨-3, fun c ax ay post h => br_f h0 (br_t h1 ⟨by decide, nm_e ⟨by decide, nm_e (br_f h2 (br_f h3 (br_t h4 (br_t h5 h))))⟩⟩), fun c cp xs ys ls post h => br_f h0 (br_t h1 ⟨by decide, nm_e ⟨by decide, nm_e (br_f h2 (br_f h3 (br_t h4 (br_t h5 h))))⟩⟩)⟩
  by_cases h6 : z ≤ 24
  case neg => exact Or.inl ⟨-3, fun c ax ay post h => br_f h0 (br_t h1 ⟨by decide, nm_e ⟨by decide, nm_e (br_f h2 (br_f h3 (br_t h4 (br_f h5 (br_f h6 h)))))⟩⟩), fun c cp xs ys ls post h => br_f h0 (br_t h1 ⟨by decide, nm_e ⟨by decide, nm_e (br_f h2 (br_f h3 (br_t h4 (br_f h5 (br_f h6 h)))))⟩⟩)⟩
  by_cases h7 : nI L + z ≤ 24
  case neg => exact Or.inl ⟨-4, fun c ax ay post h => br_f h0 (br_t h1 ⟨by decide, nm_e ⟨by decide, nm_e (br_f h2 (br_f h3 (br_t h4 (br_f h5 (br_t h6 (br_f h7 h))))))⟩⟩), fun c cp xs ys ls post h => br_f h0 (br_t h1 ⟨by decide, nm_e ⟨by decide, nm_e (br_f h2 (br_f h3 (br_t h4 (br_f h5 (br_t h6 (br_f h7 h))))))⟩⟩)⟩
  have pos : ∀ w : Int32, ¬ w < 1 → ¬ w < 0 := by
    intro w hw
    have e0 : (0 : Int32).toInt = 0 := by decide
    have e1 : (1 : Int32).toInt = 1 := by decide
    rw [Int32.lt_iff_toInt_lt, e1] at hw
    rw [Int32.lt_iff_toInt_lt, e0]
    omega
  obtain ⟨S, hS, rfl⟩ := nI_of h0
  obtain ⟨R, hR, rfl⟩ := nI_of (pos y h2)
  obtain ⟨C, hC, rfl⟩ := nI_of (pos z h5)
  have g1 : nI S ≤ nI 79 := h1
  have g2 : ¬ nI R < nI 1 := h2
  have g3 : ¬ nI 12 < nI R := h3
  have g4 : nI S / nI 8 ≤ nI R := h4
  have g5 : ¬ nI C < nI 1 := h5
  have g6 : nI C ≤ nI 24 := h6
  have g7 : nI L + nI C ≤ nI 24 := h7
  rw [nI_leI hS (by omega)] at g1
  rw [nI_ltI hR (by omega)] at g2
  rw [nI_ltI (by omega) hR] at g3
  rw [pk_div hS (by omega) (by omega), nI_leI (by omega) hR] at g4
  rw [nI_ltI hC (by omega)] at g5
  rw [nI_leI hC (by omega)] at g6
  rw [nI_add, nI_leI (by omega) (by omega)] at g7
  exact Or.inr ⟨S, R, C, g1, by omega, by omega, g4, by omega, g7, rfl, rfl, rfl⟩
def dl_wv (rise run u st : Int32) (k : Nat) : Int32 := if ((nI k + 1) * rise) / run ≤ (nI k * rise) / run then u else st
def dl_dr (c : Nat → Int32) (L : Nat) (w : Nat → Int32) : Nat → (Nat → Int32)
  | 0 => c
  | k + 1 => upd (dl_dr c L w k) (L + k) (w k)
theorem dl_drO {c : Nat → Int32} {L : Nat} {w : Nat → Int32} (hc : dl_ok c) (hw : ∀ k, dl_ok1 (w k)) : ∀ k, dl_ok (dl_dr c L w k) := by
  intro k
  induction k with
  | zero => exact hc
  | succ k ih => exact dl_okU ih (hw k)
theorem dl_wvO {rise run u st : Int32} (hu : dl_ok1 u) (hs : dl_ok1 st) (k : Nat) : dl_ok1 (dl_wv rise run u st k) := by
  unfold dl_wv
  split
  · exact hu
  · exact hs
theorem dl_drX {post : Int32 → SX → Prop} {L C : Nat} {c : Nat → Int32} {rise run u st : Int32} (hL : L + C ≤ 24) (hr : ¬ run = 0) (hu : dl_ok1 u) (hs : dl_ok1 st)
    (h : ∀ ax' ay', dl_pt (L + C) (dl_dr c L (dl_wv rise run u st) C) ax' ay' → post (nI (L + C)) (nI (L + C), dl_dr c L (dl_wv rise run u st) C, ax', ay')) :
    ∀ d k ax ay, k + d = C → dl_pt (L + k) (dl_dr c L (dl_wv rise run u st) k) ax ay → ∀ n, d < n →
      wX_draw_84 post run (nI C) rise u st n (nI k) (nI (L + k)) (dl_dr c L (dl_wv rise run u st) k) ax ay := by
  intro d
  induction d with
  | zero =>
    intro k ax ay hk hp n hn
    obtain ⟨n, rfl⟩ : ∃ m, n = m + 1 := ⟨n - 1, by omega⟩
    have e : k = C := by omega
    subst e
    exact br_t (nI_le (Nat.le_refl k) (by omega)) (h ax ay hp)
  | succ d ih =>
    intro k ax ay hk hp n hn
    obtain ⟨n, rfl⟩ : ∃ m, n = m + 1 := ⟨n - 1, by omega⟩
    have key : ∀ m : Int32, dl_ok1 m → m = dl_wv rise run u st k →
        wX_draw_129 post (wX_draw_84 post run (nI C) rise u st n) run (nI C) rise u st (nI k) m (nI (L + k)) (dl_dr c L (dl_wv rise run u st) k) ax ay := by
      intro m hm e
      unfold wX_draw_129
      refine dl_apX (by omega) hm hp (fun ax' ay' hp' => nm_r (nI_1 k) ?_)
      rw [e] at hp' ⊢
      exact ih (k + 1) ax' ay' (by omega) hp' n (by omega)
    refine br_f (nI_ge (by omega) (by omega)) ⟨hr, hr, br_c (fun z => ?_) (fun z => ?_)⟩
    · exact br_t rfl (key u hu (if_pos z).symm)
    · exact br_f (by decide) (key st hs (if_neg z).symm)
theorem dl_drY {post : Int32 → SY → Prop} {L C : Nat} {c cp xs ys ls : Nat → Int32} {rise run u st fm : Int32} (hL : L + C ≤ 24) (hr : ¬ run = 0) (hs : (u + 1) - (u + 1) / 8 * 8 = st)
    (h : post (nI (L + C)) (nI (L + C), dl_dr c L (dl_wv rise run u st) C, cp, xs, ys, ls)) :
    ∀ d k, k + d = C → ∀ n, d < n → wY_draw_81 post run (nI C) rise u (nI L) fm n (nI k) (dl_dr c L (dl_wv rise run u st) k) cp xs ys ls := by
  intro d
  induction d with
  | zero =>
    intro k hk n hn
    obtain ⟨n, rfl⟩ : ∃ m, n = m + 1 := ⟨n - 1, by omega⟩
    have e : k = C := by omega
    subst e
    exact br_t (nI_le (Nat.le_refl k) (by omega)) (nm_r (nI_add L k) h)
  | succ d ih =>
    intro k hk n hn
    obtain ⟨n, rfl⟩ : ∃ m, n = m + 1 := ⟨n - 1, by omega⟩
    have nx := ih (k + 1) (by omega) n (by omega)
    refine br_f (nI_ge (by omega) (by omega)) ⟨hr, hr, br_c (fun z => ?_) (fun z => ?_)⟩
    · have ew : dl_wv rise run u st k = u := if_pos z
      refine br_t rfl ?_
      rw [nI_add, nI_clamp (n := L + k) (by omega)]
      refine ⟨vp_in_nI (by omega) (by omega), nm_r ?_ (nm_r (nI_1 k) nx)⟩
      show upd _ (L + k) u = upd _ (L + k) (dl_wv rise run u st k)
      rw [ew]
    · have ew : dl_wv rise run u st k = st := if_neg z
      refine br_f (by decide) ⟨by decide, ?_⟩
      rw [nI_add, nI_clamp (n := L + k) (by omega), hs]
      refine ⟨vp_in_nI (by omega) (by omega), nm_r ?_ (nm_r (nI_1 k) nx)⟩
      show upd _ (L + k) st = upd _ (L + k) (dl_wv rise run u st k)
      rw [ew]
theorem dl_st8 : ∀ a, a < 8 → (nI a + 1) &&& 7 = nI ((a + 1) % 8) := by decide +kernel
theorem i_vc_draw {k : Nat} {u : SX} {v : SY} (I : i_Rel k u v) (hk : k + 4 ≤ 2048) (v1 : Int32) (v2 : Int32) (v3 : Int32) : wpX_draw (fun r u' => wpY_draw (fun r' v' => r' = r ∧ i_Rel (k + 4) u' v') v v1 v2 v3) u v1 v2 v3 := by
  have I' := I
  obtain ⟨L, c, ax, ay, cp, xs, ys, ls, hL, hc, hp, rfl, rfl⟩ := I
  rcases dl_dg v1 v2 v3 hL with ⟨r, hx, hy⟩ | ⟨S, R, C, s1, r1, r2, sr, c1, lc, rfl, rfl, rfl⟩
  · exact hx c ax ay _ (hy c cp xs ys ls _ ⟨rfl, I'⟩)
  · have e4 : nI S / 8 = nI (S / 8) := pk_div (d := 8) (by omega) (by omega) (by omega)
    have e5 : nI S - nI S / 8 * 8 = nI (S % 8) := pk_rem (d := 8) (by omega) (by omega) (by omega)
    have a8 : S % 8 < 8 := Nat.mod_lt _ (by decide)
    have e6 : (nI (S % 8) + 1) &&& 7 = nI ((S % 8 + 1) % 8) := dl_st8 _ a8
    have hu : dl_ok1 (nI (S % 8)) := ⟨_, a8, rfl⟩
    have hs : dl_ok1 (nI ((S % 8 + 1) % 8)) := ⟨_, Nat.mod_lt _ (by decide), rfl⟩
    have hr : ¬ nI R = 0 := nI_ne0 (by omega) (by omega)
    have b0 : ¬ nI S < 0 := nI_pos (by omega)
    have b1 : nI S ≤ 79 := nI_le (b := 79) s1 (by decide)
    have b2 : ¬ nI R < 1 := nI_nlt (b := 1) r1 (by omega)
    have b3 : ¬ 12 < nI R := nI_nlt (a := 12) r2 (by decide)
    have b4 : nI (S / 8) ≤ nI R := nI_le sr (by omega)
    have b5 : ¬ nI C < 1 := nI_nlt (b := 1) c1 (by omega)
    have b6 : nI C ≤ 24 := nI_le (b := 24) (by omega) (by decide)
    have b7 : nI L + nI C ≤ 24 := by
      rw [nI_add]
      exact nI_le (b := 24) lc (by decide)
    have hw := dl_wvO (rise := nI (S / 8)) (run := nI R) hu hs
    have y : ∀ ax' ay', dl_pt (L + C) (dl_dr c L (dl_wv (nI (S / 8)) (nI R) (nI (S % 8)) (nI ((S % 8 + 1) % 8))) C) ax' ay' →
        wpY_draw (fun r' v' => r' = nI (L + C) ∧ i_Rel (k + 4) (nI (L + C), dl_dr c L (dl_wv (nI (S / 8)) (nI R) (nI (S % 8)) (nI ((S % 8 + 1) % 8))) C, ax', ay') v') (nI L, c, cp, xs, ys, ls) (nI S) (nI R) (nI C) := by
      intro ax' ay' hp'
      have h := dl_drY (post := fun r' v' => r' = nI (L + C) ∧ i_Rel (k + 4) (nI (L + C), dl_dr c L (dl_wv (nI (S / 8)) (nI R) (nI (S % 8)) (nI ((S % 8 + 1) % 8))) C, ax', ay') v') (c := c) (cp := cp) (xs := xs) (ys := ys) (ls := ls) (fm := nI L) lc hr (dl_rem8 a8)
        ⟨rfl, L + C, _, ax', ay', cp, xs, ys, ls, lc, dl_drO hc hw C, hp', rfl, rfl⟩ C 0 (by omega) 30 (by omega)
      exact br_f b0 (br_t b1 ⟨by decide, nm_r e4 ⟨by decide, nm_r e5 (br_f b2 (br_f b3 (br_t b4 (br_f b5 (br_t b6 (br_t b7 ⟨30, h⟩))))))⟩⟩)
    have h := dl_drX (post := fun r u' => wpY_draw (fun r' v' => r' = r ∧ i_Rel (k + 4) u' v') (nI L, c, cp, xs, ys, ls) (nI S) (nI R) (nI C)) (c := c) lc hr hu hs y C 0 ax ay (by omega) hp 30 (by omega)
    exact br_f b0 (br_t b1 ⟨by decide, nm_r e4 ⟨by decide, nm_r e5 (br_f b2 (br_f b3 (br_t b4 (br_f b5 (br_t b6 (br_t b7 (nm_r e6 ⟨30, h⟩)))))))⟩⟩)
