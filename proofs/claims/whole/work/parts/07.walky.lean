/-! the reference's questions, each against its pure answer -/
def dl_IY (P : Nat → Nat → Bool) (L : Nat) (c cp : Nat → Int32) : Prop := ∀ (xs ys ls : Nat → Int32) (s e : Nat) (post : Int32 → SY → Prop), s ≤ e → e ≤ L →
  (P s e = true → ∀ xs' ys', post 1 (nI L, c, cp, xs', ys', ls)) → (¬ P s e = true → ∀ xs' ys', post 0 (nI L, c, cp, xs', ys', ls)) → wpY_isStraight post (nI L, c, cp, xs, ys, ls) (nI s) (nI e)
theorem dl_fa2 {P : Nat → Nat → Bool} {L s : Nat} {c cp ls : Nat → Int32} {post : Int32 → SY → Prop} (hY : dl_IY P L c cp) (hL : L ≤ 24) :
    ∀ d e xs ys, e + d = L → s ≤ e → (∀ xs' ys', post (nI (dl_fr P s d e)) (nI L, c, cp, xs', ys', ls)) → ∀ n, d < n → wY_far_2 post (nI s) n (nI e) (nI L) c cp xs ys ls := by
  intro d
  induction d with
  | zero =>
    intro e xs ys he hs h n hn
    obtain ⟨n, rfl⟩ : ∃ m, n = m + 1 := ⟨n - 1, by omega⟩
    exact br_t (nI_le (by omega) (by omega)) (h xs ys)
  | succ d ih =>
    intro e xs ys he hs h n hn
    obtain ⟨n, rfl⟩ : ∃ m, n = m + 1 := ⟨n - 1, by omega⟩
    refine br_f (nI_ge (by omega) (by omega)) ?_
    rw [nI_1 e]
    refine hY xs ys ls s (e + 1) _ (by omega) (by omega) (fun hP xs' ys' => ?_) (fun hP xs' ys' => ?_)
    · have e1 : dl_fr P s (d + 1) e = dl_fr P s d (e + 1) := if_pos hP
      rw [e1] at h
      exact br_f (by decide) (nm_e (ih (e + 1) xs' ys' (by omega) (by omega) h n (by omega)))
    · have e1 : dl_fr P s (d + 1) e = e := if_neg hP
      rw [e1] at h
      exact br_t rfl (h xs' ys')
theorem dl_farY {P : Nat → Nat → Bool} {L s : Nat} {c cp xs ys ls : Nat → Int32} {post : Int32 → SY → Prop} (hY : dl_IY P L c cp) (hL : L ≤ 24) (hs : s ≤ L)
    (h : ∀ xs' ys', post (nI (dl_far P L s)) (nI L, c, cp, xs', ys', ls)) : wpY_far post (nI L, c, cp, xs, ys, ls) (nI s) :=
  ⟨30, dl_fa2 hY hL (L - s) s xs ys (by omega) (Nat.le_refl s) h 30 (by omega)⟩
theorem dl_bkY12 {P : Nat → Nat → Bool} {L e : Nat} {c cp ls : Nat → Int32} {post : Int32 → SY → Prop} (hY : dl_IY P L c cp) (hL : L ≤ 24) (he : e ≤ L) :
    ∀ s xs ys, s ≤ e → (∀ xs' ys', post (nI (dl_bk P e s)) (nI L, c, cp, xs', ys', ls)) → ∀ n, s < n → wY_reachBack_12 post (nI e) n (nI s) (nI L) c cp xs ys ls := by
  intro s
  induction s with
  | zero =>
    intro xs ys hs h n hn
    obtain ⟨n, rfl⟩ : ∃ m, n = m + 1 := ⟨n - 1, by omega⟩
    exact br_t (by decide) (h xs ys)
  | succ s ih =>
    intro xs ys hs h n hn
    obtain ⟨n, rfl⟩ : ∃ m, n = m + 1 := ⟨n - 1, by omega⟩
    refine br_f (nI_nle (by omega) (by omega)) ?_
    rw [nI_pred]
    refine hY xs ys ls s e _ (by omega) he (fun hP xs' ys' => ?_) (fun hP xs' ys' => ?_)
    · have e1 : dl_bk P e (s + 1) = dl_bk P e s := if_pos hP
      rw [e1] at h
      exact br_f (by decide) (nm_r (pk_m1 s) (ih xs' ys' (by omega) h n (by omega)))
    · have e1 : dl_bk P e (s + 1) = s + 1 := if_neg hP
      rw [e1] at h
      exact br_t rfl (h xs' ys')
theorem dl_pcY {P : Nat → Nat → Bool} {L : Nat} {c cp ls : Nat → Int32} {post : Int32 → SY → Prop} (hY : dl_IY P L c cp) (hL : L ≤ 24) :
    ∀ d a k m xs ys, k + d = 24 → a ≤ L → (∀ xs' ys', post (nI (m + dl_gc (dl_far P L) L d a)) (nI L, c, cp, xs', ys', ls)) → ∀ n, d < n → wY_pieces_6 post n (nI m) (nI a) (nI k) (nI L) c cp xs ys ls := by
  intro d
  induction d with
  | zero =>
    intro a k m xs ys hk ha h n hn
    obtain ⟨n, rfl⟩ : ∃ m, n = m + 1 := ⟨n - 1, by omega⟩
    exact br_t (nI_le (a := 24) (by omega) (by omega)) (h xs ys)
  | succ d ih =>
    intro a k m xs ys hk ha h n hn
    obtain ⟨n, rfl⟩ : ∃ m, n = m + 1 := ⟨n - 1, by omega⟩
    refine br_f (nI_ge (b := 24) (by omega) (by decide)) ?_
    by_cases z : a < L
    · have b := dl_faB (P := P) (L := L) (s := a) (by omega)
      rw [dl_gcs z] at h
      refine br_f (nI_ge (by omega) (by omega)) (dl_farY hY hL ha (fun xs' ys' => nm_r (nI_1 m) (nm_r (nI_1 k) ?_)))
      refine ih (dl_far P L a) (k + 1) (m + 1) xs' ys' (by omega) (by omega) ?_ n (by omega)
      rw [show m + 1 + dl_gc (dl_far P L) L d (dl_far P L a) = m + (dl_gc (dl_far P L) L d (dl_far P L a) + 1) by omega]
      exact h
    · refine br_t (nI_le (by omega) (by omega)) (nm_r (nI_1 k) (ih a (k + 1) m xs ys (by omega) ha ?_ n (by omega)))
      rw [dl_gc0 (by omega)] at h ⊢
      exact h
theorem dl_peY {P : Nat → Nat → Bool} {L j : Nat} {c cp ls : Nat → Int32} {post : Int32 → SY → Prop} (hY : dl_IY P L c cp) (hL : L ≤ 24) (hj : j < L) :
    ∀ d a k xs ys, k + d = j → a ≤ L → (∀ xs' ys', post (dl_pe (dl_far P L) L (d + 1) a) (nI L, c, cp, xs', ys', ls)) → ∀ n, d < n → wY_pieceEnd_4 post (nI j) n (nI a) (nI k) (nI L) c cp xs ys ls := by
  intro d
  induction d with
  | zero =>
    intro a k xs ys hk ha h n hn
    obtain ⟨n, rfl⟩ : ∃ m, n = m + 1 := ⟨n - 1, by omega⟩
    have ek : k = j := by omega
    subst ek
    refine br_f (nI_ge (b := 24) (by omega) (by decide)) ?_
    by_cases z : a < L
    · have e1 : dl_pe (dl_far P L) L (0 + 1) a = nI (dl_far P L a) := if_pos z
      rw [e1] at h
      exact br_t (nI_lt z (by omega)) (dl_farY hY hL ha (fun xs' ys' => br_t rfl (h xs' ys')))
    · have e1 : dl_pe (dl_far P L) L (0 + 1) a = -1 := if_neg z
      rw [e1] at h
      exact br_f (nI_nlt (by omega) (by omega)) (h xs ys)
  | succ d ih =>
    intro a k xs ys hk ha h n hn
    obtain ⟨n, rfl⟩ : ∃ m, n = m + 1 := ⟨n - 1, by omega⟩
    refine br_f (nI_ge (b := 24) (by omega) (by decide)) ?_
    by_cases z : a < L
    · have b := dl_faB (P := P) (L := L) (s := a) (by omega)
      have e1 : dl_pe (dl_far P L) L (d + 1 + 1) a = dl_pe (dl_far P L) L (d + 1) (dl_far P L a) := if_pos z
      rw [e1] at h
      refine br_t (nI_lt z (by omega)) (dl_farY hY hL ha (fun xs' ys' => br_f ?_ (nm_r (nI_1 k) (ih (dl_far P L a) (k + 1) xs' ys' (by omega) (by omega) h n (by omega)))))
      rw [nI_eq (by omega) (by omega)]
      omega
    · have e1 : dl_pe (dl_far P L) L (d + 1 + 1) a = -1 := if_neg z
      rw [e1] at h
      exact br_f (nI_nlt (by omega) (by omega)) (h xs ys)
theorem dl_peN {P : Nat → Nat → Bool} {L : Nat} {x1 : Int32} {c cp ls : Nat → Int32} {post : Int32 → SY → Prop} (hY : dl_IY P L c cp) (hP : dl_Mo P L) (hL : L ≤ 24) (hx : ∀ j, j < L → ¬ nI j = x1)
    (h : ∀ xs' ys', post (-1) (nI L, c, cp, xs', ys', ls)) :
    ∀ d a k xs ys, k + d = 24 → a ≤ L → k ≤ a → ∀ n, d < n → wY_pieceEnd_4 post x1 n (nI a) (nI k) (nI L) c cp xs ys ls := by
  intro d
  induction d with
  | zero =>
    intro a k xs ys hk ha hka n hn
    obtain ⟨n, rfl⟩ : ∃ m, n = m + 1 := ⟨n - 1, by omega⟩
    exact br_t (nI_le (a := 24) (by omega) (by omega)) (h xs ys)
  | succ d ih =>
    intro a k xs ys hk ha hka n hn
    obtain ⟨n, rfl⟩ : ∃ m, n = m + 1 := ⟨n - 1, by omega⟩
    refine br_f (nI_ge (b := 24) (by omega) (by decide)) ?_
    by_cases z : a < L
    · have b := dl_faB (P := P) (L := L) (s := a) (by omega)
      have g := dl_faG hP (s := a) z
      exact br_t (nI_lt z (by omega)) (dl_farY hY hL ha (fun xs' ys' => br_f (hx k (by omega)) (nm_r (nI_1 k) (ih (dl_far P L a) (k + 1) xs' ys' (by omega) (by omega) (by omega) n (by omega)))))
    · exact br_f (nI_nlt (by omega) (by omega)) (h xs ys)
theorem dl_lgY {P : Nat → Nat → Bool} {L : Nat} {c cp ls : Nat → Int32} {post : Int32 → SY → Prop} (hY : dl_IY P L c cp) (hL : L ≤ 24) :
    ∀ d b s xs ys, s + d = L → b ≤ L → (∀ xs' ys', post (nI (dl_lg (dl_far P L) d b s)) (nI L, c, cp, xs', ys', ls)) → ∀ n, d < n → wY_longest_4 post n (nI b) (nI s) (nI L) c cp xs ys ls := by
  intro d
  induction d with
  | zero =>
    intro b s xs ys hs hb h n hn
    obtain ⟨n, rfl⟩ : ∃ m, n = m + 1 := ⟨n - 1, by omega⟩
    exact br_t (nI_le (by omega) (by omega)) (h xs ys)
  | succ d ih =>
    intro b s xs ys hs hb h n hn
    obtain ⟨n, rfl⟩ : ∃ m, n = m + 1 := ⟨n - 1, by omega⟩
    have f := dl_faB (P := P) (L := L) (s := s) (by omega)
    have es : nI (dl_far P L s) - nI s = nI (dl_far P L s - s) := pk_sub f.1
    have e0 : dl_lg (dl_far P L) (d + 1) b s = dl_lg (dl_far P L) d (if dl_far P L s - s ≤ b then b else dl_far P L s - s) (s + 1) := rfl
    rw [e0] at h
    refine br_f (nI_ge (by omega) (by omega)) (dl_farY hY hL (by omega) (fun xs' ys' => ?_))
    dsimp only
    rw [es]
    by_cases z : dl_far P L s - s ≤ b
    · rw [if_pos z] at h
      exact br_t (nI_le z (by omega)) (nm_r (nI_1 s) (ih b (s + 1) xs' ys' (by omega) hb h n (by omega)))
    · rw [if_neg z] at h
      exact br_f (nI_ge (by omega) (by omega)) (nm_e (nm_r (nI_1 s) (ih (dl_far P L s - s) (s + 1) xs' ys' (by omega) (by omega) h n (by omega))))
theorem dl_mxY {P : Nat → Nat → Bool} {L : Nat} {c cp ls : Nat → Int32} {post : Int32 → SY → Prop} (hY : dl_IY P L c cp) (hP : dl_Mo P L) (hL : L ≤ 24) :
    ∀ d m s xs ys, s + d = L → (∀ xs' ys', post (nI (dl_mx (dl_far P L) d m s)) (nI L, c, cp, xs', ys', ls)) → ∀ n, d < n → wY_maximal_4 post n (nI m) (nI s) (nI L) c cp xs ys ls := by
  intro d
  induction d with
  | zero =>
    intro m s xs ys hs h n hn
    obtain ⟨n, rfl⟩ : ∃ m, n = m + 1 := ⟨n - 1, by omega⟩
    exact br_t (nI_le (by omega) (by omega)) (h xs ys)
  | succ d ih =>
    intro m s xs ys hs h n hn
    obtain ⟨n, rfl⟩ : ∃ m, n = m + 1 := ⟨n - 1, by omega⟩
    have f := dl_faB (P := P) (L := L) (s := s) (by omega)
    have g := dl_faG hP (s := s) (by omega)
    have e0 : dl_mx (dl_far P L) (d + 1) m s = dl_mx (dl_far P L) d (if s = 0 then m + 1 else if dl_far P L s ≤ dl_far P L (s - 1) then m else m + 1) (s + 1) := rfl
    rw [e0] at h
    refine br_f (nI_ge (by omega) (by omega)) (dl_farY hY hL (by omega) (fun xs' ys' => br_f (nI_ge (by omega) (by omega)) ?_))
    by_cases z : s = 0
    · rw [if_pos z] at h
      subst z
      exact br_t rfl (nm_r (nI_1 m) (nm_r (nI_1 0) (ih (m + 1) (0 + 1) xs' ys' (by omega) h n (by omega))))
    · rw [if_neg z] at h
      obtain ⟨s, rfl⟩ : ∃ t, s = t + 1 := ⟨s - 1, by omega⟩
      refine br_f (nI_ne0 (by omega) (by omega)) ?_
      rw [nI_pred]
      refine hY xs' ys' ls s (dl_far P L (s + 1)) _ (by omega) (by omega) (fun hQ xs2 ys2 => ?_) (fun hQ xs2 ys2 => ?_)
      · have w := dl_faM hP (s := s) (by omega) f.2 hQ
        have w2 : dl_far P L (s + 1) ≤ dl_far P L (s + 1 - 1) := w
        rw [if_pos w2] at h
        exact br_f (by decide) (nm_r (nI_1 (s + 1)) (ih m (s + 1 + 1) xs2 ys2 (by omega) h n (by omega)))
      · have w2 : ¬ dl_far P L (s + 1) ≤ dl_far P L (s + 1 - 1) := fun w => hQ (dl_faP (show s < dl_far P L (s + 1) by omega) w)
        rw [if_neg w2] at h
        exact br_t rfl (nm_r (nI_1 m) (nm_r (nI_1 (s + 1)) (ih (m + 1) (s + 1 + 1) xs2 ys2 (by omega) h n (by omega))))
/-! the reference's table of least numbers -/
def dl_T (G : Nat → Nat) (s t : Nat) (ls : Nat → Int32) : Prop := ∀ i, s ≤ i → i < t → ls i = nI (G i)
theorem dl_fw52 {P : Nat → Nat → Bool} {L s e t : Nat} {G : Nat → Nat} {c cp : Nat → Int32} {post : Int32 → SY → Prop} {J : Int32 → Int32 → (Nat → Int32) → (Nat → Int32) → (Nat → Int32) → (Nat → Int32) → (Nat → Int32) → Prop}
    (hY : dl_IY P L c cp) (hG : dl_Gs P L s G) (hL : L ≤ 24) (hst : s ≤ t) (hte : t ≤ e) (he : e ≤ L)
    (hJ : ∀ xs' ys' ls', dl_T G s (t + 1) ls' → J (nI (t + 1)) (nI L) c cp xs' ys' ls') :
    ∀ d r w xs ys ls, r + d = t → s ≤ r → dl_T G s t ls → ls t = nI w → w ≤ 99 → G t ≤ w → (t = s → w = 0) → (∀ i, s ≤ i → i < r → P i t = true → w ≤ G i + 1) →
      ∀ n, d < n → wY_fewest_52 post J (nI s) (nI e) (nI t) n (nI r) (nI L) c cp xs ys ls := by
  obtain ⟨Ga, Gb, Gc, Gd⟩ := hG
  intro d
  induction d with
  | zero =>
    intro r w xs ys ls hr hs hT hw w1 w2 w3 hall n hn
    obtain ⟨n, rfl⟩ : ∃ m, n = m + 1 := ⟨n - 1, by omega⟩
    refine br_t (nI_le (by omega) (by omega)) (nm_r (nI_1 t) (hJ xs ys ls (dl_al hT ?_)))
    rw [hw]
    have ew : w = G t := by
      by_cases z : t = s
      · rw [w3 z, z, Ga]
      · obtain ⟨i, i1, i2, i3, i4⟩ := Gc t (by omega) (by omega)
        have := hall i i1 (by omega) i3
        omega
    rw [ew]
  | succ d ih =>
    intro r w xs ys ls hr hs hT hw w1 w2 w3 hall n hn
    obtain ⟨n, rfl⟩ : ∃ m, n = m + 1 := ⟨n - 1, by omega⟩
    have hlr := hT r hs (by omega)
    have hgr := Gd r
    refine br_f (nI_ge (by omega) (by omega)) ⟨vp_in_nI (by omega) (by omega), vp_in_nI (by omega) (by omega), ?_⟩
    rw [nI_clamp (n := t) (by omega), nI_clamp (n := r) (by omega)]
    refine pk_le w (G r + 1) (fun z => ?_) (fun z => ?_) hw (by rw [hlr, nI_1]) (by omega) (by omega)
    · exact nm_r (nI_1 r) (ih (r + 1) w xs ys ls (by omega) (by omega) hT hw w1 w2 w3 (dl_al hall (fun _ => z)) n (by omega))
    · refine hY xs ys ls r t _ (by omega) (by omega) (fun hQ xs' ys' => ?_) (fun hQ xs' ys' => ?_)
      · refine br_f (by decide) ⟨vp_in_nI (by omega) (by omega), vp_in_nI (by omega) (by omega), nm_e (nm_r (nI_1 r) ?_)⟩
        refine ih (r + 1) (G r + 1) xs' ys' (upd ls t (ls r + 1)) (by omega) (by omega) (fun i i1 i2 => ?_) ?_ (by omega) (Gb r t hs (by omega) (by omega) hQ) (fun z2 => by omega) (dl_al (fun i i1 i2 i3 => ?_) (fun _ => Nat.le_refl _)) n (by omega)
        · rw [pk_un (by omega)]
          exact hT i i1 i2
        · rw [pk_us, hlr, nI_1]
        · have := hall i i1 i2 i3
          omega
      · exact br_t rfl (nm_r (nI_1 r) (ih (r + 1) w xs' ys' ls (by omega) (by omega) hT hw w1 w2 w3 (dl_al hall (fun q => absurd q hQ)) n (by omega)))
theorem dl_fw21 {P : Nat → Nat → Bool} {L s e : Nat} {G : Nat → Nat} {c cp : Nat → Int32} {post : Int32 → SY → Prop} (hY : dl_IY P L c cp) (hG : dl_Gs P L s G) (hL : L ≤ 24) (hse : s ≤ e) (he : e ≤ L)
    (h : ∀ xs' ys' ls', post (nI (G e)) (nI L, c, cp, xs', ys', ls')) :
    ∀ d t xs ys ls, t + d = e + 1 → s ≤ t → dl_T G s t ls → ∀ n, d < n → wY_fewest_21 post (nI s) (nI e) n (nI t) (nI L) c cp xs ys ls := by
  have Ga := hG.1
  have Gd := hG.2.2.2
  intro d
  induction d with
  | zero =>
    intro t xs ys ls ht hs hT n hn
    obtain ⟨n, rfl⟩ : ∃ m, n = m + 1 := ⟨n - 1, by omega⟩
    refine br_t (nI_lt (by omega) (by omega)) ⟨vp_in_nI (by omega) (by omega), ?_⟩
    rw [nI_clamp (n := e) (by omega), hT e hse (by omega)]
    exact h xs ys ls
  | succ d ih =>
    intro t xs ys ls ht hs hT n hn
    obtain ⟨n, rfl⟩ : ∃ m, n = m + 1 := ⟨n - 1, by omega⟩
    have hJ : ∀ xs' ys' ls', dl_T G s (t + 1) ls' → wY_fewest_21 post (nI s) (nI e) n (nI (t + 1)) (nI L) c cp xs' ys' ls' :=
      fun xs' ys' ls' hT' => ih (t + 1) xs' ys' ls' (by omega) (by omega) hT' n (by omega)
    have hU : ∀ x, dl_T G s t (upd ls t x) := fun x i i1 i2 => by
      rw [pk_un (by omega)]
      exact hT i i1 i2
    have hGt := Gd t
    refine br_f (nI_nlt (by omega) (by omega)) (br_f (nI_ge (b := 25) (by omega) (by decide)) ?_)
    rw [nI_clamp (n := t) (by omega)]
    refine pk_eq t s (fun z => ?_) (fun z => ?_)
    · subst z
      exact ⟨vp_in_nI (by omega) (by omega), nm_e ⟨30, dl_fw52 hY hG hL hs (by omega) he hJ 0 t 0 xs ys _ (by omega) (Nat.le_refl t) (hU 0) pk_us (by omega) (by omega) (fun _ => rfl) (fun i i1 i2 => by omega) 30 (by omega)⟩⟩
    · exact ⟨vp_in_nI (by omega) (by omega), nm_e ⟨30, dl_fw52 hY hG hL hs (by omega) he hJ (t - s) s 99 xs ys _ (by omega) (Nat.le_refl s) (hU 99) pk_us (by omega) (by omega) (fun q => absurd q z) (fun i i1 i2 => by omega) 30 (by omega)⟩⟩
