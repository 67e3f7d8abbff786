/-! the component's questions, each against its pure answer -/
def dl_IX (P : Nat → Nat → Bool) (L : Nat) (c ax ay : Nat → Int32) : Prop := ∀ (s e : Nat) (post : Int32 → Prop), s ≤ e → e ≤ L → (P s e = true → post 1) → (¬ P s e = true → post 0) → wpX_isStraight post (nI L, c, ax, ay) (nI s) (nI e)
theorem dl_feX {P : Nat → Nat → Bool} {L s : Nat} {c ax ay : Nat → Int32} {post : Int32 → Prop} (hX : dl_IX P L c ax ay) (hL : L ≤ 24) :
    ∀ d e, e + d = L → s ≤ e → post (nI (dl_fr P s d e)) → ∀ n, d < n → wX_farthestEnd_4 post (nI s) (nI L) c ax ay n (nI (e + 1)) := by
  intro d
  induction d with
  | zero =>
    intro e he hs h n hn
    obtain ⟨n, rfl⟩ : ∃ m, n = m + 1 := ⟨n - 1, by omega⟩
    have e1 : e = L := by omega
    subst e1
    exact br_t (nI_lt (by omega) (by omega)) h
  | succ d ih =>
    intro e he hs h n hn
    obtain ⟨n, rfl⟩ : ∃ m, n = m + 1 := ⟨n - 1, by omega⟩
    refine br_f (nI_nlt (by omega) (by omega)) (hX s (e + 1) _ (by omega) (by omega) (fun hP => ?_) (fun hP => ?_))
    · have e1 : dl_fr P s (d + 1) e = dl_fr P s d (e + 1) := if_pos hP
      rw [e1] at h
      exact br_f (by decide) (nm_r (nI_1 (e + 1)) (ih (e + 1) (by omega) (by omega) h n (by omega)))
    · have e1 : dl_fr P s (d + 1) e = e := if_neg hP
      rw [e1] at h
      refine br_t rfl ?_
      rw [nI_pred]
      exact h
theorem dl_farX {P : Nat → Nat → Bool} {L s : Nat} {c ax ay : Nat → Int32} {post : Int32 → Prop} (hX : dl_IX P L c ax ay) (hL : L ≤ 24) (hs : s ≤ L) (h : post (nI (dl_far P L s))) :
    wpX_farthestEnd post (nI L, c, ax, ay) (nI s) :=
  nm_r (nI_1 s) ⟨30, dl_feX hX hL (L - s) s (by omega) (Nat.le_refl s) h 30 (by omega)⟩
theorem dl_bkX4 {P : Nat → Nat → Bool} {L e : Nat} {c ax ay : Nat → Int32} {post : Int32 → Prop} (hX : dl_IX P L c ax ay) (hL : L ≤ 24) (he : e ≤ L) :
    ∀ s, s ≤ e → post (nI (dl_bk P e s)) → ∀ n, s < n → wX_farthestStart_4 post (nI e) (nI L) c ax ay n (nI s - 1) := by
  intro s
  induction s with
  | zero =>
    intro hs h n hn
    obtain ⟨n, rfl⟩ : ∃ m, n = m + 1 := ⟨n - 1, by omega⟩
    exact br_t (by decide) h
  | succ s ih =>
    intro hs h n hn
    obtain ⟨n, rfl⟩ : ∃ m, n = m + 1 := ⟨n - 1, by omega⟩
    rw [nI_pred]
    refine br_f (nI_pos (by omega)) (hX s e _ (by omega) he (fun hP => ?_) (fun hP => ?_))
    · have e1 : dl_bk P e (s + 1) = dl_bk P e s := if_pos hP
      rw [e1] at h
      exact br_f (by decide) (nm_r (Int32.sub_eq_add_neg (nI s) 1).symm (ih (by omega) h n (by omega)))
    · have e1 : dl_bk P e (s + 1) = s + 1 := if_neg hP
      rw [e1] at h
      refine br_t rfl ?_
      rw [nI_1]
      exact h
theorem dl_bkX {P : Nat → Nat → Bool} {L e : Nat} {c ax ay : Nat → Int32} {post : Int32 → Prop} (hX : dl_IX P L c ax ay) (hL : L ≤ 24) (he : e ≤ L) (h : post (nI (dl_bk P e e))) :
    wpX_farthestStart post (nI L, c, ax, ay) (nI e) :=
  nm_e ⟨30, dl_bkX4 hX hL he e (Nat.le_refl e) h 30 (by omega)⟩
theorem dl_gcX8 {P : Nat → Nat → Bool} {L e : Nat} {c ax ay : Nat → Int32} {post : Int32 → Prop} (hX : dl_IX P L c ax ay) (hP : dl_Mo P L) (hL : L ≤ 24) (he : e ≤ L) :
    ∀ d a k m, k + d = e → k ≤ a → post (nI (m + dl_gc (dl_far P L) e d a)) → ∀ n, d < n → a ≤ L → wX_greedyCount_8 post (nI e) (nI L) c ax ay n (nI m) (nI a) (nI k) := by
  intro d
  induction d with
  | zero =>
    intro a k m hk ha h n hn haL
    obtain ⟨n, rfl⟩ : ∃ m, n = m + 1 := ⟨n - 1, by omega⟩
    exact br_t (nI_le (by omega) (by omega)) h
  | succ d ih =>
    intro a k m hk ha h n hn haL
    obtain ⟨n, rfl⟩ : ∃ m, n = m + 1 := ⟨n - 1, by omega⟩
    refine br_f (nI_ge (by omega) (by omega)) ?_
    by_cases z : a < e
    · have g := dl_faG hP (s := a) (by omega)
      have b := dl_faB (P := P) (L := L) (s := a) (by omega)
      rw [dl_gcs z] at h
      refine br_f (nI_ge (by omega) (by omega)) (dl_farX hX hL haL (nm_r (nI_1 m) (nm_r (nI_1 k) ?_)))
      exact ih (dl_far P L a) (k + 1) (m + 1) (by omega) (by omega) (by rw [show m + 1 + dl_gc (dl_far P L) e d (dl_far P L a) = m + (dl_gc (dl_far P L) e d (dl_far P L a) + 1) by omega]; exact h) n (by omega) (by omega)
    · rw [dl_gc0 (by omega)] at h
      exact br_t (nI_le (by omega) (by omega)) h
theorem dl_gcX {P : Nat → Nat → Bool} {L s e : Nat} {c ax ay : Nat → Int32} {post : Int32 → Prop} (hX : dl_IX P L c ax ay) (hP : dl_Mo P L) (hL : L ≤ 24) (hs : s ≤ e) (he : e ≤ L)
    (h : post (nI (dl_gc (dl_far P L) e 24 s))) : wpX_greedyCount post (nI L, c, ax, ay) (nI s) (nI e) := by
  have es := dl_gcS (F := dl_far P L) (e := e) (fun a ha => dl_faG hP (by omega)) 24 (e - s) s (by omega) (by omega)
  rw [es] at h
  exact ⟨30, dl_gcX8 hX hP hL he (e - s) s s 0 (by omega) (Nat.le_refl s) (by rw [Nat.zero_add]; exact h) 30 (by omega) (by omega)⟩
theorem dl_peX {P : Nat → Nat → Bool} {L j : Nat} {c ax ay : Nat → Int32} {post : Int32 → Prop} (hX : dl_IX P L c ax ay) (hL : L ≤ 24) (hj : j < L) :
    ∀ d a k, k + d = j + 1 → a ≤ L → post (dl_pe (dl_far P L) L d a) → ∀ n, d < n → wX_pieceEnd_18 post (nI j) (nI L) c ax ay n (nI a) (nI k) := by
  intro d
  induction d with
  | zero =>
    intro a k hk ha h n hn
    obtain ⟨n, rfl⟩ : ∃ m, n = m + 1 := ⟨n - 1, by omega⟩
    exact br_t (nI_lt (by omega) (by omega)) h
  | succ d ih =>
    intro a k hk ha h n hn
    obtain ⟨n, rfl⟩ : ∃ m, n = m + 1 := ⟨n - 1, by omega⟩
    refine br_f (nI_nlt (by omega) (by omega)) ?_
    by_cases z : a < L
    · have b := dl_faB (P := P) (L := L) (s := a) (by omega)
      have e1 : dl_pe (dl_far P L) L (d + 1) a = dl_pe (dl_far P L) L d (dl_far P L a) := if_pos z
      rw [e1] at h
      exact br_t (nI_lt z (by omega)) (dl_farX hX hL ha (nm_r (nI_1 k) (ih (dl_far P L a) (k + 1) (by omega) (by omega) h n (by omega))))
    · have e1 : dl_pe (dl_far P L) L (d + 1) a = -1 := if_neg z
      rw [e1] at h
      exact br_f (nI_nlt (by omega) (by omega)) h
theorem dl_lgX {P : Nat → Nat → Bool} {L : Nat} {c ax ay : Nat → Int32} {post : Int32 → Prop} (hX : dl_IX P L c ax ay) (hL : L ≤ 24) :
    ∀ d b s, s + d = L → b ≤ L → post (nI (dl_lg (dl_far P L) d b s)) → ∀ n, d < n → wX_longest_4 post (nI L) c ax ay n (nI b) (nI s) := by
  intro d
  induction d with
  | zero =>
    intro b s hs hb h n hn
    obtain ⟨n, rfl⟩ : ∃ m, n = m + 1 := ⟨n - 1, by omega⟩
    exact br_t (nI_le (by omega) (by omega)) h
  | succ d ih =>
    intro b s hs hb h n hn
    obtain ⟨n, rfl⟩ : ∃ m, n = m + 1 := ⟨n - 1, by omega⟩
    have f := dl_faB (P := P) (L := L) (s := s) (by omega)
    refine br_f (nI_ge (by omega) (by omega)) (dl_farX hX hL (by omega) (nm_r (pk_sub f.1) ?_))
    by_cases z : dl_far P L s - s ≤ b
    · have e1 : dl_lg (dl_far P L) (d + 1) b s = dl_lg (dl_far P L) d b (s + 1) := by
        show dl_lg (dl_far P L) d (if dl_far P L s - s ≤ b then b else dl_far P L s - s) (s + 1) = _
        rw [if_pos z]
      rw [e1] at h
      exact br_t (nI_le z (by omega)) (nm_r (nI_1 s) (ih b (s + 1) (by omega) hb h n (by omega)))
    · have e1 : dl_lg (dl_far P L) (d + 1) b s = dl_lg (dl_far P L) d (dl_far P L s - s) (s + 1) := by
        show dl_lg (dl_far P L) d (if dl_far P L s - s ≤ b then b else dl_far P L s - s) (s + 1) = _
        rw [if_neg z]
      rw [e1] at h
      exact br_f (nI_ge (by omega) (by omega)) (nm_r (nI_1 s) (ih (dl_far P L s - s) (s + 1) (by omega) (by omega) h n (by omega)))
theorem dl_mxX {P : Nat → Nat → Bool} {L : Nat} {c ax ay : Nat → Int32} {post : Int32 → Prop} (hX : dl_IX P L c ax ay) (hP : dl_Mo P L) (hL : L ≤ 24) :
    ∀ d m b s, s + d = L → b = (if s = 0 then 0 else dl_far P L (s - 1)) → post (nI (dl_mx (dl_far P L) d m s)) → ∀ n, d < n → wX_maximal_6 post (nI L) c ax ay n (nI m) (nI b) (nI s) := by
  intro d
  induction d with
  | zero =>
    intro m b s hs hb h n hn
    obtain ⟨n, rfl⟩ : ∃ m, n = m + 1 := ⟨n - 1, by omega⟩
    exact br_t (nI_le (by omega) (by omega)) h
  | succ d ih =>
    intro m b s hs hb h n hn
    obtain ⟨n, rfl⟩ : ∃ m, n = m + 1 := ⟨n - 1, by omega⟩
    have f := dl_faB (P := P) (L := L) (s := s) (by omega)
    have g := dl_faG hP (s := s) (by omega)
    have e0 : dl_mx (dl_far P L) (d + 1) m s = dl_mx (dl_far P L) d (if s = 0 then m + 1 else if dl_far P L s ≤ dl_far P L (s - 1) then m else m + 1) (s + 1) := rfl
    rw [e0] at h
    have hb1 : dl_far P L s = (if s + 1 = 0 then 0 else dl_far P L (s + 1 - 1)) := by
      rw [if_neg (by omega)]
      rfl
    refine br_f (nI_ge (by omega) (by omega)) (dl_farX hX hL (by omega) ?_)
    by_cases z : s = 0
    · rw [if_pos z] at h hb
      exact br_f (nI_ge (by omega) (by omega)) (nm_r (nI_1 m) (nm_r (nI_1 s) (ih (m + 1) _ (s + 1) (by omega) hb1 h n (by omega))))
    · rw [if_neg z] at h hb
      have f2 := dl_faB (P := P) (L := L) (s := s - 1) (by omega)
      by_cases w : dl_far P L s ≤ dl_far P L (s - 1)
      · rw [if_pos w] at h
        exact br_t (nI_le (by omega) (by omega)) (nm_r (nI_1 s) (ih m _ (s + 1) (by omega) hb1 h n (by omega)))
      · rw [if_neg w] at h
        exact br_f (nI_ge (by omega) (by omega)) (nm_r (nI_1 m) (nm_r (nI_1 s) (ih (m + 1) _ (s + 1) (by omega) hb1 h n (by omega))))
