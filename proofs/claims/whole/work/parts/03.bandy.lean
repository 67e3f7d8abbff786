/-! bands: the reference's side -/
theorem dl_wi27 {post : Int32 → Prop} {fm : Int32} {c cp ax ay ls : Nat → Int32} {x3 x4 : Int32} {v : Nat → Int} {w : Int} {s e : Nat}
    (he : e ≤ 24) (hse : s ≤ e) (hw : -1000 ≤ w ∧ w ≤ 1000)
    (hv : ∀ j, s ≤ j → j ≤ e → (x3 * ax j) - (x4 * ay j) = dl_i (v j))
    (hb : ∀ j, s ≤ j → j ≤ e → -10000 ≤ v j ∧ v j ≤ 10000)
    (h1 : dl_in v w s e → post 1) (h0 : ¬ dl_in v w s e → post 0) :
    ∀ (n k : Nat) (lo hi : Int), s ≤ k → k ≤ e + 1 → e + 1 - k < n →
      (∀ i, s ≤ i → i < k → lo ≤ v i ∧ v i ≤ hi) → (∃ i, s ≤ i ∧ i ≤ e ∧ lo = v i) → (∃ i, s ≤ i ∧ i ≤ e ∧ hi = v i) →
      wY_within_27 post (nI e) x3 x4 (dl_i w) fm c cp ax ay ls n (dl_i lo) (dl_i hi) (nI k) := by
  intro n
  induction n with
  | zero => intro k lo hi _ _ h; omega
  | succ n ih =>
    intro k lo hi hk hk1 hn hall hlo hhi
    obtain ⟨a, a1, a2, ea⟩ := hlo
    obtain ⟨b, b1, b2, eb⟩ := hhi
    have hba := hb a a1 a2
    have hbb := hb b b1 b2
    by_cases hke : k = e + 1
    · refine br_t (nI_lt (by omega) (by omega)) ?_
      unfold wY_within_90
      rw [← dl_i1, dl_sub, dl_sub]
      refine dl_blt (by omega) (by omega) (fun z => h0 (fun hin => ?_)) (fun z => ?_)
      · have := hin b a b1 b2 a1 a2
        omega
      · rw [dl_i1]
        refine h1 (fun i j i1 i2 j1 j2 => ?_)
        have a := hall i i1 (by omega)
        have b := hall j j1 (by omega)
        omega
    · refine br_f (nI_nlt (by omega) (by omega)) (br_f (nI_ge (b := 25) (by omega) (by decide)) ⟨vp_in_nI (by omega) (by omega), vp_in_nI (by omega) (by omega), ?_⟩)
      rw [nI_clamp (by omega)]
      refine nm_r (hv k hk (by omega)) ?_
      have hbk := hb k hk (by omega)
      refine dl_ble (by omega) (by omega) (fun c1 => ?_) (fun c1 => ?_)
      · refine dl_ble (by omega) (by omega) (fun c2 => ?_) (fun c2 => ?_)
        · exact nm_r (nI_1 k) (ih (k + 1) lo hi (by omega) (by omega) (by omega) (dl_ext hall (by omega) (by omega) (by omega) (by omega)) ⟨a, a1, a2, ea⟩ ⟨b, b1, b2, eb⟩)
        · exact nm_r (nI_1 k) (ih (k + 1) lo (v k) (by omega) (by omega) (by omega) (dl_ext hall (by omega) (by omega) (by omega) (by omega)) ⟨a, a1, a2, ea⟩ ⟨k, hk, by omega, rfl⟩)
      · refine dl_ble (by omega) (by omega) (fun c2 => ?_) (fun c2 => ?_)
        · exact nm_r (nI_1 k) (ih (k + 1) (v k) hi (by omega) (by omega) (by omega) (dl_ext hall (by omega) (by omega) (by omega) (by omega)) ⟨k, hk, by omega, rfl⟩ ⟨b, b1, b2, eb⟩)
        · exact nm_r (nI_1 k) (ih (k + 1) (v k) (v k) (by omega) (by omega) (by omega) (dl_ext hall (by omega) (by omega) (by omega) (by omega)) ⟨k, hk, by omega, rfl⟩ ⟨k, hk, by omega, rfl⟩)
theorem dl_wiY {post : Int32 → Prop} {fm : Int32} {L : Nat} {c cp ax ay ls : Nat → Int32} {p q w : Int} {s e : Nat} (hc : dl_ok c) (hp : dl_pt L c ax ay)
    (he : e ≤ 24) (hL : e ≤ L) (hse : s ≤ e) (p1 : -24 ≤ p) (p2 : p ≤ 24) (q1 : -24 ≤ q) (q2 : q ≤ 24) (hw : -1000 ≤ w ∧ w ≤ 1000)
    (h1 : dl_in (dl_v c p q) w s e → post 1) (h0 : ¬ dl_in (dl_v c p q) w s e → post 0) :
    wpY_within post (fm, c, cp, ax, ay, ls) (nI s) (nI e) (dl_i p) (dl_i q) (dl_i w) := by
  refine ⟨vp_in_nI (by omega) (by omega), vp_in_nI (by omega) (by omega), ?_⟩
  rw [nI_clamp (by omega)]
  refine nm_r (dl_vi hp p q (by omega)) ⟨e + 2, ?_⟩
  exact dl_wi27 (v := dl_v c p q) he hse hw (fun j _ h => dl_vi hp p q (by omega)) (fun j _ h => dl_vb hc p1 p2 q1 q2 (by omega)) h1 h0 (e + 2) s _ _ (Nat.le_refl s) (by omega) (by omega) (fun i a b => by omega) ⟨s, Nat.le_refl s, hse, rfl⟩ ⟨s, Nat.le_refl s, hse, rfl⟩
def dl_FY (c : Nat → Int32) (s e : Nat) (N k : Int) : Prop := dl_in (dl_v c N k) N s e ∨ dl_in (dl_v c k N) N s e
theorem dl_fi4 {post : Int32 → Prop} {fm : Int32} {L : Nat} {c cp ax ay ls : Nat → Int32} {N : Int} {s e : Nat} (hc : dl_ok c) (hp : dl_pt L c ax ay)
    (he : e ≤ 24) (hL : e ≤ L) (hse : s ≤ e) (n1 : 1 ≤ N) (n2 : N ≤ 24)
    (hy : (∃ k : Int, -N ≤ k ∧ k ≤ N ∧ dl_FY c s e N k) → post 1) (hno : (∀ k : Int, -N ≤ k → k ≤ N → ¬ dl_FY c s e N k) → post 0) :
    ∀ (n : Nat) (k : Int), -N ≤ k → k ≤ N + 1 → (N + 1 - k).toNat < n → (∀ k' : Int, -N ≤ k' → k' < k → ¬ dl_FY c s e N k') →
      wY_fits_4 post (nI s) (nI e) (dl_i N) fm c cp ax ay ls n (dl_i k) := by
  intro n
  induction n with
  | zero => intro k _ _ h; omega
  | succ n ih =>
    intro k k1 k2 hn hq
    refine dl_blt (by omega) (by omega) (fun z => hno (fun k' a b => hq k' a (by omega))) (fun z => ?_)
    refine dl_wiY hc hp he hL hse (by omega) (by omega) (by omega) (by omega) (by omega) (fun hB => ?_) (fun hB => ?_)
    · exact br_f (by decide) (hy ⟨k, k1, z, Or.inl hB⟩)
    · refine br_t rfl ?_
      refine dl_wiY hc hp he hL hse (by omega) (by omega) (by omega) (by omega) (by omega) (fun hC => ?_) (fun hC => ?_)
      · exact br_f (by decide) (hy ⟨k, k1, z, Or.inr hC⟩)
      · refine br_t rfl (nm_r (dl_a1 k) (ih (k + 1) (by omega) (by omega) (by omega) (fun k' a b => ?_)))
        by_cases w : k' = k
        · rw [w]
          exact fun hF => hF.elim hB hC
        · exact hq k' a (by omega)
theorem dl_fiY {post : Int32 → Prop} {fm : Int32} {L : Nat} {c cp ax ay ls : Nat → Int32} {N : Int} {s e : Nat} (hc : dl_ok c) (hp : dl_pt L c ax ay)
    (he : e ≤ 24) (hL : e ≤ L) (hse : s ≤ e) (n1 : 1 ≤ N) (n2 : N ≤ 24)
    (hy : (∃ k : Int, -N ≤ k ∧ k ≤ N ∧ dl_FY c s e N k) → post 1) (hno : (∀ k : Int, -N ≤ k → k ≤ N → ¬ dl_FY c s e N k) → post 0) :
    wpY_fits post (fm, c, cp, ax, ay, ls) (nI s) (nI e) (dl_i N) :=
  nm_r (dl_neg N) ⟨60, dl_fi4 hc hp he hL hse n1 n2 hy hno 60 (-N) (by omega) (by omega) (by omega) (fun k' a b => by omega)⟩
def dl_SY (c : Nat → Int32) (s e : Nat) : Prop := ∃ N k : Int, 1 ≤ N ∧ N ≤ 24 ∧ -N ≤ k ∧ k ≤ N ∧ dl_FY c s e N k
theorem dl_st17 {post : Int32 → SY → Prop} {fm : Int32} {L : Nat} {c cp ax ay ls : Nat → Int32} {s e : Nat} (hc : dl_ok c) (hp : dl_pt L c ax ay)
    (he : e ≤ 24) (hL : e ≤ L) (hse : s ≤ e) (hy : dl_SY c s e → post 1 (fm, c, cp, ax, ay, ls)) (hno : ¬ dl_SY c s e → post 0 (fm, c, cp, ax, ay, ls)) :
    ∀ (n : Nat) (N : Int), 1 ≤ N → N ≤ 25 → (25 - N).toNat < n → (∀ N' k' : Int, 1 ≤ N' → N' < N → -N' ≤ k' → k' ≤ N' → ¬ dl_FY c s e N' k') →
      wY_isStraight_17 post (nI s) (nI e) fm c cp ax ay ls n (dl_i N) := by
  intro n
  induction n with
  | zero => intro k _ _ h; omega
  | succ n ih =>
    intro N n1 n2 hn hq
    refine dl_blt24 (by omega) (fun z => hno (fun hS => ?_)) (fun z => ?_)
    · obtain ⟨N', k', a, b, c1, d, hB⟩ := hS
      exact hq N' k' a (by omega) c1 d hB
    · refine dl_fiY hc hp he hL hse n1 z (fun hB => ?_) (fun hB => ?_)
      · obtain ⟨k, a, b, hF⟩ := hB
        exact br_f (by decide) (hy ⟨N, k, n1, z, a, b, hF⟩)
      · refine br_t rfl (nm_r (dl_a1 N) (ih (N + 1) (by omega) (by omega) (by omega) (fun N' k' a b c1 d => ?_)))
        by_cases w : N' = N
        · subst w
          exact hB k' c1 d
        · exact hq N' k' a (by omega) c1 d
/-! the two families of bands hold the same pieces -/
theorem dl_vn (c : Nat → Int32) (p q : Int) (j : Nat) : dl_v c (-p) (-q) j = - dl_v c p q j := by
  unfold dl_v
  rw [Int.neg_mul, Int.neg_mul]
  omega
theorem dl_inn {c : Nat → Int32} {p q w : Int} {s e : Nat} (h : dl_in (dl_v c p q) w s e) : dl_in (dl_v c (-p) (-q)) w s e := by
  intro i j i1 i2 j1 j2
  rw [dl_vn, dl_vn]
  have := h j i j1 j2 i1 i2
  omega
theorem dl_SX_SY {c : Nat → Int32} {s e : Nat} (hse : s ≤ e) : dl_SB c s e ↔ dl_SY c s e := by
  constructor
  · rintro ⟨p, q, p1, p2, q1, q2, hB⟩
    have h0 := hB s s (Nat.le_refl s) hse (Nat.le_refl s) hse
    have hw := dl_wb (p := p) (q := q) (by omega) p2 q1 q2
    unfold dl_B at hB
    have ep : dl_ab p = p := if_pos p1
    by_cases hpq : dl_ab p ≤ dl_ab q
    · have ew : dl_w p q = dl_ab q := if_pos hpq
      by_cases hq : 0 ≤ q
      · have eq : dl_ab q = q := if_pos hq
        rw [ew, eq] at hB h0
        exact ⟨q, p, by omega, by omega, by omega, by omega, Or.inr hB⟩
      · have eq : dl_ab q = -q := if_neg hq
        rw [ew, eq] at hB h0
        exact ⟨-q, -p, by omega, by omega, by omega, by omega, Or.inr (dl_inn hB)⟩
    · have ew : dl_w p q = dl_ab p := if_neg hpq
      rw [ew, ep] at hB h0
      have hq : -p ≤ q ∧ q ≤ p := by
        unfold dl_ab at hpq
        split at hpq <;> split at hpq <;> omega
      exact ⟨p, q, by omega, by omega, by omega, by omega, Or.inl hB⟩
  · rintro ⟨N, k, n1, n2, k1, k2, hB | hB⟩
    · refine ⟨N, k, by omega, by omega, by omega, by omega, ?_⟩
      have ew : dl_w N k = N := by
        unfold dl_w dl_ab
        repeat' split
        all_goals omega
      unfold dl_B
      rw [ew]
      exact hB
    · by_cases hk : 0 ≤ k
      · refine ⟨k, N, by omega, by omega, by omega, by omega, ?_⟩
        have ew : dl_w k N = N := by
          unfold dl_w dl_ab
          repeat' split
          all_goals omega
        unfold dl_B
        rw [ew]
        exact hB
      · refine ⟨-k, -N, by omega, by omega, by omega, by omega, ?_⟩
        have ew : dl_w (-k) (-N) = N := by
          unfold dl_w dl_ab
          repeat' split
          all_goals omega
        unfold dl_B
        rw [ew]
        exact dl_inn hB
