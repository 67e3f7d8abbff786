/-! bands: the component's side -/
theorem dl_ble0 {A B : Prop} {a : Int} (ha : -1000000 ≤ a ∧ a ≤ 1000000) (f : 0 ≤ a → A) (g : a < 0 → B) : ((0 : Int32) ≤ dl_i a → A) ∧ (¬ (0 : Int32) ≤ dl_i a → B) := by
  rw [← dl_i0]
  exact dl_ble (by omega) ha f g
theorem dl_blt24 {A B : Prop} {a : Int} (ha : -1000000 ≤ a ∧ a ≤ 1000000) (f : 24 < a → A) (g : a ≤ 24 → B) : ((24 : Int32) < dl_i a → A) ∧ (¬ (24 : Int32) < dl_i a → B) := by
  rw [← dl_i24]
  exact dl_blt (by omega) ha f g
/-- the values v at s .. e lie within a band of width w -/
def dl_in (v : Nat → Int) (w : Int) (s e : Nat) : Prop := ∀ i j, s ≤ i → i ≤ e → s ≤ j → j ≤ e → v i - v j < w
theorem dl_ext {v : Nat → Int} {s k : Nat} {lo hi lo' hi' : Int} (h : ∀ i, s ≤ i → i < k → lo ≤ v i ∧ v i ≤ hi) (h1 : lo' ≤ lo) (h2 : hi ≤ hi') (h3 : lo' ≤ v k) (h4 : v k ≤ hi') :
    ∀ i, s ≤ i → i < k + 1 → lo' ≤ v i ∧ v i ≤ hi' := by
  intro i i1 i2
  by_cases z : i = k
  · rw [z]
    exact ⟨h3, h4⟩
  · have := h i i1 (by omega)
    omega
theorem dl_fb70 {post : Int32 → Prop} {fl : Int32} {c ax ay : Nat → Int32} {x3 x4 : Int32} {v : Nat → Int} {w : Int} {s e : Nat}
    (he : e ≤ 24) (hse : s ≤ e) (hw : -1000 ≤ w ∧ w ≤ 1000)
    (hv : ∀ j, s ≤ j → j ≤ e → (x3 * ax j) - (x4 * ay j) = dl_i (v j))
    (hb : ∀ j, s ≤ j → j ≤ e → -10000 ≤ v j ∧ v j ≤ 10000)
    (h1 : dl_in v w s e → post 1) (h0 : ¬ dl_in v w s e → post 0) :
    ∀ (n k : Nat) (lo hi : Int), s ≤ k → k ≤ e + 1 → e + 1 - k < n →
      (∀ i, s ≤ i → i < k → lo ≤ v i ∧ v i ≤ hi) → (∃ i, s ≤ i ∧ i ≤ e ∧ lo = v i) → (∃ i, s ≤ i ∧ i ≤ e ∧ hi = v i) → (s < k → hi - lo < w) →
      wX_fitsBand_70 post (nI e) x3 x4 (dl_i w) fl c ax ay n (dl_i lo) (dl_i hi) (nI k) := by
  intro n
  induction n with
  | zero => intro k lo hi _ _ h; omega
  | succ n ih =>
    intro k lo hi hk hk1 hn hall hlo hhi hlt
    by_cases hke : k = e + 1
    · refine br_t (nI_lt (by omega) (by omega)) (h1 ?_)
      intro i j i1 i2 j1 j2
      have a := hall i i1 (by omega)
      have b := hall j j1 (by omega)
      have d := hlt (by omega)
      omega
    · refine br_f (nI_nlt (by omega) (by omega)) ⟨vp_in_nI (by omega) (by omega), vp_in_nI (by omega) (by omega), ?_⟩
      rw [nI_clamp (by omega)]
      refine nm_r (hv k hk (by omega)) ?_
      have hbk := hb k hk (by omega)
      have key : ∀ lo' hi' : Int, (∀ i, s ≤ i → i < k + 1 → lo' ≤ v i ∧ v i ≤ hi') → (∃ i, s ≤ i ∧ i ≤ e ∧ lo' = v i) → (∃ i, s ≤ i ∧ i ≤ e ∧ hi' = v i) →
          wX_fitsBand_128 post (wX_fitsBand_70 post (nI e) x3 x4 (dl_i w) fl c ax ay n) (nI e) x3 x4 (dl_i w) (dl_i lo') (nI k) (dl_i hi') fl c ax ay := by
        intro lo' hi' hall' hlo' hhi'
        obtain ⟨a, a1, a2, ea⟩ := hlo'
        obtain ⟨b, b1, b2, eb⟩ := hhi'
        have hba := hb a a1 a2
        have hbb := hb b b1 b2
        unfold wX_fitsBand_128
        rw [dl_sub]
        refine dl_blt (by omega) (by omega) (fun hd => ?_) (fun hd => h0 (fun hin => ?_))
        · refine nm_r (nI_1 k) ?_
          exact ih (k + 1) lo' hi' (by omega) (by omega) (by omega) hall' ⟨a, a1, a2, ea⟩ ⟨b, b1, b2, eb⟩ (fun _ => hd)
        · have := hin b a b1 b2 a1 a2
          omega
      obtain ⟨a, a1, a2, ea⟩ := hlo
      obtain ⟨b, b1, b2, eb⟩ := hhi
      have hba := hb a a1 a2
      have hbb := hb b b1 b2
      refine dl_ble (by omega) (by omega) (fun c1 => ?_) (fun c1 => ?_)
      · refine dl_ble (by omega) (by omega) (fun c2 => ?_) (fun c2 => ?_)
        · exact key lo hi (dl_ext hall (by omega) (by omega) (by omega) (by omega)) ⟨a, a1, a2, ea⟩ ⟨b, b1, b2, eb⟩
        · exact key lo (v k) (dl_ext hall (by omega) (by omega) (by omega) (by omega)) ⟨a, a1, a2, ea⟩ ⟨k, hk, by omega, rfl⟩
      · refine dl_ble (by omega) (by omega) (fun c2 => ?_) (fun c2 => ?_)
        · exact key (v k) hi (dl_ext hall (by omega) (by omega) (by omega) (by omega)) ⟨k, hk, by omega, rfl⟩ ⟨b, b1, b2, eb⟩
        · exact key (v k) (v k) (dl_ext hall (by omega) (by omega) (by omega) (by omega)) ⟨k, hk, by omega, rfl⟩ ⟨k, hk, by omega, rfl⟩
theorem dl_fb41 {post : Int32 → Prop} {fl : Int32} {c ax ay : Nat → Int32} {x3 x4 : Int32} {v : Nat → Int} {w : Int} {s e : Nat}
    (he : e ≤ 24) (hse : s ≤ e) (hw : -1000 ≤ w ∧ w ≤ 1000)
    (hv : ∀ j, s ≤ j → j ≤ e → (x3 * ax j) - (x4 * ay j) = dl_i (v j))
    (hb : ∀ j, s ≤ j → j ≤ e → -10000 ≤ v j ∧ v j ≤ 10000)
    (h1 : dl_in v w s e → post 1) (h0 : ¬ dl_in v w s e → post 0) :
    wX_fitsBand_41 post (nI s) (nI e) x3 x4 (dl_i w) fl c ax ay := by
  refine ⟨vp_in_nI (by omega) (by omega), vp_in_nI (by omega) (by omega), ?_⟩
  rw [nI_clamp (by omega)]
  refine nm_r (hv s (Nat.le_refl s) hse) ⟨e + 2, ?_⟩
  exact dl_fb70 he hse hw hv hb h1 h0 (e + 2) s (v s) (v s) (Nat.le_refl s) (by omega) (by omega) (fun i a b => by omega) ⟨s, Nat.le_refl s, hse, rfl⟩ ⟨s, Nat.le_refl s, hse, rfl⟩ (fun z => by omega)
def dl_ab (z : Int) : Int := if 0 ≤ z then z else -z
theorem dl_abb {z : Int} (h1 : -24 ≤ z) (h2 : z ≤ 24) : 0 ≤ dl_ab z ∧ dl_ab z ≤ 24 := by
  unfold dl_ab
  split <;> omega
/-- the greater of |p| and |q| -/
def dl_w (p q : Int) : Int := if dl_ab p ≤ dl_ab q then dl_ab q else dl_ab p
theorem dl_wb {p q : Int} (h1 : -24 ≤ p) (h2 : p ≤ 24) (h3 : -24 ≤ q) (h4 : q ≤ 24) : 0 ≤ dl_w p q ∧ dl_w p q ≤ 24 := by
  have a := dl_abb h1 h2
  have b := dl_abb h3 h4
  unfold dl_w
  split <;> omega
def dl_v (c : Nat → Int32) (p q : Int) (j : Nat) : Int := p * dl_qx c j - q * dl_qy c j
theorem dl_m24 {a b : Int} (h1 : -24 ≤ a) (h2 : a ≤ 24) (h3 : -24 ≤ b) (h4 : b ≤ 24) : -576 ≤ a * b ∧ a * b ≤ 576 := by
  have h := Int.natAbs_mul a b
  have h5 : a.natAbs * b.natAbs ≤ 24 * 24 := Nat.mul_le_mul (by omega) (by omega)
  generalize a * b = t at h
  generalize a.natAbs * b.natAbs = r at h h5
  omega
theorem dl_vb {c : Nat → Int32} (hc : dl_ok c) {p q : Int} (h1 : -24 ≤ p) (h2 : p ≤ 24) (h3 : -24 ≤ q) (h4 : q ≤ 24) {j : Nat} (hj : j ≤ 24) : -10000 ≤ dl_v c p q j ∧ dl_v c p q j ≤ 10000 := by
  obtain ⟨⟨a1, a2⟩, b1, b2⟩ := dl_qb hc j (by omega)
  have m1 := dl_m24 h1 h2 (b := dl_qx c j) (by omega) (by omega)
  have m2 := dl_m24 h3 h4 (b := dl_qy c j) (by omega) (by omega)
  unfold dl_v
  generalize p * dl_qx c j = t1 at m1
  generalize q * dl_qy c j = t2 at m2
  omega
def dl_pt (L : Nat) (c x y : Nat → Int32) : Prop := ∀ j, j ≤ L → x j = dl_px c j ∧ y j = dl_py c j
theorem dl_vi {L : Nat} {c x y : Nat → Int32} (h : dl_pt L c x y) (p q : Int) {j : Nat} (hj : j ≤ L) : dl_i p * x j - dl_i q * y j = dl_i (dl_v c p q j) := by
  rw [(h j hj).1, (h j hj).2, dl_qxi, dl_qyi, dl_mul, dl_mul, dl_sub]
  rfl
def dl_B (c : Nat → Int32) (s e : Nat) (p q : Int) : Prop := dl_in (dl_v c p q) (dl_w p q) s e
theorem dl_fb25 {post : Int32 → Prop} {fl x1 x2 x3 x4 : Int32} {c ax ay : Nat → Int32} {a b : Int} (ha : -1000 ≤ a ∧ a ≤ 1000) (hb : -1000 ≤ b ∧ b ≤ 1000)
    (h : wX_fitsBand_41 post x1 x2 x3 x4 (dl_i (if a ≤ b then b else a)) fl c ax ay) : wX_fitsBand_25 post x1 x2 x3 x4 (dl_i a) (dl_i b) fl c ax ay := by
  refine dl_ble (by omega) (by omega) (fun z => ?_) (fun z => ?_)
  · rw [if_pos z] at h
    exact h
  · rw [if_neg (by omega)] at h
    exact h
theorem dl_fb10 {post : Int32 → Prop} {fl x1 x2 x3 : Int32} {c ax ay : Nat → Int32} {a q : Int} (ha : -1000 ≤ a ∧ a ≤ 1000) (hq : -1000 ≤ q ∧ q ≤ 1000)
    (h : wX_fitsBand_41 post x1 x2 x3 (dl_i q) (dl_i (if a ≤ dl_ab q then dl_ab q else a)) fl c ax ay) : wX_fitsBand_10 post x1 x2 x3 (dl_i q) (dl_i a) fl c ax ay := by
  refine dl_ble0 (by omega) (fun z => ?_) (fun z => ?_)
  · have e : dl_ab q = q := if_pos z
    rw [e] at h
    exact dl_fb25 ha hq h
  · have e : dl_ab q = -q := if_neg (by omega)
    rw [e] at h
    rw [dl_neg]
    exact dl_fb25 ha (by omega) h
theorem dl_fbX {post : Int32 → Prop} {fl : Int32} {L : Nat} {c ax ay : Nat → Int32} {p q : Int} {s e : Nat} (hc : dl_ok c) (hp : dl_pt L c ax ay)
    (he : e ≤ 24) (hL : e ≤ L) (hse : s ≤ e) (p1 : -24 ≤ p) (p2 : p ≤ 24) (q1 : -24 ≤ q) (q2 : q ≤ 24)
    (h1 : dl_B c s e p q → post 1) (h0 : ¬ dl_B c s e p q → post 0) :
    wpX_fitsBand post (fl, c, ax, ay) (nI s) (nI e) (dl_i p) (dl_i q) := by
  have hw := dl_wb p1 p2 q1 q2
  have h41 : wX_fitsBand_41 post (nI s) (nI e) (dl_i p) (dl_i q) (dl_i (dl_w p q)) fl c ax ay :=
    dl_fb41 (v := dl_v c p q) he hse (by omega) (fun j _ h => dl_vi hp p q (by omega)) (fun j _ h => dl_vb hc p1 p2 q1 q2 (by omega)) h1 h0
  unfold dl_w at h41
  refine dl_ble0 (by omega) (fun z => ?_) (fun z => ?_)
  · have e : dl_ab p = p := if_pos z
    rw [e] at h41
    exact dl_fb10 (by omega) (by omega) h41
  · have e : dl_ab p = -p := if_neg (by omega)
    rw [e] at h41
    rw [dl_neg]
    exact dl_fb10 (by omega) (by omega) h41
def dl_SB (c : Nat → Int32) (s e : Nat) : Prop := ∃ p q : Int, 0 ≤ p ∧ p ≤ 24 ∧ -24 ≤ q ∧ q ≤ 24 ∧ dl_B c s e p q
theorem dl_sb12 {post J : Int32 → Prop} {fl : Int32} {L : Nat} {c ax ay : Nat → Int32} {p : Int} {s e : Nat} (hc : dl_ok c) (hp : dl_pt L c ax ay)
    (he : e ≤ 24) (hL : e ≤ L) (hse : s ≤ e) (p1 : 0 ≤ p) (p2 : p ≤ 24)
    (hy : dl_SB c s e → post 1) (hj : (∀ q : Int, -24 ≤ q → q ≤ 24 → ¬ dl_B c s e p q) → J (dl_i (p + 1))) :
    ∀ (n : Nat) (q : Int), -24 ≤ q → q ≤ 25 → (25 - q).toNat < n → (∀ q' : Int, -24 ≤ q' → q' < q → ¬ dl_B c s e p q') →
      wX_fitsSomeBand_12 post J (nI s) (nI e) (dl_i p) fl c ax ay n (dl_i q) := by
  intro n
  induction n with
  | zero => intro q _ _ h; omega
  | succ n ih =>
    intro q q1 q2 hn hq
    refine dl_blt24 (by omega) (fun z => ?_) (fun z => ?_)
    · exact nm_r (dl_a1 p) (hj (fun q' a b => hq q' a (by omega)))
    · refine dl_fbX hc hp he hL hse (by omega) (by omega) q1 (by omega) (fun hB => ?_) (fun hB => ?_)
      · exact br_f (by decide) (hy ⟨p, q, p1, p2, q1, by omega, hB⟩)
      · refine br_t rfl (nm_r (dl_a1 q) (ih (q + 1) (by omega) (by omega) (by omega) (fun q' a b => ?_)))
        by_cases w : q' = q
        · rw [w]
          exact hB
        · exact hq q' a (by omega)
theorem dl_sb2 {post : Int32 → Prop} {fl : Int32} {L : Nat} {c ax ay : Nat → Int32} {s e : Nat} (hc : dl_ok c) (hp : dl_pt L c ax ay)
    (he : e ≤ 24) (hL : e ≤ L) (hse : s ≤ e) (hy : dl_SB c s e → post 1) (hn0 : ¬ dl_SB c s e → post 0) :
    ∀ (n : Nat) (p : Int), 0 ≤ p → p ≤ 25 → (25 - p).toNat < n → (∀ p' q' : Int, 0 ≤ p' → p' < p → -24 ≤ q' → q' ≤ 24 → ¬ dl_B c s e p' q') →
      wX_fitsSomeBand_2 post (nI s) (nI e) fl c ax ay n (dl_i p) := by
  intro n
  induction n with
  | zero => intro p _ _ h; omega
  | succ n ih =>
    intro p p1 p2 hn hq
    refine dl_blt24 (by omega) (fun z => ?_) (fun z => ?_)
    · refine hn0 (fun hS => ?_)
      obtain ⟨p', q', a, b, c1, d, hB⟩ := hS
      exact hq p' q' a (by omega) c1 d hB
    · have h12 := dl_sb12 (J := wX_fitsSomeBand_2 post (nI s) (nI e) fl c ax ay n) (fl := fl) hc hp he hL hse p1 z hy (fun hno => ih (p + 1) (by omega) (by omega) (by omega) (fun p' q' a b c1 d => by
        by_cases w : p' = p
        · rw [w]
          exact hno q' c1 d
        · exact hq p' q' a (by omega) c1 d)) 60 (-24) (by omega) (by omega) (by omega) (fun q' a b => by omega)
      rw [dl_im24] at h12
      exact ⟨60, h12⟩
theorem dl_sbX {post : Int32 → Prop} {fl : Int32} {L : Nat} {c ax ay : Nat → Int32} {s e : Nat} (hc : dl_ok c) (hp : dl_pt L c ax ay)
    (he : e ≤ 24) (hL : e ≤ L) (hse : s ≤ e) (hy : dl_SB c s e → post 1) (hn0 : ¬ dl_SB c s e → post 0) :
    wpX_fitsSomeBand post (fl, c, ax, ay) (nI s) (nI e) := by
  have h := dl_sb2 (fl := fl) hc hp he hL hse hy hn0 30 0 (by omega) (by omega) (by omega) (fun p' q' a b => by omega)
  rw [dl_i0] at h
  exact ⟨30, h⟩
