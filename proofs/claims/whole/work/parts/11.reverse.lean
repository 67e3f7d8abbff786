/-! reverse -/
/-- the reference's way: the first k moves are new -/
def dl_rd (c : Nat → Int32) (L k : Nat) : Nat → Int32 := fun j => if j < k then (c (L - 1 - j) + 4) &&& 7 else c j
/-- the component's way: the first and the last k moves are new -/
def dl_rc (c : Nat → Int32) (L k : Nat) : Nat → Int32 := fun j => if j < k ∨ (L - 1 - k < j ∧ j < L) then (c (L - 1 - j) + 4) &&& 7 else c j
theorem dl_rd0 (c : Nat → Int32) (L : Nat) : dl_rd c L 0 = c := funext fun j => if_neg (by omega)
theorem dl_rc0 (c : Nat → Int32) (L : Nat) : dl_rc c L 0 = c := funext fun j => if_neg (by omega)
theorem dl_rcE {c : Nat → Int32} {L k : Nat} (h : L ≤ 2 * k) (hk : k ≤ L) : dl_rc c L k = dl_rd c L L := by
  funext j
  show (if j < k ∨ (L - 1 - k < j ∧ j < L) then _ else _) = (if j < L then _ else _)
  by_cases z : j < L
  · rw [if_pos z, if_pos (by omega)]
  · rw [if_neg z, if_neg (by omega)]
theorem dl_rcS {c : Nat → Int32} {L k : Nat} (h : 2 * k < L) :
    upd (upd (dl_rc c L k) k ((dl_rc c L k (L - 1 - k) + 4) &&& 7)) (L - 1 - k) ((dl_rc c L k k + 4) &&& 7) = dl_rc c L (k + 1) := by
  have e1 : dl_rc c L k k = c k := if_neg (by omega)
  have e2 : dl_rc c L k (L - 1 - k) = c (L - 1 - k) := if_neg (by omega)
  rw [e1, e2]
  funext j
  by_cases z : j = L - 1 - k
  · rw [z, pk_us]
    have e3 : dl_rc c L (k + 1) (L - 1 - k) = (c (L - 1 - (L - 1 - k)) + 4) &&& 7 := if_pos (by omega)
    rw [e3, show L - 1 - (L - 1 - k) = k by omega]
  · rw [pk_un z]
    by_cases w : j = k
    · rw [w, pk_us]
      exact (if_pos (by omega)).symm
    · rw [pk_un w]
      show (if j < k ∨ (L - 1 - k < j ∧ j < L) then _ else _) = (if j < k + 1 ∨ (L - 1 - (k + 1) < j ∧ j < L) then _ else _)
      by_cases y : j < k ∨ (L - 1 - k < j ∧ j < L)
      · rw [if_pos y, if_pos (by omega)]
      · rw [if_neg y, if_neg (by omega)]
theorem dl_rdO {c : Nat → Int32} (hc : dl_ok c) (L k : Nat) : dl_ok (dl_rd c L k) := by
  intro j
  by_cases w : j < k
  · have e : dl_rd c L k j = (c (L - 1 - j) + 4) &&& 7 := if_pos w
    rw [e]
    exact dl_and7 _
  · have e : dl_rd c L k j = c j := if_neg w
    rw [e]
    exact hc j
theorem dl_reX {post : Int32 → SX → Prop} {L : Nat} {c ax ay : Nat → Int32} (hL : L ≤ 24) (hc : dl_ok c) (h0 : ax 0 = 0 ∧ ay 0 = 0)
    (h : ∀ ax' ay', dl_pt L (dl_rd c L L) ax' ay' → post (nI L) (nI L, dl_rd c L L, ax', ay')) :
    ∀ n k, k ≤ L → L - k < n → wX_reverse_9 post (nI L) n (nI k) (dl_i ((L : Int) - 1 - k)) (dl_rc c L k) ax ay := by
  intro n
  induction n with
  | zero => intro k _ hn; omega
  | succ n ih =>
    intro k hk hn
    by_cases z : L ≤ 2 * k
    · refine br_t ?_ ?_
      · rw [dl_n, dl_lt (by omega) (by omega)]
        omega
      · rw [dl_rcE z hk]
        exact dl_psX hL (dl_rdO hc L L) h0 (fun ax' ay' hp' => h ax' ay' hp')
    · have eh : dl_i ((L : Int) - 1 - k) = nI (L - 1 - k) := by
        rw [dl_n]
        exact congrArg dl_i (by omega)
      have en : nI (L - 1 - k) + (-1) = dl_i ((L : Int) - 1 - ((k + 1 : Nat) : Int)) := by
        rw [dl_n, show (-1 : Int32) = dl_i (-1) by decide +kernel, dl_add]
        exact congrArg dl_i (by omega)
      rw [eh]
      refine br_f (nI_nlt (by omega) (by omega)) ⟨vp_in_nI (by omega) (by omega), ?_⟩
      rw [nI_clamp (n := k) (by omega), nI_clamp (n := L - 1 - k) (by omega)]
      exact nm_e ⟨vp_in_nI (by omega) (by omega), nm_e ⟨vp_in_nI (by omega) (by omega), nm_e ⟨vp_in_nI (by omega) (by omega), nm_r (dl_rcS (by omega)) (nm_r (nI_1 k) (nm_r en (ih (k + 1) (by omega) (by omega))))⟩⟩⟩
theorem dl_r48 : ∀ a, a < 8 → (nI a + 4) - (nI a + 4) / 8 * 8 = (nI a + 4) &&& 7 := by decide +kernel
theorem dl_r4 {m : Int32} (h : dl_ok1 m) : (m + 4) - (m + 4) / 8 * 8 = (m + 4) &&& 7 := by
  obtain ⟨a, ha, rfl⟩ := h
  exact dl_r48 a ha
theorem dl_rdS (c : Nat → Int32) (L k : Nat) : upd (dl_rd c L k) k ((c (L - 1 - k) + 4) &&& 7) = dl_rd c L (k + 1) := by
  funext j
  by_cases z : j = k
  · rw [z, pk_us]
    exact (if_pos (by omega)).symm
  · rw [pk_un z]
    show (if j < k then _ else _) = (if j < k + 1 then _ else _)
    by_cases w : j < k
    · rw [if_pos w, if_pos (by omega)]
    · rw [if_neg w, if_neg (by omega)]
theorem dl_reY28 {post : Int32 → SY → Prop} {L : Nat} {c cp xs ys ls : Nat → Int32} (hL : L ≤ 24) (hc : dl_ok c) (hcp : ∀ i, i < 24 → cp i = c i)
    (h : post (nI L) (nI L, dl_rd c L L, cp, xs, ys, ls)) :
    ∀ d k, k + d = L → ∀ n, d < n → wY_reverse_28 post (nI L) n (nI k) (dl_rd c L k) cp xs ys ls := by
  intro d
  induction d with
  | zero =>
    intro k hk n hn
    obtain ⟨n, rfl⟩ : ∃ m, n = m + 1 := ⟨n - 1, by omega⟩
    have e : k = L := by omega
    subst e
    exact br_t (nI_le (Nat.le_refl k) (by omega)) h
  | succ d ih =>
    intro k hk n hn
    obtain ⟨n, rfl⟩ : ∃ m, n = m + 1 := ⟨n - 1, by omega⟩
    have ei : (nI L - 1) - nI k = nI (L - 1 - k) := by
      rw [show (1 : Int32) = nI 1 from rfl, pk_sub (by omega), pk_sub (by omega)]
    refine br_f (nI_ge (by omega) (by omega)) (br_f (nI_ge (b := 24) (by omega) (by decide)) ?_)
    rw [ei, nI_clamp (n := k) (by omega), nI_clamp (n := L - 1 - k) (by omega), hcp (L - 1 - k) (by omega), dl_r4 (hc _)]
    exact ⟨vp_in_nI (by omega) (by omega), by decide, vp_in_nI (by omega) (by omega), nm_r (dl_rdS c L k) (nm_r (nI_1 k) (ih (k + 1) (by omega) n (by omega)))⟩
theorem dl_reY2 {post : Int32 → SY → Prop} {L : Nat} {c xs ys ls : Nat → Int32} (hL : L ≤ 24) (hc : dl_ok c)
    (h : ∀ cp', post (nI L) (nI L, dl_rd c L L, cp', xs, ys, ls)) :
    ∀ d k cp, k + d = 24 → (∀ i, i < k → cp i = c i) → ∀ n, d < n → wY_reverse_2 post (nI L) n (nI k) c cp xs ys ls := by
  intro d
  induction d with
  | zero =>
    intro k cp hk hcp n hn
    obtain ⟨n, rfl⟩ : ∃ m, n = m + 1 := ⟨n - 1, by omega⟩
    have y := dl_reY28 (post := post) (cp := cp) hL hc (fun i hi => hcp i (by omega)) (h cp) L 0 (by omega) 30 (by omega)
    rw [dl_rd0] at y
    exact br_t (nI_le (a := 24) (by omega) (by omega)) ⟨30, y⟩
  | succ d ih =>
    intro k cp hk hcp n hn
    obtain ⟨n, rfl⟩ : ∃ m, n = m + 1 := ⟨n - 1, by omega⟩
    refine br_f (nI_ge (b := 24) (by omega) (by decide)) ⟨vp_in_nI (by omega) (by omega), vp_in_nI (by omega) (by omega), ?_⟩
    rw [nI_clamp (n := k) (by omega)]
    refine nm_e (nm_r (nI_1 k) (ih (k + 1) _ (by omega) (fun i hi => ?_) n (by omega)))
    by_cases z : i = k
    · rw [z, pk_us]
    · rw [pk_un z]
      exact hcp i (by omega)
theorem i_vc_reverse {k : Nat} {u : SX} {v : SY} (I : i_Rel k u v) (hk : k + 4 ≤ 2048) : wpX_reverse (fun r u' => wpY_reverse (fun r' v' => r' = r ∧ i_Rel (k + 4) u' v') v) u := by
  have I' := I
  obtain ⟨L, c, ax, ay, cp, xs, ys, ls, hL, hc, hp, rfl, rfl⟩ := I
  have h0 : ax 0 = 0 ∧ ay 0 = 0 := hp 0 (by omega)
  have y : ∀ ax' ay', dl_pt L (dl_rd c L L) ax' ay' → wpY_reverse (fun r' v' => r' = nI L ∧ i_Rel (k + 4) (nI L, dl_rd c L L, ax', ay') v') (nI L, c, cp, xs, ys, ls) := by
    intro ax' ay' hp'
    exact ⟨30, dl_reY2 hL hc (fun cp' => ⟨rfl, L, dl_rd c L L, ax', ay', cp', xs, ys, ls, hL, dl_rdO hc L L, hp', rfl, rfl⟩) 24 0 cp (by omega) (fun i hi => by omega) 30 (by omega)⟩
  have h := dl_reX (post := fun r u' => wpY_reverse (fun r' v' => r' = r ∧ i_Rel (k + 4) u' v') (nI L, c, cp, xs, ys, ls)) (ax := ax) (ay := ay) hL hc h0 y 30 0 (by omega) (by omega)
  rw [dl_rc0] at h
  have e : nI L - 1 = dl_i ((L : Int) - 1 - ((0 : Nat) : Int)) := by
    rw [dl_n, ← dl_i1, dl_sub]
    exact congrArg dl_i (by omega)
  exact nm_r e ⟨30, h⟩
