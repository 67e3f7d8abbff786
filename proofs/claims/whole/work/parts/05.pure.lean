/-! what the questions answer, over any P that holds of parts too -/
def dl_fr (P : Nat → Nat → Bool) (s : Nat) : Nat → Nat → Nat
  | 0, e => e
  | d + 1, e => if P s (e + 1) = true then dl_fr P s d (e + 1) else e
def dl_far (P : Nat → Nat → Bool) (L s : Nat) : Nat := dl_fr P s (L - s) s
def dl_Mo (P : Nat → Nat → Bool) (L : Nat) : Prop := (∀ s, s < L → P s (s + 1) = true) ∧ (∀ s e s' e', P s e = true → s ≤ s' → e' ≤ e → P s' e' = true)
theorem dl_frb {P : Nat → Nat → Bool} {s : Nat} : ∀ d e, e ≤ dl_fr P s d e ∧ dl_fr P s d e ≤ e + d := by
  intro d
  induction d with
  | zero => intro e; exact ⟨Nat.le_refl e, Nat.le_refl e⟩
  | succ d ih =>
    intro e
    have := ih (e + 1)
    show e ≤ (if P s (e + 1) = true then dl_fr P s d (e + 1) else e) ∧ (if P s (e + 1) = true then dl_fr P s d (e + 1) else e) ≤ e + (d + 1)
    split <;> omega
theorem dl_frP {P : Nat → Nat → Bool} {s : Nat} : ∀ d e t, e < t → t ≤ dl_fr P s d e → P s t = true := by
  intro d
  induction d with
  | zero => intro e t a b; exact absurd b (by show ¬ t ≤ e; omega)
  | succ d ih =>
    intro e t a b
    by_cases z : P s (e + 1) = true
    · have e1 : dl_fr P s (d + 1) e = dl_fr P s d (e + 1) := if_pos z
      rw [e1] at b
      by_cases w : t = e + 1
      · rw [w]
        exact z
      · exact ih (e + 1) t (by omega) b
    · have e1 : dl_fr P s (d + 1) e = e := if_neg z
      omega
theorem dl_frM {P : Nat → Nat → Bool} {s : Nat} : ∀ d e, dl_fr P s d e < e + d → ¬ P s (dl_fr P s d e + 1) = true := by
  intro d
  induction d with
  | zero => intro e h; exact absurd h (by show ¬ e < e + 0; omega)
  | succ d ih =>
    intro e h
    by_cases z : P s (e + 1) = true
    · have e1 : dl_fr P s (d + 1) e = dl_fr P s d (e + 1) := if_pos z
      rw [e1] at h ⊢
      exact ih (e + 1) (by omega)
    · have e1 : dl_fr P s (d + 1) e = e := if_neg z
      rw [e1]
      exact z
theorem dl_faB {P : Nat → Nat → Bool} {L s : Nat} (hs : s ≤ L) : s ≤ dl_far P L s ∧ dl_far P L s ≤ L := by
  have := dl_frb (P := P) (s := s) (L - s) s
  unfold dl_far
  omega
theorem dl_faP {P : Nat → Nat → Bool} {L s t : Nat} (h1 : s < t) (h2 : t ≤ dl_far P L s) : P s t = true := dl_frP _ _ _ h1 h2
theorem dl_faG {P : Nat → Nat → Bool} {L s : Nat} (hP : dl_Mo P L) (hs : s < L) : s < dl_far P L s := by
  by_cases z : s < dl_far P L s
  · exact z
  · have b := dl_faB (P := P) (L := L) (s := s) (by omega)
    have e : dl_far P L s = s := by omega
    have m := dl_frM (P := P) (s := s) (L - s) s
    have e2 : dl_fr P s (L - s) s = s := e
    rw [e2] at m
    exact absurd (hP.1 s hs) (m (by omega))
theorem dl_faM {P : Nat → Nat → Bool} {L s t : Nat} (hP : dl_Mo P L) (hs : s ≤ L) (ht : t ≤ L) (h : P s t = true) : t ≤ dl_far P L s := by
  by_cases z : t ≤ dl_far P L s
  · exact z
  · have m := dl_frM (P := P) (s := s) (L - s) s
    have e2 : dl_fr P s (L - s) s = dl_far P L s := rfl
    rw [e2] at m
    exact absurd (hP.2 s t s (dl_far P L s + 1) h (Nat.le_refl s) (by omega)) (m (by omega))
/-! greedy pieces -/
def dl_gc (F : Nat → Nat) (e : Nat) : Nat → Nat → Nat
  | 0, _ => 0
  | d + 1, a => if a < e then dl_gc F e d (F a) + 1 else 0
theorem dl_gc0 {F : Nat → Nat} {e a : Nat} (h : e ≤ a) : ∀ d, dl_gc F e d a = 0 := by
  intro d
  cases d with
  | zero => rfl
  | succ d => exact if_neg (by omega)
theorem dl_gcs {F : Nat → Nat} {e a d : Nat} (h : a < e) : dl_gc F e (d + 1) a = dl_gc F e d (F a) + 1 := if_pos h
theorem dl_gcB {F : Nat → Nat} {e : Nat} : ∀ d a, dl_gc F e d a ≤ d := by
  intro d
  induction d with
  | zero => intro a; exact Nat.le_refl 0
  | succ d ih =>
    intro a
    have := ih (F a)
    show (if a < e then dl_gc F e d (F a) + 1 else 0) ≤ d + 1
    split <;> omega
theorem dl_gcS {F : Nat → Nat} {e : Nat} (hF : ∀ a, a < e → a < F a) : ∀ d d' a, e - a ≤ d → e - a ≤ d' → dl_gc F e d a = dl_gc F e d' a := by
  intro d
  induction d with
  | zero => intro d' a h _; rw [dl_gc0 (by omega), dl_gc0 (by omega)]
  | succ d ih =>
    intro d' a h h'
    by_cases z : a < e
    · obtain ⟨d1, rfl⟩ : ∃ d1, d' = d1 + 1 := ⟨d' - 1, by omega⟩
      have := hF a z
      rw [dl_gcs z, dl_gcs z, ih d1 (F a) (by omega) (by omega)]
    · rw [dl_gc0 (by omega), dl_gc0 (by omega)]
theorem dl_gcb {P : Nat → Nat → Bool} {L r t : Nat} (hP : dl_Mo P L) (hrt : r < t) (ht : t ≤ L) (h : P r t = true) :
    ∀ d a, r - a ≤ d → dl_gc (dl_far P L) t (d + 1) a ≤ dl_gc (dl_far P L) r d a + 1 := by
  have big : ∀ d a, r ≤ a → dl_gc (dl_far P L) t (d + 1) a ≤ 1 := by
    intro d a ha
    by_cases z : a < t
    · have m := dl_faM hP (s := a) (t := t) (by omega) ht (hP.2 r t a t h ha (Nat.le_refl t))
      rw [dl_gcs z, dl_gc0 m]
      exact Nat.le_refl 1
    · rw [dl_gc0 (by omega)]
      omega
  intro d
  induction d with
  | zero =>
    intro a ha
    have := big 0 a (by omega)
    omega
  | succ d ih =>
    intro a ha
    by_cases z : a < r
    · have g := dl_faG hP (s := a) (by omega)
      have i := ih (dl_far P L a) (by omega)
      rw [dl_gcs (show a < t by omega), dl_gcs z]
      omega
    · have := big (d + 1) a (by omega)
      omega
theorem dl_gcc {P : Nat → Nat → Bool} {L t : Nat} (hP : dl_Mo P L) (ht : t ≤ L) :
    ∀ d a, a < t → t - a ≤ d → ∃ r, a ≤ r ∧ r < t ∧ P r t = true ∧ dl_gc (dl_far P L) r d a + 1 ≤ dl_gc (dl_far P L) t d a := by
  intro d
  induction d with
  | zero => intro a h1 h2; omega
  | succ d ih =>
    intro a h1 h2
    by_cases z : t ≤ dl_far P L a
    · refine ⟨a, Nat.le_refl a, h1, dl_faP h1 z, ?_⟩
      rw [dl_gc0 (Nat.le_refl a), dl_gcs h1]
      omega
    · have g := dl_faG hP (s := a) (by omega)
      obtain ⟨r, r1, r2, r3, r4⟩ := ih (dl_far P L a) (by omega) (by omega)
      refine ⟨r, by omega, r2, r3, ?_⟩
      rw [dl_gcs (show a < r by omega), dl_gcs h1]
      omega
/-- what the table of the reference must hold -/
def dl_Gs (P : Nat → Nat → Bool) (L s : Nat) (G : Nat → Nat) : Prop :=
  G s = 0 ∧ (∀ r t, s ≤ r → r < t → t ≤ L → P r t = true → G t ≤ G r + 1) ∧ (∀ t, s < t → t ≤ L → ∃ r, s ≤ r ∧ r < t ∧ P r t = true ∧ G r + 1 ≤ G t) ∧ (∀ t, G t ≤ 24)
theorem dl_GsI {P : Nat → Nat → Bool} {L s : Nat} (hP : dl_Mo P L) (hL : L ≤ 24) : dl_Gs P L s (fun t => dl_gc (dl_far P L) t 24 s) := by
  refine ⟨dl_gc0 (Nat.le_refl s) 24, ?_, ?_, ?_⟩
  · intro r t h1 h2 h3 h4
    have b : dl_gc (dl_far P L) t 25 s ≤ dl_gc (dl_far P L) r 24 s + 1 := dl_gcb hP h2 h3 h4 24 s (by omega)
    have e := dl_gcS (F := dl_far P L) (e := t) (fun a ha => dl_faG hP (by omega)) 25 24 s (by omega) (by omega)
    show dl_gc (dl_far P L) t 24 s ≤ dl_gc (dl_far P L) r 24 s + 1
    omega
  · intro t h1 h2
    exact dl_gcc hP h2 24 s h1 (by omega)
  · intro t
    exact dl_gcB 24 s
/-! the other questions -/
def dl_bk (P : Nat → Nat → Bool) (e : Nat) : Nat → Nat
  | 0 => 0
  | s + 1 => if P s e = true then dl_bk P e s else s + 1
def dl_pe (F : Nat → Nat) (L : Nat) : Nat → Nat → Int32
  | 0, a => nI a
  | d + 1, a => if a < L then dl_pe F L d (F a) else -1
def dl_lg (F : Nat → Nat) : Nat → Nat → Nat → Nat
  | 0, b, _ => b
  | d + 1, b, s => dl_lg F d (if F s - s ≤ b then b else F s - s) (s + 1)
def dl_mx (F : Nat → Nat) : Nat → Nat → Nat → Nat
  | 0, n, _ => n
  | d + 1, n, s => dl_mx F d (if s = 0 then n + 1 else if F s ≤ F (s - 1) then n else n + 1) (s + 1)
