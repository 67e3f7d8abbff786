section
theorem pk_us {f : Nat → Int32} {k : Nat} {x : Int32} : upd f k x k = x := if_pos rfl
theorem pk_un {f : Nat → Int32} {k j : Nat} {x : Int32} (h : j ≠ k) : upd f k x j = f j := if_neg h
theorem pk_sub {a b : Nat} (h : b ≤ a) : nI a - nI b = nI (a - b) := by
  obtain ⟨c, rfl⟩ : ∃ c, a = c + b := ⟨a - b, by omega⟩
  rw [← nI_add, Int32.add_sub_cancel, Nat.add_sub_cancel]
theorem pk_m1 (n : Nat) : nI (n + 1) + (-1) = nI n := by
  rw [← nI_1, Int32.add_assoc, show (1 : Int32) + (-1) = 0 from rfl, Int32.add_zero]
theorem pk_mul (a b : Nat) : nI a * nI b = nI (a * b) := (Int32.ofNat_mul a b).symm
theorem pk_div {a d : Nat} (ha : a < 2 ^ 31) (h0 : 0 < d) (hd : d < 2 ^ 31) : nI a / nI d = nI (a / d) := by
  apply Int32.toInt_inj.mp
  rw [lg_idiv_nonneg (by rw [nI_toInt ha]; omega) (by rw [nI_toInt hd]; omega), nI_toInt ha, nI_toInt hd, nI_toInt (Nat.lt_of_le_of_lt (Nat.div_le_self a d) ha)]
  first | rfl | exact (Int.natCast_ediv _ _).symm
theorem pk_rem {a d : Nat} (ha : a < 2 ^ 31) (h0 : 0 < d) (hd : d < 2 ^ 31) : nI a - nI a / nI d * nI d = nI (a % d) := by
  rw [pk_div ha h0 hd, pk_mul, pk_sub (Nat.div_mul_le_self a d)]
  exact congrArg nI (by have := Nat.div_add_mod' a d; omega)
theorem pk_le {x y : Int32} {A B : Prop} (a b : Nat) (f : a ≤ b → A) (g : b < a → B) (hx : x = nI a := by rfl) (hy : y = nI b := by rfl) (ha : a < 2 ^ 31 := by omega) (hb : b < 2 ^ 31 := by omega) : (x ≤ y → A) ∧ (¬ x ≤ y → B) := by
  subst hx hy
  rw [nI_leI ha hb]
  exact ⟨f, fun z => g (by omega)⟩
theorem pk_lt {x y : Int32} {A B : Prop} (a b : Nat) (f : a < b → A) (g : b ≤ a → B) (hx : x = nI a := by rfl) (hy : y = nI b := by rfl) (ha : a < 2 ^ 31 := by omega) (hb : b < 2 ^ 31 := by omega) : (x < y → A) ∧ (¬ x < y → B) := by
  subst hx hy
  rw [nI_ltI ha hb]
  exact ⟨f, fun z => g (by omega)⟩
theorem pk_eq {x y : Int32} {A B : Prop} (a b : Nat) (f : a = b → A) (g : a ≠ b → B) (hx : x = nI a := by rfl) (hy : y = nI b := by rfl) (ha : a < 2 ^ 31 := by omega) (hb : b < 2 ^ 31 := by omega) : (x = y → A) ∧ (¬ x = y → B) := by
  subst hx hy
  rw [nI_eq ha hb]
  exact ⟨f, g⟩
theorem pk_in {x : Int32} (n N : Nat) (h : n < N) (hx : x = nI n := by rfl) (hN : N < 2 ^ 31 := by omega) : vp_in x N := by
  subst hx
  exact vp_in_nI h hN
theorem pk_cl {x : Int32} (n : Nat) (hx : x = nI n := by rfl) (h : n < 2 ^ 31 := by omega) : x.toNatClampNeg = n := by
  subst hx
  exact nI_clamp h
theorem pk_tn {n : Nat} (h : n < 2 ^ 32) : (nI n).toBitVec.toNat = n := Nat.mod_eq_of_lt h
theorem pk_and (x : Int32) {m : Int32} (k : Nat) (hm : m.toBitVec.toNat = 2 ^ k - 1) : x &&& m = nI (x.toBitVec.toNat % 2 ^ k) := by
  apply Int32.toBitVec_inj.mp
  apply BitVec.eq_of_toNat_eq
  rw [Int32.toBitVec_and, BitVec.toNat_and, hm, Nat.and_two_pow_sub_one_eq_mod]
  show _ = (BitVec.ofNat 32 _).toNat
  rw [BitVec.toNat_ofNat]
  exact (Nat.mod_eq_of_lt (Nat.lt_of_le_of_lt (Nat.mod_le _ _) x.toBitVec.isLt)).symm
theorem pk_andN {n : Nat} (h : n < 2 ^ 32) {m : Int32} (k : Nat) (hm : m.toBitVec.toNat = 2 ^ k - 1) : nI n &&& m = nI (n % 2 ^ k) := by
  rw [pk_and _ k hm, pk_tn h]
theorem pk_andE (x : Int32) {m : Int32} (k : Nat) (hm : m.toBitVec.toNat = 2 ^ k - 1) : ∃ j : Nat, j < 2 ^ k ∧ x &&& m = nI j := ⟨_, Nat.mod_lt _ (Nat.two_pow_pos k), pk_and x k hm⟩
/-! ints that may be negative -/
def dl_i (z : Int) : Int32 := Int32.ofInt z
theorem dl_add (a b : Int) : dl_i a + dl_i b = dl_i (a + b) := (Int32.ofInt_add a b).symm
theorem dl_sub (a b : Int) : dl_i a - dl_i b = dl_i (a - b) := (Int32.ofInt_sub a b).symm
theorem dl_mul (a b : Int) : dl_i a * dl_i b = dl_i (a * b) := (Int32.ofInt_mul a b).symm
theorem dl_neg (a : Int) : - dl_i a = dl_i (- a) := (Int32.ofInt_neg a).symm
theorem dl_n (n : Nat) : nI n = dl_i (n : Int) := Int32.ofInt_eq_ofNat.symm
theorem dl_t {a : Int} (h1 : -1000000 ≤ a) (h2 : a ≤ 1000000) : (dl_i a).toInt = a := Int32.toInt_ofInt_of_le (by omega) (by omega)
theorem dl_le {a b : Int} (ha : -1000000 ≤ a ∧ a ≤ 1000000) (hb : -1000000 ≤ b ∧ b ≤ 1000000) : dl_i a ≤ dl_i b ↔ a ≤ b := by
  rw [Int32.le_iff_toInt_le, dl_t ha.1 ha.2, dl_t hb.1 hb.2]
theorem dl_lt {a b : Int} (ha : -1000000 ≤ a ∧ a ≤ 1000000) (hb : -1000000 ≤ b ∧ b ≤ 1000000) : dl_i a < dl_i b ↔ a < b := by
  rw [Int32.lt_iff_toInt_lt, dl_t ha.1 ha.2, dl_t hb.1 hb.2]
theorem dl_ble {A B : Prop} {a b : Int} (ha : -1000000 ≤ a ∧ a ≤ 1000000) (hb : -1000000 ≤ b ∧ b ≤ 1000000) (f : a ≤ b → A) (g : b < a → B) : (dl_i a ≤ dl_i b → A) ∧ (¬ dl_i a ≤ dl_i b → B) := by
  rw [dl_le ha hb]
  exact ⟨f, fun z => g (by omega)⟩
theorem dl_blt {A B : Prop} {a b : Int} (ha : -1000000 ≤ a ∧ a ≤ 1000000) (hb : -1000000 ≤ b ∧ b ≤ 1000000) (f : a < b → A) (g : b ≤ a → B) : (dl_i a < dl_i b → A) ∧ (¬ dl_i a < dl_i b → B) := by
  rw [dl_lt ha hb]
  exact ⟨f, fun z => g (by omega)⟩
theorem dl_i1 : dl_i 1 = 1 := by decide +kernel
theorem dl_i0 : dl_i 0 = 0 := by decide +kernel
theorem dl_i24 : dl_i 24 = 24 := by decide +kernel
theorem dl_im24 : dl_i (-24) = -24 := by decide +kernel
theorem dl_a1 (a : Int) : dl_i a + 1 = dl_i (a + 1) := by rw [← dl_i1, dl_add]
theorem dl_n7 : nI 7 = 7 := by decide +kernel
theorem dl_n8 : nI 8 = 8 := by decide +kernel
theorem dl_n24 : nI 24 = 24 := by decide +kernel
theorem dl_n25 : nI 25 = 25 := by decide +kernel
/-! the moves and the points -/
def dl_ok1 (m : Int32) : Prop := ∃ a : Nat, a < 8 ∧ m = nI a
def dl_ok (c : Nat → Int32) : Prop := ∀ j, dl_ok1 (c j)
def dl_sx (m : Int32) : Int32 := if m = 0 then 1 else if m = 1 then 1 else if m = 7 then 1 else if m < 3 then 0 else if 5 < m then 0 else -1
def dl_sy (m : Int32) : Int32 := if m < 1 then (if m < 5 then 0 else -1) else if 3 < m then (if m < 5 then 0 else -1) else 1
theorem dl_sxX0 {post : Int32 → Prop} (h : post 1) : wpX_stepX post (nI 0) := br_f (by decide +kernel) (br_f (by decide +kernel) (br_t (by decide +kernel) h))
theorem dl_sxX1 {post : Int32 → Prop} (h : post 1) : wpX_stepX post (nI 1) := br_f (by decide +kernel) (br_f (by decide +kernel) (br_f (by decide +kernel) (br_t (by decide +kernel) h)))
theorem dl_sxX2 {post : Int32 → Prop} (h : post 0) : wpX_stepX post (nI 2) := br_f (by decide +kernel) (br_f (by decide +kernel) (br_f (by decide +kernel) (br_f (by decide +kernel) (br_t (by decide +kernel) h))))
theorem dl_sxX3 {post : Int32 → Prop} (h : post (-1)) : wpX_stepX post (nI 3) := br_f (by decide +kernel) (br_f (by decide +kernel) (br_f (by decide +kernel) (br_f (by decide +kernel) (br_f (by decide +kernel) (br_t (by decide +kernel) h)))))
theorem dl_sxX4 {post : Int32 → Prop} (h : post (-1)) : wpX_stepX post (nI 4) := br_f (by decide +kernel) (br_f (by decide +kernel) (br_f (by decide +kernel) (br_f (by decide +kernel) (br_f (by decide +kernel) (br_f (by decide +kernel) (br_t (by decide +kernel) h))))))
theorem dl_sxX5 {post : Int32 → Prop} (h : post (-1)) : wpX_stepX post (nI 5) := br_f (by decide +kernel) (br_f (by decide +kernel) (br_f (by decide +kernel) (br_f (by decide +kernel) (br_f (by decide +kernel) (br_f (by decide +kernel) (br_f (by decide +kernel) (br_t (by decide +kernel) h)))))))
theorem dl_sxX6 {post : Int32 → Prop} (h : post 0) : wpX_stepX post (nI 6) := br_f (by decide +kernel) (br_f (by decide +kernel) (br_f (by decide +kernel) (br_f (by decide +kernel) (br_f (by decide +kernel) (br_f (by decide +kernel) (br_f (by decide +kernel) (br_f (by decide +kernel) (br_t (by decide +kernel) h))))))))
theorem dl_sxX7 {post : Int32 → Prop} (h : post 1) : wpX_stepX post (nI 7) := br_f (by decide +kernel) (br_f (by decide +kernel) (br_f (by decide +kernel) (br_f (by decide +kernel) (br_f (by decide +kernel) (br_f (by decide +kernel) (br_f (by decide +kernel) (br_f (by decide +kernel) (br_f (by decide +kernel) (br_t (by decide +kernel) h)))))))))
theorem dl_syX0 {post : Int32 → Prop} (h : post 0) : wpX_stepY post (nI 0) := br_t (by decide +kernel) h
theorem dl_syX1 {post : Int32 → Prop} (h : post 1) : wpX_stepY post (nI 1) := br_f (by decide +kernel) (br_f (by decide +kernel) (br_t (by decide +kernel) h))
theorem dl_syX2 {post : Int32 → Prop} (h : post 1) : wpX_stepY post (nI 2) := br_f (by decide +kernel) (br_f (by decide +kernel) (br_f (by decide +kernel) (br_t (by decide +kernel) h)))
theorem dl_syX3 {post : Int32 → Prop} (h : post 1) : wpX_stepY post (nI 3) := br_f (by decide +kernel) (br_f (by decide +kernel) (br_f (by decide +kernel) (br_f (by decide +kernel) (br_t (by decide +kernel) h))))
theorem dl_syX4 {post : Int32 → Prop} (h : post 0) : wpX_stepY post (nI 4) := br_f (by decide +kernel) (br_f (by decide +kernel) (br_f (by decide +kernel) (br_f (by decide +kernel) (br_f (by decide +kernel) (br_t (by decide +kernel) h)))))
theorem dl_syX5 {post : Int32 → Prop} (h : post (-1)) : wpX_stepY post (nI 5) := br_f (by decide +kernel) (br_f (by decide +kernel) (br_f (by decide +kernel) (br_f (by decide +kernel) (br_f (by decide +kernel) (br_f (by decide +kernel) (br_t (by decide +kernel) h))))))
theorem dl_syX6 {post : Int32 → Prop} (h : post (-1)) : wpX_stepY post (nI 6) := br_f (by decide +kernel) (br_f (by decide +kernel) (br_f (by decide +kernel) (br_f (by decide +kernel) (br_f (by decide +kernel) (br_f (by decide +kernel) (br_f (by decide +kernel) (br_t (by decide +kernel) h)))))))
theorem dl_syX7 {post : Int32 → Prop} (h : post (-1)) : wpX_stepY post (nI 7) := br_f (by decide +kernel) (br_f (by decide +kernel) (br_f (by decide +kernel) (br_f (by decide +kernel) (br_f (by decide +kernel) (br_f (by decide +kernel) (br_f (by decide +kernel) (br_f (by decide +kernel) (br_t (by decide +kernel) h))))))))
theorem dl_sxv0 : dl_sx (nI 0) = 1 := by decide +kernel
theorem dl_sxv1 : dl_sx (nI 1) = 1 := by decide +kernel
theorem dl_sxv2 : dl_sx (nI 2) = 0 := by decide +kernel
theorem dl_sxv3 : dl_sx (nI 3) = (-1) := by decide +kernel
theorem dl_sxv4 : dl_sx (nI 4) = (-1) := by decide +kernel
theorem dl_sxv5 : dl_sx (nI 5) = (-1) := by decide +kernel
theorem dl_sxv6 : dl_sx (nI 6) = 0 := by decide +kernel
theorem dl_sxv7 : dl_sx (nI 7) = 1 := by decide +kernel
theorem dl_syv0 : dl_sy (nI 0) = 0 := by decide +kernel
theorem dl_syv1 : dl_sy (nI 1) = 1 := by decide +kernel
theorem dl_syv2 : dl_sy (nI 2) = 1 := by decide +kernel
theorem dl_syv3 : dl_sy (nI 3) = 1 := by decide +kernel
theorem dl_syv4 : dl_sy (nI 4) = 0 := by decide +kernel
theorem dl_syv5 : dl_sy (nI 5) = (-1) := by decide +kernel
theorem dl_syv6 : dl_sy (nI 6) = (-1) := by decide +kernel
theorem dl_syv7 : dl_sy (nI 7) = (-1) := by decide +kernel
theorem dl_c8 {Q : Nat → Prop} (h0 : Q 0) (h1 : Q 1) (h2 : Q 2) (h3 : Q 3) (h4 : Q 4) (h5 : Q 5) (h6 : Q 6) (h7 : Q 7) {a : Nat} (ha : a < 8) : Q a := by
  have e : a = 0 ∨ a = 1 ∨ a = 2 ∨ a = 3 ∨ a = 4 ∨ a = 5 ∨ a = 6 ∨ a = 7 := by omega
  rcases e with e | e | e | e | e | e | e | e <;> subst e <;> assumption
theorem dl_sxX {post : Int32 → Prop} {m : Int32} (hm : dl_ok1 m) (h : post (dl_sx m)) : wpX_stepX post m := by
  obtain ⟨a, ha, rfl⟩ := hm
  revert h
  exact dl_c8 (Q := fun a => post (dl_sx (nI a)) → wpX_stepX post (nI a)) (fun h => dl_sxX0 (dl_sxv0 ▸ h)) (fun h => dl_sxX1 (dl_sxv1 ▸ h)) (fun h => dl_sxX2 (dl_sxv2 ▸ h)) (fun h => dl_sxX3 (dl_sxv3 ▸ h)) (fun h => dl_sxX4 (dl_sxv4 ▸ h)) (fun h => dl_sxX5 (dl_sxv5 ▸ h)) (fun h => dl_sxX6 (dl_sxv6 ▸ h)) (fun h => dl_sxX7 (dl_sxv7 ▸ h)) ha
theorem dl_syX {post : Int32 → Prop} {m : Int32} (hm : dl_ok1 m) (h : post (dl_sy m)) : wpX_stepY post m := by
  obtain ⟨a, ha, rfl⟩ := hm
  revert h
  exact dl_c8 (Q := fun a => post (dl_sy (nI a)) → wpX_stepY post (nI a)) (fun h => dl_syX0 (dl_syv0 ▸ h)) (fun h => dl_syX1 (dl_syv1 ▸ h)) (fun h => dl_syX2 (dl_syv2 ▸ h)) (fun h => dl_syX3 (dl_syv3 ▸ h)) (fun h => dl_syX4 (dl_syv4 ▸ h)) (fun h => dl_syX5 (dl_syv5 ▸ h)) (fun h => dl_syX6 (dl_syv6 ▸ h)) (fun h => dl_syX7 (dl_syv7 ▸ h)) ha
theorem dl_sxY {post : Int32 → Prop} {u : SY} {m : Int32} (h : post (dl_sx m)) : wpY_stepX post u m := by
  obtain ⟨a, b, c, d, e, f⟩ := u
  unfold dl_sx at h
  refine ⟨fun z => by rw [if_pos z] at h; exact h, fun z => ?_⟩
  rw [if_neg z] at h
  refine ⟨fun z => by rw [if_pos z] at h; exact h, fun z => ?_⟩
  rw [if_neg z] at h
  refine ⟨fun z => by rw [if_pos z] at h; exact h, fun z => ?_⟩
  rw [if_neg z] at h
  refine ⟨fun z => by rw [if_pos z] at h; exact h, fun z => ?_⟩
  rw [if_neg z] at h
  refine ⟨fun z => by rw [if_pos z] at h; exact h, fun z => ?_⟩
  rw [if_neg z] at h
  exact h
theorem dl_syY14 {post : Int32 → Prop} {m f : Int32} {b c d e g : Nat → Int32} (h : post (if m < 5 then 0 else -1)) : wY_stepY_14 post m f b c d e g :=
  ⟨fun z => by rw [if_pos z] at h; exact h, fun z => by rw [if_neg z] at h; exact h⟩
theorem dl_syY {post : Int32 → Prop} {u : SY} {m : Int32} (h : post (dl_sy m)) : wpY_stepY post u m := by
  obtain ⟨a, b, c, d, e, f⟩ := u
  unfold dl_sy at h
  refine ⟨fun z => by rw [if_pos z] at h; exact dl_syY14 h, fun z => ?_⟩
  rw [if_neg z] at h
  refine ⟨fun z => by rw [if_pos z] at h; exact dl_syY14 h, fun z => ?_⟩
  rw [if_neg z] at h
  exact h
theorem dl_sd {m : Int32} (hm : dl_ok1 m) : ∃ dx dy : Int, dl_sx m = dl_i dx ∧ dl_sy m = dl_i dy ∧ -1 ≤ dx ∧ dx ≤ 1 ∧ -1 ≤ dy ∧ dy ≤ 1 ∧ (dx ≠ 0 ∨ dy ≠ 0) := by
  obtain ⟨a, ha, rfl⟩ := hm
  exact dl_c8 (Q := fun a => ∃ dx dy : Int, dl_sx (nI a) = dl_i dx ∧ dl_sy (nI a) = dl_i dy ∧ -1 ≤ dx ∧ dx ≤ 1 ∧ -1 ≤ dy ∧ dy ≤ 1 ∧ (dx ≠ 0 ∨ dy ≠ 0)) ⟨1, 0, by decide +kernel, by decide +kernel, by decide, by decide, by decide, by decide, by decide⟩ ⟨1, 1, by decide +kernel, by decide +kernel, by decide, by decide, by decide, by decide, by decide⟩ ⟨0, 1, by decide +kernel, by decide +kernel, by decide, by decide, by decide, by decide, by decide⟩ ⟨(-1), 1, by decide +kernel, by decide +kernel, by decide, by decide, by decide, by decide, by decide⟩ ⟨(-1), 0, by decide +kernel, by decide +kernel, by decide, by decide, by decide, by decide, by decide⟩ ⟨(-1), (-1), by decide +kernel, by decide +kernel, by decide, by decide, by decide, by decide, by decide⟩ ⟨0, (-1), by decide +kernel, by decide +kernel, by decide, by decide, by decide, by decide, by decide⟩ ⟨1, (-1), by decide +kernel, by decide +kernel, by decide, by decide, by decide, by decide, by decide⟩ ha
def dl_px (c : Nat → Int32) : Nat → Int32
  | 0 => 0
  | j + 1 => dl_px c j + dl_sx (c j)
def dl_py (c : Nat → Int32) : Nat → Int32
  | 0 => 0
  | j + 1 => dl_py c j + dl_sy (c j)
theorem dl_pxc {c d : Nat → Int32} : ∀ j, (∀ i, i < j → c i = d i) → dl_px c j = dl_px d j := by
  intro j
  induction j with
  | zero => intro _; rfl
  | succ j ih =>
    intro h
    show dl_px c j + dl_sx (c j) = dl_px d j + dl_sx (d j)
    rw [ih (fun i hi => h i (by omega)), h j (by omega)]
theorem dl_pyc {c d : Nat → Int32} : ∀ j, (∀ i, i < j → c i = d i) → dl_py c j = dl_py d j := by
  intro j
  induction j with
  | zero => intro _; rfl
  | succ j ih =>
    intro h
    show dl_py c j + dl_sy (c j) = dl_py d j + dl_sy (d j)
    rw [ih (fun i hi => h i (by omega)), h j (by omega)]
def dl_qx (c : Nat → Int32) (j : Nat) : Int := (dl_px c j).toInt
def dl_qy (c : Nat → Int32) (j : Nat) : Int := (dl_py c j).toInt
theorem dl_qxi (c : Nat → Int32) (j : Nat) : dl_px c j = dl_i (dl_qx c j) := (Int32.ofInt_toInt _).symm
theorem dl_qyi (c : Nat → Int32) (j : Nat) : dl_py c j = dl_i (dl_qy c j) := (Int32.ofInt_toInt _).symm
theorem dl_qs {c : Nat → Int32} (hc : dl_ok c) {j : Nat} (hx : -1000 ≤ dl_qx c j ∧ dl_qx c j ≤ 1000) (hy : -1000 ≤ dl_qy c j ∧ dl_qy c j ≤ 1000) :
    ∃ dx dy : Int, dl_qx c (j + 1) = dl_qx c j + dx ∧ dl_qy c (j + 1) = dl_qy c j + dy ∧ -1 ≤ dx ∧ dx ≤ 1 ∧ -1 ≤ dy ∧ dy ≤ 1 ∧ (dx ≠ 0 ∨ dy ≠ 0) := by
  obtain ⟨dx, dy, ex, ey, h1, h2, h3, h4, h5⟩ := dl_sd (hc j)
  refine ⟨dx, dy, ?_, ?_, h1, h2, h3, h4, h5⟩
  · have e : dl_px c (j + 1) = dl_i (dl_qx c j + dx) := by
      show dl_px c j + dl_sx (c j) = _
      rw [ex, dl_qxi, dl_add]
    show (dl_px c (j + 1)).toInt = _
    rw [e]
    exact dl_t (by omega) (by omega)
  · have e : dl_py c (j + 1) = dl_i (dl_qy c j + dy) := by
      show dl_py c j + dl_sy (c j) = _
      rw [ey, dl_qyi, dl_add]
    show (dl_py c (j + 1)).toInt = _
    rw [e]
    exact dl_t (by omega) (by omega)
theorem dl_qb {c : Nat → Int32} (hc : dl_ok c) : ∀ j : Nat, j ≤ 100 → (-(j : Int) ≤ dl_qx c j ∧ dl_qx c j ≤ j) ∧ (-(j : Int) ≤ dl_qy c j ∧ dl_qy c j ≤ j) := by
  intro j
  induction j with
  | zero =>
    intro _
    have e1 : dl_qx c 0 = 0 := (by decide : (0 : Int32).toInt = 0)
    have e2 : dl_qy c 0 = 0 := (by decide : (0 : Int32).toInt = 0)
    rw [e1, e2]
    omega
  | succ j ih =>
    intro hj
    have h := ih (by omega)
    obtain ⟨dx, dy, ex, ey, h1, h2, h3, h4, _⟩ := dl_qs hc (j := j) (by omega) (by omega)
    rw [ex, ey]
    omega
end
section
/-! bands: the component's side -/
theorem dl_ble0 {A B : Prop} {a : Int} (ha : -1000000 ≤ a ∧ a ≤ 1000000) (f : 0 ≤ a → A) (g : a < 0 → B) : ((0 : Int32) ≤ dl_i a → A) ∧ (¬ (0 : Int32) ≤ dl_i a → B) := by
  rw [← dl_i0]
  exact dl_ble (by omega) ha f g
theorem dl_blt24 {A B : Prop} {a : Int} (ha : -1000000 ≤ a ∧ a ≤ 1000000) (f : 24 < a → A) (g : a ≤ 24 → B) : ((24 : Int32) < dl_i a → A) ∧ (¬ (24 : Int32) < dl_i a → B) := by
  rw [← dl_i24]
  exact dl_blt (by omega) ha f g
/-- the values v at s .. e lie within a band of width w -/
def dl_in (v : Nat → Int) (w : Int) (s e : Nat) : Prop := ∀ i j, s ≤ i → i ≤ e → s ≤ j → j ≤ e → v i - v j < w
theorem dl_ext {v : Nat → Int} {s k : Nat} {lo hi lo' hi' : Int} (h : ∀ i, s ≤ i → i < k → lo ≤ v i ∧ v i ≤ hi) (h1 : lo' ≤ lo) (h2 : hi ≤ hi') (h3 : lo' ≤ v k) (h4 : v k ≤ hi') :
    ∀ i, s ≤ i → i < k + 1 → lo' ≤ v i ∧ v i ≤ hi' := by
  intro i i1 i2
  by_cases z : i = k
  · rw [z]
    exact ⟨h3, h4⟩
  · have := h i i1 (by omega)
    omega
theorem dl_fb70 {post : Int32 → Prop} {fl : Int32} {c ax ay : Nat → Int32} {x3 x4 : Int32} {v : Nat → Int} {w : Int} {s e : Nat}
    (he : e ≤ 24) (hse : s ≤ e) (hw : -1000 ≤ w ∧ w ≤ 1000)
    (hv : ∀ j, s ≤ j → j ≤ e → (x3 * ax j) - (x4 * ay j) = dl_i (v j))
    (hb : ∀ j, s ≤ j → j ≤ e → -10000 ≤ v j ∧ v j ≤ 10000)
    (h1 : dl_in v w s e → post 1) (h0 : ¬ dl_in v w s e → post 0) :
    ∀ (n k : Nat) (lo hi : Int), s ≤ k → k ≤ e + 1 → e + 1 - k < n →
      (∀ i, s ≤ i → i < k → lo ≤ v i ∧ v i ≤ hi) → (∃ i, s ≤ i ∧ i ≤ e ∧ lo = v i) → (∃ i, s ≤ i ∧ i ≤ e ∧ hi = v i) → (s < k → hi - lo < w) →
      wX_fitsBand_70 post (nI e) x3 x4 (dl_i w) fl c ax ay n (dl_i lo) (dl_i hi) (nI k) := by
  intro n
  induction n with
  | zero => intro k lo hi _ _ h; omega
  | succ n ih =>
    intro k lo hi hk hk1 hn hall hlo hhi hlt
    by_cases hke : k = e + 1
    · refine br_t (nI_lt (by omega) (by omega)) (h1 ?_)
      intro i j i1 i2 j1 j2
      have a := hall i i1 (by omega)
      have b := hall j j1 (by omega)
      have d := hlt (by omega)
      omega
    · refine br_f (nI_nlt (by omega) (by omega)) ⟨vp_in_nI (by omega) (by omega), vp_in_nI (by omega) (by omega), ?_⟩
      rw [nI_clamp (by omega)]
      refine nm_r (hv k hk (by omega)) ?_
      have hbk := hb k hk (by omega)
      have key : ∀ lo' hi' : Int, (∀ i, s ≤ i → i < k + 1 → lo' ≤ v i ∧ v i ≤ hi') → (∃ i, s ≤ i ∧ i ≤ e ∧ lo' = v i) → (∃ i, s ≤ i ∧ i ≤ e ∧ hi' = v i) →
          wX_fitsBand_128 post (wX_fitsBand_70 post (nI e) x3 x4 (dl_i w) fl c ax ay n) (nI e) x3 x4 (dl_i w) (dl_i lo') (nI k) (dl_i hi') fl c ax ay := by
        intro lo' hi' hall' hlo' hhi'
        obtain ⟨a, a1, a2, ea⟩ := hlo'
        obtain ⟨b, b1, b2, eb⟩ := hhi'
        have hba := hb a a1 a2
        have hbb := hb b b1 b2
        unfold wX_fitsBand_128
        rw [dl_sub]
        refine dl_blt (by omega) (by omega) (fun hd => ?_) (fun hd => h0 (fun hin => ?_))
        · refine nm_r (nI_1 k) ?_
          exact ih (k + 1) lo' hi' (by omega) (by omega) (by omega) hall' ⟨a, a1, a2, ea⟩ ⟨b, b1, b2, eb⟩ (fun _ => hd)
        · have := hin b a b1 b2 a1 a2
          omega
      obtain ⟨a, a1, a2, ea⟩ := hlo
      obtain ⟨b, b1, b2, eb⟩ := hhi
      have hba := hb a a1 a2
      have hbb := hb b b1 b2
      refine dl_ble (by omega) (by omega) (fun c1 => ?_) (fun c1 => ?_)
      · refine dl_ble (by omega) (by omega) (fun c2 => ?_) (fun c2 => ?_)
        · exact key lo hi (dl_ext hall (by omega) (by omega) (by omega) (by omega)) ⟨a, a1, a2, ea⟩ ⟨b, b1, b2, eb⟩
        · exact key lo (v k) (dl_ext hall (by omega) (by omega) (by omega) (by omega)) ⟨a, a1, a2, ea⟩ ⟨k, hk, by omega, rfl⟩
      · refine dl_ble (by omega) (by omega) (fun c2 => ?_) (fun c2 => ?_)
        · exact key (v k) hi (dl_ext hall (by omega) (by omega) (by omega) (by omega)) ⟨k, hk, by omega, rfl⟩ ⟨b, b1, b2, eb⟩
        · exact key (v k) (v k) (dl_ext hall (by omega) (by omega) (by omega) (by omega)) ⟨k, hk, by omega, rfl⟩ ⟨k, hk, by omega, rfl⟩
theorem dl_fb41 {post : Int32 → Prop} {fl : Int32} {c ax ay : Nat → Int32} {x3 x4 : Int32} {v : Nat → Int} {w : Int} {s e : Nat}
    (he : e ≤ 24) (hse : s ≤ e) (hw : -1000 ≤ w ∧ w ≤ 1000)
    (hv : ∀ j, s ≤ j → j ≤ e → (x3 * ax j) - (x4 * ay j) = dl_i (v j))
    (hb : ∀ j, s ≤ j → j ≤ e → -10000 ≤ v j ∧ v j ≤ 10000)
    (h1 : dl_in v w s e → post 1) (h0 : ¬ dl_in v w s e → post 0) :
    wX_fitsBand_41 post (nI s) (nI e) x3 x4 (dl_i w) fl c ax ay := by
  refine ⟨vp_in_nI (by omega) (by omega), vp_in_nI (by omega) (by omega), ?_⟩
  rw [nI_clamp (by omega)]
  refine nm_r (hv s (Nat.le_refl s) hse) ⟨e + 2, ?_⟩
  exact dl_fb70 he hse hw hv hb h1 h0 (e + 2) s (v s) (v s) (Nat.le_refl s) (by omega) (by omega) (fun i a b => by omega) ⟨s, Nat.le_refl s, hse, rfl⟩ ⟨s, Nat.le_refl s, hse, rfl⟩ (fun z => by omega)
def dl_ab (z : Int) : Int := if 0 ≤ z then z else -z
theorem dl_abb {z : Int} (h1 : -24 ≤ z) (h2 : z ≤ 24) : 0 ≤ dl_ab z ∧ dl_ab z ≤ 24 := by
  unfold dl_ab
  split <;> omega
/-- the greater of |p| and |q| -/
def dl_w (p q : Int) : Int := if dl_ab p ≤ dl_ab q then dl_ab q else dl_ab p
theorem dl_wb {p q : Int} (h1 : -24 ≤ p) (h2 : p ≤ 24) (h3 : -24 ≤ q) (h4 : q ≤ 24) : 0 ≤ dl_w p q ∧ dl_w p q ≤ 24 := by
  have a := dl_abb h1 h2
  have b := dl_abb h3 h4
  unfold dl_w
  split <;> omega
def dl_v (c : Nat → Int32) (p q : Int) (j : Nat) : Int := p * dl_qx c j - q * dl_qy c j
theorem dl_m24 {a b : Int} (h1 : -24 ≤ a) (h2 : a ≤ 24) (h3 : -24 ≤ b) (h4 : b ≤ 24) : -576 ≤ a * b ∧ a * b ≤ 576 := by
  have h := Int.natAbs_mul a b
  have h5 : a.natAbs * b.natAbs ≤ 24 * 24 := Nat.mul_le_mul (by omega) (by omega)
  generalize a * b = t at h
  generalize a.natAbs * b.natAbs = r at h h5
  omega
theorem dl_vb {c : Nat → Int32} (hc : dl_ok c) {p q : Int} (h1 : -24 ≤ p) (h2 : p ≤ 24) (h3 : -24 ≤ q) (h4 : q ≤ 24) {j : Nat} (hj : j ≤ 24) : -10000 ≤ dl_v c p q j ∧ dl_v c p q j ≤ 10000 := by
  obtain ⟨⟨a1, a2⟩, b1, b2⟩ := dl_qb hc j (by omega)
  have m1 := dl_m24 h1 h2 (b := dl_qx c j) (by omega) (by omega)
  have m2 := dl_m24 h3 h4 (b := dl_qy c j) (by omega) (by omega)
  unfold dl_v
  generalize p * dl_qx c j = t1 at m1
  generalize q * dl_qy c j = t2 at m2
  omega
def dl_pt (L : Nat) (c x y : Nat → Int32) : Prop := ∀ j, j ≤ L → x j = dl_px c j ∧ y j = dl_py c j
theorem dl_vi {L : Nat} {c x y : Nat → Int32} (h : dl_pt L c x y) (p q : Int) {j : Nat} (hj : j ≤ L) : dl_i p * x j - dl_i q * y j = dl_i (dl_v c p q j) := by
  rw [(h j hj).1, (h j hj).2, dl_qxi, dl_qyi, dl_mul, dl_mul, dl_sub]
  rfl
def dl_B (c : Nat → Int32) (s e : Nat) (p q : Int) : Prop := dl_in (dl_v c p q) (dl_w p q) s e
theorem dl_fb25 {post : Int32 → Prop} {fl x1 x2 x3 x4 : Int32} {c ax ay : Nat → Int32} {a b : Int} (ha : -1000 ≤ a ∧ a ≤ 1000) (hb : -1000 ≤ b ∧ b ≤ 1000)
    (h : wX_fitsBand_41 post x1 x2 x3 x4 (dl_i (if a ≤ b then b else a)) fl c ax ay) : wX_fitsBand_25 post x1 x2 x3 x4 (dl_i a) (dl_i b) fl c ax ay := by
  refine dl_ble (by omega) (by omega) (fun z => ?_) (fun z => ?_)
  · rw [if_pos z] at h
    exact h
  · rw [if_neg (by omega)] at h
    exact h
theorem dl_fb10 {post : Int32 → Prop} {fl x1 x2 x3 : Int32} {c ax ay : Nat → Int32} {a q : Int} (ha : -1000 ≤ a ∧ a ≤ 1000) (hq : -1000 ≤ q ∧ q ≤ 1000)
    (h : wX_fitsBand_41 post x1 x2 x3 (dl_i q) (dl_i (if a ≤ dl_ab q then dl_ab q else a)) fl c ax ay) : wX_fitsBand_10 post x1 x2 x3 (dl_i q) (dl_i a) fl c ax ay := by
  refine dl_ble0 (by omega) (fun z => ?_) (fun z => ?_)
  · have e : dl_ab q = q := if_pos z
    rw [e] at h
    exact dl_fb25 ha hq h
  · have e : dl_ab q = -q := if_neg (by omega)
    rw [e] at h
    rw [dl_neg]
    exact dl_fb25 ha (by omega) h
theorem dl_fbX {post : Int32 → Prop} {fl : Int32} {L : Nat} {c ax ay : Nat → Int32} {p q : Int} {s e : Nat} (hc : dl_ok c) (hp : dl_pt L c ax ay)
    (he : e ≤ 24) (hL : e ≤ L) (hse : s ≤ e) (p1 : -24 ≤ p) (p2 : p ≤ 24) (q1 : -24 ≤ q) (q2 : q ≤ 24)
    (h1 : dl_B c s e p q → post 1) (h0 : ¬ dl_B c s e p q → post 0) :
    wpX_fitsBand post (fl, c, ax, ay) (nI s) (nI e) (dl_i p) (dl_i q) := by
  have hw := dl_wb p1 p2 q1 q2
  have h41 : wX_fitsBand_41 post (nI s) (nI e) (dl_i p) (dl_i q) (dl_i (dl_w p q)) fl c ax ay :=
    dl_fb41 (v := dl_v c p q) he hse (by omega) (fun j _ h => dl_vi hp p q (by omega)) (fun j _ h => dl_vb hc p1 p2 q1 q2 (by omega)) h1 h0
  unfold dl_w at h41
  refine dl_ble0 (by omega) (fun z => ?_) (fun z => ?_)
  · have e : dl_ab p = p := if_pos z
    rw [e] at h41
    exact dl_fb10 (by omega) (by omega) h41
  · have e : dl_ab p = -p := if_neg (by omega)
    rw [e] at h41
    rw [dl_neg]
    exact dl_fb10 (by omega) (by omega) h41
def dl_SB (c : Nat → Int32) (s e : Nat) : Prop := ∃ p q : Int, 0 ≤ p ∧ p ≤ 24 ∧ -24 ≤ q ∧ q ≤ 24 ∧ dl_B c s e p q
theorem dl_sb12 {post J : Int32 → Prop} {fl : Int32} {L : Nat} {c ax ay : Nat → Int32} {p : Int} {s e : Nat} (hc : dl_ok c) (hp : dl_pt L c ax ay)
    (he : e ≤ 24) (hL : e ≤ L) (hse : s ≤ e) (p1 : 0 ≤ p) (p2 : p ≤ 24)
    (hy : dl_SB c s e → post 1) (hj : (∀ q : Int, -24 ≤ q → q ≤ 24 → ¬ dl_B c s e p q) → J (dl_i (p + 1))) :
    ∀ (n : Nat) (q : Int), -24 ≤ q → q ≤ 25 → (25 - q).toNat < n → (∀ q' : Int, -24 ≤ q' → q' < q → ¬ dl_B c s e p q') →
      wX_fitsSomeBand_12 post J (nI s) (nI e) (dl_i p) fl c ax ay n (dl_i q) := by
  intro n
  induction n with
  | zero => intro q _ _ h; omega
  | succ n ih =>
    intro q q1 q2 hn hq
    refine dl_blt24 (by omega) (fun z => ?_) (fun z => ?_)
    · exact nm_r (dl_a1 p) (hj (fun q' a b => hq q' a (by omega)))
    · refine dl_fbX hc hp he hL hse (by omega) (by omega) q1 (by omega) (fun hB => ?_) (fun hB => ?_)
      · exact br_f (by decide) (hy ⟨p, q, p1, p2, q1, by omega, hB⟩)
      · refine br_t rfl (nm_r (dl_a1 q) (ih (q + 1) (by omega) (by omega) (by omega) (fun q' a b => ?_)))
        by_cases w : q' = q
        · rw [w]
          exact hB
        · exact hq q' a (by omega)
theorem dl_sb2 {post : Int32 → Prop} {fl : Int32} {L : Nat} {c ax ay : Nat → Int32} {s e : Nat} (hc : dl_ok c) (hp : dl_pt L c ax ay)
    (he : e ≤ 24) (hL : e ≤ L) (hse : s ≤ e) (hy : dl_SB c s e → post 1) (hn0 : ¬ dl_SB c s e → post 0) :
    ∀ (n : Nat) (p : Int), 0 ≤ p → p ≤ 25 → (25 - p).toNat < n → (∀ p' q' : Int, 0 ≤ p' → p' < p → -24 ≤ q' → q' ≤ 24 → ¬ dl_B c s e p' q') →
      wX_fitsSomeBand_2 post (nI s) (nI e) fl c ax ay n (dl_i p) := by
  intro n
  induction n with
  | zero => intro p _ _ h; omega
  | succ n ih =>
    intro p p1 p2 hn hq
    refine dl_blt24 (by omega) (fun z => ?_) (fun z => ?_)
    · refine hn0 (fun hS => ?_)
      obtain ⟨p', q', a, b, c1, d, hB⟩ := hS
      exact hq p' q' a (by omega) c1 d hB
    · have h12 := dl_sb12 (J := wX_fitsSomeBand_2 post (nI s) (nI e) fl c ax ay n) (fl := fl) hc hp he hL hse p1 z hy (fun hno => ih (p + 1) (by omega) (by omega) (by omega) (fun p' q' a b c1 d => by
        by_cases w : p' = p
        · rw [w]
          exact hno q' c1 d
        · exact hq p' q' a (by omega) c1 d)) 60 (-24) (by omega) (by omega) (by omega) (fun q' a b => by omega)
      rw [dl_im24] at h12
      exact ⟨60, h12⟩
theorem dl_sbX {post : Int32 → Prop} {fl : Int32} {L : Nat} {c ax ay : Nat → Int32} {s e : Nat} (hc : dl_ok c) (hp : dl_pt L c ax ay)
    (he : e ≤ 24) (hL : e ≤ L) (hse : s ≤ e) (hy : dl_SB c s e → post 1) (hn0 : ¬ dl_SB c s e → post 0) :
    wpX_fitsSomeBand post (fl, c, ax, ay) (nI s) (nI e) := by
  have h := dl_sb2 (fl := fl) hc hp he hL hse hy hn0 30 0 (by omega) (by omega) (by omega) (fun p' q' a b => by omega)
  rw [dl_i0] at h
  exact ⟨30, h⟩
end
section
/-! bands: the reference's side -/
theorem dl_wi27 {post : Int32 → Prop} {fm : Int32} {c cp ax ay ls : Nat → Int32} {x3 x4 : Int32} {v : Nat → Int} {w : Int} {s e : Nat}
    (he : e ≤ 24) (hse : s ≤ e) (hw : -1000 ≤ w ∧ w ≤ 1000)
    (hv : ∀ j, s ≤ j → j ≤ e → (x3 * ax j) - (x4 * ay j) = dl_i (v j))
    (hb : ∀ j, s ≤ j → j ≤ e → -10000 ≤ v j ∧ v j ≤ 10000)
    (h1 : dl_in v w s e → post 1) (h0 : ¬ dl_in v w s e → post 0) :
    ∀ (n k : Nat) (lo hi : Int), s ≤ k → k ≤ e + 1 → e + 1 - k < n →
      (∀ i, s ≤ i → i < k → lo ≤ v i ∧ v i ≤ hi) → (∃ i, s ≤ i ∧ i ≤ e ∧ lo = v i) → (∃ i, s ≤ i ∧ i ≤ e ∧ hi = v i) →
      wY_within_27 post (nI e) x3 x4 (dl_i w) fm c cp ax ay ls n (dl_i lo) (dl_i hi) (nI k) := by
  intro n
  induction n with
  | zero => intro k lo hi _ _ h; omega
  | succ n ih =>
    intro k lo hi hk hk1 hn hall hlo hhi
    obtain ⟨a, a1, a2, ea⟩ := hlo
    obtain ⟨b, b1, b2, eb⟩ := hhi
    have hba := hb a a1 a2
    have hbb := hb b b1 b2
    by_cases hke : k = e + 1
    · refine br_t (nI_lt (by omega) (by omega)) ?_
      unfold wY_within_90
      rw [← dl_i1, dl_sub, dl_sub]
      refine dl_blt (by omega) (by omega) (fun z => h0 (fun hin => ?_)) (fun z => ?_)
      · have := hin b a b1 b2 a1 a2
        omega
      · rw [dl_i1]
        refine h1 (fun i j i1 i2 j1 j2 => ?_)
        have a := hall i i1 (by omega)
        have b := hall j j1 (by omega)
        omega
    · refine br_f (nI_nlt (by omega) (by omega)) (br_f (nI_ge (b := 25) (by omega) (by decide)) ⟨vp_in_nI (by omega) (by omega), vp_in_nI (by omega) (by omega), ?_⟩)
      rw [nI_clamp (by omega)]
      refine nm_r (hv k hk (by omega)) ?_
      have hbk := hb k hk (by omega)
      refine dl_ble (by omega) (by omega) (fun c1 => ?_) (fun c1 => ?_)
      · refine dl_ble (by omega) (by omega) (fun c2 => ?_) (fun c2 => ?_)
        · exact nm_r (nI_1 k) (ih (k + 1) lo hi (by omega) (by omega) (by omega) (dl_ext hall (by omega) (by omega) (by omega) (by omega)) ⟨a, a1, a2, ea⟩ ⟨b, b1, b2, eb⟩)
        · exact nm_r (nI_1 k) (ih (k + 1) lo (v k) (by omega) (by omega) (by omega) (dl_ext hall (by omega) (by omega) (by omega) (by omega)) ⟨a, a1, a2, ea⟩ ⟨k, hk, by omega, rfl⟩)
      · refine dl_ble (by omega) (by omega) (fun c2 => ?_) (fun c2 => ?_)
        · exact nm_r (nI_1 k) (ih (k + 1) (v k) hi (by omega) (by omega) (by omega) (dl_ext hall (by omega) (by omega) (by omega) (by omega)) ⟨k, hk, by omega, rfl⟩ ⟨b, b1, b2, eb⟩)
        · exact nm_r (nI_1 k) (ih (k + 1) (v k) (v k) (by omega) (by omega) (by omega) (dl_ext hall (by omega) (by omega) (by omega) (by omega)) ⟨k, hk, by omega, rfl⟩ ⟨k, hk, by omega, rfl⟩)
theorem dl_wiY {post : Int32 → Prop} {fm : Int32} {L : Nat} {c cp ax ay ls : Nat → Int32} {p q w : Int} {s e : Nat} (hc : dl_ok c) (hp : dl_pt L c ax ay)
    (he : e ≤ 24) (hL : e ≤ L) (hse : s ≤ e) (p1 : -24 ≤ p) (p2 : p ≤ 24) (q1 : -24 ≤ q) (q2 : q ≤ 24) (hw : -1000 ≤ w ∧ w ≤ 1000)
    (h1 : dl_in (dl_v c p q) w s e → post 1) (h0 : ¬ dl_in (dl_v c p q) w s e → post 0) :
    wpY_within post (fm, c, cp, ax, ay, ls) (nI s) (nI e) (dl_i p) (dl_i q) (dl_i w) := by
  refine ⟨vp_in_nI (by omega) (by omega), vp_in_nI (by omega) (by omega), ?_⟩
  rw [nI_clamp (by omega)]
  refine nm_r (dl_vi hp p q (by omega)) ⟨e + 2, ?_⟩
  exact dl_wi27 (v := dl_v c p q) he hse hw (fun j _ h => dl_vi hp p q (by omega)) (fun j _ h => dl_vb hc p1 p2 q1 q2 (by omega)) h1 h0 (e + 2) s _ _ (Nat.le_refl s) (by omega) (by omega) (fun i a b => by omega) ⟨s, Nat.le_refl s, hse, rfl⟩ ⟨s, Nat.le_refl s, hse, rfl⟩
def dl_FY (c : Nat → Int32) (s e : Nat) (N k : Int) : Prop := dl_in (dl_v c N k) N s e ∨ dl_in (dl_v c k N) N s e
theorem dl_fi4 {post : Int32 → Prop} {fm : Int32} {L : Nat} {c cp ax ay ls : Nat → Int32} {N : Int} {s e : Nat} (hc : dl_ok c) (hp : dl_pt L c ax ay)
    (he : e ≤ 24) (hL : e ≤ L) (hse : s ≤ e) (n1 : 1 ≤ N) (n2 : N ≤ 24)
    (hy : (∃ k : Int, -N ≤ k ∧ k ≤ N ∧ dl_FY c s e N k) → post 1) (hno : (∀ k : Int, -N ≤ k → k ≤ N → ¬ dl_FY c s e N k) → post 0) :
    ∀ (n : Nat) (k : Int), -N ≤ k → k ≤ N + 1 → (N + 1 - k).toNat < n → (∀ k' : Int, -N ≤ k' → k' < k → ¬ dl_FY c s e N k') →
      wY_fits_4 post (nI s) (nI e) (dl_i N) fm c cp ax ay ls n (dl_i k) := by
  intro n
  induction n with
  | zero => intro k _ _ h; omega
  | succ n ih =>
    intro k k1 k2 hn hq
    refine dl_blt (by omega) (by omega) (fun z => hno (fun k' a b => hq k' a (by omega))) (fun z => ?_)
    refine dl_wiY hc hp he hL hse (by omega) (by omega) (by omega) (by omega) (by omega) (fun hB => ?_) (fun hB => ?_)
    · exact br_f (by decide) (hy ⟨k, k1, z, Or.inl hB⟩)
    · refine br_t rfl ?_
      refine dl_wiY hc hp he hL hse (by omega) (by omega) (by omega) (by omega) (by omega) (fun hC => ?_) (fun hC => ?_)
      · exact br_f (by decide) (hy ⟨k, k1, z, Or.inr hC⟩)
      · refine br_t rfl (nm_r (dl_a1 k) (ih (k + 1) (by omega) (by omega) (by omega) (fun k' a b => ?_)))
        by_cases w : k' = k
        · rw [w]
          exact fun hF => hF.elim hB hC
        · exact hq k' a (by omega)
theorem dl_fiY {post : Int32 → Prop} {fm : Int32} {L : Nat} {c cp ax ay ls : Nat → Int32} {N : Int} {s e : Nat} (hc : dl_ok c) (hp : dl_pt L c ax ay)
    (he : e ≤ 24) (hL : e ≤ L) (hse : s ≤ e) (n1 : 1 ≤ N) (n2 : N ≤ 24)
    (hy : (∃ k : Int, -N ≤ k ∧ k ≤ N ∧ dl_FY c s e N k) → post 1) (hno : (∀ k : Int, -N ≤ k → k ≤ N → ¬ dl_FY c s e N k) → post 0) :
    wpY_fits post (fm, c, cp, ax, ay, ls) (nI s) (nI e) (dl_i N) :=
  nm_r (dl_neg N) ⟨60, dl_fi4 hc hp he hL hse n1 n2 hy hno 60 (-N) (by omega) (by omega) (by omega) (fun k' a b => by omega)⟩
def dl_SY (c : Nat → Int32) (s e : Nat) : Prop := ∃ N k : Int, 1 ≤ N ∧ N ≤ 24 ∧ -N ≤ k ∧ k ≤ N ∧ dl_FY c s e N k
theorem dl_st17 {post : Int32 → SY → Prop} {fm : Int32} {L : Nat} {c cp ax ay ls : Nat → Int32} {s e : Nat} (hc : dl_ok c) (hp : dl_pt L c ax ay)
    (he : e ≤ 24) (hL : e ≤ L) (hse : s ≤ e) (hy : dl_SY c s e → post 1 (fm, c, cp, ax, ay, ls)) (hno : ¬ dl_SY c s e → post 0 (fm, c, cp, ax, ay, ls)) :
    ∀ (n : Nat) (N : Int), 1 ≤ N → N ≤ 25 → (25 - N).toNat < n → (∀ N' k' : Int, 1 ≤ N' → N' < N → -N' ≤ k' → k' ≤ N' → ¬ dl_FY c s e N' k') →
      wY_isStraight_17 post (nI s) (nI e) fm c cp ax ay ls n (dl_i N) := by
  intro n
  induction n with
  | zero => intro k _ _ h; omega
  | succ n ih =>
    intro N n1 n2 hn hq
    refine dl_blt24 (by omega) (fun z => hno (fun hS => ?_)) (fun z => ?_)
    · obtain ⟨N', k', a, b, c1, d, hB⟩ := hS
      exact hq N' k' a (by omega) c1 d hB
    · refine dl_fiY hc hp he hL hse n1 z (fun hB => ?_) (fun hB => ?_)
      · obtain ⟨k, a, b, hF⟩ := hB
        exact br_f (by decide) (hy ⟨N, k, n1, z, a, b, hF⟩)
      · refine br_t rfl (nm_r (dl_a1 N) (ih (N + 1) (by omega) (by omega) (by omega) (fun N' k' a b c1 d => ?_)))
        by_cases w : N' = N
        · subst w
          exact hB k' c1 d
        · exact hq N' k' a (by omega) c1 d
/-! the two families of bands hold the same pieces -/
theorem dl_vn (c : Nat → Int32) (p q : Int) (j : Nat) : dl_v c (-p) (-q) j = - dl_v c p q j := by
  unfold dl_v
  rw [Int.neg_mul, Int.neg_mul]
  omega
theorem dl_inn {c : Nat → Int32} {p q w : Int} {s e : Nat} (h : dl_in (dl_v c p q) w s e) : dl_in (dl_v c (-p) (-q)) w s e := by
  intro i j i1 i2 j1 j2
  rw [dl_vn, dl_vn]
  have := h j i j1 j2 i1 i2
  omega
theorem dl_SX_SY {c : Nat → Int32} {s e : Nat} (hse : s ≤ e) : dl_SB c s e ↔ dl_SY c s e := by
  constructor
  · rintro ⟨p, q, p1, p2, q1, q2, hB⟩
    have h0 := hB s s (Nat.le_refl s) hse (Nat.le_refl s) hse
    have hw := dl_wb (p := p) (q := q) (by omega) p2 q1 q2
    unfold dl_B at hB
    have ep : dl_ab p = p := if_pos p1
    by_cases hpq : dl_ab p ≤ dl_ab q
    · have ew : dl_w p q = dl_ab q := if_pos hpq
      by_cases hq : 0 ≤ q
      · have eq : dl_ab q = q := if_pos hq
        rw [ew, eq] at hB h0
        exact ⟨q, p, by omega, by omega, by omega, by omega, Or.inr hB⟩
      · have eq : dl_ab q = -q := if_neg hq
        rw [ew, eq] at hB h0
        exact ⟨-q, -p, by omega, by omega, by omega, by omega, Or.inr (dl_inn hB)⟩
    · have ew : dl_w p q = dl_ab p := if_neg hpq
      rw [ew, ep] at hB h0
      have hq : -p ≤ q ∧ q ≤ p := by
        unfold dl_ab at hpq
        split at hpq <;> split at hpq <;> omega
      exact ⟨p, q, by omega, by omega, by omega, by omega, Or.inl hB⟩
  · rintro ⟨N, k, n1, n2, k1, k2, hB | hB⟩
    · refine ⟨N, k, by omega, by omega, by omega, by omega, ?_⟩
      have ew : dl_w N k = N := by
        unfold dl_w dl_ab
        repeat' split
        all_goals omega
      unfold dl_B
      rw [ew]
      exact hB
    · by_cases hk : 0 ≤ k
      · refine ⟨k, N, by omega, by omega, by omega, by omega, ?_⟩
        have ew : dl_w k N = N := by
          unfold dl_w dl_ab
          repeat' split
          all_goals omega
        unfold dl_B
        rw [ew]
        exact hB
      · refine ⟨-k, -N, by omega, by omega, by omega, by omega, ?_⟩
        have ew : dl_w (-k) (-N) = N := by
          unfold dl_w dl_ab
          repeat' split
          all_goals omega
        unfold dl_B
        rw [ew]
        exact dl_inn hB
end
section
/-! the moves of a piece: of one kind, or of two neighbouring ones -/
theorem dl_al {Q : Nat → Prop} {s k : Nat} (h : ∀ i, s ≤ i → i < k → Q i) (hk : Q k) : ∀ i, s ≤ i → i < k + 1 → Q i := by
  intro i i1 i2
  by_cases z : i = k
  · rw [z]
    exact hk
  · exact h i i1 (by omega)
def dl_K (c : Nat → Int32) (u s e : Nat) : Prop := ∀ k, s ≤ k → k < e → (c k = nI u ∨ c k = nI ((u + 1) % 8))
def dl_TK (c : Nat → Int32) (s e : Nat) : Prop := ∃ u, u < 8 ∧ dl_K c u s e
theorem dl_tk63 {post J : Int32 → Prop} {x1 x2 fm b : Int32} {c cp ax ay ls : Nat → Int32} {u s e : Nat} (hb : (b = 1 ∧ dl_K c u s e) ∨ (b = 0 ∧ ¬ dl_K c u s e))
    (hy : dl_K c u s e → post 1) (hj : ¬ dl_K c u s e → J (nI (u + 1))) : wY_twoKinds_63 post J x1 x2 (nI u) b fm c cp ax ay ls := by
  rcases hb with ⟨rfl, h⟩ | ⟨rfl, h⟩
  · exact br_f (by decide) (hy h)
  · exact br_t rfl (nm_r (nI_1 u) (hj h))
theorem dl_rem8 {u : Nat} (hu : u < 8) : (nI u + 1) - (nI u + 1) / 8 * 8 = nI ((u + 1) % 8) := by
  rw [nI_1, ← dl_n8]
  exact pk_rem (by omega) (by omega) (by omega)
theorem dl_tk14 {post J : Int32 → Prop} {fm : Int32} {c cp ax ay ls : Nat → Int32} {u s e : Nat} (he : e ≤ 24) (hu : u < 8)
    (hy : dl_K c u s e → post 1) (hj : ¬ dl_K c u s e → J (nI (u + 1))) :
    ∀ (n k : Nat) (b : Int32), s ≤ k → k ≤ e → e - k < n → ((b = 1 ∧ dl_K c u s k) ∨ (b = 0 ∧ ¬ dl_K c u s e)) →
      wY_twoKinds_14 post J (nI s) (nI e) (nI u) fm c cp ax ay ls n b (nI k) := by
  intro n
  induction n with
  | zero => intro k b _ _ h; omega
  | succ n ih =>
    intro k b hk hke hn hb
    by_cases hk' : k = e
    · subst hk'
      exact br_t (nI_le (Nat.le_refl k) (by omega)) (dl_tk63 hb hy hj)
    · refine br_f (nI_ge (by omega) (by omega)) (br_f (nI_ge (b := 24) (by omega) (by decide)) ⟨vp_in_nI (by omega) (by omega), ?_⟩)
      rw [nI_clamp (by omega), dl_rem8 hu]
      have hs : (c k = nI u ∨ c k = nI ((u + 1) % 8)) → ((b = 1 ∧ dl_K c u s (k + 1)) ∨ (b = 0 ∧ ¬ dl_K c u s e)) := fun z => hb.elim (fun h => Or.inl ⟨h.1, dl_al h.2 z⟩) Or.inr
      refine br_c (fun z => ?_) (fun z => ⟨vp_in_nI (by omega) (by omega), by decide, br_c (fun z2 => ?_) (fun z2 => ?_)⟩)
      · exact nm_r (nI_1 k) (ih (k + 1) b (by omega) (by omega) (by omega) (hs (Or.inl z)))
      · exact nm_r (nI_1 k) (ih (k + 1) b (by omega) (by omega) (by omega) (hs (Or.inr z2)))
      · exact nm_r (nI_1 k) (ih (k + 1) 0 (by omega) (by omega) (by omega) (Or.inr ⟨rfl, fun hK => (hK k hk (by omega)).elim z z2⟩))
theorem dl_tk2 {post : Int32 → Prop} {fm : Int32} {c cp ax ay ls : Nat → Int32} {s e : Nat} (he : e ≤ 24) (hse : s ≤ e)
    (hy : dl_TK c s e → post 1) (hno : ¬ dl_TK c s e → post 0) :
    ∀ (n u : Nat), u ≤ 8 → 8 - u < n → (∀ u', u' < u → ¬ dl_K c u' s e) → wY_twoKinds_2 post (nI s) (nI e) fm c cp ax ay ls n (nI u) := by
  intro n
  induction n with
  | zero => intro u _ h; omega
  | succ n ih =>
    intro u hu hn hq
    by_cases h8 : u = 8
    · refine br_t (nI_le (a := 8) (by omega) (by omega)) (hno (fun hT => ?_))
      obtain ⟨u', a, b⟩ := hT
      exact hq u' (by omega) b
    · refine br_f (nI_ge (b := 8) (by omega) (by decide)) ⟨30, dl_tk14 he (by omega) (fun hK => hy ⟨u, by omega, hK⟩) (fun hK => ?_) 30 s 1 (Nat.le_refl s) hse (by omega) (Or.inl ⟨rfl, fun k a b => by omega⟩)⟩
      refine ih (u + 1) (by omega) (by omega) (fun u' a => ?_)
      by_cases z : u' = u
      · rw [z]
        exact hK
      · exact hq u' (by omega)
theorem dl_tkY {post : Int32 → Prop} {fm : Int32} {c cp ax ay ls : Nat → Int32} {s e : Nat} (he : e ≤ 24) (hse : s ≤ e)
    (hy : dl_TK c s e → post 1) (hno : ¬ dl_TK c s e → post 0) : wpY_twoKinds post (fm, c, cp, ax, ay, ls) (nI s) (nI e) :=
  ⟨10, dl_tk2 he hse hy hno 10 0 (by omega) (by omega) (fun u' a => by omega)⟩
/-! the component's way to ask it -/
theorem dl_tab : ∀ a, a < 8 → ∀ b, b < 8 → (nI a - nI b) &&& 7 = nI ((a + 8 - b) % 8) := by decide +kernel
def dl_tg (g : Nat → Nat) (s k : Nat) : Nat := (g k + 8 - g s) % 8
def dl_F (t : Nat → Nat) (v s e k : Nat) (l : Int32) : Prop := (l = 0 ∧ ∀ i, s ≤ i → i < k → t i ≠ v) ∨ (l = 1 ∧ ∃ i, s ≤ i ∧ i < e ∧ t i = v)
theorem dl_Fs {t : Nat → Nat} {v s e k : Nat} {l : Int32} (h : dl_F t v s e k l) (hk : t k ≠ v) : dl_F t v s e (k + 1) l :=
  h.elim (fun a => Or.inl ⟨a.1, dl_al a.2 hk⟩) Or.inr
theorem dl_hn8 {post : Int32 → Prop} {fl : Int32} {c ax ay : Nat → Int32} {g : Nat → Nat} {s e : Nat} (hg : ∀ j, g j < 8 ∧ c j = nI (g j)) (he : e ≤ 24)
    (hy : dl_TK c s e → post 1) (hno : ¬ dl_TK c s e → post 0) :
    ∀ (n k : Nat) (l r : Int32), s ≤ k → k ≤ e → e - k < n → dl_F (dl_tg g s) 1 s e k l → dl_F (dl_tg g s) 7 s e k r →
      (∀ i, s ≤ i → i < k → dl_tg g s i = 0 ∨ dl_tg g s i = 1 ∨ dl_tg g s i = 7) →
      wX_hasNeighbouringMoves_8 post (nI s) (nI e) fl c ax ay n l r (nI k) := by
  have hcg : ∀ k u, u < 8 → (c k = nI u ↔ g k = u) := by
    intro k u hu
    have := (hg k).1
    rw [(hg k).2]
    exact nI_eq (by omega) (by omega)
  have hgs := (hg s).1
  intro n
  induction n with
  | zero => intro k l r _ _ h; omega
  | succ n ih =>
    intro k l r hk hke hn hl hr hall
    by_cases hk' : k = e
    · subst hk'
      refine br_t (nI_le (Nat.le_refl k) (by omega)) ?_
      rcases hl with ⟨rfl, hl⟩ | ⟨rfl, i1, a1, b1, e1⟩
      · refine br_t rfl (hy ⟨(g s + 7) % 8, by omega, fun i a b => ?_⟩)
        rw [hcg i _ (by omega), hcg i _ (by omega)]
        have h1 := hl i a b
        have h2 := hall i a b
        have h3 := (hg i).1
        unfold dl_tg at h1 h2
        omega
      · refine br_f (by decide) ?_
        rcases hr with ⟨rfl, hr⟩ | ⟨rfl, i2, a2, b2, e2⟩
        · refine br_t rfl (hy ⟨g s, hgs, fun i a b => ?_⟩)
          rw [hcg i _ (by omega), hcg i _ (by omega)]
          have h1 := hr i a b
          have h2 := hall i a b
          have h3 := (hg i).1
          unfold dl_tg at h1 h2
          omega
        · refine br_f (by decide) (hno (fun hT => ?_))
          obtain ⟨u, hu, hK⟩ := hT
          have k1 := hK i1 a1 b1
          have k2 := hK i2 a2 b2
          have k3 := hK s (Nat.le_refl s) (by omega)
          rw [hcg _ _ (by omega), hcg _ _ (by omega)] at k1 k2 k3
          have g1 := (hg i1).1
          have g2 := (hg i2).1
          unfold dl_tg at e1 e2
          omega
    · refine br_f (nI_ge (by omega) (by omega)) ⟨vp_in_nI (by omega) (by omega), vp_in_nI (by omega) (by omega), ?_⟩
      rw [nI_clamp (n := k) (by omega), nI_clamp (n := s) (by omega)]
      have hgk := (hg k).1
      have et : (c k - c s) &&& 7 = nI (dl_tg g s k) := by
        rw [(hg k).2, (hg s).2]
        exact dl_tab _ hgk _ hgs
      have ht : dl_tg g s k < 8 := Nat.mod_lt _ (by decide)
      refine nm_r et ?_
      refine pk_eq (dl_tg g s k) 1 (fun z => ?_) (fun z => pk_eq (dl_tg g s k) 7 (fun z2 => ?_) (fun z2 => pk_eq (dl_tg g s k) 0 (fun z3 => ?_) (fun z3 => ?_)))
      · exact nm_r (nI_1 k) (ih (k + 1) 1 r (by omega) (by omega) (by omega) (Or.inr ⟨rfl, k, hk, by omega, z⟩) (dl_Fs hr (by omega)) (dl_al hall (by omega)))
      · exact nm_r (nI_1 k) (ih (k + 1) l 1 (by omega) (by omega) (by omega) (dl_Fs hl (by omega)) (Or.inr ⟨rfl, k, hk, by omega, z2⟩) (dl_al hall (by omega)))
      · exact nm_r (nI_1 k) (ih (k + 1) l r (by omega) (by omega) (by omega) (dl_Fs hl (by omega)) (dl_Fs hr (by omega)) (dl_al hall (by omega)))
      · refine hno (fun hT => ?_)
        obtain ⟨u, hu, hK⟩ := hT
        have k1 := hK k hk (by omega)
        have k3 := hK s (Nat.le_refl s) (by omega)
        rw [hcg _ _ (by omega), hcg _ _ (by omega)] at k1 k3
        unfold dl_tg at z z2 z3
        omega
theorem dl_hnX {post : Int32 → Prop} {fl : Int32} {c ax ay : Nat → Int32} {s e : Nat} (hc : dl_ok c) (he : e ≤ 24) (hse : s ≤ e)
    (hy : dl_TK c s e → post 1) (hno : ¬ dl_TK c s e → post 0) : wpX_hasNeighbouringMoves post (fl, c, ax, ay) (nI s) (nI e) := by
  obtain ⟨g, hg⟩ : ∃ g : Nat → Nat, ∀ j, g j < 8 ∧ c j = nI (g j) := ⟨fun j => (hc j).choose, fun j => (hc j).choose_spec⟩
  exact ⟨30, dl_hn8 hg he hy hno 30 s 0 0 (Nat.le_refl s) hse (by omega) (Or.inl ⟨rfl, fun i a b => by omega⟩) (Or.inl ⟨rfl, fun i a b => by omega⟩) (fun i a b => by omega)⟩
/-! the reference's walk -/
theorem dl_ptU {k : Nat} {c xs ys : Nat → Int32} (h : dl_pt k c xs ys) : dl_pt (k + 1) c (upd xs (k + 1) (xs k + dl_sx (c k))) (upd ys (k + 1) (ys k + dl_sy (c k))) := by
  intro j hj
  by_cases z : j = k + 1
  · subst z
    rw [pk_us, pk_us, (h k (Nat.le_refl k)).1, (h k (Nat.le_refl k)).2]
    exact ⟨rfl, rfl⟩
  · rw [pk_un z, pk_un z]
    exact h j (by omega)
theorem dl_wk16 {post : SY → Prop} {L : Nat} {c cp ls : Nat → Int32} (hL : L ≤ 24) (hpost : ∀ xs' ys', dl_pt L c xs' ys' → post (nI L, c, cp, xs', ys', ls)) :
    ∀ (n k : Nat) (xs ys : Nat → Int32), k ≤ L → L - k < n → dl_pt k c xs ys → wY_walk_16 post (nI L) n (nI k) c cp xs ys ls := by
  intro n
  induction n with
  | zero => intro k xs ys _ h; omega
  | succ n ih =>
    intro k xs ys hk hn hp
    by_cases hk' : k = L
    · subst hk'
      exact br_t (nI_le (Nat.le_refl k) (by omega)) (hpost xs ys hp)
    · refine br_f (nI_ge (by omega) (by omega)) (br_f (nI_ge (b := 24) (by omega) (by decide)) ⟨vp_in_nI (by omega) (by omega), vp_in_nI (by omega) (by omega), ?_⟩)
      rw [nI_1 k, nI_clamp (n := k) (by omega), nI_clamp (n := k + 1) (by omega)]
      exact dl_sxY ⟨vp_in_nI (by omega) (by omega), nm_e ⟨vp_in_nI (by omega) (by omega), vp_in_nI (by omega) (by omega), dl_syY ⟨vp_in_nI (by omega) (by omega), nm_e (nm_e (ih (k + 1) _ _ (by omega) (by omega) (dl_ptU hp)))⟩⟩⟩
theorem dl_wkY {post : SY → Prop} {L : Nat} {c cp xs ys ls : Nat → Int32} (hL : L ≤ 24) (hpost : ∀ xs' ys', dl_pt L c xs' ys' → post (nI L, c, cp, xs', ys', ls)) :
    wpY_walk post (nI L, c, cp, xs, ys, ls) := by
  refine nm_e (nm_e ⟨30, dl_wk16 hL hpost 30 0 _ _ (by omega) (by omega) (fun j hj => ?_)⟩)
  have e : j = 0 := by omega
  subst e
  exact ⟨pk_us, pk_us⟩
/-! a straight piece -/
def dl_St (c : Nat → Int32) (s e : Nat) : Prop := dl_TK c s e ∧ dl_SB c s e
theorem dl_isX {post : Int32 → Prop} {L : Nat} {c ax ay : Nat → Int32} {s e : Nat} (hc : dl_ok c) (hp : dl_pt L c ax ay) (hL : L ≤ 24) (hse : s ≤ e) (heL : e ≤ L)
    (hy : dl_St c s e → post 1) (hno : ¬ dl_St c s e → post 0) : wpX_isStraight post (nI L, c, ax, ay) (nI s) (nI e) := by
  unfold wpX_isStraight
  dsimp only
  refine dl_hnX hc (by omega) hse (fun hT => br_f (by decide) ?_) (fun hT => br_t rfl (hno (fun h => hT h.1)))
  exact dl_sbX hc hp (by omega) heL hse (fun hS => br_f (by decide) (hy ⟨hT, hS⟩)) (fun hS => br_t rfl (hno (fun h => hS h.2)))
theorem dl_isY {post : Int32 → SY → Prop} {L : Nat} {c cp xs ys ls : Nat → Int32} {s e : Nat} (hc : dl_ok c) (hL : L ≤ 24) (hse : s ≤ e) (heL : e ≤ L)
    (hy : dl_St c s e → ∀ xs' ys', post 1 (nI L, c, cp, xs', ys', ls)) (hno : ¬ dl_St c s e → ∀ xs' ys', post 0 (nI L, c, cp, xs', ys', ls)) :
    wpY_isStraight post (nI L, c, cp, xs, ys, ls) (nI s) (nI e) := by
  unfold wpY_isStraight
  dsimp only
  refine dl_tkY (by omega) hse (fun hT => br_f (by decide) ?_) (fun hT => br_t rfl (hno (fun h => hT h.1) xs ys))
  refine dl_wkY hL (fun xs' ys' hp => ⟨30, ?_⟩)
  have h := dl_st17 (post := post) (fm := nI L) (cp := cp) (ls := ls) hc hp (by omega) heL hse (fun hS => hy ⟨hT, (dl_SX_SY hse).mpr hS⟩ xs' ys') (fun hS => hno (fun h => hS ((dl_SX_SY hse).mp h.2)) xs' ys') 30 1 (by omega) (by omega) (by omega) (fun N' k' a b => by omega)
  rw [dl_i1] at h
  exact h
theorem dl_StM {c : Nat → Int32} {s e s' e' : Nat} (h : dl_St c s e) (hs : s ≤ s') (he : e' ≤ e) : dl_St c s' e' := by
  obtain ⟨⟨u, hu, hK⟩, p, q, p1, p2, q1, q2, hB⟩ := h
  exact ⟨⟨u, hu, fun k a b => hK k (by omega) (by omega)⟩, p, q, p1, p2, q1, q2, fun i j i1 i2 j1 j2 => hB i j (by omega) (by omega) (by omega) (by omega)⟩
theorem dl_pq {dx dy : Int} (h1 : -1 ≤ dx) (h2 : dx ≤ 1) (h3 : -1 ≤ dy) (h4 : dy ≤ 1) (h5 : dx ≠ 0 ∨ dy ≠ 0) : ∃ p q : Int, 0 ≤ p ∧ p ≤ 1 ∧ -1 ≤ q ∧ q ≤ 1 ∧ dl_w p q = 1 ∧ p * dx = q * dy := by
  have e1 : dx = -1 ∨ dx = 0 ∨ dx = 1 := by omega
  have e2 : dy = -1 ∨ dy = 0 ∨ dy = 1 := by omega
  rcases e2 with rfl | rfl | rfl
  · exact ⟨1, -dx, by omega, by omega, by omega, by omega, by rcases e1 with rfl | rfl | rfl <;> decide, by omega⟩
  · exact ⟨0, 1, by omega, by omega, by omega, by omega, by decide, by omega⟩
  · exact ⟨1, dx, by omega, by omega, by omega, by omega, by rcases e1 with rfl | rfl | rfl <;> decide, by omega⟩
theorem dl_St1 {c : Nat → Int32} (hc : dl_ok c) {s : Nat} (hs : s < 24) : dl_St c s (s + 1) := by
  constructor
  · obtain ⟨a, ha, e⟩ := hc s
    refine ⟨a, ha, fun k k1 k2 => Or.inl ?_⟩
    have ek : k = s := by omega
    rw [ek]
    exact e
  · have hb := dl_qb hc s (by omega)
    obtain ⟨dx, dy, ex, ey, h1, h2, h3, h4, h5⟩ := dl_qs hc (j := s) (by omega) (by omega)
    obtain ⟨p, q, p1, p2, q1, q2, ew, ez⟩ := dl_pq h1 h2 h3 h4 h5
    refine ⟨p, q, by omega, by omega, by omega, by omega, ?_⟩
    unfold dl_B
    rw [ew]
    have ev : dl_v c p q (s + 1) = dl_v c p q s := by
      unfold dl_v
      rw [ex, ey, Int.mul_add, Int.mul_add, ez]
      omega
    have hv : ∀ i, s ≤ i → i ≤ s + 1 → dl_v c p q i = dl_v c p q s := by
      intro i i1 i2
      have e : i = s ∨ i = s + 1 := by omega
      rcases e with rfl | rfl
      · rfl
      · exact ev
    intro i j i1 i2 j1 j2
    rw [hv i i1 i2, hv j j1 j2]
    omega
noncomputable def dl_P (c : Nat → Int32) (s e : Nat) : Bool := @decide (dl_St c s e) (Classical.propDecidable _)
theorem dl_Pt {c : Nat → Int32} {s e : Nat} : dl_P c s e = true ↔ dl_St c s e := @decide_eq_true_iff _ (Classical.propDecidable _)
theorem dl_Pf {c : Nat → Int32} {s e : Nat} : dl_P c s e = false ↔ ¬ dl_St c s e := @decide_eq_false_iff_not _ (Classical.propDecidable _)
end
section
/-! what the questions answer, over any P that holds of parts too -/
def dl_fr (P : Nat → Nat → Bool) (s : Nat) : Nat → Nat → Nat
  | 0, e => e
  | d + 1, e => if P s (e + 1) = true then dl_fr P s d (e + 1) else e
def dl_far (P : Nat → Nat → Bool) (L s : Nat) : Nat := dl_fr P s (L - s) s
def dl_Mo (P : Nat → Nat → Bool) (L : Nat) : Prop := (∀ s, s < L → P s (s + 1) = true) ∧ (∀ s e s' e', P s e = true → s ≤ s' → e' ≤ e → P s' e' = true)
theorem dl_frb {P : Nat → Nat → Bool} {s : Nat} : ∀ d e, e ≤ dl_fr P s d e ∧ dl_fr P s d e ≤ e + d := by
  intro d
  induction d with
  | zero => intro e; exact ⟨Nat.le_refl e, Nat.le_refl e⟩
  | succ d ih =>
    intro e
    have := ih (e + 1)
    show e ≤ (if P s (e + 1) = true then dl_fr P s d (e + 1) else e) ∧ (if P s (e + 1) = true then dl_fr P s d (e + 1) else e) ≤ e + (d + 1)
    split <;> omega
theorem dl_frP {P : Nat → Nat → Bool} {s : Nat} : ∀ d e t, e < t → t ≤ dl_fr P s d e → P s t = true := by
  intro d
  induction d with
  | zero => intro e t a b; exact absurd b (by show ¬ t ≤ e; omega)
  | succ d ih =>
    intro e t a b
    by_cases z : P s (e + 1) = true
    · have e1 : dl_fr P s (d + 1) e = dl_fr P s d (e + 1) := if_pos z
      rw [e1] at b
      by_cases w : t = e + 1
      · rw [w]
        exact z
      · exact ih (e + 1) t (by omega) b
    · have e1 : dl_fr P s (d + 1) e = e := if_neg z
      omega
theorem dl_frM {P : Nat → Nat → Bool} {s : Nat} : ∀ d e, dl_fr P s d e < e + d → ¬ P s (dl_fr P s d e + 1) = true := by
  intro d
  induction d with
  | zero => intro e h; exact absurd h (by show ¬ e < e + 0; omega)
  | succ d ih =>
    intro e h
    by_cases z : P s (e + 1) = true
    · have e1 : dl_fr P s (d + 1) e = dl_fr P s d (e + 1) := if_pos z
      rw [e1] at h ⊢
      exact ih (e + 1) (by omega)
    · have e1 : dl_fr P s (d + 1) e = e := if_neg z
      rw [e1]
      exact z
theorem dl_faB {P : Nat → Nat → Bool} {L s : Nat} (hs : s ≤ L) : s ≤ dl_far P L s ∧ dl_far P L s ≤ L := by
  have := dl_frb (P := P) (s := s) (L - s) s
  unfold dl_far
  omega
theorem dl_faP {P : Nat → Nat → Bool} {L s t : Nat} (h1 : s < t) (h2 : t ≤ dl_far P L s) : P s t = true := dl_frP _ _ _ h1 h2
theorem dl_faG {P : Nat → Nat → Bool} {L s : Nat} (hP : dl_Mo P L) (hs : s < L) : s < dl_far P L s := by
  by_cases z : s < dl_far P L s
  · exact z
  · have b := dl_faB (P := P) (L := L) (s := s) (by omega)
    have e : dl_far P L s = s := by omega
    have m := dl_frM (P := P) (s := s) (L - s) s
    have e2 : dl_fr P s (L - s) s = s := e
    rw [e2] at m
    exact absurd (hP.1 s hs) (m (by omega))
theorem dl_faM {P : Nat → Nat → Bool} {L s t : Nat} (hP : dl_Mo P L) (hs : s ≤ L) (ht : t ≤ L) (h : P s t = true) : t ≤ dl_far P L s := by
  by_cases z : t ≤ dl_far P L s
  · exact z
  · have m := dl_frM (P := P) (s := s) (L - s) s
    have e2 : dl_fr P s (L - s) s = dl_far P L s := rfl
    rw [e2] at m
    exact absurd (hP.2 s t s (dl_far P L s + 1) h (Nat.le_refl s) (by omega)) (m (by omega))
/-! greedy pieces -/
def dl_gc (F : Nat → Nat) (e : Nat) : Nat → Nat → Nat
  | 0, _ => 0
  | d + 1, a => if a < e then dl_gc F e d (F a) + 1 else 0
theorem dl_gc0 {F : Nat → Nat} {e a : Nat} (h : e ≤ a) : ∀ d, dl_gc F e d a = 0 := by
  intro d
  cases d with
  | zero => rfl
  | succ d => exact if_neg (by omega)
theorem dl_gcs {F : Nat → Nat} {e a d : Nat} (h : a < e) : dl_gc F e (d + 1) a = dl_gc F e d (F a) + 1 := if_pos h
theorem dl_gcB {F : Nat → Nat} {e : Nat} : ∀ d a, dl_gc F e d a ≤ d := by
  intro d
  induction d with
  | zero => intro a; exact Nat.le_refl 0
  | succ d ih =>
    intro a
    have := ih (F a)
    show (if a < e then dl_gc F e d (F a) + 1 else 0) ≤ d + 1
    split <;> omega
theorem dl_gcS {F : Nat → Nat} {e : Nat} (hF : ∀ a, a < e → a < F a) : ∀ d d' a, e - a ≤ d → e - a ≤ d' → dl_gc F e d a = dl_gc F e d' a := by
  intro d
  induction d with
  | zero => intro d' a h _; rw [dl_gc0 (by omega), dl_gc0 (by omega)]
  | succ d ih =>
    intro d' a h h'
    by_cases z : a < e
    · obtain ⟨d1, rfl⟩ : ∃ d1, d' = d1 + 1 := ⟨d' - 1, by omega⟩
      have := hF a z
      rw [dl_gcs z, dl_gcs z, ih d1 (F a) (by omega) (by omega)]
    · rw [dl_gc0 (by omega), dl_gc0 (by omega)]
theorem dl_gcb {P : Nat → Nat → Bool} {L r t : Nat} (hP : dl_Mo P L) (hrt : r < t) (ht : t ≤ L) (h : P r t = true) :
    ∀ d a, r - a ≤ d → dl_gc (dl_far P L) t (d + 1) a ≤ dl_gc (dl_far P L) r d a + 1 := by
  have big : ∀ d a, r ≤ a → dl_gc (dl_far P L) t (d + 1) a ≤ 1 := by
    intro d a ha
    by_cases z : a < t
    · have m := dl_faM hP (s := a) (t := t) (by omega) ht (hP.2 r t a t h ha (Nat.le_refl t))
      rw [dl_gcs z, dl_gc0 m]
      exact Nat.le_refl 1
    · rw [dl_gc0 (by omega)]
      omega
  intro d
  induction d with
  | zero =>
    intro a ha
    have := big 0 a (by omega)
    omega
  | succ d ih =>
    intro a ha
    by_cases z : a < r
    · have g := dl_faG hP (s := a) (by omega)
      have i := ih (dl_far P L a) (by omega)
      rw [dl_gcs (show a < t by omega), dl_gcs z]
      omega
    · have := big (d + 1) a (by omega)
      omega
theorem dl_gcc {P : Nat → Nat → Bool} {L t : Nat} (hP : dl_Mo P L) (ht : t ≤ L) :
    ∀ d a, a < t → t - a ≤ d → ∃ r, a ≤ r ∧ r < t ∧ P r t = true ∧ dl_gc (dl_far P L) r d a + 1 ≤ dl_gc (dl_far P L) t d a := by
  intro d
  induction d with
  | zero => intro a h1 h2; omega
  | succ d ih =>
    intro a h1 h2
    by_cases z : t ≤ dl_far P L a
    · refine ⟨a, Nat.le_refl a, h1, dl_faP h1 z, ?_⟩
      rw [dl_gc0 (Nat.le_refl a), dl_gcs h1]
      omega
    · have g := dl_faG hP (s := a) (by omega)
      obtain ⟨r, r1, r2, r3, r4⟩ := ih (dl_far P L a) (by omega) (by omega)
      refine ⟨r, by omega, r2, r3, ?_⟩
      rw [dl_gcs (show a < r by omega), dl_gcs h1]
      omega
/-- what the table of the reference must hold -/
def dl_Gs (P : Nat → Nat → Bool) (L s : Nat) (G : Nat → Nat) : Prop :=
  G s = 0 ∧ (∀ r t, s ≤ r → r < t → t ≤ L → P r t = true → G t ≤ G r + 1) ∧ (∀ t, s < t → t ≤ L → ∃ r, s ≤ r ∧ r < t ∧ P r t = true ∧ G r + 1 ≤ G t) ∧ (∀ t, G t ≤ 24)
theorem dl_GsI {P : Nat → Nat → Bool} {L s : Nat} (hP : dl_Mo P L) (hL : L ≤ 24) : dl_Gs P L s (fun t => dl_gc (dl_far P L) t 24 s) := by
  refine ⟨dl_gc0 (Nat.le_refl s) 24, ?_, ?_, ?_⟩
  · intro r t h1 h2 h3 h4
    have b : dl_gc (dl_far P L) t 25 s ≤ dl_gc (dl_far P L) r 24 s + 1 := dl_gcb hP h2 h3 h4 24 s (by omega)
    have e := dl_gcS (F := dl_far P L) (e := t) (fun a ha => dl_faG hP (by omega)) 25 24 s (by omega) (by omega)
    show dl_gc (dl_far P L) t 24 s ≤ dl_gc (dl_far P L) r 24 s + 1
    omega
  · intro t h1 h2
    exact dl_gcc hP h2 24 s h1 (by omega)
  · intro t
    exact dl_gcB 24 s
/-! the other questions -/
def dl_bk (P : Nat → Nat → Bool) (e : Nat) : Nat → Nat
  | 0 => 0
  | s + 1 => if P s e = true then dl_bk P e s else s + 1
def dl_pe (F : Nat → Nat) (L : Nat) : Nat → Nat → Int32
  | 0, a => nI a
  | d + 1, a => if a < L then dl_pe F L d (F a) else -1
def dl_lg (F : Nat → Nat) : Nat → Nat → Nat → Nat
  | 0, b, _ => b
  | d + 1, b, s => dl_lg F d (if F s - s ≤ b then b else F s - s) (s + 1)
def dl_mx (F : Nat → Nat) : Nat → Nat → Nat → Nat
  | 0, n, _ => n
  | d + 1, n, s => dl_mx F d (if s = 0 then n + 1 else if F s ≤ F (s - 1) then n else n + 1) (s + 1)
end
section
/-! the component's questions, each against its pure answer -/
def dl_IX (P : Nat → Nat → Bool) (L : Nat) (c ax ay : Nat → Int32) : Prop := ∀ (s e : Nat) (post : Int32 → Prop), s ≤ e → e ≤ L → (P s e = true → post 1) → (¬ P s e = true → post 0) → wpX_isStraight post (nI L, c, ax, ay) (nI s) (nI e)
theorem dl_feX {P : Nat → Nat → Bool} {L s : Nat} {c ax ay : Nat → Int32} {post : Int32 → Prop} (hX : dl_IX P L c ax ay) (hL : L ≤ 24) :
    ∀ d e, e + d = L → s ≤ e → post (nI (dl_fr P s d e)) → ∀ n, d < n → wX_farthestEnd_4 post (nI s) (nI L) c ax ay n (nI (e + 1)) := by
  intro d
  induction d with
  | zero =>
    intro e he hs h n hn
    obtain ⟨n, rfl⟩ : ∃ m, n = m + 1 := ⟨n - 1, by omega⟩
    have e1 : e = L := by omega
    subst e1
    exact br_t (nI_lt (by omega) (by omega)) h
  | succ d ih =>
    intro e he hs h n hn
    obtain ⟨n, rfl⟩ : ∃ m, n = m + 1 := ⟨n - 1, by omega⟩
    refine br_f (nI_nlt (by omega) (by omega)) (hX s (e + 1) _ (by omega) (by omega) (fun hP => ?_) (fun hP => ?_))
    · have e1 : dl_fr P s (d + 1) e = dl_fr P s d (e + 1) := if_pos hP
      rw [e1] at h
      exact br_f (by decide) (nm_r (nI_1 (e + 1)) (ih (e + 1) (by omega) (by omega) h n (by omega)))
    · have e1 : dl_fr P s (d + 1) e = e := if_neg hP
      rw [e1] at h
      refine br_t rfl ?_
      rw [nI_pred]
      exact h
theorem dl_farX {P : Nat → Nat → Bool} {L s : Nat} {c ax ay : Nat → Int32} {post : Int32 → Prop} (hX : dl_IX P L c ax ay) (hL : L ≤ 24) (hs : s ≤ L) (h : post (nI (dl_far P L s))) :
    wpX_farthestEnd post (nI L, c, ax, ay) (nI s) :=
  nm_r (nI_1 s) ⟨30, dl_feX hX hL (L - s) s (by omega) (Nat.le_refl s) h 30 (by omega)⟩
theorem dl_bkX4 {P : Nat → Nat → Bool} {L e : Nat} {c ax ay : Nat → Int32} {post : Int32 → Prop} (hX : dl_IX P L c ax ay) (hL : L ≤ 24) (he : e ≤ L) :
    ∀ s, s ≤ e → post (nI (dl_bk P e s)) → ∀ n, s < n → wX_farthestStart_4 post (nI e) (nI L) c ax ay n (nI s - 1) := by
  intro s
  induction s with
  | zero =>
    intro hs h n hn
    obtain ⟨n, rfl⟩ : ∃ m, n = m + 1 := ⟨n - 1, by omega⟩
    exact br_t (by decide) h
  | succ s ih =>
    intro hs h n hn
    obtain ⟨n, rfl⟩ : ∃ m, n = m + 1 := ⟨n - 1, by omega⟩
    rw [nI_pred]
    refine br_f (nI_pos (by omega)) (hX s e _ (by omega) he (fun hP => ?_) (fun hP => ?_))
    · have e1 : dl_bk P e (s + 1) = dl_bk P e s := if_pos hP
      rw [e1] at h
      exact br_f (by decide) (nm_r (Int32.sub_eq_add_neg (nI s) 1).symm (ih (by omega) h n (by omega)))
    · have e1 : dl_bk P e (s + 1) = s + 1 := if_neg hP
      rw [e1] at h
      refine br_t rfl ?_
      rw [nI_1]
      exact h
theorem dl_bkX {P : Nat → Nat → Bool} {L e : Nat} {c ax ay : Nat → Int32} {post : Int32 → Prop} (hX : dl_IX P L c ax ay) (hL : L ≤ 24) (he : e ≤ L) (h : post (nI (dl_bk P e e))) :
    wpX_farthestStart post (nI L, c, ax, ay) (nI e) :=
  nm_e ⟨30, dl_bkX4 hX hL he e (Nat.le_refl e) h 30 (by omega)⟩
theorem dl_gcX8 {P : Nat → Nat → Bool} {L e : Nat} {c ax ay : Nat → Int32} {post : Int32 → Prop} (hX : dl_IX P L c ax ay) (hP : dl_Mo P L) (hL : L ≤ 24) (he : e ≤ L) :
    ∀ d a k m, k + d = e → k ≤ a → post (nI (m + dl_gc (dl_far P L) e d a)) → ∀ n, d < n → a ≤ L → wX_greedyCount_8 post (nI e) (nI L) c ax ay n (nI m) (nI a) (nI k) := by
  intro d
  induction d with
  | zero =>
    intro a k m hk ha h n hn haL
    obtain ⟨n, rfl⟩ : ∃ m, n = m + 1 := ⟨n - 1, by omega⟩
    exact br_t (nI_le (by omega) (by omega)) h
  | succ d ih =>
    intro a k m hk ha h n hn haL
    obtain ⟨n, rfl⟩ : ∃ m, n = m + 1 := ⟨n - 1, by omega⟩
    refine br_f (nI_ge (by omega) (by omega)) ?_
    by_cases z : a < e
    · have g := dl_faG hP (s := a) (by omega)
      have b := dl_faB (P := P) (L := L) (s := a) (by omega)
      rw [dl_gcs z] at h
      refine br_f (nI_ge (by omega) (by omega)) (dl_farX hX hL haL (nm_r (nI_1 m) (nm_r (nI_1 k) ?_)))
      exact ih (dl_far P L a) (k + 1) (m + 1) (by omega) (by omega) (by rw [show m + 1 + dl_gc (dl_far P L) e d (dl_far P L a) = m + (dl_gc (dl_far P L) e d (dl_far P L a) + 1) by omega]; exact h) n (by omega) (by omega)
    · rw [dl_gc0 (by omega)] at h
      exact br_t (nI_le (by omega) (by omega)) h
theorem dl_gcX {P : Nat → Nat → Bool} {L s e : Nat} {c ax ay : Nat → Int32} {post : Int32 → Prop} (hX : dl_IX P L c ax ay) (hP : dl_Mo P L) (hL : L ≤ 24) (hs : s ≤ e) (he : e ≤ L)
    (h : post (nI (dl_gc (dl_far P L) e 24 s))) : wpX_greedyCount post (nI L, c, ax, ay) (nI s) (nI e) := by
  have es := dl_gcS (F := dl_far P L) (e := e) (fun a ha => dl_faG hP (by omega)) 24 (e - s) s (by omega) (by omega)
  rw [es] at h
  exact ⟨30, dl_gcX8 hX hP hL he (e - s) s s 0 (by omega) (Nat.le_refl s) (by rw [Nat.zero_add]; exact h) 30 (by omega) (by omega)⟩
theorem dl_peX {P : Nat → Nat → Bool} {L j : Nat} {c ax ay : Nat → Int32} {post : Int32 → Prop} (hX : dl_IX P L c ax ay) (hL : L ≤ 24) (hj : j < L) :
    ∀ d a k, k + d = j + 1 → a ≤ L → post (dl_pe (dl_far P L) L d a) → ∀ n, d < n → wX_pieceEnd_18 post (nI j) (nI L) c ax ay n (nI a) (nI k) := by
  intro d
  induction d with
  | zero =>
    intro a k hk ha h n hn
    obtain ⟨n, rfl⟩ : ∃ m, n = m + 1 := ⟨n - 1, by omega⟩
    exact br_t (nI_lt (by omega) (by omega)) h
  | succ d ih =>
    intro a k hk ha h n hn
    obtain ⟨n, rfl⟩ : ∃ m, n = m + 1 := ⟨n - 1, by omega⟩
    refine br_f (nI_nlt (by omega) (by omega)) ?_
    by_cases z : a < L
    · have b := dl_faB (P := P) (L := L) (s := a) (by omega)
      have e1 : dl_pe (dl_far P L) L (d + 1) a = dl_pe (dl_far P L) L d (dl_far P L a) := if_pos z
      rw [e1] at h
      exact br_t (nI_lt z (by omega)) (dl_farX hX hL ha (nm_r (nI_1 k) (ih (dl_far P L a) (k + 1) (by omega) (by omega) h n (by omega))))
    · have e1 : dl_pe (dl_far P L) L (d + 1) a = -1 := if_neg z
      rw [e1] at h
      exact br_f (nI_nlt (by omega) (by omega)) h
theorem dl_lgX {P : Nat → Nat → Bool} {L : Nat} {c ax ay : Nat → Int32} {post : Int32 → Prop} (hX : dl_IX P L c ax ay) (hL : L ≤ 24) :
    ∀ d b s, s + d = L → b ≤ L → post (nI (dl_lg (dl_far P L) d b s)) → ∀ n, d < n → wX_longest_4 post (nI L) c ax ay n (nI b) (nI s) := by
  intro d
  induction d with
  | zero =>
    intro b s hs hb h n hn
    obtain ⟨n, rfl⟩ : ∃ m, n = m + 1 := ⟨n - 1, by omega⟩
    exact br_t (nI_le (by omega) (by omega)) h
  | succ d ih =>
    intro b s hs hb h n hn
    obtain ⟨n, rfl⟩ : ∃ m, n = m + 1 := ⟨n - 1, by omega⟩
    have f := dl_faB (P := P) (L := L) (s := s) (by omega)
    refine br_f (nI_ge (by omega) (by omega)) (dl_farX hX hL (by omega) (nm_r (pk_sub f.1) ?_))
    by_cases z : dl_far P L s - s ≤ b
    · have e1 : dl_lg (dl_far P L) (d + 1) b s = dl_lg (dl_far P L) d b (s + 1) := by
        show dl_lg (dl_far P L) d (if dl_far P L s - s ≤ b then b else dl_far P L s - s) (s + 1) = _
        rw [if_pos z]
      rw [e1] at h
      exact br_t (nI_le z (by omega)) (nm_r (nI_1 s) (ih b (s + 1) (by omega) hb h n (by omega)))
    · have e1 : dl_lg (dl_far P L) (d + 1) b s = dl_lg (dl_far P L) d (dl_far P L s - s) (s + 1) := by
        show dl_lg (dl_far P L) d (if dl_far P L s - s ≤ b then b else dl_far P L s - s) (s + 1) = _
        rw [if_neg z]
      rw [e1] at h
      exact br_f (nI_ge (by omega) (by omega)) (nm_r (nI_1 s) (ih (dl_far P L s - s) (s + 1) (by omega) (by omega) h n (by omega)))
theorem dl_mxX {P : Nat → Nat → Bool} {L : Nat} {c ax ay : Nat → Int32} {post : Int32 → Prop} (hX : dl_IX P L c ax ay) (hP : dl_Mo P L) (hL : L ≤ 24) :
    ∀ d m b s, s + d = L → b = (if s = 0 then 0 else dl_far P L (s - 1)) → post (nI (dl_mx (dl_far P L) d m s)) → ∀ n, d < n → wX_maximal_6 post (nI L) c ax ay n (nI m) (nI b) (nI s) := by
  intro d
  induction d with
  | zero =>
    intro m b s hs hb h n hn
    obtain ⟨n, rfl⟩ : ∃ m, n = m + 1 := ⟨n - 1, by omega⟩
    exact br_t (nI_le (by omega) (by omega)) h
  | succ d ih =>
    intro m b s hs hb h n hn
    obtain ⟨n, rfl⟩ : ∃ m, n = m + 1 := ⟨n - 1, by omega⟩
    have f := dl_faB (P := P) (L := L) (s := s) (by omega)
    have g := dl_faG hP (s := s) (by omega)
    have e0 : dl_mx (dl_far P L) (d + 1) m s = dl_mx (dl_far P L) d (if s = 0 then m + 1 else if dl_far P L s ≤ dl_far P L (s - 1) then m else m + 1) (s + 1) := rfl
    rw [e0] at h
    have hb1 : dl_far P L s = (if s + 1 = 0 then 0 else dl_far P L (s + 1 - 1)) := by
      rw [if_neg (by omega)]
      rfl
    refine br_f (nI_ge (by omega) (by omega)) (dl_farX hX hL (by omega) ?_)
    by_cases z : s = 0
    · rw [if_pos z] at h hb
      exact br_f (nI_ge (by omega) (by omega)) (nm_r (nI_1 m) (nm_r (nI_1 s) (ih (m + 1) _ (s + 1) (by omega) hb1 h n (by omega))))
    · rw [if_neg z] at h hb
      have f2 := dl_faB (P := P) (L := L) (s := s - 1) (by omega)
      by_cases w : dl_far P L s ≤ dl_far P L (s - 1)
      · rw [if_pos w] at h
        exact br_t (nI_le (by omega) (by omega)) (nm_r (nI_1 s) (ih m _ (s + 1) (by omega) hb1 h n (by omega)))
      · rw [if_neg w] at h
        exact br_f (nI_ge (by omega) (by omega)) (nm_r (nI_1 m) (nm_r (nI_1 s) (ih (m + 1) _ (s + 1) (by omega) hb1 h n (by omega))))
end
section
/-! the reference's questions, each against its pure answer -/
def dl_IY (P : Nat → Nat → Bool) (L : Nat) (c cp : Nat → Int32) : Prop := ∀ (xs ys ls : Nat → Int32) (s e : Nat) (post : Int32 → SY → Prop), s ≤ e → e ≤ L →
  (P s e = true → ∀ xs' ys', post 1 (nI L, c, cp, xs', ys', ls)) → (¬ P s e = true → ∀ xs' ys', post 0 (nI L, c, cp, xs', ys', ls)) → wpY_isStraight post (nI L, c, cp, xs, ys, ls) (nI s) (nI e)
theorem dl_fa2 {P : Nat → Nat → Bool} {L s : Nat} {c cp ls : Nat → Int32} {post : Int32 → SY → Prop} (hY : dl_IY P L c cp) (hL : L ≤ 24) :
    ∀ d e xs ys, e + d = L → s ≤ e → (∀ xs' ys', post (nI (dl_fr P s d e)) (nI L, c, cp, xs', ys', ls)) → ∀ n, d < n → wY_far_2 post (nI s) n (nI e) (nI L) c cp xs ys ls := by
  intro d
  induction d with
  | zero =>
    intro e xs ys he hs h n hn
    obtain ⟨n, rfl⟩ : ∃ m, n = m + 1 := ⟨n - 1, by omega⟩
    exact br_t (nI_le (by omega) (by omega)) (h xs ys)
  | succ d ih =>
    intro e xs ys he hs h n hn
    obtain ⟨n, rfl⟩ : ∃ m, n = m + 1 := ⟨n - 1, by omega⟩
    refine br_f (nI_ge (by omega) (by omega)) ?_
    rw [nI_1 e]
    refine hY xs ys ls s (e + 1) _ (by omega) (by omega) (fun hP xs' ys' => ?_) (fun hP xs' ys' => ?_)
    · have e1 : dl_fr P s (d + 1) e = dl_fr P s d (e + 1) := if_pos hP
      rw [e1] at h
      exact br_f (by decide) (nm_e (ih (e + 1) xs' ys' (by omega) (by omega) h n (by omega)))
    · have e1 : dl_fr P s (d + 1) e = e := if_neg hP
      rw [e1] at h
      exact br_t rfl (h xs' ys')
theorem dl_farY {P : Nat → Nat → Bool} {L s : Nat} {c cp xs ys ls : Nat → Int32} {post : Int32 → SY → Prop} (hY : dl_IY P L c cp) (hL : L ≤ 24) (hs : s ≤ L)
    (h : ∀ xs' ys', post (nI (dl_far P L s)) (nI L, c, cp, xs', ys', ls)) : wpY_far post (nI L, c, cp, xs, ys, ls) (nI s) :=
  ⟨30, dl_fa2 hY hL (L - s) s xs ys (by omega) (Nat.le_refl s) h 30 (by omega)⟩
theorem dl_bkY12 {P : Nat → Nat → Bool} {L e : Nat} {c cp ls : Nat → Int32} {post : Int32 → SY → Prop} (hY : dl_IY P L c cp) (hL : L ≤ 24) (he : e ≤ L) :
    ∀ s xs ys, s ≤ e → (∀ xs' ys', post (nI (dl_bk P e s)) (nI L, c, cp, xs', ys', ls)) → ∀ n, s < n → wY_reachBack_12 post (nI e) n (nI s) (nI L) c cp xs ys ls := by
  intro s
  induction s with
  | zero =>
    intro xs ys hs h n hn
    obtain ⟨n, rfl⟩ : ∃ m, n = m + 1 := ⟨n - 1, by omega⟩
    exact br_t (by decide) (h xs ys)
  | succ s ih =>
    intro xs ys hs h n hn
    obtain ⟨n, rfl⟩ : ∃ m, n = m + 1 := ⟨n - 1, by omega⟩
    refine br_f (nI_nle (by omega) (by omega)) ?_
    rw [nI_pred]
    refine hY xs ys ls s e _ (by omega) he (fun hP xs' ys' => ?_) (fun hP xs' ys' => ?_)
    · have e1 : dl_bk P e (s + 1) = dl_bk P e s := if_pos hP
      rw [e1] at h
      exact br_f (by decide) (nm_r (pk_m1 s) (ih xs' ys' (by omega) h n (by omega)))
    · have e1 : dl_bk P e (s + 1) = s + 1 := if_neg hP
      rw [e1] at h
      exact br_t rfl (h xs' ys')
theorem dl_pcY {P : Nat → Nat → Bool} {L : Nat} {c cp ls : Nat → Int32} {post : Int32 → SY → Prop} (hY : dl_IY P L c cp) (hL : L ≤ 24) :
    ∀ d a k m xs ys, k + d = 24 → a ≤ L → (∀ xs' ys', post (nI (m + dl_gc (dl_far P L) L d a)) (nI L, c, cp, xs', ys', ls)) → ∀ n, d < n → wY_pieces_6 post n (nI m) (nI a) (nI k) (nI L) c cp xs ys ls := by
  intro d
  induction d with
  | zero =>
    intro a k m xs ys hk ha h n hn
    obtain ⟨n, rfl⟩ : ∃ m, n = m + 1 := ⟨n - 1, by omega⟩
    exact br_t (nI_le (a := 24) (by omega) (by omega)) (h xs ys)
  | succ d ih =>
    intro a k m xs ys hk ha h n hn
    obtain ⟨n, rfl⟩ : ∃ m, n = m + 1 := ⟨n - 1, by omega⟩
    refine br_f (nI_ge (b := 24) (by omega) (by decide)) ?_
    by_cases z : a < L
    · have b := dl_faB (P := P) (L := L) (s := a) (by omega)
      rw [dl_gcs z] at h
      refine br_f (nI_ge (by omega) (by omega)) (dl_farY hY hL ha (fun xs' ys' => nm_r (nI_1 m) (nm_r (nI_1 k) ?_)))
      refine ih (dl_far P L a) (k + 1) (m + 1) xs' ys' (by omega) (by omega) ?_ n (by omega)
      rw [show m + 1 + dl_gc (dl_far P L) L d (dl_far P L a) = m + (dl_gc (dl_far P L) L d (dl_far P L a) + 1) by omega]
      exact h
    · refine br_t (nI_le (by omega) (by omega)) (nm_r (nI_1 k) (ih a (k + 1) m xs ys (by omega) ha ?_ n (by omega)))
      rw [dl_gc0 (by omega)] at h ⊢
      exact h
theorem dl_peY {P : Nat → Nat → Bool} {L j : Nat} {c cp ls : Nat → Int32} {post : Int32 → SY → Prop} (hY : dl_IY P L c cp) (hL : L ≤ 24) (hj : j < L) :
    ∀ d a k xs ys, k + d = j → a ≤ L → (∀ xs' ys', post (dl_pe (dl_far P L) L (d + 1) a) (nI L, c, cp, xs', ys', ls)) → ∀ n, d < n → wY_pieceEnd_4 post (nI j) n (nI a) (nI k) (nI L) c cp xs ys ls := by
  intro d
  induction d with
  | zero =>
    intro a k xs ys hk ha h n hn
    obtain ⟨n, rfl⟩ : ∃ m, n = m + 1 := ⟨n - 1, by omega⟩
    have ek : k = j := by omega
    subst ek
    refine br_f (nI_ge (b := 24) (by omega) (by decide)) ?_
    by_cases z : a < L
    · have e1 : dl_pe (dl_far P L) L (0 + 1) a = nI (dl_far P L a) := if_pos z
      rw [e1] at h
      exact br_t (nI_lt z (by omega)) (dl_farY hY hL ha (fun xs' ys' => br_t rfl (h xs' ys')))
    · have e1 : dl_pe (dl_far P L) L (0 + 1) a = -1 := if_neg z
      rw [e1] at h
      exact br_f (nI_nlt (by omega) (by omega)) (h xs ys)
  | succ d ih =>
    intro a k xs ys hk ha h n hn
    obtain ⟨n, rfl⟩ : ∃ m, n = m + 1 := ⟨n - 1, by omega⟩
    refine br_f (nI_ge (b := 24) (by omega) (by decide)) ?_
    by_cases z : a < L
    · have b := dl_faB (P := P) (L := L) (s := a) (by omega)
      have e1 : dl_pe (dl_far P L) L (d + 1 + 1) a = dl_pe (dl_far P L) L (d + 1) (dl_far P L a) := if_pos z
      rw [e1] at h
      refine br_t (nI_lt z (by omega)) (dl_farY hY hL ha (fun xs' ys' => br_f ?_ (nm_r (nI_1 k) (ih (dl_far P L a) (k + 1) xs' ys' (by omega) (by omega) h n (by omega)))))
      rw [nI_eq (by omega) (by omega)]
      omega
    · have e1 : dl_pe (dl_far P L) L (d + 1 + 1) a = -1 := if_neg z
      rw [e1] at h
      exact br_f (nI_nlt (by omega) (by omega)) (h xs ys)
theorem dl_peN {P : Nat → Nat → Bool} {L : Nat} {x1 : Int32} {c cp ls : Nat → Int32} {post : Int32 → SY → Prop} (hY : dl_IY P L c cp) (hP : dl_Mo P L) (hL : L ≤ 24) (hx : ∀ j, j < L → ¬ nI j = x1)
    (h : ∀ xs' ys', post (-1) (nI L, c, cp, xs', ys', ls)) :
    ∀ d a k xs ys, k + d = 24 → a ≤ L → k ≤ a → ∀ n, d < n → wY_pieceEnd_4 post x1 n (nI a) (nI k) (nI L) c cp xs ys ls := by
  intro d
  induction d with
  | zero =>
    intro a k xs ys hk ha hka n hn
    obtain ⟨n, rfl⟩ : ∃ m, n = m + 1 := ⟨n - 1, by omega⟩
    exact br_t (nI_le (a := 24) (by omega) (by omega)) (h xs ys)
  | succ d ih =>
    intro a k xs ys hk ha hka n hn
    obtain ⟨n, rfl⟩ : ∃ m, n = m + 1 := ⟨n - 1, by omega⟩
    refine br_f (nI_ge (b := 24) (by omega) (by decide)) ?_
    by_cases z : a < L
    · have b := dl_faB (P := P) (L := L) (s := a) (by omega)
      have g := dl_faG hP (s := a) z
      exact br_t (nI_lt z (by omega)) (dl_farY hY hL ha (fun xs' ys' => br_f (hx k (by omega)) (nm_r (nI_1 k) (ih (dl_far P L a) (k + 1) xs' ys' (by omega) (by omega) (by omega) n (by omega)))))
    · exact br_f (nI_nlt (by omega) (by omega)) (h xs ys)
theorem dl_lgY {P : Nat → Nat → Bool} {L : Nat} {c cp ls : Nat → Int32} {post : Int32 → SY → Prop} (hY : dl_IY P L c cp) (hL : L ≤ 24) :
    ∀ d b s xs ys, s + d = L → b ≤ L → (∀ xs' ys', post (nI (dl_lg (dl_far P L) d b s)) (nI L, c, cp, xs', ys', ls)) → ∀ n, d < n → wY_longest_4 post n (nI b) (nI s) (nI L) c cp xs ys ls := by
  intro d
  induction d with
  | zero =>
    intro b s xs ys hs hb h n hn
    obtain ⟨n, rfl⟩ : ∃ m, n = m + 1 := ⟨n - 1, by omega⟩
    exact br_t (nI_le (by omega) (by omega)) (h xs ys)
  | succ d ih =>
    intro b s xs ys hs hb h n hn
    obtain ⟨n, rfl⟩ : ∃ m, n = m + 1 := ⟨n - 1, by omega⟩
    have f := dl_faB (P := P) (L := L) (s := s) (by omega)
    have es : nI (dl_far P L s) - nI s = nI (dl_far P L s - s) := pk_sub f.1
    have e0 : dl_lg (dl_far P L) (d + 1) b s = dl_lg (dl_far P L) d (if dl_far P L s - s ≤ b then b else dl_far P L s - s) (s + 1) := rfl
    rw [e0] at h
    refine br_f (nI_ge (by omega) (by omega)) (dl_farY hY hL (by omega) (fun xs' ys' => ?_))
    dsimp only
    rw [es]
    by_cases z : dl_far P L s - s ≤ b
    · rw [if_pos z] at h
      exact br_t (nI_le z (by omega)) (nm_r (nI_1 s) (ih b (s + 1) xs' ys' (by omega) hb h n (by omega)))
    · rw [if_neg z] at h
      exact br_f (nI_ge (by omega) (by omega)) (nm_e (nm_r (nI_1 s) (ih (dl_far P L s - s) (s + 1) xs' ys' (by omega) (by omega) h n (by omega))))
theorem dl_mxY {P : Nat → Nat → Bool} {L : Nat} {c cp ls : Nat → Int32} {post : Int32 → SY → Prop} (hY : dl_IY P L c cp) (hP : dl_Mo P L) (hL : L ≤ 24) :
    ∀ d m s xs ys, s + d = L → (∀ xs' ys', post (nI (dl_mx (dl_far P L) d m s)) (nI L, c, cp, xs', ys', ls)) → ∀ n, d < n → wY_maximal_4 post n (nI m) (nI s) (nI L) c cp xs ys ls := by
  intro d
  induction d with
  | zero =>
    intro m s xs ys hs h n hn
    obtain ⟨n, rfl⟩ : ∃ m, n = m + 1 := ⟨n - 1, by omega⟩
    exact br_t (nI_le (by omega) (by omega)) (h xs ys)
  | succ d ih =>
    intro m s xs ys hs h n hn
    obtain ⟨n, rfl⟩ : ∃ m, n = m + 1 := ⟨n - 1, by omega⟩
    have f := dl_faB (P := P) (L := L) (s := s) (by omega)
    have g := dl_faG hP (s := s) (by omega)
    have e0 : dl_mx (dl_far P L) (d + 1) m s = dl_mx (dl_far P L) d (if s = 0 then m + 1 else if dl_far P L s ≤ dl_far P L (s - 1) then m else m + 1) (s + 1) := rfl
    rw [e0] at h
    refine br_f (nI_ge (by omega) (by omega)) (dl_farY hY hL (by omega) (fun xs' ys' => br_f (nI_ge (by omega) (by omega)) ?_))
    by_cases z : s = 0
    · rw [if_pos z] at h
      subst z
      exact br_t rfl (nm_r (nI_1 m) (nm_r (nI_1 0) (ih (m + 1) (0 + 1) xs' ys' (by omega) h n (by omega))))
    · rw [if_neg z] at h
      obtain ⟨s, rfl⟩ : ∃ t, s = t + 1 := ⟨s - 1, by omega⟩
      refine br_f (nI_ne0 (by omega) (by omega)) ?_
      rw [nI_pred]
      refine hY xs' ys' ls s (dl_far P L (s + 1)) _ (by omega) (by omega) (fun hQ xs2 ys2 => ?_) (fun hQ xs2 ys2 => ?_)
      · have w := dl_faM hP (s := s) (by omega) f.2 hQ
        have w2 : dl_far P L (s + 1) ≤ dl_far P L (s + 1 - 1) := w
        rw [if_pos w2] at h
        exact br_f (by decide) (nm_r (nI_1 (s + 1)) (ih m (s + 1 + 1) xs2 ys2 (by omega) h n (by omega)))
      · have w2 : ¬ dl_far P L (s + 1) ≤ dl_far P L (s + 1 - 1) := fun w => hQ (dl_faP (show s < dl_far P L (s + 1) by omega) w)
        rw [if_neg w2] at h
        exact br_t rfl (nm_r (nI_1 m) (nm_r (nI_1 (s + 1)) (ih (m + 1) (s + 1 + 1) xs2 ys2 (by omega) h n (by omega))))
/-! the reference's table of least numbers -/
def dl_T (G : Nat → Nat) (s t : Nat) (ls : Nat → Int32) : Prop := ∀ i, s ≤ i → i < t → ls i = nI (G i)
theorem dl_fw52 {P : Nat → Nat → Bool} {L s e t : Nat} {G : Nat → Nat} {c cp : Nat → Int32} {post : Int32 → SY → Prop} {J : Int32 → Int32 → (Nat → Int32) → (Nat → Int32) → (Nat → Int32) → (Nat → Int32) → (Nat → Int32) → Prop}
    (hY : dl_IY P L c cp) (hG : dl_Gs P L s G) (hL : L ≤ 24) (hst : s ≤ t) (hte : t ≤ e) (he : e ≤ L)
    (hJ : ∀ xs' ys' ls', dl_T G s (t + 1) ls' → J (nI (t + 1)) (nI L) c cp xs' ys' ls') :
    ∀ d r w xs ys ls, r + d = t → s ≤ r → dl_T G s t ls → ls t = nI w → w ≤ 99 → G t ≤ w → (t = s → w = 0) → (∀ i, s ≤ i → i < r → P i t = true → w ≤ G i + 1) →
      ∀ n, d < n → wY_fewest_52 post J (nI s) (nI e) (nI t) n (nI r) (nI L) c cp xs ys ls := by
  obtain ⟨Ga, Gb, Gc, Gd⟩ := hG
  intro d
  induction d with
  | zero =>
    intro r w xs ys ls hr hs hT hw w1 w2 w3 hall n hn
    obtain ⟨n, rfl⟩ : ∃ m, n = m + 1 := ⟨n - 1, by omega⟩
    refine br_t (nI_le (by omega) (by omega)) (nm_r (nI_1 t) (hJ xs ys ls (dl_al hT ?_)))
    rw [hw]
    have ew : w = G t := by
      by_cases z : t = s
      · rw [w3 z, z, Ga]
      · obtain ⟨i, i1, i2, i3, i4⟩ := Gc t (by omega) (by omega)
        have := hall i i1 (by omega) i3
        omega
    rw [ew]
  | succ d ih =>
    intro r w xs ys ls hr hs hT hw w1 w2 w3 hall n hn
    obtain ⟨n, rfl⟩ : ∃ m, n = m + 1 := ⟨n - 1, by omega⟩
    have hlr := hT r hs (by omega)
    have hgr := Gd r
    refine br_f (nI_ge (by omega) (by omega)) ⟨vp_in_nI (by omega) (by omega), vp_in_nI (by omega) (by omega), ?_⟩
    rw [nI_clamp (n := t) (by omega), nI_clamp (n := r) (by omega)]
    refine pk_le w (G r + 1) (fun z => ?_) (fun z => ?_) hw (by rw [hlr, nI_1]) (by omega) (by omega)
    · exact nm_r (nI_1 r) (ih (r + 1) w xs ys ls (by omega) (by omega) hT hw w1 w2 w3 (dl_al hall (fun _ => z)) n (by omega))
    · refine hY xs ys ls r t _ (by omega) (by omega) (fun hQ xs' ys' => ?_) (fun hQ xs' ys' => ?_)
      · refine br_f (by decide) ⟨vp_in_nI (by omega) (by omega), vp_in_nI (by omega) (by omega), nm_e (nm_r (nI_1 r) ?_)⟩
        refine ih (r + 1) (G r + 1) xs' ys' (upd ls t (ls r + 1)) (by omega) (by omega) (fun i i1 i2 => ?_) ?_ (by omega) (Gb r t hs (by omega) (by omega) hQ) (fun z2 => by omega) (dl_al (fun i i1 i2 i3 => ?_) (fun _ => Nat.le_refl _)) n (by omega)
        · rw [pk_un (by omega)]
          exact hT i i1 i2
        · rw [pk_us, hlr, nI_1]
        · have := hall i i1 i2 i3
          omega
      · exact br_t rfl (nm_r (nI_1 r) (ih (r + 1) w xs' ys' ls (by omega) (by omega) hT hw w1 w2 w3 (dl_al hall (fun q => absurd q hQ)) n (by omega)))
theorem dl_fw21 {P : Nat → Nat → Bool} {L s e : Nat} {G : Nat → Nat} {c cp : Nat → Int32} {post : Int32 → SY → Prop} (hY : dl_IY P L c cp) (hG : dl_Gs P L s G) (hL : L ≤ 24) (hse : s ≤ e) (he : e ≤ L)
    (h : ∀ xs' ys' ls', post (nI (G e)) (nI L, c, cp, xs', ys', ls')) :
    ∀ d t xs ys ls, t + d = e + 1 → s ≤ t → dl_T G s t ls → ∀ n, d < n → wY_fewest_21 post (nI s) (nI e) n (nI t) (nI L) c cp xs ys ls := by
  have Ga := hG.1
  have Gd := hG.2.2.2
  intro d
  induction d with
  | zero =>
    intro t xs ys ls ht hs hT n hn
    obtain ⟨n, rfl⟩ : ∃ m, n = m + 1 := ⟨n - 1, by omega⟩
    refine br_t (nI_lt (by omega) (by omega)) ⟨vp_in_nI (by omega) (by omega), ?_⟩
    rw [nI_clamp (n := e) (by omega), hT e hse (by omega)]
    exact h xs ys ls
  | succ d ih =>
    intro t xs ys ls ht hs hT n hn
    obtain ⟨n, rfl⟩ : ∃ m, n = m + 1 := ⟨n - 1, by omega⟩
    have hJ : ∀ xs' ys' ls', dl_T G s (t + 1) ls' → wY_fewest_21 post (nI s) (nI e) n (nI (t + 1)) (nI L) c cp xs' ys' ls' :=
      fun xs' ys' ls' hT' => ih (t + 1) xs' ys' ls' (by omega) (by omega) hT' n (by omega)
    have hU : ∀ x, dl_T G s t (upd ls t x) := fun x i i1 i2 => by
      rw [pk_un (by omega)]
      exact hT i i1 i2
    have hGt := Gd t
    refine br_f (nI_nlt (by omega) (by omega)) (br_f (nI_ge (b := 25) (by omega) (by decide)) ?_)
    rw [nI_clamp (n := t) (by omega)]
    refine pk_eq t s (fun z => ?_) (fun z => ?_)
    · subst z
      exact ⟨vp_in_nI (by omega) (by omega), nm_e ⟨30, dl_fw52 hY hG hL hs (by omega) he hJ 0 t 0 xs ys _ (by omega) (Nat.le_refl t) (hU 0) pk_us (by omega) (by omega) (fun _ => rfl) (fun i i1 i2 => by omega) 30 (by omega)⟩⟩
    · exact ⟨vp_in_nI (by omega) (by omega), nm_e ⟨30, dl_fw52 hY hG hL hs (by omega) he hJ (t - s) s 99 xs ys _ (by omega) (Nat.le_refl s) (hU 99) pk_us (by omega) (by omega) (fun q => absurd q z) (fun i i1 i2 => by omega) 30 (by omega)⟩⟩
end
section
/-! the tests at the head of the questions -/
theorem dl_px3 (x : Int32) {L : Nat} (hL : L ≤ 24) : x < 0 ∨ nI L < x ∨ ∃ j : Nat, j ≤ L ∧ x = nI j := by
  by_cases h : x < 0
  · exact Or.inl h
  · obtain ⟨j, hj, rfl⟩ := nI_of h
    by_cases h2 : j ≤ L
    · exact Or.inr (Or.inr ⟨j, h2, rfl⟩)
    · exact Or.inr (Or.inl (nI_lt (by omega) hj))
theorem dl_mx3 (x : Int32) {L : Nat} (hL : L ≤ 24) : x < 0 ∨ nI L ≤ x ∨ ∃ j : Nat, j < L ∧ x = nI j := by
  by_cases h : x < 0
  · exact Or.inl h
  · obtain ⟨j, hj, rfl⟩ := nI_of h
    by_cases h2 : j < L
    · exact Or.inr (Or.inr ⟨j, h2, rfl⟩)
    · exact Or.inr (Or.inl (nI_le (by omega) hj))
theorem dl_pc4 (x y : Int32) {L : Nat} (hL : L ≤ 24) : x < 0 ∨ (¬ x < 0 ∧ y < x) ∨ (¬ x < 0 ∧ ¬ y < x ∧ nI L < y) ∨ ∃ s e : Nat, s ≤ e ∧ e ≤ L ∧ x = nI s ∧ y = nI e := by
  by_cases h1 : x < 0
  · exact Or.inl h1
  · by_cases h2 : y < x
    · exact Or.inr (Or.inl ⟨h1, h2⟩)
    · by_cases h3 : nI L < y
      · exact Or.inr (Or.inr (Or.inl ⟨h1, h2, h3⟩))
      · obtain ⟨s, hs, rfl⟩ := nI_of h1
        have h4 : ¬ y < 0 := by
          have e0 : (0 : Int32).toInt = 0 := by decide
          rw [Int32.lt_iff_toInt_lt, nI_toInt hs] at h2
          rw [Int32.lt_iff_toInt_lt, e0]
          omega
        obtain ⟨e, he, rfl⟩ := nI_of h4
        rw [nI_ltI he hs] at h2
        rw [nI_ltI (by omega) he] at h3
        exact Or.inr (Or.inr (Or.inr ⟨s, e, by omega, by omega, rfl, rfl⟩))
theorem dl_mx2 (x : Int32) {L : Nat} (hL : L ≤ 24) : (x < 0 ∨ nI L ≤ x) ∨ ∃ j : Nat, j < L ∧ x = nI j := by
  rcases dl_mx3 x hL with h | h | h
  · exact Or.inl (Or.inl h)
  · exact Or.inl (Or.inr h)
  · exact Or.inr h
theorem dl_px2 (x : Int32) {L : Nat} (hL : L ≤ 24) : (x < 0 ∨ nI L < x) ∨ ∃ j : Nat, j ≤ L ∧ x = nI j := by
  rcases dl_px3 x hL with h | h | h
  · exact Or.inl (Or.inl h)
  · exact Or.inl (Or.inr h)
  · exact Or.inr h
theorem dl_mnX0 {post : Int32 → Prop} {L : Nat} {c ax ay : Nat → Int32} {x : Int32} (h : x < 0 ∨ nI L ≤ x) (h0 : post 0) : wpX_isMoveNumber post (nI L, c, ax, ay) x :=
  ⟨fun _ => h0, fun z => br_t (h.resolve_left z) h0⟩
theorem dl_mnX1 {post : Int32 → Prop} {L j : Nat} {c ax ay : Nat → Int32} (hL : L ≤ 24) (hj : j < L) (h1 : post 1) : wpX_isMoveNumber post (nI L, c, ax, ay) (nI j) :=
  br_f (nI_pos (by omega)) (br_f (nI_ge (by omega) (by omega)) h1)
theorem dl_pnX0 {post : Int32 → Prop} {L : Nat} {c ax ay : Nat → Int32} {x : Int32} (h : x < 0 ∨ nI L < x) (h0 : post 0) : wpX_isPointNumber post (nI L, c, ax, ay) x :=
  ⟨fun _ => h0, fun z => br_t (h.resolve_left z) h0⟩
theorem dl_pnX1 {post : Int32 → Prop} {L j : Nat} {c ax ay : Nat → Int32} (hL : L ≤ 24) (hj : j ≤ L) (h1 : post 1) : wpX_isPointNumber post (nI L, c, ax, ay) (nI j) :=
  br_f (nI_pos (by omega)) (br_f (nI_nlt (by omega) (by omega)) h1)
theorem dl_mnY0 {post : Int32 → Prop} {L : Nat} {c cp xs ys ls : Nat → Int32} {x : Int32} (h : x < 0 ∨ nI L ≤ x) (h1 : post 1) : wpY_noMove post (nI L, c, cp, xs, ys, ls) x :=
  ⟨fun _ => h1, fun z => br_t (h.resolve_left z) h1⟩
theorem dl_mnY1 {post : Int32 → Prop} {L j : Nat} {c cp xs ys ls : Nat → Int32} (hL : L ≤ 24) (hj : j < L) (h0 : post 0) : wpY_noMove post (nI L, c, cp, xs, ys, ls) (nI j) :=
  br_f (nI_pos (by omega)) (br_f (nI_ge (by omega) (by omega)) (br_t (nI_lt (b := 24) (by omega) (by decide)) h0))
theorem dl_pnY0 {post : Int32 → Prop} {L : Nat} {c cp xs ys ls : Nat → Int32} {x : Int32} (h : x < 0 ∨ nI L < x) (h1 : post 1) : wpY_noPoint post (nI L, c, cp, xs, ys, ls) x :=
  ⟨fun _ => h1, fun z => br_t (h.resolve_left z) h1⟩
theorem dl_pnY1 {post : Int32 → Prop} {L j : Nat} {c cp xs ys ls : Nat → Int32} (hL : L ≤ 24) (hj : j ≤ L) (h0 : post 0) : wpY_noPoint post (nI L, c, cp, xs, ys, ls) (nI j) :=
  br_f (nI_pos (by omega)) (br_f (nI_nlt (by omega) (by omega)) (br_t (nI_le (b := 24) (by omega) (by decide)) h0))
/-- (x, y) isn't a piece -/
def dl_np (L : Nat) (x y : Int32) : Prop := x < 0 ∨ (¬ x < 0 ∧ y < x) ∨ (¬ x < 0 ∧ ¬ y < x ∧ nI L < y)
theorem dl_pc2 (x y : Int32) {L : Nat} (hL : L ≤ 24) : dl_np L x y ∨ ∃ s e : Nat, s ≤ e ∧ e ≤ L ∧ x = nI s ∧ y = nI e := by
  rcases dl_pc4 x y hL with h | h | h | h
  · exact Or.inl (Or.inl h)
  · exact Or.inl (Or.inr (Or.inl h))
  · exact Or.inl (Or.inr (Or.inr h))
  · exact Or.inr h
theorem dl_ipX0 {post : Int32 → Prop} {L : Nat} {c ax ay : Nat → Int32} {x y : Int32} (h : dl_np L x y) (h0 : post 0) : wpX_isPiece post (nI L, c, ax, ay) x y := by
  rcases h with h | ⟨h, h2⟩ | ⟨h, h2, h3⟩
  · exact br_t h h0
  · exact br_f h (br_t h2 h0)
  · exact br_f h (br_f h2 (br_t h3 h0))
theorem dl_ipX1 {post : Int32 → Prop} {L s e : Nat} {c ax ay : Nat → Int32} (hL : L ≤ 24) (hs : s ≤ e) (he : e ≤ L) (h1 : post 1) : wpX_isPiece post (nI L, c, ax, ay) (nI s) (nI e) :=
  br_f (nI_pos (by omega)) (br_f (nI_nlt (by omega) (by omega)) (br_f (nI_nlt (by omega) (by omega)) h1))
/-! the relation -/
/-- both hold the same moves, all of 0 .. 7; the component's points are those of its moves -/
def i_Rel (k : Nat) (u : SX) (v : SY) : Prop := ∃ (L : Nat) (c ax ay cp xs ys ls : Nat → Int32), L ≤ 24 ∧ dl_ok c ∧ dl_pt L c ax ay ∧ u = (nI L, c, ax, ay) ∧ v = (nI L, c, cp, xs, ys, ls)
theorem i_up {k : Nat} {u : SX} {v : SY} (h : i_Rel k u v) : i_Rel (k + 4) u v := h
theorem i_vc0 : wpX_init (fun u => wpY_init (fun v => i_Rel 0 u v)) :=
  ⟨0, _, _, _, _, _, _, _, by omega, fun j => ⟨0, by omega, rfl⟩, fun j hj => by
    have e : j = 0 := by omega
    subst e
    exact ⟨rfl, rfl⟩, rfl, rfl⟩
theorem dl_mIX {L : Nat} {c ax ay : Nat → Int32} (hc : dl_ok c) (hp : dl_pt L c ax ay) (hL : L ≤ 24) : dl_IX (dl_P c) L c ax ay :=
  fun s e post hse he h1 h0 => dl_isX hc hp hL hse he (fun h => h1 (dl_Pt.mpr h)) (fun h => h0 (fun q => h (dl_Pt.mp q)))
theorem dl_mIY {L : Nat} {c cp : Nat → Int32} (hc : dl_ok c) (hL : L ≤ 24) : dl_IY (dl_P c) L c cp :=
  fun xs ys ls s e post hse he h1 h0 => dl_isY hc hL hse he (fun h => h1 (dl_Pt.mpr h)) (fun h => h0 (fun q => h (dl_Pt.mp q)))
theorem dl_mMo {L : Nat} {c : Nat → Int32} (hc : dl_ok c) (hL : L ≤ 24) : dl_Mo (dl_P c) L :=
  ⟨fun s hs => dl_Pt.mpr (dl_St1 hc (by omega)), fun s e s' e' h a b => dl_Pt.mpr (dl_StM (dl_Pt.mp h) a b)⟩
end
section
/-! the questions -/
theorem i_vc_moves {k : Nat} {u : SX} {v : SY} (I : i_Rel k u v) (hk : k + 4 ≤ 2048) : wpX_moves (fun r => wpY_moves (fun r' => r' = r ∧ i_Rel (k + 4) u v) v) u := by
  have I' := I
  obtain ⟨L, c, ax, ay, cp, xs, ys, ls, hL, hc, hp, rfl, rfl⟩ := I
  exact ⟨rfl, I'⟩
theorem i_vc_moveAt {k : Nat} {u : SX} {v : SY} (I : i_Rel k u v) (hk : k + 4 ≤ 2048) (v1 : Int32) : wpX_moveAt (fun r => wpY_moveAt (fun r' => r' = r ∧ i_Rel (k + 4) u v) v v1) u v1 := by
  have I' := I
  obtain ⟨L, c, ax, ay, cp, xs, ys, ls, hL, hc, hp, rfl, rfl⟩ := I
  unfold wpX_moveAt wpY_moveAt
  dsimp only
  rcases dl_mx2 v1 hL with h | ⟨j, hj, rfl⟩
  · exact dl_mnX0 h (br_t rfl (dl_mnY0 h (br_f (by decide) ⟨rfl, I'⟩)))
  · exact dl_mnX1 hL hj (br_f (by decide) ⟨vp_in_nI (by omega) (by omega), dl_mnY1 hL hj (br_t rfl ⟨vp_in_nI (by omega) (by omega), rfl, I'⟩)⟩)
theorem i_vc_pointX {k : Nat} {u : SX} {v : SY} (I : i_Rel k u v) (hk : k + 4 ≤ 2048) (v1 : Int32) : wpX_pointX (fun r => wpY_pointX (fun r' v' => r' = r ∧ i_Rel (k + 4) u v') v v1) u v1 := by
  have I' := I
  obtain ⟨L, c, ax, ay, cp, xs, ys, ls, hL, hc, hp, rfl, rfl⟩ := I
  have R : ∀ xs' ys' ls', i_Rel (k + 4) (nI L, c, ax, ay) (nI L, c, cp, xs', ys', ls') := fun xs' ys' ls' => ⟨L, c, ax, ay, cp, xs', ys', ls', hL, hc, hp, rfl, rfl⟩
  unfold wpX_pointX wpY_pointX
  dsimp only
  rcases dl_px2 v1 hL with h | ⟨j, hj, rfl⟩
  · exact dl_pnX0 h (br_t rfl (dl_pnY0 h (br_f (by decide) ⟨rfl, I'⟩)))
  · refine dl_pnX1 hL hj (br_f (by decide) ⟨vp_in_nI (by omega) (by omega), dl_pnY1 hL hj (br_t rfl (dl_wkY hL (fun xs' ys' hp' => ⟨vp_in_nI (by omega) (by omega), ?_, R xs' ys' ls⟩)))⟩)
    rw [nI_clamp (by omega), (hp j hj).1]
    exact (hp' j hj).1
theorem i_vc_pointY {k : Nat} {u : SX} {v : SY} (I : i_Rel k u v) (hk : k + 4 ≤ 2048) (v1 : Int32) : wpX_pointY (fun r => wpY_pointY (fun r' v' => r' = r ∧ i_Rel (k + 4) u v') v v1) u v1 := by
  have I' := I
  obtain ⟨L, c, ax, ay, cp, xs, ys, ls, hL, hc, hp, rfl, rfl⟩ := I
  have R : ∀ xs' ys' ls', i_Rel (k + 4) (nI L, c, ax, ay) (nI L, c, cp, xs', ys', ls') := fun xs' ys' ls' => ⟨L, c, ax, ay, cp, xs', ys', ls', hL, hc, hp, rfl, rfl⟩
  unfold wpX_pointY wpY_pointY
  dsimp only
  rcases dl_px2 v1 hL with h | ⟨j, hj, rfl⟩
  · exact dl_pnX0 h (br_t rfl (dl_pnY0 h (br_f (by decide) ⟨rfl, I'⟩)))
  · refine dl_pnX1 hL hj (br_f (by decide) ⟨vp_in_nI (by omega) (by omega), dl_pnY1 hL hj (br_t rfl (dl_wkY hL (fun xs' ys' hp' => ⟨vp_in_nI (by omega) (by omega), ?_, R xs' ys' ls⟩)))⟩)
    rw [nI_clamp (by omega), (hp j hj).2]
    exact (hp' j hj).2
theorem i_vc_straight {k : Nat} {u : SX} {v : SY} (I : i_Rel k u v) (hk : k + 4 ≤ 2048) (v1 : Int32) (v2 : Int32) : wpX_straight (fun r => wpY_straight (fun r' v' => r' = r ∧ i_Rel (k + 4) u v') v v1 v2) u v1 v2 := by
  have I' := I
  obtain ⟨L, c, ax, ay, cp, xs, ys, ls, hL, hc, hp, rfl, rfl⟩ := I
  have R : ∀ xs' ys' ls', i_Rel (k + 4) (nI L, c, ax, ay) (nI L, c, cp, xs', ys', ls') := fun xs' ys' ls' => ⟨L, c, ax, ay, cp, xs', ys', ls', hL, hc, hp, rfl, rfl⟩
  have hX := dl_mIX hc hp hL
  have hY := dl_mIY (cp := cp) hc hL
  have hM := dl_mMo hc hL
  unfold wpX_straight
  dsimp only
  rcases dl_pc2 v1 v2 hL with h | ⟨s, e, hse, he, rfl, rfl⟩
  · refine dl_ipX0 h (br_t rfl ?_)
    rcases h with h | ⟨h, h2⟩ | ⟨h, h2, h3⟩
    · exact br_t h ⟨rfl, I'⟩
    · exact br_f h (br_t h2 ⟨rfl, I'⟩)
    · exact br_f h (br_f h2 (br_f (Int32.not_le.mpr h3) ⟨rfl, I'⟩))
  · refine dl_ipX1 hL hse he (br_f (by decide) ?_)
    have y : ∀ post : Int32 → SY → Prop, (dl_P c s e = true → ∀ xs' ys', post 1 (nI L, c, cp, xs', ys', ls)) → (¬ dl_P c s e = true → ∀ xs' ys', post 0 (nI L, c, cp, xs', ys', ls)) → wpY_straight post (nI L, c, cp, xs, ys, ls) (nI s) (nI e) :=
      fun post h1 h0 => br_f (nI_pos (by omega)) (br_f (nI_nlt (by omega) (by omega)) (br_t (nI_le (by omega) (by omega)) (hY xs ys ls s e _ hse he (fun q xs' ys' => br_f (by decide) (h1 q xs' ys')) (fun q xs' ys' => br_t rfl (h0 q xs' ys')))))
    refine hX s e _ hse he (fun q => br_f (by decide) ?_) (fun q => br_t rfl ?_)
    · exact y _ (fun _ xs' ys' => ⟨rfl, R xs' ys' ls⟩) (fun q' => absurd q q')
    · exact y _ (fun q' => absurd q' q) (fun _ xs' ys' => ⟨rfl, R xs' ys' ls⟩)
theorem i_vc_reach {k : Nat} {u : SX} {v : SY} (I : i_Rel k u v) (hk : k + 4 ≤ 2048) (v1 : Int32) : wpX_reach (fun r => wpY_reach (fun r' v' => r' = r ∧ i_Rel (k + 4) u v') v v1) u v1 := by
  have I' := I
  obtain ⟨L, c, ax, ay, cp, xs, ys, ls, hL, hc, hp, rfl, rfl⟩ := I
  have R : ∀ xs' ys' ls', i_Rel (k + 4) (nI L, c, ax, ay) (nI L, c, cp, xs', ys', ls') := fun xs' ys' ls' => ⟨L, c, ax, ay, cp, xs', ys', ls', hL, hc, hp, rfl, rfl⟩
  have hX := dl_mIX hc hp hL
  have hY := dl_mIY (cp := cp) hc hL
  have hM := dl_mMo hc hL
  unfold wpX_reach wpY_reach
  dsimp only
  rcases dl_px2 v1 hL with h | ⟨j, hj, rfl⟩
  · exact dl_pnX0 h (br_t rfl (dl_pnY0 h (br_f (by decide) ⟨rfl, I'⟩)))
  · exact dl_pnX1 hL hj (br_f (by decide) (dl_farX hX hL hj (dl_pnY1 hL hj (br_t rfl (dl_farY hY hL hj (fun xs' ys' => ⟨rfl, R xs' ys' ls⟩))))))
theorem i_vc_reachBack {k : Nat} {u : SX} {v : SY} (I : i_Rel k u v) (hk : k + 4 ≤ 2048) (v1 : Int32) : wpX_reachBack (fun r => wpY_reachBack (fun r' v' => r' = r ∧ i_Rel (k + 4) u v') v v1) u v1 := by
  have I' := I
  obtain ⟨L, c, ax, ay, cp, xs, ys, ls, hL, hc, hp, rfl, rfl⟩ := I
  have R : ∀ xs' ys' ls', i_Rel (k + 4) (nI L, c, ax, ay) (nI L, c, cp, xs', ys', ls') := fun xs' ys' ls' => ⟨L, c, ax, ay, cp, xs', ys', ls', hL, hc, hp, rfl, rfl⟩
  have hX := dl_mIX hc hp hL
  have hY := dl_mIY (cp := cp) hc hL
  have hM := dl_mMo hc hL
  unfold wpX_reachBack wpY_reachBack
  dsimp only
  rcases dl_px2 v1 hL with h | ⟨j, hj, rfl⟩
  · exact dl_pnX0 h (br_t rfl (dl_pnY0 h (br_f (by decide) ⟨rfl, I'⟩)))
  · exact dl_pnX1 hL hj (br_f (by decide) (dl_bkX hX hL hj (dl_pnY1 hL hj (br_t rfl ⟨30, dl_bkY12 hY hL hj j xs ys (Nat.le_refl j) (fun xs' ys' => ⟨rfl, R xs' ys' ls⟩) 30 (by omega)⟩))))
theorem i_vc_pieces {k : Nat} {u : SX} {v : SY} (I : i_Rel k u v) (hk : k + 4 ≤ 2048) : wpX_pieces (fun r => wpY_pieces (fun r' v' => r' = r ∧ i_Rel (k + 4) u v') v) u := by
  have I' := I
  obtain ⟨L, c, ax, ay, cp, xs, ys, ls, hL, hc, hp, rfl, rfl⟩ := I
  have R : ∀ xs' ys' ls', i_Rel (k + 4) (nI L, c, ax, ay) (nI L, c, cp, xs', ys', ls') := fun xs' ys' ls' => ⟨L, c, ax, ay, cp, xs', ys', ls', hL, hc, hp, rfl, rfl⟩
  have hX := dl_mIX hc hp hL
  have hY := dl_mIY (cp := cp) hc hL
  have hM := dl_mMo hc hL
  unfold wpX_pieces wpY_pieces
  dsimp only
  refine dl_gcX hX hM hL (s := 0) (e := L) (by omega) (Nat.le_refl L) ?_
  exact ⟨30, dl_pcY hY hL 24 0 0 0 xs ys rfl (by omega) (fun xs' ys' => ⟨by rw [Nat.zero_add], R xs' ys' ls⟩) 30 (by omega)⟩
theorem i_vc_pieceEnd {k : Nat} {u : SX} {v : SY} (I : i_Rel k u v) (hk : k + 4 ≤ 2048) (v1 : Int32) : wpX_pieceEnd (fun r => wpY_pieceEnd (fun r' v' => r' = r ∧ i_Rel (k + 4) u v') v v1) u v1 := by
  have I' := I
  obtain ⟨L, c, ax, ay, cp, xs, ys, ls, hL, hc, hp, rfl, rfl⟩ := I
  have R : ∀ xs' ys' ls', i_Rel (k + 4) (nI L, c, ax, ay) (nI L, c, cp, xs', ys', ls') := fun xs' ys' ls' => ⟨L, c, ax, ay, cp, xs', ys', ls', hL, hc, hp, rfl, rfl⟩
  have hX := dl_mIX hc hp hL
  have hY := dl_mIY (cp := cp) hc hL
  have hM := dl_mMo hc hL
  unfold wpX_pieceEnd wpY_pieceEnd
  dsimp only
  rcases dl_mx2 v1 hL with h | ⟨j, hj, rfl⟩
  · have y : ∃ n4, wY_pieceEnd_4 (fun r' v' => r' = -1 ∧ i_Rel (k + 4) (nI L, c, ax, ay) v') v1 n4 0 0 (nI L) c cp xs ys ls := by
      refine ⟨30, dl_peN hY hM hL (fun j hj e => ?_) (fun xs' ys' => ⟨rfl, R xs' ys' ls⟩) 24 0 0 xs ys rfl (by omega) (Nat.le_refl 0) 30 (by omega)⟩
      subst e
      rcases h with h | h
      · exact nI_pos (by omega) h
      · exact nI_ge hj (by omega) h
    refine ⟨fun _ => y, fun z => br_f ?_ y⟩
    exact Int32.not_lt.mpr (h.resolve_left z)
  · exact br_f (nI_pos (by omega)) (br_t (nI_lt hj (by omega)) ⟨30, dl_peX hX hL hj (j + 1) 0 0 (by omega) (by omega) ⟨30, dl_peY hY hL hj j 0 0 xs ys (by omega) (by omega) (fun xs' ys' => ⟨rfl, R xs' ys' ls⟩) 30 (by omega)⟩ 30 (by omega)⟩)
theorem i_vc_fewest {k : Nat} {u : SX} {v : SY} (I : i_Rel k u v) (hk : k + 4 ≤ 2048) (v1 : Int32) (v2 : Int32) : wpX_fewest (fun r => wpY_fewest (fun r' v' => r' = r ∧ i_Rel (k + 4) u v') v v1 v2) u v1 v2 := by
  have I' := I
  obtain ⟨L, c, ax, ay, cp, xs, ys, ls, hL, hc, hp, rfl, rfl⟩ := I
  have R : ∀ xs' ys' ls', i_Rel (k + 4) (nI L, c, ax, ay) (nI L, c, cp, xs', ys', ls') := fun xs' ys' ls' => ⟨L, c, ax, ay, cp, xs', ys', ls', hL, hc, hp, rfl, rfl⟩
  have hX := dl_mIX hc hp hL
  have hY := dl_mIY (cp := cp) hc hL
  have hM := dl_mMo hc hL
  unfold wpX_fewest
  dsimp only
  rcases dl_pc2 v1 v2 hL with h | ⟨s, e, hse, he, rfl, rfl⟩
  · refine dl_ipX0 h (br_t rfl ?_)
    rcases h with h | ⟨h, h2⟩ | ⟨h, h2, h3⟩
    · exact br_t h ⟨rfl, I'⟩
    · exact br_f h (br_t h2 ⟨rfl, I'⟩)
    · exact br_f h (br_f h2 (br_f (Int32.not_le.mpr h3) ⟨rfl, I'⟩))
  · refine dl_ipX1 hL hse he (br_f (by decide) (dl_gcX hX hM hL hse he ?_))
    exact br_f (nI_pos (by omega)) (br_f (nI_nlt (by omega) (by omega)) (br_t (nI_le (by omega) (by omega)) ⟨60, dl_fw21 hY (dl_GsI hM hL) hL hse he (fun xs' ys' ls' => ⟨rfl, R xs' ys' ls'⟩) (e + 1 - s) s xs ys ls (by omega) (Nat.le_refl s) (fun i i1 i2 => by omega) 60 (by omega)⟩))
theorem i_vc_longest {k : Nat} {u : SX} {v : SY} (I : i_Rel k u v) (hk : k + 4 ≤ 2048) : wpX_longest (fun r => wpY_longest (fun r' v' => r' = r ∧ i_Rel (k + 4) u v') v) u := by
  have I' := I
  obtain ⟨L, c, ax, ay, cp, xs, ys, ls, hL, hc, hp, rfl, rfl⟩ := I
  have R : ∀ xs' ys' ls', i_Rel (k + 4) (nI L, c, ax, ay) (nI L, c, cp, xs', ys', ls') := fun xs' ys' ls' => ⟨L, c, ax, ay, cp, xs', ys', ls', hL, hc, hp, rfl, rfl⟩
  have hX := dl_mIX hc hp hL
  have hY := dl_mIY (cp := cp) hc hL
  have hM := dl_mMo hc hL
  exact ⟨30, dl_lgX hX hL L 0 0 (by omega) (by omega) ⟨30, dl_lgY hY hL L 0 0 xs ys (by omega) (by omega) (fun xs' ys' => ⟨rfl, R xs' ys' ls⟩) 30 (by omega)⟩ 30 (by omega)⟩
theorem i_vc_maximal {k : Nat} {u : SX} {v : SY} (I : i_Rel k u v) (hk : k + 4 ≤ 2048) : wpX_maximal (fun r => wpY_maximal (fun r' v' => r' = r ∧ i_Rel (k + 4) u v') v) u := by
  have I' := I
  obtain ⟨L, c, ax, ay, cp, xs, ys, ls, hL, hc, hp, rfl, rfl⟩ := I
  have R : ∀ xs' ys' ls', i_Rel (k + 4) (nI L, c, ax, ay) (nI L, c, cp, xs', ys', ls') := fun xs' ys' ls' => ⟨L, c, ax, ay, cp, xs', ys', ls', hL, hc, hp, rfl, rfl⟩
  have hX := dl_mIX hc hp hL
  have hY := dl_mIY (cp := cp) hc hL
  have hM := dl_mMo hc hL
  exact ⟨30, dl_mxX hX hM hL L 0 0 0 (by omega) rfl ⟨30, dl_mxY hY hM hL L 0 0 xs ys (by omega) (fun xs' ys' => ⟨rfl, R xs' ys' ls⟩) 30 (by omega)⟩ 30 (by omega)⟩
end
section
/-! the calls that change the curve: points, push, pop, set, turn -/
theorem dl_dir2 (x : Int32) : (x < 0 ∨ (¬ x < 0 ∧ 8 ≤ x ∧ ¬ x ≤ 7)) ∨ dl_ok1 x := by
  by_cases h : x < 0
  · exact Or.inl (Or.inl h)
  · obtain ⟨j, hj, rfl⟩ := nI_of h
    by_cases h2 : j < 8
    · exact Or.inr ⟨j, h2, rfl⟩
    · exact Or.inl (Or.inr ⟨h, nI_le (a := 8) (by omega) hj, nI_ge (a := 7) (by omega) hj⟩)
theorem dl_dnX0 {post : Int32 → Prop} {x : Int32} (h : x < 0 ∨ (¬ x < 0 ∧ 8 ≤ x ∧ ¬ x ≤ 7)) (h0 : post 0) : wpX_isDirection post x :=
  h.elim (fun z => br_t z h0) (fun z => br_f z.1 (br_t z.2.1 h0))
theorem dl_dnX1 {post : Int32 → Prop} {x : Int32} (h : dl_ok1 x) (h1 : post 1) : wpX_isDirection post x := by
  obtain ⟨a, ha, rfl⟩ := h
  exact br_f (nI_pos (by omega)) (br_f (nI_ge (b := 8) ha (by decide)) h1)
theorem dl_bmY0 {post : Int32 → Prop} {x : Int32} {u : SY} (h : x < 0 ∨ (¬ x < 0 ∧ 8 ≤ x ∧ ¬ x ≤ 7)) (h1 : post 1) : wpY_badMove post u x := by
  obtain ⟨a, b, c, d, e, f⟩ := u
  exact h.elim (fun z => br_t z h1) (fun z => br_f z.1 (br_f z.2.2 h1))
theorem dl_bmY1 {post : Int32 → Prop} {x : Int32} {u : SY} (h : dl_ok1 x) (h0 : post 0) : wpY_badMove post u x := by
  obtain ⟨a, b, c, d, e, f⟩ := u
  obtain ⟨a, ha, rfl⟩ := h
  exact br_f (nI_pos (by omega)) (br_t (nI_le (b := 7) (by omega) (by decide)) h0)
theorem dl_ppX {post : SX → Prop} {fl : Int32} {c ax ay : Nat → Int32} {k : Nat} (hk : k < 24) (hc : dl_ok1 (c k))
    (h : post (fl, c, upd ax (k + 1) (ax k + dl_sx (c k)), upd ay (k + 1) (ay k + dl_sy (c k)))) : wpX_placePoint post (fl, c, ax, ay) (nI (k + 1)) := by
  unfold wpX_placePoint
  dsimp only
  rw [nI_pred, nI_clamp (n := k) (by omega), nI_clamp (n := k + 1) (by omega)]
  exact ⟨vp_in_nI (by omega) (by omega), nm_e ⟨vp_in_nI (by omega) (by omega), dl_sxX hc ⟨vp_in_nI (by omega) (by omega), nm_e ⟨vp_in_nI (by omega) (by omega), dl_syX hc ⟨vp_in_nI (by omega) (by omega), nm_e h⟩⟩⟩⟩⟩
theorem dl_ps2 {post : SX → Prop} {L : Nat} {c : Nat → Int32} (hL : L ≤ 24) (hc : dl_ok c) (h : ∀ ax' ay', dl_pt L c ax' ay' → post (nI L, c, ax', ay')) :
    ∀ d k ax ay, k + d = L → dl_pt k c ax ay → ∀ n, d < n → wX_placePoints_2 post n (nI (k + 1)) (nI L) c ax ay := by
  intro d
  induction d with
  | zero =>
    intro k ax ay hk hp n hn
    obtain ⟨n, rfl⟩ : ∃ m, n = m + 1 := ⟨n - 1, by omega⟩
    have e : k = L := by omega
    subst e
    exact br_t (nI_lt (by omega) (by omega)) (h ax ay hp)
  | succ d ih =>
    intro k ax ay hk hp n hn
    obtain ⟨n, rfl⟩ : ∃ m, n = m + 1 := ⟨n - 1, by omega⟩
    exact br_f (nI_nlt (by omega) (by omega)) (dl_ppX (by omega) (hc k) (nm_r (nI_1 (k + 1)) (ih (k + 1) _ _ (by omega) (dl_ptU hp) n (by omega))))
theorem dl_psX {post : SX → Prop} {L : Nat} {c ax ay : Nat → Int32} (hL : L ≤ 24) (hc : dl_ok c) (h0 : ax 0 = 0 ∧ ay 0 = 0) (h : ∀ ax' ay', dl_pt L c ax' ay' → post (nI L, c, ax', ay')) :
    wpX_placePoints post (nI L, c, ax, ay) :=
  ⟨30, dl_ps2 hL hc h L 0 ax ay (by omega) (fun j hj => by
    have e : j = 0 := by omega
    subst e
    exact h0) 30 (by omega)⟩
theorem dl_okU {c : Nat → Int32} {k : Nat} {m : Int32} (hc : dl_ok c) (hm : dl_ok1 m) : dl_ok (upd c k m) := by
  intro j
  by_cases z : j = k
  · rw [z, pk_us]
    exact hm
  · rw [pk_un z]
    exact hc j
theorem dl_ptK {L : Nat} {c d ax ay : Nat → Int32} (hp : dl_pt L c ax ay) (h : ∀ i, i < L → d i = c i) : dl_pt L d ax ay := by
  intro j hj
  rw [dl_pxc (c := d) (d := c) j (fun i hi => h i (by omega)), dl_pyc (c := d) (d := c) j (fun i hi => h i (by omega))]
  exact hp j hj
theorem dl_apX {post : SX → Prop} {L : Nat} {c ax ay : Nat → Int32} {m : Int32} (hL : L < 24) (hm : dl_ok1 m) (hp : dl_pt L c ax ay)
    (h : ∀ ax' ay', dl_pt (L + 1) (upd c L m) ax' ay' → post (nI (L + 1), upd c L m, ax', ay')) : wpX_append post (nI L, c, ax, ay) m := by
  unfold wpX_append
  dsimp only
  rw [nI_1, nI_clamp (n := L) (by omega)]
  have hp' : dl_pt L (upd c L m) ax ay := dl_ptK hp (fun i hi => pk_un (by omega))
  exact ⟨vp_in_nI (by omega) (by omega), nm_e (nm_e (dl_ppX hL (by rw [pk_us]; exact hm) (h _ _ (dl_ptU hp'))))⟩
theorem i_vc_push {k : Nat} {u : SX} {v : SY} (I : i_Rel k u v) (hk : k + 4 ≤ 2048) (v1 : Int32) : wpX_push (fun r u' => wpY_push (fun r' v' => r' = r ∧ i_Rel (k + 4) u' v') v v1) u v1 := by
  have I' := I
  obtain ⟨L, c, ax, ay, cp, xs, ys, ls, hL, hc, hp, rfl, rfl⟩ := I
  unfold wpX_push wpY_push
  dsimp only
  rcases dl_dir2 v1 with h | h
  · exact dl_dnX0 h (br_t rfl (dl_bmY0 h (br_f (by decide) ⟨rfl, I'⟩)))
  · refine dl_dnX1 h (br_f (by decide) ?_)
    by_cases z : L < 24
    · refine br_t (nI_lt (b := 24) z (by decide)) (dl_apX z h hp (fun ax' ay' hp' => dl_bmY1 h (br_t rfl (br_t (nI_lt (b := 24) z (by decide)) ⟨vp_in_nI z (by omega), ?_⟩))))
      rw [nI_1, nI_clamp (n := L) (by omega)]
      exact nm_e (nm_e ⟨rfl, L + 1, upd c L v1, ax', ay', cp, xs, ys, ls, by omega, dl_okU hc h, hp', rfl, rfl⟩)
    · exact br_f (nI_nlt (b := 24) (by omega) (by omega)) (dl_bmY1 h (br_t rfl (br_f (nI_nlt (b := 24) (by omega) (by omega)) ⟨rfl, I'⟩)))
theorem i_vc_pop {k : Nat} {u : SX} {v : SY} (I : i_Rel k u v) (hk : k + 4 ≤ 2048) (v1 : Int32) : wpX_pop (fun r u' => wpY_pop (fun r' v' => r' = r ∧ i_Rel (k + 4) u' v') v v1) u v1 := by
  have I' := I
  obtain ⟨L, c, ax, ay, cp, xs, ys, ls, hL, hc, hp, rfl, rfl⟩ := I
  unfold wpX_pop wpY_pop
  dsimp only
  rcases dl_px3 v1 hL with h | h | ⟨j, hj, rfl⟩
  · exact br_t h (br_t h ⟨rfl, I'⟩)
  · have h0 : ¬ v1 < 0 := by
      rw [Int32.lt_iff_toInt_lt, nI_toInt (by omega)] at h
      have e0 : (0 : Int32).toInt = 0 := by decide
      rw [Int32.lt_iff_toInt_lt, e0]
      omega
    have h1 : ¬ v1 ≤ nI L := Int32.not_le.mpr h
    exact br_f h0 (br_f h1 (br_f h0 (br_f h1 ⟨rfl, I'⟩)))
  · rw [pk_sub hj]
    have h0 : ¬ nI j < 0 := nI_pos (by omega)
    have h1 : nI j ≤ nI L := nI_le hj (by omega)
    exact br_f h0 (br_t h1 (nm_e (br_f h0 (br_t h1 (nm_e ⟨rfl, L - j, c, ax, ay, cp, xs, ys, ls, by omega, hc, fun i hi => hp i (by omega), rfl, rfl⟩)))))
theorem i_vc_set {k : Nat} {u : SX} {v : SY} (I : i_Rel k u v) (hk : k + 4 ≤ 2048) (v1 : Int32) (v2 : Int32) : wpX_set (fun r u' => wpY_set (fun r' v' => r' = r ∧ i_Rel (k + 4) u' v') v v1 v2) u v1 v2 := by
  have I' := I
  obtain ⟨L, c, ax, ay, cp, xs, ys, ls, hL, hc, hp, rfl, rfl⟩ := I
  unfold wpX_set wpY_set
  dsimp only
  rcases dl_mx2 v1 hL with h | ⟨j, hj, rfl⟩
  · exact dl_mnX0 h (br_t rfl (dl_mnY0 h (br_f (by decide) ⟨rfl, I'⟩)))
  · refine dl_mnX1 hL hj (br_f (by decide) ?_)
    rcases dl_dir2 v2 with h | h
    · exact dl_dnX0 h (br_t rfl (dl_mnY1 hL hj (br_t rfl (dl_bmY0 h (br_f (by decide) ⟨rfl, I'⟩)))))
    · have h0 : ax 0 = 0 ∧ ay 0 = 0 := hp 0 (by omega)
      have hc' : dl_ok (upd c j v2) := dl_okU hc h
      refine dl_dnX1 h (br_f (by decide) ⟨vp_in_nI (by omega) (by omega), nm_e ⟨vp_in_nI (by omega) (by omega), ?_⟩⟩)
      rw [nI_clamp (n := j) (by omega)]
      refine nm_e (dl_psX hL hc' h0 (fun ax' ay' hp' => dl_mnY1 hL hj (br_t rfl (dl_bmY1 h (br_t rfl ⟨vp_in_nI (by omega) (by omega), nm_e ⟨vp_in_nI (by omega) (by omega), nm_e ?_⟩⟩)))))
      exact ⟨rfl, L, upd c j v2, ax', ay', cp, xs, ys, ls, hL, hc', hp', rfl, rfl⟩
def dl_tn (c : Nat → Int32) (t : Int32) (k : Nat) : Nat → Int32 := fun j => if j < k then (c j + t) &&& 7 else c j
theorem dl_tn0 (c : Nat → Int32) (t : Int32) : dl_tn c t 0 = c := funext fun j => if_neg (by omega)
theorem dl_tnS (c : Nat → Int32) (t : Int32) (k : Nat) : upd (dl_tn c t k) k ((dl_tn c t k k + t) &&& 7) = dl_tn c t (k + 1) := by
  have e : dl_tn c t k k = c k := if_neg (by omega)
  rw [e]
  funext j
  by_cases z : j = k
  · rw [z, pk_us]
    exact (if_pos (by omega)).symm
  · rw [pk_un z]
    show (if j < k then _ else _) = (if j < k + 1 then _ else _)
    by_cases w : j < k
    · rw [if_pos w, if_pos (by omega)]
    · rw [if_neg w, if_neg (by omega)]
theorem dl_and7 (x : Int32) : dl_ok1 (x &&& 7) := by
  obtain ⟨j, hj, e⟩ := pk_andE x (m := 7) 3 (by decide)
  exact ⟨j, by omega, e⟩
theorem dl_tnO {c : Nat → Int32} (hc : dl_ok c) (t : Int32) (k : Nat) : dl_ok (dl_tn c t k) := by
  intro j
  by_cases w : j < k
  · have e : dl_tn c t k j = (c j + t) &&& 7 := if_pos w
    rw [e]
    exact dl_and7 _
  · have e : dl_tn c t k j = c j := if_neg w
    rw [e]
    exact hc j
theorem dl_tuX {post : Int32 → SX → Prop} {L : Nat} {c ax ay : Nat → Int32} {t : Int32} (hL : L ≤ 24) (hc : dl_ok c) (h0 : ax 0 = 0 ∧ ay 0 = 0)
    (h : ∀ ax' ay', dl_pt L (dl_tn c t L) ax' ay' → post (nI L) (nI L, dl_tn c t L, ax', ay')) :
    ∀ d k, k + d = L → ∀ n, d < n → wX_turn_2 post t (nI L) n (nI k) (dl_tn c t k) ax ay := by
  intro d
  induction d with
  | zero =>
    intro k hk n hn
    obtain ⟨n, rfl⟩ : ∃ m, n = m + 1 := ⟨n - 1, by omega⟩
    have e : k = L := by omega
    subst e
    exact br_t (nI_le (Nat.le_refl k) (by omega)) (dl_psX hL (dl_tnO hc t k) h0 (fun ax' ay' hp' => h ax' ay' hp'))
  | succ d ih =>
    intro k hk n hn
    obtain ⟨n, rfl⟩ : ∃ m, n = m + 1 := ⟨n - 1, by omega⟩
    refine br_f (nI_ge (by omega) (by omega)) ⟨vp_in_nI (by omega) (by omega), vp_in_nI (by omega) (by omega), ?_⟩
    rw [nI_clamp (n := k) (by omega)]
    exact nm_r (dl_tnS c t k) (nm_r (nI_1 k) (ih (k + 1) (by omega) n (by omega)))
theorem dl_tuY {post : Int32 → SY → Prop} {L : Nat} {c cp xs ys ls : Nat → Int32} {t : Int32} (hL : L ≤ 24)
    (h : post (nI L) (nI L, dl_tn c t L, cp, xs, ys, ls)) :
    ∀ d k, k + d = L → ∀ n, d < n → wY_turn_2 post t (nI L) n (nI k) (dl_tn c t k) cp xs ys ls := by
  intro d
  induction d with
  | zero =>
    intro k hk n hn
    obtain ⟨n, rfl⟩ : ∃ m, n = m + 1 := ⟨n - 1, by omega⟩
    have e : k = L := by omega
    subst e
    exact br_t (nI_le (Nat.le_refl k) (by omega)) h
  | succ d ih =>
    intro k hk n hn
    obtain ⟨n, rfl⟩ : ∃ m, n = m + 1 := ⟨n - 1, by omega⟩
    refine br_f (nI_ge (by omega) (by omega)) (br_f (nI_ge (b := 24) (by omega) (by decide)) ⟨vp_in_nI (by omega) (by omega), vp_in_nI (by omega) (by omega), ?_⟩)
    rw [nI_clamp (n := k) (by omega)]
    exact nm_r (dl_tnS c t k) (nm_r (nI_1 k) (ih (k + 1) (by omega) n (by omega)))
theorem i_vc_turn {k : Nat} {u : SX} {v : SY} (I : i_Rel k u v) (hk : k + 4 ≤ 2048) (v1 : Int32) : wpX_turn (fun r u' => wpY_turn (fun r' v' => r' = r ∧ i_Rel (k + 4) u' v') v v1) u v1 := by
  have I' := I
  obtain ⟨L, c, ax, ay, cp, xs, ys, ls, hL, hc, hp, rfl, rfl⟩ := I
  have h0 : ax 0 = 0 ∧ ay 0 = 0 := hp 0 (by omega)
  have y : ∀ ax' ay', dl_pt L (dl_tn c v1 L) ax' ay' → wpY_turn (fun r' v' => r' = nI L ∧ i_Rel (k + 4) (nI L, dl_tn c v1 L, ax', ay') v') (nI L, c, cp, xs, ys, ls) v1 := by
    intro ax' ay' hp'
    have h := dl_tuY (post := fun r' v' => r' = nI L ∧ i_Rel (k + 4) (nI L, dl_tn c v1 L, ax', ay') v') (c := c) (cp := cp) (xs := xs) (ys := ys) (ls := ls) (t := v1) hL ⟨rfl, L, dl_tn c v1 L, ax', ay', cp, xs, ys, ls, hL, dl_tnO hc v1 L, hp', rfl, rfl⟩ L 0 (by omega) 30 (by omega)
    rw [dl_tn0] at h
    exact ⟨30, h⟩
  have h := dl_tuX (post := fun r u' => wpY_turn (fun r' v' => r' = r ∧ i_Rel (k + 4) u' v') (nI L, c, cp, xs, ys, ls) v1) (ax := ax) (ay := ay) (t := v1) hL hc h0 y L 0 (by omega) 30 (by omega)
  rw [dl_tn0] at h
  exact ⟨30, h⟩
end
section
/-! reverse -/
/-- the reference's way: the first k moves are new -/
def dl_rd (c : Nat → Int32) (L k : Nat) : Nat → Int32 := fun j => if j < k then (c (L - 1 - j) + 4) &&& 7 else c j
/-- the component's way: the first and the last k moves are new -/
def dl_rc (c : Nat → Int32) (L k : Nat) : Nat → Int32 := fun j => if j < k ∨ (L - 1 - k < j ∧ j < L) then (c (L - 1 - j) + 4) &&& 7 else c j
theorem dl_rd0 (c : Nat → Int32) (L : Nat) : dl_rd c L 0 = c := funext fun j => if_neg (by omega)
theorem dl_rc0 (c : Nat → Int32) (L : Nat) : dl_rc c L 0 = c := funext fun j => if_neg (by omega)
theorem dl_rcE {c : Nat → Int32} {L k : Nat} (h : L ≤ 2 * k) (hk : k ≤ L) : dl_rc c L k = dl_rd c L L := by
  funext j
  show (if j < k ∨ (L - 1 - k < j ∧ j < L) then _ else _) = (if j < L then _ else _)
  by_cases z : j < L
  · rw [if_pos z, if_pos (by omega)]
  · rw [if_neg z, if_neg (by omega)]
theorem dl_rcS {c : Nat → Int32} {L k : Nat} (h : 2 * k < L) :
    upd (upd (dl_rc c L k) k ((dl_rc c L k (L - 1 - k) + 4) &&& 7)) (L - 1 - k) ((dl_rc c L k k + 4) &&& 7) = dl_rc c L (k + 1) := by
  have e1 : dl_rc c L k k = c k := if_neg (by omega)
  have e2 : dl_rc c L k (L - 1 - k) = c (L - 1 - k) := if_neg (by omega)
  rw [e1, e2]
  funext j
  by_cases z : j = L - 1 - k
  · rw [z, pk_us]
    have e3 : dl_rc c L (k + 1) (L - 1 - k) = (c (L - 1 - (L - 1 - k)) + 4) &&& 7 := if_pos (by omega)
    rw [e3, show L - 1 - (L - 1 - k) = k by omega]
  · rw [pk_un z]
    by_cases w : j = k
    · rw [w, pk_us]
      exact (if_pos (by omega)).symm
    · rw [pk_un w]
      show (if j < k ∨ (L - 1 - k < j ∧ j < L) then _ else _) = (if j < k + 1 ∨ (L - 1 - (k + 1) < j ∧ j < L) then _ else _)
      by_cases y : j < k ∨ (L - 1 - k < j ∧ j < L)
      · rw [if_pos y, if_pos (by omega)]
      · rw [if_neg y, if_neg (by omega)]
theorem dl_rdO {c : Nat → Int32} (hc : dl_ok c) (L k : Nat) : dl_ok (dl_rd c L k) := by
  intro j
  by_cases w : j < k
  · have e : dl_rd c L k j = (c (L - 1 - j) + 4) &&& 7 := if_pos w
    rw [e]
    exact dl_and7 _
  · have e : dl_rd c L k j = c j := if_neg w
    rw [e]
    exact hc j
theorem dl_reX {post : Int32 → SX → Prop} {L : Nat} {c ax ay : Nat → Int32} (hL : L ≤ 24) (hc : dl_ok c) (h0 : ax 0 = 0 ∧ ay 0 = 0)
    (h : ∀ ax' ay', dl_pt L (dl_rd c L L) ax' ay' → post (nI L) (nI L, dl_rd c L L, ax', ay')) :
    ∀ n k, k ≤ L → L - k < n → wX_reverse_9 post (nI L) n (nI k) (dl_i ((L : Int) - 1 - k)) (dl_rc c L k) ax ay := by
  intro n
  induction n with
  | zero => intro k _ hn; omega
  | succ n ih =>
    intro k hk hn
    by_cases z : L ≤ 2 * k
    · refine br_t ?_ ?_
      · rw [dl_n, dl_lt (by omega) (by omega)]
        omega
      · rw [dl_rcE z hk]
        exact dl_psX hL (dl_rdO hc L L) h0 (fun ax' ay' hp' => h ax' ay' hp')
    · have eh : dl_i ((L : Int) - 1 - k) = nI (L - 1 - k) := by
        rw [dl_n]
        exact congrArg dl_i (by omega)
      have en : nI (L - 1 - k) + (-1) = dl_i ((L : Int) - 1 - ((k + 1 : Nat) : Int)) := by
        rw [dl_n, show (-1 : Int32) = dl_i (-1) by decide +kernel, dl_add]
        exact congrArg dl_i (by omega)
      rw [eh]
      refine br_f (nI_nlt (by omega) (by omega)) ⟨vp_in_nI (by omega) (by omega), ?_⟩
      rw [nI_clamp (n := k) (by omega), nI_clamp (n := L - 1 - k) (by omega)]
      exact nm_e ⟨vp_in_nI (by omega) (by omega), nm_e ⟨vp_in_nI (by omega) (by omega), nm_e ⟨vp_in_nI (by omega) (by omega), nm_r (dl_rcS (by omega)) (nm_r (nI_1 k) (nm_r en (ih (k + 1) (by omega) (by omega))))⟩⟩⟩
theorem dl_r48 : ∀ a, a < 8 → (nI a + 4) - (nI a + 4) / 8 * 8 = (nI a + 4) &&& 7 := by decide +kernel
theorem dl_r4 {m : Int32} (h : dl_ok1 m) : (m + 4) - (m + 4) / 8 * 8 = (m + 4) &&& 7 := by
  obtain ⟨a, ha, rfl⟩ := h
  exact dl_r48 a ha
theorem dl_rdS (c : Nat → Int32) (L k : Nat) : upd (dl_rd c L k) k ((c (L - 1 - k) + 4) &&& 7) = dl_rd c L (k + 1) := by
  funext j
  by_cases z : j = k
  · rw [z, pk_us]
    exact (if_pos (by omega)).symm
  · rw [pk_un z]
    show (if j < k then _ else _) = (if j < k + 1 then _ else _)
    by_cases w : j < k
    · rw [if_pos w, if_pos (by omega)]
    · rw [if_neg w, if_neg (by omega)]
theorem dl_reY28 {post : Int32 → SY → Prop} {L : Nat} {c cp xs ys ls : Nat → Int32} (hL : L ≤ 24) (hc : dl_ok c) (hcp : ∀ i, i < 24 → cp i = c i)
    (h : post (nI L) (nI L, dl_rd c L L, cp, xs, ys, ls)) :
    ∀ d k, k + d = L → ∀ n, d < n → wY_reverse_28 post (nI L) n (nI k) (dl_rd c L k) cp xs ys ls := by
  intro d
  induction d with
  | zero =>
    intro k hk n hn
    obtain ⟨n, rfl⟩ : ∃ m, n = m + 1 := ⟨n - 1, by omega⟩
    have e : k = L := by omega
    subst e
    exact br_t (nI_le (Nat.le_refl k) (by omega)) h
  | succ d ih =>
    intro k hk n hn
    obtain ⟨n, rfl⟩ : ∃ m, n = m + 1 := ⟨n - 1, by omega⟩
    have ei : (nI L - 1) - nI k = nI (L - 1 - k) := by
      rw [show (1 : Int32) = nI 1 from rfl, pk_sub (by omega), pk_sub (by omega)]
    refine br_f (nI_ge (by omega) (by omega)) (br_f (nI_ge (b := 24) (by omega) (by decide)) ?_)
    rw [ei, nI_clamp (n := k) (by omega), nI_clamp (n := L - 1 - k) (by omega), hcp (L - 1 - k) (by omega), dl_r4 (hc _)]
    exact ⟨vp_in_nI (by omega) (by omega), by decide, vp_in_nI (by omega) (by omega), nm_r (dl_rdS c L k) (nm_r (nI_1 k) (ih (k + 1) (by omega) n (by omega)))⟩
theorem dl_reY2 {post : Int32 → SY → Prop} {L : Nat} {c xs ys ls : Nat → Int32} (hL : L ≤ 24) (hc : dl_ok c)
    (h : ∀ cp', post (nI L) (nI L, dl_rd c L L, cp', xs, ys, ls)) :
    ∀ d k cp, k + d = 24 → (∀ i, i < k → cp i = c i) → ∀ n, d < n → wY_reverse_2 post (nI L) n (nI k) c cp xs ys ls := by
  intro d
  induction d with
  | zero =>
    intro k cp hk hcp n hn
    obtain ⟨n, rfl⟩ : ∃ m, n = m + 1 := ⟨n - 1, by omega⟩
    have y := dl_reY28 (post := post) (cp := cp) hL hc (fun i hi => hcp i (by omega)) (h cp) L 0 (by omega) 30 (by omega)
    rw [dl_rd0] at y
    exact br_t (nI_le (a := 24) (by omega) (by omega)) ⟨30, y⟩
  | succ d ih =>
    intro k cp hk hcp n hn
    obtain ⟨n, rfl⟩ : ∃ m, n = m + 1 := ⟨n - 1, by omega⟩
    refine br_f (nI_ge (b := 24) (by omega) (by decide)) ⟨vp_in_nI (by omega) (by omega), vp_in_nI (by omega) (by omega), ?_⟩
    rw [nI_clamp (n := k) (by omega)]
    refine nm_e (nm_r (nI_1 k) (ih (k + 1) _ (by omega) (fun i hi => ?_) n (by omega)))
    by_cases z : i = k
    · rw [z, pk_us]
    · rw [pk_un z]
      exact hcp i (by omega)
theorem i_vc_reverse {k : Nat} {u : SX} {v : SY} (I : i_Rel k u v) (hk : k + 4 ≤ 2048) : wpX_reverse (fun r u' => wpY_reverse (fun r' v' => r' = r ∧ i_Rel (k + 4) u' v') v) u := by
  have I' := I
  obtain ⟨L, c, ax, ay, cp, xs, ys, ls, hL, hc, hp, rfl, rfl⟩ := I
  have h0 : ax 0 = 0 ∧ ay 0 = 0 := hp 0 (by omega)
  have y : ∀ ax' ay', dl_pt L (dl_rd c L L) ax' ay' → wpY_reverse (fun r' v' => r' = nI L ∧ i_Rel (k + 4) (nI L, dl_rd c L L, ax', ay') v') (nI L, c, cp, xs, ys, ls) := by
    intro ax' ay' hp'
    exact ⟨30, dl_reY2 hL hc (fun cp' => ⟨rfl, L, dl_rd c L L, ax', ay', cp', xs, ys, ls, hL, dl_rdO hc L L, hp', rfl, rfl⟩) 24 0 cp (by omega) (fun i hi => by omega) 30 (by omega)⟩
  have h := dl_reX (post := fun r u' => wpY_reverse (fun r' v' => r' = r ∧ i_Rel (k + 4) u' v') (nI L, c, cp, xs, ys, ls)) (ax := ax) (ay := ay) hL hc h0 y 30 0 (by omega) (by omega)
  rw [dl_rc0] at h
  have e : nI L - 1 = dl_i ((L : Int) - 1 - ((0 : Nat) : Int)) := by
    rw [dl_n, ← dl_i1, dl_sub]
    exact congrArg dl_i (by omega)
  exact nm_r e ⟨30, h⟩
end
section
/-! draw -/
theorem dl_dg (x y z : Int32) {L : Nat} (hL : L ≤ 24) :
    (∃ r : Int32, (∀ (c ax ay : Nat → Int32) (post : Int32 → SX → Prop), post r (nI L, c, ax, ay) → wpX_draw post (nI L, c, ax, ay) x y z) ∧
      (∀ (c cp xs ys ls : Nat → Int32) (post : Int32 → SY → Prop), post r (nI L, c, cp, xs, ys, ls) → wpY_draw post (nI L, c, cp, xs, ys, ls) x y z)) ∨
    (∃ S R C : Nat, S ≤ 79 ∧ 1 ≤ R ∧ R ≤ 12 ∧ S / 8 ≤ R ∧ 1 ≤ C ∧ L + C ≤ 24 ∧ x = nI S ∧ y = nI R ∧ z = nI C) := by
  by_cases h0 : x < 0
  · exact Or.inl ⟨-1, fun c ax ay post h => br_t h0 h, fun c cp xs ys ls post h => br_t h0 h⟩
  by_cases h1 : x ≤ 79
  case neg => exact Or.inl ⟨-1, fun c ax ay post h => br_f h0 (br_f h1 h), fun c cp xs ys ls post h => br_f h0 (br_f h1 h)⟩
  by_cases h2 : y < 1
  · exact Or.inl ⟨-2, fun c ax ay post h => br_f h0 (br_t h1 ⟨by decide, nm_e ⟨by decide, nm_e (br_t h2 h)⟩⟩), fun c cp xs ys ls post h => br_f h0 (br_t h1 ⟨by decide, nm_e ⟨by decide, nm_e (br_t h2 h)⟩⟩)⟩
  by_cases h3 : 12 < y
  · exact Or.inl ⟨-2, fun c ax ay post h => br_f h0 (br_t h1 ⟨by decide, nm_e ⟨by decide, nm_e (br_f h2 (br_t h3 h))⟩⟩), fun c cp xs ys ls post h => br_f h0 (br_t h1 ⟨by decide, nm_e ⟨by decide, nm_e (br_f h2 (br_t h3 h))⟩⟩)⟩
  by_cases h4 : x / 8 ≤ y
  case neg => exact Or.inl ⟨-2, fun c ax ay post h => br_f h0 (br_t h1 ⟨by decide, nm_e ⟨by decide, nm_e (br_f h2 (br_f h3 (br_f h4 h)))⟩⟩), fun c cp xs ys ls post h => br_f h0 (br_t h1 ⟨by decide, nm_e ⟨by decide, nm_e (br_f h2 (br_f h3 (br_f h4 h)))⟩⟩)⟩
  by_cases h5 : z < 1
  · exact Or.inl ⟨-3, fun c ax ay post h => br_f h0 (br_t h1 ⟨by decide, nm_e ⟨by decide, nm_e (br_f h2 (br_f h3 (br_t h4 (br_t h5 h))))⟩⟩), fun c cp xs ys ls post h => br_f h0 (br_t h1 ⟨by decide, nm_e ⟨by decide, nm_e (br_f h2 (br_f h3 (br_t h4 (br_t h5 h))))⟩⟩)⟩
  by_cases h6 : z ≤ 24
  case neg => exact Or.inl ⟨-3, fun c ax ay post h => br_f h0 (br_t h1 ⟨by decide, nm_e ⟨by decide, nm_e (br_f h2 (br_f h3 (br_t h4 (br_f h5 (br_f h6 h)))))⟩⟩), fun c cp xs ys ls post h => br_f h0 (br_t h1 ⟨by decide, nm_e ⟨by decide, nm_e (br_f h2 (br_f h3 (br_t h4 (br_f h5 (br_f h6 h)))))⟩⟩)⟩
  by_cases h7 : nI L + z ≤ 24
  case neg => exact Or.inl ⟨-4, fun c ax ay post h => br_f h0 (br_t h1 ⟨by decide, nm_e ⟨by decide, nm_e (br_f h2 (br_f h3 (br_t h4 (br_f h5 (br_t h6 (br_f h7 h))))))⟩⟩), fun c cp xs ys ls post h => br_f h0 (br_t h1 ⟨by decide, nm_e ⟨by decide, nm_e (br_f h2 (br_f h3 (br_t h4 (br_f h5 (br_t h6 (br_f h7 h))))))⟩⟩)⟩
  have pos : ∀ w : Int32, ¬ w < 1 → ¬ w < 0 := by
    intro w hw
    have e0 : (0 : Int32).toInt = 0 := by decide
    have e1 : (1 : Int32).toInt = 1 := by decide
    rw [Int32.lt_iff_toInt_lt, e1] at hw
    rw [Int32.lt_iff_toInt_lt, e0]
    omega
  obtain ⟨S, hS, rfl⟩ := nI_of h0
  obtain ⟨R, hR, rfl⟩ := nI_of (pos y h2)
  obtain ⟨C, hC, rfl⟩ := nI_of (pos z h5)
  have g1 : nI S ≤ nI 79 := h1
  have g2 : ¬ nI R < nI 1 := h2
  have g3 : ¬ nI 12 < nI R := h3
  have g4 : nI S / nI 8 ≤ nI R := h4
  have g5 : ¬ nI C < nI 1 := h5
  have g6 : nI C ≤ nI 24 := h6
  have g7 : nI L + nI C ≤ nI 24 := h7
  rw [nI_leI hS (by omega)] at g1
  rw [nI_ltI hR (by omega)] at g2
  rw [nI_ltI (by omega) hR] at g3
  rw [pk_div hS (by omega) (by omega), nI_leI (by omega) hR] at g4
  rw [nI_ltI hC (by omega)] at g5
  rw [nI_leI hC (by omega)] at g6
  rw [nI_add, nI_leI (by omega) (by omega)] at g7
  exact Or.inr ⟨S, R, C, g1, by omega, by omega, g4, by omega, g7, rfl, rfl, rfl⟩
def dl_wv (rise run u st : Int32) (k : Nat) : Int32 := if ((nI k + 1) * rise) / run ≤ (nI k * rise) / run then u else st
def dl_dr (c : Nat → Int32) (L : Nat) (w : Nat → Int32) : Nat → (Nat → Int32)
  | 0 => c
  | k + 1 => upd (dl_dr c L w k) (L + k) (w k)
theorem dl_drO {c : Nat → Int32} {L : Nat} {w : Nat → Int32} (hc : dl_ok c) (hw : ∀ k, dl_ok1 (w k)) : ∀ k, dl_ok (dl_dr c L w k) := by
  intro k
  induction k with
  | zero => exact hc
  | succ k ih => exact dl_okU ih (hw k)
theorem dl_wvO {rise run u st : Int32} (hu : dl_ok1 u) (hs : dl_ok1 st) (k : Nat) : dl_ok1 (dl_wv rise run u st k) := by
  unfold dl_wv
  split
  · exact hu
  · exact hs
theorem dl_drX {post : Int32 → SX → Prop} {L C : Nat} {c : Nat → Int32} {rise run u st : Int32} (hL : L + C ≤ 24) (hr : ¬ run = 0) (hu : dl_ok1 u) (hs : dl_ok1 st)
    (h : ∀ ax' ay', dl_pt (L + C) (dl_dr c L (dl_wv rise run u st) C) ax' ay' → post (nI (L + C)) (nI (L + C), dl_dr c L (dl_wv rise run u st) C, ax', ay')) :
    ∀ d k ax ay, k + d = C → dl_pt (L + k) (dl_dr c L (dl_wv rise run u st) k) ax ay → ∀ n, d < n →
      wX_draw_84 post run (nI C) rise u st n (nI k) (nI (L + k)) (dl_dr c L (dl_wv rise run u st) k) ax ay := by
  intro d
  induction d with
  | zero =>
    intro k ax ay hk hp n hn
    obtain ⟨n, rfl⟩ : ∃ m, n = m + 1 := ⟨n - 1, by omega⟩
    have e : k = C := by omega
    subst e
    exact br_t (nI_le (Nat.le_refl k) (by omega)) (h ax ay hp)
  | succ d ih =>
    intro k ax ay hk hp n hn
    obtain ⟨n, rfl⟩ : ∃ m, n = m + 1 := ⟨n - 1, by omega⟩
    have key : ∀ m : Int32, dl_ok1 m → m = dl_wv rise run u st k →
        wX_draw_129 post (wX_draw_84 post run (nI C) rise u st n) run (nI C) rise u st (nI k) m (nI (L + k)) (dl_dr c L (dl_wv rise run u st) k) ax ay := by
      intro m hm e
      unfold wX_draw_129
      refine dl_apX (by omega) hm hp (fun ax' ay' hp' => nm_r (nI_1 k) ?_)
      rw [e] at hp' ⊢
      exact ih (k + 1) ax' ay' (by omega) hp' n (by omega)
    refine br_f (nI_ge (by omega) (by omega)) ⟨hr, hr, br_c (fun z => ?_) (fun z => ?_)⟩
    · exact br_t rfl (key u hu (if_pos z).symm)
    · exact br_f (by decide) (key st hs (if_neg z).symm)
theorem dl_drY {post : Int32 → SY → Prop} {L C : Nat} {c cp xs ys ls : Nat → Int32} {rise run u st fm : Int32} (hL : L + C ≤ 24) (hr : ¬ run = 0) (hs : (u + 1) - (u + 1) / 8 * 8 = st)
    (h : post (nI (L + C)) (nI (L + C), dl_dr c L (dl_wv rise run u st) C, cp, xs, ys, ls)) :
    ∀ d k, k + d = C → ∀ n, d < n → wY_draw_81 post run (nI C) rise u (nI L) fm n (nI k) (dl_dr c L (dl_wv rise run u st) k) cp xs ys ls := by
  intro d
  induction d with
  | zero =>
    intro k hk n hn
    obtain ⟨n, rfl⟩ : ∃ m, n = m + 1 := ⟨n - 1, by omega⟩
    have e : k = C := by omega
    subst e
    exact br_t (nI_le (Nat.le_refl k) (by omega)) (nm_r (nI_add L k) h)
  | succ d ih =>
    intro k hk n hn
    obtain ⟨n, rfl⟩ : ∃ m, n = m + 1 := ⟨n - 1, by omega⟩
    have nx := ih (k + 1) (by omega) n (by omega)
    refine br_f (nI_ge (by omega) (by omega)) ⟨hr, hr, br_c (fun z => ?_) (fun z => ?_)⟩
    · have ew : dl_wv rise run u st k = u := if_pos z
      refine br_t rfl ?_
      rw [nI_add, nI_clamp (n := L + k) (by omega)]
      refine ⟨vp_in_nI (by omega) (by omega), nm_r ?_ (nm_r (nI_1 k) nx)⟩
      show upd _ (L + k) u = upd _ (L + k) (dl_wv rise run u st k)
      rw [ew]
    · have ew : dl_wv rise run u st k = st := if_neg z
      refine br_f (by decide) ⟨by decide, ?_⟩
      rw [nI_add, nI_clamp (n := L + k) (by omega), hs]
      refine ⟨vp_in_nI (by omega) (by omega), nm_r ?_ (nm_r (nI_1 k) nx)⟩
      show upd _ (L + k) st = upd _ (L + k) (dl_wv rise run u st k)
      rw [ew]
theorem dl_st8 : ∀ a, a < 8 → (nI a + 1) &&& 7 = nI ((a + 1) % 8) := by decide +kernel
theorem i_vc_draw {k : Nat} {u : SX} {v : SY} (I : i_Rel k u v) (hk : k + 4 ≤ 2048) (v1 : Int32) (v2 : Int32) (v3 : Int32) : wpX_draw (fun r u' => wpY_draw (fun r' v' => r' = r ∧ i_Rel (k + 4) u' v') v v1 v2 v3) u v1 v2 v3 := by
  have I' := I
  obtain ⟨L, c, ax, ay, cp, xs, ys, ls, hL, hc, hp, rfl, rfl⟩ := I
  rcases dl_dg v1 v2 v3 hL with ⟨r, hx, hy⟩ | ⟨S, R, C, s1, r1, r2, sr, c1, lc, rfl, rfl, rfl⟩
  · exact hx c ax ay _ (hy c cp xs ys ls _ ⟨rfl, I'⟩)
  · have e4 : nI S / 8 = nI (S / 8) := pk_div (d := 8) (by omega) (by omega) (by omega)
    have e5 : nI S - nI S / 8 * 8 = nI (S % 8) := pk_rem (d := 8) (by omega) (by omega) (by omega)
    have a8 : S % 8 < 8 := Nat.mod_lt _ (by decide)
    have e6 : (nI (S % 8) + 1) &&& 7 = nI ((S % 8 + 1) % 8) := dl_st8 _ a8
    have hu : dl_ok1 (nI (S % 8)) := ⟨_, a8, rfl⟩
    have hs : dl_ok1 (nI ((S % 8 + 1) % 8)) := ⟨_, Nat.mod_lt _ (by decide), rfl⟩
    have hr : ¬ nI R = 0 := nI_ne0 (by omega) (by omega)
    have b0 : ¬ nI S < 0 := nI_pos (by omega)
    have b1 : nI S ≤ 79 := nI_le (b := 79) s1 (by decide)
    have b2 : ¬ nI R < 1 := nI_nlt (b := 1) r1 (by omega)
    have b3 : ¬ 12 < nI R := nI_nlt (a := 12) r2 (by decide)
    have b4 : nI (S / 8) ≤ nI R := nI_le sr (by omega)
    have b5 : ¬ nI C < 1 := nI_nlt (b := 1) c1 (by omega)
    have b6 : nI C ≤ 24 := nI_le (b := 24) (by omega) (by decide)
    have b7 : nI L + nI C ≤ 24 := by
      rw [nI_add]
      exact nI_le (b := 24) lc (by decide)
    have hw := dl_wvO (rise := nI (S / 8)) (run := nI R) hu hs
    have y : ∀ ax' ay', dl_pt (L + C) (dl_dr c L (dl_wv (nI (S / 8)) (nI R) (nI (S % 8)) (nI ((S % 8 + 1) % 8))) C) ax' ay' →
        wpY_draw (fun r' v' => r' = nI (L + C) ∧ i_Rel (k + 4) (nI (L + C), dl_dr c L (dl_wv (nI (S / 8)) (nI R) (nI (S % 8)) (nI ((S % 8 + 1) % 8))) C, ax', ay') v') (nI L, c, cp, xs, ys, ls) (nI S) (nI R) (nI C) := by
      intro ax' ay' hp'
      have h := dl_drY (post := fun r' v' => r' = nI (L + C) ∧ i_Rel (k + 4) (nI (L + C), dl_dr c L (dl_wv (nI (S / 8)) (nI R) (nI (S % 8)) (nI ((S % 8 + 1) % 8))) C, ax', ay') v') (c := c) (cp := cp) (xs := xs) (ys := ys) (ls := ls) (fm := nI L) lc hr (dl_rem8 a8)
        ⟨rfl, L + C, _, ax', ay', cp, xs, ys, ls, lc, dl_drO hc hw C, hp', rfl, rfl⟩ C 0 (by omega) 30 (by omega)
      exact br_f b0 (br_t b1 ⟨by decide, nm_r e4 ⟨by decide, nm_r e5 (br_f b2 (br_f b3 (br_t b4 (br_f b5 (br_t b6 (br_t b7 ⟨30, h⟩))))))⟩⟩)
    have h := dl_drX (post := fun r u' => wpY_draw (fun r' v' => r' = r ∧ i_Rel (k + 4) u' v') (nI L, c, cp, xs, ys, ls) (nI S) (nI R) (nI C)) (c := c) lc hr hu hs y C 0 ax ay (by omega) hp 30 (by omega)
    exact br_f b0 (br_t b1 ⟨by decide, nm_r e4 ⟨by decide, nm_r e5 (br_f b2 (br_f b3 (br_t b4 (br_f b5 (br_t b6 (br_t b7 (nm_r e6 ⟨30, h⟩)))))))⟩⟩)
end
