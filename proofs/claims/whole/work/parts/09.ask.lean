/-! the questions -/
theorem i_vc_moves {k : Nat} {u : SX} {v : SY} (I : i_Rel k u v) (hk : k + 4 ≤ 2048) : wpX_moves (fun r => wpY_moves (fun r' => r' = r ∧ i_Rel (k + 4) u v) v) u := by
  have I' := I
  obtain ⟨L, c, ax, ay, cp, xs, ys, ls, hL, hc, hp, rfl, rfl⟩ := I
  exact ⟨rfl, I'⟩
theorem i_vc_moveAt {k : Nat} {u : SX} {v : SY} (I : i_Rel k u v) (hk : k + 4 ≤ 2048) (v1 : Int32) : wpX_moveAt (fun r => wpY_moveAt (fun r' => r' = r ∧ i_Rel (k + 4) u v) v v1) u v1 := by
  have I' := I
  obtain ⟨L, c, ax, ay, cp, xs, ys, ls, hL, hc, hp, rfl, rfl⟩ := I
  unfold wpX_moveAt wpY_moveAt
  dsimp only
  rcases dl_mx2 v1 hL with h | ⟨j, hj, rfl⟩
  · exact dl_mnX0 h (br_t rfl (dl_mnY0 h (br_f (by decide) ⟨rfl, I'⟩)))
  · exact dl_mnX1 hL hj (br_f (by decide) ⟨vp_in_nI (by omega) (by omega), dl_mnY1 hL hj (br_t rfl ⟨vp_in_nI (by omega) (by omega), rfl, I'⟩)⟩)
theorem i_vc_pointX {k : Nat} {u : SX} {v : SY} (I : i_Rel k u v) (hk : k + 4 ≤ 2048) (v1 : Int32) : wpX_pointX (fun r => wpY_pointX (fun r' v' => r' = r ∧ i_Rel (k + 4) u v') v v1) u v1 := by
  have I' := I
  obtain ⟨L, c, ax, ay, cp, xs, ys, ls, hL, hc, hp, rfl, rfl⟩ := I
  have R : ∀ xs' ys' ls', i_Rel (k + 4) (nI L, c, ax, ay) (nI L, c, cp, xs', ys', ls') := fun xs' ys' ls' => ⟨L, c, ax, ay, cp, xs', ys', ls', hL, hc, hp, rfl, rfl⟩
  unfold wpX_pointX wpY_pointX
  dsimp only
  rcases dl_px2 v1 hL with h | ⟨j, hj, rfl⟩
  · exact dl_pnX0 h (br_t rfl (dl_pnY0 h (br_f (by decide) ⟨rfl, I'⟩)))
  · refine dl_pnX1 hL hj (br_f (by decide) ⟨vp_in_nI (by omega) (by omega), dl_pnY1 hL hj (br_t rfl (dl_wkY hL (fun xs' ys' hp' => ⟨vp_in_nI (by omega) (by omega), ?_, R xs' ys' ls⟩)))⟩)
    rw [nI_clamp (by omega), (hp j hj).1]
    exact (hp' j hj).1
theorem i_vc_pointY {k : Nat} {u : SX} {v : SY} (I : i_Rel k u v) (hk : k + 4 ≤ 2048) (v1 : Int32) : wpX_pointY (fun r => wpY_pointY (fun r' v' => r' = r ∧ i_Rel (k + 4) u v') v v1) u v1 := by
  have I' := I
  obtain ⟨L, c, ax, ay, cp, xs, ys, ls, hL, hc, hp, rfl, rfl⟩ := I
  have R : ∀ xs' ys' ls', i_Rel (k + 4) (nI L, c, ax, ay) (nI L, c, cp, xs', ys', ls') := fun xs' ys' ls' => ⟨L, c, ax, ay, cp, xs', ys', ls', hL, hc, hp, rfl, rfl⟩
  unfold wpX_pointY wpY_pointY
  dsimp only
  rcases dl_px2 v1 hL with h | ⟨j, hj, rfl⟩
  · exact dl_pnX0 h (br_t rfl (dl_pnY0 h (br_f (by decide) ⟨rfl, I'⟩)))
  · refine dl_pnX1 hL hj (br_f (by decide) ⟨vp_in_nI (by omega) (by omega), dl_pnY1 hL hj (br_t rfl (dl_wkY hL (fun xs' ys' hp' => ⟨vp_in_nI (by omega) (by omega), ?_, R xs' ys' ls⟩)))⟩)
    rw [nI_clamp (by omega), (hp j hj).2]
    exact (hp' j hj).2
theorem i_vc_straight {k : Nat} {u : SX} {v : SY} (I : i_Rel k u v) (hk : k + 4 ≤ 2048) (v1 : Int32) (v2 : Int32) : wpX_straight (fun r => wpY_straight (fun r' v' => r' = r ∧ i_Rel (k + 4) u v') v v1 v2) u v1 v2 := by
  have I' := I
  obtain ⟨L, c, ax, ay, cp, xs, ys, ls, hL, hc, hp, rfl, rfl⟩ := I
  have R : ∀ xs' ys' ls', i_Rel (k + 4) (nI L, c, ax, ay) (nI L, c, cp, xs', ys', ls') := fun xs' ys' ls' => ⟨L, c, ax, ay, cp, xs', ys', ls', hL, hc, hp, rfl, rfl⟩
  have hX := dl_mIX hc hp hL
  have hY := dl_mIY (cp := cp) hc hL
  have hM := dl_mMo hc hL
  unfold wpX_straight
  dsimp only
  rcases dl_pc2 v1 v2 hL with h | ⟨s, e, hse, he, rfl, rfl⟩
  · refine dl_ipX0 h (br_t rfl ?_)
    rcases h with h | ⟨h, h2⟩ | ⟨h, h2, h3⟩
    · exact br_t h ⟨rfl, I'⟩
    · exact br_f h (br_t h2 ⟨rfl, I'⟩)
    · exact br_f h (br_f h2 (br_f (Int32.not_le.mpr h3) ⟨rfl, I'⟩))
  · refine dl_ipX1 hL hse he (br_f (by decide) ?_)
    have y : ∀ post : Int32 → SY → Prop, (dl_P c s e = true → ∀ xs' ys', post 1 (nI L, c, cp, xs', ys', ls)) → (¬ dl_P c s e = true → ∀ xs' ys', post 0 (nI L, c, cp, xs', ys', ls)) → wpY_straight post (nI L, c, cp, xs, ys, ls) (nI s) (nI e) :=
      fun post h1 h0 => br_f (nI_pos (by omega)) (br_f (nI_nlt (by omega) (by omega)) (br_t (nI_le (by omega) (by omega)) (hY xs ys ls s e _ hse he (fun q xs' ys' => br_f (by decide) (h1 q xs' ys')) (fun q xs' ys' => br_t rfl (h0 q xs' ys')))))
    refine hX s e _ hse he (fun q => br_f (by decide) ?_) (fun q => br_t rfl ?_)
    · exact y _ (fun _ xs' ys' => ⟨rfl, R xs' ys' ls⟩) (fun q' => absurd q q')
    · exact y _ (fun q' => absurd q' q) (fun _ xs' ys' => ⟨rfl, R xs' ys' ls⟩)
theorem i_vc_reach {k : Nat} {u : SX} {v : SY} (I : i_Rel k u v) (hk : k + 4 ≤ 2048) (v1 : Int32) : wpX_reach (fun r => wpY_reach (fun r' v' => r' = r ∧ i_Rel (k + 4) u v') v v1) u v1 := by
  have I' := I
  obtain ⟨L, c, ax, ay, cp, xs, ys, ls, hL, hc, hp, rfl, rfl⟩ := I
  have R : ∀ xs' ys' ls', i_Rel (k + 4) (nI L, c, ax, ay) (nI L, c, cp, xs', ys', ls') := fun xs' ys' ls' => ⟨L, c, ax, ay, cp, xs', ys', ls', hL, hc, hp, rfl, rfl⟩
  have hX := dl_mIX hc hp hL
  have hY := dl_mIY (cp := cp) hc hL
  have hM := dl_mMo hc hL
  unfold wpX_reach wpY_reach
  dsimp only
  rcases dl_px2 v1 hL with h | ⟨j, hj, rfl⟩
  · exact dl_pnX0 h (br_t rfl (dl_pnY0 h (br_f (by decide) ⟨rfl, I'⟩)))
  · exact dl_pnX1 hL hj (br_f (by decide) (dl_farX hX hL hj (dl_pnY1 hL hj (br_t rfl (dl_farY hY hL hj (fun xs' ys' => ⟨rfl, R xs' ys' ls⟩))))))
theorem i_vc_reachBack {k : Nat} {u : SX} {v : SY} (I : i_Rel k u v) (hk : k + 4 ≤ 2048) (v1 : Int32) : wpX_reachBack (fun r => wpY_reachBack (fun r' v' => r' = r ∧ i_Rel (k + 4) u v') v v1) u v1 := by
  have I' := I
  obtain ⟨L, c, ax, ay, cp, xs, ys, ls, hL, hc, hp, rfl, rfl⟩ := I
  have R : ∀ xs' ys' ls', i_Rel (k + 4) (nI L, c, ax, ay) (nI L, c, cp, xs', ys', ls') := fun xs' ys' ls' => ⟨L, c, ax, ay, cp, xs', ys', ls', hL, hc, hp, rfl, rfl⟩
  have hX := dl_mIX hc hp hL
  have hY := dl_mIY (cp := cp) hc hL
  have hM := dl_mMo hc hL
  unfold wpX_reachBack wpY_reachBack
  dsimp only
  rcases dl_px2 v1 hL with h | ⟨j, hj, rfl⟩
  · exact dl_pnX0 h (br_t rfl (dl_pnY0 h (br_f (by decide) ⟨rfl, I'⟩)))
  · exact dl_pnX1 hL hj (br_f (by decide) (dl_bkX hX hL hj (dl_pnY1 hL hj (br_t rfl ⟨30, dl_bkY12 hY hL hj j xs ys (Nat.le_refl j) (fun xs' ys' => ⟨rfl, R xs' ys' ls⟩) 30 (by omega)⟩))))
theorem i_vc_pieces {k : Nat} {u : SX} {v : SY} (I : i_Rel k u v) (hk : k + 4 ≤ 2048) : wpX_pieces (fun r => wpY_pieces (fun r' v' => r' = r ∧ i_Rel (k + 4) u v') v) u := by
  have I' := I
  obtain ⟨L, c, ax, ay, cp, xs, ys, ls, hL, hc, hp, rfl, rfl⟩ := I
  have R : ∀ xs' ys' ls', i_Rel (k + 4) (nI L, c, ax, ay) (nI L, c, cp, xs', ys', ls') := fun xs' ys' ls' => ⟨L, c, ax, ay, cp, xs', ys', ls', hL, hc, hp, rfl, rfl⟩
  have hX := dl_mIX hc hp hL
  have hY := dl_mIY (cp := cp) hc hL
  have hM := dl_mMo hc hL
  unfold wpX_pieces wpY_pieces
  dsimp only
  refine dl_gcX hX hM hL (s := 0) (e := L) (by omega) (Nat.le_refl L) ?_
  exact ⟨30, dl_pcY hY hL 24 0 0 0 xs ys rfl (by omega) (fun xs' ys' => ⟨by rw [Nat.zero_add], R xs' ys' ls⟩) 30 (by omega)⟩
theorem i_vc_pieceEnd {k : Nat} {u : SX} {v : SY} (I : i_Rel k u v) (hk : k + 4 ≤ 2048) (v1 : Int32) : wpX_pieceEnd (fun r => wpY_pieceEnd (fun r' v' => r' = r ∧ i_Rel (k + 4) u v') v v1) u v1 := by
  have I' := I
  obtain ⟨L, c, ax, ay, cp, xs, ys, ls, hL, hc, hp, rfl, rfl⟩ := I
  have R : ∀ xs' ys' ls', i_Rel (k + 4) (nI L, c, ax, ay) (nI L, c, cp, xs', ys', ls') := fun xs' ys' ls' => ⟨L, c, ax, ay, cp, xs', ys', ls', hL, hc, hp, rfl, rfl⟩
  have hX := dl_mIX hc hp hL
  have hY := dl_mIY (cp := cp) hc hL
  have hM := dl_mMo hc hL
  unfold wpX_pieceEnd wpY_pieceEnd
  dsimp only
  rcases dl_mx2 v1 hL with h | ⟨j, hj, rfl⟩
  · have y : ∃ n4, wY_pieceEnd_4 (fun r' v' => r' = -1 ∧ i_Rel (k + 4) (nI L, c, ax, ay) v') v1 n4 0 0 (nI L) c cp xs ys ls := by
      refine ⟨30, dl_peN hY hM hL (fun j hj e => ?_) (fun xs' ys' => ⟨rfl, R xs' ys' ls⟩) 24 0 0 xs ys rfl (by omega) (Nat.le_refl 0) 30 (by omega)⟩
      subst e
      rcases h with h | h
      · exact nI_pos (by omega) h
      · exact nI_ge hj (by omega) h
    refine ⟨fun _ => y, fun z => br_f ?_ y⟩
    exact Int32.not_lt.mpr (h.resolve_left z)
  · exact br_f (nI_pos (by omega)) (br_t (nI_lt hj (by omega)) ⟨30, dl_peX hX hL hj (j + 1) 0 0 (by omega) (by omega) ⟨30, dl_peY hY hL hj j 0 0 xs ys (by omega) (by omega) (fun xs' ys' => ⟨rfl, R xs' ys' ls⟩) 30 (by omega)⟩ 30 (by omega)⟩)
theorem i_vc_fewest {k : Nat} {u : SX} {v : SY} (I : i_Rel k u v) (hk : k + 4 ≤ 2048) (v1 : Int32) (v2 : Int32) : wpX_fewest (fun r => wpY_fewest (fun r' v' => r' = r ∧ i_Rel (k + 4) u v') v v1 v2) u v1 v2 := by
  have I' := I
  obtain ⟨L, c, ax, ay, cp, xs, ys, ls, hL, hc, hp, rfl, rfl⟩ := I
  have R : ∀ xs' ys' ls', i_Rel (k + 4) (nI L, c, ax, ay) (nI L, c, cp, xs', ys', ls') := fun xs' ys' ls' => ⟨L, c, ax, ay, cp, xs', ys', ls', hL, hc, hp, rfl, rfl⟩
  have hX := dl_mIX hc hp hL
  have hY := dl_mIY (cp := cp) hc hL
  have hM := dl_mMo hc hL
  unfold wpX_fewest
  dsimp only
  rcases dl_pc2 v1 v2 hL with h | ⟨s, e, hse, he, rfl, rfl⟩
  · refine dl_ipX0 h (br_t rfl ?_)
    rcases h with h | ⟨h, h2⟩ | ⟨h, h2, h3⟩
    · exact br_t h ⟨rfl, I'⟩
    · exact br_f h (br_t h2 ⟨rfl, I'⟩)
    · exact br_f h (br_f h2 (br_f (Int32.not_le.mpr h3) ⟨rfl, I'⟩))
  · refine dl_ipX1 hL hse he (br_f (by decide) (dl_gcX hX hM hL hse he ?_))
    exact br_f (nI_pos (by omega)) (br_f (nI_nlt (by omega) (by omega)) (br_t (nI_le (by omega) (by omega)) ⟨60, dl_fw21 hY (dl_GsI hM hL) hL hse he (fun xs' ys' ls' => ⟨rfl, R xs' ys' ls'⟩) (e + 1 - s) s xs ys ls (by omega) (Nat.le_refl s) (fun i i1 i2 => by omega) 60 (by omega)⟩))
theorem i_vc_longest {k : Nat} {u : SX} {v : SY} (I : i_Rel k u v) (hk : k + 4 ≤ 2048) : wpX_longest (fun r => wpY_longest (fun r' v' => r' = r ∧ i_Rel (k + 4) u v') v) u := by
  have I' := I
  obtain ⟨L, c, ax, ay, cp, xs, ys, ls, hL, hc, hp, rfl, rfl⟩ := I
  have R : ∀ xs' ys' ls', i_Rel (k + 4) (nI L, c, ax, ay) (nI L, c, cp, xs', ys', ls') := fun xs' ys' ls' => ⟨L, c, ax, ay, cp, xs', ys', ls', hL, hc, hp, rfl, rfl⟩
  have hX := dl_mIX hc hp hL
  have hY := dl_mIY (cp := cp) hc hL
  have hM := dl_mMo hc hL
  exact ⟨30, dl_lgX hX hL L 0 0 (by omega) (by omega) ⟨30, dl_lgY hY hL L 0 0 xs ys (by omega) (by omega) (fun xs' ys' => ⟨rfl, R xs' ys' ls⟩) 30 (by omega)⟩ 30 (by omega)⟩
theorem i_vc_maximal {k : Nat} {u : SX} {v : SY} (I : i_Rel k u v) (hk : k + 4 ≤ 2048) : wpX_maximal (fun r => wpY_maximal (fun r' v' => r' = r ∧ i_Rel (k + 4) u v') v) u := by
  have I' := I
  obtain ⟨L, c, ax, ay, cp, xs, ys, ls, hL, hc, hp, rfl, rfl⟩ := I
  have R : ∀ xs' ys' ls', i_Rel (k + 4) (nI L, c, ax, ay) (nI L, c, cp, xs', ys', ls') := fun xs' ys' ls' => ⟨L, c, ax, ay, cp, xs', ys', ls', hL, hc, hp, rfl, rfl⟩
  have hX := dl_mIX hc hp hL
  have hY := dl_mIY (cp := cp) hc hL
  have hM := dl_mMo hc hL
  exact ⟨30, dl_mxX hX hM hL L 0 0 0 (by omega) rfl ⟨30, dl_mxY hY hM hL L 0 0 xs ys (by omega) (fun xs' ys' => ⟨rfl, R xs' ys' ls⟩) 30 (by omega)⟩ 30 (by omega)⟩
