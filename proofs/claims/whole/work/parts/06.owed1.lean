/-! owed: add, remove, fill, clear, flip, and those that only read -/
theorem i_vc_add {k : Nat} {u : SX} {v : SY} (I : i_Rel k u v) (hk : k + 4 ≤ 2048) (v1 : Int32) (v2 : Int32) : wpX_add (fun r u' => wpY_add (fun r' v' => r' = r ∧ i_Rel (k + 4) u' v') v v1 v2) u v1 v2 := by
  obtain ⟨f, m, t⟩ := u
  obtain ⟨g, a, o⟩ := v
  obtain ⟨e, h⟩ := I
  dsimp only at e h
  have e2 := e.symm
  subst e2
  unfold wpX_add
  dsimp only
  rcases rc_set v1 with ⟨sx, sy⟩ | ⟨s, hs, rfl, sx, sy⟩
  · refine sx _ (br_t rfl ?_)
    unfold wpY_add
    dsimp only
    exact sy _ _ _ _ (br_f rc_10 ⟨rfl, rfl, h⟩)
  · refine sx _ (br_f rc_10 ?_)
    rcases rc_num v2 with ⟨nx, ny⟩ | ⟨x, hx, rfl, nx, ny⟩
    · refine nx _ (br_t rfl ?_)
      unfold wpY_add
      dsimp only
      exact sy _ _ _ _ (br_t rfl (ny _ _ _ _ (br_f rc_10 ⟨rfl, rfl, h⟩)))
    · refine nx _ (br_f rc_10 ?_)
      by_cases z : a (s * 512 + x) = 1
      · refine rc_as1 h hs hx z (rc_addY hs hx ?_)
        rw [if_neg (by rw [z]; exact rc_10)]
        exact ⟨rfl, rfl, rc_R_updY h (by omega) z⟩
      · refine rc_as2 h hs hx rc_b1 z (rc_addY hs hx ?_)
        rw [if_pos ((h.2.2 _ (by omega)).resolve_right z)]
        exact ⟨rfl, rfl, rc_R_upd h (by omega) rc_b1⟩
theorem i_vc_remove {k : Nat} {u : SX} {v : SY} (I : i_Rel k u v) (hk : k + 4 ≤ 2048) (v1 : Int32) (v2 : Int32) : wpX_remove (fun r u' => wpY_remove (fun r' v' => r' = r ∧ i_Rel (k + 4) u' v') v v1 v2) u v1 v2 := by
  obtain ⟨f, m, t⟩ := u
  obtain ⟨g, a, o⟩ := v
  obtain ⟨e, h⟩ := I
  dsimp only at e h
  have e2 := e.symm
  subst e2
  unfold wpX_remove
  dsimp only
  rcases rc_set v1 with ⟨sx, sy⟩ | ⟨s, hs, rfl, sx, sy⟩
  · refine sx _ (br_t rfl ?_)
    unfold wpY_remove
    dsimp only
    exact sy _ _ _ _ (br_f rc_10 ⟨rfl, rfl, h⟩)
  · refine sx _ (br_f rc_10 ?_)
    rcases rc_num v2 with ⟨nx, ny⟩ | ⟨x, hx, rfl, nx, ny⟩
    · refine nx _ (br_t rfl ?_)
      unfold wpY_remove
      dsimp only
      exact sy _ _ _ _ (br_t rfl (ny _ _ _ _ (br_f rc_10 ⟨rfl, rfl, h⟩)))
    · refine nx _ (br_f rc_10 ?_)
      by_cases z : a (s * 512 + x) = 0
      · refine rc_as1 h hs hx z (rc_remY hs hx ?_)
        rw [if_pos z]
        exact ⟨rfl, rfl, rc_R_updY h (by omega) z⟩
      · refine rc_as2 h hs hx rc_b0 z (rc_remY hs hx ?_)
        rw [if_neg z]
        exact ⟨rfl, rfl, rc_R_upd h (by omega) rc_b0⟩
theorem i_vc_fill {k : Nat} {u : SX} {v : SY} (I : i_Rel k u v) (hk : k + 4 ≤ 2048) (v1 : Int32) (v2 : Int32) (v3 : Int32) : wpX_fill (fun r u' => wpY_fill (fun r' v' => r' = r ∧ i_Rel (k + 4) u' v') v v1 v2 v3) u v1 v2 v3 := by
  obtain ⟨f, m, t⟩ := u
  obtain ⟨g, a, o⟩ := v
  obtain ⟨e, h⟩ := I
  dsimp only at e h
  have e2 := e.symm
  subst e2
  unfold wpX_fill
  dsimp only
  rcases rc_set v1 with ⟨sx, sy⟩ | ⟨s, hs, rfl, sx, sy⟩
  · refine sx _ (br_t rfl ?_)
    unfold wpY_fill
    dsimp only
    exact sy _ _ _ _ (br_f rc_10 ⟨rfl, rfl, h⟩)
  · refine sx _ (br_f rc_10 ?_)
    rcases rc_rng v2 v3 with ⟨nx, ny⟩ | ⟨x, y, hxy, hy, rfl, rfl, nx, ny⟩
    · refine nx _ (br_t rfl ?_)
      unfold wpY_fill
      dsimp only
      exact sy _ _ _ _ (br_t rfl (ny _ _ _ _ (br_f rc_10 ⟨rfl, rfl, h⟩)))
    · refine nx _ (br_f rc_10 ?_)
      obtain ⟨r, m', a', hR, h1, h2⟩ := rc_fil (t := t) hs hy (y + 1 - x) x (by omega) 0 m a h
      unfold wpX_assign
      dsimp only
      refine nm_r (rc_bX s) ⟨_, h1 _ g ?_⟩
      unfold wpY_fill
      dsimp only
      exact sy _ _ _ _ (br_t rfl (ny _ _ _ _ (br_t rfl ⟨_, h2 _ g o ⟨rfl, rfl, hR⟩⟩)))
theorem i_vc_clear {k : Nat} {u : SX} {v : SY} (I : i_Rel k u v) (hk : k + 4 ≤ 2048) (v1 : Int32) (v2 : Int32) (v3 : Int32) : wpX_clear (fun r u' => wpY_clear (fun r' v' => r' = r ∧ i_Rel (k + 4) u' v') v v1 v2 v3) u v1 v2 v3 := by
  obtain ⟨f, m, t⟩ := u
  obtain ⟨g, a, o⟩ := v
  obtain ⟨e, h⟩ := I
  dsimp only at e h
  have e2 := e.symm
  subst e2
  unfold wpX_clear
  dsimp only
  rcases rc_set v1 with ⟨sx, sy⟩ | ⟨s, hs, rfl, sx, sy⟩
  · refine sx _ (br_t rfl ?_)
    unfold wpY_clear
    dsimp only
    exact sy _ _ _ _ (br_f rc_10 ⟨rfl, rfl, h⟩)
  · refine sx _ (br_f rc_10 ?_)
    rcases rc_rng v2 v3 with ⟨nx, ny⟩ | ⟨x, y, hxy, hy, rfl, rfl, nx, ny⟩
    · refine nx _ (br_t rfl ?_)
      unfold wpY_clear
      dsimp only
      exact sy _ _ _ _ (br_t rfl (ny _ _ _ _ (br_f rc_10 ⟨rfl, rfl, h⟩)))
    · refine nx _ (br_f rc_10 ?_)
      obtain ⟨r, m', a', hR, h1, h2⟩ := rc_clr (t := t) hs hy (y + 1 - x) x (by omega) 0 m a h
      unfold wpX_assign
      dsimp only
      refine nm_r (rc_bX s) ⟨_, h1 _ g ?_⟩
      unfold wpY_clear
      dsimp only
      exact sy _ _ _ _ (br_t rfl (ny _ _ _ _ (br_t rfl ⟨_, h2 _ g o ⟨rfl, rfl, hR⟩⟩)))
theorem i_vc_flip {k : Nat} {u : SX} {v : SY} (I : i_Rel k u v) (hk : k + 4 ≤ 2048) (v1 : Int32) (v2 : Int32) (v3 : Int32) : wpX_flip (fun r u' => wpY_flip (fun r' v' => r' = r ∧ i_Rel (k + 4) u' v') v v1 v2 v3) u v1 v2 v3 := by
  obtain ⟨f, m, t⟩ := u
  obtain ⟨g, a, o⟩ := v
  obtain ⟨e, h⟩ := I
  dsimp only at e h
  have e2 := e.symm
  subst e2
  unfold wpX_flip
  dsimp only
  rcases rc_set v1 with ⟨sx, sy⟩ | ⟨s, hs, rfl, sx, sy⟩
  · refine sx _ (br_t rfl ?_)
    unfold wpY_flip
    dsimp only
    exact sy _ _ _ _ (br_f rc_10 ⟨rfl, rfl, h⟩)
  · refine sx _ (br_f rc_10 ?_)
    rcases rc_rng v2 v3 with ⟨nx, ny⟩ | ⟨x, y, hxy, hy, rfl, rfl, nx, ny⟩
    · refine nx _ (br_t rfl ?_)
      unfold wpY_flip
      dsimp only
      exact sy _ _ _ _ (br_t rfl (ny _ _ _ _ (br_f rc_10 ⟨rfl, rfl, h⟩)))
    · refine nx _ (br_f rc_10 ?_)
      obtain ⟨r, m', a', hR, h1, h2⟩ := rc_flp (t := t) hs hy (y + 1 - x) x (by omega) m a h
      refine nm_r (rc_bX s) ⟨_, h1 _ g ?_⟩
      unfold wpY_flip
      dsimp only
      exact sy _ _ _ _ (br_t rfl (ny _ _ _ _ (br_t rfl ⟨_, h2 _ g o ⟨rfl, rfl, hR⟩⟩)))
