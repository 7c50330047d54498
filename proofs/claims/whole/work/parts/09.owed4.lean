/-! owed: write, read -/
theorem i_vc_write {k : Nat} {u : SX} {v : SY} (I : i_Rel k u v) (hk : k + 4 ≤ 2048) (v1 : Int32) : wpX_write (fun r u' => wpY_write (fun r' v' => r' = r ∧ i_Rel (k + 4) u' v') v v1) u v1 := by
  obtain ⟨f, m, t⟩ := u
  obtain ⟨g, a, o⟩ := v
  obtain ⟨e, h⟩ := I
  dsimp only at e h
  have e2 := e.symm
  subst e2
  unfold wpX_write
  dsimp only
  rcases rc_set v1 with ⟨sx, sy⟩ | ⟨s, hs, rfl, sx, sy⟩
  · refine sx _ (br_t rfl ?_)
    unfold wpY_write
    dsimp only
    exact sy _ _ _ _ (br_f rc_10 ⟨rfl, rfl, h⟩)
  · refine sx _ (br_f rc_10 ?_)
    obtain ⟨t', a', hR, h1, h2⟩ := rc_wri hs 512 0 rfl t a h
    rw [nI_0] at h1 h2
    unfold wpY_write wpY_copy
    dsimp only
    exact nm_r (rc_bX s) ⟨_, h1 _ g (sy _ _ _ _ (br_t rfl ⟨_, h2 _ g o ⟨rfl, rfl, hR⟩⟩))⟩
theorem i_vc_read {k : Nat} {u : SX} {v : SY} (I : i_Rel k u v) (hk : k + 4 ≤ 2048) (v1 : Int32) : wpX_read (fun r u' => wpY_read (fun r' v' => r' = r ∧ i_Rel (k + 4) u' v') v v1) u v1 := by
  obtain ⟨f, m, t⟩ := u
  obtain ⟨g, a, o⟩ := v
  obtain ⟨e, h⟩ := I
  dsimp only at e h
  have e2 := e.symm
  subst e2
  unfold wpX_read
  dsimp only
  rcases rc_set v1 with ⟨sx, sy⟩ | ⟨s, hs, rfl, sx, sy⟩
  · refine sx _ (br_t rfl ?_)
    unfold wpY_read
    dsimp only
    exact sy _ _ _ _ (br_f rc_10 ⟨rfl, rfl, h⟩)
  · refine sx _ (br_f rc_10 ?_)
    unfold wpY_read wpY_copy
    dsimp only
    by_cases z : g = 0
    · exact br_t z (sy _ _ _ _ (br_t rfl (br_t z ⟨rfl, rfl, h⟩)))
    · obtain ⟨r, m', a', hR, h1, h2, h3⟩ := rc_rea (t := t) hs 512 0 rfl m a h
      rw [nI_0] at h1 h2
      exact br_f z (nm_r (rc_bX s) ⟨_, h1 _ g (sy _ _ _ _ (br_t rfl (br_f z ⟨_, h2 _ g o (h3 _ g o ⟨rfl, rfl, hR⟩)⟩)))⟩)
