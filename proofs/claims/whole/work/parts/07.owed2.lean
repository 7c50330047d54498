/-! owed: the methods that only read -/
theorem i_vc_has {k : Nat} {u : SX} {v : SY} (I : i_Rel k u v) (hk : k + 4 ≤ 2048) (v1 : Int32) (v2 : Int32) : wpX_has (fun r => wpY_has (fun r' => r' = r ∧ i_Rel (k + 4) u v) v v1 v2) u v1 v2 := by
  obtain ⟨f, m, t⟩ := u
  obtain ⟨g, a, o⟩ := v
  obtain ⟨e, h⟩ := I
  dsimp only at e h
  have e2 := e.symm
  subst e2
  unfold wpX_has
  dsimp only
  rcases rc_set v1 with ⟨sx, sy⟩ | ⟨s, hs, rfl, sx, sy⟩
  · refine sx _ (br_t rfl ?_)
    unfold wpY_has
    dsimp only
    exact sy _ _ _ _ (br_f rc_10 ⟨rfl, rfl, h⟩)
  · refine sx _ (br_f rc_10 ?_)
    rcases rc_num v2 with ⟨nx, ny⟩ | ⟨x, hx, rfl, nx, ny⟩
    · refine nx _ (br_t rfl ?_)
      unfold wpY_has
      dsimp only
      exact sy _ _ _ _ (br_t rfl (ny _ _ _ _ (br_f rc_10 ⟨rfl, rfl, h⟩)))
    · refine nx _ (br_f rc_10 ?_)
      have hi : s * 512 + x < 1536 := by omega
      have hy : s * 512 + x < 2048 := by omega
      rw [rc_bX]
      unfold wpY_has
      dsimp only
      by_cases z : a (s * 512 + x) = 0
      · exact ⟨rc_vX hi, br_t ((rc_rd h hi).trans z) (sy _ _ _ _ (br_t rfl (ny _ _ _ _ (br_t rfl ⟨rc_vY hy, br_t ((rc_ry hy).trans z) ⟨rfl, rfl, h⟩⟩))))⟩
      · exact ⟨rc_vX hi, br_f (fun q => z ((rc_rd h hi).symm.trans q)) (sy _ _ _ _ (br_t rfl (ny _ _ _ _ (br_t rfl ⟨rc_vY hy, br_f (fun q => z ((rc_ry hy).symm.trans q)) ⟨rfl, rfl, h⟩⟩))))⟩
theorem i_vc_size {k : Nat} {u : SX} {v : SY} (I : i_Rel k u v) (hk : k + 4 ≤ 2048) (v1 : Int32) : wpX_size (fun r => wpY_size (fun r' => r' = r ∧ i_Rel (k + 4) u v) v v1) u v1 := by
  obtain ⟨f, m, t⟩ := u
  obtain ⟨g, a, o⟩ := v
  obtain ⟨e, h⟩ := I
  dsimp only at e h
  have e2 := e.symm
  subst e2
  unfold wpX_size
  dsimp only
  rcases rc_set v1 with ⟨sx, sy⟩ | ⟨s, hs, rfl, sx, sy⟩
  · refine sx _ (br_t rfl ?_)
    unfold wpY_size
    dsimp only
    exact sy _ _ _ _ (br_f rc_10 ⟨rfl, rfl, h⟩)
  · refine sx _ (br_f rc_10 ?_)
    obtain ⟨r, c1, c2⟩ := rc_count h hs
    refine c1 _ g t ?_
    unfold wpY_size
    dsimp only
    exact sy _ _ _ _ (br_t rfl (c2 _ g o ⟨rfl, rfl, h⟩))
theorem i_vc_rank {k : Nat} {u : SX} {v : SY} (I : i_Rel k u v) (hk : k + 4 ≤ 2048) (v1 : Int32) (v2 : Int32) : wpX_rank (fun r => wpY_rank (fun r' => r' = r ∧ i_Rel (k + 4) u v) v v1 v2) u v1 v2 := by
  obtain ⟨f, m, t⟩ := u
  obtain ⟨g, a, o⟩ := v
  obtain ⟨e, h⟩ := I
  dsimp only at e h
  have e2 := e.symm
  subst e2
  unfold wpX_rank
  dsimp only
  rcases rc_set v1 with ⟨sx, sy⟩ | ⟨s, hs, rfl, sx, sy⟩
  · refine sx _ (br_t rfl ?_)
    unfold wpY_rank
    dsimp only
    exact sy _ _ _ _ (br_f rc_10 ⟨rfl, rfl, h⟩)
  · refine sx _ (br_f rc_10 ?_)
    unfold wpX_countBelow wpY_rank
    dsimp only
    by_cases h0 : v2 < 0
    · obtain ⟨r, c1, c2⟩ := rc_cnt h hs 0 (by omega) v2 v2 (fun x hx => absurd hx (Nat.not_lt_zero x)) (by rw [nI_0]; exact Int32.le_of_lt h0) (fun x hx => absurd hx (Nat.not_lt_zero x)) (Or.inr (by rw [nI_0]; exact Int32.le_of_lt h0)) 0 0 rfl 0
      rw [nI_0] at c1 c2
      exact nm_r (rc_bX s) (br_t (Int32.le_trans (Int32.le_of_lt h0) (by decide)) ⟨_, c1 _ g t (sy _ _ _ _ (br_t rfl ⟨_, c2 _ g o ⟨rfl, rfl, h⟩⟩))⟩)
    · obtain ⟨j, hj, rfl⟩ := nI_of h0
      by_cases h5 : j ≤ 512
      · obtain ⟨r, c1, c2⟩ := rc_cnt h hs j h5 (nI j) (nI j) (fun x hx => nI_ge hx hj) (nI_le (Nat.le_refl j) hj) (fun x hx => nI_ge hx hj) (Or.inr (nI_le (Nat.le_refl j) hj)) j 0 (by omega) 0
        rw [nI_0] at c1 c2
        exact nm_r (rc_bX s) (br_t (by rw [← rc_512]; exact nI_le h5 (by decide)) ⟨_, c1 _ g t (sy _ _ _ _ (br_t rfl ⟨_, c2 _ g o ⟨rfl, rfl, h⟩⟩))⟩)
      · obtain ⟨r, c1, c2⟩ := rc_cnt h hs 512 (Nat.le_refl _) 512 (nI j) (fun x hx => rc_lt hx) (rc_ge (Nat.le_refl _) (by decide)) (fun x hx => nI_ge (by omega) hj) (Or.inl rfl) 512 0 (by omega) 0
        rw [nI_0] at c1 c2
        exact nm_r (rc_bX s) (br_f (by rw [← rc_512]; exact nI_ge (by omega) hj) ⟨_, c1 _ g t (sy _ _ _ _ (br_t rfl ⟨_, c2 _ g o ⟨rfl, rfl, h⟩⟩))⟩)
theorem i_vc_select {k : Nat} {u : SX} {v : SY} (I : i_Rel k u v) (hk : k + 4 ≤ 2048) (v1 : Int32) (v2 : Int32) : wpX_select (fun r => wpY_select (fun r' => r' = r ∧ i_Rel (k + 4) u v) v v1 v2) u v1 v2 := by
  obtain ⟨f, m, t⟩ := u
  obtain ⟨g, a, o⟩ := v
  obtain ⟨e, h⟩ := I
  dsimp only at e h
  have e2 := e.symm
  subst e2
  unfold wpX_select
  dsimp only
  rcases rc_set v1 with ⟨sx, sy⟩ | ⟨s, hs, rfl, sx, sy⟩
  · refine sx _ (br_t rfl ?_)
    unfold wpY_select
    dsimp only
    exact sy _ _ _ _ (br_f rc_10 ⟨rfl, rfl, h⟩)
  · refine sx _ (br_f rc_10 ?_)
    unfold wpY_select
    dsimp only
    by_cases h0 : 0 ≤ v2
    · obtain ⟨r, h1, h2⟩ := rc_sel h hs v2 512 0 rfl 0
      rw [nI_0] at h1 h2
      exact br_t h0 (nm_r (rc_bX s) ⟨_, h1 _ g t (sy _ _ _ _ (br_t rfl ⟨_, h2 _ g o ⟨rfl, rfl, h⟩⟩))⟩)
    · have h1 := rc_selN (a := a) hs (Int32.not_le.mp h0) (fun r' => r' = -2 ∧ i_Rel (k + 4) (g, m, t) (g, a, o)) g o ⟨rfl, rfl, h⟩ 512 0 rfl 0 (Nat.le_refl _)
      rw [nI_0] at h1
      exact br_f h0 (sy _ _ _ _ (br_t rfl ⟨_, h1⟩))
theorem i_vc_next {k : Nat} {u : SX} {v : SY} (I : i_Rel k u v) (hk : k + 4 ≤ 2048) (v1 : Int32) (v2 : Int32) : wpX_next (fun r => wpY_next (fun r' => r' = r ∧ i_Rel (k + 4) u v) v v1 v2) u v1 v2 := by
  obtain ⟨f, m, t⟩ := u
  obtain ⟨g, a, o⟩ := v
  obtain ⟨e, h⟩ := I
  dsimp only at e h
  have e2 := e.symm
  subst e2
  unfold wpX_next
  dsimp only
  rcases rc_set v1 with ⟨sx, sy⟩ | ⟨s, hs, rfl, sx, sy⟩
  · refine sx _ (br_t rfl ?_)
    unfold wpY_next
    dsimp only
    exact sy _ _ _ _ (br_f rc_10 ⟨rfl, rfl, h⟩)
  · refine sx _ (br_f rc_10 ?_)
    unfold wpY_next
    dsimp only
    by_cases h0 : 0 ≤ v2
    · obtain ⟨j, hj, rfl⟩ := nI_of (Int32.not_lt.mpr h0)
      by_cases h5 : j < 512
      · obtain ⟨r, h1, h2⟩ := rc_nxt h hs (nI j) (512 - j) j (by omega) (fun y h1 h2 => nI_nlt h1 (by omega))
        have h3 := fun post hp => rc_nxS (s := s) (nI j) j (by omega) (fun y hy => nI_lt hy hj) post g o _ (h2 post g o hp) j 0 (by omega)
        rw [nI_0] at h3
        exact nm_r (rc_bX s) (br_t h0 ⟨_, h1 _ g t (sy _ _ _ _ (br_t rfl ⟨_, h3 _ ⟨rfl, rfl, h⟩⟩))⟩)
      · have h3 := rc_nxS (a := a) (s := s) (nI j) 512 (Nat.le_refl _) (fun y hy => nI_lt (by omega) hj) (fun r' => r' = -2 ∧ i_Rel (k + 4) (g, m, t) (g, a, o)) g o 1 (br_t (rc_ge (Nat.le_refl _) (by decide)) ⟨rfl, rfl, h⟩) 512 0 (by omega)
        rw [nI_0] at h3
        exact nm_r (rc_bX s) (br_t h0 ⟨1, br_t (rc_ge (by omega) hj) (sy _ _ _ _ (br_t rfl ⟨_, h3⟩))⟩)
    · obtain ⟨r, h1, h2⟩ := rc_nxt h hs v2 512 0 rfl (fun y h1 h2 q => h0 (Int32.le_of_lt (Int32.lt_of_le_of_lt (nI_pos' (by omega)) q)))
      rw [nI_0] at h1 h2
      exact nm_r (rc_bX s) (br_f h0 ⟨_, h1 _ g t (sy _ _ _ _ (br_t rfl ⟨_, h2 _ g o ⟨rfl, rfl, h⟩⟩))⟩)
theorem rc_e511 : nI 512 + (-1) = 511 := by decide +kernel
theorem i_vc_previous {k : Nat} {u : SX} {v : SY} (I : i_Rel k u v) (hk : k + 4 ≤ 2048) (v1 : Int32) (v2 : Int32) : wpX_previous (fun r => wpY_previous (fun r' => r' = r ∧ i_Rel (k + 4) u v) v v1 v2) u v1 v2 := by
  obtain ⟨f, m, t⟩ := u
  obtain ⟨g, a, o⟩ := v
  obtain ⟨e, h⟩ := I
  dsimp only at e h
  have e2 := e.symm
  subst e2
  unfold wpX_previous
  dsimp only
  rcases rc_set v1 with ⟨sx, sy⟩ | ⟨s, hs, rfl, sx, sy⟩
  · refine sx _ (br_t rfl ?_)
    unfold wpY_previous
    dsimp only
    exact sy _ _ _ _ (br_f rc_10 ⟨rfl, rfl, h⟩)
  · refine sx _ (br_f rc_10 ?_)
    unfold wpY_previous
    dsimp only
    by_cases h5 : v2 < 512
    · by_cases h0 : v2 < 0
      · have h3 := rc_pvS (a := a) (s := s) v2 0 (fun y _ hy => Int32.lt_of_lt_of_le h0 (nI_pos' (by omega))) (fun r' => r' = -2 ∧ i_Rel (k + 4) (g, m, t) (g, a, o)) g o 1 (br_t rc_neg ⟨rfl, rfl, h⟩) 512 (by omega)
        rw [Nat.zero_add, rc_e511] at h3
        exact nm_r (rc_bX s) (br_t h5 ⟨1, br_t h0 (sy _ _ _ _ (br_t rfl ⟨_, h3⟩))⟩)
      · obtain ⟨j, hj, rfl⟩ := nI_of h0
        have hj5 : j < 512 := by
          rw [← rc_512] at h5
          exact (nI_ltI hj (by decide)).mp h5
        obtain ⟨r, h1, h2⟩ := rc_prv h hs (nI j) (j + 1) (by omega) (fun y hy => nI_nlt (by omega) hj)
        have h3 := fun post hp => rc_pvS (s := s) (nI j) (j + 1) (fun y hy hy5 => nI_lt (by omega) (by omega)) post g o _ (h2 post g o hp) (511 - j) (by omega)
        rw [show j + 1 + (511 - j) = 512 from by omega, rc_e511] at h3
        rw [pk_m1] at h1
        exact nm_r (rc_bX s) (br_t h5 ⟨_, h1 _ g t (sy _ _ _ _ (br_t rfl ⟨_, h3 _ ⟨rfl, rfl, h⟩⟩))⟩)
    · obtain ⟨r, h1, h2⟩ := rc_prv h hs v2 512 (Nat.le_refl _) (fun y hy q => h5 (Int32.lt_trans q (by rw [← rc_512]; exact nI_lt hy (by decide))))
      rw [rc_e511] at h1 h2
      exact nm_r (rc_bX s) (br_f h5 ⟨_, h1 _ g t (sy _ _ _ _ (br_t rfl ⟨_, h2 _ g o ⟨rfl, rfl, h⟩⟩))⟩)
theorem i_vc_gap {k : Nat} {u : SX} {v : SY} (I : i_Rel k u v) (hk : k + 4 ≤ 2048) (v1 : Int32) (v2 : Int32) : wpX_gap (fun r => wpY_gap (fun r' => r' = r ∧ i_Rel (k + 4) u v) v v1 v2) u v1 v2 := by
  obtain ⟨f, m, t⟩ := u
  obtain ⟨g, a, o⟩ := v
  obtain ⟨e, h⟩ := I
  dsimp only at e h
  have e2 := e.symm
  subst e2
  unfold wpX_gap
  dsimp only
  rcases rc_set v1 with ⟨sx, sy⟩ | ⟨s, hs, rfl, sx, sy⟩
  · refine sx _ (br_t rfl ?_)
    unfold wpY_gap
    dsimp only
    exact sy _ _ _ _ (br_f rc_10 ⟨rfl, rfl, h⟩)
  · refine sx _ (br_f rc_10 ?_)
    rcases rc_num v2 with ⟨nx, ny⟩ | ⟨x, hx, rfl, nx, ny⟩
    · refine nx _ (br_t rfl ?_)
      unfold wpY_gap
      dsimp only
      exact sy _ _ _ _ (br_t rfl (ny _ _ _ _ (br_f rc_10 ⟨rfl, rfl, h⟩)))
    · refine nx _ (br_f rc_10 ?_)
      obtain ⟨r, h1, h2⟩ := rc_gap h hs (512 - x) x (by omega)
      unfold wpY_gap
      dsimp only
      exact nm_r (rc_bX s) ⟨_, h1 _ g t (sy _ _ _ _ (br_t rfl (ny _ _ _ _ (br_t rfl ⟨_, h2 _ g o ⟨rfl, rfl, h⟩⟩))))⟩
theorem i_vc_runs {k : Nat} {u : SX} {v : SY} (I : i_Rel k u v) (hk : k + 4 ≤ 2048) (v1 : Int32) : wpX_runs (fun r => wpY_runs (fun r' => r' = r ∧ i_Rel (k + 4) u v) v v1) u v1 := by
  obtain ⟨f, m, t⟩ := u
  obtain ⟨g, a, o⟩ := v
  obtain ⟨e, h⟩ := I
  dsimp only at e h
  have e2 := e.symm
  subst e2
  unfold wpX_runs
  dsimp only
  rcases rc_set v1 with ⟨sx, sy⟩ | ⟨s, hs, rfl, sx, sy⟩
  · refine sx _ (br_t rfl ?_)
    unfold wpY_runs
    dsimp only
    exact sy _ _ _ _ (br_f rc_10 ⟨rfl, rfl, h⟩)
  · refine sx _ (br_f rc_10 ?_)
    obtain ⟨r, h1, h2⟩ := rc_run h hs 512 0 rfl 0 0 (Or.inl ⟨rfl, rfl⟩)
    rw [nI_0] at h1 h2
    unfold wpY_runs
    dsimp only
    exact nm_r (rc_bX s) ⟨_, h1 _ g t (sy _ _ _ _ (br_t rfl ⟨_, h2 _ g o ⟨rfl, rfl, h⟩⟩))⟩
theorem i_vc_common {k : Nat} {u : SX} {v : SY} (I : i_Rel k u v) (hk : k + 4 ≤ 2048) (v1 : Int32) (v2 : Int32) : wpX_common (fun r => wpY_common (fun r' => r' = r ∧ i_Rel (k + 4) u v) v v1 v2) u v1 v2 := by
  obtain ⟨f, m, t⟩ := u
  obtain ⟨g, a, o⟩ := v
  obtain ⟨e, h⟩ := I
  dsimp only at e h
  have e2 := e.symm
  subst e2
  unfold wpX_common
  dsimp only
  rcases rc_set v1 with ⟨sx, sy⟩ | ⟨s, hs, rfl, sx, sy⟩
  · refine sx _ (br_t rfl ?_)
    unfold wpY_common
    dsimp only
    exact sy _ _ _ _ (br_f rc_10 ⟨rfl, rfl, h⟩)
  · refine sx _ (br_f rc_10 ?_)
    rcases rc_set v2 with ⟨qx, qy⟩ | ⟨q, hq, rfl, qx, qy⟩
    · refine qx _ (br_t rfl ?_)
      unfold wpY_common
      dsimp only
      exact sy _ _ _ _ (br_t rfl (qy _ _ _ _ (br_f rc_10 ⟨rfl, rfl, h⟩)))
    · refine qx _ (br_f rc_10 ?_)
      obtain ⟨r, h1, h2⟩ := rc_com h hs hq 512 0 rfl 0
      rw [nI_0] at h1 h2
      unfold wpX_countJoined wpY_common
      dsimp only
      exact nm_r (rc_bX s) (nm_r (rc_bX q) ⟨_, h1 _ g t (sy _ _ _ _ (br_t rfl (qy _ _ _ _ (br_t rfl ⟨_, h2 _ g o ⟨rfl, rfl, h⟩⟩))))⟩)
theorem i_vc_within {k : Nat} {u : SX} {v : SY} (I : i_Rel k u v) (hk : k + 4 ≤ 2048) (v1 : Int32) (v2 : Int32) : wpX_within (fun r => wpY_within (fun r' => r' = r ∧ i_Rel (k + 4) u v) v v1 v2) u v1 v2 := by
  obtain ⟨f, m, t⟩ := u
  obtain ⟨g, a, o⟩ := v
  obtain ⟨e, h⟩ := I
  dsimp only at e h
  have e2 := e.symm
  subst e2
  unfold wpX_within
  dsimp only
  rcases rc_set v1 with ⟨sx, sy⟩ | ⟨s, hs, rfl, sx, sy⟩
  · refine sx _ (br_t rfl ?_)
    unfold wpY_within
    dsimp only
    exact sy _ _ _ _ (br_f rc_10 ⟨rfl, rfl, h⟩)
  · refine sx _ (br_f rc_10 ?_)
    rcases rc_set v2 with ⟨qx, qy⟩ | ⟨q, hq, rfl, qx, qy⟩
    · refine qx _ (br_t rfl ?_)
      unfold wpY_within
      dsimp only
      exact sy _ _ _ _ (br_t rfl (qy _ _ _ _ (br_f rc_10 ⟨rfl, rfl, h⟩)))
    · refine qx _ (br_f rc_10 ?_)
      obtain ⟨r, _, hr, h1, h2⟩ := rc_wit h hs hq 512 0 rfl 0 (by omega)
      rw [nI_0] at h1 h2
      unfold wpX_countJoined wpY_within
      dsimp only
      refine nm_r (rc_bX s) (nm_r (rc_bX q) ⟨_, h1 _ g t ?_⟩)
      by_cases z : r = 0
      · rw [if_pos z] at h2
        exact br_t (by rw [z, nI_0]) (sy _ _ _ _ (br_t rfl (qy _ _ _ _ (br_t rfl ⟨_, h2 _ g o ⟨rfl, rfl, h⟩⟩))))
      · rw [if_neg z] at h2
        exact br_f (nI_ne0 (by omega) (by omega)) (sy _ _ _ _ (br_t rfl (qy _ _ _ _ (br_t rfl ⟨_, h2 _ g o ⟨rfl, rfl, h⟩⟩))))
theorem i_vc_same {k : Nat} {u : SX} {v : SY} (I : i_Rel k u v) (hk : k + 4 ≤ 2048) (v1 : Int32) (v2 : Int32) : wpX_same (fun r => wpY_same (fun r' => r' = r ∧ i_Rel (k + 4) u v) v v1 v2) u v1 v2 := by
  obtain ⟨f, m, t⟩ := u
  obtain ⟨g, a, o⟩ := v
  obtain ⟨e, h⟩ := I
  dsimp only at e h
  have e2 := e.symm
  subst e2
  unfold wpX_same
  dsimp only
  rcases rc_set v1 with ⟨sx, sy⟩ | ⟨s, hs, rfl, sx, sy⟩
  · refine sx _ (br_t rfl ?_)
    unfold wpY_same
    dsimp only
    exact sy _ _ _ _ (br_f rc_10 ⟨rfl, rfl, h⟩)
  · refine sx _ (br_f rc_10 ?_)
    rcases rc_set v2 with ⟨qx, qy⟩ | ⟨q, hq, rfl, qx, qy⟩
    · refine qx _ (br_t rfl ?_)
      unfold wpY_same
      dsimp only
      exact sy _ _ _ _ (br_t rfl (qy _ _ _ _ (br_f rc_10 ⟨rfl, rfl, h⟩)))
    · refine qx _ (br_f rc_10 ?_)
      obtain ⟨r, _, hr, h1, h2⟩ := rc_sam h hs hq 512 0 rfl 0 (by omega)
      rw [nI_0] at h1 h2
      unfold wpX_countJoined wpY_same
      dsimp only
      refine nm_r (rc_bX s) (nm_r (rc_bX q) ⟨_, h1 _ g t ?_⟩)
      by_cases z : r = 0
      · rw [if_pos z] at h2
        exact br_t (by rw [z, nI_0]) (sy _ _ _ _ (br_t rfl (qy _ _ _ _ (br_t rfl ⟨_, h2 _ g o ⟨rfl, rfl, h⟩⟩))))
      · rw [if_neg z] at h2
        exact br_f (nI_ne0 (by omega) (by omega)) (sy _ _ _ _ (br_t rfl (qy _ _ _ _ (br_t rfl ⟨_, h2 _ g o ⟨rfl, rfl, h⟩⟩))))
